section
-- ===== PART A: goes FIRST, ahead of the names: the tables' words, and 'selects' of the private methods out of them =====
/-- a private method of a class that the tables say can be made, by its rows of tables_1 -/
def lw_okq (q : MethodName × Nat) : Prop := (q.1.cls ≠ "java/lang/invoke/MethodHandle" ∧ q.1.cls ≠ "java/lang/invoke/VarHandle") ∧ Cond.instantiable q.1.cls q.2 ∈ tables_1 ∧ Cond.privateMethod q.1 ∈ tables_1 ∧ Cond.instanceMethod q.1 ∈ tables_1
theorem lw_p0 : lw_okq (⟨"StoneWorks", "found", "(I)I"⟩, 8) := ⟨⟨by decide +kernel, by decide +kernel⟩, List.mem_of_getElem? (i := 15) (by decide +kernel), List.mem_of_getElem? (i := 201) (by decide +kernel), List.mem_of_getElem? (i := 202) (by decide +kernel)⟩
theorem lw_p1 : lw_okq (⟨"StoneWorks", "fine", "(I)I"⟩, 8) := ⟨⟨by decide +kernel, by decide +kernel⟩, List.mem_of_getElem? (i := 15) (by decide +kernel), List.mem_of_getElem? (i := 216) (by decide +kernel), List.mem_of_getElem? (i := 217) (by decide +kernel)⟩
theorem lw_p2 : lw_okq (⟨"StoneWorks$Quarry", "admit", "(II)V"⟩, 5) := ⟨⟨by decide +kernel, by decide +kernel⟩, List.mem_of_getElem? (i := 62) (by decide +kernel), List.mem_of_getElem? (i := 383) (by decide +kernel), List.mem_of_getElem? (i := 384) (by decide +kernel)⟩
theorem lw_p3 : lw_okq (⟨"StoneWorks$Quarry", "mostGiven", "()I"⟩, 5) := ⟨⟨by decide +kernel, by decide +kernel⟩, List.mem_of_getElem? (i := 62) (by decide +kernel), List.mem_of_getElem? (i := 391) (by decide +kernel), List.mem_of_getElem? (i := 392) (by decide +kernel)⟩
theorem lw_p4 : lw_okq (⟨"StoneWorks$Quarry", "cutOff", "(I)I"⟩, 5) := ⟨⟨by decide +kernel, by decide +kernel⟩, List.mem_of_getElem? (i := 62) (by decide +kernel), List.mem_of_getElem? (i := 395) (by decide +kernel), List.mem_of_getElem? (i := 396) (by decide +kernel)⟩
theorem lw_p5 : lw_okq (⟨"StoneWorks$Quarry", "isTakenBeyond", "(II)Z"⟩, 5) := ⟨⟨by decide +kernel, by decide +kernel⟩, List.mem_of_getElem? (i := 62) (by decide +kernel), List.mem_of_getElem? (i := 399) (by decide +kernel), List.mem_of_getElem? (i := 400) (by decide +kernel)⟩
theorem lw_p6 : lw_okq (⟨"StoneWorks$Quarry", "mostBetween", "(III)I"⟩, 5) := ⟨⟨by decide +kernel, by decide +kernel⟩, List.mem_of_getElem? (i := 62) (by decide +kernel), List.mem_of_getElem? (i := 406) (by decide +kernel), List.mem_of_getElem? (i := 407) (by decide +kernel)⟩
theorem lw_p7 : lw_okq (⟨"StoneWorks$Pile", "bears", "(II)Z"⟩, 4) := ⟨⟨by decide +kernel, by decide +kernel⟩, List.mem_of_getElem? (i := 84) (by decide +kernel), List.mem_of_getElem? (i := 445) (by decide +kernel), List.mem_of_getElem? (i := 446) (by decide +kernel)⟩
theorem lw_p8 : lw_okq (⟨"StoneWorks", "dayOf", "(IIII)I"⟩, 8) := ⟨⟨by decide +kernel, by decide +kernel⟩, List.mem_of_getElem? (i := 15) (by decide +kernel), List.mem_of_getElem? (i := 482) (by decide +kernel), List.mem_of_getElem? (i := 483) (by decide +kernel)⟩
theorem lw_p9 : lw_okq (⟨"StoneWorks", "readHours", "(III)I"⟩, 8) := ⟨⟨by decide +kernel, by decide +kernel⟩, List.mem_of_getElem? (i := 15) (by decide +kernel), List.mem_of_getElem? (i := 491) (by decide +kernel), List.mem_of_getElem? (i := 492) (by decide +kernel)⟩
theorem lw_p10 : lw_okq (⟨"StoneWorks", "leastDesign", "(III)I"⟩, 8) := ⟨⟨by decide +kernel, by decide +kernel⟩, List.mem_of_getElem? (i := 15) (by decide +kernel), List.mem_of_getElem? (i := 518) (by decide +kernel), List.mem_of_getElem? (i := 519) (by decide +kernel)⟩
theorem lw_p11 : lw_okq (⟨"StoneWorks$Surveys", "join", "(I)V"⟩, 7) := ⟨⟨by decide +kernel, by decide +kernel⟩, List.mem_of_getElem? (i := 120) (by decide +kernel), List.mem_of_getElem? (i := 546) (by decide +kernel), List.mem_of_getElem? (i := 547) (by decide +kernel)⟩
theorem lw_p12 : lw_okq (⟨"StoneWorks$Surveys", "spread", "(II)V"⟩, 7) := ⟨⟨by decide +kernel, by decide +kernel⟩, List.mem_of_getElem? (i := 120) (by decide +kernel), List.mem_of_getElem? (i := 550) (by decide +kernel), List.mem_of_getElem? (i := 551) (by decide +kernel)⟩
theorem lw_p13 : lw_okq (⟨"StoneWorks", "areSpots", "(IIIII)Z"⟩, 8) := ⟨⟨by decide +kernel, by decide +kernel⟩, List.mem_of_getElem? (i := 15) (by decide +kernel), List.mem_of_getElem? (i := 579) (by decide +kernel), List.mem_of_getElem? (i := 580) (by decide +kernel)⟩
theorem lw_p14 : lw_okq (⟨"StoneWorks", "calmest", "(IIIIII)I"⟩, 8) := ⟨⟨by decide +kernel, by decide +kernel⟩, List.mem_of_getElem? (i := 15) (by decide +kernel), List.mem_of_getElem? (i := 583) (by decide +kernel), List.mem_of_getElem? (i := 584) (by decide +kernel)⟩
theorem lw_p15 : lw_okq (⟨"StoneWorks$Asks", "armourWorth", "(I)I"⟩, 3) := ⟨⟨by decide +kernel, by decide +kernel⟩, List.mem_of_getElem? (i := 148) (by decide +kernel), List.mem_of_getElem? (i := 618) (by decide +kernel), List.mem_of_getElem? (i := 619) (by decide +kernel)⟩
def lw_privs_1 : List (MethodName × Nat) := [(⟨"StoneWorks", "found", "(I)I"⟩, 8), (⟨"StoneWorks", "fine", "(I)I"⟩, 8), (⟨"StoneWorks$Quarry", "admit", "(II)V"⟩, 5), (⟨"StoneWorks$Quarry", "mostGiven", "()I"⟩, 5), (⟨"StoneWorks$Quarry", "cutOff", "(I)I"⟩, 5), (⟨"StoneWorks$Quarry", "isTakenBeyond", "(II)Z"⟩, 5), (⟨"StoneWorks$Quarry", "mostBetween", "(III)I"⟩, 5), (⟨"StoneWorks$Pile", "bears", "(II)Z"⟩, 4), (⟨"StoneWorks", "dayOf", "(IIII)I"⟩, 8), (⟨"StoneWorks", "readHours", "(III)I"⟩, 8), (⟨"StoneWorks", "leastDesign", "(III)I"⟩, 8), (⟨"StoneWorks$Surveys", "join", "(I)V"⟩, 7), (⟨"StoneWorks$Surveys", "spread", "(II)V"⟩, 7), (⟨"StoneWorks", "areSpots", "(IIIII)Z"⟩, 8), (⟨"StoneWorks", "calmest", "(IIIIII)I"⟩, 8), (⟨"StoneWorks$Asks", "armourWorth", "(I)I"⟩, 3)]
theorem lw_r1 : ∀ q ∈ lw_privs_1, lw_okq q := List.forall_mem_cons.mpr ⟨lw_p0, List.forall_mem_cons.mpr ⟨lw_p1, List.forall_mem_cons.mpr ⟨lw_p2, List.forall_mem_cons.mpr ⟨lw_p3, List.forall_mem_cons.mpr ⟨lw_p4, List.forall_mem_cons.mpr ⟨lw_p5, List.forall_mem_cons.mpr ⟨lw_p6, List.forall_mem_cons.mpr ⟨lw_p7, List.forall_mem_cons.mpr ⟨lw_p8, List.forall_mem_cons.mpr ⟨lw_p9, List.forall_mem_cons.mpr ⟨lw_p10, List.forall_mem_cons.mpr ⟨lw_p11, List.forall_mem_cons.mpr ⟨lw_p12, List.forall_mem_cons.mpr ⟨lw_p13, List.forall_mem_cons.mpr ⟨lw_p14, List.forall_mem_cons.mpr ⟨lw_p15, fun _ h => absurd h List.not_mem_nil⟩⟩⟩⟩⟩⟩⟩⟩⟩⟩⟩⟩⟩⟩⟩⟩
theorem lw_p16 : lw_okq (⟨"StoneWorks$Asks", "begin", "(I)V"⟩, 3) := ⟨⟨by decide +kernel, by decide +kernel⟩, List.mem_of_getElem? (i := 148) (by decide +kernel), List.mem_of_getElem? (i := 622) (by decide +kernel), List.mem_of_getElem? (i := 623) (by decide +kernel)⟩
theorem lw_p17 : lw_okq (⟨"StoneWorks$Asks", "coverWorth", "(I)I"⟩, 3) := ⟨⟨by decide +kernel, by decide +kernel⟩, List.mem_of_getElem? (i := 148) (by decide +kernel), List.mem_of_getElem? (i := 626) (by decide +kernel), List.mem_of_getElem? (i := 627) (by decide +kernel)⟩
theorem lw_p18 : lw_okq (⟨"StoneWorks$Asks", "lentWorth", "(I)I"⟩, 3) := ⟨⟨by decide +kernel, by decide +kernel⟩, List.mem_of_getElem? (i := 148) (by decide +kernel), List.mem_of_getElem? (i := 630) (by decide +kernel), List.mem_of_getElem? (i := 631) (by decide +kernel)⟩
theorem lw_p19 : lw_okq (⟨"StoneWorks$Asks", "armourMark", "(I)I"⟩, 3) := ⟨⟨by decide +kernel, by decide +kernel⟩, List.mem_of_getElem? (i := 148) (by decide +kernel), List.mem_of_getElem? (i := 636) (by decide +kernel), List.mem_of_getElem? (i := 637) (by decide +kernel)⟩
theorem lw_p20 : lw_okq (⟨"StoneWorks$Asks", "coverMark", "(I)I"⟩, 3) := ⟨⟨by decide +kernel, by decide +kernel⟩, List.mem_of_getElem? (i := 148) (by decide +kernel), List.mem_of_getElem? (i := 640) (by decide +kernel), List.mem_of_getElem? (i := 641) (by decide +kernel)⟩
theorem lw_p21 : lw_okq (⟨"StoneWorks$Asks", "lentMark", "(I)I"⟩, 3) := ⟨⟨by decide +kernel, by decide +kernel⟩, List.mem_of_getElem? (i := 148) (by decide +kernel), List.mem_of_getElem? (i := 644) (by decide +kernel), List.mem_of_getElem? (i := 645) (by decide +kernel)⟩
theorem lw_p22 : lw_okq (⟨"StoneWorks$Asks", "looseWorth", "(I)I"⟩, 3) := ⟨⟨by decide +kernel, by decide +kernel⟩, List.mem_of_getElem? (i := 148) (by decide +kernel), List.mem_of_getElem? (i := 649) (by decide +kernel), List.mem_of_getElem? (i := 650) (by decide +kernel)⟩
theorem lw_p23 : lw_okq (⟨"StoneWorks$Asks", "underMark", "(I)I"⟩, 3) := ⟨⟨by decide +kernel, by decide +kernel⟩, List.mem_of_getElem? (i := 148) (by decide +kernel), List.mem_of_getElem? (i := 657) (by decide +kernel), List.mem_of_getElem? (i := 658) (by decide +kernel)⟩
theorem lw_p24 : lw_okq (⟨"StoneWorksModel", "found", "(I)I"⟩, 21) := ⟨⟨by decide +kernel, by decide +kernel⟩, List.mem_of_getElem? (i := 698) (by decide +kernel), List.mem_of_getElem? (i := 781) (by decide +kernel), List.mem_of_getElem? (i := 782) (by decide +kernel)⟩
theorem lw_p25 : lw_okq (⟨"StoneWorksModel", "isLayer", "(I)Z"⟩, 21) := ⟨⟨by decide +kernel, by decide +kernel⟩, List.mem_of_getElem? (i := 698) (by decide +kernel), List.mem_of_getElem? (i := 817) (by decide +kernel), List.mem_of_getElem? (i := 818) (by decide +kernel)⟩
theorem lw_p26 : lw_okq (⟨"StoneWorksModel", "holds", "(I)Z"⟩, 21) := ⟨⟨by decide +kernel, by decide +kernel⟩, List.mem_of_getElem? (i := 698) (by decide +kernel), List.mem_of_getElem? (i := 825) (by decide +kernel), List.mem_of_getElem? (i := 826) (by decide +kernel)⟩
theorem lw_p27 : lw_okq (⟨"StoneWorksModel", "wideOf", "(II)I"⟩, 21) := ⟨⟨by decide +kernel, by decide +kernel⟩, List.mem_of_getElem? (i := 698) (by decide +kernel), List.mem_of_getElem? (i := 833) (by decide +kernel), List.mem_of_getElem? (i := 834) (by decide +kernel)⟩
theorem lw_p28 : lw_okq (⟨"StoneWorksModel", "lookAt", "(III)I"⟩, 21) := ⟨⟨by decide +kernel, by decide +kernel⟩, List.mem_of_getElem? (i := 698) (by decide +kernel), List.mem_of_getElem? (i := 847) (by decide +kernel), List.mem_of_getElem? (i := 848) (by decide +kernel)⟩
theorem lw_p29 : lw_okq (⟨"StoneWorksModel", "most", "()I"⟩, 21) := ⟨⟨by decide +kernel, by decide +kernel⟩, List.mem_of_getElem? (i := 698) (by decide +kernel), List.mem_of_getElem? (i := 853) (by decide +kernel), List.mem_of_getElem? (i := 854) (by decide +kernel)⟩
theorem lw_p30 : lw_okq (⟨"StoneWorksModel", "findOrder", "(III)V"⟩, 21) := ⟨⟨by decide +kernel, by decide +kernel⟩, List.mem_of_getElem? (i := 698) (by decide +kernel), List.mem_of_getElem? (i := 892) (by decide +kernel), List.mem_of_getElem? (i := 893) (by decide +kernel)⟩
theorem lw_p31 : lw_okq (⟨"StoneWorksModel", "lookStorm", "(III)I"⟩, 21) := ⟨⟨by decide +kernel, by decide +kernel⟩, List.mem_of_getElem? (i := 698) (by decide +kernel), List.mem_of_getElem? (i := 906) (by decide +kernel), List.mem_of_getElem? (i := 907) (by decide +kernel)⟩
def lw_privs_2 : List (MethodName × Nat) := [(⟨"StoneWorks$Asks", "begin", "(I)V"⟩, 3), (⟨"StoneWorks$Asks", "coverWorth", "(I)I"⟩, 3), (⟨"StoneWorks$Asks", "lentWorth", "(I)I"⟩, 3), (⟨"StoneWorks$Asks", "armourMark", "(I)I"⟩, 3), (⟨"StoneWorks$Asks", "coverMark", "(I)I"⟩, 3), (⟨"StoneWorks$Asks", "lentMark", "(I)I"⟩, 3), (⟨"StoneWorks$Asks", "looseWorth", "(I)I"⟩, 3), (⟨"StoneWorks$Asks", "underMark", "(I)I"⟩, 3), (⟨"StoneWorksModel", "found", "(I)I"⟩, 21), (⟨"StoneWorksModel", "isLayer", "(I)Z"⟩, 21), (⟨"StoneWorksModel", "holds", "(I)Z"⟩, 21), (⟨"StoneWorksModel", "wideOf", "(II)I"⟩, 21), (⟨"StoneWorksModel", "lookAt", "(III)I"⟩, 21), (⟨"StoneWorksModel", "most", "()I"⟩, 21), (⟨"StoneWorksModel", "findOrder", "(III)V"⟩, 21), (⟨"StoneWorksModel", "lookStorm", "(III)I"⟩, 21)]
theorem lw_r2 : ∀ q ∈ lw_privs_2, lw_okq q := List.forall_mem_cons.mpr ⟨lw_p16, List.forall_mem_cons.mpr ⟨lw_p17, List.forall_mem_cons.mpr ⟨lw_p18, List.forall_mem_cons.mpr ⟨lw_p19, List.forall_mem_cons.mpr ⟨lw_p20, List.forall_mem_cons.mpr ⟨lw_p21, List.forall_mem_cons.mpr ⟨lw_p22, List.forall_mem_cons.mpr ⟨lw_p23, List.forall_mem_cons.mpr ⟨lw_p24, List.forall_mem_cons.mpr ⟨lw_p25, List.forall_mem_cons.mpr ⟨lw_p26, List.forall_mem_cons.mpr ⟨lw_p27, List.forall_mem_cons.mpr ⟨lw_p28, List.forall_mem_cons.mpr ⟨lw_p29, List.forall_mem_cons.mpr ⟨lw_p30, List.forall_mem_cons.mpr ⟨lw_p31, fun _ h => absurd h List.not_mem_nil⟩⟩⟩⟩⟩⟩⟩⟩⟩⟩⟩⟩⟩⟩⟩⟩
theorem lw_p32 : lw_okq (⟨"StoneWorksModel", "harmBy", "(III)I"⟩, 21) := ⟨⟨by decide +kernel, by decide +kernel⟩, List.mem_of_getElem? (i := 698) (by decide +kernel), List.mem_of_getElem? (i := 914) (by decide +kernel), List.mem_of_getElem? (i := 915) (by decide +kernel)⟩
theorem lw_p33 : lw_okq (⟨"StoneWorksModel", "overBy", "(III)I"⟩, 21) := ⟨⟨by decide +kernel, by decide +kernel⟩, List.mem_of_getElem? (i := 698) (by decide +kernel), List.mem_of_getElem? (i := 918) (by decide +kernel), List.mem_of_getElem? (i := 919) (by decide +kernel)⟩
theorem lw_p34 : lw_okq (⟨"StoneWorksModel", "kindOf", "(I)I"⟩, 21) := ⟨⟨by decide +kernel, by decide +kernel⟩, List.mem_of_getElem? (i := 698) (by decide +kernel), List.mem_of_getElem? (i := 953) (by decide +kernel), List.mem_of_getElem? (i := 954) (by decide +kernel)⟩
theorem lw_p35 : lw_okq (⟨"StoneWorksModel", "worthOf", "(II)I"⟩, 21) := ⟨⟨by decide +kernel, by decide +kernel⟩, List.mem_of_getElem? (i := 698) (by decide +kernel), List.mem_of_getElem? (i := 968) (by decide +kernel), List.mem_of_getElem? (i := 969) (by decide +kernel)⟩
theorem lw_p36 : lw_okq (⟨"StoneWorksModel", "began", "(I)V"⟩, 21) := ⟨⟨by decide +kernel, by decide +kernel⟩, List.mem_of_getElem? (i := 698) (by decide +kernel), List.mem_of_getElem? (i := 972) (by decide +kernel), List.mem_of_getElem? (i := 973) (by decide +kernel)⟩
theorem lw_p37 : lw_okq (⟨"StoneWorksModel", "plainWorth", "(I)I"⟩, 21) := ⟨⟨by decide +kernel, by decide +kernel⟩, List.mem_of_getElem? (i := 698) (by decide +kernel), List.mem_of_getElem? (i := 976) (by decide +kernel), List.mem_of_getElem? (i := 977) (by decide +kernel)⟩
theorem lw_p38 : lw_okq (⟨"StoneWorksModel", "coverMark", "(II)I"⟩, 21) := ⟨⟨by decide +kernel, by decide +kernel⟩, List.mem_of_getElem? (i := 698) (by decide +kernel), List.mem_of_getElem? (i := 980) (by decide +kernel), List.mem_of_getElem? (i := 981) (by decide +kernel)⟩
theorem lw_p39 : lw_okq (⟨"StoneWorksModel", "markOf", "(II)I"⟩, 21) := ⟨⟨by decide +kernel, by decide +kernel⟩, List.mem_of_getElem? (i := 698) (by decide +kernel), List.mem_of_getElem? (i := 984) (by decide +kernel), List.mem_of_getElem? (i := 985) (by decide +kernel)⟩
def lw_privs_3 : List (MethodName × Nat) := [(⟨"StoneWorksModel", "harmBy", "(III)I"⟩, 21), (⟨"StoneWorksModel", "overBy", "(III)I"⟩, 21), (⟨"StoneWorksModel", "kindOf", "(I)I"⟩, 21), (⟨"StoneWorksModel", "worthOf", "(II)I"⟩, 21), (⟨"StoneWorksModel", "began", "(I)V"⟩, 21), (⟨"StoneWorksModel", "plainWorth", "(I)I"⟩, 21), (⟨"StoneWorksModel", "coverMark", "(II)I"⟩, 21), (⟨"StoneWorksModel", "markOf", "(II)I"⟩, 21)]
theorem lw_r3 : ∀ q ∈ lw_privs_3, lw_okq q := List.forall_mem_cons.mpr ⟨lw_p32, List.forall_mem_cons.mpr ⟨lw_p33, List.forall_mem_cons.mpr ⟨lw_p34, List.forall_mem_cons.mpr ⟨lw_p35, List.forall_mem_cons.mpr ⟨lw_p36, List.forall_mem_cons.mpr ⟨lw_p37, List.forall_mem_cons.mpr ⟨lw_p38, List.forall_mem_cons.mpr ⟨lw_p39, fun _ h => absurd h List.not_mem_nil⟩⟩⟩⟩⟩⟩⟩⟩
def lw_privs : List (MethodName × Nat) := lw_privs_1 ++ (lw_privs_2 ++ (lw_privs_3))
def lw_tbl : List Cond := k2_sels lw_privs ++ tables_1
theorem lw_privs_ok : ∀ q ∈ lw_privs, lw_okq q := by
  show ∀ q ∈ lw_privs_1 ++ (lw_privs_2 ++ (lw_privs_3)), lw_okq q
  exact List.forall_mem_append.mpr ⟨lw_r1, List.forall_mem_append.mpr ⟨lw_r2, lw_r3⟩⟩
end
section
def RX0 : String := "StoneWorks$Asks"
def TX0 : u_T := fun k => match k with
  | 0 => ("StoneWorks$Asks", "wall", "LStoneWorks$Wall;", true)
  | 1 => ("StoneWorks$Asks", "trace", "[I", true)
  | _ => ("StoneWorks$Asks", "traced", "I", false)
def tyX0 : Nat → FieldType := fun k => match k with
  | 0 => .object "StoneWorks$Wall"
  | 1 => .array .int
  | _ => .int
theorem nmX0 : ∀ a, a < 3 → ∀ b, b < 3 → a ≠ b → (TX0 a).2.1 ≠ (TX0 b).2.1 := by decide +kernel
theorem tyX0_ok : ∀ k, k < 3 → parseFieldDescriptor (TX0 k).2.2.1 = some (tyX0 k) := by decide +kernel
abbrev cX0_init : ByteArray := prog_2_method_1_code
def yX0_init : MethodName := ⟨RX0, "<init>", "(LStoneWorks$Wall;)V"⟩
abbrev cX0_forget : ByteArray := prog_2_method_2_code
def yX0_forget : MethodName := ⟨RX0, "forget", "()V"⟩
abbrev cX0_traced : ByteArray := prog_2_method_3_code
def yX0_traced : MethodName := ⟨RX0, "traced", "(I)I"⟩
abbrev cX0_begin : ByteArray := prog_2_method_4_code
def yX0_begin : MethodName := ⟨RX0, "begin", "(I)V"⟩
abbrev cX0_worth : ByteArray := prog_2_method_5_code
def yX0_worth : MethodName := ⟨RX0, "worth", "(I)I"⟩
abbrev cX0_mark : ByteArray := prog_2_method_6_code
def yX0_mark : MethodName := ⟨RX0, "mark", "(I)I"⟩
abbrev cX0_lentWorth : ByteArray := prog_2_method_7_code
def yX0_lentWorth : MethodName := ⟨RX0, "lentWorth", "(I)I"⟩
abbrev cX0_coverWorth : ByteArray := prog_2_method_8_code
def yX0_coverWorth : MethodName := ⟨RX0, "coverWorth", "(I)I"⟩
abbrev cX0_armourWorth : ByteArray := prog_2_method_9_code
def yX0_armourWorth : MethodName := ⟨RX0, "armourWorth", "(I)I"⟩
abbrev cX0_looseWorth : ByteArray := prog_2_method_10_code
def yX0_looseWorth : MethodName := ⟨RX0, "looseWorth", "(I)I"⟩
abbrev cX0_lentMark : ByteArray := prog_2_method_11_code
def yX0_lentMark : MethodName := ⟨RX0, "lentMark", "(I)I"⟩
abbrev cX0_coverMark : ByteArray := prog_2_method_12_code
def yX0_coverMark : MethodName := ⟨RX0, "coverMark", "(I)I"⟩
abbrev cX0_armourMark : ByteArray := prog_2_method_13_code
def yX0_armourMark : MethodName := ⟨RX0, "armourMark", "(I)I"⟩
abbrev cX0_underMark : ByteArray := prog_2_method_14_code
def yX0_underMark : MethodName := ⟨RX0, "underMark", "(I)I"⟩
def RX1 : String := "StoneWorks$Harbour"
def TX1 : u_T := fun k => match k with
  | _ => ("", "", "", false)
def tyX1 : Nat → FieldType := fun k => match k with
  | _ => .int
theorem nmX1 : ∀ a, a < 0 → ∀ b, b < 0 → a ≠ b → (TX1 a).2.1 ≠ (TX1 b).2.1 := by decide +kernel
theorem tyX1_ok : ∀ k, k < 0 → parseFieldDescriptor (TX1 k).2.2.1 = some (tyX1 k) := by decide +kernel
abbrev cX1_isOne : ByteArray := prog_3_method_2_code
def yX1_isOne : MethodName := ⟨RX1, "isOne", "(III)Z"⟩
abbrev cX1_comesTo : ByteArray := prog_3_method_3_code
def yX1_comesTo : MethodName := ⟨RX1, "comesTo", "(IIIIIII)J"⟩
abbrev cX1_bounced : ByteArray := prog_3_method_4_code
def yX1_bounced : MethodName := ⟨RX1, "bounced", "(III)I"⟩
def RX2 : String := "StoneWorks$Hours"
def TX2 : u_T := fun k => match k with
  | 0 => ("StoneWorks$Hours", "waves", "[I", true)
  | 1 => ("StoneWorks$Hours", "levels", "[I", true)
  | _ => ("StoneWorks$Hours", "hours", "I", false)
def tyX2 : Nat → FieldType := fun k => match k with
  | 0 => .array .int
  | 1 => .array .int
  | _ => .int
theorem nmX2 : ∀ a, a < 3 → ∀ b, b < 3 → a ≠ b → (TX2 a).2.1 ≠ (TX2 b).2.1 := by decide +kernel
theorem tyX2_ok : ∀ k, k < 3 → parseFieldDescriptor (TX2 k).2.2.1 = some (tyX2 k) := by decide +kernel
abbrev cX2_init : ByteArray := prog_4_method_1_code
def yX2_init : MethodName := ⟨RX2, "<init>", "()V"⟩
abbrev cX2_read : ByteArray := prog_4_method_2_code
def yX2_read : MethodName := ⟨RX2, "read", "(LStoneWorks$Sheets;III)Z"⟩
abbrev cX2_harm : ByteArray := prog_4_method_3_code
def yX2_harm : MethodName := ⟨RX2, "harm", "(II)I"⟩
abbrev cX2_over : ByteArray := prog_4_method_4_code
def yX2_over : MethodName := ⟨RX2, "over", "(I)I"⟩
abbrev cX2_leastCrest : ByteArray := prog_4_method_5_code
def yX2_leastCrest : MethodName := ⟨RX2, "leastCrest", "(I)I"⟩
abbrev cX2_leastBlockSize : ByteArray := prog_4_method_6_code
def yX2_leastBlockSize : MethodName := ⟨RX2, "leastBlockSize", "(II)I"⟩
def RX3 : String := "StoneWorks$Pile"
def TX3 : u_T := fun k => match k with
  | 0 => ("StoneWorks$Pile", "lies", "[Z", true)
  | 1 => ("StoneWorks$Pile", "stands", "[Z", true)
  | 2 => ("StoneWorks$Pile", "turns", "[I", true)
  | _ => ("StoneWorks$Pile", "blocks", "I", false)
def tyX3 : Nat → FieldType := fun k => match k with
  | 0 => .array .boolean
  | 1 => .array .boolean
  | 2 => .array .int
  | _ => .int
theorem nmX3 : ∀ a, a < 4 → ∀ b, b < 4 → a ≠ b → (TX3 a).2.1 ≠ (TX3 b).2.1 := by decide +kernel
theorem tyX3_ok : ∀ k, k < 4 → parseFieldDescriptor (TX3 k).2.2.1 = some (tyX3 k) := by decide +kernel
abbrev cX3_init : ByteArray := prog_5_method_1_code
def yX3_init : MethodName := ⟨RX3, "<init>", "()V"⟩
abbrev cX3_isPlace : ByteArray := prog_5_method_2_code
def yX3_isPlace : MethodName := ⟨RX3, "isPlace", "(II)Z"⟩
abbrev cX3_at : ByteArray := prog_5_method_3_code
def yX3_at : MethodName := ⟨RX3, "at", "(II)I"⟩
abbrev cX3_isNear : ByteArray := prog_5_method_4_code
def yX3_isNear : MethodName := ⟨RX3, "isNear", "(IIII)Z"⟩
abbrev cX3_allPlaces : ByteArray := prog_5_method_5_code
def yX3_allPlaces : MethodName := ⟨RX3, "allPlaces", "()I"⟩
abbrev cX3_blocks : ByteArray := prog_5_method_6_code
def yX3_blocks : MethodName := ⟨RX3, "blocks", "()I"⟩
abbrev cX3_add : ByteArray := prog_5_method_7_code
def yX3_add : MethodName := ⟨RX3, "add", "(II)Z"⟩
abbrev cX3_take : ByteArray := prog_5_method_8_code
def yX3_take : MethodName := ⟨RX3, "take", "(II)Z"⟩
abbrev cX3_bears : ByteArray := prog_5_method_9_code
def yX3_bears : MethodName := ⟨RX3, "bears", "(II)Z"⟩
abbrev cX3_isBorne : ByteArray := prog_5_method_10_code
def yX3_isBorne : MethodName := ⟨RX3, "isBorne", "([ZII)Z"⟩
abbrev cX3_putInTurn : ByteArray := prog_5_method_11_code
def yX3_putInTurn : MethodName := ⟨RX3, "putInTurn", "(III)I"⟩
abbrev cX3_turnOf : ByteArray := prog_5_method_12_code
def yX3_turnOf : MethodName := ⟨RX3, "turnOf", "(II)I"⟩
def RX4 : String := "StoneWorks$Quarry"
def TX4 : u_T := fun k => match k with
  | 0 => ("StoneWorks$Quarry", "yields", "[I", true)
  | 1 => ("StoneWorks$Quarry", "needs", "[I", true)
  | 2 => ("StoneWorks$Quarry", "takers", "[I", true)
  | 3 => ("StoneWorks$Quarry", "given", "[I", true)
  | _ => ("StoneWorks$Quarry", "waste", "I", false)
def tyX4 : Nat → FieldType := fun k => match k with
  | 0 => .array .int
  | 1 => .array .int
  | 2 => .array .int
  | 3 => .array .int
  | _ => .int
theorem nmX4 : ∀ a, a < 5 → ∀ b, b < 5 → a ≠ b → (TX4 a).2.1 ≠ (TX4 b).2.1 := by decide +kernel
theorem tyX4_ok : ∀ k, k < 5 → parseFieldDescriptor (TX4 k).2.2.1 = some (tyX4 k) := by decide +kernel
abbrev cX4_init : ByteArray := prog_6_method_1_code
def yX4_init : MethodName := ⟨RX4, "<init>", "()V"⟩
abbrev cX4_read : ByteArray := prog_6_method_2_code
def yX4_read : MethodName := ⟨RX4, "read", "(LStoneWorks$Sheets;II)Z"⟩
abbrev cX4_admit : ByteArray := prog_6_method_3_code
def yX4_admit : MethodName := ⟨RX4, "admit", "(II)V"⟩
abbrev cX4_share : ByteArray := prog_6_method_4_code
def yX4_share : MethodName := ⟨RX4, "share", "()V"⟩
abbrev cX4_waste : ByteArray := prog_6_method_5_code
def yX4_waste : MethodName := ⟨RX4, "waste", "()I"⟩
abbrev cX4_given : ByteArray := prog_6_method_6_code
def yX4_given : MethodName := ⟨RX4, "given", "(II)I"⟩
abbrev cX4_mostGiven : ByteArray := prog_6_method_7_code
def yX4_mostGiven : MethodName := ⟨RX4, "mostGiven", "()I"⟩
abbrev cX4_cutOff : ByteArray := prog_6_method_8_code
def yX4_cutOff : MethodName := ⟨RX4, "cutOff", "(I)I"⟩
abbrev cX4_isTakenBeyond : ByteArray := prog_6_method_9_code
def yX4_isTakenBeyond : MethodName := ⟨RX4, "isTakenBeyond", "(II)Z"⟩
abbrev cX4_mostBetween : ByteArray := prog_6_method_10_code
def yX4_mostBetween : MethodName := ⟨RX4, "mostBetween", "(III)I"⟩
def RX5 : String := "StoneWorks$Sheets"
def TX5 : u_T := fun k => match k with
  | 0 => ("StoneWorks$Sheets", "items", "[I", true)
  | 1 => ("StoneWorks$Sheets", "lanes", "[I", true)
  | _ => ("StoneWorks$Sheets", "sizes", "[I", true)
def tyX5 : Nat → FieldType := fun k => match k with
  | 0 => .array .int
  | 1 => .array .int
  | _ => .array .int
theorem nmX5 : ∀ a, a < 3 → ∀ b, b < 3 → a ≠ b → (TX5 a).2.1 ≠ (TX5 b).2.1 := by decide +kernel
theorem tyX5_ok : ∀ k, k < 3 → parseFieldDescriptor (TX5 k).2.2.1 = some (tyX5 k) := by decide +kernel
abbrev cX5_init : ByteArray := prog_7_method_1_code
def yX5_init : MethodName := ⟨RX5, "<init>", "()V"⟩
abbrev cX5_isNumber : ByteArray := prog_7_method_2_code
def yX5_isNumber : MethodName := ⟨RX5, "isNumber", "(I)Z"⟩
abbrev cX5_isMissing : ByteArray := prog_7_method_3_code
def yX5_isMissing : MethodName := ⟨RX5, "isMissing", "(I)Z"⟩
abbrev cX5_areOfOneLane : ByteArray := prog_7_method_4_code
def yX5_areOfOneLane : MethodName := ⟨RX5, "areOfOneLane", "(II)Z"⟩
abbrev cX5_hasItems : ByteArray := prog_7_method_5_code
def yX5_hasItems : MethodName := ⟨RX5, "hasItems", "(III)Z"⟩
abbrev cX5_findingAt : ByteArray := prog_7_method_6_code
def yX5_findingAt : MethodName := ⟨RX5, "findingAt", "(III)I"⟩
abbrev cX5_make : ByteArray := prog_7_method_7_code
def yX5_make : MethodName := ⟨RX5, "make", "(III)V"⟩
abbrev cX5_remove : ByteArray := prog_7_method_8_code
def yX5_remove : MethodName := ⟨RX5, "remove", "(I)I"⟩
abbrev cX5_item : ByteArray := prog_7_method_9_code
def yX5_item : MethodName := ⟨RX5, "item", "(II)I"⟩
abbrev cX5_put : ByteArray := prog_7_method_10_code
def yX5_put : MethodName := ⟨RX5, "put", "(III)I"⟩
abbrev cX5_cutToLane : ByteArray := prog_7_method_11_code
def yX5_cutToLane : MethodName := ⟨RX5, "cutToLane", "(II)I"⟩
abbrev cX5_move : ByteArray := prog_7_method_12_code
def yX5_move : MethodName := ⟨RX5, "move", "(IIIII)V"⟩
abbrev cX5_areWithin : ByteArray := prog_7_method_13_code
def yX5_areWithin : MethodName := ⟨RX5, "areWithin", "(IIII)Z"⟩
abbrev cX5_present : ByteArray := prog_7_method_14_code
def yX5_present : MethodName := ⟨RX5, "present", "()I"⟩
def RX6 : String := "StoneWorks$Surveys"
def TX6 : u_T := fun k => match k with
  | 0 => ("StoneWorks$Surveys", "isLost", "[Z", true)
  | 1 => ("StoneWorks$Surveys", "patch", "[I", true)
  | 2 => ("StoneWorks$Surveys", "filled", "I", false)
  | 3 => ("StoneWorks$Surveys", "lost", "I", false)
  | 4 => ("StoneWorks$Surveys", "heaped", "I", false)
  | 5 => ("StoneWorks$Surveys", "patches", "I", false)
  | _ => ("StoneWorks$Surveys", "largest", "I", false)
def tyX6 : Nat → FieldType := fun k => match k with
  | 0 => .array .boolean
  | 1 => .array .int
  | 2 => .int
  | 3 => .int
  | 4 => .int
  | 5 => .int
  | _ => .int
theorem nmX6 : ∀ a, a < 7 → ∀ b, b < 7 → a ≠ b → (TX6 a).2.1 ≠ (TX6 b).2.1 := by decide +kernel
theorem tyX6_ok : ∀ k, k < 7 → parseFieldDescriptor (TX6 k).2.2.1 = some (tyX6 k) := by decide +kernel
abbrev cX6_init : ByteArray := prog_8_method_1_code
def yX6_init : MethodName := ⟨RX6, "<init>", "()V"⟩
abbrev cX6_result : ByteArray := prog_8_method_2_code
def yX6_result : MethodName := ⟨RX6, "result", "(I)I"⟩
abbrev cX6_compare : ByteArray := prog_8_method_3_code
def yX6_compare : MethodName := ⟨RX6, "compare", "(LStoneWorks$Sheets;IIII)V"⟩
abbrev cX6_gather : ByteArray := prog_8_method_4_code
def yX6_gather : MethodName := ⟨RX6, "gather", "(II)V"⟩
abbrev cX6_spread : ByteArray := prog_8_method_5_code
def yX6_spread : MethodName := ⟨RX6, "spread", "(II)V"⟩
abbrev cX6_join : ByteArray := prog_8_method_6_code
def yX6_join : MethodName := ⟨RX6, "join", "(I)V"⟩
def RX7 : String := "StoneWorks$Wall"
def TX7 : u_T := fun k => match k with
  | 0 => ("StoneWorks$Wall", "measures", "[I", true)
  | 1 => ("StoneWorks$Wall", "thicks", "[I", true)
  | 2 => ("StoneWorks$Wall", "weights", "[I", true)
  | _ => ("StoneWorks$Wall", "layers", "I", false)
def tyX7 : Nat → FieldType := fun k => match k with
  | 0 => .array .int
  | 1 => .array .int
  | 2 => .array .int
  | _ => .int
theorem nmX7 : ∀ a, a < 4 → ∀ b, b < 4 → a ≠ b → (TX7 a).2.1 ≠ (TX7 b).2.1 := by decide +kernel
theorem tyX7_ok : ∀ k, k < 4 → parseFieldDescriptor (TX7 k).2.2.1 = some (tyX7 k) := by decide +kernel
abbrev cX7_init : ByteArray := prog_9_method_1_code
def yX7_init : MethodName := ⟨RX7, "<init>", "()V"⟩
abbrev cX7_isMeasure : ByteArray := prog_9_method_2_code
def yX7_isMeasure : MethodName := ⟨RX7, "isMeasure", "(I)Z"⟩
abbrev cX7_mayMeasure : ByteArray := prog_9_method_3_code
def yX7_mayMeasure : MethodName := ⟨RX7, "mayMeasure", "(II)Z"⟩
abbrev cX7_mayBeLayer : ByteArray := prog_9_method_4_code
def yX7_mayBeLayer : MethodName := ⟨RX7, "mayBeLayer", "(II)Z"⟩
abbrev cX7_measure : ByteArray := prog_9_method_5_code
def yX7_measure : MethodName := ⟨RX7, "measure", "(I)I"⟩
abbrev cX7_change : ByteArray := prog_9_method_6_code
def yX7_change : MethodName := ⟨RX7, "change", "(II)I"⟩
abbrev cX7_layers : ByteArray := prog_9_method_7_code
def yX7_layers : MethodName := ⟨RX7, "layers", "()I"⟩
abbrev cX7_hasLayer : ByteArray := prog_9_method_8_code
def yX7_hasLayer : MethodName := ⟨RX7, "hasLayer", "(I)Z"⟩
abbrev cX7_isFull : ByteArray := prog_9_method_9_code
def yX7_isFull : MethodName := ⟨RX7, "isFull", "()Z"⟩
abbrev cX7_addLayer : ByteArray := prog_9_method_10_code
def yX7_addLayer : MethodName := ⟨RX7, "addLayer", "(II)I"⟩
abbrev cX7_putLayer : ByteArray := prog_9_method_11_code
def yX7_putLayer : MethodName := ⟨RX7, "putLayer", "(III)V"⟩
abbrev cX7_thickOf : ByteArray := prog_9_method_12_code
def yX7_thickOf : MethodName := ⟨RX7, "thickOf", "(I)I"⟩
abbrev cX7_weightOf : ByteArray := prog_9_method_13_code
def yX7_weightOf : MethodName := ⟨RX7, "weightOf", "(I)I"⟩
abbrev cX7_widthWithout : ByteArray := prog_9_method_14_code
def yX7_widthWithout : MethodName := ⟨RX7, "widthWithout", "(II)I"⟩
abbrev cX7_volumeOf : ByteArray := prog_9_method_15_code
def yX7_volumeOf : MethodName := ⟨RX7, "volumeOf", "(I)I"⟩
abbrev cX7_wholeVolume : ByteArray := prog_9_method_16_code
def yX7_wholeVolume : MethodName := ⟨RX7, "wholeVolume", "()I"⟩
abbrev cX7_holds : ByteArray := prog_9_method_17_code
def yX7_holds : MethodName := ⟨RX7, "holds", "(I)Z"⟩
abbrev cX7_kindOf : ByteArray := prog_9_method_18_code
def yX7_kindOf : MethodName := ⟨RX7, "kindOf", "(I)I"⟩
abbrev cX7_isOfKind : ByteArray := prog_9_method_19_code
def yX7_isOfKind : MethodName := ⟨RX7, "isOfKind", "(II)Z"⟩
abbrev cX7_holding : ByteArray := prog_9_method_20_code
def yX7_holding : MethodName := ⟨RX7, "holding", "()I"⟩
abbrev cX7_loose : ByteArray := prog_9_method_21_code
def yX7_loose : MethodName := ⟨RX7, "loose", "()I"⟩
abbrev cX7_blockSize : ByteArray := prog_9_method_22_code
def yX7_blockSize : MethodName := ⟨RX7, "blockSize", "()I"⟩
def RX8 : String := "StoneWorks"
def TX8 : u_T := fun k => match k with
  | 0 => ("StoneWorks", "sheets", "LStoneWorks$Sheets;", true)
  | 1 => ("StoneWorks", "wall", "LStoneWorks$Wall;", true)
  | 2 => ("StoneWorks", "quarry", "LStoneWorks$Quarry;", true)
  | 3 => ("StoneWorks", "pile", "LStoneWorks$Pile;", true)
  | 4 => ("StoneWorks", "hours", "LStoneWorks$Hours;", true)
  | 5 => ("StoneWorks", "surveys", "LStoneWorks$Surveys;", true)
  | 6 => ("StoneWorks", "asks", "LStoneWorks$Asks;", true)
  | _ => ("StoneWorks", "status", "I", false)
def tyX8 : Nat → FieldType := fun k => match k with
  | 0 => .object "StoneWorks$Sheets"
  | 1 => .object "StoneWorks$Wall"
  | 2 => .object "StoneWorks$Quarry"
  | 3 => .object "StoneWorks$Pile"
  | 4 => .object "StoneWorks$Hours"
  | 5 => .object "StoneWorks$Surveys"
  | 6 => .object "StoneWorks$Asks"
  | _ => .int
theorem nmX8 : ∀ a, a < 8 → ∀ b, b < 8 → a ≠ b → (TX8 a).2.1 ≠ (TX8 b).2.1 := by decide +kernel
theorem tyX8_ok : ∀ k, k < 8 → parseFieldDescriptor (TX8 k).2.2.1 = some (tyX8 k) := by decide +kernel
abbrev cX8_init : ByteArray := prog_1_method_1_code
def yX8_init : MethodName := ⟨RX8, "<init>", "()V"⟩
abbrev cX8_sheet : ByteArray := prog_1_method_2_code
def yX8_sheet : MethodName := ⟨RX8, "sheet", "(III)I"⟩
abbrev cX8_set : ByteArray := prog_1_method_3_code
def yX8_set : MethodName := ⟨RX8, "set", "(III)I"⟩
abbrev cX8_copy : ByteArray := prog_1_method_4_code
def yX8_copy : MethodName := ⟨RX8, "copy", "(IIIII)I"⟩
abbrev cX8_drop : ByteArray := prog_1_method_5_code
def yX8_drop : MethodName := ⟨RX8, "drop", "(I)I"⟩
abbrev cX8_wall : ByteArray := prog_1_method_6_code
def yX8_wall : MethodName := ⟨RX8, "wall", "(II)I"⟩
abbrev cX8_layer : ByteArray := prog_1_method_7_code
def yX8_layer : MethodName := ⟨RX8, "layer", "(II)I"⟩
abbrev cX8_relay : ByteArray := prog_1_method_8_code
def yX8_relay : MethodName := ⟨RX8, "relay", "(III)I"⟩
abbrev cX8_told : ByteArray := prog_1_method_9_code
def yX8_told : MethodName := ⟨RX8, "told", "(II)I"⟩
abbrev cX8_wide : ByteArray := prog_1_method_10_code
def yX8_wide : MethodName := ⟨RX8, "wide", "(II)I"⟩
abbrev cX8_volume : ByteArray := prog_1_method_11_code
def yX8_volume : MethodName := ⟨RX8, "volume", "(I)I"⟩
abbrev cX8_shared : ByteArray := prog_1_method_12_code
def yX8_shared : MethodName := ⟨RX8, "shared", "(IIII)I"⟩
abbrev cX8_lay : ByteArray := prog_1_method_13_code
def yX8_lay : MethodName := ⟨RX8, "lay", "(II)I"⟩
abbrev cX8_lift : ByteArray := prog_1_method_14_code
def yX8_lift : MethodName := ⟨RX8, "lift", "(II)I"⟩
abbrev cX8_reaches : ByteArray := prog_1_method_15_code
def yX8_reaches : MethodName := ⟨RX8, "reaches", "(IIII)I"⟩
abbrev cX8_order : ByteArray := prog_1_method_16_code
def yX8_order : MethodName := ⟨RX8, "order", "(III)I"⟩
abbrev cX8_planned : ByteArray := prog_1_method_17_code
def yX8_planned : MethodName := ⟨RX8, "planned", "(IIIIIIII)I"⟩
abbrev cX8_dayOf : ByteArray := prog_1_method_18_code
def yX8_dayOf : MethodName := ⟨RX8, "dayOf", "(IIII)I"⟩
abbrev cX8_isCrane : ByteArray := prog_1_method_19_code
def yX8_isCrane : MethodName := ⟨RX8, "isCrane", "(II)Z"⟩
abbrev cX8_storm : ByteArray := prog_1_method_20_code
def yX8_storm : MethodName := ⟨RX8, "storm", "(IIII)I"⟩
abbrev cX8_design : ByteArray := prog_1_method_21_code
def yX8_design : MethodName := ⟨RX8, "design", "(IIIIII)I"⟩
abbrev cX8_readHours : ByteArray := prog_1_method_22_code
def yX8_readHours : MethodName := ⟨RX8, "readHours", "(III)I"⟩
abbrev cX8_leastDesign : ByteArray := prog_1_method_23_code
def yX8_leastDesign : MethodName := ⟨RX8, "leastDesign", "(III)I"⟩
abbrev cX8_survey : ByteArray := prog_1_method_24_code
def yX8_survey : MethodName := ⟨RX8, "survey", "(IIIIII)I"⟩
abbrev cX8_wave : ByteArray := prog_1_method_25_code
def yX8_wave : MethodName := ⟨RX8, "wave", "(IIIIIII)J"⟩
abbrev cX8_calm : ByteArray := prog_1_method_26_code
def yX8_calm : MethodName := ⟨RX8, "calm", "(IIIIII)I"⟩
abbrev cX8_areSpots : ByteArray := prog_1_method_27_code
def yX8_areSpots : MethodName := ⟨RX8, "areSpots", "(IIIII)Z"⟩
abbrev cX8_calmest : ByteArray := prog_1_method_28_code
def yX8_calmest : MethodName := ⟨RX8, "calmest", "(IIIIII)I"⟩
abbrev cX8_kind : ByteArray := prog_1_method_29_code
def yX8_kind : MethodName := ⟨RX8, "kind", "(I)I"⟩
abbrev cX8_as : ByteArray := prog_1_method_30_code
def yX8_as : MethodName := ⟨RX8, "as", "(II)I"⟩
abbrev cX8_ask : ByteArray := prog_1_method_31_code
def yX8_ask : MethodName := ⟨RX8, "ask", "(II)I"⟩
abbrev cX8_trace : ByteArray := prog_1_method_32_code
def yX8_trace : MethodName := ⟨RX8, "trace", "(I)I"⟩
abbrev cX8_count : ByteArray := prog_1_method_33_code
def yX8_count : MethodName := ⟨RX8, "count", "(I)I"⟩
abbrev cX8_status : ByteArray := prog_1_method_34_code
def yX8_status : MethodName := ⟨RX8, "status", "()I"⟩
abbrev cX8_found : ByteArray := prog_1_method_35_code
def yX8_found : MethodName := ⟨RX8, "found", "(I)I"⟩
abbrev cX8_fine : ByteArray := prog_1_method_36_code
def yX8_fine : MethodName := ⟨RX8, "fine", "(I)I"⟩
abbrev cX8_within : ByteArray := prog_1_method_37_code
def yX8_within : MethodName := ⟨RX8, "within", "(III)Z"⟩
def RX9 : String := "StoneWorksModel"
def TX9 : u_T := fun k => match k with
  | 0 => ("StoneWorksModel", "thrown", "I", false)
  | 1 => ("StoneWorksModel", "status", "I", false)
  | 2 => ("StoneWorksModel", "lane", "[I", true)
  | 3 => ("StoneWorksModel", "many", "[I", true)
  | 4 => ("StoneWorksModel", "item", "[I", true)
  | 5 => ("StoneWorksModel", "wall", "[I", true)
  | 6 => ("StoneWorksModel", "layers", "I", false)
  | 7 => ("StoneWorksModel", "thick", "[I", true)
  | 8 => ("StoneWorksModel", "weight", "[I", true)
  | 9 => ("StoneWorksModel", "has", "[I", true)
  | 10 => ("StoneWorksModel", "needs", "[I", true)
  | 11 => ("StoneWorksModel", "isOpen", "[Z", true)
  | 12 => ("StoneWorksModel", "gives", "[I", true)
  | 13 => ("StoneWorksModel", "row", "[I", true)
  | 14 => ("StoneWorksModel", "ordered", "I", false)
  | 15 => ("StoneWorksModel", "orderRow", "[I", true)
  | 16 => ("StoneWorksModel", "orderPlace", "[I", true)
  | 17 => ("StoneWorksModel", "then", "[I", true)
  | 18 => ("StoneWorksModel", "patch", "[I", true)
  | 19 => ("StoneWorksModel", "trace", "[I", true)
  | _ => ("StoneWorksModel", "traced", "I", false)
def tyX9 : Nat → FieldType := fun k => match k with
  | 0 => .int
  | 1 => .int
  | 2 => .array .int
  | 3 => .array .int
  | 4 => .array .int
  | 5 => .array .int
  | 6 => .int
  | 7 => .array .int
  | 8 => .array .int
  | 9 => .array .int
  | 10 => .array .int
  | 11 => .array .boolean
  | 12 => .array .int
  | 13 => .array .int
  | 14 => .int
  | 15 => .array .int
  | 16 => .array .int
  | 17 => .array .int
  | 18 => .array .int
  | 19 => .array .int
  | _ => .int
theorem nmX9 : ∀ a, a < 21 → ∀ b, b < 21 → a ≠ b → (TX9 a).2.1 ≠ (TX9 b).2.1 := by decide +kernel
theorem tyX9_ok : ∀ k, k < 21 → parseFieldDescriptor (TX9 k).2.2.1 = some (tyX9 k) := by decide +kernel
abbrev cX9_init : ByteArray := prog_11_method_1_code
def yX9_init : MethodName := ⟨RX9, "<init>", "()V"⟩
abbrev cX9_in : ByteArray := prog_11_method_3_code
def yX9_in : MethodName := ⟨RX9, "in", "(JJJ)Z"⟩
abbrev cX9_found : ByteArray := prog_11_method_4_code
def yX9_found : MethodName := ⟨RX9, "found", "(I)I"⟩
abbrev cX9_isSheet : ByteArray := prog_11_method_5_code
def yX9_isSheet : MethodName := ⟨RX9, "isSheet", "(I)Z"⟩
abbrev cX9_sheet : ByteArray := prog_11_method_6_code
def yX9_sheet : MethodName := ⟨RX9, "sheet", "(III)I"⟩
abbrev cX9_set : ByteArray := prog_11_method_7_code
def yX9_set : MethodName := ⟨RX9, "set", "(III)I"⟩
abbrev cX9_copy : ByteArray := prog_11_method_8_code
def yX9_copy : MethodName := ⟨RX9, "copy", "(IIIII)I"⟩
abbrev cX9_drop : ByteArray := prog_11_method_9_code
def yX9_drop : MethodName := ⟨RX9, "drop", "(I)I"⟩
abbrev cX9_lookAt : ByteArray := prog_11_method_10_code
def yX9_lookAt : MethodName := ⟨RX9, "lookAt", "(III)I"⟩
abbrev cX9_wall : ByteArray := prog_11_method_11_code
def yX9_wall : MethodName := ⟨RX9, "wall", "(II)I"⟩
abbrev cX9_isLaid : ByteArray := prog_11_method_12_code
def yX9_isLaid : MethodName := ⟨RX9, "isLaid", "(II)Z"⟩
abbrev cX9_isLayer : ByteArray := prog_11_method_13_code
def yX9_isLayer : MethodName := ⟨RX9, "isLayer", "(I)Z"⟩
abbrev cX9_layer : ByteArray := prog_11_method_14_code
def yX9_layer : MethodName := ⟨RX9, "layer", "(II)I"⟩
abbrev cX9_relay : ByteArray := prog_11_method_15_code
def yX9_relay : MethodName := ⟨RX9, "relay", "(III)I"⟩
abbrev cX9_holds : ByteArray := prog_11_method_16_code
def yX9_holds : MethodName := ⟨RX9, "holds", "(I)Z"⟩
abbrev cX9_told : ByteArray := prog_11_method_17_code
def yX9_told : MethodName := ⟨RX9, "told", "(II)I"⟩
abbrev cX9_wideOf : ByteArray := prog_11_method_18_code
def yX9_wideOf : MethodName := ⟨RX9, "wideOf", "(II)I"⟩
abbrev cX9_wide : ByteArray := prog_11_method_19_code
def yX9_wide : MethodName := ⟨RX9, "wide", "(II)I"⟩
abbrev cX9_volume : ByteArray := prog_11_method_20_code
def yX9_volume : MethodName := ⟨RX9, "volume", "(I)I"⟩
abbrev cX9_most : ByteArray := prog_11_method_21_code
def yX9_most : MethodName := ⟨RX9, "most", "()I"⟩
abbrev cX9_shared : ByteArray := prog_11_method_22_code
def yX9_shared : MethodName := ⟨RX9, "shared", "(IIII)I"⟩
abbrev cX9_isPlace : ByteArray := prog_11_method_23_code
def yX9_isPlace : MethodName := ⟨RX9, "isPlace", "(II)Z"⟩
abbrev cX9_isIn : ByteArray := prog_11_method_24_code
def yX9_isIn : MethodName := ⟨RX9, "isIn", "(II)Z"⟩
abbrev cX9_lay : ByteArray := prog_11_method_25_code
def yX9_lay : MethodName := ⟨RX9, "lay", "(II)I"⟩
abbrev cX9_lift : ByteArray := prog_11_method_26_code
def yX9_lift : MethodName := ⟨RX9, "lift", "(II)I"⟩
abbrev cX9_size : ByteArray := prog_11_method_27_code
def yX9_size : MethodName := ⟨RX9, "size", "(I)I"⟩
abbrev cX9_isReached : ByteArray := prog_11_method_28_code
def yX9_isReached : MethodName := ⟨RX9, "isReached", "(IIII)Z"⟩
abbrev cX9_isCrane : ByteArray := prog_11_method_29_code
def yX9_isCrane : MethodName := ⟨RX9, "isCrane", "(II)Z"⟩
abbrev cX9_reaches : ByteArray := prog_11_method_30_code
def yX9_reaches : MethodName := ⟨RX9, "reaches", "(IIII)I"⟩
abbrev cX9_findOrder : ByteArray := prog_11_method_31_code
def yX9_findOrder : MethodName := ⟨RX9, "findOrder", "(III)V"⟩
abbrev cX9_order : ByteArray := prog_11_method_32_code
def yX9_order : MethodName := ⟨RX9, "order", "(III)I"⟩
abbrev cX9_planned : ByteArray := prog_11_method_33_code
def yX9_planned : MethodName := ⟨RX9, "planned", "(IIIIIIII)I"⟩
abbrev cX9_lookStorm : ByteArray := prog_11_method_34_code
def yX9_lookStorm : MethodName := ⟨RX9, "lookStorm", "(III)I"⟩
abbrev cX9_root : ByteArray := prog_11_method_35_code
def yX9_root : MethodName := ⟨RX9, "root", "(I)I"⟩
abbrev cX9_harmBy : ByteArray := prog_11_method_36_code
def yX9_harmBy : MethodName := ⟨RX9, "harmBy", "(III)I"⟩
abbrev cX9_overBy : ByteArray := prog_11_method_37_code
def yX9_overBy : MethodName := ⟨RX9, "overBy", "(III)I"⟩
abbrev cX9_storm : ByteArray := prog_11_method_38_code
def yX9_storm : MethodName := ⟨RX9, "storm", "(IIII)I"⟩
abbrev cX9_design : ByteArray := prog_11_method_39_code
def yX9_design : MethodName := ⟨RX9, "design", "(IIIIII)I"⟩
abbrev cX9_survey : ByteArray := prog_11_method_40_code
def yX9_survey : MethodName := ⟨RX9, "survey", "(IIIIII)I"⟩
abbrev cX9_waveAt : ByteArray := prog_11_method_41_code
def yX9_waveAt : MethodName := ⟨RX9, "waveAt", "(IIIIIII)J"⟩
abbrev cX9_isHarbour : ByteArray := prog_11_method_42_code
def yX9_isHarbour : MethodName := ⟨RX9, "isHarbour", "(III)Z"⟩
abbrev cX9_wave : ByteArray := prog_11_method_43_code
def yX9_wave : MethodName := ⟨RX9, "wave", "(IIIIIII)J"⟩
abbrev cX9_calm : ByteArray := prog_11_method_44_code
def yX9_calm : MethodName := ⟨RX9, "calm", "(IIIIII)I"⟩
abbrev cX9_kindOf : ByteArray := prog_11_method_45_code
def yX9_kindOf : MethodName := ⟨RX9, "kindOf", "(I)I"⟩
abbrev cX9_isOf : ByteArray := prog_11_method_46_code
def yX9_isOf : MethodName := ⟨RX9, "isOf", "(II)Z"⟩
abbrev cX9_kind : ByteArray := prog_11_method_47_code
def yX9_kind : MethodName := ⟨RX9, "kind", "(I)I"⟩
abbrev cX9_as : ByteArray := prog_11_method_48_code
def yX9_as : MethodName := ⟨RX9, "as", "(II)I"⟩
abbrev cX9_began : ByteArray := prog_11_method_49_code
def yX9_began : MethodName := ⟨RX9, "began", "(I)V"⟩
abbrev cX9_coverMark : ByteArray := prog_11_method_50_code
def yX9_coverMark : MethodName := ⟨RX9, "coverMark", "(II)I"⟩
abbrev cX9_plainWorth : ByteArray := prog_11_method_51_code
def yX9_plainWorth : MethodName := ⟨RX9, "plainWorth", "(I)I"⟩
abbrev cX9_worthOf : ByteArray := prog_11_method_52_code
def yX9_worthOf : MethodName := ⟨RX9, "worthOf", "(II)I"⟩
abbrev cX9_markOf : ByteArray := prog_11_method_53_code
def yX9_markOf : MethodName := ⟨RX9, "markOf", "(II)I"⟩
abbrev cX9_ask : ByteArray := prog_11_method_54_code
def yX9_ask : MethodName := ⟨RX9, "ask", "(II)I"⟩
abbrev cX9_trace : ByteArray := prog_11_method_55_code
def yX9_trace : MethodName := ⟨RX9, "trace", "(I)I"⟩
abbrev cX9_count : ByteArray := prog_11_method_56_code
def yX9_count : MethodName := ⟨RX9, "count", "(I)I"⟩
abbrev cX9_status : ByteArray := prog_11_method_57_code
def yX9_status : MethodName := ⟨RX9, "status", "()I"⟩
abbrev classes : List vw_C := [(RX0, TX0, 3), (RX1, TX1, 0), (RX2, TX2, 3), (RX3, TX3, 4), (RX4, TX4, 5), (RX5, TX5, 3), (RX6, TX6, 7), (RX7, TX7, 4), (RX8, TX8, 8), (RX9, TX9, 21)]
abbrev clTy : List (Nat → FieldType) := [tyX0, tyX1, tyX2, tyX3, tyX4, tyX5, tyX6, tyX7, tyX8, tyX9]
def cNs : List String := ["StoneWorks", "StoneWorks$Asks", "StoneWorks$Harbour", "StoneWorks$Hours", "StoneWorks$Pile", "StoneWorks$Quarry", "StoneWorks$Sheets", "StoneWorks$Surveys", "StoneWorks$Wall", "StoneWorksLaw", "StoneWorksModel", "java/util/Arrays"]
/-- the methods: name, bytes, locals, what it gives, frames and locals that it needs, 0: of an object, 1: static; the number of its class's name -/
abbrev Mt : Type := MethodName × ByteArray × Nat × Option FieldType × Nat × Nat × Nat × Nat
noncomputable def mT_0 : List Mt := [
  (⟨"java/util/Arrays", "fill", "([II)V"⟩, prog_14_method_103_code, 4, none, 0, 0, 1, 11),
  (⟨"StoneWorks", "sheet", "(III)I"⟩, prog_1_method_2_code, 4, some .int, 3, 70, 0, 0),
  (⟨"StoneWorks$Sheets", "isNumber", "(I)Z"⟩, prog_7_method_2_code, 1, some .boolean, 1, 22, 1, 6),
  (⟨"StoneWorks", "within", "(III)Z"⟩, prog_1_method_37_code, 3, some .boolean, 0, 0, 1, 0),
  (⟨"StoneWorks", "found", "(I)I"⟩, prog_1_method_35_code, 2, some .int, 0, 0, 0, 0),
  (⟨"StoneWorks$Sheets", "make", "(III)V"⟩, prog_7_method_7_code, 5, none, 2, 46, 0, 6),
  (⟨"java/util/Arrays", "fill", "([IIII)V"⟩, prog_14_method_104_code, 5, none, 1, 22, 1, 11),
  (⟨"java/util/Arrays", "rangeCheck", "(III)V"⟩, prog_14_method_30_code, 3, none, 0, 0, 1, 11),
  (⟨"StoneWorks", "fine", "(I)I"⟩, prog_1_method_36_code, 2, some .int, 0, 0, 0, 0),
  (⟨"StoneWorks", "set", "(III)I"⟩, prog_1_method_3_code, 5, some .int, 2, 46, 0, 0),
  (⟨"StoneWorks$Sheets", "findingAt", "(III)I"⟩, prog_7_method_6_code, 4, some .int, 1, 23, 0, 6),
  (⟨"StoneWorks$Sheets", "isMissing", "(I)Z"⟩, prog_7_method_3_code, 2, some .boolean, 0, 0, 0, 6),
  (⟨"StoneWorks$Sheets", "hasItems", "(III)Z"⟩, prog_7_method_5_code, 4, some .boolean, 0, 0, 0, 6),
  (⟨"StoneWorks$Sheets", "put", "(III)I"⟩, prog_7_method_10_code, 5, some .int, 1, 21, 0, 6),
  (⟨"StoneWorks$Sheets", "cutToLane", "(II)I"⟩, prog_7_method_11_code, 2, some .int, 0, 0, 1, 6),
  (⟨"StoneWorks", "copy", "(IIIII)I"⟩, prog_1_method_4_code, 6, some .int, 2, 51, 0, 0),
  (⟨"StoneWorks$Sheets", "areOfOneLane", "(II)Z"⟩, prog_7_method_4_code, 3, some .boolean, 0, 0, 0, 6),
  (⟨"StoneWorks$Sheets", "move", "(IIIII)V"⟩, prog_7_method_12_code, 6, none, 1, 26, 0, 6),
  (⟨"StoneWorks", "drop", "(I)I"⟩, prog_1_method_5_code, 2, some .int, 2, 42, 0, 0),
  (⟨"StoneWorks$Sheets", "remove", "(I)I"⟩, prog_7_method_8_code, 3, some .int, 0, 0, 0, 6),
  (⟨"StoneWorks", "wall", "(II)I"⟩, prog_1_method_6_code, 3, some .int, 2, 43, 0, 0),
  (⟨"StoneWorks$Wall", "isMeasure", "(I)Z"⟩, prog_9_method_2_code, 1, some .boolean, 1, 22, 1, 8),
  (⟨"StoneWorks$Wall", "mayMeasure", "(II)Z"⟩, prog_9_method_3_code, 2, some .boolean, 1, 22, 1, 8),
  (⟨"StoneWorks$Wall", "change", "(II)I"⟩, prog_9_method_6_code, 4, some .int, 0, 0, 0, 8),
  (⟨"StoneWorks", "layer", "(II)I"⟩, prog_1_method_7_code, 3, some .int, 2, 46, 0, 0),
  (⟨"StoneWorks$Wall", "mayBeLayer", "(II)Z"⟩, prog_9_method_4_code, 2, some .boolean, 1, 22, 1, 8),
  (⟨"StoneWorks$Wall", "isFull", "()Z"⟩, prog_9_method_9_code, 1, some .boolean, 0, 0, 0, 8),
  (⟨"StoneWorks$Wall", "addLayer", "(II)I"⟩, prog_9_method_10_code, 4, some .int, 1, 23, 0, 8),
  (⟨"StoneWorks$Wall", "putLayer", "(III)V"⟩, prog_9_method_11_code, 4, none, 0, 0, 0, 8),
  (⟨"StoneWorks", "relay", "(III)I"⟩, prog_1_method_8_code, 4, some .int, 2, 43, 0, 0)]
noncomputable def mT_1 : List Mt := [
  (⟨"StoneWorks$Wall", "hasLayer", "(I)Z"⟩, prog_9_method_8_code, 2, some .boolean, 1, 22, 0, 8),
  (⟨"StoneWorks", "told", "(II)I"⟩, prog_1_method_9_code, 3, some .int, 2, 43, 0, 0),
  (⟨"StoneWorks$Wall", "measure", "(I)I"⟩, prog_9_method_5_code, 2, some .int, 0, 0, 0, 8),
  (⟨"StoneWorks$Wall", "thickOf", "(I)I"⟩, prog_9_method_12_code, 2, some .int, 0, 0, 0, 8),
  (⟨"StoneWorks$Wall", "weightOf", "(I)I"⟩, prog_9_method_13_code, 2, some .int, 0, 0, 0, 8),
  (⟨"StoneWorks$Wall", "holds", "(I)Z"⟩, prog_9_method_17_code, 3, some .boolean, 0, 0, 0, 8),
  (⟨"StoneWorks", "wide", "(II)I"⟩, prog_1_method_10_code, 3, some .int, 2, 47, 0, 0),
  (⟨"StoneWorks$Wall", "layers", "()I"⟩, prog_9_method_7_code, 1, some .int, 0, 0, 0, 8),
  (⟨"StoneWorks$Wall", "widthWithout", "(II)I"⟩, prog_9_method_14_code, 7, some .int, 1, 21, 0, 8),
  (⟨"StoneWorks", "volume", "(I)I"⟩, prog_1_method_11_code, 2, some .int, 3, 71, 0, 0),
  (⟨"StoneWorks$Wall", "wholeVolume", "()I"⟩, prog_9_method_16_code, 3, some .int, 2, 47, 0, 8),
  (⟨"StoneWorks$Wall", "volumeOf", "(I)I"⟩, prog_9_method_15_code, 5, some .int, 2, 47, 0, 8),
  (⟨"StoneWorks", "shared", "(IIII)I"⟩, prog_1_method_12_code, 7, some .int, 4, 94, 0, 0),
  (⟨"StoneWorks$Quarry", "read", "(LStoneWorks$Sheets;II)Z"⟩, prog_6_method_2_code, 8, some .boolean, 2, 47, 0, 5),
  (⟨"StoneWorks$Sheets", "areWithin", "(IIII)Z"⟩, prog_7_method_13_code, 6, some .boolean, 1, 22, 0, 6),
  (⟨"StoneWorks$Sheets", "item", "(II)I"⟩, prog_7_method_9_code, 3, some .int, 0, 0, 0, 6),
  (⟨"StoneWorks$Quarry", "admit", "(II)V"⟩, prog_6_method_3_code, 4, none, 0, 0, 0, 5),
  (⟨"StoneWorks$Quarry", "share", "()V"⟩, prog_6_method_4_code, 5, none, 3, 70, 0, 5),
  (⟨"StoneWorks$Quarry", "mostGiven", "()I"⟩, prog_6_method_7_code, 3, some .int, 2, 45, 0, 5),
  (⟨"StoneWorks$Quarry", "cutOff", "(I)I"⟩, prog_6_method_8_code, 4, some .int, 1, 22, 0, 5),
  (⟨"StoneWorks$Quarry", "isTakenBeyond", "(II)Z"⟩, prog_6_method_9_code, 3, some .boolean, 0, 0, 0, 5),
  (⟨"StoneWorks$Quarry", "mostBetween", "(III)I"⟩, prog_6_method_10_code, 6, some .int, 2, 45, 0, 5),
  (⟨"StoneWorks$Quarry", "waste", "()I"⟩, prog_6_method_5_code, 1, some .int, 0, 0, 0, 5),
  (⟨"StoneWorks$Quarry", "given", "(II)I"⟩, prog_6_method_6_code, 3, some .int, 0, 0, 0, 5),
  (⟨"StoneWorks", "lay", "(II)I"⟩, prog_1_method_13_code, 3, some .int, 3, 65, 0, 0),
  (⟨"StoneWorks$Pile", "isPlace", "(II)Z"⟩, prog_5_method_2_code, 2, some .boolean, 1, 22, 1, 4),
  (⟨"StoneWorks$Pile", "add", "(II)Z"⟩, prog_5_method_7_code, 3, some .boolean, 2, 43, 0, 4),
  (⟨"StoneWorks$Pile", "at", "(II)I"⟩, prog_5_method_3_code, 2, some .int, 0, 0, 1, 4),
  (⟨"StoneWorks$Pile", "isBorne", "([ZII)Z"⟩, prog_5_method_10_code, 3, some .boolean, 1, 21, 1, 4),
  (⟨"StoneWorks", "lift", "(II)I"⟩, prog_1_method_14_code, 3, some .int, 4, 87, 0, 0)]
noncomputable def mT_2 : List Mt := [
  (⟨"StoneWorks$Pile", "take", "(II)Z"⟩, prog_5_method_8_code, 3, some .boolean, 3, 65, 0, 4),
  (⟨"StoneWorks$Pile", "bears", "(II)Z"⟩, prog_5_method_9_code, 3, some .boolean, 2, 43, 0, 4),
  (⟨"StoneWorks", "reaches", "(IIII)I"⟩, prog_1_method_15_code, 5, some .int, 2, 44, 0, 0),
  (⟨"StoneWorks", "isCrane", "(II)Z"⟩, prog_1_method_19_code, 2, some .boolean, 1, 22, 1, 0),
  (⟨"StoneWorks$Pile", "isNear", "(IIII)Z"⟩, prog_5_method_4_code, 4, some .boolean, 1, 21, 1, 4),
  (⟨"StoneWorks", "order", "(III)I"⟩, prog_1_method_16_code, 4, some .int, 3, 72, 0, 0),
  (⟨"StoneWorks$Pile", "putInTurn", "(III)I"⟩, prog_5_method_11_code, 9, some .int, 2, 44, 0, 4),
  (⟨"StoneWorks", "planned", "(IIIIIIII)I"⟩, prog_1_method_17_code, 10, some .int, 3, 72, 0, 0),
  (⟨"StoneWorks$Pile", "turnOf", "(II)I"⟩, prog_5_method_12_code, 3, some .int, 1, 21, 0, 4),
  (⟨"StoneWorks", "dayOf", "(IIII)I"⟩, prog_1_method_18_code, 7, some .int, 1, 22, 0, 0),
  (⟨"StoneWorks", "storm", "(IIII)I"⟩, prog_1_method_20_code, 6, some .int, 3, 71, 0, 0),
  (⟨"StoneWorks", "readHours", "(III)I"⟩, prog_1_method_22_code, 5, some .int, 2, 47, 0, 0),
  (⟨"StoneWorks$Hours", "read", "(LStoneWorks$Sheets;III)Z"⟩, prog_4_method_2_code, 6, some .boolean, 1, 22, 0, 3),
  (⟨"StoneWorks$Wall", "blockSize", "()I"⟩, prog_9_method_22_code, 3, some .int, 0, 0, 0, 8),
  (⟨"StoneWorks$Hours", "harm", "(II)I"⟩, prog_4_method_3_code, 6, some .int, 0, 0, 0, 3),
  (⟨"StoneWorks$Hours", "over", "(I)I"⟩, prog_4_method_4_code, 5, some .int, 0, 0, 0, 3),
  (⟨"StoneWorks", "design", "(IIIIII)I"⟩, prog_1_method_21_code, 8, some .int, 3, 75, 0, 0),
  (⟨"StoneWorks", "leastDesign", "(III)I"⟩, prog_1_method_23_code, 8, some .int, 2, 48, 0, 0),
  (⟨"StoneWorks$Hours", "leastCrest", "(I)I"⟩, prog_4_method_5_code, 3, some .int, 1, 24, 0, 3),
  (⟨"StoneWorks$Hours", "leastBlockSize", "(II)I"⟩, prog_4_method_6_code, 4, some .int, 1, 25, 0, 3),
  (⟨"StoneWorks", "survey", "(IIIIII)I"⟩, prog_1_method_24_code, 7, some .int, 3, 70, 0, 0),
  (⟨"StoneWorks$Surveys", "compare", "(LStoneWorks$Sheets;IIII)V"⟩, prog_8_method_3_code, 9, none, 1, 22, 0, 7),
  (⟨"StoneWorks$Surveys", "gather", "(II)V"⟩, prog_8_method_4_code, 4, none, 2, 47, 0, 7),
  (⟨"StoneWorks$Surveys", "join", "(I)V"⟩, prog_8_method_6_code, 2, none, 0, 0, 0, 7),
  (⟨"StoneWorks$Surveys", "spread", "(II)V"⟩, prog_8_method_5_code, 7, none, 1, 21, 0, 7),
  (⟨"StoneWorks$Surveys", "result", "(I)I"⟩, prog_8_method_2_code, 2, some .int, 0, 0, 0, 7),
  (⟨"StoneWorks", "wave", "(IIIIIII)J"⟩, prog_1_method_25_code, 8, some .long, 2, 55, 0, 0),
  (⟨"StoneWorks$Harbour", "isOne", "(III)Z"⟩, prog_3_method_2_code, 3, some .boolean, 1, 22, 1, 2),
  (⟨"StoneWorks$Harbour", "comesTo", "(IIIIIII)J"⟩, prog_3_method_3_code, 12, some .long, 1, 24, 1, 2),
  (⟨"StoneWorks$Harbour", "bounced", "(III)I"⟩, prog_3_method_4_code, 5, some .int, 0, 0, 1, 2)]
noncomputable def mT_3 : List Mt := [
  (⟨"StoneWorks", "calm", "(IIIIII)I"⟩, prog_1_method_26_code, 8, some .int, 3, 89, 0, 0),
  (⟨"StoneWorks", "areSpots", "(IIIII)Z"⟩, prog_1_method_27_code, 8, some .boolean, 1, 22, 0, 0),
  (⟨"StoneWorks", "calmest", "(IIIIII)I"⟩, prog_1_method_28_code, 15, some .int, 2, 55, 0, 0),
  (⟨"StoneWorks", "kind", "(I)I"⟩, prog_1_method_29_code, 2, some .int, 2, 44, 0, 0),
  (⟨"StoneWorks$Wall", "kindOf", "(I)I"⟩, prog_9_method_18_code, 3, some .int, 1, 22, 0, 8),
  (⟨"StoneWorks", "as", "(II)I"⟩, prog_1_method_30_code, 3, some .int, 3, 67, 0, 0),
  (⟨"StoneWorks$Wall", "isOfKind", "(II)Z"⟩, prog_9_method_19_code, 4, some .boolean, 2, 44, 0, 8),
  (⟨"StoneWorks", "ask", "(II)I"⟩, prog_1_method_31_code, 3, some .int, 6, 126, 0, 0),
  (⟨"StoneWorks$Asks", "forget", "()V"⟩, prog_2_method_2_code, 1, none, 0, 0, 0, 1),
  (⟨"StoneWorks$Asks", "worth", "(I)I"⟩, prog_2_method_5_code, 2, some .int, 5, 105, 0, 1),
  (⟨"StoneWorks$Asks", "armourWorth", "(I)I"⟩, prog_2_method_9_code, 2, some .int, 4, 84, 0, 1),
  (⟨"StoneWorks$Asks", "begin", "(I)V"⟩, prog_2_method_4_code, 2, none, 0, 0, 0, 1),
  (⟨"StoneWorks$Asks", "coverWorth", "(I)I"⟩, prog_2_method_8_code, 2, some .int, 2, 42, 0, 1),
  (⟨"StoneWorks$Asks", "lentWorth", "(I)I"⟩, prog_2_method_7_code, 2, some .int, 1, 21, 0, 1),
  (⟨"StoneWorks$Asks", "armourMark", "(I)I"⟩, prog_2_method_13_code, 2, some .int, 3, 63, 0, 1),
  (⟨"StoneWorks$Asks", "coverMark", "(I)I"⟩, prog_2_method_12_code, 2, some .int, 2, 42, 0, 1),
  (⟨"StoneWorks$Asks", "lentMark", "(I)I"⟩, prog_2_method_11_code, 2, some .int, 1, 21, 0, 1),
  (⟨"StoneWorks$Asks", "looseWorth", "(I)I"⟩, prog_2_method_10_code, 2, some .int, 2, 42, 0, 1),
  (⟨"StoneWorks$Asks", "mark", "(I)I"⟩, prog_2_method_6_code, 2, some .int, 4, 84, 0, 1),
  (⟨"StoneWorks$Asks", "underMark", "(I)I"⟩, prog_2_method_14_code, 2, some .int, 2, 42, 0, 1),
  (⟨"StoneWorks", "trace", "(I)I"⟩, prog_1_method_32_code, 2, some .int, 2, 43, 0, 0),
  (⟨"StoneWorks$Asks", "traced", "(I)I"⟩, prog_2_method_3_code, 2, some .int, 1, 22, 0, 1),
  (⟨"StoneWorks", "count", "(I)I"⟩, prog_1_method_33_code, 2, some .int, 3, 66, 0, 0),
  (⟨"StoneWorks$Sheets", "present", "()I"⟩, prog_7_method_14_code, 3, some .int, 1, 21, 0, 6),
  (⟨"StoneWorks$Wall", "holding", "()I"⟩, prog_9_method_20_code, 3, some .int, 1, 22, 0, 8),
  (⟨"StoneWorks$Wall", "loose", "()I"⟩, prog_9_method_21_code, 3, some .int, 2, 44, 0, 8),
  (⟨"StoneWorks$Pile", "blocks", "()I"⟩, prog_5_method_6_code, 1, some .int, 0, 0, 0, 4),
  (⟨"StoneWorks$Pile", "allPlaces", "()I"⟩, prog_5_method_5_code, 2, some .int, 0, 0, 1, 4),
  (⟨"StoneWorks", "status", "()I"⟩, prog_1_method_34_code, 1, some .int, 0, 0, 0, 0),
  (⟨"StoneWorksModel", "sheet", "(III)I"⟩, prog_11_method_6_code, 5, some .int, 2, 45, 0, 10)]
noncomputable def mT_4 : List Mt := [
  (⟨"StoneWorksModel", "isSheet", "(I)Z"⟩, prog_11_method_5_code, 1, some .boolean, 1, 25, 1, 10),
  (⟨"StoneWorksModel", "in", "(JJJ)Z"⟩, prog_11_method_3_code, 6, some .boolean, 0, 0, 1, 10),
  (⟨"StoneWorksModel", "found", "(I)I"⟩, prog_11_method_4_code, 2, some .int, 0, 0, 0, 10),
  (⟨"StoneWorksModel", "set", "(III)I"⟩, prog_11_method_7_code, 4, some .int, 2, 45, 0, 10),
  (⟨"StoneWorksModel", "copy", "(IIIII)I"⟩, prog_11_method_8_code, 9, some .int, 2, 45, 0, 10),
  (⟨"StoneWorksModel", "drop", "(I)I"⟩, prog_11_method_9_code, 2, some .int, 2, 45, 0, 10),
  (⟨"StoneWorksModel", "wall", "(II)I"⟩, prog_11_method_11_code, 6, some .int, 1, 25, 0, 10),
  (⟨"StoneWorksModel", "layer", "(II)I"⟩, prog_11_method_14_code, 3, some .int, 2, 46, 0, 10),
  (⟨"StoneWorksModel", "isLaid", "(II)Z"⟩, prog_11_method_12_code, 2, some .boolean, 1, 25, 1, 10),
  (⟨"StoneWorksModel", "relay", "(III)I"⟩, prog_11_method_15_code, 4, some .int, 2, 46, 0, 10),
  (⟨"StoneWorksModel", "isLayer", "(I)Z"⟩, prog_11_method_13_code, 2, some .boolean, 1, 25, 0, 10),
  (⟨"StoneWorksModel", "told", "(II)I"⟩, prog_11_method_17_code, 3, some .int, 2, 46, 0, 10),
  (⟨"StoneWorksModel", "holds", "(I)Z"⟩, prog_11_method_16_code, 2, some .boolean, 0, 0, 0, 10),
  (⟨"StoneWorksModel", "wide", "(II)I"⟩, prog_11_method_19_code, 3, some .int, 1, 25, 0, 10),
  (⟨"StoneWorksModel", "wideOf", "(II)I"⟩, prog_11_method_18_code, 5, some .int, 0, 0, 0, 10),
  (⟨"StoneWorksModel", "volume", "(I)I"⟩, prog_11_method_20_code, 5, some .int, 1, 25, 0, 10),
  (⟨"StoneWorksModel", "shared", "(IIII)I"⟩, prog_11_method_22_code, 13, some .int, 2, 45, 0, 10),
  (⟨"StoneWorksModel", "lookAt", "(III)I"⟩, prog_11_method_10_code, 4, some .int, 1, 21, 0, 10),
  (⟨"StoneWorksModel", "most", "()I"⟩, prog_11_method_21_code, 7, some .int, 0, 0, 0, 10),
  (⟨"StoneWorksModel", "lay", "(II)I"⟩, prog_11_method_25_code, 3, some .int, 2, 46, 0, 10),
  (⟨"StoneWorksModel", "isPlace", "(II)Z"⟩, prog_11_method_23_code, 2, some .boolean, 1, 25, 1, 10),
  (⟨"StoneWorksModel", "isIn", "(II)Z"⟩, prog_11_method_24_code, 2, some .boolean, 0, 0, 1, 10),
  (⟨"StoneWorksModel", "lift", "(II)I"⟩, prog_11_method_26_code, 3, some .int, 2, 46, 0, 10),
  (⟨"StoneWorksModel", "reaches", "(IIII)I"⟩, prog_11_method_30_code, 5, some .int, 2, 46, 0, 10),
  (⟨"StoneWorksModel", "isCrane", "(II)Z"⟩, prog_11_method_29_code, 2, some .boolean, 1, 25, 1, 10),
  (⟨"StoneWorksModel", "isReached", "(IIII)Z"⟩, prog_11_method_28_code, 4, some .boolean, 1, 20, 1, 10),
  (⟨"StoneWorksModel", "size", "(I)I"⟩, prog_11_method_27_code, 1, some .int, 0, 0, 1, 10),
  (⟨"StoneWorksModel", "order", "(III)I"⟩, prog_11_method_32_code, 4, some .int, 3, 69, 0, 10),
  (⟨"StoneWorksModel", "findOrder", "(III)V"⟩, prog_11_method_31_code, 7, none, 2, 43, 0, 10),
  (⟨"StoneWorksModel", "planned", "(IIIIIIII)I"⟩, prog_11_method_33_code, 13, some .int, 3, 69, 0, 10)]
noncomputable def mT_5 : List Mt := [
  (⟨"StoneWorksModel", "storm", "(IIII)I"⟩, prog_11_method_38_code, 7, some .int, 3, 70, 0, 10),
  (⟨"StoneWorksModel", "lookStorm", "(III)I"⟩, prog_11_method_34_code, 7, some .int, 2, 44, 0, 10),
  (⟨"StoneWorksModel", "root", "(I)I"⟩, prog_11_method_35_code, 2, some .int, 0, 0, 1, 10),
  (⟨"StoneWorksModel", "harmBy", "(III)I"⟩, prog_11_method_36_code, 7, some .int, 0, 0, 0, 10),
  (⟨"StoneWorksModel", "overBy", "(III)I"⟩, prog_11_method_37_code, 7, some .int, 0, 0, 0, 10),
  (⟨"StoneWorksModel", "design", "(IIIIII)I"⟩, prog_11_method_39_code, 16, some .int, 3, 70, 0, 10),
  (⟨"StoneWorksModel", "survey", "(IIIIII)I"⟩, prog_11_method_40_code, 16, some .int, 2, 45, 0, 10),
  (⟨"StoneWorksModel", "wave", "(IIIIIII)J"⟩, prog_11_method_43_code, 8, some .long, 2, 52, 0, 10),
  (⟨"StoneWorksModel", "isHarbour", "(III)Z"⟩, prog_11_method_42_code, 3, some .boolean, 1, 25, 1, 10),
  (⟨"StoneWorksModel", "waveAt", "(IIIIIII)J"⟩, prog_11_method_41_code, 13, some .long, 1, 20, 1, 10),
  (⟨"StoneWorksModel", "calm", "(IIIIII)I"⟩, prog_11_method_44_code, 15, some .int, 2, 52, 0, 10),
  (⟨"StoneWorksModel", "kind", "(I)I"⟩, prog_11_method_47_code, 2, some .int, 2, 46, 0, 10),
  (⟨"StoneWorksModel", "kindOf", "(I)I"⟩, prog_11_method_45_code, 2, some .int, 1, 21, 0, 10),
  (⟨"StoneWorksModel", "as", "(II)I"⟩, prog_11_method_48_code, 3, some .int, 2, 46, 0, 10),
  (⟨"StoneWorksModel", "isOf", "(II)Z"⟩, prog_11_method_46_code, 2, some .boolean, 0, 0, 1, 10),
  (⟨"StoneWorksModel", "ask", "(II)I"⟩, prog_11_method_54_code, 3, some .int, 3, 66, 0, 10),
  (⟨"StoneWorksModel", "worthOf", "(II)I"⟩, prog_11_method_52_code, 4, some .int, 2, 43, 0, 10),
  (⟨"StoneWorksModel", "began", "(I)V"⟩, prog_11_method_49_code, 2, none, 0, 0, 0, 10),
  (⟨"StoneWorksModel", "plainWorth", "(I)I"⟩, prog_11_method_51_code, 2, some .int, 1, 21, 0, 10),
  (⟨"StoneWorksModel", "coverMark", "(II)I"⟩, prog_11_method_50_code, 3, some .int, 1, 21, 0, 10),
  (⟨"StoneWorksModel", "markOf", "(II)I"⟩, prog_11_method_53_code, 3, some .int, 2, 43, 0, 10),
  (⟨"StoneWorksModel", "trace", "(I)I"⟩, prog_11_method_55_code, 2, some .int, 1, 25, 0, 10),
  (⟨"StoneWorksModel", "count", "(I)I"⟩, prog_11_method_56_code, 5, some .int, 2, 42, 0, 10),
  (⟨"StoneWorksModel", "status", "()I"⟩, prog_11_method_57_code, 1, some .int, 0, 0, 0, 10),
  (⟨"StoneWorksLaw", "law", "([I)Z"⟩, code, 4, some .boolean, 7, 148, 1, 9)]
noncomputable def mT : List Mt := mT_0 ++ (mT_1 ++ (mT_2 ++ (mT_3 ++ (mT_4 ++ (mT_5)))))
abbrev m_Arr_fill2 : Nat := 0
abbrev m_SW_sheet : Nat := 1
abbrev m_Sheets_isNumber : Nat := 2
abbrev m_SW_within : Nat := 3
abbrev m_SW_found : Nat := 4
abbrev m_Sheets_make : Nat := 5
abbrev m_Arr_fill4 : Nat := 6
abbrev m_Arr_rangeCheck : Nat := 7
abbrev m_SW_fine : Nat := 8
abbrev m_SW_set : Nat := 9
abbrev m_Sheets_findingAt : Nat := 10
abbrev m_Sheets_isMissing : Nat := 11
abbrev m_Sheets_hasItems : Nat := 12
abbrev m_Sheets_put : Nat := 13
abbrev m_Sheets_cutToLane : Nat := 14
abbrev m_SW_copy : Nat := 15
abbrev m_Sheets_areOfOneLane : Nat := 16
abbrev m_Sheets_move : Nat := 17
abbrev m_SW_drop : Nat := 18
abbrev m_Sheets_remove : Nat := 19
abbrev m_SW_wall : Nat := 20
abbrev m_Wall_isMeasure : Nat := 21
abbrev m_Wall_mayMeasure : Nat := 22
abbrev m_Wall_change : Nat := 23
abbrev m_SW_layer : Nat := 24
abbrev m_Wall_mayBeLayer : Nat := 25
abbrev m_Wall_isFull : Nat := 26
abbrev m_Wall_addLayer : Nat := 27
abbrev m_Wall_putLayer : Nat := 28
abbrev m_SW_relay : Nat := 29
abbrev m_Wall_hasLayer : Nat := 30
abbrev m_SW_told : Nat := 31
abbrev m_Wall_measure : Nat := 32
abbrev m_Wall_thickOf : Nat := 33
abbrev m_Wall_weightOf : Nat := 34
abbrev m_Wall_holds : Nat := 35
abbrev m_SW_wide : Nat := 36
abbrev m_Wall_layers : Nat := 37
abbrev m_Wall_widthWithout : Nat := 38
abbrev m_SW_volume : Nat := 39
abbrev m_Wall_wholeVolume : Nat := 40
abbrev m_Wall_volumeOf : Nat := 41
abbrev m_SW_shared : Nat := 42
abbrev m_Quarry_read : Nat := 43
abbrev m_Sheets_areWithin : Nat := 44
abbrev m_Sheets_item : Nat := 45
abbrev m_Quarry_admit : Nat := 46
abbrev m_Quarry_share : Nat := 47
abbrev m_Quarry_mostGiven : Nat := 48
abbrev m_Quarry_cutOff : Nat := 49
abbrev m_Quarry_isTakenBeyond : Nat := 50
abbrev m_Quarry_mostBetween : Nat := 51
abbrev m_Quarry_waste : Nat := 52
abbrev m_Quarry_given : Nat := 53
abbrev m_SW_lay : Nat := 54
abbrev m_Pile_isPlace : Nat := 55
abbrev m_Pile_add : Nat := 56
abbrev m_Pile_at : Nat := 57
abbrev m_Pile_isBorne : Nat := 58
abbrev m_SW_lift : Nat := 59
abbrev m_Pile_take : Nat := 60
abbrev m_Pile_bears : Nat := 61
abbrev m_SW_reaches : Nat := 62
abbrev m_SW_isCrane : Nat := 63
abbrev m_Pile_isNear : Nat := 64
abbrev m_SW_order : Nat := 65
abbrev m_Pile_putInTurn : Nat := 66
abbrev m_SW_planned : Nat := 67
abbrev m_Pile_turnOf : Nat := 68
abbrev m_SW_dayOf : Nat := 69
abbrev m_SW_storm : Nat := 70
abbrev m_SW_readHours : Nat := 71
abbrev m_Hours_read : Nat := 72
abbrev m_Wall_blockSize : Nat := 73
abbrev m_Hours_harm : Nat := 74
abbrev m_Hours_over : Nat := 75
abbrev m_SW_design : Nat := 76
abbrev m_SW_leastDesign : Nat := 77
abbrev m_Hours_leastCrest : Nat := 78
abbrev m_Hours_leastBlockSize : Nat := 79
abbrev m_SW_survey : Nat := 80
abbrev m_Surveys_compare : Nat := 81
abbrev m_Surveys_gather : Nat := 82
abbrev m_Surveys_join : Nat := 83
abbrev m_Surveys_spread : Nat := 84
abbrev m_Surveys_result : Nat := 85
abbrev m_SW_wave : Nat := 86
abbrev m_Harbour_isOne : Nat := 87
abbrev m_Harbour_comesTo : Nat := 88
abbrev m_Harbour_bounced : Nat := 89
abbrev m_SW_calm : Nat := 90
abbrev m_SW_areSpots : Nat := 91
abbrev m_SW_calmest : Nat := 92
abbrev m_SW_kind : Nat := 93
abbrev m_Wall_kindOf : Nat := 94
abbrev m_SW_as : Nat := 95
abbrev m_Wall_isOfKind : Nat := 96
abbrev m_SW_ask : Nat := 97
abbrev m_Asks_forget : Nat := 98
abbrev m_Asks_worth : Nat := 99
abbrev m_Asks_armourWorth : Nat := 100
abbrev m_Asks_begin : Nat := 101
abbrev m_Asks_coverWorth : Nat := 102
abbrev m_Asks_lentWorth : Nat := 103
abbrev m_Asks_armourMark : Nat := 104
abbrev m_Asks_coverMark : Nat := 105
abbrev m_Asks_lentMark : Nat := 106
abbrev m_Asks_looseWorth : Nat := 107
abbrev m_Asks_mark : Nat := 108
abbrev m_Asks_underMark : Nat := 109
abbrev m_SW_trace : Nat := 110
abbrev m_Asks_traced : Nat := 111
abbrev m_SW_count : Nat := 112
abbrev m_Sheets_present : Nat := 113
abbrev m_Wall_holding : Nat := 114
abbrev m_Wall_loose : Nat := 115
abbrev m_Pile_blocks : Nat := 116
abbrev m_Pile_allPlaces : Nat := 117
abbrev m_SW_status : Nat := 118
abbrev m_Mo_sheet : Nat := 119
abbrev m_Mo_isSheet : Nat := 120
abbrev m_Mo_in : Nat := 121
abbrev m_Mo_found : Nat := 122
abbrev m_Mo_set : Nat := 123
abbrev m_Mo_copy : Nat := 124
abbrev m_Mo_drop : Nat := 125
abbrev m_Mo_wall : Nat := 126
abbrev m_Mo_layer : Nat := 127
abbrev m_Mo_isLaid : Nat := 128
abbrev m_Mo_relay : Nat := 129
abbrev m_Mo_isLayer : Nat := 130
abbrev m_Mo_told : Nat := 131
abbrev m_Mo_holds : Nat := 132
abbrev m_Mo_wide : Nat := 133
abbrev m_Mo_wideOf : Nat := 134
abbrev m_Mo_volume : Nat := 135
abbrev m_Mo_shared : Nat := 136
abbrev m_Mo_lookAt : Nat := 137
abbrev m_Mo_most : Nat := 138
abbrev m_Mo_lay : Nat := 139
abbrev m_Mo_isPlace : Nat := 140
abbrev m_Mo_isIn : Nat := 141
abbrev m_Mo_lift : Nat := 142
abbrev m_Mo_reaches : Nat := 143
abbrev m_Mo_isCrane : Nat := 144
abbrev m_Mo_isReached : Nat := 145
abbrev m_Mo_size : Nat := 146
abbrev m_Mo_order : Nat := 147
abbrev m_Mo_findOrder : Nat := 148
abbrev m_Mo_planned : Nat := 149
abbrev m_Mo_storm : Nat := 150
abbrev m_Mo_lookStorm : Nat := 151
abbrev m_Mo_root : Nat := 152
abbrev m_Mo_harmBy : Nat := 153
abbrev m_Mo_overBy : Nat := 154
abbrev m_Mo_design : Nat := 155
abbrev m_Mo_survey : Nat := 156
abbrev m_Mo_wave : Nat := 157
abbrev m_Mo_isHarbour : Nat := 158
abbrev m_Mo_waveAt : Nat := 159
abbrev m_Mo_calm : Nat := 160
abbrev m_Mo_kind : Nat := 161
abbrev m_Mo_kindOf : Nat := 162
abbrev m_Mo_as : Nat := 163
abbrev m_Mo_isOf : Nat := 164
abbrev m_Mo_ask : Nat := 165
abbrev m_Mo_worthOf : Nat := 166
abbrev m_Mo_began : Nat := 167
abbrev m_Mo_plainWorth : Nat := 168
abbrev m_Mo_coverMark : Nat := 169
abbrev m_Mo_markOf : Nat := 170
abbrev m_Mo_trace : Nat := 171
abbrev m_Mo_count : Nat := 172
abbrev m_Mo_status : Nat := 173
abbrev m_StoneWorksLaw_law : Nat := 174
abbrev En : Type := Nat × Instr × Nat × Nat × Nat × Int32 × Int64 × List Nat
def ordC : List Nat := [0, 1, 2, 3, 4, 5, 6, 7, 8, 9, 10, 11, 12, 13, 14, 15, 16, 17, 18, 19, 20, 21, 22, 23, 24, 25, 26, 27, 28, 29, 30, 31, 32, 33, 34, 35, 36, 37, 38, 39, 40, 41, 42, 43, 44, 45, 46, 47, 48, 49, 50, 51, 52, 53, 54, 55, 56, 57, 58, 59, 60, 61, 62, 63, 64, 65, 66, 67, 68, 69, 70, 71, 72, 73, 74, 75, 76, 77, 78, 79, 80, 81, 82, 83, 84, 85, 86, 87, 88, 89, 90, 91, 92, 93, 94, 95, 96, 97, 98, 99, 100, 101, 102, 103, 104, 105, 106, 107, 108, 109, 110, 111, 112, 113, 114, 115, 116, 117, 118, 119, 120, 121, 122, 123, 124, 125, 126, 127, 128, 129, 130, 131, 132, 133, 134, 135, 136, 137, 138, 139, 140, 141, 142, 143, 144, 145, 146, 147, 148, 149, 150, 151, 152, 153, 154, 155, 156, 157, 158, 159, 160, 161, 162, 163, 164, 165, 166, 167, 168, 169, 170, 171, 172, 173]
def ordS : List Nat := [0, 2, 3, 6, 7, 14, 21, 22, 25, 55, 57, 58, 63, 64, 87, 88, 89, 117, 120, 121, 128, 140, 141, 144, 145, 146, 152, 158, 159, 164]
def ordI : List Nat := [1, 4, 5, 8, 9, 10, 11, 12, 13, 15, 16, 17, 18, 19, 20, 23, 24, 26, 27, 28, 29, 30, 31, 32, 33, 34, 35, 36, 37, 38, 39, 40, 41, 42, 43, 44, 45, 46, 47, 48, 49, 50, 51, 52, 53, 54, 56, 59, 60, 61, 62, 65, 66, 67, 68, 69, 70, 71, 72, 73, 74, 75, 76, 77, 78, 79, 80, 81, 82, 83, 84, 85, 86, 90, 91, 92, 93, 94, 95, 96, 97, 98, 99, 100, 101, 102, 103, 104, 105, 106, 107, 108, 109, 110, 111, 112, 113, 114, 115, 116, 118, 119, 122, 123, 124, 125, 126, 127, 129, 130, 131, 132, 133, 134, 135, 136, 137, 138, 139, 142, 143, 147, 148, 149, 150, 151, 153, 154, 155, 156, 157, 160, 161, 162, 163, 165, 166, 167, 168, 169, 170, 171, 172, 173]
def ordX : List Nat := [4, 8, 46, 48, 49, 50, 51, 61, 69, 71, 77, 83, 84, 91, 92, 100, 101, 102, 103, 104, 105, 106, 107, 109, 122, 130, 132, 134, 137, 138, 148, 151, 153, 154, 162, 166, 167, 168, 169, 170, 1, 5, 9, 10, 11, 12, 13, 15, 16, 17, 18, 19, 20, 23, 24, 26, 27, 28, 29, 30, 31, 32, 33, 34, 35, 36, 37, 38, 39, 40, 41, 42, 43, 44, 45, 47, 52, 53, 54, 56, 59, 60, 62, 65, 66, 67, 68, 70, 72, 73, 74, 75, 76, 78, 79, 80, 81, 82, 85, 86, 90, 93, 94, 95, 96, 97, 98, 99, 108, 110, 111, 112, 113, 114, 115, 116, 118, 119, 123, 124, 125, 126, 127, 129, 131, 133, 135, 136, 139, 142, 143, 147, 149, 150, 155, 156, 157, 160, 161, 163, 165, 171, 172, 173]
def ordN : List Nat := [9, 0, 6, 11, 8, 5, 4, 3, 7, 1, 10, 2]
def ordU : List (Nat × Nat) := [(5, 0), (5, 1), (5, 2), (7, 0), (7, 1), (7, 2), (7, 3), (4, 0), (4, 1), (4, 2), (4, 3), (4, 4), (3, 0), (3, 1), (3, 2), (3, 3), (2, 0), (2, 1), (2, 2), (6, 0), (6, 1), (6, 2), (6, 3), (6, 4), (6, 5), (6, 6), (0, 0), (0, 1), (0, 2), (8, 0), (8, 1), (8, 2), (8, 3), (8, 4), (8, 5), (8, 6), (8, 7), (9, 0), (9, 1), (9, 2), (9, 3), (9, 4), (9, 5), (9, 6), (9, 7), (9, 8), (9, 9), (9, 10), (9, 11), (9, 12), (9, 13), (9, 14), (9, 15), (9, 16), (9, 17), (9, 18), (9, 19), (9, 20)]
def mls : List (Nat × Nat × Nat) := [(9, 13, 1), (0, 64, 2), (0, 68, 3), (0, 73, 4), (0, 77, 5), (6, 38, 6), (11, 13, 7), (0, 81, 8), (9, 18, 9), (0, 84, 10), (6, 31, 11), (6, 35, 12), (0, 88, 13), (6, 41, 14), (9, 22, 15), (0, 91, 11), (0, 94, 16), (0, 98, 12), (0, 101, 17), (9, 27, 18), (0, 105, 19), (9, 32, 20), (0, 108, 21), (0, 111, 22), (0, 114, 23), (9, 37, 24), (0, 118, 25), (0, 121, 26), (0, 126, 27), (8, 36, 28), (9, 41, 29), (0, 129, 30), (0, 132, 28), (9, 45, 31), (0, 135, 32), (0, 138, 33), (0, 141, 34), (0, 144, 35), (9, 49, 36), (0, 147, 37), (0, 151, 38), (9, 53, 39), (0, 155, 40), (8, 46, 38), (0, 158, 41), (9, 57, 42), (0, 161, 43), (5, 26, 44), (6, 51, 45), (5, 32, 45), (5, 36, 46), (0, 165, 47), (5, 40, 48), (5, 48, 49), (5, 57, 50), (5, 44, 51), (0, 168, 52), (0, 171, 53), (9, 62, 54), (0, 174, 55), (0, 177, 56), (4, 36, 57), (4, 40, 58), (9, 66, 59), (0, 181, 60), (4, 44, 61), (4, 48, 55), (9, 70, 62), (0, 184, 63), (0, 187, 64), (9, 74, 65), (0, 191, 66), (4, 51, 64), (9, 78, 67), (0, 194, 44), (0, 197, 68), (0, 200, 69), (0, 204, 45), (9, 83, 70), (0, 207, 71), (0, 223, 72), (3, 22, 45), (0, 210, 73), (0, 213, 74), (0, 216, 75), (9, 87, 76), (0, 220, 77), (0, 226, 78), (3, 32, 75), (0, 229, 79), (3, 37, 74), (9, 92, 80), (0, 232, 81), (7, 35, 45), (0, 236, 82), (7, 41, 83), (7, 45, 84), (0, 240, 85), (9, 96, 86), (0, 243, 87), (0, 250, 88), (2, 21, 89), (9, 101, 90), (0, 254, 91), (0, 258, 92), (9, 105, 93), (0, 262, 94), (8, 49, 35), (9, 109, 95), (0, 265, 96), (8, 53, 94), (9, 113, 97), (0, 268, 98), (0, 271, 99), (1, 28, 94), (1, 34, 100), (1, 58, 101), (1, 37, 102), (1, 43, 103), (1, 62, 33), (1, 65, 32), (1, 46, 104), (1, 49, 105), (1, 55, 106), (1, 68, 34), (1, 40, 107), (0, 274, 108), (1, 52, 109), (9, 117, 110), (0, 277, 111), (9, 121, 112), (0, 280, 113), (0, 283, 114), (0, 286, 115), (0, 289, 116), (0, 292, 117), (9, 125, 118), (9, 17, 119), (10, 73, 120), (10, 69, 121), (10, 80, 122), (9, 21, 123), (9, 26, 124), (9, 31, 125), (9, 36, 126), (9, 40, 127), (10, 93, 128), (9, 44, 129), (10, 98, 130), (9, 48, 131), (10, 101, 132), (9, 52, 133), (10, 104, 134), (9, 56, 135), (9, 61, 136), (10, 111, 137), (10, 119, 138), (9, 65, 139), (10, 123, 140), (10, 126, 141), (9, 69, 142), (9, 73, 143), (10, 137, 144), (10, 140, 145), (10, 130, 146), (9, 77, 147), (10, 149, 148), (9, 82, 149), (9, 86, 150), (10, 159, 151), (10, 162, 152), (10, 165, 153), (10, 168, 154), (9, 91, 155), (9, 95, 156), (9, 100, 157), (10, 177, 158), (10, 183, 159), (9, 104, 160), (9, 108, 161), (10, 188, 162), (9, 112, 163), (10, 191, 164), (9, 116, 165), (10, 207, 166), (10, 197, 167), (10, 201, 168), (10, 204, 169), (10, 210, 170), (9, 120, 171), (9, 124, 172), (9, 129, 173)]
def nls : List (Nat × Nat × Nat) := [(6, 27, 3), (8, 25, 3), (4, 26, 3), (3, 28, 3), (2, 9, 3), (1, 23, 3)]
def sls : List (Nat × Nat × Nat) := [(6, 45, 903), (8, 40, 900), (5, 52, 901), (4, 30, 902), (7, 49, 900), (2, 15, 902)]
def gls : List (Nat × Nat × Nat) := [(8, 29, 44), (8, 32, 45)]
def fls : List (Nat × Nat × Nat × Nat) := [(6, 11, 5, 0), (6, 15, 5, 1), (6, 18, 5, 2), (8, 9, 7, 0), (8, 15, 7, 1), (8, 18, 7, 2), (8, 21, 7, 3), (5, 9, 4, 0), (5, 13, 4, 1), (5, 16, 4, 2), (5, 19, 4, 3), (5, 22, 4, 4), (4, 11, 3, 0), (4, 15, 3, 1), (4, 18, 3, 2), (4, 22, 3, 3), (3, 11, 2, 0), (3, 15, 2, 1), (3, 18, 2, 2), (7, 11, 6, 0), (7, 15, 6, 1), (7, 19, 6, 2), (7, 23, 6, 3), (7, 26, 6, 4), (7, 29, 6, 5), (7, 32, 6, 6), (1, 19, 0, 0), (1, 11, 0, 1), (1, 15, 0, 2), (0, 10, 8, 0), (0, 19, 8, 1), (0, 26, 8, 2), (0, 33, 8, 3), (0, 40, 8, 4), (0, 47, 8, 5), (0, 56, 8, 6), (0, 60, 8, 7), (10, 59, 9, 0), (10, 63, 9, 1), (10, 7, 9, 2), (10, 13, 9, 3), (10, 16, 9, 4), (10, 19, 9, 5), (10, 90, 9, 6), (10, 22, 9, 7), (10, 25, 9, 8), (10, 28, 9, 9), (10, 31, 9, 10), (10, 34, 9, 11), (10, 38, 9, 12), (10, 41, 9, 13), (10, 144, 9, 14), (10, 44, 9, 15), (10, 47, 9, 16), (10, 50, 9, 17), (10, 53, 9, 18), (10, 56, 9, 19), (10, 194, 9, 20)]
def cIs : List (Nat × Nat × Int32) := [(0, 72, (-1000001)), (0, 295, (-1000010)), (8, 35, 60000), (0, 125, (-1000003)), (0, 154, (-1000000)), (0, 180, (-1000002)), (4, 55, (-1000000)), (0, 219, 1000000), (3, 36, (-1000000)), (1, 27, (-1000000)), (10, 79, (-1000001)), (10, 66, (-1000010)), (10, 97, (-1000003)), (10, 108, (-1000000)), (10, 129, (-1000002)), (10, 187, 1000000)]
def cLs : List (Nat × Nat × Int64) := [(0, 248, (-1000001)), (10, 67, 7), (10, 77, 2), (10, 84, 4), (10, 86, 10), (10, 88, 60000), (10, 109, 3), (10, 115, 100), (10, 117, 15), (10, 133, 11), (10, 135, 30), (10, 147, 8), (10, 153, 20), (10, 157, 48), (10, 155, 200), (10, 171, 1000000), (10, 173, 1000), (10, 175, 50), (10, 181, (-1000001))]
end
section
noncomputable def t_Arr_fill2 : List En := [
  (0, .iconst 0, 1, 0, 0, 0, 0, []),
  (1, .istore_n 2, 2, 0, 0, 0, 0, []),
  (2, .aload_n 0, 3, 0, 0, 0, 0, []),
  (3, .arraylength, 4, 0, 0, 0, 0, []),
  (4, .istore_n 3, 5, 0, 0, 0, 0, []),
  (5, .iload_n 2, 6, 0, 0, 0, 0, []),
  (6, .iload_n 3, 7, 0, 0, 0, 0, []),
  (7, .if_icmp .ge 13, 10, 20, 0, 0, 0, []),
  (10, .aload_n 0, 11, 0, 0, 0, 0, []),
  (11, .iload_n 2, 12, 0, 0, 0, 0, []),
  (12, .iload_n 1, 13, 0, 0, 0, 0, []),
  (13, .iastore, 14, 0, 0, 0, 0, []),
  (14, .iinc 2 1, 17, 0, 0, 1, 0, []),
  (17, .goto (-12), 20, 5, 0, 0, 0, []),
  (20, .return_, 21, 0, 0, 0, 0, [])]
noncomputable def t_SW_sheet : List En := [
  (0, .iload_n 1, 1, 0, 0, 0, 0, []),
  (1, .invokestatic 64, 4, 2, 1, 0, 0, []),
  (4, .ifCond .eq 18, 7, 22, 0, 0, 0, []),
  (7, .iload_n 2, 8, 0, 0, 0, 0, []),
  (8, .iconst 0, 9, 0, 0, 0, 0, []),
  (9, .iconst 2, 10, 0, 0, 2, 0, []),
  (10, .invokestatic 68, 13, 3, 3, 0, 0, []),
  (13, .ifCond .eq 9, 16, 22, 0, 0, 0, []),
  (16, .iload_n 3, 17, 0, 0, 0, 0, []),
  (17, .bipush 100, 19, 0, 0, 100, 0, []),
  (19, .if_icmp .le 6, 22, 25, 0, 0, 0, []),
  (22, .ldc 72, 24, 0, 0, (-1000001), 0, []),
  (24, .ireturn, 25, 0, 0, 0, 0, []),
  (25, .iload_n 3, 26, 0, 0, 0, 0, []),
  (26, .ifCond .ge 9, 29, 35, 0, 0, 0, []),
  (29, .aload_n 0, 30, 0, 0, 0, 0, []),
  (30, .iconst 4, 31, 0, 0, 4, 0, []),
  (31, .invokevirtual 73, 34, 4, 1, 0, 0, []),
  (34, .ireturn, 35, 0, 0, 0, 0, []),
  (35, .aload_n 0, 36, 0, 0, 0, 0, []),
  (36, .getfield 10, 39, 8, 0, 0, 0, []),
  (39, .iload_n 1, 40, 0, 0, 0, 0, []),
  (40, .iload_n 2, 41, 0, 0, 0, 0, []),
  (41, .iload_n 3, 42, 0, 0, 0, 0, []),
  (42, .invokevirtual 77, 45, 5, 3, 0, 0, []),
  (45, .aload_n 0, 46, 0, 0, 0, 0, []),
  (46, .iload_n 3, 47, 0, 0, 0, 0, []),
  (47, .invokevirtual 81, 50, 8, 1, 0, 0, []),
  (50, .ireturn, 51, 0, 0, 0, 0, [])]
noncomputable def t_Sheets_isNumber : List En := [
  (0, .iload_n 0, 1, 0, 0, 0, 0, []),
  (1, .iconst 0, 2, 0, 0, 0, 0, []),
  (2, .bipush 7, 4, 0, 0, 7, 0, []),
  (4, .invokestatic 27, 7, 3, 3, 0, 0, []),
  (7, .ireturn, 8, 0, 0, 0, 0, [])]
noncomputable def t_SW_within : List En := [
  (0, .iload_n 0, 1, 0, 0, 0, 0, []),
  (1, .iload_n 1, 2, 0, 0, 0, 0, []),
  (2, .if_icmp .lt 12, 5, 14, 0, 0, 0, []),
  (5, .iload_n 0, 6, 0, 0, 0, 0, []),
  (6, .iload_n 2, 7, 0, 0, 0, 0, []),
  (7, .if_icmp .gt 7, 10, 14, 0, 0, 0, []),
  (10, .iconst 1, 11, 0, 0, 1, 0, []),
  (11, .goto 4, 14, 15, 0, 0, 0, []),
  (14, .iconst 0, 15, 0, 0, 0, 0, []),
  (15, .ireturn, 16, 0, 0, 0, 0, [])]
noncomputable def t_SW_found : List En := [
  (0, .aload_n 0, 1, 0, 0, 0, 0, []),
  (1, .iload_n 1, 2, 0, 0, 0, 0, []),
  (2, .putfield 60, 5, 8, 7, 0, 0, []),
  (5, .ldc_w 295, 8, 0, 0, (-1000010), 0, []),
  (8, .iload_n 1, 9, 0, 0, 0, 0, []),
  (9, .isub, 10, 0, 0, 0, 0, []),
  (10, .ireturn, 11, 0, 0, 0, 0, [])]
noncomputable def t_Sheets_make : List En := [
  (0, .aload_n 0, 1, 0, 0, 0, 0, []),
  (1, .getfield 15, 4, 5, 1, 0, 0, []),
  (4, .iload_n 1, 5, 0, 0, 0, 0, []),
  (5, .iload_n 2, 6, 0, 0, 0, 0, []),
  (6, .iastore, 7, 0, 0, 0, 0, []),
  (7, .aload_n 0, 8, 0, 0, 0, 0, []),
  (8, .getfield 18, 11, 5, 2, 0, 0, []),
  (11, .iload_n 1, 12, 0, 0, 0, 0, []),
  (12, .iload_n 3, 13, 0, 0, 0, 0, []),
  (13, .iastore, 14, 0, 0, 0, 0, []),
  (14, .iload_n 1, 15, 0, 0, 0, 0, []),
  (15, .bipush 100, 17, 0, 0, 100, 0, []),
  (17, .imul, 18, 0, 0, 0, 0, []),
  (18, .istore 4, 20, 0, 0, 0, 0, []),
  (20, .aload_n 0, 21, 0, 0, 0, 0, []),
  (21, .getfield 11, 24, 5, 0, 0, 0, []),
  (24, .iload 4, 26, 0, 0, 0, 0, []),
  (26, .iload 4, 28, 0, 0, 0, 0, []),
  (28, .iload_n 3, 29, 0, 0, 0, 0, []),
  (29, .iadd, 30, 0, 0, 0, 0, []),
  (30, .iconst 0, 31, 0, 0, 0, 0, []),
  (31, .invokestatic 38, 34, 6, 4, 0, 0, []),
  (34, .return_, 35, 0, 0, 0, 0, [])]
noncomputable def t_Arr_fill4 : List En := [
  (0, .aload_n 0, 1, 0, 0, 0, 0, []),
  (1, .arraylength, 2, 0, 0, 0, 0, []),
  (2, .iload_n 1, 3, 0, 0, 0, 0, []),
  (3, .iload_n 2, 4, 0, 0, 0, 0, []),
  (4, .invokestatic 13, 7, 7, 3, 0, 0, []),
  (7, .iload_n 1, 8, 0, 0, 0, 0, []),
  (8, .istore 4, 10, 0, 0, 0, 0, []),
  (10, .iload 4, 12, 0, 0, 0, 0, []),
  (12, .iload_n 2, 13, 0, 0, 0, 0, []),
  (13, .if_icmp .ge 14, 16, 27, 0, 0, 0, []),
  (16, .aload_n 0, 17, 0, 0, 0, 0, []),
  (17, .iload 4, 19, 0, 0, 0, 0, []),
  (19, .iload_n 3, 20, 0, 0, 0, 0, []),
  (20, .iastore, 21, 0, 0, 0, 0, []),
  (21, .iinc 4 1, 24, 0, 0, 1, 0, []),
  (24, .goto (-14), 27, 10, 0, 0, 0, []),
  (27, .return_, 28, 0, 0, 0, 0, [])]
noncomputable def t_Arr_rangeCheck : List En := [
  (0, .iload_n 1, 1, 0, 0, 0, 0, []),
  (1, .iload_n 2, 2, 0, 0, 0, 0, []),
  (2, .if_icmp .le 44, 5, 46, 0, 0, 0, []),
  (21, .iload_n 1, 22, 0, 0, 0, 0, []),
  (30, .iload_n 2, 31, 0, 0, 0, 0, []),
  (46, .iload_n 1, 47, 0, 0, 0, 0, []),
  (47, .ifCond .ge 12, 50, 59, 0, 0, 0, []),
  (54, .iload_n 1, 55, 0, 0, 0, 0, []),
  (59, .iload_n 2, 60, 0, 0, 0, 0, []),
  (60, .iload_n 0, 61, 0, 0, 0, 0, []),
  (61, .if_icmp .le 12, 64, 73, 0, 0, 0, []),
  (68, .iload_n 2, 69, 0, 0, 0, 0, []),
  (73, .return_, 74, 0, 0, 0, 0, [])]
noncomputable def t_SW_fine : List En := [
  (0, .aload_n 0, 1, 0, 0, 0, 0, []),
  (1, .iconst 0, 2, 0, 0, 0, 0, []),
  (2, .putfield 60, 5, 8, 7, 0, 0, []),
  (5, .iload_n 1, 6, 0, 0, 0, 0, []),
  (6, .ireturn, 7, 0, 0, 0, 0, [])]
noncomputable def t_SW_set : List En := [
  (0, .iload_n 1, 1, 0, 0, 0, 0, []),
  (1, .invokestatic 64, 4, 2, 1, 0, 0, []),
  (4, .ifCond .ne 6, 7, 10, 0, 0, 0, []),
  (7, .ldc 72, 9, 0, 0, (-1000001), 0, []),
  (9, .ireturn, 10, 0, 0, 0, 0, []),
  (10, .aload_n 0, 11, 0, 0, 0, 0, []),
  (11, .getfield 10, 14, 8, 0, 0, 0, []),
  (14, .iload_n 1, 15, 0, 0, 0, 0, []),
  (15, .iload_n 2, 16, 0, 0, 0, 0, []),
  (16, .iconst 1, 17, 0, 0, 1, 0, []),
  (17, .invokevirtual 84, 20, 10, 3, 0, 0, []),
  (20, .istore 4, 22, 0, 0, 0, 0, []),
  (22, .iload 4, 24, 0, 0, 0, 0, []),
  (24, .ifCond .eq 10, 27, 34, 0, 0, 0, []),
  (27, .aload_n 0, 28, 0, 0, 0, 0, []),
  (28, .iload 4, 30, 0, 0, 0, 0, []),
  (30, .invokevirtual 73, 33, 4, 1, 0, 0, []),
  (33, .ireturn, 34, 0, 0, 0, 0, []),
  (34, .aload_n 0, 35, 0, 0, 0, 0, []),
  (35, .aload_n 0, 36, 0, 0, 0, 0, []),
  (36, .getfield 10, 39, 8, 0, 0, 0, []),
  (39, .iload_n 1, 40, 0, 0, 0, 0, []),
  (40, .iload_n 2, 41, 0, 0, 0, 0, []),
  (41, .iload_n 3, 42, 0, 0, 0, 0, []),
  (42, .invokevirtual 88, 45, 13, 3, 0, 0, []),
  (45, .invokevirtual 81, 48, 8, 1, 0, 0, []),
  (48, .ireturn, 49, 0, 0, 0, 0, [])]
noncomputable def t_Sheets_findingAt : List En := [
  (0, .aload_n 0, 1, 0, 0, 0, 0, []),
  (1, .iload_n 1, 2, 0, 0, 0, 0, []),
  (2, .invokevirtual 31, 5, 11, 1, 0, 0, []),
  (5, .ifCond .eq 5, 8, 10, 0, 0, 0, []),
  (8, .iconst 1, 9, 0, 0, 1, 0, []),
  (9, .ireturn, 10, 0, 0, 0, 0, []),
  (10, .aload_n 0, 11, 0, 0, 0, 0, []),
  (11, .iload_n 1, 12, 0, 0, 0, 0, []),
  (12, .iload_n 2, 13, 0, 0, 0, 0, []),
  (13, .iload_n 3, 14, 0, 0, 0, 0, []),
  (14, .invokevirtual 35, 17, 12, 3, 0, 0, []),
  (17, .ifCond .eq 7, 20, 24, 0, 0, 0, []),
  (20, .iconst 0, 21, 0, 0, 0, 0, []),
  (21, .goto 4, 24, 25, 0, 0, 0, []),
  (24, .iconst 2, 25, 0, 0, 2, 0, []),
  (25, .ireturn, 26, 0, 0, 0, 0, [])]
noncomputable def t_Sheets_isMissing : List En := [
  (0, .aload_n 0, 1, 0, 0, 0, 0, []),
  (1, .getfield 18, 4, 5, 2, 0, 0, []),
  (4, .iload_n 1, 5, 0, 0, 0, 0, []),
  (5, .iaload, 6, 0, 0, 0, 0, []),
  (6, .iconst (-1), 7, 0, 0, (-1), 0, []),
  (7, .if_icmp .ne 7, 10, 14, 0, 0, 0, []),
  (10, .iconst 1, 11, 0, 0, 1, 0, []),
  (11, .goto 4, 14, 15, 0, 0, 0, []),
  (14, .iconst 0, 15, 0, 0, 0, 0, []),
  (15, .ireturn, 16, 0, 0, 0, 0, [])]
noncomputable def t_Sheets_hasItems : List En := [
  (0, .iload_n 2, 1, 0, 0, 0, 0, []),
  (1, .ifCond .lt 23, 4, 24, 0, 0, 0, []),
  (4, .iload_n 3, 5, 0, 0, 0, 0, []),
  (5, .ifCond .lt 19, 8, 24, 0, 0, 0, []),
  (8, .iload_n 3, 9, 0, 0, 0, 0, []),
  (9, .aload_n 0, 10, 0, 0, 0, 0, []),
  (10, .getfield 18, 13, 5, 2, 0, 0, []),
  (13, .iload_n 1, 14, 0, 0, 0, 0, []),
  (14, .iaload, 15, 0, 0, 0, 0, []),
  (15, .iload_n 2, 16, 0, 0, 0, 0, []),
  (16, .isub, 17, 0, 0, 0, 0, []),
  (17, .if_icmp .gt 7, 20, 24, 0, 0, 0, []),
  (20, .iconst 1, 21, 0, 0, 1, 0, []),
  (21, .goto 4, 24, 25, 0, 0, 0, []),
  (24, .iconst 0, 25, 0, 0, 0, 0, []),
  (25, .ireturn, 26, 0, 0, 0, 0, [])]
noncomputable def t_Sheets_put : List En := [
  (0, .aload_n 0, 1, 0, 0, 0, 0, []),
  (1, .getfield 15, 4, 5, 1, 0, 0, []),
  (4, .iload_n 1, 5, 0, 0, 0, 0, []),
  (5, .iaload, 6, 0, 0, 0, 0, []),
  (6, .iload_n 3, 7, 0, 0, 0, 0, []),
  (7, .invokestatic 41, 10, 14, 2, 0, 0, []),
  (10, .istore 4, 12, 0, 0, 0, 0, []),
  (12, .aload_n 0, 13, 0, 0, 0, 0, []),
  (13, .getfield 11, 16, 5, 0, 0, 0, []),
  (16, .iload_n 1, 17, 0, 0, 0, 0, []),
  (17, .bipush 100, 19, 0, 0, 100, 0, []),
  (19, .imul, 20, 0, 0, 0, 0, []),
  (20, .iload_n 2, 21, 0, 0, 0, 0, []),
  (21, .iadd, 22, 0, 0, 0, 0, []),
  (22, .iload 4, 24, 0, 0, 0, 0, []),
  (24, .iastore, 25, 0, 0, 0, 0, []),
  (25, .iload 4, 27, 0, 0, 0, 0, []),
  (27, .ireturn, 28, 0, 0, 0, 0, [])]
noncomputable def t_Sheets_cutToLane : List En := [
  (0, .iload_n 0, 1, 0, 0, 0, 0, []),
  (1, .lookupswitch 33 #[(0, 27), (1, 30)], 28, 34, 0, 0, 0, [28, 31]),
  (28, .iload_n 1, 29, 0, 0, 0, 0, []),
  (29, .i2b, 30, 0, 0, 0, 0, []),
  (30, .ireturn, 31, 0, 0, 0, 0, []),
  (31, .iload_n 1, 32, 0, 0, 0, 0, []),
  (32, .i2s, 33, 0, 0, 0, 0, []),
  (33, .ireturn, 34, 0, 0, 0, 0, []),
  (34, .iload_n 1, 35, 0, 0, 0, 0, []),
  (35, .ireturn, 36, 0, 0, 0, 0, [])]
noncomputable def t_SW_copy : List En := [
  (0, .iload_n 1, 1, 0, 0, 0, 0, []),
  (1, .invokestatic 64, 4, 2, 1, 0, 0, []),
  (4, .ifCond .eq 10, 7, 14, 0, 0, 0, []),
  (7, .iload_n 3, 8, 0, 0, 0, 0, []),
  (8, .invokestatic 64, 11, 2, 1, 0, 0, []),
  (11, .ifCond .ne 6, 14, 17, 0, 0, 0, []),
  (14, .ldc 72, 16, 0, 0, (-1000001), 0, []),
  (16, .ireturn, 17, 0, 0, 0, 0, []),
  (17, .aload_n 0, 18, 0, 0, 0, 0, []),
  (18, .getfield 10, 21, 8, 0, 0, 0, []),
  (21, .iload_n 1, 22, 0, 0, 0, 0, []),
  (22, .invokevirtual 91, 25, 11, 1, 0, 0, []),
  (25, .ifCond .ne 14, 28, 39, 0, 0, 0, []),
  (28, .aload_n 0, 29, 0, 0, 0, 0, []),
  (29, .getfield 10, 32, 8, 0, 0, 0, []),
  (32, .iload_n 3, 33, 0, 0, 0, 0, []),
  (33, .invokevirtual 91, 36, 11, 1, 0, 0, []),
  (36, .ifCond .eq 9, 39, 45, 0, 0, 0, []),
  (39, .aload_n 0, 40, 0, 0, 0, 0, []),
  (40, .iconst 1, 41, 0, 0, 1, 0, []),
  (41, .invokevirtual 73, 44, 4, 1, 0, 0, []),
  (44, .ireturn, 45, 0, 0, 0, 0, []),
  (45, .aload_n 0, 46, 0, 0, 0, 0, []),
  (46, .getfield 10, 49, 8, 0, 0, 0, []),
  (49, .iload_n 1, 50, 0, 0, 0, 0, []),
  (50, .iload_n 3, 51, 0, 0, 0, 0, []),
  (51, .invokevirtual 94, 54, 16, 2, 0, 0, []),
  (54, .ifCond .ne 9, 57, 63, 0, 0, 0, []),
  (57, .aload_n 0, 58, 0, 0, 0, 0, []),
  (58, .iconst 5, 59, 0, 0, 5, 0, []),
  (59, .invokevirtual 73, 62, 4, 1, 0, 0, []),
  (62, .ireturn, 63, 0, 0, 0, 0, []),
  (63, .aload_n 0, 64, 0, 0, 0, 0, []),
  (64, .getfield 10, 67, 8, 0, 0, 0, []),
  (67, .iload_n 1, 68, 0, 0, 0, 0, []),
  (68, .iload_n 2, 69, 0, 0, 0, 0, []),
  (69, .iload 5, 71, 0, 0, 0, 0, []),
  (71, .invokevirtual 98, 74, 12, 3, 0, 0, []),
  (74, .ifCond .eq 18, 77, 92, 0, 0, 0, []),
  (77, .aload_n 0, 78, 0, 0, 0, 0, []),
  (78, .getfield 10, 81, 8, 0, 0, 0, []),
  (81, .iload_n 3, 82, 0, 0, 0, 0, []),
  (82, .iload 4, 84, 0, 0, 0, 0, []),
  (84, .iload 5, 86, 0, 0, 0, 0, []),
  (86, .invokevirtual 98, 89, 12, 3, 0, 0, []),
  (89, .ifCond .ne 9, 92, 98, 0, 0, 0, []),
  (92, .aload_n 0, 93, 0, 0, 0, 0, []),
  (93, .iconst 2, 94, 0, 0, 2, 0, []),
  (94, .invokevirtual 73, 97, 4, 1, 0, 0, []),
  (97, .ireturn, 98, 0, 0, 0, 0, []),
  (98, .aload_n 0, 99, 0, 0, 0, 0, []),
  (99, .getfield 10, 102, 8, 0, 0, 0, []),
  (102, .iload_n 1, 103, 0, 0, 0, 0, []),
  (103, .iload_n 2, 104, 0, 0, 0, 0, []),
  (104, .iload_n 3, 105, 0, 0, 0, 0, []),
  (105, .iload 4, 107, 0, 0, 0, 0, []),
  (107, .iload 5, 109, 0, 0, 0, 0, []),
  (109, .invokevirtual 101, 112, 17, 5, 0, 0, []),
  (112, .aload_n 0, 113, 0, 0, 0, 0, []),
  (113, .iload 5, 115, 0, 0, 0, 0, []),
  (115, .invokevirtual 81, 118, 8, 1, 0, 0, []),
  (118, .ireturn, 119, 0, 0, 0, 0, [])]
noncomputable def t_Sheets_areOfOneLane : List En := [
  (0, .aload_n 0, 1, 0, 0, 0, 0, []),
  (1, .getfield 15, 4, 5, 1, 0, 0, []),
  (4, .iload_n 1, 5, 0, 0, 0, 0, []),
  (5, .iaload, 6, 0, 0, 0, 0, []),
  (6, .aload_n 0, 7, 0, 0, 0, 0, []),
  (7, .getfield 15, 10, 5, 1, 0, 0, []),
  (10, .iload_n 2, 11, 0, 0, 0, 0, []),
  (11, .iaload, 12, 0, 0, 0, 0, []),
  (12, .if_icmp .ne 7, 15, 19, 0, 0, 0, []),
  (15, .iconst 1, 16, 0, 0, 1, 0, []),
  (16, .goto 4, 19, 20, 0, 0, 0, []),
  (19, .iconst 0, 20, 0, 0, 0, 0, []),
  (20, .ireturn, 21, 0, 0, 0, 0, [])]
noncomputable def t_Sheets_move : List En := [
  (0, .aload_n 0, 1, 0, 0, 0, 0, []),
  (1, .getfield 11, 4, 5, 0, 0, 0, []),
  (4, .iload_n 1, 5, 0, 0, 0, 0, []),
  (5, .bipush 100, 7, 0, 0, 100, 0, []),
  (7, .imul, 8, 0, 0, 0, 0, []),
  (8, .iload_n 2, 9, 0, 0, 0, 0, []),
  (9, .iadd, 10, 0, 0, 0, 0, []),
  (10, .aload_n 0, 11, 0, 0, 0, 0, []),
  (11, .getfield 11, 14, 5, 0, 0, 0, []),
  (14, .iload_n 3, 15, 0, 0, 0, 0, []),
  (15, .bipush 100, 17, 0, 0, 100, 0, []),
  (17, .imul, 18, 0, 0, 0, 0, []),
  (18, .iload 4, 20, 0, 0, 0, 0, []),
  (20, .iadd, 21, 0, 0, 0, 0, []),
  (21, .iload 5, 23, 0, 0, 0, 0, []),
  (23, .invokestatic 45, 26, 903, 0, 0, 0, []),
  (26, .return_, 27, 0, 0, 0, 0, [])]
noncomputable def t_SW_drop : List En := [
  (0, .iload_n 1, 1, 0, 0, 0, 0, []),
  (1, .invokestatic 64, 4, 2, 1, 0, 0, []),
  (4, .ifCond .ne 6, 7, 10, 0, 0, 0, []),
  (7, .ldc 72, 9, 0, 0, (-1000001), 0, []),
  (9, .ireturn, 10, 0, 0, 0, 0, []),
  (10, .aload_n 0, 11, 0, 0, 0, 0, []),
  (11, .getfield 10, 14, 8, 0, 0, 0, []),
  (14, .iload_n 1, 15, 0, 0, 0, 0, []),
  (15, .invokevirtual 91, 18, 11, 1, 0, 0, []),
  (18, .ifCond .eq 9, 21, 27, 0, 0, 0, []),
  (21, .aload_n 0, 22, 0, 0, 0, 0, []),
  (22, .iconst 1, 23, 0, 0, 1, 0, []),
  (23, .invokevirtual 73, 26, 4, 1, 0, 0, []),
  (26, .ireturn, 27, 0, 0, 0, 0, []),
  (27, .aload_n 0, 28, 0, 0, 0, 0, []),
  (28, .aload_n 0, 29, 0, 0, 0, 0, []),
  (29, .getfield 10, 32, 8, 0, 0, 0, []),
  (32, .iload_n 1, 33, 0, 0, 0, 0, []),
  (33, .invokevirtual 105, 36, 19, 1, 0, 0, []),
  (36, .invokevirtual 81, 39, 8, 1, 0, 0, []),
  (39, .ireturn, 40, 0, 0, 0, 0, [])]
noncomputable def t_Sheets_remove : List En := [
  (0, .aload_n 0, 1, 0, 0, 0, 0, []),
  (1, .getfield 18, 4, 5, 2, 0, 0, []),
  (4, .iload_n 1, 5, 0, 0, 0, 0, []),
  (5, .iaload, 6, 0, 0, 0, 0, []),
  (6, .istore_n 2, 7, 0, 0, 0, 0, []),
  (7, .aload_n 0, 8, 0, 0, 0, 0, []),
  (8, .getfield 18, 11, 5, 2, 0, 0, []),
  (11, .iload_n 1, 12, 0, 0, 0, 0, []),
  (12, .iconst (-1), 13, 0, 0, (-1), 0, []),
  (13, .iastore, 14, 0, 0, 0, 0, []),
  (14, .iload_n 2, 15, 0, 0, 0, 0, []),
  (15, .ireturn, 16, 0, 0, 0, 0, [])]
noncomputable def t_SW_wall : List En := [
  (0, .iload_n 1, 1, 0, 0, 0, 0, []),
  (1, .invokestatic 108, 4, 21, 1, 0, 0, []),
  (4, .ifCond .eq 11, 7, 15, 0, 0, 0, []),
  (7, .iload_n 1, 8, 0, 0, 0, 0, []),
  (8, .iload_n 2, 9, 0, 0, 0, 0, []),
  (9, .invokestatic 111, 12, 22, 2, 0, 0, []),
  (12, .ifCond .ne 6, 15, 18, 0, 0, 0, []),
  (15, .ldc 72, 17, 0, 0, (-1000001), 0, []),
  (17, .ireturn, 18, 0, 0, 0, 0, []),
  (18, .aload_n 0, 19, 0, 0, 0, 0, []),
  (19, .getfield 19, 22, 8, 1, 0, 0, []),
  (22, .iload_n 1, 23, 0, 0, 0, 0, []),
  (23, .iload_n 2, 24, 0, 0, 0, 0, []),
  (24, .invokevirtual 114, 27, 23, 2, 0, 0, []),
  (27, .ireturn, 28, 0, 0, 0, 0, [])]
noncomputable def t_Wall_isMeasure : List En := [
  (0, .iload_n 0, 1, 0, 0, 0, 0, []),
  (1, .iconst 0, 2, 0, 0, 0, 0, []),
  (2, .iconst 4, 3, 0, 0, 4, 0, []),
  (3, .invokestatic 25, 6, 3, 3, 0, 0, []),
  (6, .ireturn, 7, 0, 0, 0, 0, [])]
noncomputable def t_Wall_mayMeasure : List En := [
  (0, .iload_n 1, 1, 0, 0, 0, 0, []),
  (1, .getstatic 29, 4, 44, 0, 0, 0, []),
  (4, .iload_n 0, 5, 0, 0, 0, 0, []),
  (5, .iaload, 6, 0, 0, 0, 0, []),
  (6, .getstatic 32, 9, 45, 0, 0, 0, []),
  (9, .iload_n 0, 10, 0, 0, 0, 0, []),
  (10, .iaload, 11, 0, 0, 0, 0, []),
  (11, .invokestatic 25, 14, 3, 3, 0, 0, []),
  (14, .ireturn, 15, 0, 0, 0, 0, [])]
noncomputable def t_Wall_change : List En := [
  (0, .aload_n 0, 1, 0, 0, 0, 0, []),
  (1, .getfield 9, 4, 7, 0, 0, 0, []),
  (4, .iload_n 1, 5, 0, 0, 0, 0, []),
  (5, .iaload, 6, 0, 0, 0, 0, []),
  (6, .istore_n 3, 7, 0, 0, 0, 0, []),
  (7, .aload_n 0, 8, 0, 0, 0, 0, []),
  (8, .getfield 9, 11, 7, 0, 0, 0, []),
  (11, .iload_n 1, 12, 0, 0, 0, 0, []),
  (12, .iload_n 2, 13, 0, 0, 0, 0, []),
  (13, .iastore, 14, 0, 0, 0, 0, []),
  (14, .iload_n 3, 15, 0, 0, 0, 0, []),
  (15, .ireturn, 16, 0, 0, 0, 0, [])]
noncomputable def t_SW_layer : List En := [
  (0, .iload_n 1, 1, 0, 0, 0, 0, []),
  (1, .iload_n 2, 2, 0, 0, 0, 0, []),
  (2, .invokestatic 118, 5, 25, 2, 0, 0, []),
  (5, .ifCond .ne 6, 8, 11, 0, 0, 0, []),
  (8, .ldc 72, 10, 0, 0, (-1000001), 0, []),
  (10, .ireturn, 11, 0, 0, 0, 0, []),
  (11, .aload_n 0, 12, 0, 0, 0, 0, []),
  (12, .getfield 19, 15, 8, 1, 0, 0, []),
  (15, .invokevirtual 121, 18, 26, 0, 0, 0, []),
  (18, .ifCond .eq 6, 21, 24, 0, 0, 0, []),
  (21, .ldc 125, 23, 0, 0, (-1000003), 0, []),
  (23, .ireturn, 24, 0, 0, 0, 0, []),
  (24, .aload_n 0, 25, 0, 0, 0, 0, []),
  (25, .getfield 19, 28, 8, 1, 0, 0, []),
  (28, .iload_n 1, 29, 0, 0, 0, 0, []),
  (29, .iload_n 2, 30, 0, 0, 0, 0, []),
  (30, .invokevirtual 126, 33, 27, 2, 0, 0, []),
  (33, .ireturn, 34, 0, 0, 0, 0, [])]
noncomputable def t_Wall_mayBeLayer : List En := [
  (0, .iload_n 0, 1, 0, 0, 0, 0, []),
  (1, .iconst 1, 2, 0, 0, 1, 0, []),
  (2, .bipush 10, 4, 0, 0, 10, 0, []),
  (4, .invokestatic 25, 7, 3, 3, 0, 0, []),
  (7, .ifCond .eq 17, 10, 24, 0, 0, 0, []),
  (10, .iload_n 1, 11, 0, 0, 0, 0, []),
  (11, .iconst 1, 12, 0, 0, 1, 0, []),
  (12, .ldc 35, 14, 0, 0, 60000, 0, []),
  (14, .invokestatic 25, 17, 3, 3, 0, 0, []),
  (17, .ifCond .eq 7, 20, 24, 0, 0, 0, []),
  (20, .iconst 1, 21, 0, 0, 1, 0, []),
  (21, .goto 4, 24, 25, 0, 0, 0, []),
  (24, .iconst 0, 25, 0, 0, 0, 0, []),
  (25, .ireturn, 26, 0, 0, 0, 0, [])]
noncomputable def t_Wall_isFull : List En := [
  (0, .aload_n 0, 1, 0, 0, 0, 0, []),
  (1, .getfield 21, 4, 7, 3, 0, 0, []),
  (4, .bipush 6, 6, 0, 0, 6, 0, []),
  (6, .if_icmp .lt 7, 9, 13, 0, 0, 0, []),
  (9, .iconst 1, 10, 0, 0, 1, 0, []),
  (10, .goto 4, 13, 14, 0, 0, 0, []),
  (13, .iconst 0, 14, 0, 0, 0, 0, []),
  (14, .ireturn, 15, 0, 0, 0, 0, [])]
noncomputable def t_Wall_addLayer : List En := [
  (0, .aload_n 0, 1, 0, 0, 0, 0, []),
  (1, .getfield 21, 4, 7, 3, 0, 0, []),
  (4, .istore_n 3, 5, 0, 0, 0, 0, []),
  (5, .aload_n 0, 6, 0, 0, 0, 0, []),
  (6, .dup, 7, 0, 0, 0, 0, []),
  (7, .getfield 21, 10, 7, 3, 0, 0, []),
  (10, .iconst 1, 11, 0, 0, 1, 0, []),
  (11, .iadd, 12, 0, 0, 0, 0, []),
  (12, .putfield 21, 15, 7, 3, 0, 0, []),
  (15, .aload_n 0, 16, 0, 0, 0, 0, []),
  (16, .iload_n 3, 17, 0, 0, 0, 0, []),
  (17, .iload_n 1, 18, 0, 0, 0, 0, []),
  (18, .iload_n 2, 19, 0, 0, 0, 0, []),
  (19, .invokevirtual 36, 22, 28, 3, 0, 0, []),
  (22, .iload_n 3, 23, 0, 0, 0, 0, []),
  (23, .ireturn, 24, 0, 0, 0, 0, [])]
noncomputable def t_Wall_putLayer : List En := [
  (0, .aload_n 0, 1, 0, 0, 0, 0, []),
  (1, .getfield 15, 4, 7, 1, 0, 0, []),
  (4, .iload_n 1, 5, 0, 0, 0, 0, []),
  (5, .iload_n 2, 6, 0, 0, 0, 0, []),
  (6, .iastore, 7, 0, 0, 0, 0, []),
  (7, .aload_n 0, 8, 0, 0, 0, 0, []),
  (8, .getfield 18, 11, 7, 2, 0, 0, []),
  (11, .iload_n 1, 12, 0, 0, 0, 0, []),
  (12, .iload_n 3, 13, 0, 0, 0, 0, []),
  (13, .iastore, 14, 0, 0, 0, 0, []),
  (14, .return_, 15, 0, 0, 0, 0, [])]
noncomputable def t_SW_relay : List En := [
  (0, .aload_n 0, 1, 0, 0, 0, 0, []),
  (1, .getfield 19, 4, 8, 1, 0, 0, []),
  (4, .iload_n 1, 5, 0, 0, 0, 0, []),
  (5, .invokevirtual 129, 8, 30, 1, 0, 0, []),
  (8, .ifCond .eq 11, 11, 19, 0, 0, 0, []),
  (11, .iload_n 2, 12, 0, 0, 0, 0, []),
  (12, .iload_n 3, 13, 0, 0, 0, 0, []),
  (13, .invokestatic 118, 16, 25, 2, 0, 0, []),
  (16, .ifCond .ne 6, 19, 22, 0, 0, 0, []),
  (19, .ldc 72, 21, 0, 0, (-1000001), 0, []),
  (21, .ireturn, 22, 0, 0, 0, 0, []),
  (22, .aload_n 0, 23, 0, 0, 0, 0, []),
  (23, .getfield 19, 26, 8, 1, 0, 0, []),
  (26, .iload_n 1, 27, 0, 0, 0, 0, []),
  (27, .iload_n 2, 28, 0, 0, 0, 0, []),
  (28, .iload_n 3, 29, 0, 0, 0, 0, []),
  (29, .invokevirtual 132, 32, 28, 3, 0, 0, []),
  (32, .iconst 1, 33, 0, 0, 1, 0, []),
  (33, .ireturn, 34, 0, 0, 0, 0, [])]
noncomputable def t_Wall_hasLayer : List En := [
  (0, .iload_n 1, 1, 0, 0, 0, 0, []),
  (1, .iconst 0, 2, 0, 0, 0, 0, []),
  (2, .aload_n 0, 3, 0, 0, 0, 0, []),
  (3, .getfield 21, 6, 7, 3, 0, 0, []),
  (6, .iconst 1, 7, 0, 0, 1, 0, []),
  (7, .isub, 8, 0, 0, 0, 0, []),
  (8, .invokestatic 25, 11, 3, 3, 0, 0, []),
  (11, .ireturn, 12, 0, 0, 0, 0, [])]
noncomputable def t_SW_told : List En := [
  (0, .iload_n 2, 1, 0, 0, 0, 0, []),
  (1, .invokestatic 108, 4, 21, 1, 0, 0, []),
  (4, .ifCond .eq 12, 7, 16, 0, 0, 0, []),
  (7, .aload_n 0, 8, 0, 0, 0, 0, []),
  (8, .getfield 19, 11, 8, 1, 0, 0, []),
  (11, .iload_n 2, 12, 0, 0, 0, 0, []),
  (12, .invokevirtual 135, 15, 32, 1, 0, 0, []),
  (15, .ireturn, 16, 0, 0, 0, 0, []),
  (16, .aload_n 0, 17, 0, 0, 0, 0, []),
  (17, .getfield 19, 20, 8, 1, 0, 0, []),
  (20, .iload_n 1, 21, 0, 0, 0, 0, []),
  (21, .invokevirtual 129, 24, 30, 1, 0, 0, []),
  (24, .ifCond .ne 6, 27, 30, 0, 0, 0, []),
  (27, .ldc 72, 29, 0, 0, (-1000001), 0, []),
  (29, .ireturn, 30, 0, 0, 0, 0, []),
  (30, .iload_n 2, 31, 0, 0, 0, 0, []),
  (31, .tableswitch 60 5 7 #[25, 34, 43], 56, 91, 0, 0, 0, [56, 65, 74]),
  (56, .aload_n 0, 57, 0, 0, 0, 0, []),
  (57, .getfield 19, 60, 8, 1, 0, 0, []),
  (60, .iload_n 1, 61, 0, 0, 0, 0, []),
  (61, .invokevirtual 138, 64, 33, 1, 0, 0, []),
  (64, .ireturn, 65, 0, 0, 0, 0, []),
  (65, .aload_n 0, 66, 0, 0, 0, 0, []),
  (66, .getfield 19, 69, 8, 1, 0, 0, []),
  (69, .iload_n 1, 70, 0, 0, 0, 0, []),
  (70, .invokevirtual 141, 73, 34, 1, 0, 0, []),
  (73, .ireturn, 74, 0, 0, 0, 0, []),
  (74, .aload_n 0, 75, 0, 0, 0, 0, []),
  (75, .getfield 19, 78, 8, 1, 0, 0, []),
  (78, .iload_n 1, 79, 0, 0, 0, 0, []),
  (79, .invokevirtual 144, 82, 35, 1, 0, 0, []),
  (82, .ifCond .eq 7, 85, 89, 0, 0, 0, []),
  (85, .iconst 1, 86, 0, 0, 1, 0, []),
  (86, .goto 4, 89, 90, 0, 0, 0, []),
  (89, .iconst 0, 90, 0, 0, 0, 0, []),
  (90, .ireturn, 91, 0, 0, 0, 0, []),
  (91, .ldc 72, 93, 0, 0, (-1000001), 0, []),
  (93, .ireturn, 94, 0, 0, 0, 0, [])]
noncomputable def t_Wall_measure : List En := [
  (0, .aload_n 0, 1, 0, 0, 0, 0, []),
  (1, .getfield 9, 4, 7, 0, 0, 0, []),
  (4, .iload_n 1, 5, 0, 0, 0, 0, []),
  (5, .iaload, 6, 0, 0, 0, 0, []),
  (6, .ireturn, 7, 0, 0, 0, 0, [])]
noncomputable def t_Wall_thickOf : List En := [
  (0, .aload_n 0, 1, 0, 0, 0, 0, []),
  (1, .getfield 15, 4, 7, 1, 0, 0, []),
  (4, .iload_n 1, 5, 0, 0, 0, 0, []),
  (5, .iaload, 6, 0, 0, 0, 0, []),
  (6, .ireturn, 7, 0, 0, 0, 0, [])]
noncomputable def t_Wall_weightOf : List En := [
  (0, .aload_n 0, 1, 0, 0, 0, 0, []),
  (1, .getfield 18, 4, 7, 2, 0, 0, []),
  (4, .iload_n 1, 5, 0, 0, 0, 0, []),
  (5, .iaload, 6, 0, 0, 0, 0, []),
  (6, .ireturn, 7, 0, 0, 0, 0, [])]
noncomputable def t_Wall_holds : List En := [
  (0, .iload_n 1, 1, 0, 0, 0, 0, []),
  (1, .aload_n 0, 2, 0, 0, 0, 0, []),
  (2, .getfield 21, 5, 7, 3, 0, 0, []),
  (5, .iconst 1, 6, 0, 0, 1, 0, []),
  (6, .isub, 7, 0, 0, 0, 0, []),
  (7, .if_icmp .ne 5, 10, 12, 0, 0, 0, []),
  (10, .iconst 1, 11, 0, 0, 1, 0, []),
  (11, .ireturn, 12, 0, 0, 0, 0, []),
  (12, .aload_n 0, 13, 0, 0, 0, 0, []),
  (13, .getfield 18, 16, 7, 2, 0, 0, []),
  (16, .iload_n 1, 17, 0, 0, 0, 0, []),
  (17, .iconst 1, 18, 0, 0, 1, 0, []),
  (18, .iadd, 19, 0, 0, 0, 0, []),
  (19, .iaload, 20, 0, 0, 0, 0, []),
  (20, .istore_n 2, 21, 0, 0, 0, 0, []),
  (21, .aload_n 0, 22, 0, 0, 0, 0, []),
  (22, .getfield 18, 25, 7, 2, 0, 0, []),
  (25, .iload_n 1, 26, 0, 0, 0, 0, []),
  (26, .iaload, 27, 0, 0, 0, 0, []),
  (27, .iload_n 2, 28, 0, 0, 0, 0, []),
  (28, .if_icmp .le 24, 31, 52, 0, 0, 0, []),
  (31, .aload_n 0, 32, 0, 0, 0, 0, []),
  (32, .getfield 18, 35, 7, 2, 0, 0, []),
  (35, .iload_n 1, 36, 0, 0, 0, 0, []),
  (36, .iaload, 37, 0, 0, 0, 0, []),
  (37, .aload_n 0, 38, 0, 0, 0, 0, []),
  (38, .getfield 9, 41, 7, 0, 0, 0, []),
  (41, .iconst 4, 42, 0, 0, 4, 0, []),
  (42, .iaload, 43, 0, 0, 0, 0, []),
  (43, .iload_n 2, 44, 0, 0, 0, 0, []),
  (44, .imul, 45, 0, 0, 0, 0, []),
  (45, .if_icmp .gt 7, 48, 52, 0, 0, 0, []),
  (48, .iconst 1, 49, 0, 0, 1, 0, []),
  (49, .goto 4, 52, 53, 0, 0, 0, []),
  (52, .iconst 0, 53, 0, 0, 0, 0, []),
  (53, .ireturn, 54, 0, 0, 0, 0, [])]
noncomputable def t_SW_wide : List En := [
  (0, .iload_n 1, 1, 0, 0, 0, 0, []),
  (1, .iconst 0, 2, 0, 0, 0, 0, []),
  (2, .aload_n 0, 3, 0, 0, 0, 0, []),
  (3, .getfield 19, 6, 8, 1, 0, 0, []),
  (6, .invokevirtual 147, 9, 37, 0, 0, 0, []),
  (9, .invokestatic 68, 12, 3, 3, 0, 0, []),
  (12, .ifCond .eq 21, 15, 33, 0, 0, 0, []),
  (15, .iload_n 2, 16, 0, 0, 0, 0, []),
  (16, .iconst 0, 17, 0, 0, 0, 0, []),
  (17, .aload_n 0, 18, 0, 0, 0, 0, []),
  (18, .getfield 19, 21, 8, 1, 0, 0, []),
  (21, .iconst 0, 22, 0, 0, 0, 0, []),
  (22, .invokevirtual 135, 25, 32, 1, 0, 0, []),
  (25, .iconst 1, 26, 0, 0, 1, 0, []),
  (26, .isub, 27, 0, 0, 0, 0, []),
  (27, .invokestatic 68, 30, 3, 3, 0, 0, []),
  (30, .ifCond .ne 6, 33, 36, 0, 0, 0, []),
  (33, .ldc 72, 35, 0, 0, (-1000001), 0, []),
  (35, .ireturn, 36, 0, 0, 0, 0, []),
  (36, .aload_n 0, 37, 0, 0, 0, 0, []),
  (37, .getfield 19, 40, 8, 1, 0, 0, []),
  (40, .iload_n 1, 41, 0, 0, 0, 0, []),
  (41, .iload_n 2, 42, 0, 0, 0, 0, []),
  (42, .invokevirtual 151, 45, 38, 2, 0, 0, []),
  (45, .ireturn, 46, 0, 0, 0, 0, [])]
noncomputable def t_Wall_layers : List En := [
  (0, .aload_n 0, 1, 0, 0, 0, 0, []),
  (1, .getfield 21, 4, 7, 3, 0, 0, []),
  (4, .ireturn, 5, 0, 0, 0, 0, [])]
noncomputable def t_Wall_widthWithout : List En := [
  (0, .iconst 0, 1, 0, 0, 0, 0, []),
  (1, .istore_n 3, 2, 0, 0, 0, 0, []),
  (2, .iconst 0, 3, 0, 0, 0, 0, []),
  (3, .istore 4, 5, 0, 0, 0, 0, []),
  (5, .iload 4, 7, 0, 0, 0, 0, []),
  (7, .iload_n 1, 8, 0, 0, 0, 0, []),
  (8, .if_icmp .ge 19, 11, 27, 0, 0, 0, []),
  (11, .iload_n 3, 12, 0, 0, 0, 0, []),
  (12, .aload_n 0, 13, 0, 0, 0, 0, []),
  (13, .getfield 15, 16, 7, 1, 0, 0, []),
  (16, .iload 4, 18, 0, 0, 0, 0, []),
  (18, .iaload, 19, 0, 0, 0, 0, []),
  (19, .iadd, 20, 0, 0, 0, 0, []),
  (20, .istore_n 3, 21, 0, 0, 0, 0, []),
  (21, .iinc 4 1, 24, 0, 0, 1, 0, []),
  (24, .goto (-19), 27, 5, 0, 0, 0, []),
  (27, .aload_n 0, 28, 0, 0, 0, 0, []),
  (28, .getfield 9, 31, 7, 0, 0, 0, []),
  (31, .iconst 0, 32, 0, 0, 0, 0, []),
  (32, .iaload, 33, 0, 0, 0, 0, []),
  (33, .istore 4, 35, 0, 0, 0, 0, []),
  (35, .aload_n 0, 36, 0, 0, 0, 0, []),
  (36, .getfield 9, 39, 7, 0, 0, 0, []),
  (39, .iconst 2, 40, 0, 0, 2, 0, []),
  (40, .iaload, 41, 0, 0, 0, 0, []),
  (41, .istore 5, 43, 0, 0, 0, 0, []),
  (43, .iload_n 2, 44, 0, 0, 0, 0, []),
  (44, .iload 4, 46, 0, 0, 0, 0, []),
  (46, .iload_n 3, 47, 0, 0, 0, 0, []),
  (47, .isub, 48, 0, 0, 0, 0, []),
  (48, .if_icmp .lt 5, 51, 53, 0, 0, 0, []),
  (51, .iconst 0, 52, 0, 0, 0, 0, []),
  (52, .ireturn, 53, 0, 0, 0, 0, []),
  (53, .aload_n 0, 54, 0, 0, 0, 0, []),
  (54, .getfield 9, 57, 7, 0, 0, 0, []),
  (57, .iconst 1, 58, 0, 0, 1, 0, []),
  (58, .iaload, 59, 0, 0, 0, 0, []),
  (59, .iconst 2, 60, 0, 0, 2, 0, []),
  (60, .iload 4, 62, 0, 0, 0, 0, []),
  (62, .iload_n 2, 63, 0, 0, 0, 0, []),
  (63, .isub, 64, 0, 0, 0, 0, []),
  (64, .imul, 65, 0, 0, 0, 0, []),
  (65, .iload 5, 67, 0, 0, 0, 0, []),
  (67, .imul, 68, 0, 0, 0, 0, []),
  (68, .bipush 10, 70, 0, 0, 10, 0, []),
  (70, .idiv, 71, 0, 0, 0, 0, []),
  (71, .iadd, 72, 0, 0, 0, 0, []),
  (72, .istore 6, 74, 0, 0, 0, 0, []),
  (74, .iconst 0, 75, 0, 0, 0, 0, []),
  (75, .iload 6, 77, 0, 0, 0, 0, []),
  (77, .iconst 2, 78, 0, 0, 2, 0, []),
  (78, .iload_n 3, 79, 0, 0, 0, 0, []),
  (79, .imul, 80, 0, 0, 0, 0, []),
  (80, .bipush 10, 82, 0, 0, 10, 0, []),
  (82, .iload 5, 84, 0, 0, 0, 0, []),
  (84, .iadd, 85, 0, 0, 0, 0, []),
  (85, .imul, 86, 0, 0, 0, 0, []),
  (86, .bipush 10, 88, 0, 0, 10, 0, []),
  (88, .idiv, 89, 0, 0, 0, 0, []),
  (89, .isub, 90, 0, 0, 0, 0, []),
  (90, .invokestatic 40, 93, 900, 0, 0, 0, []),
  (93, .ireturn, 94, 0, 0, 0, 0, [])]
noncomputable def t_SW_volume : List En := [
  (0, .iload_n 1, 1, 0, 0, 0, 0, []),
  (1, .ldc 154, 3, 0, 0, (-1000000), 0, []),
  (3, .if_icmp .ne 11, 6, 14, 0, 0, 0, []),
  (6, .aload_n 0, 7, 0, 0, 0, 0, []),
  (7, .getfield 19, 10, 8, 1, 0, 0, []),
  (10, .invokevirtual 155, 13, 40, 0, 0, 0, []),
  (13, .ireturn, 14, 0, 0, 0, 0, []),
  (14, .iload_n 1, 15, 0, 0, 0, 0, []),
  (15, .iconst 0, 16, 0, 0, 0, 0, []),
  (16, .aload_n 0, 17, 0, 0, 0, 0, []),
  (17, .getfield 19, 20, 8, 1, 0, 0, []),
  (20, .invokevirtual 147, 23, 37, 0, 0, 0, []),
  (23, .invokestatic 68, 26, 3, 3, 0, 0, []),
  (26, .ifCond .ne 6, 29, 32, 0, 0, 0, []),
  (29, .ldc 72, 31, 0, 0, (-1000001), 0, []),
  (31, .ireturn, 32, 0, 0, 0, 0, []),
  (32, .aload_n 0, 33, 0, 0, 0, 0, []),
  (33, .getfield 19, 36, 8, 1, 0, 0, []),
  (36, .iload_n 1, 37, 0, 0, 0, 0, []),
  (37, .invokevirtual 158, 40, 41, 1, 0, 0, []),
  (40, .ireturn, 41, 0, 0, 0, 0, [])]
noncomputable def t_Wall_wholeVolume : List En := [
  (0, .iconst 0, 1, 0, 0, 0, 0, []),
  (1, .istore_n 1, 2, 0, 0, 0, 0, []),
  (2, .iconst 0, 3, 0, 0, 0, 0, []),
  (3, .istore_n 2, 4, 0, 0, 0, 0, []),
  (4, .iload_n 2, 5, 0, 0, 0, 0, []),
  (5, .aload_n 0, 6, 0, 0, 0, 0, []),
  (6, .getfield 9, 9, 7, 0, 0, 0, []),
  (9, .iconst 0, 10, 0, 0, 0, 0, []),
  (10, .iaload, 11, 0, 0, 0, 0, []),
  (11, .if_icmp .ge 18, 14, 29, 0, 0, 0, []),
  (14, .iload_n 1, 15, 0, 0, 0, 0, []),
  (15, .aload_n 0, 16, 0, 0, 0, 0, []),
  (16, .iconst 0, 17, 0, 0, 0, 0, []),
  (17, .iload_n 2, 18, 0, 0, 0, 0, []),
  (18, .invokevirtual 46, 21, 38, 2, 0, 0, []),
  (21, .iadd, 22, 0, 0, 0, 0, []),
  (22, .istore_n 1, 23, 0, 0, 0, 0, []),
  (23, .iinc 2 1, 26, 0, 0, 1, 0, []),
  (26, .goto (-22), 29, 4, 0, 0, 0, []),
  (29, .iload_n 1, 30, 0, 0, 0, 0, []),
  (30, .aload_n 0, 31, 0, 0, 0, 0, []),
  (31, .getfield 9, 34, 7, 0, 0, 0, []),
  (34, .iconst 3, 35, 0, 0, 3, 0, []),
  (35, .iaload, 36, 0, 0, 0, 0, []),
  (36, .imul, 37, 0, 0, 0, 0, []),
  (37, .ireturn, 38, 0, 0, 0, 0, [])]
noncomputable def t_Wall_volumeOf : List En := [
  (0, .iconst 0, 1, 0, 0, 0, 0, []),
  (1, .istore_n 2, 2, 0, 0, 0, 0, []),
  (2, .iconst 0, 3, 0, 0, 0, 0, []),
  (3, .istore_n 3, 4, 0, 0, 0, 0, []),
  (4, .iload_n 3, 5, 0, 0, 0, 0, []),
  (5, .aload_n 0, 6, 0, 0, 0, 0, []),
  (6, .getfield 9, 9, 7, 0, 0, 0, []),
  (9, .iconst 0, 10, 0, 0, 0, 0, []),
  (10, .iaload, 11, 0, 0, 0, 0, []),
  (11, .if_icmp .ge 47, 14, 58, 0, 0, 0, []),
  (14, .iload_n 1, 15, 0, 0, 0, 0, []),
  (15, .aload_n 0, 16, 0, 0, 0, 0, []),
  (16, .getfield 21, 19, 7, 3, 0, 0, []),
  (19, .if_icmp .ge 14, 22, 33, 0, 0, 0, []),
  (22, .aload_n 0, 23, 0, 0, 0, 0, []),
  (23, .iload_n 1, 24, 0, 0, 0, 0, []),
  (24, .iconst 1, 25, 0, 0, 1, 0, []),
  (25, .iadd, 26, 0, 0, 0, 0, []),
  (26, .iload_n 3, 27, 0, 0, 0, 0, []),
  (27, .invokevirtual 46, 30, 38, 2, 0, 0, []),
  (30, .goto 4, 33, 34, 0, 0, 0, []),
  (33, .iconst 0, 34, 0, 0, 0, 0, []),
  (34, .istore 4, 36, 0, 0, 0, 0, []),
  (36, .iload_n 2, 37, 0, 0, 0, 0, []),
  (37, .iconst 0, 38, 0, 0, 0, 0, []),
  (38, .aload_n 0, 39, 0, 0, 0, 0, []),
  (39, .iload_n 1, 40, 0, 0, 0, 0, []),
  (40, .iload_n 3, 41, 0, 0, 0, 0, []),
  (41, .invokevirtual 46, 44, 38, 2, 0, 0, []),
  (44, .iload 4, 46, 0, 0, 0, 0, []),
  (46, .isub, 47, 0, 0, 0, 0, []),
  (47, .invokestatic 40, 50, 900, 0, 0, 0, []),
  (50, .iadd, 51, 0, 0, 0, 0, []),
  (51, .istore_n 2, 52, 0, 0, 0, 0, []),
  (52, .iinc 3 1, 55, 0, 0, 1, 0, []),
  (55, .goto (-51), 58, 4, 0, 0, 0, []),
  (58, .iload_n 2, 59, 0, 0, 0, 0, []),
  (59, .aload_n 0, 60, 0, 0, 0, 0, []),
  (60, .getfield 9, 63, 7, 0, 0, 0, []),
  (63, .iconst 3, 64, 0, 0, 3, 0, []),
  (64, .iaload, 65, 0, 0, 0, 0, []),
  (65, .imul, 66, 0, 0, 0, 0, []),
  (66, .ireturn, 67, 0, 0, 0, 0, [])]
noncomputable def t_SW_shared : List En := [
  (0, .iload_n 3, 1, 0, 0, 0, 0, []),
  (1, .ldc 154, 3, 0, 0, (-1000000), 0, []),
  (3, .if_icmp .eq 12, 6, 15, 0, 0, 0, []),
  (6, .iload_n 3, 7, 0, 0, 0, 0, []),
  (7, .iconst 0, 8, 0, 0, 0, 0, []),
  (8, .iconst 3, 9, 0, 0, 3, 0, []),
  (9, .invokestatic 68, 12, 3, 3, 0, 0, []),
  (12, .ifCond .eq 7, 15, 19, 0, 0, 0, []),
  (15, .iconst 1, 16, 0, 0, 1, 0, []),
  (16, .goto 4, 19, 20, 0, 0, 0, []),
  (19, .iconst 0, 20, 0, 0, 0, 0, []),
  (20, .istore 5, 22, 0, 0, 0, 0, []),
  (22, .iload_n 1, 23, 0, 0, 0, 0, []),
  (23, .invokestatic 64, 26, 2, 1, 0, 0, []),
  (26, .ifCond .eq 18, 29, 44, 0, 0, 0, []),
  (29, .iload 5, 31, 0, 0, 0, 0, []),
  (31, .ifCond .eq 13, 34, 44, 0, 0, 0, []),
  (34, .iload 4, 36, 0, 0, 0, 0, []),
  (36, .iconst 0, 37, 0, 0, 0, 0, []),
  (37, .iconst 2, 38, 0, 0, 2, 0, []),
  (38, .invokestatic 68, 41, 3, 3, 0, 0, []),
  (41, .ifCond .ne 6, 44, 47, 0, 0, 0, []),
  (44, .ldc 72, 46, 0, 0, (-1000001), 0, []),
  (46, .ireturn, 47, 0, 0, 0, 0, []),
  (47, .aload_n 0, 48, 0, 0, 0, 0, []),
  (48, .getfield 10, 51, 8, 0, 0, 0, []),
  (51, .iload_n 1, 52, 0, 0, 0, 0, []),
  (52, .iload_n 2, 53, 0, 0, 0, 0, []),
  (53, .bipush 10, 55, 0, 0, 10, 0, []),
  (55, .invokevirtual 84, 58, 10, 3, 0, 0, []),
  (58, .istore 6, 60, 0, 0, 0, 0, []),
  (60, .iload 6, 62, 0, 0, 0, 0, []),
  (62, .ifCond .eq 10, 65, 72, 0, 0, 0, []),
  (65, .aload_n 0, 66, 0, 0, 0, 0, []),
  (66, .iload 6, 68, 0, 0, 0, 0, []),
  (68, .invokevirtual 73, 71, 4, 1, 0, 0, []),
  (71, .ireturn, 72, 0, 0, 0, 0, []),
  (72, .aload_n 0, 73, 0, 0, 0, 0, []),
  (73, .getfield 26, 76, 8, 2, 0, 0, []),
  (76, .aload_n 0, 77, 0, 0, 0, 0, []),
  (77, .getfield 10, 80, 8, 0, 0, 0, []),
  (80, .iload_n 1, 81, 0, 0, 0, 0, []),
  (81, .iload_n 2, 82, 0, 0, 0, 0, []),
  (82, .invokevirtual 161, 85, 43, 3, 0, 0, []),
  (85, .ifCond .ne 6, 88, 91, 0, 0, 0, []),
  (88, .ldc 72, 90, 0, 0, (-1000001), 0, []),
  (90, .ireturn, 91, 0, 0, 0, 0, []),
  (91, .aload_n 0, 92, 0, 0, 0, 0, []),
  (92, .getfield 26, 95, 8, 2, 0, 0, []),
  (95, .invokevirtual 165, 98, 47, 0, 0, 0, []),
  (98, .aload_n 0, 99, 0, 0, 0, 0, []),
  (99, .iload_n 3, 100, 0, 0, 0, 0, []),
  (100, .ldc 154, 102, 0, 0, (-1000000), 0, []),
  (102, .if_icmp .ne 13, 105, 115, 0, 0, 0, []),
  (105, .aload_n 0, 106, 0, 0, 0, 0, []),
  (106, .getfield 26, 109, 8, 2, 0, 0, []),
  (109, .invokevirtual 168, 112, 52, 0, 0, 0, []),
  (112, .goto 13, 115, 125, 0, 0, 0, []),
  (115, .aload_n 0, 116, 0, 0, 0, 0, []),
  (116, .getfield 26, 119, 8, 2, 0, 0, []),
  (119, .iload_n 3, 120, 0, 0, 0, 0, []),
  (120, .iload 4, 122, 0, 0, 0, 0, []),
  (122, .invokevirtual 171, 125, 53, 2, 0, 0, []),
  (125, .invokevirtual 81, 128, 8, 1, 0, 0, []),
  (128, .ireturn, 129, 0, 0, 0, 0, [])]
noncomputable def t_Quarry_read : List En := [
  (0, .iload_n 3, 1, 0, 0, 0, 0, []),
  (1, .iconst 4, 2, 0, 0, 4, 0, []),
  (2, .iadd, 3, 0, 0, 0, 0, []),
  (3, .istore 4, 5, 0, 0, 0, 0, []),
  (5, .iload 4, 7, 0, 0, 0, 0, []),
  (7, .iconst 3, 8, 0, 0, 3, 0, []),
  (8, .iadd, 9, 0, 0, 0, 0, []),
  (9, .istore 5, 11, 0, 0, 0, 0, []),
  (11, .aload_n 1, 12, 0, 0, 0, 0, []),
  (12, .iload_n 2, 13, 0, 0, 0, 0, []),
  (13, .iload_n 3, 14, 0, 0, 0, 0, []),
  (14, .bipush 7, 16, 0, 0, 7, 0, []),
  (16, .bipush 100, 18, 0, 0, 100, 0, []),
  (18, .invokevirtual 26, 21, 44, 4, 0, 0, []),
  (21, .ifCond .eq 16, 24, 37, 0, 0, 0, []),
  (24, .aload_n 1, 25, 0, 0, 0, 0, []),
  (25, .iload_n 2, 26, 0, 0, 0, 0, []),
  (26, .iload 5, 28, 0, 0, 0, 0, []),
  (28, .iconst 3, 29, 0, 0, 3, 0, []),
  (29, .bipush 15, 31, 0, 0, 15, 0, []),
  (31, .invokevirtual 26, 34, 44, 4, 0, 0, []),
  (34, .ifCond .ne 5, 37, 39, 0, 0, 0, []),
  (37, .iconst 0, 38, 0, 0, 0, 0, []),
  (38, .ireturn, 39, 0, 0, 0, 0, []),
  (39, .iconst 0, 40, 0, 0, 0, 0, []),
  (40, .istore 6, 42, 0, 0, 0, 0, []),
  (42, .iconst 0, 43, 0, 0, 0, 0, []),
  (43, .istore 7, 45, 0, 0, 0, 0, []),
  (45, .iload 7, 47, 0, 0, 0, 0, []),
  (47, .iconst 4, 48, 0, 0, 4, 0, []),
  (48, .if_icmp .ge 45, 51, 93, 0, 0, 0, []),
  (51, .aload_n 0, 52, 0, 0, 0, 0, []),
  (52, .getfield 9, 55, 4, 0, 0, 0, []),
  (55, .iload 7, 57, 0, 0, 0, 0, []),
  (57, .aload_n 1, 58, 0, 0, 0, 0, []),
  (58, .iload_n 2, 59, 0, 0, 0, 0, []),
  (59, .iload_n 3, 60, 0, 0, 0, 0, []),
  (60, .iload 7, 62, 0, 0, 0, 0, []),
  (62, .iadd, 63, 0, 0, 0, 0, []),
  (63, .invokevirtual 32, 66, 45, 2, 0, 0, []),
  (66, .iastore, 67, 0, 0, 0, 0, []),
  (67, .iload 6, 69, 0, 0, 0, 0, []),
  (69, .aload_n 0, 70, 0, 0, 0, 0, []),
  (70, .getfield 9, 73, 4, 0, 0, 0, []),
  (73, .iload 7, 75, 0, 0, 0, 0, []),
  (75, .iaload, 76, 0, 0, 0, 0, []),
  (76, .iadd, 77, 0, 0, 0, 0, []),
  (77, .istore 6, 79, 0, 0, 0, 0, []),
  (79, .aload_n 0, 80, 0, 0, 0, 0, []),
  (80, .getfield 16, 83, 4, 2, 0, 0, []),
  (83, .iload 7, 85, 0, 0, 0, 0, []),
  (85, .iconst 0, 86, 0, 0, 0, 0, []),
  (86, .iastore, 87, 0, 0, 0, 0, []),
  (87, .iinc 7 1, 90, 0, 0, 1, 0, []),
  (90, .goto (-45), 93, 45, 0, 0, 0, []),
  (93, .iconst 0, 94, 0, 0, 0, 0, []),
  (94, .istore 7, 96, 0, 0, 0, 0, []),
  (96, .iload 7, 98, 0, 0, 0, 0, []),
  (98, .iconst 3, 99, 0, 0, 3, 0, []),
  (99, .if_icmp .ge 42, 102, 141, 0, 0, 0, []),
  (102, .aload_n 0, 103, 0, 0, 0, 0, []),
  (103, .getfield 13, 106, 4, 1, 0, 0, []),
  (106, .iload 7, 108, 0, 0, 0, 0, []),
  (108, .aload_n 1, 109, 0, 0, 0, 0, []),
  (109, .iload_n 2, 110, 0, 0, 0, 0, []),
  (110, .iload 4, 112, 0, 0, 0, 0, []),
  (112, .iload 7, 114, 0, 0, 0, 0, []),
  (114, .iadd, 115, 0, 0, 0, 0, []),
  (115, .invokevirtual 32, 118, 45, 2, 0, 0, []),
  (118, .iastore, 119, 0, 0, 0, 0, []),
  (119, .aload_n 0, 120, 0, 0, 0, 0, []),
  (120, .iload 7, 122, 0, 0, 0, 0, []),
  (122, .aload_n 1, 123, 0, 0, 0, 0, []),
  (123, .iload_n 2, 124, 0, 0, 0, 0, []),
  (124, .iload 5, 126, 0, 0, 0, 0, []),
  (126, .iload 7, 128, 0, 0, 0, 0, []),
  (128, .iadd, 129, 0, 0, 0, 0, []),
  (129, .invokevirtual 32, 132, 45, 2, 0, 0, []),
  (132, .invokevirtual 36, 135, 46, 2, 0, 0, []),
  (135, .iinc 7 1, 138, 0, 0, 1, 0, []),
  (138, .goto (-42), 141, 96, 0, 0, 0, []),
  (141, .iload 6, 143, 0, 0, 0, 0, []),
  (143, .bipush 100, 145, 0, 0, 100, 0, []),
  (145, .if_icmp .ne 7, 148, 152, 0, 0, 0, []),
  (148, .iconst 1, 149, 0, 0, 1, 0, []),
  (149, .goto 4, 152, 153, 0, 0, 0, []),
  (152, .iconst 0, 153, 0, 0, 0, 0, []),
  (153, .ireturn, 154, 0, 0, 0, 0, [])]
noncomputable def t_Sheets_areWithin : List En := [
  (0, .iload_n 2, 1, 0, 0, 0, 0, []),
  (1, .istore 5, 3, 0, 0, 0, 0, []),
  (3, .iload 5, 5, 0, 0, 0, 0, []),
  (5, .iload_n 2, 6, 0, 0, 0, 0, []),
  (6, .iload_n 3, 7, 0, 0, 0, 0, []),
  (7, .iadd, 8, 0, 0, 0, 0, []),
  (8, .if_icmp .ge 27, 11, 35, 0, 0, 0, []),
  (11, .aload_n 0, 12, 0, 0, 0, 0, []),
  (12, .iload_n 1, 13, 0, 0, 0, 0, []),
  (13, .iload 5, 15, 0, 0, 0, 0, []),
  (15, .invokevirtual 51, 18, 45, 2, 0, 0, []),
  (18, .iconst 0, 19, 0, 0, 0, 0, []),
  (19, .iload 4, 21, 0, 0, 0, 0, []),
  (21, .invokestatic 27, 24, 3, 3, 0, 0, []),
  (24, .ifCond .ne 5, 27, 29, 0, 0, 0, []),
  (27, .iconst 0, 28, 0, 0, 0, 0, []),
  (28, .ireturn, 29, 0, 0, 0, 0, []),
  (29, .iinc 5 1, 32, 0, 0, 1, 0, []),
  (32, .goto (-29), 35, 3, 0, 0, 0, []),
  (35, .iconst 1, 36, 0, 0, 1, 0, []),
  (36, .ireturn, 37, 0, 0, 0, 0, [])]
noncomputable def t_Sheets_item : List En := [
  (0, .aload_n 0, 1, 0, 0, 0, 0, []),
  (1, .getfield 11, 4, 5, 0, 0, 0, []),
  (4, .iload_n 1, 5, 0, 0, 0, 0, []),
  (5, .bipush 100, 7, 0, 0, 100, 0, []),
  (7, .imul, 8, 0, 0, 0, 0, []),
  (8, .iload_n 2, 9, 0, 0, 0, 0, []),
  (9, .iadd, 10, 0, 0, 0, 0, []),
  (10, .iaload, 11, 0, 0, 0, 0, []),
  (11, .ireturn, 12, 0, 0, 0, 0, [])]
noncomputable def t_Quarry_admit : List En := [
  (0, .iconst 0, 1, 0, 0, 0, 0, []),
  (1, .istore_n 3, 2, 0, 0, 0, 0, []),
  (2, .iload_n 3, 3, 0, 0, 0, 0, []),
  (3, .iconst 4, 4, 0, 0, 4, 0, []),
  (4, .if_icmp .ge 30, 7, 34, 0, 0, 0, []),
  (7, .iload_n 2, 8, 0, 0, 0, 0, []),
  (8, .iload_n 3, 9, 0, 0, 0, 0, []),
  (9, .ishr, 10, 0, 0, 0, 0, []),
  (10, .iconst 1, 11, 0, 0, 1, 0, []),
  (11, .iand, 12, 0, 0, 0, 0, []),
  (12, .iconst 1, 13, 0, 0, 1, 0, []),
  (13, .if_icmp .ne 15, 16, 28, 0, 0, 0, []),
  (16, .aload_n 0, 17, 0, 0, 0, 0, []),
  (17, .getfield 16, 20, 4, 2, 0, 0, []),
  (20, .iload_n 3, 21, 0, 0, 0, 0, []),
  (21, .dup2, 22, 0, 0, 0, 0, []),
  (22, .iaload, 23, 0, 0, 0, 0, []),
  (23, .iconst 1, 24, 0, 0, 1, 0, []),
  (24, .iload_n 1, 25, 0, 0, 0, 0, []),
  (25, .ishl, 26, 0, 0, 0, 0, []),
  (26, .ior, 27, 0, 0, 0, 0, []),
  (27, .iastore, 28, 0, 0, 0, 0, []),
  (28, .iinc 3 1, 31, 0, 0, 1, 0, []),
  (31, .goto (-29), 34, 2, 0, 0, 0, []),
  (34, .return_, 35, 0, 0, 0, 0, [])]
noncomputable def t_Quarry_share : List En := [
  (0, .aload_n 0, 1, 0, 0, 0, 0, []),
  (1, .invokevirtual 40, 4, 48, 0, 0, 0, []),
  (4, .istore_n 1, 5, 0, 0, 0, 0, []),
  (5, .aload_n 0, 6, 0, 0, 0, 0, []),
  (6, .bipush 100, 8, 0, 0, 100, 0, []),
  (8, .iload_n 1, 9, 0, 0, 0, 0, []),
  (9, .isub, 10, 0, 0, 0, 0, []),
  (10, .putfield 22, 13, 4, 4, 0, 0, []),
  (13, .iconst 0, 14, 0, 0, 0, 0, []),
  (14, .istore_n 2, 15, 0, 0, 0, 0, []),
  (15, .iload_n 2, 16, 0, 0, 0, 0, []),
  (16, .iconst 4, 17, 0, 0, 4, 0, []),
  (17, .if_icmp .ge 84, 20, 101, 0, 0, 0, []),
  (20, .iconst 0, 21, 0, 0, 0, 0, []),
  (21, .istore_n 3, 22, 0, 0, 0, 0, []),
  (22, .iload_n 3, 23, 0, 0, 0, 0, []),
  (23, .iconst 3, 24, 0, 0, 3, 0, []),
  (24, .if_icmp .ge 71, 27, 95, 0, 0, 0, []),
  (27, .aload_n 0, 28, 0, 0, 0, 0, []),
  (28, .iload_n 2, 29, 0, 0, 0, 0, []),
  (29, .iload_n 3, 30, 0, 0, 0, 0, []),
  (30, .iload_n 1, 31, 0, 0, 0, 0, []),
  (31, .invokevirtual 44, 34, 51, 3, 0, 0, []),
  (34, .istore 4, 36, 0, 0, 0, 0, []),
  (36, .aload_n 0, 37, 0, 0, 0, 0, []),
  (37, .getfield 19, 40, 4, 3, 0, 0, []),
  (40, .iload_n 2, 41, 0, 0, 0, 0, []),
  (41, .iconst 3, 42, 0, 0, 3, 0, []),
  (42, .imul, 43, 0, 0, 0, 0, []),
  (43, .iload_n 3, 44, 0, 0, 0, 0, []),
  (44, .iadd, 45, 0, 0, 0, 0, []),
  (45, .iload 4, 47, 0, 0, 0, 0, []),
  (47, .iastore, 48, 0, 0, 0, 0, []),
  (48, .aload_n 0, 49, 0, 0, 0, 0, []),
  (49, .getfield 9, 52, 4, 0, 0, 0, []),
  (52, .iload_n 2, 53, 0, 0, 0, 0, []),
  (53, .dup2, 54, 0, 0, 0, 0, []),
  (54, .iaload, 55, 0, 0, 0, 0, []),
  (55, .iload 4, 57, 0, 0, 0, 0, []),
  (57, .isub, 58, 0, 0, 0, 0, []),
  (58, .iastore, 59, 0, 0, 0, 0, []),
  (59, .aload_n 0, 60, 0, 0, 0, 0, []),
  (60, .getfield 13, 63, 4, 1, 0, 0, []),
  (63, .iload_n 3, 64, 0, 0, 0, 0, []),
  (64, .dup2, 65, 0, 0, 0, 0, []),
  (65, .iaload, 66, 0, 0, 0, 0, []),
  (66, .iload 4, 68, 0, 0, 0, 0, []),
  (68, .isub, 69, 0, 0, 0, 0, []),
  (69, .iastore, 70, 0, 0, 0, 0, []),
  (70, .aload_n 0, 71, 0, 0, 0, 0, []),
  (71, .getfield 16, 74, 4, 2, 0, 0, []),
  (74, .iload_n 2, 75, 0, 0, 0, 0, []),
  (75, .dup2, 76, 0, 0, 0, 0, []),
  (76, .iaload, 77, 0, 0, 0, 0, []),
  (77, .iconst 1, 78, 0, 0, 1, 0, []),
  (78, .iload_n 3, 79, 0, 0, 0, 0, []),
  (79, .ishl, 80, 0, 0, 0, 0, []),
  (80, .iconst (-1), 81, 0, 0, (-1), 0, []),
  (81, .ixor, 82, 0, 0, 0, 0, []),
  (82, .iand, 83, 0, 0, 0, 0, []),
  (83, .iastore, 84, 0, 0, 0, 0, []),
  (84, .iload_n 1, 85, 0, 0, 0, 0, []),
  (85, .iload 4, 87, 0, 0, 0, 0, []),
  (87, .isub, 88, 0, 0, 0, 0, []),
  (88, .istore_n 1, 89, 0, 0, 0, 0, []),
  (89, .iinc 3 1, 92, 0, 0, 1, 0, []),
  (92, .goto (-70), 95, 22, 0, 0, 0, []),
  (95, .iinc 2 1, 98, 0, 0, 1, 0, []),
  (98, .goto (-83), 101, 15, 0, 0, 0, []),
  (101, .return_, 102, 0, 0, 0, 0, [])]
noncomputable def t_Quarry_mostGiven : List En := [
  (0, .bipush 100, 2, 0, 0, 100, 0, []),
  (2, .istore_n 1, 3, 0, 0, 0, 0, []),
  (3, .iconst 0, 4, 0, 0, 0, 0, []),
  (4, .istore_n 2, 5, 0, 0, 0, 0, []),
  (5, .iload_n 2, 6, 0, 0, 0, 0, []),
  (6, .bipush 8, 8, 0, 0, 8, 0, []),
  (8, .if_icmp .ge 19, 11, 27, 0, 0, 0, []),
  (11, .iload_n 1, 12, 0, 0, 0, 0, []),
  (12, .aload_n 0, 13, 0, 0, 0, 0, []),
  (13, .iload_n 2, 14, 0, 0, 0, 0, []),
  (14, .invokevirtual 48, 17, 49, 1, 0, 0, []),
  (17, .invokestatic 52, 20, 901, 0, 0, 0, []),
  (20, .istore_n 1, 21, 0, 0, 0, 0, []),
  (21, .iinc 2 1, 24, 0, 0, 1, 0, []),
  (24, .goto (-19), 27, 5, 0, 0, 0, []),
  (27, .iload_n 1, 28, 0, 0, 0, 0, []),
  (28, .ireturn, 29, 0, 0, 0, 0, [])]
noncomputable def t_Quarry_cutOff : List En := [
  (0, .iconst 0, 1, 0, 0, 0, 0, []),
  (1, .istore_n 2, 2, 0, 0, 0, 0, []),
  (2, .iconst 0, 3, 0, 0, 0, 0, []),
  (3, .istore_n 3, 4, 0, 0, 0, 0, []),
  (4, .iload_n 3, 5, 0, 0, 0, 0, []),
  (5, .iconst 3, 6, 0, 0, 3, 0, []),
  (6, .if_icmp .ge 27, 9, 33, 0, 0, 0, []),
  (9, .iload_n 1, 10, 0, 0, 0, 0, []),
  (10, .iload_n 3, 11, 0, 0, 0, 0, []),
  (11, .ishr, 12, 0, 0, 0, 0, []),
  (12, .iconst 1, 13, 0, 0, 1, 0, []),
  (13, .iand, 14, 0, 0, 0, 0, []),
  (14, .iconst 1, 15, 0, 0, 1, 0, []),
  (15, .if_icmp .ne 12, 18, 27, 0, 0, 0, []),
  (18, .iload_n 2, 19, 0, 0, 0, 0, []),
  (19, .aload_n 0, 20, 0, 0, 0, 0, []),
  (20, .getfield 13, 23, 4, 1, 0, 0, []),
  (23, .iload_n 3, 24, 0, 0, 0, 0, []),
  (24, .iaload, 25, 0, 0, 0, 0, []),
  (25, .iadd, 26, 0, 0, 0, 0, []),
  (26, .istore_n 2, 27, 0, 0, 0, 0, []),
  (27, .iinc 3 1, 30, 0, 0, 1, 0, []),
  (30, .goto (-26), 33, 4, 0, 0, 0, []),
  (33, .iconst 0, 34, 0, 0, 0, 0, []),
  (34, .istore_n 3, 35, 0, 0, 0, 0, []),
  (35, .iload_n 3, 36, 0, 0, 0, 0, []),
  (36, .iconst 4, 37, 0, 0, 4, 0, []),
  (37, .if_icmp .ge 27, 40, 64, 0, 0, 0, []),
  (40, .aload_n 0, 41, 0, 0, 0, 0, []),
  (41, .iload_n 3, 42, 0, 0, 0, 0, []),
  (42, .iload_n 1, 43, 0, 0, 0, 0, []),
  (43, .invokevirtual 57, 46, 50, 2, 0, 0, []),
  (46, .ifCond .eq 12, 49, 58, 0, 0, 0, []),
  (49, .iload_n 2, 50, 0, 0, 0, 0, []),
  (50, .aload_n 0, 51, 0, 0, 0, 0, []),
  (51, .getfield 9, 54, 4, 0, 0, 0, []),
  (54, .iload_n 3, 55, 0, 0, 0, 0, []),
  (55, .iaload, 56, 0, 0, 0, 0, []),
  (56, .iadd, 57, 0, 0, 0, 0, []),
  (57, .istore_n 2, 58, 0, 0, 0, 0, []),
  (58, .iinc 3 1, 61, 0, 0, 1, 0, []),
  (61, .goto (-26), 64, 35, 0, 0, 0, []),
  (64, .iload_n 2, 65, 0, 0, 0, 0, []),
  (65, .ireturn, 66, 0, 0, 0, 0, [])]
noncomputable def t_Quarry_isTakenBeyond : List En := [
  (0, .aload_n 0, 1, 0, 0, 0, 0, []),
  (1, .getfield 16, 4, 4, 2, 0, 0, []),
  (4, .iload_n 1, 5, 0, 0, 0, 0, []),
  (5, .iaload, 6, 0, 0, 0, 0, []),
  (6, .iload_n 2, 7, 0, 0, 0, 0, []),
  (7, .iconst (-1), 8, 0, 0, (-1), 0, []),
  (8, .ixor, 9, 0, 0, 0, 0, []),
  (9, .iand, 10, 0, 0, 0, 0, []),
  (10, .ifCond .eq 7, 13, 17, 0, 0, 0, []),
  (13, .iconst 1, 14, 0, 0, 1, 0, []),
  (14, .goto 4, 17, 18, 0, 0, 0, []),
  (17, .iconst 0, 18, 0, 0, 0, 0, []),
  (18, .ireturn, 19, 0, 0, 0, 0, [])]
noncomputable def t_Quarry_mostBetween : List En := [
  (0, .aload_n 0, 1, 0, 0, 0, 0, []),
  (1, .getfield 16, 4, 4, 2, 0, 0, []),
  (4, .iload_n 1, 5, 0, 0, 0, 0, []),
  (5, .iaload, 6, 0, 0, 0, 0, []),
  (6, .iload_n 2, 7, 0, 0, 0, 0, []),
  (7, .ishr, 8, 0, 0, 0, 0, []),
  (8, .iconst 1, 9, 0, 0, 1, 0, []),
  (9, .iand, 10, 0, 0, 0, 0, []),
  (10, .ifCond .ne 5, 13, 15, 0, 0, 0, []),
  (13, .iconst 0, 14, 0, 0, 0, 0, []),
  (14, .ireturn, 15, 0, 0, 0, 0, []),
  (15, .aload_n 0, 16, 0, 0, 0, 0, []),
  (16, .getfield 9, 19, 4, 0, 0, 0, []),
  (19, .iload_n 1, 20, 0, 0, 0, 0, []),
  (20, .iaload, 21, 0, 0, 0, 0, []),
  (21, .aload_n 0, 22, 0, 0, 0, 0, []),
  (22, .getfield 13, 25, 4, 1, 0, 0, []),
  (25, .iload_n 2, 26, 0, 0, 0, 0, []),
  (26, .iaload, 27, 0, 0, 0, 0, []),
  (27, .invokestatic 52, 30, 901, 0, 0, 0, []),
  (30, .istore 4, 32, 0, 0, 0, 0, []),
  (32, .iconst 0, 33, 0, 0, 0, 0, []),
  (33, .istore 5, 35, 0, 0, 0, 0, []),
  (35, .iload 5, 37, 0, 0, 0, 0, []),
  (37, .bipush 8, 39, 0, 0, 8, 0, []),
  (39, .if_icmp .ge 44, 42, 83, 0, 0, 0, []),
  (42, .iload 5, 44, 0, 0, 0, 0, []),
  (44, .iload_n 2, 45, 0, 0, 0, 0, []),
  (45, .ishr, 46, 0, 0, 0, 0, []),
  (46, .iconst 1, 47, 0, 0, 1, 0, []),
  (47, .iand, 48, 0, 0, 0, 0, []),
  (48, .iconst 1, 49, 0, 0, 1, 0, []),
  (49, .if_icmp .ne 28, 52, 77, 0, 0, 0, []),
  (52, .aload_n 0, 53, 0, 0, 0, 0, []),
  (53, .iload_n 1, 54, 0, 0, 0, 0, []),
  (54, .iload 5, 56, 0, 0, 0, 0, []),
  (56, .invokevirtual 57, 59, 50, 2, 0, 0, []),
  (59, .ifCond .eq 18, 62, 77, 0, 0, 0, []),
  (62, .iload 4, 64, 0, 0, 0, 0, []),
  (64, .aload_n 0, 65, 0, 0, 0, 0, []),
  (65, .iload 5, 67, 0, 0, 0, 0, []),
  (67, .invokevirtual 48, 70, 49, 1, 0, 0, []),
  (70, .iload_n 3, 71, 0, 0, 0, 0, []),
  (71, .isub, 72, 0, 0, 0, 0, []),
  (72, .invokestatic 52, 75, 901, 0, 0, 0, []),
  (75, .istore 4, 77, 0, 0, 0, 0, []),
  (77, .iinc 5 1, 80, 0, 0, 1, 0, []),
  (80, .goto (-45), 83, 35, 0, 0, 0, []),
  (83, .iload 4, 85, 0, 0, 0, 0, []),
  (85, .ireturn, 86, 0, 0, 0, 0, [])]
noncomputable def t_Quarry_waste : List En := [
  (0, .aload_n 0, 1, 0, 0, 0, 0, []),
  (1, .getfield 22, 4, 4, 4, 0, 0, []),
  (4, .ireturn, 5, 0, 0, 0, 0, [])]
noncomputable def t_Quarry_given : List En := [
  (0, .aload_n 0, 1, 0, 0, 0, 0, []),
  (1, .getfield 19, 4, 4, 3, 0, 0, []),
  (4, .iload_n 1, 5, 0, 0, 0, 0, []),
  (5, .iconst 3, 6, 0, 0, 3, 0, []),
  (6, .imul, 7, 0, 0, 0, 0, []),
  (7, .iload_n 2, 8, 0, 0, 0, 0, []),
  (8, .iadd, 9, 0, 0, 0, 0, []),
  (9, .iaload, 10, 0, 0, 0, 0, []),
  (10, .ireturn, 11, 0, 0, 0, 0, [])]
noncomputable def t_SW_lay : List En := [
  (0, .iload_n 1, 1, 0, 0, 0, 0, []),
  (1, .iload_n 2, 2, 0, 0, 0, 0, []),
  (2, .invokestatic 174, 5, 55, 2, 0, 0, []),
  (5, .ifCond .ne 6, 8, 11, 0, 0, 0, []),
  (8, .ldc 72, 10, 0, 0, (-1000001), 0, []),
  (10, .ireturn, 11, 0, 0, 0, 0, []),
  (11, .aload_n 0, 12, 0, 0, 0, 0, []),
  (12, .getfield 33, 15, 8, 3, 0, 0, []),
  (15, .iload_n 1, 16, 0, 0, 0, 0, []),
  (16, .iload_n 2, 17, 0, 0, 0, 0, []),
  (17, .invokevirtual 177, 20, 56, 2, 0, 0, []),
  (20, .ifCond .eq 7, 23, 27, 0, 0, 0, []),
  (23, .iconst 1, 24, 0, 0, 1, 0, []),
  (24, .goto 5, 27, 29, 0, 0, 0, []),
  (27, .ldc 180, 29, 0, 0, (-1000002), 0, []),
  (29, .ireturn, 30, 0, 0, 0, 0, [])]
noncomputable def t_Pile_isPlace : List En := [
  (0, .iload_n 0, 1, 0, 0, 0, 0, []),
  (1, .iconst 0, 2, 0, 0, 0, 0, []),
  (2, .bipush 7, 4, 0, 0, 7, 0, []),
  (4, .invokestatic 26, 7, 3, 3, 0, 0, []),
  (7, .ifCond .eq 19, 10, 26, 0, 0, 0, []),
  (10, .iload_n 1, 11, 0, 0, 0, 0, []),
  (11, .iconst 0, 12, 0, 0, 0, 0, []),
  (12, .bipush 11, 14, 0, 0, 11, 0, []),
  (14, .iload_n 0, 15, 0, 0, 0, 0, []),
  (15, .isub, 16, 0, 0, 0, 0, []),
  (16, .invokestatic 26, 19, 3, 3, 0, 0, []),
  (19, .ifCond .eq 7, 22, 26, 0, 0, 0, []),
  (22, .iconst 1, 23, 0, 0, 1, 0, []),
  (23, .goto 4, 26, 27, 0, 0, 0, []),
  (26, .iconst 0, 27, 0, 0, 0, 0, []),
  (27, .ireturn, 28, 0, 0, 0, 0, [])]
noncomputable def t_Pile_add : List En := [
  (0, .aload_n 0, 1, 0, 0, 0, 0, []),
  (1, .getfield 11, 4, 3, 0, 0, 0, []),
  (4, .iload_n 1, 5, 0, 0, 0, 0, []),
  (5, .iload_n 2, 6, 0, 0, 0, 0, []),
  (6, .invokestatic 36, 9, 57, 2, 0, 0, []),
  (9, .baload, 10, 0, 0, 0, 0, []),
  (10, .ifCond .ne 15, 13, 25, 0, 0, 0, []),
  (13, .aload_n 0, 14, 0, 0, 0, 0, []),
  (14, .getfield 11, 17, 3, 0, 0, 0, []),
  (17, .iload_n 1, 18, 0, 0, 0, 0, []),
  (18, .iload_n 2, 19, 0, 0, 0, 0, []),
  (19, .invokestatic 40, 22, 58, 3, 0, 0, []),
  (22, .ifCond .ne 5, 25, 27, 0, 0, 0, []),
  (25, .iconst 0, 26, 0, 0, 0, 0, []),
  (26, .ireturn, 27, 0, 0, 0, 0, []),
  (27, .aload_n 0, 28, 0, 0, 0, 0, []),
  (28, .getfield 11, 31, 3, 0, 0, 0, []),
  (31, .iload_n 1, 32, 0, 0, 0, 0, []),
  (32, .iload_n 2, 33, 0, 0, 0, 0, []),
  (33, .invokestatic 36, 36, 57, 2, 0, 0, []),
  (36, .iconst 1, 37, 0, 0, 1, 0, []),
  (37, .bastore, 38, 0, 0, 0, 0, []),
  (38, .aload_n 0, 39, 0, 0, 0, 0, []),
  (39, .dup, 40, 0, 0, 0, 0, []),
  (40, .getfield 22, 43, 3, 3, 0, 0, []),
  (43, .iconst 1, 44, 0, 0, 1, 0, []),
  (44, .iadd, 45, 0, 0, 0, 0, []),
  (45, .putfield 22, 48, 3, 3, 0, 0, []),
  (48, .iconst 1, 49, 0, 0, 1, 0, []),
  (49, .ireturn, 50, 0, 0, 0, 0, [])]
noncomputable def t_Pile_at : List En := [
  (0, .iload_n 0, 1, 0, 0, 0, 0, []),
  (1, .bipush 12, 3, 0, 0, 12, 0, []),
  (3, .imul, 4, 0, 0, 0, 0, []),
  (4, .iload_n 1, 5, 0, 0, 0, 0, []),
  (5, .iadd, 6, 0, 0, 0, 0, []),
  (6, .ireturn, 7, 0, 0, 0, 0, [])]
noncomputable def t_Pile_isBorne : List En := [
  (0, .iload_n 1, 1, 0, 0, 0, 0, []),
  (1, .ifCond .eq 29, 4, 30, 0, 0, 0, []),
  (4, .aload_n 0, 5, 0, 0, 0, 0, []),
  (5, .iload_n 1, 6, 0, 0, 0, 0, []),
  (6, .iconst 1, 7, 0, 0, 1, 0, []),
  (7, .isub, 8, 0, 0, 0, 0, []),
  (8, .iload_n 2, 9, 0, 0, 0, 0, []),
  (9, .invokestatic 36, 12, 57, 2, 0, 0, []),
  (12, .baload, 13, 0, 0, 0, 0, []),
  (13, .ifCond .eq 21, 16, 34, 0, 0, 0, []),
  (16, .aload_n 0, 17, 0, 0, 0, 0, []),
  (17, .iload_n 1, 18, 0, 0, 0, 0, []),
  (18, .iconst 1, 19, 0, 0, 1, 0, []),
  (19, .isub, 20, 0, 0, 0, 0, []),
  (20, .iload_n 2, 21, 0, 0, 0, 0, []),
  (21, .iconst 1, 22, 0, 0, 1, 0, []),
  (22, .iadd, 23, 0, 0, 0, 0, []),
  (23, .invokestatic 36, 26, 57, 2, 0, 0, []),
  (26, .baload, 27, 0, 0, 0, 0, []),
  (27, .ifCond .eq 7, 30, 34, 0, 0, 0, []),
  (30, .iconst 1, 31, 0, 0, 1, 0, []),
  (31, .goto 4, 34, 35, 0, 0, 0, []),
  (34, .iconst 0, 35, 0, 0, 0, 0, []),
  (35, .ireturn, 36, 0, 0, 0, 0, [])]
noncomputable def t_SW_lift : List En := [
  (0, .iload_n 1, 1, 0, 0, 0, 0, []),
  (1, .iload_n 2, 2, 0, 0, 0, 0, []),
  (2, .invokestatic 174, 5, 55, 2, 0, 0, []),
  (5, .ifCond .ne 6, 8, 11, 0, 0, 0, []),
  (8, .ldc 72, 10, 0, 0, (-1000001), 0, []),
  (10, .ireturn, 11, 0, 0, 0, 0, []),
  (11, .aload_n 0, 12, 0, 0, 0, 0, []),
  (12, .getfield 33, 15, 8, 3, 0, 0, []),
  (15, .iload_n 1, 16, 0, 0, 0, 0, []),
  (16, .iload_n 2, 17, 0, 0, 0, 0, []),
  (17, .invokevirtual 181, 20, 60, 2, 0, 0, []),
  (20, .ifCond .eq 7, 23, 27, 0, 0, 0, []),
  (23, .iconst 1, 24, 0, 0, 1, 0, []),
  (24, .goto 5, 27, 29, 0, 0, 0, []),
  (27, .ldc 180, 29, 0, 0, (-1000002), 0, []),
  (29, .ireturn, 30, 0, 0, 0, 0, [])]
noncomputable def t_Pile_take : List En := [
  (0, .aload_n 0, 1, 0, 0, 0, 0, []),
  (1, .getfield 11, 4, 3, 0, 0, 0, []),
  (4, .iload_n 1, 5, 0, 0, 0, 0, []),
  (5, .iload_n 2, 6, 0, 0, 0, 0, []),
  (6, .invokestatic 36, 9, 57, 2, 0, 0, []),
  (9, .baload, 10, 0, 0, 0, 0, []),
  (10, .ifCond .eq 23, 13, 33, 0, 0, 0, []),
  (13, .aload_n 0, 14, 0, 0, 0, 0, []),
  (14, .iload_n 1, 15, 0, 0, 0, 0, []),
  (15, .iload_n 2, 16, 0, 0, 0, 0, []),
  (16, .iconst 1, 17, 0, 0, 1, 0, []),
  (17, .isub, 18, 0, 0, 0, 0, []),
  (18, .invokevirtual 44, 21, 61, 2, 0, 0, []),
  (21, .ifCond .ne 12, 24, 33, 0, 0, 0, []),
  (24, .aload_n 0, 25, 0, 0, 0, 0, []),
  (25, .iload_n 1, 26, 0, 0, 0, 0, []),
  (26, .iload_n 2, 27, 0, 0, 0, 0, []),
  (27, .invokevirtual 44, 30, 61, 2, 0, 0, []),
  (30, .ifCond .eq 5, 33, 35, 0, 0, 0, []),
  (33, .iconst 0, 34, 0, 0, 0, 0, []),
  (34, .ireturn, 35, 0, 0, 0, 0, []),
  (35, .aload_n 0, 36, 0, 0, 0, 0, []),
  (36, .getfield 11, 39, 3, 0, 0, 0, []),
  (39, .iload_n 1, 40, 0, 0, 0, 0, []),
  (40, .iload_n 2, 41, 0, 0, 0, 0, []),
  (41, .invokestatic 36, 44, 57, 2, 0, 0, []),
  (44, .iconst 0, 45, 0, 0, 0, 0, []),
  (45, .bastore, 46, 0, 0, 0, 0, []),
  (46, .aload_n 0, 47, 0, 0, 0, 0, []),
  (47, .dup, 48, 0, 0, 0, 0, []),
  (48, .getfield 22, 51, 3, 3, 0, 0, []),
  (51, .iconst 1, 52, 0, 0, 1, 0, []),
  (52, .isub, 53, 0, 0, 0, 0, []),
  (53, .putfield 22, 56, 3, 3, 0, 0, []),
  (56, .iconst 1, 57, 0, 0, 1, 0, []),
  (57, .ireturn, 58, 0, 0, 0, 0, [])]
noncomputable def t_Pile_bears : List En := [
  (0, .iload_n 1, 1, 0, 0, 0, 0, []),
  (1, .iconst 1, 2, 0, 0, 1, 0, []),
  (2, .iadd, 3, 0, 0, 0, 0, []),
  (3, .iload_n 2, 4, 0, 0, 0, 0, []),
  (4, .invokestatic 48, 7, 55, 2, 0, 0, []),
  (7, .ifCond .eq 22, 10, 29, 0, 0, 0, []),
  (10, .aload_n 0, 11, 0, 0, 0, 0, []),
  (11, .getfield 11, 14, 3, 0, 0, 0, []),
  (14, .iload_n 1, 15, 0, 0, 0, 0, []),
  (15, .iconst 1, 16, 0, 0, 1, 0, []),
  (16, .iadd, 17, 0, 0, 0, 0, []),
  (17, .iload_n 2, 18, 0, 0, 0, 0, []),
  (18, .invokestatic 36, 21, 57, 2, 0, 0, []),
  (21, .baload, 22, 0, 0, 0, 0, []),
  (22, .ifCond .eq 7, 25, 29, 0, 0, 0, []),
  (25, .iconst 1, 26, 0, 0, 1, 0, []),
  (26, .goto 4, 29, 30, 0, 0, 0, []),
  (29, .iconst 0, 30, 0, 0, 0, 0, []),
  (30, .ireturn, 31, 0, 0, 0, 0, [])]
noncomputable def t_SW_reaches : List En := [
  (0, .iload_n 1, 1, 0, 0, 0, 0, []),
  (1, .iload_n 2, 2, 0, 0, 0, 0, []),
  (2, .invokestatic 184, 5, 63, 2, 0, 0, []),
  (5, .ifCond .eq 12, 8, 17, 0, 0, 0, []),
  (8, .iload_n 3, 9, 0, 0, 0, 0, []),
  (9, .iload 4, 11, 0, 0, 0, 0, []),
  (11, .invokestatic 174, 14, 55, 2, 0, 0, []),
  (14, .ifCond .ne 6, 17, 20, 0, 0, 0, []),
  (17, .ldc 72, 19, 0, 0, (-1000001), 0, []),
  (19, .ireturn, 20, 0, 0, 0, 0, []),
  (20, .iload_n 1, 21, 0, 0, 0, 0, []),
  (21, .iload_n 2, 22, 0, 0, 0, 0, []),
  (22, .iload_n 3, 23, 0, 0, 0, 0, []),
  (23, .iload 4, 25, 0, 0, 0, 0, []),
  (25, .invokestatic 187, 28, 64, 4, 0, 0, []),
  (28, .ifCond .eq 7, 31, 35, 0, 0, 0, []),
  (31, .iconst 1, 32, 0, 0, 1, 0, []),
  (32, .goto 4, 35, 36, 0, 0, 0, []),
  (35, .iconst 0, 36, 0, 0, 0, 0, []),
  (36, .ireturn, 37, 0, 0, 0, 0, [])]
noncomputable def t_SW_isCrane : List En := [
  (0, .iload_n 0, 1, 0, 0, 0, 0, []),
  (1, .iconst 0, 2, 0, 0, 0, 0, []),
  (2, .bipush 11, 4, 0, 0, 11, 0, []),
  (4, .invokestatic 68, 7, 3, 3, 0, 0, []),
  (7, .ifCond .eq 17, 10, 24, 0, 0, 0, []),
  (10, .iload_n 1, 11, 0, 0, 0, 0, []),
  (11, .iconst 0, 12, 0, 0, 0, 0, []),
  (12, .bipush 30, 14, 0, 0, 30, 0, []),
  (14, .invokestatic 68, 17, 3, 3, 0, 0, []),
  (17, .ifCond .eq 7, 20, 24, 0, 0, 0, []),
  (20, .iconst 1, 21, 0, 0, 1, 0, []),
  (21, .goto 4, 24, 25, 0, 0, 0, []),
  (24, .iconst 0, 25, 0, 0, 0, 0, []),
  (25, .ireturn, 26, 0, 0, 0, 0, [])]
noncomputable def t_Pile_isNear : List En := [
  (0, .iload_n 3, 1, 0, 0, 0, 0, []),
  (1, .iload_n 2, 2, 0, 0, 0, 0, []),
  (2, .iconst 2, 3, 0, 0, 2, 0, []),
  (3, .idiv, 4, 0, 0, 0, 0, []),
  (4, .iadd, 5, 0, 0, 0, 0, []),
  (5, .iload_n 0, 6, 0, 0, 0, 0, []),
  (6, .isub, 7, 0, 0, 0, 0, []),
  (7, .invokestatic 30, 10, 902, 0, 0, 0, []),
  (10, .iload_n 2, 11, 0, 0, 0, 0, []),
  (11, .iadd, 12, 0, 0, 0, 0, []),
  (12, .iload_n 1, 13, 0, 0, 0, 0, []),
  (13, .if_icmp .gt 7, 16, 20, 0, 0, 0, []),
  (16, .iconst 1, 17, 0, 0, 1, 0, []),
  (17, .goto 4, 20, 21, 0, 0, 0, []),
  (20, .iconst 0, 21, 0, 0, 0, 0, []),
  (21, .ireturn, 22, 0, 0, 0, 0, [])]
noncomputable def t_SW_order : List En := [
  (0, .iload_n 1, 1, 0, 0, 0, 0, []),
  (1, .iload_n 2, 2, 0, 0, 0, 0, []),
  (2, .invokestatic 184, 5, 63, 2, 0, 0, []),
  (5, .ifCond .eq 13, 8, 18, 0, 0, 0, []),
  (8, .iload_n 3, 9, 0, 0, 0, 0, []),
  (9, .iconst 1, 10, 0, 0, 1, 0, []),
  (10, .bipush 8, 12, 0, 0, 8, 0, []),
  (12, .invokestatic 68, 15, 3, 3, 0, 0, []),
  (15, .ifCond .ne 6, 18, 21, 0, 0, 0, []),
  (18, .ldc 72, 20, 0, 0, (-1000001), 0, []),
  (20, .ireturn, 21, 0, 0, 0, 0, []),
  (21, .aload_n 0, 22, 0, 0, 0, 0, []),
  (22, .getfield 33, 25, 8, 3, 0, 0, []),
  (25, .iload_n 1, 26, 0, 0, 0, 0, []),
  (26, .iload_n 2, 27, 0, 0, 0, 0, []),
  (27, .iload_n 3, 28, 0, 0, 0, 0, []),
  (28, .invokevirtual 191, 31, 66, 3, 0, 0, []),
  (31, .ireturn, 32, 0, 0, 0, 0, [])]
noncomputable def t_Pile_putInTurn : List En := [
  (0, .iconst 0, 1, 0, 0, 0, 0, []),
  (1, .istore 4, 3, 0, 0, 0, 0, []),
  (3, .iconst 0, 4, 0, 0, 0, 0, []),
  (4, .istore 5, 6, 0, 0, 0, 0, []),
  (6, .iload 5, 8, 0, 0, 0, 0, []),
  (8, .iload_n 3, 9, 0, 0, 0, 0, []),
  (9, .if_icmp .ge 141, 12, 150, 0, 0, 0, []),
  (12, .iconst 0, 13, 0, 0, 0, 0, []),
  (13, .istore 6, 15, 0, 0, 0, 0, []),
  (15, .iload 6, 17, 0, 0, 0, 0, []),
  (17, .bipush 12, 19, 0, 0, 12, 0, []),
  (19, .iload 5, 21, 0, 0, 0, 0, []),
  (21, .isub, 22, 0, 0, 0, 0, []),
  (22, .if_icmp .ge 122, 25, 144, 0, 0, 0, []),
  (25, .iload 5, 27, 0, 0, 0, 0, []),
  (27, .iload 6, 29, 0, 0, 0, 0, []),
  (29, .invokestatic 36, 32, 57, 2, 0, 0, []),
  (32, .istore 7, 34, 0, 0, 0, 0, []),
  (34, .aload_n 0, 35, 0, 0, 0, 0, []),
  (35, .getfield 11, 38, 3, 0, 0, 0, []),
  (38, .iload 7, 40, 0, 0, 0, 0, []),
  (40, .baload, 41, 0, 0, 0, 0, []),
  (41, .ifCond .ne 33, 44, 74, 0, 0, 0, []),
  (44, .aload_n 0, 45, 0, 0, 0, 0, []),
  (45, .getfield 15, 48, 3, 1, 0, 0, []),
  (48, .iload 5, 50, 0, 0, 0, 0, []),
  (50, .iload 6, 52, 0, 0, 0, 0, []),
  (52, .invokestatic 40, 55, 58, 3, 0, 0, []),
  (55, .ifCond .eq 19, 58, 74, 0, 0, 0, []),
  (58, .iload_n 1, 59, 0, 0, 0, 0, []),
  (59, .iload_n 2, 60, 0, 0, 0, 0, []),
  (60, .iload 5, 62, 0, 0, 0, 0, []),
  (62, .iload 6, 64, 0, 0, 0, 0, []),
  (64, .invokestatic 51, 67, 64, 4, 0, 0, []),
  (67, .ifCond .eq 7, 70, 74, 0, 0, 0, []),
  (70, .iconst 1, 71, 0, 0, 1, 0, []),
  (71, .goto 4, 74, 75, 0, 0, 0, []),
  (74, .iconst 0, 75, 0, 0, 0, 0, []),
  (75, .istore 8, 77, 0, 0, 0, 0, []),
  (77, .aload_n 0, 78, 0, 0, 0, 0, []),
  (78, .getfield 15, 81, 3, 1, 0, 0, []),
  (81, .iload 7, 83, 0, 0, 0, 0, []),
  (83, .aload_n 0, 84, 0, 0, 0, 0, []),
  (84, .getfield 11, 87, 3, 0, 0, 0, []),
  (87, .iload 7, 89, 0, 0, 0, 0, []),
  (89, .baload, 90, 0, 0, 0, 0, []),
  (90, .ifCond .ne 8, 93, 98, 0, 0, 0, []),
  (93, .iload 8, 95, 0, 0, 0, 0, []),
  (95, .ifCond .eq 7, 98, 102, 0, 0, 0, []),
  (98, .iconst 1, 99, 0, 0, 1, 0, []),
  (99, .goto 4, 102, 103, 0, 0, 0, []),
  (102, .iconst 0, 103, 0, 0, 0, 0, []),
  (103, .bastore, 104, 0, 0, 0, 0, []),
  (104, .aload_n 0, 105, 0, 0, 0, 0, []),
  (105, .getfield 18, 108, 3, 2, 0, 0, []),
  (108, .iload 7, 110, 0, 0, 0, 0, []),
  (110, .iload 8, 112, 0, 0, 0, 0, []),
  (112, .ifCond .eq 8, 115, 120, 0, 0, 0, []),
  (115, .iload 4, 117, 0, 0, 0, 0, []),
  (117, .goto 5, 120, 122, 0, 0, 0, []),
  (120, .ldc 55, 122, 0, 0, (-1000000), 0, []),
  (122, .iastore, 123, 0, 0, 0, 0, []),
  (123, .iload 4, 125, 0, 0, 0, 0, []),
  (125, .iload 8, 127, 0, 0, 0, 0, []),
  (127, .ifCond .eq 7, 130, 134, 0, 0, 0, []),
  (130, .iconst 1, 131, 0, 0, 1, 0, []),
  (131, .goto 4, 134, 135, 0, 0, 0, []),
  (134, .iconst 0, 135, 0, 0, 0, 0, []),
  (135, .iadd, 136, 0, 0, 0, 0, []),
  (136, .istore 4, 138, 0, 0, 0, 0, []),
  (138, .iinc 6 1, 141, 0, 0, 1, 0, []),
  (141, .goto (-126), 144, 15, 0, 0, 0, []),
  (144, .iinc 5 1, 147, 0, 0, 1, 0, []),
  (147, .goto (-141), 150, 6, 0, 0, 0, []),
  (150, .iload 4, 152, 0, 0, 0, 0, []),
  (152, .ireturn, 153, 0, 0, 0, 0, [])]
noncomputable def t_SW_planned : List En := [
  (0, .iload_n 1, 1, 0, 0, 0, 0, []),
  (1, .iload_n 2, 2, 0, 0, 0, 0, []),
  (2, .invokestatic 184, 5, 63, 2, 0, 0, []),
  (5, .ifCond .eq 42, 8, 47, 0, 0, 0, []),
  (8, .iload_n 3, 9, 0, 0, 0, 0, []),
  (9, .iconst 1, 10, 0, 0, 1, 0, []),
  (10, .bipush 8, 12, 0, 0, 8, 0, []),
  (12, .invokestatic 68, 15, 3, 3, 0, 0, []),
  (15, .ifCond .eq 32, 18, 47, 0, 0, 0, []),
  (18, .iload 4, 20, 0, 0, 0, 0, []),
  (20, .invokestatic 64, 23, 2, 1, 0, 0, []),
  (23, .ifCond .eq 24, 26, 47, 0, 0, 0, []),
  (26, .iload 6, 28, 0, 0, 0, 0, []),
  (28, .iconst 1, 29, 0, 0, 1, 0, []),
  (29, .bipush 20, 31, 0, 0, 20, 0, []),
  (31, .invokestatic 68, 34, 3, 3, 0, 0, []),
  (34, .ifCond .eq 13, 37, 47, 0, 0, 0, []),
  (37, .iload 7, 39, 0, 0, 0, 0, []),
  (39, .iload 8, 41, 0, 0, 0, 0, []),
  (41, .invokestatic 174, 44, 55, 2, 0, 0, []),
  (44, .ifCond .ne 6, 47, 50, 0, 0, 0, []),
  (47, .ldc 72, 49, 0, 0, (-1000001), 0, []),
  (49, .ireturn, 50, 0, 0, 0, 0, []),
  (50, .aload_n 0, 51, 0, 0, 0, 0, []),
  (51, .getfield 10, 54, 8, 0, 0, 0, []),
  (54, .iload 4, 56, 0, 0, 0, 0, []),
  (56, .iload 5, 58, 0, 0, 0, 0, []),
  (58, .iload 6, 60, 0, 0, 0, 0, []),
  (60, .invokevirtual 84, 63, 10, 3, 0, 0, []),
  (63, .istore 9, 65, 0, 0, 0, 0, []),
  (65, .iload 9, 67, 0, 0, 0, 0, []),
  (67, .ifCond .eq 10, 70, 77, 0, 0, 0, []),
  (70, .aload_n 0, 71, 0, 0, 0, 0, []),
  (71, .iload 9, 73, 0, 0, 0, 0, []),
  (73, .invokevirtual 73, 76, 4, 1, 0, 0, []),
  (76, .ireturn, 77, 0, 0, 0, 0, []),
  (77, .aload_n 0, 78, 0, 0, 0, 0, []),
  (78, .getfield 10, 81, 8, 0, 0, 0, []),
  (81, .iload 4, 83, 0, 0, 0, 0, []),
  (83, .iload 5, 85, 0, 0, 0, 0, []),
  (85, .iload 6, 87, 0, 0, 0, 0, []),
  (87, .bipush 20, 89, 0, 0, 20, 0, []),
  (89, .invokevirtual 194, 92, 44, 4, 0, 0, []),
  (92, .ifCond .ne 6, 95, 98, 0, 0, 0, []),
  (95, .ldc 72, 97, 0, 0, (-1000001), 0, []),
  (97, .ireturn, 98, 0, 0, 0, 0, []),
  (98, .aload_n 0, 99, 0, 0, 0, 0, []),
  (99, .getfield 33, 102, 8, 3, 0, 0, []),
  (102, .iload_n 1, 103, 0, 0, 0, 0, []),
  (103, .iload_n 2, 104, 0, 0, 0, 0, []),
  (104, .iload_n 3, 105, 0, 0, 0, 0, []),
  (105, .invokevirtual 191, 108, 66, 3, 0, 0, []),
  (108, .pop, 109, 0, 0, 0, 0, []),
  (109, .aload_n 0, 110, 0, 0, 0, 0, []),
  (110, .iload 7, 112, 0, 0, 0, 0, []),
  (112, .iload_n 3, 113, 0, 0, 0, 0, []),
  (113, .if_icmp .ge 27, 116, 140, 0, 0, 0, []),
  (116, .aload_n 0, 117, 0, 0, 0, 0, []),
  (117, .aload_n 0, 118, 0, 0, 0, 0, []),
  (118, .getfield 33, 121, 8, 3, 0, 0, []),
  (121, .iload 7, 123, 0, 0, 0, 0, []),
  (123, .iload 8, 125, 0, 0, 0, 0, []),
  (125, .invokevirtual 197, 128, 68, 2, 0, 0, []),
  (128, .iload 4, 130, 0, 0, 0, 0, []),
  (130, .iload 5, 132, 0, 0, 0, 0, []),
  (132, .iload 6, 134, 0, 0, 0, 0, []),
  (134, .invokevirtual 200, 137, 69, 4, 0, 0, []),
  (137, .goto 5, 140, 142, 0, 0, 0, []),
  (140, .ldc 154, 142, 0, 0, (-1000000), 0, []),
  (142, .invokevirtual 81, 145, 8, 1, 0, 0, []),
  (145, .ireturn, 146, 0, 0, 0, 0, [])]
noncomputable def t_Pile_turnOf : List En := [
  (0, .aload_n 0, 1, 0, 0, 0, 0, []),
  (1, .getfield 18, 4, 3, 2, 0, 0, []),
  (4, .iload_n 1, 5, 0, 0, 0, 0, []),
  (5, .iload_n 2, 6, 0, 0, 0, 0, []),
  (6, .invokestatic 36, 9, 57, 2, 0, 0, []),
  (9, .iaload, 10, 0, 0, 0, 0, []),
  (10, .ireturn, 11, 0, 0, 0, 0, [])]
noncomputable def t_SW_dayOf : List En := [
  (0, .iload_n 1, 1, 0, 0, 0, 0, []),
  (1, .ldc 154, 3, 0, 0, (-1000000), 0, []),
  (3, .if_icmp .ne 6, 6, 9, 0, 0, 0, []),
  (6, .ldc 154, 8, 0, 0, (-1000000), 0, []),
  (8, .ireturn, 9, 0, 0, 0, 0, []),
  (9, .iconst 0, 10, 0, 0, 0, 0, []),
  (10, .istore 5, 12, 0, 0, 0, 0, []),
  (12, .iconst 0, 13, 0, 0, 0, 0, []),
  (13, .istore 6, 15, 0, 0, 0, 0, []),
  (15, .iload 6, 17, 0, 0, 0, 0, []),
  (17, .iload 4, 19, 0, 0, 0, 0, []),
  (19, .if_icmp .ge 35, 22, 54, 0, 0, 0, []),
  (22, .iload 5, 24, 0, 0, 0, 0, []),
  (24, .aload_n 0, 25, 0, 0, 0, 0, []),
  (25, .getfield 10, 28, 8, 0, 0, 0, []),
  (28, .iload_n 2, 29, 0, 0, 0, 0, []),
  (29, .iload_n 3, 30, 0, 0, 0, 0, []),
  (30, .iload 6, 32, 0, 0, 0, 0, []),
  (32, .iadd, 33, 0, 0, 0, 0, []),
  (33, .invokevirtual 204, 36, 45, 2, 0, 0, []),
  (36, .iadd, 37, 0, 0, 0, 0, []),
  (37, .istore 5, 39, 0, 0, 0, 0, []),
  (39, .iload_n 1, 40, 0, 0, 0, 0, []),
  (40, .iload 5, 42, 0, 0, 0, 0, []),
  (42, .if_icmp .ge 6, 45, 48, 0, 0, 0, []),
  (45, .iload 6, 47, 0, 0, 0, 0, []),
  (47, .ireturn, 48, 0, 0, 0, 0, []),
  (48, .iinc 6 1, 51, 0, 0, 1, 0, []),
  (51, .goto (-36), 54, 15, 0, 0, 0, []),
  (54, .ldc 154, 56, 0, 0, (-1000000), 0, []),
  (56, .ireturn, 57, 0, 0, 0, 0, [])]
noncomputable def t_SW_storm : List En := [
  (0, .iload_n 1, 1, 0, 0, 0, 0, []),
  (1, .invokestatic 64, 4, 2, 1, 0, 0, []),
  (4, .ifCond .eq 23, 7, 27, 0, 0, 0, []),
  (7, .iload_n 3, 8, 0, 0, 0, 0, []),
  (8, .iconst 1, 9, 0, 0, 1, 0, []),
  (9, .bipush 48, 11, 0, 0, 48, 0, []),
  (11, .invokestatic 68, 14, 3, 3, 0, 0, []),
  (14, .ifCond .eq 13, 17, 27, 0, 0, 0, []),
  (17, .iload 4, 19, 0, 0, 0, 0, []),
  (19, .iconst 0, 20, 0, 0, 0, 0, []),
  (20, .iconst 1, 21, 0, 0, 1, 0, []),
  (21, .invokestatic 68, 24, 3, 3, 0, 0, []),
  (24, .ifCond .ne 6, 27, 30, 0, 0, 0, []),
  (27, .ldc 72, 29, 0, 0, (-1000001), 0, []),
  (29, .ireturn, 30, 0, 0, 0, 0, []),
  (30, .aload_n 0, 31, 0, 0, 0, 0, []),
  (31, .iload_n 1, 32, 0, 0, 0, 0, []),
  (32, .iload_n 2, 33, 0, 0, 0, 0, []),
  (33, .iload_n 3, 34, 0, 0, 0, 0, []),
  (34, .invokevirtual 207, 37, 71, 3, 0, 0, []),
  (37, .istore 5, 39, 0, 0, 0, 0, []),
  (39, .iload 5, 41, 0, 0, 0, 0, []),
  (41, .ifCond .eq 6, 44, 47, 0, 0, 0, []),
  (44, .iload 5, 46, 0, 0, 0, 0, []),
  (46, .ireturn, 47, 0, 0, 0, 0, []),
  (47, .aload_n 0, 48, 0, 0, 0, 0, []),
  (48, .iload 4, 50, 0, 0, 0, 0, []),
  (50, .ifCond .ne 28, 53, 78, 0, 0, 0, []),
  (53, .aload_n 0, 54, 0, 0, 0, 0, []),
  (54, .getfield 40, 57, 8, 4, 0, 0, []),
  (57, .aload_n 0, 58, 0, 0, 0, 0, []),
  (58, .getfield 19, 61, 8, 1, 0, 0, []),
  (61, .invokevirtual 210, 64, 73, 0, 0, 0, []),
  (64, .aload_n 0, 65, 0, 0, 0, 0, []),
  (65, .getfield 19, 68, 8, 1, 0, 0, []),
  (68, .iconst 2, 69, 0, 0, 2, 0, []),
  (69, .invokevirtual 135, 72, 32, 1, 0, 0, []),
  (72, .invokevirtual 213, 75, 74, 2, 0, 0, []),
  (75, .goto 18, 78, 93, 0, 0, 0, []),
  (78, .aload_n 0, 79, 0, 0, 0, 0, []),
  (79, .getfield 40, 82, 8, 4, 0, 0, []),
  (82, .aload_n 0, 83, 0, 0, 0, 0, []),
  (83, .getfield 19, 86, 8, 1, 0, 0, []),
  (86, .iconst 0, 87, 0, 0, 0, 0, []),
  (87, .invokevirtual 135, 90, 32, 1, 0, 0, []),
  (90, .invokevirtual 216, 93, 75, 1, 0, 0, []),
  (93, .invokevirtual 81, 96, 8, 1, 0, 0, []),
  (96, .ireturn, 97, 0, 0, 0, 0, [])]
noncomputable def t_SW_readHours : List En := [
  (0, .aload_n 0, 1, 0, 0, 0, 0, []),
  (1, .getfield 10, 4, 8, 0, 0, 0, []),
  (4, .iload_n 1, 5, 0, 0, 0, 0, []),
  (5, .iload_n 2, 6, 0, 0, 0, 0, []),
  (6, .iconst 2, 7, 0, 0, 2, 0, []),
  (7, .iload_n 3, 8, 0, 0, 0, 0, []),
  (8, .imul, 9, 0, 0, 0, 0, []),
  (9, .invokevirtual 84, 12, 10, 3, 0, 0, []),
  (12, .istore 4, 14, 0, 0, 0, 0, []),
  (14, .iload 4, 16, 0, 0, 0, 0, []),
  (16, .ifCond .eq 10, 19, 26, 0, 0, 0, []),
  (19, .aload_n 0, 20, 0, 0, 0, 0, []),
  (20, .iload 4, 22, 0, 0, 0, 0, []),
  (22, .invokevirtual 73, 25, 4, 1, 0, 0, []),
  (25, .ireturn, 26, 0, 0, 0, 0, []),
  (26, .aload_n 0, 27, 0, 0, 0, 0, []),
  (27, .getfield 40, 30, 8, 4, 0, 0, []),
  (30, .aload_n 0, 31, 0, 0, 0, 0, []),
  (31, .getfield 10, 34, 8, 0, 0, 0, []),
  (34, .iload_n 1, 35, 0, 0, 0, 0, []),
  (35, .iload_n 2, 36, 0, 0, 0, 0, []),
  (36, .iload_n 3, 37, 0, 0, 0, 0, []),
  (37, .invokevirtual 223, 40, 72, 4, 0, 0, []),
  (40, .ifCond .eq 7, 43, 47, 0, 0, 0, []),
  (43, .iconst 0, 44, 0, 0, 0, 0, []),
  (44, .goto 5, 47, 49, 0, 0, 0, []),
  (47, .ldc 72, 49, 0, 0, (-1000001), 0, []),
  (49, .ireturn, 50, 0, 0, 0, 0, [])]
noncomputable def t_Hours_read : List En := [
  (0, .iconst 0, 1, 0, 0, 0, 0, []),
  (1, .istore 5, 3, 0, 0, 0, 0, []),
  (3, .iload 5, 5, 0, 0, 0, 0, []),
  (5, .iload 4, 7, 0, 0, 0, 0, []),
  (7, .if_icmp .ge 82, 10, 89, 0, 0, 0, []),
  (10, .aload_n 0, 11, 0, 0, 0, 0, []),
  (11, .getfield 11, 14, 2, 0, 0, 0, []),
  (14, .iload 5, 16, 0, 0, 0, 0, []),
  (16, .aload_n 1, 17, 0, 0, 0, 0, []),
  (17, .iload_n 2, 18, 0, 0, 0, 0, []),
  (18, .iload_n 3, 19, 0, 0, 0, 0, []),
  (19, .iconst 2, 20, 0, 0, 2, 0, []),
  (20, .iload 5, 22, 0, 0, 0, 0, []),
  (22, .imul, 23, 0, 0, 0, 0, []),
  (23, .iadd, 24, 0, 0, 0, 0, []),
  (24, .invokevirtual 22, 27, 45, 2, 0, 0, []),
  (27, .iastore, 28, 0, 0, 0, 0, []),
  (28, .aload_n 0, 29, 0, 0, 0, 0, []),
  (29, .getfield 15, 32, 2, 1, 0, 0, []),
  (32, .iload 5, 34, 0, 0, 0, 0, []),
  (34, .aload_n 1, 35, 0, 0, 0, 0, []),
  (35, .iload_n 2, 36, 0, 0, 0, 0, []),
  (36, .iload_n 3, 37, 0, 0, 0, 0, []),
  (37, .iconst 2, 38, 0, 0, 2, 0, []),
  (38, .iload 5, 40, 0, 0, 0, 0, []),
  (40, .imul, 41, 0, 0, 0, 0, []),
  (41, .iadd, 42, 0, 0, 0, 0, []),
  (42, .iconst 1, 43, 0, 0, 1, 0, []),
  (43, .iadd, 44, 0, 0, 0, 0, []),
  (44, .invokevirtual 22, 47, 45, 2, 0, 0, []),
  (47, .iastore, 48, 0, 0, 0, 0, []),
  (48, .aload_n 0, 49, 0, 0, 0, 0, []),
  (49, .getfield 11, 52, 2, 0, 0, 0, []),
  (52, .iload 5, 54, 0, 0, 0, 0, []),
  (54, .iaload, 55, 0, 0, 0, 0, []),
  (55, .iconst 0, 56, 0, 0, 0, 0, []),
  (56, .sipush 200, 59, 0, 0, 200, 0, []),
  (59, .invokestatic 28, 62, 3, 3, 0, 0, []),
  (62, .ifCond .eq 19, 65, 81, 0, 0, 0, []),
  (65, .aload_n 0, 66, 0, 0, 0, 0, []),
  (66, .getfield 15, 69, 2, 1, 0, 0, []),
  (69, .iload 5, 71, 0, 0, 0, 0, []),
  (71, .iaload, 72, 0, 0, 0, 0, []),
  (72, .iconst 0, 73, 0, 0, 0, 0, []),
  (73, .bipush 100, 75, 0, 0, 100, 0, []),
  (75, .invokestatic 28, 78, 3, 3, 0, 0, []),
  (78, .ifCond .ne 5, 81, 83, 0, 0, 0, []),
  (81, .iconst 0, 82, 0, 0, 0, 0, []),
  (82, .ireturn, 83, 0, 0, 0, 0, []),
  (83, .iinc 5 1, 86, 0, 0, 1, 0, []),
  (86, .goto (-83), 89, 3, 0, 0, 0, []),
  (89, .aload_n 0, 90, 0, 0, 0, 0, []),
  (90, .iload 4, 92, 0, 0, 0, 0, []),
  (92, .putfield 18, 95, 2, 2, 0, 0, []),
  (95, .iconst 1, 96, 0, 0, 1, 0, []),
  (96, .ireturn, 97, 0, 0, 0, 0, [])]
noncomputable def t_Wall_blockSize : List En := [
  (0, .aload_n 0, 1, 0, 0, 0, 0, []),
  (1, .getfield 21, 4, 7, 3, 0, 0, []),
  (4, .ifCond .ne 7, 7, 11, 0, 0, 0, []),
  (7, .iconst 1, 8, 0, 0, 1, 0, []),
  (8, .goto 9, 11, 17, 0, 0, 0, []),
  (11, .aload_n 0, 12, 0, 0, 0, 0, []),
  (12, .getfield 18, 15, 7, 2, 0, 0, []),
  (15, .iconst 0, 16, 0, 0, 0, 0, []),
  (16, .iaload, 17, 0, 0, 0, 0, []),
  (17, .istore_n 1, 18, 0, 0, 0, 0, []),
  (18, .iconst 1, 19, 0, 0, 1, 0, []),
  (19, .istore_n 2, 20, 0, 0, 0, 0, []),
  (20, .iload_n 2, 21, 0, 0, 0, 0, []),
  (21, .bipush 40, 23, 0, 0, 40, 0, []),
  (23, .if_icmp .ge 18, 26, 41, 0, 0, 0, []),
  (26, .iload_n 2, 27, 0, 0, 0, 0, []),
  (27, .iload_n 2, 28, 0, 0, 0, 0, []),
  (28, .imul, 29, 0, 0, 0, 0, []),
  (29, .iload_n 2, 30, 0, 0, 0, 0, []),
  (30, .imul, 31, 0, 0, 0, 0, []),
  (31, .iload_n 1, 32, 0, 0, 0, 0, []),
  (32, .if_icmp .ge 9, 35, 41, 0, 0, 0, []),
  (35, .iinc 2 1, 38, 0, 0, 1, 0, []),
  (38, .goto (-18), 41, 20, 0, 0, 0, []),
  (41, .iload_n 2, 42, 0, 0, 0, 0, []),
  (42, .ireturn, 43, 0, 0, 0, 0, [])]
noncomputable def t_Hours_harm : List En := [
  (0, .iconst 0, 1, 0, 0, 0, 0, []),
  (1, .istore_n 3, 2, 0, 0, 0, 0, []),
  (2, .iconst 0, 3, 0, 0, 0, 0, []),
  (3, .istore 4, 5, 0, 0, 0, 0, []),
  (5, .iload 4, 7, 0, 0, 0, 0, []),
  (7, .aload_n 0, 8, 0, 0, 0, 0, []),
  (8, .getfield 18, 11, 2, 2, 0, 0, []),
  (11, .if_icmp .ge 47, 14, 58, 0, 0, 0, []),
  (14, .aload_n 0, 15, 0, 0, 0, 0, []),
  (15, .getfield 11, 18, 2, 0, 0, 0, []),
  (18, .iload 4, 20, 0, 0, 0, 0, []),
  (20, .iaload, 21, 0, 0, 0, 0, []),
  (21, .bipush 100, 23, 0, 0, 100, 0, []),
  (23, .imul, 24, 0, 0, 0, 0, []),
  (24, .iload_n 1, 25, 0, 0, 0, 0, []),
  (25, .iload_n 2, 26, 0, 0, 0, 0, []),
  (26, .imul, 27, 0, 0, 0, 0, []),
  (27, .bipush 10, 29, 0, 0, 10, 0, []),
  (29, .iadd, 30, 0, 0, 0, 0, []),
  (30, .idiv, 31, 0, 0, 0, 0, []),
  (31, .bipush 30, 33, 0, 0, 30, 0, []),
  (33, .isub, 34, 0, 0, 0, 0, []),
  (34, .istore 5, 36, 0, 0, 0, 0, []),
  (36, .iload 5, 38, 0, 0, 0, 0, []),
  (38, .ifCond .le 14, 41, 52, 0, 0, 0, []),
  (41, .iload_n 3, 42, 0, 0, 0, 0, []),
  (42, .iload 5, 44, 0, 0, 0, 0, []),
  (44, .iload 5, 46, 0, 0, 0, 0, []),
  (46, .imul, 47, 0, 0, 0, 0, []),
  (47, .bipush 10, 49, 0, 0, 10, 0, []),
  (49, .idiv, 50, 0, 0, 0, 0, []),
  (50, .iadd, 51, 0, 0, 0, 0, []),
  (51, .istore_n 3, 52, 0, 0, 0, 0, []),
  (52, .iinc 4 1, 55, 0, 0, 1, 0, []),
  (55, .goto (-50), 58, 5, 0, 0, 0, []),
  (58, .iload_n 3, 59, 0, 0, 0, 0, []),
  (59, .ireturn, 60, 0, 0, 0, 0, [])]
noncomputable def t_Hours_over : List En := [
  (0, .iconst 0, 1, 0, 0, 0, 0, []),
  (1, .istore_n 2, 2, 0, 0, 0, 0, []),
  (2, .iconst 0, 3, 0, 0, 0, 0, []),
  (3, .istore_n 3, 4, 0, 0, 0, 0, []),
  (4, .iload_n 3, 5, 0, 0, 0, 0, []),
  (5, .aload_n 0, 6, 0, 0, 0, 0, []),
  (6, .getfield 18, 9, 2, 2, 0, 0, []),
  (9, .if_icmp .ge 47, 12, 56, 0, 0, 0, []),
  (12, .aload_n 0, 13, 0, 0, 0, 0, []),
  (13, .getfield 11, 16, 2, 0, 0, 0, []),
  (16, .iload_n 3, 17, 0, 0, 0, 0, []),
  (17, .iaload, 18, 0, 0, 0, 0, []),
  (18, .iconst 2, 19, 0, 0, 2, 0, []),
  (19, .imul, 20, 0, 0, 0, 0, []),
  (20, .bipush 10, 22, 0, 0, 10, 0, []),
  (22, .iload_n 1, 23, 0, 0, 0, 0, []),
  (23, .aload_n 0, 24, 0, 0, 0, 0, []),
  (24, .getfield 15, 27, 2, 1, 0, 0, []),
  (27, .iload_n 3, 28, 0, 0, 0, 0, []),
  (28, .iaload, 29, 0, 0, 0, 0, []),
  (29, .isub, 30, 0, 0, 0, 0, []),
  (30, .imul, 31, 0, 0, 0, 0, []),
  (31, .isub, 32, 0, 0, 0, 0, []),
  (32, .istore 4, 34, 0, 0, 0, 0, []),
  (34, .iload 4, 36, 0, 0, 0, 0, []),
  (36, .ifCond .le 14, 39, 50, 0, 0, 0, []),
  (39, .iload_n 2, 40, 0, 0, 0, 0, []),
  (40, .iload 4, 42, 0, 0, 0, 0, []),
  (42, .iload 4, 44, 0, 0, 0, 0, []),
  (44, .imul, 45, 0, 0, 0, 0, []),
  (45, .bipush 100, 47, 0, 0, 100, 0, []),
  (47, .idiv, 48, 0, 0, 0, 0, []),
  (48, .iadd, 49, 0, 0, 0, 0, []),
  (49, .istore_n 2, 50, 0, 0, 0, 0, []),
  (50, .iinc 3 1, 53, 0, 0, 1, 0, []),
  (53, .goto (-49), 56, 4, 0, 0, 0, []),
  (56, .iload_n 2, 57, 0, 0, 0, 0, []),
  (57, .ireturn, 58, 0, 0, 0, 0, [])]
noncomputable def t_SW_design : List En := [
  (0, .iload_n 1, 1, 0, 0, 0, 0, []),
  (1, .invokestatic 64, 4, 2, 1, 0, 0, []),
  (4, .ifCond .eq 45, 7, 49, 0, 0, 0, []),
  (7, .iload_n 3, 8, 0, 0, 0, 0, []),
  (8, .iconst 1, 9, 0, 0, 1, 0, []),
  (9, .bipush 48, 11, 0, 0, 48, 0, []),
  (11, .invokestatic 68, 14, 3, 3, 0, 0, []),
  (14, .ifCond .eq 35, 17, 49, 0, 0, 0, []),
  (17, .iload 4, 19, 0, 0, 0, 0, []),
  (19, .iconst 0, 20, 0, 0, 0, 0, []),
  (20, .ldc 219, 22, 0, 0, 1000000, 0, []),
  (22, .invokestatic 68, 25, 3, 3, 0, 0, []),
  (25, .ifCond .eq 24, 28, 49, 0, 0, 0, []),
  (28, .iload 5, 30, 0, 0, 0, 0, []),
  (30, .iconst 0, 31, 0, 0, 0, 0, []),
  (31, .ldc 219, 33, 0, 0, 1000000, 0, []),
  (33, .invokestatic 68, 36, 3, 3, 0, 0, []),
  (36, .ifCond .eq 13, 39, 49, 0, 0, 0, []),
  (39, .iload 6, 41, 0, 0, 0, 0, []),
  (41, .iconst 0, 42, 0, 0, 0, 0, []),
  (42, .iconst 2, 43, 0, 0, 2, 0, []),
  (43, .invokestatic 68, 46, 3, 3, 0, 0, []),
  (46, .ifCond .ne 6, 49, 52, 0, 0, 0, []),
  (49, .ldc 72, 51, 0, 0, (-1000001), 0, []),
  (51, .ireturn, 52, 0, 0, 0, 0, []),
  (52, .aload_n 0, 53, 0, 0, 0, 0, []),
  (53, .iload_n 1, 54, 0, 0, 0, 0, []),
  (54, .iload_n 2, 55, 0, 0, 0, 0, []),
  (55, .iload_n 3, 56, 0, 0, 0, 0, []),
  (56, .invokevirtual 207, 59, 71, 3, 0, 0, []),
  (59, .istore 7, 61, 0, 0, 0, 0, []),
  (61, .iload 7, 63, 0, 0, 0, 0, []),
  (63, .ifCond .eq 6, 66, 69, 0, 0, 0, []),
  (66, .iload 7, 68, 0, 0, 0, 0, []),
  (68, .ireturn, 69, 0, 0, 0, 0, []),
  (69, .aload_n 0, 70, 0, 0, 0, 0, []),
  (70, .aload_n 0, 71, 0, 0, 0, 0, []),
  (71, .iload 4, 73, 0, 0, 0, 0, []),
  (73, .iload 5, 75, 0, 0, 0, 0, []),
  (75, .iload 6, 77, 0, 0, 0, 0, []),
  (77, .invokevirtual 220, 80, 77, 3, 0, 0, []),
  (80, .invokevirtual 81, 83, 8, 1, 0, 0, []),
  (83, .ireturn, 84, 0, 0, 0, 0, [])]
noncomputable def t_SW_leastDesign : List En := [
  (0, .aload_n 0, 1, 0, 0, 0, 0, []),
  (1, .getfield 19, 4, 8, 1, 0, 0, []),
  (4, .iconst 2, 5, 0, 0, 2, 0, []),
  (5, .invokevirtual 135, 8, 32, 1, 0, 0, []),
  (8, .istore 4, 10, 0, 0, 0, 0, []),
  (10, .aload_n 0, 11, 0, 0, 0, 0, []),
  (11, .getfield 40, 14, 8, 4, 0, 0, []),
  (14, .iload_n 2, 15, 0, 0, 0, 0, []),
  (15, .invokevirtual 226, 18, 78, 1, 0, 0, []),
  (18, .istore 5, 20, 0, 0, 0, 0, []),
  (20, .aload_n 0, 21, 0, 0, 0, 0, []),
  (21, .getfield 40, 24, 8, 4, 0, 0, []),
  (24, .iload_n 1, 25, 0, 0, 0, 0, []),
  (25, .iload 4, 27, 0, 0, 0, 0, []),
  (27, .invokevirtual 229, 30, 79, 2, 0, 0, []),
  (30, .istore 6, 32, 0, 0, 0, 0, []),
  (32, .iload 5, 34, 0, 0, 0, 0, []),
  (34, .ldc 154, 36, 0, 0, (-1000000), 0, []),
  (36, .if_icmp .eq 10, 39, 46, 0, 0, 0, []),
  (39, .iload 6, 41, 0, 0, 0, 0, []),
  (41, .ldc 154, 43, 0, 0, (-1000000), 0, []),
  (43, .if_icmp .ne 6, 46, 49, 0, 0, 0, []),
  (46, .ldc 154, 48, 0, 0, (-1000000), 0, []),
  (48, .ireturn, 49, 0, 0, 0, 0, []),
  (49, .iload 6, 51, 0, 0, 0, 0, []),
  (51, .iload 6, 53, 0, 0, 0, 0, []),
  (53, .imul, 54, 0, 0, 0, 0, []),
  (54, .iload 6, 56, 0, 0, 0, 0, []),
  (56, .imul, 57, 0, 0, 0, 0, []),
  (57, .istore 7, 59, 0, 0, 0, 0, []),
  (59, .iload_n 3, 60, 0, 0, 0, 0, []),
  (60, .lookupswitch 34 #[(0, 28), (1, 31)], 88, 94, 0, 0, 0, [88, 91]),
  (88, .iload 5, 90, 0, 0, 0, 0, []),
  (90, .ireturn, 91, 0, 0, 0, 0, []),
  (91, .iload 7, 93, 0, 0, 0, 0, []),
  (93, .ireturn, 94, 0, 0, 0, 0, []),
  (94, .iload 5, 96, 0, 0, 0, 0, []),
  (96, .iload 5, 98, 0, 0, 0, 0, []),
  (98, .imul, 99, 0, 0, 0, 0, []),
  (99, .iload 4, 101, 0, 0, 0, 0, []),
  (101, .imul, 102, 0, 0, 0, 0, []),
  (102, .iload 7, 104, 0, 0, 0, 0, []),
  (104, .bipush 10, 106, 0, 0, 10, 0, []),
  (106, .idiv, 107, 0, 0, 0, 0, []),
  (107, .iadd, 108, 0, 0, 0, 0, []),
  (108, .ireturn, 109, 0, 0, 0, 0, [])]
noncomputable def t_Hours_leastCrest : List En := [
  (0, .iconst 1, 1, 0, 0, 1, 0, []),
  (1, .istore_n 2, 2, 0, 0, 0, 0, []),
  (2, .iload_n 2, 3, 0, 0, 0, 0, []),
  (3, .bipush 100, 5, 0, 0, 100, 0, []),
  (5, .if_icmp .gt 20, 8, 25, 0, 0, 0, []),
  (8, .aload_n 0, 9, 0, 0, 0, 0, []),
  (9, .iload_n 2, 10, 0, 0, 0, 0, []),
  (10, .invokevirtual 32, 13, 75, 1, 0, 0, []),
  (13, .iload_n 1, 14, 0, 0, 0, 0, []),
  (14, .if_icmp .gt 5, 17, 19, 0, 0, 0, []),
  (17, .iload_n 2, 18, 0, 0, 0, 0, []),
  (18, .ireturn, 19, 0, 0, 0, 0, []),
  (19, .iinc 2 1, 22, 0, 0, 1, 0, []),
  (22, .goto (-20), 25, 2, 0, 0, 0, []),
  (25, .ldc 36, 27, 0, 0, (-1000000), 0, []),
  (27, .ireturn, 28, 0, 0, 0, 0, [])]
noncomputable def t_Hours_leastBlockSize : List En := [
  (0, .iconst 1, 1, 0, 0, 1, 0, []),
  (1, .istore_n 3, 2, 0, 0, 0, 0, []),
  (2, .iload_n 3, 3, 0, 0, 0, 0, []),
  (3, .bipush 39, 5, 0, 0, 39, 0, []),
  (5, .if_icmp .gt 21, 8, 26, 0, 0, 0, []),
  (8, .aload_n 0, 9, 0, 0, 0, 0, []),
  (9, .iload_n 3, 10, 0, 0, 0, 0, []),
  (10, .iload_n 2, 11, 0, 0, 0, 0, []),
  (11, .invokevirtual 37, 14, 74, 2, 0, 0, []),
  (14, .iload_n 1, 15, 0, 0, 0, 0, []),
  (15, .if_icmp .gt 5, 18, 20, 0, 0, 0, []),
  (18, .iload_n 3, 19, 0, 0, 0, 0, []),
  (19, .ireturn, 20, 0, 0, 0, 0, []),
  (20, .iinc 3 1, 23, 0, 0, 1, 0, []),
  (23, .goto (-21), 26, 2, 0, 0, 0, []),
  (26, .ldc 36, 28, 0, 0, (-1000000), 0, []),
  (28, .ireturn, 29, 0, 0, 0, 0, [])]
noncomputable def t_SW_survey : List En := [
  (0, .iload_n 1, 1, 0, 0, 0, 0, []),
  (1, .invokestatic 64, 4, 2, 1, 0, 0, []),
  (4, .ifCond .eq 53, 7, 57, 0, 0, 0, []),
  (7, .iload_n 2, 8, 0, 0, 0, 0, []),
  (8, .invokestatic 64, 11, 2, 1, 0, 0, []),
  (11, .ifCond .eq 46, 14, 57, 0, 0, 0, []),
  (14, .iload_n 3, 15, 0, 0, 0, 0, []),
  (15, .iconst 1, 16, 0, 0, 1, 0, []),
  (16, .bipush 10, 18, 0, 0, 10, 0, []),
  (18, .invokestatic 68, 21, 3, 3, 0, 0, []),
  (21, .ifCond .eq 36, 24, 57, 0, 0, 0, []),
  (24, .iload 4, 26, 0, 0, 0, 0, []),
  (26, .iconst 1, 27, 0, 0, 1, 0, []),
  (27, .bipush 10, 29, 0, 0, 10, 0, []),
  (29, .invokestatic 68, 32, 3, 3, 0, 0, []),
  (32, .ifCond .eq 25, 35, 57, 0, 0, 0, []),
  (35, .iload 5, 37, 0, 0, 0, 0, []),
  (37, .iconst 1, 38, 0, 0, 1, 0, []),
  (38, .sipush 1000, 41, 0, 0, 1000, 0, []),
  (41, .invokestatic 68, 44, 3, 3, 0, 0, []),
  (44, .ifCond .eq 13, 47, 57, 0, 0, 0, []),
  (47, .iload 6, 49, 0, 0, 0, 0, []),
  (49, .iconst 0, 50, 0, 0, 0, 0, []),
  (50, .iconst 3, 51, 0, 0, 3, 0, []),
  (51, .invokestatic 68, 54, 3, 3, 0, 0, []),
  (54, .ifCond .ne 6, 57, 60, 0, 0, 0, []),
  (57, .ldc 72, 59, 0, 0, (-1000001), 0, []),
  (59, .ireturn, 60, 0, 0, 0, 0, []),
  (60, .aload_n 0, 61, 0, 0, 0, 0, []),
  (61, .getfield 10, 64, 8, 0, 0, 0, []),
  (64, .iload_n 1, 65, 0, 0, 0, 0, []),
  (65, .invokevirtual 91, 68, 11, 1, 0, 0, []),
  (68, .ifCond .ne 14, 71, 82, 0, 0, 0, []),
  (71, .aload_n 0, 72, 0, 0, 0, 0, []),
  (72, .getfield 10, 75, 8, 0, 0, 0, []),
  (75, .iload_n 2, 76, 0, 0, 0, 0, []),
  (76, .invokevirtual 91, 79, 11, 1, 0, 0, []),
  (79, .ifCond .eq 9, 82, 88, 0, 0, 0, []),
  (82, .aload_n 0, 83, 0, 0, 0, 0, []),
  (83, .iconst 1, 84, 0, 0, 1, 0, []),
  (84, .invokevirtual 73, 87, 4, 1, 0, 0, []),
  (87, .ireturn, 88, 0, 0, 0, 0, []),
  (88, .aload_n 0, 89, 0, 0, 0, 0, []),
  (89, .getfield 10, 92, 8, 0, 0, 0, []),
  (92, .iload_n 1, 93, 0, 0, 0, 0, []),
  (93, .iconst 0, 94, 0, 0, 0, 0, []),
  (94, .iload_n 3, 95, 0, 0, 0, 0, []),
  (95, .iload 4, 97, 0, 0, 0, 0, []),
  (97, .imul, 98, 0, 0, 0, 0, []),
  (98, .invokevirtual 98, 101, 12, 3, 0, 0, []),
  (101, .ifCond .eq 19, 104, 120, 0, 0, 0, []),
  (104, .aload_n 0, 105, 0, 0, 0, 0, []),
  (105, .getfield 10, 108, 8, 0, 0, 0, []),
  (108, .iload_n 2, 109, 0, 0, 0, 0, []),
  (109, .iconst 0, 110, 0, 0, 0, 0, []),
  (110, .iload_n 3, 111, 0, 0, 0, 0, []),
  (111, .iload 4, 113, 0, 0, 0, 0, []),
  (113, .imul, 114, 0, 0, 0, 0, []),
  (114, .invokevirtual 98, 117, 12, 3, 0, 0, []),
  (117, .ifCond .ne 9, 120, 126, 0, 0, 0, []),
  (120, .aload_n 0, 121, 0, 0, 0, 0, []),
  (121, .iconst 2, 122, 0, 0, 2, 0, []),
  (122, .invokevirtual 73, 125, 4, 1, 0, 0, []),
  (125, .ireturn, 126, 0, 0, 0, 0, []),
  (126, .aload_n 0, 127, 0, 0, 0, 0, []),
  (127, .getfield 47, 130, 8, 5, 0, 0, []),
  (130, .aload_n 0, 131, 0, 0, 0, 0, []),
  (131, .getfield 10, 134, 8, 0, 0, 0, []),
  (134, .iload_n 1, 135, 0, 0, 0, 0, []),
  (135, .iload_n 2, 136, 0, 0, 0, 0, []),
  (136, .iload_n 3, 137, 0, 0, 0, 0, []),
  (137, .iload 4, 139, 0, 0, 0, 0, []),
  (139, .imul, 140, 0, 0, 0, 0, []),
  (140, .iload 5, 142, 0, 0, 0, 0, []),
  (142, .invokevirtual 232, 145, 81, 5, 0, 0, []),
  (145, .aload_n 0, 146, 0, 0, 0, 0, []),
  (146, .getfield 47, 149, 8, 5, 0, 0, []),
  (149, .iload_n 3, 150, 0, 0, 0, 0, []),
  (150, .iload 4, 152, 0, 0, 0, 0, []),
  (152, .invokevirtual 236, 155, 82, 2, 0, 0, []),
  (155, .aload_n 0, 156, 0, 0, 0, 0, []),
  (156, .aload_n 0, 157, 0, 0, 0, 0, []),
  (157, .getfield 47, 160, 8, 5, 0, 0, []),
  (160, .iload 6, 162, 0, 0, 0, 0, []),
  (162, .invokevirtual 240, 165, 85, 1, 0, 0, []),
  (165, .invokevirtual 81, 168, 8, 1, 0, 0, []),
  (168, .ireturn, 169, 0, 0, 0, 0, [])]
noncomputable def t_Surveys_compare : List En := [
  (0, .aload_n 0, 1, 0, 0, 0, 0, []),
  (1, .iconst 0, 2, 0, 0, 0, 0, []),
  (2, .putfield 23, 5, 6, 3, 0, 0, []),
  (5, .aload_n 0, 6, 0, 0, 0, 0, []),
  (6, .iconst 0, 7, 0, 0, 0, 0, []),
  (7, .putfield 26, 10, 6, 4, 0, 0, []),
  (10, .iconst 0, 11, 0, 0, 0, 0, []),
  (11, .istore 6, 13, 0, 0, 0, 0, []),
  (13, .iload 6, 15, 0, 0, 0, 0, []),
  (15, .iload 4, 17, 0, 0, 0, 0, []),
  (17, .if_icmp .ge 97, 20, 114, 0, 0, 0, []),
  (20, .aload_n 1, 21, 0, 0, 0, 0, []),
  (21, .iload_n 3, 22, 0, 0, 0, 0, []),
  (22, .iload 6, 24, 0, 0, 0, 0, []),
  (24, .invokevirtual 35, 27, 45, 2, 0, 0, []),
  (27, .i2l, 28, 0, 0, 0, 0, []),
  (28, .aload_n 1, 29, 0, 0, 0, 0, []),
  (29, .iload_n 2, 30, 0, 0, 0, 0, []),
  (30, .iload 6, 32, 0, 0, 0, 0, []),
  (32, .invokevirtual 35, 35, 45, 2, 0, 0, []),
  (35, .i2l, 36, 0, 0, 0, 0, []),
  (36, .lsub, 37, 0, 0, 0, 0, []),
  (37, .lstore 7, 39, 0, 0, 0, 0, []),
  (39, .aload_n 0, 40, 0, 0, 0, 0, []),
  (40, .getfield 11, 43, 6, 0, 0, 0, []),
  (43, .iload 6, 45, 0, 0, 0, 0, []),
  (45, .lload 7, 47, 0, 0, 0, 0, []),
  (47, .iload 5, 49, 0, 0, 0, 0, []),
  (49, .ineg, 50, 0, 0, 0, 0, []),
  (50, .i2l, 51, 0, 0, 0, 0, []),
  (51, .lcmp, 52, 0, 0, 0, 0, []),
  (52, .ifCond .gt 7, 55, 59, 0, 0, 0, []),
  (55, .iconst 1, 56, 0, 0, 1, 0, []),
  (56, .goto 4, 59, 60, 0, 0, 0, []),
  (59, .iconst 0, 60, 0, 0, 0, 0, []),
  (60, .bastore, 61, 0, 0, 0, 0, []),
  (61, .aload_n 0, 62, 0, 0, 0, 0, []),
  (62, .dup, 63, 0, 0, 0, 0, []),
  (63, .getfield 23, 66, 6, 3, 0, 0, []),
  (66, .aload_n 0, 67, 0, 0, 0, 0, []),
  (67, .getfield 11, 70, 6, 0, 0, 0, []),
  (70, .iload 6, 72, 0, 0, 0, 0, []),
  (72, .baload, 73, 0, 0, 0, 0, []),
  (73, .ifCond .eq 7, 76, 80, 0, 0, 0, []),
  (76, .iconst 1, 77, 0, 0, 1, 0, []),
  (77, .goto 4, 80, 81, 0, 0, 0, []),
  (80, .iconst 0, 81, 0, 0, 0, 0, []),
  (81, .iadd, 82, 0, 0, 0, 0, []),
  (82, .putfield 23, 85, 6, 3, 0, 0, []),
  (85, .aload_n 0, 86, 0, 0, 0, 0, []),
  (86, .dup, 87, 0, 0, 0, 0, []),
  (87, .getfield 26, 90, 6, 4, 0, 0, []),
  (90, .lload 7, 92, 0, 0, 0, 0, []),
  (92, .iload 5, 94, 0, 0, 0, 0, []),
  (94, .i2l, 95, 0, 0, 0, 0, []),
  (95, .lcmp, 96, 0, 0, 0, 0, []),
  (96, .ifCond .lt 7, 99, 103, 0, 0, 0, []),
  (99, .iconst 1, 100, 0, 0, 1, 0, []),
  (100, .goto 4, 103, 104, 0, 0, 0, []),
  (103, .iconst 0, 104, 0, 0, 0, 0, []),
  (104, .iadd, 105, 0, 0, 0, 0, []),
  (105, .putfield 26, 108, 6, 4, 0, 0, []),
  (108, .iinc 6 1, 111, 0, 0, 1, 0, []),
  (111, .goto (-98), 114, 13, 0, 0, 0, []),
  (114, .return_, 115, 0, 0, 0, 0, [])]
noncomputable def t_Surveys_gather : List En := [
  (0, .aload_n 0, 1, 0, 0, 0, 0, []),
  (1, .iconst 0, 2, 0, 0, 0, 0, []),
  (2, .putfield 29, 5, 6, 5, 0, 0, []),
  (5, .aload_n 0, 6, 0, 0, 0, 0, []),
  (6, .iconst 0, 7, 0, 0, 0, 0, []),
  (7, .putfield 32, 10, 6, 6, 0, 0, []),
  (10, .iconst 0, 11, 0, 0, 0, 0, []),
  (11, .istore_n 3, 12, 0, 0, 0, 0, []),
  (12, .iload_n 3, 13, 0, 0, 0, 0, []),
  (13, .iload_n 1, 14, 0, 0, 0, 0, []),
  (14, .iload_n 2, 15, 0, 0, 0, 0, []),
  (15, .imul, 16, 0, 0, 0, 0, []),
  (16, .if_icmp .ge 57, 19, 73, 0, 0, 0, []),
  (19, .aload_n 0, 20, 0, 0, 0, 0, []),
  (20, .iconst 0, 21, 0, 0, 0, 0, []),
  (21, .putfield 19, 24, 6, 2, 0, 0, []),
  (24, .aload_n 0, 25, 0, 0, 0, 0, []),
  (25, .iload_n 3, 26, 0, 0, 0, 0, []),
  (26, .invokevirtual 41, 29, 83, 1, 0, 0, []),
  (29, .aload_n 0, 30, 0, 0, 0, 0, []),
  (30, .iload_n 1, 31, 0, 0, 0, 0, []),
  (31, .iload_n 2, 32, 0, 0, 0, 0, []),
  (32, .invokevirtual 45, 35, 84, 2, 0, 0, []),
  (35, .aload_n 0, 36, 0, 0, 0, 0, []),
  (36, .getfield 19, 39, 6, 2, 0, 0, []),
  (39, .ifCond .le 28, 42, 67, 0, 0, 0, []),
  (42, .aload_n 0, 43, 0, 0, 0, 0, []),
  (43, .dup, 44, 0, 0, 0, 0, []),
  (44, .getfield 29, 47, 6, 5, 0, 0, []),
  (47, .iconst 1, 48, 0, 0, 1, 0, []),
  (48, .iadd, 49, 0, 0, 0, 0, []),
  (49, .putfield 29, 52, 6, 5, 0, 0, []),
  (52, .aload_n 0, 53, 0, 0, 0, 0, []),
  (53, .aload_n 0, 54, 0, 0, 0, 0, []),
  (54, .getfield 32, 57, 6, 6, 0, 0, []),
  (57, .aload_n 0, 58, 0, 0, 0, 0, []),
  (58, .getfield 19, 61, 6, 2, 0, 0, []),
  (61, .invokestatic 49, 64, 900, 0, 0, 0, []),
  (64, .putfield 32, 67, 6, 6, 0, 0, []),
  (67, .iinc 3 1, 70, 0, 0, 1, 0, []),
  (70, .goto (-58), 73, 12, 0, 0, 0, []),
  (73, .return_, 74, 0, 0, 0, 0, [])]
noncomputable def t_Surveys_join : List En := [
  (0, .aload_n 0, 1, 0, 0, 0, 0, []),
  (1, .getfield 11, 4, 6, 0, 0, 0, []),
  (4, .iload_n 1, 5, 0, 0, 0, 0, []),
  (5, .baload, 6, 0, 0, 0, 0, []),
  (6, .ifCond .eq 39, 9, 45, 0, 0, 0, []),
  (9, .aload_n 0, 10, 0, 0, 0, 0, []),
  (10, .getfield 19, 13, 6, 2, 0, 0, []),
  (13, .bipush 100, 15, 0, 0, 100, 0, []),
  (15, .if_icmp .ge 30, 18, 45, 0, 0, 0, []),
  (18, .aload_n 0, 19, 0, 0, 0, 0, []),
  (19, .getfield 11, 22, 6, 0, 0, 0, []),
  (22, .iload_n 1, 23, 0, 0, 0, 0, []),
  (23, .iconst 0, 24, 0, 0, 0, 0, []),
  (24, .bastore, 25, 0, 0, 0, 0, []),
  (25, .aload_n 0, 26, 0, 0, 0, 0, []),
  (26, .getfield 15, 29, 6, 1, 0, 0, []),
  (29, .aload_n 0, 30, 0, 0, 0, 0, []),
  (30, .getfield 19, 33, 6, 2, 0, 0, []),
  (33, .iload_n 1, 34, 0, 0, 0, 0, []),
  (34, .iastore, 35, 0, 0, 0, 0, []),
  (35, .aload_n 0, 36, 0, 0, 0, 0, []),
  (36, .dup, 37, 0, 0, 0, 0, []),
  (37, .getfield 19, 40, 6, 2, 0, 0, []),
  (40, .iconst 1, 41, 0, 0, 1, 0, []),
  (41, .iadd, 42, 0, 0, 0, 0, []),
  (42, .putfield 19, 45, 6, 2, 0, 0, []),
  (45, .return_, 46, 0, 0, 0, 0, [])]
noncomputable def t_Surveys_spread : List En := [
  (0, .iconst 0, 1, 0, 0, 0, 0, []),
  (1, .istore_n 3, 2, 0, 0, 0, 0, []),
  (2, .iload_n 3, 3, 0, 0, 0, 0, []),
  (3, .aload_n 0, 4, 0, 0, 0, 0, []),
  (4, .getfield 19, 7, 6, 2, 0, 0, []),
  (7, .if_icmp .ge 93, 10, 100, 0, 0, 0, []),
  (10, .iload_n 3, 11, 0, 0, 0, 0, []),
  (11, .bipush 100, 13, 0, 0, 100, 0, []),
  (13, .if_icmp .ge 87, 16, 100, 0, 0, 0, []),
  (16, .aload_n 0, 17, 0, 0, 0, 0, []),
  (17, .getfield 15, 20, 6, 1, 0, 0, []),
  (20, .iload_n 3, 21, 0, 0, 0, 0, []),
  (21, .iaload, 22, 0, 0, 0, 0, []),
  (22, .istore 4, 24, 0, 0, 0, 0, []),
  (24, .iload 4, 26, 0, 0, 0, 0, []),
  (26, .iload_n 1, 27, 0, 0, 0, 0, []),
  (27, .irem, 28, 0, 0, 0, 0, []),
  (28, .istore 5, 30, 0, 0, 0, 0, []),
  (30, .iload 4, 32, 0, 0, 0, 0, []),
  (32, .iload_n 1, 33, 0, 0, 0, 0, []),
  (33, .idiv, 34, 0, 0, 0, 0, []),
  (34, .istore 6, 36, 0, 0, 0, 0, []),
  (36, .iload 5, 38, 0, 0, 0, 0, []),
  (38, .ifCond .le 11, 41, 49, 0, 0, 0, []),
  (41, .aload_n 0, 42, 0, 0, 0, 0, []),
  (42, .iload 4, 44, 0, 0, 0, 0, []),
  (44, .iconst 1, 45, 0, 0, 1, 0, []),
  (45, .isub, 46, 0, 0, 0, 0, []),
  (46, .invokevirtual 41, 49, 83, 1, 0, 0, []),
  (49, .iload 5, 51, 0, 0, 0, 0, []),
  (51, .iload_n 1, 52, 0, 0, 0, 0, []),
  (52, .iconst 1, 53, 0, 0, 1, 0, []),
  (53, .isub, 54, 0, 0, 0, 0, []),
  (54, .if_icmp .ge 11, 57, 65, 0, 0, 0, []),
  (57, .aload_n 0, 58, 0, 0, 0, 0, []),
  (58, .iload 4, 60, 0, 0, 0, 0, []),
  (60, .iconst 1, 61, 0, 0, 1, 0, []),
  (61, .iadd, 62, 0, 0, 0, 0, []),
  (62, .invokevirtual 41, 65, 83, 1, 0, 0, []),
  (65, .iload 6, 67, 0, 0, 0, 0, []),
  (67, .ifCond .le 11, 70, 78, 0, 0, 0, []),
  (70, .aload_n 0, 71, 0, 0, 0, 0, []),
  (71, .iload 4, 73, 0, 0, 0, 0, []),
  (73, .iload_n 1, 74, 0, 0, 0, 0, []),
  (74, .isub, 75, 0, 0, 0, 0, []),
  (75, .invokevirtual 41, 78, 83, 1, 0, 0, []),
  (78, .iload 6, 80, 0, 0, 0, 0, []),
  (80, .iload_n 2, 81, 0, 0, 0, 0, []),
  (81, .iconst 1, 82, 0, 0, 1, 0, []),
  (82, .isub, 83, 0, 0, 0, 0, []),
  (83, .if_icmp .ge 11, 86, 94, 0, 0, 0, []),
  (86, .aload_n 0, 87, 0, 0, 0, 0, []),
  (87, .iload 4, 89, 0, 0, 0, 0, []),
  (89, .iload_n 1, 90, 0, 0, 0, 0, []),
  (90, .iadd, 91, 0, 0, 0, 0, []),
  (91, .invokevirtual 41, 94, 83, 1, 0, 0, []),
  (94, .iinc 3 1, 97, 0, 0, 1, 0, []),
  (97, .goto (-95), 100, 2, 0, 0, 0, []),
  (100, .return_, 101, 0, 0, 0, 0, [])]
noncomputable def t_Surveys_result : List En := [
  (0, .iload_n 1, 1, 0, 0, 0, 0, []),
  (1, .tableswitch 42 0 2 #[27, 32, 37], 28, 43, 0, 0, 0, [28, 33, 38]),
  (28, .aload_n 0, 29, 0, 0, 0, 0, []),
  (29, .getfield 23, 32, 6, 3, 0, 0, []),
  (32, .ireturn, 33, 0, 0, 0, 0, []),
  (33, .aload_n 0, 34, 0, 0, 0, 0, []),
  (34, .getfield 26, 37, 6, 4, 0, 0, []),
  (37, .ireturn, 38, 0, 0, 0, 0, []),
  (38, .aload_n 0, 39, 0, 0, 0, 0, []),
  (39, .getfield 29, 42, 6, 5, 0, 0, []),
  (42, .ireturn, 43, 0, 0, 0, 0, []),
  (43, .aload_n 0, 44, 0, 0, 0, 0, []),
  (44, .getfield 32, 47, 6, 6, 0, 0, []),
  (47, .ireturn, 48, 0, 0, 0, 0, [])]
noncomputable def t_SW_wave : List En := [
  (0, .iload_n 1, 1, 0, 0, 0, 0, []),
  (1, .iload_n 2, 2, 0, 0, 0, 0, []),
  (2, .iload_n 3, 3, 0, 0, 0, 0, []),
  (3, .invokestatic 243, 6, 87, 3, 0, 0, []),
  (6, .ifCond .eq 44, 9, 50, 0, 0, 0, []),
  (9, .iload 4, 11, 0, 0, 0, 0, []),
  (11, .iconst 1, 12, 0, 0, 1, 0, []),
  (12, .ldc 219, 14, 0, 0, 1000000, 0, []),
  (14, .invokestatic 68, 17, 3, 3, 0, 0, []),
  (17, .ifCond .eq 33, 20, 50, 0, 0, 0, []),
  (20, .iload 5, 22, 0, 0, 0, 0, []),
  (22, .iconst 0, 23, 0, 0, 0, 0, []),
  (23, .iconst 4, 24, 0, 0, 4, 0, []),
  (24, .invokestatic 68, 27, 3, 3, 0, 0, []),
  (27, .ifCond .eq 23, 30, 50, 0, 0, 0, []),
  (30, .iload 6, 32, 0, 0, 0, 0, []),
  (32, .iconst 0, 33, 0, 0, 0, 0, []),
  (33, .iload_n 1, 34, 0, 0, 0, 0, []),
  (34, .invokestatic 68, 37, 3, 3, 0, 0, []),
  (37, .ifCond .eq 13, 40, 50, 0, 0, 0, []),
  (40, .iload 7, 42, 0, 0, 0, 0, []),
  (42, .iconst 0, 43, 0, 0, 0, 0, []),
  (43, .iload_n 2, 44, 0, 0, 0, 0, []),
  (44, .invokestatic 68, 47, 3, 3, 0, 0, []),
  (47, .ifCond .ne 7, 50, 54, 0, 0, 0, []),
  (50, .ldc2_w 248, 53, 0, 0, 0, (-1000001), []),
  (53, .lreturn, 54, 0, 0, 0, 0, []),
  (54, .iload_n 1, 55, 0, 0, 0, 0, []),
  (55, .iload_n 2, 56, 0, 0, 0, 0, []),
  (56, .iload_n 3, 57, 0, 0, 0, 0, []),
  (57, .iload 4, 59, 0, 0, 0, 0, []),
  (59, .iload 5, 61, 0, 0, 0, 0, []),
  (61, .iload 6, 63, 0, 0, 0, 0, []),
  (63, .iload 7, 65, 0, 0, 0, 0, []),
  (65, .invokestatic 250, 68, 88, 7, 0, 0, []),
  (68, .lreturn, 69, 0, 0, 0, 0, [])]
noncomputable def t_Harbour_isOne : List En := [
  (0, .iload_n 0, 1, 0, 0, 0, 0, []),
  (1, .iconst 1, 2, 0, 0, 1, 0, []),
  (2, .bipush 50, 4, 0, 0, 50, 0, []),
  (4, .invokestatic 9, 7, 3, 3, 0, 0, []),
  (7, .ifCond .eq 27, 10, 34, 0, 0, 0, []),
  (10, .iload_n 1, 11, 0, 0, 0, 0, []),
  (11, .iconst 1, 12, 0, 0, 1, 0, []),
  (12, .bipush 50, 14, 0, 0, 50, 0, []),
  (14, .invokestatic 9, 17, 3, 3, 0, 0, []),
  (17, .ifCond .eq 17, 20, 34, 0, 0, 0, []),
  (20, .iload_n 2, 21, 0, 0, 0, 0, []),
  (21, .iconst 0, 22, 0, 0, 0, 0, []),
  (22, .bipush 10, 24, 0, 0, 10, 0, []),
  (24, .invokestatic 9, 27, 3, 3, 0, 0, []),
  (27, .ifCond .eq 7, 30, 34, 0, 0, 0, []),
  (30, .iconst 1, 31, 0, 0, 1, 0, []),
  (31, .goto 4, 34, 35, 0, 0, 0, []),
  (34, .iconst 0, 35, 0, 0, 0, 0, []),
  (35, .ireturn, 36, 0, 0, 0, 0, [])]
noncomputable def t_Harbour_comesTo : List En := [
  (0, .lconst 0, 1, 0, 0, 0, 0, []),
  (1, .lstore 7, 3, 0, 0, 0, 0, []),
  (3, .iload 4, 5, 0, 0, 0, 0, []),
  (5, .ineg, 6, 0, 0, 0, 0, []),
  (6, .istore 9, 8, 0, 0, 0, 0, []),
  (8, .iload 9, 10, 0, 0, 0, 0, []),
  (10, .iload 4, 12, 0, 0, 0, 0, []),
  (12, .if_icmp .gt 85, 15, 97, 0, 0, 0, []),
  (15, .iload 4, 17, 0, 0, 0, 0, []),
  (17, .ineg, 18, 0, 0, 0, 0, []),
  (18, .istore 10, 20, 0, 0, 0, 0, []),
  (20, .iload 10, 22, 0, 0, 0, 0, []),
  (22, .iload 4, 24, 0, 0, 0, 0, []),
  (24, .if_icmp .gt 67, 27, 91, 0, 0, 0, []),
  (27, .iload 5, 29, 0, 0, 0, 0, []),
  (29, .iconst 2, 30, 0, 0, 2, 0, []),
  (30, .iload 9, 32, 0, 0, 0, 0, []),
  (32, .imul, 33, 0, 0, 0, 0, []),
  (33, .iload_n 0, 34, 0, 0, 0, 0, []),
  (34, .imul, 35, 0, 0, 0, 0, []),
  (35, .isub, 36, 0, 0, 0, 0, []),
  (36, .invokestatic 15, 39, 902, 0, 0, 0, []),
  (39, .iload 6, 41, 0, 0, 0, 0, []),
  (41, .iconst 2, 42, 0, 0, 2, 0, []),
  (42, .iload 10, 44, 0, 0, 0, 0, []),
  (44, .imul, 45, 0, 0, 0, 0, []),
  (45, .iload_n 1, 46, 0, 0, 0, 0, []),
  (46, .imul, 47, 0, 0, 0, 0, []),
  (47, .isub, 48, 0, 0, 0, 0, []),
  (48, .invokestatic 15, 51, 902, 0, 0, 0, []),
  (51, .iadd, 52, 0, 0, 0, 0, []),
  (52, .istore 11, 54, 0, 0, 0, 0, []),
  (54, .lload 7, 56, 0, 0, 0, 0, []),
  (56, .iload_n 3, 57, 0, 0, 0, 0, []),
  (57, .iload_n 2, 58, 0, 0, 0, 0, []),
  (58, .iconst 2, 59, 0, 0, 2, 0, []),
  (59, .iload 9, 61, 0, 0, 0, 0, []),
  (61, .invokestatic 15, 64, 902, 0, 0, 0, []),
  (64, .imul, 65, 0, 0, 0, 0, []),
  (65, .iconst 2, 66, 0, 0, 2, 0, []),
  (66, .iload 10, 68, 0, 0, 0, 0, []),
  (68, .invokestatic 15, 71, 902, 0, 0, 0, []),
  (71, .imul, 72, 0, 0, 0, 0, []),
  (72, .iadd, 73, 0, 0, 0, 0, []),
  (73, .invokestatic 21, 76, 89, 3, 0, 0, []),
  (76, .iconst 1, 77, 0, 0, 1, 0, []),
  (77, .iload 11, 79, 0, 0, 0, 0, []),
  (79, .iadd, 80, 0, 0, 0, 0, []),
  (80, .idiv, 81, 0, 0, 0, 0, []),
  (81, .i2l, 82, 0, 0, 0, 0, []),
  (82, .ladd, 83, 0, 0, 0, 0, []),
  (83, .lstore 7, 85, 0, 0, 0, 0, []),
  (85, .iinc 10 1, 88, 0, 0, 1, 0, []),
  (88, .goto (-68), 91, 20, 0, 0, 0, []),
  (91, .iinc 9 1, 94, 0, 0, 1, 0, []),
  (94, .goto (-86), 97, 8, 0, 0, 0, []),
  (97, .lload 7, 99, 0, 0, 0, 0, []),
  (99, .lreturn, 100, 0, 0, 0, 0, [])]
noncomputable def t_Harbour_bounced : List En := [
  (0, .iload_n 0, 1, 0, 0, 0, 0, []),
  (1, .istore_n 3, 2, 0, 0, 0, 0, []),
  (2, .iconst 0, 3, 0, 0, 0, 0, []),
  (3, .istore 4, 5, 0, 0, 0, 0, []),
  (5, .iload 4, 7, 0, 0, 0, 0, []),
  (7, .iload_n 2, 8, 0, 0, 0, 0, []),
  (8, .if_icmp .ge 16, 11, 24, 0, 0, 0, []),
  (11, .iload_n 3, 12, 0, 0, 0, 0, []),
  (12, .iload_n 1, 13, 0, 0, 0, 0, []),
  (13, .imul, 14, 0, 0, 0, 0, []),
  (14, .bipush 10, 16, 0, 0, 10, 0, []),
  (16, .idiv, 17, 0, 0, 0, 0, []),
  (17, .istore_n 3, 18, 0, 0, 0, 0, []),
  (18, .iinc 4 1, 21, 0, 0, 1, 0, []),
  (21, .goto (-16), 24, 5, 0, 0, 0, []),
  (24, .iload_n 3, 25, 0, 0, 0, 0, []),
  (25, .ireturn, 26, 0, 0, 0, 0, [])]
noncomputable def t_SW_calm : List En := [
  (0, .iload_n 1, 1, 0, 0, 0, 0, []),
  (1, .iload_n 2, 2, 0, 0, 0, 0, []),
  (2, .iload_n 3, 3, 0, 0, 0, 0, []),
  (3, .invokestatic 243, 6, 87, 3, 0, 0, []),
  (6, .ifCond .eq 22, 9, 28, 0, 0, 0, []),
  (9, .iload 4, 11, 0, 0, 0, 0, []),
  (11, .invokestatic 64, 14, 2, 1, 0, 0, []),
  (14, .ifCond .eq 14, 17, 28, 0, 0, 0, []),
  (17, .iload 6, 19, 0, 0, 0, 0, []),
  (19, .iconst 1, 20, 0, 0, 1, 0, []),
  (20, .bipush 50, 22, 0, 0, 50, 0, []),
  (22, .invokestatic 68, 25, 3, 3, 0, 0, []),
  (25, .ifCond .ne 6, 28, 31, 0, 0, 0, []),
  (28, .ldc 72, 30, 0, 0, (-1000001), 0, []),
  (30, .ireturn, 31, 0, 0, 0, 0, []),
  (31, .aload_n 0, 32, 0, 0, 0, 0, []),
  (32, .getfield 10, 35, 8, 0, 0, 0, []),
  (35, .iload 4, 37, 0, 0, 0, 0, []),
  (37, .iload 5, 39, 0, 0, 0, 0, []),
  (39, .iconst 2, 40, 0, 0, 2, 0, []),
  (40, .iload 6, 42, 0, 0, 0, 0, []),
  (42, .imul, 43, 0, 0, 0, 0, []),
  (43, .invokevirtual 84, 46, 10, 3, 0, 0, []),
  (46, .istore 7, 48, 0, 0, 0, 0, []),
  (48, .iload 7, 50, 0, 0, 0, 0, []),
  (50, .ifCond .eq 10, 53, 60, 0, 0, 0, []),
  (53, .aload_n 0, 54, 0, 0, 0, 0, []),
  (54, .iload 7, 56, 0, 0, 0, 0, []),
  (56, .invokevirtual 73, 59, 4, 1, 0, 0, []),
  (59, .ireturn, 60, 0, 0, 0, 0, []),
  (60, .aload_n 0, 61, 0, 0, 0, 0, []),
  (61, .iload_n 1, 62, 0, 0, 0, 0, []),
  (62, .iload_n 2, 63, 0, 0, 0, 0, []),
  (63, .iload 4, 65, 0, 0, 0, 0, []),
  (65, .iload 5, 67, 0, 0, 0, 0, []),
  (67, .iload 6, 69, 0, 0, 0, 0, []),
  (69, .invokevirtual 254, 72, 91, 5, 0, 0, []),
  (72, .ifCond .ne 6, 75, 78, 0, 0, 0, []),
  (75, .ldc 72, 77, 0, 0, (-1000001), 0, []),
  (77, .ireturn, 78, 0, 0, 0, 0, []),
  (78, .aload_n 0, 79, 0, 0, 0, 0, []),
  (79, .aload_n 0, 80, 0, 0, 0, 0, []),
  (80, .iload_n 1, 81, 0, 0, 0, 0, []),
  (81, .iload_n 2, 82, 0, 0, 0, 0, []),
  (82, .iload_n 3, 83, 0, 0, 0, 0, []),
  (83, .iload 4, 85, 0, 0, 0, 0, []),
  (85, .iload 5, 87, 0, 0, 0, 0, []),
  (87, .iload 6, 89, 0, 0, 0, 0, []),
  (89, .invokevirtual 258, 92, 92, 6, 0, 0, []),
  (92, .invokevirtual 81, 95, 8, 1, 0, 0, []),
  (95, .ireturn, 96, 0, 0, 0, 0, [])]
noncomputable def t_SW_areSpots : List En := [
  (0, .iconst 0, 1, 0, 0, 0, 0, []),
  (1, .istore 6, 3, 0, 0, 0, 0, []),
  (3, .iload 6, 5, 0, 0, 0, 0, []),
  (5, .iload 5, 7, 0, 0, 0, 0, []),
  (7, .if_icmp .ge 58, 10, 65, 0, 0, 0, []),
  (10, .iload 4, 12, 0, 0, 0, 0, []),
  (12, .iconst 2, 13, 0, 0, 2, 0, []),
  (13, .iload 6, 15, 0, 0, 0, 0, []),
  (15, .imul, 16, 0, 0, 0, 0, []),
  (16, .iadd, 17, 0, 0, 0, 0, []),
  (17, .istore 7, 19, 0, 0, 0, 0, []),
  (19, .aload_n 0, 20, 0, 0, 0, 0, []),
  (20, .getfield 10, 23, 8, 0, 0, 0, []),
  (23, .iload_n 3, 24, 0, 0, 0, 0, []),
  (24, .iload 7, 26, 0, 0, 0, 0, []),
  (26, .invokevirtual 204, 29, 45, 2, 0, 0, []),
  (29, .iconst 0, 30, 0, 0, 0, 0, []),
  (30, .iload_n 1, 31, 0, 0, 0, 0, []),
  (31, .invokestatic 68, 34, 3, 3, 0, 0, []),
  (34, .ifCond .eq 23, 37, 57, 0, 0, 0, []),
  (37, .aload_n 0, 38, 0, 0, 0, 0, []),
  (38, .getfield 10, 41, 8, 0, 0, 0, []),
  (41, .iload_n 3, 42, 0, 0, 0, 0, []),
  (42, .iload 7, 44, 0, 0, 0, 0, []),
  (44, .iconst 1, 45, 0, 0, 1, 0, []),
  (45, .iadd, 46, 0, 0, 0, 0, []),
  (46, .invokevirtual 204, 49, 45, 2, 0, 0, []),
  (49, .iconst 0, 50, 0, 0, 0, 0, []),
  (50, .iload_n 2, 51, 0, 0, 0, 0, []),
  (51, .invokestatic 68, 54, 3, 3, 0, 0, []),
  (54, .ifCond .ne 5, 57, 59, 0, 0, 0, []),
  (57, .iconst 0, 58, 0, 0, 0, 0, []),
  (58, .ireturn, 59, 0, 0, 0, 0, []),
  (59, .iinc 6 1, 62, 0, 0, 1, 0, []),
  (62, .goto (-59), 65, 3, 0, 0, 0, []),
  (65, .iconst 1, 66, 0, 0, 1, 0, []),
  (66, .ireturn, 67, 0, 0, 0, 0, [])]
noncomputable def t_SW_calmest : List En := [
  (0, .iconst 0, 1, 0, 0, 0, 0, []),
  (1, .istore 7, 3, 0, 0, 0, 0, []),
  (3, .lconst 0, 4, 0, 0, 0, 0, []),
  (4, .lstore 8, 6, 0, 0, 0, 0, []),
  (6, .iconst 0, 7, 0, 0, 0, 0, []),
  (7, .istore 10, 9, 0, 0, 0, 0, []),
  (9, .iload 10, 11, 0, 0, 0, 0, []),
  (11, .iload 6, 13, 0, 0, 0, 0, []),
  (13, .if_icmp .ge 83, 16, 96, 0, 0, 0, []),
  (16, .aload_n 0, 17, 0, 0, 0, 0, []),
  (17, .getfield 10, 20, 8, 0, 0, 0, []),
  (20, .iload 4, 22, 0, 0, 0, 0, []),
  (22, .iload 5, 24, 0, 0, 0, 0, []),
  (24, .iconst 2, 25, 0, 0, 2, 0, []),
  (25, .iload 10, 27, 0, 0, 0, 0, []),
  (27, .imul, 28, 0, 0, 0, 0, []),
  (28, .iadd, 29, 0, 0, 0, 0, []),
  (29, .invokevirtual 204, 32, 45, 2, 0, 0, []),
  (32, .istore 11, 34, 0, 0, 0, 0, []),
  (34, .aload_n 0, 35, 0, 0, 0, 0, []),
  (35, .getfield 10, 38, 8, 0, 0, 0, []),
  (38, .iload 4, 40, 0, 0, 0, 0, []),
  (40, .iload 5, 42, 0, 0, 0, 0, []),
  (42, .iconst 2, 43, 0, 0, 2, 0, []),
  (43, .iload 10, 45, 0, 0, 0, 0, []),
  (45, .imul, 46, 0, 0, 0, 0, []),
  (46, .iadd, 47, 0, 0, 0, 0, []),
  (47, .iconst 1, 48, 0, 0, 1, 0, []),
  (48, .iadd, 49, 0, 0, 0, 0, []),
  (49, .invokevirtual 204, 52, 45, 2, 0, 0, []),
  (52, .istore 12, 54, 0, 0, 0, 0, []),
  (54, .iload_n 1, 55, 0, 0, 0, 0, []),
  (55, .iload_n 2, 56, 0, 0, 0, 0, []),
  (56, .iload_n 3, 57, 0, 0, 0, 0, []),
  (57, .ldc 219, 59, 0, 0, 1000000, 0, []),
  (59, .iconst 2, 60, 0, 0, 2, 0, []),
  (60, .iload 11, 62, 0, 0, 0, 0, []),
  (62, .iload 12, 64, 0, 0, 0, 0, []),
  (64, .invokestatic 250, 67, 88, 7, 0, 0, []),
  (67, .lstore 13, 69, 0, 0, 0, 0, []),
  (69, .iload 10, 71, 0, 0, 0, 0, []),
  (71, .ifCond .eq 11, 74, 82, 0, 0, 0, []),
  (74, .lload 13, 76, 0, 0, 0, 0, []),
  (76, .lload 8, 78, 0, 0, 0, 0, []),
  (78, .lcmp, 79, 0, 0, 0, 0, []),
  (79, .ifCond .ge 11, 82, 90, 0, 0, 0, []),
  (82, .lload 13, 84, 0, 0, 0, 0, []),
  (84, .lstore 8, 86, 0, 0, 0, 0, []),
  (86, .iload 10, 88, 0, 0, 0, 0, []),
  (88, .istore 7, 90, 0, 0, 0, 0, []),
  (90, .iinc 10 1, 93, 0, 0, 1, 0, []),
  (93, .goto (-84), 96, 9, 0, 0, 0, []),
  (96, .iload 7, 98, 0, 0, 0, 0, []),
  (98, .ireturn, 99, 0, 0, 0, 0, [])]
noncomputable def t_SW_kind : List En := [
  (0, .aload_n 0, 1, 0, 0, 0, 0, []),
  (1, .getfield 19, 4, 8, 1, 0, 0, []),
  (4, .iload_n 1, 5, 0, 0, 0, 0, []),
  (5, .invokevirtual 129, 8, 30, 1, 0, 0, []),
  (8, .ifCond .ne 6, 11, 14, 0, 0, 0, []),
  (11, .ldc 72, 13, 0, 0, (-1000001), 0, []),
  (13, .ireturn, 14, 0, 0, 0, 0, []),
  (14, .aload_n 0, 15, 0, 0, 0, 0, []),
  (15, .getfield 19, 18, 8, 1, 0, 0, []),
  (18, .iload_n 1, 19, 0, 0, 0, 0, []),
  (19, .invokevirtual 262, 22, 94, 1, 0, 0, []),
  (22, .ireturn, 23, 0, 0, 0, 0, [])]
noncomputable def t_Wall_kindOf : List En := [
  (0, .aload_n 0, 1, 0, 0, 0, 0, []),
  (1, .iload_n 1, 2, 0, 0, 0, 0, []),
  (2, .invokevirtual 49, 5, 35, 1, 0, 0, []),
  (5, .istore_n 2, 6, 0, 0, 0, 0, []),
  (6, .iload_n 1, 7, 0, 0, 0, 0, []),
  (7, .ifCond .ne 25, 10, 32, 0, 0, 0, []),
  (10, .iload_n 2, 11, 0, 0, 0, 0, []),
  (11, .ifCond .eq 19, 14, 30, 0, 0, 0, []),
  (14, .aload_n 0, 15, 0, 0, 0, 0, []),
  (15, .getfield 18, 18, 7, 2, 0, 0, []),
  (18, .iconst 0, 19, 0, 0, 0, 0, []),
  (19, .iaload, 20, 0, 0, 0, 0, []),
  (20, .sipush 1000, 23, 0, 0, 1000, 0, []),
  (23, .if_icmp .lt 7, 26, 30, 0, 0, 0, []),
  (26, .iconst 2, 27, 0, 0, 2, 0, []),
  (27, .goto 4, 30, 31, 0, 0, 0, []),
  (30, .iconst 1, 31, 0, 0, 1, 0, []),
  (31, .ireturn, 32, 0, 0, 0, 0, []),
  (32, .iload_n 2, 33, 0, 0, 0, 0, []),
  (33, .ifCond .eq 7, 36, 40, 0, 0, 0, []),
  (36, .iconst 3, 37, 0, 0, 3, 0, []),
  (37, .goto 4, 40, 41, 0, 0, 0, []),
  (40, .iconst 4, 41, 0, 0, 4, 0, []),
  (41, .ireturn, 42, 0, 0, 0, 0, [])]
noncomputable def t_SW_as : List En := [
  (0, .aload_n 0, 1, 0, 0, 0, 0, []),
  (1, .getfield 19, 4, 8, 1, 0, 0, []),
  (4, .iload_n 1, 5, 0, 0, 0, 0, []),
  (5, .invokevirtual 129, 8, 30, 1, 0, 0, []),
  (8, .ifCond .eq 12, 11, 20, 0, 0, 0, []),
  (11, .iload_n 2, 12, 0, 0, 0, 0, []),
  (12, .iconst 0, 13, 0, 0, 0, 0, []),
  (13, .iconst 4, 14, 0, 0, 4, 0, []),
  (14, .invokestatic 68, 17, 3, 3, 0, 0, []),
  (17, .ifCond .ne 6, 20, 23, 0, 0, 0, []),
  (20, .ldc 72, 22, 0, 0, (-1000001), 0, []),
  (22, .ireturn, 23, 0, 0, 0, 0, []),
  (23, .aload_n 0, 24, 0, 0, 0, 0, []),
  (24, .getfield 19, 27, 8, 1, 0, 0, []),
  (27, .iload_n 1, 28, 0, 0, 0, 0, []),
  (28, .iload_n 2, 29, 0, 0, 0, 0, []),
  (29, .invokevirtual 265, 32, 96, 2, 0, 0, []),
  (32, .ifCond .ne 9, 35, 41, 0, 0, 0, []),
  (35, .aload_n 0, 36, 0, 0, 0, 0, []),
  (36, .iconst 3, 37, 0, 0, 3, 0, []),
  (37, .invokevirtual 73, 40, 4, 1, 0, 0, []),
  (40, .ireturn, 41, 0, 0, 0, 0, []),
  (41, .aload_n 0, 42, 0, 0, 0, 0, []),
  (42, .aload_n 0, 43, 0, 0, 0, 0, []),
  (43, .getfield 19, 46, 8, 1, 0, 0, []),
  (46, .iload_n 1, 47, 0, 0, 0, 0, []),
  (47, .invokevirtual 141, 50, 34, 1, 0, 0, []),
  (50, .invokevirtual 81, 53, 8, 1, 0, 0, []),
  (53, .ireturn, 54, 0, 0, 0, 0, [])]
noncomputable def t_Wall_isOfKind : List En := [
  (0, .aload_n 0, 1, 0, 0, 0, 0, []),
  (1, .iload_n 1, 2, 0, 0, 0, 0, []),
  (2, .invokevirtual 53, 5, 94, 1, 0, 0, []),
  (5, .istore_n 3, 6, 0, 0, 0, 0, []),
  (6, .iload_n 2, 7, 0, 0, 0, 0, []),
  (7, .ifCond .eq 18, 10, 25, 0, 0, 0, []),
  (10, .iload_n 2, 11, 0, 0, 0, 0, []),
  (11, .iload_n 3, 12, 0, 0, 0, 0, []),
  (12, .if_icmp .eq 13, 15, 25, 0, 0, 0, []),
  (15, .iload_n 2, 16, 0, 0, 0, 0, []),
  (16, .iconst 1, 17, 0, 0, 1, 0, []),
  (17, .if_icmp .ne 12, 20, 29, 0, 0, 0, []),
  (20, .iload_n 3, 21, 0, 0, 0, 0, []),
  (21, .iconst 2, 22, 0, 0, 2, 0, []),
  (22, .if_icmp .ne 7, 25, 29, 0, 0, 0, []),
  (25, .iconst 1, 26, 0, 0, 1, 0, []),
  (26, .goto 4, 29, 30, 0, 0, 0, []),
  (29, .iconst 0, 30, 0, 0, 0, 0, []),
  (30, .ireturn, 31, 0, 0, 0, 0, [])]
noncomputable def t_SW_ask : List En := [
  (0, .aload_n 0, 1, 0, 0, 0, 0, []),
  (1, .getfield 19, 4, 8, 1, 0, 0, []),
  (4, .iload_n 1, 5, 0, 0, 0, 0, []),
  (5, .invokevirtual 129, 8, 30, 1, 0, 0, []),
  (8, .ifCond .eq 12, 11, 20, 0, 0, 0, []),
  (11, .iload_n 2, 12, 0, 0, 0, 0, []),
  (12, .iconst 0, 13, 0, 0, 0, 0, []),
  (13, .iconst 1, 14, 0, 0, 1, 0, []),
  (14, .invokestatic 68, 17, 3, 3, 0, 0, []),
  (17, .ifCond .ne 6, 20, 23, 0, 0, 0, []),
  (20, .ldc 72, 22, 0, 0, (-1000001), 0, []),
  (22, .ireturn, 23, 0, 0, 0, 0, []),
  (23, .aload_n 0, 24, 0, 0, 0, 0, []),
  (24, .getfield 56, 27, 8, 6, 0, 0, []),
  (27, .invokevirtual 268, 30, 98, 0, 0, 0, []),
  (30, .iload_n 2, 31, 0, 0, 0, 0, []),
  (31, .ifCond .ne 14, 34, 45, 0, 0, 0, []),
  (34, .aload_n 0, 35, 0, 0, 0, 0, []),
  (35, .getfield 56, 38, 8, 6, 0, 0, []),
  (38, .iload_n 1, 39, 0, 0, 0, 0, []),
  (39, .invokevirtual 271, 42, 99, 1, 0, 0, []),
  (42, .goto 11, 45, 53, 0, 0, 0, []),
  (45, .aload_n 0, 46, 0, 0, 0, 0, []),
  (46, .getfield 56, 49, 8, 6, 0, 0, []),
  (49, .iload_n 1, 50, 0, 0, 0, 0, []),
  (50, .invokevirtual 274, 53, 108, 1, 0, 0, []),
  (53, .ireturn, 54, 0, 0, 0, 0, [])]
noncomputable def t_Asks_forget : List En := [
  (0, .aload_n 0, 1, 0, 0, 0, 0, []),
  (1, .iconst 0, 2, 0, 0, 0, 0, []),
  (2, .putfield 15, 5, 0, 2, 0, 0, []),
  (5, .return_, 6, 0, 0, 0, 0, [])]
noncomputable def t_Asks_worth : List En := [
  (0, .aload_n 0, 1, 0, 0, 0, 0, []),
  (1, .getfield 19, 4, 0, 0, 0, 0, []),
  (4, .iload_n 1, 5, 0, 0, 0, 0, []),
  (5, .invokevirtual 28, 8, 94, 1, 0, 0, []),
  (8, .tableswitch 50 1 4 #[38, 32, 50, 44], 40, 58, 0, 0, 0, [46, 40, 58, 52]),
  (40, .aload_n 0, 41, 0, 0, 0, 0, []),
  (41, .iload_n 1, 42, 0, 0, 0, 0, []),
  (42, .invokevirtual 34, 45, 100, 1, 0, 0, []),
  (45, .ireturn, 46, 0, 0, 0, 0, []),
  (46, .aload_n 0, 47, 0, 0, 0, 0, []),
  (47, .iload_n 1, 48, 0, 0, 0, 0, []),
  (48, .invokevirtual 37, 51, 102, 1, 0, 0, []),
  (51, .ireturn, 52, 0, 0, 0, 0, []),
  (52, .aload_n 0, 53, 0, 0, 0, 0, []),
  (53, .iload_n 1, 54, 0, 0, 0, 0, []),
  (54, .invokevirtual 40, 57, 107, 1, 0, 0, []),
  (57, .ireturn, 58, 0, 0, 0, 0, []),
  (58, .aload_n 0, 59, 0, 0, 0, 0, []),
  (59, .iload_n 1, 60, 0, 0, 0, 0, []),
  (60, .invokevirtual 43, 63, 103, 1, 0, 0, []),
  (63, .ireturn, 64, 0, 0, 0, 0, [])]
noncomputable def t_Asks_armourWorth : List En := [
  (0, .aload_n 0, 1, 0, 0, 0, 0, []),
  (1, .bipush 12, 3, 0, 0, 12, 0, []),
  (3, .invokevirtual 58, 6, 101, 1, 0, 0, []),
  (6, .aload_n 0, 7, 0, 0, 0, 0, []),
  (7, .iload_n 1, 8, 0, 0, 0, 0, []),
  (8, .invokevirtual 37, 11, 102, 1, 0, 0, []),
  (11, .aload_n 0, 12, 0, 0, 0, 0, []),
  (12, .iload_n 1, 13, 0, 0, 0, 0, []),
  (13, .invokevirtual 46, 16, 104, 1, 0, 0, []),
  (16, .iadd, 17, 0, 0, 0, 0, []),
  (17, .ireturn, 18, 0, 0, 0, 0, [])]
noncomputable def t_Asks_begin : List En := [
  (0, .aload_n 0, 1, 0, 0, 0, 0, []),
  (1, .getfield 15, 4, 0, 2, 0, 0, []),
  (4, .bipush 16, 6, 0, 0, 16, 0, []),
  (6, .if_icmp .ge 23, 9, 29, 0, 0, 0, []),
  (9, .aload_n 0, 10, 0, 0, 0, 0, []),
  (10, .getfield 11, 13, 0, 1, 0, 0, []),
  (13, .aload_n 0, 14, 0, 0, 0, 0, []),
  (14, .getfield 15, 17, 0, 2, 0, 0, []),
  (17, .iload_n 1, 18, 0, 0, 0, 0, []),
  (18, .iastore, 19, 0, 0, 0, 0, []),
  (19, .aload_n 0, 20, 0, 0, 0, 0, []),
  (20, .dup, 21, 0, 0, 0, 0, []),
  (21, .getfield 15, 24, 0, 2, 0, 0, []),
  (24, .iconst 1, 25, 0, 0, 1, 0, []),
  (25, .iadd, 26, 0, 0, 0, 0, []),
  (26, .putfield 15, 29, 0, 2, 0, 0, []),
  (29, .return_, 30, 0, 0, 0, 0, [])]
noncomputable def t_Asks_coverWorth : List En := [
  (0, .aload_n 0, 1, 0, 0, 0, 0, []),
  (1, .bipush 11, 3, 0, 0, 11, 0, []),
  (3, .invokevirtual 58, 6, 101, 1, 0, 0, []),
  (6, .aload_n 0, 7, 0, 0, 0, 0, []),
  (7, .iload_n 1, 8, 0, 0, 0, 0, []),
  (8, .invokevirtual 43, 11, 103, 1, 0, 0, []),
  (11, .aload_n 0, 12, 0, 0, 0, 0, []),
  (12, .getfield 19, 15, 0, 0, 0, 0, []),
  (15, .iconst 2, 16, 0, 0, 2, 0, []),
  (16, .invokevirtual 65, 19, 32, 1, 0, 0, []),
  (19, .iadd, 20, 0, 0, 0, 0, []),
  (20, .ireturn, 21, 0, 0, 0, 0, [])]
noncomputable def t_Asks_lentWorth : List En := [
  (0, .aload_n 0, 1, 0, 0, 0, 0, []),
  (1, .bipush 10, 3, 0, 0, 10, 0, []),
  (3, .invokevirtual 58, 6, 101, 1, 0, 0, []),
  (6, .aload_n 0, 7, 0, 0, 0, 0, []),
  (7, .getfield 19, 10, 0, 0, 0, 0, []),
  (10, .iload_n 1, 11, 0, 0, 0, 0, []),
  (11, .invokevirtual 62, 14, 33, 1, 0, 0, []),
  (14, .ireturn, 15, 0, 0, 0, 0, [])]
noncomputable def t_Asks_armourMark : List En := [
  (0, .aload_n 0, 1, 0, 0, 0, 0, []),
  (1, .bipush 22, 3, 0, 0, 22, 0, []),
  (3, .invokevirtual 58, 6, 101, 1, 0, 0, []),
  (6, .aload_n 0, 7, 0, 0, 0, 0, []),
  (7, .iload_n 1, 8, 0, 0, 0, 0, []),
  (8, .invokevirtual 49, 11, 105, 1, 0, 0, []),
  (11, .sipush 1000, 14, 0, 0, 1000, 0, []),
  (14, .iadd, 15, 0, 0, 0, 0, []),
  (15, .ireturn, 16, 0, 0, 0, 0, [])]
noncomputable def t_Asks_coverMark : List En := [
  (0, .aload_n 0, 1, 0, 0, 0, 0, []),
  (1, .bipush 21, 3, 0, 0, 21, 0, []),
  (3, .invokevirtual 58, 6, 101, 1, 0, 0, []),
  (6, .aload_n 0, 7, 0, 0, 0, 0, []),
  (7, .iload_n 1, 8, 0, 0, 0, 0, []),
  (8, .invokevirtual 55, 11, 106, 1, 0, 0, []),
  (11, .bipush 10, 13, 0, 0, 10, 0, []),
  (13, .idiv, 14, 0, 0, 0, 0, []),
  (14, .ireturn, 15, 0, 0, 0, 0, [])]
noncomputable def t_Asks_lentMark : List En := [
  (0, .aload_n 0, 1, 0, 0, 0, 0, []),
  (1, .bipush 20, 3, 0, 0, 20, 0, []),
  (3, .invokevirtual 58, 6, 101, 1, 0, 0, []),
  (6, .aload_n 0, 7, 0, 0, 0, 0, []),
  (7, .getfield 19, 10, 0, 0, 0, 0, []),
  (10, .iload_n 1, 11, 0, 0, 0, 0, []),
  (11, .invokevirtual 68, 14, 34, 1, 0, 0, []),
  (14, .ireturn, 15, 0, 0, 0, 0, [])]
noncomputable def t_Asks_looseWorth : List En := [
  (0, .aload_n 0, 1, 0, 0, 0, 0, []),
  (1, .bipush 13, 3, 0, 0, 13, 0, []),
  (3, .invokevirtual 58, 6, 101, 1, 0, 0, []),
  (6, .aload_n 0, 7, 0, 0, 0, 0, []),
  (7, .iload_n 1, 8, 0, 0, 0, 0, []),
  (8, .invokevirtual 43, 11, 103, 1, 0, 0, []),
  (11, .aload_n 0, 12, 0, 0, 0, 0, []),
  (12, .iload_n 1, 13, 0, 0, 0, 0, []),
  (13, .invokevirtual 55, 16, 106, 1, 0, 0, []),
  (16, .isub, 17, 0, 0, 0, 0, []),
  (17, .ireturn, 18, 0, 0, 0, 0, [])]
noncomputable def t_Asks_mark : List En := [
  (0, .aload_n 0, 1, 0, 0, 0, 0, []),
  (1, .getfield 19, 4, 0, 0, 0, 0, []),
  (4, .iload_n 1, 5, 0, 0, 0, 0, []),
  (5, .invokevirtual 28, 8, 94, 1, 0, 0, []),
  (8, .tableswitch 46 1 3 #[34, 28, 40], 36, 54, 0, 0, 0, [42, 36, 48]),
  (36, .aload_n 0, 37, 0, 0, 0, 0, []),
  (37, .iload_n 1, 38, 0, 0, 0, 0, []),
  (38, .invokevirtual 46, 41, 104, 1, 0, 0, []),
  (41, .ireturn, 42, 0, 0, 0, 0, []),
  (42, .aload_n 0, 43, 0, 0, 0, 0, []),
  (43, .iload_n 1, 44, 0, 0, 0, 0, []),
  (44, .invokevirtual 49, 47, 105, 1, 0, 0, []),
  (47, .ireturn, 48, 0, 0, 0, 0, []),
  (48, .aload_n 0, 49, 0, 0, 0, 0, []),
  (49, .iload_n 1, 50, 0, 0, 0, 0, []),
  (50, .invokevirtual 52, 53, 109, 1, 0, 0, []),
  (53, .ireturn, 54, 0, 0, 0, 0, []),
  (54, .aload_n 0, 55, 0, 0, 0, 0, []),
  (55, .iload_n 1, 56, 0, 0, 0, 0, []),
  (56, .invokevirtual 55, 59, 106, 1, 0, 0, []),
  (59, .ireturn, 60, 0, 0, 0, 0, [])]
noncomputable def t_Asks_underMark : List En := [
  (0, .aload_n 0, 1, 0, 0, 0, 0, []),
  (1, .bipush 23, 3, 0, 0, 23, 0, []),
  (3, .invokevirtual 58, 6, 101, 1, 0, 0, []),
  (6, .aload_n 0, 7, 0, 0, 0, 0, []),
  (7, .iload_n 1, 8, 0, 0, 0, 0, []),
  (8, .invokevirtual 55, 11, 106, 1, 0, 0, []),
  (11, .aload_n 0, 12, 0, 0, 0, 0, []),
  (12, .iload_n 1, 13, 0, 0, 0, 0, []),
  (13, .invokevirtual 43, 16, 103, 1, 0, 0, []),
  (16, .iadd, 17, 0, 0, 0, 0, []),
  (17, .ireturn, 18, 0, 0, 0, 0, [])]
noncomputable def t_SW_trace : List En := [
  (0, .aload_n 0, 1, 0, 0, 0, 0, []),
  (1, .getfield 56, 4, 8, 6, 0, 0, []),
  (4, .iload_n 1, 5, 0, 0, 0, 0, []),
  (5, .invokevirtual 277, 8, 111, 1, 0, 0, []),
  (8, .ireturn, 9, 0, 0, 0, 0, [])]
noncomputable def t_Asks_traced : List En := [
  (0, .iload_n 1, 1, 0, 0, 0, 0, []),
  (1, .iconst 0, 2, 0, 0, 0, 0, []),
  (2, .aload_n 0, 3, 0, 0, 0, 0, []),
  (3, .getfield 15, 6, 0, 2, 0, 0, []),
  (6, .iconst 1, 7, 0, 0, 1, 0, []),
  (7, .isub, 8, 0, 0, 0, 0, []),
  (8, .invokestatic 23, 11, 3, 3, 0, 0, []),
  (11, .ifCond .eq 12, 14, 23, 0, 0, 0, []),
  (14, .aload_n 0, 15, 0, 0, 0, 0, []),
  (15, .getfield 11, 18, 0, 1, 0, 0, []),
  (18, .iload_n 1, 19, 0, 0, 0, 0, []),
  (19, .iaload, 20, 0, 0, 0, 0, []),
  (20, .goto 5, 23, 25, 0, 0, 0, []),
  (23, .ldc 27, 25, 0, 0, (-1000000), 0, []),
  (25, .ireturn, 26, 0, 0, 0, 0, [])]
noncomputable def t_SW_count : List En := [
  (0, .iload_n 1, 1, 0, 0, 0, 0, []),
  (1, .tableswitch 83 0 5 #[39, 47, 55, 63, 71, 79], 40, 84, 0, 0, 0, [40, 48, 56, 64, 72, 80]),
  (40, .aload_n 0, 41, 0, 0, 0, 0, []),
  (41, .getfield 10, 44, 8, 0, 0, 0, []),
  (44, .invokevirtual 280, 47, 113, 0, 0, 0, []),
  (47, .ireturn, 48, 0, 0, 0, 0, []),
  (48, .aload_n 0, 49, 0, 0, 0, 0, []),
  (49, .getfield 19, 52, 8, 1, 0, 0, []),
  (52, .invokevirtual 147, 55, 37, 0, 0, 0, []),
  (55, .ireturn, 56, 0, 0, 0, 0, []),
  (56, .aload_n 0, 57, 0, 0, 0, 0, []),
  (57, .getfield 19, 60, 8, 1, 0, 0, []),
  (60, .invokevirtual 283, 63, 114, 0, 0, 0, []),
  (63, .ireturn, 64, 0, 0, 0, 0, []),
  (64, .aload_n 0, 65, 0, 0, 0, 0, []),
  (65, .getfield 19, 68, 8, 1, 0, 0, []),
  (68, .invokevirtual 286, 71, 115, 0, 0, 0, []),
  (71, .ireturn, 72, 0, 0, 0, 0, []),
  (72, .aload_n 0, 73, 0, 0, 0, 0, []),
  (73, .getfield 33, 76, 8, 3, 0, 0, []),
  (76, .invokevirtual 289, 79, 116, 0, 0, 0, []),
  (79, .ireturn, 80, 0, 0, 0, 0, []),
  (80, .invokestatic 292, 83, 117, 0, 0, 0, []),
  (83, .ireturn, 84, 0, 0, 0, 0, []),
  (84, .ldc 72, 86, 0, 0, (-1000001), 0, []),
  (86, .ireturn, 87, 0, 0, 0, 0, [])]
noncomputable def t_Sheets_present : List En := [
  (0, .iconst 0, 1, 0, 0, 0, 0, []),
  (1, .istore_n 1, 2, 0, 0, 0, 0, []),
  (2, .iconst 0, 3, 0, 0, 0, 0, []),
  (3, .istore_n 2, 4, 0, 0, 0, 0, []),
  (4, .iload_n 2, 5, 0, 0, 0, 0, []),
  (5, .bipush 8, 7, 0, 0, 8, 0, []),
  (7, .if_icmp .ge 20, 10, 27, 0, 0, 0, []),
  (10, .aload_n 0, 11, 0, 0, 0, 0, []),
  (11, .iload_n 2, 12, 0, 0, 0, 0, []),
  (12, .invokevirtual 31, 15, 11, 1, 0, 0, []),
  (15, .ifCond .ne 6, 18, 21, 0, 0, 0, []),
  (18, .iinc 1 1, 21, 0, 0, 1, 0, []),
  (21, .iinc 2 1, 24, 0, 0, 1, 0, []),
  (24, .goto (-20), 27, 4, 0, 0, 0, []),
  (27, .iload_n 1, 28, 0, 0, 0, 0, []),
  (28, .ireturn, 29, 0, 0, 0, 0, [])]
noncomputable def t_Wall_holding : List En := [
  (0, .iconst 0, 1, 0, 0, 0, 0, []),
  (1, .istore_n 1, 2, 0, 0, 0, 0, []),
  (2, .iconst 0, 3, 0, 0, 0, 0, []),
  (3, .istore_n 2, 4, 0, 0, 0, 0, []),
  (4, .iload_n 2, 5, 0, 0, 0, 0, []),
  (5, .aload_n 0, 6, 0, 0, 0, 0, []),
  (6, .getfield 21, 9, 7, 3, 0, 0, []),
  (9, .if_icmp .ge 20, 12, 29, 0, 0, 0, []),
  (12, .aload_n 0, 13, 0, 0, 0, 0, []),
  (13, .iload_n 2, 14, 0, 0, 0, 0, []),
  (14, .invokevirtual 49, 17, 35, 1, 0, 0, []),
  (17, .ifCond .eq 6, 20, 23, 0, 0, 0, []),
  (20, .iinc 1 1, 23, 0, 0, 1, 0, []),
  (23, .iinc 2 1, 26, 0, 0, 1, 0, []),
  (26, .goto (-22), 29, 4, 0, 0, 0, []),
  (29, .iload_n 1, 30, 0, 0, 0, 0, []),
  (30, .ireturn, 31, 0, 0, 0, 0, [])]
noncomputable def t_Wall_loose : List En := [
  (0, .iconst 0, 1, 0, 0, 0, 0, []),
  (1, .istore_n 1, 2, 0, 0, 0, 0, []),
  (2, .iconst 0, 3, 0, 0, 0, 0, []),
  (3, .istore_n 2, 4, 0, 0, 0, 0, []),
  (4, .iload_n 2, 5, 0, 0, 0, 0, []),
  (5, .aload_n 0, 6, 0, 0, 0, 0, []),
  (6, .getfield 21, 9, 7, 3, 0, 0, []),
  (9, .if_icmp .ge 21, 12, 30, 0, 0, 0, []),
  (12, .aload_n 0, 13, 0, 0, 0, 0, []),
  (13, .iload_n 2, 14, 0, 0, 0, 0, []),
  (14, .invokevirtual 53, 17, 94, 1, 0, 0, []),
  (17, .iconst 4, 18, 0, 0, 4, 0, []),
  (18, .if_icmp .ne 6, 21, 24, 0, 0, 0, []),
  (21, .iinc 1 1, 24, 0, 0, 1, 0, []),
  (24, .iinc 2 1, 27, 0, 0, 1, 0, []),
  (27, .goto (-23), 30, 4, 0, 0, 0, []),
  (30, .iload_n 1, 31, 0, 0, 0, 0, []),
  (31, .ireturn, 32, 0, 0, 0, 0, [])]
noncomputable def t_Pile_blocks : List En := [
  (0, .aload_n 0, 1, 0, 0, 0, 0, []),
  (1, .getfield 22, 4, 3, 3, 0, 0, []),
  (4, .ireturn, 5, 0, 0, 0, 0, [])]
noncomputable def t_Pile_allPlaces : List En := [
  (0, .iconst 0, 1, 0, 0, 0, 0, []),
  (1, .istore_n 0, 2, 0, 0, 0, 0, []),
  (2, .iconst 0, 3, 0, 0, 0, 0, []),
  (3, .istore_n 1, 4, 0, 0, 0, 0, []),
  (4, .iload_n 1, 5, 0, 0, 0, 0, []),
  (5, .bipush 8, 7, 0, 0, 8, 0, []),
  (7, .if_icmp .ge 16, 10, 23, 0, 0, 0, []),
  (10, .iload_n 0, 11, 0, 0, 0, 0, []),
  (11, .bipush 12, 13, 0, 0, 12, 0, []),
  (13, .iload_n 1, 14, 0, 0, 0, 0, []),
  (14, .isub, 15, 0, 0, 0, 0, []),
  (15, .iadd, 16, 0, 0, 0, 0, []),
  (16, .istore_n 0, 17, 0, 0, 0, 0, []),
  (17, .iinc 1 1, 20, 0, 0, 1, 0, []),
  (20, .goto (-16), 23, 4, 0, 0, 0, []),
  (23, .iload_n 0, 24, 0, 0, 0, 0, []),
  (24, .ireturn, 25, 0, 0, 0, 0, [])]
noncomputable def t_SW_status : List En := [
  (0, .aload_n 0, 1, 0, 0, 0, 0, []),
  (1, .getfield 60, 4, 8, 7, 0, 0, []),
  (4, .ireturn, 5, 0, 0, 0, 0, [])]
noncomputable def t_Mo_sheet : List En := [
  (0, .aload_n 0, 1, 0, 0, 0, 0, []),
  (1, .iconst 0, 2, 0, 0, 0, 0, []),
  (2, .putfield 59, 5, 9, 0, 0, 0, []),
  (5, .iload_n 1, 6, 0, 0, 0, 0, []),
  (6, .invokestatic 73, 9, 120, 1, 0, 0, []),
  (9, .ifCond .eq 21, 12, 30, 0, 0, 0, []),
  (12, .iload_n 2, 13, 0, 0, 0, 0, []),
  (13, .i2l, 14, 0, 0, 0, 0, []),
  (14, .lconst 0, 15, 0, 0, 0, 0, []),
  (15, .ldc2_w 77, 18, 0, 0, 0, 2, []),
  (18, .invokestatic 69, 21, 121, 3, 0, 0, []),
  (21, .ifCond .eq 9, 24, 30, 0, 0, 0, []),
  (24, .iload_n 3, 25, 0, 0, 0, 0, []),
  (25, .bipush 100, 27, 0, 0, 100, 0, []),
  (27, .if_icmp .le 6, 30, 33, 0, 0, 0, []),
  (30, .ldc 79, 32, 0, 0, (-1000001), 0, []),
  (32, .ireturn, 33, 0, 0, 0, 0, []),
  (33, .aload_n 0, 34, 0, 0, 0, 0, []),
  (34, .iconst 0, 35, 0, 0, 0, 0, []),
  (35, .putfield 63, 38, 9, 1, 0, 0, []),
  (38, .iload_n 3, 39, 0, 0, 0, 0, []),
  (39, .ifCond .ge 9, 42, 48, 0, 0, 0, []),
  (42, .aload_n 0, 43, 0, 0, 0, 0, []),
  (43, .iconst 4, 44, 0, 0, 4, 0, []),
  (44, .invokevirtual 80, 47, 122, 1, 0, 0, []),
  (47, .ireturn, 48, 0, 0, 0, 0, []),
  (48, .aload_n 0, 49, 0, 0, 0, 0, []),
  (49, .getfield 7, 52, 9, 2, 0, 0, []),
  (52, .iload_n 1, 53, 0, 0, 0, 0, []),
  (53, .iload_n 2, 54, 0, 0, 0, 0, []),
  (54, .iastore, 55, 0, 0, 0, 0, []),
  (55, .aload_n 0, 56, 0, 0, 0, 0, []),
  (56, .getfield 13, 59, 9, 3, 0, 0, []),
  (59, .iload_n 1, 60, 0, 0, 0, 0, []),
  (60, .iload_n 3, 61, 0, 0, 0, 0, []),
  (61, .iastore, 62, 0, 0, 0, 0, []),
  (62, .iconst 0, 63, 0, 0, 0, 0, []),
  (63, .istore 4, 65, 0, 0, 0, 0, []),
  (65, .iload 4, 67, 0, 0, 0, 0, []),
  (67, .bipush 100, 69, 0, 0, 100, 0, []),
  (69, .if_icmp .ge 22, 72, 91, 0, 0, 0, []),
  (72, .aload_n 0, 73, 0, 0, 0, 0, []),
  (73, .getfield 16, 76, 9, 4, 0, 0, []),
  (76, .bipush 100, 78, 0, 0, 100, 0, []),
  (78, .iload_n 1, 79, 0, 0, 0, 0, []),
  (79, .imul, 80, 0, 0, 0, 0, []),
  (80, .iload 4, 82, 0, 0, 0, 0, []),
  (82, .iadd, 83, 0, 0, 0, 0, []),
  (83, .iconst 0, 84, 0, 0, 0, 0, []),
  (84, .iastore, 85, 0, 0, 0, 0, []),
  (85, .iinc 4 1, 88, 0, 0, 1, 0, []),
  (88, .goto (-23), 91, 65, 0, 0, 0, []),
  (91, .iload_n 3, 92, 0, 0, 0, 0, []),
  (92, .ireturn, 93, 0, 0, 0, 0, [])]
noncomputable def t_Mo_isSheet : List En := [
  (0, .iload_n 0, 1, 0, 0, 0, 0, []),
  (1, .i2l, 2, 0, 0, 0, 0, []),
  (2, .lconst 0, 3, 0, 0, 0, 0, []),
  (3, .ldc2_w 67, 6, 0, 0, 0, 7, []),
  (6, .invokestatic 69, 9, 121, 3, 0, 0, []),
  (9, .ireturn, 10, 0, 0, 0, 0, [])]
noncomputable def t_Mo_in : List En := [
  (0, .lload_n 0, 1, 0, 0, 0, 0, []),
  (1, .lload_n 2, 2, 0, 0, 0, 0, []),
  (2, .lcmp, 3, 0, 0, 0, 0, []),
  (3, .ifCond .lt 14, 6, 17, 0, 0, 0, []),
  (6, .lload_n 0, 7, 0, 0, 0, 0, []),
  (7, .lload 4, 9, 0, 0, 0, 0, []),
  (9, .lcmp, 10, 0, 0, 0, 0, []),
  (10, .ifCond .gt 7, 13, 17, 0, 0, 0, []),
  (13, .iconst 1, 14, 0, 0, 1, 0, []),
  (14, .goto 4, 17, 18, 0, 0, 0, []),
  (17, .iconst 0, 18, 0, 0, 0, 0, []),
  (18, .ireturn, 19, 0, 0, 0, 0, [])]
noncomputable def t_Mo_found : List En := [
  (0, .aload_n 0, 1, 0, 0, 0, 0, []),
  (1, .iload_n 1, 2, 0, 0, 0, 0, []),
  (2, .putfield 63, 5, 9, 1, 0, 0, []),
  (5, .ldc 66, 7, 0, 0, (-1000010), 0, []),
  (7, .iload_n 1, 8, 0, 0, 0, 0, []),
  (8, .isub, 9, 0, 0, 0, 0, []),
  (9, .ireturn, 10, 0, 0, 0, 0, [])]
noncomputable def t_Mo_set : List En := [
  (0, .aload_n 0, 1, 0, 0, 0, 0, []),
  (1, .iconst 0, 2, 0, 0, 0, 0, []),
  (2, .putfield 59, 5, 9, 0, 0, 0, []),
  (5, .iload_n 1, 6, 0, 0, 0, 0, []),
  (6, .invokestatic 73, 9, 120, 1, 0, 0, []),
  (9, .ifCond .ne 6, 12, 15, 0, 0, 0, []),
  (12, .ldc 79, 14, 0, 0, (-1000001), 0, []),
  (14, .ireturn, 15, 0, 0, 0, 0, []),
  (15, .aload_n 0, 16, 0, 0, 0, 0, []),
  (16, .iconst 0, 17, 0, 0, 0, 0, []),
  (17, .putfield 63, 20, 9, 1, 0, 0, []),
  (20, .aload_n 0, 21, 0, 0, 0, 0, []),
  (21, .getfield 7, 24, 9, 2, 0, 0, []),
  (24, .iload_n 1, 25, 0, 0, 0, 0, []),
  (25, .iaload, 26, 0, 0, 0, 0, []),
  (26, .ifCond .ge 9, 29, 35, 0, 0, 0, []),
  (29, .aload_n 0, 30, 0, 0, 0, 0, []),
  (30, .iconst 1, 31, 0, 0, 1, 0, []),
  (31, .invokevirtual 80, 34, 122, 1, 0, 0, []),
  (34, .ireturn, 35, 0, 0, 0, 0, []),
  (35, .iload_n 2, 36, 0, 0, 0, 0, []),
  (36, .i2l, 37, 0, 0, 0, 0, []),
  (37, .lconst 0, 38, 0, 0, 0, 0, []),
  (38, .aload_n 0, 39, 0, 0, 0, 0, []),
  (39, .getfield 13, 42, 9, 3, 0, 0, []),
  (42, .iload_n 1, 43, 0, 0, 0, 0, []),
  (43, .iaload, 44, 0, 0, 0, 0, []),
  (44, .iconst 1, 45, 0, 0, 1, 0, []),
  (45, .isub, 46, 0, 0, 0, 0, []),
  (46, .i2l, 47, 0, 0, 0, 0, []),
  (47, .invokestatic 69, 50, 121, 3, 0, 0, []),
  (50, .ifCond .ne 9, 53, 59, 0, 0, 0, []),
  (53, .aload_n 0, 54, 0, 0, 0, 0, []),
  (54, .iconst 2, 55, 0, 0, 2, 0, []),
  (55, .invokevirtual 80, 58, 122, 1, 0, 0, []),
  (58, .ireturn, 59, 0, 0, 0, 0, []),
  (59, .aload_n 0, 60, 0, 0, 0, 0, []),
  (60, .getfield 16, 63, 9, 4, 0, 0, []),
  (63, .bipush 100, 65, 0, 0, 100, 0, []),
  (65, .iload_n 1, 66, 0, 0, 0, 0, []),
  (66, .imul, 67, 0, 0, 0, 0, []),
  (67, .iload_n 2, 68, 0, 0, 0, 0, []),
  (68, .iadd, 69, 0, 0, 0, 0, []),
  (69, .aload_n 0, 70, 0, 0, 0, 0, []),
  (70, .getfield 7, 73, 9, 2, 0, 0, []),
  (73, .iload_n 1, 74, 0, 0, 0, 0, []),
  (74, .iaload, 75, 0, 0, 0, 0, []),
  (75, .ifCond .ne 8, 78, 83, 0, 0, 0, []),
  (78, .iload_n 3, 79, 0, 0, 0, 0, []),
  (79, .i2b, 80, 0, 0, 0, 0, []),
  (80, .goto 19, 83, 99, 0, 0, 0, []),
  (83, .aload_n 0, 84, 0, 0, 0, 0, []),
  (84, .getfield 7, 87, 9, 2, 0, 0, []),
  (87, .iload_n 1, 88, 0, 0, 0, 0, []),
  (88, .iaload, 89, 0, 0, 0, 0, []),
  (89, .iconst 1, 90, 0, 0, 1, 0, []),
  (90, .if_icmp .ne 8, 93, 98, 0, 0, 0, []),
  (93, .iload_n 3, 94, 0, 0, 0, 0, []),
  (94, .i2s, 95, 0, 0, 0, 0, []),
  (95, .goto 4, 98, 99, 0, 0, 0, []),
  (98, .iload_n 3, 99, 0, 0, 0, 0, []),
  (99, .iastore, 100, 0, 0, 0, 0, []),
  (100, .aload_n 0, 101, 0, 0, 0, 0, []),
  (101, .getfield 16, 104, 9, 4, 0, 0, []),
  (104, .bipush 100, 106, 0, 0, 100, 0, []),
  (106, .iload_n 1, 107, 0, 0, 0, 0, []),
  (107, .imul, 108, 0, 0, 0, 0, []),
  (108, .iload_n 2, 109, 0, 0, 0, 0, []),
  (109, .iadd, 110, 0, 0, 0, 0, []),
  (110, .iaload, 111, 0, 0, 0, 0, []),
  (111, .ireturn, 112, 0, 0, 0, 0, [])]
noncomputable def t_Mo_copy_0 : List En := [
  (0, .aload_n 0, 1, 0, 0, 0, 0, []),
  (1, .iconst 0, 2, 0, 0, 0, 0, []),
  (2, .putfield 59, 5, 9, 0, 0, 0, []),
  (5, .iload_n 1, 6, 0, 0, 0, 0, []),
  (6, .invokestatic 73, 9, 120, 1, 0, 0, []),
  (9, .ifCond .eq 10, 12, 19, 0, 0, 0, []),
  (12, .iload_n 3, 13, 0, 0, 0, 0, []),
  (13, .invokestatic 73, 16, 120, 1, 0, 0, []),
  (16, .ifCond .ne 6, 19, 22, 0, 0, 0, []),
  (19, .ldc 79, 21, 0, 0, (-1000001), 0, []),
  (21, .ireturn, 22, 0, 0, 0, 0, []),
  (22, .aload_n 0, 23, 0, 0, 0, 0, []),
  (23, .iconst 0, 24, 0, 0, 0, 0, []),
  (24, .putfield 63, 27, 9, 1, 0, 0, []),
  (27, .aload_n 0, 28, 0, 0, 0, 0, []),
  (28, .getfield 7, 31, 9, 2, 0, 0, []),
  (31, .iload_n 1, 32, 0, 0, 0, 0, []),
  (32, .iaload, 33, 0, 0, 0, 0, []),
  (33, .ifCond .lt 12, 36, 45, 0, 0, 0, []),
  (36, .aload_n 0, 37, 0, 0, 0, 0, []),
  (37, .getfield 7, 40, 9, 2, 0, 0, []),
  (40, .iload_n 3, 41, 0, 0, 0, 0, []),
  (41, .iaload, 42, 0, 0, 0, 0, []),
  (42, .ifCond .ge 9, 45, 51, 0, 0, 0, []),
  (45, .aload_n 0, 46, 0, 0, 0, 0, []),
  (46, .iconst 1, 47, 0, 0, 1, 0, []),
  (47, .invokevirtual 80, 50, 122, 1, 0, 0, []),
  (50, .ireturn, 51, 0, 0, 0, 0, []),
  (51, .aload_n 0, 52, 0, 0, 0, 0, []),
  (52, .getfield 7, 55, 9, 2, 0, 0, []),
  (55, .iload_n 1, 56, 0, 0, 0, 0, []),
  (56, .iaload, 57, 0, 0, 0, 0, []),
  (57, .aload_n 0, 58, 0, 0, 0, 0, []),
  (58, .getfield 7, 61, 9, 2, 0, 0, []),
  (61, .iload_n 3, 62, 0, 0, 0, 0, []),
  (62, .iaload, 63, 0, 0, 0, 0, []),
  (63, .if_icmp .eq 9, 66, 72, 0, 0, 0, []),
  (66, .aload_n 0, 67, 0, 0, 0, 0, []),
  (67, .iconst 5, 68, 0, 0, 5, 0, []),
  (68, .invokevirtual 80, 71, 122, 1, 0, 0, []),
  (71, .ireturn, 72, 0, 0, 0, 0, []),
  (72, .iload_n 2, 73, 0, 0, 0, 0, []),
  (73, .ifCond .lt 48, 76, 121, 0, 0, 0, []),
  (76, .iload 4, 78, 0, 0, 0, 0, []),
  (78, .ifCond .lt 43, 81, 121, 0, 0, 0, []),
  (81, .iload 5, 83, 0, 0, 0, 0, []),
  (83, .ifCond .lt 38, 86, 121, 0, 0, 0, []),
  (86, .iload_n 2, 87, 0, 0, 0, 0, []),
  (87, .i2l, 88, 0, 0, 0, 0, []),
  (88, .iload 5, 90, 0, 0, 0, 0, []),
  (90, .i2l, 91, 0, 0, 0, 0, []),
  (91, .ladd, 92, 0, 0, 0, 0, []),
  (92, .aload_n 0, 93, 0, 0, 0, 0, []),
  (93, .getfield 13, 96, 9, 3, 0, 0, []),
  (96, .iload_n 1, 97, 0, 0, 0, 0, []),
  (97, .iaload, 98, 0, 0, 0, 0, []),
  (98, .i2l, 99, 0, 0, 0, 0, []),
  (99, .lcmp, 100, 0, 0, 0, 0, []),
  (100, .ifCond .gt 21, 103, 121, 0, 0, 0, []),
  (103, .iload 4, 105, 0, 0, 0, 0, []),
  (105, .i2l, 106, 0, 0, 0, 0, []),
  (106, .iload 5, 108, 0, 0, 0, 0, []),
  (108, .i2l, 109, 0, 0, 0, 0, []),
  (109, .ladd, 110, 0, 0, 0, 0, []),
  (110, .aload_n 0, 111, 0, 0, 0, 0, []),
  (111, .getfield 13, 114, 9, 3, 0, 0, []),
  (114, .iload_n 3, 115, 0, 0, 0, 0, []),
  (115, .iaload, 116, 0, 0, 0, 0, []),
  (116, .i2l, 117, 0, 0, 0, 0, []),
  (117, .lcmp, 118, 0, 0, 0, 0, []),
  (118, .ifCond .le 9, 121, 127, 0, 0, 0, []),
  (121, .aload_n 0, 122, 0, 0, 0, 0, []),
  (122, .iconst 2, 123, 0, 0, 2, 0, []),
  (123, .invokevirtual 80, 126, 122, 1, 0, 0, []),
  (126, .ireturn, 127, 0, 0, 0, 0, []),
  (127, .iload_n 2, 128, 0, 0, 0, 0, []),
  (128, .iload 4, 130, 0, 0, 0, 0, []),
  (130, .if_icmp .lt 7, 133, 137, 0, 0, 0, []),
  (133, .iconst 1, 134, 0, 0, 1, 0, []),
  (134, .goto 4, 137, 138, 0, 0, 0, []),
  (137, .iconst 0, 138, 0, 0, 0, 0, []),
  (138, .istore 6, 140, 0, 0, 0, 0, []),
  (140, .iconst 0, 141, 0, 0, 0, 0, []),
  (141, .istore 7, 143, 0, 0, 0, 0, []),
  (143, .iload 7, 145, 0, 0, 0, 0, []),
  (145, .iload 5, 147, 0, 0, 0, 0, []),
  (147, .if_icmp .ge 57, 150, 204, 0, 0, 0, []),
  (150, .iload 6, 152, 0, 0, 0, 0, []),
  (152, .ifCond .eq 8, 155, 160, 0, 0, 0, []),
  (155, .iload 7, 157, 0, 0, 0, 0, []),
  (157, .goto 10, 160, 167, 0, 0, 0, []),
  (160, .iload 5, 162, 0, 0, 0, 0, []),
  (162, .iconst 1, 163, 0, 0, 1, 0, []),
  (163, .isub, 164, 0, 0, 0, 0, []),
  (164, .iload 7, 166, 0, 0, 0, 0, []),
  (166, .isub, 167, 0, 0, 0, 0, []),
  (167, .istore 8, 169, 0, 0, 0, 0, []),
  (169, .aload_n 0, 170, 0, 0, 0, 0, []),
  (170, .getfield 16, 173, 9, 4, 0, 0, []),
  (173, .bipush 100, 175, 0, 0, 100, 0, []),
  (175, .iload_n 3, 176, 0, 0, 0, 0, []),
  (176, .imul, 177, 0, 0, 0, 0, []),
  (177, .iload 4, 179, 0, 0, 0, 0, []),
  (179, .iadd, 180, 0, 0, 0, 0, []),
  (180, .iload 8, 182, 0, 0, 0, 0, []),
  (182, .iadd, 183, 0, 0, 0, 0, []),
  (183, .aload_n 0, 184, 0, 0, 0, 0, []),
  (184, .getfield 16, 187, 9, 4, 0, 0, []),
  (187, .bipush 100, 189, 0, 0, 100, 0, []),
  (189, .iload_n 1, 190, 0, 0, 0, 0, []),
  (190, .imul, 191, 0, 0, 0, 0, []),
  (191, .iload_n 2, 192, 0, 0, 0, 0, []),
  (192, .iadd, 193, 0, 0, 0, 0, []),
  (193, .iload 8, 195, 0, 0, 0, 0, []),
  (195, .iadd, 196, 0, 0, 0, 0, []),
  (196, .iaload, 197, 0, 0, 0, 0, []),
  (197, .iastore, 198, 0, 0, 0, 0, []),
  (198, .iinc 7 1, 201, 0, 0, 1, 0, []),
  (201, .goto (-58), 204, 143, 0, 0, 0, []),
  (204, .iload 5, 206, 0, 0, 0, 0, [])]
noncomputable def t_Mo_copy_1 : List En := [
  (206, .ireturn, 207, 0, 0, 0, 0, [])]
noncomputable def t_Mo_copy : List En := t_Mo_copy_0 ++ (t_Mo_copy_1)
noncomputable def t_Mo_drop : List En := [
  (0, .aload_n 0, 1, 0, 0, 0, 0, []),
  (1, .iconst 0, 2, 0, 0, 0, 0, []),
  (2, .putfield 59, 5, 9, 0, 0, 0, []),
  (5, .iload_n 1, 6, 0, 0, 0, 0, []),
  (6, .invokestatic 73, 9, 120, 1, 0, 0, []),
  (9, .ifCond .ne 6, 12, 15, 0, 0, 0, []),
  (12, .ldc 79, 14, 0, 0, (-1000001), 0, []),
  (14, .ireturn, 15, 0, 0, 0, 0, []),
  (15, .aload_n 0, 16, 0, 0, 0, 0, []),
  (16, .iconst 0, 17, 0, 0, 0, 0, []),
  (17, .putfield 63, 20, 9, 1, 0, 0, []),
  (20, .aload_n 0, 21, 0, 0, 0, 0, []),
  (21, .getfield 7, 24, 9, 2, 0, 0, []),
  (24, .iload_n 1, 25, 0, 0, 0, 0, []),
  (25, .iaload, 26, 0, 0, 0, 0, []),
  (26, .ifCond .ge 9, 29, 35, 0, 0, 0, []),
  (29, .aload_n 0, 30, 0, 0, 0, 0, []),
  (30, .iconst 1, 31, 0, 0, 1, 0, []),
  (31, .invokevirtual 80, 34, 122, 1, 0, 0, []),
  (34, .ireturn, 35, 0, 0, 0, 0, []),
  (35, .aload_n 0, 36, 0, 0, 0, 0, []),
  (36, .getfield 7, 39, 9, 2, 0, 0, []),
  (39, .iload_n 1, 40, 0, 0, 0, 0, []),
  (40, .iconst (-1), 41, 0, 0, (-1), 0, []),
  (41, .iastore, 42, 0, 0, 0, 0, []),
  (42, .aload_n 0, 43, 0, 0, 0, 0, []),
  (43, .getfield 13, 46, 9, 3, 0, 0, []),
  (46, .iload_n 1, 47, 0, 0, 0, 0, []),
  (47, .iaload, 48, 0, 0, 0, 0, []),
  (48, .ireturn, 49, 0, 0, 0, 0, [])]
noncomputable def t_Mo_wall : List En := [
  (0, .aload_n 0, 1, 0, 0, 0, 0, []),
  (1, .iconst 0, 2, 0, 0, 0, 0, []),
  (2, .putfield 59, 5, 9, 0, 0, 0, []),
  (5, .iload_n 1, 6, 0, 0, 0, 0, []),
  (6, .i2l, 7, 0, 0, 0, 0, []),
  (7, .lconst 0, 8, 0, 0, 0, 0, []),
  (8, .ldc2_w 84, 11, 0, 0, 0, 4, []),
  (11, .invokestatic 69, 14, 121, 3, 0, 0, []),
  (14, .ifCond .ne 6, 17, 20, 0, 0, 0, []),
  (17, .ldc 79, 19, 0, 0, (-1000001), 0, []),
  (19, .ireturn, 20, 0, 0, 0, 0, []),
  (20, .iload_n 1, 21, 0, 0, 0, 0, []),
  (21, .iconst 4, 22, 0, 0, 4, 0, []),
  (22, .if_icmp .ne 7, 25, 29, 0, 0, 0, []),
  (25, .iconst 2, 26, 0, 0, 2, 0, []),
  (26, .goto 4, 29, 30, 0, 0, 0, []),
  (29, .iconst 1, 30, 0, 0, 1, 0, []),
  (30, .istore_n 3, 31, 0, 0, 0, 0, []),
  (31, .iload_n 1, 32, 0, 0, 0, 0, []),
  (32, .ifCond .ne 8, 35, 40, 0, 0, 0, []),
  (35, .bipush 100, 37, 0, 0, 100, 0, []),
  (37, .goto 36, 40, 73, 0, 0, 0, []),
  (40, .iload_n 1, 41, 0, 0, 0, 0, []),
  (41, .iconst 1, 42, 0, 0, 1, 0, []),
  (42, .if_icmp .ne 8, 45, 50, 0, 0, 0, []),
  (45, .bipush 50, 47, 0, 0, 50, 0, []),
  (47, .goto 26, 50, 73, 0, 0, 0, []),
  (50, .iload_n 1, 51, 0, 0, 0, 0, []),
  (51, .iconst 2, 52, 0, 0, 2, 0, []),
  (52, .if_icmp .ne 8, 55, 60, 0, 0, 0, []),
  (55, .bipush 60, 57, 0, 0, 60, 0, []),
  (57, .goto 16, 60, 73, 0, 0, 0, []),
  (60, .iload_n 1, 61, 0, 0, 0, 0, []),
  (61, .iconst 3, 62, 0, 0, 3, 0, []),
  (62, .if_icmp .ne 9, 65, 71, 0, 0, 0, []),
  (65, .sipush 1000, 68, 0, 0, 1000, 0, []),
  (68, .goto 5, 71, 73, 0, 0, 0, []),
  (71, .bipush 30, 73, 0, 0, 30, 0, []),
  (73, .istore 4, 75, 0, 0, 0, 0, []),
  (75, .iload_n 2, 76, 0, 0, 0, 0, []),
  (76, .i2l, 77, 0, 0, 0, 0, []),
  (77, .iload_n 3, 78, 0, 0, 0, 0, []),
  (78, .i2l, 79, 0, 0, 0, 0, []),
  (79, .iload 4, 81, 0, 0, 0, 0, []),
  (81, .i2l, 82, 0, 0, 0, 0, []),
  (82, .invokestatic 69, 85, 121, 3, 0, 0, []),
  (85, .ifCond .ne 6, 88, 91, 0, 0, 0, []),
  (88, .ldc 79, 90, 0, 0, (-1000001), 0, []),
  (90, .ireturn, 91, 0, 0, 0, 0, []),
  (91, .aload_n 0, 92, 0, 0, 0, 0, []),
  (92, .getfield 19, 95, 9, 5, 0, 0, []),
  (95, .iload_n 1, 96, 0, 0, 0, 0, []),
  (96, .iaload, 97, 0, 0, 0, 0, []),
  (97, .istore 5, 99, 0, 0, 0, 0, []),
  (99, .aload_n 0, 100, 0, 0, 0, 0, []),
  (100, .getfield 19, 103, 9, 5, 0, 0, []),
  (103, .iload_n 1, 104, 0, 0, 0, 0, []),
  (104, .iload_n 2, 105, 0, 0, 0, 0, []),
  (105, .iastore, 106, 0, 0, 0, 0, []),
  (106, .iload 5, 108, 0, 0, 0, 0, []),
  (108, .ireturn, 109, 0, 0, 0, 0, [])]
noncomputable def t_Mo_layer : List En := [
  (0, .aload_n 0, 1, 0, 0, 0, 0, []),
  (1, .iconst 0, 2, 0, 0, 0, 0, []),
  (2, .putfield 59, 5, 9, 0, 0, 0, []),
  (5, .iload_n 1, 6, 0, 0, 0, 0, []),
  (6, .iload_n 2, 7, 0, 0, 0, 0, []),
  (7, .invokestatic 93, 10, 128, 2, 0, 0, []),
  (10, .ifCond .ne 6, 13, 16, 0, 0, 0, []),
  (13, .ldc 79, 15, 0, 0, (-1000001), 0, []),
  (15, .ireturn, 16, 0, 0, 0, 0, []),
  (16, .aload_n 0, 17, 0, 0, 0, 0, []),
  (17, .getfield 90, 20, 9, 6, 0, 0, []),
  (20, .bipush 6, 22, 0, 0, 6, 0, []),
  (22, .if_icmp .ne 6, 25, 28, 0, 0, 0, []),
  (25, .ldc 97, 27, 0, 0, (-1000003), 0, []),
  (27, .ireturn, 28, 0, 0, 0, 0, []),
  (28, .aload_n 0, 29, 0, 0, 0, 0, []),
  (29, .getfield 22, 32, 9, 7, 0, 0, []),
  (32, .aload_n 0, 33, 0, 0, 0, 0, []),
  (33, .getfield 90, 36, 9, 6, 0, 0, []),
  (36, .iload_n 1, 37, 0, 0, 0, 0, []),
  (37, .iastore, 38, 0, 0, 0, 0, []),
  (38, .aload_n 0, 39, 0, 0, 0, 0, []),
  (39, .getfield 25, 42, 9, 8, 0, 0, []),
  (42, .aload_n 0, 43, 0, 0, 0, 0, []),
  (43, .getfield 90, 46, 9, 6, 0, 0, []),
  (46, .iload_n 2, 47, 0, 0, 0, 0, []),
  (47, .iastore, 48, 0, 0, 0, 0, []),
  (48, .aload_n 0, 49, 0, 0, 0, 0, []),
  (49, .dup, 50, 0, 0, 0, 0, []),
  (50, .getfield 90, 53, 9, 6, 0, 0, []),
  (53, .iconst 1, 54, 0, 0, 1, 0, []),
  (54, .iadd, 55, 0, 0, 0, 0, []),
  (55, .putfield 90, 58, 9, 6, 0, 0, []),
  (58, .aload_n 0, 59, 0, 0, 0, 0, []),
  (59, .getfield 90, 62, 9, 6, 0, 0, []),
  (62, .iconst 1, 63, 0, 0, 1, 0, []),
  (63, .isub, 64, 0, 0, 0, 0, []),
  (64, .ireturn, 65, 0, 0, 0, 0, [])]
noncomputable def t_Mo_isLaid : List En := [
  (0, .iload_n 0, 1, 0, 0, 0, 0, []),
  (1, .i2l, 2, 0, 0, 0, 0, []),
  (2, .lconst 1, 3, 0, 0, 0, 1, []),
  (3, .ldc2_w 86, 6, 0, 0, 0, 10, []),
  (6, .invokestatic 69, 9, 121, 3, 0, 0, []),
  (9, .ifCond .eq 19, 12, 28, 0, 0, 0, []),
  (12, .iload_n 1, 13, 0, 0, 0, 0, []),
  (13, .i2l, 14, 0, 0, 0, 0, []),
  (14, .lconst 1, 15, 0, 0, 0, 1, []),
  (15, .ldc2_w 88, 18, 0, 0, 0, 60000, []),
  (18, .invokestatic 69, 21, 121, 3, 0, 0, []),
  (21, .ifCond .eq 7, 24, 28, 0, 0, 0, []),
  (24, .iconst 1, 25, 0, 0, 1, 0, []),
  (25, .goto 4, 28, 29, 0, 0, 0, []),
  (28, .iconst 0, 29, 0, 0, 0, 0, []),
  (29, .ireturn, 30, 0, 0, 0, 0, [])]
noncomputable def t_Mo_relay : List En := [
  (0, .aload_n 0, 1, 0, 0, 0, 0, []),
  (1, .iconst 0, 2, 0, 0, 0, 0, []),
  (2, .putfield 59, 5, 9, 0, 0, 0, []),
  (5, .aload_n 0, 6, 0, 0, 0, 0, []),
  (6, .iload_n 1, 7, 0, 0, 0, 0, []),
  (7, .invokevirtual 98, 10, 130, 1, 0, 0, []),
  (10, .ifCond .eq 11, 13, 21, 0, 0, 0, []),
  (13, .iload_n 2, 14, 0, 0, 0, 0, []),
  (14, .iload_n 3, 15, 0, 0, 0, 0, []),
  (15, .invokestatic 93, 18, 128, 2, 0, 0, []),
  (18, .ifCond .ne 6, 21, 24, 0, 0, 0, []),
  (21, .ldc 79, 23, 0, 0, (-1000001), 0, []),
  (23, .ireturn, 24, 0, 0, 0, 0, []),
  (24, .aload_n 0, 25, 0, 0, 0, 0, []),
  (25, .getfield 22, 28, 9, 7, 0, 0, []),
  (28, .iload_n 1, 29, 0, 0, 0, 0, []),
  (29, .iload_n 2, 30, 0, 0, 0, 0, []),
  (30, .iastore, 31, 0, 0, 0, 0, []),
  (31, .aload_n 0, 32, 0, 0, 0, 0, []),
  (32, .getfield 25, 35, 9, 8, 0, 0, []),
  (35, .iload_n 1, 36, 0, 0, 0, 0, []),
  (36, .iload_n 3, 37, 0, 0, 0, 0, []),
  (37, .iastore, 38, 0, 0, 0, 0, []),
  (38, .iconst 1, 39, 0, 0, 1, 0, []),
  (39, .ireturn, 40, 0, 0, 0, 0, [])]
noncomputable def t_Mo_isLayer : List En := [
  (0, .iload_n 1, 1, 0, 0, 0, 0, []),
  (1, .i2l, 2, 0, 0, 0, 0, []),
  (2, .lconst 0, 3, 0, 0, 0, 0, []),
  (3, .aload_n 0, 4, 0, 0, 0, 0, []),
  (4, .getfield 90, 7, 9, 6, 0, 0, []),
  (7, .iconst 1, 8, 0, 0, 1, 0, []),
  (8, .isub, 9, 0, 0, 0, 0, []),
  (9, .i2l, 10, 0, 0, 0, 0, []),
  (10, .invokestatic 69, 13, 121, 3, 0, 0, []),
  (13, .ireturn, 14, 0, 0, 0, 0, [])]
noncomputable def t_Mo_told : List En := [
  (0, .aload_n 0, 1, 0, 0, 0, 0, []),
  (1, .iconst 0, 2, 0, 0, 0, 0, []),
  (2, .putfield 59, 5, 9, 0, 0, 0, []),
  (5, .iload_n 2, 6, 0, 0, 0, 0, []),
  (6, .i2l, 7, 0, 0, 0, 0, []),
  (7, .lconst 0, 8, 0, 0, 0, 0, []),
  (8, .ldc2_w 67, 11, 0, 0, 0, 7, []),
  (11, .invokestatic 69, 14, 121, 3, 0, 0, []),
  (14, .ifCond .eq 16, 17, 30, 0, 0, 0, []),
  (17, .iload_n 2, 18, 0, 0, 0, 0, []),
  (18, .iconst 4, 19, 0, 0, 4, 0, []),
  (19, .if_icmp .le 14, 22, 33, 0, 0, 0, []),
  (22, .aload_n 0, 23, 0, 0, 0, 0, []),
  (23, .iload_n 1, 24, 0, 0, 0, 0, []),
  (24, .invokevirtual 98, 27, 130, 1, 0, 0, []),
  (27, .ifCond .ne 6, 30, 33, 0, 0, 0, []),
  (30, .ldc 79, 32, 0, 0, (-1000001), 0, []),
  (32, .ireturn, 33, 0, 0, 0, 0, []),
  (33, .iload_n 2, 34, 0, 0, 0, 0, []),
  (34, .iconst 5, 35, 0, 0, 5, 0, []),
  (35, .if_icmp .ge 12, 38, 47, 0, 0, 0, []),
  (38, .aload_n 0, 39, 0, 0, 0, 0, []),
  (39, .getfield 19, 42, 9, 5, 0, 0, []),
  (42, .iload_n 2, 43, 0, 0, 0, 0, []),
  (43, .iaload, 44, 0, 0, 0, 0, []),
  (44, .goto 45, 47, 89, 0, 0, 0, []),
  (47, .iload_n 2, 48, 0, 0, 0, 0, []),
  (48, .iconst 5, 49, 0, 0, 5, 0, []),
  (49, .if_icmp .ne 12, 52, 61, 0, 0, 0, []),
  (52, .aload_n 0, 53, 0, 0, 0, 0, []),
  (53, .getfield 22, 56, 9, 7, 0, 0, []),
  (56, .iload_n 1, 57, 0, 0, 0, 0, []),
  (57, .iaload, 58, 0, 0, 0, 0, []),
  (58, .goto 31, 61, 89, 0, 0, 0, []),
  (61, .iload_n 2, 62, 0, 0, 0, 0, []),
  (62, .bipush 6, 64, 0, 0, 6, 0, []),
  (64, .if_icmp .ne 12, 67, 76, 0, 0, 0, []),
  (67, .aload_n 0, 68, 0, 0, 0, 0, []),
  (68, .getfield 25, 71, 9, 8, 0, 0, []),
  (71, .iload_n 1, 72, 0, 0, 0, 0, []),
  (72, .iaload, 73, 0, 0, 0, 0, []),
  (73, .goto 16, 76, 89, 0, 0, 0, []),
  (76, .aload_n 0, 77, 0, 0, 0, 0, []),
  (77, .iload_n 1, 78, 0, 0, 0, 0, []),
  (78, .invokevirtual 101, 81, 132, 1, 0, 0, []),
  (81, .ifCond .eq 7, 84, 88, 0, 0, 0, []),
  (84, .iconst 1, 85, 0, 0, 1, 0, []),
  (85, .goto 4, 88, 89, 0, 0, 0, []),
  (88, .iconst 0, 89, 0, 0, 0, 0, []),
  (89, .ireturn, 90, 0, 0, 0, 0, [])]
noncomputable def t_Mo_holds : List En := [
  (0, .iload_n 1, 1, 0, 0, 0, 0, []),
  (1, .aload_n 0, 2, 0, 0, 0, 0, []),
  (2, .getfield 90, 5, 9, 6, 0, 0, []),
  (5, .iconst 1, 6, 0, 0, 1, 0, []),
  (6, .isub, 7, 0, 0, 0, 0, []),
  (7, .if_icmp .eq 44, 10, 51, 0, 0, 0, []),
  (10, .aload_n 0, 11, 0, 0, 0, 0, []),
  (11, .getfield 25, 14, 9, 8, 0, 0, []),
  (14, .iload_n 1, 15, 0, 0, 0, 0, []),
  (15, .iaload, 16, 0, 0, 0, 0, []),
  (16, .aload_n 0, 17, 0, 0, 0, 0, []),
  (17, .getfield 25, 20, 9, 8, 0, 0, []),
  (20, .iload_n 1, 21, 0, 0, 0, 0, []),
  (21, .iconst 1, 22, 0, 0, 1, 0, []),
  (22, .iadd, 23, 0, 0, 0, 0, []),
  (23, .iaload, 24, 0, 0, 0, 0, []),
  (24, .if_icmp .le 31, 27, 55, 0, 0, 0, []),
  (27, .aload_n 0, 28, 0, 0, 0, 0, []),
  (28, .getfield 25, 31, 9, 8, 0, 0, []),
  (31, .iload_n 1, 32, 0, 0, 0, 0, []),
  (32, .iaload, 33, 0, 0, 0, 0, []),
  (33, .aload_n 0, 34, 0, 0, 0, 0, []),
  (34, .getfield 19, 37, 9, 5, 0, 0, []),
  (37, .iconst 4, 38, 0, 0, 4, 0, []),
  (38, .iaload, 39, 0, 0, 0, 0, []),
  (39, .aload_n 0, 40, 0, 0, 0, 0, []),
  (40, .getfield 25, 43, 9, 8, 0, 0, []),
  (43, .iload_n 1, 44, 0, 0, 0, 0, []),
  (44, .iconst 1, 45, 0, 0, 1, 0, []),
  (45, .iadd, 46, 0, 0, 0, 0, []),
  (46, .iaload, 47, 0, 0, 0, 0, []),
  (47, .imul, 48, 0, 0, 0, 0, []),
  (48, .if_icmp .gt 7, 51, 55, 0, 0, 0, []),
  (51, .iconst 1, 52, 0, 0, 1, 0, []),
  (52, .goto 4, 55, 56, 0, 0, 0, []),
  (55, .iconst 0, 56, 0, 0, 0, 0, []),
  (56, .ireturn, 57, 0, 0, 0, 0, [])]
noncomputable def t_Mo_wide : List En := [
  (0, .aload_n 0, 1, 0, 0, 0, 0, []),
  (1, .iconst 0, 2, 0, 0, 0, 0, []),
  (2, .putfield 59, 5, 9, 0, 0, 0, []),
  (5, .iload_n 1, 6, 0, 0, 0, 0, []),
  (6, .i2l, 7, 0, 0, 0, 0, []),
  (7, .lconst 0, 8, 0, 0, 0, 0, []),
  (8, .aload_n 0, 9, 0, 0, 0, 0, []),
  (9, .getfield 90, 12, 9, 6, 0, 0, []),
  (12, .i2l, 13, 0, 0, 0, 0, []),
  (13, .invokestatic 69, 16, 121, 3, 0, 0, []),
  (16, .ifCond .eq 21, 19, 37, 0, 0, 0, []),
  (19, .iload_n 2, 20, 0, 0, 0, 0, []),
  (20, .i2l, 21, 0, 0, 0, 0, []),
  (21, .lconst 0, 22, 0, 0, 0, 0, []),
  (22, .aload_n 0, 23, 0, 0, 0, 0, []),
  (23, .getfield 19, 26, 9, 5, 0, 0, []),
  (26, .iconst 0, 27, 0, 0, 0, 0, []),
  (27, .iaload, 28, 0, 0, 0, 0, []),
  (28, .iconst 1, 29, 0, 0, 1, 0, []),
  (29, .isub, 30, 0, 0, 0, 0, []),
  (30, .i2l, 31, 0, 0, 0, 0, []),
  (31, .invokestatic 69, 34, 121, 3, 0, 0, []),
  (34, .ifCond .ne 8, 37, 42, 0, 0, 0, []),
  (37, .ldc 79, 39, 0, 0, (-1000001), 0, []),
  (39, .goto 9, 42, 48, 0, 0, 0, []),
  (42, .aload_n 0, 43, 0, 0, 0, 0, []),
  (43, .iload_n 1, 44, 0, 0, 0, 0, []),
  (44, .iload_n 2, 45, 0, 0, 0, 0, []),
  (45, .invokevirtual 104, 48, 134, 2, 0, 0, []),
  (48, .ireturn, 49, 0, 0, 0, 0, [])]
noncomputable def t_Mo_wideOf : List En := [
  (0, .iconst 0, 1, 0, 0, 0, 0, []),
  (1, .istore_n 3, 2, 0, 0, 0, 0, []),
  (2, .iconst 0, 3, 0, 0, 0, 0, []),
  (3, .istore 4, 5, 0, 0, 0, 0, []),
  (5, .iload 4, 7, 0, 0, 0, 0, []),
  (7, .iload_n 1, 8, 0, 0, 0, 0, []),
  (8, .if_icmp .ge 19, 11, 27, 0, 0, 0, []),
  (11, .iload_n 3, 12, 0, 0, 0, 0, []),
  (12, .aload_n 0, 13, 0, 0, 0, 0, []),
  (13, .getfield 22, 16, 9, 7, 0, 0, []),
  (16, .iload 4, 18, 0, 0, 0, 0, []),
  (18, .iaload, 19, 0, 0, 0, 0, []),
  (19, .iadd, 20, 0, 0, 0, 0, []),
  (20, .istore_n 3, 21, 0, 0, 0, 0, []),
  (21, .iinc 4 1, 24, 0, 0, 1, 0, []),
  (24, .goto (-19), 27, 5, 0, 0, 0, []),
  (27, .aload_n 0, 28, 0, 0, 0, 0, []),
  (28, .getfield 19, 31, 9, 5, 0, 0, []),
  (31, .iconst 1, 32, 0, 0, 1, 0, []),
  (32, .iaload, 33, 0, 0, 0, 0, []),
  (33, .iconst 2, 34, 0, 0, 2, 0, []),
  (34, .aload_n 0, 35, 0, 0, 0, 0, []),
  (35, .getfield 19, 38, 9, 5, 0, 0, []),
  (38, .iconst 0, 39, 0, 0, 0, 0, []),
  (39, .iaload, 40, 0, 0, 0, 0, []),
  (40, .iload_n 2, 41, 0, 0, 0, 0, []),
  (41, .isub, 42, 0, 0, 0, 0, []),
  (42, .imul, 43, 0, 0, 0, 0, []),
  (43, .aload_n 0, 44, 0, 0, 0, 0, []),
  (44, .getfield 19, 47, 9, 5, 0, 0, []),
  (47, .iconst 2, 48, 0, 0, 2, 0, []),
  (48, .iaload, 49, 0, 0, 0, 0, []),
  (49, .imul, 50, 0, 0, 0, 0, []),
  (50, .bipush 10, 52, 0, 0, 10, 0, []),
  (52, .idiv, 53, 0, 0, 0, 0, []),
  (53, .iadd, 54, 0, 0, 0, 0, []),
  (54, .iconst 2, 55, 0, 0, 2, 0, []),
  (55, .iload_n 3, 56, 0, 0, 0, 0, []),
  (56, .imul, 57, 0, 0, 0, 0, []),
  (57, .bipush 10, 59, 0, 0, 10, 0, []),
  (59, .aload_n 0, 60, 0, 0, 0, 0, []),
  (60, .getfield 19, 63, 9, 5, 0, 0, []),
  (63, .iconst 2, 64, 0, 0, 2, 0, []),
  (64, .iaload, 65, 0, 0, 0, 0, []),
  (65, .iadd, 66, 0, 0, 0, 0, []),
  (66, .imul, 67, 0, 0, 0, 0, []),
  (67, .bipush 10, 69, 0, 0, 10, 0, []),
  (69, .idiv, 70, 0, 0, 0, 0, []),
  (70, .isub, 71, 0, 0, 0, 0, []),
  (71, .istore 4, 73, 0, 0, 0, 0, []),
  (73, .iload_n 2, 74, 0, 0, 0, 0, []),
  (74, .aload_n 0, 75, 0, 0, 0, 0, []),
  (75, .getfield 19, 78, 9, 5, 0, 0, []),
  (78, .iconst 0, 79, 0, 0, 0, 0, []),
  (79, .iaload, 80, 0, 0, 0, 0, []),
  (80, .iload_n 3, 81, 0, 0, 0, 0, []),
  (81, .isub, 82, 0, 0, 0, 0, []),
  (82, .if_icmp .ge 8, 85, 90, 0, 0, 0, []),
  (85, .iload 4, 87, 0, 0, 0, 0, []),
  (87, .ifCond .ge 7, 90, 94, 0, 0, 0, []),
  (90, .iconst 0, 91, 0, 0, 0, 0, []),
  (91, .goto 5, 94, 96, 0, 0, 0, []),
  (94, .iload 4, 96, 0, 0, 0, 0, []),
  (96, .ireturn, 97, 0, 0, 0, 0, [])]
noncomputable def t_Mo_volume : List En := [
  (0, .aload_n 0, 1, 0, 0, 0, 0, []),
  (1, .iconst 0, 2, 0, 0, 0, 0, []),
  (2, .putfield 59, 5, 9, 0, 0, 0, []),
  (5, .iload_n 1, 6, 0, 0, 0, 0, []),
  (6, .ldc 108, 8, 0, 0, (-1000000), 0, []),
  (8, .if_icmp .eq 20, 11, 28, 0, 0, 0, []),
  (11, .iload_n 1, 12, 0, 0, 0, 0, []),
  (12, .i2l, 13, 0, 0, 0, 0, []),
  (13, .lconst 0, 14, 0, 0, 0, 0, []),
  (14, .aload_n 0, 15, 0, 0, 0, 0, []),
  (15, .getfield 90, 18, 9, 6, 0, 0, []),
  (18, .i2l, 19, 0, 0, 0, 0, []),
  (19, .invokestatic 69, 22, 121, 3, 0, 0, []),
  (22, .ifCond .ne 6, 25, 28, 0, 0, 0, []),
  (25, .ldc 79, 27, 0, 0, (-1000001), 0, []),
  (27, .ireturn, 28, 0, 0, 0, 0, []),
  (28, .iconst 0, 29, 0, 0, 0, 0, []),
  (29, .istore_n 2, 30, 0, 0, 0, 0, []),
  (30, .iconst 0, 31, 0, 0, 0, 0, []),
  (31, .istore_n 3, 32, 0, 0, 0, 0, []),
  (32, .iload_n 3, 33, 0, 0, 0, 0, []),
  (33, .aload_n 0, 34, 0, 0, 0, 0, []),
  (34, .getfield 19, 37, 9, 5, 0, 0, []),
  (37, .iconst 0, 38, 0, 0, 0, 0, []),
  (38, .iaload, 39, 0, 0, 0, 0, []),
  (39, .if_icmp .ge 72, 42, 111, 0, 0, 0, []),
  (42, .iload_n 1, 43, 0, 0, 0, 0, []),
  (43, .ldc 108, 45, 0, 0, (-1000000), 0, []),
  (45, .if_icmp .ne 12, 48, 57, 0, 0, 0, []),
  (48, .aload_n 0, 49, 0, 0, 0, 0, []),
  (49, .iconst 0, 50, 0, 0, 0, 0, []),
  (50, .iload_n 3, 51, 0, 0, 0, 0, []),
  (51, .invokevirtual 104, 54, 134, 2, 0, 0, []),
  (54, .goto 35, 57, 89, 0, 0, 0, []),
  (57, .iload_n 1, 58, 0, 0, 0, 0, []),
  (58, .aload_n 0, 59, 0, 0, 0, 0, []),
  (59, .getfield 90, 62, 9, 6, 0, 0, []),
  (62, .if_icmp .ne 12, 65, 74, 0, 0, 0, []),
  (65, .aload_n 0, 66, 0, 0, 0, 0, []),
  (66, .iload_n 1, 67, 0, 0, 0, 0, []),
  (67, .iload_n 3, 68, 0, 0, 0, 0, []),
  (68, .invokevirtual 104, 71, 134, 2, 0, 0, []),
  (71, .goto 18, 74, 89, 0, 0, 0, []),
  (74, .aload_n 0, 75, 0, 0, 0, 0, []),
  (75, .iload_n 1, 76, 0, 0, 0, 0, []),
  (76, .iload_n 3, 77, 0, 0, 0, 0, []),
  (77, .invokevirtual 104, 80, 134, 2, 0, 0, []),
  (80, .aload_n 0, 81, 0, 0, 0, 0, []),
  (81, .iload_n 1, 82, 0, 0, 0, 0, []),
  (82, .iconst 1, 83, 0, 0, 1, 0, []),
  (83, .iadd, 84, 0, 0, 0, 0, []),
  (84, .iload_n 3, 85, 0, 0, 0, 0, []),
  (85, .invokevirtual 104, 88, 134, 2, 0, 0, []),
  (88, .isub, 89, 0, 0, 0, 0, []),
  (89, .istore 4, 91, 0, 0, 0, 0, []),
  (91, .iload_n 2, 92, 0, 0, 0, 0, []),
  (92, .iload 4, 94, 0, 0, 0, 0, []),
  (94, .ifCond .ge 7, 97, 101, 0, 0, 0, []),
  (97, .iconst 0, 98, 0, 0, 0, 0, []),
  (98, .goto 5, 101, 103, 0, 0, 0, []),
  (101, .iload 4, 103, 0, 0, 0, 0, []),
  (103, .iadd, 104, 0, 0, 0, 0, []),
  (104, .istore_n 2, 105, 0, 0, 0, 0, []),
  (105, .iinc 3 1, 108, 0, 0, 1, 0, []),
  (108, .goto (-76), 111, 32, 0, 0, 0, []),
  (111, .iload_n 2, 112, 0, 0, 0, 0, []),
  (112, .aload_n 0, 113, 0, 0, 0, 0, []),
  (113, .getfield 19, 116, 9, 5, 0, 0, []),
  (116, .iconst 3, 117, 0, 0, 3, 0, []),
  (117, .iaload, 118, 0, 0, 0, 0, []),
  (118, .imul, 119, 0, 0, 0, 0, []),
  (119, .ireturn, 120, 0, 0, 0, 0, [])]
noncomputable def t_Mo_shared_0 : List En := [
  (0, .aload_n 0, 1, 0, 0, 0, 0, []),
  (1, .iconst 0, 2, 0, 0, 0, 0, []),
  (2, .putfield 59, 5, 9, 0, 0, 0, []),
  (5, .iload_n 1, 6, 0, 0, 0, 0, []),
  (6, .invokestatic 73, 9, 120, 1, 0, 0, []),
  (9, .ifCond .eq 34, 12, 43, 0, 0, 0, []),
  (12, .iload_n 3, 13, 0, 0, 0, 0, []),
  (13, .ldc 108, 15, 0, 0, (-1000000), 0, []),
  (15, .if_icmp .eq 15, 18, 30, 0, 0, 0, []),
  (18, .iload_n 3, 19, 0, 0, 0, 0, []),
  (19, .i2l, 20, 0, 0, 0, 0, []),
  (20, .lconst 0, 21, 0, 0, 0, 0, []),
  (21, .ldc2_w 109, 24, 0, 0, 0, 3, []),
  (24, .invokestatic 69, 27, 121, 3, 0, 0, []),
  (27, .ifCond .eq 16, 30, 43, 0, 0, 0, []),
  (30, .iload 4, 32, 0, 0, 0, 0, []),
  (32, .i2l, 33, 0, 0, 0, 0, []),
  (33, .lconst 0, 34, 0, 0, 0, 0, []),
  (34, .ldc2_w 77, 37, 0, 0, 0, 2, []),
  (37, .invokestatic 69, 40, 121, 3, 0, 0, []),
  (40, .ifCond .ne 6, 43, 46, 0, 0, 0, []),
  (43, .ldc 79, 45, 0, 0, (-1000001), 0, []),
  (45, .ireturn, 46, 0, 0, 0, 0, []),
  (46, .aload_n 0, 47, 0, 0, 0, 0, []),
  (47, .iload_n 1, 48, 0, 0, 0, 0, []),
  (48, .iload_n 2, 49, 0, 0, 0, 0, []),
  (49, .bipush 10, 51, 0, 0, 10, 0, []),
  (51, .invokevirtual 111, 54, 137, 3, 0, 0, []),
  (54, .istore 5, 56, 0, 0, 0, 0, []),
  (56, .iload 5, 58, 0, 0, 0, 0, []),
  (58, .ifCond .ge 6, 61, 64, 0, 0, 0, []),
  (61, .iload 5, 63, 0, 0, 0, 0, []),
  (63, .ireturn, 64, 0, 0, 0, 0, []),
  (64, .bipush 100, 66, 0, 0, 100, 0, []),
  (66, .iload_n 1, 67, 0, 0, 0, 0, []),
  (67, .imul, 68, 0, 0, 0, 0, []),
  (68, .iload_n 2, 69, 0, 0, 0, 0, []),
  (69, .iadd, 70, 0, 0, 0, 0, []),
  (70, .istore 6, 72, 0, 0, 0, 0, []),
  (72, .iconst 0, 73, 0, 0, 0, 0, []),
  (73, .istore 7, 75, 0, 0, 0, 0, []),
  (75, .iconst 0, 76, 0, 0, 0, 0, []),
  (76, .istore 8, 78, 0, 0, 0, 0, []),
  (78, .iload 8, 80, 0, 0, 0, 0, []),
  (80, .bipush 10, 82, 0, 0, 10, 0, []),
  (82, .if_icmp .ge 67, 85, 149, 0, 0, 0, []),
  (85, .aload_n 0, 86, 0, 0, 0, 0, []),
  (86, .getfield 16, 89, 9, 4, 0, 0, []),
  (89, .iload 6, 91, 0, 0, 0, 0, []),
  (91, .iload 8, 93, 0, 0, 0, 0, []),
  (93, .iadd, 94, 0, 0, 0, 0, []),
  (94, .iaload, 95, 0, 0, 0, 0, []),
  (95, .istore 9, 97, 0, 0, 0, 0, []),
  (97, .iload 9, 99, 0, 0, 0, 0, []),
  (99, .i2l, 100, 0, 0, 0, 0, []),
  (100, .lconst 0, 101, 0, 0, 0, 0, []),
  (101, .iload 8, 103, 0, 0, 0, 0, []),
  (103, .bipush 7, 105, 0, 0, 7, 0, []),
  (105, .if_icmp .ge 9, 108, 114, 0, 0, 0, []),
  (108, .ldc2_w 115, 111, 0, 0, 0, 100, []),
  (111, .goto 6, 114, 117, 0, 0, 0, []),
  (114, .ldc2_w 117, 117, 0, 0, 0, 15, []),
  (117, .invokestatic 69, 120, 121, 3, 0, 0, []),
  (120, .ifCond .ne 6, 123, 126, 0, 0, 0, []),
  (123, .ldc 79, 125, 0, 0, (-1000001), 0, []),
  (125, .ireturn, 126, 0, 0, 0, 0, []),
  (126, .iload 7, 128, 0, 0, 0, 0, []),
  (128, .iload 8, 130, 0, 0, 0, 0, []),
  (130, .iconst 4, 131, 0, 0, 4, 0, []),
  (131, .if_icmp .ge 8, 134, 139, 0, 0, 0, []),
  (134, .iload 9, 136, 0, 0, 0, 0, []),
  (136, .goto 4, 139, 140, 0, 0, 0, []),
  (139, .iconst 0, 140, 0, 0, 0, 0, []),
  (140, .iadd, 141, 0, 0, 0, 0, []),
  (141, .istore 7, 143, 0, 0, 0, 0, []),
  (143, .iinc 8 1, 146, 0, 0, 1, 0, []),
  (146, .goto (-68), 149, 78, 0, 0, 0, []),
  (149, .iload 7, 151, 0, 0, 0, 0, []),
  (151, .bipush 100, 153, 0, 0, 100, 0, []),
  (153, .if_icmp .eq 6, 156, 159, 0, 0, 0, []),
  (156, .ldc 79, 158, 0, 0, (-1000001), 0, []),
  (158, .ireturn, 159, 0, 0, 0, 0, []),
  (159, .aload_n 0, 160, 0, 0, 0, 0, []),
  (160, .iconst 0, 161, 0, 0, 0, 0, []),
  (161, .putfield 63, 164, 9, 1, 0, 0, []),
  (164, .iconst 0, 165, 0, 0, 0, 0, []),
  (165, .istore 8, 167, 0, 0, 0, 0, []),
  (167, .iload 8, 169, 0, 0, 0, 0, []),
  (169, .iconst 4, 170, 0, 0, 4, 0, []),
  (170, .if_icmp .ge 26, 173, 196, 0, 0, 0, []),
  (173, .aload_n 0, 174, 0, 0, 0, 0, []),
  (174, .getfield 28, 177, 9, 9, 0, 0, []),
  (177, .iload 8, 179, 0, 0, 0, 0, []),
  (179, .aload_n 0, 180, 0, 0, 0, 0, []),
  (180, .getfield 16, 183, 9, 4, 0, 0, []),
  (183, .iload 6, 185, 0, 0, 0, 0, []),
  (185, .iload 8, 187, 0, 0, 0, 0, []),
  (187, .iadd, 188, 0, 0, 0, 0, []),
  (188, .iaload, 189, 0, 0, 0, 0, []),
  (189, .iastore, 190, 0, 0, 0, 0, []),
  (190, .iinc 8 1, 193, 0, 0, 1, 0, []),
  (193, .goto (-26), 196, 167, 0, 0, 0, []),
  (196, .iconst 0, 197, 0, 0, 0, 0, []),
  (197, .istore 8, 199, 0, 0, 0, 0, []),
  (199, .iload 8, 201, 0, 0, 0, 0, []),
  (201, .iconst 3, 202, 0, 0, 3, 0, []),
  (202, .if_icmp .ge 82, 205, 284, 0, 0, 0, []),
  (205, .aload_n 0, 206, 0, 0, 0, 0, []),
  (206, .getfield 31, 209, 9, 10, 0, 0, []),
  (209, .iload 8, 211, 0, 0, 0, 0, []),
  (211, .aload_n 0, 212, 0, 0, 0, 0, []),
  (212, .getfield 16, 215, 9, 4, 0, 0, []),
  (215, .iload 6, 217, 0, 0, 0, 0, []),
  (217, .iconst 4, 218, 0, 0, 4, 0, []),
  (218, .iadd, 219, 0, 0, 0, 0, []),
  (219, .iload 8, 221, 0, 0, 0, 0, []),
  (221, .iadd, 222, 0, 0, 0, 0, []),
  (222, .iaload, 223, 0, 0, 0, 0, []),
  (223, .iastore, 224, 0, 0, 0, 0, []),
  (224, .iconst 0, 225, 0, 0, 0, 0, [])]
noncomputable def t_Mo_shared_1 : List En := [
  (225, .istore 9, 227, 0, 0, 0, 0, []),
  (227, .iload 9, 229, 0, 0, 0, 0, []),
  (229, .iconst 4, 230, 0, 0, 4, 0, []),
  (230, .if_icmp .ge 48, 233, 278, 0, 0, 0, []),
  (233, .aload_n 0, 234, 0, 0, 0, 0, []),
  (234, .getfield 34, 237, 9, 11, 0, 0, []),
  (237, .iconst 3, 238, 0, 0, 3, 0, []),
  (238, .iload 9, 240, 0, 0, 0, 0, []),
  (240, .imul, 241, 0, 0, 0, 0, []),
  (241, .iload 8, 243, 0, 0, 0, 0, []),
  (243, .iadd, 244, 0, 0, 0, 0, []),
  (244, .aload_n 0, 245, 0, 0, 0, 0, []),
  (245, .getfield 16, 248, 9, 4, 0, 0, []),
  (248, .iload 6, 250, 0, 0, 0, 0, []),
  (250, .bipush 7, 252, 0, 0, 7, 0, []),
  (252, .iadd, 253, 0, 0, 0, 0, []),
  (253, .iload 8, 255, 0, 0, 0, 0, []),
  (255, .iadd, 256, 0, 0, 0, 0, []),
  (256, .iaload, 257, 0, 0, 0, 0, []),
  (257, .iload 9, 259, 0, 0, 0, 0, []),
  (259, .ishr, 260, 0, 0, 0, 0, []),
  (260, .iconst 1, 261, 0, 0, 1, 0, []),
  (261, .iand, 262, 0, 0, 0, 0, []),
  (262, .iconst 1, 263, 0, 0, 1, 0, []),
  (263, .if_icmp .ne 7, 266, 270, 0, 0, 0, []),
  (266, .iconst 1, 267, 0, 0, 1, 0, []),
  (267, .goto 4, 270, 271, 0, 0, 0, []),
  (270, .iconst 0, 271, 0, 0, 0, 0, []),
  (271, .bastore, 272, 0, 0, 0, 0, []),
  (272, .iinc 9 1, 275, 0, 0, 1, 0, []),
  (275, .goto (-48), 278, 227, 0, 0, 0, []),
  (278, .iinc 8 1, 281, 0, 0, 1, 0, []),
  (281, .goto (-82), 284, 199, 0, 0, 0, []),
  (284, .aload_n 0, 285, 0, 0, 0, 0, []),
  (285, .invokevirtual 119, 288, 138, 0, 0, 0, []),
  (288, .istore 8, 290, 0, 0, 0, 0, []),
  (290, .bipush 100, 292, 0, 0, 100, 0, []),
  (292, .iload 8, 294, 0, 0, 0, 0, []),
  (294, .isub, 295, 0, 0, 0, 0, []),
  (295, .istore 9, 297, 0, 0, 0, 0, []),
  (297, .iconst 0, 298, 0, 0, 0, 0, []),
  (298, .istore 10, 300, 0, 0, 0, 0, []),
  (300, .iload 10, 302, 0, 0, 0, 0, []),
  (302, .iconst 4, 303, 0, 0, 4, 0, []),
  (303, .if_icmp .ge 177, 306, 480, 0, 0, 0, []),
  (306, .iconst 0, 307, 0, 0, 0, 0, []),
  (307, .istore 11, 309, 0, 0, 0, 0, []),
  (309, .iload 11, 311, 0, 0, 0, 0, []),
  (311, .iconst 3, 312, 0, 0, 3, 0, []),
  (312, .if_icmp .ge 162, 315, 474, 0, 0, 0, []),
  (315, .aload_n 0, 316, 0, 0, 0, 0, []),
  (316, .getfield 34, 319, 9, 11, 0, 0, []),
  (319, .iconst 3, 320, 0, 0, 3, 0, []),
  (320, .iload 10, 322, 0, 0, 0, 0, []),
  (322, .imul, 323, 0, 0, 0, 0, []),
  (323, .iload 11, 325, 0, 0, 0, 0, []),
  (325, .iadd, 326, 0, 0, 0, 0, []),
  (326, .baload, 327, 0, 0, 0, 0, []),
  (327, .ifCond .ne 7, 330, 334, 0, 0, 0, []),
  (330, .iconst 0, 331, 0, 0, 0, 0, []),
  (331, .goto 37, 334, 368, 0, 0, 0, []),
  (334, .aload_n 0, 335, 0, 0, 0, 0, []),
  (335, .getfield 28, 338, 9, 9, 0, 0, []),
  (338, .iload 10, 340, 0, 0, 0, 0, []),
  (340, .iaload, 341, 0, 0, 0, 0, []),
  (341, .aload_n 0, 342, 0, 0, 0, 0, []),
  (342, .getfield 31, 345, 9, 10, 0, 0, []),
  (345, .iload 11, 347, 0, 0, 0, 0, []),
  (347, .iaload, 348, 0, 0, 0, 0, []),
  (348, .if_icmp .ge 13, 351, 361, 0, 0, 0, []),
  (351, .aload_n 0, 352, 0, 0, 0, 0, []),
  (352, .getfield 28, 355, 9, 9, 0, 0, []),
  (355, .iload 10, 357, 0, 0, 0, 0, []),
  (357, .iaload, 358, 0, 0, 0, 0, []),
  (358, .goto 10, 361, 368, 0, 0, 0, []),
  (361, .aload_n 0, 362, 0, 0, 0, 0, []),
  (362, .getfield 31, 365, 9, 10, 0, 0, []),
  (365, .iload 11, 367, 0, 0, 0, 0, []),
  (367, .iaload, 368, 0, 0, 0, 0, []),
  (368, .istore 12, 370, 0, 0, 0, 0, []),
  (370, .aload_n 0, 371, 0, 0, 0, 0, []),
  (371, .getfield 34, 374, 9, 11, 0, 0, []),
  (374, .iconst 3, 375, 0, 0, 3, 0, []),
  (375, .iload 10, 377, 0, 0, 0, 0, []),
  (377, .imul, 378, 0, 0, 0, 0, []),
  (378, .iload 11, 380, 0, 0, 0, 0, []),
  (380, .iadd, 381, 0, 0, 0, 0, []),
  (381, .iconst 0, 382, 0, 0, 0, 0, []),
  (382, .bastore, 383, 0, 0, 0, 0, []),
  (383, .aload_n 0, 384, 0, 0, 0, 0, []),
  (384, .getfield 28, 387, 9, 9, 0, 0, []),
  (387, .iload 10, 389, 0, 0, 0, 0, []),
  (389, .dup2, 390, 0, 0, 0, 0, []),
  (390, .iaload, 391, 0, 0, 0, 0, []),
  (391, .iload 12, 393, 0, 0, 0, 0, []),
  (393, .isub, 394, 0, 0, 0, 0, []),
  (394, .iastore, 395, 0, 0, 0, 0, []),
  (395, .aload_n 0, 396, 0, 0, 0, 0, []),
  (396, .getfield 31, 399, 9, 10, 0, 0, []),
  (399, .iload 11, 401, 0, 0, 0, 0, []),
  (401, .dup2, 402, 0, 0, 0, 0, []),
  (402, .iaload, 403, 0, 0, 0, 0, []),
  (403, .iload 12, 405, 0, 0, 0, 0, []),
  (405, .isub, 406, 0, 0, 0, 0, []),
  (406, .iastore, 407, 0, 0, 0, 0, []),
  (407, .aload_n 0, 408, 0, 0, 0, 0, []),
  (408, .invokevirtual 119, 411, 138, 0, 0, 0, []),
  (411, .iload 12, 413, 0, 0, 0, 0, []),
  (413, .iadd, 414, 0, 0, 0, 0, []),
  (414, .iload 8, 416, 0, 0, 0, 0, []),
  (416, .if_icmp .ge 31, 419, 447, 0, 0, 0, []),
  (419, .iinc 12 (-1), 422, 0, 0, (-1), 0, []),
  (422, .aload_n 0, 423, 0, 0, 0, 0, []),
  (423, .getfield 28, 426, 9, 9, 0, 0, []),
  (426, .iload 10, 428, 0, 0, 0, 0, []),
  (428, .dup2, 429, 0, 0, 0, 0, []),
  (429, .iaload, 430, 0, 0, 0, 0, []),
  (430, .iconst 1, 431, 0, 0, 1, 0, []),
  (431, .iadd, 432, 0, 0, 0, 0, []),
  (432, .iastore, 433, 0, 0, 0, 0, [])]
noncomputable def t_Mo_shared_2 : List En := [
  (433, .aload_n 0, 434, 0, 0, 0, 0, []),
  (434, .getfield 31, 437, 9, 10, 0, 0, []),
  (437, .iload 11, 439, 0, 0, 0, 0, []),
  (439, .dup2, 440, 0, 0, 0, 0, []),
  (440, .iaload, 441, 0, 0, 0, 0, []),
  (441, .iconst 1, 442, 0, 0, 1, 0, []),
  (442, .iadd, 443, 0, 0, 0, 0, []),
  (443, .iastore, 444, 0, 0, 0, 0, []),
  (444, .goto (-37), 447, 407, 0, 0, 0, []),
  (447, .iload 8, 449, 0, 0, 0, 0, []),
  (449, .iload 12, 451, 0, 0, 0, 0, []),
  (451, .isub, 452, 0, 0, 0, 0, []),
  (452, .istore 8, 454, 0, 0, 0, 0, []),
  (454, .aload_n 0, 455, 0, 0, 0, 0, []),
  (455, .getfield 38, 458, 9, 12, 0, 0, []),
  (458, .iconst 3, 459, 0, 0, 3, 0, []),
  (459, .iload 10, 461, 0, 0, 0, 0, []),
  (461, .imul, 462, 0, 0, 0, 0, []),
  (462, .iload 11, 464, 0, 0, 0, 0, []),
  (464, .iadd, 465, 0, 0, 0, 0, []),
  (465, .iload 12, 467, 0, 0, 0, 0, []),
  (467, .iastore, 468, 0, 0, 0, 0, []),
  (468, .iinc 11 1, 471, 0, 0, 1, 0, []),
  (471, .goto (-162), 474, 309, 0, 0, 0, []),
  (474, .iinc 10 1, 477, 0, 0, 1, 0, []),
  (477, .goto (-177), 480, 300, 0, 0, 0, []),
  (480, .iload_n 3, 481, 0, 0, 0, 0, []),
  (481, .ldc 108, 483, 0, 0, (-1000000), 0, []),
  (483, .if_icmp .ne 8, 486, 491, 0, 0, 0, []),
  (486, .iload 9, 488, 0, 0, 0, 0, []),
  (488, .goto 14, 491, 502, 0, 0, 0, []),
  (491, .aload_n 0, 492, 0, 0, 0, 0, []),
  (492, .getfield 38, 495, 9, 12, 0, 0, []),
  (495, .iconst 3, 496, 0, 0, 3, 0, []),
  (496, .iload_n 3, 497, 0, 0, 0, 0, []),
  (497, .imul, 498, 0, 0, 0, 0, []),
  (498, .iload 4, 500, 0, 0, 0, 0, []),
  (500, .iadd, 501, 0, 0, 0, 0, []),
  (501, .iaload, 502, 0, 0, 0, 0, []),
  (502, .ireturn, 503, 0, 0, 0, 0, [])]
noncomputable def t_Mo_shared : List En := t_Mo_shared_0 ++ (t_Mo_shared_1 ++ (t_Mo_shared_2))
noncomputable def t_Mo_lookAt : List En := [
  (0, .aload_n 0, 1, 0, 0, 0, 0, []),
  (1, .getfield 7, 4, 9, 2, 0, 0, []),
  (4, .iload_n 1, 5, 0, 0, 0, 0, []),
  (5, .iaload, 6, 0, 0, 0, 0, []),
  (6, .ifCond .ge 9, 9, 15, 0, 0, 0, []),
  (9, .aload_n 0, 10, 0, 0, 0, 0, []),
  (10, .iconst 1, 11, 0, 0, 1, 0, []),
  (11, .invokevirtual 80, 14, 122, 1, 0, 0, []),
  (14, .ireturn, 15, 0, 0, 0, 0, []),
  (15, .iload_n 2, 16, 0, 0, 0, 0, []),
  (16, .ifCond .lt 19, 19, 35, 0, 0, 0, []),
  (19, .iload_n 2, 20, 0, 0, 0, 0, []),
  (20, .i2l, 21, 0, 0, 0, 0, []),
  (21, .iload_n 3, 22, 0, 0, 0, 0, []),
  (22, .i2l, 23, 0, 0, 0, 0, []),
  (23, .ladd, 24, 0, 0, 0, 0, []),
  (24, .aload_n 0, 25, 0, 0, 0, 0, []),
  (25, .getfield 13, 28, 9, 3, 0, 0, []),
  (28, .iload_n 1, 29, 0, 0, 0, 0, []),
  (29, .iaload, 30, 0, 0, 0, 0, []),
  (30, .i2l, 31, 0, 0, 0, 0, []),
  (31, .lcmp, 32, 0, 0, 0, 0, []),
  (32, .ifCond .le 11, 35, 43, 0, 0, 0, []),
  (35, .aload_n 0, 36, 0, 0, 0, 0, []),
  (36, .iconst 2, 37, 0, 0, 2, 0, []),
  (37, .invokevirtual 80, 40, 122, 1, 0, 0, []),
  (40, .goto 4, 43, 44, 0, 0, 0, []),
  (43, .iconst 0, 44, 0, 0, 0, 0, []),
  (44, .ireturn, 45, 0, 0, 0, 0, [])]
noncomputable def t_Mo_most : List En := [
  (0, .sipush 1000, 3, 0, 0, 1000, 0, []),
  (3, .istore_n 1, 4, 0, 0, 0, 0, []),
  (4, .iconst 0, 5, 0, 0, 0, 0, []),
  (5, .istore_n 2, 6, 0, 0, 0, 0, []),
  (6, .iload_n 2, 7, 0, 0, 0, 0, []),
  (7, .bipush 8, 9, 0, 0, 8, 0, []),
  (9, .if_icmp .ge 149, 12, 158, 0, 0, 0, []),
  (12, .iconst 0, 13, 0, 0, 0, 0, []),
  (13, .istore_n 3, 14, 0, 0, 0, 0, []),
  (14, .iconst 0, 15, 0, 0, 0, 0, []),
  (15, .istore 4, 17, 0, 0, 0, 0, []),
  (17, .iload 4, 19, 0, 0, 0, 0, []),
  (19, .iconst 3, 20, 0, 0, 3, 0, []),
  (20, .if_icmp .ge 32, 23, 52, 0, 0, 0, []),
  (23, .iload_n 3, 24, 0, 0, 0, 0, []),
  (24, .iload_n 2, 25, 0, 0, 0, 0, []),
  (25, .iload 4, 27, 0, 0, 0, 0, []),
  (27, .ishr, 28, 0, 0, 0, 0, []),
  (28, .iconst 1, 29, 0, 0, 1, 0, []),
  (29, .iand, 30, 0, 0, 0, 0, []),
  (30, .ifCond .ne 13, 33, 43, 0, 0, 0, []),
  (33, .aload_n 0, 34, 0, 0, 0, 0, []),
  (34, .getfield 31, 37, 9, 10, 0, 0, []),
  (37, .iload 4, 39, 0, 0, 0, 0, []),
  (39, .iaload, 40, 0, 0, 0, 0, []),
  (40, .goto 4, 43, 44, 0, 0, 0, []),
  (43, .iconst 0, 44, 0, 0, 0, 0, []),
  (44, .iadd, 45, 0, 0, 0, 0, []),
  (45, .istore_n 3, 46, 0, 0, 0, 0, []),
  (46, .iinc 4 1, 49, 0, 0, 1, 0, []),
  (49, .goto (-32), 52, 17, 0, 0, 0, []),
  (52, .iconst 0, 53, 0, 0, 0, 0, []),
  (53, .istore 4, 55, 0, 0, 0, 0, []),
  (55, .iload 4, 57, 0, 0, 0, 0, []),
  (57, .iconst 4, 58, 0, 0, 4, 0, []),
  (58, .if_icmp .ge 83, 61, 141, 0, 0, 0, []),
  (61, .iconst 0, 62, 0, 0, 0, 0, []),
  (62, .istore 5, 64, 0, 0, 0, 0, []),
  (64, .iconst 0, 65, 0, 0, 0, 0, []),
  (65, .istore 6, 67, 0, 0, 0, 0, []),
  (67, .iload 6, 69, 0, 0, 0, 0, []),
  (69, .iconst 3, 70, 0, 0, 3, 0, []),
  (70, .if_icmp .ge 46, 73, 116, 0, 0, 0, []),
  (73, .iload 5, 75, 0, 0, 0, 0, []),
  (75, .ifCond .ne 28, 78, 103, 0, 0, 0, []),
  (78, .iload_n 2, 79, 0, 0, 0, 0, []),
  (79, .iload 6, 81, 0, 0, 0, 0, []),
  (81, .ishr, 82, 0, 0, 0, 0, []),
  (82, .iconst 1, 83, 0, 0, 1, 0, []),
  (83, .iand, 84, 0, 0, 0, 0, []),
  (84, .iconst 1, 85, 0, 0, 1, 0, []),
  (85, .if_icmp .ne 22, 88, 107, 0, 0, 0, []),
  (88, .aload_n 0, 89, 0, 0, 0, 0, []),
  (89, .getfield 34, 92, 9, 11, 0, 0, []),
  (92, .iconst 3, 93, 0, 0, 3, 0, []),
  (93, .iload 4, 95, 0, 0, 0, 0, []),
  (95, .imul, 96, 0, 0, 0, 0, []),
  (96, .iload 6, 98, 0, 0, 0, 0, []),
  (98, .iadd, 99, 0, 0, 0, 0, []),
  (99, .baload, 100, 0, 0, 0, 0, []),
  (100, .ifCond .eq 7, 103, 107, 0, 0, 0, []),
  (103, .iconst 1, 104, 0, 0, 1, 0, []),
  (104, .goto 4, 107, 108, 0, 0, 0, []),
  (107, .iconst 0, 108, 0, 0, 0, 0, []),
  (108, .istore 5, 110, 0, 0, 0, 0, []),
  (110, .iinc 6 1, 113, 0, 0, 1, 0, []),
  (113, .goto (-46), 116, 67, 0, 0, 0, []),
  (116, .iload_n 3, 117, 0, 0, 0, 0, []),
  (117, .iload 5, 119, 0, 0, 0, 0, []),
  (119, .ifCond .eq 13, 122, 132, 0, 0, 0, []),
  (122, .aload_n 0, 123, 0, 0, 0, 0, []),
  (123, .getfield 28, 126, 9, 9, 0, 0, []),
  (126, .iload 4, 128, 0, 0, 0, 0, []),
  (128, .iaload, 129, 0, 0, 0, 0, []),
  (129, .goto 4, 132, 133, 0, 0, 0, []),
  (132, .iconst 0, 133, 0, 0, 0, 0, []),
  (133, .iadd, 134, 0, 0, 0, 0, []),
  (134, .istore_n 3, 135, 0, 0, 0, 0, []),
  (135, .iinc 4 1, 138, 0, 0, 1, 0, []),
  (138, .goto (-83), 141, 55, 0, 0, 0, []),
  (141, .iload_n 3, 142, 0, 0, 0, 0, []),
  (142, .iload_n 1, 143, 0, 0, 0, 0, []),
  (143, .if_icmp .ge 7, 146, 150, 0, 0, 0, []),
  (146, .iload_n 3, 147, 0, 0, 0, 0, []),
  (147, .goto 4, 150, 151, 0, 0, 0, []),
  (150, .iload_n 1, 151, 0, 0, 0, 0, []),
  (151, .istore_n 1, 152, 0, 0, 0, 0, []),
  (152, .iinc 2 1, 155, 0, 0, 1, 0, []),
  (155, .goto (-149), 158, 6, 0, 0, 0, []),
  (158, .iload_n 1, 159, 0, 0, 0, 0, []),
  (159, .ireturn, 160, 0, 0, 0, 0, [])]
noncomputable def t_Mo_lay : List En := [
  (0, .aload_n 0, 1, 0, 0, 0, 0, []),
  (1, .iconst 0, 2, 0, 0, 0, 0, []),
  (2, .putfield 59, 5, 9, 0, 0, 0, []),
  (5, .iload_n 1, 6, 0, 0, 0, 0, []),
  (6, .iload_n 2, 7, 0, 0, 0, 0, []),
  (7, .invokestatic 123, 10, 140, 2, 0, 0, []),
  (10, .ifCond .ne 6, 13, 16, 0, 0, 0, []),
  (13, .ldc 79, 15, 0, 0, (-1000001), 0, []),
  (15, .ireturn, 16, 0, 0, 0, 0, []),
  (16, .aload_n 0, 17, 0, 0, 0, 0, []),
  (17, .getfield 41, 20, 9, 13, 0, 0, []),
  (20, .iload_n 1, 21, 0, 0, 0, 0, []),
  (21, .iaload, 22, 0, 0, 0, 0, []),
  (22, .iload_n 2, 23, 0, 0, 0, 0, []),
  (23, .invokestatic 126, 26, 141, 2, 0, 0, []),
  (26, .ifCond .ne 39, 29, 65, 0, 0, 0, []),
  (29, .iload_n 1, 30, 0, 0, 0, 0, []),
  (30, .ifCond .le 38, 33, 68, 0, 0, 0, []),
  (33, .aload_n 0, 34, 0, 0, 0, 0, []),
  (34, .getfield 41, 37, 9, 13, 0, 0, []),
  (37, .iload_n 1, 38, 0, 0, 0, 0, []),
  (38, .iconst 1, 39, 0, 0, 1, 0, []),
  (39, .isub, 40, 0, 0, 0, 0, []),
  (40, .iaload, 41, 0, 0, 0, 0, []),
  (41, .iload_n 2, 42, 0, 0, 0, 0, []),
  (42, .invokestatic 126, 45, 141, 2, 0, 0, []),
  (45, .ifCond .eq 20, 48, 65, 0, 0, 0, []),
  (48, .aload_n 0, 49, 0, 0, 0, 0, []),
  (49, .getfield 41, 52, 9, 13, 0, 0, []),
  (52, .iload_n 1, 53, 0, 0, 0, 0, []),
  (53, .iconst 1, 54, 0, 0, 1, 0, []),
  (54, .isub, 55, 0, 0, 0, 0, []),
  (55, .iaload, 56, 0, 0, 0, 0, []),
  (56, .iload_n 2, 57, 0, 0, 0, 0, []),
  (57, .iconst 1, 58, 0, 0, 1, 0, []),
  (58, .iadd, 59, 0, 0, 0, 0, []),
  (59, .invokestatic 126, 62, 141, 2, 0, 0, []),
  (62, .ifCond .ne 6, 65, 68, 0, 0, 0, []),
  (65, .ldc 129, 67, 0, 0, (-1000002), 0, []),
  (67, .ireturn, 68, 0, 0, 0, 0, []),
  (68, .aload_n 0, 69, 0, 0, 0, 0, []),
  (69, .getfield 41, 72, 9, 13, 0, 0, []),
  (72, .iload_n 1, 73, 0, 0, 0, 0, []),
  (73, .dup2, 74, 0, 0, 0, 0, []),
  (74, .iaload, 75, 0, 0, 0, 0, []),
  (75, .iconst 1, 76, 0, 0, 1, 0, []),
  (76, .iload_n 2, 77, 0, 0, 0, 0, []),
  (77, .ishl, 78, 0, 0, 0, 0, []),
  (78, .ior, 79, 0, 0, 0, 0, []),
  (79, .iastore, 80, 0, 0, 0, 0, []),
  (80, .iconst 1, 81, 0, 0, 1, 0, []),
  (81, .ireturn, 82, 0, 0, 0, 0, [])]
noncomputable def t_Mo_isPlace : List En := [
  (0, .iload_n 0, 1, 0, 0, 0, 0, []),
  (1, .i2l, 2, 0, 0, 0, 0, []),
  (2, .lconst 0, 3, 0, 0, 0, 0, []),
  (3, .ldc2_w 67, 6, 0, 0, 0, 7, []),
  (6, .invokestatic 69, 9, 121, 3, 0, 0, []),
  (9, .ifCond .eq 21, 12, 30, 0, 0, 0, []),
  (12, .iload_n 1, 13, 0, 0, 0, 0, []),
  (13, .i2l, 14, 0, 0, 0, 0, []),
  (14, .lconst 0, 15, 0, 0, 0, 0, []),
  (15, .bipush 11, 17, 0, 0, 11, 0, []),
  (17, .iload_n 0, 18, 0, 0, 0, 0, []),
  (18, .isub, 19, 0, 0, 0, 0, []),
  (19, .i2l, 20, 0, 0, 0, 0, []),
  (20, .invokestatic 69, 23, 121, 3, 0, 0, []),
  (23, .ifCond .eq 7, 26, 30, 0, 0, 0, []),
  (26, .iconst 1, 27, 0, 0, 1, 0, []),
  (27, .goto 4, 30, 31, 0, 0, 0, []),
  (30, .iconst 0, 31, 0, 0, 0, 0, []),
  (31, .ireturn, 32, 0, 0, 0, 0, [])]
noncomputable def t_Mo_isIn : List En := [
  (0, .iload_n 1, 1, 0, 0, 0, 0, []),
  (1, .ifCond .lt 16, 4, 17, 0, 0, 0, []),
  (4, .iload_n 0, 5, 0, 0, 0, 0, []),
  (5, .iload_n 1, 6, 0, 0, 0, 0, []),
  (6, .ishr, 7, 0, 0, 0, 0, []),
  (7, .iconst 1, 8, 0, 0, 1, 0, []),
  (8, .iand, 9, 0, 0, 0, 0, []),
  (9, .iconst 1, 10, 0, 0, 1, 0, []),
  (10, .if_icmp .ne 7, 13, 17, 0, 0, 0, []),
  (13, .iconst 1, 14, 0, 0, 1, 0, []),
  (14, .goto 4, 17, 18, 0, 0, 0, []),
  (17, .iconst 0, 18, 0, 0, 0, 0, []),
  (18, .ireturn, 19, 0, 0, 0, 0, [])]
noncomputable def t_Mo_lift : List En := [
  (0, .aload_n 0, 1, 0, 0, 0, 0, []),
  (1, .iconst 0, 2, 0, 0, 0, 0, []),
  (2, .putfield 59, 5, 9, 0, 0, 0, []),
  (5, .iload_n 1, 6, 0, 0, 0, 0, []),
  (6, .iload_n 2, 7, 0, 0, 0, 0, []),
  (7, .invokestatic 123, 10, 140, 2, 0, 0, []),
  (10, .ifCond .ne 6, 13, 16, 0, 0, 0, []),
  (13, .ldc 79, 15, 0, 0, (-1000001), 0, []),
  (15, .ireturn, 16, 0, 0, 0, 0, []),
  (16, .aload_n 0, 17, 0, 0, 0, 0, []),
  (17, .getfield 41, 20, 9, 13, 0, 0, []),
  (20, .iload_n 1, 21, 0, 0, 0, 0, []),
  (21, .iaload, 22, 0, 0, 0, 0, []),
  (22, .iload_n 2, 23, 0, 0, 0, 0, []),
  (23, .invokestatic 126, 26, 141, 2, 0, 0, []),
  (26, .ifCond .eq 41, 29, 67, 0, 0, 0, []),
  (29, .iload_n 1, 30, 0, 0, 0, 0, []),
  (30, .bipush 7, 32, 0, 0, 7, 0, []),
  (32, .if_icmp .ge 38, 35, 70, 0, 0, 0, []),
  (35, .aload_n 0, 36, 0, 0, 0, 0, []),
  (36, .getfield 41, 39, 9, 13, 0, 0, []),
  (39, .iload_n 1, 40, 0, 0, 0, 0, []),
  (40, .iconst 1, 41, 0, 0, 1, 0, []),
  (41, .iadd, 42, 0, 0, 0, 0, []),
  (42, .iaload, 43, 0, 0, 0, 0, []),
  (43, .iload_n 2, 44, 0, 0, 0, 0, []),
  (44, .invokestatic 126, 47, 141, 2, 0, 0, []),
  (47, .ifCond .ne 20, 50, 67, 0, 0, 0, []),
  (50, .aload_n 0, 51, 0, 0, 0, 0, []),
  (51, .getfield 41, 54, 9, 13, 0, 0, []),
  (54, .iload_n 1, 55, 0, 0, 0, 0, []),
  (55, .iconst 1, 56, 0, 0, 1, 0, []),
  (56, .iadd, 57, 0, 0, 0, 0, []),
  (57, .iaload, 58, 0, 0, 0, 0, []),
  (58, .iload_n 2, 59, 0, 0, 0, 0, []),
  (59, .iconst 1, 60, 0, 0, 1, 0, []),
  (60, .isub, 61, 0, 0, 0, 0, []),
  (61, .invokestatic 126, 64, 141, 2, 0, 0, []),
  (64, .ifCond .eq 6, 67, 70, 0, 0, 0, []),
  (67, .ldc 129, 69, 0, 0, (-1000002), 0, []),
  (69, .ireturn, 70, 0, 0, 0, 0, []),
  (70, .aload_n 0, 71, 0, 0, 0, 0, []),
  (71, .getfield 41, 74, 9, 13, 0, 0, []),
  (74, .iload_n 1, 75, 0, 0, 0, 0, []),
  (75, .dup2, 76, 0, 0, 0, 0, []),
  (76, .iaload, 77, 0, 0, 0, 0, []),
  (77, .iconst 1, 78, 0, 0, 1, 0, []),
  (78, .iload_n 2, 79, 0, 0, 0, 0, []),
  (79, .ishl, 80, 0, 0, 0, 0, []),
  (80, .iconst (-1), 81, 0, 0, (-1), 0, []),
  (81, .ixor, 82, 0, 0, 0, 0, []),
  (82, .iand, 83, 0, 0, 0, 0, []),
  (83, .iastore, 84, 0, 0, 0, 0, []),
  (84, .iconst 1, 85, 0, 0, 1, 0, []),
  (85, .ireturn, 86, 0, 0, 0, 0, [])]
noncomputable def t_Mo_reaches : List En := [
  (0, .aload_n 0, 1, 0, 0, 0, 0, []),
  (1, .iconst 0, 2, 0, 0, 0, 0, []),
  (2, .putfield 59, 5, 9, 0, 0, 0, []),
  (5, .iload_n 1, 6, 0, 0, 0, 0, []),
  (6, .iload_n 2, 7, 0, 0, 0, 0, []),
  (7, .invokestatic 137, 10, 144, 2, 0, 0, []),
  (10, .ifCond .eq 12, 13, 22, 0, 0, 0, []),
  (13, .iload_n 3, 14, 0, 0, 0, 0, []),
  (14, .iload 4, 16, 0, 0, 0, 0, []),
  (16, .invokestatic 123, 19, 140, 2, 0, 0, []),
  (19, .ifCond .ne 8, 22, 27, 0, 0, 0, []),
  (22, .ldc 79, 24, 0, 0, (-1000001), 0, []),
  (24, .goto 19, 27, 43, 0, 0, 0, []),
  (27, .iload_n 1, 28, 0, 0, 0, 0, []),
  (28, .iload_n 2, 29, 0, 0, 0, 0, []),
  (29, .iload_n 3, 30, 0, 0, 0, 0, []),
  (30, .iload 4, 32, 0, 0, 0, 0, []),
  (32, .invokestatic 140, 35, 145, 4, 0, 0, []),
  (35, .ifCond .eq 7, 38, 42, 0, 0, 0, []),
  (38, .iconst 1, 39, 0, 0, 1, 0, []),
  (39, .goto 4, 42, 43, 0, 0, 0, []),
  (42, .iconst 0, 43, 0, 0, 0, 0, []),
  (43, .ireturn, 44, 0, 0, 0, 0, [])]
noncomputable def t_Mo_isCrane : List En := [
  (0, .iload_n 0, 1, 0, 0, 0, 0, []),
  (1, .i2l, 2, 0, 0, 0, 0, []),
  (2, .lconst 0, 3, 0, 0, 0, 0, []),
  (3, .ldc2_w 133, 6, 0, 0, 0, 11, []),
  (6, .invokestatic 69, 9, 121, 3, 0, 0, []),
  (9, .ifCond .eq 19, 12, 28, 0, 0, 0, []),
  (12, .iload_n 1, 13, 0, 0, 0, 0, []),
  (13, .i2l, 14, 0, 0, 0, 0, []),
  (14, .lconst 0, 15, 0, 0, 0, 0, []),
  (15, .ldc2_w 135, 18, 0, 0, 0, 30, []),
  (18, .invokestatic 69, 21, 121, 3, 0, 0, []),
  (21, .ifCond .eq 7, 24, 28, 0, 0, 0, []),
  (24, .iconst 1, 25, 0, 0, 1, 0, []),
  (25, .goto 4, 28, 29, 0, 0, 0, []),
  (28, .iconst 0, 29, 0, 0, 0, 0, []),
  (29, .ireturn, 30, 0, 0, 0, 0, [])]
noncomputable def t_Mo_isReached : List En := [
  (0, .iload_n 3, 1, 0, 0, 0, 0, []),
  (1, .iload_n 2, 2, 0, 0, 0, 0, []),
  (2, .iconst 2, 3, 0, 0, 2, 0, []),
  (3, .idiv, 4, 0, 0, 0, 0, []),
  (4, .iadd, 5, 0, 0, 0, 0, []),
  (5, .iload_n 0, 6, 0, 0, 0, 0, []),
  (6, .isub, 7, 0, 0, 0, 0, []),
  (7, .invokestatic 130, 10, 146, 1, 0, 0, []),
  (10, .iload_n 2, 11, 0, 0, 0, 0, []),
  (11, .iadd, 12, 0, 0, 0, 0, []),
  (12, .iload_n 1, 13, 0, 0, 0, 0, []),
  (13, .if_icmp .gt 7, 16, 20, 0, 0, 0, []),
  (16, .iconst 1, 17, 0, 0, 1, 0, []),
  (17, .goto 4, 20, 21, 0, 0, 0, []),
  (20, .iconst 0, 21, 0, 0, 0, 0, []),
  (21, .ireturn, 22, 0, 0, 0, 0, [])]
noncomputable def t_Mo_size : List En := [
  (0, .iload_n 0, 1, 0, 0, 0, 0, []),
  (1, .ifCond .ge 8, 4, 9, 0, 0, 0, []),
  (4, .iload_n 0, 5, 0, 0, 0, 0, []),
  (5, .ineg, 6, 0, 0, 0, 0, []),
  (6, .goto 4, 9, 10, 0, 0, 0, []),
  (9, .iload_n 0, 10, 0, 0, 0, 0, []),
  (10, .ireturn, 11, 0, 0, 0, 0, [])]
noncomputable def t_Mo_order : List En := [
  (0, .aload_n 0, 1, 0, 0, 0, 0, []),
  (1, .iconst 0, 2, 0, 0, 0, 0, []),
  (2, .putfield 59, 5, 9, 0, 0, 0, []),
  (5, .iload_n 1, 6, 0, 0, 0, 0, []),
  (6, .iload_n 2, 7, 0, 0, 0, 0, []),
  (7, .invokestatic 137, 10, 144, 2, 0, 0, []),
  (10, .ifCond .eq 15, 13, 25, 0, 0, 0, []),
  (13, .iload_n 3, 14, 0, 0, 0, 0, []),
  (14, .i2l, 15, 0, 0, 0, 0, []),
  (15, .lconst 1, 16, 0, 0, 0, 1, []),
  (16, .ldc2_w 147, 19, 0, 0, 0, 8, []),
  (19, .invokestatic 69, 22, 121, 3, 0, 0, []),
  (22, .ifCond .ne 6, 25, 28, 0, 0, 0, []),
  (25, .ldc 79, 27, 0, 0, (-1000001), 0, []),
  (27, .ireturn, 28, 0, 0, 0, 0, []),
  (28, .aload_n 0, 29, 0, 0, 0, 0, []),
  (29, .iload_n 1, 30, 0, 0, 0, 0, []),
  (30, .iload_n 2, 31, 0, 0, 0, 0, []),
  (31, .iload_n 3, 32, 0, 0, 0, 0, []),
  (32, .invokevirtual 149, 35, 148, 3, 0, 0, []),
  (35, .aload_n 0, 36, 0, 0, 0, 0, []),
  (36, .getfield 144, 39, 9, 14, 0, 0, []),
  (39, .ireturn, 40, 0, 0, 0, 0, [])]
noncomputable def t_Mo_findOrder : List En := [
  (0, .aload_n 0, 1, 0, 0, 0, 0, []),
  (1, .iconst 0, 2, 0, 0, 0, 0, []),
  (2, .putfield 144, 5, 9, 14, 0, 0, []),
  (5, .iconst 0, 6, 0, 0, 0, 0, []),
  (6, .istore 4, 8, 0, 0, 0, 0, []),
  (8, .iload 4, 10, 0, 0, 0, 0, []),
  (10, .iload_n 3, 11, 0, 0, 0, 0, []),
  (11, .if_icmp .ge 168, 14, 179, 0, 0, 0, []),
  (14, .aload_n 0, 15, 0, 0, 0, 0, []),
  (15, .getfield 50, 18, 9, 17, 0, 0, []),
  (18, .iload 4, 20, 0, 0, 0, 0, []),
  (20, .aload_n 0, 21, 0, 0, 0, 0, []),
  (21, .getfield 41, 24, 9, 13, 0, 0, []),
  (24, .iload 4, 26, 0, 0, 0, 0, []),
  (26, .iaload, 27, 0, 0, 0, 0, []),
  (27, .iastore, 28, 0, 0, 0, 0, []),
  (28, .iconst 0, 29, 0, 0, 0, 0, []),
  (29, .istore 5, 31, 0, 0, 0, 0, []),
  (31, .iload 5, 33, 0, 0, 0, 0, []),
  (33, .bipush 12, 35, 0, 0, 12, 0, []),
  (35, .iload 4, 37, 0, 0, 0, 0, []),
  (37, .isub, 38, 0, 0, 0, 0, []),
  (38, .if_icmp .ge 135, 41, 173, 0, 0, 0, []),
  (41, .aload_n 0, 42, 0, 0, 0, 0, []),
  (42, .getfield 41, 45, 9, 13, 0, 0, []),
  (45, .iload 4, 47, 0, 0, 0, 0, []),
  (47, .iaload, 48, 0, 0, 0, 0, []),
  (48, .iload 5, 50, 0, 0, 0, 0, []),
  (50, .invokestatic 126, 53, 141, 2, 0, 0, []),
  (53, .ifCond .ne 60, 56, 113, 0, 0, 0, []),
  (56, .iload_n 1, 57, 0, 0, 0, 0, []),
  (57, .iload_n 2, 58, 0, 0, 0, 0, []),
  (58, .iload 4, 60, 0, 0, 0, 0, []),
  (60, .iload 5, 62, 0, 0, 0, 0, []),
  (62, .invokestatic 140, 65, 145, 4, 0, 0, []),
  (65, .ifCond .eq 48, 68, 113, 0, 0, 0, []),
  (68, .iload 4, 70, 0, 0, 0, 0, []),
  (70, .ifCond .eq 39, 73, 109, 0, 0, 0, []),
  (73, .aload_n 0, 74, 0, 0, 0, 0, []),
  (74, .getfield 50, 77, 9, 17, 0, 0, []),
  (77, .iload 4, 79, 0, 0, 0, 0, []),
  (79, .iconst 1, 80, 0, 0, 1, 0, []),
  (80, .isub, 81, 0, 0, 0, 0, []),
  (81, .iaload, 82, 0, 0, 0, 0, []),
  (82, .iload 5, 84, 0, 0, 0, 0, []),
  (84, .invokestatic 126, 87, 141, 2, 0, 0, []),
  (87, .ifCond .eq 26, 90, 113, 0, 0, 0, []),
  (90, .aload_n 0, 91, 0, 0, 0, 0, []),
  (91, .getfield 50, 94, 9, 17, 0, 0, []),
  (94, .iload 4, 96, 0, 0, 0, 0, []),
  (96, .iconst 1, 97, 0, 0, 1, 0, []),
  (97, .isub, 98, 0, 0, 0, 0, []),
  (98, .iaload, 99, 0, 0, 0, 0, []),
  (99, .iload 5, 101, 0, 0, 0, 0, []),
  (101, .iconst 1, 102, 0, 0, 1, 0, []),
  (102, .iadd, 103, 0, 0, 0, 0, []),
  (103, .invokestatic 126, 106, 141, 2, 0, 0, []),
  (106, .ifCond .eq 7, 109, 113, 0, 0, 0, []),
  (109, .iconst 1, 110, 0, 0, 1, 0, []),
  (110, .goto 4, 113, 114, 0, 0, 0, []),
  (113, .iconst 0, 114, 0, 0, 0, 0, []),
  (114, .istore 6, 116, 0, 0, 0, 0, []),
  (116, .iload 6, 118, 0, 0, 0, 0, []),
  (118, .ifCond .eq 49, 121, 167, 0, 0, 0, []),
  (121, .aload_n 0, 122, 0, 0, 0, 0, []),
  (122, .getfield 50, 125, 9, 17, 0, 0, []),
  (125, .iload 4, 127, 0, 0, 0, 0, []),
  (127, .dup2, 128, 0, 0, 0, 0, []),
  (128, .iaload, 129, 0, 0, 0, 0, []),
  (129, .iconst 1, 130, 0, 0, 1, 0, []),
  (130, .iload 5, 132, 0, 0, 0, 0, []),
  (132, .ishl, 133, 0, 0, 0, 0, []),
  (133, .ior, 134, 0, 0, 0, 0, []),
  (134, .iastore, 135, 0, 0, 0, 0, []),
  (135, .aload_n 0, 136, 0, 0, 0, 0, []),
  (136, .getfield 44, 139, 9, 15, 0, 0, []),
  (139, .aload_n 0, 140, 0, 0, 0, 0, []),
  (140, .getfield 144, 143, 9, 14, 0, 0, []),
  (143, .iload 4, 145, 0, 0, 0, 0, []),
  (145, .iastore, 146, 0, 0, 0, 0, []),
  (146, .aload_n 0, 147, 0, 0, 0, 0, []),
  (147, .getfield 47, 150, 9, 16, 0, 0, []),
  (150, .aload_n 0, 151, 0, 0, 0, 0, []),
  (151, .getfield 144, 154, 9, 14, 0, 0, []),
  (154, .iload 5, 156, 0, 0, 0, 0, []),
  (156, .iastore, 157, 0, 0, 0, 0, []),
  (157, .aload_n 0, 158, 0, 0, 0, 0, []),
  (158, .dup, 159, 0, 0, 0, 0, []),
  (159, .getfield 144, 162, 9, 14, 0, 0, []),
  (162, .iconst 1, 163, 0, 0, 1, 0, []),
  (163, .iadd, 164, 0, 0, 0, 0, []),
  (164, .putfield 144, 167, 9, 14, 0, 0, []),
  (167, .iinc 5 1, 170, 0, 0, 1, 0, []),
  (170, .goto (-139), 173, 31, 0, 0, 0, []),
  (173, .iinc 4 1, 176, 0, 0, 1, 0, []),
  (176, .goto (-168), 179, 8, 0, 0, 0, []),
  (179, .return_, 180, 0, 0, 0, 0, [])]
noncomputable def t_Mo_planned : List En := [
  (0, .aload_n 0, 1, 0, 0, 0, 0, []),
  (1, .iconst 0, 2, 0, 0, 0, 0, []),
  (2, .putfield 59, 5, 9, 0, 0, 0, []),
  (5, .iload_n 1, 6, 0, 0, 0, 0, []),
  (6, .iload_n 2, 7, 0, 0, 0, 0, []),
  (7, .invokestatic 137, 10, 144, 2, 0, 0, []),
  (10, .ifCond .eq 46, 13, 56, 0, 0, 0, []),
  (13, .iload_n 3, 14, 0, 0, 0, 0, []),
  (14, .i2l, 15, 0, 0, 0, 0, []),
  (15, .lconst 1, 16, 0, 0, 0, 1, []),
  (16, .ldc2_w 147, 19, 0, 0, 0, 8, []),
  (19, .invokestatic 69, 22, 121, 3, 0, 0, []),
  (22, .ifCond .eq 34, 25, 56, 0, 0, 0, []),
  (25, .iload 4, 27, 0, 0, 0, 0, []),
  (27, .invokestatic 73, 30, 120, 1, 0, 0, []),
  (30, .ifCond .eq 26, 33, 56, 0, 0, 0, []),
  (33, .iload 6, 35, 0, 0, 0, 0, []),
  (35, .i2l, 36, 0, 0, 0, 0, []),
  (36, .lconst 1, 37, 0, 0, 0, 1, []),
  (37, .ldc2_w 153, 40, 0, 0, 0, 20, []),
  (40, .invokestatic 69, 43, 121, 3, 0, 0, []),
  (43, .ifCond .eq 13, 46, 56, 0, 0, 0, []),
  (46, .iload 7, 48, 0, 0, 0, 0, []),
  (48, .iload 8, 50, 0, 0, 0, 0, []),
  (50, .invokestatic 123, 53, 140, 2, 0, 0, []),
  (53, .ifCond .ne 6, 56, 59, 0, 0, 0, []),
  (56, .ldc 79, 58, 0, 0, (-1000001), 0, []),
  (58, .ireturn, 59, 0, 0, 0, 0, []),
  (59, .aload_n 0, 60, 0, 0, 0, 0, []),
  (60, .iload 4, 62, 0, 0, 0, 0, []),
  (62, .iload 5, 64, 0, 0, 0, 0, []),
  (64, .iload 6, 66, 0, 0, 0, 0, []),
  (66, .invokevirtual 111, 69, 137, 3, 0, 0, []),
  (69, .istore 9, 71, 0, 0, 0, 0, []),
  (71, .iload 9, 73, 0, 0, 0, 0, []),
  (73, .ifCond .ge 6, 76, 79, 0, 0, 0, []),
  (76, .iload 9, 78, 0, 0, 0, 0, []),
  (78, .ireturn, 79, 0, 0, 0, 0, []),
  (79, .iconst 0, 80, 0, 0, 0, 0, []),
  (80, .istore 10, 82, 0, 0, 0, 0, []),
  (82, .iload 10, 84, 0, 0, 0, 0, []),
  (84, .iload 6, 86, 0, 0, 0, 0, []),
  (86, .if_icmp .ge 39, 89, 125, 0, 0, 0, []),
  (89, .aload_n 0, 90, 0, 0, 0, 0, []),
  (90, .getfield 16, 93, 9, 4, 0, 0, []),
  (93, .bipush 100, 95, 0, 0, 100, 0, []),
  (95, .iload 4, 97, 0, 0, 0, 0, []),
  (97, .imul, 98, 0, 0, 0, 0, []),
  (98, .iload 5, 100, 0, 0, 0, 0, []),
  (100, .iadd, 101, 0, 0, 0, 0, []),
  (101, .iload 10, 103, 0, 0, 0, 0, []),
  (103, .iadd, 104, 0, 0, 0, 0, []),
  (104, .iaload, 105, 0, 0, 0, 0, []),
  (105, .i2l, 106, 0, 0, 0, 0, []),
  (106, .lconst 0, 107, 0, 0, 0, 0, []),
  (107, .ldc2_w 153, 110, 0, 0, 0, 20, []),
  (110, .invokestatic 69, 113, 121, 3, 0, 0, []),
  (113, .ifCond .ne 6, 116, 119, 0, 0, 0, []),
  (116, .ldc 79, 118, 0, 0, (-1000001), 0, []),
  (118, .ireturn, 119, 0, 0, 0, 0, []),
  (119, .iinc 10 1, 122, 0, 0, 1, 0, []),
  (122, .goto (-40), 125, 82, 0, 0, 0, []),
  (125, .aload_n 0, 126, 0, 0, 0, 0, []),
  (126, .iconst 0, 127, 0, 0, 0, 0, []),
  (127, .putfield 63, 130, 9, 1, 0, 0, []),
  (130, .aload_n 0, 131, 0, 0, 0, 0, []),
  (131, .iload_n 1, 132, 0, 0, 0, 0, []),
  (132, .iload_n 2, 133, 0, 0, 0, 0, []),
  (133, .iload_n 3, 134, 0, 0, 0, 0, []),
  (134, .invokevirtual 149, 137, 148, 3, 0, 0, []),
  (137, .iconst 0, 138, 0, 0, 0, 0, []),
  (138, .istore 10, 140, 0, 0, 0, 0, []),
  (140, .iconst 0, 141, 0, 0, 0, 0, []),
  (141, .istore 11, 143, 0, 0, 0, 0, []),
  (143, .iload 11, 145, 0, 0, 0, 0, []),
  (145, .iload 6, 147, 0, 0, 0, 0, []),
  (147, .if_icmp .ge 78, 150, 225, 0, 0, 0, []),
  (150, .iconst 0, 151, 0, 0, 0, 0, []),
  (151, .istore 12, 153, 0, 0, 0, 0, []),
  (153, .iload 12, 155, 0, 0, 0, 0, []),
  (155, .aload_n 0, 156, 0, 0, 0, 0, []),
  (156, .getfield 16, 159, 9, 4, 0, 0, []),
  (159, .bipush 100, 161, 0, 0, 100, 0, []),
  (161, .iload 4, 163, 0, 0, 0, 0, []),
  (163, .imul, 164, 0, 0, 0, 0, []),
  (164, .iload 5, 166, 0, 0, 0, 0, []),
  (166, .iadd, 167, 0, 0, 0, 0, []),
  (167, .iload 11, 169, 0, 0, 0, 0, []),
  (169, .iadd, 170, 0, 0, 0, 0, []),
  (170, .iaload, 171, 0, 0, 0, 0, []),
  (171, .if_icmp .ge 48, 174, 219, 0, 0, 0, []),
  (174, .iload 10, 176, 0, 0, 0, 0, []),
  (176, .aload_n 0, 177, 0, 0, 0, 0, []),
  (177, .getfield 144, 180, 9, 14, 0, 0, []),
  (180, .if_icmp .ge 39, 183, 219, 0, 0, 0, []),
  (183, .aload_n 0, 184, 0, 0, 0, 0, []),
  (184, .getfield 44, 187, 9, 15, 0, 0, []),
  (187, .iload 10, 189, 0, 0, 0, 0, []),
  (189, .iaload, 190, 0, 0, 0, 0, []),
  (190, .iload 7, 192, 0, 0, 0, 0, []),
  (192, .if_icmp .ne 18, 195, 210, 0, 0, 0, []),
  (195, .aload_n 0, 196, 0, 0, 0, 0, []),
  (196, .getfield 47, 199, 9, 16, 0, 0, []),
  (199, .iload 10, 201, 0, 0, 0, 0, []),
  (201, .iaload, 202, 0, 0, 0, 0, []),
  (202, .iload 8, 204, 0, 0, 0, 0, []),
  (204, .if_icmp .ne 6, 207, 210, 0, 0, 0, []),
  (207, .iload 11, 209, 0, 0, 0, 0, []),
  (209, .ireturn, 210, 0, 0, 0, 0, []),
  (210, .iinc 10 1, 213, 0, 0, 1, 0, []),
  (213, .iinc 12 1, 216, 0, 0, 1, 0, []),
  (216, .goto (-63), 219, 153, 0, 0, 0, []),
  (219, .iinc 11 1, 222, 0, 0, 1, 0, []),
  (222, .goto (-79), 225, 143, 0, 0, 0, []),
  (225, .ldc 108, 227, 0, 0, (-1000000), 0, []),
  (227, .ireturn, 228, 0, 0, 0, 0, [])]
noncomputable def t_Mo_storm : List En := [
  (0, .aload_n 0, 1, 0, 0, 0, 0, []),
  (1, .iconst 0, 2, 0, 0, 0, 0, []),
  (2, .putfield 59, 5, 9, 0, 0, 0, []),
  (5, .iload_n 1, 6, 0, 0, 0, 0, []),
  (6, .invokestatic 73, 9, 120, 1, 0, 0, []),
  (9, .ifCond .eq 26, 12, 35, 0, 0, 0, []),
  (12, .iload_n 3, 13, 0, 0, 0, 0, []),
  (13, .i2l, 14, 0, 0, 0, 0, []),
  (14, .lconst 1, 15, 0, 0, 0, 1, []),
  (15, .ldc2_w 157, 18, 0, 0, 0, 48, []),
  (18, .invokestatic 69, 21, 121, 3, 0, 0, []),
  (21, .ifCond .eq 14, 24, 35, 0, 0, 0, []),
  (24, .iload 4, 26, 0, 0, 0, 0, []),
  (26, .i2l, 27, 0, 0, 0, 0, []),
  (27, .lconst 0, 28, 0, 0, 0, 0, []),
  (28, .lconst 1, 29, 0, 0, 0, 1, []),
  (29, .invokestatic 69, 32, 121, 3, 0, 0, []),
  (32, .ifCond .ne 6, 35, 38, 0, 0, 0, []),
  (35, .ldc 79, 37, 0, 0, (-1000001), 0, []),
  (37, .ireturn, 38, 0, 0, 0, 0, []),
  (38, .aload_n 0, 39, 0, 0, 0, 0, []),
  (39, .iload_n 1, 40, 0, 0, 0, 0, []),
  (40, .iload_n 2, 41, 0, 0, 0, 0, []),
  (41, .iload_n 3, 42, 0, 0, 0, 0, []),
  (42, .invokevirtual 159, 45, 151, 3, 0, 0, []),
  (45, .istore 5, 47, 0, 0, 0, 0, []),
  (47, .iload 5, 49, 0, 0, 0, 0, []),
  (49, .ifCond .ge 6, 52, 55, 0, 0, 0, []),
  (52, .iload 5, 54, 0, 0, 0, 0, []),
  (54, .ireturn, 55, 0, 0, 0, 0, []),
  (55, .bipush 100, 57, 0, 0, 100, 0, []),
  (57, .iload_n 1, 58, 0, 0, 0, 0, []),
  (58, .imul, 59, 0, 0, 0, 0, []),
  (59, .iload_n 2, 60, 0, 0, 0, 0, []),
  (60, .iadd, 61, 0, 0, 0, 0, []),
  (61, .istore 6, 63, 0, 0, 0, 0, []),
  (63, .iload 4, 65, 0, 0, 0, 0, []),
  (65, .ifCond .ne 33, 68, 98, 0, 0, 0, []),
  (68, .aload_n 0, 69, 0, 0, 0, 0, []),
  (69, .iload 6, 71, 0, 0, 0, 0, []),
  (71, .iload_n 3, 72, 0, 0, 0, 0, []),
  (72, .aload_n 0, 73, 0, 0, 0, 0, []),
  (73, .getfield 90, 76, 9, 6, 0, 0, []),
  (76, .ifCond .ne 7, 79, 83, 0, 0, 0, []),
  (79, .iconst 1, 80, 0, 0, 1, 0, []),
  (80, .goto 12, 83, 92, 0, 0, 0, []),
  (83, .aload_n 0, 84, 0, 0, 0, 0, []),
  (84, .getfield 25, 87, 9, 8, 0, 0, []),
  (87, .iconst 0, 88, 0, 0, 0, 0, []),
  (88, .iaload, 89, 0, 0, 0, 0, []),
  (89, .invokestatic 162, 92, 152, 1, 0, 0, []),
  (92, .invokevirtual 165, 95, 153, 3, 0, 0, []),
  (95, .goto 16, 98, 111, 0, 0, 0, []),
  (98, .aload_n 0, 99, 0, 0, 0, 0, []),
  (99, .iload 6, 101, 0, 0, 0, 0, []),
  (101, .iload_n 3, 102, 0, 0, 0, 0, []),
  (102, .aload_n 0, 103, 0, 0, 0, 0, []),
  (103, .getfield 19, 106, 9, 5, 0, 0, []),
  (106, .iconst 0, 107, 0, 0, 0, 0, []),
  (107, .iaload, 108, 0, 0, 0, 0, []),
  (108, .invokevirtual 168, 111, 154, 3, 0, 0, []),
  (111, .ireturn, 112, 0, 0, 0, 0, [])]
noncomputable def t_Mo_lookStorm : List En := [
  (0, .aload_n 0, 1, 0, 0, 0, 0, []),
  (1, .iload_n 1, 2, 0, 0, 0, 0, []),
  (2, .iload_n 2, 3, 0, 0, 0, 0, []),
  (3, .iconst 2, 4, 0, 0, 2, 0, []),
  (4, .iload_n 3, 5, 0, 0, 0, 0, []),
  (5, .imul, 6, 0, 0, 0, 0, []),
  (6, .invokevirtual 111, 9, 137, 3, 0, 0, []),
  (9, .istore 4, 11, 0, 0, 0, 0, []),
  (11, .iconst 0, 12, 0, 0, 0, 0, []),
  (12, .istore 5, 14, 0, 0, 0, 0, []),
  (14, .iload 5, 16, 0, 0, 0, 0, []),
  (16, .iload_n 3, 17, 0, 0, 0, 0, []),
  (17, .if_icmp .ge 73, 20, 90, 0, 0, 0, []),
  (20, .iload 4, 22, 0, 0, 0, 0, []),
  (22, .ifCond .ne 68, 25, 90, 0, 0, 0, []),
  (25, .bipush 100, 27, 0, 0, 100, 0, []),
  (27, .iload_n 1, 28, 0, 0, 0, 0, []),
  (28, .imul, 29, 0, 0, 0, 0, []),
  (29, .iload_n 2, 30, 0, 0, 0, 0, []),
  (30, .iadd, 31, 0, 0, 0, 0, []),
  (31, .iconst 2, 32, 0, 0, 2, 0, []),
  (32, .iload 5, 34, 0, 0, 0, 0, []),
  (34, .imul, 35, 0, 0, 0, 0, []),
  (35, .iadd, 36, 0, 0, 0, 0, []),
  (36, .istore 6, 38, 0, 0, 0, 0, []),
  (38, .aload_n 0, 39, 0, 0, 0, 0, []),
  (39, .getfield 16, 42, 9, 4, 0, 0, []),
  (42, .iload 6, 44, 0, 0, 0, 0, []),
  (44, .iaload, 45, 0, 0, 0, 0, []),
  (45, .i2l, 46, 0, 0, 0, 0, []),
  (46, .lconst 0, 47, 0, 0, 0, 0, []),
  (47, .ldc2_w 155, 50, 0, 0, 0, 200, []),
  (50, .invokestatic 69, 53, 121, 3, 0, 0, []),
  (53, .ifCond .eq 27, 56, 80, 0, 0, 0, []),
  (56, .aload_n 0, 57, 0, 0, 0, 0, []),
  (57, .getfield 16, 60, 9, 4, 0, 0, []),
  (60, .iload 6, 62, 0, 0, 0, 0, []),
  (62, .iconst 1, 63, 0, 0, 1, 0, []),
  (63, .iadd, 64, 0, 0, 0, 0, []),
  (64, .iaload, 65, 0, 0, 0, 0, []),
  (65, .i2l, 66, 0, 0, 0, 0, []),
  (66, .lconst 0, 67, 0, 0, 0, 0, []),
  (67, .ldc2_w 115, 70, 0, 0, 0, 100, []),
  (70, .invokestatic 69, 73, 121, 3, 0, 0, []),
  (73, .ifCond .eq 7, 76, 80, 0, 0, 0, []),
  (76, .iconst 0, 77, 0, 0, 0, 0, []),
  (77, .goto 5, 80, 82, 0, 0, 0, []),
  (80, .ldc 79, 82, 0, 0, (-1000001), 0, []),
  (82, .istore 4, 84, 0, 0, 0, 0, []),
  (84, .iinc 5 1, 87, 0, 0, 1, 0, []),
  (87, .goto (-73), 90, 14, 0, 0, 0, []),
  (90, .aload_n 0, 91, 0, 0, 0, 0, []),
  (91, .iload 4, 93, 0, 0, 0, 0, []),
  (93, .ifCond .ne 7, 96, 100, 0, 0, 0, []),
  (96, .iconst 0, 97, 0, 0, 0, 0, []),
  (97, .goto 7, 100, 104, 0, 0, 0, []),
  (100, .aload_n 0, 101, 0, 0, 0, 0, []),
  (101, .getfield 63, 104, 9, 1, 0, 0, []),
  (104, .putfield 63, 107, 9, 1, 0, 0, []),
  (107, .iload 4, 109, 0, 0, 0, 0, []),
  (109, .ireturn, 110, 0, 0, 0, 0, [])]
noncomputable def t_Mo_root : List En := [
  (0, .iconst 1, 1, 0, 0, 1, 0, []),
  (1, .istore_n 1, 2, 0, 0, 0, 0, []),
  (2, .iload_n 1, 3, 0, 0, 0, 0, []),
  (3, .iload_n 1, 4, 0, 0, 0, 0, []),
  (4, .imul, 5, 0, 0, 0, 0, []),
  (5, .iload_n 1, 6, 0, 0, 0, 0, []),
  (6, .imul, 7, 0, 0, 0, 0, []),
  (7, .iload_n 0, 8, 0, 0, 0, 0, []),
  (8, .if_icmp .ge 9, 11, 17, 0, 0, 0, []),
  (11, .iinc 1 1, 14, 0, 0, 1, 0, []),
  (14, .goto (-12), 17, 2, 0, 0, 0, []),
  (17, .iload_n 1, 18, 0, 0, 0, 0, []),
  (18, .ireturn, 19, 0, 0, 0, 0, [])]
noncomputable def t_Mo_harmBy : List En := [
  (0, .iconst 0, 1, 0, 0, 0, 0, []),
  (1, .istore 4, 3, 0, 0, 0, 0, []),
  (3, .iconst 0, 4, 0, 0, 0, 0, []),
  (4, .istore 5, 6, 0, 0, 0, 0, []),
  (6, .iload 5, 8, 0, 0, 0, 0, []),
  (8, .iload_n 2, 9, 0, 0, 0, 0, []),
  (9, .if_icmp .ge 67, 12, 76, 0, 0, 0, []),
  (12, .aload_n 0, 13, 0, 0, 0, 0, []),
  (13, .getfield 16, 16, 9, 4, 0, 0, []),
  (16, .iload_n 1, 17, 0, 0, 0, 0, []),
  (17, .iconst 2, 18, 0, 0, 2, 0, []),
  (18, .iload 5, 20, 0, 0, 0, 0, []),
  (20, .imul, 21, 0, 0, 0, 0, []),
  (21, .iadd, 22, 0, 0, 0, 0, []),
  (22, .iaload, 23, 0, 0, 0, 0, []),
  (23, .bipush 100, 25, 0, 0, 100, 0, []),
  (25, .imul, 26, 0, 0, 0, 0, []),
  (26, .iload_n 3, 27, 0, 0, 0, 0, []),
  (27, .aload_n 0, 28, 0, 0, 0, 0, []),
  (28, .getfield 19, 31, 9, 5, 0, 0, []),
  (31, .iconst 2, 32, 0, 0, 2, 0, []),
  (32, .iaload, 33, 0, 0, 0, 0, []),
  (33, .imul, 34, 0, 0, 0, 0, []),
  (34, .bipush 10, 36, 0, 0, 10, 0, []),
  (36, .iadd, 37, 0, 0, 0, 0, []),
  (37, .idiv, 38, 0, 0, 0, 0, []),
  (38, .istore 6, 40, 0, 0, 0, 0, []),
  (40, .iload 4, 42, 0, 0, 0, 0, []),
  (42, .iload 6, 44, 0, 0, 0, 0, []),
  (44, .bipush 30, 46, 0, 0, 30, 0, []),
  (46, .if_icmp .le 20, 49, 66, 0, 0, 0, []),
  (49, .iload 6, 51, 0, 0, 0, 0, []),
  (51, .bipush 30, 53, 0, 0, 30, 0, []),
  (53, .isub, 54, 0, 0, 0, 0, []),
  (54, .iload 6, 56, 0, 0, 0, 0, []),
  (56, .bipush 30, 58, 0, 0, 30, 0, []),
  (58, .isub, 59, 0, 0, 0, 0, []),
  (59, .imul, 60, 0, 0, 0, 0, []),
  (60, .bipush 10, 62, 0, 0, 10, 0, []),
  (62, .idiv, 63, 0, 0, 0, 0, []),
  (63, .goto 4, 66, 67, 0, 0, 0, []),
  (66, .iconst 0, 67, 0, 0, 0, 0, []),
  (67, .iadd, 68, 0, 0, 0, 0, []),
  (68, .istore 4, 70, 0, 0, 0, 0, []),
  (70, .iinc 5 1, 73, 0, 0, 1, 0, []),
  (73, .goto (-67), 76, 6, 0, 0, 0, []),
  (76, .iload 4, 78, 0, 0, 0, 0, []),
  (78, .ireturn, 79, 0, 0, 0, 0, [])]
noncomputable def t_Mo_overBy : List En := [
  (0, .iconst 0, 1, 0, 0, 0, 0, []),
  (1, .istore 4, 3, 0, 0, 0, 0, []),
  (3, .iconst 0, 4, 0, 0, 0, 0, []),
  (4, .istore 5, 6, 0, 0, 0, 0, []),
  (6, .iload 5, 8, 0, 0, 0, 0, []),
  (8, .iload_n 2, 9, 0, 0, 0, 0, []),
  (9, .if_icmp .ge 65, 12, 74, 0, 0, 0, []),
  (12, .iconst 2, 13, 0, 0, 2, 0, []),
  (13, .aload_n 0, 14, 0, 0, 0, 0, []),
  (14, .getfield 16, 17, 9, 4, 0, 0, []),
  (17, .iload_n 1, 18, 0, 0, 0, 0, []),
  (18, .iconst 2, 19, 0, 0, 2, 0, []),
  (19, .iload 5, 21, 0, 0, 0, 0, []),
  (21, .imul, 22, 0, 0, 0, 0, []),
  (22, .iadd, 23, 0, 0, 0, 0, []),
  (23, .iaload, 24, 0, 0, 0, 0, []),
  (24, .imul, 25, 0, 0, 0, 0, []),
  (25, .bipush 10, 27, 0, 0, 10, 0, []),
  (27, .iload_n 3, 28, 0, 0, 0, 0, []),
  (28, .aload_n 0, 29, 0, 0, 0, 0, []),
  (29, .getfield 16, 32, 9, 4, 0, 0, []),
  (32, .iload_n 1, 33, 0, 0, 0, 0, []),
  (33, .iconst 2, 34, 0, 0, 2, 0, []),
  (34, .iload 5, 36, 0, 0, 0, 0, []),
  (36, .imul, 37, 0, 0, 0, 0, []),
  (37, .iadd, 38, 0, 0, 0, 0, []),
  (38, .iconst 1, 39, 0, 0, 1, 0, []),
  (39, .iadd, 40, 0, 0, 0, 0, []),
  (40, .iaload, 41, 0, 0, 0, 0, []),
  (41, .isub, 42, 0, 0, 0, 0, []),
  (42, .imul, 43, 0, 0, 0, 0, []),
  (43, .isub, 44, 0, 0, 0, 0, []),
  (44, .istore 6, 46, 0, 0, 0, 0, []),
  (46, .iload 4, 48, 0, 0, 0, 0, []),
  (48, .iload 6, 50, 0, 0, 0, 0, []),
  (50, .ifCond .le 14, 53, 64, 0, 0, 0, []),
  (53, .iload 6, 55, 0, 0, 0, 0, []),
  (55, .iload 6, 57, 0, 0, 0, 0, []),
  (57, .imul, 58, 0, 0, 0, 0, []),
  (58, .bipush 100, 60, 0, 0, 100, 0, []),
  (60, .idiv, 61, 0, 0, 0, 0, []),
  (61, .goto 4, 64, 65, 0, 0, 0, []),
  (64, .iconst 0, 65, 0, 0, 0, 0, []),
  (65, .iadd, 66, 0, 0, 0, 0, []),
  (66, .istore 4, 68, 0, 0, 0, 0, []),
  (68, .iinc 5 1, 71, 0, 0, 1, 0, []),
  (71, .goto (-65), 74, 6, 0, 0, 0, []),
  (74, .iload 4, 76, 0, 0, 0, 0, []),
  (76, .ireturn, 77, 0, 0, 0, 0, [])]
noncomputable def t_Mo_design_0 : List En := [
  (0, .aload_n 0, 1, 0, 0, 0, 0, []),
  (1, .iconst 0, 2, 0, 0, 0, 0, []),
  (2, .putfield 59, 5, 9, 0, 0, 0, []),
  (5, .iload_n 1, 6, 0, 0, 0, 0, []),
  (6, .invokestatic 73, 9, 120, 1, 0, 0, []),
  (9, .ifCond .eq 54, 12, 63, 0, 0, 0, []),
  (12, .iload_n 3, 13, 0, 0, 0, 0, []),
  (13, .i2l, 14, 0, 0, 0, 0, []),
  (14, .lconst 1, 15, 0, 0, 0, 1, []),
  (15, .ldc2_w 157, 18, 0, 0, 0, 48, []),
  (18, .invokestatic 69, 21, 121, 3, 0, 0, []),
  (21, .ifCond .eq 42, 24, 63, 0, 0, 0, []),
  (24, .iload 4, 26, 0, 0, 0, 0, []),
  (26, .i2l, 27, 0, 0, 0, 0, []),
  (27, .lconst 0, 28, 0, 0, 0, 0, []),
  (28, .ldc2_w 171, 31, 0, 0, 0, 1000000, []),
  (31, .invokestatic 69, 34, 121, 3, 0, 0, []),
  (34, .ifCond .eq 29, 37, 63, 0, 0, 0, []),
  (37, .iload 5, 39, 0, 0, 0, 0, []),
  (39, .i2l, 40, 0, 0, 0, 0, []),
  (40, .lconst 0, 41, 0, 0, 0, 0, []),
  (41, .ldc2_w 171, 44, 0, 0, 0, 1000000, []),
  (44, .invokestatic 69, 47, 121, 3, 0, 0, []),
  (47, .ifCond .eq 16, 50, 63, 0, 0, 0, []),
  (50, .iload 6, 52, 0, 0, 0, 0, []),
  (52, .i2l, 53, 0, 0, 0, 0, []),
  (53, .lconst 0, 54, 0, 0, 0, 0, []),
  (54, .ldc2_w 77, 57, 0, 0, 0, 2, []),
  (57, .invokestatic 69, 60, 121, 3, 0, 0, []),
  (60, .ifCond .ne 6, 63, 66, 0, 0, 0, []),
  (63, .ldc 79, 65, 0, 0, (-1000001), 0, []),
  (65, .ireturn, 66, 0, 0, 0, 0, []),
  (66, .aload_n 0, 67, 0, 0, 0, 0, []),
  (67, .iload_n 1, 68, 0, 0, 0, 0, []),
  (68, .iload_n 2, 69, 0, 0, 0, 0, []),
  (69, .iload_n 3, 70, 0, 0, 0, 0, []),
  (70, .invokevirtual 159, 73, 151, 3, 0, 0, []),
  (73, .istore 7, 75, 0, 0, 0, 0, []),
  (75, .iload 7, 77, 0, 0, 0, 0, []),
  (77, .ifCond .ge 6, 80, 83, 0, 0, 0, []),
  (80, .iload 7, 82, 0, 0, 0, 0, []),
  (82, .ireturn, 83, 0, 0, 0, 0, []),
  (83, .bipush 100, 85, 0, 0, 100, 0, []),
  (85, .iload_n 1, 86, 0, 0, 0, 0, []),
  (86, .imul, 87, 0, 0, 0, 0, []),
  (87, .iload_n 2, 88, 0, 0, 0, 0, []),
  (88, .iadd, 89, 0, 0, 0, 0, []),
  (89, .istore 8, 91, 0, 0, 0, 0, []),
  (91, .ldc 108, 93, 0, 0, (-1000000), 0, []),
  (93, .istore 9, 95, 0, 0, 0, 0, []),
  (95, .iconst 0, 96, 0, 0, 0, 0, []),
  (96, .istore 10, 98, 0, 0, 0, 0, []),
  (98, .iconst 0, 99, 0, 0, 0, 0, []),
  (99, .istore 11, 101, 0, 0, 0, 0, []),
  (101, .iconst 1, 102, 0, 0, 1, 0, []),
  (102, .istore 12, 104, 0, 0, 0, 0, []),
  (104, .iload 12, 106, 0, 0, 0, 0, []),
  (106, .bipush 101, 108, 0, 0, 101, 0, []),
  (108, .if_icmp .ge 117, 111, 225, 0, 0, 0, []),
  (111, .aload_n 0, 112, 0, 0, 0, 0, []),
  (112, .iload 8, 114, 0, 0, 0, 0, []),
  (114, .iload_n 3, 115, 0, 0, 0, 0, []),
  (115, .iload 12, 117, 0, 0, 0, 0, []),
  (117, .invokevirtual 168, 120, 154, 3, 0, 0, []),
  (120, .iload 5, 122, 0, 0, 0, 0, []),
  (122, .if_icmp .gt 7, 125, 129, 0, 0, 0, []),
  (125, .iconst 1, 126, 0, 0, 1, 0, []),
  (126, .goto 4, 129, 130, 0, 0, 0, []),
  (129, .iconst 0, 130, 0, 0, 0, 0, []),
  (130, .istore 13, 132, 0, 0, 0, 0, []),
  (132, .iconst 1, 133, 0, 0, 1, 0, []),
  (133, .istore 14, 135, 0, 0, 0, 0, []),
  (135, .iload 14, 137, 0, 0, 0, 0, []),
  (137, .bipush 40, 139, 0, 0, 40, 0, []),
  (139, .if_icmp .ge 80, 142, 219, 0, 0, 0, []),
  (142, .iload 13, 144, 0, 0, 0, 0, []),
  (144, .ifCond .eq 75, 147, 219, 0, 0, 0, []),
  (147, .iload 12, 149, 0, 0, 0, 0, []),
  (149, .iload 12, 151, 0, 0, 0, 0, []),
  (151, .imul, 152, 0, 0, 0, 0, []),
  (152, .aload_n 0, 153, 0, 0, 0, 0, []),
  (153, .getfield 19, 156, 9, 5, 0, 0, []),
  (156, .iconst 2, 157, 0, 0, 2, 0, []),
  (157, .iaload, 158, 0, 0, 0, 0, []),
  (158, .imul, 159, 0, 0, 0, 0, []),
  (159, .iload 14, 161, 0, 0, 0, 0, []),
  (161, .iload 14, 163, 0, 0, 0, 0, []),
  (163, .imul, 164, 0, 0, 0, 0, []),
  (164, .iload 14, 166, 0, 0, 0, 0, []),
  (166, .imul, 167, 0, 0, 0, 0, []),
  (167, .bipush 10, 169, 0, 0, 10, 0, []),
  (169, .idiv, 170, 0, 0, 0, 0, []),
  (170, .iadd, 171, 0, 0, 0, 0, []),
  (171, .istore 15, 173, 0, 0, 0, 0, []),
  (173, .aload_n 0, 174, 0, 0, 0, 0, []),
  (174, .iload 8, 176, 0, 0, 0, 0, []),
  (176, .iload_n 3, 177, 0, 0, 0, 0, []),
  (177, .iload 14, 179, 0, 0, 0, 0, []),
  (179, .invokevirtual 165, 182, 153, 3, 0, 0, []),
  (182, .iload 4, 184, 0, 0, 0, 0, []),
  (184, .if_icmp .gt 29, 187, 213, 0, 0, 0, []),
  (187, .iload 9, 189, 0, 0, 0, 0, []),
  (189, .ldc 108, 191, 0, 0, (-1000000), 0, []),
  (191, .if_icmp .eq 10, 194, 201, 0, 0, 0, []),
  (194, .iload 15, 196, 0, 0, 0, 0, []),
  (196, .iload 9, 198, 0, 0, 0, 0, []),
  (198, .if_icmp .ge 15, 201, 213, 0, 0, 0, []),
  (201, .iload 15, 203, 0, 0, 0, 0, []),
  (203, .istore 9, 205, 0, 0, 0, 0, []),
  (205, .iload 12, 207, 0, 0, 0, 0, []),
  (207, .istore 10, 209, 0, 0, 0, 0, []),
  (209, .iload 14, 211, 0, 0, 0, 0, []),
  (211, .istore 11, 213, 0, 0, 0, 0, []),
  (213, .iinc 14 1, 216, 0, 0, 1, 0, []),
  (216, .goto (-81), 219, 135, 0, 0, 0, []),
  (219, .iinc 12 1, 222, 0, 0, 1, 0, []),
  (222, .goto (-118), 225, 104, 0, 0, 0, []),
  (225, .iload 9, 227, 0, 0, 0, 0, []),
  (227, .ldc 108, 229, 0, 0, (-1000000), 0, []),
  (229, .if_icmp .ne 8, 232, 237, 0, 0, 0, [])]
noncomputable def t_Mo_design_1 : List En := [
  (232, .ldc 108, 234, 0, 0, (-1000000), 0, []),
  (234, .goto 32, 237, 266, 0, 0, 0, []),
  (237, .iload 6, 239, 0, 0, 0, 0, []),
  (239, .ifCond .ne 8, 242, 247, 0, 0, 0, []),
  (242, .iload 10, 244, 0, 0, 0, 0, []),
  (244, .goto 22, 247, 266, 0, 0, 0, []),
  (247, .iload 6, 249, 0, 0, 0, 0, []),
  (249, .iconst 1, 250, 0, 0, 1, 0, []),
  (250, .if_icmp .ne 14, 253, 264, 0, 0, 0, []),
  (253, .iload 11, 255, 0, 0, 0, 0, []),
  (255, .iload 11, 257, 0, 0, 0, 0, []),
  (257, .imul, 258, 0, 0, 0, 0, []),
  (258, .iload 11, 260, 0, 0, 0, 0, []),
  (260, .imul, 261, 0, 0, 0, 0, []),
  (261, .goto 5, 264, 266, 0, 0, 0, []),
  (264, .iload 9, 266, 0, 0, 0, 0, []),
  (266, .ireturn, 267, 0, 0, 0, 0, [])]
noncomputable def t_Mo_design : List En := t_Mo_design_0 ++ (t_Mo_design_1)
noncomputable def t_Mo_survey_0 : List En := [
  (0, .aload_n 0, 1, 0, 0, 0, 0, []),
  (1, .iconst 0, 2, 0, 0, 0, 0, []),
  (2, .putfield 59, 5, 9, 0, 0, 0, []),
  (5, .iload_n 1, 6, 0, 0, 0, 0, []),
  (6, .invokestatic 73, 9, 120, 1, 0, 0, []),
  (9, .ifCond .eq 61, 12, 70, 0, 0, 0, []),
  (12, .iload_n 2, 13, 0, 0, 0, 0, []),
  (13, .invokestatic 73, 16, 120, 1, 0, 0, []),
  (16, .ifCond .eq 54, 19, 70, 0, 0, 0, []),
  (19, .iload_n 3, 20, 0, 0, 0, 0, []),
  (20, .i2l, 21, 0, 0, 0, 0, []),
  (21, .lconst 1, 22, 0, 0, 0, 1, []),
  (22, .ldc2_w 86, 25, 0, 0, 0, 10, []),
  (25, .invokestatic 69, 28, 121, 3, 0, 0, []),
  (28, .ifCond .eq 42, 31, 70, 0, 0, 0, []),
  (31, .iload 4, 33, 0, 0, 0, 0, []),
  (33, .i2l, 34, 0, 0, 0, 0, []),
  (34, .lconst 1, 35, 0, 0, 0, 1, []),
  (35, .ldc2_w 86, 38, 0, 0, 0, 10, []),
  (38, .invokestatic 69, 41, 121, 3, 0, 0, []),
  (41, .ifCond .eq 29, 44, 70, 0, 0, 0, []),
  (44, .iload 5, 46, 0, 0, 0, 0, []),
  (46, .i2l, 47, 0, 0, 0, 0, []),
  (47, .lconst 1, 48, 0, 0, 0, 1, []),
  (48, .ldc2_w 173, 51, 0, 0, 0, 1000, []),
  (51, .invokestatic 69, 54, 121, 3, 0, 0, []),
  (54, .ifCond .eq 16, 57, 70, 0, 0, 0, []),
  (57, .iload 6, 59, 0, 0, 0, 0, []),
  (59, .i2l, 60, 0, 0, 0, 0, []),
  (60, .lconst 0, 61, 0, 0, 0, 0, []),
  (61, .ldc2_w 109, 64, 0, 0, 0, 3, []),
  (64, .invokestatic 69, 67, 121, 3, 0, 0, []),
  (67, .ifCond .ne 6, 70, 73, 0, 0, 0, []),
  (70, .ldc 79, 72, 0, 0, (-1000001), 0, []),
  (72, .ireturn, 73, 0, 0, 0, 0, []),
  (73, .aload_n 0, 74, 0, 0, 0, 0, []),
  (74, .iconst 0, 75, 0, 0, 0, 0, []),
  (75, .putfield 63, 78, 9, 1, 0, 0, []),
  (78, .aload_n 0, 79, 0, 0, 0, 0, []),
  (79, .getfield 7, 82, 9, 2, 0, 0, []),
  (82, .iload_n 1, 83, 0, 0, 0, 0, []),
  (83, .iaload, 84, 0, 0, 0, 0, []),
  (84, .ifCond .lt 12, 87, 96, 0, 0, 0, []),
  (87, .aload_n 0, 88, 0, 0, 0, 0, []),
  (88, .getfield 7, 91, 9, 2, 0, 0, []),
  (91, .iload_n 2, 92, 0, 0, 0, 0, []),
  (92, .iaload, 93, 0, 0, 0, 0, []),
  (93, .ifCond .ge 9, 96, 102, 0, 0, 0, []),
  (96, .aload_n 0, 97, 0, 0, 0, 0, []),
  (97, .iconst 1, 98, 0, 0, 1, 0, []),
  (98, .invokevirtual 80, 101, 122, 1, 0, 0, []),
  (101, .ireturn, 102, 0, 0, 0, 0, []),
  (102, .iload_n 3, 103, 0, 0, 0, 0, []),
  (103, .iload 4, 105, 0, 0, 0, 0, []),
  (105, .imul, 106, 0, 0, 0, 0, []),
  (106, .aload_n 0, 107, 0, 0, 0, 0, []),
  (107, .getfield 13, 110, 9, 3, 0, 0, []),
  (110, .iload_n 1, 111, 0, 0, 0, 0, []),
  (111, .iaload, 112, 0, 0, 0, 0, []),
  (112, .if_icmp .gt 16, 115, 128, 0, 0, 0, []),
  (115, .iload_n 3, 116, 0, 0, 0, 0, []),
  (116, .iload 4, 118, 0, 0, 0, 0, []),
  (118, .imul, 119, 0, 0, 0, 0, []),
  (119, .aload_n 0, 120, 0, 0, 0, 0, []),
  (120, .getfield 13, 123, 9, 3, 0, 0, []),
  (123, .iload_n 2, 124, 0, 0, 0, 0, []),
  (124, .iaload, 125, 0, 0, 0, 0, []),
  (125, .if_icmp .le 9, 128, 134, 0, 0, 0, []),
  (128, .aload_n 0, 129, 0, 0, 0, 0, []),
  (129, .iconst 2, 130, 0, 0, 2, 0, []),
  (130, .invokevirtual 80, 133, 122, 1, 0, 0, []),
  (133, .ireturn, 134, 0, 0, 0, 0, []),
  (134, .iconst 0, 135, 0, 0, 0, 0, []),
  (135, .istore 7, 137, 0, 0, 0, 0, []),
  (137, .iconst 0, 138, 0, 0, 0, 0, []),
  (138, .istore 8, 140, 0, 0, 0, 0, []),
  (140, .iconst 0, 141, 0, 0, 0, 0, []),
  (141, .istore 9, 143, 0, 0, 0, 0, []),
  (143, .iload 9, 145, 0, 0, 0, 0, []),
  (145, .iload_n 3, 146, 0, 0, 0, 0, []),
  (146, .iload 4, 148, 0, 0, 0, 0, []),
  (148, .imul, 149, 0, 0, 0, 0, []),
  (149, .if_icmp .ge 99, 152, 248, 0, 0, 0, []),
  (152, .aload_n 0, 153, 0, 0, 0, 0, []),
  (153, .getfield 16, 156, 9, 4, 0, 0, []),
  (156, .bipush 100, 158, 0, 0, 100, 0, []),
  (158, .iload_n 2, 159, 0, 0, 0, 0, []),
  (159, .imul, 160, 0, 0, 0, 0, []),
  (160, .iload 9, 162, 0, 0, 0, 0, []),
  (162, .iadd, 163, 0, 0, 0, 0, []),
  (163, .iaload, 164, 0, 0, 0, 0, []),
  (164, .i2l, 165, 0, 0, 0, 0, []),
  (165, .aload_n 0, 166, 0, 0, 0, 0, []),
  (166, .getfield 16, 169, 9, 4, 0, 0, []),
  (169, .bipush 100, 171, 0, 0, 100, 0, []),
  (171, .iload_n 1, 172, 0, 0, 0, 0, []),
  (172, .imul, 173, 0, 0, 0, 0, []),
  (173, .iload 9, 175, 0, 0, 0, 0, []),
  (175, .iadd, 176, 0, 0, 0, 0, []),
  (176, .iaload, 177, 0, 0, 0, 0, []),
  (177, .i2l, 178, 0, 0, 0, 0, []),
  (178, .lsub, 179, 0, 0, 0, 0, []),
  (179, .lstore 10, 181, 0, 0, 0, 0, []),
  (181, .aload_n 0, 182, 0, 0, 0, 0, []),
  (182, .getfield 53, 185, 9, 18, 0, 0, []),
  (185, .iload 9, 187, 0, 0, 0, 0, []),
  (187, .lload 10, 189, 0, 0, 0, 0, []),
  (189, .iload 5, 191, 0, 0, 0, 0, []),
  (191, .ineg, 192, 0, 0, 0, 0, []),
  (192, .i2l, 193, 0, 0, 0, 0, []),
  (193, .lcmp, 194, 0, 0, 0, 0, []),
  (194, .ifCond .gt 7, 197, 201, 0, 0, 0, []),
  (197, .iconst 0, 198, 0, 0, 0, 0, []),
  (198, .goto 4, 201, 202, 0, 0, 0, []),
  (201, .iconst (-1), 202, 0, 0, (-1), 0, []),
  (202, .iastore, 203, 0, 0, 0, 0, []),
  (203, .iload 7, 205, 0, 0, 0, 0, []),
  (205, .lload 10, 207, 0, 0, 0, 0, []),
  (207, .iload 5, 209, 0, 0, 0, 0, []),
  (209, .ineg, 210, 0, 0, 0, 0, [])]
noncomputable def t_Mo_survey_1 : List En := [
  (210, .i2l, 211, 0, 0, 0, 0, []),
  (211, .lcmp, 212, 0, 0, 0, 0, []),
  (212, .ifCond .gt 7, 215, 219, 0, 0, 0, []),
  (215, .iconst 1, 216, 0, 0, 1, 0, []),
  (216, .goto 4, 219, 220, 0, 0, 0, []),
  (219, .iconst 0, 220, 0, 0, 0, 0, []),
  (220, .iadd, 221, 0, 0, 0, 0, []),
  (221, .istore 7, 223, 0, 0, 0, 0, []),
  (223, .iload 8, 225, 0, 0, 0, 0, []),
  (225, .lload 10, 227, 0, 0, 0, 0, []),
  (227, .iload 5, 229, 0, 0, 0, 0, []),
  (229, .i2l, 230, 0, 0, 0, 0, []),
  (230, .lcmp, 231, 0, 0, 0, 0, []),
  (231, .ifCond .lt 7, 234, 238, 0, 0, 0, []),
  (234, .iconst 1, 235, 0, 0, 1, 0, []),
  (235, .goto 4, 238, 239, 0, 0, 0, []),
  (238, .iconst 0, 239, 0, 0, 0, 0, []),
  (239, .iadd, 240, 0, 0, 0, 0, []),
  (240, .istore 8, 242, 0, 0, 0, 0, []),
  (242, .iinc 9 1, 245, 0, 0, 1, 0, []),
  (245, .goto (-102), 248, 143, 0, 0, 0, []),
  (248, .iconst 0, 249, 0, 0, 0, 0, []),
  (249, .istore 9, 251, 0, 0, 0, 0, []),
  (251, .iconst 0, 252, 0, 0, 0, 0, []),
  (252, .istore 10, 254, 0, 0, 0, 0, []),
  (254, .iconst 0, 255, 0, 0, 0, 0, []),
  (255, .istore 11, 257, 0, 0, 0, 0, []),
  (257, .iload 11, 259, 0, 0, 0, 0, []),
  (259, .iload_n 3, 260, 0, 0, 0, 0, []),
  (260, .iload 4, 262, 0, 0, 0, 0, []),
  (262, .imul, 263, 0, 0, 0, 0, []),
  (263, .if_icmp .ge 209, 266, 472, 0, 0, 0, []),
  (266, .aload_n 0, 267, 0, 0, 0, 0, []),
  (267, .getfield 53, 270, 9, 18, 0, 0, []),
  (270, .iload 11, 272, 0, 0, 0, 0, []),
  (272, .iaload, 273, 0, 0, 0, 0, []),
  (273, .ifCond .ne 193, 276, 466, 0, 0, 0, []),
  (276, .iinc 9 1, 279, 0, 0, 1, 0, []),
  (279, .aload_n 0, 280, 0, 0, 0, 0, []),
  (280, .getfield 53, 283, 9, 18, 0, 0, []),
  (283, .iload 11, 285, 0, 0, 0, 0, []),
  (285, .iload 9, 287, 0, 0, 0, 0, []),
  (287, .iastore, 288, 0, 0, 0, 0, []),
  (288, .iconst 1, 289, 0, 0, 1, 0, []),
  (289, .istore 12, 291, 0, 0, 0, 0, []),
  (291, .iconst 1, 292, 0, 0, 1, 0, []),
  (292, .istore 13, 294, 0, 0, 0, 0, []),
  (294, .iload 13, 296, 0, 0, 0, 0, []),
  (296, .ifCond .eq 154, 299, 450, 0, 0, 0, []),
  (299, .iconst 0, 300, 0, 0, 0, 0, []),
  (300, .istore 13, 302, 0, 0, 0, 0, []),
  (302, .iconst 0, 303, 0, 0, 0, 0, []),
  (303, .istore 14, 305, 0, 0, 0, 0, []),
  (305, .iload 14, 307, 0, 0, 0, 0, []),
  (307, .iload_n 3, 308, 0, 0, 0, 0, []),
  (308, .iload 4, 310, 0, 0, 0, 0, []),
  (310, .imul, 311, 0, 0, 0, 0, []),
  (311, .if_icmp .ge 136, 314, 447, 0, 0, 0, []),
  (314, .iload 14, 316, 0, 0, 0, 0, []),
  (316, .iload_n 3, 317, 0, 0, 0, 0, []),
  (317, .irem, 318, 0, 0, 0, 0, []),
  (318, .ifCond .le 17, 321, 335, 0, 0, 0, []),
  (321, .aload_n 0, 322, 0, 0, 0, 0, []),
  (322, .getfield 53, 325, 9, 18, 0, 0, []),
  (325, .iload 14, 327, 0, 0, 0, 0, []),
  (327, .iconst 1, 328, 0, 0, 1, 0, []),
  (328, .isub, 329, 0, 0, 0, 0, []),
  (329, .iaload, 330, 0, 0, 0, 0, []),
  (330, .iload 9, 332, 0, 0, 0, 0, []),
  (332, .if_icmp .eq 72, 335, 404, 0, 0, 0, []),
  (335, .iload 14, 337, 0, 0, 0, 0, []),
  (337, .iload_n 3, 338, 0, 0, 0, 0, []),
  (338, .irem, 339, 0, 0, 0, 0, []),
  (339, .iload_n 3, 340, 0, 0, 0, 0, []),
  (340, .iconst 1, 341, 0, 0, 1, 0, []),
  (341, .isub, 342, 0, 0, 0, 0, []),
  (342, .if_icmp .ge 17, 345, 359, 0, 0, 0, []),
  (345, .aload_n 0, 346, 0, 0, 0, 0, []),
  (346, .getfield 53, 349, 9, 18, 0, 0, []),
  (349, .iload 14, 351, 0, 0, 0, 0, []),
  (351, .iconst 1, 352, 0, 0, 1, 0, []),
  (352, .iadd, 353, 0, 0, 0, 0, []),
  (353, .iaload, 354, 0, 0, 0, 0, []),
  (354, .iload 9, 356, 0, 0, 0, 0, []),
  (356, .if_icmp .eq 48, 359, 404, 0, 0, 0, []),
  (359, .iload 14, 361, 0, 0, 0, 0, []),
  (361, .iload_n 3, 362, 0, 0, 0, 0, []),
  (362, .if_icmp .lt 17, 365, 379, 0, 0, 0, []),
  (365, .aload_n 0, 366, 0, 0, 0, 0, []),
  (366, .getfield 53, 369, 9, 18, 0, 0, []),
  (369, .iload 14, 371, 0, 0, 0, 0, []),
  (371, .iload_n 3, 372, 0, 0, 0, 0, []),
  (372, .isub, 373, 0, 0, 0, 0, []),
  (373, .iaload, 374, 0, 0, 0, 0, []),
  (374, .iload 9, 376, 0, 0, 0, 0, []),
  (376, .if_icmp .eq 28, 379, 404, 0, 0, 0, []),
  (379, .iload 14, 381, 0, 0, 0, 0, []),
  (381, .iload_n 3, 382, 0, 0, 0, 0, []),
  (382, .iadd, 383, 0, 0, 0, 0, []),
  (383, .iload_n 3, 384, 0, 0, 0, 0, []),
  (384, .iload 4, 386, 0, 0, 0, 0, []),
  (386, .imul, 387, 0, 0, 0, 0, []),
  (387, .if_icmp .ge 21, 390, 408, 0, 0, 0, []),
  (390, .aload_n 0, 391, 0, 0, 0, 0, []),
  (391, .getfield 53, 394, 9, 18, 0, 0, []),
  (394, .iload 14, 396, 0, 0, 0, 0, []),
  (396, .iload_n 3, 397, 0, 0, 0, 0, []),
  (397, .iadd, 398, 0, 0, 0, 0, []),
  (398, .iaload, 399, 0, 0, 0, 0, []),
  (399, .iload 9, 401, 0, 0, 0, 0, []),
  (401, .if_icmp .ne 7, 404, 408, 0, 0, 0, []),
  (404, .iconst 1, 405, 0, 0, 1, 0, []),
  (405, .goto 4, 408, 409, 0, 0, 0, []),
  (408, .iconst 0, 409, 0, 0, 0, 0, []),
  (409, .istore 15, 411, 0, 0, 0, 0, []),
  (411, .aload_n 0, 412, 0, 0, 0, 0, []),
  (412, .getfield 53, 415, 9, 18, 0, 0, []),
  (415, .iload 14, 417, 0, 0, 0, 0, []),
  (417, .iaload, 418, 0, 0, 0, 0, []),
  (418, .ifCond .ne 23, 421, 441, 0, 0, 0, [])]
noncomputable def t_Mo_survey_2 : List En := [
  (421, .iload 15, 423, 0, 0, 0, 0, []),
  (423, .ifCond .eq 18, 426, 441, 0, 0, 0, []),
  (426, .aload_n 0, 427, 0, 0, 0, 0, []),
  (427, .getfield 53, 430, 9, 18, 0, 0, []),
  (430, .iload 14, 432, 0, 0, 0, 0, []),
  (432, .iload 9, 434, 0, 0, 0, 0, []),
  (434, .iastore, 435, 0, 0, 0, 0, []),
  (435, .iinc 12 1, 438, 0, 0, 1, 0, []),
  (438, .iconst 1, 439, 0, 0, 1, 0, []),
  (439, .istore 13, 441, 0, 0, 0, 0, []),
  (441, .iinc 14 1, 444, 0, 0, 1, 0, []),
  (444, .goto (-139), 447, 305, 0, 0, 0, []),
  (447, .goto (-153), 450, 294, 0, 0, 0, []),
  (450, .iload 12, 452, 0, 0, 0, 0, []),
  (452, .iload 10, 454, 0, 0, 0, 0, []),
  (454, .if_icmp .le 8, 457, 462, 0, 0, 0, []),
  (457, .iload 12, 459, 0, 0, 0, 0, []),
  (459, .goto 5, 462, 464, 0, 0, 0, []),
  (462, .iload 10, 464, 0, 0, 0, 0, []),
  (464, .istore 10, 466, 0, 0, 0, 0, []),
  (466, .iinc 11 1, 469, 0, 0, 1, 0, []),
  (469, .goto (-212), 472, 257, 0, 0, 0, []),
  (472, .iload 6, 474, 0, 0, 0, 0, []),
  (474, .ifCond .ne 8, 477, 482, 0, 0, 0, []),
  (477, .iload 7, 479, 0, 0, 0, 0, []),
  (479, .goto 27, 482, 506, 0, 0, 0, []),
  (482, .iload 6, 484, 0, 0, 0, 0, []),
  (484, .iconst 1, 485, 0, 0, 1, 0, []),
  (485, .if_icmp .ne 8, 488, 493, 0, 0, 0, []),
  (488, .iload 8, 490, 0, 0, 0, 0, []),
  (490, .goto 16, 493, 506, 0, 0, 0, []),
  (493, .iload 6, 495, 0, 0, 0, 0, []),
  (495, .iconst 2, 496, 0, 0, 2, 0, []),
  (496, .if_icmp .ne 8, 499, 504, 0, 0, 0, []),
  (499, .iload 9, 501, 0, 0, 0, 0, []),
  (501, .goto 5, 504, 506, 0, 0, 0, []),
  (504, .iload 10, 506, 0, 0, 0, 0, []),
  (506, .ireturn, 507, 0, 0, 0, 0, [])]
noncomputable def t_Mo_survey : List En := t_Mo_survey_0 ++ (t_Mo_survey_1 ++ (t_Mo_survey_2))
noncomputable def t_Mo_wave : List En := [
  (0, .aload_n 0, 1, 0, 0, 0, 0, []),
  (1, .iconst 0, 2, 0, 0, 0, 0, []),
  (2, .putfield 59, 5, 9, 0, 0, 0, []),
  (5, .iload_n 1, 6, 0, 0, 0, 0, []),
  (6, .iload_n 2, 7, 0, 0, 0, 0, []),
  (7, .iload_n 3, 8, 0, 0, 0, 0, []),
  (8, .invokestatic 177, 11, 158, 3, 0, 0, []),
  (11, .ifCond .eq 53, 14, 64, 0, 0, 0, []),
  (14, .iload 4, 16, 0, 0, 0, 0, []),
  (16, .i2l, 17, 0, 0, 0, 0, []),
  (17, .lconst 1, 18, 0, 0, 0, 1, []),
  (18, .ldc2_w 171, 21, 0, 0, 0, 1000000, []),
  (21, .invokestatic 69, 24, 121, 3, 0, 0, []),
  (24, .ifCond .eq 40, 27, 64, 0, 0, 0, []),
  (27, .iload 5, 29, 0, 0, 0, 0, []),
  (29, .i2l, 30, 0, 0, 0, 0, []),
  (30, .lconst 0, 31, 0, 0, 0, 0, []),
  (31, .ldc2_w 84, 34, 0, 0, 0, 4, []),
  (34, .invokestatic 69, 37, 121, 3, 0, 0, []),
  (37, .ifCond .eq 27, 40, 64, 0, 0, 0, []),
  (40, .iload 6, 42, 0, 0, 0, 0, []),
  (42, .i2l, 43, 0, 0, 0, 0, []),
  (43, .lconst 0, 44, 0, 0, 0, 0, []),
  (44, .iload_n 1, 45, 0, 0, 0, 0, []),
  (45, .i2l, 46, 0, 0, 0, 0, []),
  (46, .invokestatic 69, 49, 121, 3, 0, 0, []),
  (49, .ifCond .eq 15, 52, 64, 0, 0, 0, []),
  (52, .iload 7, 54, 0, 0, 0, 0, []),
  (54, .i2l, 55, 0, 0, 0, 0, []),
  (55, .lconst 0, 56, 0, 0, 0, 0, []),
  (56, .iload_n 2, 57, 0, 0, 0, 0, []),
  (57, .i2l, 58, 0, 0, 0, 0, []),
  (58, .invokestatic 69, 61, 121, 3, 0, 0, []),
  (61, .ifCond .ne 9, 64, 70, 0, 0, 0, []),
  (64, .ldc2_w 181, 67, 0, 0, 0, (-1000001), []),
  (67, .goto 17, 70, 84, 0, 0, 0, []),
  (70, .iload_n 1, 71, 0, 0, 0, 0, []),
  (71, .iload_n 2, 72, 0, 0, 0, 0, []),
  (72, .iload_n 3, 73, 0, 0, 0, 0, []),
  (73, .iload 4, 75, 0, 0, 0, 0, []),
  (75, .iload 5, 77, 0, 0, 0, 0, []),
  (77, .iload 6, 79, 0, 0, 0, 0, []),
  (79, .iload 7, 81, 0, 0, 0, 0, []),
  (81, .invokestatic 183, 84, 159, 7, 0, 0, []),
  (84, .lreturn, 85, 0, 0, 0, 0, [])]
noncomputable def t_Mo_isHarbour : List En := [
  (0, .iload_n 0, 1, 0, 0, 0, 0, []),
  (1, .i2l, 2, 0, 0, 0, 0, []),
  (2, .lconst 1, 3, 0, 0, 0, 1, []),
  (3, .ldc2_w 175, 6, 0, 0, 0, 50, []),
  (6, .invokestatic 69, 9, 121, 3, 0, 0, []),
  (9, .ifCond .eq 31, 12, 40, 0, 0, 0, []),
  (12, .iload_n 1, 13, 0, 0, 0, 0, []),
  (13, .i2l, 14, 0, 0, 0, 0, []),
  (14, .lconst 1, 15, 0, 0, 0, 1, []),
  (15, .ldc2_w 175, 18, 0, 0, 0, 50, []),
  (18, .invokestatic 69, 21, 121, 3, 0, 0, []),
  (21, .ifCond .eq 19, 24, 40, 0, 0, 0, []),
  (24, .iload_n 2, 25, 0, 0, 0, 0, []),
  (25, .i2l, 26, 0, 0, 0, 0, []),
  (26, .lconst 0, 27, 0, 0, 0, 0, []),
  (27, .ldc2_w 86, 30, 0, 0, 0, 10, []),
  (30, .invokestatic 69, 33, 121, 3, 0, 0, []),
  (33, .ifCond .eq 7, 36, 40, 0, 0, 0, []),
  (36, .iconst 1, 37, 0, 0, 1, 0, []),
  (37, .goto 4, 40, 41, 0, 0, 0, []),
  (40, .iconst 0, 41, 0, 0, 0, 0, []),
  (41, .ireturn, 42, 0, 0, 0, 0, [])]
noncomputable def t_Mo_waveAt : List En := [
  (0, .lconst 0, 1, 0, 0, 0, 0, []),
  (1, .lstore 7, 3, 0, 0, 0, 0, []),
  (3, .iload 4, 5, 0, 0, 0, 0, []),
  (5, .ineg, 6, 0, 0, 0, 0, []),
  (6, .istore 9, 8, 0, 0, 0, 0, []),
  (8, .iload 9, 10, 0, 0, 0, 0, []),
  (10, .iload 4, 12, 0, 0, 0, 0, []),
  (12, .if_icmp .gt 104, 15, 116, 0, 0, 0, []),
  (15, .iload 4, 17, 0, 0, 0, 0, []),
  (17, .ineg, 18, 0, 0, 0, 0, []),
  (18, .istore 10, 20, 0, 0, 0, 0, []),
  (20, .iload 10, 22, 0, 0, 0, 0, []),
  (22, .iload 4, 24, 0, 0, 0, 0, []),
  (24, .if_icmp .gt 86, 27, 110, 0, 0, 0, []),
  (27, .iload_n 3, 28, 0, 0, 0, 0, []),
  (28, .istore 11, 30, 0, 0, 0, 0, []),
  (30, .iconst 0, 31, 0, 0, 0, 0, []),
  (31, .istore 12, 33, 0, 0, 0, 0, []),
  (33, .iload 12, 35, 0, 0, 0, 0, []),
  (35, .iconst 2, 36, 0, 0, 2, 0, []),
  (36, .iload 9, 38, 0, 0, 0, 0, []),
  (38, .invokestatic 130, 41, 146, 1, 0, 0, []),
  (41, .imul, 42, 0, 0, 0, 0, []),
  (42, .iconst 2, 43, 0, 0, 2, 0, []),
  (43, .iload 10, 45, 0, 0, 0, 0, []),
  (45, .invokestatic 130, 48, 146, 1, 0, 0, []),
  (48, .imul, 49, 0, 0, 0, 0, []),
  (49, .iadd, 50, 0, 0, 0, 0, []),
  (50, .if_icmp .ge 18, 53, 68, 0, 0, 0, []),
  (53, .iload 11, 55, 0, 0, 0, 0, []),
  (55, .iload_n 2, 56, 0, 0, 0, 0, []),
  (56, .imul, 57, 0, 0, 0, 0, []),
  (57, .bipush 10, 59, 0, 0, 10, 0, []),
  (59, .idiv, 60, 0, 0, 0, 0, []),
  (60, .istore 11, 62, 0, 0, 0, 0, []),
  (62, .iinc 12 1, 65, 0, 0, 1, 0, []),
  (65, .goto (-32), 68, 33, 0, 0, 0, []),
  (68, .lload 7, 70, 0, 0, 0, 0, []),
  (70, .iload 11, 72, 0, 0, 0, 0, []),
  (72, .iconst 1, 73, 0, 0, 1, 0, []),
  (73, .iload 5, 75, 0, 0, 0, 0, []),
  (75, .iconst 2, 76, 0, 0, 2, 0, []),
  (76, .iload 9, 78, 0, 0, 0, 0, []),
  (78, .imul, 79, 0, 0, 0, 0, []),
  (79, .iload_n 0, 80, 0, 0, 0, 0, []),
  (80, .imul, 81, 0, 0, 0, 0, []),
  (81, .isub, 82, 0, 0, 0, 0, []),
  (82, .invokestatic 130, 85, 146, 1, 0, 0, []),
  (85, .iadd, 86, 0, 0, 0, 0, []),
  (86, .iload 6, 88, 0, 0, 0, 0, []),
  (88, .iconst 2, 89, 0, 0, 2, 0, []),
  (89, .iload 10, 91, 0, 0, 0, 0, []),
  (91, .imul, 92, 0, 0, 0, 0, []),
  (92, .iload_n 1, 93, 0, 0, 0, 0, []),
  (93, .imul, 94, 0, 0, 0, 0, []),
  (94, .isub, 95, 0, 0, 0, 0, []),
  (95, .invokestatic 130, 98, 146, 1, 0, 0, []),
  (98, .iadd, 99, 0, 0, 0, 0, []),
  (99, .idiv, 100, 0, 0, 0, 0, []),
  (100, .i2l, 101, 0, 0, 0, 0, []),
  (101, .ladd, 102, 0, 0, 0, 0, []),
  (102, .lstore 7, 104, 0, 0, 0, 0, []),
  (104, .iinc 10 1, 107, 0, 0, 1, 0, []),
  (107, .goto (-87), 110, 20, 0, 0, 0, []),
  (110, .iinc 9 1, 113, 0, 0, 1, 0, []),
  (113, .goto (-105), 116, 8, 0, 0, 0, []),
  (116, .lload 7, 118, 0, 0, 0, 0, []),
  (118, .lreturn, 119, 0, 0, 0, 0, [])]
noncomputable def t_Mo_calm_0 : List En := [
  (0, .aload_n 0, 1, 0, 0, 0, 0, []),
  (1, .iconst 0, 2, 0, 0, 0, 0, []),
  (2, .putfield 59, 5, 9, 0, 0, 0, []),
  (5, .iload_n 1, 6, 0, 0, 0, 0, []),
  (6, .iload_n 2, 7, 0, 0, 0, 0, []),
  (7, .iload_n 3, 8, 0, 0, 0, 0, []),
  (8, .invokestatic 177, 11, 158, 3, 0, 0, []),
  (11, .ifCond .eq 24, 14, 35, 0, 0, 0, []),
  (14, .iload 4, 16, 0, 0, 0, 0, []),
  (16, .invokestatic 73, 19, 120, 1, 0, 0, []),
  (19, .ifCond .eq 16, 22, 35, 0, 0, 0, []),
  (22, .iload 6, 24, 0, 0, 0, 0, []),
  (24, .i2l, 25, 0, 0, 0, 0, []),
  (25, .lconst 1, 26, 0, 0, 0, 1, []),
  (26, .ldc2_w 175, 29, 0, 0, 0, 50, []),
  (29, .invokestatic 69, 32, 121, 3, 0, 0, []),
  (32, .ifCond .ne 6, 35, 38, 0, 0, 0, []),
  (35, .ldc 79, 37, 0, 0, (-1000001), 0, []),
  (37, .ireturn, 38, 0, 0, 0, 0, []),
  (38, .aload_n 0, 39, 0, 0, 0, 0, []),
  (39, .iload 4, 41, 0, 0, 0, 0, []),
  (41, .iload 5, 43, 0, 0, 0, 0, []),
  (43, .iconst 2, 44, 0, 0, 2, 0, []),
  (44, .iload 6, 46, 0, 0, 0, 0, []),
  (46, .imul, 47, 0, 0, 0, 0, []),
  (47, .invokevirtual 111, 50, 137, 3, 0, 0, []),
  (50, .istore 7, 52, 0, 0, 0, 0, []),
  (52, .iload 7, 54, 0, 0, 0, 0, []),
  (54, .ifCond .ge 6, 57, 60, 0, 0, 0, []),
  (57, .iload 7, 59, 0, 0, 0, 0, []),
  (59, .ireturn, 60, 0, 0, 0, 0, []),
  (60, .bipush 100, 62, 0, 0, 100, 0, []),
  (62, .iload 4, 64, 0, 0, 0, 0, []),
  (64, .imul, 65, 0, 0, 0, 0, []),
  (65, .iload 5, 67, 0, 0, 0, 0, []),
  (67, .iadd, 68, 0, 0, 0, 0, []),
  (68, .istore 8, 70, 0, 0, 0, 0, []),
  (70, .iconst 0, 71, 0, 0, 0, 0, []),
  (71, .istore 9, 73, 0, 0, 0, 0, []),
  (73, .iload 9, 75, 0, 0, 0, 0, []),
  (75, .iload 6, 77, 0, 0, 0, 0, []),
  (77, .if_icmp .ge 58, 80, 135, 0, 0, 0, []),
  (80, .aload_n 0, 81, 0, 0, 0, 0, []),
  (81, .getfield 16, 84, 9, 4, 0, 0, []),
  (84, .iload 8, 86, 0, 0, 0, 0, []),
  (86, .iconst 2, 87, 0, 0, 2, 0, []),
  (87, .iload 9, 89, 0, 0, 0, 0, []),
  (89, .imul, 90, 0, 0, 0, 0, []),
  (90, .iadd, 91, 0, 0, 0, 0, []),
  (91, .iaload, 92, 0, 0, 0, 0, []),
  (92, .i2l, 93, 0, 0, 0, 0, []),
  (93, .lconst 0, 94, 0, 0, 0, 0, []),
  (94, .iload_n 1, 95, 0, 0, 0, 0, []),
  (95, .i2l, 96, 0, 0, 0, 0, []),
  (96, .invokestatic 69, 99, 121, 3, 0, 0, []),
  (99, .ifCond .eq 27, 102, 126, 0, 0, 0, []),
  (102, .aload_n 0, 103, 0, 0, 0, 0, []),
  (103, .getfield 16, 106, 9, 4, 0, 0, []),
  (106, .iload 8, 108, 0, 0, 0, 0, []),
  (108, .iconst 2, 109, 0, 0, 2, 0, []),
  (109, .iload 9, 111, 0, 0, 0, 0, []),
  (111, .imul, 112, 0, 0, 0, 0, []),
  (112, .iadd, 113, 0, 0, 0, 0, []),
  (113, .iconst 1, 114, 0, 0, 1, 0, []),
  (114, .iadd, 115, 0, 0, 0, 0, []),
  (115, .iaload, 116, 0, 0, 0, 0, []),
  (116, .i2l, 117, 0, 0, 0, 0, []),
  (117, .lconst 0, 118, 0, 0, 0, 0, []),
  (118, .iload_n 2, 119, 0, 0, 0, 0, []),
  (119, .i2l, 120, 0, 0, 0, 0, []),
  (120, .invokestatic 69, 123, 121, 3, 0, 0, []),
  (123, .ifCond .ne 6, 126, 129, 0, 0, 0, []),
  (126, .ldc 79, 128, 0, 0, (-1000001), 0, []),
  (128, .ireturn, 129, 0, 0, 0, 0, []),
  (129, .iinc 9 1, 132, 0, 0, 1, 0, []),
  (132, .goto (-59), 135, 73, 0, 0, 0, []),
  (135, .aload_n 0, 136, 0, 0, 0, 0, []),
  (136, .iconst 0, 137, 0, 0, 0, 0, []),
  (137, .putfield 63, 140, 9, 1, 0, 0, []),
  (140, .iconst 0, 141, 0, 0, 0, 0, []),
  (141, .istore 9, 143, 0, 0, 0, 0, []),
  (143, .lconst 0, 144, 0, 0, 0, 0, []),
  (144, .lstore 10, 146, 0, 0, 0, 0, []),
  (146, .iconst 0, 147, 0, 0, 0, 0, []),
  (147, .istore 12, 149, 0, 0, 0, 0, []),
  (149, .iload 12, 151, 0, 0, 0, 0, []),
  (151, .iload 6, 153, 0, 0, 0, 0, []),
  (153, .if_icmp .ge 67, 156, 220, 0, 0, 0, []),
  (156, .iload_n 1, 157, 0, 0, 0, 0, []),
  (157, .iload_n 2, 158, 0, 0, 0, 0, []),
  (158, .iload_n 3, 159, 0, 0, 0, 0, []),
  (159, .ldc 187, 161, 0, 0, 1000000, 0, []),
  (161, .iconst 2, 162, 0, 0, 2, 0, []),
  (162, .aload_n 0, 163, 0, 0, 0, 0, []),
  (163, .getfield 16, 166, 9, 4, 0, 0, []),
  (166, .iload 8, 168, 0, 0, 0, 0, []),
  (168, .iconst 2, 169, 0, 0, 2, 0, []),
  (169, .iload 12, 171, 0, 0, 0, 0, []),
  (171, .imul, 172, 0, 0, 0, 0, []),
  (172, .iadd, 173, 0, 0, 0, 0, []),
  (173, .iaload, 174, 0, 0, 0, 0, []),
  (174, .aload_n 0, 175, 0, 0, 0, 0, []),
  (175, .getfield 16, 178, 9, 4, 0, 0, []),
  (178, .iload 8, 180, 0, 0, 0, 0, []),
  (180, .iconst 2, 181, 0, 0, 2, 0, []),
  (181, .iload 12, 183, 0, 0, 0, 0, []),
  (183, .imul, 184, 0, 0, 0, 0, []),
  (184, .iadd, 185, 0, 0, 0, 0, []),
  (185, .iconst 1, 186, 0, 0, 1, 0, []),
  (186, .iadd, 187, 0, 0, 0, 0, []),
  (187, .iaload, 188, 0, 0, 0, 0, []),
  (188, .invokestatic 183, 191, 159, 7, 0, 0, []),
  (191, .lstore 13, 193, 0, 0, 0, 0, []),
  (193, .iload 12, 195, 0, 0, 0, 0, []),
  (195, .ifCond .eq 11, 198, 206, 0, 0, 0, []),
  (198, .lload 13, 200, 0, 0, 0, 0, []),
  (200, .lload 10, 202, 0, 0, 0, 0, []),
  (202, .lcmp, 203, 0, 0, 0, 0, []),
  (203, .ifCond .ge 11, 206, 214, 0, 0, 0, []),
  (206, .iload 12, 208, 0, 0, 0, 0, [])]
noncomputable def t_Mo_calm_1 : List En := [
  (208, .istore 9, 210, 0, 0, 0, 0, []),
  (210, .lload 13, 212, 0, 0, 0, 0, []),
  (212, .lstore 10, 214, 0, 0, 0, 0, []),
  (214, .iinc 12 1, 217, 0, 0, 1, 0, []),
  (217, .goto (-68), 220, 149, 0, 0, 0, []),
  (220, .iload 9, 222, 0, 0, 0, 0, []),
  (222, .ireturn, 223, 0, 0, 0, 0, [])]
noncomputable def t_Mo_calm : List En := t_Mo_calm_0 ++ (t_Mo_calm_1)
noncomputable def t_Mo_kind : List En := [
  (0, .aload_n 0, 1, 0, 0, 0, 0, []),
  (1, .iconst 0, 2, 0, 0, 0, 0, []),
  (2, .putfield 59, 5, 9, 0, 0, 0, []),
  (5, .aload_n 0, 6, 0, 0, 0, 0, []),
  (6, .iload_n 1, 7, 0, 0, 0, 0, []),
  (7, .invokevirtual 98, 10, 130, 1, 0, 0, []),
  (10, .ifCond .eq 11, 13, 21, 0, 0, 0, []),
  (13, .aload_n 0, 14, 0, 0, 0, 0, []),
  (14, .iload_n 1, 15, 0, 0, 0, 0, []),
  (15, .invokevirtual 188, 18, 162, 1, 0, 0, []),
  (18, .goto 5, 21, 23, 0, 0, 0, []),
  (21, .ldc 79, 23, 0, 0, (-1000001), 0, []),
  (23, .ireturn, 24, 0, 0, 0, 0, [])]
noncomputable def t_Mo_kindOf : List En := [
  (0, .iload_n 1, 1, 0, 0, 0, 0, []),
  (1, .ifCond .ne 31, 4, 32, 0, 0, 0, []),
  (4, .aload_n 0, 5, 0, 0, 0, 0, []),
  (5, .iconst 0, 6, 0, 0, 0, 0, []),
  (6, .invokevirtual 101, 9, 132, 1, 0, 0, []),
  (9, .ifCond .eq 19, 12, 28, 0, 0, 0, []),
  (12, .aload_n 0, 13, 0, 0, 0, 0, []),
  (13, .getfield 25, 16, 9, 8, 0, 0, []),
  (16, .iconst 0, 17, 0, 0, 0, 0, []),
  (17, .iaload, 18, 0, 0, 0, 0, []),
  (18, .sipush 1000, 21, 0, 0, 1000, 0, []),
  (21, .if_icmp .lt 7, 24, 28, 0, 0, 0, []),
  (24, .iconst 2, 25, 0, 0, 2, 0, []),
  (25, .goto 20, 28, 45, 0, 0, 0, []),
  (28, .iconst 1, 29, 0, 0, 1, 0, []),
  (29, .goto 16, 32, 45, 0, 0, 0, []),
  (32, .aload_n 0, 33, 0, 0, 0, 0, []),
  (33, .iload_n 1, 34, 0, 0, 0, 0, []),
  (34, .invokevirtual 101, 37, 132, 1, 0, 0, []),
  (37, .ifCond .eq 7, 40, 44, 0, 0, 0, []),
  (40, .iconst 3, 41, 0, 0, 3, 0, []),
  (41, .goto 4, 44, 45, 0, 0, 0, []),
  (44, .iconst 4, 45, 0, 0, 4, 0, []),
  (45, .ireturn, 46, 0, 0, 0, 0, [])]
noncomputable def t_Mo_as : List En := [
  (0, .aload_n 0, 1, 0, 0, 0, 0, []),
  (1, .iconst 0, 2, 0, 0, 0, 0, []),
  (2, .putfield 59, 5, 9, 0, 0, 0, []),
  (5, .aload_n 0, 6, 0, 0, 0, 0, []),
  (6, .iload_n 1, 7, 0, 0, 0, 0, []),
  (7, .invokevirtual 98, 10, 130, 1, 0, 0, []),
  (10, .ifCond .eq 15, 13, 25, 0, 0, 0, []),
  (13, .iload_n 2, 14, 0, 0, 0, 0, []),
  (14, .i2l, 15, 0, 0, 0, 0, []),
  (15, .lconst 0, 16, 0, 0, 0, 0, []),
  (16, .ldc2_w 84, 19, 0, 0, 0, 4, []),
  (19, .invokestatic 69, 22, 121, 3, 0, 0, []),
  (22, .ifCond .ne 6, 25, 28, 0, 0, 0, []),
  (25, .ldc 79, 27, 0, 0, (-1000001), 0, []),
  (27, .ireturn, 28, 0, 0, 0, 0, []),
  (28, .aload_n 0, 29, 0, 0, 0, 0, []),
  (29, .iconst 0, 30, 0, 0, 0, 0, []),
  (30, .putfield 63, 33, 9, 1, 0, 0, []),
  (33, .aload_n 0, 34, 0, 0, 0, 0, []),
  (34, .iload_n 1, 35, 0, 0, 0, 0, []),
  (35, .invokevirtual 188, 38, 162, 1, 0, 0, []),
  (38, .iload_n 2, 39, 0, 0, 0, 0, []),
  (39, .invokestatic 191, 42, 164, 2, 0, 0, []),
  (42, .ifCond .eq 12, 45, 54, 0, 0, 0, []),
  (45, .aload_n 0, 46, 0, 0, 0, 0, []),
  (46, .getfield 25, 49, 9, 8, 0, 0, []),
  (49, .iload_n 1, 50, 0, 0, 0, 0, []),
  (50, .iaload, 51, 0, 0, 0, 0, []),
  (51, .goto 8, 54, 59, 0, 0, 0, []),
  (54, .aload_n 0, 55, 0, 0, 0, 0, []),
  (55, .iconst 3, 56, 0, 0, 3, 0, []),
  (56, .invokevirtual 80, 59, 122, 1, 0, 0, []),
  (59, .ireturn, 60, 0, 0, 0, 0, [])]
noncomputable def t_Mo_isOf : List En := [
  (0, .iload_n 1, 1, 0, 0, 0, 0, []),
  (1, .ifCond .eq 18, 4, 19, 0, 0, 0, []),
  (4, .iload_n 0, 5, 0, 0, 0, 0, []),
  (5, .iload_n 1, 6, 0, 0, 0, 0, []),
  (6, .if_icmp .eq 13, 9, 19, 0, 0, 0, []),
  (9, .iload_n 1, 10, 0, 0, 0, 0, []),
  (10, .iconst 1, 11, 0, 0, 1, 0, []),
  (11, .if_icmp .ne 12, 14, 23, 0, 0, 0, []),
  (14, .iload_n 0, 15, 0, 0, 0, 0, []),
  (15, .iconst 2, 16, 0, 0, 2, 0, []),
  (16, .if_icmp .ne 7, 19, 23, 0, 0, 0, []),
  (19, .iconst 1, 20, 0, 0, 1, 0, []),
  (20, .goto 4, 23, 24, 0, 0, 0, []),
  (23, .iconst 0, 24, 0, 0, 0, 0, []),
  (24, .ireturn, 25, 0, 0, 0, 0, [])]
noncomputable def t_Mo_ask : List En := [
  (0, .aload_n 0, 1, 0, 0, 0, 0, []),
  (1, .iconst 0, 2, 0, 0, 0, 0, []),
  (2, .putfield 59, 5, 9, 0, 0, 0, []),
  (5, .aload_n 0, 6, 0, 0, 0, 0, []),
  (6, .iload_n 1, 7, 0, 0, 0, 0, []),
  (7, .invokevirtual 98, 10, 130, 1, 0, 0, []),
  (10, .ifCond .eq 13, 13, 23, 0, 0, 0, []),
  (13, .iload_n 2, 14, 0, 0, 0, 0, []),
  (14, .i2l, 15, 0, 0, 0, 0, []),
  (15, .lconst 0, 16, 0, 0, 0, 0, []),
  (16, .lconst 1, 17, 0, 0, 0, 1, []),
  (17, .invokestatic 69, 20, 121, 3, 0, 0, []),
  (20, .ifCond .ne 6, 23, 26, 0, 0, 0, []),
  (23, .ldc 79, 25, 0, 0, (-1000001), 0, []),
  (25, .ireturn, 26, 0, 0, 0, 0, []),
  (26, .aload_n 0, 27, 0, 0, 0, 0, []),
  (27, .iconst 0, 28, 0, 0, 0, 0, []),
  (28, .putfield 194, 31, 9, 20, 0, 0, []),
  (31, .iload_n 2, 32, 0, 0, 0, 0, []),
  (32, .ifCond .ne 16, 35, 48, 0, 0, 0, []),
  (35, .aload_n 0, 36, 0, 0, 0, 0, []),
  (36, .iload_n 1, 37, 0, 0, 0, 0, []),
  (37, .aload_n 0, 38, 0, 0, 0, 0, []),
  (38, .iload_n 1, 39, 0, 0, 0, 0, []),
  (39, .invokevirtual 188, 42, 162, 1, 0, 0, []),
  (42, .invokevirtual 207, 45, 166, 2, 0, 0, []),
  (45, .goto 13, 48, 58, 0, 0, 0, []),
  (48, .aload_n 0, 49, 0, 0, 0, 0, []),
  (49, .iload_n 1, 50, 0, 0, 0, 0, []),
  (50, .aload_n 0, 51, 0, 0, 0, 0, []),
  (51, .iload_n 1, 52, 0, 0, 0, 0, []),
  (52, .invokevirtual 188, 55, 162, 1, 0, 0, []),
  (55, .invokevirtual 210, 58, 170, 2, 0, 0, []),
  (58, .ireturn, 59, 0, 0, 0, 0, [])]
noncomputable def t_Mo_worthOf : List En := [
  (0, .iload_n 2, 1, 0, 0, 0, 0, []),
  (1, .iconst 4, 2, 0, 0, 4, 0, []),
  (2, .if_icmp .ne 30, 5, 32, 0, 0, 0, []),
  (5, .aload_n 0, 6, 0, 0, 0, 0, []),
  (6, .bipush 13, 8, 0, 0, 13, 0, []),
  (8, .invokevirtual 197, 11, 167, 1, 0, 0, []),
  (11, .aload_n 0, 12, 0, 0, 0, 0, []),
  (12, .iload_n 1, 13, 0, 0, 0, 0, []),
  (13, .invokevirtual 201, 16, 168, 1, 0, 0, []),
  (16, .istore_n 3, 17, 0, 0, 0, 0, []),
  (17, .aload_n 0, 18, 0, 0, 0, 0, []),
  (18, .bipush 20, 20, 0, 0, 20, 0, []),
  (20, .invokevirtual 197, 23, 167, 1, 0, 0, []),
  (23, .iload_n 3, 24, 0, 0, 0, 0, []),
  (24, .aload_n 0, 25, 0, 0, 0, 0, []),
  (25, .getfield 25, 28, 9, 8, 0, 0, []),
  (28, .iload_n 1, 29, 0, 0, 0, 0, []),
  (29, .iaload, 30, 0, 0, 0, 0, []),
  (30, .isub, 31, 0, 0, 0, 0, []),
  (31, .ireturn, 32, 0, 0, 0, 0, []),
  (32, .iload_n 2, 33, 0, 0, 0, 0, []),
  (33, .iconst 2, 34, 0, 0, 2, 0, []),
  (34, .if_icmp .ne 9, 37, 43, 0, 0, 0, []),
  (37, .aload_n 0, 38, 0, 0, 0, 0, []),
  (38, .bipush 12, 40, 0, 0, 12, 0, []),
  (40, .invokevirtual 197, 43, 167, 1, 0, 0, []),
  (43, .iload_n 2, 44, 0, 0, 0, 0, []),
  (44, .iconst 1, 45, 0, 0, 1, 0, []),
  (45, .invokestatic 191, 48, 164, 2, 0, 0, []),
  (48, .ifCond .eq 9, 51, 57, 0, 0, 0, []),
  (51, .aload_n 0, 52, 0, 0, 0, 0, []),
  (52, .bipush 11, 54, 0, 0, 11, 0, []),
  (54, .invokevirtual 197, 57, 167, 1, 0, 0, []),
  (57, .aload_n 0, 58, 0, 0, 0, 0, []),
  (58, .iload_n 1, 59, 0, 0, 0, 0, []),
  (59, .invokevirtual 201, 62, 168, 1, 0, 0, []),
  (62, .istore_n 3, 63, 0, 0, 0, 0, []),
  (63, .iload_n 3, 64, 0, 0, 0, 0, []),
  (64, .iload_n 2, 65, 0, 0, 0, 0, []),
  (65, .iconst 1, 66, 0, 0, 1, 0, []),
  (66, .invokestatic 191, 69, 164, 2, 0, 0, []),
  (69, .ifCond .eq 12, 72, 81, 0, 0, 0, []),
  (72, .aload_n 0, 73, 0, 0, 0, 0, []),
  (73, .getfield 19, 76, 9, 5, 0, 0, []),
  (76, .iconst 2, 77, 0, 0, 2, 0, []),
  (77, .iaload, 78, 0, 0, 0, 0, []),
  (78, .goto 4, 81, 82, 0, 0, 0, []),
  (81, .iconst 0, 82, 0, 0, 0, 0, []),
  (82, .iadd, 83, 0, 0, 0, 0, []),
  (83, .istore_n 3, 84, 0, 0, 0, 0, []),
  (84, .iload_n 2, 85, 0, 0, 0, 0, []),
  (85, .iconst 2, 86, 0, 0, 2, 0, []),
  (86, .if_icmp .ne 14, 89, 100, 0, 0, 0, []),
  (89, .iload_n 3, 90, 0, 0, 0, 0, []),
  (90, .aload_n 0, 91, 0, 0, 0, 0, []),
  (91, .iload_n 1, 92, 0, 0, 0, 0, []),
  (92, .iload_n 2, 93, 0, 0, 0, 0, []),
  (93, .invokevirtual 204, 96, 169, 2, 0, 0, []),
  (96, .iadd, 97, 0, 0, 0, 0, []),
  (97, .goto 4, 100, 101, 0, 0, 0, []),
  (100, .iload_n 3, 101, 0, 0, 0, 0, []),
  (101, .ireturn, 102, 0, 0, 0, 0, [])]
noncomputable def t_Mo_began : List En := [
  (0, .aload_n 0, 1, 0, 0, 0, 0, []),
  (1, .getfield 194, 4, 9, 20, 0, 0, []),
  (4, .bipush 16, 6, 0, 0, 16, 0, []),
  (6, .if_icmp .ge 23, 9, 29, 0, 0, 0, []),
  (9, .aload_n 0, 10, 0, 0, 0, 0, []),
  (10, .getfield 56, 13, 9, 19, 0, 0, []),
  (13, .aload_n 0, 14, 0, 0, 0, 0, []),
  (14, .getfield 194, 17, 9, 20, 0, 0, []),
  (17, .iload_n 1, 18, 0, 0, 0, 0, []),
  (18, .iastore, 19, 0, 0, 0, 0, []),
  (19, .aload_n 0, 20, 0, 0, 0, 0, []),
  (20, .dup, 21, 0, 0, 0, 0, []),
  (21, .getfield 194, 24, 9, 20, 0, 0, []),
  (24, .iconst 1, 25, 0, 0, 1, 0, []),
  (25, .iadd, 26, 0, 0, 0, 0, []),
  (26, .putfield 194, 29, 9, 20, 0, 0, []),
  (29, .return_, 30, 0, 0, 0, 0, [])]
noncomputable def t_Mo_plainWorth : List En := [
  (0, .aload_n 0, 1, 0, 0, 0, 0, []),
  (1, .bipush 10, 3, 0, 0, 10, 0, []),
  (3, .invokevirtual 197, 6, 167, 1, 0, 0, []),
  (6, .aload_n 0, 7, 0, 0, 0, 0, []),
  (7, .getfield 22, 10, 9, 7, 0, 0, []),
  (10, .iload_n 1, 11, 0, 0, 0, 0, []),
  (11, .iaload, 12, 0, 0, 0, 0, []),
  (12, .ireturn, 13, 0, 0, 0, 0, [])]
noncomputable def t_Mo_coverMark : List En := [
  (0, .iload_n 2, 1, 0, 0, 0, 0, []),
  (1, .iconst 2, 2, 0, 0, 2, 0, []),
  (2, .if_icmp .ne 9, 5, 11, 0, 0, 0, []),
  (5, .aload_n 0, 6, 0, 0, 0, 0, []),
  (6, .bipush 22, 8, 0, 0, 22, 0, []),
  (8, .invokevirtual 197, 11, 167, 1, 0, 0, []),
  (11, .aload_n 0, 12, 0, 0, 0, 0, []),
  (12, .bipush 21, 14, 0, 0, 21, 0, []),
  (14, .invokevirtual 197, 17, 167, 1, 0, 0, []),
  (17, .aload_n 0, 18, 0, 0, 0, 0, []),
  (18, .bipush 20, 20, 0, 0, 20, 0, []),
  (20, .invokevirtual 197, 23, 167, 1, 0, 0, []),
  (23, .aload_n 0, 24, 0, 0, 0, 0, []),
  (24, .getfield 25, 27, 9, 8, 0, 0, []),
  (27, .iload_n 1, 28, 0, 0, 0, 0, []),
  (28, .iaload, 29, 0, 0, 0, 0, []),
  (29, .bipush 10, 31, 0, 0, 10, 0, []),
  (31, .idiv, 32, 0, 0, 0, 0, []),
  (32, .iload_n 2, 33, 0, 0, 0, 0, []),
  (33, .iconst 2, 34, 0, 0, 2, 0, []),
  (34, .if_icmp .ne 9, 37, 43, 0, 0, 0, []),
  (37, .sipush 1000, 40, 0, 0, 1000, 0, []),
  (40, .goto 4, 43, 44, 0, 0, 0, []),
  (43, .iconst 0, 44, 0, 0, 0, 0, []),
  (44, .iadd, 45, 0, 0, 0, 0, []),
  (45, .ireturn, 46, 0, 0, 0, 0, [])]
noncomputable def t_Mo_markOf : List En := [
  (0, .iload_n 2, 1, 0, 0, 0, 0, []),
  (1, .iconst 1, 2, 0, 0, 1, 0, []),
  (2, .invokestatic 191, 5, 164, 2, 0, 0, []),
  (5, .ifCond .eq 10, 8, 15, 0, 0, 0, []),
  (8, .aload_n 0, 9, 0, 0, 0, 0, []),
  (9, .iload_n 1, 10, 0, 0, 0, 0, []),
  (10, .iload_n 2, 11, 0, 0, 0, 0, []),
  (11, .invokevirtual 204, 14, 169, 2, 0, 0, []),
  (14, .ireturn, 15, 0, 0, 0, 0, []),
  (15, .iload_n 2, 16, 0, 0, 0, 0, []),
  (16, .iconst 3, 17, 0, 0, 3, 0, []),
  (17, .if_icmp .ne 9, 20, 26, 0, 0, 0, []),
  (20, .aload_n 0, 21, 0, 0, 0, 0, []),
  (21, .bipush 23, 23, 0, 0, 23, 0, []),
  (23, .invokevirtual 197, 26, 167, 1, 0, 0, []),
  (26, .aload_n 0, 27, 0, 0, 0, 0, []),
  (27, .bipush 20, 29, 0, 0, 20, 0, []),
  (29, .invokevirtual 197, 32, 167, 1, 0, 0, []),
  (32, .aload_n 0, 33, 0, 0, 0, 0, []),
  (33, .getfield 25, 36, 9, 8, 0, 0, []),
  (36, .iload_n 1, 37, 0, 0, 0, 0, []),
  (37, .iaload, 38, 0, 0, 0, 0, []),
  (38, .iload_n 2, 39, 0, 0, 0, 0, []),
  (39, .iconst 3, 40, 0, 0, 3, 0, []),
  (40, .if_icmp .ne 11, 43, 51, 0, 0, 0, []),
  (43, .aload_n 0, 44, 0, 0, 0, 0, []),
  (44, .iload_n 1, 45, 0, 0, 0, 0, []),
  (45, .invokevirtual 201, 48, 168, 1, 0, 0, []),
  (48, .goto 4, 51, 52, 0, 0, 0, []),
  (51, .iconst 0, 52, 0, 0, 0, 0, []),
  (52, .iadd, 53, 0, 0, 0, 0, []),
  (53, .ireturn, 54, 0, 0, 0, 0, [])]
noncomputable def t_Mo_trace : List En := [
  (0, .aload_n 0, 1, 0, 0, 0, 0, []),
  (1, .iconst 0, 2, 0, 0, 0, 0, []),
  (2, .putfield 59, 5, 9, 0, 0, 0, []),
  (5, .iload_n 1, 6, 0, 0, 0, 0, []),
  (6, .i2l, 7, 0, 0, 0, 0, []),
  (7, .lconst 0, 8, 0, 0, 0, 0, []),
  (8, .aload_n 0, 9, 0, 0, 0, 0, []),
  (9, .getfield 194, 12, 9, 20, 0, 0, []),
  (12, .iconst 1, 13, 0, 0, 1, 0, []),
  (13, .isub, 14, 0, 0, 0, 0, []),
  (14, .i2l, 15, 0, 0, 0, 0, []),
  (15, .invokestatic 69, 18, 121, 3, 0, 0, []),
  (18, .ifCond .eq 12, 21, 30, 0, 0, 0, []),
  (21, .aload_n 0, 22, 0, 0, 0, 0, []),
  (22, .getfield 56, 25, 9, 19, 0, 0, []),
  (25, .iload_n 1, 26, 0, 0, 0, 0, []),
  (26, .iaload, 27, 0, 0, 0, 0, []),
  (27, .goto 5, 30, 32, 0, 0, 0, []),
  (30, .ldc 108, 32, 0, 0, (-1000000), 0, []),
  (32, .ireturn, 33, 0, 0, 0, 0, [])]
noncomputable def t_Mo_count : List En := [
  (0, .aload_n 0, 1, 0, 0, 0, 0, []),
  (1, .iconst 0, 2, 0, 0, 0, 0, []),
  (2, .putfield 59, 5, 9, 0, 0, 0, []),
  (5, .iconst 0, 6, 0, 0, 0, 0, []),
  (6, .istore_n 2, 7, 0, 0, 0, 0, []),
  (7, .iload_n 1, 8, 0, 0, 0, 0, []),
  (8, .tableswitch 183 0 5 #[40, 73, 78, 78, 134, 180], 48, 191, 0, 0, 0, [48, 81, 86, 86, 142, 188]),
  (48, .iconst 0, 49, 0, 0, 0, 0, []),
  (49, .istore_n 3, 50, 0, 0, 0, 0, []),
  (50, .iload_n 3, 51, 0, 0, 0, 0, []),
  (51, .bipush 8, 53, 0, 0, 8, 0, []),
  (53, .if_icmp .ge 26, 56, 79, 0, 0, 0, []),
  (56, .iload_n 2, 57, 0, 0, 0, 0, []),
  (57, .aload_n 0, 58, 0, 0, 0, 0, []),
  (58, .getfield 7, 61, 9, 2, 0, 0, []),
  (61, .iload_n 3, 62, 0, 0, 0, 0, []),
  (62, .iaload, 63, 0, 0, 0, 0, []),
  (63, .ifCond .lt 7, 66, 70, 0, 0, 0, []),
  (66, .iconst 1, 67, 0, 0, 1, 0, []),
  (67, .goto 4, 70, 71, 0, 0, 0, []),
  (70, .iconst 0, 71, 0, 0, 0, 0, []),
  (71, .iadd, 72, 0, 0, 0, 0, []),
  (72, .istore_n 2, 73, 0, 0, 0, 0, []),
  (73, .iinc 3 1, 76, 0, 0, 1, 0, []),
  (76, .goto (-26), 79, 50, 0, 0, 0, []),
  (79, .iload_n 2, 80, 0, 0, 0, 0, []),
  (80, .ireturn, 81, 0, 0, 0, 0, []),
  (81, .aload_n 0, 82, 0, 0, 0, 0, []),
  (82, .getfield 90, 85, 9, 6, 0, 0, []),
  (85, .ireturn, 86, 0, 0, 0, 0, []),
  (86, .iconst 0, 87, 0, 0, 0, 0, []),
  (87, .istore_n 3, 88, 0, 0, 0, 0, []),
  (88, .iload_n 3, 89, 0, 0, 0, 0, []),
  (89, .aload_n 0, 90, 0, 0, 0, 0, []),
  (90, .getfield 90, 93, 9, 6, 0, 0, []),
  (93, .if_icmp .ge 47, 96, 140, 0, 0, 0, []),
  (96, .iload_n 2, 97, 0, 0, 0, 0, []),
  (97, .iload_n 1, 98, 0, 0, 0, 0, []),
  (98, .iconst 2, 99, 0, 0, 2, 0, []),
  (99, .if_icmp .ne 19, 102, 118, 0, 0, 0, []),
  (102, .aload_n 0, 103, 0, 0, 0, 0, []),
  (103, .iload_n 3, 104, 0, 0, 0, 0, []),
  (104, .invokevirtual 101, 107, 132, 1, 0, 0, []),
  (107, .ifCond .eq 7, 110, 114, 0, 0, 0, []),
  (110, .iconst 1, 111, 0, 0, 1, 0, []),
  (111, .goto 21, 114, 132, 0, 0, 0, []),
  (114, .iconst 0, 115, 0, 0, 0, 0, []),
  (115, .goto 17, 118, 132, 0, 0, 0, []),
  (118, .aload_n 0, 119, 0, 0, 0, 0, []),
  (119, .iload_n 3, 120, 0, 0, 0, 0, []),
  (120, .invokevirtual 188, 123, 162, 1, 0, 0, []),
  (123, .iconst 4, 124, 0, 0, 4, 0, []),
  (124, .if_icmp .ne 7, 127, 131, 0, 0, 0, []),
  (127, .iconst 1, 128, 0, 0, 1, 0, []),
  (128, .goto 4, 131, 132, 0, 0, 0, []),
  (131, .iconst 0, 132, 0, 0, 0, 0, []),
  (132, .iadd, 133, 0, 0, 0, 0, []),
  (133, .istore_n 2, 134, 0, 0, 0, 0, []),
  (134, .iinc 3 1, 137, 0, 0, 1, 0, []),
  (137, .goto (-49), 140, 88, 0, 0, 0, []),
  (140, .iload_n 2, 141, 0, 0, 0, 0, []),
  (141, .ireturn, 142, 0, 0, 0, 0, []),
  (142, .iconst 0, 143, 0, 0, 0, 0, []),
  (143, .istore_n 3, 144, 0, 0, 0, 0, []),
  (144, .iload_n 3, 145, 0, 0, 0, 0, []),
  (145, .bipush 8, 147, 0, 0, 8, 0, []),
  (147, .if_icmp .ge 39, 150, 186, 0, 0, 0, []),
  (150, .iconst 0, 151, 0, 0, 0, 0, []),
  (151, .istore 4, 153, 0, 0, 0, 0, []),
  (153, .iload 4, 155, 0, 0, 0, 0, []),
  (155, .bipush 12, 157, 0, 0, 12, 0, []),
  (157, .if_icmp .ge 23, 160, 180, 0, 0, 0, []),
  (160, .iload_n 2, 161, 0, 0, 0, 0, []),
  (161, .aload_n 0, 162, 0, 0, 0, 0, []),
  (162, .getfield 41, 165, 9, 13, 0, 0, []),
  (165, .iload_n 3, 166, 0, 0, 0, 0, []),
  (166, .iaload, 167, 0, 0, 0, 0, []),
  (167, .iload 4, 169, 0, 0, 0, 0, []),
  (169, .ishr, 170, 0, 0, 0, 0, []),
  (170, .iconst 1, 171, 0, 0, 1, 0, []),
  (171, .iand, 172, 0, 0, 0, 0, []),
  (172, .iadd, 173, 0, 0, 0, 0, []),
  (173, .istore_n 2, 174, 0, 0, 0, 0, []),
  (174, .iinc 4 1, 177, 0, 0, 1, 0, []),
  (177, .goto (-24), 180, 153, 0, 0, 0, []),
  (180, .iinc 3 1, 183, 0, 0, 1, 0, []),
  (183, .goto (-39), 186, 144, 0, 0, 0, []),
  (186, .iload_n 2, 187, 0, 0, 0, 0, []),
  (187, .ireturn, 188, 0, 0, 0, 0, []),
  (188, .bipush 68, 190, 0, 0, 68, 0, []),
  (190, .ireturn, 191, 0, 0, 0, 0, []),
  (191, .ldc 79, 193, 0, 0, (-1000001), 0, []),
  (193, .ireturn, 194, 0, 0, 0, 0, [])]
noncomputable def t_Mo_status : List En := [
  (0, .aload_n 0, 1, 0, 0, 0, 0, []),
  (1, .iconst 0, 2, 0, 0, 0, 0, []),
  (2, .putfield 59, 5, 9, 0, 0, 0, []),
  (5, .aload_n 0, 6, 0, 0, 0, 0, []),
  (6, .getfield 63, 9, 9, 1, 0, 0, []),
  (9, .ireturn, 10, 0, 0, 0, 0, [])]
noncomputable def t_StoneWorksLaw_law_0 : List En := [
  (3, .dup, 4, 0, 0, 0, 0, []),
  (11, .dup, 12, 0, 0, 0, 0, []),
  (16, .iconst 0, 17, 0, 0, 0, 0, []),
  (17, .istore_n 3, 18, 0, 0, 0, 0, []),
  (18, .iload_n 3, 19, 0, 0, 0, 0, []),
  (19, .aload_n 0, 20, 0, 0, 0, 0, []),
  (20, .arraylength, 21, 0, 0, 0, 0, []),
  (21, .bipush 9, 23, 0, 0, 9, 0, []),
  (23, .isub, 24, 0, 0, 0, 0, []),
  (24, .if_icmp .gt 1336, 27, 1360, 0, 0, 0, []),
  (27, .aload_n 0, 28, 0, 0, 0, 0, []),
  (28, .iload_n 3, 29, 0, 0, 0, 0, []),
  (29, .iaload, 30, 0, 0, 0, 0, []),
  (30, .bipush 31, 32, 0, 0, 31, 0, []),
  (32, .iand, 33, 0, 0, 0, 0, []),
  (33, .tableswitch 1321 0 26 #[123, 166, 209, 272, 295, 328, 361, 404, 437, 470, 493, 546, 579, 612, 665, 708, 807, 860, 935, 1010, 1098, 1173, 1196, 1229, 1262, 1285, 1308], 156, 1354, 0, 0, 0, [156, 199, 242, 305, 328, 361, 394, 437, 470, 503, 526, 579, 612, 645, 698, 741, 840, 893, 968, 1043, 1131, 1206, 1229, 1262, 1295, 1318, 1341]),
  (156, .aload_n 1, 157, 0, 0, 0, 0, []),
  (157, .aload_n 0, 158, 0, 0, 0, 0, []),
  (158, .iload_n 3, 159, 0, 0, 0, 0, []),
  (159, .iconst 1, 160, 0, 0, 1, 0, []),
  (160, .iadd, 161, 0, 0, 0, 0, []),
  (161, .iaload, 162, 0, 0, 0, 0, []),
  (162, .aload_n 0, 163, 0, 0, 0, 0, []),
  (163, .iload_n 3, 164, 0, 0, 0, 0, []),
  (164, .iconst 2, 165, 0, 0, 2, 0, []),
  (165, .iadd, 166, 0, 0, 0, 0, []),
  (166, .iaload, 167, 0, 0, 0, 0, []),
  (167, .aload_n 0, 168, 0, 0, 0, 0, []),
  (168, .iload_n 3, 169, 0, 0, 0, 0, []),
  (169, .iconst 3, 170, 0, 0, 3, 0, []),
  (170, .iadd, 171, 0, 0, 0, 0, []),
  (171, .iaload, 172, 0, 0, 0, 0, []),
  (172, .invokevirtual 13, 175, 1, 3, 0, 0, []),
  (175, .aload_n 2, 176, 0, 0, 0, 0, []),
  (176, .aload_n 0, 177, 0, 0, 0, 0, []),
  (177, .iload_n 3, 178, 0, 0, 0, 0, []),
  (178, .iconst 1, 179, 0, 0, 1, 0, []),
  (179, .iadd, 180, 0, 0, 0, 0, []),
  (180, .iaload, 181, 0, 0, 0, 0, []),
  (181, .aload_n 0, 182, 0, 0, 0, 0, []),
  (182, .iload_n 3, 183, 0, 0, 0, 0, []),
  (183, .iconst 2, 184, 0, 0, 2, 0, []),
  (184, .iadd, 185, 0, 0, 0, 0, []),
  (185, .iaload, 186, 0, 0, 0, 0, []),
  (186, .aload_n 0, 187, 0, 0, 0, 0, []),
  (187, .iload_n 3, 188, 0, 0, 0, 0, []),
  (188, .iconst 3, 189, 0, 0, 3, 0, []),
  (189, .iadd, 190, 0, 0, 0, 0, []),
  (190, .iaload, 191, 0, 0, 0, 0, []),
  (191, .invokevirtual 17, 194, 119, 3, 0, 0, []),
  (194, .if_icmp .eq 1160, 197, 1354, 0, 0, 0, []),
  (197, .iconst 0, 198, 0, 0, 0, 0, []),
  (198, .ireturn, 199, 0, 0, 0, 0, []),
  (199, .aload_n 1, 200, 0, 0, 0, 0, []),
  (200, .aload_n 0, 201, 0, 0, 0, 0, []),
  (201, .iload_n 3, 202, 0, 0, 0, 0, []),
  (202, .iconst 1, 203, 0, 0, 1, 0, []),
  (203, .iadd, 204, 0, 0, 0, 0, []),
  (204, .iaload, 205, 0, 0, 0, 0, []),
  (205, .aload_n 0, 206, 0, 0, 0, 0, []),
  (206, .iload_n 3, 207, 0, 0, 0, 0, []),
  (207, .iconst 2, 208, 0, 0, 2, 0, []),
  (208, .iadd, 209, 0, 0, 0, 0, []),
  (209, .iaload, 210, 0, 0, 0, 0, []),
  (210, .aload_n 0, 211, 0, 0, 0, 0, []),
  (211, .iload_n 3, 212, 0, 0, 0, 0, []),
  (212, .iconst 3, 213, 0, 0, 3, 0, []),
  (213, .iadd, 214, 0, 0, 0, 0, []),
  (214, .iaload, 215, 0, 0, 0, 0, []),
  (215, .invokevirtual 18, 218, 9, 3, 0, 0, []),
  (218, .aload_n 2, 219, 0, 0, 0, 0, []),
  (219, .aload_n 0, 220, 0, 0, 0, 0, []),
  (220, .iload_n 3, 221, 0, 0, 0, 0, []),
  (221, .iconst 1, 222, 0, 0, 1, 0, []),
  (222, .iadd, 223, 0, 0, 0, 0, []),
  (223, .iaload, 224, 0, 0, 0, 0, []),
  (224, .aload_n 0, 225, 0, 0, 0, 0, []),
  (225, .iload_n 3, 226, 0, 0, 0, 0, []),
  (226, .iconst 2, 227, 0, 0, 2, 0, []),
  (227, .iadd, 228, 0, 0, 0, 0, []),
  (228, .iaload, 229, 0, 0, 0, 0, []),
  (229, .aload_n 0, 230, 0, 0, 0, 0, []),
  (230, .iload_n 3, 231, 0, 0, 0, 0, []),
  (231, .iconst 3, 232, 0, 0, 3, 0, []),
  (232, .iadd, 233, 0, 0, 0, 0, []),
  (233, .iaload, 234, 0, 0, 0, 0, []),
  (234, .invokevirtual 21, 237, 123, 3, 0, 0, []),
  (237, .if_icmp .eq 1117, 240, 1354, 0, 0, 0, []),
  (240, .iconst 0, 241, 0, 0, 0, 0, []),
  (241, .ireturn, 242, 0, 0, 0, 0, []),
  (242, .aload_n 1, 243, 0, 0, 0, 0, []),
  (243, .aload_n 0, 244, 0, 0, 0, 0, []),
  (244, .iload_n 3, 245, 0, 0, 0, 0, []),
  (245, .iconst 1, 246, 0, 0, 1, 0, []),
  (246, .iadd, 247, 0, 0, 0, 0, []),
  (247, .iaload, 248, 0, 0, 0, 0, []),
  (248, .aload_n 0, 249, 0, 0, 0, 0, []),
  (249, .iload_n 3, 250, 0, 0, 0, 0, []),
  (250, .iconst 2, 251, 0, 0, 2, 0, []),
  (251, .iadd, 252, 0, 0, 0, 0, []),
  (252, .iaload, 253, 0, 0, 0, 0, []),
  (253, .aload_n 0, 254, 0, 0, 0, 0, []),
  (254, .iload_n 3, 255, 0, 0, 0, 0, []),
  (255, .iconst 3, 256, 0, 0, 3, 0, []),
  (256, .iadd, 257, 0, 0, 0, 0, []),
  (257, .iaload, 258, 0, 0, 0, 0, []),
  (258, .aload_n 0, 259, 0, 0, 0, 0, []),
  (259, .iload_n 3, 260, 0, 0, 0, 0, []),
  (260, .iconst 4, 261, 0, 0, 4, 0, []),
  (261, .iadd, 262, 0, 0, 0, 0, []),
  (262, .iaload, 263, 0, 0, 0, 0, []),
  (263, .aload_n 0, 264, 0, 0, 0, 0, []),
  (264, .iload_n 3, 265, 0, 0, 0, 0, []),
  (265, .iconst 5, 266, 0, 0, 5, 0, []),
  (266, .iadd, 267, 0, 0, 0, 0, []),
  (267, .iaload, 268, 0, 0, 0, 0, []),
  (268, .invokevirtual 22, 271, 15, 5, 0, 0, []),
  (271, .aload_n 2, 272, 0, 0, 0, 0, []),
  (272, .aload_n 0, 273, 0, 0, 0, 0, []),
  (273, .iload_n 3, 274, 0, 0, 0, 0, [])]
noncomputable def t_StoneWorksLaw_law_1 : List En := [
  (274, .iconst 1, 275, 0, 0, 1, 0, []),
  (275, .iadd, 276, 0, 0, 0, 0, []),
  (276, .iaload, 277, 0, 0, 0, 0, []),
  (277, .aload_n 0, 278, 0, 0, 0, 0, []),
  (278, .iload_n 3, 279, 0, 0, 0, 0, []),
  (279, .iconst 2, 280, 0, 0, 2, 0, []),
  (280, .iadd, 281, 0, 0, 0, 0, []),
  (281, .iaload, 282, 0, 0, 0, 0, []),
  (282, .aload_n 0, 283, 0, 0, 0, 0, []),
  (283, .iload_n 3, 284, 0, 0, 0, 0, []),
  (284, .iconst 3, 285, 0, 0, 3, 0, []),
  (285, .iadd, 286, 0, 0, 0, 0, []),
  (286, .iaload, 287, 0, 0, 0, 0, []),
  (287, .aload_n 0, 288, 0, 0, 0, 0, []),
  (288, .iload_n 3, 289, 0, 0, 0, 0, []),
  (289, .iconst 4, 290, 0, 0, 4, 0, []),
  (290, .iadd, 291, 0, 0, 0, 0, []),
  (291, .iaload, 292, 0, 0, 0, 0, []),
  (292, .aload_n 0, 293, 0, 0, 0, 0, []),
  (293, .iload_n 3, 294, 0, 0, 0, 0, []),
  (294, .iconst 5, 295, 0, 0, 5, 0, []),
  (295, .iadd, 296, 0, 0, 0, 0, []),
  (296, .iaload, 297, 0, 0, 0, 0, []),
  (297, .invokevirtual 26, 300, 124, 5, 0, 0, []),
  (300, .if_icmp .eq 1054, 303, 1354, 0, 0, 0, []),
  (303, .iconst 0, 304, 0, 0, 0, 0, []),
  (304, .ireturn, 305, 0, 0, 0, 0, []),
  (305, .aload_n 1, 306, 0, 0, 0, 0, []),
  (306, .aload_n 0, 307, 0, 0, 0, 0, []),
  (307, .iload_n 3, 308, 0, 0, 0, 0, []),
  (308, .iconst 1, 309, 0, 0, 1, 0, []),
  (309, .iadd, 310, 0, 0, 0, 0, []),
  (310, .iaload, 311, 0, 0, 0, 0, []),
  (311, .invokevirtual 27, 314, 18, 1, 0, 0, []),
  (314, .aload_n 2, 315, 0, 0, 0, 0, []),
  (315, .aload_n 0, 316, 0, 0, 0, 0, []),
  (316, .iload_n 3, 317, 0, 0, 0, 0, []),
  (317, .iconst 1, 318, 0, 0, 1, 0, []),
  (318, .iadd, 319, 0, 0, 0, 0, []),
  (319, .iaload, 320, 0, 0, 0, 0, []),
  (320, .invokevirtual 31, 323, 125, 1, 0, 0, []),
  (323, .if_icmp .eq 1031, 326, 1354, 0, 0, 0, []),
  (326, .iconst 0, 327, 0, 0, 0, 0, []),
  (327, .ireturn, 328, 0, 0, 0, 0, []),
  (328, .aload_n 1, 329, 0, 0, 0, 0, []),
  (329, .aload_n 0, 330, 0, 0, 0, 0, []),
  (330, .iload_n 3, 331, 0, 0, 0, 0, []),
  (331, .iconst 1, 332, 0, 0, 1, 0, []),
  (332, .iadd, 333, 0, 0, 0, 0, []),
  (333, .iaload, 334, 0, 0, 0, 0, []),
  (334, .aload_n 0, 335, 0, 0, 0, 0, []),
  (335, .iload_n 3, 336, 0, 0, 0, 0, []),
  (336, .iconst 2, 337, 0, 0, 2, 0, []),
  (337, .iadd, 338, 0, 0, 0, 0, []),
  (338, .iaload, 339, 0, 0, 0, 0, []),
  (339, .invokevirtual 32, 342, 20, 2, 0, 0, []),
  (342, .aload_n 2, 343, 0, 0, 0, 0, []),
  (343, .aload_n 0, 344, 0, 0, 0, 0, []),
  (344, .iload_n 3, 345, 0, 0, 0, 0, []),
  (345, .iconst 1, 346, 0, 0, 1, 0, []),
  (346, .iadd, 347, 0, 0, 0, 0, []),
  (347, .iaload, 348, 0, 0, 0, 0, []),
  (348, .aload_n 0, 349, 0, 0, 0, 0, []),
  (349, .iload_n 3, 350, 0, 0, 0, 0, []),
  (350, .iconst 2, 351, 0, 0, 2, 0, []),
  (351, .iadd, 352, 0, 0, 0, 0, []),
  (352, .iaload, 353, 0, 0, 0, 0, []),
  (353, .invokevirtual 36, 356, 126, 2, 0, 0, []),
  (356, .if_icmp .eq 998, 359, 1354, 0, 0, 0, []),
  (359, .iconst 0, 360, 0, 0, 0, 0, []),
  (360, .ireturn, 361, 0, 0, 0, 0, []),
  (361, .aload_n 1, 362, 0, 0, 0, 0, []),
  (362, .aload_n 0, 363, 0, 0, 0, 0, []),
  (363, .iload_n 3, 364, 0, 0, 0, 0, []),
  (364, .iconst 1, 365, 0, 0, 1, 0, []),
  (365, .iadd, 366, 0, 0, 0, 0, []),
  (366, .iaload, 367, 0, 0, 0, 0, []),
  (367, .aload_n 0, 368, 0, 0, 0, 0, []),
  (368, .iload_n 3, 369, 0, 0, 0, 0, []),
  (369, .iconst 2, 370, 0, 0, 2, 0, []),
  (370, .iadd, 371, 0, 0, 0, 0, []),
  (371, .iaload, 372, 0, 0, 0, 0, []),
  (372, .invokevirtual 37, 375, 24, 2, 0, 0, []),
  (375, .aload_n 2, 376, 0, 0, 0, 0, []),
  (376, .aload_n 0, 377, 0, 0, 0, 0, []),
  (377, .iload_n 3, 378, 0, 0, 0, 0, []),
  (378, .iconst 1, 379, 0, 0, 1, 0, []),
  (379, .iadd, 380, 0, 0, 0, 0, []),
  (380, .iaload, 381, 0, 0, 0, 0, []),
  (381, .aload_n 0, 382, 0, 0, 0, 0, []),
  (382, .iload_n 3, 383, 0, 0, 0, 0, []),
  (383, .iconst 2, 384, 0, 0, 2, 0, []),
  (384, .iadd, 385, 0, 0, 0, 0, []),
  (385, .iaload, 386, 0, 0, 0, 0, []),
  (386, .invokevirtual 40, 389, 127, 2, 0, 0, []),
  (389, .if_icmp .eq 965, 392, 1354, 0, 0, 0, []),
  (392, .iconst 0, 393, 0, 0, 0, 0, []),
  (393, .ireturn, 394, 0, 0, 0, 0, []),
  (394, .aload_n 1, 395, 0, 0, 0, 0, []),
  (395, .aload_n 0, 396, 0, 0, 0, 0, []),
  (396, .iload_n 3, 397, 0, 0, 0, 0, []),
  (397, .iconst 1, 398, 0, 0, 1, 0, []),
  (398, .iadd, 399, 0, 0, 0, 0, []),
  (399, .iaload, 400, 0, 0, 0, 0, []),
  (400, .aload_n 0, 401, 0, 0, 0, 0, []),
  (401, .iload_n 3, 402, 0, 0, 0, 0, []),
  (402, .iconst 2, 403, 0, 0, 2, 0, []),
  (403, .iadd, 404, 0, 0, 0, 0, []),
  (404, .iaload, 405, 0, 0, 0, 0, []),
  (405, .aload_n 0, 406, 0, 0, 0, 0, []),
  (406, .iload_n 3, 407, 0, 0, 0, 0, []),
  (407, .iconst 3, 408, 0, 0, 3, 0, []),
  (408, .iadd, 409, 0, 0, 0, 0, []),
  (409, .iaload, 410, 0, 0, 0, 0, []),
  (410, .invokevirtual 41, 413, 29, 3, 0, 0, []),
  (413, .aload_n 2, 414, 0, 0, 0, 0, []),
  (414, .aload_n 0, 415, 0, 0, 0, 0, []),
  (415, .iload_n 3, 416, 0, 0, 0, 0, []),
  (416, .iconst 1, 417, 0, 0, 1, 0, []),
  (417, .iadd, 418, 0, 0, 0, 0, [])]
noncomputable def t_StoneWorksLaw_law_2 : List En := [
  (418, .iaload, 419, 0, 0, 0, 0, []),
  (419, .aload_n 0, 420, 0, 0, 0, 0, []),
  (420, .iload_n 3, 421, 0, 0, 0, 0, []),
  (421, .iconst 2, 422, 0, 0, 2, 0, []),
  (422, .iadd, 423, 0, 0, 0, 0, []),
  (423, .iaload, 424, 0, 0, 0, 0, []),
  (424, .aload_n 0, 425, 0, 0, 0, 0, []),
  (425, .iload_n 3, 426, 0, 0, 0, 0, []),
  (426, .iconst 3, 427, 0, 0, 3, 0, []),
  (427, .iadd, 428, 0, 0, 0, 0, []),
  (428, .iaload, 429, 0, 0, 0, 0, []),
  (429, .invokevirtual 44, 432, 129, 3, 0, 0, []),
  (432, .if_icmp .eq 922, 435, 1354, 0, 0, 0, []),
  (435, .iconst 0, 436, 0, 0, 0, 0, []),
  (436, .ireturn, 437, 0, 0, 0, 0, []),
  (437, .aload_n 1, 438, 0, 0, 0, 0, []),
  (438, .aload_n 0, 439, 0, 0, 0, 0, []),
  (439, .iload_n 3, 440, 0, 0, 0, 0, []),
  (440, .iconst 1, 441, 0, 0, 1, 0, []),
  (441, .iadd, 442, 0, 0, 0, 0, []),
  (442, .iaload, 443, 0, 0, 0, 0, []),
  (443, .aload_n 0, 444, 0, 0, 0, 0, []),
  (444, .iload_n 3, 445, 0, 0, 0, 0, []),
  (445, .iconst 2, 446, 0, 0, 2, 0, []),
  (446, .iadd, 447, 0, 0, 0, 0, []),
  (447, .iaload, 448, 0, 0, 0, 0, []),
  (448, .invokevirtual 45, 451, 31, 2, 0, 0, []),
  (451, .aload_n 2, 452, 0, 0, 0, 0, []),
  (452, .aload_n 0, 453, 0, 0, 0, 0, []),
  (453, .iload_n 3, 454, 0, 0, 0, 0, []),
  (454, .iconst 1, 455, 0, 0, 1, 0, []),
  (455, .iadd, 456, 0, 0, 0, 0, []),
  (456, .iaload, 457, 0, 0, 0, 0, []),
  (457, .aload_n 0, 458, 0, 0, 0, 0, []),
  (458, .iload_n 3, 459, 0, 0, 0, 0, []),
  (459, .iconst 2, 460, 0, 0, 2, 0, []),
  (460, .iadd, 461, 0, 0, 0, 0, []),
  (461, .iaload, 462, 0, 0, 0, 0, []),
  (462, .invokevirtual 48, 465, 131, 2, 0, 0, []),
  (465, .if_icmp .eq 889, 468, 1354, 0, 0, 0, []),
  (468, .iconst 0, 469, 0, 0, 0, 0, []),
  (469, .ireturn, 470, 0, 0, 0, 0, []),
  (470, .aload_n 1, 471, 0, 0, 0, 0, []),
  (471, .aload_n 0, 472, 0, 0, 0, 0, []),
  (472, .iload_n 3, 473, 0, 0, 0, 0, []),
  (473, .iconst 1, 474, 0, 0, 1, 0, []),
  (474, .iadd, 475, 0, 0, 0, 0, []),
  (475, .iaload, 476, 0, 0, 0, 0, []),
  (476, .aload_n 0, 477, 0, 0, 0, 0, []),
  (477, .iload_n 3, 478, 0, 0, 0, 0, []),
  (478, .iconst 2, 479, 0, 0, 2, 0, []),
  (479, .iadd, 480, 0, 0, 0, 0, []),
  (480, .iaload, 481, 0, 0, 0, 0, []),
  (481, .invokevirtual 49, 484, 36, 2, 0, 0, []),
  (484, .aload_n 2, 485, 0, 0, 0, 0, []),
  (485, .aload_n 0, 486, 0, 0, 0, 0, []),
  (486, .iload_n 3, 487, 0, 0, 0, 0, []),
  (487, .iconst 1, 488, 0, 0, 1, 0, []),
  (488, .iadd, 489, 0, 0, 0, 0, []),
  (489, .iaload, 490, 0, 0, 0, 0, []),
  (490, .aload_n 0, 491, 0, 0, 0, 0, []),
  (491, .iload_n 3, 492, 0, 0, 0, 0, []),
  (492, .iconst 2, 493, 0, 0, 2, 0, []),
  (493, .iadd, 494, 0, 0, 0, 0, []),
  (494, .iaload, 495, 0, 0, 0, 0, []),
  (495, .invokevirtual 52, 498, 133, 2, 0, 0, []),
  (498, .if_icmp .eq 856, 501, 1354, 0, 0, 0, []),
  (501, .iconst 0, 502, 0, 0, 0, 0, []),
  (502, .ireturn, 503, 0, 0, 0, 0, []),
  (503, .aload_n 1, 504, 0, 0, 0, 0, []),
  (504, .aload_n 0, 505, 0, 0, 0, 0, []),
  (505, .iload_n 3, 506, 0, 0, 0, 0, []),
  (506, .iconst 1, 507, 0, 0, 1, 0, []),
  (507, .iadd, 508, 0, 0, 0, 0, []),
  (508, .iaload, 509, 0, 0, 0, 0, []),
  (509, .invokevirtual 53, 512, 39, 1, 0, 0, []),
  (512, .aload_n 2, 513, 0, 0, 0, 0, []),
  (513, .aload_n 0, 514, 0, 0, 0, 0, []),
  (514, .iload_n 3, 515, 0, 0, 0, 0, []),
  (515, .iconst 1, 516, 0, 0, 1, 0, []),
  (516, .iadd, 517, 0, 0, 0, 0, []),
  (517, .iaload, 518, 0, 0, 0, 0, []),
  (518, .invokevirtual 56, 521, 135, 1, 0, 0, []),
  (521, .if_icmp .eq 833, 524, 1354, 0, 0, 0, []),
  (524, .iconst 0, 525, 0, 0, 0, 0, []),
  (525, .ireturn, 526, 0, 0, 0, 0, []),
  (526, .aload_n 1, 527, 0, 0, 0, 0, []),
  (527, .aload_n 0, 528, 0, 0, 0, 0, []),
  (528, .iload_n 3, 529, 0, 0, 0, 0, []),
  (529, .iconst 1, 530, 0, 0, 1, 0, []),
  (530, .iadd, 531, 0, 0, 0, 0, []),
  (531, .iaload, 532, 0, 0, 0, 0, []),
  (532, .aload_n 0, 533, 0, 0, 0, 0, []),
  (533, .iload_n 3, 534, 0, 0, 0, 0, []),
  (534, .iconst 2, 535, 0, 0, 2, 0, []),
  (535, .iadd, 536, 0, 0, 0, 0, []),
  (536, .iaload, 537, 0, 0, 0, 0, []),
  (537, .aload_n 0, 538, 0, 0, 0, 0, []),
  (538, .iload_n 3, 539, 0, 0, 0, 0, []),
  (539, .iconst 3, 540, 0, 0, 3, 0, []),
  (540, .iadd, 541, 0, 0, 0, 0, []),
  (541, .iaload, 542, 0, 0, 0, 0, []),
  (542, .aload_n 0, 543, 0, 0, 0, 0, []),
  (543, .iload_n 3, 544, 0, 0, 0, 0, []),
  (544, .iconst 4, 545, 0, 0, 4, 0, []),
  (545, .iadd, 546, 0, 0, 0, 0, []),
  (546, .iaload, 547, 0, 0, 0, 0, []),
  (547, .invokevirtual 57, 550, 42, 4, 0, 0, []),
  (550, .aload_n 2, 551, 0, 0, 0, 0, []),
  (551, .aload_n 0, 552, 0, 0, 0, 0, []),
  (552, .iload_n 3, 553, 0, 0, 0, 0, []),
  (553, .iconst 1, 554, 0, 0, 1, 0, []),
  (554, .iadd, 555, 0, 0, 0, 0, []),
  (555, .iaload, 556, 0, 0, 0, 0, []),
  (556, .aload_n 0, 557, 0, 0, 0, 0, []),
  (557, .iload_n 3, 558, 0, 0, 0, 0, []),
  (558, .iconst 2, 559, 0, 0, 2, 0, []),
  (559, .iadd, 560, 0, 0, 0, 0, []),
  (560, .iaload, 561, 0, 0, 0, 0, []),
  (561, .aload_n 0, 562, 0, 0, 0, 0, [])]
noncomputable def t_StoneWorksLaw_law_3 : List En := [
  (562, .iload_n 3, 563, 0, 0, 0, 0, []),
  (563, .iconst 3, 564, 0, 0, 3, 0, []),
  (564, .iadd, 565, 0, 0, 0, 0, []),
  (565, .iaload, 566, 0, 0, 0, 0, []),
  (566, .aload_n 0, 567, 0, 0, 0, 0, []),
  (567, .iload_n 3, 568, 0, 0, 0, 0, []),
  (568, .iconst 4, 569, 0, 0, 4, 0, []),
  (569, .iadd, 570, 0, 0, 0, 0, []),
  (570, .iaload, 571, 0, 0, 0, 0, []),
  (571, .invokevirtual 61, 574, 136, 4, 0, 0, []),
  (574, .if_icmp .eq 780, 577, 1354, 0, 0, 0, []),
  (577, .iconst 0, 578, 0, 0, 0, 0, []),
  (578, .ireturn, 579, 0, 0, 0, 0, []),
  (579, .aload_n 1, 580, 0, 0, 0, 0, []),
  (580, .aload_n 0, 581, 0, 0, 0, 0, []),
  (581, .iload_n 3, 582, 0, 0, 0, 0, []),
  (582, .iconst 1, 583, 0, 0, 1, 0, []),
  (583, .iadd, 584, 0, 0, 0, 0, []),
  (584, .iaload, 585, 0, 0, 0, 0, []),
  (585, .aload_n 0, 586, 0, 0, 0, 0, []),
  (586, .iload_n 3, 587, 0, 0, 0, 0, []),
  (587, .iconst 2, 588, 0, 0, 2, 0, []),
  (588, .iadd, 589, 0, 0, 0, 0, []),
  (589, .iaload, 590, 0, 0, 0, 0, []),
  (590, .invokevirtual 62, 593, 54, 2, 0, 0, []),
  (593, .aload_n 2, 594, 0, 0, 0, 0, []),
  (594, .aload_n 0, 595, 0, 0, 0, 0, []),
  (595, .iload_n 3, 596, 0, 0, 0, 0, []),
  (596, .iconst 1, 597, 0, 0, 1, 0, []),
  (597, .iadd, 598, 0, 0, 0, 0, []),
  (598, .iaload, 599, 0, 0, 0, 0, []),
  (599, .aload_n 0, 600, 0, 0, 0, 0, []),
  (600, .iload_n 3, 601, 0, 0, 0, 0, []),
  (601, .iconst 2, 602, 0, 0, 2, 0, []),
  (602, .iadd, 603, 0, 0, 0, 0, []),
  (603, .iaload, 604, 0, 0, 0, 0, []),
  (604, .invokevirtual 65, 607, 139, 2, 0, 0, []),
  (607, .if_icmp .eq 747, 610, 1354, 0, 0, 0, []),
  (610, .iconst 0, 611, 0, 0, 0, 0, []),
  (611, .ireturn, 612, 0, 0, 0, 0, []),
  (612, .aload_n 1, 613, 0, 0, 0, 0, []),
  (613, .aload_n 0, 614, 0, 0, 0, 0, []),
  (614, .iload_n 3, 615, 0, 0, 0, 0, []),
  (615, .iconst 1, 616, 0, 0, 1, 0, []),
  (616, .iadd, 617, 0, 0, 0, 0, []),
  (617, .iaload, 618, 0, 0, 0, 0, []),
  (618, .aload_n 0, 619, 0, 0, 0, 0, []),
  (619, .iload_n 3, 620, 0, 0, 0, 0, []),
  (620, .iconst 2, 621, 0, 0, 2, 0, []),
  (621, .iadd, 622, 0, 0, 0, 0, []),
  (622, .iaload, 623, 0, 0, 0, 0, []),
  (623, .invokevirtual 66, 626, 59, 2, 0, 0, []),
  (626, .aload_n 2, 627, 0, 0, 0, 0, []),
  (627, .aload_n 0, 628, 0, 0, 0, 0, []),
  (628, .iload_n 3, 629, 0, 0, 0, 0, []),
  (629, .iconst 1, 630, 0, 0, 1, 0, []),
  (630, .iadd, 631, 0, 0, 0, 0, []),
  (631, .iaload, 632, 0, 0, 0, 0, []),
  (632, .aload_n 0, 633, 0, 0, 0, 0, []),
  (633, .iload_n 3, 634, 0, 0, 0, 0, []),
  (634, .iconst 2, 635, 0, 0, 2, 0, []),
  (635, .iadd, 636, 0, 0, 0, 0, []),
  (636, .iaload, 637, 0, 0, 0, 0, []),
  (637, .invokevirtual 69, 640, 142, 2, 0, 0, []),
  (640, .if_icmp .eq 714, 643, 1354, 0, 0, 0, []),
  (643, .iconst 0, 644, 0, 0, 0, 0, []),
  (644, .ireturn, 645, 0, 0, 0, 0, []),
  (645, .aload_n 1, 646, 0, 0, 0, 0, []),
  (646, .aload_n 0, 647, 0, 0, 0, 0, []),
  (647, .iload_n 3, 648, 0, 0, 0, 0, []),
  (648, .iconst 1, 649, 0, 0, 1, 0, []),
  (649, .iadd, 650, 0, 0, 0, 0, []),
  (650, .iaload, 651, 0, 0, 0, 0, []),
  (651, .aload_n 0, 652, 0, 0, 0, 0, []),
  (652, .iload_n 3, 653, 0, 0, 0, 0, []),
  (653, .iconst 2, 654, 0, 0, 2, 0, []),
  (654, .iadd, 655, 0, 0, 0, 0, []),
  (655, .iaload, 656, 0, 0, 0, 0, []),
  (656, .aload_n 0, 657, 0, 0, 0, 0, []),
  (657, .iload_n 3, 658, 0, 0, 0, 0, []),
  (658, .iconst 3, 659, 0, 0, 3, 0, []),
  (659, .iadd, 660, 0, 0, 0, 0, []),
  (660, .iaload, 661, 0, 0, 0, 0, []),
  (661, .aload_n 0, 662, 0, 0, 0, 0, []),
  (662, .iload_n 3, 663, 0, 0, 0, 0, []),
  (663, .iconst 4, 664, 0, 0, 4, 0, []),
  (664, .iadd, 665, 0, 0, 0, 0, []),
  (665, .iaload, 666, 0, 0, 0, 0, []),
  (666, .invokevirtual 70, 669, 62, 4, 0, 0, []),
  (669, .aload_n 2, 670, 0, 0, 0, 0, []),
  (670, .aload_n 0, 671, 0, 0, 0, 0, []),
  (671, .iload_n 3, 672, 0, 0, 0, 0, []),
  (672, .iconst 1, 673, 0, 0, 1, 0, []),
  (673, .iadd, 674, 0, 0, 0, 0, []),
  (674, .iaload, 675, 0, 0, 0, 0, []),
  (675, .aload_n 0, 676, 0, 0, 0, 0, []),
  (676, .iload_n 3, 677, 0, 0, 0, 0, []),
  (677, .iconst 2, 678, 0, 0, 2, 0, []),
  (678, .iadd, 679, 0, 0, 0, 0, []),
  (679, .iaload, 680, 0, 0, 0, 0, []),
  (680, .aload_n 0, 681, 0, 0, 0, 0, []),
  (681, .iload_n 3, 682, 0, 0, 0, 0, []),
  (682, .iconst 3, 683, 0, 0, 3, 0, []),
  (683, .iadd, 684, 0, 0, 0, 0, []),
  (684, .iaload, 685, 0, 0, 0, 0, []),
  (685, .aload_n 0, 686, 0, 0, 0, 0, []),
  (686, .iload_n 3, 687, 0, 0, 0, 0, []),
  (687, .iconst 4, 688, 0, 0, 4, 0, []),
  (688, .iadd, 689, 0, 0, 0, 0, []),
  (689, .iaload, 690, 0, 0, 0, 0, []),
  (690, .invokevirtual 73, 693, 143, 4, 0, 0, []),
  (693, .if_icmp .eq 661, 696, 1354, 0, 0, 0, []),
  (696, .iconst 0, 697, 0, 0, 0, 0, []),
  (697, .ireturn, 698, 0, 0, 0, 0, []),
  (698, .aload_n 1, 699, 0, 0, 0, 0, []),
  (699, .aload_n 0, 700, 0, 0, 0, 0, []),
  (700, .iload_n 3, 701, 0, 0, 0, 0, []),
  (701, .iconst 1, 702, 0, 0, 1, 0, []),
  (702, .iadd, 703, 0, 0, 0, 0, []),
  (703, .iaload, 704, 0, 0, 0, 0, [])]
noncomputable def t_StoneWorksLaw_law_4 : List En := [
  (704, .aload_n 0, 705, 0, 0, 0, 0, []),
  (705, .iload_n 3, 706, 0, 0, 0, 0, []),
  (706, .iconst 2, 707, 0, 0, 2, 0, []),
  (707, .iadd, 708, 0, 0, 0, 0, []),
  (708, .iaload, 709, 0, 0, 0, 0, []),
  (709, .aload_n 0, 710, 0, 0, 0, 0, []),
  (710, .iload_n 3, 711, 0, 0, 0, 0, []),
  (711, .iconst 3, 712, 0, 0, 3, 0, []),
  (712, .iadd, 713, 0, 0, 0, 0, []),
  (713, .iaload, 714, 0, 0, 0, 0, []),
  (714, .invokevirtual 74, 717, 65, 3, 0, 0, []),
  (717, .aload_n 2, 718, 0, 0, 0, 0, []),
  (718, .aload_n 0, 719, 0, 0, 0, 0, []),
  (719, .iload_n 3, 720, 0, 0, 0, 0, []),
  (720, .iconst 1, 721, 0, 0, 1, 0, []),
  (721, .iadd, 722, 0, 0, 0, 0, []),
  (722, .iaload, 723, 0, 0, 0, 0, []),
  (723, .aload_n 0, 724, 0, 0, 0, 0, []),
  (724, .iload_n 3, 725, 0, 0, 0, 0, []),
  (725, .iconst 2, 726, 0, 0, 2, 0, []),
  (726, .iadd, 727, 0, 0, 0, 0, []),
  (727, .iaload, 728, 0, 0, 0, 0, []),
  (728, .aload_n 0, 729, 0, 0, 0, 0, []),
  (729, .iload_n 3, 730, 0, 0, 0, 0, []),
  (730, .iconst 3, 731, 0, 0, 3, 0, []),
  (731, .iadd, 732, 0, 0, 0, 0, []),
  (732, .iaload, 733, 0, 0, 0, 0, []),
  (733, .invokevirtual 77, 736, 147, 3, 0, 0, []),
  (736, .if_icmp .eq 618, 739, 1354, 0, 0, 0, []),
  (739, .iconst 0, 740, 0, 0, 0, 0, []),
  (740, .ireturn, 741, 0, 0, 0, 0, []),
  (741, .aload_n 1, 742, 0, 0, 0, 0, []),
  (742, .aload_n 0, 743, 0, 0, 0, 0, []),
  (743, .iload_n 3, 744, 0, 0, 0, 0, []),
  (744, .iconst 1, 745, 0, 0, 1, 0, []),
  (745, .iadd, 746, 0, 0, 0, 0, []),
  (746, .iaload, 747, 0, 0, 0, 0, []),
  (747, .aload_n 0, 748, 0, 0, 0, 0, []),
  (748, .iload_n 3, 749, 0, 0, 0, 0, []),
  (749, .iconst 2, 750, 0, 0, 2, 0, []),
  (750, .iadd, 751, 0, 0, 0, 0, []),
  (751, .iaload, 752, 0, 0, 0, 0, []),
  (752, .aload_n 0, 753, 0, 0, 0, 0, []),
  (753, .iload_n 3, 754, 0, 0, 0, 0, []),
  (754, .iconst 3, 755, 0, 0, 3, 0, []),
  (755, .iadd, 756, 0, 0, 0, 0, []),
  (756, .iaload, 757, 0, 0, 0, 0, []),
  (757, .aload_n 0, 758, 0, 0, 0, 0, []),
  (758, .iload_n 3, 759, 0, 0, 0, 0, []),
  (759, .iconst 4, 760, 0, 0, 4, 0, []),
  (760, .iadd, 761, 0, 0, 0, 0, []),
  (761, .iaload, 762, 0, 0, 0, 0, []),
  (762, .aload_n 0, 763, 0, 0, 0, 0, []),
  (763, .iload_n 3, 764, 0, 0, 0, 0, []),
  (764, .iconst 5, 765, 0, 0, 5, 0, []),
  (765, .iadd, 766, 0, 0, 0, 0, []),
  (766, .iaload, 767, 0, 0, 0, 0, []),
  (767, .aload_n 0, 768, 0, 0, 0, 0, []),
  (768, .iload_n 3, 769, 0, 0, 0, 0, []),
  (769, .bipush 6, 771, 0, 0, 6, 0, []),
  (771, .iadd, 772, 0, 0, 0, 0, []),
  (772, .iaload, 773, 0, 0, 0, 0, []),
  (773, .aload_n 0, 774, 0, 0, 0, 0, []),
  (774, .iload_n 3, 775, 0, 0, 0, 0, []),
  (775, .bipush 7, 777, 0, 0, 7, 0, []),
  (777, .iadd, 778, 0, 0, 0, 0, []),
  (778, .iaload, 779, 0, 0, 0, 0, []),
  (779, .aload_n 0, 780, 0, 0, 0, 0, []),
  (780, .iload_n 3, 781, 0, 0, 0, 0, []),
  (781, .bipush 8, 783, 0, 0, 8, 0, []),
  (783, .iadd, 784, 0, 0, 0, 0, []),
  (784, .iaload, 785, 0, 0, 0, 0, []),
  (785, .invokevirtual 78, 788, 67, 8, 0, 0, []),
  (788, .aload_n 2, 789, 0, 0, 0, 0, []),
  (789, .aload_n 0, 790, 0, 0, 0, 0, []),
  (790, .iload_n 3, 791, 0, 0, 0, 0, []),
  (791, .iconst 1, 792, 0, 0, 1, 0, []),
  (792, .iadd, 793, 0, 0, 0, 0, []),
  (793, .iaload, 794, 0, 0, 0, 0, []),
  (794, .aload_n 0, 795, 0, 0, 0, 0, []),
  (795, .iload_n 3, 796, 0, 0, 0, 0, []),
  (796, .iconst 2, 797, 0, 0, 2, 0, []),
  (797, .iadd, 798, 0, 0, 0, 0, []),
  (798, .iaload, 799, 0, 0, 0, 0, []),
  (799, .aload_n 0, 800, 0, 0, 0, 0, []),
  (800, .iload_n 3, 801, 0, 0, 0, 0, []),
  (801, .iconst 3, 802, 0, 0, 3, 0, []),
  (802, .iadd, 803, 0, 0, 0, 0, []),
  (803, .iaload, 804, 0, 0, 0, 0, []),
  (804, .aload_n 0, 805, 0, 0, 0, 0, []),
  (805, .iload_n 3, 806, 0, 0, 0, 0, []),
  (806, .iconst 4, 807, 0, 0, 4, 0, []),
  (807, .iadd, 808, 0, 0, 0, 0, []),
  (808, .iaload, 809, 0, 0, 0, 0, []),
  (809, .aload_n 0, 810, 0, 0, 0, 0, []),
  (810, .iload_n 3, 811, 0, 0, 0, 0, []),
  (811, .iconst 5, 812, 0, 0, 5, 0, []),
  (812, .iadd, 813, 0, 0, 0, 0, []),
  (813, .iaload, 814, 0, 0, 0, 0, []),
  (814, .aload_n 0, 815, 0, 0, 0, 0, []),
  (815, .iload_n 3, 816, 0, 0, 0, 0, []),
  (816, .bipush 6, 818, 0, 0, 6, 0, []),
  (818, .iadd, 819, 0, 0, 0, 0, []),
  (819, .iaload, 820, 0, 0, 0, 0, []),
  (820, .aload_n 0, 821, 0, 0, 0, 0, []),
  (821, .iload_n 3, 822, 0, 0, 0, 0, []),
  (822, .bipush 7, 824, 0, 0, 7, 0, []),
  (824, .iadd, 825, 0, 0, 0, 0, []),
  (825, .iaload, 826, 0, 0, 0, 0, []),
  (826, .aload_n 0, 827, 0, 0, 0, 0, []),
  (827, .iload_n 3, 828, 0, 0, 0, 0, []),
  (828, .bipush 8, 830, 0, 0, 8, 0, []),
  (830, .iadd, 831, 0, 0, 0, 0, []),
  (831, .iaload, 832, 0, 0, 0, 0, []),
  (832, .invokevirtual 82, 835, 149, 8, 0, 0, []),
  (835, .if_icmp .eq 519, 838, 1354, 0, 0, 0, []),
  (838, .iconst 0, 839, 0, 0, 0, 0, []),
  (839, .ireturn, 840, 0, 0, 0, 0, []),
  (840, .aload_n 1, 841, 0, 0, 0, 0, []),
  (841, .aload_n 0, 842, 0, 0, 0, 0, [])]
noncomputable def t_StoneWorksLaw_law_5 : List En := [
  (842, .iload_n 3, 843, 0, 0, 0, 0, []),
  (843, .iconst 1, 844, 0, 0, 1, 0, []),
  (844, .iadd, 845, 0, 0, 0, 0, []),
  (845, .iaload, 846, 0, 0, 0, 0, []),
  (846, .aload_n 0, 847, 0, 0, 0, 0, []),
  (847, .iload_n 3, 848, 0, 0, 0, 0, []),
  (848, .iconst 2, 849, 0, 0, 2, 0, []),
  (849, .iadd, 850, 0, 0, 0, 0, []),
  (850, .iaload, 851, 0, 0, 0, 0, []),
  (851, .aload_n 0, 852, 0, 0, 0, 0, []),
  (852, .iload_n 3, 853, 0, 0, 0, 0, []),
  (853, .iconst 3, 854, 0, 0, 3, 0, []),
  (854, .iadd, 855, 0, 0, 0, 0, []),
  (855, .iaload, 856, 0, 0, 0, 0, []),
  (856, .aload_n 0, 857, 0, 0, 0, 0, []),
  (857, .iload_n 3, 858, 0, 0, 0, 0, []),
  (858, .iconst 4, 859, 0, 0, 4, 0, []),
  (859, .iadd, 860, 0, 0, 0, 0, []),
  (860, .iaload, 861, 0, 0, 0, 0, []),
  (861, .invokevirtual 83, 864, 70, 4, 0, 0, []),
  (864, .aload_n 2, 865, 0, 0, 0, 0, []),
  (865, .aload_n 0, 866, 0, 0, 0, 0, []),
  (866, .iload_n 3, 867, 0, 0, 0, 0, []),
  (867, .iconst 1, 868, 0, 0, 1, 0, []),
  (868, .iadd, 869, 0, 0, 0, 0, []),
  (869, .iaload, 870, 0, 0, 0, 0, []),
  (870, .aload_n 0, 871, 0, 0, 0, 0, []),
  (871, .iload_n 3, 872, 0, 0, 0, 0, []),
  (872, .iconst 2, 873, 0, 0, 2, 0, []),
  (873, .iadd, 874, 0, 0, 0, 0, []),
  (874, .iaload, 875, 0, 0, 0, 0, []),
  (875, .aload_n 0, 876, 0, 0, 0, 0, []),
  (876, .iload_n 3, 877, 0, 0, 0, 0, []),
  (877, .iconst 3, 878, 0, 0, 3, 0, []),
  (878, .iadd, 879, 0, 0, 0, 0, []),
  (879, .iaload, 880, 0, 0, 0, 0, []),
  (880, .aload_n 0, 881, 0, 0, 0, 0, []),
  (881, .iload_n 3, 882, 0, 0, 0, 0, []),
  (882, .iconst 4, 883, 0, 0, 4, 0, []),
  (883, .iadd, 884, 0, 0, 0, 0, []),
  (884, .iaload, 885, 0, 0, 0, 0, []),
  (885, .invokevirtual 86, 888, 150, 4, 0, 0, []),
  (888, .if_icmp .eq 466, 891, 1354, 0, 0, 0, []),
  (891, .iconst 0, 892, 0, 0, 0, 0, []),
  (892, .ireturn, 893, 0, 0, 0, 0, []),
  (893, .aload_n 1, 894, 0, 0, 0, 0, []),
  (894, .aload_n 0, 895, 0, 0, 0, 0, []),
  (895, .iload_n 3, 896, 0, 0, 0, 0, []),
  (896, .iconst 1, 897, 0, 0, 1, 0, []),
  (897, .iadd, 898, 0, 0, 0, 0, []),
  (898, .iaload, 899, 0, 0, 0, 0, []),
  (899, .aload_n 0, 900, 0, 0, 0, 0, []),
  (900, .iload_n 3, 901, 0, 0, 0, 0, []),
  (901, .iconst 2, 902, 0, 0, 2, 0, []),
  (902, .iadd, 903, 0, 0, 0, 0, []),
  (903, .iaload, 904, 0, 0, 0, 0, []),
  (904, .aload_n 0, 905, 0, 0, 0, 0, []),
  (905, .iload_n 3, 906, 0, 0, 0, 0, []),
  (906, .iconst 3, 907, 0, 0, 3, 0, []),
  (907, .iadd, 908, 0, 0, 0, 0, []),
  (908, .iaload, 909, 0, 0, 0, 0, []),
  (909, .aload_n 0, 910, 0, 0, 0, 0, []),
  (910, .iload_n 3, 911, 0, 0, 0, 0, []),
  (911, .iconst 4, 912, 0, 0, 4, 0, []),
  (912, .iadd, 913, 0, 0, 0, 0, []),
  (913, .iaload, 914, 0, 0, 0, 0, []),
  (914, .aload_n 0, 915, 0, 0, 0, 0, []),
  (915, .iload_n 3, 916, 0, 0, 0, 0, []),
  (916, .iconst 5, 917, 0, 0, 5, 0, []),
  (917, .iadd, 918, 0, 0, 0, 0, []),
  (918, .iaload, 919, 0, 0, 0, 0, []),
  (919, .aload_n 0, 920, 0, 0, 0, 0, []),
  (920, .iload_n 3, 921, 0, 0, 0, 0, []),
  (921, .bipush 6, 923, 0, 0, 6, 0, []),
  (923, .iadd, 924, 0, 0, 0, 0, []),
  (924, .iaload, 925, 0, 0, 0, 0, []),
  (925, .invokevirtual 87, 928, 76, 6, 0, 0, []),
  (928, .aload_n 2, 929, 0, 0, 0, 0, []),
  (929, .aload_n 0, 930, 0, 0, 0, 0, []),
  (930, .iload_n 3, 931, 0, 0, 0, 0, []),
  (931, .iconst 1, 932, 0, 0, 1, 0, []),
  (932, .iadd, 933, 0, 0, 0, 0, []),
  (933, .iaload, 934, 0, 0, 0, 0, []),
  (934, .aload_n 0, 935, 0, 0, 0, 0, []),
  (935, .iload_n 3, 936, 0, 0, 0, 0, []),
  (936, .iconst 2, 937, 0, 0, 2, 0, []),
  (937, .iadd, 938, 0, 0, 0, 0, []),
  (938, .iaload, 939, 0, 0, 0, 0, []),
  (939, .aload_n 0, 940, 0, 0, 0, 0, []),
  (940, .iload_n 3, 941, 0, 0, 0, 0, []),
  (941, .iconst 3, 942, 0, 0, 3, 0, []),
  (942, .iadd, 943, 0, 0, 0, 0, []),
  (943, .iaload, 944, 0, 0, 0, 0, []),
  (944, .aload_n 0, 945, 0, 0, 0, 0, []),
  (945, .iload_n 3, 946, 0, 0, 0, 0, []),
  (946, .iconst 4, 947, 0, 0, 4, 0, []),
  (947, .iadd, 948, 0, 0, 0, 0, []),
  (948, .iaload, 949, 0, 0, 0, 0, []),
  (949, .aload_n 0, 950, 0, 0, 0, 0, []),
  (950, .iload_n 3, 951, 0, 0, 0, 0, []),
  (951, .iconst 5, 952, 0, 0, 5, 0, []),
  (952, .iadd, 953, 0, 0, 0, 0, []),
  (953, .iaload, 954, 0, 0, 0, 0, []),
  (954, .aload_n 0, 955, 0, 0, 0, 0, []),
  (955, .iload_n 3, 956, 0, 0, 0, 0, []),
  (956, .bipush 6, 958, 0, 0, 6, 0, []),
  (958, .iadd, 959, 0, 0, 0, 0, []),
  (959, .iaload, 960, 0, 0, 0, 0, []),
  (960, .invokevirtual 91, 963, 155, 6, 0, 0, []),
  (963, .if_icmp .eq 391, 966, 1354, 0, 0, 0, []),
  (966, .iconst 0, 967, 0, 0, 0, 0, []),
  (967, .ireturn, 968, 0, 0, 0, 0, []),
  (968, .aload_n 1, 969, 0, 0, 0, 0, []),
  (969, .aload_n 0, 970, 0, 0, 0, 0, []),
  (970, .iload_n 3, 971, 0, 0, 0, 0, []),
  (971, .iconst 1, 972, 0, 0, 1, 0, []),
  (972, .iadd, 973, 0, 0, 0, 0, []),
  (973, .iaload, 974, 0, 0, 0, 0, []),
  (974, .aload_n 0, 975, 0, 0, 0, 0, []),
  (975, .iload_n 3, 976, 0, 0, 0, 0, [])]
noncomputable def t_StoneWorksLaw_law_6 : List En := [
  (976, .iconst 2, 977, 0, 0, 2, 0, []),
  (977, .iadd, 978, 0, 0, 0, 0, []),
  (978, .iaload, 979, 0, 0, 0, 0, []),
  (979, .aload_n 0, 980, 0, 0, 0, 0, []),
  (980, .iload_n 3, 981, 0, 0, 0, 0, []),
  (981, .iconst 3, 982, 0, 0, 3, 0, []),
  (982, .iadd, 983, 0, 0, 0, 0, []),
  (983, .iaload, 984, 0, 0, 0, 0, []),
  (984, .aload_n 0, 985, 0, 0, 0, 0, []),
  (985, .iload_n 3, 986, 0, 0, 0, 0, []),
  (986, .iconst 4, 987, 0, 0, 4, 0, []),
  (987, .iadd, 988, 0, 0, 0, 0, []),
  (988, .iaload, 989, 0, 0, 0, 0, []),
  (989, .aload_n 0, 990, 0, 0, 0, 0, []),
  (990, .iload_n 3, 991, 0, 0, 0, 0, []),
  (991, .iconst 5, 992, 0, 0, 5, 0, []),
  (992, .iadd, 993, 0, 0, 0, 0, []),
  (993, .iaload, 994, 0, 0, 0, 0, []),
  (994, .aload_n 0, 995, 0, 0, 0, 0, []),
  (995, .iload_n 3, 996, 0, 0, 0, 0, []),
  (996, .bipush 6, 998, 0, 0, 6, 0, []),
  (998, .iadd, 999, 0, 0, 0, 0, []),
  (999, .iaload, 1000, 0, 0, 0, 0, []),
  (1000, .invokevirtual 92, 1003, 80, 6, 0, 0, []),
  (1003, .aload_n 2, 1004, 0, 0, 0, 0, []),
  (1004, .aload_n 0, 1005, 0, 0, 0, 0, []),
  (1005, .iload_n 3, 1006, 0, 0, 0, 0, []),
  (1006, .iconst 1, 1007, 0, 0, 1, 0, []),
  (1007, .iadd, 1008, 0, 0, 0, 0, []),
  (1008, .iaload, 1009, 0, 0, 0, 0, []),
  (1009, .aload_n 0, 1010, 0, 0, 0, 0, []),
  (1010, .iload_n 3, 1011, 0, 0, 0, 0, []),
  (1011, .iconst 2, 1012, 0, 0, 2, 0, []),
  (1012, .iadd, 1013, 0, 0, 0, 0, []),
  (1013, .iaload, 1014, 0, 0, 0, 0, []),
  (1014, .aload_n 0, 1015, 0, 0, 0, 0, []),
  (1015, .iload_n 3, 1016, 0, 0, 0, 0, []),
  (1016, .iconst 3, 1017, 0, 0, 3, 0, []),
  (1017, .iadd, 1018, 0, 0, 0, 0, []),
  (1018, .iaload, 1019, 0, 0, 0, 0, []),
  (1019, .aload_n 0, 1020, 0, 0, 0, 0, []),
  (1020, .iload_n 3, 1021, 0, 0, 0, 0, []),
  (1021, .iconst 4, 1022, 0, 0, 4, 0, []),
  (1022, .iadd, 1023, 0, 0, 0, 0, []),
  (1023, .iaload, 1024, 0, 0, 0, 0, []),
  (1024, .aload_n 0, 1025, 0, 0, 0, 0, []),
  (1025, .iload_n 3, 1026, 0, 0, 0, 0, []),
  (1026, .iconst 5, 1027, 0, 0, 5, 0, []),
  (1027, .iadd, 1028, 0, 0, 0, 0, []),
  (1028, .iaload, 1029, 0, 0, 0, 0, []),
  (1029, .aload_n 0, 1030, 0, 0, 0, 0, []),
  (1030, .iload_n 3, 1031, 0, 0, 0, 0, []),
  (1031, .bipush 6, 1033, 0, 0, 6, 0, []),
  (1033, .iadd, 1034, 0, 0, 0, 0, []),
  (1034, .iaload, 1035, 0, 0, 0, 0, []),
  (1035, .invokevirtual 95, 1038, 156, 6, 0, 0, []),
  (1038, .if_icmp .eq 316, 1041, 1354, 0, 0, 0, []),
  (1041, .iconst 0, 1042, 0, 0, 0, 0, []),
  (1042, .ireturn, 1043, 0, 0, 0, 0, []),
  (1043, .aload_n 1, 1044, 0, 0, 0, 0, []),
  (1044, .aload_n 0, 1045, 0, 0, 0, 0, []),
  (1045, .iload_n 3, 1046, 0, 0, 0, 0, []),
  (1046, .iconst 1, 1047, 0, 0, 1, 0, []),
  (1047, .iadd, 1048, 0, 0, 0, 0, []),
  (1048, .iaload, 1049, 0, 0, 0, 0, []),
  (1049, .aload_n 0, 1050, 0, 0, 0, 0, []),
  (1050, .iload_n 3, 1051, 0, 0, 0, 0, []),
  (1051, .iconst 2, 1052, 0, 0, 2, 0, []),
  (1052, .iadd, 1053, 0, 0, 0, 0, []),
  (1053, .iaload, 1054, 0, 0, 0, 0, []),
  (1054, .aload_n 0, 1055, 0, 0, 0, 0, []),
  (1055, .iload_n 3, 1056, 0, 0, 0, 0, []),
  (1056, .iconst 3, 1057, 0, 0, 3, 0, []),
  (1057, .iadd, 1058, 0, 0, 0, 0, []),
  (1058, .iaload, 1059, 0, 0, 0, 0, []),
  (1059, .aload_n 0, 1060, 0, 0, 0, 0, []),
  (1060, .iload_n 3, 1061, 0, 0, 0, 0, []),
  (1061, .iconst 4, 1062, 0, 0, 4, 0, []),
  (1062, .iadd, 1063, 0, 0, 0, 0, []),
  (1063, .iaload, 1064, 0, 0, 0, 0, []),
  (1064, .aload_n 0, 1065, 0, 0, 0, 0, []),
  (1065, .iload_n 3, 1066, 0, 0, 0, 0, []),
  (1066, .iconst 5, 1067, 0, 0, 5, 0, []),
  (1067, .iadd, 1068, 0, 0, 0, 0, []),
  (1068, .iaload, 1069, 0, 0, 0, 0, []),
  (1069, .aload_n 0, 1070, 0, 0, 0, 0, []),
  (1070, .iload_n 3, 1071, 0, 0, 0, 0, []),
  (1071, .bipush 6, 1073, 0, 0, 6, 0, []),
  (1073, .iadd, 1074, 0, 0, 0, 0, []),
  (1074, .iaload, 1075, 0, 0, 0, 0, []),
  (1075, .aload_n 0, 1076, 0, 0, 0, 0, []),
  (1076, .iload_n 3, 1077, 0, 0, 0, 0, []),
  (1077, .bipush 7, 1079, 0, 0, 7, 0, []),
  (1079, .iadd, 1080, 0, 0, 0, 0, []),
  (1080, .iaload, 1081, 0, 0, 0, 0, []),
  (1081, .invokevirtual 96, 1084, 86, 7, 0, 0, []),
  (1084, .aload_n 2, 1085, 0, 0, 0, 0, []),
  (1085, .aload_n 0, 1086, 0, 0, 0, 0, []),
  (1086, .iload_n 3, 1087, 0, 0, 0, 0, []),
  (1087, .iconst 1, 1088, 0, 0, 1, 0, []),
  (1088, .iadd, 1089, 0, 0, 0, 0, []),
  (1089, .iaload, 1090, 0, 0, 0, 0, []),
  (1090, .aload_n 0, 1091, 0, 0, 0, 0, []),
  (1091, .iload_n 3, 1092, 0, 0, 0, 0, []),
  (1092, .iconst 2, 1093, 0, 0, 2, 0, []),
  (1093, .iadd, 1094, 0, 0, 0, 0, []),
  (1094, .iaload, 1095, 0, 0, 0, 0, []),
  (1095, .aload_n 0, 1096, 0, 0, 0, 0, []),
  (1096, .iload_n 3, 1097, 0, 0, 0, 0, []),
  (1097, .iconst 3, 1098, 0, 0, 3, 0, []),
  (1098, .iadd, 1099, 0, 0, 0, 0, []),
  (1099, .iaload, 1100, 0, 0, 0, 0, []),
  (1100, .aload_n 0, 1101, 0, 0, 0, 0, []),
  (1101, .iload_n 3, 1102, 0, 0, 0, 0, []),
  (1102, .iconst 4, 1103, 0, 0, 4, 0, []),
  (1103, .iadd, 1104, 0, 0, 0, 0, []),
  (1104, .iaload, 1105, 0, 0, 0, 0, []),
  (1105, .aload_n 0, 1106, 0, 0, 0, 0, []),
  (1106, .iload_n 3, 1107, 0, 0, 0, 0, []),
  (1107, .iconst 5, 1108, 0, 0, 5, 0, [])]
noncomputable def t_StoneWorksLaw_law_7 : List En := [
  (1108, .iadd, 1109, 0, 0, 0, 0, []),
  (1109, .iaload, 1110, 0, 0, 0, 0, []),
  (1110, .aload_n 0, 1111, 0, 0, 0, 0, []),
  (1111, .iload_n 3, 1112, 0, 0, 0, 0, []),
  (1112, .bipush 6, 1114, 0, 0, 6, 0, []),
  (1114, .iadd, 1115, 0, 0, 0, 0, []),
  (1115, .iaload, 1116, 0, 0, 0, 0, []),
  (1116, .aload_n 0, 1117, 0, 0, 0, 0, []),
  (1117, .iload_n 3, 1118, 0, 0, 0, 0, []),
  (1118, .bipush 7, 1120, 0, 0, 7, 0, []),
  (1120, .iadd, 1121, 0, 0, 0, 0, []),
  (1121, .iaload, 1122, 0, 0, 0, 0, []),
  (1122, .invokevirtual 100, 1125, 157, 7, 0, 0, []),
  (1125, .lcmp, 1126, 0, 0, 0, 0, []),
  (1126, .ifCond .eq 228, 1129, 1354, 0, 0, 0, []),
  (1129, .iconst 0, 1130, 0, 0, 0, 0, []),
  (1130, .ireturn, 1131, 0, 0, 0, 0, []),
  (1131, .aload_n 1, 1132, 0, 0, 0, 0, []),
  (1132, .aload_n 0, 1133, 0, 0, 0, 0, []),
  (1133, .iload_n 3, 1134, 0, 0, 0, 0, []),
  (1134, .iconst 1, 1135, 0, 0, 1, 0, []),
  (1135, .iadd, 1136, 0, 0, 0, 0, []),
  (1136, .iaload, 1137, 0, 0, 0, 0, []),
  (1137, .aload_n 0, 1138, 0, 0, 0, 0, []),
  (1138, .iload_n 3, 1139, 0, 0, 0, 0, []),
  (1139, .iconst 2, 1140, 0, 0, 2, 0, []),
  (1140, .iadd, 1141, 0, 0, 0, 0, []),
  (1141, .iaload, 1142, 0, 0, 0, 0, []),
  (1142, .aload_n 0, 1143, 0, 0, 0, 0, []),
  (1143, .iload_n 3, 1144, 0, 0, 0, 0, []),
  (1144, .iconst 3, 1145, 0, 0, 3, 0, []),
  (1145, .iadd, 1146, 0, 0, 0, 0, []),
  (1146, .iaload, 1147, 0, 0, 0, 0, []),
  (1147, .aload_n 0, 1148, 0, 0, 0, 0, []),
  (1148, .iload_n 3, 1149, 0, 0, 0, 0, []),
  (1149, .iconst 4, 1150, 0, 0, 4, 0, []),
  (1150, .iadd, 1151, 0, 0, 0, 0, []),
  (1151, .iaload, 1152, 0, 0, 0, 0, []),
  (1152, .aload_n 0, 1153, 0, 0, 0, 0, []),
  (1153, .iload_n 3, 1154, 0, 0, 0, 0, []),
  (1154, .iconst 5, 1155, 0, 0, 5, 0, []),
  (1155, .iadd, 1156, 0, 0, 0, 0, []),
  (1156, .iaload, 1157, 0, 0, 0, 0, []),
  (1157, .aload_n 0, 1158, 0, 0, 0, 0, []),
  (1158, .iload_n 3, 1159, 0, 0, 0, 0, []),
  (1159, .bipush 6, 1161, 0, 0, 6, 0, []),
  (1161, .iadd, 1162, 0, 0, 0, 0, []),
  (1162, .iaload, 1163, 0, 0, 0, 0, []),
  (1163, .invokevirtual 101, 1166, 90, 6, 0, 0, []),
  (1166, .aload_n 2, 1167, 0, 0, 0, 0, []),
  (1167, .aload_n 0, 1168, 0, 0, 0, 0, []),
  (1168, .iload_n 3, 1169, 0, 0, 0, 0, []),
  (1169, .iconst 1, 1170, 0, 0, 1, 0, []),
  (1170, .iadd, 1171, 0, 0, 0, 0, []),
  (1171, .iaload, 1172, 0, 0, 0, 0, []),
  (1172, .aload_n 0, 1173, 0, 0, 0, 0, []),
  (1173, .iload_n 3, 1174, 0, 0, 0, 0, []),
  (1174, .iconst 2, 1175, 0, 0, 2, 0, []),
  (1175, .iadd, 1176, 0, 0, 0, 0, []),
  (1176, .iaload, 1177, 0, 0, 0, 0, []),
  (1177, .aload_n 0, 1178, 0, 0, 0, 0, []),
  (1178, .iload_n 3, 1179, 0, 0, 0, 0, []),
  (1179, .iconst 3, 1180, 0, 0, 3, 0, []),
  (1180, .iadd, 1181, 0, 0, 0, 0, []),
  (1181, .iaload, 1182, 0, 0, 0, 0, []),
  (1182, .aload_n 0, 1183, 0, 0, 0, 0, []),
  (1183, .iload_n 3, 1184, 0, 0, 0, 0, []),
  (1184, .iconst 4, 1185, 0, 0, 4, 0, []),
  (1185, .iadd, 1186, 0, 0, 0, 0, []),
  (1186, .iaload, 1187, 0, 0, 0, 0, []),
  (1187, .aload_n 0, 1188, 0, 0, 0, 0, []),
  (1188, .iload_n 3, 1189, 0, 0, 0, 0, []),
  (1189, .iconst 5, 1190, 0, 0, 5, 0, []),
  (1190, .iadd, 1191, 0, 0, 0, 0, []),
  (1191, .iaload, 1192, 0, 0, 0, 0, []),
  (1192, .aload_n 0, 1193, 0, 0, 0, 0, []),
  (1193, .iload_n 3, 1194, 0, 0, 0, 0, []),
  (1194, .bipush 6, 1196, 0, 0, 6, 0, []),
  (1196, .iadd, 1197, 0, 0, 0, 0, []),
  (1197, .iaload, 1198, 0, 0, 0, 0, []),
  (1198, .invokevirtual 104, 1201, 160, 6, 0, 0, []),
  (1201, .if_icmp .eq 153, 1204, 1354, 0, 0, 0, []),
  (1204, .iconst 0, 1205, 0, 0, 0, 0, []),
  (1205, .ireturn, 1206, 0, 0, 0, 0, []),
  (1206, .aload_n 1, 1207, 0, 0, 0, 0, []),
  (1207, .aload_n 0, 1208, 0, 0, 0, 0, []),
  (1208, .iload_n 3, 1209, 0, 0, 0, 0, []),
  (1209, .iconst 1, 1210, 0, 0, 1, 0, []),
  (1210, .iadd, 1211, 0, 0, 0, 0, []),
  (1211, .iaload, 1212, 0, 0, 0, 0, []),
  (1212, .invokevirtual 105, 1215, 93, 1, 0, 0, []),
  (1215, .aload_n 2, 1216, 0, 0, 0, 0, []),
  (1216, .aload_n 0, 1217, 0, 0, 0, 0, []),
  (1217, .iload_n 3, 1218, 0, 0, 0, 0, []),
  (1218, .iconst 1, 1219, 0, 0, 1, 0, []),
  (1219, .iadd, 1220, 0, 0, 0, 0, []),
  (1220, .iaload, 1221, 0, 0, 0, 0, []),
  (1221, .invokevirtual 108, 1224, 161, 1, 0, 0, []),
  (1224, .if_icmp .eq 130, 1227, 1354, 0, 0, 0, []),
  (1227, .iconst 0, 1228, 0, 0, 0, 0, []),
  (1228, .ireturn, 1229, 0, 0, 0, 0, []),
  (1229, .aload_n 1, 1230, 0, 0, 0, 0, []),
  (1230, .aload_n 0, 1231, 0, 0, 0, 0, []),
  (1231, .iload_n 3, 1232, 0, 0, 0, 0, []),
  (1232, .iconst 1, 1233, 0, 0, 1, 0, []),
  (1233, .iadd, 1234, 0, 0, 0, 0, []),
  (1234, .iaload, 1235, 0, 0, 0, 0, []),
  (1235, .aload_n 0, 1236, 0, 0, 0, 0, []),
  (1236, .iload_n 3, 1237, 0, 0, 0, 0, []),
  (1237, .iconst 2, 1238, 0, 0, 2, 0, []),
  (1238, .iadd, 1239, 0, 0, 0, 0, []),
  (1239, .iaload, 1240, 0, 0, 0, 0, []),
  (1240, .invokevirtual 109, 1243, 95, 2, 0, 0, []),
  (1243, .aload_n 2, 1244, 0, 0, 0, 0, []),
  (1244, .aload_n 0, 1245, 0, 0, 0, 0, []),
  (1245, .iload_n 3, 1246, 0, 0, 0, 0, []),
  (1246, .iconst 1, 1247, 0, 0, 1, 0, []),
  (1247, .iadd, 1248, 0, 0, 0, 0, []),
  (1248, .iaload, 1249, 0, 0, 0, 0, []),
  (1249, .aload_n 0, 1250, 0, 0, 0, 0, [])]
noncomputable def t_StoneWorksLaw_law_8 : List En := [
  (1250, .iload_n 3, 1251, 0, 0, 0, 0, []),
  (1251, .iconst 2, 1252, 0, 0, 2, 0, []),
  (1252, .iadd, 1253, 0, 0, 0, 0, []),
  (1253, .iaload, 1254, 0, 0, 0, 0, []),
  (1254, .invokevirtual 112, 1257, 163, 2, 0, 0, []),
  (1257, .if_icmp .eq 97, 1260, 1354, 0, 0, 0, []),
  (1260, .iconst 0, 1261, 0, 0, 0, 0, []),
  (1261, .ireturn, 1262, 0, 0, 0, 0, []),
  (1262, .aload_n 1, 1263, 0, 0, 0, 0, []),
  (1263, .aload_n 0, 1264, 0, 0, 0, 0, []),
  (1264, .iload_n 3, 1265, 0, 0, 0, 0, []),
  (1265, .iconst 1, 1266, 0, 0, 1, 0, []),
  (1266, .iadd, 1267, 0, 0, 0, 0, []),
  (1267, .iaload, 1268, 0, 0, 0, 0, []),
  (1268, .aload_n 0, 1269, 0, 0, 0, 0, []),
  (1269, .iload_n 3, 1270, 0, 0, 0, 0, []),
  (1270, .iconst 2, 1271, 0, 0, 2, 0, []),
  (1271, .iadd, 1272, 0, 0, 0, 0, []),
  (1272, .iaload, 1273, 0, 0, 0, 0, []),
  (1273, .invokevirtual 113, 1276, 97, 2, 0, 0, []),
  (1276, .aload_n 2, 1277, 0, 0, 0, 0, []),
  (1277, .aload_n 0, 1278, 0, 0, 0, 0, []),
  (1278, .iload_n 3, 1279, 0, 0, 0, 0, []),
  (1279, .iconst 1, 1280, 0, 0, 1, 0, []),
  (1280, .iadd, 1281, 0, 0, 0, 0, []),
  (1281, .iaload, 1282, 0, 0, 0, 0, []),
  (1282, .aload_n 0, 1283, 0, 0, 0, 0, []),
  (1283, .iload_n 3, 1284, 0, 0, 0, 0, []),
  (1284, .iconst 2, 1285, 0, 0, 2, 0, []),
  (1285, .iadd, 1286, 0, 0, 0, 0, []),
  (1286, .iaload, 1287, 0, 0, 0, 0, []),
  (1287, .invokevirtual 116, 1290, 165, 2, 0, 0, []),
  (1290, .if_icmp .eq 64, 1293, 1354, 0, 0, 0, []),
  (1293, .iconst 0, 1294, 0, 0, 0, 0, []),
  (1294, .ireturn, 1295, 0, 0, 0, 0, []),
  (1295, .aload_n 1, 1296, 0, 0, 0, 0, []),
  (1296, .aload_n 0, 1297, 0, 0, 0, 0, []),
  (1297, .iload_n 3, 1298, 0, 0, 0, 0, []),
  (1298, .iconst 1, 1299, 0, 0, 1, 0, []),
  (1299, .iadd, 1300, 0, 0, 0, 0, []),
  (1300, .iaload, 1301, 0, 0, 0, 0, []),
  (1301, .invokevirtual 117, 1304, 110, 1, 0, 0, []),
  (1304, .aload_n 2, 1305, 0, 0, 0, 0, []),
  (1305, .aload_n 0, 1306, 0, 0, 0, 0, []),
  (1306, .iload_n 3, 1307, 0, 0, 0, 0, []),
  (1307, .iconst 1, 1308, 0, 0, 1, 0, []),
  (1308, .iadd, 1309, 0, 0, 0, 0, []),
  (1309, .iaload, 1310, 0, 0, 0, 0, []),
  (1310, .invokevirtual 120, 1313, 171, 1, 0, 0, []),
  (1313, .if_icmp .eq 41, 1316, 1354, 0, 0, 0, []),
  (1316, .iconst 0, 1317, 0, 0, 0, 0, []),
  (1317, .ireturn, 1318, 0, 0, 0, 0, []),
  (1318, .aload_n 1, 1319, 0, 0, 0, 0, []),
  (1319, .aload_n 0, 1320, 0, 0, 0, 0, []),
  (1320, .iload_n 3, 1321, 0, 0, 0, 0, []),
  (1321, .iconst 1, 1322, 0, 0, 1, 0, []),
  (1322, .iadd, 1323, 0, 0, 0, 0, []),
  (1323, .iaload, 1324, 0, 0, 0, 0, []),
  (1324, .invokevirtual 121, 1327, 112, 1, 0, 0, []),
  (1327, .aload_n 2, 1328, 0, 0, 0, 0, []),
  (1328, .aload_n 0, 1329, 0, 0, 0, 0, []),
  (1329, .iload_n 3, 1330, 0, 0, 0, 0, []),
  (1330, .iconst 1, 1331, 0, 0, 1, 0, []),
  (1331, .iadd, 1332, 0, 0, 0, 0, []),
  (1332, .iaload, 1333, 0, 0, 0, 0, []),
  (1333, .invokevirtual 124, 1336, 172, 1, 0, 0, []),
  (1336, .if_icmp .eq 18, 1339, 1354, 0, 0, 0, []),
  (1339, .iconst 0, 1340, 0, 0, 0, 0, []),
  (1340, .ireturn, 1341, 0, 0, 0, 0, []),
  (1341, .aload_n 1, 1342, 0, 0, 0, 0, []),
  (1342, .invokevirtual 125, 1345, 118, 0, 0, 0, []),
  (1345, .aload_n 2, 1346, 0, 0, 0, 0, []),
  (1346, .invokevirtual 129, 1349, 173, 0, 0, 0, []),
  (1349, .if_icmp .eq 5, 1352, 1354, 0, 0, 0, []),
  (1352, .iconst 0, 1353, 0, 0, 0, 0, []),
  (1353, .ireturn, 1354, 0, 0, 0, 0, []),
  (1354, .iinc 3 9, 1357, 0, 0, 9, 0, []),
  (1357, .goto (-1339), 1360, 18, 0, 0, 0, []),
  (1360, .iconst 1, 1361, 0, 0, 1, 0, []),
  (1361, .ireturn, 1362, 0, 0, 0, 0, [])]
noncomputable def t_StoneWorksLaw_law : List En := t_StoneWorksLaw_law_0 ++ (t_StoneWorksLaw_law_1 ++ (t_StoneWorksLaw_law_2 ++ (t_StoneWorksLaw_law_3 ++ (t_StoneWorksLaw_law_4 ++ (t_StoneWorksLaw_law_5 ++ (t_StoneWorksLaw_law_6 ++ (t_StoneWorksLaw_law_7 ++ (t_StoneWorksLaw_law_8))))))))
noncomputable def iT_0 : List (List En) := [t_Arr_fill2, t_SW_sheet, t_Sheets_isNumber, t_SW_within, t_SW_found, t_Sheets_make, t_Arr_fill4, t_Arr_rangeCheck, t_SW_fine, t_SW_set, t_Sheets_findingAt, t_Sheets_isMissing, t_Sheets_hasItems, t_Sheets_put, t_Sheets_cutToLane, t_SW_copy, t_Sheets_areOfOneLane, t_Sheets_move, t_SW_drop, t_Sheets_remove, t_SW_wall, t_Wall_isMeasure, t_Wall_mayMeasure, t_Wall_change, t_SW_layer, t_Wall_mayBeLayer, t_Wall_isFull, t_Wall_addLayer, t_Wall_putLayer, t_SW_relay]
noncomputable def iT_1 : List (List En) := [t_Wall_hasLayer, t_SW_told, t_Wall_measure, t_Wall_thickOf, t_Wall_weightOf, t_Wall_holds, t_SW_wide, t_Wall_layers, t_Wall_widthWithout, t_SW_volume, t_Wall_wholeVolume, t_Wall_volumeOf, t_SW_shared, t_Quarry_read, t_Sheets_areWithin, t_Sheets_item, t_Quarry_admit, t_Quarry_share, t_Quarry_mostGiven, t_Quarry_cutOff, t_Quarry_isTakenBeyond, t_Quarry_mostBetween, t_Quarry_waste, t_Quarry_given, t_SW_lay, t_Pile_isPlace, t_Pile_add, t_Pile_at, t_Pile_isBorne, t_SW_lift]
noncomputable def iT_2 : List (List En) := [t_Pile_take, t_Pile_bears, t_SW_reaches, t_SW_isCrane, t_Pile_isNear, t_SW_order, t_Pile_putInTurn, t_SW_planned, t_Pile_turnOf, t_SW_dayOf, t_SW_storm, t_SW_readHours, t_Hours_read, t_Wall_blockSize, t_Hours_harm, t_Hours_over, t_SW_design, t_SW_leastDesign, t_Hours_leastCrest, t_Hours_leastBlockSize, t_SW_survey, t_Surveys_compare, t_Surveys_gather, t_Surveys_join, t_Surveys_spread, t_Surveys_result, t_SW_wave, t_Harbour_isOne, t_Harbour_comesTo, t_Harbour_bounced]
noncomputable def iT_3 : List (List En) := [t_SW_calm, t_SW_areSpots, t_SW_calmest, t_SW_kind, t_Wall_kindOf, t_SW_as, t_Wall_isOfKind, t_SW_ask, t_Asks_forget, t_Asks_worth, t_Asks_armourWorth, t_Asks_begin, t_Asks_coverWorth, t_Asks_lentWorth, t_Asks_armourMark, t_Asks_coverMark, t_Asks_lentMark, t_Asks_looseWorth, t_Asks_mark, t_Asks_underMark, t_SW_trace, t_Asks_traced, t_SW_count, t_Sheets_present, t_Wall_holding, t_Wall_loose, t_Pile_blocks, t_Pile_allPlaces, t_SW_status, t_Mo_sheet]
noncomputable def iT_4 : List (List En) := [t_Mo_isSheet, t_Mo_in, t_Mo_found, t_Mo_set, t_Mo_copy, t_Mo_drop, t_Mo_wall, t_Mo_layer, t_Mo_isLaid, t_Mo_relay, t_Mo_isLayer, t_Mo_told, t_Mo_holds, t_Mo_wide, t_Mo_wideOf, t_Mo_volume, t_Mo_shared, t_Mo_lookAt, t_Mo_most, t_Mo_lay, t_Mo_isPlace, t_Mo_isIn, t_Mo_lift, t_Mo_reaches, t_Mo_isCrane, t_Mo_isReached, t_Mo_size, t_Mo_order, t_Mo_findOrder, t_Mo_planned]
noncomputable def iT_5 : List (List En) := [t_Mo_storm, t_Mo_lookStorm, t_Mo_root, t_Mo_harmBy, t_Mo_overBy, t_Mo_design, t_Mo_survey, t_Mo_wave, t_Mo_isHarbour, t_Mo_waveAt, t_Mo_calm, t_Mo_kind, t_Mo_kindOf, t_Mo_as, t_Mo_isOf, t_Mo_ask, t_Mo_worthOf, t_Mo_began, t_Mo_plainWorth, t_Mo_coverMark, t_Mo_markOf, t_Mo_trace, t_Mo_count, t_Mo_status, t_StoneWorksLaw_law]
noncomputable def iTs : List (List En) := iT_0 ++ (iT_1 ++ (iT_2 ++ (iT_3 ++ (iT_4 ++ (iT_5)))))
end
section
/-! what the tables say, as a program looks it up -/
noncomputable def mG (i : Nat) : Mt := mT.getD i (⟨"", "", ""⟩, ByteArray.empty, 0, none, 0, 0, 0, 0)
noncomputable def mY (i : Nat) : MethodName := (mG i).1
noncomputable def mB (i : Nat) : ByteArray := (mG i).2.1
noncomputable def mL (i : Nat) : Nat := (mG i).2.2.1
noncomputable def mR (i : Nat) : Option FieldType := (mG i).2.2.2.1
noncomputable def mF (i : Nat) : Nat := (mG i).2.2.2.2.1
noncomputable def mLo (i : Nat) : Nat := (mG i).2.2.2.2.2.1
noncomputable def mK (i : Nat) : Nat := (mG i).2.2.2.2.2.2.1
noncomputable def mO (i : Nat) : Nat := (mG i).2.2.2.2.2.2.2
noncomputable def iT (i : Nat) : List En := iTs.getD i []
def cN (o : Nat) : String := cNs.getD o ""
def gw : List Cond := lw_tbl.filter goodWord
/-- one list stands in another, in its order -/
def subL : List Cond → List Cond → Bool
  | _, [] => true
  | [], _ :: _ => false
  | b :: r, a :: l => match decide (a = b) with
    | true => subL r l
    | false => subL r (a :: l)
theorem subL_mem : ∀ (r l : List Cond), subL r l = true → ∀ w ∈ l, w ∈ r
  | _, [], _, w, hw => by cases hw
  | [], _ :: _, h, _, _ => by simp [subL] at h
  | b :: r, a :: l, h, w, hw => by
    unfold subL at h
    by_cases e : a = b
    · rw [decide_eq_true e] at h
      rcases List.mem_cons.mp hw with q | q
      · rw [q, e]; exact List.mem_cons_self
      · exact List.mem_cons_of_mem _ (subL_mem r l h w q)
    · rw [decide_eq_false e] at h
      exact List.mem_cons_of_mem _ (subL_mem r (a :: l) h w hw)
def inA (l : List Cond) : Bool := subL lw_tbl l && l.all goodWord
theorem inA_gw {l : List Cond} (h : inA l = true) {w : Cond} (hw : w ∈ l) : w ∈ gw := by
  simp only [inA, Bool.and_eq_true] at h
  exact List.mem_filter.mpr ⟨subL_mem _ _ h.1 w hw, List.all_eq_true.mp h.2 w hw⟩
theorem gw_tbl {w : Cond} (h : w ∈ gw) : w ∈ lw_tbl := (List.mem_filter.mp h).1
theorem gw_good {w : Cond} (h : w ∈ gw) : goodWord w = true := (List.mem_filter.mp h).2
noncomputable def cW (i : Nat) : Cond := .code (mY i) (mB i) (mL i) (mR i)
def fW (q : Nat × Nat × Nat × Nat) : Cond := match classes[q.2.2.1]? with
  | some (C, T, _) => .fieldLink (cN q.1) q.2.1 C (T q.2.2.2).2.1 (T q.2.2.2).2.2.1
  | none => .initialized ""
def uW (q : Nat × Nat) : Cond := match classes[q.1]? with
  | some (C, T, _) => u_lay C T q.2
  | none => .initialized ""
noncomputable def nW (q : Nat × Nat × Nat) : Cond := .methodLinkNest (cN q.1) q.2.1 (mY q.2.2) "StoneWorks"
noncomputable def lW (q : Nat × Nat × Nat) : Cond := .methodLink (cN q.1) q.2.1 (mY q.2.2)
def sY (a : Nat) : MethodName := match a with
  | 900 => Lib.Math.max.name
  | 901 => Lib.Math.min.name
  | 902 => Lib.Math.abs.name
  | _ => arraycopyName
def sW (q : Nat × Nat × Nat) : Cond := .methodLink (cN q.1) q.2.1 (sY q.2.2)
def gN (a : Nat) : String := match a with
  | 44 => "LEAST"
  | _ => "MOST"
def gW (q : Nat × Nat × Nat) : Cond := .fieldLink (cN q.1) q.2.1 "StoneWorks$Wall" (gN q.2.2) "[I"
def isC (w : Cond) : Option Cond := match w with
  | .code y b l r => if y.name = "<init>" then none else if y.cls = "java/lang/Math" then none else some (.code y b l r)
  | _ => none
set_option maxRecDepth 100000 in
theorem ordC_eq : lw_tbl.filterMap isC = ordC.map cW := by rfl
theorem isC_some {w v : Cond} (h : isC w = some v) : w = v := by
  unfold isC at h
  split at h
  · split at h
    · cases h
    · split at h
      · cases h
      · exact Option.some.inj h
  · cases h
theorem ordC_gw {i : Nat} (h : i ∈ ordC) : cW i ∈ gw := by
  have h1 : cW i ∈ lw_tbl.filterMap isC := by rw [ordC_eq]; exact List.mem_map_of_mem h
  obtain ⟨w, hw, e⟩ := List.mem_filterMap.mp h1
  rw [isC_some e] at hw
  exact List.mem_filter.mpr ⟨hw, rfl⟩
theorem ordS_ok : inA (ordS.map fun i => .static (mY i)) = true := by decide +kernel
theorem ordI_ok : inA (ordI.map fun i => .instanceMethod (mY i)) = true := by decide +kernel
theorem ordX_ok : inA (ordX.map fun i => .selects (mY i).cls (mY i) (mY i)) = true := by decide +kernel
theorem ordN_ok : inA (ordN.map fun i => .initialized (cN i)) = true := by decide +kernel
theorem ordU_ok : inA (ordU.map uW) = true := by decide +kernel
theorem fls_ok : inA (fls.map fW) = true := by decide +kernel
theorem mls_ok : inA (mls.map lW) = true := by decide +kernel
theorem nls_ok : subL lw_tbl (nls.map nW) = true := by decide +kernel
theorem sls_ok : inA (sls.map sW) = true := by decide +kernel
theorem gls_ok : inA (gls.map gW) = true := by decide +kernel
theorem cIs_ok : inA (cIs.map fun q => .constant (cN q.1) q.2.1 q.2.2) = true := by decide +kernel
theorem cLs_ok : inA (cLs.map fun q => .constantLong (cN q.1) q.2.1 q.2.2) = true := by decide +kernel
end
section
/-- an entry of the instruction tables is what the bytes say -/
def dOK (b : ByteArray) (en : En) : Bool := decide (decode b en.1 = .ok (en.2.1, en.2.2.1 - en.1)) && Nat.blt en.1 en.2.2.1
theorem dk_0 : (List.range' 0 17).all (fun i => (iT i).all (dOK (mB i))) = true := by decide +kernel
theorem dk_1 : (List.range' 17 20).all (fun i => (iT i).all (dOK (mB i))) = true := by decide +kernel
theorem dk_2 : (List.range' 37 6).all (fun i => (iT i).all (dOK (mB i))) = true := by decide +kernel
theorem dk_3 : (List.range' 43 8).all (fun i => (iT i).all (dOK (mB i))) = true := by decide +kernel
theorem dk_4 : (List.range' 51 15).all (fun i => (iT i).all (dOK (mB i))) = true := by decide +kernel
theorem dk_5 : (List.range' 66 6).all (fun i => (iT i).all (dOK (mB i))) = true := by decide +kernel
theorem dk_6 : (List.range' 72 8).all (fun i => (iT i).all (dOK (mB i))) = true := by decide +kernel
theorem dk_7 : (List.range' 80 6).all (fun i => (iT i).all (dOK (mB i))) = true := by decide +kernel
theorem dk_8 : (List.range' 86 8).all (fun i => (iT i).all (dOK (mB i))) = true := by decide +kernel
theorem dk_9 : (List.range' 94 19).all (fun i => (iT i).all (dOK (mB i))) = true := by decide +kernel
theorem dk_10 : (List.range' 113 11).all (fun i => (iT i).all (dOK (mB i))) = true := by decide +kernel
theorem dk_11 : (List.range' 124 6).all (fun i => (iT i).all (dOK (mB i))) = true := by decide +kernel
theorem dk_12 : (List.range' 130 6).all (fun i => (iT i).all (dOK (mB i))) = true := by decide +kernel
theorem dk_13 : (List.range' 136 1).all (fun i => (iT i).all (dOK (mB i))) = true := by decide +kernel
theorem dk_14 : (List.range' 137 8).all (fun i => (iT i).all (dOK (mB i))) = true := by decide +kernel
theorem dk_15 : (List.range' 145 5).all (fun i => (iT i).all (dOK (mB i))) = true := by decide +kernel
theorem dk_16 : (List.range' 150 5).all (fun i => (iT i).all (dOK (mB i))) = true := by decide +kernel
theorem dk_17 : (List.range' 155 1).all (fun i => (iT i).all (dOK (mB i))) = true := by decide +kernel
theorem dk_18 : (List.range' 156 1).all (fun i => (iT i).all (dOK (mB i))) = true := by decide +kernel
theorem dk_19 : (List.range' 157 6).all (fun i => (iT i).all (dOK (mB i))) = true := by decide +kernel
theorem dk_20 : (List.range' 163 9).all (fun i => (iT i).all (dOK (mB i))) = true := by decide +kernel
theorem dk_21 : (List.range' 172 2).all (fun i => (iT i).all (dOK (mB i))) = true := by decide +kernel
theorem dk_law_0 : t_StoneWorksLaw_law_0.all (dOK (mB 174)) = true := by decide +kernel
theorem dk_law_1 : t_StoneWorksLaw_law_1.all (dOK (mB 174)) = true := by decide +kernel
theorem dk_law_2 : t_StoneWorksLaw_law_2.all (dOK (mB 174)) = true := by decide +kernel
theorem dk_law_3 : t_StoneWorksLaw_law_3.all (dOK (mB 174)) = true := by decide +kernel
theorem dk_law_4 : t_StoneWorksLaw_law_4.all (dOK (mB 174)) = true := by decide +kernel
theorem dk_law_5 : t_StoneWorksLaw_law_5.all (dOK (mB 174)) = true := by decide +kernel
theorem dk_law_6 : t_StoneWorksLaw_law_6.all (dOK (mB 174)) = true := by decide +kernel
theorem dk_law_7 : t_StoneWorksLaw_law_7.all (dOK (mB 174)) = true := by decide +kernel
theorem dk_law_8 : t_StoneWorksLaw_law_8.all (dOK (mB 174)) = true := by decide +kernel
theorem dk_law : (iT 174).all (dOK (mB 174)) = true := by
  show (t_StoneWorksLaw_law_0 ++ (t_StoneWorksLaw_law_1 ++ (t_StoneWorksLaw_law_2 ++ (t_StoneWorksLaw_law_3 ++ (t_StoneWorksLaw_law_4 ++ (t_StoneWorksLaw_law_5 ++ (t_StoneWorksLaw_law_6 ++ (t_StoneWorksLaw_law_7 ++ (t_StoneWorksLaw_law_8))))))))).all (dOK (mB 174)) = true
  simp only [List.all_append, Bool.and_eq_true]
  exact ⟨dk_law_0, dk_law_1, dk_law_2, dk_law_3, dk_law_4, dk_law_5, dk_law_6, dk_law_7, dk_law_8⟩
theorem dk_all {i : Nat} {en : En} (h : en ∈ iT i) : decode (mB i) en.1 = .ok (en.2.1, en.2.2.1 - en.1) ∧ en.1 < en.2.2.1 := by
  have key : ∀ {a n : Nat}, (List.range' a n).all (fun i => (iT i).all (dOK (mB i))) = true → a ≤ i → i < a + n → (iT i).all (dOK (mB i)) = true := fun hh h1 h2 => List.all_eq_true.mp hh i (List.mem_range'_1.mpr ⟨h1, h2⟩)
  have h0 : (iT i).all (dOK (mB i)) = true := by
    by_cases q0 : i < 17
    · exact key dk_0 (by omega) (by omega)
    by_cases q1 : i < 37
    · exact key dk_1 (by omega) (by omega)
    by_cases q2 : i < 43
    · exact key dk_2 (by omega) (by omega)
    by_cases q3 : i < 51
    · exact key dk_3 (by omega) (by omega)
    by_cases q4 : i < 66
    · exact key dk_4 (by omega) (by omega)
    by_cases q5 : i < 72
    · exact key dk_5 (by omega) (by omega)
    by_cases q6 : i < 80
    · exact key dk_6 (by omega) (by omega)
    by_cases q7 : i < 86
    · exact key dk_7 (by omega) (by omega)
    by_cases q8 : i < 94
    · exact key dk_8 (by omega) (by omega)
    by_cases q9 : i < 113
    · exact key dk_9 (by omega) (by omega)
    by_cases q10 : i < 124
    · exact key dk_10 (by omega) (by omega)
    by_cases q11 : i < 130
    · exact key dk_11 (by omega) (by omega)
    by_cases q12 : i < 136
    · exact key dk_12 (by omega) (by omega)
    by_cases q13 : i < 137
    · exact key dk_13 (by omega) (by omega)
    by_cases q14 : i < 145
    · exact key dk_14 (by omega) (by omega)
    by_cases q15 : i < 150
    · exact key dk_15 (by omega) (by omega)
    by_cases q16 : i < 155
    · exact key dk_16 (by omega) (by omega)
    by_cases q17 : i < 156
    · exact key dk_17 (by omega) (by omega)
    by_cases q18 : i < 157
    · exact key dk_18 (by omega) (by omega)
    by_cases q19 : i < 163
    · exact key dk_19 (by omega) (by omega)
    by_cases q20 : i < 172
    · exact key dk_20 (by omega) (by omega)
    by_cases q21 : i < 174
    · exact key dk_21 (by omega) (by omega)
    by_cases ql : i = 174
    · rw [ql]; exact dk_law
    · have e : iT i = [] := by
        unfold iT
        rw [List.getD_eq_getElem?_getD, List.getElem?_eq_none (show iTs.length ≤ i from (show iTs.length = 175 from rfl) ▸ (by omega))]
        rfl
      rw [e]; rfl
  have h1 := List.all_eq_true.mp h0 en h
  simp only [dOK, Bool.and_eq_true, decide_eq_true_eq] at h1
  exact ⟨h1.1, Nat.lt_of_succ_le (by have := h1.2; simpa [Nat.blt] using this)⟩
end
section
/-! THE ABSTRACT MACHINE. Cells have numbers (their places in lay); what may change are ints alone: G p k, of the cell p the field or element k. -/
abbrev Gt : Type := Nat → Nat → Int32
abbrev Lt : Type := List (Nat × Value)
abbrev Xt : Type := Nat × (Nat → Int32)
abbrev Ev : Type := va_G × (Nat → Nat) × ClassId × ClassId
abbrev Qt : Type := Option Value → Gt → Prop
abbrev Nt : Type := Nat → Lt → List Value → Gt → Prop
def sG (G : Gt) (p : Nat) (f : Nat → Int32) : Gt := fun q => if q = p then f else G q
/-- the cells: 0 an object of a class (its fields: a cell, or an int), 1 an int array, 2 a boolean array, 3 one that is only read -/
def lay : List (Nat × Nat × List (Option Nat)) := [
  (0, 8, [some 1, some 5, some 9, some 14, some 18, some 21, some 24, none]),
  (0, 5, [some 2, some 3, some 4]), (1, 800, []), (1, 8, []), (1, 8, []),
  (0, 7, [some 6, some 7, some 8, none]), (1, 5, []), (1, 6, []), (1, 6, []),
  (0, 4, [some 10, some 11, some 12, some 13, none]), (1, 4, []), (1, 3, []), (1, 4, []), (1, 12, []),
  (0, 3, [some 15, some 16, some 17, none]), (2, 96, []), (2, 96, []), (1, 96, []),
  (0, 2, [some 19, some 20, none]), (1, 48, []), (1, 48, []),
  (0, 6, [some 22, some 23, none, none, none, none, none]), (2, 100, []), (1, 100, []),
  (0, 0, [some 5, some 25, none]), (1, 16, []),
  (0, 9, [none, none, some 27, some 28, some 29, some 30, none, some 31, some 32, some 33, some 34, some 35, some 36, some 37, none, some 38, some 39, some 40, some 41, some 42, none]),
  (1, 8, []), (1, 8, []), (1, 800, []), (1, 5, []), (1, 6, []), (1, 6, []), (1, 4, []), (1, 3, []), (2, 12, []), (1, 12, []), (1, 8, []), (1, 68, []), (1, 68, []), (1, 8, []), (1, 100, []), (1, 16, []),
  (3, 0, []), (3, 0, []), (3, 0, [])]
/-- of the classes of the worlds the numbers of their names -/
def ocR : List Nat := [1, 2, 3, 4, 5, 6, 7, 8, 0, 10]
theorem ocR_ok : ∀ ci, ci < 10 → ∀ q, classes[ci]? = some q → cN (ocR.getD ci 99) = q.1 := by decide +kernel
def cv (E : Ev) : Value → Value
  | .ref p => .ref (E.2.1 p)
  | v => v
def cS (E : Ev) (st : List Value) : List Value := st.map (cv E)
def cL (E : Ev) (L : Lt) : Lt := L.map (fun q => (q.1, cv E q.2))
theorem cv_cat (E : Ev) (v : Value) : (cv E v).category = v.category := by cases v <;> rfl
def fV (E : Ev) (G : Gt) (p : Nat) (q : Option Nat × Nat) : Value := match q.1 with
  | some r => .ref (E.2.1 r)
  | none => .int (G p q.2)
def cE (E : Ev) (G : Gt) (p : Nat) : va_E := match lay[p]? with
  | some (0, ci, fs) => .inr (ci, fs.zipIdx.map (fV E G p))
  | some (1, n, _) => .inl (E.2.2.1, n, .inl (G p))
  | some (2, n, _) => .inl (E.2.2.2, n, .inl (G p))
  | _ => .inr (0, [])
def ws (E : Ev) (G : Gt) : va_W := (List.range 43).map (fun p => (E.2.1 p, cE E G p))
def tys (E : Ev) : List (ClassId × FieldType) := [(E.2.2.1, .int), (E.2.2.2, .boolean)]
theorem ws_at {E : Ev} {G : Gt} {p : Nat} (h : p < 43) : (ws E G)[p]? = some (E.2.1 p, cE E G p) := by
  unfold ws
  rw [List.getElem?_map, List.getElem?_range h]
  rfl
theorem ws_none {E : Ev} {G : Gt} {p : Nat} (h : ¬ p < 43) : (ws E G)[p]? = none := by
  apply List.getElem?_eq_none
  simp [ws]
  omega
theorem ws_inv {E : Ev} {G : Gt} {p : Nat} {q : Nat × va_E} (h : (ws E G)[p]? = some q) : p < 43 ∧ q = (E.2.1 p, cE E G p) := by
  by_cases hp : p < 43
  · rw [ws_at hp] at h
    exact ⟨hp, (Option.some.inj h).symm⟩
  · rw [ws_none hp] at h; cases h
theorem cE_congr {E : Ev} {G G' : Gt} {p : Nat} (h : G' p = G p) : cE E G' p = cE E G p := by
  have e : fV E G' p = fV E G p := by
    funext q
    unfold fV
    rw [h]
  unfold cE
  rw [e, h]
theorem ws_set {E : Ev} {G : Gt} {p : Nat} (h : p < 43) (G' : Gt) {e : va_E} (he : cE E G' p = e) (hq : ∀ q, q ≠ p → G' q = G q) : (ws E G).set p (E.2.1 p, e) = ws E G' := by
  apply List.ext_getElem?
  intro i
  by_cases hi : p = i
  · subst hi
    rw [List.getElem?_set_self (by simp [ws]; exact h), ws_at h, he]
  · rw [List.getElem?_set_ne hi]
    by_cases h4 : i < 43
    · rw [ws_at h4, ws_at h4, cE_congr (hq i (Ne.symm hi))]
    · rw [ws_none h4, ws_none h4]
theorem sG_at {G : Gt} {p : Nat} {f : Nat → Int32} : sG G p f p = f := if_pos rfl
theorem sG_ne {G : Gt} {p q : Nat} {f : Nat → Int32} (h : q ≠ p) : sG G p f q = G q := if_neg h
theorem fs_get {E : Ev} {G : Gt} {p k : Nat} {fs : List (Option Nat)} {o : Option Nat} (h : fs[k]? = some o) : (fs.zipIdx.map (fV E G p))[k]? = some (fV E G p (o, k)) := by
  rw [List.getElem?_map, List.getElem?_zipIdx, h]
  simp
theorem fs_set {E : Ev} {G : Gt} {p k : Nat} {fs : List (Option Nat)} {x : Int32} (h : fs[k]? = some none) : fs.zipIdx.map (fV E (sG G p (upd (G p) k x)) p) = (fs.zipIdx.map (fV E G p)).set k (.int x) := by
  apply List.ext_getElem?
  intro i
  have hl : k < (fs.zipIdx.map (fV E G p)).length := by
    simp
    exact (List.getElem?_eq_some_iff.mp h).1
  by_cases hi : k = i
  · subst hi
    rw [List.getElem?_set_self hl, fs_get h]
    simp [fV, sG_at, upd]
  · rw [List.getElem?_set_ne hi, List.getElem?_map, List.getElem?_map]
    cases hz : fs.zipIdx[i]? with
    | none => rfl
    | some q =>
      have hq : q.2 = i := by
        rw [List.getElem?_zipIdx] at hz
        cases ho : fs[i]? with
        | none => rw [ho] at hz; cases hz
        | some o => rw [ho] at hz; simp at hz; rw [← hz]
      simp only [Option.map_some, Option.some.injEq]
      unfold fV
      cases q.1 with
      | some r => rfl
      | none => simp [sG_at, upd, hq, Ne.symm hi]
def xL (X : Xt) (e : Nat) : Nat := match e with
  | 43 => X.1
  | _ => 5
def xF (X : Xt) (e j : Nat) : Int32 := match e with
  | 43 => X.2 j
  | 44 => (match j with
    | 4 => 2
    | _ => 1)
  | _ => (match j with
    | 0 => 100
    | 1 => 50
    | 2 => 60
    | 3 => 1000
    | _ => 30)
def XT (X : Xt) (E : Ev) (A : Nat → Prop) (U : State) (H : Heap) : Prop :=
  (∀ e, 43 ≤ e → e ≤ 45 → va_X (E.2.1 e) (xL X e) (xF X e) U H ∧ ¬ A (E.2.1 e)) ∧ ∀ e, 44 ≤ e → e ≤ 45 → va_Z "StoneWorks$Wall" (gN e) "[I" (.ref (E.2.1 e)) A U H
theorem XT.moved {X : Xt} {E : Ev} {A : Nat → Prop} {u U : State} {H : Heap} (hvm : u.vm.Alike U.vm) (h : XT X E A u H) : XT X E A U H := ⟨fun e h1 h2 => ⟨(h.1 e h1 h2).1.moved hvm, (h.1 e h1 h2).2⟩, fun e h1 h2 => (h.2 e h1 h2).moved hvm⟩
theorem XT.kept {X : Xt} {E : Ev} {A : Nat → Prop} {U : State} {H H1 : Heap} (h : XT X E A U H) (hq : ∀ a : Nat, a < H.size → ¬ A a → H1[a]? = H[a]?) : XT X E A U H1 := by
  refine ⟨fun e h1 h2 => ?_, fun e h1 h2 => (h.2 e h1 h2).kept hq⟩
  obtain ⟨⟨scr, g1, g2⟩, g3⟩ := h.1 e h1 h2
  exact ⟨va_X.kept ⟨scr, g1, g2⟩ (hq _ (Array.getElem?_eq_some_iff.mp g1).1 g3), g3⟩
theorem XT.narrow {X : Xt} {E : Ev} {A B : Nat → Prop} {U : State} {H : Heap} (h : XT X E A U H) (hAB : ∀ q, B q → A q) : XT X E B U H := ⟨fun e h1 h2 => ⟨(h.1 e h1 h2).1, fun z => (h.1 e h1 h2).2 (hAB _ z)⟩, fun e h1 h2 => (h.2 e h1 h2).narrow hAB⟩
/-- which cells a method may change -/
def Ao (E : Ev) (sz : Nat) : Nat → Prop := fun q => (∃ p, p < 43 ∧ q = E.2.1 p) ∨ sz ≤ q
def Wd (X : Xt) (E : Ev) (sz : Nat) (G : Gt) (U : State) : Prop := U.heap.size = sz ∧ va_P E.1 classes (ws E G) U.heap ∧ va_K E.1 classes (tys E) U ∧ va_D (Ao E sz) (ws E G) ∧ (∀ q ∈ nls, va_Nw (nW q) U) ∧ XT X E (Ao E sz) U U.heap
def rok (mi : Nat) (r : Option Value) : Prop := match mR mi, r with
  | none, none => True
  | some .int, some (.int _) => True
  | some .boolean, some (.int v) => narrow .boolean (.int v) = .int v
  | some .long, some (.long _) => True
  | _, _ => False
theorem rok_cases {mi : Nat} {r : Option Value} (h : rok mi r) : (r = none ∧ mR mi = none) ∨ (∃ v, r = some (.int v) ∧ mR mi = some .int) ∨ (∃ v, r = some (.int v) ∧ mR mi = some .boolean ∧ narrow .boolean (.int v) = .int v) ∨ ∃ v, r = some (.long v) ∧ mR mi = some .long := by
  unfold rok at h
  split at h
  · rename_i h1; exact Or.inl ⟨rfl, h1⟩
  · rename_i v h1; exact Or.inr (Or.inl ⟨v, rfl, h1⟩)
  · rename_i v h1; exact Or.inr (Or.inr (Or.inl ⟨v, rfl, h1, h⟩))
  · rename_i v h1; exact Or.inr (Or.inr (Or.inr ⟨v, rfl, h1⟩))
  · exact h.elim
def rdc (b : ByteArray) (pc : Nat) (r : Option Value) : Prop := match r with
  | none => decode b pc = .ok (.return_, 1)
  | some (.int _) => decode b pc = .ok (.ireturn, 1)
  | some (.long _) => decode b pc = .ok (.lreturn, 1)
  | _ => False
def QU (E : Ev) (mi : Nat) (Q : Qt) (A : Nat → Prop) : Array Value → State → Outcome → State → Prop := fun _ st oc t => (∃ (r : Option Value) (G' : Gt), oc = .returned r ∧ rok mi r ∧ Q r G' ∧ va_P E.1 classes (ws E G') t.heap ∧ va_D A (ws E G')) ∧ va_F A st t
/-- A METHOD'S CONTRACT: with these values, from G, it comes to Q -/
def con (X : Xt) (mi : Nat) (av : List Value) (G : Gt) (Q : Qt) : Prop := ∀ (E : Ev) (l : Launch) (sz : Nat), Met l (mY mi) (cW mi :: gw) { frames := mF mi, cells := 0, slots := 0, locals := mLo mi } (va_Pc (cS E av) (Wd X E sz G)) (QU E mi Q (Ao E sz)) 0 0 (Ao E sz)
def FX (X : Xt) (E : Ev) (mi : Nat) (p : Program) (R : Room) (s : State) (m : MethodId) (args : Array Value) (c : Code) (A : Nat → Prop) (cells slots : Nat) : Prop :=
  (p.tables.exec = Jvm.exec ∧ c.code = mB mi ∧ c.maxLocals = mL mi ∧ s.vm.findClass (cN (mO mi)) = some m.cls) ∧ (∀ w ∈ gw, w.before args s = true) ∧ (∀ q ∈ nls, va_Nw (nW q) s) ∧ va_K E.1 classes (tys E) s ∧ (∀ q, s.heap.size ≤ q → A q) ∧ XT X E A s s.heap ∧ (mF mi ≤ R.frames ∧ mLo mi ≤ R.locals ∧ cells ≤ R.cells ∧ slots ≤ R.slots)
def HR (E : Ev) (mi : Nat) (p : Program) (l : Launch) (e : Env) (R : Room) (s : State) (m : MethodId) (args : Array Value) (below : List Frame) (meth : Method) (c : Code) (A : Nat → Prop) (cells slots : Nat) (Z : State → Prop) (Q : Qt) : Prop :=
  ∀ (r : Option Value) (G' : Gt) (H' : Heap) (locs' : List Loc) (pc' : Nat) (ls' : Array Slot), Q r G' → rok mi r → rdc (mB mi) pc' r → va_P E.1 classes (ws E G') H' → va_D A (ws E G') → va_S A s.heap H' locs' → W p l e R s m args below meth c H' locs' cells slots Z (F0 m pc' ls' r.toList)
/-- at pc, with these locals, this stack, G: the method comes to Q -/
def wp (X : Xt) (mi pc : Nat) (L : Lt) (st : List Value) (G : Gt) (Q : Qt) : Prop :=
  ∀ (E : Ev) (p : Program) (l : Launch) (e : Env) (R : Room) (s : State) (m : MethodId) (args : Array Value) (below : List Frame) (meth : Method) (c : Code) (A : Nat → Prop) (H : Heap) (locs : List Loc) (cells slots : Nat) (ls : Array Slot) (Z : State → Prop),
    FX X E mi p R s m args c A cells slots → HR E mi p l e R s m args below meth c A cells slots Z Q →
    va_P E.1 classes (ws E G) H → va_D A (ws E G) → va_S A s.heap H locs → lv_has ls (mL mi) (cL E L) →
    W p l e R s m args below meth c H locs cells slots Z (F0 m pc ls (cS E st))
theorem lv_args_cv (E : Ev) : ∀ (i : Nat) (vs : List Value), lv_args i (cS E vs) = cL E (lv_args i vs)
  | _, [] => rfl
  | i, v :: vs => by
    show (i, cv E v) :: lv_args (if (cv E v).category = 2 then i + 2 else i + 1) (cS E vs) = (i, cv E v) :: cL E (lv_args (if v.category = 2 then i + 2 else i + 1) vs)
    rw [cv_cat, lv_args_cv E _ vs]
theorem lg_sl_cv (E : Ev) : ∀ (vs : List Value), (lg_sl (cS E vs)).length = (lg_sl vs).length
  | [] => rfl
  | v :: vs => by
    have h := lg_sl_cv E vs
    unfold lg_sl cS at *
    rw [List.map_cons, List.flatMap_cons, List.flatMap_cons, List.length_append, List.length_append, h, cv_cat]
    by_cases hc : v.category = 2
    · rw [if_pos hc, if_pos hc]; rfl
    · rw [if_neg hc, if_neg hc]; rfl
set_option maxHeartbeats 4000000 in
/-- a contract out of the walk of the body -/
theorem con_of {X : Xt} {mi : Nat} {av : List Value} {G : Gt} {Q : Qt} (hy : Jvm.plainName (mY mi).cls = true) (hN : cN (mO mi) = (mY mi).cls) (hl : (lg_sl av).length ≤ mL mi) (h : wp X mi 0 (lv_args 0 av) [] G Q) : con X mi av G Q := by
  intro E l sz
  refine Met.ofW (cc := mB mi) (maxL := mL mi) (ret := mR mi) hy rfl ?_
  intro p e s m args below meth c s₁ B hml hv
  obtain ⟨rfl, hsz, hP, hK, hD, hn, hX⟩ := hv
  have hts := atoms_spec (ws := cW mi :: gw) B.pre
  have hown : s.vm.findClass (mY mi).cls = some m.cls := findClass_of_methodNamed B.named
  have hlocks := B.notSynchronized
  have hr := B.returns
  subst hsz
  have hS : va_S (Ao E s.heap.size) s.heap s.heap [] := va_S.rf
  have hlv := lv_entry (cS E av) (n := mL mi) (by rw [lg_sl_cv]; exact hl)
  rw [lg_entry_eq]
  refine h E p l e _ s m _ below meth c (Ao E s.heap.size) s.heap [] 0 0 _ _ ⟨⟨B.exec, B.bytes, hml, by rw [hN]; exact hown⟩, fun w hw => hts w (List.mem_cons_of_mem _ hw), hn, hK, fun q hq => Or.inr hq, hX, ⟨Nat.le_refl _, Nat.le_refl _, Nat.zero_le _, Nat.zero_le _⟩⟩ ?_ hP hD hS (by rw [← lv_args_cv]; exact hlv)
  intro r G' H' locs' pc' ls' hQ hk hd hP' hD' hS'
  rcases rok_cases hk with ⟨rfl, hm⟩ | ⟨v, rfl, hm⟩ | ⟨v, rfl, hm, hnv⟩ | ⟨v, rfl, hm⟩
  · exact W.vret B.exec B.bytes (hr.trans hm) (fun t ht hW => ⟨⟨none, G', rfl, hk, hQ, by rw [ht]; exact hP', hD'⟩, hS'.F ht⟩) hS'.2.2 hd
  · exact W.iret (v := v) B.exec B.bytes (hr.trans hm) (fun t ht hW => ⟨⟨some (.int v), G', rfl, hk, hQ, by rw [ht]; exact hP', hD'⟩, hS'.F ht⟩) hS'.2.2 hd
  · exact W.zret (v := v) B.exec B.bytes (hr.trans hm) hnv (fun t ht hW => ⟨⟨some (.int v), G', rfl, hk, hQ, by rw [ht]; exact hP', hD'⟩, hS'.F ht⟩) hS'.2.2 hd
  · exact W.lret (v := v) B.exec B.bytes (hr.trans hm) (fun t ht hW => ⟨⟨some (.long v), G', rfl, hk, hQ, by rw [ht]; exact hP', hD'⟩, hS'.F ht⟩) hS'.2.2 hd
end
section
/-! ONE INSTRUCTION of the abstract machine, as what must hold ahead of it. An entry of the tables: (pc, instruction, next pc, a, b, targets). -/
def lg (L : Lt) (i : Nat) : Option Value := match L with
  | [] => none
  | q :: r => match Nat.beq q.1 i with
    | true => some q.2
    | false => lg r i
theorem lg_mem {i : Nat} {v : Value} : ∀ {L : Lt}, lg L i = some v → (i, v) ∈ L
  | [], h => by cases h
  | q :: r, h => by
    unfold lg at h
    cases hq : Nat.beq q.1 i with
    | true =>
      rw [hq] at h
      have e : q.1 = i := Nat.eq_of_beq_eq_true hq
      have e2 := Option.some.inj h
      rw [← e, ← e2]
      exact List.mem_cons_self
    | false =>
      rw [hq] at h
      exact List.mem_cons_of_mem _ (lg_mem h)
theorem lg_has {E : Ev} {L : Lt} {i nL : Nat} {v : Value} {ls : Array Slot} (h : lv_has ls nL (cL E L)) (hg : lg L i = some v) : ls[i]? = some (.val (cv E v)) := h.2.2 (i, cv E v) (List.mem_map.mpr ⟨(i, v), lg_mem hg, rfl⟩)
def ls1 (L : Lt) (i : Nat) (v : Value) : Lt := (i, v) :: L.filter (fun q => !(q.1 == i) && !(q.1 + 1 == i && q.2.category == 2))
def ls2 (L : Lt) (i : Nat) (v : Value) : Lt := (i, v) :: L.filter (fun q => !(q.1 == i) && (!(q.1 == i + 1) && !(q.1 + 1 == i && q.2.category == 2)))
theorem ls1_cv (E : Ev) (L : Lt) (i : Nat) (v : Value) : (i, cv E v) :: (cL E L).filter (fun q => !(q.1 == i) && !(q.1 + 1 == i && q.2.category == 2)) = cL E (ls1 L i v) := by
  show _ = (i, cv E v) :: (L.filter _).map _
  unfold cL
  rw [List.filter_map]
  congr 2
  apply List.filter_congr
  intro q _
  simp [cv_cat]
theorem ls2_cv (E : Ev) (L : Lt) (i : Nat) (v : Value) : (i, cv E v) :: (cL E L).filter (fun q => !(q.1 == i) && (!(q.1 == i + 1) && !(q.1 + 1 == i && q.2.category == 2))) = cL E (ls2 L i v) := by
  show _ = (i, cv E v) :: (L.filter _).map _
  unfold cL
  rw [List.filter_map]
  congr 2
  apply List.filter_congr
  intro q _
  simp [cv_cat]
/-- the arguments of a call off the stack, in their order, and the rest -/
def tk : Nat → List Value → List Value → Option (List Value × List Value)
  | 0, as, st => some (as, st)
  | _ + 1, _, [] => none
  | n + 1, as, v :: st => tk n (v :: as) st
theorem tk_ok : ∀ {n : Nat} {as st bs rest : List Value}, tk n as st = some (bs, rest) → bs.length = n + as.length ∧ bs.reverse ++ rest = as.reverse ++ st
  | 0, as, st, bs, rest, h => by
    cases h
    exact ⟨by omega, rfl⟩
  | n + 1, as, [], bs, rest, h => by cases h
  | n + 1, as, v :: st, bs, rest, h => by
    obtain ⟨h1, h2⟩ := tk_ok (n := n) h
    refine ⟨by rw [h1]; simp; omega, ?_⟩
    rw [h2]
    simp
def catS (st : List Value) : Nat := match st with
  | [] => 0
  | v :: r => v.category + catS r
theorem catS_ok (E : Ev) : ∀ (st : List Value), ((cS E st).map fun v => v.category).sum = catS st
  | [] => rfl
  | v :: r => by
    have h := catS_ok E r
    simp only [cS, List.map_cons, List.sum_cons] at *
    rw [cv_cat, h]
    rfl
def sw (x : Int32) (lo : Int) (ts : List Nat) (nx : Nat → Prop) : Prop := match ts with
  | [] => True
  | t :: r => (x = Int32.ofInt lo → nx t) ∧ sw x (lo + 1) r nx
def swl (x : Int32) (ps : List (Int × Int)) (ts : List Nat) (nx : Nat → Prop) (d : Prop) : Prop := match ps, ts with
  | [], [] => d
  | q :: ps, t :: ts => (x.toInt = q.1 → nx t) ∧ (¬ x.toInt = q.1 → swl x ps ts nx d)
  | _, _ => False
def arT (p : Nat) : Option (Nat × Nat) := match lay[p]? with
  | some (t, n, _) => some (t, n)
  | none => none
noncomputable def stp (X : Xt) (mi : Nat) (ins : Instr) (nxt a b : Nat) (v : Int32) (w : Int64) (ts : List Nat) (L : Lt) (st : List Value) (G : Gt) (Q : Qt) (nx : Nt) : Prop := match ins with
  | .iconst _ => nx nxt L (.int v :: st) G
  | .bipush _ => nx nxt L (.int v :: st) G
  | .sipush _ => nx nxt L (.int v :: st) G
  | .lconst _ => nx nxt L (.long w :: st) G
  | .ldc _ => nx nxt L (.int v :: st) G
  | .ldc_w _ => nx nxt L (.int v :: st) G
  | .ldc2_w _ => nx nxt L (.long w :: st) G
  | .iload_n k => match lg L k with
    | some (.int x) => nx nxt L (.int x :: st) G
    | _ => False
  | .iload k => match lg L k with
    | some (.int x) => nx nxt L (.int x :: st) G
    | _ => False
  | .lload_n k => match lg L k with
    | some (.long x) => nx nxt L (.long x :: st) G
    | _ => False
  | .lload k => match lg L k with
    | some (.long x) => nx nxt L (.long x :: st) G
    | _ => False
  | .aload_n k => match lg L k with
    | some (.ref x) => nx nxt L (.ref x :: st) G
    | _ => False
  | .aload k => match lg L k with
    | some (.ref x) => nx nxt L (.ref x :: st) G
    | _ => False
  | .istore_n k => match st with
    | .int x :: r => nx nxt (ls1 L k (.int x)) r G
    | _ => False
  | .istore k => match st with
    | .int x :: r => nx nxt (ls1 L k (.int x)) r G
    | _ => False
  | .lstore_n k => match st with
    | .long x :: r => nx nxt (ls2 L k (.long x)) r G
    | _ => False
  | .lstore k => match st with
    | .long x :: r => nx nxt (ls2 L k (.long x)) r G
    | _ => False
  | .iinc k _ => match lg L k with
    | some (.int x) => nx nxt (ls1 L k (.int (x + v))) st G
    | _ => False
  | .iadd => match st with
    | .int y :: .int x :: r => nx nxt L (.int (x + y) :: r) G
    | _ => False
  | .isub => match st with
    | .int y :: .int x :: r => nx nxt L (.int (x - y) :: r) G
    | _ => False
  | .imul => match st with
    | .int y :: .int x :: r => nx nxt L (.int (x * y) :: r) G
    | _ => False
  | .iand => match st with
    | .int y :: .int x :: r => nx nxt L (.int (x &&& y) :: r) G
    | _ => False
  | .ior => match st with
    | .int y :: .int x :: r => nx nxt L (.int (x ||| y) :: r) G
    | _ => False
  | .ixor => match st with
    | .int y :: .int x :: r => nx nxt L (.int (x ^^^ y) :: r) G
    | _ => False
  | .ishl => match st with
    | .int y :: .int x :: r => nx nxt L (.int (x <<< (y &&& 31)) :: r) G
    | _ => False
  | .ishr => match st with
    | .int y :: .int x :: r => nx nxt L (.int (x >>> (y &&& 31)) :: r) G
    | _ => False
  | .idiv => match st with
    | .int y :: .int x :: r => ¬ y = 0 ∧ nx nxt L (.int (x / y) :: r) G
    | _ => False
  | .irem => match st with
    | .int y :: .int x :: r => ¬ y = 0 ∧ nx nxt L (.int (x - x / y * y) :: r) G
    | _ => False
  | .ineg => match st with
    | .int x :: r => nx nxt L (.int (-x) :: r) G
    | _ => False
  | .i2l => match st with
    | .int x :: r => nx nxt L (.long x.toInt64 :: r) G
    | _ => False
  | .i2b => match st with
    | .int x :: r => nx nxt L (.int x.toInt8.toInt32 :: r) G
    | _ => False
  | .i2s => match st with
    | .int x :: r => nx nxt L (.int x.toInt16.toInt32 :: r) G
    | _ => False
  | .ladd => match st with
    | .long y :: .long x :: r => nx nxt L (.long (x + y) :: r) G
    | _ => False
  | .lsub => match st with
    | .long y :: .long x :: r => nx nxt L (.long (x - y) :: r) G
    | _ => False
  | .lcmp => match st with
    | .long y :: .long x :: r => nx nxt L (.int (lg_cmp x y) :: r) G
    | _ => False
  | .dup => match st with
    | v :: r => (match v.category with
      | 1 => nx nxt L (v :: v :: r) G
      | _ => False)
    | _ => False
  | .dup2 => match st with
    | v :: w :: r => (match v.category, w.category with
      | 1, 1 => nx nxt L (v :: w :: v :: w :: r) G
      | _, _ => False)
    | _ => False
  | .pop => match st with
    | v :: r => (match v.category with
      | 1 => nx nxt L r G
      | _ => False)
    | _ => False
  | .goto _ => nx a L st G
  | .ifCond .eq _ => match st with
    | .int x :: r => (x = 0 → nx a L r G) ∧ (¬ x = 0 → nx nxt L r G)
    | _ => False
  | .ifCond .ne _ => match st with
    | .int x :: r => (¬ x = 0 → nx a L r G) ∧ (x = 0 → nx nxt L r G)
    | _ => False
  | .ifCond .lt _ => match st with
    | .int x :: r => (x < 0 → nx a L r G) ∧ (¬ x < 0 → nx nxt L r G)
    | _ => False
  | .ifCond .ge _ => match st with
    | .int x :: r => (0 ≤ x → nx a L r G) ∧ (¬ 0 ≤ x → nx nxt L r G)
    | _ => False
  | .ifCond .gt _ => match st with
    | .int x :: r => (0 < x → nx a L r G) ∧ (¬ 0 < x → nx nxt L r G)
    | _ => False
  | .ifCond .le _ => match st with
    | .int x :: r => (x ≤ 0 → nx a L r G) ∧ (¬ x ≤ 0 → nx nxt L r G)
    | _ => False
  | .if_icmp .eq _ => match st with
    | .int y :: .int x :: r => (x = y → nx a L r G) ∧ (¬ x = y → nx nxt L r G)
    | _ => False
  | .if_icmp .ne _ => match st with
    | .int y :: .int x :: r => (¬ x = y → nx a L r G) ∧ (x = y → nx nxt L r G)
    | _ => False
  | .if_icmp .lt _ => match st with
    | .int y :: .int x :: r => (x < y → nx a L r G) ∧ (¬ x < y → nx nxt L r G)
    | _ => False
  | .if_icmp .ge _ => match st with
    | .int y :: .int x :: r => (y ≤ x → nx a L r G) ∧ (¬ y ≤ x → nx nxt L r G)
    | _ => False
  | .if_icmp .gt _ => match st with
    | .int y :: .int x :: r => (y < x → nx a L r G) ∧ (¬ y < x → nx nxt L r G)
    | _ => False
  | .if_icmp .le _ => match st with
    | .int y :: .int x :: r => (x ≤ y → nx a L r G) ∧ (¬ x ≤ y → nx nxt L r G)
    | _ => False
  | .tableswitch _ lo hi _ => match st with
    | .int x :: r => ((x.toInt < lo ∨ hi < x.toInt) → nx a L r G) ∧ sw x lo ts (fun t => nx t L r G)
    | _ => False
  | .lookupswitch _ ps => match st with
    | .int x :: r => swl x ps.toList ts (fun t => nx t L r G) (nx a L r G)
    | _ => False
  | .getfield _ => match st with
    | .ref q :: r => (match lay[q]? with
      | some (0, ci, fs) => (match Nat.beq ci a, fs[b]? with
        | true, some (some z) => nx nxt L (.ref z :: r) G
        | true, some none => nx nxt L (.int (G q b) :: r) G
        | _, _ => False)
      | _ => False)
    | _ => False
  | .putfield _ => match st with
    | .int x :: .ref q :: r => (match lay[q]? with
      | some (0, ci, fs) => (match Nat.beq ci a, fs[b]? with
        | true, some none => nx nxt L r (sG G q (upd (G q) b x))
        | _, _ => False)
      | _ => False)
    | _ => False
  | .getstatic _ => nx nxt L (.ref a :: st) G
  | .iaload => match st with
    | .int i :: .ref q :: r => (match arT q with
      | some (1, n) => vp_in i n ∧ nx nxt L (.int (G q i.toNatClampNeg) :: r) G
      | some (3, _) => vp_in i (xL X q) ∧ nx nxt L (.int (xF X q i.toNatClampNeg) :: r) G
      | _ => False)
    | _ => False
  | .baload => match st with
    | .int i :: .ref q :: r => (match arT q with
      | some (2, n) => vp_in i n ∧ nx nxt L (.int (G q i.toNatClampNeg) :: r) G
      | _ => False)
    | _ => False
  | .iastore => match st with
    | .int x :: .int i :: .ref q :: r => (match arT q with
      | some (1, n) => vp_in i n ∧ nx nxt L r (sG G q (upd (G q) i.toNatClampNeg x))
      | _ => False)
    | _ => False
  | .bastore => match st with
    | .int x :: .int i :: .ref q :: r => (match arT q with
      | some (2, n) => vp_in i n ∧ nx nxt L r (sG G q (upd (G q) i.toNatClampNeg (vp_nar .boolean x)))
      | _ => False)
    | _ => False
  | .arraylength => match st with
    | .ref q :: r => (match arT q with
      | some (1, n) => nx nxt L (.int (Int32.ofNat n) :: r) G
      | some (2, n) => nx nxt L (.int (Int32.ofNat n) :: r) G
      | some (3, _) => nx nxt L (.int (Int32.ofNat (xL X q)) :: r) G
      | _ => False)
    | _ => False
  | .return_ => match st, mR mi with
    | [], none => Q none G
    | _, _ => False
  | .ireturn => match st, mR mi with
    | [.int v], some .int => Q (some (.int v)) G
    | [.int v], some .boolean => narrow .boolean (.int v) = .int v ∧ Q (some (.int v)) G
    | _, _ => False
  | .lreturn => match st, mR mi with
    | [.long v], some .long => Q (some (.long v)) G
    | _, _ => False
  | .invokevirtual _ => match tk b [] st with
    | some (as, .ref q :: r) => (match lay[q]? with
      | some (0, ci, _) => (match Nat.beq (ocR.getD ci 99) (mO a) && Nat.ble (catS r) 8 with
        | true => con X a (.ref q :: as) G (fun v G' => nx nxt L (v.toList ++ r) G')
        | false => False)
      | _ => False)
    | _ => False
  | .invokestatic _ => match a with
    | 900 => (match st with
      | .int y :: .int x :: r => (match Nat.ble (catS r) 8 with
        | true => nx nxt L (.int (if x < y then y else x) :: r) G
        | false => False)
      | _ => False)
    | 901 => (match st with
      | .int y :: .int x :: r => (match Nat.ble (catS r) 8 with
        | true => nx nxt L (.int (if y < x then y else x) :: r) G
        | false => False)
      | _ => False)
    | 902 => (match st with
      | .int x :: r => (match Nat.ble (catS r) 8 with
        | true => nx nxt L (.int (if 0 ≤ x then x else 0 - x) :: r) G
        | false => False)
      | _ => False)
    | 903 => (match st with
      | .int n :: .int dp :: .ref d :: .int sp :: .ref z :: r => (match arT z, arT d, Nat.ble (catS r) 8 with
        | some (1, n0), some (1, n1), true => ¬ sp < 0 ∧ ¬ dp < 0 ∧ ¬ n < 0 ∧ sp.toNatClampNeg + n.toNatClampNeg ≤ n0 ∧ dp.toNatClampNeg + n.toNatClampNeg ≤ n1 ∧ nx nxt L r (sG G d (va_cpy (G z) (G d) sp.toNatClampNeg dp.toNatClampNeg n.toNatClampNeg))
        | _, _, _ => False)
      | _ => False)
    | _ => (match tk b [] st with
      | some (as, r) => (match Nat.ble (catS r) 8 with
        | true => con X a as G (fun v G' => nx nxt L (v.toList ++ r) G')
        | false => False)
      | _ => False)
  | _ => False
/-- what a program checks of an entry, apart from its bytes -/
noncomputable def rmOK (mi a : Nat) : Bool := Nat.ble (mF a + 1) (mF mi) && Nat.ble (8 + (mL a + 11) + mLo a) (mLo mi)
noncomputable def chk (mi : Nat) (en : En) : Bool := match en with
  | (pc, ins, nxt, a, b, v, w, ts) => match ins with
    | .iconst n => Nat.beq nxt (pc + 1) && decide (Int32.ofInt n = v)
    | .bipush n => Nat.beq nxt (pc + 2) && decide ((Int8.ofInt n).toInt32 = v)
    | .sipush n => Nat.beq nxt (pc + 3) && decide ((Int16.ofInt n).toInt32 = v)
    | .lconst n => Nat.beq nxt (pc + 1) && decide (Int64.ofNat (n : Nat) = w)
    | .ldc i => Nat.beq nxt (pc + 2) && decide ((mO mi, i, v) ∈ cIs)
    | .ldc_w i => Nat.beq nxt (pc + 3) && decide ((mO mi, i, v) ∈ cIs)
    | .ldc2_w i => Nat.beq nxt (pc + 3) && decide ((mO mi, i, w) ∈ cLs)
    | .iload_n _ => Nat.beq nxt (pc + 1)
    | .iload _ => Nat.beq nxt (pc + 2)
    | .lload_n _ => Nat.beq nxt (pc + 1)
    | .lload _ => Nat.beq nxt (pc + 2)
    | .aload_n _ => Nat.beq nxt (pc + 1)
    | .aload _ => Nat.beq nxt (pc + 2)
    | .istore_n k => Nat.beq nxt (pc + 1) && Nat.blt k (mL mi)
    | .istore k => Nat.beq nxt (pc + 2) && Nat.blt k (mL mi)
    | .lstore_n k => Nat.beq nxt (pc + 1) && Nat.blt (k + 1) (mL mi)
    | .lstore k => Nat.beq nxt (pc + 2) && Nat.blt (k + 1) (mL mi)
    | .iinc k n => Nat.beq nxt (pc + 3) && Nat.blt k (mL mi) && decide (Int32.ofInt n = v)
    | .goto off => Nat.beq nxt (pc + 3) && decide ((pc : Int) + off = (a : Int))
    | .ifCond _ off => Nat.beq nxt (pc + 3) && decide ((pc : Int) + off = (a : Int))
    | .if_icmp _ off => Nat.beq nxt (pc + 3) && decide ((pc : Int) + off = (a : Int))
    | .tableswitch d lo hi offs => decide ((pc : Int) + d = (a : Int)) && decide (offs.toList.map (fun o => (pc : Int) + o) = ts.map (fun t : Nat => (t : Int))) && decide (hi = lo + ts.length - 1) && decide (-1000 ≤ lo) && decide (hi ≤ 1000)
    | .lookupswitch d ps => decide ((pc : Int) + d = (a : Int)) && decide (ps.toList.map (fun o => (pc : Int) + o.2) = ts.map (fun t : Nat => (t : Int))) && (ps.toList.zip (ps.toList.drop 1)).all (fun (a, next) => a.1 < next.1)
    | .getfield i => Nat.beq nxt (pc + 3) && decide ((mO mi, i, a, b) ∈ fls)
    | .putfield i => Nat.beq nxt (pc + 3) && decide ((mO mi, i, a, b) ∈ fls)
    | .getstatic i => Nat.beq nxt (pc + 3) && decide ((mO mi, i, a) ∈ gls)
    | .invokevirtual i => Nat.beq nxt (pc + 3) && decide ((mO mi, i, a) ∈ mls) && (Nat.beq (mK a) 0 && rmOK mi a && decide ((parseMethodDescriptor (mY a).desc).map (fun d => d.parameters.length) = some b))
    | .invokestatic i => if 900 ≤ a then Nat.beq nxt (pc + 3) && decide ((mO mi, i, a) ∈ sls) && Nat.ble 1 (mF mi) && Nat.ble 26 (mLo mi + (if a = 903 then 0 else 5)) else Nat.beq nxt (pc + 3) && (decide ((mO mi, i, a) ∈ mls) || decide ((mO mi, i, a) ∈ nls)) && (Nat.beq (mK a) 1 && rmOK mi a && decide ((parseMethodDescriptor (mY a).desc).map (fun d => d.parameters.length) = some b))
    | _ => Nat.beq nxt (pc + 1)
end
section
/-! each instruction of the abstract machine is the machine's -/
theorem dlen {b : ByteArray} {pc k : Nat} {ins : Instr} (h : decode b pc = .ok (ins, pc + k - pc)) : decode b pc = .ok (ins, k) := by
  rw [Nat.add_sub_cancel_left] at h
  exact h
theorem and1 {x y : Bool} (h : (x && y) = true) : x = true := (Bool.and_eq_true _ _ ▸ h).1
theorem and2 {x y : Bool} (h : (x && y) = true) : y = true := (Bool.and_eq_true _ _ ▸ h).2
theorem blt_ok {a b : Nat} (h : Nat.blt a b = true) : a < b := Nat.lt_of_succ_le (Nat.le_of_ble_eq_true h)
theorem s_iconst {X : Xt} {mi pc nxt a b : Nat} {v : Int32} {w : Int64} {ts : List Nat} {L : Lt} {st : List Value} {G : Gt} {Q : Qt} {n : Int} {nx : Nt} (hn : ∀ pc L st G, nx pc L st G → wp X mi pc L st G Q) (hd : decode (mB mi) pc = .ok ((.iconst n), nxt - pc)) (hc : chk mi (pc, (.iconst n), nxt, a, b, v, w, ts) = true) (h : stp X mi (.iconst n) nxt a b v w ts L st G Q nx) : wp X mi pc L st G Q := by
  have hv := decide_eq_true_eq.mp (and2 hc)
  have e : nxt = pc + 1 := Nat.eq_of_beq_eq_true (and1 hc)
  subst e
  have hd := dlen hd
  intro E p l e R s m args below meth c A H locs cells slots ls Z F hr hP hD hS hl
  exact lv_iconst F.1.1 F.1.2.1 hd hv (hn _ _ _ _ h E p l e R s m args below meth c A H locs cells slots ls Z F hr hP hD hS hl)
theorem s_bipush {X : Xt} {mi pc nxt a b : Nat} {v : Int32} {w : Int64} {ts : List Nat} {L : Lt} {st : List Value} {G : Gt} {Q : Qt} {n : Int} {nx : Nt} (hn : ∀ pc L st G, nx pc L st G → wp X mi pc L st G Q) (hd : decode (mB mi) pc = .ok ((.bipush n), nxt - pc)) (hc : chk mi (pc, (.bipush n), nxt, a, b, v, w, ts) = true) (h : stp X mi (.bipush n) nxt a b v w ts L st G Q nx) : wp X mi pc L st G Q := by
  have hv := decide_eq_true_eq.mp (and2 hc)
  have e : nxt = pc + 2 := Nat.eq_of_beq_eq_true (and1 hc)
  subst e
  have hd := dlen hd
  intro E p l e R s m args below meth c A H locs cells slots ls Z F hr hP hD hS hl
  exact lv_bipush F.1.1 F.1.2.1 hd hv (hn _ _ _ _ h E p l e R s m args below meth c A H locs cells slots ls Z F hr hP hD hS hl)
theorem s_sipush {X : Xt} {mi pc nxt a b : Nat} {v : Int32} {w : Int64} {ts : List Nat} {L : Lt} {st : List Value} {G : Gt} {Q : Qt} {n : Int} {nx : Nt} (hn : ∀ pc L st G, nx pc L st G → wp X mi pc L st G Q) (hd : decode (mB mi) pc = .ok ((.sipush n), nxt - pc)) (hc : chk mi (pc, (.sipush n), nxt, a, b, v, w, ts) = true) (h : stp X mi (.sipush n) nxt a b v w ts L st G Q nx) : wp X mi pc L st G Q := by
  have hv := decide_eq_true_eq.mp (and2 hc)
  have e : nxt = pc + 3 := Nat.eq_of_beq_eq_true (and1 hc)
  subst e
  have hd := dlen hd
  intro E p l e R s m args below meth c A H locs cells slots ls Z F hr hP hD hS hl
  exact lv_sipush F.1.1 F.1.2.1 hd hv (hn _ _ _ _ h E p l e R s m args below meth c A H locs cells slots ls Z F hr hP hD hS hl)
theorem s_lconst {X : Xt} {mi pc nxt a b : Nat} {v : Int32} {w : Int64} {ts : List Nat} {L : Lt} {st : List Value} {G : Gt} {Q : Qt} {n : Fin 2} {nx : Nt} (hn : ∀ pc L st G, nx pc L st G → wp X mi pc L st G Q) (hd : decode (mB mi) pc = .ok ((.lconst n), nxt - pc)) (hc : chk mi (pc, (.lconst n), nxt, a, b, v, w, ts) = true) (h : stp X mi (.lconst n) nxt a b v w ts L st G Q nx) : wp X mi pc L st G Q := by
  have hv := decide_eq_true_eq.mp (and2 hc)
  have e : nxt = pc + 1 := Nat.eq_of_beq_eq_true (and1 hc)
  subst e
  have hd := dlen hd
  intro E p l e R s m args below meth c A H locs cells slots ls Z F hr hP hD hS hl
  exact lv_lconst F.1.1 F.1.2.1 hd hv (hn _ _ _ _ h E p l e R s m args below meth c A H locs cells slots ls Z F hr hP hD hS hl)
theorem s_ldc {X : Xt} {mi pc nxt a b : Nat} {v : Int32} {w : Int64} {ts : List Nat} {L : Lt} {st : List Value} {G : Gt} {Q : Qt} {i : Nat} {nx : Nt} (hn : ∀ pc L st G, nx pc L st G → wp X mi pc L st G Q) (hd : decode (mB mi) pc = .ok ((.ldc i), nxt - pc)) (hc : chk mi (pc, (.ldc i), nxt, a, b, v, w, ts) = true) (h : stp X mi (.ldc i) nxt a b v w ts L st G Q nx) : wp X mi pc L st G Q := by
  have hm := decide_eq_true_eq.mp (and2 hc)
  have e : nxt = pc + 2 := Nat.eq_of_beq_eq_true (and1 hc)
  subst e
  have hd := dlen hd
  intro E p l e R s m args below meth c A H locs cells slots ls Z F hr hP hD hS hl
  exact lv_ldc F.1.1 F.1.2.1 F.1.2.2.2 (F.2.1 _ (inA_gw cIs_ok (List.mem_map.mpr ⟨_, hm, rfl⟩))) hd (hn _ _ _ _ h E p l e R s m args below meth c A H locs cells slots ls Z F hr hP hD hS hl)
theorem s_ldc_w {X : Xt} {mi pc nxt a b : Nat} {v : Int32} {w : Int64} {ts : List Nat} {L : Lt} {st : List Value} {G : Gt} {Q : Qt} {i : Nat} {nx : Nt} (hn : ∀ pc L st G, nx pc L st G → wp X mi pc L st G Q) (hd : decode (mB mi) pc = .ok ((.ldc_w i), nxt - pc)) (hc : chk mi (pc, (.ldc_w i), nxt, a, b, v, w, ts) = true) (h : stp X mi (.ldc_w i) nxt a b v w ts L st G Q nx) : wp X mi pc L st G Q := by
  have hm := decide_eq_true_eq.mp (and2 hc)
  have e : nxt = pc + 3 := Nat.eq_of_beq_eq_true (and1 hc)
  subst e
  have hd := dlen hd
  intro E p l e R s m args below meth c A H locs cells slots ls Z F hr hP hD hS hl
  exact lv_ldcw F.1.1 F.1.2.1 F.1.2.2.2 (F.2.1 _ (inA_gw cIs_ok (List.mem_map.mpr ⟨_, hm, rfl⟩))) hd (hn _ _ _ _ h E p l e R s m args below meth c A H locs cells slots ls Z F hr hP hD hS hl)
theorem s_ldc2_w {X : Xt} {mi pc nxt a b : Nat} {v : Int32} {w : Int64} {ts : List Nat} {L : Lt} {st : List Value} {G : Gt} {Q : Qt} {i : Nat} {nx : Nt} (hn : ∀ pc L st G, nx pc L st G → wp X mi pc L st G Q) (hd : decode (mB mi) pc = .ok ((.ldc2_w i), nxt - pc)) (hc : chk mi (pc, (.ldc2_w i), nxt, a, b, v, w, ts) = true) (h : stp X mi (.ldc2_w i) nxt a b v w ts L st G Q nx) : wp X mi pc L st G Q := by
  have hm := decide_eq_true_eq.mp (and2 hc)
  have e : nxt = pc + 3 := Nat.eq_of_beq_eq_true (and1 hc)
  subst e
  have hd := dlen hd
  intro E p l e R s m args below meth c A H locs cells slots ls Z F hr hP hD hS hl
  exact lv_ldc2 F.1.1 F.1.2.1 F.1.2.2.2 (F.2.1 _ (inA_gw cLs_ok (List.mem_map.mpr ⟨_, hm, rfl⟩))) hd (hn _ _ _ _ h E p l e R s m args below meth c A H locs cells slots ls Z F hr hP hD hS hl)
theorem s_iload_n {X : Xt} {mi pc nxt a b : Nat} {v : Int32} {w : Int64} {ts : List Nat} {L : Lt} {st : List Value} {G : Gt} {Q : Qt} {k : Fin 4} {nx : Nt} (hn : ∀ pc L st G, nx pc L st G → wp X mi pc L st G Q) (hd : decode (mB mi) pc = .ok ((.iload_n k), nxt - pc)) (hc : chk mi (pc, (.iload_n k), nxt, a, b, v, w, ts) = true) (h : stp X mi (.iload_n k) nxt a b v w ts L st G Q nx) : wp X mi pc L st G Q := by
  have e : nxt = pc + 1 := Nat.eq_of_beq_eq_true hc
  subst e
  have hd := dlen hd
  unfold stp at h
  dsimp only at h
  split at h
  · rename_i x hg
    intro E p l e R s m args below meth c A H locs cells slots ls Z F hr hP hD hS hl
    exact lv_iload_n F.1.1 F.1.2.1 hd rfl (lg_has hl hg) (hn _ _ _ _ h E p l e R s m args below meth c A H locs cells slots ls Z F hr hP hD hS hl)
  · exact h.elim
theorem s_iload {X : Xt} {mi pc nxt a b : Nat} {v : Int32} {w : Int64} {ts : List Nat} {L : Lt} {st : List Value} {G : Gt} {Q : Qt} {k : Nat} {nx : Nt} (hn : ∀ pc L st G, nx pc L st G → wp X mi pc L st G Q) (hd : decode (mB mi) pc = .ok ((.iload k), nxt - pc)) (hc : chk mi (pc, (.iload k), nxt, a, b, v, w, ts) = true) (h : stp X mi (.iload k) nxt a b v w ts L st G Q nx) : wp X mi pc L st G Q := by
  have e : nxt = pc + 2 := Nat.eq_of_beq_eq_true hc
  subst e
  have hd := dlen hd
  unfold stp at h
  dsimp only at h
  split at h
  · rename_i x hg
    intro E p l e R s m args below meth c A H locs cells slots ls Z F hr hP hD hS hl
    exact lv_iload F.1.1 F.1.2.1 hd (lg_has hl hg) (hn _ _ _ _ h E p l e R s m args below meth c A H locs cells slots ls Z F hr hP hD hS hl)
  · exact h.elim
theorem s_lload_n {X : Xt} {mi pc nxt a b : Nat} {v : Int32} {w : Int64} {ts : List Nat} {L : Lt} {st : List Value} {G : Gt} {Q : Qt} {k : Fin 4} {nx : Nt} (hn : ∀ pc L st G, nx pc L st G → wp X mi pc L st G Q) (hd : decode (mB mi) pc = .ok ((.lload_n k), nxt - pc)) (hc : chk mi (pc, (.lload_n k), nxt, a, b, v, w, ts) = true) (h : stp X mi (.lload_n k) nxt a b v w ts L st G Q nx) : wp X mi pc L st G Q := by
  have e : nxt = pc + 1 := Nat.eq_of_beq_eq_true hc
  subst e
  have hd := dlen hd
  unfold stp at h
  dsimp only at h
  split at h
  · rename_i x hg
    intro E p l e R s m args below meth c A H locs cells slots ls Z F hr hP hD hS hl
    exact lv_lload_n F.1.1 F.1.2.1 hd rfl (lg_has hl hg) (hn _ _ _ _ h E p l e R s m args below meth c A H locs cells slots ls Z F hr hP hD hS hl)
  · exact h.elim
theorem s_lload {X : Xt} {mi pc nxt a b : Nat} {v : Int32} {w : Int64} {ts : List Nat} {L : Lt} {st : List Value} {G : Gt} {Q : Qt} {k : Nat} {nx : Nt} (hn : ∀ pc L st G, nx pc L st G → wp X mi pc L st G Q) (hd : decode (mB mi) pc = .ok ((.lload k), nxt - pc)) (hc : chk mi (pc, (.lload k), nxt, a, b, v, w, ts) = true) (h : stp X mi (.lload k) nxt a b v w ts L st G Q nx) : wp X mi pc L st G Q := by
  have e : nxt = pc + 2 := Nat.eq_of_beq_eq_true hc
  subst e
  have hd := dlen hd
  unfold stp at h
  dsimp only at h
  split at h
  · rename_i x hg
    intro E p l e R s m args below meth c A H locs cells slots ls Z F hr hP hD hS hl
    exact lv_lload F.1.1 F.1.2.1 hd (lg_has hl hg) (hn _ _ _ _ h E p l e R s m args below meth c A H locs cells slots ls Z F hr hP hD hS hl)
  · exact h.elim
theorem s_aload_n {X : Xt} {mi pc nxt a b : Nat} {v : Int32} {w : Int64} {ts : List Nat} {L : Lt} {st : List Value} {G : Gt} {Q : Qt} {k : Fin 4} {nx : Nt} (hn : ∀ pc L st G, nx pc L st G → wp X mi pc L st G Q) (hd : decode (mB mi) pc = .ok ((.aload_n k), nxt - pc)) (hc : chk mi (pc, (.aload_n k), nxt, a, b, v, w, ts) = true) (h : stp X mi (.aload_n k) nxt a b v w ts L st G Q nx) : wp X mi pc L st G Q := by
  have e : nxt = pc + 1 := Nat.eq_of_beq_eq_true hc
  subst e
  have hd := dlen hd
  unfold stp at h
  dsimp only at h
  split at h
  · rename_i x hg
    intro E p l e R s m args below meth c A H locs cells slots ls Z F hr hP hD hS hl
    exact lv_aload_n F.1.1 F.1.2.1 hd rfl (lg_has hl hg) (hn _ _ _ _ h E p l e R s m args below meth c A H locs cells slots ls Z F hr hP hD hS hl)
  · exact h.elim
theorem s_aload {X : Xt} {mi pc nxt a b : Nat} {v : Int32} {w : Int64} {ts : List Nat} {L : Lt} {st : List Value} {G : Gt} {Q : Qt} {k : Nat} {nx : Nt} (hn : ∀ pc L st G, nx pc L st G → wp X mi pc L st G Q) (hd : decode (mB mi) pc = .ok ((.aload k), nxt - pc)) (hc : chk mi (pc, (.aload k), nxt, a, b, v, w, ts) = true) (h : stp X mi (.aload k) nxt a b v w ts L st G Q nx) : wp X mi pc L st G Q := by
  have e : nxt = pc + 2 := Nat.eq_of_beq_eq_true hc
  subst e
  have hd := dlen hd
  unfold stp at h
  dsimp only at h
  split at h
  · rename_i x hg
    intro E p l e R s m args below meth c A H locs cells slots ls Z F hr hP hD hS hl
    exact lv_aload F.1.1 F.1.2.1 hd (lg_has hl hg) (hn _ _ _ _ h E p l e R s m args below meth c A H locs cells slots ls Z F hr hP hD hS hl)
  · exact h.elim
theorem s_istore_n {X : Xt} {mi pc nxt a b : Nat} {v : Int32} {w : Int64} {ts : List Nat} {L : Lt} {st : List Value} {G : Gt} {Q : Qt} {k : Fin 4} {nx : Nt} (hn : ∀ pc L st G, nx pc L st G → wp X mi pc L st G Q) (hd : decode (mB mi) pc = .ok ((.istore_n k), nxt - pc)) (hc : chk mi (pc, (.istore_n k), nxt, a, b, v, w, ts) = true) (h : stp X mi (.istore_n k) nxt a b v w ts L st G Q nx) : wp X mi pc L st G Q := by
  have hk := blt_ok (and2 hc)
  have e : nxt = pc + 1 := Nat.eq_of_beq_eq_true (and1 hc)
  subst e
  have hd := dlen hd
  unfold stp at h
  dsimp only at h
  split at h
  · rename_i x r
    intro E p l e R s m args below meth c A H locs cells slots ls Z F hr hP hD hS hl
    refine lv_istore_n (nL := mL mi) F.1.1 F.1.2.1 hd rfl hl hk (ls1_cv E L k (.int x)) (fun ls hl => ?_)
    exact (hn _ _ _ _ h E p l e R s m args below meth c A H locs cells slots ls Z F hr hP hD hS hl)
  · exact h.elim
theorem s_istore {X : Xt} {mi pc nxt a b : Nat} {v : Int32} {w : Int64} {ts : List Nat} {L : Lt} {st : List Value} {G : Gt} {Q : Qt} {k : Nat} {nx : Nt} (hn : ∀ pc L st G, nx pc L st G → wp X mi pc L st G Q) (hd : decode (mB mi) pc = .ok ((.istore k), nxt - pc)) (hc : chk mi (pc, (.istore k), nxt, a, b, v, w, ts) = true) (h : stp X mi (.istore k) nxt a b v w ts L st G Q nx) : wp X mi pc L st G Q := by
  have hk := blt_ok (and2 hc)
  have e : nxt = pc + 2 := Nat.eq_of_beq_eq_true (and1 hc)
  subst e
  have hd := dlen hd
  unfold stp at h
  dsimp only at h
  split at h
  · rename_i x r
    intro E p l e R s m args below meth c A H locs cells slots ls Z F hr hP hD hS hl
    refine lv_istore (nL := mL mi) F.1.1 F.1.2.1 hd hl hk (ls1_cv E L k (.int x)) (fun ls hl => ?_)
    exact (hn _ _ _ _ h E p l e R s m args below meth c A H locs cells slots ls Z F hr hP hD hS hl)
  · exact h.elim
theorem s_lstore_n {X : Xt} {mi pc nxt a b : Nat} {v : Int32} {w : Int64} {ts : List Nat} {L : Lt} {st : List Value} {G : Gt} {Q : Qt} {k : Fin 4} {nx : Nt} (hn : ∀ pc L st G, nx pc L st G → wp X mi pc L st G Q) (hd : decode (mB mi) pc = .ok ((.lstore_n k), nxt - pc)) (hc : chk mi (pc, (.lstore_n k), nxt, a, b, v, w, ts) = true) (h : stp X mi (.lstore_n k) nxt a b v w ts L st G Q nx) : wp X mi pc L st G Q := by
  have hk := blt_ok (and2 hc)
  have e : nxt = pc + 1 := Nat.eq_of_beq_eq_true (and1 hc)
  subst e
  have hd := dlen hd
  unfold stp at h
  dsimp only at h
  split at h
  · rename_i x r
    intro E p l e R s m args below meth c A H locs cells slots ls Z F hr hP hD hS hl
    refine lv_lstore_n (nL := mL mi) F.1.1 F.1.2.1 hd rfl hl hk (ls2_cv E L k (.long x)) (fun ls hl => ?_)
    exact (hn _ _ _ _ h E p l e R s m args below meth c A H locs cells slots ls Z F hr hP hD hS hl)
  · exact h.elim
theorem s_lstore {X : Xt} {mi pc nxt a b : Nat} {v : Int32} {w : Int64} {ts : List Nat} {L : Lt} {st : List Value} {G : Gt} {Q : Qt} {k : Nat} {nx : Nt} (hn : ∀ pc L st G, nx pc L st G → wp X mi pc L st G Q) (hd : decode (mB mi) pc = .ok ((.lstore k), nxt - pc)) (hc : chk mi (pc, (.lstore k), nxt, a, b, v, w, ts) = true) (h : stp X mi (.lstore k) nxt a b v w ts L st G Q nx) : wp X mi pc L st G Q := by
  have hk := blt_ok (and2 hc)
  have e : nxt = pc + 2 := Nat.eq_of_beq_eq_true (and1 hc)
  subst e
  have hd := dlen hd
  unfold stp at h
  dsimp only at h
  split at h
  · rename_i x r
    intro E p l e R s m args below meth c A H locs cells slots ls Z F hr hP hD hS hl
    refine lv_lstore (nL := mL mi) F.1.1 F.1.2.1 hd hl hk (ls2_cv E L k (.long x)) (fun ls hl => ?_)
    exact (hn _ _ _ _ h E p l e R s m args below meth c A H locs cells slots ls Z F hr hP hD hS hl)
  · exact h.elim
theorem s_iinc {X : Xt} {mi pc nxt a b : Nat} {v : Int32} {w : Int64} {ts : List Nat} {L : Lt} {st : List Value} {G : Gt} {Q : Qt} {k : Nat} {n : Int} {nx : Nt} (hn : ∀ pc L st G, nx pc L st G → wp X mi pc L st G Q) (hd : decode (mB mi) pc = .ok ((.iinc k n), nxt - pc)) (hc : chk mi (pc, (.iinc k n), nxt, a, b, v, w, ts) = true) (h : stp X mi (.iinc k n) nxt a b v w ts L st G Q nx) : wp X mi pc L st G Q := by
  have hv := decide_eq_true_eq.mp (and2 hc)
  have hk := blt_ok (and2 (and1 hc))
  have hc := and1 hc
  have e : nxt = pc + 3 := Nat.eq_of_beq_eq_true (and1 hc)
  subst e
  have hd := dlen hd
  unfold stp at h
  dsimp only at h
  split at h
  · rename_i x hg
    intro E p l e R s m args below meth c A H locs cells slots ls Z F hr hP hD hS hl
    obtain ⟨j, hj⟩ := List.getElem?_of_mem (List.mem_map.mpr ⟨(k, .int x), lg_mem hg, rfl⟩ : (k, Value.int x) ∈ cL E L)
    refine lv_iinc (nL := mL mi) (k := j) F.1.1 F.1.2.1 hd hl hj (show x + Int32.ofInt n = x + v by rw [hv]) hk (ls1_cv E L k (.int (x + v))) (fun ls hl => ?_)
    exact (hn _ _ _ _ h E p l e R s m args below meth c A H locs cells slots ls Z F hr hP hD hS hl)
  · exact h.elim
theorem s_iadd {X : Xt} {mi pc nxt a b : Nat} {v : Int32} {w : Int64} {ts : List Nat} {L : Lt} {st : List Value} {G : Gt} {Q : Qt} {nx : Nt} (hn : ∀ pc L st G, nx pc L st G → wp X mi pc L st G Q) (hd : decode (mB mi) pc = .ok (.iadd, nxt - pc)) (hc : chk mi (pc, .iadd, nxt, a, b, v, w, ts) = true) (h : stp X mi .iadd nxt a b v w ts L st G Q nx) : wp X mi pc L st G Q := by
  have e : nxt = pc + 1 := Nat.eq_of_beq_eq_true hc
  subst e
  have hd := dlen hd
  unfold stp at h
  dsimp only at h
  split at h
  · rename_i y x r
    intro E p l e R s m args below meth c A H locs cells slots ls Z F hr hP hD hS hl
    exact lv_iadd F.1.1 F.1.2.1 hd (hn _ _ _ _ h E p l e R s m args below meth c A H locs cells slots ls Z F hr hP hD hS hl)
  · exact h.elim
theorem s_isub {X : Xt} {mi pc nxt a b : Nat} {v : Int32} {w : Int64} {ts : List Nat} {L : Lt} {st : List Value} {G : Gt} {Q : Qt} {nx : Nt} (hn : ∀ pc L st G, nx pc L st G → wp X mi pc L st G Q) (hd : decode (mB mi) pc = .ok (.isub, nxt - pc)) (hc : chk mi (pc, .isub, nxt, a, b, v, w, ts) = true) (h : stp X mi .isub nxt a b v w ts L st G Q nx) : wp X mi pc L st G Q := by
  have e : nxt = pc + 1 := Nat.eq_of_beq_eq_true hc
  subst e
  have hd := dlen hd
  unfold stp at h
  dsimp only at h
  split at h
  · rename_i y x r
    intro E p l e R s m args below meth c A H locs cells slots ls Z F hr hP hD hS hl
    exact lv_isub F.1.1 F.1.2.1 hd (hn _ _ _ _ h E p l e R s m args below meth c A H locs cells slots ls Z F hr hP hD hS hl)
  · exact h.elim
theorem s_imul {X : Xt} {mi pc nxt a b : Nat} {v : Int32} {w : Int64} {ts : List Nat} {L : Lt} {st : List Value} {G : Gt} {Q : Qt} {nx : Nt} (hn : ∀ pc L st G, nx pc L st G → wp X mi pc L st G Q) (hd : decode (mB mi) pc = .ok (.imul, nxt - pc)) (hc : chk mi (pc, .imul, nxt, a, b, v, w, ts) = true) (h : stp X mi .imul nxt a b v w ts L st G Q nx) : wp X mi pc L st G Q := by
  have e : nxt = pc + 1 := Nat.eq_of_beq_eq_true hc
  subst e
  have hd := dlen hd
  unfold stp at h
  dsimp only at h
  split at h
  · rename_i y x r
    intro E p l e R s m args below meth c A H locs cells slots ls Z F hr hP hD hS hl
    exact lv_imul F.1.1 F.1.2.1 hd (hn _ _ _ _ h E p l e R s m args below meth c A H locs cells slots ls Z F hr hP hD hS hl)
  · exact h.elim
theorem s_iand {X : Xt} {mi pc nxt a b : Nat} {v : Int32} {w : Int64} {ts : List Nat} {L : Lt} {st : List Value} {G : Gt} {Q : Qt} {nx : Nt} (hn : ∀ pc L st G, nx pc L st G → wp X mi pc L st G Q) (hd : decode (mB mi) pc = .ok (.iand, nxt - pc)) (hc : chk mi (pc, .iand, nxt, a, b, v, w, ts) = true) (h : stp X mi .iand nxt a b v w ts L st G Q nx) : wp X mi pc L st G Q := by
  have e : nxt = pc + 1 := Nat.eq_of_beq_eq_true hc
  subst e
  have hd := dlen hd
  unfold stp at h
  dsimp only at h
  split at h
  · rename_i y x r
    intro E p l e R s m args below meth c A H locs cells slots ls Z F hr hP hD hS hl
    exact lv_iand F.1.1 F.1.2.1 hd (hn _ _ _ _ h E p l e R s m args below meth c A H locs cells slots ls Z F hr hP hD hS hl)
  · exact h.elim
theorem s_ior {X : Xt} {mi pc nxt a b : Nat} {v : Int32} {w : Int64} {ts : List Nat} {L : Lt} {st : List Value} {G : Gt} {Q : Qt} {nx : Nt} (hn : ∀ pc L st G, nx pc L st G → wp X mi pc L st G Q) (hd : decode (mB mi) pc = .ok (.ior, nxt - pc)) (hc : chk mi (pc, .ior, nxt, a, b, v, w, ts) = true) (h : stp X mi .ior nxt a b v w ts L st G Q nx) : wp X mi pc L st G Q := by
  have e : nxt = pc + 1 := Nat.eq_of_beq_eq_true hc
  subst e
  have hd := dlen hd
  unfold stp at h
  dsimp only at h
  split at h
  · rename_i y x r
    intro E p l e R s m args below meth c A H locs cells slots ls Z F hr hP hD hS hl
    exact lv_ior F.1.1 F.1.2.1 hd (hn _ _ _ _ h E p l e R s m args below meth c A H locs cells slots ls Z F hr hP hD hS hl)
  · exact h.elim
theorem s_ixor {X : Xt} {mi pc nxt a b : Nat} {v : Int32} {w : Int64} {ts : List Nat} {L : Lt} {st : List Value} {G : Gt} {Q : Qt} {nx : Nt} (hn : ∀ pc L st G, nx pc L st G → wp X mi pc L st G Q) (hd : decode (mB mi) pc = .ok (.ixor, nxt - pc)) (hc : chk mi (pc, .ixor, nxt, a, b, v, w, ts) = true) (h : stp X mi .ixor nxt a b v w ts L st G Q nx) : wp X mi pc L st G Q := by
  have e : nxt = pc + 1 := Nat.eq_of_beq_eq_true hc
  subst e
  have hd := dlen hd
  unfold stp at h
  dsimp only at h
  split at h
  · rename_i y x r
    intro E p l e R s m args below meth c A H locs cells slots ls Z F hr hP hD hS hl
    exact lv_ixor F.1.1 F.1.2.1 hd (hn _ _ _ _ h E p l e R s m args below meth c A H locs cells slots ls Z F hr hP hD hS hl)
  · exact h.elim
theorem s_ishl {X : Xt} {mi pc nxt a b : Nat} {v : Int32} {w : Int64} {ts : List Nat} {L : Lt} {st : List Value} {G : Gt} {Q : Qt} {nx : Nt} (hn : ∀ pc L st G, nx pc L st G → wp X mi pc L st G Q) (hd : decode (mB mi) pc = .ok (.ishl, nxt - pc)) (hc : chk mi (pc, .ishl, nxt, a, b, v, w, ts) = true) (h : stp X mi .ishl nxt a b v w ts L st G Q nx) : wp X mi pc L st G Q := by
  have e : nxt = pc + 1 := Nat.eq_of_beq_eq_true hc
  subst e
  have hd := dlen hd
  unfold stp at h
  dsimp only at h
  split at h
  · rename_i y x r
    intro E p l e R s m args below meth c A H locs cells slots ls Z F hr hP hD hS hl
    exact lv_ishl F.1.1 F.1.2.1 hd (hn _ _ _ _ h E p l e R s m args below meth c A H locs cells slots ls Z F hr hP hD hS hl)
  · exact h.elim
theorem s_ishr {X : Xt} {mi pc nxt a b : Nat} {v : Int32} {w : Int64} {ts : List Nat} {L : Lt} {st : List Value} {G : Gt} {Q : Qt} {nx : Nt} (hn : ∀ pc L st G, nx pc L st G → wp X mi pc L st G Q) (hd : decode (mB mi) pc = .ok (.ishr, nxt - pc)) (hc : chk mi (pc, .ishr, nxt, a, b, v, w, ts) = true) (h : stp X mi .ishr nxt a b v w ts L st G Q nx) : wp X mi pc L st G Q := by
  have e : nxt = pc + 1 := Nat.eq_of_beq_eq_true hc
  subst e
  have hd := dlen hd
  unfold stp at h
  dsimp only at h
  split at h
  · rename_i y x r
    intro E p l e R s m args below meth c A H locs cells slots ls Z F hr hP hD hS hl
    exact lv_ishr F.1.1 F.1.2.1 hd (hn _ _ _ _ h E p l e R s m args below meth c A H locs cells slots ls Z F hr hP hD hS hl)
  · exact h.elim
theorem s_idiv {X : Xt} {mi pc nxt a b : Nat} {v : Int32} {w : Int64} {ts : List Nat} {L : Lt} {st : List Value} {G : Gt} {Q : Qt} {nx : Nt} (hn : ∀ pc L st G, nx pc L st G → wp X mi pc L st G Q) (hd : decode (mB mi) pc = .ok (.idiv, nxt - pc)) (hc : chk mi (pc, .idiv, nxt, a, b, v, w, ts) = true) (h : stp X mi .idiv nxt a b v w ts L st G Q nx) : wp X mi pc L st G Q := by
  have e : nxt = pc + 1 := Nat.eq_of_beq_eq_true hc
  subst e
  have hd := dlen hd
  unfold stp at h
  dsimp only at h
  split at h
  · rename_i y x r
    obtain ⟨hz, h⟩ := h
    intro E p l e R s m args below meth c A H locs cells slots ls Z F hr hP hD hS hl
    exact lv_idiv F.1.1 F.1.2.1 hd hz (hn _ _ _ _ h E p l e R s m args below meth c A H locs cells slots ls Z F hr hP hD hS hl)
  · exact h.elim
theorem s_irem {X : Xt} {mi pc nxt a b : Nat} {v : Int32} {w : Int64} {ts : List Nat} {L : Lt} {st : List Value} {G : Gt} {Q : Qt} {nx : Nt} (hn : ∀ pc L st G, nx pc L st G → wp X mi pc L st G Q) (hd : decode (mB mi) pc = .ok (.irem, nxt - pc)) (hc : chk mi (pc, .irem, nxt, a, b, v, w, ts) = true) (h : stp X mi .irem nxt a b v w ts L st G Q nx) : wp X mi pc L st G Q := by
  have e : nxt = pc + 1 := Nat.eq_of_beq_eq_true hc
  subst e
  have hd := dlen hd
  unfold stp at h
  dsimp only at h
  split at h
  · rename_i y x r
    obtain ⟨hz, h⟩ := h
    intro E p l e R s m args below meth c A H locs cells slots ls Z F hr hP hD hS hl
    exact lv_irem F.1.1 F.1.2.1 hd hz (hn _ _ _ _ h E p l e R s m args below meth c A H locs cells slots ls Z F hr hP hD hS hl)
  · exact h.elim
theorem s_ineg {X : Xt} {mi pc nxt a b : Nat} {v : Int32} {w : Int64} {ts : List Nat} {L : Lt} {st : List Value} {G : Gt} {Q : Qt} {nx : Nt} (hn : ∀ pc L st G, nx pc L st G → wp X mi pc L st G Q) (hd : decode (mB mi) pc = .ok (.ineg, nxt - pc)) (hc : chk mi (pc, .ineg, nxt, a, b, v, w, ts) = true) (h : stp X mi .ineg nxt a b v w ts L st G Q nx) : wp X mi pc L st G Q := by
  have e : nxt = pc + 1 := Nat.eq_of_beq_eq_true hc
  subst e
  have hd := dlen hd
  unfold stp at h
  dsimp only at h
  split at h
  · rename_i x r
    intro E p l e R s m args below meth c A H locs cells slots ls Z F hr hP hD hS hl
    exact lv_ineg F.1.1 F.1.2.1 hd (hn _ _ _ _ h E p l e R s m args below meth c A H locs cells slots ls Z F hr hP hD hS hl)
  · exact h.elim
theorem s_i2l {X : Xt} {mi pc nxt a b : Nat} {v : Int32} {w : Int64} {ts : List Nat} {L : Lt} {st : List Value} {G : Gt} {Q : Qt} {nx : Nt} (hn : ∀ pc L st G, nx pc L st G → wp X mi pc L st G Q) (hd : decode (mB mi) pc = .ok (.i2l, nxt - pc)) (hc : chk mi (pc, .i2l, nxt, a, b, v, w, ts) = true) (h : stp X mi .i2l nxt a b v w ts L st G Q nx) : wp X mi pc L st G Q := by
  have e : nxt = pc + 1 := Nat.eq_of_beq_eq_true hc
  subst e
  have hd := dlen hd
  unfold stp at h
  dsimp only at h
  split at h
  · rename_i x r
    intro E p l e R s m args below meth c A H locs cells slots ls Z F hr hP hD hS hl
    exact lv_i2l F.1.1 F.1.2.1 hd rfl (hn _ _ _ _ h E p l e R s m args below meth c A H locs cells slots ls Z F hr hP hD hS hl)
  · exact h.elim
theorem s_i2b {X : Xt} {mi pc nxt a b : Nat} {v : Int32} {w : Int64} {ts : List Nat} {L : Lt} {st : List Value} {G : Gt} {Q : Qt} {nx : Nt} (hn : ∀ pc L st G, nx pc L st G → wp X mi pc L st G Q) (hd : decode (mB mi) pc = .ok (.i2b, nxt - pc)) (hc : chk mi (pc, .i2b, nxt, a, b, v, w, ts) = true) (h : stp X mi .i2b nxt a b v w ts L st G Q nx) : wp X mi pc L st G Q := by
  have e : nxt = pc + 1 := Nat.eq_of_beq_eq_true hc
  subst e
  have hd := dlen hd
  unfold stp at h
  dsimp only at h
  split at h
  · rename_i x r
    intro E p l e R s m args below meth c A H locs cells slots ls Z F hr hP hD hS hl
    exact lv_i2b F.1.1 F.1.2.1 hd rfl (hn _ _ _ _ h E p l e R s m args below meth c A H locs cells slots ls Z F hr hP hD hS hl)
  · exact h.elim
theorem s_i2s {X : Xt} {mi pc nxt a b : Nat} {v : Int32} {w : Int64} {ts : List Nat} {L : Lt} {st : List Value} {G : Gt} {Q : Qt} {nx : Nt} (hn : ∀ pc L st G, nx pc L st G → wp X mi pc L st G Q) (hd : decode (mB mi) pc = .ok (.i2s, nxt - pc)) (hc : chk mi (pc, .i2s, nxt, a, b, v, w, ts) = true) (h : stp X mi .i2s nxt a b v w ts L st G Q nx) : wp X mi pc L st G Q := by
  have e : nxt = pc + 1 := Nat.eq_of_beq_eq_true hc
  subst e
  have hd := dlen hd
  unfold stp at h
  dsimp only at h
  split at h
  · rename_i x r
    intro E p l e R s m args below meth c A H locs cells slots ls Z F hr hP hD hS hl
    exact lv_i2s F.1.1 F.1.2.1 hd rfl (hn _ _ _ _ h E p l e R s m args below meth c A H locs cells slots ls Z F hr hP hD hS hl)
  · exact h.elim
theorem s_ladd {X : Xt} {mi pc nxt a b : Nat} {v : Int32} {w : Int64} {ts : List Nat} {L : Lt} {st : List Value} {G : Gt} {Q : Qt} {nx : Nt} (hn : ∀ pc L st G, nx pc L st G → wp X mi pc L st G Q) (hd : decode (mB mi) pc = .ok (.ladd, nxt - pc)) (hc : chk mi (pc, .ladd, nxt, a, b, v, w, ts) = true) (h : stp X mi .ladd nxt a b v w ts L st G Q nx) : wp X mi pc L st G Q := by
  have e : nxt = pc + 1 := Nat.eq_of_beq_eq_true hc
  subst e
  have hd := dlen hd
  unfold stp at h
  dsimp only at h
  split at h
  · rename_i y x r
    intro E p l e R s m args below meth c A H locs cells slots ls Z F hr hP hD hS hl
    exact lv_ladd F.1.1 F.1.2.1 hd (hn _ _ _ _ h E p l e R s m args below meth c A H locs cells slots ls Z F hr hP hD hS hl)
  · exact h.elim
theorem s_lsub {X : Xt} {mi pc nxt a b : Nat} {v : Int32} {w : Int64} {ts : List Nat} {L : Lt} {st : List Value} {G : Gt} {Q : Qt} {nx : Nt} (hn : ∀ pc L st G, nx pc L st G → wp X mi pc L st G Q) (hd : decode (mB mi) pc = .ok (.lsub, nxt - pc)) (hc : chk mi (pc, .lsub, nxt, a, b, v, w, ts) = true) (h : stp X mi .lsub nxt a b v w ts L st G Q nx) : wp X mi pc L st G Q := by
  have e : nxt = pc + 1 := Nat.eq_of_beq_eq_true hc
  subst e
  have hd := dlen hd
  unfold stp at h
  dsimp only at h
  split at h
  · rename_i y x r
    intro E p l e R s m args below meth c A H locs cells slots ls Z F hr hP hD hS hl
    exact lv_lsub F.1.1 F.1.2.1 hd (hn _ _ _ _ h E p l e R s m args below meth c A H locs cells slots ls Z F hr hP hD hS hl)
  · exact h.elim
theorem s_lcmp {X : Xt} {mi pc nxt a b : Nat} {v : Int32} {w : Int64} {ts : List Nat} {L : Lt} {st : List Value} {G : Gt} {Q : Qt} {nx : Nt} (hn : ∀ pc L st G, nx pc L st G → wp X mi pc L st G Q) (hd : decode (mB mi) pc = .ok (.lcmp, nxt - pc)) (hc : chk mi (pc, .lcmp, nxt, a, b, v, w, ts) = true) (h : stp X mi .lcmp nxt a b v w ts L st G Q nx) : wp X mi pc L st G Q := by
  have e : nxt = pc + 1 := Nat.eq_of_beq_eq_true hc
  subst e
  have hd := dlen hd
  unfold stp at h
  dsimp only at h
  split at h
  · rename_i y x r
    intro E p l e R s m args below meth c A H locs cells slots ls Z F hr hP hD hS hl
    exact W.lcmp F.1.1 F.1.2.1 hd (hn _ _ _ _ h E p l e R s m args below meth c A H locs cells slots ls Z F hr hP hD hS hl)
  · exact h.elim
theorem s_dup {X : Xt} {mi pc nxt a b : Nat} {v : Int32} {w : Int64} {ts : List Nat} {L : Lt} {st : List Value} {G : Gt} {Q : Qt} {nx : Nt} (hn : ∀ pc L st G, nx pc L st G → wp X mi pc L st G Q) (hd : decode (mB mi) pc = .ok (.dup, nxt - pc)) (hc : chk mi (pc, .dup, nxt, a, b, v, w, ts) = true) (h : stp X mi .dup nxt a b v w ts L st G Q nx) : wp X mi pc L st G Q := by
  have e : nxt = pc + 1 := Nat.eq_of_beq_eq_true hc
  subst e
  have hd := dlen hd
  unfold stp at h
  dsimp only at h
  split at h
  · rename_i v r
    split at h
    · rename_i hv
      intro E p l e R s m args below meth c A H locs cells slots ls Z F hr hP hD hS hl
      exact lv_dup F.1.1 F.1.2.1 hd (by rw [cv_cat]; exact hv) (hn _ _ _ _ h E p l e R s m args below meth c A H locs cells slots ls Z F hr hP hD hS hl)
    · exact h.elim
  · exact h.elim
theorem s_pop {X : Xt} {mi pc nxt a b : Nat} {v : Int32} {w : Int64} {ts : List Nat} {L : Lt} {st : List Value} {G : Gt} {Q : Qt} {nx : Nt} (hn : ∀ pc L st G, nx pc L st G → wp X mi pc L st G Q) (hd : decode (mB mi) pc = .ok (.pop, nxt - pc)) (hc : chk mi (pc, .pop, nxt, a, b, v, w, ts) = true) (h : stp X mi .pop nxt a b v w ts L st G Q nx) : wp X mi pc L st G Q := by
  have e : nxt = pc + 1 := Nat.eq_of_beq_eq_true hc
  subst e
  have hd := dlen hd
  unfold stp at h
  dsimp only at h
  split at h
  · rename_i v r
    split at h
    · rename_i hv
      intro E p l e R s m args below meth c A H locs cells slots ls Z F hr hP hD hS hl
      exact lv_pop F.1.1 F.1.2.1 hd (by rw [cv_cat]; exact hv) (hn _ _ _ _ h E p l e R s m args below meth c A H locs cells slots ls Z F hr hP hD hS hl)
    · exact h.elim
  · exact h.elim
theorem s_dup2 {X : Xt} {mi pc nxt a b : Nat} {v : Int32} {w : Int64} {ts : List Nat} {L : Lt} {st : List Value} {G : Gt} {Q : Qt} {nx : Nt} (hn : ∀ pc L st G, nx pc L st G → wp X mi pc L st G Q) (hd : decode (mB mi) pc = .ok (.dup2, nxt - pc)) (hc : chk mi (pc, .dup2, nxt, a, b, v, w, ts) = true) (h : stp X mi .dup2 nxt a b v w ts L st G Q nx) : wp X mi pc L st G Q := by
  have e : nxt = pc + 1 := Nat.eq_of_beq_eq_true hc
  subst e
  have hd := dlen hd
  unfold stp at h
  dsimp only at h
  split at h
  · rename_i v w r
    split at h
    · rename_i hv hw
      intro E p l e R s m args below meth c A H locs cells slots ls Z F hr hP hD hS hl
      exact lv_dup2_11 F.1.1 F.1.2.1 hd (by rw [cv_cat]; exact hv) (by rw [cv_cat]; exact hw) (hn _ _ _ _ h E p l e R s m args below meth c A H locs cells slots ls Z F hr hP hD hS hl)
    · exact h.elim
  · exact h.elim
theorem s_goto {X : Xt} {mi pc nxt a b : Nat} {v : Int32} {w : Int64} {ts : List Nat} {L : Lt} {st : List Value} {G : Gt} {Q : Qt} {off : Int} {nx : Nt} (hn : ∀ pc L st G, nx pc L st G → wp X mi pc L st G Q) (hd : decode (mB mi) pc = .ok ((.goto off), nxt - pc)) (hc : chk mi (pc, (.goto off), nxt, a, b, v, w, ts) = true) (h : stp X mi (.goto off) nxt a b v w ts L st G Q nx) : wp X mi pc L st G Q := by
  have ht := decide_eq_true_eq.mp (and2 hc)
  have e : nxt = pc + 3 := Nat.eq_of_beq_eq_true (and1 hc)
  subst e
  have hd := dlen hd
  intro E p l e R s m args below meth c A H locs cells slots ls Z F hr hP hD hS hl
  exact lv_goto F.1.1 F.1.2.1 hd ht (hn _ _ _ _ h E p l e R s m args below meth c A H locs cells slots ls Z F hr hP hD hS hl)
theorem s_ifCond_eq {X : Xt} {mi pc nxt a b : Nat} {v : Int32} {w : Int64} {ts : List Nat} {L : Lt} {st : List Value} {G : Gt} {Q : Qt} {off : Int} {nx : Nt} (hn : ∀ pc L st G, nx pc L st G → wp X mi pc L st G Q) (hd : decode (mB mi) pc = .ok ((.ifCond .eq off), nxt - pc)) (hc : chk mi (pc, (.ifCond .eq off), nxt, a, b, v, w, ts) = true) (h : stp X mi (.ifCond .eq off) nxt a b v w ts L st G Q nx) : wp X mi pc L st G Q := by
  have ht := decide_eq_true_eq.mp (and2 hc)
  have e : nxt = pc + 3 := Nat.eq_of_beq_eq_true (and1 hc)
  subst e
  have hd := dlen hd
  unfold stp at h
  dsimp only at h
  split at h
  · rename_i x r
    intro E p l e R s m args below meth c A H locs cells slots ls Z F hr hP hD hS hl
    exact lv_if_eq F.1.1 F.1.2.1 hd ht (fun g => hn _ _ _ _ (h.1 g) E p l e R s m args below meth c A H locs cells slots ls Z F hr hP hD hS hl) (fun g => hn _ _ _ _ (h.2 g) E p l e R s m args below meth c A H locs cells slots ls Z F hr hP hD hS hl)
  · exact h.elim
theorem s_ifCond_ne {X : Xt} {mi pc nxt a b : Nat} {v : Int32} {w : Int64} {ts : List Nat} {L : Lt} {st : List Value} {G : Gt} {Q : Qt} {off : Int} {nx : Nt} (hn : ∀ pc L st G, nx pc L st G → wp X mi pc L st G Q) (hd : decode (mB mi) pc = .ok ((.ifCond .ne off), nxt - pc)) (hc : chk mi (pc, (.ifCond .ne off), nxt, a, b, v, w, ts) = true) (h : stp X mi (.ifCond .ne off) nxt a b v w ts L st G Q nx) : wp X mi pc L st G Q := by
  have ht := decide_eq_true_eq.mp (and2 hc)
  have e : nxt = pc + 3 := Nat.eq_of_beq_eq_true (and1 hc)
  subst e
  have hd := dlen hd
  unfold stp at h
  dsimp only at h
  split at h
  · rename_i x r
    intro E p l e R s m args below meth c A H locs cells slots ls Z F hr hP hD hS hl
    exact lv_if_ne F.1.1 F.1.2.1 hd ht (fun g => hn _ _ _ _ (h.1 g) E p l e R s m args below meth c A H locs cells slots ls Z F hr hP hD hS hl) (fun g => hn _ _ _ _ (h.2 g) E p l e R s m args below meth c A H locs cells slots ls Z F hr hP hD hS hl)
  · exact h.elim
theorem s_ifCond_lt {X : Xt} {mi pc nxt a b : Nat} {v : Int32} {w : Int64} {ts : List Nat} {L : Lt} {st : List Value} {G : Gt} {Q : Qt} {off : Int} {nx : Nt} (hn : ∀ pc L st G, nx pc L st G → wp X mi pc L st G Q) (hd : decode (mB mi) pc = .ok ((.ifCond .lt off), nxt - pc)) (hc : chk mi (pc, (.ifCond .lt off), nxt, a, b, v, w, ts) = true) (h : stp X mi (.ifCond .lt off) nxt a b v w ts L st G Q nx) : wp X mi pc L st G Q := by
  have ht := decide_eq_true_eq.mp (and2 hc)
  have e : nxt = pc + 3 := Nat.eq_of_beq_eq_true (and1 hc)
  subst e
  have hd := dlen hd
  unfold stp at h
  dsimp only at h
  split at h
  · rename_i x r
    intro E p l e R s m args below meth c A H locs cells slots ls Z F hr hP hD hS hl
    exact lv_if_lt F.1.1 F.1.2.1 hd ht (fun g => hn _ _ _ _ (h.1 g) E p l e R s m args below meth c A H locs cells slots ls Z F hr hP hD hS hl) (fun g => hn _ _ _ _ (h.2 g) E p l e R s m args below meth c A H locs cells slots ls Z F hr hP hD hS hl)
  · exact h.elim
theorem s_ifCond_ge {X : Xt} {mi pc nxt a b : Nat} {v : Int32} {w : Int64} {ts : List Nat} {L : Lt} {st : List Value} {G : Gt} {Q : Qt} {off : Int} {nx : Nt} (hn : ∀ pc L st G, nx pc L st G → wp X mi pc L st G Q) (hd : decode (mB mi) pc = .ok ((.ifCond .ge off), nxt - pc)) (hc : chk mi (pc, (.ifCond .ge off), nxt, a, b, v, w, ts) = true) (h : stp X mi (.ifCond .ge off) nxt a b v w ts L st G Q nx) : wp X mi pc L st G Q := by
  have ht := decide_eq_true_eq.mp (and2 hc)
  have e : nxt = pc + 3 := Nat.eq_of_beq_eq_true (and1 hc)
  subst e
  have hd := dlen hd
  unfold stp at h
  dsimp only at h
  split at h
  · rename_i x r
    intro E p l e R s m args below meth c A H locs cells slots ls Z F hr hP hD hS hl
    exact lv_if_ge F.1.1 F.1.2.1 hd ht (fun g => hn _ _ _ _ (h.1 g) E p l e R s m args below meth c A H locs cells slots ls Z F hr hP hD hS hl) (fun g => hn _ _ _ _ (h.2 g) E p l e R s m args below meth c A H locs cells slots ls Z F hr hP hD hS hl)
  · exact h.elim
theorem s_ifCond_gt {X : Xt} {mi pc nxt a b : Nat} {v : Int32} {w : Int64} {ts : List Nat} {L : Lt} {st : List Value} {G : Gt} {Q : Qt} {off : Int} {nx : Nt} (hn : ∀ pc L st G, nx pc L st G → wp X mi pc L st G Q) (hd : decode (mB mi) pc = .ok ((.ifCond .gt off), nxt - pc)) (hc : chk mi (pc, (.ifCond .gt off), nxt, a, b, v, w, ts) = true) (h : stp X mi (.ifCond .gt off) nxt a b v w ts L st G Q nx) : wp X mi pc L st G Q := by
  have ht := decide_eq_true_eq.mp (and2 hc)
  have e : nxt = pc + 3 := Nat.eq_of_beq_eq_true (and1 hc)
  subst e
  have hd := dlen hd
  unfold stp at h
  dsimp only at h
  split at h
  · rename_i x r
    intro E p l e R s m args below meth c A H locs cells slots ls Z F hr hP hD hS hl
    exact lv_if_gt F.1.1 F.1.2.1 hd ht (fun g => hn _ _ _ _ (h.1 g) E p l e R s m args below meth c A H locs cells slots ls Z F hr hP hD hS hl) (fun g => hn _ _ _ _ (h.2 g) E p l e R s m args below meth c A H locs cells slots ls Z F hr hP hD hS hl)
  · exact h.elim
theorem s_ifCond_le {X : Xt} {mi pc nxt a b : Nat} {v : Int32} {w : Int64} {ts : List Nat} {L : Lt} {st : List Value} {G : Gt} {Q : Qt} {off : Int} {nx : Nt} (hn : ∀ pc L st G, nx pc L st G → wp X mi pc L st G Q) (hd : decode (mB mi) pc = .ok ((.ifCond .le off), nxt - pc)) (hc : chk mi (pc, (.ifCond .le off), nxt, a, b, v, w, ts) = true) (h : stp X mi (.ifCond .le off) nxt a b v w ts L st G Q nx) : wp X mi pc L st G Q := by
  have ht := decide_eq_true_eq.mp (and2 hc)
  have e : nxt = pc + 3 := Nat.eq_of_beq_eq_true (and1 hc)
  subst e
  have hd := dlen hd
  unfold stp at h
  dsimp only at h
  split at h
  · rename_i x r
    intro E p l e R s m args below meth c A H locs cells slots ls Z F hr hP hD hS hl
    exact lv_if_le F.1.1 F.1.2.1 hd ht (fun g => hn _ _ _ _ (h.1 g) E p l e R s m args below meth c A H locs cells slots ls Z F hr hP hD hS hl) (fun g => hn _ _ _ _ (h.2 g) E p l e R s m args below meth c A H locs cells slots ls Z F hr hP hD hS hl)
  · exact h.elim
theorem s_if_icmp_eq {X : Xt} {mi pc nxt a b : Nat} {v : Int32} {w : Int64} {ts : List Nat} {L : Lt} {st : List Value} {G : Gt} {Q : Qt} {off : Int} {nx : Nt} (hn : ∀ pc L st G, nx pc L st G → wp X mi pc L st G Q) (hd : decode (mB mi) pc = .ok ((.if_icmp .eq off), nxt - pc)) (hc : chk mi (pc, (.if_icmp .eq off), nxt, a, b, v, w, ts) = true) (h : stp X mi (.if_icmp .eq off) nxt a b v w ts L st G Q nx) : wp X mi pc L st G Q := by
  have ht := decide_eq_true_eq.mp (and2 hc)
  have e : nxt = pc + 3 := Nat.eq_of_beq_eq_true (and1 hc)
  subst e
  have hd := dlen hd
  unfold stp at h
  dsimp only at h
  split at h
  · rename_i y x r
    intro E p l e R s m args below meth c A H locs cells slots ls Z F hr hP hD hS hl
    exact lv_icmp_eq F.1.1 F.1.2.1 hd ht (fun g => hn _ _ _ _ (h.1 g) E p l e R s m args below meth c A H locs cells slots ls Z F hr hP hD hS hl) (fun g => hn _ _ _ _ (h.2 g) E p l e R s m args below meth c A H locs cells slots ls Z F hr hP hD hS hl)
  · exact h.elim
theorem s_if_icmp_ne {X : Xt} {mi pc nxt a b : Nat} {v : Int32} {w : Int64} {ts : List Nat} {L : Lt} {st : List Value} {G : Gt} {Q : Qt} {off : Int} {nx : Nt} (hn : ∀ pc L st G, nx pc L st G → wp X mi pc L st G Q) (hd : decode (mB mi) pc = .ok ((.if_icmp .ne off), nxt - pc)) (hc : chk mi (pc, (.if_icmp .ne off), nxt, a, b, v, w, ts) = true) (h : stp X mi (.if_icmp .ne off) nxt a b v w ts L st G Q nx) : wp X mi pc L st G Q := by
  have ht := decide_eq_true_eq.mp (and2 hc)
  have e : nxt = pc + 3 := Nat.eq_of_beq_eq_true (and1 hc)
  subst e
  have hd := dlen hd
  unfold stp at h
  dsimp only at h
  split at h
  · rename_i y x r
    intro E p l e R s m args below meth c A H locs cells slots ls Z F hr hP hD hS hl
    exact lv_icmp_ne F.1.1 F.1.2.1 hd ht (fun g => hn _ _ _ _ (h.1 g) E p l e R s m args below meth c A H locs cells slots ls Z F hr hP hD hS hl) (fun g => hn _ _ _ _ (h.2 g) E p l e R s m args below meth c A H locs cells slots ls Z F hr hP hD hS hl)
  · exact h.elim
theorem s_if_icmp_lt {X : Xt} {mi pc nxt a b : Nat} {v : Int32} {w : Int64} {ts : List Nat} {L : Lt} {st : List Value} {G : Gt} {Q : Qt} {off : Int} {nx : Nt} (hn : ∀ pc L st G, nx pc L st G → wp X mi pc L st G Q) (hd : decode (mB mi) pc = .ok ((.if_icmp .lt off), nxt - pc)) (hc : chk mi (pc, (.if_icmp .lt off), nxt, a, b, v, w, ts) = true) (h : stp X mi (.if_icmp .lt off) nxt a b v w ts L st G Q nx) : wp X mi pc L st G Q := by
  have ht := decide_eq_true_eq.mp (and2 hc)
  have e : nxt = pc + 3 := Nat.eq_of_beq_eq_true (and1 hc)
  subst e
  have hd := dlen hd
  unfold stp at h
  dsimp only at h
  split at h
  · rename_i y x r
    intro E p l e R s m args below meth c A H locs cells slots ls Z F hr hP hD hS hl
    exact lv_icmp_lt F.1.1 F.1.2.1 hd ht (fun g => hn _ _ _ _ (h.1 g) E p l e R s m args below meth c A H locs cells slots ls Z F hr hP hD hS hl) (fun g => hn _ _ _ _ (h.2 g) E p l e R s m args below meth c A H locs cells slots ls Z F hr hP hD hS hl)
  · exact h.elim
theorem s_if_icmp_ge {X : Xt} {mi pc nxt a b : Nat} {v : Int32} {w : Int64} {ts : List Nat} {L : Lt} {st : List Value} {G : Gt} {Q : Qt} {off : Int} {nx : Nt} (hn : ∀ pc L st G, nx pc L st G → wp X mi pc L st G Q) (hd : decode (mB mi) pc = .ok ((.if_icmp .ge off), nxt - pc)) (hc : chk mi (pc, (.if_icmp .ge off), nxt, a, b, v, w, ts) = true) (h : stp X mi (.if_icmp .ge off) nxt a b v w ts L st G Q nx) : wp X mi pc L st G Q := by
  have ht := decide_eq_true_eq.mp (and2 hc)
  have e : nxt = pc + 3 := Nat.eq_of_beq_eq_true (and1 hc)
  subst e
  have hd := dlen hd
  unfold stp at h
  dsimp only at h
  split at h
  · rename_i y x r
    intro E p l e R s m args below meth c A H locs cells slots ls Z F hr hP hD hS hl
    exact lv_icmp_ge F.1.1 F.1.2.1 hd ht (fun g => hn _ _ _ _ (h.1 g) E p l e R s m args below meth c A H locs cells slots ls Z F hr hP hD hS hl) (fun g => hn _ _ _ _ (h.2 g) E p l e R s m args below meth c A H locs cells slots ls Z F hr hP hD hS hl)
  · exact h.elim
theorem s_if_icmp_gt {X : Xt} {mi pc nxt a b : Nat} {v : Int32} {w : Int64} {ts : List Nat} {L : Lt} {st : List Value} {G : Gt} {Q : Qt} {off : Int} {nx : Nt} (hn : ∀ pc L st G, nx pc L st G → wp X mi pc L st G Q) (hd : decode (mB mi) pc = .ok ((.if_icmp .gt off), nxt - pc)) (hc : chk mi (pc, (.if_icmp .gt off), nxt, a, b, v, w, ts) = true) (h : stp X mi (.if_icmp .gt off) nxt a b v w ts L st G Q nx) : wp X mi pc L st G Q := by
  have ht := decide_eq_true_eq.mp (and2 hc)
  have e : nxt = pc + 3 := Nat.eq_of_beq_eq_true (and1 hc)
  subst e
  have hd := dlen hd
  unfold stp at h
  dsimp only at h
  split at h
  · rename_i y x r
    intro E p l e R s m args below meth c A H locs cells slots ls Z F hr hP hD hS hl
    exact lv_icmp_gt F.1.1 F.1.2.1 hd ht (fun g => hn _ _ _ _ (h.1 g) E p l e R s m args below meth c A H locs cells slots ls Z F hr hP hD hS hl) (fun g => hn _ _ _ _ (h.2 g) E p l e R s m args below meth c A H locs cells slots ls Z F hr hP hD hS hl)
  · exact h.elim
theorem s_if_icmp_le {X : Xt} {mi pc nxt a b : Nat} {v : Int32} {w : Int64} {ts : List Nat} {L : Lt} {st : List Value} {G : Gt} {Q : Qt} {off : Int} {nx : Nt} (hn : ∀ pc L st G, nx pc L st G → wp X mi pc L st G Q) (hd : decode (mB mi) pc = .ok ((.if_icmp .le off), nxt - pc)) (hc : chk mi (pc, (.if_icmp .le off), nxt, a, b, v, w, ts) = true) (h : stp X mi (.if_icmp .le off) nxt a b v w ts L st G Q nx) : wp X mi pc L st G Q := by
  have ht := decide_eq_true_eq.mp (and2 hc)
  have e : nxt = pc + 3 := Nat.eq_of_beq_eq_true (and1 hc)
  subst e
  have hd := dlen hd
  unfold stp at h
  dsimp only at h
  split at h
  · rename_i y x r
    intro E p l e R s m args below meth c A H locs cells slots ls Z F hr hP hD hS hl
    exact lv_icmp_le F.1.1 F.1.2.1 hd ht (fun g => hn _ _ _ _ (h.1 g) E p l e R s m args below meth c A H locs cells slots ls Z F hr hP hD hS hl) (fun g => hn _ _ _ _ (h.2 g) E p l e R s m args below meth c A H locs cells slots ls Z F hr hP hD hS hl)
  · exact h.elim
theorem sw_get {x : Int32} {nx : Nat → Prop} : ∀ {ts : List Nat} {lo : Int} {t j : Nat}, sw x lo ts nx → ts[j]? = some t → x = Int32.ofInt (lo + j) → nx t
  | [], _, _, _, _, h, _ => by simp at h
  | t :: r, lo, t2, 0, h, h2, h3 => by
    simp at h2
    subst h2
    exact h.1 (by rw [h3]; simp)
  | t :: r, lo, t2, j + 1, h, h2, h3 => by
    refine sw_get (ts := r) (lo := lo + 1) (j := j) h.2 (by simpa using h2) ?_
    rw [h3]
    congr 1
    omega
set_option maxHeartbeats 1000000 in
theorem s_tableswitch {X : Xt} {mi pc nxt a b : Nat} {v : Int32} {w : Int64} {ts : List Nat} {L : Lt} {st : List Value} {G : Gt} {Q : Qt} {d lo hi : Int} {offs : Array Int} {nx : Nt} (hn : ∀ pc L st G, nx pc L st G → wp X mi pc L st G Q) (hd : decode (mB mi) pc = .ok ((.tableswitch d lo hi offs), nxt - pc)) (hc : chk mi (pc, (.tableswitch d lo hi offs), nxt, a, b, v, w, ts) = true) (h : stp X mi (.tableswitch d lo hi offs) nxt a b v w ts L st G Q nx) : wp X mi pc L st G Q := by
  have h5 := decide_eq_true_eq.mp (and2 hc)
  have h4 := decide_eq_true_eq.mp (and2 (and1 hc))
  have h3 := decide_eq_true_eq.mp (and2 (and1 (and1 hc)))
  have h2 := decide_eq_true_eq.mp (and2 (and1 (and1 (and1 hc))))
  have h1 := decide_eq_true_eq.mp (and1 (and1 (and1 (and1 hc))))
  unfold stp at h
  dsimp only at h
  split at h
  · rename_i x r
    intro E p l e R s m args below meth c A H locs cells slots ls Z F hr hP hD hS hl
    by_cases hx : x.toInt < lo ∨ hi < x.toInt
    · exact lv_tableOut F.1.1 F.1.2.1 hd hx h1 (hn _ _ _ _ (h.1 hx) E p l e R s m args below meth c A H locs cells slots ls Z F hr hP hD hS hl)
    · have g1 : ¬ x.toInt < lo := fun z => hx (Or.inl z)
      have g2 : ¬ hi < x.toInt := fun z => hx (Or.inr z)
      have hlen : offs.toList.length = ts.length := by
        have := congrArg List.length h2
        simpa using this
      have hj : (x.toInt - lo).toNat < ts.length := by omega
      obtain ⟨t, ht⟩ : ∃ t, ts[(x.toInt - lo).toNat]? = some t := ⟨_, List.getElem?_eq_getElem hj⟩
      obtain ⟨off, ho⟩ : ∃ off, offs.toList[(x.toInt - lo).toNat]? = some off := ⟨_, List.getElem?_eq_getElem (by rw [hlen]; exact hj)⟩
      have ht2 : (pc : Int) + off = (t : Int) := by
        have := congrArg (fun l => l[(x.toInt - lo).toNat]?) h2
        simp only [List.getElem?_map, ht, ho, Option.map_some, Option.some.injEq] at this
        exact this
      refine lv_tableIn F.1.1 F.1.2.1 hd g1 g2 (by rw [← Array.getElem?_toList]; exact ho) ht2 ?_
      refine hn _ _ _ _ (sw_get h.2 ht ?_) E p l e R s m args below meth c A H locs cells slots ls Z F hr hP hD hS hl
      rw [← Int32.ofInt_toInt x]
      congr 1
      rw [Int32.ofInt_toInt]
      omega
  · exact h.elim
theorem swl_get {x : Int32} {nx : Nat → Prop} {d : Prop} {pc : Nat} {dflt : Int} {a : Nat} (ha : (pc : Int) + dflt = (a : Int)) (P : Nat → Prop) (hP : ∀ t, nx t → P t) (hPd : d → P a) : ∀ {ps : List (Int × Int)} {ts : List Nat}, ps.map (fun o => (pc : Int) + o.2) = ts.map (fun t : Nat => (t : Int)) → swl x ps ts nx d → ∃ t : Nat, (pc : Int) + Op.lookupswitch.offset ps dflt x.toInt = (t : Int) ∧ P t
  | [], [], _, h => ⟨a, by simpa [Op.lookupswitch.offset] using ha, hPd h⟩
  | [], _ :: _, _, h => by simp [swl] at h
  | _ :: _, [], _, h => by simp [swl] at h
  | q :: ps, t :: ts, hm, h => by
    simp only [List.map_cons, List.cons.injEq] at hm
    by_cases e : x.toInt = q.1
    · exact ⟨t, by rw [← hm.1]; simp [Op.lookupswitch.offset, e], hP t (h.1 e)⟩
    · obtain ⟨t2, g1, g2⟩ := swl_get ha P hP hPd hm.2 (h.2 e)
      refine ⟨t2, ?_, g2⟩
      rw [← g1]
      congr 1
      simp [Op.lookupswitch.offset, Ne.symm e]
theorem s_lookupswitch {X : Xt} {mi pc nxt a b : Nat} {v : Int32} {w : Int64} {ts : List Nat} {L : Lt} {st : List Value} {G : Gt} {Q : Qt} {d : Int} {ps : Array (Int × Int)} {nx : Nt} (hn : ∀ pc L st G, nx pc L st G → wp X mi pc L st G Q) (hd : decode (mB mi) pc = .ok ((.lookupswitch d ps), nxt - pc)) (hc : chk mi (pc, (.lookupswitch d ps), nxt, a, b, v, w, ts) = true) (h : stp X mi (.lookupswitch d ps) nxt a b v w ts L st G Q nx) : wp X mi pc L st G Q := by
  have h3 := and2 hc
  have h2 := decide_eq_true_eq.mp (and2 (and1 hc))
  have h1 := decide_eq_true_eq.mp (and1 (and1 hc))
  unfold stp at h
  dsimp only at h
  split at h
  · rename_i x r
    obtain ⟨t, ht, hw⟩ := swl_get h1 (fun t => wp X mi t L r G Q) (fun t z => hn _ _ _ _ z) (fun z => hn _ _ _ _ z) h2 h
    intro E p l e R s m args below meth c A H locs cells slots ls Z F hr hP hD hS hl
    exact lv_lookup F.1.1 F.1.2.1 hd h3 rfl ht (hw E p l e R s m args below meth c A H locs cells slots ls Z F hr hP hD hS hl)
  · exact h.elim
end
section
/-! the instructions that look at the heap, return, or call -/
theorem s_return_ {X : Xt} {mi pc nxt a b : Nat} {v : Int32} {w : Int64} {ts : List Nat} {L : Lt} {st : List Value} {G : Gt} {Q : Qt} {nx : Nt} (hn : ∀ pc L st G, nx pc L st G → wp X mi pc L st G Q) (hd : decode (mB mi) pc = .ok (.return_, nxt - pc)) (hc : chk mi (pc, .return_, nxt, a, b, v, w, ts) = true) (h : stp X mi .return_ nxt a b v w ts L st G Q nx) : wp X mi pc L st G Q := by
  have e : nxt = pc + 1 := Nat.eq_of_beq_eq_true hc
  subst e
  have hd := dlen hd
  unfold stp at h
  dsimp only at h
  split at h
  · rename_i hm
    intro E p l e R s m args below meth c A H locs cells slots ls Z F hr hP hD hS hl
    exact hr none G H locs pc ls h (by unfold rok; rw [hm]; trivial) hd hP hD hS
  · exact h.elim
theorem s_ireturn {X : Xt} {mi pc nxt a b : Nat} {v : Int32} {w : Int64} {ts : List Nat} {L : Lt} {st : List Value} {G : Gt} {Q : Qt} {nx : Nt} (hn : ∀ pc L st G, nx pc L st G → wp X mi pc L st G Q) (hd : decode (mB mi) pc = .ok (.ireturn, nxt - pc)) (hc : chk mi (pc, .ireturn, nxt, a, b, v, w, ts) = true) (h : stp X mi .ireturn nxt a b v w ts L st G Q nx) : wp X mi pc L st G Q := by
  have e : nxt = pc + 1 := Nat.eq_of_beq_eq_true hc
  subst e
  have hd := dlen hd
  unfold stp at h
  dsimp only at h
  split at h
  · rename_i v hm
    intro E p l e R s m args below meth c A H locs cells slots ls Z F hr hP hD hS hl
    exact hr (some (.int v)) G H locs pc ls h (by unfold rok; rw [hm]; trivial) hd hP hD hS
  · rename_i v hm
    intro E p l e R s m args below meth c A H locs cells slots ls Z F hr hP hD hS hl
    exact hr (some (.int v)) G H locs pc ls h.2 (by unfold rok; rw [hm]; exact h.1) hd hP hD hS
  · exact h.elim
theorem s_lreturn {X : Xt} {mi pc nxt a b : Nat} {v : Int32} {w : Int64} {ts : List Nat} {L : Lt} {st : List Value} {G : Gt} {Q : Qt} {nx : Nt} (hn : ∀ pc L st G, nx pc L st G → wp X mi pc L st G Q) (hd : decode (mB mi) pc = .ok (.lreturn, nxt - pc)) (hc : chk mi (pc, .lreturn, nxt, a, b, v, w, ts) = true) (h : stp X mi .lreturn nxt a b v w ts L st G Q nx) : wp X mi pc L st G Q := by
  have e : nxt = pc + 1 := Nat.eq_of_beq_eq_true hc
  subst e
  have hd := dlen hd
  unfold stp at h
  dsimp only at h
  split at h
  · rename_i v hm
    intro E p l e R s m args below meth c A H locs cells slots ls Z F hr hP hD hS hl
    exact hr (some (.long v)) G H locs pc ls h (by unfold rok; rw [hm]; trivial) hd hP hD hS
  · exact h.elim
/-- what a program checks of the cells' table -/
def obOK (e : Nat × Nat × List (Option Nat)) : Bool := match e.1 with
  | 0 => (match classes[e.2.1]? with
    | some (C, T, N) => decide (e.2.2.length = N) && (List.range N).all (fun k => decide ((T k).1 = C) && decide ((e.2.1, k) ∈ ordU) && (match e.2.2[k]? with
      | some none => decide ((T k).2.2.2 = false) && decide (parseFieldDescriptor (T k).2.2.1 = some .int)
      | _ => true))
    | none => false)
  | _ => true
theorem lay_ob : lay.all obOK = true := by decide +kernel
def tgOK (q : (Nat × Nat × List (Option Nat)) × Nat) : Bool := if q.2 < 43 then decide (q.1.1 < 3) else decide (q.1.1 = 3)
theorem lay_tg : lay.zipIdx.all tgOK = true := by decide +kernel
theorem lay_lt {q t n : Nat} {fs : List (Option Nat)} (h : lay[q]? = some (t, n, fs)) : q < 46 ∧ (t < 3 → q < 43) ∧ (t = 3 → 43 ≤ q ∧ q ≤ 45) := by
  have hq : q < 46 := (List.getElem?_eq_some_iff.mp h).1
  have hz : lay.zipIdx[q]? = some ((t, n, fs), q) := by
    rw [List.getElem?_zipIdx, h]
    simp
  have h1 := List.all_eq_true.mp lay_tg _ (List.mem_of_getElem? hz)
  unfold tgOK at h1
  by_cases h43 : q < 43
  · rw [if_pos h43] at h1
    have h2 := decide_eq_true_eq.mp h1
    exact ⟨hq, fun _ => h43, fun e => by dsimp only at h2; omega⟩
  · rw [if_neg h43] at h1
    have h2 := decide_eq_true_eq.mp h1
    exact ⟨hq, fun e => by dsimp only at h2; omega, fun _ => by omega⟩
theorem cls_ty {ci : Nat} {C : String} {T : u_T} {N : Nat} (h : classes[ci]? = some (C, T, N)) : ∃ ty0 : Nat → FieldType, (∀ k, k < N → parseFieldDescriptor (T k).2.2.1 = some (ty0 k)) ∧ ∀ a, a < N → ∀ b, b < N → a ≠ b → (T a).2.1 ≠ (T b).2.1 := by
  match ci, h with
  | 0, h => cases h; exact ⟨tyX0, tyX0_ok, nmX0⟩
  | 1, h => cases h; exact ⟨tyX1, tyX1_ok, nmX1⟩
  | 2, h => cases h; exact ⟨tyX2, tyX2_ok, nmX2⟩
  | 3, h => cases h; exact ⟨tyX3, tyX3_ok, nmX3⟩
  | 4, h => cases h; exact ⟨tyX4, tyX4_ok, nmX4⟩
  | 5, h => cases h; exact ⟨tyX5, tyX5_ok, nmX5⟩
  | 6, h => cases h; exact ⟨tyX6, tyX6_ok, nmX6⟩
  | 7, h => cases h; exact ⟨tyX7, tyX7_ok, nmX7⟩
  | 8, h => cases h; exact ⟨tyX8, tyX8_ok, nmX8⟩
  | 9, h => cases h; exact ⟨tyX9, tyX9_ok, nmX9⟩
  | n + 10, h => simp [classes] at h
theorem lay_cls {q ci k : Nat} {fs : List (Option Nat)} {o : Option Nat} (h : lay[q]? = some (0, ci, fs)) (hk : fs[k]? = some o) : ∃ (C : String) (T : u_T) (N : Nat), classes[ci]? = some (C, T, N) ∧ k < N ∧ (∀ w ∈ u_ws C T N, w ∈ gw) ∧ (T k).1 = C ∧ (o = none → (T k).2.2.2 = false ∧ parseFieldDescriptor (T k).2.2.1 = some .int) := by
  have h1 := List.all_eq_true.mp lay_ob _ (List.mem_of_getElem? h)
  unfold obOK at h1
  dsimp only at h1
  cases hc : classes[ci]? with
  | none => rw [hc] at h1; cases h1
  | some z =>
    obtain ⟨C, T, N⟩ := z
    rw [hc] at h1
    dsimp only at h1
    have hN := decide_eq_true_eq.mp (and1 h1)
    have hall := List.all_eq_true.mp (and2 h1)
    have hkN : k < N := by
      rw [← hN]
      exact (List.getElem?_eq_some_iff.mp hk).1
    have h2 := hall k (List.mem_range.mpr hkN)
    refine ⟨C, T, N, rfl, hkN, ?_, decide_eq_true_eq.mp (and1 (and1 h2)), ?_⟩
    · intro w hw
      obtain ⟨j, hj, rfl⟩ := List.mem_map.mp hw
      have h3 := decide_eq_true_eq.mp (and2 (and1 (hall j hj)))
      have h4 : uW (ci, j) = u_lay C T j := by unfold uW; dsimp only; rw [hc]
      rw [← h4]
      exact inA_gw ordU_ok (List.mem_map.mpr ⟨_, h3, rfl⟩)
    · intro ho
      have h3 := and2 h2
      rw [hk, ho] at h3
      dsimp only at h3
      exact ⟨decide_eq_true_eq.mp (and1 h3), decide_eq_true_eq.mp (and2 h3)⟩
theorem cE_obj {E : Ev} {G : Gt} {q ci : Nat} {fs : List (Option Nat)} (h : lay[q]? = some (0, ci, fs)) : cE E G q = .inr (ci, fs.zipIdx.map (fV E G q)) := by
  unfold cE
  rw [h]
  rfl
theorem fls_link {mi i ci k : Nat} {C : String} {T : u_T} {N : Nat} (hm : (mO mi, i, ci, k) ∈ fls) (hc : classes[ci]? = some (C, T, N)) : Cond.fieldLink (cN (mO mi)) i C (T k).2.1 (T k).2.2.1 ∈ gw := by
  have h1 : fW (mO mi, i, ci, k) = Cond.fieldLink (cN (mO mi)) i C (T k).2.1 (T k).2.2.1 := by
    unfold fW
    dsimp only
    rw [hc]
  rw [← h1]
  exact inA_gw fls_ok (List.mem_map.mpr ⟨_, hm, rfl⟩)
theorem s_getfield {X : Xt} {mi pc nxt a b : Nat} {v : Int32} {w : Int64} {ts : List Nat} {L : Lt} {st : List Value} {G : Gt} {Q : Qt} {i : Nat} {nx : Nt} (hn : ∀ pc L st G, nx pc L st G → wp X mi pc L st G Q) (hd : decode (mB mi) pc = .ok (.getfield i, nxt - pc)) (hc : chk mi (pc, .getfield i, nxt, a, b, v, w, ts) = true) (h : stp X mi (.getfield i) nxt a b v w ts L st G Q nx) : wp X mi pc L st G Q := by
  have hm := decide_eq_true_eq.mp (and2 hc)
  have e : nxt = pc + 3 := Nat.eq_of_beq_eq_true (and1 hc)
  subst e
  have hd := dlen hd
  unfold stp at h
  dsimp only at h
  split at h
  · rename_i q r
    split at h
    · rename_i ci fs hly
      have go : ∀ o v, ci = a → fs[b]? = some o → (∀ E : Ev, fV E G q (o, b) = cv E v) → nx (pc + 3) L (v :: r) G → wp X mi pc L (.ref q :: r) G Q := by
        intro o v hca hfs hv h9
        subst hca
        obtain ⟨C, T, N, hcl, hkN, hin, hT1, -⟩ := lay_cls hly hfs
        have hq := (lay_lt hly).2.1 (by omega)
        intro E p l e R s m args below meth c A H locs cells slots ls Z F hr hP hD hS hl
        refine va_get (D := E.1) (ci := ci) (v := cv E v) (C := C) (T := T) (N := N) F.1.1 F.1.2.1 F.2.1 hin F.1.2.2.2 F.2.2.2.1 hP q (by rw [ws_at hq, cE_obj hly]) hcl b hkN (F.2.1 _ (fls_link hm hcl)) (fun x hx => by rw [hT1] at hx; exact hx) (by rw [← hv]; exact fs_get hfs) hd ?_
        exact hn _ _ _ _ h9 E p l e R s m args below meth c A H locs cells slots ls Z F hr hP hD hS hl
      split at h
      · rename_i z hb hfs
        exact go _ (.ref z) (Nat.eq_of_beq_eq_true hb) hfs (fun E => rfl) h
      · rename_i hb hfs
        exact go _ (.int (G q b)) (Nat.eq_of_beq_eq_true hb) hfs (fun E => rfl) h
      · exact h.elim
    · exact h.elim
  · exact h.elim
theorem s_putfield {X : Xt} {mi pc nxt a b : Nat} {v : Int32} {w : Int64} {ts : List Nat} {L : Lt} {st : List Value} {G : Gt} {Q : Qt} {i : Nat} {nx : Nt} (hn : ∀ pc L st G, nx pc L st G → wp X mi pc L st G Q) (hd : decode (mB mi) pc = .ok (.putfield i, nxt - pc)) (hc : chk mi (pc, .putfield i, nxt, a, b, v, w, ts) = true) (h : stp X mi (.putfield i) nxt a b v w ts L st G Q nx) : wp X mi pc L st G Q := by
  have hm := decide_eq_true_eq.mp (and2 hc)
  have e : nxt = pc + 3 := Nat.eq_of_beq_eq_true (and1 hc)
  subst e
  have hd := dlen hd
  unfold stp at h
  dsimp only at h
  split at h
  · rename_i x q r
    split at h
    · rename_i ci fs hly
      split at h
      · rename_i hb hfs
        have hca := Nat.eq_of_beq_eq_true hb
        subst hca
        obtain ⟨C, T, N, hcl, hkN, hin, hT1, hno⟩ := lay_cls hly hfs
        obtain ⟨hfin, hds⟩ := hno rfl
        obtain ⟨ty0, hty, hnm⟩ := cls_ty hcl
        have hq := (lay_lt hly).2.1 (by omega)
        intro E p l e R s m args below meth c A H locs cells slots ls Z F hr hP hD hS hl
        have hw : (ws E G).set q (E.2.1 q, .inr (ci, (fs.zipIdx.map (fV E G q)).set b (.int x))) = ws E (sG G q (upd (G q) b x)) := ws_set hq _ (by rw [cE_obj hly, fs_set hfs]) (fun j hj => sG_ne hj)
        refine va_put (D := E.1) (ci := ci) (v := .int x) (ty := .int) (C := C) (T := T) (N := N) F.1.1 F.1.2.1 F.2.1 hin ty0 hty hnm F.1.2.2.2 F.2.2.2.1 hP hD hS q (fs := fs.zipIdx.map (fV E G q)) (by rw [ws_at hq, cE_obj hly]) hcl b hkN (F.2.1 _ (fls_link hm hcl)) (fun x hx => by rw [hT1] at hx; exact hx) hfin hds rfl rfl (by simp; exact (List.getElem?_eq_some_iff.mp hfs).1) hd (fun H1 locs1 hP hD hS => ?_)
        rw [hw] at hP hD
        exact hn _ _ _ _ h E p l e R s m args below meth c A H1 locs1 cells slots ls Z F hr hP hD hS hl
      · exact h.elim
    · exact h.elim
  · exact h.elim
theorem arT_inv {q t n : Nat} (h : arT q = some (t, n)) : ∃ fs, lay[q]? = some (t, n, fs) := by
  unfold arT at h
  split at h
  · rename_i fs hl
    cases h
    exact ⟨_, hl⟩
  · cases h
theorem cE_int {E : Ev} {G : Gt} {q n : Nat} {fs : List (Option Nat)} (h : lay[q]? = some (1, n, fs)) : cE E G q = .inl (E.2.2.1, n, .inl (G q)) := by
  unfold cE
  rw [h]
  rfl
theorem cE_bool {E : Ev} {G : Gt} {q n : Nat} {fs : List (Option Nat)} (h : lay[q]? = some (2, n, fs)) : cE E G q = .inl (E.2.2.2, n, .inl (G q)) := by
  unfold cE
  rw [h]
  rfl
theorem s_iaload {X : Xt} {mi pc nxt a b : Nat} {v : Int32} {w : Int64} {ts : List Nat} {L : Lt} {st : List Value} {G : Gt} {Q : Qt} {nx : Nt} (hn : ∀ pc L st G, nx pc L st G → wp X mi pc L st G Q) (hd : decode (mB mi) pc = .ok (.iaload, nxt - pc)) (hc : chk mi (pc, .iaload, nxt, a, b, v, w, ts) = true) (h : stp X mi .iaload nxt a b v w ts L st G Q nx) : wp X mi pc L st G Q := by
  have e : nxt = pc + 1 := Nat.eq_of_beq_eq_true hc
  subst e
  have hd := dlen hd
  unfold stp at h
  dsimp only at h
  split at h
  · rename_i i q r
    split at h
    · rename_i n hq
      obtain ⟨hin, h⟩ := h
      obtain ⟨fs, hly⟩ := arT_inv hq
      have hq := (lay_lt hly).2.1 (by omega)
      intro E p l e R s m args below meth c A H locs cells slots ls Z F hr hP hD hS hl
      exact va_iald F.1.1 F.1.2.1 F.2.2.2.1 hP q 0 (by rw [ws_at hq, cE_int hly]) rfl hin hd (hn _ _ _ _ h E p l e R s m args below meth c A H locs cells slots ls Z F hr hP hD hS hl)
    · rename_i n hq
      obtain ⟨hin, h⟩ := h
      obtain ⟨fs, hly⟩ := arT_inv hq
      obtain ⟨g1, g2⟩ := (lay_lt hly).2.2 rfl
      intro E p l e R s m args below meth c A H locs cells slots ls Z F hr hP hD hS hl
      obtain ⟨hX, hbA⟩ := F.2.2.2.2.2.1.1 q g1 g2
      have hbl : E.2.1 q < s.heap.size := by
        obtain ⟨scr, h1, -⟩ := hX
        exact (Array.getElem?_eq_some_iff.mp h1).1
      exact va_sld F.1.1 F.1.2.1 hX hbl hbA hS hin hd (hn _ _ _ _ h E p l e R s m args below meth c A H locs cells slots ls Z F hr hP hD hS hl)
    · exact h.elim
  · exact h.elim
theorem s_baload {X : Xt} {mi pc nxt a b : Nat} {v : Int32} {w : Int64} {ts : List Nat} {L : Lt} {st : List Value} {G : Gt} {Q : Qt} {nx : Nt} (hn : ∀ pc L st G, nx pc L st G → wp X mi pc L st G Q) (hd : decode (mB mi) pc = .ok (.baload, nxt - pc)) (hc : chk mi (pc, .baload, nxt, a, b, v, w, ts) = true) (h : stp X mi .baload nxt a b v w ts L st G Q nx) : wp X mi pc L st G Q := by
  have e : nxt = pc + 1 := Nat.eq_of_beq_eq_true hc
  subst e
  have hd := dlen hd
  unfold stp at h
  dsimp only at h
  split at h
  · rename_i i q r
    split at h
    · rename_i n hq
      obtain ⟨hin, h⟩ := h
      obtain ⟨fs, hly⟩ := arT_inv hq
      have hq := (lay_lt hly).2.1 (by omega)
      intro E p l e R s m args below meth c A H locs cells slots ls Z F hr hP hD hS hl
      exact va_zald F.1.1 F.1.2.1 F.2.2.2.1 hP q 1 (by rw [ws_at hq, cE_bool hly]) rfl hin hd (hn _ _ _ _ h E p l e R s m args below meth c A H locs cells slots ls Z F hr hP hD hS hl)
    · exact h.elim
  · exact h.elim
theorem s_iastore {X : Xt} {mi pc nxt a b : Nat} {v : Int32} {w : Int64} {ts : List Nat} {L : Lt} {st : List Value} {G : Gt} {Q : Qt} {nx : Nt} (hn : ∀ pc L st G, nx pc L st G → wp X mi pc L st G Q) (hd : decode (mB mi) pc = .ok (.iastore, nxt - pc)) (hc : chk mi (pc, .iastore, nxt, a, b, v, w, ts) = true) (h : stp X mi .iastore nxt a b v w ts L st G Q nx) : wp X mi pc L st G Q := by
  have e : nxt = pc + 1 := Nat.eq_of_beq_eq_true hc
  subst e
  have hd := dlen hd
  unfold stp at h
  dsimp only at h
  split at h
  · rename_i x i q r
    split at h
    · rename_i n hq
      obtain ⟨hin, h⟩ := h
      obtain ⟨fs, hly⟩ := arT_inv hq
      have hq := (lay_lt hly).2.1 (by omega)
      intro E p l e R s m args below meth c A H locs cells slots ls Z F hr hP hD hS hl
      refine va_iast F.1.1 F.1.2.1 F.2.2.2.1 hP hD hS q 0 (by rw [ws_at hq, cE_int hly]) rfl hin hd (fun H1 locs1 hP hD hS => ?_)
      rw [ws_set hq (sG G q (upd (G q) i.toNatClampNeg x)) (by rw [cE_int hly, sG_at]) (fun j hj => sG_ne hj)] at hP hD
      exact hn _ _ _ _ h E p l e R s m args below meth c A H1 locs1 cells slots ls Z F hr hP hD hS hl
    · exact h.elim
  · exact h.elim
theorem s_bastore {X : Xt} {mi pc nxt a b : Nat} {v : Int32} {w : Int64} {ts : List Nat} {L : Lt} {st : List Value} {G : Gt} {Q : Qt} {nx : Nt} (hn : ∀ pc L st G, nx pc L st G → wp X mi pc L st G Q) (hd : decode (mB mi) pc = .ok (.bastore, nxt - pc)) (hc : chk mi (pc, .bastore, nxt, a, b, v, w, ts) = true) (h : stp X mi .bastore nxt a b v w ts L st G Q nx) : wp X mi pc L st G Q := by
  have e : nxt = pc + 1 := Nat.eq_of_beq_eq_true hc
  subst e
  have hd := dlen hd
  unfold stp at h
  dsimp only at h
  split at h
  · rename_i x i q r
    split at h
    · rename_i n hq
      obtain ⟨hin, h⟩ := h
      obtain ⟨fs, hly⟩ := arT_inv hq
      have hq := (lay_lt hly).2.1 (by omega)
      intro E p l e R s m args below meth c A H locs cells slots ls Z F hr hP hD hS hl
      refine va_zast F.1.1 F.1.2.1 F.2.2.2.1 hP hD hS q 1 (by rw [ws_at hq, cE_bool hly]) rfl hin hd (fun H1 locs1 hP hD hS => ?_)
      rw [ws_set hq (sG G q (upd (G q) i.toNatClampNeg (vp_nar .boolean x))) (by rw [cE_bool hly, sG_at]) (fun j hj => sG_ne hj)] at hP hD
      exact hn _ _ _ _ h E p l e R s m args below meth c A H1 locs1 cells slots ls Z F hr hP hD hS hl
    · exact h.elim
  · exact h.elim
theorem s_arraylength {X : Xt} {mi pc nxt a b : Nat} {v : Int32} {w : Int64} {ts : List Nat} {L : Lt} {st : List Value} {G : Gt} {Q : Qt} {nx : Nt} (hn : ∀ pc L st G, nx pc L st G → wp X mi pc L st G Q) (hd : decode (mB mi) pc = .ok (.arraylength, nxt - pc)) (hc : chk mi (pc, .arraylength, nxt, a, b, v, w, ts) = true) (h : stp X mi .arraylength nxt a b v w ts L st G Q nx) : wp X mi pc L st G Q := by
  have e : nxt = pc + 1 := Nat.eq_of_beq_eq_true hc
  subst e
  have hd := dlen hd
  unfold stp at h
  dsimp only at h
  split at h
  · rename_i q r
    split at h
    · rename_i n hq
      obtain ⟨fs, hly⟩ := arT_inv hq
      have hq := (lay_lt hly).2.1 (by omega)
      intro E p l e R s m args below meth c A H locs cells slots ls Z F hr hP hD hS hl
      exact va_alen (x := (n, .inl (G q))) F.1.1 F.1.2.1 F.2.2.2.1 hP q 0 (by rw [ws_at hq, cE_int hly]) rfl rfl hd (hn _ _ _ _ h E p l e R s m args below meth c A H locs cells slots ls Z F hr hP hD hS hl)
    · rename_i n hq
      obtain ⟨fs, hly⟩ := arT_inv hq
      have hq := (lay_lt hly).2.1 (by omega)
      intro E p l e R s m args below meth c A H locs cells slots ls Z F hr hP hD hS hl
      exact va_alen (x := (n, .inl (G q))) F.1.1 F.1.2.1 F.2.2.2.1 hP q 1 (by rw [ws_at hq, cE_bool hly]) rfl rfl hd (hn _ _ _ _ h E p l e R s m args below meth c A H locs cells slots ls Z F hr hP hD hS hl)
    · rename_i n hq
      obtain ⟨fs, hly⟩ := arT_inv hq
      obtain ⟨g1, g2⟩ := (lay_lt hly).2.2 rfl
      intro E p l e R s m args below meth c A H locs cells slots ls Z F hr hP hD hS hl
      obtain ⟨hX, hbA⟩ := F.2.2.2.2.2.1.1 q g1 g2
      have hbl : E.2.1 q < s.heap.size := by
        obtain ⟨scr, h1, -⟩ := hX
        exact (Array.getElem?_eq_some_iff.mp h1).1
      exact va_slen F.1.1 F.1.2.1 hX hbl hbA hS hd (hn _ _ _ _ h E p l e R s m args below meth c A H locs cells slots ls Z F hr hP hD hS hl)
    · exact h.elim
  · exact h.elim
theorem gls_e : gls.all (fun q => decide (44 ≤ q.2.2) && decide (q.2.2 ≤ 45)) = true := by decide +kernel
theorem s_getstatic {X : Xt} {mi pc nxt a b : Nat} {v : Int32} {w : Int64} {ts : List Nat} {L : Lt} {st : List Value} {G : Gt} {Q : Qt} {i : Nat} {nx : Nt} (hn : ∀ pc L st G, nx pc L st G → wp X mi pc L st G Q) (hd : decode (mB mi) pc = .ok (.getstatic i, nxt - pc)) (hc : chk mi (pc, .getstatic i, nxt, a, b, v, w, ts) = true) (h : stp X mi (.getstatic i) nxt a b v w ts L st G Q nx) : wp X mi pc L st G Q := by
  have hm := decide_eq_true_eq.mp (and2 hc)
  have e : nxt = pc + 3 := Nat.eq_of_beq_eq_true (and1 hc)
  subst e
  have hd := dlen hd
  have h1 := List.all_eq_true.mp gls_e _ hm
  intro E p l e R s m args below meth c A H locs cells slots ls Z F hr hP hD hS hl
  exact va_gets F.1.1 F.1.2.1 (F.2.2.2.2.2.1.2 a (decide_eq_true_eq.mp (and1 h1)) (decide_eq_true_eq.mp (and2 h1))) hS F.1.2.2.2 (F.2.1 _ (inA_gw gls_ok (List.mem_map.mpr ⟨_, hm, rfl⟩))) (fun x hx => hx) hd (hn _ _ _ _ h E p l e R s m args below meth c A H locs cells slots ls Z F hr hP hD hS hl)
end
section
/-! calls -/
noncomputable def methOK (a : Nat) : Bool := decide (a ∈ ordC) && decide (cN (mO a) = (mY a).cls) && decide (mO a ∈ ordN) && Jvm.plainName (mY a).cls && decide ((mY a).cls ≠ "java/lang/invoke/MethodHandle") && decide ((mY a).cls ≠ "java/lang/invoke/VarHandle") && (match mK a with
  | 0 => decide (a ∈ ordI) && decide (a ∈ ordX)
  | _ => decide (a ∈ ordS))
theorem meth_all : (List.range 174).all methOK = true := by decide +kernel
theorem mls_lt : mls.all (fun q => Nat.blt q.2.2 174) = true := by decide +kernel
theorem nls_lt : nls.all (fun q => Nat.blt q.2.2 174) = true := by decide +kernel
theorem sls_sp : sls.all (fun q => decide (q.2.2 = 900) || decide (q.2.2 = 901) || decide (q.2.2 = 902) || decide (q.2.2 = 903)) = true := by decide +kernel
theorem meth_ok {a : Nat} (h : a < 174) : cW a ∈ gw ∧ cN (mO a) = (mY a).cls ∧ Cond.initialized (mY a).cls ∈ gw ∧ Jvm.plainName (mY a).cls = true ∧ (mY a).cls ≠ "java/lang/invoke/MethodHandle" ∧ (mY a).cls ≠ "java/lang/invoke/VarHandle" ∧ (mK a = 0 → Cond.instanceMethod (mY a) ∈ gw ∧ Cond.selects (mY a).cls (mY a) (mY a) ∈ gw) ∧ (mK a = 1 → Cond.static (mY a) ∈ gw) := by
  have h1 := List.all_eq_true.mp meth_all a (List.mem_range.mpr h)
  unfold methOK at h1
  have g1 := decide_eq_true_eq.mp (and1 (and1 (and1 (and1 (and1 (and1 h1))))))
  have g2 := decide_eq_true_eq.mp (and2 (and1 (and1 (and1 (and1 (and1 h1))))))
  have g3 := decide_eq_true_eq.mp (and2 (and1 (and1 (and1 (and1 h1)))))
  have g4 := and2 (and1 (and1 (and1 h1)))
  have g5 := decide_eq_true_eq.mp (and2 (and1 (and1 h1)))
  have g6 := decide_eq_true_eq.mp (and2 (and1 h1))
  have g7 := and2 h1
  refine ⟨ordC_gw g1, g2, ?_, g4, g5, g6, fun hk => ?_, fun hk => ?_⟩
  · rw [← g2]
    exact inA_gw ordN_ok (List.mem_map.mpr ⟨_, g3, rfl⟩)
  · rw [hk] at g7
    exact ⟨inA_gw ordI_ok (List.mem_map.mpr ⟨_, decide_eq_true_eq.mp (and1 g7), rfl⟩), inA_gw ordX_ok (List.mem_map.mpr ⟨_, decide_eq_true_eq.mp (and2 g7), rfl⟩)⟩
  · rw [hk] at g7
    exact inA_gw ordS_ok (List.mem_map.mpr ⟨_, decide_eq_true_eq.mp g7, rfl⟩)
theorem gw_in {a : Nat} (h : a < 174) : GoodIn gw (cW a :: gw) := by
  intro w hw
  rcases List.mem_cons.mp hw with q | q
  · rw [q]; exact ⟨(meth_ok h).1, good_of_word (gw_good (meth_ok h).1)⟩
  · exact ⟨q, good_of_word (gw_good q)⟩
theorem gw_cons {big ws : List Cond} {w : Cond} (h : w ∈ big) (hg : goodWord w = true) (ht : GoodIn big ws) : GoodIn big (w :: ws) := by
  intro v hv
  rcases List.mem_cons.mp hv with q | q
  · rw [q]; exact ⟨h, good_of_word hg⟩
  · exact ht v q
theorem Ao_sub {X : Xt} {E : Ev} {G : Gt} {A : Nat → Prop} {s : State} {H : Heap} {locs : List Loc} (hA : ∀ q, s.heap.size ≤ q → A q) (hD : va_D A (ws E G)) (hS : va_S A s.heap H locs) : ∀ q, Ao E H.size q → A q := by
  intro q h
  rcases h with ⟨k, hk, rfl⟩ | h
  · exact hD.2 k _ (ws_at hk)
  · exact hA q (Nat.le_trans hS.1 h)
theorem Wd_pre {X : Xt} {E : Ev} {mi : Nat} {p : Program} {R : Room} {s : State} {m : MethodId} {args : Array Value} {c : Code} {A : Nat → Prop} {cells slots : Nat} {G : Gt} {H : Heap} {locs : List Loc} (F : FX X E mi p R s m args c A cells slots) (hP : va_P E.1 classes (ws E G) H) (hD : va_D A (ws E G)) (hS : va_S A s.heap H locs) (U : State) (hU : U.heap = H) (hW : s.WarmedH U.vm) : Wd X E H.size G U := by
  refine ⟨by rw [hU], by rw [hU]; exact hP, va_K.moved hW.alike F.2.2.2.1, ⟨hD.1, fun k q hk => ?_⟩, fun q hq => va_Nw.warmM hW (F.2.2.1 q hq), ?_⟩
  · obtain ⟨h1, h2⟩ := ws_inv hk
    exact Or.inl ⟨k, h1, by rw [h2]⟩
  · rw [hU]
    exact ((F.2.2.2.2.2.1.kept hS.2.1).narrow (Ao_sub (X := X) F.2.2.2.2.1 hD hS)).moved hW.alike
theorem Wd_blind {X : Xt} {E : Ev} {sz : Nat} {G : Gt} {av : List Value} : FrameBlind (va_Pc av (Wd X E sz G)) := by
  intro a U g mk h
  obtain ⟨h1, h2, h3, h4, h5, h6, h7⟩ := h
  exact ⟨h1, h2, h3, va_K.moved (u := U) (U := U.calling g mk a) (Vm.Alike.refl U.vm) h4, h5, fun q hq => va_Nw.same (u := U) (U := U.calling g mk a) rfl rfl (h6 q hq), XT.moved (u := U) (U := U.calling g mk a) (Vm.Alike.refl U.vm) h7⟩
theorem callU {E : Ev} {mj : Nat} {Q' : Qt} {p : Program} {l : Launch} {e : Env} {R : Room} {s : State} {m : MethodId} {args : Array Value} {below : List Frame} {meth : Method} {c : Code} {H : Heap} {locs : List Loc} {cells slots pc : Nat} {ls : Array Slot} {st0 rest : List Value} {a : Array Value} {A A1 : Nat → Prop} {H0 : Heap} {Z : State → Prop}
    (hr : va_Run p l e R s m args below meth c H locs cells slots 0 0 (F0 m pc ls st0) rest (QU E mj Q' A1 a) A1) (hS : va_S A H0 H locs) (hA : ∀ q, A1 q → A q)
    (kk : ∀ (r : Option Value) (G' : Gt) (H1 : Heap) (locs1 : List Loc), rok mj r → Q' r G' → va_P E.1 classes (ws E G') H1 → va_D A (ws E G') → va_S A H0 H1 locs1 → W p l e R s m args below meth c H1 locs1 cells slots Z (F0 m (pc + 3) ls (r.toList ++ rest))) : W p l e R s m args below meth c H locs cells slots Z (F0 m pc ls st0) := by
  intro T hT X
  obtain ⟨v, st₀, t, T', L, h0, X', hL, e1, e2, ⟨⟨r, G', hv, hk1, hq, hP, hD⟩, hz, hk⟩, st⟩ := hr T hT X
  cases hv
  rw [h0] at hz hk
  obtain ⟨t2, a1, b1⟩ := kk v G' T'.heap (locs ++ L) hk1 hq (by rw [e1]; exact hP) (hD.weaken (fun k q _ h => hA q.1 h))
    ⟨Nat.le_trans hS.1 (by rw [e1]; exact hz), fun q h1 h2 => by rw [e1, hk q (Nat.lt_of_lt_of_le h1 hS.1) (fun z => h2 (hA q z))]; exact hS.2.1 q h1 h2, fun q hq => by
      rcases List.mem_append.mp hq with h | h
      · exact hS.2.2 q h
      · exact hA _ (hL q h)⟩ T' rfl X'
  exact ⟨t2, st t2 a1, b1⟩
theorem rok_cS {mj : Nat} {r : Option Value} (E : Ev) (st : List Value) (h : rok mj r) : cS E (r.toList ++ st) = r.toList ++ cS E st := by
  rcases rok_cases h with ⟨rfl, -⟩ | ⟨v, rfl, -⟩ | ⟨v, rfl, -, -⟩ | ⟨v, rfl, -⟩ <;> rfl
set_option maxHeartbeats 4000000 in
theorem s_invokevirtual {X : Xt} {mi pc nxt a b : Nat} {v : Int32} {w : Int64} {ts : List Nat} {L : Lt} {st : List Value} {G : Gt} {Q : Qt} {i : Nat} {nx : Nt} (hn : ∀ pc L st G, nx pc L st G → wp X mi pc L st G Q) (hd : decode (mB mi) pc = .ok (.invokevirtual i, nxt - pc)) (hc : chk mi (pc, .invokevirtual i, nxt, a, b, v, w, ts) = true) (h : stp X mi (.invokevirtual i) nxt a b v w ts L st G Q nx) : wp X mi pc L st G Q := by
  unfold stp at h
  dsimp only at h
  split at h
  · rename_i as q r htk
    split at h
    · rename_i ci fs hly
      split at h
      · rename_i hb
        have hb1 := Nat.eq_of_beq_eq_true (and1 hb)
        have hb2 := Nat.le_of_ble_eq_true (and2 hb)
        have hm := decide_eq_true_eq.mp (and2 (and1 hc))
        have e : nxt = pc + 3 := Nat.eq_of_beq_eq_true (and1 (and1 hc))
        subst e
        have hd := dlen hd
        have hK0 := Nat.eq_of_beq_eq_true (and1 (and1 (and2 hc)))
        have hrm := and2 (and1 (and2 hc))
        have hpar := decide_eq_true_eq.mp (and2 (and2 hc))
        have hlt := blt_ok (List.all_eq_true.mp mls_lt _ hm)
        obtain ⟨w1, w2, w3, w4, w5, w6, w7, -⟩ := meth_ok hlt
        obtain ⟨w7, w8⟩ := w7 hK0
        have hmL : Cond.methodLink (cN (mO mi)) i (mY a) ∈ gw := inA_gw mls_ok (List.mem_map.mpr ⟨_, hm, rfl⟩)
        have hq := (lay_lt hly).2.1 (by omega)
        obtain ⟨hlen, hst⟩ := tk_ok htk
        intro E p l e R s m args below meth c A H locs cells slots ls Z F hr hP hD hS hl
        have hci : ∃ z, classes[ci]? = some z ∧ z.1 = (mY a).cls := by
          have h1 := List.all_eq_true.mp lay_ob _ (List.mem_of_getElem? hly)
          unfold obOK at h1
          dsimp only at h1
          cases hcc : classes[ci]? with
          | none => rw [hcc] at h1; cases h1
          | some z =>
            refine ⟨z, rfl, ?_⟩
            have hc10 : ci < 10 := (List.getElem?_eq_some_iff.mp hcc).1
            rw [← ocR_ok ci hc10 z hcc, hb1, w2]
        obtain ⟨z, hcc, hz⟩ := hci
        refine callU (va_runV (C := (mY a).cls) (As := cS E as) (rest := cS E r) (b := E.2.1 q) ⟨F.1.1, F.1.2.1, F.1.2.2.1, F.1.2.2.2, F.2.1⟩ (h E l H.size) (cwV b F.2.1 (gw_cons hmL (gw_good hmL) (gw_cons w7 (gw_good w7) (gw_cons w8 (gw_good w8) (gw_cons w3 (gw_good w3) (gw_in hlt))))) rfl rfl rfl ⟨rfl, w5, w6, hpar⟩ ⟨Nat.le_trans (Nat.le_of_ble_eq_true (and1 hrm)) F.2.2.2.2.2.2.1, Nat.le_trans (Nat.le_of_ble_eq_true (and2 hrm)) F.2.2.2.2.2.2.2.1⟩)
          ⟨Wd_blind, ?_, fun U hU hW => ⟨rfl, Wd_pre F hP hD hS U hU hW⟩⟩ rfl (by simp [cS]; rw [hlen]; rfl) hl.1 ?_ (lv_room (by rw [catS_ok]; exact hb2)) hd ⟨F.2.2.2.2.2.2.2.2.1, F.2.2.2.2.2.2.2.2.2⟩) hS (Ao_sub (X := X) F.2.2.2.2.1 hD hS) (fun v G' H1 locs1 hk hQ hP hD hS => ?_)
        · rw [← hz]
          exact va_recv F.2.2.2.1 hP hcc (by rw [ws_at hq, cE_obj hly])
        · show cS E st = (cS E as).reverse ++ .ref (E.2.1 q) :: cS E r
          have h3 : st = as.reverse ++ .ref q :: r := by rw [hst]; rfl
          rw [h3]
          simp [cS, cv]
        · rw [← rok_cS E r hk]
          exact hn _ _ _ _ hQ E p l e R s m args below meth c A H1 locs1 cells slots ls Z F hr hP hD hS hl
      · exact h.elim
    · exact h.elim
  · exact h.elim
set_option maxHeartbeats 4000000 in
theorem s_static {X : Xt} {mi pc nxt a b : Nat} {v : Int32} {w : Int64} {ts : List Nat} {L : Lt} {st : List Value} {G : Gt} {Q : Qt} {i : Nat} (ha : ¬ 900 ≤ a) {nx : Nt} (hn : ∀ pc L st G, nx pc L st G → wp X mi pc L st G Q) (hd : decode (mB mi) pc = .ok (.invokestatic i, nxt - pc)) (hc : chk mi (pc, .invokestatic i, nxt, a, b, v, w, ts) = true) (h : match tk b [] st with
      | some (as, r) => (match Nat.ble (catS r) 8 with
        | true => con X a as G (fun v G' => nx nxt L (v.toList ++ r) G')
        | false => False)
      | _ => False) : wp X mi pc L st G Q := by
  split at h
  · rename_i as r htk
    split at h
    · rename_i hb
      have hb2 := Nat.le_of_ble_eq_true hb
      unfold chk at hc
      dsimp only at hc
      rw [if_neg ha] at hc
      have hm := and2 (and1 hc)
      have e : nxt = pc + 3 := Nat.eq_of_beq_eq_true (and1 (and1 hc))
      subst e
      have hd := dlen hd
      have hK1 := Nat.eq_of_beq_eq_true (and1 (and1 (and2 hc)))
      have hrm := and2 (and1 (and2 hc))
      have hpar := decide_eq_true_eq.mp (and2 (and2 hc))
      obtain ⟨hlen, hst⟩ := tk_ok htk
      have hstk : ∀ E : Ev, cS E st = (cS E as).reverse ++ cS E r := by
        intro E
        have h3 : st = as.reverse ++ r := by rw [hst]; rfl
        rw [h3]
        simp [cS]
      by_cases hm1 : (mO mi, i, a) ∈ mls
      · have hlt := blt_ok (List.all_eq_true.mp mls_lt _ hm1)
        obtain ⟨w1, w2, w3, w4, w5, w6, -, w8⟩ := meth_ok hlt
        have w8 := w8 hK1
        have hmL : Cond.methodLink (cN (mO mi)) i (mY a) ∈ gw := inA_gw mls_ok (List.mem_map.mpr ⟨_, hm1, rfl⟩)
        intro E p l e R s m args below meth c A H locs cells slots ls Z F hr hP hD hS hl
        refine callU (va_runS (As := cS E as) (rest := cS E r) ⟨F.1.1, F.1.2.1, F.1.2.2.1, F.1.2.2.2, F.2.1⟩ (h E l H.size) (va_cwS b F.2.1 (gw_cons hmL (gw_good hmL) (gw_cons w8 (gw_good w8) (gw_cons w3 (gw_good w3) (gw_in hlt)))) rfl rfl rfl ⟨w5, w6, hpar⟩ ⟨Nat.le_trans (Nat.le_of_ble_eq_true (and1 hrm)) F.2.2.2.2.2.2.1, Nat.le_trans (Nat.le_of_ble_eq_true (and2 hrm)) F.2.2.2.2.2.2.2.1⟩)
          ⟨Wd_blind, fun U hU hW => ⟨rfl, Wd_pre F hP hD hS U hU hW⟩⟩ rfl (by simp [cS]; rw [hlen]; rfl) hl.1 (hstk E) (lv_room (by rw [catS_ok]; exact hb2)) hd ⟨F.2.2.2.2.2.2.2.2.1, F.2.2.2.2.2.2.2.2.2⟩) hS (Ao_sub (X := X) F.2.2.2.2.1 hD hS) (fun v G' H1 locs1 hk hQ hP hD hS => ?_)
        rw [← rok_cS E r hk]
        exact hn _ _ _ _ hQ E p l e R s m args below meth c A H1 locs1 cells slots ls Z F hr hP hD hS hl
      · have hm2 : (mO mi, i, a) ∈ nls := by
          rcases Bool.or_eq_true _ _ ▸ hm with q | q
          · exact absurd (decide_eq_true_eq.mp q) hm1
          · exact decide_eq_true_eq.mp q
        have hlt := blt_ok (List.all_eq_true.mp nls_lt _ hm2)
        obtain ⟨w1, w2, w3, w4, w5, w6, -, w8⟩ := meth_ok hlt
        have w8 := w8 hK1
        intro E p l e R s m args below meth c A H locs cells slots ls Z F hr hP hD hS hl
        have hnw := F.2.2.1 (mO mi, i, a) hm2
        unfold nW at hnw
        dsimp only at hnw
        have cn : va_CN R s args (cN (mO mi)) i (mY a) "StoneWorks" (mB a) (mL a) (mR a) (cW a :: gw) { frames := mF a, cells := 0, slots := 0, locals := mLo a } 0 0 b := va_cnB b F.2.1 (gw_in hlt) rfl rfl rfl hnw (F.2.1 _ w3) ⟨w5, w6, hpar⟩ ⟨Nat.le_trans (Nat.le_of_ble_eq_true (and1 hrm)) F.2.2.2.2.2.2.1, Nat.le_trans (Nat.le_of_ble_eq_true (and2 hrm)) F.2.2.2.2.2.2.2.1⟩
        refine callU (va_runSN (host := "StoneWorks") (As := cS E as) (rest := cS E r) ⟨F.1.1, F.1.2.1, F.1.2.2.1, F.1.2.2.2, F.2.1⟩ (h E l H.size) ⟨cn, F.2.1 _ w8, trivial⟩
          ⟨Wd_blind, fun U hU hW => ⟨rfl, Wd_pre F hP hD hS U hU hW⟩⟩ rfl (by simp [cS]; rw [hlen]; rfl) hl.1 (hstk E) (lv_room (by rw [catS_ok]; exact hb2)) hd ⟨F.2.2.2.2.2.2.2.2.1, F.2.2.2.2.2.2.2.2.2⟩) hS (Ao_sub (X := X) F.2.2.2.2.1 hD hS) (fun v G' H1 locs1 hk hQ hP hD hS => ?_)
        rw [← rok_cS E r hk]
        exact hn _ _ _ _ hQ E p l e R s m args below meth c A H1 locs1 cells slots ls Z F hr hP hD hS hl
    · exact h.elim
  · exact h.elim
theorem jdk_ok : [Cond.static Lib.Math.max.name, .static Lib.Math.min.name, .static Lib.Math.abs.name, .static arraycopyName, .native arraycopyName, .initialized "java/lang/Math", .initialized "java/lang/System", .code Lib.Math.max.name Lib.Math.max.code 2 (some .int), .code Lib.Math.min.name Lib.Math.min.code 2 (some .int), .code Lib.Math.abs.name Lib.Math.abs.code 1 (some .int)].all (fun w => decide (w ∈ lw_tbl) && goodWord w) = true := by decide +kernel
theorem jdk_in {w : Cond} (h : w ∈ [Cond.static Lib.Math.max.name, .static Lib.Math.min.name, .static Lib.Math.abs.name, .static arraycopyName, .native arraycopyName, .initialized "java/lang/Math", .initialized "java/lang/System", .code Lib.Math.max.name Lib.Math.max.code 2 (some .int), .code Lib.Math.min.name Lib.Math.min.code 2 (some .int), .code Lib.Math.abs.name Lib.Math.abs.code 1 (some .int)]) : w ∈ gw := by
  have h1 := List.all_eq_true.mp jdk_ok w h
  exact List.mem_filter.mpr ⟨decide_eq_true_eq.mp (and1 h1), and2 h1⟩
set_option maxHeartbeats 4000000 in
theorem s_invokestatic {X : Xt} {mi pc nxt a b : Nat} {v : Int32} {w : Int64} {ts : List Nat} {L : Lt} {st : List Value} {G : Gt} {Q : Qt} {i : Nat} {nx : Nt} (hn : ∀ pc L st G, nx pc L st G → wp X mi pc L st G Q) (hd : decode (mB mi) pc = .ok (.invokestatic i, nxt - pc)) (hc : chk mi (pc, .invokestatic i, nxt, a, b, v, w, ts) = true) (h : stp X mi (.invokestatic i) nxt a b v w ts L st G Q nx) : wp X mi pc L st G Q := by
  by_cases ha : 900 ≤ a
  · have hc2 := hc
    unfold chk at hc2
    dsimp only at hc2
    rw [if_pos ha] at hc2
    have hm := decide_eq_true_eq.mp (and2 (and1 (and1 hc2)))
    have e : nxt = pc + 3 := Nat.eq_of_beq_eq_true (and1 (and1 (and1 hc2)))
    subst e
    have hd := dlen hd
    have hf := Nat.le_of_ble_eq_true (and2 (and1 hc2))
    have hlo := Nat.le_of_ble_eq_true (and2 hc2)
    have hlk : sW (mO mi, i, a) ∈ gw := inA_gw sls_ok (List.mem_map.mpr ⟨_, hm, rfl⟩)
    have hsp := List.all_eq_true.mp sls_sp _ hm
    simp only [Bool.or_eq_true, decide_eq_true_eq] at hsp
    rcases hsp with ((rfl | rfl) | rfl) | rfl
    · replace h : (match (generalizing := false) st with
          | .int y :: .int x :: r => (match Nat.ble (catS r) 8 with
            | true => nx (pc + 3) L (.int (if x < y then y else x) :: r) G
            | false => False)
          | _ => False) := h
      split at h
      · rename_i y x r
        split at h
        · rename_i hb
          have hb := Nat.le_of_ble_eq_true hb
          intro E p l e R s m args below meth c A H locs cells slots ls Z F hr hP hD hS hl
          have hR := F.2.2.2.2.2.2
          exact va_mmax F.1.1 F.1.2.1 (by rw [F.1.2.2.1, hl.1]) F.1.2.2.2 (F.2.1 _ hlk) (F.2.1 _ (jdk_in (by simp))) (F.2.1 _ (jdk_in (by simp))) (F.2.1 _ (jdk_in (by simp))) (Nat.le_trans hf hR.1) (by show ((cS E r).map fun v => v.category).sum + 13 ≤ _; rw [catS_ok]; simp at hlo; omega) hR.2.2.1 hR.2.2.2 hd (hn _ _ _ _ h E p l e R s m args below meth c A H locs cells slots ls Z F hr hP hD hS hl)
        · exact h.elim
      · exact h.elim
    · replace h : (match (generalizing := false) st with
          | .int y :: .int x :: r => (match Nat.ble (catS r) 8 with
            | true => nx (pc + 3) L (.int (if y < x then y else x) :: r) G
            | false => False)
          | _ => False) := h
      split at h
      · rename_i y x r
        split at h
        · rename_i hb
          have hb := Nat.le_of_ble_eq_true hb
          intro E p l e R s m args below meth c A H locs cells slots ls Z F hr hP hD hS hl
          have hR := F.2.2.2.2.2.2
          exact va_mmin F.1.1 F.1.2.1 (by rw [F.1.2.2.1, hl.1]) F.1.2.2.2 (F.2.1 _ hlk) (F.2.1 _ (jdk_in (by simp))) (F.2.1 _ (jdk_in (by simp))) (F.2.1 _ (jdk_in (by simp))) (Nat.le_trans hf hR.1) (by show ((cS E r).map fun v => v.category).sum + 13 ≤ _; rw [catS_ok]; simp at hlo; omega) hR.2.2.1 hR.2.2.2 hd (hn _ _ _ _ h E p l e R s m args below meth c A H locs cells slots ls Z F hr hP hD hS hl)
        · exact h.elim
      · exact h.elim
    · replace h : (match (generalizing := false) st with
          | .int x :: r => (match Nat.ble (catS r) 8 with
            | true => nx (pc + 3) L (.int (if 0 ≤ x then x else 0 - x) :: r) G
            | false => False)
          | _ => False) := h
      split at h
      · rename_i x r
        split at h
        · rename_i hb
          have hb := Nat.le_of_ble_eq_true hb
          intro E p l e R s m args below meth c A H locs cells slots ls Z F hr hP hD hS hl
          have hR := F.2.2.2.2.2.2
          exact va_mabs F.1.1 F.1.2.1 (by rw [F.1.2.2.1, hl.1]) F.1.2.2.2 (F.2.1 _ hlk) (F.2.1 _ (jdk_in (by simp))) (F.2.1 _ (jdk_in (by simp))) (F.2.1 _ (jdk_in (by simp))) (Nat.le_trans hf hR.1) (by show ((cS E r).map fun v => v.category).sum + 13 ≤ _; rw [catS_ok]; simp at hlo; omega) hR.2.2.1 hR.2.2.2 hd (hn _ _ _ _ h E p l e R s m args below meth c A H locs cells slots ls Z F hr hP hD hS hl)
        · exact h.elim
      · exact h.elim
    · replace h : (match (generalizing := false) st with
          | .int n :: .int dp :: .ref d :: .int sp :: .ref z :: r => (match arT z, arT d, Nat.ble (catS r) 8 with
            | some (1, n0), some (1, n1), true => ¬ sp < 0 ∧ ¬ dp < 0 ∧ ¬ n < 0 ∧ sp.toNatClampNeg + n.toNatClampNeg ≤ n0 ∧ dp.toNatClampNeg + n.toNatClampNeg ≤ n1 ∧ nx (pc + 3) L r (sG G d (va_cpy (G z) (G d) sp.toNatClampNeg dp.toNatClampNeg n.toNatClampNeg))
            | _, _, _ => False)
          | _ => False) := h
      split at h
      · rename_i n dp d sp z r
        split at h
        · rename_i n0 n1 hz hd1 hb
          have hb := Nat.le_of_ble_eq_true hb
          obtain ⟨g1, g2, g3, g4, g5, h⟩ := h
          obtain ⟨fs0, hly0⟩ := arT_inv hz
          obtain ⟨fs1, hly1⟩ := arT_inv hd1
          have hq0 := (lay_lt hly0).2.1 (by omega)
          have hq1 := (lay_lt hly1).2.1 (by omega)
          intro E p l e R s m args below meth c A H locs cells slots ls Z F hr hP hD hS hl
          have hR := F.2.2.2.2.2.2
          have hnf : nativeFrameWords "java/lang/System" "arraycopy" 5 = 7 := by decide
          refine va_copyi F.1.1 F.1.2.1 (by rw [F.1.2.2.1, hl.1]) F.1.2.2.2 (F.2.1 _ hlk) (F.2.1 _ (jdk_in (by simp))) (F.2.1 _ (jdk_in (by simp))) (F.2.1 _ (jdk_in (by simp))) F.2.2.2.1 hP hD hS z d 0 0 (by rw [ws_at hq0, cE_int hly0]) (by rw [ws_at hq1, cE_int hly1]) rfl rfl rfl g1 g2 g3 g4 g5 (fun i hi => rfl) (Nat.le_trans hf hR.1) (by show ((cS E r).map fun v => v.category).sum + _ ≤ _; rw [catS_ok, hnf]; simp at hlo; omega) hd (fun H1 locs1 hP hD hS => ?_)
          rw [ws_set hq1 (sG G d (va_cpy (G z) (G d) sp.toNatClampNeg dp.toNatClampNeg n.toNatClampNeg)) (by rw [cE_int hly1, sG_at]) (fun j hj => sG_ne hj)] at hP hD
          exact hn _ _ _ _ h E p l e R s m args below meth c A H1 locs1 cells slots ls Z F hr hP hD hS hl
        · exact h.elim
      · exact h.elim
  · refine s_static ha hn hd hc ?_
    unfold stp at h
    dsimp only at h
    split at h
    · omega
    · omega
    · omega
    · omega
    · exact h
end
section
/-! many instructions at once: a program that the kernel runs -/
theorem stp_sound {X : Xt} {mi pc nxt a b : Nat} {v : Int32} {w : Int64} {ts : List Nat} {L : Lt} {st : List Value} {G : Gt} {Q : Qt} {ins : Instr} {nx : Nt} (hn : ∀ pc L st G, nx pc L st G → wp X mi pc L st G Q) (hd : decode (mB mi) pc = .ok (ins, nxt - pc)) (hc : chk mi (pc, ins, nxt, a, b, v, w, ts) = true) (h : stp X mi ins nxt a b v w ts L st G Q nx) : wp X mi pc L st G Q := by
  cases ins
  case iconst => exact s_iconst hn hd hc h
  case bipush => exact s_bipush hn hd hc h
  case sipush => exact s_sipush hn hd hc h
  case lconst => exact s_lconst hn hd hc h
  case ldc => exact s_ldc hn hd hc h
  case ldc_w => exact s_ldc_w hn hd hc h
  case ldc2_w => exact s_ldc2_w hn hd hc h
  case iload_n => exact s_iload_n hn hd hc h
  case iload => exact s_iload hn hd hc h
  case lload_n => exact s_lload_n hn hd hc h
  case lload => exact s_lload hn hd hc h
  case aload_n => exact s_aload_n hn hd hc h
  case aload => exact s_aload hn hd hc h
  case istore_n => exact s_istore_n hn hd hc h
  case istore => exact s_istore hn hd hc h
  case lstore_n => exact s_lstore_n hn hd hc h
  case lstore => exact s_lstore hn hd hc h
  case iinc => exact s_iinc hn hd hc h
  case iadd => exact s_iadd hn hd hc h
  case isub => exact s_isub hn hd hc h
  case imul => exact s_imul hn hd hc h
  case iand => exact s_iand hn hd hc h
  case ior => exact s_ior hn hd hc h
  case ixor => exact s_ixor hn hd hc h
  case ishl => exact s_ishl hn hd hc h
  case ishr => exact s_ishr hn hd hc h
  case idiv => exact s_idiv hn hd hc h
  case irem => exact s_irem hn hd hc h
  case ineg => exact s_ineg hn hd hc h
  case i2l => exact s_i2l hn hd hc h
  case i2b => exact s_i2b hn hd hc h
  case i2s => exact s_i2s hn hd hc h
  case ladd => exact s_ladd hn hd hc h
  case lsub => exact s_lsub hn hd hc h
  case lcmp => exact s_lcmp hn hd hc h
  case dup => exact s_dup hn hd hc h
  case dup2 => exact s_dup2 hn hd hc h
  case pop => exact s_pop hn hd hc h
  case goto => exact s_goto hn hd hc h
  case ifCond cond off =>
    cases cond
    · exact s_ifCond_eq hn hd hc h
    · exact s_ifCond_ne hn hd hc h
    · exact s_ifCond_lt hn hd hc h
    · exact s_ifCond_ge hn hd hc h
    · exact s_ifCond_gt hn hd hc h
    · exact s_ifCond_le hn hd hc h
  case if_icmp cond off =>
    cases cond
    · exact s_if_icmp_eq hn hd hc h
    · exact s_if_icmp_ne hn hd hc h
    · exact s_if_icmp_lt hn hd hc h
    · exact s_if_icmp_ge hn hd hc h
    · exact s_if_icmp_gt hn hd hc h
    · exact s_if_icmp_le hn hd hc h
  case tableswitch => exact s_tableswitch hn hd hc h
  case lookupswitch => exact s_lookupswitch hn hd hc h
  case getfield => exact s_getfield hn hd hc h
  case putfield => exact s_putfield hn hd hc h
  case getstatic => exact s_getstatic hn hd hc h
  case iaload => exact s_iaload hn hd hc h
  case baload => exact s_baload hn hd hc h
  case iastore => exact s_iastore hn hd hc h
  case bastore => exact s_bastore hn hd hc h
  case arraylength => exact s_arraylength hn hd hc h
  case return_ => exact s_return_ hn hd hc h
  case ireturn => exact s_ireturn hn hd hc h
  case lreturn => exact s_lreturn hn hd hc h
  case invokevirtual => exact s_invokevirtual hn hd hc h
  case invokestatic => exact s_invokestatic hn hd hc h
  all_goals exact False.elim h
theorem ck_0 : (List.range' 0 60).all (fun i => (iT i).all (chk i)) = true := by decide +kernel
theorem ck_1 : (List.range' 60 60).all (fun i => (iT i).all (chk i)) = true := by decide +kernel
theorem ck_2 : (List.range' 120 54).all (fun i => (iT i).all (chk i)) = true := by decide +kernel
theorem ck_3 : (iT 174).all (chk 174) = true := by decide +kernel
theorem ck_all {i : Nat} {en : En} (h : en ∈ iT i) : chk i en = true := by
  have key : ∀ {a n : Nat}, (List.range' a n).all (fun i => (iT i).all (chk i)) = true → a ≤ i → i < a + n → (iT i).all (chk i) = true := fun hh h1 h2 => List.all_eq_true.mp hh i (List.mem_range'_1.mpr ⟨h1, h2⟩)
  have h0 : (iT i).all (chk i) = true := by
    by_cases q0 : i < 60
    · exact key ck_0 (by omega) (by omega)
    by_cases q1 : i < 120
    · exact key ck_1 (by omega) (by omega)
    by_cases q2 : i < 174
    · exact key ck_2 (by omega) (by omega)
    by_cases ql : i = 174
    · rw [ql]; exact ck_3
    · have e : iT i = [] := by
        unfold iT
        rw [List.getD_eq_getElem?_getD, List.getElem?_eq_none (show iTs.length ≤ i from (show iTs.length = 175 from rfl) ▸ (by omega))]
        rfl
      rw [e]; rfl
  exact List.all_eq_true.mp h0 en h
/-- the entry at pc -/
def look (T : List En) (pc : Nat) : Option En := match T with
  | [] => none
  | en :: r => match Nat.beq en.1 pc with
    | true => some en
    | false => look r pc
theorem look_mem {pc : Nat} {en : En} : ∀ {T : List En}, look T pc = some en → en ∈ T ∧ en.1 = pc
  | [], h => by cases h
  | q :: r, h => by
    unfold look at h
    cases hq : Nat.beq q.1 pc with
    | true =>
      rw [hq] at h
      cases h
      exact ⟨List.mem_cons_self, Nat.eq_of_beq_eq_true hq⟩
    | false =>
      rw [hq] at h
      exact ⟨List.mem_cons_of_mem _ (look_mem h).1, (look_mem h).2⟩
/-- n instructions from pc on, but none at a pc of 'stops' (the first one apart) -/
noncomputable def rn (X : Xt) (mi : Nat) (stops : List Nat) (Q : Qt) : Nat → Nt
  | 0 => fun pc L st G => wp X mi pc L st G Q
  | n + 1 => fun pc L st G => match look (iT mi) pc with
    | some (_, ins, nxt, a, b, v, w, ts) => stp X mi ins nxt a b v w ts L st G Q (fun pc L st G => match stops.contains pc with
      | true => wp X mi pc L st G Q
      | false => rn X mi stops Q n pc L st G)
    | none => False
theorem rn_wp {X : Xt} {mi : Nat} {stops : List Nat} {Q : Qt} : ∀ (n : Nat) {pc : Nat} {L : Lt} {st : List Value} {G : Gt}, rn X mi stops Q n pc L st G → wp X mi pc L st G Q
  | 0, _, _, _, _, h => h
  | n + 1, pc, L, st, G, h => by
    unfold rn at h
    split at h
    · rename_i pc0 ins nxt a b v w ts hlk
      obtain ⟨hm, he⟩ := look_mem hlk
      have he : pc0 = pc := he
      subst he
      obtain ⟨hd, hlt⟩ := dk_all hm
      refine stp_sound ?_ hd (ck_all hm) h
      intro pc L st G h2
      split at h2
      · exact h2
      · exact rn_wp n h2
    · exact h.elim
/-- a contract, its body run -/
theorem con_rn {X : Xt} {mi : Nat} {av : List Value} {G : Gt} {Q : Qt} (n : Nat) (stops : List Nat) (hlt : mi < 174) (hl : Nat.ble (lg_sl av).length (mL mi) = true) (h : rn X mi stops Q n 0 (lv_args 0 av) [] G) : con X mi av G Q :=
  con_of (meth_ok hlt).2.2.2.1 (meth_ok hlt).2.1 (Nat.le_of_ble_eq_true hl) (rn_wp n h)
end
section
/-! small rows for the walks -/
theorem bi {c A B : Prop} (f : c → A) (g : ¬ c → B) : (c → A) ∧ (¬ c → B) := ⟨f, g⟩
theorem bj {c A B : Prop} (f : ¬ c → A) (g : c → B) : (¬ c → A) ∧ (c → B) := ⟨f, g⟩
theorem vi {i : Int32} {n : Nat} {B : Prop} (h : vp_in i n) (k : B) : vp_in i n ∧ B := ⟨h, k⟩
theorem zi {y : Int32} {B : Prop} (h : ¬ y = 0) (k : B) : ¬ y = 0 ∧ B := ⟨h, k⟩
theorem ni {v : Int32} {B : Prop} (h : narrow .boolean (.int v) = .int v) (k : B) : narrow .boolean (.int v) = .int v ∧ B := ⟨h, k⟩
theorem Qi {Q : Qt} {v w : Int32} {G : Gt} (h : Q (some (.int v)) G) (e : w = v) : Q (some (.int w)) G := by subst e; exact h
theorem Ql {Q : Qt} {v w : Int64} {G : Gt} (h : Q (some (.long v)) G) (e : w = v) : Q (some (.long w)) G := by subst e; exact h
/-- a boolean as an int -/
def bI (c : Prop) [Decidable c] : Int32 := if c then 1 else 0
theorem bI_t {c : Prop} [Decidable c] (h : c) : bI c = 1 := if_pos h
theorem bI_f {c : Prop} [Decidable c] (h : ¬ c) : bI c = 0 := if_neg h
theorem bI_0 {c : Prop} [Decidable c] : bI c = 0 ↔ ¬ c := by
  unfold bI; split <;> simp_all
theorem bI_1 {c : Prop} [Decidable c] : bI c = 1 ↔ c := by
  unfold bI; split <;> simp_all
theorem bI_nar (c : Prop) [Decidable c] : narrow .boolean (.int (bI c)) = .int (bI c) := by
  unfold bI; split <;> rfl
theorem bI_congr {c d : Prop} [Decidable c] [Decidable d] (h : c ↔ d) : bI c = bI d := by
  by_cases hd : d
  · rw [bI_t hd, bI_t (h.mpr hd)]
  · rw [bI_f hd, bI_f (fun z => hd (h.mp z))]
theorem bib {c A B : Prop} [Decidable c] (f : ¬ c → A) (g : c → B) : (bI c = 0 → A) ∧ (¬ bI c = 0 → B) := ⟨fun h => f (bI_0.mp h), fun h => g (Decidable.byContradiction fun z => h (bI_f z))⟩
theorem bjb {c A B : Prop} [Decidable c] (f : c → A) (g : ¬ c → B) : (¬ bI c = 0 → A) ∧ (bI c = 0 → B) := ⟨fun h => f (Decidable.byContradiction fun z => h (bI_f z)), fun h => g (bI_0.mp h)⟩
theorem bi_t {c A B : Prop} (h : c) (a : A) : (c → A) ∧ (¬ c → B) := ⟨fun _ => a, fun z => absurd h z⟩
theorem bi_f {c A B : Prop} (h : ¬ c) (b : B) : (c → A) ∧ (¬ c → B) := ⟨fun z => absurd z h, fun _ => b⟩
theorem bj_t {c A B : Prop} (h : c) (b : B) : (¬ c → A) ∧ (c → B) := ⟨fun z => absurd h z, fun _ => b⟩
theorem bj_f {c A B : Prop} (h : ¬ c) (a : A) : (¬ c → A) ∧ (c → B) := ⟨fun _ => a, fun z => absurd z h⟩
theorem bib_t {c A B : Prop} [Decidable c] (h : c) (b : B) : (bI c = 0 → A) ∧ (¬ bI c = 0 → B) := bib (fun z => absurd h z) (fun _ => b)
theorem bib_f {c A B : Prop} [Decidable c] (h : ¬ c) (a : A) : (bI c = 0 → A) ∧ (¬ bI c = 0 → B) := bib (fun _ => a) (fun z => absurd z h)
theorem bjb_t {c A B : Prop} [Decidable c] (h : c) (a : A) : (¬ bI c = 0 → A) ∧ (bI c = 0 → B) := bjb (fun _ => a) (fun z => absurd h z)
theorem bjb_f {c A B : Prop} [Decidable c] (h : ¬ c) (b : B) : (¬ bI c = 0 → A) ∧ (bI c = 0 → B) := bjb (fun z => absurd z h) (fun _ => b)
theorem le32 {a b : Int32} : a ≤ b ↔ a.toInt ≤ b.toInt := Int32.le_iff_toInt_le
theorem lt32 {a b : Int32} : a < b ↔ a.toInt < b.toInt := Int32.lt_iff_toInt_lt
theorem eq32 {a b : Int32} : a = b ↔ a.toInt = b.toInt := Int32.toInt_inj.symm
theorem rng (x : Int32) : -2147483648 ≤ x.toInt ∧ x.toInt < 2147483648 := ⟨Int32.le_toInt x, Int32.toInt_lt x⟩
theorem bm {z : Int} (h1 : -2147483648 ≤ z) (h2 : z < 2147483648) : z.bmod (2 ^ 32) = z := by
  rw [Int.bmod_def]
  split <;> omega
theorem addI {x y : Int32} (h1 : -2147483648 ≤ x.toInt + y.toInt) (h2 : x.toInt + y.toInt < 2147483648) : (x + y).toInt = x.toInt + y.toInt := by
  rw [Int32.toInt_add]; exact bm h1 h2
theorem subI {x y : Int32} (h1 : -2147483648 ≤ x.toInt - y.toInt) (h2 : x.toInt - y.toInt < 2147483648) : (x - y).toInt = x.toInt - y.toInt := by
  rw [Int32.toInt_sub]; exact bm h1 h2
theorem mulI {x y : Int32} (h1 : -2147483648 ≤ x.toInt * y.toInt) (h2 : x.toInt * y.toInt < 2147483648) : (x * y).toInt = x.toInt * y.toInt := by
  rw [Int32.toInt_mul]; exact bm h1 h2
theorem ofI (n : Int) (h1 : -2147483648 ≤ n) (h2 : n < 2147483648) : (Int32.ofInt n).toInt = n := by
  rw [Int32.toInt_ofInt]; exact bm h1 h2
theorem cl_0 : (0 : Int32).toNatClampNeg = 0 := rfl
theorem cl_1 : (1 : Int32).toNatClampNeg = 1 := rfl
theorem cl_2 : (2 : Int32).toNatClampNeg = 2 := rfl
theorem cl_3 : (3 : Int32).toNatClampNeg = 3 := rfl
theorem cl_4 : (4 : Int32).toNatClampNeg = 4 := rfl
theorem cl_5 : (5 : Int32).toNatClampNeg = 5 := rfl
theorem cl_6 : (6 : Int32).toNatClampNeg = 6 := rfl
theorem inI {x : Int32} {n : Nat} (h1 : 0 ≤ x.toInt) (h2 : x.toInt < n) : vp_in x n := vp_in_iff.mpr ⟨h1, h2⟩
theorem clamp (x : Int32) : x.toNatClampNeg = x.toInt.toNat := rfl
/-- fewer locals, in another order: by their places -/
theorem wp_pick {X : Xt} {mi pc : Nat} {L : Lt} {st : List Value} {G : Gt} {Q : Qt} (ks : List Nat) (h : wp X mi pc (lv_pick L ks) st G Q) : wp X mi pc L st G Q := by
  intro E p l e R s m args below meth c A H locs cells slots ls Z F hr hP hD hS hl
  refine h E p l e R s m args below meth c A H locs cells slots ls Z F hr hP hD hS ⟨hl.1, hl.2.1, fun q hq => ?_⟩
  obtain ⟨q0, h0, rfl⟩ := List.mem_map.mp hq
  obtain ⟨k, -, hk⟩ := List.mem_filterMap.mp h0
  exact hl.2.2 _ (List.mem_map.mpr ⟨q0, List.mem_of_getElem? hk, rfl⟩)
/-! StoneWorks's own small methods -/
theorem c_within {X : Xt} {v lo hi : Int32} {G : Gt} {Q : Qt} (K : Q (some (.int (bI (lo ≤ v ∧ v ≤ hi)))) G) : con X m_SW_within [.int v, .int lo, .int hi] G Q := by
  refine con_rn 40 [] (by decide) rfl ?_
  repeat' first | refine bib (fun h => ?_) (fun h => ?_) | refine bjb (fun h => ?_) (fun h => ?_) | refine bi (fun h => ?_) (fun h => ?_) | refine bj (fun h => ?_) (fun h => ?_) | refine vi (inI (by decide) (by decide)) ?_ | refine vi ?_ ?_ | refine zi (by decide) ?_ | refine zi ?_ ?_ | refine ni rfl ?_ | refine ni (bI_nar _) ?_
  · refine Qi K (bI_f (fun z => Int32.not_lt.mpr z.1 ?_)).symm; assumption
  · refine Qi K (bI_f (fun z => Int32.not_lt.mpr z.2 ?_)).symm; assumption
  · refine Qi K (bI_t ⟨Int32.not_lt.mp ?_, Int32.not_lt.mp ?_⟩).symm <;> assumption
theorem c_found {X : Xt} {f : Int32} {G : Gt} {Q : Qt} (K : Q (some (.int (-1000010 - f))) (sG G 0 (upd (G 0) 7 f))) : con X m_SW_found [.ref 0, .int f] G Q := by
  refine con_rn 40 [] (by decide) rfl ?_
  repeat' first | refine bib (fun h => ?_) (fun h => ?_) | refine bjb (fun h => ?_) (fun h => ?_) | refine bi (fun h => ?_) (fun h => ?_) | refine bj (fun h => ?_) (fun h => ?_) | refine vi (inI (by decide) (by decide)) ?_ | refine vi ?_ ?_ | refine zi (by decide) ?_ | refine zi ?_ ?_ | refine ni rfl ?_ | refine ni (bI_nar _) ?_
  exact K
theorem c_fine {X : Xt} {f : Int32} {G : Gt} {Q : Qt} (K : Q (some (.int f)) (sG G 0 (upd (G 0) 7 0))) : con X m_SW_fine [.ref 0, .int f] G Q := by
  refine con_rn 40 [] (by decide) rfl ?_
  repeat' first | refine bib (fun h => ?_) (fun h => ?_) | refine bjb (fun h => ?_) (fun h => ?_) | refine bi (fun h => ?_) (fun h => ?_) | refine bj (fun h => ?_) (fun h => ?_) | refine vi (inI (by decide) (by decide)) ?_ | refine vi ?_ ?_ | refine zi (by decide) ?_ | refine zi ?_ ?_ | refine ni rfl ?_ | refine ni (bI_nar _) ?_
  exact K
theorem c_isNumber {X : Xt} {s : Int32} {G : Gt} {Q : Qt} (K : Q (some (.int (bI (0 ≤ s ∧ s ≤ 7)))) G) : con X m_Sheets_isNumber [.int s] G Q := by
  refine con_rn 40 [] (by decide) rfl ?_
  repeat' first | refine bib (fun h => ?_) (fun h => ?_) | refine bjb (fun h => ?_) (fun h => ?_) | refine bi (fun h => ?_) (fun h => ?_) | refine bj (fun h => ?_) (fun h => ?_) | refine vi (inI (by decide) (by decide)) ?_ | refine vi ?_ ?_ | refine zi (by decide) ?_ | refine zi ?_ ?_ | refine ni rfl ?_ | refine ni (bI_nar _) ?_ | refine c_within ?_
  exact K
theorem c_isCrane {X : Xt} {c r : Int32} {G : Gt} {Q : Qt} (K : Q (some (.int (bI ((0 ≤ c ∧ c ≤ 11) ∧ 0 ≤ r ∧ r ≤ 30)))) G) : con X m_SW_isCrane [.int c, .int r] G Q := by
  refine con_rn 40 [] (by decide) rfl ?_
  repeat' first | refine bib (fun h => ?_) (fun h => ?_) | refine bjb (fun h => ?_) (fun h => ?_) | refine bi (fun h => ?_) (fun h => ?_) | refine bj (fun h => ?_) (fun h => ?_) | refine vi (inI (by decide) (by decide)) ?_ | refine vi ?_ ?_ | refine zi (by decide) ?_ | refine zi ?_ ?_ | refine ni rfl ?_ | refine ni (bI_nar _) ?_ | refine c_within ?_
  all_goals first | exact Qi K (bI_t (by ((try simp only [le32, lt32, eq32, ne_eq, cl_0, cl_1, cl_2, cl_3, cl_4, cl_5, cl_6] at *); (try simp only [Int32.reduceToInt] at *); omega))).symm | exact Qi K (bI_f (by ((try simp only [le32, lt32, eq32, ne_eq, cl_0, cl_1, cl_2, cl_3, cl_4, cl_5, cl_6] at *); (try simp only [Int32.reduceToInt] at *); omega))).symm | (refine inI ?_ ?_ <;> ((try simp only [le32, lt32, eq32, ne_eq, cl_0, cl_1, cl_2, cl_3, cl_4, cl_5, cl_6] at *); (try simp only [Int32.reduceToInt] at *); omega))
end
section
/-! Sheets -/
theorem c_isMissing {X : Xt} {s : Int32} {G : Gt} {Q : Qt} (hs : 0 ≤ s ∧ s ≤ 7) (K : Q (some (.int (bI (G 4 s.toNatClampNeg = -1)))) G) : con X m_Sheets_isMissing [.ref 1, .int s] G Q := by
  refine con_rn 40 [] (by decide) rfl ?_
  repeat' first | refine bib (fun h => ?_) (fun h => ?_) | refine bjb (fun h => ?_) (fun h => ?_) | refine bi (fun h => ?_) (fun h => ?_) | refine bj (fun h => ?_) (fun h => ?_) | refine vi (inI (by decide) (by decide)) ?_ | refine vi ?_ ?_ | refine zi (by decide) ?_ | refine zi ?_ ?_ | refine ni rfl ?_ | refine ni (bI_nar _) ?_
  all_goals first | exact Qi K (bI_t (by ((try simp only [le32, lt32, eq32, ne_eq, cl_0, cl_1, cl_2, cl_3, cl_4, cl_5, cl_6] at *); (try simp only [Int32.reduceToInt] at *); omega))).symm | exact Qi K (bI_f (by ((try simp only [le32, lt32, eq32, ne_eq, cl_0, cl_1, cl_2, cl_3, cl_4, cl_5, cl_6] at *); (try simp only [Int32.reduceToInt] at *); omega))).symm | (refine inI ?_ ?_ <;> ((try simp only [le32, lt32, eq32, ne_eq, cl_0, cl_1, cl_2, cl_3, cl_4, cl_5, cl_6] at *); (try simp only [Int32.reduceToInt] at *); omega))
theorem c_areOfOneLane {X : Xt} {s t : Int32} {G : Gt} {Q : Qt} (hs : 0 ≤ s ∧ s ≤ 7) (ht : 0 ≤ t ∧ t ≤ 7) (K : Q (some (.int (bI (G 3 s.toNatClampNeg = G 3 t.toNatClampNeg)))) G) : con X m_Sheets_areOfOneLane [.ref 1, .int s, .int t] G Q := by
  refine con_rn 40 [] (by decide) rfl ?_
  repeat' first | refine bib (fun h => ?_) (fun h => ?_) | refine bjb (fun h => ?_) (fun h => ?_) | refine bi (fun h => ?_) (fun h => ?_) | refine bj (fun h => ?_) (fun h => ?_) | refine vi (inI (by decide) (by decide)) ?_ | refine vi ?_ ?_ | refine zi (by decide) ?_ | refine zi ?_ ?_ | refine ni rfl ?_ | refine ni (bI_nar _) ?_
  all_goals first | exact Qi K (bI_t (by ((try simp only [le32, lt32, eq32, ne_eq, cl_0, cl_1, cl_2, cl_3, cl_4, cl_5, cl_6] at *); (try simp only [Int32.reduceToInt] at *); omega))).symm | exact Qi K (bI_f (by ((try simp only [le32, lt32, eq32, ne_eq, cl_0, cl_1, cl_2, cl_3, cl_4, cl_5, cl_6] at *); (try simp only [Int32.reduceToInt] at *); omega))).symm | (refine inI ?_ ?_ <;> ((try simp only [le32, lt32, eq32, ne_eq, cl_0, cl_1, cl_2, cl_3, cl_4, cl_5, cl_6] at *); (try simp only [Int32.reduceToInt] at *); omega))
theorem c_hasItems {X : Xt} {s i n : Int32} {G : Gt} {Q : Qt} (hs : 0 ≤ s ∧ s ≤ 7) (K : Q (some (.int (bI (0 ≤ i ∧ 0 ≤ n ∧ n ≤ G 4 s.toNatClampNeg - i)))) G) : con X m_Sheets_hasItems [.ref 1, .int s, .int i, .int n] G Q := by
  refine con_rn 40 [] (by decide) rfl ?_
  repeat' first | refine bib (fun h => ?_) (fun h => ?_) | refine bjb (fun h => ?_) (fun h => ?_) | refine bi (fun h => ?_) (fun h => ?_) | refine bj (fun h => ?_) (fun h => ?_) | refine vi (inI (by decide) (by decide)) ?_ | refine vi ?_ ?_ | refine zi (by decide) ?_ | refine zi ?_ ?_ | refine ni rfl ?_ | refine ni (bI_nar _) ?_
  all_goals first | exact Qi K (bI_t (by ((try simp only [le32, lt32, eq32, ne_eq, cl_0, cl_1, cl_2, cl_3, cl_4, cl_5, cl_6] at *); (try simp only [Int32.reduceToInt] at *); omega))).symm | exact Qi K (bI_f (by ((try simp only [le32, lt32, eq32, ne_eq, cl_0, cl_1, cl_2, cl_3, cl_4, cl_5, cl_6] at *); (try simp only [Int32.reduceToInt] at *); omega))).symm | (refine inI ?_ ?_ <;> ((try simp only [le32, lt32, eq32, ne_eq, cl_0, cl_1, cl_2, cl_3, cl_4, cl_5, cl_6] at *); (try simp only [Int32.reduceToInt] at *); omega))
theorem c_findingAt {X : Xt} {s i n : Int32} {G : Gt} {Q : Qt} (hs : 0 ≤ s ∧ s ≤ 7) (K : Q (some (.int (if G 4 s.toNatClampNeg = -1 then 1 else if 0 ≤ i ∧ 0 ≤ n ∧ n ≤ G 4 s.toNatClampNeg - i then 0 else 2))) G) : con X m_Sheets_findingAt [.ref 1, .int s, .int i, .int n] G Q := by
  refine con_rn 40 [] (by decide) rfl ?_
  repeat' first | refine bib (fun h => ?_) (fun h => ?_) | refine bjb (fun h => ?_) (fun h => ?_) | refine bi (fun h => ?_) (fun h => ?_) | refine bj (fun h => ?_) (fun h => ?_) | refine vi (inI (by decide) (by decide)) ?_ | refine vi ?_ ?_ | refine zi (by decide) ?_ | refine zi ?_ ?_ | refine ni rfl ?_ | refine ni (bI_nar _) ?_ | refine (c_isMissing hs) ?_ | refine (c_hasItems hs) ?_
  all_goals (refine Qi K ?_; simp_all)
theorem c_remove {X : Xt} {s : Int32} {G : Gt} {Q : Qt} (hs : 0 ≤ s ∧ s ≤ 7) (K : Q (some (.int (G 4 s.toNatClampNeg))) (sG G 4 (upd (G 4) s.toNatClampNeg (-1)))) : con X m_Sheets_remove [.ref 1, .int s] G Q := by
  refine con_rn 40 [] (by decide) rfl ?_
  repeat' first | refine bib (fun h => ?_) (fun h => ?_) | refine bjb (fun h => ?_) (fun h => ?_) | refine bi (fun h => ?_) (fun h => ?_) | refine bj (fun h => ?_) (fun h => ?_) | refine vi (inI (by decide) (by decide)) ?_ | refine vi ?_ ?_ | refine zi (by decide) ?_ | refine zi ?_ ?_ | refine ni rfl ?_ | refine ni (bI_nar _) ?_
  all_goals first | exact K | (refine inI ?_ ?_ <;> ((try simp only [le32, lt32, eq32, ne_eq, cl_0, cl_1, cl_2, cl_3, cl_4, cl_5, cl_6] at *); (try simp only [Int32.reduceToInt] at *); omega))
def ix (s i : Int32) : Nat := (100 * s.toInt + i.toInt).toNat
theorem ixX {s i : Int32} (hs : 0 ≤ s ∧ s ≤ 7) (h0 : 0 ≤ i) (h1 : i < 100) : (s * 100 + i).toNatClampNeg = ix s i ∧ vp_in (s * 100 + i) 800 := by
  simp only [le32, lt32] at *
  simp only [Int32.reduceToInt] at *
  have e1 : (s * 100).toInt = s.toInt * 100 := mulI (by simp; omega) (by simp; omega)
  have e2 : (s * 100 + i).toInt = s.toInt * 100 + i.toInt := by rw [addI (by rw [e1]; omega) (by rw [e1]; omega), e1]
  refine ⟨?_, inI (by rw [e2]; omega) (by rw [e2]; omega)⟩
  rw [clamp, e2, ix]
  congr 1
  omega
theorem c_item {X : Xt} {s i : Int32} {G : Gt} {Q : Qt} (hs : 0 ≤ s ∧ s ≤ 7) (h0 : 0 ≤ i) (h1 : i < 100) (K : Q (some (.int (G 2 (ix s i)))) G) : con X m_Sheets_item [.ref 1, .int s, .int i] G Q := by
  refine con_rn 40 [] (by decide) rfl ?_
  repeat' first | refine bib (fun h => ?_) (fun h => ?_) | refine bjb (fun h => ?_) (fun h => ?_) | refine bi (fun h => ?_) (fun h => ?_) | refine bj (fun h => ?_) (fun h => ?_) | refine vi (inI (by decide) (by decide)) ?_ | refine vi ?_ ?_ | refine zi (by decide) ?_ | refine zi ?_ ?_ | refine ni rfl ?_ | refine ni (bI_nar _) ?_
  · exact (ixX hs h0 h1).2
  · rw [(ixX hs h0 h1).1]; exact K
/-- a value's lowest bits, as many as a lane has -/
def cut (lane v : Int32) : Int32 := if lane = 0 then v.toInt8.toInt32 else if lane = 1 then v.toInt16.toInt32 else v
theorem c_cutToLane {X : Xt} {l v : Int32} {G : Gt} {Q : Qt} (K : Q (some (.int (cut l v))) G) : con X m_Sheets_cutToLane [.int l, .int v] G Q := by
  refine con_rn 40 [] (by decide) rfl ?_
  repeat' first | refine bib (fun h => ?_) (fun h => ?_) | refine bjb (fun h => ?_) (fun h => ?_) | refine bi (fun h => ?_) (fun h => ?_) | refine bj (fun h => ?_) (fun h => ?_) | refine vi (inI (by decide) (by decide)) ?_ | refine vi ?_ ?_ | refine zi (by decide) ?_ | refine zi ?_ ?_ | refine ni rfl ?_ | refine ni (bI_nar _) ?_
  all_goals (refine Qi K ?_; simp only [cut, eq32] at *; simp_all)
theorem c_put {X : Xt} {s i v : Int32} {G : Gt} {Q : Qt} (hs : 0 ≤ s ∧ s ≤ 7) (h0 : 0 ≤ i) (h1 : i < 100) (K : Q (some (.int (cut (G 3 s.toNatClampNeg) v))) (sG G 2 (upd (G 2) (ix s i) (cut (G 3 s.toNatClampNeg) v)))) : con X m_Sheets_put [.ref 1, .int s, .int i, .int v] G Q := by
  refine con_rn 40 [] (by decide) rfl ?_
  repeat' first | refine bib (fun h => ?_) (fun h => ?_) | refine bjb (fun h => ?_) (fun h => ?_) | refine bi (fun h => ?_) (fun h => ?_) | refine bj (fun h => ?_) (fun h => ?_) | refine vi (inI (by decide) (by decide)) ?_ | refine vi ?_ ?_ | refine zi (by decide) ?_ | refine zi ?_ ?_ | refine ni rfl ?_ | refine ni (bI_nar _) ?_ | refine c_cutToLane ?_
  · (refine inI ?_ ?_ <;> ((try simp only [le32, lt32, eq32, ne_eq, cl_0, cl_1, cl_2, cl_3, cl_4, cl_5, cl_6] at *); (try simp only [Int32.reduceToInt] at *); omega))
  · exact (ixX hs h0 h1).2
  · rw [(ixX hs h0 h1).1]; exact K
theorem ixI {s i : Int32} (hs : 0 ≤ s ∧ s ≤ 7) (h0 : 0 ≤ i) (h1 : i.toInt ≤ 100) : (s * 100 + i).toInt = 100 * s.toInt + i.toInt ∧ 0 ≤ s.toInt ∧ s.toInt ≤ 7 ∧ 0 ≤ i.toInt := by
  simp only [le32, lt32] at *
  simp only [Int32.reduceToInt] at *
  have e1 : (s * 100).toInt = s.toInt * 100 := mulI (by simp; omega) (by simp; omega)
  refine ⟨?_, by omega⟩
  rw [addI (by rw [e1]; omega) (by rw [e1]; omega), e1]
  omega
theorem toN {x : Int32} (h : 0 ≤ x) : x = nI x.toNatClampNeg ∧ x.toInt = (x.toNatClampNeg : Int) ∧ x.toNatClampNeg < 2 ^ 31 := by
  have h1 : 0 ≤ x.toInt := by simpa using le32.mp h
  have h2 := (rng x).2
  have h3 : x.toNatClampNeg = x.toInt.toNat := rfl
  have h4 : x.toNatClampNeg < 2 ^ 31 := by omega
  refine ⟨eq32.mpr ?_, by omega, h4⟩
  rw [nI_toInt h4]
  omega
theorem Qg {Q : Qt} {r : Option Value} {G G' : Gt} (h : Q r G) (e : G' = G) : Q r G' := by subst e; exact h
theorem sG_sG (G : Gt) (p : Nat) (f g : Nat → Int32) : sG (sG G p f) p g = sG G p g := by
  funext q
  unfold sG
  split <;> rfl
theorem sG_id (G : Gt) (p : Nat) : sG G p (G p) = G := by
  funext q
  unfold sG
  split
  · rename_i h; rw [h]
  · rfl
/-- System.arraycopy of the items -/
theorem c_move {X : Xt} {a i b j n : Int32} {G : Gt} {Q : Qt} (ha : 0 ≤ a ∧ a ≤ 7) (hb : 0 ≤ b ∧ b ≤ 7) (h0 : 0 ≤ i) (h1 : 0 ≤ j) (h2 : 0 ≤ n) (h3 : i.toInt + n.toInt ≤ 100) (h4 : j.toInt + n.toInt ≤ 100) (K : Q none (sG G 2 (va_cpy (G 2) (G 2) (ix a i) (ix b j) n.toNatClampNeg))) : con X m_Sheets_move [.ref 1, .int a, .int i, .int b, .int j, .int n] G Q := by
  obtain ⟨-, hn, -⟩ := toN h2
  obtain ⟨ei, e1, e2, e3⟩ := ixI ha h0 (by omega)
  obtain ⟨ej, e4, e5, e6⟩ := ixI hb h1 (by omega)
  have ci : (a * 100 + i).toNatClampNeg = ix a i := by rw [clamp, ei, ix]
  have cj : (b * 100 + j).toNatClampNeg = ix b j := by rw [clamp, ej, ix]
  refine con_rn 40 [] (by decide) rfl ?_
  refine ⟨?_, ?_, ?_, ?_, ?_, ?_⟩
  · rw [lt32, ei]; simp; omega
  · rw [lt32, ej]; simp; omega
  · exact Int32.not_lt.mpr h2
  · rw [ci, ix]; omega
  · rw [cj, ix]; omega
  · rw [ci, cj]; exact K
theorem c_rangeCheck {X : Xt} {l a b : Int32} {G : Gt} {Q : Qt} (h0 : 0 ≤ a) (h1 : a ≤ b) (h2 : b ≤ l) (K : Q none G) : con X m_Arr_rangeCheck [.int l, .int a, .int b] G Q := by
  refine con_rn 40 [] (by decide) rfl ?_
  repeat' first | refine bib (fun h => ?_) (fun h => ?_) | refine bjb (fun h => ?_) (fun h => ?_) | refine bi (fun h => ?_) (fun h => ?_) | refine bj (fun h => ?_) (fun h => ?_) | refine vi (inI (by decide) (by decide)) ?_ | refine vi ?_ ?_ | refine zi (by decide) ?_ | refine zi ?_ ?_ | refine ni rfl ?_ | refine ni (bI_nar _) ?_
  · exact K
  all_goals exact (by contradiction)
theorem w_fill4 {X : Xt} {a v : Int32} {B : Nat} {Q : Qt} (hB : B ≤ 800) : ∀ (n k : Nat) (c : Int32) (G : Gt), c = nI k → k + n = B → Q none (sG G 2 (fun j => if k ≤ j ∧ j < B then v else G 2 j)) → wp X m_Arr_fill4 10 [(4, .int c), (0, .ref 2), (1, .int a), (2, .int (nI B)), (3, .int v)] [] G Q
  | 0, k, c, G, hc, hk, K => by
    subst hc
    refine rn_wp (stops := [10]) 20 ?_
    repeat' first | refine bib (fun h => ?_) (fun h => ?_) | refine bjb (fun h => ?_) (fun h => ?_) | refine bi (fun h => ?_) (fun h => ?_) | refine bj (fun h => ?_) (fun h => ?_) | refine vi (inI (by decide) (by decide)) ?_ | refine vi ?_ ?_ | refine zi (by decide) ?_ | refine zi ?_ ?_ | refine ni rfl ?_ | refine ni (bI_nar _) ?_
    · refine Qg K ?_
      have : (fun j => if k ≤ j ∧ j < B then v else G 2 j) = G 2 := by
        funext j
        rw [if_neg (by omega)]
      rw [this, sG_id]
    · simp (disch := omega) only [nI_1, nI_add, nI_clamp, nI_leI, nI_ltI, nI_eq, nI_toInt] at h
      omega
    · simp (disch := omega) only [nI_1, nI_add, nI_clamp, nI_leI, nI_ltI, nI_eq, nI_toInt] at h
      omega
  | n + 1, k, c, G, hc, hk, K => by
    subst hc
    refine rn_wp (stops := [10]) 20 ?_
    repeat' first | refine bib (fun h => ?_) (fun h => ?_) | refine bjb (fun h => ?_) (fun h => ?_) | refine bi (fun h => ?_) (fun h => ?_) | refine bj (fun h => ?_) (fun h => ?_) | refine vi (inI (by decide) (by decide)) ?_ | refine vi ?_ ?_ | refine zi (by decide) ?_ | refine zi ?_ ?_ | refine ni rfl ?_ | refine ni (bI_nar _) ?_
    · simp (disch := omega) only [nI_1, nI_add, nI_clamp, nI_leI, nI_ltI, nI_eq, nI_toInt] at h
      omega
    · exact vp_in_nI (by omega) (by omega)
    · refine w_fill4 hB n (k + 1) _ _ (nI_1 k) (by omega) ?_
      refine Qg K ?_
      simp (disch := omega) only [nI_1, nI_add, nI_clamp, nI_leI, nI_ltI, nI_eq, nI_toInt]
      rw [sG_sG]
      congr 1
      funext j
      simp only [sG_at, upd]
      by_cases h1 : j = k
      · subst h1
        rw [if_neg (by omega), if_pos rfl, if_pos (by omega)]
      · rw [if_neg h1]
        by_cases h2 : k ≤ j ∧ j < B
        · rw [if_pos h2, if_pos (by omega)]
        · rw [if_neg h2, if_neg (by omega)]
theorem c_fill4 {X : Xt} {a b v : Int32} {G : Gt} {Q : Qt} (h0 : 0 ≤ a) (h1 : a ≤ b) (h2 : b ≤ 800) (K : Q none (sG G 2 (fun j => if a.toNatClampNeg ≤ j ∧ j < b.toNatClampNeg then v else G 2 j))) : con X m_Arr_fill4 [.ref 2, .int a, .int b, .int v] G Q := by
  obtain ⟨eb, e1, -⟩ := toN (x := b) (Int32.le_trans h0 h1)
  obtain ⟨ea, e2, -⟩ := toN h0
  simp only [le32, Int32.reduceToInt] at h1
  have h3 : b.toInt ≤ 800 := by simpa using le32.mp h2
  have h4 := le32.mpr h1
  refine con_rn 40 [10] (by decide) rfl ?_
  repeat' first | refine bib (fun h => ?_) (fun h => ?_) | refine bjb (fun h => ?_) (fun h => ?_) | refine bi (fun h => ?_) (fun h => ?_) | refine bj (fun h => ?_) (fun h => ?_) | refine vi (inI (by decide) (by decide)) ?_ | refine vi ?_ ?_ | refine zi (by decide) ?_ | refine zi ?_ ?_ | refine ni rfl ?_ | refine ni (bI_nar _) ?_ | refine (c_rangeCheck h0 h4 h2) ?_
  generalize b.toNatClampNeg = B at *
  subst eb
  exact w_fill4 (by omega) (B - a.toNatClampNeg) a.toNatClampNeg a G ea (by omega) K
theorem c_make {X : Xt} {s l n : Int32} {G : Gt} {Q : Qt} (hs : 0 ≤ s ∧ s ≤ 7) (h0 : 0 ≤ n) (h1 : n ≤ 100) (K : Q none (sG (sG (sG G 3 (upd (G 3) s.toNatClampNeg l)) 4 (upd (G 4) s.toNatClampNeg n)) 2 (fun j => if 100 * s.toInt ≤ j ∧ j < 100 * s.toInt + n.toInt then 0 else G 2 j))) : con X m_Sheets_make [.ref 1, .int s, .int l, .int n] G Q := by
  obtain ⟨e1, e2, e3, e4⟩ := ixI hs h0 (by simpa using le32.mp h1)
  have e5 : (s * 100).toInt = 100 * s.toInt := by rw [mulI (by simp; omega) (by simp; omega)]; simp; omega
  have h1 : n.toInt ≤ 100 := by simpa using le32.mp h1
  refine con_rn 40 [] (by decide) rfl ?_
  repeat' first | refine bib (fun h => ?_) (fun h => ?_) | refine bjb (fun h => ?_) (fun h => ?_) | refine bi (fun h => ?_) (fun h => ?_) | refine bj (fun h => ?_) (fun h => ?_) | refine vi (inI (by decide) (by decide)) ?_ | refine vi ?_ ?_ | refine zi (by decide) ?_ | refine zi ?_ ?_ | refine ni rfl ?_ | refine ni (bI_nar _) ?_
  · (refine inI ?_ ?_ <;> ((try simp only [le32, lt32, eq32, ne_eq, cl_0, cl_1, cl_2, cl_3, cl_4, cl_5, cl_6] at *); (try simp only [Int32.reduceToInt] at *); omega))
  · (refine inI ?_ ?_ <;> ((try simp only [le32, lt32, eq32, ne_eq, cl_0, cl_1, cl_2, cl_3, cl_4, cl_5, cl_6] at *); (try simp only [Int32.reduceToInt] at *); omega))
  · refine c_fill4 ?_ ?_ ?_ ?_
    · rw [le32, e5]; simp; omega
    · rw [le32, e5, e1]; omega
    · rw [le32, e1]; simp; omega
    · show Q none _
      refine Qg K ?_
      congr 1
      funext j
      rw [clamp, clamp, e1, e5]
      show (if _ then _ else G 2 j) = _
      by_cases h2 : 100 * s.toInt ≤ (j : Int) ∧ (j : Int) < 100 * s.toInt + n.toInt
      · rw [if_pos h2, if_pos (by omega)]
      · rw [if_neg h2, if_neg (by omega)]
theorem ix_nat {s : Int32} {i : Nat} (hs : 0 ≤ s ∧ s ≤ 7) (hi : i < 2 ^ 31) : ix s (nI i) = 100 * s.toNatClampNeg + i := by
  obtain ⟨-, h1, -⟩ := toN hs.1
  unfold ix
  rw [nI_toInt hi, h1]
  omega
theorem w_areWithin {X : Xt} {s b : Int32} {I N : Nat} {G : Gt} {Q : Qt} (hs : 0 ≤ s ∧ s ≤ 7) (hN : I + N ≤ 100) (K1 : (∀ k, k < N → 0 ≤ G 2 (100 * s.toNatClampNeg + (I + k)) ∧ G 2 (100 * s.toNatClampNeg + (I + k)) ≤ b) → Q (some (.int 1)) G) (K2 : (¬ ∀ k, k < N → 0 ≤ G 2 (100 * s.toNatClampNeg + (I + k)) ∧ G 2 (100 * s.toNatClampNeg + (I + k)) ≤ b) → Q (some (.int 0)) G) : ∀ (m k : Nat) (c : Int32), c = nI (I + k) → k + m = N → (∀ j, j < k → 0 ≤ G 2 (100 * s.toNatClampNeg + (I + j)) ∧ G 2 (100 * s.toNatClampNeg + (I + j)) ≤ b) → wp X m_Sheets_areWithin 3 [(5, .int c), (0, .ref 1), (1, .int s), (2, .int (nI I)), (3, .int (nI N)), (4, .int b)] [] G Q
  | 0, k, c, hc, hk, hj => by
    subst hc
    refine rn_wp (stops := [3]) 40 ?_
    refine bi (fun h => ?_) (fun h => ?_)
    · refine ni rfl (K1 (fun j h => hj j (by omega)))
    · simp (disch := omega) only [nI_1, nI_add, nI_clamp, nI_leI, nI_ltI, nI_eq, nI_toInt] at h
      omega
  | m + 1, k, c, hc, hk, hj => by
    subst hc
    refine rn_wp (stops := [3]) 40 ?_
    refine bi (fun h => ?_) (fun h => ?_)
    · simp (disch := omega) only [nI_1, nI_add, nI_clamp, nI_leI, nI_ltI, nI_eq, nI_toInt] at h
      omega
    · refine c_item hs (nI_pos' (by omega)) ?_ ?_
      · rw [show (100 : Int32) = nI 100 from rfl, nI_ltI (by omega) (by omega)]
        omega
      · rw [ix_nat hs (by omega)]
        refine c_within ?_
        refine bjb (fun h2 => ?_) (fun h2 => ?_)
        · refine w_areWithin hs hN K1 K2 m (k + 1) _ (nI_1 _) (by omega) ?_
          intro j hjk
          rcases Nat.lt_succ_iff_lt_or_eq.mp hjk with q | q
          · exact hj j q
          · rw [q]; exact h2
        · exact ni rfl (K2 (fun z => h2 (z k (by omega))))
/-- whether n items from i on are 0 to b -/
theorem c_areWithin {X : Xt} {s i n b : Int32} {G : Gt} {Q : Qt} (hs : 0 ≤ s ∧ s ≤ 7) (h0 : 0 ≤ i) (h1 : 0 ≤ n) (h2 : i.toInt + n.toInt ≤ 100) (K1 : (∀ k, k < n.toNatClampNeg → 0 ≤ G 2 (100 * s.toNatClampNeg + (i.toNatClampNeg + k)) ∧ G 2 (100 * s.toNatClampNeg + (i.toNatClampNeg + k)) ≤ b) → Q (some (.int 1)) G) (K2 : (¬ ∀ k, k < n.toNatClampNeg → 0 ≤ G 2 (100 * s.toNatClampNeg + (i.toNatClampNeg + k)) ∧ G 2 (100 * s.toNatClampNeg + (i.toNatClampNeg + k)) ≤ b) → Q (some (.int 0)) G) : con X m_Sheets_areWithin [.ref 1, .int s, .int i, .int n, .int b] G Q := by
  obtain ⟨ei, e1, e2⟩ := toN h0
  obtain ⟨en, e3, e4⟩ := toN h1
  generalize i.toNatClampNeg = I at *
  generalize n.toNatClampNeg = N at *
  subst ei
  subst en
  refine con_rn 20 [3] (by decide) rfl ?_
  exact w_areWithin hs (by omega) K1 K2 N 0 _ rfl (by omega) (fun j h => absurd h (by omega))
/-- how many sheets there are: of the first n -/
def prs (f : Nat → Int32) : Nat → Nat
  | 0 => 0
  | n + 1 => prs f n + (if f n = -1 then 0 else 1)
theorem prs_le (f : Nat → Int32) : ∀ n, prs f n ≤ n
  | 0 => Nat.le_refl 0
  | n + 1 => by
    have := prs_le f n
    unfold prs
    split <;> omega
theorem w_present {X : Xt} {G : Gt} {Q : Qt} (K : Q (some (.int (nI (prs (G 4) 8)))) G) : ∀ (m k : Nat) (c d : Int32), c = nI k → k + m = 8 → d = nI (prs (G 4) k) → wp X m_Sheets_present 4 [(2, .int c), (1, .int d), (0, .ref 1)] [] G Q
  | 0, k, c, d, hc, hk, hd => by
    subst hc
    refine rn_wp (stops := [4]) 40 ?_
    refine bi (fun h => ?_) (fun h => ?_)
    · refine Qi K ?_
      rw [hd, show k = 8 by omega]
    · rw [show (8 : Int32) = nI 8 from rfl] at h
      simp (disch := omega) only [nI_1, nI_add, nI_clamp, nI_leI, nI_ltI, nI_eq, nI_toInt] at h
      omega
  | m + 1, k, c, d, hc, hk, hd => by
    subst hc
    refine rn_wp (stops := [4]) 40 ?_
    refine bi (fun h => ?_) (fun h => ?_)
    · rw [show (8 : Int32) = nI 8 from rfl] at h
      simp (disch := omega) only [nI_1, nI_add, nI_clamp, nI_leI, nI_ltI, nI_eq, nI_toInt] at h
      omega
    · have hk8 : 0 ≤ nI k ∧ nI k ≤ 7 := ⟨nI_pos' (by omega), by rw [show (7 : Int32) = nI 7 from rfl, nI_leI (by omega) (by omega)]; omega⟩
      refine c_isMissing hk8 ?_
      rw [nI_clamp (by omega)]
      refine bjb (fun h2 => ?_) (fun h2 => ?_)
      · refine w_present K m (k + 1) _ _ (nI_1 _) (by omega) ?_
        rw [hd, prs, if_pos h2]; rfl
      · refine w_present K m (k + 1) _ _ (nI_1 _) (by omega) ?_
        rw [hd, prs, if_neg h2, nI_1]
theorem c_present {X : Xt} {G : Gt} {Q : Qt} (K : Q (some (.int (nI (prs (G 4) 8)))) G) : con X m_Sheets_present [.ref 1] G Q := by
  refine con_rn 20 [4] (by decide) rfl ?_
  exact w_present K 8 0 _ _ rfl (by omega) rfl
end
section
/-! the wall: what both sides say of it -/
abbrev hS (ly f : Int32) (w : Nat → Int32) (k : Int32) : Prop := k = ly - 1 ∨ (w (k + 1).toNatClampNeg < w k.toNatClampNeg ∧ w k.toNatClampNeg ≤ f * w (k + 1).toNatClampNeg)
def kS (ly f : Int32) (w : Nat → Int32) (k : Int32) : Int32 := if k = 0 then (if hS ly f w k ∧ 1000 ≤ w 0 then 2 else 1) else if hS ly f w k then 3 else 4
/-- a sum of ints, as the machine adds them -/
def sI (f : Nat → Int32) : Nat → Int32
  | 0 => 0
  | n + 1 => sI f n + f n
def pos (v : Int32) : Int32 := if 0 < v then v else 0
def wS (ms th : Nat → Int32) (k : Nat) (h : Int32) : Int32 := if ms 0 - sI th k ≤ h then 0 else pos (ms 1 + 2 * (ms 0 - h) * ms 2 / 10 - 2 * sI th k * (10 + ms 2) / 10)
theorem pos_nn (v : Int32) : ¬ pos v < 0 := by
  unfold pos
  split
  · rename_i h; exact fun z => Int32.lt_irrefl (Int32.lt_trans h z)
  · decide
theorem wS_nn (ms th : Nat → Int32) (k : Nat) (h : Int32) : ¬ wS ms th k h < 0 := by
  unfold wS
  split
  · decide
  · exact pos_nn _
/-- of a cut what layer k takes, or the core -/
def lS (ly : Int32) (ms th : Nat → Int32) (k : Nat) (h : Int32) : Int32 := if nI k < ly then wS ms th k h - wS ms th (k + 1) h else wS ms th k h
def lyOK (ly : Int32) : Prop := 0 ≤ ly ∧ ly ≤ 6
theorem ly_1 {ly : Int32} (h : lyOK ly) : (ly - 1).toInt = ly.toInt - 1 ∧ 0 ≤ ly.toInt ∧ ly.toInt ≤ 6 := by
  have h1 : 0 ≤ ly.toInt := by simpa using le32.mp h.1
  have h2 : ly.toInt ≤ 6 := by simpa using le32.mp h.2
  refine ⟨?_, h1, h2⟩
  rw [subI (by simp; omega) (by simp; omega)]
  simp
theorem lk_1 {ly k : Int32} (h : lyOK ly) (hk : 0 ≤ k ∧ k ≤ ly - 1) : (k + 1).toInt = k.toInt + 1 ∧ 0 ≤ k.toInt ∧ k.toInt ≤ ly.toInt - 1 ∧ ly.toInt ≤ 6 ∧ (ly - 1).toInt = ly.toInt - 1 := by
  obtain ⟨e1, e2, e3⟩ := ly_1 h
  have h1 : 0 ≤ k.toInt := by simpa using le32.mp hk.1
  have h2 : k.toInt ≤ ly.toInt - 1 := by have := le32.mp hk.2; rw [e1] at this; exact this
  refine ⟨?_, h1, h2, e3, e1⟩
  rw [addI (by simp; omega) (by simp; omega)]
  simp
/-! StoneWorks$Wall -/
theorem c_isMeasure {X : Xt} {w : Int32} {G : Gt} {Q : Qt} (K : Q (some (.int (bI (0 ≤ w ∧ w ≤ 4)))) G) : con X m_Wall_isMeasure [.int w] G Q := by
  refine con_rn 40 [] (by decide) rfl ?_
  repeat' first | refine bib (fun h => ?_) (fun h => ?_) | refine bjb (fun h => ?_) (fun h => ?_) | refine bi (fun h => ?_) (fun h => ?_) | refine bj (fun h => ?_) (fun h => ?_) | refine vi (inI (by decide) (by decide)) ?_ | refine vi ?_ ?_ | refine zi (by decide) ?_ | refine zi ?_ ?_ | refine ni rfl ?_ | refine ni (bI_nar _) ?_ | refine c_within ?_
  exact K
theorem c_mayMeasure {X : Xt} {w v : Int32} {G : Gt} {Q : Qt} (hw : 0 ≤ w ∧ w ≤ 4) (K : Q (some (.int (bI (xF X 44 w.toNatClampNeg ≤ v ∧ v ≤ xF X 45 w.toNatClampNeg)))) G) : con X m_Wall_mayMeasure [.int w, .int v] G Q := by
  refine con_rn 40 [] (by decide) rfl ?_
  repeat' first | refine bib (fun h => ?_) (fun h => ?_) | refine bjb (fun h => ?_) (fun h => ?_) | refine bi (fun h => ?_) (fun h => ?_) | refine bj (fun h => ?_) (fun h => ?_) | refine vi (inI (by decide) (by decide)) ?_ | refine vi ?_ ?_ | refine zi (by decide) ?_ | refine zi ?_ ?_ | refine ni rfl ?_ | refine ni (bI_nar _) ?_ | refine c_within ?_
  · show vp_in w 5
    (refine inI ?_ ?_ <;> ((try simp only [le32, lt32, eq32, ne_eq, cl_0, cl_1, cl_2, cl_3, cl_4, cl_5, cl_6] at *); (try simp only [Int32.reduceToInt] at *); omega))
  · show vp_in w 5
    (refine inI ?_ ?_ <;> ((try simp only [le32, lt32, eq32, ne_eq, cl_0, cl_1, cl_2, cl_3, cl_4, cl_5, cl_6] at *); (try simp only [Int32.reduceToInt] at *); omega))
  · exact K
theorem c_mayBeLayer {X : Xt} {t w : Int32} {G : Gt} {Q : Qt} (K : Q (some (.int (bI ((1 ≤ t ∧ t ≤ 10) ∧ 1 ≤ w ∧ w ≤ 60000)))) G) : con X m_Wall_mayBeLayer [.int t, .int w] G Q := by
  refine con_rn 40 [] (by decide) rfl ?_
  repeat' first | refine bib (fun h => ?_) (fun h => ?_) | refine bjb (fun h => ?_) (fun h => ?_) | refine bi (fun h => ?_) (fun h => ?_) | refine bj (fun h => ?_) (fun h => ?_) | refine vi (inI (by decide) (by decide)) ?_ | refine vi ?_ ?_ | refine zi (by decide) ?_ | refine zi ?_ ?_ | refine ni rfl ?_ | refine ni (bI_nar _) ?_ | refine c_within ?_
  all_goals first | exact Qi K (bI_t (by ((try simp only [le32, lt32, eq32, ne_eq, cl_0, cl_1, cl_2, cl_3, cl_4, cl_5, cl_6] at *); (try simp only [Int32.reduceToInt] at *); omega))).symm | exact Qi K (bI_f (by ((try simp only [le32, lt32, eq32, ne_eq, cl_0, cl_1, cl_2, cl_3, cl_4, cl_5, cl_6] at *); (try simp only [Int32.reduceToInt] at *); omega))).symm | (refine inI ?_ ?_ <;> ((try simp only [le32, lt32, eq32, ne_eq, cl_0, cl_1, cl_2, cl_3, cl_4, cl_5, cl_6] at *); (try simp only [Int32.reduceToInt] at *); omega))
theorem c_measure {X : Xt} {w : Int32} {G : Gt} {Q : Qt} (hw : 0 ≤ w ∧ w ≤ 4) (K : Q (some (.int (G 6 w.toNatClampNeg))) G) : con X m_Wall_measure [.ref 5, .int w] G Q := by
  refine con_rn 40 [] (by decide) rfl ?_
  repeat' first | refine bib (fun h => ?_) (fun h => ?_) | refine bjb (fun h => ?_) (fun h => ?_) | refine bi (fun h => ?_) (fun h => ?_) | refine bj (fun h => ?_) (fun h => ?_) | refine vi (inI (by decide) (by decide)) ?_ | refine vi ?_ ?_ | refine zi (by decide) ?_ | refine zi ?_ ?_ | refine ni rfl ?_ | refine ni (bI_nar _) ?_
  · (refine inI ?_ ?_ <;> ((try simp only [le32, lt32, eq32, ne_eq, cl_0, cl_1, cl_2, cl_3, cl_4, cl_5, cl_6] at *); (try simp only [Int32.reduceToInt] at *); omega))
  · exact K
theorem c_change {X : Xt} {w v : Int32} {G : Gt} {Q : Qt} (hw : 0 ≤ w ∧ w ≤ 4) (K : Q (some (.int (G 6 w.toNatClampNeg))) (sG G 6 (upd (G 6) w.toNatClampNeg v))) : con X m_Wall_change [.ref 5, .int w, .int v] G Q := by
  refine con_rn 40 [] (by decide) rfl ?_
  repeat' first | refine bib (fun h => ?_) (fun h => ?_) | refine bjb (fun h => ?_) (fun h => ?_) | refine bi (fun h => ?_) (fun h => ?_) | refine bj (fun h => ?_) (fun h => ?_) | refine vi (inI (by decide) (by decide)) ?_ | refine vi ?_ ?_ | refine zi (by decide) ?_ | refine zi ?_ ?_ | refine ni rfl ?_ | refine ni (bI_nar _) ?_
  · (refine inI ?_ ?_ <;> ((try simp only [le32, lt32, eq32, ne_eq, cl_0, cl_1, cl_2, cl_3, cl_4, cl_5, cl_6] at *); (try simp only [Int32.reduceToInt] at *); omega))
  · (refine inI ?_ ?_ <;> ((try simp only [le32, lt32, eq32, ne_eq, cl_0, cl_1, cl_2, cl_3, cl_4, cl_5, cl_6] at *); (try simp only [Int32.reduceToInt] at *); omega))
  · exact K
theorem c_layers {X : Xt} {G : Gt} {Q : Qt} (K : Q (some (.int (G 5 3))) G) : con X m_Wall_layers [.ref 5] G Q := by
  refine con_rn 40 [] (by decide) rfl ?_
  repeat' first | refine bib (fun h => ?_) (fun h => ?_) | refine bjb (fun h => ?_) (fun h => ?_) | refine bi (fun h => ?_) (fun h => ?_) | refine bj (fun h => ?_) (fun h => ?_) | refine vi (inI (by decide) (by decide)) ?_ | refine vi ?_ ?_ | refine zi (by decide) ?_ | refine zi ?_ ?_ | refine ni rfl ?_ | refine ni (bI_nar _) ?_
  exact K
theorem c_hasLayer {X : Xt} {k : Int32} {G : Gt} {Q : Qt} (K : Q (some (.int (bI (0 ≤ k ∧ k ≤ G 5 3 - 1)))) G) : con X m_Wall_hasLayer [.ref 5, .int k] G Q := by
  refine con_rn 40 [] (by decide) rfl ?_
  repeat' first | refine bib (fun h => ?_) (fun h => ?_) | refine bjb (fun h => ?_) (fun h => ?_) | refine bi (fun h => ?_) (fun h => ?_) | refine bj (fun h => ?_) (fun h => ?_) | refine vi (inI (by decide) (by decide)) ?_ | refine vi ?_ ?_ | refine zi (by decide) ?_ | refine zi ?_ ?_ | refine ni rfl ?_ | refine ni (bI_nar _) ?_ | refine c_within ?_
  exact K
theorem c_isFull {X : Xt} {G : Gt} {Q : Qt} (K : Q (some (.int (bI (6 ≤ G 5 3)))) G) : con X m_Wall_isFull [.ref 5] G Q := by
  refine con_rn 40 [] (by decide) rfl ?_
  repeat' first | refine bib (fun h => ?_) (fun h => ?_) | refine bjb (fun h => ?_) (fun h => ?_) | refine bi (fun h => ?_) (fun h => ?_) | refine bj (fun h => ?_) (fun h => ?_) | refine vi (inI (by decide) (by decide)) ?_ | refine vi ?_ ?_ | refine zi (by decide) ?_ | refine zi ?_ ?_ | refine ni rfl ?_ | refine ni (bI_nar _) ?_
  all_goals first | exact Qi K (bI_t (by ((try simp only [le32, lt32, eq32, ne_eq, cl_0, cl_1, cl_2, cl_3, cl_4, cl_5, cl_6] at *); (try simp only [Int32.reduceToInt] at *); omega))).symm | exact Qi K (bI_f (by ((try simp only [le32, lt32, eq32, ne_eq, cl_0, cl_1, cl_2, cl_3, cl_4, cl_5, cl_6] at *); (try simp only [Int32.reduceToInt] at *); omega))).symm | (refine inI ?_ ?_ <;> ((try simp only [le32, lt32, eq32, ne_eq, cl_0, cl_1, cl_2, cl_3, cl_4, cl_5, cl_6] at *); (try simp only [Int32.reduceToInt] at *); omega))
theorem c_putLayer {X : Xt} {k t w : Int32} {G : Gt} {Q : Qt} (hk : vp_in k 6) (K : Q none (sG (sG G 7 (upd (G 7) k.toNatClampNeg t)) 8 (upd (G 8) k.toNatClampNeg w))) : con X m_Wall_putLayer [.ref 5, .int k, .int t, .int w] G Q := by
  refine con_rn 40 [] (by decide) rfl ?_
  repeat' first | refine bib (fun h => ?_) (fun h => ?_) | refine bjb (fun h => ?_) (fun h => ?_) | refine bi (fun h => ?_) (fun h => ?_) | refine bj (fun h => ?_) (fun h => ?_) | refine vi (inI (by decide) (by decide)) ?_ | refine vi ?_ ?_ | refine zi (by decide) ?_ | refine zi ?_ ?_ | refine ni rfl ?_ | refine ni (bI_nar _) ?_
  · exact hk
  · exact hk
  · exact K
theorem c_addLayer {X : Xt} {t w : Int32} {G : Gt} {Q : Qt} (hk : vp_in (G 5 3) 6) (K : Q (some (.int (G 5 3))) (sG (sG (sG G 5 (upd (G 5) 3 (G 5 3 + 1))) 7 (upd (G 7) (G 5 3).toNatClampNeg t)) 8 (upd (G 8) (G 5 3).toNatClampNeg w))) : con X m_Wall_addLayer [.ref 5, .int t, .int w] G Q := by
  refine con_rn 40 [] (by decide) rfl ?_
  repeat' first | refine bib (fun h => ?_) (fun h => ?_) | refine bjb (fun h => ?_) (fun h => ?_) | refine bi (fun h => ?_) (fun h => ?_) | refine bj (fun h => ?_) (fun h => ?_) | refine vi (inI (by decide) (by decide)) ?_ | refine vi ?_ ?_ | refine zi (by decide) ?_ | refine zi ?_ ?_ | refine ni rfl ?_ | refine ni (bI_nar _) ?_ | refine (c_putLayer hk) ?_
  exact K
theorem c_thickOf {X : Xt} {k : Int32} {G : Gt} {Q : Qt} (hk : vp_in k 6) (K : Q (some (.int (G 7 k.toNatClampNeg))) G) : con X m_Wall_thickOf [.ref 5, .int k] G Q := by
  refine con_rn 40 [] (by decide) rfl ?_
  repeat' first | refine bib (fun h => ?_) (fun h => ?_) | refine bjb (fun h => ?_) (fun h => ?_) | refine bi (fun h => ?_) (fun h => ?_) | refine bj (fun h => ?_) (fun h => ?_) | refine vi (inI (by decide) (by decide)) ?_ | refine vi ?_ ?_ | refine zi (by decide) ?_ | refine zi ?_ ?_ | refine ni rfl ?_ | refine ni (bI_nar _) ?_
  · exact hk
  · exact K
theorem c_weightOf {X : Xt} {k : Int32} {G : Gt} {Q : Qt} (hk : vp_in k 6) (K : Q (some (.int (G 8 k.toNatClampNeg))) G) : con X m_Wall_weightOf [.ref 5, .int k] G Q := by
  refine con_rn 40 [] (by decide) rfl ?_
  repeat' first | refine bib (fun h => ?_) (fun h => ?_) | refine bjb (fun h => ?_) (fun h => ?_) | refine bi (fun h => ?_) (fun h => ?_) | refine bj (fun h => ?_) (fun h => ?_) | refine vi (inI (by decide) (by decide)) ?_ | refine vi ?_ ?_ | refine zi (by decide) ?_ | refine zi ?_ ?_ | refine ni rfl ?_ | refine ni (bI_nar _) ?_
  · exact hk
  · exact K
theorem c_holds {X : Xt} {k : Int32} {G : Gt} {Q : Qt} (hl : lyOK (G 5 3)) (hk : 0 ≤ k ∧ k ≤ G 5 3 - 1) (K : Q (some (.int (bI (hS (G 5 3) (G 6 4) (G 8) k)))) G) : con X m_Wall_holds [.ref 5, .int k] G Q := by
  obtain ⟨e1, e2, e3, e4, e5⟩ := lk_1 hl hk
  refine con_rn 60 [] (by decide) rfl ?_
  repeat' first | refine bib (fun h => ?_) (fun h => ?_) | refine bjb (fun h => ?_) (fun h => ?_) | refine bi (fun h => ?_) (fun h => ?_) | refine bj (fun h => ?_) (fun h => ?_) | refine vi (inI (by decide) (by decide)) ?_ | refine vi ?_ ?_ | refine zi (by decide) ?_ | refine zi ?_ ?_ | refine ni rfl ?_ | refine ni (bI_nar _) ?_
  all_goals first | exact Qi K (bI_t (by ((try simp only [hS, le32, lt32, eq32, ne_eq, cl_0, cl_1, cl_2, cl_3, cl_4, cl_5, cl_6] at *); (try simp only [Int32.reduceToInt] at *); omega))).symm | exact Qi K (bI_f (by ((try simp only [hS, le32, lt32, eq32, ne_eq, cl_0, cl_1, cl_2, cl_3, cl_4, cl_5, cl_6] at *); (try simp only [Int32.reduceToInt] at *); omega))).symm | (refine inI ?_ ?_ <;> ((try simp only [le32, lt32, eq32, ne_eq, cl_0, cl_1, cl_2, cl_3, cl_4, cl_5, cl_6] at *); (try simp only [Int32.reduceToInt] at *); omega))
theorem c_kindOf {X : Xt} {k : Int32} {G : Gt} {Q : Qt} (hl : lyOK (G 5 3)) (hk : 0 ≤ k ∧ k ≤ G 5 3 - 1) (K : Q (some (.int (kS (G 5 3) (G 6 4) (G 8) k))) G) : con X m_Wall_kindOf [.ref 5, .int k] G Q := by
  refine con_rn 60 [] (by decide) rfl ?_
  repeat' first | refine bib (fun h => ?_) (fun h => ?_) | refine bjb (fun h => ?_) (fun h => ?_) | refine bi (fun h => ?_) (fun h => ?_) | refine bj (fun h => ?_) (fun h => ?_) | refine vi (inI (by decide) (by decide)) ?_ | refine vi ?_ ?_ | refine zi (by decide) ?_ | refine zi ?_ ?_ | refine ni rfl ?_ | refine ni (bI_nar _) ?_ | refine (c_holds hl hk) ?_
  all_goals first | (exact inI (by decide) (by decide)) | (refine Qi K ?_; simp_all [kS, hS]; done) | (refine Qi K ?_; simp_all [kS, hS]; intro a b; exact absurd (h.2 a) (Int32.not_lt.mpr b))
theorem c_isOfKind {X : Xt} {k d : Int32} {G : Gt} {Q : Qt} (hl : lyOK (G 5 3)) (hk : 0 ≤ k ∧ k ≤ G 5 3 - 1) (K : Q (some (.int (bI (d = 0 ∨ d = kS (G 5 3) (G 6 4) (G 8) k ∨ (d = 1 ∧ kS (G 5 3) (G 6 4) (G 8) k = 2))))) G) : con X m_Wall_isOfKind [.ref 5, .int k, .int d] G Q := by
  refine con_rn 60 [] (by decide) rfl ?_
  repeat' first | refine bib (fun h => ?_) (fun h => ?_) | refine bjb (fun h => ?_) (fun h => ?_) | refine bi (fun h => ?_) (fun h => ?_) | refine bj (fun h => ?_) (fun h => ?_) | refine vi (inI (by decide) (by decide)) ?_ | refine vi ?_ ?_ | refine zi (by decide) ?_ | refine zi ?_ ?_ | refine ni rfl ?_ | refine ni (bI_nar _) ?_ | refine (c_kindOf hl hk) ?_
  all_goals first | exact Qi K (bI_t (by ((try simp only [le32, lt32, eq32, ne_eq, cl_0, cl_1, cl_2, cl_3, cl_4, cl_5, cl_6] at *); (try simp only [Int32.reduceToInt] at *); omega))).symm | exact Qi K (bI_f (by ((try simp only [le32, lt32, eq32, ne_eq, cl_0, cl_1, cl_2, cl_3, cl_4, cl_5, cl_6] at *); (try simp only [Int32.reduceToInt] at *); omega))).symm | (refine inI ?_ ?_ <;> ((try simp only [le32, lt32, eq32, ne_eq, cl_0, cl_1, cl_2, cl_3, cl_4, cl_5, cl_6] at *); (try simp only [Int32.reduceToInt] at *); omega))
theorem w_width {X : Xt} {y : Int32} {k : Nat} {G : Gt} {Q : Qt} (hk : k ≤ 6) (K : Q (some (.int (wS (G 6) (G 7) k y))) G) : ∀ (m j : Nat) (c t : Int32), c = nI j → j + m = k → t = sI (G 7) j → wp X m_Wall_widthWithout 5 [(4, .int c), (3, .int t), (0, .ref 5), (1, .int (nI k)), (2, .int y)] [] G Q
  | 0, j, c, t, hc, hj, ht => by
    subst hc
    have hj : j = k := by omega
    subst hj
    subst ht
    refine rn_wp (stops := [5]) 80 ?_
    repeat' first | refine bib (fun h => ?_) (fun h => ?_) | refine bjb (fun h => ?_) (fun h => ?_) | refine bi (fun h => ?_) (fun h => ?_) | refine bj (fun h => ?_) (fun h => ?_) | refine vi (inI (by decide) (by decide)) ?_ | refine vi ?_ ?_ | refine zi (by decide) ?_ | refine zi ?_ ?_ | refine ni rfl ?_ | refine ni (bI_nar _) ?_
    · refine Qi K ?_
      simp only [cl_0, cl_1, cl_2] at *
      unfold wS pos
      rw [if_neg (Int32.not_le.mpr h)]
    · refine Qi K ?_
      simp only [cl_0, cl_1, cl_2] at *
      unfold wS
      rw [if_pos (Int32.not_lt.mp h)]
    all_goals (exfalso; simp (disch := omega) only [nI_1, nI_add, nI_clamp, nI_leI, nI_ltI, nI_eq, nI_toInt] at h; omega)
  | m + 1, j, c, t, hc, hj, ht => by
    subst hc
    refine rn_wp (stops := [5]) 80 ?_
    refine bi (fun h => ?_) (fun h => ?_)
    · simp (disch := omega) only [nI_1, nI_add, nI_clamp, nI_leI, nI_ltI, nI_eq, nI_toInt] at h
      omega
    · refine vi (vp_in_nI (by omega) (by omega)) ?_
      refine w_width hk K m (j + 1) _ _ (nI_1 _) (by omega) ?_
      rw [ht, nI_clamp (by omega)]
      rfl
theorem c_width {X : Xt} {k y : Int32} {G : Gt} {Q : Qt} (h0 : 0 ≤ k) (h1 : k ≤ 6) (K : Q (some (.int (wS (G 6) (G 7) k.toNatClampNeg y))) G) : con X m_Wall_widthWithout [.ref 5, .int k, .int y] G Q := by
  obtain ⟨e, e1, -⟩ := toN h0
  have h2 : k.toInt ≤ 6 := by simpa using le32.mp h1
  generalize k.toNatClampNeg = j at *
  subst e
  refine con_rn 10 [5] (by decide) rfl ?_
  exact w_width (by omega) K j 0 _ _ rfl (by omega) rfl
/-- the wall's measures, as they may be -/
def msOK (ms : Nat → Int32) : Prop := (1 ≤ ms 0 ∧ ms 0 ≤ 100) ∧ (1 ≤ ms 1 ∧ ms 1 ≤ 50) ∧ (1 ≤ ms 2 ∧ ms 2 ≤ 60) ∧ (1 ≤ ms 3 ∧ ms 3 ≤ 1000) ∧ (2 ≤ ms 4 ∧ ms 4 ≤ 30)
theorem ms_0 {ms : Nat → Int32} (h : msOK ms) : ∃ C : Nat, C ≤ 100 ∧ 1 ≤ C ∧ ms 0 = nI C := by
  obtain ⟨e, e1, -⟩ := toN (x := ms 0) (Int32.le_trans (by decide) h.1.1)
  have h1 : 1 ≤ (ms 0).toInt := by simpa using le32.mp h.1.1
  have h2 : (ms 0).toInt ≤ 100 := by simpa using le32.mp h.1.2
  exact ⟨_, by omega, by omega, e⟩
theorem w_wholeVolume {X : Xt} {C : Nat} {G : Gt} {Q : Qt} (hC : C ≤ 100) (hm : G 6 0 = nI C) (K : Q (some (.int (sI (fun h => wS (G 6) (G 7) 0 (nI h)) C * G 6 3))) G) : ∀ (m j : Nat) (c t : Int32), c = nI j → j + m = C → t = sI (fun h => wS (G 6) (G 7) 0 (nI h)) j → wp X m_Wall_wholeVolume 4 [(2, .int c), (1, .int t), (0, .ref 5)] [] G Q
  | 0, j, c, t, hc, hj, ht => by
    subst hc
    have hj : j = C := by omega
    subst hj
    subst ht
    refine rn_wp (stops := [4]) 80 ?_
    repeat' first | refine bib (fun h => ?_) (fun h => ?_) | refine bjb (fun h => ?_) (fun h => ?_) | refine bi (fun h => ?_) (fun h => ?_) | refine bj (fun h => ?_) (fun h => ?_) | refine vi (inI (by decide) (by decide)) ?_ | refine vi ?_ ?_ | refine zi (by decide) ?_ | refine zi ?_ ?_ | refine ni rfl ?_ | refine ni (bI_nar _) ?_ | refine (c_width (by decide) (by decide)) ?_
    · exact K
    · exfalso
      simp only [cl_0] at h
      rw [hm] at h
      exact h (Int32.le_refl _)
  | m + 1, j, c, t, hc, hj, ht => by
    subst hc
    refine rn_wp (stops := [4]) 80 ?_
    repeat' first | refine bib (fun h => ?_) (fun h => ?_) | refine bjb (fun h => ?_) (fun h => ?_) | refine bi (fun h => ?_) (fun h => ?_) | refine bj (fun h => ?_) (fun h => ?_) | refine vi (inI (by decide) (by decide)) ?_ | refine vi ?_ ?_ | refine zi (by decide) ?_ | refine zi ?_ ?_ | refine ni rfl ?_ | refine ni (bI_nar _) ?_ | refine (c_width (by decide) (by decide)) ?_
    · exfalso
      simp only [cl_0] at h
      rw [hm] at h
      simp (disch := omega) only [nI_1, nI_add, nI_clamp, nI_leI, nI_ltI, nI_eq, nI_toInt] at h
      omega
    · refine w_wholeVolume hC hm K m (j + 1) _ _ (nI_1 _) (by omega) ?_
      rw [ht]
      rfl
theorem c_wholeVolume {X : Xt} {C : Nat} {G : Gt} {Q : Qt} (hC : C ≤ 100) (hm : G 6 0 = nI C) (K : Q (some (.int (sI (fun h => wS (G 6) (G 7) 0 (nI h)) C * G 6 3))) G) : con X m_Wall_wholeVolume [.ref 5] G Q := by
  refine con_rn 10 [4] (by decide) rfl ?_
  exact w_wholeVolume hC hm K C 0 _ _ rfl (by omega) rfl
theorem w_volumeOf {X : Xt} {C k : Nat} {G : Gt} {Q : Qt} (hC : C ≤ 100) (hm : G 6 0 = nI C) (hl : lyOK (G 5 3)) (hk : nI k ≤ G 5 3) (hk6 : k ≤ 6) (K : Q (some (.int (sI (fun h => pos (lS (G 5 3) (G 6) (G 7) k (nI h))) C * G 6 3))) G) : ∀ (m j : Nat) (c t : Int32), c = nI j → j + m = C → t = sI (fun h => pos (lS (G 5 3) (G 6) (G 7) k (nI h))) j → wp X m_Wall_volumeOf 4 [(3, .int c), (2, .int t), (0, .ref 5), (1, .int (nI k))] [] G Q
  | 0, j, c, t, hc, hj, ht => by
    subst hc
    have hj : j = C := by omega
    subst hj
    subst ht
    refine rn_wp (stops := [4]) 80 ?_
    refine vi (inI (by decide) (by decide)) (bi (fun h => ?_) (fun h => ?_))
    · refine vi (inI (by decide) (by decide)) ?_
      exact K
    · exfalso
      simp only [cl_0] at h
      rw [hm] at h
      exact h (Int32.le_refl _)
  | m + 1, j, c, t, hc, hj, ht => by
    subst hc
    refine rn_wp (stops := [4]) 80 ?_
    refine vi (inI (by decide) (by decide)) (bi (fun h => ?_) (fun h => ?_))
    · exfalso
      simp only [cl_0] at h
      rw [hm] at h
      simp (disch := omega) only [nI_1, nI_add, nI_clamp, nI_leI, nI_ltI, nI_eq, nI_toInt] at h
      omega
    · have h6 : (6 : Int32) = nI 6 := rfl
      have a1 : 0 ≤ nI k := nI_pos' (by omega)
      have a2 : nI k ≤ 6 := by rw [h6, nI_leI (by omega) (by omega)]; omega
      refine bi (fun h2 => ?_) (fun h2 => ?_)
      · refine c_width a1 a2 ?_
        rw [nI_clamp (by omega)]
        refine wp_pick [0, 1, 3, 4] (w_volumeOf hC hm hl hk hk6 K m (j + 1) _ _ (nI_1 _) (by omega) ?_)
        rw [ht, sI, lS, if_neg (Int32.not_lt.mpr h2)]
        show _ = _ + pos _
        unfold pos
        rw [Int32.sub_zero]
      · have h2 : nI k < G 5 3 := Int32.not_le.mp h2
        have a3 : (nI k + 1) ≤ 6 := by
          have := hl.2
          have h3 := (ly_1 hl).2.2
          have h4 := lt32.mp h2
          rw [nI_toInt (by omega)] at h4
          rw [nI_1, h6, nI_leI (by omega) (by omega)]
          omega
        refine c_width (by rw [nI_1]; exact nI_pos' (by omega)) a3 ?_
        refine c_width a1 a2 ?_
        rw [nI_1, nI_clamp (by omega), nI_clamp (by omega)]
        refine wp_pick [0, 1, 3, 4] (w_volumeOf hC hm hl hk hk6 K m (j + 1) _ _ (nI_1 _) (by omega) ?_)
        rw [ht, sI, lS, if_pos h2]
        rfl
theorem c_volumeOf {X : Xt} {C k : Nat} {G : Gt} {Q : Qt} (hC : C ≤ 100) (hm : G 6 0 = nI C) (hl : lyOK (G 5 3)) (hk : nI k ≤ G 5 3) (hk6 : k ≤ 6) (K : Q (some (.int (sI (fun h => pos (lS (G 5 3) (G 6) (G 7) k (nI h))) C * G 6 3))) G) : con X m_Wall_volumeOf [.ref 5, .int (nI k)] G Q := by
  refine con_rn 10 [4] (by decide) rfl ?_
  exact w_volumeOf hC hm hl hk hk6 K C 0 _ _ rfl (by omega) rfl
/-- how many of n layers hold -/
def hN (ly f : Int32) (w : Nat → Int32) : Nat → Nat
  | 0 => 0
  | n + 1 => hN ly f w n + (if hS ly f w (nI n) then 1 else 0)
def oN (ly f : Int32) (w : Nat → Int32) : Nat → Nat
  | 0 => 0
  | n + 1 => oN ly f w n + (if kS ly f w (nI n) = 4 then 1 else 0)
theorem lyN {ly : Int32} (h : lyOK ly) : ∃ N : Nat, N ≤ 6 ∧ ly = nI N := by
  obtain ⟨e, e1, -⟩ := toN h.1
  have h2 := (ly_1 h).2.2
  exact ⟨_, by omega, e⟩
theorem lkN {N j : Nat} (hN : N ≤ 6) (hj : j < N) : 0 ≤ nI j ∧ nI j ≤ nI N - 1 := by
  refine ⟨nI_pos' (by omega), ?_⟩
  obtain ⟨q, rfl⟩ : ∃ q, N = q + 1 := ⟨N - 1, by omega⟩
  rw [nI_pred, nI_leI (by omega) (by omega)]
  omega
theorem w_holding {X : Xt} {N : Nat} {G : Gt} {Q : Qt} (hN6 : N ≤ 6) (hl : lyOK (G 5 3)) (hm : G 5 3 = nI N) (K : Q (some (.int (nI (hN (G 5 3) (G 6 4) (G 8) N)))) G) : ∀ (m j : Nat) (c t : Int32), c = nI j → j + m = N → t = nI (hN (G 5 3) (G 6 4) (G 8) j) → wp X m_Wall_holding 4 [(2, .int c), (1, .int t), (0, .ref 5)] [] G Q
  | 0, j, c, t, hc, hj, ht => by
    subst hc
    have hj : j = N := by omega
    subst hj
    refine rn_wp (stops := [4]) 80 ?_
    refine bi (fun h => ?_) (fun h => ?_)
    · exact Qi K ht
    · exact absurd (by rw [hm]; exact Int32.le_refl _) h
  | m + 1, j, c, t, hc, hj, ht => by
    subst hc
    refine rn_wp (stops := [4]) 80 ?_
    refine bi (fun h => ?_) (fun h => ?_)
    · exfalso
      rw [hm] at h
      simp (disch := omega) only [nI_1, nI_add, nI_clamp, nI_leI, nI_ltI, nI_eq, nI_toInt] at h
      omega
    · refine c_holds hl (by rw [hm]; exact lkN hN6 (by omega)) ?_
      refine bib (fun h2 => ?_) (fun h2 => ?_)
      · refine w_holding hN6 hl hm K m (j + 1) _ _ (nI_1 _) (by omega) ?_
        rw [ht, hN, if_neg h2]
        rfl
      · refine w_holding hN6 hl hm K m (j + 1) _ _ (nI_1 _) (by omega) ?_
        rw [ht, hN, if_pos h2, nI_1]
theorem c_holding {X : Xt} {N : Nat} {G : Gt} {Q : Qt} (hN6 : N ≤ 6) (hl : lyOK (G 5 3)) (hm : G 5 3 = nI N) (K : Q (some (.int (nI (hN (G 5 3) (G 6 4) (G 8) N)))) G) : con X m_Wall_holding [.ref 5] G Q := by
  refine con_rn 10 [4] (by decide) rfl ?_
  exact w_holding hN6 hl hm K N 0 _ _ rfl (by omega) rfl
theorem w_loose {X : Xt} {N : Nat} {G : Gt} {Q : Qt} (hN6 : N ≤ 6) (hl : lyOK (G 5 3)) (hm : G 5 3 = nI N) (K : Q (some (.int (nI (oN (G 5 3) (G 6 4) (G 8) N)))) G) : ∀ (m j : Nat) (c t : Int32), c = nI j → j + m = N → t = nI (oN (G 5 3) (G 6 4) (G 8) j) → wp X m_Wall_loose 4 [(2, .int c), (1, .int t), (0, .ref 5)] [] G Q
  | 0, j, c, t, hc, hj, ht => by
    subst hc
    have hj : j = N := by omega
    subst hj
    refine rn_wp (stops := [4]) 80 ?_
    refine bi (fun h => ?_) (fun h => ?_)
    · exact Qi K ht
    · exact absurd (by rw [hm]; exact Int32.le_refl _) h
  | m + 1, j, c, t, hc, hj, ht => by
    subst hc
    refine rn_wp (stops := [4]) 80 ?_
    refine bi (fun h => ?_) (fun h => ?_)
    · exfalso
      rw [hm] at h
      simp (disch := omega) only [nI_1, nI_add, nI_clamp, nI_leI, nI_ltI, nI_eq, nI_toInt] at h
      omega
    · refine c_kindOf hl (by rw [hm]; exact lkN hN6 (by omega)) ?_
      refine bj (fun h2 => ?_) (fun h2 => ?_)
      · refine w_loose hN6 hl hm K m (j + 1) _ _ (nI_1 _) (by omega) ?_
        rw [ht, oN, if_neg h2]
        rfl
      · refine w_loose hN6 hl hm K m (j + 1) _ _ (nI_1 _) (by omega) ?_
        rw [ht, oN, if_pos h2, nI_1]
theorem c_loose {X : Xt} {N : Nat} {G : Gt} {Q : Qt} (hN6 : N ≤ 6) (hl : lyOK (G 5 3)) (hm : G 5 3 = nI N) (K : Q (some (.int (nI (oN (G 5 3) (G 6 4) (G 8) N)))) G) : con X m_Wall_loose [.ref 5] G Q := by
  refine con_rn 10 [4] (by decide) rfl ?_
  exact w_loose hN6 hl hm K N 0 _ _ rfl (by omega) rfl
end
section
/-! the model's small methods -/
theorem le64 {a b : Int32} : a.toInt64 ≤ b.toInt64 ↔ a ≤ b := by
  rw [Int64.le_iff_toInt_le, Int32.toInt_toInt64, Int32.toInt_toInt64, ← Int32.le_iff_toInt_le]
theorem lcmp_lt (x y : Int64) : lg_cmp x y < 0 ↔ x < y := by
  unfold lg_cmp
  split
  · rename_i h
    exact ⟨fun z => absurd z (by decide), fun z => absurd (Int64.lt_trans h z) (Int64.lt_irrefl)⟩
  · split
    · rename_i h1 h2
      exact ⟨fun z => absurd z (by decide), fun z => absurd (h2 ▸ z) Int64.lt_irrefl⟩
    · rename_i h1 h2
      refine ⟨fun _ => ?_, fun _ => by decide⟩
      exact Int64.lt_of_le_of_ne (Int64.not_lt.mp h1) h2
theorem lcmp_gt (x y : Int64) : 0 < lg_cmp x y ↔ y < x := by
  unfold lg_cmp
  split
  · rename_i h
    exact ⟨fun _ => h, fun _ => by decide⟩
  · split
    · rename_i h1 h2
      exact ⟨fun z => absurd z (by decide), fun z => absurd z h1⟩
    · rename_i h1 h2
      exact ⟨fun z => absurd z (by decide), fun z => absurd z h1⟩
theorem c_inL {X : Xt} {a b c : Int64} {G : Gt} {Q : Qt} (K : Q (some (.int (bI (b ≤ a ∧ a ≤ c)))) G) : con X m_Mo_in [.long a, .long b, .long c] G Q := by
  refine con_rn 40 [] (by decide) rfl ?_
  repeat' first | refine bib (fun h => ?_) (fun h => ?_) | refine bjb (fun h => ?_) (fun h => ?_) | refine bi (fun h => ?_) (fun h => ?_) | refine bj (fun h => ?_) (fun h => ?_) | refine vi (inI (by decide) (by decide)) ?_ | refine vi ?_ ?_ | refine zi (by decide) ?_ | refine zi ?_ ?_ | refine ni rfl ?_ | refine ni (bI_nar _) ?_
  · rw [lcmp_lt] at h
    exact Qi K (bI_f (fun z => Int64.not_lt.mpr z.1 h)).symm
  · rw [lcmp_gt] at h
    exact Qi K (bI_f (fun z => Int64.not_lt.mpr z.2 h)).symm
  · rename_i h1
    rw [lcmp_gt] at h
    rw [lcmp_lt] at h1
    exact Qi K (bI_t ⟨Int64.not_lt.mp h1, Int64.not_lt.mp h⟩).symm
theorem c_in {X : Xt} (lo hi : Int32) {x : Int32} {b c : Int64} {G : Gt} {Q : Qt} (hb : b = lo.toInt64) (hc : c = hi.toInt64) (K : Q (some (.int (bI (lo ≤ x ∧ x ≤ hi)))) G) : con X m_Mo_in [.long x.toInt64, .long b, .long c] G Q := by
  refine c_inL ?_
  refine Qi K (bI_congr ?_)
  rw [hb, hc, le64, le64]
theorem c_Mfound {X : Xt} {f : Int32} {G : Gt} {Q : Qt} (K : Q (some (.int (-1000010 - f))) (sG G 26 (upd (G 26) 1 f))) : con X m_Mo_found [.ref 26, .int f] G Q := by
  refine con_rn 40 [] (by decide) rfl ?_
  repeat' first | refine bib (fun h => ?_) (fun h => ?_) | refine bjb (fun h => ?_) (fun h => ?_) | refine bi (fun h => ?_) (fun h => ?_) | refine bj (fun h => ?_) (fun h => ?_) | refine vi (inI (by decide) (by decide)) ?_ | refine vi ?_ ?_ | refine zi (by decide) ?_ | refine zi ?_ ?_ | refine ni rfl ?_ | refine ni (bI_nar _) ?_
  exact K
theorem c_isSheet {X : Xt} {s : Int32} {G : Gt} {Q : Qt} (K : Q (some (.int (bI (0 ≤ s ∧ s ≤ 7)))) G) : con X m_Mo_isSheet [.int s] G Q := by
  refine con_rn 40 [] (by decide) rfl ?_
  repeat' first | refine bib (fun h => ?_) (fun h => ?_) | refine bjb (fun h => ?_) (fun h => ?_) | refine bi (fun h => ?_) (fun h => ?_) | refine bj (fun h => ?_) (fun h => ?_) | refine vi (inI (by decide) (by decide)) ?_ | refine vi ?_ ?_ | refine zi (by decide) ?_ | refine zi ?_ ?_ | refine ni rfl ?_ | refine ni (bI_nar _) ?_ | refine (c_in 0 7 rfl rfl) ?_
  exact K
theorem c_isLaid {X : Xt} {t w : Int32} {G : Gt} {Q : Qt} (K : Q (some (.int (bI ((1 ≤ t ∧ t ≤ 10) ∧ 1 ≤ w ∧ w ≤ 60000)))) G) : con X m_Mo_isLaid [.int t, .int w] G Q := by
  refine con_rn 40 [] (by decide) rfl ?_
  repeat' first | refine bib (fun h => ?_) (fun h => ?_) | refine bjb (fun h => ?_) (fun h => ?_) | refine bi (fun h => ?_) (fun h => ?_) | refine bj (fun h => ?_) (fun h => ?_) | refine vi (inI (by decide) (by decide)) ?_ | refine vi ?_ ?_ | refine zi (by decide) ?_ | refine zi ?_ ?_ | refine ni rfl ?_ | refine ni (bI_nar _) ?_ | refine (c_in 1 10 rfl rfl) ?_ | refine (c_in 1 60000 rfl rfl) ?_
  all_goals first | exact Qi K (bI_t (by ((try simp only [le32, lt32, eq32, ne_eq, cl_0, cl_1, cl_2, cl_3, cl_4, cl_5, cl_6] at *); (try simp only [Int32.reduceToInt] at *); omega))).symm | exact Qi K (bI_f (by ((try simp only [le32, lt32, eq32, ne_eq, cl_0, cl_1, cl_2, cl_3, cl_4, cl_5, cl_6] at *); (try simp only [Int32.reduceToInt] at *); omega))).symm | (refine inI ?_ ?_ <;> ((try simp only [le32, lt32, eq32, ne_eq, cl_0, cl_1, cl_2, cl_3, cl_4, cl_5, cl_6] at *); (try simp only [Int32.reduceToInt] at *); omega))
theorem c_isLayer {X : Xt} {k : Int32} {G : Gt} {Q : Qt} (K : Q (some (.int (bI (0 ≤ k ∧ k ≤ G 26 6 - 1)))) G) : con X m_Mo_isLayer [.ref 26, .int k] G Q := by
  refine con_rn 40 [] (by decide) rfl ?_
  repeat' first | refine bib (fun h => ?_) (fun h => ?_) | refine bjb (fun h => ?_) (fun h => ?_) | refine bi (fun h => ?_) (fun h => ?_) | refine bj (fun h => ?_) (fun h => ?_) | refine vi (inI (by decide) (by decide)) ?_ | refine vi ?_ ?_ | refine zi (by decide) ?_ | refine zi ?_ ?_ | refine ni rfl ?_ | refine ni (bI_nar _) ?_ | refine (c_in 0 _ rfl rfl) ?_
  exact K
theorem c_MisCrane {X : Xt} {c r : Int32} {G : Gt} {Q : Qt} (K : Q (some (.int (bI ((0 ≤ c ∧ c ≤ 11) ∧ 0 ≤ r ∧ r ≤ 30)))) G) : con X m_Mo_isCrane [.int c, .int r] G Q := by
  refine con_rn 40 [] (by decide) rfl ?_
  repeat' first | refine bib (fun h => ?_) (fun h => ?_) | refine bjb (fun h => ?_) (fun h => ?_) | refine bi (fun h => ?_) (fun h => ?_) | refine bj (fun h => ?_) (fun h => ?_) | refine vi (inI (by decide) (by decide)) ?_ | refine vi ?_ ?_ | refine zi (by decide) ?_ | refine zi ?_ ?_ | refine ni rfl ?_ | refine ni (bI_nar _) ?_ | refine (c_in 0 11 rfl rfl) ?_ | refine (c_in 0 30 rfl rfl) ?_
  all_goals first | exact Qi K (bI_t (by ((try simp only [le32, lt32, eq32, ne_eq, cl_0, cl_1, cl_2, cl_3, cl_4, cl_5, cl_6] at *); (try simp only [Int32.reduceToInt] at *); omega))).symm | exact Qi K (bI_f (by ((try simp only [le32, lt32, eq32, ne_eq, cl_0, cl_1, cl_2, cl_3, cl_4, cl_5, cl_6] at *); (try simp only [Int32.reduceToInt] at *); omega))).symm | (refine inI ?_ ?_ <;> ((try simp only [le32, lt32, eq32, ne_eq, cl_0, cl_1, cl_2, cl_3, cl_4, cl_5, cl_6] at *); (try simp only [Int32.reduceToInt] at *); omega))
theorem c_isHarbour {X : Xt} {w h b : Int32} {G : Gt} {Q : Qt} (K : Q (some (.int (bI ((1 ≤ w ∧ w ≤ 50) ∧ (1 ≤ h ∧ h ≤ 50) ∧ 0 ≤ b ∧ b ≤ 10)))) G) : con X m_Mo_isHarbour [.int w, .int h, .int b] G Q := by
  refine con_rn 60 [] (by decide) rfl ?_
  repeat' first | refine bib (fun h => ?_) (fun h => ?_) | refine bjb (fun h => ?_) (fun h => ?_) | refine bi (fun h => ?_) (fun h => ?_) | refine bj (fun h => ?_) (fun h => ?_) | refine vi (inI (by decide) (by decide)) ?_ | refine vi ?_ ?_ | refine zi (by decide) ?_ | refine zi ?_ ?_ | refine ni rfl ?_ | refine ni (bI_nar _) ?_ | refine (c_in 1 50 rfl rfl) ?_ | refine (c_in 0 10 rfl rfl) ?_
  all_goals first | exact Qi K (bI_t (by ((try simp only [le32, lt32, eq32, ne_eq, cl_0, cl_1, cl_2, cl_3, cl_4, cl_5, cl_6] at *); (try simp only [Int32.reduceToInt] at *); omega))).symm | exact Qi K (bI_f (by ((try simp only [le32, lt32, eq32, ne_eq, cl_0, cl_1, cl_2, cl_3, cl_4, cl_5, cl_6] at *); (try simp only [Int32.reduceToInt] at *); omega))).symm | (refine inI ?_ ?_ <;> ((try simp only [le32, lt32, eq32, ne_eq, cl_0, cl_1, cl_2, cl_3, cl_4, cl_5, cl_6] at *); (try simp only [Int32.reduceToInt] at *); omega))
theorem c_MisPlace {X : Xt} {r p : Int32} {G : Gt} {Q : Qt} (K : Q (some (.int (bI ((0 ≤ r ∧ r ≤ 7) ∧ 0 ≤ p ∧ p ≤ 11 - r)))) G) : con X m_Mo_isPlace [.int r, .int p] G Q := by
  refine con_rn 40 [] (by decide) rfl ?_
  repeat' first | refine bib (fun h => ?_) (fun h => ?_) | refine bjb (fun h => ?_) (fun h => ?_) | refine bi (fun h => ?_) (fun h => ?_) | refine bj (fun h => ?_) (fun h => ?_) | refine vi (inI (by decide) (by decide)) ?_ | refine vi ?_ ?_ | refine zi (by decide) ?_ | refine zi ?_ ?_ | refine ni rfl ?_ | refine ni (bI_nar _) ?_ | refine (c_in 0 7 rfl rfl) ?_ | refine (c_in 0 _ rfl rfl) ?_
  all_goals first | exact Qi K (bI_t (by ((try simp only [le32, lt32, eq32, ne_eq, cl_0, cl_1, cl_2, cl_3, cl_4, cl_5, cl_6] at *); (try simp only [Int32.reduceToInt] at *); omega))).symm | exact Qi K (bI_f (by ((try simp only [le32, lt32, eq32, ne_eq, cl_0, cl_1, cl_2, cl_3, cl_4, cl_5, cl_6] at *); (try simp only [Int32.reduceToInt] at *); omega))).symm | (refine inI ?_ ?_ <;> ((try simp only [le32, lt32, eq32, ne_eq, cl_0, cl_1, cl_2, cl_3, cl_4, cl_5, cl_6] at *); (try simp only [Int32.reduceToInt] at *); omega))
theorem c_Mholds {X : Xt} {k : Int32} {G : Gt} {Q : Qt} (hl : lyOK (G 26 6)) (hk : 0 ≤ k ∧ k ≤ G 26 6 - 1) (K : Q (some (.int (bI (hS (G 26 6) (G 30 4) (G 32) k)))) G) : con X m_Mo_holds [.ref 26, .int k] G Q := by
  obtain ⟨e1, e2, e3, e4, e5⟩ := lk_1 hl hk
  refine con_rn 60 [] (by decide) rfl ?_
  repeat' first | refine bib (fun h => ?_) (fun h => ?_) | refine bjb (fun h => ?_) (fun h => ?_) | refine bi (fun h => ?_) (fun h => ?_) | refine bj (fun h => ?_) (fun h => ?_) | refine vi (inI (by decide) (by decide)) ?_ | refine vi ?_ ?_ | refine zi (by decide) ?_ | refine zi ?_ ?_ | refine ni rfl ?_ | refine ni (bI_nar _) ?_
  all_goals first | exact Qi K (bI_t (by ((try simp only [hS, le32, lt32, eq32, ne_eq, cl_0, cl_1, cl_2, cl_3, cl_4, cl_5, cl_6] at *); (try simp only [Int32.reduceToInt] at *); omega))).symm | exact Qi K (bI_f (by ((try simp only [hS, le32, lt32, eq32, ne_eq, cl_0, cl_1, cl_2, cl_3, cl_4, cl_5, cl_6] at *); (try simp only [Int32.reduceToInt] at *); omega))).symm | (refine inI ?_ ?_ <;> ((try simp only [le32, lt32, eq32, ne_eq, cl_0, cl_1, cl_2, cl_3, cl_4, cl_5, cl_6] at *); (try simp only [Int32.reduceToInt] at *); omega))
theorem c_MkindOf {X : Xt} {k : Int32} {G : Gt} {Q : Qt} (hl : lyOK (G 26 6)) (hk : 0 ≤ k ∧ k ≤ G 26 6 - 1) (K : Q (some (.int (kS (G 26 6) (G 30 4) (G 32) k))) G) : con X m_Mo_kindOf [.ref 26, .int k] G Q := by
  by_cases hk0 : k = 0
  · subst hk0
    refine con_rn 60 [] (by decide) rfl ?_
    repeat' first | refine bib (fun h => ?_) (fun h => ?_) | refine bjb (fun h => ?_) (fun h => ?_) | refine bi (fun h => ?_) (fun h => ?_) | refine bj (fun h => ?_) (fun h => ?_) | refine vi (inI (by decide) (by decide)) ?_ | refine vi ?_ ?_ | refine zi (by decide) ?_ | refine zi ?_ ?_ | refine ni rfl ?_ | refine ni (bI_nar _) ?_ | refine (c_Mholds hl hk) ?_
    all_goals first | (exfalso; exact absurd rfl (by assumption)) | (refine Qi K ?_; simp_all [kS, hS]; done) | (refine Qi K ?_; simp_all [kS, hS]; intro a b; exact absurd (h.2 a) (Int32.not_lt.mpr b))
  · refine con_rn 60 [] (by decide) rfl ?_
    repeat' first | refine bib (fun h => ?_) (fun h => ?_) | refine bjb (fun h => ?_) (fun h => ?_) | refine bi (fun h => ?_) (fun h => ?_) | refine bj (fun h => ?_) (fun h => ?_) | refine vi (inI (by decide) (by decide)) ?_ | refine vi ?_ ?_ | refine zi (by decide) ?_ | refine zi ?_ ?_ | refine ni rfl ?_ | refine ni (bI_nar _) ?_ | refine (c_Mholds hl hk) ?_
    all_goals first | (exfalso; exact hk0 (by assumption)) | (refine Qi K ?_; simp_all [kS, hS]; done)
theorem c_isOf {X : Xt} {a d : Int32} {G : Gt} {Q : Qt} (K : Q (some (.int (bI (d = 0 ∨ d = a ∨ (d = 1 ∧ a = 2))))) G) : con X m_Mo_isOf [.int a, .int d] G Q := by
  refine con_rn 60 [] (by decide) rfl ?_
  repeat' first | refine bib (fun h => ?_) (fun h => ?_) | refine bjb (fun h => ?_) (fun h => ?_) | refine bi (fun h => ?_) (fun h => ?_) | refine bj (fun h => ?_) (fun h => ?_) | refine vi (inI (by decide) (by decide)) ?_ | refine vi ?_ ?_ | refine zi (by decide) ?_ | refine zi ?_ ?_ | refine ni rfl ?_ | refine ni (bI_nar _) ?_
  all_goals first | exact Qi K (bI_t (by ((try simp only [le32, lt32, eq32, ne_eq, cl_0, cl_1, cl_2, cl_3, cl_4, cl_5, cl_6] at *); (try simp only [Int32.reduceToInt] at *); omega))).symm | exact Qi K (bI_f (by ((try simp only [le32, lt32, eq32, ne_eq, cl_0, cl_1, cl_2, cl_3, cl_4, cl_5, cl_6] at *); (try simp only [Int32.reduceToInt] at *); omega))).symm | (refine inI ?_ ?_ <;> ((try simp only [le32, lt32, eq32, ne_eq, cl_0, cl_1, cl_2, cl_3, cl_4, cl_5, cl_6] at *); (try simp only [Int32.reduceToInt] at *); omega))
theorem T_id {G : Gt} (h : G 26 0 = 0) : sG G 26 (upd (G 26) 0 0) = G := by
  funext q
  unfold sG
  split
  · rename_i e
    subst e
    funext j
    unfold upd
    split
    · rename_i e; rw [e, h]
    · rfl
  · rfl
theorem w_wideOf {X : Xt} {y : Int32} {k : Nat} {G : Gt} {Q : Qt} (hk : k ≤ 6) (K : Q (some (.int (wS (G 30) (G 31) k y))) G) : ∀ (m j : Nat) (c t : Int32), c = nI j → j + m = k → t = sI (G 31) j → wp X m_Mo_wideOf 5 [(4, .int c), (3, .int t), (0, .ref 26), (1, .int (nI k)), (2, .int y)] [] G Q
  | 0, j, c, t, hc, hj, ht => by
    subst hc
    have hj : j = k := by omega
    subst hj
    subst ht
    refine rn_wp (stops := [5]) 80 ?_
    repeat' first | refine bib (fun h => ?_) (fun h => ?_) | refine bjb (fun h => ?_) (fun h => ?_) | refine bi (fun h => ?_) (fun h => ?_) | refine bj (fun h => ?_) (fun h => ?_) | refine vi (inI (by decide) (by decide)) ?_ | refine vi ?_ ?_ | refine zi (by decide) ?_ | refine zi ?_ ?_ | refine ni rfl ?_ | refine ni (bI_nar _) ?_
    · refine Qi K ?_
      simp only [cl_0, cl_1, cl_2] at *
      unfold wS
      rw [if_pos h]
    · rename_i h1
      refine Qi K ?_
      simp only [cl_0, cl_1, cl_2] at *
      unfold wS pos
      rw [if_neg h1]
      split
      · rfl
      · rename_i h3
        exact Int32.le_antisymm (Int32.not_lt.mp h3) h
    · rename_i h1
      refine Qi K ?_
      simp only [cl_0, cl_1, cl_2] at *
      unfold wS pos
      rw [if_neg h1, if_neg (fun z => h (Int32.le_of_lt z))]
    all_goals (exfalso; simp (disch := omega) only [nI_1, nI_add, nI_clamp, nI_leI, nI_ltI, nI_eq, nI_toInt] at h; omega)
  | m + 1, j, c, t, hc, hj, ht => by
    subst hc
    refine rn_wp (stops := [5]) 80 ?_
    refine bi (fun h => ?_) (fun h => ?_)
    · simp (disch := omega) only [nI_1, nI_add, nI_clamp, nI_leI, nI_ltI, nI_eq, nI_toInt] at h
      omega
    · refine vi (vp_in_nI (by omega) (by omega)) ?_
      refine w_wideOf hk K m (j + 1) _ _ (nI_1 _) (by omega) ?_
      rw [ht, nI_clamp (by omega)]
      rfl
theorem c_wideOf {X : Xt} {k y : Int32} {G : Gt} {Q : Qt} (h0 : 0 ≤ k) (h1 : k ≤ 6) (K : Q (some (.int (wS (G 30) (G 31) k.toNatClampNeg y))) G) : con X m_Mo_wideOf [.ref 26, .int k, .int y] G Q := by
  obtain ⟨e, e1, -⟩ := toN h0
  have h2 : k.toInt ≤ 6 := by simpa using le32.mp h1
  generalize k.toNatClampNeg = j at *
  subst e
  refine con_rn 10 [5] (by decide) rfl ?_
  exact w_wideOf (by omega) K j 0 _ _ rfl (by omega) rfl
/-! the traces: both sides write the same row -/
theorem sG_4 {G : Gt} {p q : Nat} {f g f' g' : Nat → Int32} : sG (sG (sG (sG G p f) q g) p f') q g' = sG (sG G p f') q g' := by
  funext r
  unfold sG
  by_cases h1 : r = q
  · rw [if_pos h1, if_pos h1]
  · rw [if_neg h1, if_neg h1]
    by_cases h2 : r = p
    · rw [if_pos h2, if_pos h2, if_neg h1]
    · rw [if_neg h2, if_neg h2, if_neg h1]
      rw [if_neg h2]
theorem upd_upd (f : Nat → Int32) (k : Nat) (v w : Int32) : upd (upd f k v) k w = upd f k w := by
  funext j
  unfold upd
  split <;> rfl
def AM (G : Gt) (tr : Nat → Int32) (t : Nat) : Gt := sG (sG G 42 tr) 26 (upd (G 26) 20 (nI t))
def AX (G : Gt) (tr : Nat → Int32) (t : Nat) : Gt := sG (sG G 25 tr) 24 (upd (G 24) 2 (nI t))
theorem c_began {X : Xt} {b : Int32} {G : Gt} {tr : Nat → Int32} {t : Nat} {Q : Qt} (ht : t < 16) (K : Q none (AM G (upd tr t b) (t + 1))) : con X m_Mo_began [.ref 26, .int b] (AM G tr t) Q := by
  have e1 : AM G tr t 26 20 = nI t := rfl
  have e2 : AM G tr t 42 = tr := rfl
  refine con_rn 60 [] (by decide) rfl ?_
  refine bi (fun h => ?_) (fun h => ?_)
  · exfalso
    rw [e1, show (16 : Int32) = nI 16 from rfl] at h
    simp (disch := omega) only [nI_1, nI_add, nI_clamp, nI_leI, nI_ltI, nI_eq, nI_toInt] at h
    omega
  · refine vi (by rw [e1]; exact vp_in_nI ht (by omega)) ?_
    refine Qg K ?_
    rw [e1, e2, nI_clamp (by omega)]
    unfold AM
    show sG (sG (sG (sG G 42 tr) 26 _) 42 _) 26 _ = _
    rw [sG_4]
    congr 1
    show upd (upd (G 26) 20 (nI t)) 20 (nI t + 1) = _
    rw [upd_upd, nI_1]
theorem c_begin {X : Xt} {b : Int32} {G : Gt} {tr : Nat → Int32} {t : Nat} {Q : Qt} (ht : t < 16) (K : Q none (AX G (upd tr t b) (t + 1))) : con X m_Asks_begin [.ref 24, .int b] (AX G tr t) Q := by
  have e1 : AX G tr t 24 2 = nI t := rfl
  have e2 : AX G tr t 25 = tr := rfl
  refine con_rn 60 [] (by decide) rfl ?_
  refine bi (fun h => ?_) (fun h => ?_)
  · exfalso
    rw [e1, show (16 : Int32) = nI 16 from rfl] at h
    simp (disch := omega) only [nI_1, nI_add, nI_clamp, nI_leI, nI_ltI, nI_eq, nI_toInt] at h
    omega
  · refine vi (by rw [e1]; exact vp_in_nI ht (by omega)) ?_
    refine Qg K ?_
    rw [e1, e2, nI_clamp (by omega)]
    unfold AX
    show sG (sG (sG (sG G 25 tr) 24 _) 25 _) 24 _ = _
    rw [sG_4]
    congr 1
    show upd (upd (G 24) 2 (nI t)) 2 (nI t + 1) = _
    rw [upd_upd, nI_1]
theorem c_plainWorth {X : Xt} {k : Int32} {G : Gt} {tr : Nat → Int32} {t : Nat} {Q : Qt} (hk : vp_in k 6) (ht : t < 16) (K : Q (some (.int (G 31 k.toNatClampNeg))) (AM G (upd tr t 10) (t + 1))) : con X m_Mo_plainWorth [.ref 26, .int k] (AM G tr t) Q := by
  refine con_rn 60 [] (by decide) rfl ?_
  repeat' first | refine bib (fun h => ?_) (fun h => ?_) | refine bjb (fun h => ?_) (fun h => ?_) | refine bi (fun h => ?_) (fun h => ?_) | refine bj (fun h => ?_) (fun h => ?_) | refine vi (inI (by decide) (by decide)) ?_ | refine vi ?_ ?_ | refine zi (by decide) ?_ | refine zi ?_ ?_ | refine ni rfl ?_ | refine ni (bI_nar _) ?_ | refine (c_began ht) ?_
  · exact hk
  · exact K
set_option maxRecDepth 4000 in
theorem c_McoverMark {X : Xt} {k d : Int32} {G : Gt} {tr : Nat → Int32} {t : Nat} {Q : Qt} (hk : vp_in k 6) (ht : t + 2 < 16) (K : Q (some (.int (G 32 k.toNatClampNeg / 10 + (if d = 2 then 1000 else 0)))) (if d = 2 then AM G (upd (upd (upd tr t 22) (t + 1) 21) (t + 2) 20) (t + 3) else AM G (upd (upd tr t 21) (t + 1) 20) (t + 2))) : con X m_Mo_coverMark [.ref 26, .int k, .int d] (AM G tr t) Q := by
  by_cases hd : d = 2
  · subst hd
    rw [if_pos rfl, if_pos rfl] at K
    refine con_rn 60 [] (by decide) rfl ?_
    repeat' first | refine bib (fun h => ?_) (fun h => ?_) | refine bjb (fun h => ?_) (fun h => ?_) | refine bi (fun h => ?_) (fun h => ?_) | refine bj (fun h => ?_) (fun h => ?_) | refine vi (inI (by decide) (by decide)) ?_ | refine vi ?_ ?_ | refine zi (by decide) ?_ | refine zi ?_ ?_ | refine ni rfl ?_ | refine ni (bI_nar _) ?_ | refine (c_began (by omega)) ?_
    all_goals first | (exfalso; exact (by assumption : ¬ (2 : Int32) = 2) rfl) | exact hk | exact K
  · rw [if_neg hd, if_neg hd] at K
    refine con_rn 60 [] (by decide) rfl ?_
    repeat' first | refine bib (fun h => ?_) (fun h => ?_) | refine bjb (fun h => ?_) (fun h => ?_) | refine bi (fun h => ?_) (fun h => ?_) | refine bj (fun h => ?_) (fun h => ?_) | refine vi (inI (by decide) (by decide)) ?_ | refine vi ?_ ?_ | refine zi (by decide) ?_ | refine zi ?_ ?_ | refine ni rfl ?_ | refine ni (bI_nar _) ?_ | refine (c_began (by omega)) ?_
    all_goals first | (exfalso; exact hd (by assumption)) | exact hk | exact K
theorem c_lentWorth {X : Xt} {k : Int32} {G : Gt} {tr : Nat → Int32} {t : Nat} {Q : Qt} (hk : vp_in k 6) (ht : t < 16) (K : Q (some (.int (G 7 k.toNatClampNeg))) (AX G (upd tr t 10) (t + 1))) : con X m_Asks_lentWorth [.ref 24, .int k] (AX G tr t) Q := by
  refine con_rn 60 [] (by decide) rfl ?_
  repeat' first | refine bib (fun h => ?_) (fun h => ?_) | refine bjb (fun h => ?_) (fun h => ?_) | refine bi (fun h => ?_) (fun h => ?_) | refine bj (fun h => ?_) (fun h => ?_) | refine vi (inI (by decide) (by decide)) ?_ | refine vi ?_ ?_ | refine zi (by decide) ?_ | refine zi ?_ ?_ | refine ni rfl ?_ | refine ni (bI_nar _) ?_ | refine (c_begin ht) ?_ | refine (c_thickOf hk) ?_
  exact K
theorem c_lentMark {X : Xt} {k : Int32} {G : Gt} {tr : Nat → Int32} {t : Nat} {Q : Qt} (hk : vp_in k 6) (ht : t < 16) (K : Q (some (.int (G 8 k.toNatClampNeg))) (AX G (upd tr t 20) (t + 1))) : con X m_Asks_lentMark [.ref 24, .int k] (AX G tr t) Q := by
  refine con_rn 60 [] (by decide) rfl ?_
  repeat' first | refine bib (fun h => ?_) (fun h => ?_) | refine bjb (fun h => ?_) (fun h => ?_) | refine bi (fun h => ?_) (fun h => ?_) | refine bj (fun h => ?_) (fun h => ?_) | refine vi (inI (by decide) (by decide)) ?_ | refine vi ?_ ?_ | refine zi (by decide) ?_ | refine zi ?_ ?_ | refine ni rfl ?_ | refine ni (bI_nar _) ?_ | refine (c_begin ht) ?_ | refine (c_weightOf hk) ?_
  exact K
theorem c_coverWorth {X : Xt} {k : Int32} {G : Gt} {tr : Nat → Int32} {t : Nat} {Q : Qt} (hk : vp_in k 6) (ht : t + 1 < 16) (K : Q (some (.int (G 7 k.toNatClampNeg + G 6 2))) (AX G (upd (upd tr t 11) (t + 1) 10) (t + 2))) : con X m_Asks_coverWorth [.ref 24, .int k] (AX G tr t) Q := by
  refine con_rn 60 [] (by decide) rfl ?_
  repeat' first | refine bib (fun h => ?_) (fun h => ?_) | refine bjb (fun h => ?_) (fun h => ?_) | refine bi (fun h => ?_) (fun h => ?_) | refine bj (fun h => ?_) (fun h => ?_) | refine vi (inI (by decide) (by decide)) ?_ | refine vi ?_ ?_ | refine zi (by decide) ?_ | refine zi ?_ ?_ | refine ni rfl ?_ | refine ni (bI_nar _) ?_ | refine (c_begin (by omega)) ?_ | refine (c_lentWorth hk (by omega)) ?_ | refine (c_measure (by decide)) ?_
  exact K
theorem c_coverMark {X : Xt} {k : Int32} {G : Gt} {tr : Nat → Int32} {t : Nat} {Q : Qt} (hk : vp_in k 6) (ht : t + 1 < 16) (K : Q (some (.int (G 8 k.toNatClampNeg / 10))) (AX G (upd (upd tr t 21) (t + 1) 20) (t + 2))) : con X m_Asks_coverMark [.ref 24, .int k] (AX G tr t) Q := by
  refine con_rn 60 [] (by decide) rfl ?_
  repeat' first | refine bib (fun h => ?_) (fun h => ?_) | refine bjb (fun h => ?_) (fun h => ?_) | refine bi (fun h => ?_) (fun h => ?_) | refine bj (fun h => ?_) (fun h => ?_) | refine vi (inI (by decide) (by decide)) ?_ | refine vi ?_ ?_ | refine zi (by decide) ?_ | refine zi ?_ ?_ | refine ni rfl ?_ | refine ni (bI_nar _) ?_ | refine (c_begin (by omega)) ?_ | refine (c_lentMark hk (by omega)) ?_
  exact K
theorem c_armourMark {X : Xt} {k : Int32} {G : Gt} {tr : Nat → Int32} {t : Nat} {Q : Qt} (hk : vp_in k 6) (ht : t + 2 < 16) (K : Q (some (.int (G 8 k.toNatClampNeg / 10 + 1000))) (AX G (upd (upd (upd tr t 22) (t + 1) 21) (t + 2) 20) (t + 3))) : con X m_Asks_armourMark [.ref 24, .int k] (AX G tr t) Q := by
  refine con_rn 60 [] (by decide) rfl ?_
  repeat' first | refine bib (fun h => ?_) (fun h => ?_) | refine bjb (fun h => ?_) (fun h => ?_) | refine bi (fun h => ?_) (fun h => ?_) | refine bj (fun h => ?_) (fun h => ?_) | refine vi (inI (by decide) (by decide)) ?_ | refine vi ?_ ?_ | refine zi (by decide) ?_ | refine zi ?_ ?_ | refine ni rfl ?_ | refine ni (bI_nar _) ?_ | refine (c_begin (by omega)) ?_ | refine (c_coverMark hk (by omega)) ?_
  exact K
theorem c_armourWorth {X : Xt} {k : Int32} {G : Gt} {tr : Nat → Int32} {t : Nat} {Q : Qt} (hk : vp_in k 6) (ht : t + 5 < 16) (K : Q (some (.int (G 7 k.toNatClampNeg + G 6 2 + (G 8 k.toNatClampNeg / 10 + 1000)))) (AX G (upd (upd (upd (upd (upd (upd tr t 12) (t + 1) 11) (t + 2) 10) (t + 3) 22) (t + 4) 21) (t + 5) 20) (t + 6))) : con X m_Asks_armourWorth [.ref 24, .int k] (AX G tr t) Q := by
  refine con_rn 60 [] (by decide) rfl ?_
  repeat' first | refine bib (fun h => ?_) (fun h => ?_) | refine bjb (fun h => ?_) (fun h => ?_) | refine bi (fun h => ?_) (fun h => ?_) | refine bj (fun h => ?_) (fun h => ?_) | refine vi (inI (by decide) (by decide)) ?_ | refine vi ?_ ?_ | refine zi (by decide) ?_ | refine zi ?_ ?_ | refine ni rfl ?_ | refine ni (bI_nar _) ?_ | refine (c_begin (by omega)) ?_ | refine (c_coverWorth hk (by omega)) ?_ | refine (c_armourMark hk (by omega)) ?_
  exact K
theorem c_looseWorth {X : Xt} {k : Int32} {G : Gt} {tr : Nat → Int32} {t : Nat} {Q : Qt} (hk : vp_in k 6) (ht : t + 2 < 16) (K : Q (some (.int (G 7 k.toNatClampNeg - G 8 k.toNatClampNeg))) (AX G (upd (upd (upd tr t 13) (t + 1) 10) (t + 2) 20) (t + 3))) : con X m_Asks_looseWorth [.ref 24, .int k] (AX G tr t) Q := by
  refine con_rn 60 [] (by decide) rfl ?_
  repeat' first | refine bib (fun h => ?_) (fun h => ?_) | refine bjb (fun h => ?_) (fun h => ?_) | refine bi (fun h => ?_) (fun h => ?_) | refine bj (fun h => ?_) (fun h => ?_) | refine vi (inI (by decide) (by decide)) ?_ | refine vi ?_ ?_ | refine zi (by decide) ?_ | refine zi ?_ ?_ | refine ni rfl ?_ | refine ni (bI_nar _) ?_ | refine (c_begin (by omega)) ?_ | refine (c_lentWorth hk (by omega)) ?_ | refine (c_lentMark hk (by omega)) ?_
  exact K
theorem c_underMark {X : Xt} {k : Int32} {G : Gt} {tr : Nat → Int32} {t : Nat} {Q : Qt} (hk : vp_in k 6) (ht : t + 2 < 16) (K : Q (some (.int (G 8 k.toNatClampNeg + G 7 k.toNatClampNeg))) (AX G (upd (upd (upd tr t 23) (t + 1) 20) (t + 2) 10) (t + 3))) : con X m_Asks_underMark [.ref 24, .int k] (AX G tr t) Q := by
  refine con_rn 60 [] (by decide) rfl ?_
  repeat' first | refine bib (fun h => ?_) (fun h => ?_) | refine bjb (fun h => ?_) (fun h => ?_) | refine bi (fun h => ?_) (fun h => ?_) | refine bj (fun h => ?_) (fun h => ?_) | refine vi (inI (by decide) (by decide)) ?_ | refine vi ?_ ?_ | refine zi (by decide) ?_ | refine zi ?_ ?_ | refine ni rfl ?_ | refine ni (bI_nar _) ?_ | refine (c_begin (by omega)) ?_ | refine (c_lentWorth hk (by omega)) ?_ | refine (c_lentMark hk (by omega)) ?_
  exact K
/-- what an ask gives: 0 worth, 1 mark, by the kind; and the row that it leaves -/
def aV (kd tk w sl : Int32) (wh : Bool) : Int32 := if wh then (if kd = 2 then tk + sl + (w / 10 + 1000) else if kd = 1 then tk + sl else if kd = 4 then tk - w else tk) else (if kd = 2 then w / 10 + 1000 else if kd = 1 then w / 10 else if kd = 3 then w + tk else w)
def aT (kd : Int32) (wh : Bool) (tr : Nat → Int32) : Nat → Int32 := if wh then (if kd = 2 then upd (upd (upd (upd (upd (upd tr 0 12) 1 11) 2 10) 3 22) 4 21) 5 20 else if kd = 1 then upd (upd tr 0 11) 1 10 else if kd = 4 then upd (upd (upd tr 0 13) 1 10) 2 20 else upd tr 0 10) else (if kd = 2 then upd (upd (upd tr 0 22) 1 21) 2 20 else if kd = 1 then upd (upd tr 0 21) 1 20 else if kd = 3 then upd (upd (upd tr 0 23) 1 20) 2 10 else upd tr 0 20)
def aN (kd : Int32) (wh : Bool) : Nat := if wh then (if kd = 2 then 6 else if kd = 1 then 2 else if kd = 4 then 3 else 1) else (if kd = 2 then 3 else if kd = 1 then 2 else if kd = 3 then 3 else 1)
theorem kS_rng (ly f : Int32) (w : Nat → Int32) (k : Int32) : kS ly f w k = 1 ∨ kS ly f w k = 2 ∨ kS ly f w k = 3 ∨ kS ly f w k = 4 := by
  unfold kS
  split <;> split <;> simp
theorem c_worth {X : Xt} {k : Int32} {G : Gt} {tr : Nat → Int32} {Q : Qt} (hl : lyOK (G 5 3)) (hk : 0 ≤ k ∧ k ≤ G 5 3 - 1) (K : Q (some (.int (aV (kS (G 5 3) (G 6 4) (G 8) k) (G 7 k.toNatClampNeg) (G 8 k.toNatClampNeg) (G 6 2) true))) (AX G (aT (kS (G 5 3) (G 6 4) (G 8) k) true tr) (aN (kS (G 5 3) (G 6 4) (G 8) k) true))) : con X m_Asks_worth [.ref 24, .int k] (AX G tr 0) Q := by
  obtain ⟨-, e2, e3, e4, -⟩ := lk_1 hl hk
  have hk6 : vp_in k 6 := inI (by omega) (by omega)
  refine con_rn 60 [] (by decide) rfl ?_
  repeat' first | refine bib (fun h => ?_) (fun h => ?_) | refine bjb (fun h => ?_) (fun h => ?_) | refine bi (fun h => ?_) (fun h => ?_) | refine bj (fun h => ?_) (fun h => ?_) | refine vi (inI (by decide) (by decide)) ?_ | refine vi ?_ ?_ | refine zi (by decide) ?_ | refine zi ?_ ?_ | refine ni rfl ?_ | refine ni (bI_nar _) ?_ | refine (c_kindOf (G := AX G tr 0) hl hk) ?_
  change rn X m_Asks_worth [] Q 56 8 _ [.int (kS (G 5 3) (G 6 4) (G 8) k)] (AX G tr 0)
  have hr := kS_rng (G 5 3) (G 6 4) (G 8) k
  generalize kS (G 5 3) (G 6 4) (G 8) k = kd at *
  refine ⟨fun h => ?_, fun h => ?_, fun h => ?_, fun h => ?_, fun h => ?_, trivial⟩
  · exfalso
    rcases hr with rfl | rfl | rfl | rfl <;> revert h <;> decide
  · subst h
    refine c_coverWorth hk6 (by omega) ?_
    exact K
  · subst h
    refine c_armourWorth hk6 (by omega) ?_
    exact K
  · subst h
    refine c_lentWorth hk6 (by omega) ?_
    exact K
  · subst h
    refine c_looseWorth hk6 (by omega) ?_
    exact K
theorem c_mark {X : Xt} {k : Int32} {G : Gt} {tr : Nat → Int32} {Q : Qt} (hl : lyOK (G 5 3)) (hk : 0 ≤ k ∧ k ≤ G 5 3 - 1) (K : Q (some (.int (aV (kS (G 5 3) (G 6 4) (G 8) k) (G 7 k.toNatClampNeg) (G 8 k.toNatClampNeg) (G 6 2) false))) (AX G (aT (kS (G 5 3) (G 6 4) (G 8) k) false tr) (aN (kS (G 5 3) (G 6 4) (G 8) k) false))) : con X m_Asks_mark [.ref 24, .int k] (AX G tr 0) Q := by
  obtain ⟨-, e2, e3, e4, -⟩ := lk_1 hl hk
  have hk6 : vp_in k 6 := inI (by omega) (by omega)
  refine con_rn 60 [] (by decide) rfl ?_
  repeat' first | refine bib (fun h => ?_) (fun h => ?_) | refine bjb (fun h => ?_) (fun h => ?_) | refine bi (fun h => ?_) (fun h => ?_) | refine bj (fun h => ?_) (fun h => ?_) | refine vi (inI (by decide) (by decide)) ?_ | refine vi ?_ ?_ | refine zi (by decide) ?_ | refine zi ?_ ?_ | refine ni rfl ?_ | refine ni (bI_nar _) ?_ | refine (c_kindOf (G := AX G tr 0) hl hk) ?_
  change rn X m_Asks_mark [] Q 56 8 _ [.int (kS (G 5 3) (G 6 4) (G 8) k)] (AX G tr 0)
  have hr := kS_rng (G 5 3) (G 6 4) (G 8) k
  generalize kS (G 5 3) (G 6 4) (G 8) k = kd at *
  refine ⟨fun h => ?_, fun h => ?_, fun h => ?_, fun h => ?_, trivial⟩
  · have h4 : kd = 4 := by
      rcases hr with rfl | rfl | rfl | rfl
      · exact absurd h (by decide)
      · exact absurd h (by decide)
      · exact absurd h (by decide)
      · rfl
    subst h4
    refine c_lentMark hk6 (by omega) ?_
    exact K
  · subst h
    refine c_coverMark hk6 (by omega) ?_
    exact K
  · subst h
    refine c_armourMark hk6 (by omega) ?_
    exact K
  · subst h
    refine c_underMark hk6 (by omega) ?_
    exact K
set_option maxRecDepth 4000 in
theorem c_worthOf {X : Xt} {k kd : Int32} {G : Gt} {tr : Nat → Int32} {Q : Qt} (hk6 : vp_in k 6) (hr : kd = 1 ∨ kd = 2 ∨ kd = 3 ∨ kd = 4) (K : Q (some (.int (aV kd (G 31 k.toNatClampNeg) (G 32 k.toNatClampNeg) (G 30 2) true))) (AM G (aT kd true tr) (aN kd true))) : con X m_Mo_worthOf [.ref 26, .int k, .int kd] (AM G tr 0) Q := by
  rcases hr with rfl | rfl | rfl | rfl
  · refine con_rn 80 [] (by decide) rfl ?_
    repeat' first | refine bib_t (by decide) ?_ | refine bib_f (by decide) ?_ | refine bjb_t (by decide) ?_ | refine bjb_f (by decide) ?_ | refine bi_t (by decide) ?_ | refine bi_f (by decide) ?_ | refine bj_t (by decide) ?_ | refine bj_f (by decide) ?_ | refine bib (fun h => ?_) (fun h => ?_) | refine bjb (fun h => ?_) (fun h => ?_) | refine bi (fun h => ?_) (fun h => ?_) | refine bj (fun h => ?_) (fun h => ?_) | refine vi (inI (by decide) (by decide)) ?_ | refine vi ?_ ?_ | refine zi (by decide) ?_ | refine zi ?_ ?_ | refine ni rfl ?_ | refine ni (bI_nar _) ?_ | refine (c_began (by omega)) ?_ | refine (c_plainWorth hk6 (by omega)) ?_ | refine (c_McoverMark hk6 (by omega)) ?_ | refine c_isOf ?_
    exact K
  · refine con_rn 80 [] (by decide) rfl ?_
    repeat' first | refine bib_t (by decide) ?_ | refine bib_f (by decide) ?_ | refine bjb_t (by decide) ?_ | refine bjb_f (by decide) ?_ | refine bi_t (by decide) ?_ | refine bi_f (by decide) ?_ | refine bj_t (by decide) ?_ | refine bj_f (by decide) ?_ | refine bib (fun h => ?_) (fun h => ?_) | refine bjb (fun h => ?_) (fun h => ?_) | refine bi (fun h => ?_) (fun h => ?_) | refine bj (fun h => ?_) (fun h => ?_) | refine vi (inI (by decide) (by decide)) ?_ | refine vi ?_ ?_ | refine zi (by decide) ?_ | refine zi ?_ ?_ | refine ni rfl ?_ | refine ni (bI_nar _) ?_ | refine (c_began (by omega)) ?_ | refine (c_plainWorth hk6 (by omega)) ?_ | refine (c_McoverMark hk6 (by omega)) ?_ | refine c_isOf ?_
    exact K
  · refine con_rn 80 [] (by decide) rfl ?_
    repeat' first | refine bib_t (by decide) ?_ | refine bib_f (by decide) ?_ | refine bjb_t (by decide) ?_ | refine bjb_f (by decide) ?_ | refine bi_t (by decide) ?_ | refine bi_f (by decide) ?_ | refine bj_t (by decide) ?_ | refine bj_f (by decide) ?_ | refine bib (fun h => ?_) (fun h => ?_) | refine bjb (fun h => ?_) (fun h => ?_) | refine bi (fun h => ?_) (fun h => ?_) | refine bj (fun h => ?_) (fun h => ?_) | refine vi (inI (by decide) (by decide)) ?_ | refine vi ?_ ?_ | refine zi (by decide) ?_ | refine zi ?_ ?_ | refine ni rfl ?_ | refine ni (bI_nar _) ?_ | refine (c_began (by omega)) ?_ | refine (c_plainWorth hk6 (by omega)) ?_ | refine (c_McoverMark hk6 (by omega)) ?_ | refine c_isOf ?_
    refine Qi K ?_
    simp [aV]
  · refine con_rn 80 [] (by decide) rfl ?_
    repeat' first | refine bib_t (by decide) ?_ | refine bib_f (by decide) ?_ | refine bjb_t (by decide) ?_ | refine bjb_f (by decide) ?_ | refine bi_t (by decide) ?_ | refine bi_f (by decide) ?_ | refine bj_t (by decide) ?_ | refine bj_f (by decide) ?_ | refine bib (fun h => ?_) (fun h => ?_) | refine bjb (fun h => ?_) (fun h => ?_) | refine bi (fun h => ?_) (fun h => ?_) | refine bj (fun h => ?_) (fun h => ?_) | refine vi (inI (by decide) (by decide)) ?_ | refine vi ?_ ?_ | refine zi (by decide) ?_ | refine zi ?_ ?_ | refine ni rfl ?_ | refine ni (bI_nar _) ?_ | refine (c_began (by omega)) ?_ | refine (c_plainWorth hk6 (by omega)) ?_ | refine (c_McoverMark hk6 (by omega)) ?_ | refine c_isOf ?_
    · exact hk6
    · exact K
set_option maxRecDepth 4000 in
theorem c_markOf {X : Xt} {k kd : Int32} {G : Gt} {tr : Nat → Int32} {Q : Qt} (hk6 : vp_in k 6) (hr : kd = 1 ∨ kd = 2 ∨ kd = 3 ∨ kd = 4) (K : Q (some (.int (aV kd (G 31 k.toNatClampNeg) (G 32 k.toNatClampNeg) (G 30 2) false))) (AM G (aT kd false tr) (aN kd false))) : con X m_Mo_markOf [.ref 26, .int k, .int kd] (AM G tr 0) Q := by
  rcases hr with rfl | rfl | rfl | rfl
  · refine con_rn 80 [] (by decide) rfl ?_
    repeat' first | refine bib_t (by decide) ?_ | refine bib_f (by decide) ?_ | refine bjb_t (by decide) ?_ | refine bjb_f (by decide) ?_ | refine bi_t (by decide) ?_ | refine bi_f (by decide) ?_ | refine bj_t (by decide) ?_ | refine bj_f (by decide) ?_ | refine bib (fun h => ?_) (fun h => ?_) | refine bjb (fun h => ?_) (fun h => ?_) | refine bi (fun h => ?_) (fun h => ?_) | refine bj (fun h => ?_) (fun h => ?_) | refine vi (inI (by decide) (by decide)) ?_ | refine vi ?_ ?_ | refine zi (by decide) ?_ | refine zi ?_ ?_ | refine ni rfl ?_ | refine ni (bI_nar _) ?_ | refine (c_began (by omega)) ?_ | refine (c_plainWorth hk6 (by omega)) ?_ | refine (c_McoverMark hk6 (by omega)) ?_ | refine c_isOf ?_
    refine Qi K ?_
    simp [aV]
  · refine con_rn 80 [] (by decide) rfl ?_
    repeat' first | refine bib_t (by decide) ?_ | refine bib_f (by decide) ?_ | refine bjb_t (by decide) ?_ | refine bjb_f (by decide) ?_ | refine bi_t (by decide) ?_ | refine bi_f (by decide) ?_ | refine bj_t (by decide) ?_ | refine bj_f (by decide) ?_ | refine bib (fun h => ?_) (fun h => ?_) | refine bjb (fun h => ?_) (fun h => ?_) | refine bi (fun h => ?_) (fun h => ?_) | refine bj (fun h => ?_) (fun h => ?_) | refine vi (inI (by decide) (by decide)) ?_ | refine vi ?_ ?_ | refine zi (by decide) ?_ | refine zi ?_ ?_ | refine ni rfl ?_ | refine ni (bI_nar _) ?_ | refine (c_began (by omega)) ?_ | refine (c_plainWorth hk6 (by omega)) ?_ | refine (c_McoverMark hk6 (by omega)) ?_ | refine c_isOf ?_
    exact K
  · refine con_rn 80 [] (by decide) rfl ?_
    repeat' first | refine bib_t (by decide) ?_ | refine bib_f (by decide) ?_ | refine bjb_t (by decide) ?_ | refine bjb_f (by decide) ?_ | refine bi_t (by decide) ?_ | refine bi_f (by decide) ?_ | refine bj_t (by decide) ?_ | refine bj_f (by decide) ?_ | refine bib (fun h => ?_) (fun h => ?_) | refine bjb (fun h => ?_) (fun h => ?_) | refine bi (fun h => ?_) (fun h => ?_) | refine bj (fun h => ?_) (fun h => ?_) | refine vi (inI (by decide) (by decide)) ?_ | refine vi ?_ ?_ | refine zi (by decide) ?_ | refine zi ?_ ?_ | refine ni rfl ?_ | refine ni (bI_nar _) ?_ | refine (c_began (by omega)) ?_ | refine (c_plainWorth hk6 (by omega)) ?_ | refine (c_McoverMark hk6 (by omega)) ?_ | refine c_isOf ?_
    · exact hk6
    · exact K
  · refine con_rn 80 [] (by decide) rfl ?_
    repeat' first | refine bib_t (by decide) ?_ | refine bib_f (by decide) ?_ | refine bjb_t (by decide) ?_ | refine bjb_f (by decide) ?_ | refine bi_t (by decide) ?_ | refine bi_f (by decide) ?_ | refine bj_t (by decide) ?_ | refine bj_f (by decide) ?_ | refine bib (fun h => ?_) (fun h => ?_) | refine bjb (fun h => ?_) (fun h => ?_) | refine bi (fun h => ?_) (fun h => ?_) | refine bj (fun h => ?_) (fun h => ?_) | refine vi (inI (by decide) (by decide)) ?_ | refine vi ?_ ?_ | refine zi (by decide) ?_ | refine zi ?_ ?_ | refine ni rfl ?_ | refine ni (bI_nar _) ?_ | refine (c_began (by omega)) ?_ | refine (c_plainWorth hk6 (by omega)) ?_ | refine (c_McoverMark hk6 (by omega)) ?_ | refine c_isOf ?_
    · exact hk6
    · refine Qi K ?_
      simp [aV]
      rfl
end
section
/-! what holds between both, and what a pair of calls must do -/
def IW (ly ly' : Int32) (ms ms' th th' w w' : Nat → Int32) : Prop := ly = ly' ∧ ms = ms' ∧ th = th' ∧ w = w' ∧ lyOK ly ∧ msOK ms ∧ (∀ j : Nat, (j : Int) < ly.toInt → (1 ≤ th j ∧ th j ≤ 10) ∧ 1 ≤ w j ∧ w j ≤ 60000)
def IT (tr tr' : Nat → Int32) (t t' : Int32) : Prop := tr = tr' ∧ t = t' ∧ 0 ≤ t ∧ t ≤ 16
def IS (it ln sz ln' mn' it' : Nat → Int32) : Prop := ∀ s : Nat, s < 8 → (sz s = -1 ∧ ln' s = -1) ∨ ((0 ≤ sz s ∧ sz s ≤ 100) ∧ (0 ≤ ln s ∧ ln s ≤ 2) ∧ ln' s = ln s ∧ mn' s = sz s ∧ ∀ k : Nat, (k : Int) < (sz s).toInt → it (100 * s + k) = it' (100 * s + k))
/-- how many of n places are taken -/
def cnt (f : Nat → Int32) : Nat → Nat
  | 0 => 0
  | n + 1 => cnt f n + (if f n = 0 then 0 else 1)
/-- the blocks: those of the places, none elsewhere -/
def IP (li : Nat → Int32) (n : Int32) (ro : Nat → Int32) : Prop := (∀ r p : Nat, r < 8 → p < 12 → (li (12 * r + p) = 0 ∨ li (12 * r + p) = 1)) ∧ (∀ r : Nat, r < 8 → 0 ≤ (ro r).toInt ∧ (ro r).toInt < 2 ^ (12 - r)) ∧ (∀ r p : Nat, r < 8 → p < 12 → (li (12 * r + p) = 1 ↔ (ro r).toInt.toNat.testBit p = true)) ∧ n = nI (cnt li 96)
def Inv (G : Gt) : Prop := IW (G 5 3) (G 26 6) (G 6) (G 30) (G 7) (G 31) (G 8) (G 32) ∧ IT (G 25) (G 42) (G 24 2) (G 26 20) ∧ IS (G 2) (G 3) (G 4) (G 27) (G 28) (G 29) ∧ IP (G 15) (G 14 3) (G 37) ∧ G 0 7 = G 26 1 ∧ G 26 0 = 0
theorem con_mono {X : Xt} {mi : Nat} {av : List Value} {G : Gt} {Q Q' : Qt} (h : con X mi av G Q) (hq : ∀ r G', Q r G' → Q' r G') : con X mi av G Q' := by
  intro E l sz
  refine MetFree.mono (h E l sz) (fun _ _ z => z) (fun _ _ _ _ _ z => z) ?_
  rintro a st o t - ⟨⟨⟨r, G', h1, h2, h3, h4⟩, h5⟩, h6⟩
  exact ⟨⟨⟨r, G', h1, h2, hq r G' h3, h4⟩, h5⟩, h6⟩
/-- a pair of calls: both answer alike, and the relation holds behind them -/
def pair (X : Xt) (mx mm : Nat) (as : List Value) (G : Gt) : Prop := con X mx (.ref 0 :: as) G (fun r1 G1 => ∃ v, r1 = some (.int v) ∧ con X mm (.ref 26 :: as) G1 (fun r2 G2 => r2 = some (.int v) ∧ Inv G2))
theorem pq {X : Xt} {mm : Nat} {as : List Value} {G1 : Gt} {v : Int32} (h : con X mm (.ref 26 :: as) G1 (fun r2 G2 => r2 = some (.int v) ∧ Inv G2)) : (fun (r1 : Option Value) (G1 : Gt) => ∃ v, r1 = some (.int v) ∧ con X mm (.ref 26 :: as) G1 (fun r2 G2 => r2 = some (.int v) ∧ Inv G2)) (some (.int v)) G1 := ⟨v, rfl, h⟩
/-- a public method of the model begins with thrown = 0 -/
noncomputable def pre0 (mi : Nat) (stops : List Nat) : Bool := match look (iT mi) 0, look (iT mi) 1, look (iT mi) 2 with
  | some (_, .aload_n k, 1, _), some (_, .iconst _, 2, _, _, v, _), some (_, .putfield _, 5, 9, 0, _) => decide (k = 0) && decide (v = 0) && !stops.contains 1 && !stops.contains 2 && !stops.contains 5
  | _, _, _ => false
set_option maxHeartbeats 2000000 in
theorem con_rm {X : Xt} {mi : Nat} {as : List Value} {G : Gt} {Q : Qt} (n : Nat) (stops : List Nat) (hlt : mi < 174) (hl : Nat.ble (lg_sl (.ref 26 :: as)).length (mL mi) = true) (hp : pre0 mi stops = true) (h0 : G 26 0 = 0) (h : rn X mi stops Q n 5 (lv_args 0 (.ref 26 :: as)) [] G) : con X mi (.ref 26 :: as) G Q := by
  refine con_rn (n + 3) stops hlt hl ?_
  unfold pre0 at hp
  split at hp
  · rename_i k z1 v z2 z3 z4 z5 z6 q1 q2 q3
    simp only [Bool.and_eq_true, Bool.not_eq_true', decide_eq_true_eq] at hp
    obtain ⟨⟨⟨⟨rfl, rfl⟩, h1⟩, h2⟩, h5⟩ := hp
    have step : ∀ k pc L st G, rn X mi stops Q (k + 1) pc L st G = (match look (iT mi) pc with
      | some (_, ins, nxt, a, b, v, w, ts) => stp X mi ins nxt a b v w ts L st G Q (fun pc L st G => match stops.contains pc with
        | true => wp X mi pc L st G Q
        | false => rn X mi stops Q k pc L st G)
      | none => False) := fun _ _ _ _ _ => rfl
    rw [step (n + 2), q1]
    show (match stops.contains 1 with
      | true => wp X mi 1 (lv_args 0 (.ref 26 :: as)) [.ref 26] G Q
      | false => rn X mi stops Q (n + 2) 1 (lv_args 0 (.ref 26 :: as)) [.ref 26] G)
    rw [h1]
    show rn X mi stops Q (n + 2) 1 (lv_args 0 (.ref 26 :: as)) [.ref 26] G
    rw [step (n + 1), q2]
    show (match stops.contains 2 with
      | true => wp X mi 2 (lv_args 0 (.ref 26 :: as)) [.int 0, .ref 26] G Q
      | false => rn X mi stops Q (n + 1) 2 (lv_args 0 (.ref 26 :: as)) [.int 0, .ref 26] G)
    rw [h2]
    show rn X mi stops Q (n + 1) 2 (lv_args 0 (.ref 26 :: as)) [.int 0, .ref 26] G
    rw [step n, q3]
    show (match stops.contains 5 with
      | true => wp X mi 5 (lv_args 0 (.ref 26 :: as)) [] (sG G 26 (upd (G 26) 0 0)) Q
      | false => rn X mi stops Q n 5 (lv_args 0 (.ref 26 :: as)) [] (sG G 26 (upd (G 26) 0 0)))
    rw [h5, T_id h0]
    exact h
  · cases hp
theorem p_status {X : Xt} {G : Gt} (hI : Inv G) : pair X m_SW_status m_Mo_status [] G := by
  obtain ⟨hW, hT, hS, hP, hs, h0⟩ := id hI
  refine con_rn 40 [] (by decide) rfl ?_
  repeat' first | refine bib (fun h => ?_) (fun h => ?_) | refine bjb (fun h => ?_) (fun h => ?_) | refine bi (fun h => ?_) (fun h => ?_) | refine bj (fun h => ?_) (fun h => ?_) | refine vi (inI (by decide) (by decide)) ?_ | refine vi ?_ ?_ | refine zi (by decide) ?_ | refine zi ?_ ?_ | refine ni rfl ?_ | refine ni (bI_nar _) ?_
  refine pq ?_
  refine con_rm 40 [] (by decide) rfl (by decide +kernel) h0 ?_
  repeat' first | refine bib (fun h => ?_) (fun h => ?_) | refine bjb (fun h => ?_) (fun h => ?_) | refine bi (fun h => ?_) (fun h => ?_) | refine bj (fun h => ?_) (fun h => ?_) | refine vi (inI (by decide) (by decide)) ?_ | refine vi ?_ ?_ | refine zi (by decide) ?_ | refine zi ?_ ?_ | refine ni rfl ?_ | refine ni (bI_nar _) ?_
  exact ⟨by rw [hs], hI⟩
theorem p_trace {X : Xt} {G : Gt} (hI : Inv G) {i : Int32} : pair X m_SW_trace m_Mo_trace [.int i] G := by
  obtain ⟨hW, ⟨t1, t2, t3, t4⟩, hS, hP, hs, h0⟩ := id hI
  have e0 : 0 ≤ (G 24 2).toInt := by simpa using le32.mp t3
  have e1 : (G 24 2).toInt ≤ 16 := by simpa using le32.mp t4
  have e2 : (G 24 2 - 1).toInt = (G 24 2).toInt - 1 := by
    rw [subI (by simp; omega) (by simp; omega)]; simp
  have hin : 0 ≤ i ∧ i ≤ G 24 2 - 1 → vp_in i 16 := fun h => inI (by simpa using le32.mp h.1) (by have := le32.mp h.2; omega)
  have key : ∀ {Q : Qt}, Q (some (.int (if 0 ≤ i ∧ i ≤ G 24 2 - 1 then G 25 i.toNatClampNeg else -1000000))) G → con X m_Asks_traced [.ref 24, .int i] G Q := by
    intro Q K
    refine con_rn 40 [] (by decide) rfl ?_
    repeat' first | refine bib (fun h => ?_) (fun h => ?_) | refine bjb (fun h => ?_) (fun h => ?_) | refine bi (fun h => ?_) (fun h => ?_) | refine bj (fun h => ?_) (fun h => ?_) | refine vi (inI (by decide) (by decide)) ?_ | refine vi ?_ ?_ | refine zi (by decide) ?_ | refine zi ?_ ?_ | refine ni rfl ?_ | refine ni (bI_nar _) ?_ | refine c_within ?_
    · rw [if_neg h] at K; exact K
    · exact hin h
    · rw [if_pos h] at K; exact K
  refine con_rn 40 [] (by decide) rfl ?_
  repeat' first | refine bib (fun h => ?_) (fun h => ?_) | refine bjb (fun h => ?_) (fun h => ?_) | refine bi (fun h => ?_) (fun h => ?_) | refine bj (fun h => ?_) (fun h => ?_) | refine vi (inI (by decide) (by decide)) ?_ | refine vi ?_ ?_ | refine zi (by decide) ?_ | refine zi ?_ ?_ | refine ni rfl ?_ | refine ni (bI_nar _) ?_ | refine key ?_
  refine pq ?_
  refine con_rm 40 [] (by decide) rfl (by decide +kernel) h0 ?_
  repeat' first | refine bib (fun h => ?_) (fun h => ?_) | refine bjb (fun h => ?_) (fun h => ?_) | refine bi (fun h => ?_) (fun h => ?_) | refine bj (fun h => ?_) (fun h => ?_) | refine vi (inI (by decide) (by decide)) ?_ | refine vi ?_ ?_ | refine zi (by decide) ?_ | refine zi ?_ ?_ | refine ni rfl ?_ | refine ni (bI_nar _) ?_ | refine (c_in 0 _ rfl rfl) ?_
  · exact ⟨by rw [t2, if_neg h], hI⟩
  · exact hin (t2 ▸ h)
  · exact ⟨by rw [t2, if_pos h, t1], hI⟩
theorem p_kind {X : Xt} {G : Gt} (hI : Inv G) {k : Int32} : pair X m_SW_kind m_Mo_kind [.int k] G := by
  obtain ⟨⟨w1, w2, w3, w4, w5, w6, w7⟩, hT, hS, hP, hs, h0⟩ := id hI
  refine con_rn 40 [] (by decide) rfl ?_
  repeat' first | refine bib (fun h => ?_) (fun h => ?_) | refine bjb (fun h => ?_) (fun h => ?_) | refine bi (fun h => ?_) (fun h => ?_) | refine bj (fun h => ?_) (fun h => ?_) | refine vi (inI (by decide) (by decide)) ?_ | refine vi ?_ ?_ | refine zi (by decide) ?_ | refine zi ?_ ?_ | refine ni rfl ?_ | refine ni (bI_nar _) ?_ | refine c_hasLayer ?_ | refine (c_kindOf w5 (by assumption)) ?_
  all_goals refine pq ?_
  · refine con_rm 40 [] (by decide) rfl (by decide +kernel) h0 ?_
    repeat' first | refine bib (fun h => ?_) (fun h => ?_) | refine bjb (fun h => ?_) (fun h => ?_) | refine bi (fun h => ?_) (fun h => ?_) | refine bj (fun h => ?_) (fun h => ?_) | refine vi (inI (by decide) (by decide)) ?_ | refine vi ?_ ?_ | refine zi (by decide) ?_ | refine zi ?_ ?_ | refine ni rfl ?_ | refine ni (bI_nar _) ?_ | refine c_isLayer ?_ | refine (c_MkindOf (w1 ▸ w5) (by assumption)) ?_
    · rename_i h1; exact absurd (w1 ▸ h1) h
    · exact ⟨by rw [w1, w2, w4], hI⟩
  · refine con_rm 40 [] (by decide) rfl (by decide +kernel) h0 ?_
    repeat' first | refine bib (fun h => ?_) (fun h => ?_) | refine bjb (fun h => ?_) (fun h => ?_) | refine bi (fun h => ?_) (fun h => ?_) | refine bj (fun h => ?_) (fun h => ?_) | refine vi (inI (by decide) (by decide)) ?_ | refine vi ?_ ?_ | refine zi (by decide) ?_ | refine zi ?_ ?_ | refine ni rfl ?_ | refine ni (bI_nar _) ?_ | refine c_isLayer ?_ | refine (c_MkindOf (w1 ▸ w5) (by assumption)) ?_
    · exact ⟨rfl, hI⟩
    · rename_i h1; exact absurd (w1 ▸ h) h1
/-- status, put on both sides alike -/
theorem Inv_st {G : Gt} (hI : Inv G) (v : Int32) : Inv (sG (sG G 0 (upd (G 0) 7 v)) 26 (upd (G 26) 1 v)) := by
  obtain ⟨hW, hT, hS, hP, hs, h0⟩ := hI
  exact ⟨hW, hT, hS, hP, rfl, h0⟩
end
section
/-! the calls of the wall, pair by pair -/
theorem kin {ly k : Int32} (h : lyOK ly) (hk : 0 ≤ k ∧ k ≤ ly - 1) : vp_in k 6 := by
  obtain ⟨-, e2, e3, e4, -⟩ := lk_1 h hk
  exact inI (by omega) (by omega)
theorem c_SW_relay {X : Xt} {k t w : Int32} {G : Gt} {Q : Qt} (hl : lyOK (G 5 3)) (K1 : ¬ ((0 ≤ k ∧ k ≤ G 5 3 - 1) ∧ (1 ≤ t ∧ t ≤ 10) ∧ 1 ≤ w ∧ w ≤ 60000) → Q (some (.int (-1000001))) G) (K2 : (0 ≤ k ∧ k ≤ G 5 3 - 1) ∧ (1 ≤ t ∧ t ≤ 10) ∧ 1 ≤ w ∧ w ≤ 60000 → Q (some (.int 1)) (sG (sG G 7 (upd (G 7) k.toNatClampNeg t)) 8 (upd (G 8) k.toNatClampNeg w))) : con X m_SW_relay [.ref 0, .int k, .int t, .int w] G Q := by
  refine con_rn 60 [] (by decide) rfl ?_
  repeat' first | refine bib (fun h => ?_) (fun h => ?_) | refine bjb (fun h => ?_) (fun h => ?_) | refine bi (fun h => ?_) (fun h => ?_) | refine bj (fun h => ?_) (fun h => ?_) | refine vi (inI (by decide) (by decide)) ?_ | refine vi ?_ ?_ | refine zi (by decide) ?_ | refine zi ?_ ?_ | refine ni rfl ?_ | refine ni (bI_nar _) ?_ | refine c_hasLayer ?_ | refine c_mayBeLayer ?_ | refine (c_putLayer (kin hl (by assumption))) ?_
  · exact K1 (fun z => h z.1)
  · rename_i h1; exact K2 ⟨h1, h⟩
  · exact K1 (fun z => h z.2)
theorem c_Mo_relay {X : Xt} {k t w ly : Int32} {G : Gt} {Q : Qt} (h0 : G 26 0 = 0) (e1 : G 26 6 = ly) (hl : lyOK ly) (K1 : ¬ ((0 ≤ k ∧ k ≤ ly - 1) ∧ (1 ≤ t ∧ t ≤ 10) ∧ 1 ≤ w ∧ w ≤ 60000) → Q (some (.int (-1000001))) G) (K2 : (0 ≤ k ∧ k ≤ ly - 1) ∧ (1 ≤ t ∧ t ≤ 10) ∧ 1 ≤ w ∧ w ≤ 60000 → Q (some (.int 1)) (sG (sG G 31 (upd (G 31) k.toNatClampNeg t)) 32 (upd (G 32) k.toNatClampNeg w))) : con X m_Mo_relay [.ref 26, .int k, .int t, .int w] G Q := by
  subst e1
  refine con_rm 60 [] (by decide) rfl (by decide +kernel) h0 ?_
  repeat' first | refine bib (fun h => ?_) (fun h => ?_) | refine bjb (fun h => ?_) (fun h => ?_) | refine bi (fun h => ?_) (fun h => ?_) | refine bj (fun h => ?_) (fun h => ?_) | refine vi (inI (by decide) (by decide)) ?_ | refine vi ?_ ?_ | refine zi (by decide) ?_ | refine zi ?_ ?_ | refine ni rfl ?_ | refine ni (bI_nar _) ?_ | refine c_isLayer ?_ | refine c_isLaid ?_
  · exact K1 (fun z => h z.1)
  · rename_i h1; exact kin hl h1
  · rename_i h1; exact kin hl h1
  · rename_i h1; exact K2 ⟨h1, h⟩
  · exact K1 (fun z => h z.2)
theorem upd_rng {P : Int32 → Prop} {f : Nat → Int32} {k j : Nat} {v : Int32} (hf : j ≠ k → P (f j)) (hv : P v) : P (upd f k v j) := by
  unfold upd
  split
  · exact hv
  · rename_i h; exact hf h
theorem p_relay {X : Xt} {G : Gt} (hI : Inv G) {k t w : Int32} : pair X m_SW_relay m_Mo_relay [.int k, .int t, .int w] G := by
  obtain ⟨⟨w1, w2, w3, w4, w5, w6, w7⟩, hT, hS, hP, hs, h0⟩ := id hI
  refine c_SW_relay w5 (fun h => pq ?_) (fun h => pq ?_)
  · exact c_Mo_relay h0 w1.symm w5 (fun _ => ⟨rfl, hI⟩) (fun z => absurd z h)
  · refine c_Mo_relay h0 w1.symm w5 (fun z => absurd h z) (fun _ => ⟨rfl, ?_⟩)
    refine ⟨⟨w1, w2, ?_, ?_, w5, w6, fun j hj => ⟨?_, ?_⟩⟩, hT, hS, hP, hs, h0⟩
    · show upd (G 7) _ _ = upd (G 31) _ _
      rw [w3]
    · show upd (G 8) _ _ = upd (G 32) _ _
      rw [w4]
    · exact upd_rng (P := fun v => 1 ≤ v ∧ v ≤ 10) (fun _ => (w7 j hj).1) h.2.1
    · exact upd_rng (P := fun v => 1 ≤ v ∧ v ≤ 60000) (fun _ => (w7 j hj).2) h.2.2
theorem c_SW_layer {X : Xt} {t w : Int32} {G : Gt} {Q : Qt} (hl : lyOK (G 5 3)) (K1 : ¬ ((1 ≤ t ∧ t ≤ 10) ∧ 1 ≤ w ∧ w ≤ 60000) → Q (some (.int (-1000001))) G) (K2 : (1 ≤ t ∧ t ≤ 10) ∧ 1 ≤ w ∧ w ≤ 60000 → 6 ≤ G 5 3 → Q (some (.int (-1000003))) G) (K3 : (1 ≤ t ∧ t ≤ 10) ∧ 1 ≤ w ∧ w ≤ 60000 → ¬ 6 ≤ G 5 3 → Q (some (.int (G 5 3))) (sG (sG (sG G 5 (upd (G 5) 3 (G 5 3 + 1))) 7 (upd (G 7) (G 5 3).toNatClampNeg t)) 8 (upd (G 8) (G 5 3).toNatClampNeg w))) : con X m_SW_layer [.ref 0, .int t, .int w] G Q := by
  have hv : ¬ 6 ≤ G 5 3 → vp_in (G 5 3) 6 := fun h => inI (ly_1 hl).2.1 (by have := lt32.mp (Int32.not_le.mp h); simpa using this)
  refine con_rn 60 [] (by decide) rfl ?_
  repeat' first | refine bib (fun h => ?_) (fun h => ?_) | refine bjb (fun h => ?_) (fun h => ?_) | refine bi (fun h => ?_) (fun h => ?_) | refine bj (fun h => ?_) (fun h => ?_) | refine vi (inI (by decide) (by decide)) ?_ | refine vi ?_ ?_ | refine zi (by decide) ?_ | refine zi ?_ ?_ | refine ni rfl ?_ | refine ni (bI_nar _) ?_ | refine c_mayBeLayer ?_ | refine c_isFull ?_ | refine (c_addLayer (hv (by assumption))) ?_
  · rename_i h1; exact K3 h1 h
  · rename_i h1; exact K2 h1 h
  · exact K1 h
theorem c_Mo_layer {X : Xt} {t w ly : Int32} {G : Gt} {Q : Qt} (h0 : G 26 0 = 0) (e1 : G 26 6 = ly) (hl : lyOK ly) (K1 : ¬ ((1 ≤ t ∧ t ≤ 10) ∧ 1 ≤ w ∧ w ≤ 60000) → Q (some (.int (-1000001))) G) (K2 : (1 ≤ t ∧ t ≤ 10) ∧ 1 ≤ w ∧ w ≤ 60000 → 6 ≤ ly → Q (some (.int (-1000003))) G) (K3 : (1 ≤ t ∧ t ≤ 10) ∧ 1 ≤ w ∧ w ≤ 60000 → ¬ 6 ≤ ly → Q (some (.int ly)) (sG (sG (sG G 31 (upd (G 31) ly.toNatClampNeg t)) 32 (upd (G 32) ly.toNatClampNeg w)) 26 (upd (G 26) 6 (ly + 1)))) : con X m_Mo_layer [.ref 26, .int t, .int w] G Q := by
  have h6 : ly = 6 ↔ 6 ≤ ly := ⟨fun z => by rw [z]; exact Int32.le_refl _, fun z => Int32.le_antisymm hl.2 z⟩
  have hv : ¬ ly = 6 → vp_in ly 6 := fun h => inI (ly_1 hl).2.1 (by have := lt32.mp (Int32.not_le.mp (fun z => h (h6.mpr z))); simpa using this)
  subst e1
  refine con_rm 60 [] (by decide) rfl (by decide +kernel) h0 ?_
  repeat' first | refine bib (fun h => ?_) (fun h => ?_) | refine bjb (fun h => ?_) (fun h => ?_) | refine bi (fun h => ?_) (fun h => ?_) | refine bj (fun h => ?_) (fun h => ?_) | refine vi (inI (by decide) (by decide)) ?_ | refine vi ?_ ?_ | refine zi (by decide) ?_ | refine zi ?_ ?_ | refine ni rfl ?_ | refine ni (bI_nar _) ?_ | refine c_isLaid ?_
  · exact hv h
  · exact hv h
  · rename_i h1
    have e : G 26 6 + 1 - 1 = G 26 6 := by simp
    have K := K3 h1 (fun z => h (h6.mpr z))
    exact Qi K e
  · rename_i h1; exact K2 h1 (h6.mp h)
  · exact K1 h
theorem p_layer {X : Xt} {G : Gt} (hI : Inv G) {t w : Int32} : pair X m_SW_layer m_Mo_layer [.int t, .int w] G := by
  obtain ⟨⟨w1, w2, w3, w4, w5, w6, w7⟩, hT, hS, hP, hs, h0⟩ := id hI
  refine c_SW_layer w5 (fun h => pq ?_) (fun h h2 => pq ?_) (fun h h2 => pq ?_)
  · exact c_Mo_layer h0 w1.symm w5 (fun _ => ⟨rfl, hI⟩) (fun z => absurd z h) (fun z => absurd z h)
  · exact c_Mo_layer h0 w1.symm w5 (fun z => absurd h z) (fun _ _ => ⟨rfl, hI⟩) (fun _ z => absurd h2 z)
  · refine c_Mo_layer h0 w1.symm w5 (fun z => absurd h z) (fun _ z => absurd z h2) (fun _ _ => ⟨rfl, ?_⟩)
    have hlt : (G 5 3).toInt < 6 := by have := lt32.mp (Int32.not_le.mp h2); simpa using this
    have hly := (ly_1 w5).2.1
    have e1 : (G 5 3 + 1).toInt = (G 5 3).toInt + 1 := by
      rw [addI (by simp; omega) (by simp; omega)]; simp
    refine ⟨⟨rfl, w2, ?_, ?_, ⟨?_, ?_⟩, w6, fun j hj => ⟨?_, ?_⟩⟩, hT, hS, hP, hs, h0⟩
    · show upd (G 7) _ _ = upd (G 31) _ _
      rw [w3]
    · show upd (G 8) _ _ = upd (G 32) _ _
      rw [w4]
    · show 0 ≤ G 5 3 + 1
      rw [le32, e1]; simp; omega
    · show G 5 3 + 1 ≤ 6
      rw [le32, e1]; simp; omega
    · have hj : (j : Int) < (G 5 3 + 1).toInt := hj
      refine upd_rng (P := fun v => 1 ≤ v ∧ v ≤ 10) (fun hn => (w7 j ?_).1) h.1
      have : (G 5 3).toNatClampNeg = (G 5 3).toInt.toNat := rfl
      omega
    · have hj : (j : Int) < (G 5 3 + 1).toInt := hj
      refine upd_rng (P := fun v => 1 ≤ v ∧ v ≤ 60000) (fun hn => (w7 j ?_).2) h.2
      have : (G 5 3).toNatClampNeg = (G 5 3).toInt.toNat := rfl
      omega
end
section
/-! wall, told, wide, as, ask -/
def loW (w : Int32) : Int32 := if w = 4 then 2 else 1
def hiW (w : Int32) : Int32 := if w = 0 then 100 else if w = 1 then 50 else if w = 2 then 60 else if w = 3 then 1000 else 30
theorem five {w : Int32} (h : 0 ≤ w ∧ w ≤ 4) : w = 0 ∨ w = 1 ∨ w = 2 ∨ w = 3 ∨ w = 4 := by
  have h1 : 0 ≤ w.toInt := by simpa using le32.mp h.1
  have h2 : w.toInt ≤ 4 := by simpa using le32.mp h.2
  simp only [eq32]
  simp only [Int32.reduceToInt]
  omega
theorem c_SW_wall {X : Xt} {w v : Int32} {G : Gt} {Q : Qt} (K1 : ¬ ((0 ≤ w ∧ w ≤ 4) ∧ loW w ≤ v ∧ v ≤ hiW w) → Q (some (.int (-1000001))) G) (K2 : (0 ≤ w ∧ w ≤ 4) ∧ loW w ≤ v ∧ v ≤ hiW w → Q (some (.int (G 6 w.toNatClampNeg))) (sG G 6 (upd (G 6) w.toNatClampNeg v))) : con X m_SW_wall [.ref 0, .int w, .int v] G Q := by
  have e : 0 ≤ w ∧ w ≤ 4 → xF X 44 w.toNatClampNeg = loW w ∧ xF X 45 w.toNatClampNeg = hiW w := by
    intro h
    rcases five h with rfl | rfl | rfl | rfl | rfl <;> exact ⟨rfl, rfl⟩
  refine con_rn 60 [] (by decide) rfl ?_
  repeat' first | refine bib (fun h => ?_) (fun h => ?_) | refine bjb (fun h => ?_) (fun h => ?_) | refine bi (fun h => ?_) (fun h => ?_) | refine bj (fun h => ?_) (fun h => ?_) | refine vi (inI (by decide) (by decide)) ?_ | refine vi ?_ ?_ | refine zi (by decide) ?_ | refine zi ?_ ?_ | refine ni rfl ?_ | refine ni (bI_nar _) ?_ | refine c_isMeasure ?_ | refine (c_mayMeasure (by assumption)) ?_ | refine (c_change (by assumption)) ?_
  · exact K1 (fun z => h z.1)
  · rename_i h1
    rw [(e h1).1, (e h1).2] at h
    exact K2 ⟨h1, h⟩
  · rename_i h1
    rw [(e h1).1, (e h1).2] at h
    exact K1 (fun z => h z.2)
theorem c_Mo_wall {X : Xt} {w v : Int32} {G : Gt} {Q : Qt} (h0 : G 26 0 = 0) (K1 : ¬ ((0 ≤ w ∧ w ≤ 4) ∧ loW w ≤ v ∧ v ≤ hiW w) → Q (some (.int (-1000001))) G) (K2 : (0 ≤ w ∧ w ≤ 4) ∧ loW w ≤ v ∧ v ≤ hiW w → Q (some (.int (G 30 w.toNatClampNeg))) (sG G 30 (upd (G 30) w.toNatClampNeg v))) : con X m_Mo_wall [.ref 26, .int w, .int v] G Q := by
  by_cases hw : 0 ≤ w ∧ w ≤ 4
  · rcases five hw with rfl | rfl | rfl | rfl | rfl
    all_goals refine con_rm 80 [] (by decide) rfl (by decide +kernel) h0 ?_
    repeat' first | refine bib_t (by decide) ?_ | refine bib_f (by decide) ?_ | refine bjb_t (by decide) ?_ | refine bjb_f (by decide) ?_ | refine bi_t (by decide) ?_ | refine bi_f (by decide) ?_ | refine bj_t (by decide) ?_ | refine bj_f (by decide) ?_ | refine bib (fun h => ?_) (fun h => ?_) | refine bjb (fun h => ?_) (fun h => ?_) | refine bi (fun h => ?_) (fun h => ?_) | refine bj (fun h => ?_) (fun h => ?_) | refine vi (inI (by decide) (by decide)) ?_ | refine vi ?_ ?_ | refine zi (by decide) ?_ | refine zi ?_ ?_ | refine ni rfl ?_ | refine ni (bI_nar _) ?_ | refine (c_in 0 4 rfl rfl) ?_ | refine (c_in _ _ rfl rfl) ?_
    all_goals first | exact K2 ⟨hw, h⟩ | exact K1 (fun z => h z.2)
  · refine con_rm 80 [] (by decide) rfl (by decide +kernel) h0 ?_
    repeat' first | refine bib (fun h => ?_) (fun h => ?_) | refine bjb (fun h => ?_) (fun h => ?_) | refine bi (fun h => ?_) (fun h => ?_) | refine bj (fun h => ?_) (fun h => ?_) | refine vi (inI (by decide) (by decide)) ?_ | refine vi ?_ ?_ | refine zi (by decide) ?_ | refine zi ?_ ?_ | refine ni rfl ?_ | refine ni (bI_nar _) ?_ | refine (c_in 0 4 rfl rfl) ?_ | refine (c_in _ _ rfl rfl) ?_
    all_goals first | (exfalso; exact hw (by assumption)) | exact K1 (fun z => hw z.1)
theorem ms_put {ms : Nat → Int32} {w v : Int32} (h : msOK ms) (hv : (0 ≤ w ∧ w ≤ 4) ∧ loW w ≤ v ∧ v ≤ hiW w) : msOK (upd ms w.toNatClampNeg v) := by
  obtain ⟨a0, a1, a2, a3, a4⟩ := h
  obtain ⟨hw, hv⟩ := hv
  rcases five hw with rfl | rfl | rfl | rfl | rfl
  · exact ⟨hv, a1, a2, a3, a4⟩
  · exact ⟨a0, hv, a2, a3, a4⟩
  · exact ⟨a0, a1, hv, a3, a4⟩
  · exact ⟨a0, a1, a2, hv, a4⟩
  · exact ⟨a0, a1, a2, a3, hv⟩
theorem p_wall {X : Xt} {G : Gt} (hI : Inv G) {w v : Int32} : pair X m_SW_wall m_Mo_wall [.int w, .int v] G := by
  obtain ⟨⟨w1, w2, w3, w4, w5, w6, w7⟩, hT, hS, hP, hs, h0⟩ := id hI
  refine c_SW_wall (fun h => pq ?_) (fun h => pq ?_)
  · exact c_Mo_wall h0 (fun _ => ⟨rfl, hI⟩) (fun z => absurd z h)
  · refine c_Mo_wall h0 (fun z => absurd h z) (fun _ => ⟨?_, ?_⟩)
    · show some (Value.int (G 30 _)) = some (Value.int (G 6 _))
      rw [w2]
    · refine ⟨⟨w1, ?_, w3, w4, w5, ms_put w6 h, w7⟩, hT, hS, hP, hs, h0⟩
      show upd (G 6) _ _ = upd (G 30) _ _
      rw [w2]
theorem c_SW_wide {X : Xt} {k y : Int32} {G : Gt} {Q : Qt} (hl : lyOK (G 5 3)) (K1 : ¬ ((0 ≤ k ∧ k ≤ G 5 3) ∧ 0 ≤ y ∧ y ≤ G 6 0 - 1) → Q (some (.int (-1000001))) G) (K2 : (0 ≤ k ∧ k ≤ G 5 3) ∧ 0 ≤ y ∧ y ≤ G 6 0 - 1 → Q (some (.int (wS (G 6) (G 7) k.toNatClampNeg y))) G) : con X m_SW_wide [.ref 0, .int k, .int y] G Q := by
  have h6 : 0 ≤ k ∧ k ≤ G 5 3 → k ≤ 6 := fun h => Int32.le_trans h.2 hl.2
  refine con_rn 60 [] (by decide) rfl ?_
  repeat' first | refine bib (fun h => ?_) (fun h => ?_) | refine bjb (fun h => ?_) (fun h => ?_) | refine bi (fun h => ?_) (fun h => ?_) | refine bj (fun h => ?_) (fun h => ?_) | refine vi (inI (by decide) (by decide)) ?_ | refine vi ?_ ?_ | refine zi (by decide) ?_ | refine zi ?_ ?_ | refine ni rfl ?_ | refine ni (bI_nar _) ?_ | refine c_layers ?_ | refine c_within ?_ | refine (c_measure (by decide)) ?_ | refine (c_width (And.left (by assumption)) (h6 (by assumption))) ?_
  · exact K1 (fun z => h z.1)
  · rename_i h1; exact K2 ⟨h1, h⟩
  · exact K1 (fun z => h z.2)
theorem c_Mo_wide {X : Xt} {k y ly : Int32} {ms : Nat → Int32} {G : Gt} {Q : Qt} (h0 : G 26 0 = 0) (e1 : G 26 6 = ly) (e2 : G 30 = ms) (hl : lyOK ly) (K1 : ¬ ((0 ≤ k ∧ k ≤ ly) ∧ 0 ≤ y ∧ y ≤ ms 0 - 1) → Q (some (.int (-1000001))) G) (K2 : (0 ≤ k ∧ k ≤ ly) ∧ 0 ≤ y ∧ y ≤ ms 0 - 1 → Q (some (.int (wS ms (G 31) k.toNatClampNeg y))) G) : con X m_Mo_wide [.ref 26, .int k, .int y] G Q := by
  subst e1
  subst e2
  have h6 : 0 ≤ k ∧ k ≤ G 26 6 → k ≤ 6 := fun h => Int32.le_trans h.2 hl.2
  refine con_rm 60 [] (by decide) rfl (by decide +kernel) h0 ?_
  repeat' first | refine bib (fun h => ?_) (fun h => ?_) | refine bjb (fun h => ?_) (fun h => ?_) | refine bi (fun h => ?_) (fun h => ?_) | refine bj (fun h => ?_) (fun h => ?_) | refine vi (inI (by decide) (by decide)) ?_ | refine vi ?_ ?_ | refine zi (by decide) ?_ | refine zi ?_ ?_ | refine ni rfl ?_ | refine ni (bI_nar _) ?_ | refine (c_in 0 _ rfl rfl) ?_ | refine (c_wideOf (And.left (by assumption)) (h6 (by assumption))) ?_
  · exact K1 (fun z => h z.1)
  · rename_i h1; exact K2 ⟨h1, h⟩
  · exact K1 (fun z => h z.2)
theorem p_wide {X : Xt} {G : Gt} (hI : Inv G) {k y : Int32} : pair X m_SW_wide m_Mo_wide [.int k, .int y] G := by
  obtain ⟨⟨w1, w2, w3, w4, w5, w6, w7⟩, hT, hS, hP, hs, h0⟩ := id hI
  refine c_SW_wide w5 (fun h => pq ?_) (fun h => pq ?_)
  · exact c_Mo_wide h0 w1.symm w2.symm w5 (fun _ => ⟨rfl, hI⟩) (fun z => absurd z h)
  · refine c_Mo_wide h0 w1.symm w2.symm w5 (fun z => absurd h z) (fun _ => ⟨by rw [w3], hI⟩)
abbrev ofK (d a : Int32) : Prop := d = 0 ∨ d = a ∨ (d = 1 ∧ a = 2)
theorem c_SW_as {X : Xt} {k d : Int32} {G : Gt} {Q : Qt} (hl : lyOK (G 5 3)) (K1 : ¬ ((0 ≤ k ∧ k ≤ G 5 3 - 1) ∧ 0 ≤ d ∧ d ≤ 4) → Q (some (.int (-1000001))) G) (K2 : (0 ≤ k ∧ k ≤ G 5 3 - 1) ∧ 0 ≤ d ∧ d ≤ 4 → ofK d (kS (G 5 3) (G 6 4) (G 8) k) → Q (some (.int (G 8 k.toNatClampNeg))) (sG G 0 (upd (G 0) 7 0))) (K3 : (0 ≤ k ∧ k ≤ G 5 3 - 1) ∧ 0 ≤ d ∧ d ≤ 4 → ¬ ofK d (kS (G 5 3) (G 6 4) (G 8) k) → Q (some (.int (-1000013))) (sG G 0 (upd (G 0) 7 3))) : con X m_SW_as [.ref 0, .int k, .int d] G Q := by
  refine con_rn 60 [] (by decide) rfl ?_
  repeat' first | refine bib (fun h => ?_) (fun h => ?_) | refine bjb (fun h => ?_) (fun h => ?_) | refine bi (fun h => ?_) (fun h => ?_) | refine bj (fun h => ?_) (fun h => ?_) | refine vi (inI (by decide) (by decide)) ?_ | refine vi ?_ ?_ | refine zi (by decide) ?_ | refine zi ?_ ?_ | refine ni rfl ?_ | refine ni (bI_nar _) ?_ | refine c_hasLayer ?_ | refine c_within ?_ | refine (c_isOfKind hl (by assumption)) ?_ | refine (c_weightOf (kin hl (by assumption))) ?_ | refine c_found ?_ | refine c_fine ?_
  · exact K1 (fun z => h z.1)
  · rename_i h1 h2; exact K2 ⟨h1, h2⟩ h
  · rename_i h1 h2; exact K3 ⟨h1, h2⟩ h
  · exact K1 (fun z => h z.2)
theorem c_Mo_as {X : Xt} {k d ly : Int32} {ms w : Nat → Int32} {G : Gt} {Q : Qt} (h0 : G 26 0 = 0) (e1 : G 26 6 = ly) (e2 : G 30 = ms) (e3 : G 32 = w) (hl : lyOK ly) (K1 : ¬ ((0 ≤ k ∧ k ≤ ly - 1) ∧ 0 ≤ d ∧ d ≤ 4) → Q (some (.int (-1000001))) G) (K2 : (0 ≤ k ∧ k ≤ ly - 1) ∧ 0 ≤ d ∧ d ≤ 4 → ofK d (kS ly (ms 4) w k) → Q (some (.int (w k.toNatClampNeg))) (sG G 26 (upd (G 26) 1 0))) (K3 : (0 ≤ k ∧ k ≤ ly - 1) ∧ 0 ≤ d ∧ d ≤ 4 → ¬ ofK d (kS ly (ms 4) w k) → Q (some (.int (-1000013))) (sG (sG G 26 (upd (G 26) 1 0)) 26 (upd (upd (G 26) 1 0) 1 3))) : con X m_Mo_as [.ref 26, .int k, .int d] G Q := by
  subst e1
  subst e2
  subst e3
  refine con_rm 60 [] (by decide) rfl (by decide +kernel) h0 ?_
  repeat' first | refine bib (fun h => ?_) (fun h => ?_) | refine bjb (fun h => ?_) (fun h => ?_) | refine bi (fun h => ?_) (fun h => ?_) | refine bj (fun h => ?_) (fun h => ?_) | refine vi (inI (by decide) (by decide)) ?_ | refine vi ?_ ?_ | refine zi (by decide) ?_ | refine zi ?_ ?_ | refine ni rfl ?_ | refine ni (bI_nar _) ?_ | refine c_isLayer ?_ | refine (c_in 0 4 rfl rfl) ?_ | refine (c_MkindOf (G := sG G 26 (upd (G 26) 1 0)) hl (by assumption)) ?_ | refine c_isOf ?_ | refine c_Mfound ?_
  · exact K1 (fun z => h z.1)
  · rename_i h1 h2; exact K3 ⟨h1, h2⟩ h
  · rename_i h1 h2; exact kin hl h1
  · rename_i h1 h2; exact K2 ⟨h1, h2⟩ h
  · exact K1 (fun z => h z.2)
theorem p_as {X : Xt} {G : Gt} (hI : Inv G) {k d : Int32} : pair X m_SW_as m_Mo_as [.int k, .int d] G := by
  obtain ⟨⟨w1, w2, w3, w4, w5, w6, w7⟩, hT, hS, hP, hs, h0⟩ := id hI
  refine c_SW_as w5 (fun h => pq ?_) (fun h h2 => pq ?_) (fun h h2 => pq ?_)
  · exact c_Mo_as h0 w1.symm w2.symm w4.symm w5 (fun _ => ⟨rfl, hI⟩) (fun z => absurd z h) (fun z => absurd z h)
  · exact c_Mo_as h0 w1.symm w2.symm w4.symm w5 (fun z => absurd h z) (fun _ _ => ⟨rfl, ⟨⟨w1, w2, w3, w4, w5, w6, w7⟩, hT, hS, hP, rfl, h0⟩⟩) (fun _ z => absurd h2 z)
  · exact c_Mo_as h0 w1.symm w2.symm w4.symm w5 (fun z => absurd h z) (fun _ z => absurd z h2) (fun _ _ => ⟨rfl, ⟨⟨w1, w2, w3, w4, w5, w6, w7⟩, hT, hS, hP, rfl, h0⟩⟩)
theorem AX_0 (G : Gt) : sG G 24 (upd (G 24) 2 0) = AX G (G 25) 0 := by
  unfold AX
  rw [sG_id]
  rfl
theorem AM_0 (G : Gt) : sG G 26 (upd (G 26) 20 0) = AM G (G 42) 0 := by
  unfold AM
  rw [sG_id]
  rfl
theorem c_forget {X : Xt} {G : Gt} {Q : Qt} (K : Q none (AX G (G 25) 0)) : con X m_Asks_forget [.ref 24] G Q := by
  refine con_rn 40 [] (by decide) rfl ?_
  rw [← AX_0] at K
  exact K
theorem c_SW_ask {X : Xt} {k a : Int32} {G : Gt} {Q : Qt} (hl : lyOK (G 5 3)) (K1 : ¬ ((0 ≤ k ∧ k ≤ G 5 3 - 1) ∧ 0 ≤ a ∧ a ≤ 1) → Q (some (.int (-1000001))) G) (K2 : (0 ≤ k ∧ k ≤ G 5 3 - 1) ∧ 0 ≤ a ∧ a ≤ 1 → Q (some (.int (aV (kS (G 5 3) (G 6 4) (G 8) k) (G 7 k.toNatClampNeg) (G 8 k.toNatClampNeg) (G 6 2) (decide (a = 0))))) (AX G (aT (kS (G 5 3) (G 6 4) (G 8) k) (decide (a = 0)) (G 25)) (aN (kS (G 5 3) (G 6 4) (G 8) k) (decide (a = 0))))) : con X m_SW_ask [.ref 0, .int k, .int a] G Q := by
  refine con_rn 60 [] (by decide) rfl ?_
  repeat' first | refine bib (fun h => ?_) (fun h => ?_) | refine bjb (fun h => ?_) (fun h => ?_) | refine bi (fun h => ?_) (fun h => ?_) | refine bj (fun h => ?_) (fun h => ?_) | refine vi (inI (by decide) (by decide)) ?_ | refine vi ?_ ?_ | refine zi (by decide) ?_ | refine zi ?_ ?_ | refine ni rfl ?_ | refine ni (bI_nar _) ?_ | refine c_hasLayer ?_ | refine c_within ?_ | refine c_forget ?_ | refine (c_worth hl (by assumption)) ?_ | refine (c_mark hl (by assumption)) ?_
  · exact K1 (fun z => h z.1)
  · rename_i h1 h2
    have K := K2 ⟨h1, h2⟩
    rw [decide_eq_false h] at K
    exact K
  · rename_i h1 h2
    have K := K2 ⟨h1, h2⟩
    rw [decide_eq_true h] at K
    exact K
  · exact K1 (fun z => h z.2)
end
section
/-! ask, told, volume -/
theorem c_Mo_ask {X : Xt} {k a ly : Int32} {ms w : Nat → Int32} {G : Gt} {Q : Qt} (h0 : G 26 0 = 0) (e1 : G 26 6 = ly) (e2 : G 30 = ms) (e3 : G 32 = w) (hl : lyOK ly) (K1 : ¬ ((0 ≤ k ∧ k ≤ ly - 1) ∧ 0 ≤ a ∧ a ≤ 1) → Q (some (.int (-1000001))) G) (K2 : (0 ≤ k ∧ k ≤ ly - 1) ∧ 0 ≤ a ∧ a ≤ 1 → Q (some (.int (aV (kS ly (ms 4) w k) (G 31 k.toNatClampNeg) (w k.toNatClampNeg) (ms 2) (decide (a = 0))))) (AM G (aT (kS ly (ms 4) w k) (decide (a = 0)) (G 42)) (aN (kS ly (ms 4) w k) (decide (a = 0))))) : con X m_Mo_ask [.ref 26, .int k, .int a] G Q := by
  subst e1
  subst e2
  subst e3
  refine con_rm 60 [] (by decide) rfl (by decide +kernel) h0 ?_
  repeat' first | refine bib (fun h => ?_) (fun h => ?_) | refine bjb (fun h => ?_) (fun h => ?_) | refine bi (fun h => ?_) (fun h => ?_) | refine bj (fun h => ?_) (fun h => ?_) | refine vi (inI (by decide) (by decide)) ?_ | refine vi ?_ ?_ | refine zi (by decide) ?_ | refine zi ?_ ?_ | refine ni rfl ?_ | refine ni (bI_nar _) ?_ | refine c_isLayer ?_ | refine (c_in 0 1 rfl rfl) ?_
  · exact K1 (fun z => h z.1)
  · rename_i h1 h2
    rw [AM_0]
    refine c_MkindOf (G := AM G (G 42) 0) hl h1 ?_
    refine c_markOf (kin hl h1) (kS_rng _ _ _ _) ?_
    have K := K2 ⟨h1, h2⟩
    rw [decide_eq_false h] at K
    exact K
  · rename_i h1 h2
    rw [AM_0]
    refine c_MkindOf (G := AM G (G 42) 0) hl h1 ?_
    refine c_worthOf (kin hl h1) (kS_rng _ _ _ _) ?_
    have K := K2 ⟨h1, h2⟩
    rw [decide_eq_true h] at K
    exact K
  · exact K1 (fun z => h z.2)
theorem aN_le (kd : Int32) (b : Bool) : aN kd b ≤ 6 := by
  unfold aN
  repeat' split
  all_goals omega
theorem p_ask {X : Xt} {G : Gt} (hI : Inv G) {k a : Int32} : pair X m_SW_ask m_Mo_ask [.int k, .int a] G := by
  obtain ⟨⟨w1, w2, w3, w4, w5, w6, w7⟩, ⟨t1, t2, t3, t4⟩, hS, hP, hs, h0⟩ := id hI
  refine c_SW_ask w5 (fun h => pq ?_) (fun h => pq ?_)
  · exact c_Mo_ask h0 w1.symm w2.symm w4.symm w5 (fun _ => ⟨rfl, hI⟩) (fun z => absurd z h)
  · refine c_Mo_ask (ly := G 5 3) (ms := G 6) (w := G 8) h0 w1.symm w2.symm w4.symm w5 (fun z => absurd h z) (fun _ => ⟨?_, ?_⟩)
    · show some (Value.int (aV _ (G 31 _) _ _ _)) = _
      rw [w3]
    · have hn := aN_le (kS (G 5 3) (G 6 4) (G 8) k) (decide (a = 0))
      refine ⟨⟨w1, w2, w3, w4, w5, w6, w7⟩, ⟨?_, rfl, ?_, ?_⟩, hS, hP, hs, h0⟩
      · show aT _ _ (G 25) = aT _ _ (G 42)
        rw [t1]
      · exact nI_pos' (by omega)
      · show nI _ ≤ nI 16
        rw [nI_leI (by omega) (by omega)]
        omega
theorem c_SW_told {X : Xt} {k a : Int32} {G : Gt} {Q : Qt} (hl : lyOK (G 5 3)) (K1 : 0 ≤ a ∧ a ≤ 4 → Q (some (.int (G 6 a.toNatClampNeg))) G) (K2 : ¬ (0 ≤ a ∧ a ≤ 4) → ¬ ((5 ≤ a ∧ a ≤ 7) ∧ 0 ≤ k ∧ k ≤ G 5 3 - 1) → Q (some (.int (-1000001))) G) (K3 : ¬ (0 ≤ a ∧ a ≤ 4) → (5 ≤ a ∧ a ≤ 7) ∧ 0 ≤ k ∧ k ≤ G 5 3 - 1 → Q (some (.int (if a = 5 then G 7 k.toNatClampNeg else if a = 6 then G 8 k.toNatClampNeg else bI (hS (G 5 3) (G 6 4) (G 8) k)))) G) : con X m_SW_told [.ref 0, .int k, .int a] G Q := by
  refine con_rn 60 [] (by decide) rfl ?_
  repeat' first | refine bib (fun h => ?_) (fun h => ?_) | refine bjb (fun h => ?_) (fun h => ?_) | refine bi (fun h => ?_) (fun h => ?_) | refine bj (fun h => ?_) (fun h => ?_) | refine vi (inI (by decide) (by decide)) ?_ | refine vi ?_ ?_ | refine zi (by decide) ?_ | refine zi ?_ ?_ | refine ni rfl ?_ | refine ni (bI_nar _) ?_ | refine c_isMeasure ?_ | refine (c_measure (by assumption)) ?_ | refine c_hasLayer ?_
  · rename_i h1
    refine ⟨fun h2 => ?_, fun h2 => ?_, fun h2 => ?_, fun h2 => ?_, trivial⟩
    · refine K2 h1 (fun z => ?_)
      ((try simp only [le32, lt32, eq32, ne_eq, cl_0, cl_1, cl_2, cl_3, cl_4, cl_5, cl_6] at *); (try simp only [Int32.reduceToInt] at *); omega)
    · have h2 : a = 5 := h2
      subst h2
      refine c_thickOf (kin hl h) ?_
      exact K3 (by decide) ⟨by decide, h⟩
    · have h2 : a = 6 := h2
      subst h2
      refine c_weightOf (kin hl h) ?_
      exact K3 (by decide) ⟨by decide, h⟩
    · have h2 : a = 7 := h2
      subst h2
      refine c_holds hl h ?_
      have K := K3 (by decide) ⟨by decide, h⟩
      refine bib (fun h3 => ?_) (fun h3 => ?_)
      · exact Qi K (bI_f h3).symm
      · exact Qi K (bI_t h3).symm
  · rename_i h1
    exact K2 h1 (fun z => h z.2)
  · exact K1 h
theorem eight {a : Int32} (h : 0 ≤ a ∧ a ≤ 7) : (a = 0 ∨ a = 1 ∨ a = 2 ∨ a = 3 ∨ a = 4) ∨ a = 5 ∨ a = 6 ∨ a = 7 := by
  have h1 : 0 ≤ a.toInt := by simpa using le32.mp h.1
  have h2 : a.toInt ≤ 7 := by simpa using le32.mp h.2
  simp only [eq32]
  simp only [Int32.reduceToInt]
  omega
theorem c_Mo_told {X : Xt} {k a ly : Int32} {ms w : Nat → Int32} {G : Gt} {Q : Qt} (h0 : G 26 0 = 0) (e1 : G 26 6 = ly) (e2 : G 30 = ms) (e3 : G 32 = w) (hl : lyOK ly) (K1 : 0 ≤ a ∧ a ≤ 4 → Q (some (.int (ms a.toNatClampNeg))) G) (K2 : ¬ (0 ≤ a ∧ a ≤ 4) → ¬ ((5 ≤ a ∧ a ≤ 7) ∧ 0 ≤ k ∧ k ≤ ly - 1) → Q (some (.int (-1000001))) G) (K3 : ¬ (0 ≤ a ∧ a ≤ 4) → (5 ≤ a ∧ a ≤ 7) ∧ 0 ≤ k ∧ k ≤ ly - 1 → Q (some (.int (if a = 5 then G 31 k.toNatClampNeg else if a = 6 then w k.toNatClampNeg else bI (hS ly (ms 4) w k)))) G) : con X m_Mo_told [.ref 26, .int k, .int a] G Q := by
  subst e1
  subst e2
  subst e3
  by_cases h7 : 0 ≤ a ∧ a ≤ 7
  · rcases eight h7 with (rfl | rfl | rfl | rfl | rfl) | rfl | rfl | rfl
    all_goals refine con_rm 60 [] (by decide) rfl (by decide +kernel) h0 ?_
    repeat' first | refine bib_t (by decide) ?_ | refine bib_f (by decide) ?_ | refine bjb_t (by decide) ?_ | refine bjb_f (by decide) ?_ | refine bi_t (by decide) ?_ | refine bi_f (by decide) ?_ | refine bj_t (by decide) ?_ | refine bj_f (by decide) ?_ | refine bib (fun h => ?_) (fun h => ?_) | refine bjb (fun h => ?_) (fun h => ?_) | refine bi (fun h => ?_) (fun h => ?_) | refine bj (fun h => ?_) (fun h => ?_) | refine vi (inI (by decide) (by decide)) ?_ | refine vi ?_ ?_ | refine zi (by decide) ?_ | refine zi ?_ ?_ | refine ni rfl ?_ | refine ni (bI_nar _) ?_ | refine (c_in 0 7 rfl rfl) ?_ | refine c_isLayer ?_ | refine (c_Mholds hl (by assumption)) ?_
    all_goals first | exact K1 (by decide) | exact kin hl h | exact K2 (by decide) (fun z => h z.2) | exact K3 (by decide) ⟨by decide, h⟩ | skip
    · rename_i h1
      exact Qi (K3 (by decide) ⟨by decide, h1⟩) (bI_f h).symm
    · rename_i h1
      exact Qi (K3 (by decide) ⟨by decide, h1⟩) (bI_t h).symm
  · refine con_rm 60 [] (by decide) rfl (by decide +kernel) h0 ?_
    repeat' first | refine bib (fun h => ?_) (fun h => ?_) | refine bjb (fun h => ?_) (fun h => ?_) | refine bi (fun h => ?_) (fun h => ?_) | refine bj (fun h => ?_) (fun h => ?_) | refine vi (inI (by decide) (by decide)) ?_ | refine vi ?_ ?_ | refine zi (by decide) ?_ | refine zi ?_ ?_ | refine ni rfl ?_ | refine ni (bI_nar _) ?_ | refine (c_in 0 7 rfl rfl) ?_
    · refine K2 (fun z => h ⟨z.1, Int32.le_trans z.2 (by decide)⟩) (fun z => h ⟨Int32.le_trans (by decide) z.1.1, z.1.2⟩)
    all_goals (exfalso; exact h7 (by assumption))
theorem p_told {X : Xt} {G : Gt} (hI : Inv G) {k a : Int32} : pair X m_SW_told m_Mo_told [.int k, .int a] G := by
  obtain ⟨⟨w1, w2, w3, w4, w5, w6, w7⟩, hT, hS, hP, hs, h0⟩ := id hI
  refine c_SW_told w5 (fun h => pq ?_) (fun h h2 => pq ?_) (fun h h2 => pq ?_)
  · exact c_Mo_told h0 w1.symm w2.symm w4.symm w5 (fun _ => ⟨rfl, hI⟩) (fun z => absurd h z) (fun z => absurd h z)
  · exact c_Mo_told h0 w1.symm w2.symm w4.symm w5 (fun z => absurd z h) (fun _ _ => ⟨rfl, hI⟩) (fun _ z => absurd z h2)
  · exact c_Mo_told h0 w1.symm w2.symm w4.symm w5 (fun z => absurd z h) (fun _ z => absurd h2 z) (fun _ _ => ⟨by rw [w3], hI⟩)
end
section
/-! volume -/
def vM (ly : Int32) (ms th : Nat → Int32) (k y : Int32) : Int32 := if k = -1000000 then wS ms th 0 y else if k = ly then wS ms th k.toNatClampNeg y else wS ms th k.toNatClampNeg y - wS ms th (k + 1).toNatClampNeg y
theorem pos_id {v : Int32} (h : ¬ v < 0) : pos v = v := by
  unfold pos
  split
  · rfl
  · rename_i h1
    exact Int32.le_antisymm (Int32.not_lt.mp h) (Int32.not_lt.mp h1)
theorem pos_ge {v : Int32} (h : 0 ≤ v) : pos v = v := pos_id (Int32.not_lt.mpr h)
theorem pos_lt {v : Int32} (h : ¬ 0 ≤ v) : pos v = 0 := by
  unfold pos
  rw [if_neg (fun z => h (Int32.le_of_lt z))]
theorem w_Mvolume {X : Xt} {C : Nat} {k : Int32} {G : Gt} {Q : Qt} (hC : C ≤ 100) (hm : G 30 0 = nI C) (hl : lyOK (G 26 6)) (hk : ¬ k = -1000000 → 0 ≤ k ∧ k ≤ G 26 6) (K : Q (some (.int (sI (fun j => pos (vM (G 26 6) (G 30) (G 31) k (nI j))) C * G 30 3))) G) : ∀ (m j : Nat) (c t : Int32), c = nI j → j + m = C → t = sI (fun j => pos (vM (G 26 6) (G 30) (G 31) k (nI j))) j → wp X m_Mo_volume 32 [(3, .int c), (2, .int t), (0, .ref 26), (1, .int k)] [] G Q
  | 0, j, c, t, hc, hj, ht => by
    subst hc
    have hj : j = C := by omega
    subst hj
    subst ht
    refine rn_wp (stops := [32]) 80 ?_
    refine vi (inI (by decide) (by decide)) (bi (fun h => ?_) (fun h => ?_))
    · refine vi (inI (by decide) (by decide)) ?_
      exact K
    · exfalso
      simp only [cl_0] at h
      rw [hm] at h
      exact h (Int32.le_refl _)
  | m + 1, j, c, t, hc, hj, ht => by
    subst hc
    refine rn_wp (stops := [32]) 80 ?_
    refine vi (inI (by decide) (by decide)) (bi (fun h => ?_) (fun h => ?_))
    · exfalso
      simp only [cl_0] at h
      rw [hm] at h
      simp (disch := omega) only [nI_1, nI_add, nI_clamp, nI_leI, nI_ltI, nI_eq, nI_toInt] at h
      omega
    · have h6 := (ly_1 hl).2
      refine bj (fun h2 => ?_) (fun h2 => ?_)
      · obtain ⟨a1, a2⟩ := hk h2
        have b1 : 0 ≤ k.toInt := by simpa using le32.mp a1
        have b2 := le32.mp a2
        have a3 : k ≤ 6 := by rw [le32]; simp; omega
        refine bj (fun h3 => ?_) (fun h3 => ?_)
        · have b3 : ¬ k.toInt = (G 26 6).toInt := fun z => h3 (eq32.mpr z)
          have b4 : (k + 1).toInt = k.toInt + 1 := by rw [addI (by simp; omega) (by simp; omega)]; simp
          have a4 : 0 ≤ k + 1 := by rw [le32, b4]; simp; omega
          have a5 : k + 1 ≤ 6 := by rw [le32, b4]; simp; omega
          refine c_wideOf a1 a3 ?_
          refine c_wideOf a4 a5 ?_
          refine bi (fun h4 => ?_) (fun h4 => ?_)
          · refine wp_pick [0, 1, 3, 4] (w_Mvolume hC hm hl hk K m (j + 1) _ _ (nI_1 _) (by omega) ?_)
            rw [ht, sI, vM, if_neg h2, if_neg h3, pos_ge h4]
          · refine wp_pick [0, 1, 3, 4] (w_Mvolume hC hm hl hk K m (j + 1) _ _ (nI_1 _) (by omega) ?_)
            rw [ht, sI, vM, if_neg h2, if_neg h3, pos_lt h4]
        · refine c_wideOf a1 a3 ?_
          refine bi (fun h4 => ?_) (fun h4 => ?_)
          · refine wp_pick [0, 1, 3, 4] (w_Mvolume hC hm hl hk K m (j + 1) _ _ (nI_1 _) (by omega) ?_)
            rw [ht, sI, vM, if_neg h2, if_pos h3, pos_ge h4]
          · refine wp_pick [0, 1, 3, 4] (w_Mvolume hC hm hl hk K m (j + 1) _ _ (nI_1 _) (by omega) ?_)
            rw [ht, sI, vM, if_neg h2, if_pos h3, pos_lt h4]
      · refine c_wideOf (by decide) (by decide) ?_
        refine bi (fun h4 => ?_) (fun h4 => ?_)
        · refine wp_pick [0, 1, 3, 4] (w_Mvolume hC hm hl hk K m (j + 1) _ _ (nI_1 _) (by omega) ?_)
          rw [ht, sI, vM, if_pos h2]
          rw [show pos (wS (G 30) (G 31) 0 (nI j)) = wS (G 30) (G 31) 0 (nI j) from pos_ge h4]
          rfl
        · exact absurd (Int32.not_le.mp h4) (wS_nn _ _ _ _)
theorem c_Mo_volume {X : Xt} {C : Nat} {k : Int32} {G : Gt} {Q : Qt} (h0 : G 26 0 = 0) (hC : C ≤ 100) (hm : G 30 0 = nI C) (hl : lyOK (G 26 6)) (K1 : ¬ k = -1000000 → ¬ (0 ≤ k ∧ k ≤ G 26 6) → Q (some (.int (-1000001))) G) (K2 : (¬ k = -1000000 → 0 ≤ k ∧ k ≤ G 26 6) → Q (some (.int (sI (fun j => pos (vM (G 26 6) (G 30) (G 31) k (nI j))) C * G 30 3))) G) : con X m_Mo_volume [.ref 26, .int k] G Q := by
  refine con_rm 60 [32] (by decide) rfl (by decide +kernel) h0 ?_
  repeat' first | refine bib (fun h => ?_) (fun h => ?_) | refine bjb (fun h => ?_) (fun h => ?_) | refine bi (fun h => ?_) (fun h => ?_) | refine bj (fun h => ?_) (fun h => ?_) | refine vi (inI (by decide) (by decide)) ?_ | refine vi ?_ ?_ | refine zi (by decide) ?_ | refine zi ?_ ?_ | refine ni rfl ?_ | refine ni (bI_nar _) ?_ | refine (c_in 0 _ rfl rfl) ?_
  · exact w_Mvolume hC hm hl (fun z => absurd h z) (K2 (fun z => absurd h z)) C 0 _ _ rfl (by omega) rfl
  · rename_i h1
    exact w_Mvolume hC hm hl (fun _ => h) (K2 (fun _ => h)) C 0 _ _ rfl (by omega) rfl
  · rename_i h1
    exact K1 h1 h
theorem sI_congr {f g : Nat → Int32} : ∀ (n : Nat), (∀ j, j < n → f j = g j) → sI f n = sI g n
  | 0, _ => rfl
  | n + 1, h => by rw [sI, sI, sI_congr n (fun j hj => h j (by omega)), h n (by omega)]
theorem p_volume {X : Xt} {G : Gt} (hI : Inv G) {k : Int32} : pair X m_SW_volume m_Mo_volume [.int k] G := by
  obtain ⟨⟨w1, w2, w3, w4, w5, w6, w7⟩, hT, hS, hP, hs, h0⟩ := id hI
  obtain ⟨C, hC, -, hm⟩ := ms_0 w6
  have hm' : G 30 0 = nI C := by rw [← w2]; exact hm
  have hl' : lyOK (G 26 6) := w1 ▸ w5
  have hM : ∀ {v : Int32}, (¬ k = -1000000 → ¬ (0 ≤ k ∧ k ≤ G 5 3) → -1000001 = v) → ((¬ k = -1000000 → 0 ≤ k ∧ k ≤ G 5 3) → sI (fun j => pos (vM (G 5 3) (G 6) (G 7) k (nI j))) C * G 6 3 = v) → con X m_Mo_volume [.ref 26, .int k] G (fun r2 G2 => r2 = some (.int v) ∧ Inv G2) := by
    intro v g1 g2
    refine c_Mo_volume h0 hC hm' hl' (fun a b => ⟨?_, hI⟩) (fun a => ⟨?_, hI⟩)
    · rw [g1 a (w1 ▸ b)]
    · rw [← w1, ← w2, ← w3, g2 (by rw [w1]; exact a)]
  refine con_rn 40 [] (by decide) rfl ?_
  repeat' first | refine bib (fun h => ?_) (fun h => ?_) | refine bjb (fun h => ?_) (fun h => ?_) | refine bi (fun h => ?_) (fun h => ?_) | refine bj (fun h => ?_) (fun h => ?_) | refine vi (inI (by decide) (by decide)) ?_ | refine vi ?_ ?_ | refine zi (by decide) ?_ | refine zi ?_ ?_ | refine ni rfl ?_ | refine ni (bI_nar _) ?_ | refine c_layers ?_ | refine c_within ?_ | refine (c_wholeVolume hC hm) ?_
  · rename_i h1
    obtain ⟨e, e1, -⟩ := toN h.1
    have b2 := le32.mp h.2
    have h6 := (ly_1 w5).2
    have b4 : (k + 1).toNatClampNeg = k.toNatClampNeg + 1 := by
      have : (k + 1).toInt = k.toInt + 1 := by rw [addI (by simp; omega) (by simp; omega)]; simp
      rw [clamp, this]
      omega
    have hcv := @c_volumeOf X C k.toNatClampNeg G
    rw [← e] at hcv
    refine hcv hC hm w5 h.2 (by omega) ?_
    refine pq (hM (fun _ z => absurd h z) (fun _ => ?_))
    congr 1
    refine sI_congr C (fun j hj => ?_)
    congr 1
    rw [vM, if_neg h1, lS, ← e]
    by_cases h3 : k = G 5 3
    · rw [if_pos h3, if_neg (by rw [h3]; exact Int32.lt_irrefl)]
    · rw [if_neg h3, if_pos (Int32.lt_of_le_of_ne h.2 h3), b4]
  · rename_i h1
    exact pq (hM (fun _ _ => rfl) (fun z => absurd (z h1) h))
  · refine pq (hM (fun z => absurd h z) (fun _ => ?_))
    congr 1
    refine sI_congr C (fun j hj => ?_)
    rw [vM, if_pos h]
    exact pos_id (wS_nn _ _ _ _)
end
section
/-! the calls of the sheets, pair by pair -/
theorem sN {s : Int32} (h : 0 ≤ s ∧ s ≤ 7) : s.toNatClampNeg < 8 ∧ vp_in s 8 := by
  have h1 : 0 ≤ s.toInt := by simpa using le32.mp h.1
  have h2 : s.toInt ≤ 7 := by simpa using le32.mp h.2
  exact ⟨by rw [clamp]; omega, inI h1 (by omega)⟩
theorem c_SW_drop {X : Xt} {s : Int32} {G : Gt} {Q : Qt} (K1 : ¬ (0 ≤ s ∧ s ≤ 7) → Q (some (.int (-1000001))) G) (K2 : 0 ≤ s ∧ s ≤ 7 → G 4 s.toNatClampNeg = -1 → Q (some (.int (-1000011))) (sG G 0 (upd (G 0) 7 1))) (K3 : 0 ≤ s ∧ s ≤ 7 → ¬ G 4 s.toNatClampNeg = -1 → Q (some (.int (G 4 s.toNatClampNeg))) (sG (sG G 4 (upd (G 4) s.toNatClampNeg (-1))) 0 (upd (G 0) 7 0))) : con X m_SW_drop [.ref 0, .int s] G Q := by
  refine con_rn 60 [] (by decide) rfl ?_
  repeat' first | refine bib (fun h => ?_) (fun h => ?_) | refine bjb (fun h => ?_) (fun h => ?_) | refine bi (fun h => ?_) (fun h => ?_) | refine bj (fun h => ?_) (fun h => ?_) | refine vi (inI (by decide) (by decide)) ?_ | refine vi ?_ ?_ | refine zi (by decide) ?_ | refine zi ?_ ?_ | refine ni rfl ?_ | refine ni (bI_nar _) ?_ | refine c_isNumber ?_ | refine (c_isMissing (by assumption)) ?_ | refine (c_remove (by assumption)) ?_ | refine c_found ?_ | refine c_fine ?_
  · rename_i h1; exact K3 h1 h
  · rename_i h1; exact K2 h1 h
  · exact K1 h
theorem c_Mo_drop {X : Xt} {s : Int32} {G : Gt} {Q : Qt} (h0 : G 26 0 = 0) (K1 : ¬ (0 ≤ s ∧ s ≤ 7) → Q (some (.int (-1000001))) G) (K2 : 0 ≤ s ∧ s ≤ 7 → ¬ 0 ≤ G 27 s.toNatClampNeg → Q (some (.int (-1000011))) (sG (sG G 26 (upd (G 26) 1 0)) 26 (upd (upd (G 26) 1 0) 1 1))) (K3 : 0 ≤ s ∧ s ≤ 7 → 0 ≤ G 27 s.toNatClampNeg → Q (some (.int (G 28 s.toNatClampNeg))) (sG (sG G 26 (upd (G 26) 1 0)) 27 (upd (G 27) s.toNatClampNeg (-1)))) : con X m_Mo_drop [.ref 26, .int s] G Q := by
  refine con_rm 60 [] (by decide) rfl (by decide +kernel) h0 ?_
  repeat' first | refine bib (fun h => ?_) (fun h => ?_) | refine bjb (fun h => ?_) (fun h => ?_) | refine bi (fun h => ?_) (fun h => ?_) | refine bj (fun h => ?_) (fun h => ?_) | refine vi (inI (by decide) (by decide)) ?_ | refine vi ?_ ?_ | refine zi (by decide) ?_ | refine zi ?_ ?_ | refine ni rfl ?_ | refine ni (bI_nar _) ?_ | refine c_isSheet ?_ | refine c_Mfound ?_
  all_goals first | exact (sN (by assumption)).2 | skip
  · rename_i h1; exact K3 h1 h
  · rename_i h1; exact K2 h1 h
  · exact K1 h
theorem IS_at {it ln sz ln' mn' it' : Nat → Int32} {s : Nat} (h : IS it ln sz ln' mn' it') (hs : s < 8) : (sz s = -1 ↔ ¬ 0 ≤ ln' s) ∧ (0 ≤ ln' s → mn' s = sz s ∧ ln' s = ln s ∧ (0 ≤ sz s ∧ sz s ≤ 100) ∧ ∀ k : Nat, (k : Int) < (sz s).toInt → it (100 * s + k) = it' (100 * s + k)) := by
  rcases h s hs with ⟨h1, h2⟩ | ⟨h1, h2, h3, h4, h5⟩
  · rw [h2]
    exact ⟨⟨fun _ => by decide, fun _ => h1⟩, fun z => absurd z (by decide)⟩
  · refine ⟨⟨fun z => ?_, fun z => absurd (h3 ▸ h2.1) z⟩, fun _ => ⟨h4, h3, h1, h5⟩⟩
    rw [z] at h1
    exact absurd h1.1 (by decide)
theorem p_drop {X : Xt} {G : Gt} (hI : Inv G) {s : Int32} : pair X m_SW_drop m_Mo_drop [.int s] G := by
  obtain ⟨hW, hT, hS, hP, hs, h0⟩ := id hI
  refine c_SW_drop (fun h => pq ?_) (fun h h2 => pq ?_) (fun h h2 => pq ?_)
  · exact c_Mo_drop h0 (fun _ => ⟨rfl, hI⟩) (fun z => absurd z h) (fun z => absurd z h)
  · have hh := IS_at hS (sN h).1
    exact c_Mo_drop h0 (fun z => absurd h z) (fun _ _ => ⟨rfl, ⟨hW, hT, hS, hP, rfl, h0⟩⟩) (fun _ z => absurd z (hh.1.mp h2))
  · have hh := IS_at hS (sN h).1
    refine c_Mo_drop h0 (fun z => absurd h z) (fun _ z => absurd (hh.1.mpr z) h2) (fun _ z => ⟨?_, ⟨hW, hT, ?_, hP, rfl, h0⟩⟩)
    · show some (Value.int (G 28 _)) = _
      rw [(hh.2 z).1]
    · intro q hq
      by_cases e : q = s.toNatClampNeg
      · left
        subst e
        exact ⟨if_pos rfl, if_pos rfl⟩
      · show ((upd (G 4) _ _) q = -1 ∧ (upd (G 27) _ _) q = -1) ∨ _
        have e1 : upd (G 4) s.toNatClampNeg (-1) q = G 4 q := if_neg e
        have e2 : upd (G 27) s.toNatClampNeg (-1) q = G 27 q := if_neg e
        show ((upd (G 4) _ _) q = -1 ∧ (upd (G 27) _ _) q = -1) ∨ ((0 ≤ (upd (G 4) s.toNatClampNeg (-1)) q ∧ (upd (G 4) s.toNatClampNeg (-1)) q ≤ 100) ∧ (0 ≤ G 3 q ∧ G 3 q ≤ 2) ∧ (upd (G 27) s.toNatClampNeg (-1)) q = G 3 q ∧ G 28 q = (upd (G 4) s.toNatClampNeg (-1)) q ∧ ∀ k : Nat, (k : Int) < ((upd (G 4) s.toNatClampNeg (-1)) q).toInt → G 2 (100 * q + k) = G 29 (100 * q + k))
        rw [e1, e2]
        exact hS q hq
end
section
/-! sheet, set -/
theorem IS_put {it ln sz ln' mn' it' IT LN SZ LN' MN' IT' : Nat → Int32} {s : Nat} (h : IS it ln sz ln' mn' it') (hs : (SZ s = -1 ∧ LN' s = -1) ∨ ((0 ≤ SZ s ∧ SZ s ≤ 100) ∧ (0 ≤ LN s ∧ LN s ≤ 2) ∧ LN' s = LN s ∧ MN' s = SZ s ∧ ∀ k : Nat, (k : Int) < (SZ s).toInt → IT (100 * s + k) = IT' (100 * s + k))) (ho : ∀ q : Nat, q < 8 → q ≠ s → SZ q = sz q ∧ LN q = ln q ∧ LN' q = ln' q ∧ MN' q = mn' q ∧ ∀ k, k < 100 → IT (100 * q + k) = it (100 * q + k) ∧ IT' (100 * q + k) = it' (100 * q + k)) : IS IT LN SZ LN' MN' IT' := by
  intro q hq
  by_cases e : q = s
  · rw [e]; exact hs
  · obtain ⟨g1, g2, g3, g4, g5⟩ := ho q hq e
    rw [g1, g2, g3, g4]
    rcases h q hq with h1 | ⟨h1, h2, h3, h4, h5⟩
    · exact Or.inl h1
    · refine Or.inr ⟨h1, h2, h3, h4, fun k hk => ?_⟩
      have h6 : (sz q).toInt ≤ 100 := by simpa using le32.mp h1.2
      have h7 := g5 k (by omega)
      rw [h7.1, h7.2]
      exact h5 k hk
theorem ixM {S k : Nat} (hS : S < 8) (hk : k ≤ 100) : (100 * nI S + nI k).toNatClampNeg = 100 * S + k ∧ (100 * nI S + nI k) = nI (100 * S + k) := by
  have e : (100 * nI S + nI k) = nI (100 * S + k) := by
    rw [show (100 : Int32) = nI 100 from rfl, pk_mul, nI_add]
  exact ⟨by rw [e, nI_clamp (by omega)], e⟩
theorem w_Msheet {X : Xt} {S : Nat} {l n : Int32} {Q : Qt} (hS : S < 8) : ∀ (m k : Nat) (c : Int32) (G : Gt), c = nI k → k + m = 100 → Q (some (.int n)) (sG G 29 (fun j => if 100 * S + k ≤ j ∧ j < 100 * S + 100 then 0 else G 29 j)) → wp X m_Mo_sheet 65 [(4, .int c), (0, .ref 26), (1, .int (nI S)), (2, .int l), (3, .int n)] [] G Q
  | 0, k, c, G, hc, hk, K => by
    subst hc
    refine rn_wp (stops := [65]) 40 ?_
    refine bi (fun h => ?_) (fun h => ?_)
    · refine Qg K ?_
      have : (fun j => if 100 * S + k ≤ j ∧ j < 100 * S + 100 then 0 else G 29 j) = G 29 := by
        funext j
        rw [if_neg (by omega)]
      rw [this, sG_id]
    · exfalso
      rw [show (100 : Int32) = nI 100 from rfl] at h
      simp (disch := omega) only [nI_1, nI_add, nI_clamp, nI_leI, nI_ltI, nI_eq, nI_toInt] at h
      omega
  | m + 1, k, c, G, hc, hk, K => by
    subst hc
    refine rn_wp (stops := [65]) 40 ?_
    refine bi (fun h => ?_) (fun h => ?_)
    · exfalso
      rw [show (100 : Int32) = nI 100 from rfl] at h
      simp (disch := omega) only [nI_1, nI_add, nI_clamp, nI_leI, nI_ltI, nI_eq, nI_toInt] at h
      omega
    · refine vi (by rw [(ixM hS (by omega)).2]; exact vp_in_nI (by omega) (by omega)) ?_
      refine w_Msheet hS m (k + 1) _ _ (nI_1 _) (by omega) ?_
      refine Qg K ?_
      rw [(ixM hS (by omega)).1, sG_sG]
      congr 1
      funext j
      simp only [sG_at, upd]
      by_cases h1 : j = 100 * S + k
      · subst h1
        rw [if_neg (by omega), if_pos rfl, if_pos (by omega)]
      · rw [if_neg h1]
        by_cases h2 : 100 * S + k ≤ j ∧ j < 100 * S + 100
        · rw [if_pos h2, if_pos (by omega)]
        · rw [if_neg h2, if_neg (by omega)]
theorem c_SW_sheet {X : Xt} {s l n : Int32} {G : Gt} {Q : Qt} (K1 : ¬ ((0 ≤ s ∧ s ≤ 7) ∧ (0 ≤ l ∧ l ≤ 2) ∧ n ≤ 100) → Q (some (.int (-1000001))) G) (K2 : (0 ≤ s ∧ s ≤ 7) ∧ (0 ≤ l ∧ l ≤ 2) ∧ n ≤ 100 → ¬ 0 ≤ n → Q (some (.int (-1000014))) (sG G 0 (upd (G 0) 7 4))) (K3 : (0 ≤ s ∧ s ≤ 7) ∧ (0 ≤ l ∧ l ≤ 2) ∧ n ≤ 100 → 0 ≤ n → Q (some (.int n)) (sG (sG (sG (sG G 3 (upd (G 3) s.toNatClampNeg l)) 4 (upd (G 4) s.toNatClampNeg n)) 2 (fun j => if 100 * s.toInt ≤ j ∧ j < 100 * s.toInt + n.toInt then 0 else G 2 j)) 0 (upd (G 0) 7 0))) : con X m_SW_sheet [.ref 0, .int s, .int l, .int n] G Q := by
  refine con_rn 60 [] (by decide) rfl ?_
  repeat' first | refine bib (fun h => ?_) (fun h => ?_) | refine bjb (fun h => ?_) (fun h => ?_) | refine bi (fun h => ?_) (fun h => ?_) | refine bj (fun h => ?_) (fun h => ?_) | refine vi (inI (by decide) (by decide)) ?_ | refine vi ?_ ?_ | refine zi (by decide) ?_ | refine zi ?_ ?_ | refine ni rfl ?_ | refine ni (bI_nar _) ?_ | refine c_isNumber ?_ | refine c_within ?_ | refine c_found ?_ | refine (c_make (by assumption) (by assumption) (by assumption)) ?_ | refine c_fine ?_
  · exact K1 (fun z => h z.1)
  · exact K1 (fun z => h z.2.1)
  · rename_i h1 h2 h3; exact K3 ⟨h1, h2, h3⟩ h
  · rename_i h1 h2 h3; exact K2 ⟨h1, h2, h3⟩ h
  · exact K1 (fun z => h z.2.2)
theorem c_Mo_sheet {X : Xt} {s l n : Int32} {G : Gt} {Q : Qt} (h0 : G 26 0 = 0) (K1 : ¬ ((0 ≤ s ∧ s ≤ 7) ∧ (0 ≤ l ∧ l ≤ 2) ∧ n ≤ 100) → Q (some (.int (-1000001))) G) (K2 : (0 ≤ s ∧ s ≤ 7) ∧ (0 ≤ l ∧ l ≤ 2) ∧ n ≤ 100 → ¬ 0 ≤ n → Q (some (.int (-1000014))) (sG (sG G 26 (upd (G 26) 1 0)) 26 (upd (upd (G 26) 1 0) 1 4))) (K3 : (0 ≤ s ∧ s ≤ 7) ∧ (0 ≤ l ∧ l ≤ 2) ∧ n ≤ 100 → 0 ≤ n → Q (some (.int n)) (sG (sG (sG (sG G 26 (upd (G 26) 1 0)) 27 (upd (G 27) s.toNatClampNeg l)) 28 (upd (G 28) s.toNatClampNeg n)) 29 (fun j => if 100 * s.toNatClampNeg ≤ j ∧ j < 100 * s.toNatClampNeg + 100 then 0 else G 29 j))) : con X m_Mo_sheet [.ref 26, .int s, .int l, .int n] G Q := by
  refine con_rm 60 [65] (by decide) rfl (by decide +kernel) h0 ?_
  repeat' first | refine bib (fun h => ?_) (fun h => ?_) | refine bjb (fun h => ?_) (fun h => ?_) | refine bi (fun h => ?_) (fun h => ?_) | refine bj (fun h => ?_) (fun h => ?_) | refine vi (inI (by decide) (by decide)) ?_ | refine vi ?_ ?_ | refine zi (by decide) ?_ | refine zi ?_ ?_ | refine ni rfl ?_ | refine ni (bI_nar _) ?_ | refine c_isSheet ?_ | refine (c_in 0 2 rfl rfl) ?_ | refine c_Mfound ?_
  · exact K1 (fun z => h z.1)
  · exact K1 (fun z => h z.2.1)
  · rename_i h1 h2 h3; exact (sN h1).2
  · rename_i h1 h2 h3; exact (sN h1).2
  · rename_i h1 h2 h3
    obtain ⟨e, -, -⟩ := toN h1.1
    have hS := (sN h1).1
    have K := K3 ⟨h1, h2, h3⟩ h
    clear K1 K2 K3
    generalize s.toNatClampNeg = S at *
    subst e
    refine w_Msheet hS 100 0 _ _ rfl rfl ?_
    exact K
  · rename_i h1 h2 h3; exact K2 ⟨h1, h2, h3⟩ h
  · exact K1 (fun z => h z.2.2)
theorem p_sheet {X : Xt} {G : Gt} (hI : Inv G) {s l n : Int32} : pair X m_SW_sheet m_Mo_sheet [.int s, .int l, .int n] G := by
  obtain ⟨hW, hT, hS, hP, hs, h0⟩ := id hI
  refine c_SW_sheet (fun h => pq ?_) (fun h h2 => pq ?_) (fun h h2 => pq ?_)
  · exact c_Mo_sheet h0 (fun _ => ⟨rfl, hI⟩) (fun z => absurd z h) (fun z => absurd z h)
  · exact c_Mo_sheet h0 (fun z => absurd h z) (fun _ _ => ⟨rfl, ⟨hW, hT, hS, hP, rfl, h0⟩⟩) (fun _ z => absurd z h2)
  · refine c_Mo_sheet h0 (fun z => absurd h z) (fun _ z => absurd h2 z) (fun _ _ => ⟨rfl, ⟨hW, hT, ?_, hP, rfl, h0⟩⟩)
    obtain ⟨-, e, -⟩ := toN h.1.1
    have h3 : n.toInt ≤ 100 := by simpa using le32.mp h.2.2
    have u : ∀ (f : Nat → Int32) (v : Int32), upd f s.toNatClampNeg v s.toNatClampNeg = v := fun f v => if_pos rfl
    have un : ∀ (f : Nat → Int32) (v : Int32) (q : Nat), q ≠ s.toNatClampNeg → upd f s.toNatClampNeg v q = f q := fun f v q hq => if_neg hq
    refine IS_put (s := s.toNatClampNeg) hS (Or.inr ?_) (fun q hq hn => ?_)
    · show (0 ≤ upd (G 4) s.toNatClampNeg n s.toNatClampNeg ∧ upd (G 4) s.toNatClampNeg n s.toNatClampNeg ≤ 100) ∧ (0 ≤ upd (G 3) s.toNatClampNeg l s.toNatClampNeg ∧ upd (G 3) s.toNatClampNeg l s.toNatClampNeg ≤ 2) ∧ upd (G 27) s.toNatClampNeg l s.toNatClampNeg = upd (G 3) s.toNatClampNeg l s.toNatClampNeg ∧ upd (G 28) s.toNatClampNeg n s.toNatClampNeg = upd (G 4) s.toNatClampNeg n s.toNatClampNeg ∧ ∀ k : Nat, (k : Int) < (upd (G 4) s.toNatClampNeg n s.toNatClampNeg).toInt → (if 100 * s.toInt ≤ ((100 * s.toNatClampNeg + k : Nat) : Int) ∧ ((100 * s.toNatClampNeg + k : Nat) : Int) < 100 * s.toInt + n.toInt then 0 else G 2 (100 * s.toNatClampNeg + k)) = (if 100 * s.toNatClampNeg ≤ 100 * s.toNatClampNeg + k ∧ 100 * s.toNatClampNeg + k < 100 * s.toNatClampNeg + 100 then 0 else G 29 (100 * s.toNatClampNeg + k))
      simp only [u]
      refine ⟨⟨h2, h.2.2⟩, h.2.1, trivial, trivial, fun k hk => ?_⟩
      rw [if_pos (by omega), if_pos (by omega)]
    · show upd (G 4) s.toNatClampNeg n q = G 4 q ∧ upd (G 3) s.toNatClampNeg l q = G 3 q ∧ upd (G 27) s.toNatClampNeg l q = G 27 q ∧ upd (G 28) s.toNatClampNeg n q = G 28 q ∧ ∀ k, k < 100 → (if 100 * s.toInt ≤ ((100 * q + k : Nat) : Int) ∧ ((100 * q + k : Nat) : Int) < 100 * s.toInt + n.toInt then 0 else G 2 (100 * q + k)) = G 2 (100 * q + k) ∧ (if 100 * s.toNatClampNeg ≤ 100 * q + k ∧ 100 * q + k < 100 * s.toNatClampNeg + 100 then 0 else G 29 (100 * q + k)) = G 29 (100 * q + k)
      rw [un _ _ q hn, un _ _ q hn, un _ _ q hn, un _ _ q hn]
      refine ⟨rfl, rfl, rfl, rfl, fun k hk => ⟨if_neg (by omega), if_neg (by omega)⟩⟩
end
section
/-! set -/
def fnd (z i n : Int32) : Int32 := if z = -1 then 1 else if 0 ≤ i ∧ 0 ≤ n ∧ n ≤ z - i then 0 else 2
theorem fnd_0 {z i n : Int32} (hz : 0 ≤ z ∧ z ≤ 100) (hn : 0 ≤ n) : fnd z i n = 0 ↔ 0 ≤ i ∧ i.toInt + n.toInt ≤ z.toInt := by
  have h1 : 0 ≤ z.toInt := by simpa using le32.mp hz.1
  have h2 : z.toInt ≤ 100 := by simpa using le32.mp hz.2
  have h3 := rng i
  unfold fnd
  rw [if_neg (by rw [eq32]; simp; omega)]
  by_cases h : 0 ≤ i
  · have h4 : 0 ≤ i.toInt := by simpa using le32.mp h
    have e : (z - i).toInt = z.toInt - i.toInt := subI (by omega) (by omega)
    by_cases h5 : n ≤ z - i
    · rw [if_pos ⟨h, hn, h5⟩]
      have := le32.mp h5
      exact ⟨fun _ => ⟨h, by omega⟩, fun _ => rfl⟩
    · rw [if_neg (fun z => h5 z.2.2)]
      refine ⟨fun z => absurd z (by decide), fun q => absurd ?_ h5⟩
      rw [le32, e]
      omega
  · rw [if_neg (fun z => h z.1)]
    exact ⟨fun z => absurd z (by decide), fun q => absurd q.1 h⟩
theorem fnd_cases (z i n : Int32) : (z = -1 ∧ fnd z i n = 1) ∨ (¬ z = -1 ∧ (fnd z i n = 0 ∨ fnd z i n = 2)) := by
  unfold fnd
  by_cases h : z = -1
  · rw [if_pos h]; exact Or.inl ⟨h, rfl⟩
  · rw [if_neg h]
    refine Or.inr ⟨h, ?_⟩
    split
    · exact Or.inl rfl
    · exact Or.inr rfl
theorem c_fnd {X : Xt} {s i n : Int32} {G : Gt} {Q : Qt} (hs : 0 ≤ s ∧ s ≤ 7) (K : Q (some (.int (fnd (G 4 s.toNatClampNeg) i n))) G) : con X m_Sheets_findingAt [.ref 1, .int s, .int i, .int n] G Q := c_findingAt hs K
theorem c_SW_set {X : Xt} {s i v : Int32} {G : Gt} {Q : Qt} (hz : 0 ≤ s ∧ s ≤ 7 → ¬ G 4 s.toNatClampNeg = -1 → 0 ≤ G 4 s.toNatClampNeg ∧ G 4 s.toNatClampNeg ≤ 100) (K1 : ¬ (0 ≤ s ∧ s ≤ 7) → Q (some (.int (-1000001))) G) (K2 : 0 ≤ s ∧ s ≤ 7 → ¬ fnd (G 4 s.toNatClampNeg) i 1 = 0 → Q (some (.int (-1000010 - fnd (G 4 s.toNatClampNeg) i 1))) (sG G 0 (upd (G 0) 7 (fnd (G 4 s.toNatClampNeg) i 1)))) (K3 : 0 ≤ s ∧ s ≤ 7 → fnd (G 4 s.toNatClampNeg) i 1 = 0 → Q (some (.int (cut (G 3 s.toNatClampNeg) v))) (sG (sG G 2 (upd (G 2) (ix s i) (cut (G 3 s.toNatClampNeg) v))) 0 (upd (G 0) 7 0))) : con X m_SW_set [.ref 0, .int s, .int i, .int v] G Q := by
  have hi : 0 ≤ s ∧ s ≤ 7 → fnd (G 4 s.toNatClampNeg) i 1 = 0 → 0 ≤ i ∧ i < 100 := by
    intro h1 h2
    rcases fnd_cases (G 4 s.toNatClampNeg) i 1 with ⟨-, h3⟩ | ⟨h3, -⟩
    · rw [h3] at h2; exact absurd h2 (by decide)
    · have h4 := hz h1 h3
      have h5 := (fnd_0 h4 (by decide)).mp h2
      have h6 : (G 4 s.toNatClampNeg).toInt ≤ 100 := by simpa using le32.mp h4.2
      refine ⟨h5.1, ?_⟩
      rw [lt32]
      have := h5.2
      simp at this ⊢
      omega
  refine con_rn 60 [] (by decide) rfl ?_
  repeat' first | refine bib (fun h => ?_) (fun h => ?_) | refine bjb (fun h => ?_) (fun h => ?_) | refine bi (fun h => ?_) (fun h => ?_) | refine bj (fun h => ?_) (fun h => ?_) | refine vi (inI (by decide) (by decide)) ?_ | refine vi ?_ ?_ | refine zi (by decide) ?_ | refine zi ?_ ?_ | refine ni rfl ?_ | refine ni (bI_nar _) ?_ | refine c_isNumber ?_ | refine (c_fnd (by assumption)) ?_ | refine c_found ?_ | refine c_fine ?_
  · rename_i h1
    refine c_put h1 (hi h1 h).1 (hi h1 h).2 ?_
    refine c_fine ?_
    exact K3 h1 h
  · rename_i h1
    exact K2 h1 h
  · exact K1 h
theorem c_Mo_set {X : Xt} {s i v : Int32} {G : Gt} {Q : Qt} (h0 : G 26 0 = 0) (hz : 0 ≤ s ∧ s ≤ 7 → 0 ≤ G 27 s.toNatClampNeg → 0 ≤ G 28 s.toNatClampNeg ∧ G 28 s.toNatClampNeg ≤ 100) (K1 : ¬ (0 ≤ s ∧ s ≤ 7) → Q (some (.int (-1000001))) G) (K2 : 0 ≤ s ∧ s ≤ 7 → ¬ 0 ≤ G 27 s.toNatClampNeg → Q (some (.int (-1000011))) (sG (sG G 26 (upd (G 26) 1 0)) 26 (upd (upd (G 26) 1 0) 1 1))) (K3 : 0 ≤ s ∧ s ≤ 7 → 0 ≤ G 27 s.toNatClampNeg → ¬ fnd (G 28 s.toNatClampNeg) i 1 = 0 → Q (some (.int (-1000012))) (sG (sG G 26 (upd (G 26) 1 0)) 26 (upd (upd (G 26) 1 0) 1 2))) (K4 : 0 ≤ s ∧ s ≤ 7 → 0 ≤ G 27 s.toNatClampNeg → fnd (G 28 s.toNatClampNeg) i 1 = 0 → Q (some (.int (cut (G 27 s.toNatClampNeg) v))) (sG (sG G 26 (upd (G 26) 1 0)) 29 (upd (G 29) (ix s i) (cut (G 27 s.toNatClampNeg) v)))) : con X m_Mo_set [.ref 26, .int s, .int i, .int v] G Q := by
  have hin : 0 ≤ s ∧ s ≤ 7 → 0 ≤ G 27 s.toNatClampNeg → (0 ≤ i ∧ i ≤ G 28 s.toNatClampNeg - 1 ↔ fnd (G 28 s.toNatClampNeg) i 1 = 0) ∧ (0 ≤ i ∧ i ≤ G 28 s.toNatClampNeg - 1 → (100 * s + i).toNatClampNeg = ix s i ∧ vp_in (100 * s + i) 800) := by
    intro h1 h2
    have h4 := hz h1 h2
    have h5 : 0 ≤ (G 28 s.toNatClampNeg).toInt := by simpa using le32.mp h4.1
    have h6 : (G 28 s.toNatClampNeg).toInt ≤ 100 := by simpa using le32.mp h4.2
    have e : (G 28 s.toNatClampNeg - 1).toInt = (G 28 s.toNatClampNeg).toInt - 1 := by
      rw [subI (by simp; omega) (by simp; omega)]; simp
    refine ⟨?_, fun h3 => ?_⟩
    · rw [fnd_0 h4 (by decide), le32 (a := i), e]
      simp
      intro _
      omega
    · have h7 := le32.mp h3.2
      rw [Int32.mul_comm]
      refine ixX h1 h3.1 ?_
      rw [lt32]
      simp
      omega
  refine con_rm 100 [] (by decide) rfl (by decide +kernel) h0 ?_
  repeat' first | refine bib (fun h => ?_) (fun h => ?_) | refine bjb (fun h => ?_) (fun h => ?_) | refine bi (fun h => ?_) (fun h => ?_) | refine bj (fun h => ?_) (fun h => ?_) | refine vi (inI (by decide) (by decide)) ?_ | refine vi ?_ ?_ | refine zi (by decide) ?_ | refine zi ?_ ?_ | refine ni rfl ?_ | refine ni (bI_nar _) ?_ | refine c_isSheet ?_ | refine (c_in 0 _ rfl rfl) ?_ | refine c_Mfound ?_
  all_goals first | exact (sN (by assumption)).2 | skip
  · rename_i h1 h2 h3 h4; exact ((hin h1 h2).2 h3).2
  · rename_i h1 h2 h3 h4; exact ((hin h1 h2).2 h3).2
  · rename_i h1 h2 h3 h4
    have K := K4 h1 h2 ((hin h1 h2).1.mp h3)
    rw [cut, if_neg (show ¬ G 27 s.toNatClampNeg = 0 from h4), if_neg (show ¬ G 27 s.toNatClampNeg = 1 from h), ← ((hin h1 h2).2 h3).1] at K
    exact Qi K (if_pos rfl)
  · rename_i h1 h2 h3 h4; exact ((hin h1 h2).2 h3).2
  · rename_i h1 h2 h3 h4; exact ((hin h1 h2).2 h3).2
  · rename_i h1 h2 h3 h4
    have K := K4 h1 h2 ((hin h1 h2).1.mp h3)
    rw [cut, if_neg (show ¬ G 27 s.toNatClampNeg = 0 from h4), if_pos (show G 27 s.toNatClampNeg = 1 from h), ← ((hin h1 h2).2 h3).1] at K
    exact Qi K (if_pos rfl)
  · rename_i h1 h2 h3; exact ((hin h1 h2).2 h3).2
  · rename_i h1 h2 h3; exact ((hin h1 h2).2 h3).2
  · rename_i h1 h2 h3
    have K := K4 h1 h2 ((hin h1 h2).1.mp h3)
    rw [cut, if_pos (show G 27 s.toNatClampNeg = 0 from h), ← ((hin h1 h2).2 h3).1] at K
    exact Qi K (if_pos rfl)
  · rename_i h1 h2
    exact K3 h1 h2 (fun z => h ((hin h1 h2).1.mpr z))
  · rename_i h1
    exact K2 h1 h
  · exact K1 h
theorem p_set {X : Xt} {G : Gt} (hI : Inv G) {s i v : Int32} : pair X m_SW_set m_Mo_set [.int s, .int i, .int v] G := by
  obtain ⟨hW, hT, hS, hP, hs, h0⟩ := id hI
  have hzX : 0 ≤ s ∧ s ≤ 7 → ¬ G 4 s.toNatClampNeg = -1 → 0 ≤ G 4 s.toNatClampNeg ∧ G 4 s.toNatClampNeg ≤ 100 := by
    intro h h2
    have hh := IS_at hS (sN h).1
    exact (hh.2 (Decidable.byContradiction fun z => h2 (hh.1.mpr z))).2.2.1
  have hzM : 0 ≤ s ∧ s ≤ 7 → 0 ≤ G 27 s.toNatClampNeg → 0 ≤ G 28 s.toNatClampNeg ∧ G 28 s.toNatClampNeg ≤ 100 := by
    intro h h2
    have hh := (IS_at hS (sN h).1).2 h2
    rw [hh.1]
    exact hh.2.2.1
  refine c_SW_set hzX (fun h => pq ?_) (fun h h2 => pq ?_) (fun h h2 => pq ?_)
  · exact c_Mo_set h0 hzM (fun _ => ⟨rfl, hI⟩) (fun z => absurd z h) (fun z => absurd z h) (fun z => absurd z h)
  · have hh := IS_at hS (sN h).1
    rcases fnd_cases (G 4 s.toNatClampNeg) i 1 with ⟨h3, h4⟩ | ⟨h3, h4 | h4⟩
    · rw [h4]
      exact c_Mo_set h0 hzM (fun z => absurd h z) (fun _ _ => ⟨rfl, ⟨hW, hT, hS, hP, rfl, h0⟩⟩) (fun _ z => absurd z (hh.1.mp h3)) (fun _ z => absurd z (hh.1.mp h3))
    · exact absurd h4 h2
    · rw [h4]
      have h5 : 0 ≤ G 27 s.toNatClampNeg := Decidable.byContradiction fun z => h3 (hh.1.mpr z)
      refine c_Mo_set h0 hzM (fun z => absurd h z) (fun _ z => absurd h5 z) (fun _ _ _ => ⟨rfl, ⟨hW, hT, hS, hP, rfl, h0⟩⟩) (fun _ _ z => ?_)
      have z : fnd (G 28 s.toNatClampNeg) i 1 = 0 := z
      rw [(hh.2 h5).1] at z
      exact absurd z h2
  · have hh := IS_at hS (sN h).1
    have h3 : ¬ G 4 s.toNatClampNeg = -1 := by
      rcases fnd_cases (G 4 s.toNatClampNeg) i 1 with ⟨h3, h4⟩ | ⟨h3, -⟩
      · rw [h4] at h2; exact absurd h2 (by decide)
      · exact h3
    have h5 : 0 ≤ G 27 s.toNatClampNeg := Decidable.byContradiction fun z => h3 (hh.1.mpr z)
    obtain ⟨g1, g2, g3, g4⟩ := hh.2 h5
    refine c_Mo_set h0 hzM (fun z => absurd h z) (fun _ z => absurd h5 z) (fun _ _ z => ?_) (fun _ _ _ => ⟨?_, ⟨hW, hT, ?_, hP, rfl, h0⟩⟩)
    · have z : ¬ fnd (G 28 s.toNatClampNeg) i 1 = 0 := z
      rw [g1] at z
      exact absurd h2 z
    · show some (Value.int (cut (G 27 s.toNatClampNeg) v)) = _
      rw [g2]
    · have hi := (fnd_0 g3 (by decide)).mp h2
      obtain ⟨-, e, -⟩ := toN h.1
      have hi0 : 0 ≤ i.toInt := by simpa using le32.mp hi.1
      have h6 : (G 4 s.toNatClampNeg).toInt ≤ 100 := by simpa using le32.mp g3.2
      have hi1 := hi.2
      simp at hi1
      have ei : ix s i = 100 * s.toNatClampNeg + i.toNatClampNeg := by
        unfold ix
        rw [e, clamp i]
        omega
      have hi8 := (sN h).1
      have ec : i.toNatClampNeg = i.toInt.toNat := rfl
      refine IS_put (s := s.toNatClampNeg) hS (Or.inr ⟨g3, ?_, g2, g1, fun k hk => ?_⟩) (fun q hq hn => ⟨rfl, rfl, rfl, rfl, fun k hk => ⟨?_, ?_⟩⟩)
      · rcases hS _ (sN h).1 with ⟨z, -⟩ | z
        · exact absurd z h3
        · exact z.2.1
      · show upd (G 2) (ix s i) _ (100 * s.toNatClampNeg + k) = upd (G 29) (ix s i) _ (100 * s.toNatClampNeg + k)
        rw [ei]
        unfold upd
        by_cases hk2 : 100 * s.toNatClampNeg + k = 100 * s.toNatClampNeg + i.toNatClampNeg
        · rw [if_pos hk2, if_pos hk2]
          show cut (G 3 _) v = cut (G 27 _) v
          rw [g2]
        · rw [if_neg hk2, if_neg hk2]
          exact g4 k hk
      · show upd (G 2) (ix s i) _ (100 * q + k) = G 2 (100 * q + k)
        exact if_neg (by rw [ei]; omega)
      · show upd (G 29) (ix s i) _ (100 * q + k) = G 29 (100 * q + k)
        exact if_neg (by rw [ei]; omega)
end
section
/-! places and reach -/
abbrev plc (r p : Int32) : Prop := (0 ≤ r ∧ r ≤ 7) ∧ 0 ≤ p ∧ p ≤ 11 - r
abbrev crn (c k : Int32) : Prop := (0 ≤ c ∧ c ≤ 11) ∧ 0 ≤ k ∧ k ≤ 30
def abI (x : Int32) : Int32 := if 0 ≤ x then x else 0 - x
abbrev nea (c k r p : Int32) : Prop := abI (p + r / 2 - c) + r ≤ k
theorem c_isPlace {X : Xt} {r p : Int32} {G : Gt} {Q : Qt} (K : Q (some (.int (bI (plc r p)))) G) : con X m_Pile_isPlace [.int r, .int p] G Q := by
  refine con_rn 40 [] (by decide) rfl ?_
  repeat' first | refine bib (fun h => ?_) (fun h => ?_) | refine bjb (fun h => ?_) (fun h => ?_) | refine bi (fun h => ?_) (fun h => ?_) | refine bj (fun h => ?_) (fun h => ?_) | refine vi (inI (by decide) (by decide)) ?_ | refine vi ?_ ?_ | refine zi (by decide) ?_ | refine zi ?_ ?_ | refine ni rfl ?_ | refine ni (bI_nar _) ?_ | refine c_within ?_
  all_goals first | exact Qi K (bI_t (by ((try simp only [plc, le32, lt32, eq32, ne_eq, cl_0, cl_1, cl_2, cl_3, cl_4, cl_5, cl_6] at *); (try simp only [Int32.reduceToInt] at *); omega))).symm | exact Qi K (bI_f (by ((try simp only [plc, le32, lt32, eq32, ne_eq, cl_0, cl_1, cl_2, cl_3, cl_4, cl_5, cl_6] at *); (try simp only [Int32.reduceToInt] at *); omega))).symm | (refine inI ?_ ?_ <;> ((try simp only [le32, lt32, eq32, ne_eq, cl_0, cl_1, cl_2, cl_3, cl_4, cl_5, cl_6] at *); (try simp only [Int32.reduceToInt] at *); omega))
theorem c_isNear {X : Xt} {c k r p : Int32} {G : Gt} {Q : Qt} (K : Q (some (.int (bI (nea c k r p)))) G) : con X m_Pile_isNear [.int c, .int k, .int r, .int p] G Q := by
  refine con_rn 40 [] (by decide) rfl ?_
  repeat' first | refine bib (fun h => ?_) (fun h => ?_) | refine bjb (fun h => ?_) (fun h => ?_) | refine bi (fun h => ?_) (fun h => ?_) | refine bj (fun h => ?_) (fun h => ?_) | refine vi (inI (by decide) (by decide)) ?_ | refine vi ?_ ?_ | refine zi (by decide) ?_ | refine zi ?_ ?_ | refine ni rfl ?_ | refine ni (bI_nar _) ?_
  · exact Qi K (bI_f (fun z => Int32.not_lt.mpr z h)).symm
  · exact Qi K (bI_t (Int32.not_lt.mp h)).symm
theorem c_size {X : Xt} {x : Int32} {G : Gt} {Q : Qt} (K : Q (some (.int (abI x))) G) : con X m_Mo_size [.int x] G Q := by
  refine con_rn 40 [] (by decide) rfl ?_
  repeat' first | refine bib (fun h => ?_) (fun h => ?_) | refine bjb (fun h => ?_) (fun h => ?_) | refine bi (fun h => ?_) (fun h => ?_) | refine bj (fun h => ?_) (fun h => ?_) | refine vi (inI (by decide) (by decide)) ?_ | refine vi ?_ ?_ | refine zi (by decide) ?_ | refine zi ?_ ?_ | refine ni rfl ?_ | refine ni (bI_nar _) ?_
  · exact Qi K (by rw [abI, if_pos h])
  · exact Qi K (by rw [abI, if_neg h, Int32.zero_sub])
theorem c_isReached {X : Xt} {c k r p : Int32} {G : Gt} {Q : Qt} (K : Q (some (.int (bI (nea c k r p)))) G) : con X m_Mo_isReached [.int c, .int k, .int r, .int p] G Q := by
  refine con_rn 40 [] (by decide) rfl ?_
  repeat' first | refine bib (fun h => ?_) (fun h => ?_) | refine bjb (fun h => ?_) (fun h => ?_) | refine bi (fun h => ?_) (fun h => ?_) | refine bj (fun h => ?_) (fun h => ?_) | refine vi (inI (by decide) (by decide)) ?_ | refine vi ?_ ?_ | refine zi (by decide) ?_ | refine zi ?_ ?_ | refine ni rfl ?_ | refine ni (bI_nar _) ?_ | refine c_size ?_
  · exact Qi K (bI_f (fun z => Int32.not_lt.mpr z h)).symm
  · exact Qi K (bI_t (Int32.not_lt.mp h)).symm
theorem c_MisPlace2 {X : Xt} {r p : Int32} {G : Gt} {Q : Qt} (K : Q (some (.int (bI (plc r p)))) G) : con X m_Mo_isPlace [.int r, .int p] G Q := c_MisPlace K
theorem c_SW_reaches {X : Xt} {c k r p : Int32} {G : Gt} {Q : Qt} (K1 : ¬ (crn c k ∧ plc r p) → Q (some (.int (-1000001))) G) (K2 : crn c k ∧ plc r p → Q (some (.int (bI (nea c k r p)))) G) : con X m_SW_reaches [.ref 0, .int c, .int k, .int r, .int p] G Q := by
  refine con_rn 60 [] (by decide) rfl ?_
  repeat' first | refine bib (fun h => ?_) (fun h => ?_) | refine bjb (fun h => ?_) (fun h => ?_) | refine bi (fun h => ?_) (fun h => ?_) | refine bj (fun h => ?_) (fun h => ?_) | refine vi (inI (by decide) (by decide)) ?_ | refine vi ?_ ?_ | refine zi (by decide) ?_ | refine zi ?_ ?_ | refine ni rfl ?_ | refine ni (bI_nar _) ?_ | refine c_isCrane ?_ | refine c_isPlace ?_ | refine c_isNear ?_
  · exact K1 (fun z => h z.1)
  · rename_i h1 h2; exact Qi (K2 ⟨h1, h2⟩) (bI_f h).symm
  · rename_i h1 h2; exact Qi (K2 ⟨h1, h2⟩) (bI_t h).symm
  · exact K1 (fun z => h z.2)
theorem c_Mo_reaches {X : Xt} {c k r p : Int32} {G : Gt} {Q : Qt} (h0 : G 26 0 = 0) (K1 : ¬ (crn c k ∧ plc r p) → Q (some (.int (-1000001))) G) (K2 : crn c k ∧ plc r p → Q (some (.int (bI (nea c k r p)))) G) : con X m_Mo_reaches [.ref 26, .int c, .int k, .int r, .int p] G Q := by
  refine con_rm 60 [] (by decide) rfl (by decide +kernel) h0 ?_
  repeat' first | refine bib (fun h => ?_) (fun h => ?_) | refine bjb (fun h => ?_) (fun h => ?_) | refine bi (fun h => ?_) (fun h => ?_) | refine bj (fun h => ?_) (fun h => ?_) | refine vi (inI (by decide) (by decide)) ?_ | refine vi ?_ ?_ | refine zi (by decide) ?_ | refine zi ?_ ?_ | refine ni rfl ?_ | refine ni (bI_nar _) ?_ | refine c_MisCrane ?_ | refine c_MisPlace2 ?_ | refine c_isReached ?_
  · exact K1 (fun z => h z.1)
  · rename_i h1 h2; exact Qi (K2 ⟨h1, h2⟩) (bI_f h).symm
  · rename_i h1 h2; exact Qi (K2 ⟨h1, h2⟩) (bI_t h).symm
  · exact K1 (fun z => h z.2)
theorem p_reaches {X : Xt} {G : Gt} (hI : Inv G) {c k r p : Int32} : pair X m_SW_reaches m_Mo_reaches [.int c, .int k, .int r, .int p] G := by
  obtain ⟨hW, hT, hS, hP, hs, h0⟩ := id hI
  refine c_SW_reaches (fun h => pq ?_) (fun h => pq ?_)
  · exact c_Mo_reaches h0 (fun _ => ⟨rfl, hI⟩) (fun z => absurd z h)
  · exact c_Mo_reaches h0 (fun z => absurd h z) (fun _ => ⟨rfl, hI⟩)
/-! waves: both sides bounce and add alike -/
def bnc (b : Int32) (v : Int32) : Nat → Int32
  | 0 => v
  | n + 1 => bnc b v n * b / 10
theorem w_bounced {X : Xt} {v b : Int32} {N : Nat} {G : Gt} {Q : Qt} (hN : N ≤ 100) (K : Q (some (.int (bnc b v N))) G) : ∀ (m j : Nat) (c t : Int32), c = nI j → j + m = N → t = bnc b v j → wp X m_Harbour_bounced 5 [(4, .int c), (3, .int t), (0, .int v), (1, .int b), (2, .int (nI N))] [] G Q
  | 0, j, c, t, hc, hj, ht => by
    subst hc
    have hj : j = N := by omega
    subst hj
    refine rn_wp (stops := [5]) 40 ?_
    refine bi (fun h => ?_) (fun h => ?_)
    · exact Qi K ht
    · exact absurd (Int32.le_refl _) h
  | m + 1, j, c, t, hc, hj, ht => by
    subst hc
    refine rn_wp (stops := [5]) 40 ?_
    refine bi (fun h => ?_) (fun h => ?_)
    · exfalso
      simp (disch := omega) only [nI_1, nI_add, nI_clamp, nI_leI, nI_ltI, nI_eq, nI_toInt] at h
      omega
    · refine zi (by decide) ?_
      refine w_bounced hN K m (j + 1) _ _ (nI_1 _) (by omega) ?_
      rw [ht]
      rfl
theorem c_bounced {X : Xt} {v b : Int32} {N : Nat} {G : Gt} {Q : Qt} (hN : N ≤ 100) (K : Q (some (.int (bnc b v N))) G) : con X m_Harbour_bounced [.int v, .int b, .int (nI N)] G Q := by
  refine con_rn 10 [5] (by decide) rfl ?_
  exact w_bounced hN K N 0 _ _ rfl (by omega) rfl
end
section
/-! waves -/
theorem abI_toInt {x : Int32} (h : -2147483648 < x.toInt) : (abI x).toInt = if 0 ≤ x.toInt then x.toInt else -x.toInt := by
  unfold abI
  by_cases h1 : 0 ≤ x
  · have h2 : 0 ≤ x.toInt := by simpa using le32.mp h1
    rw [if_pos h1, if_pos h2]
  · have h2 : ¬ 0 ≤ x.toInt := fun z => h1 (by rw [le32]; simpa using z)
    have h3 := rng x
    rw [if_neg h1, if_neg h2, subI (by simp; omega) (by simp; omega)]
    simp
/-- the harbour's measures, as they may be -/
def hbOK (w h b : Int32) : Prop := (1 ≤ w ∧ w ≤ 50) ∧ (1 ≤ h ∧ h ≤ 50) ∧ 0 ≤ b ∧ b ≤ 10
/-- how far, from the image a - k of 2 .. w -/
def fr (w x : Int32) (k a : Nat) : Int32 := abI (x - 2 * (nI a - nI k) * w)
theorem ik_toInt {k a : Nat} (hk : k ≤ 4) (ha : a ≤ 9) : (nI a - nI k).toInt = (a : Int) - k := by
  rw [subI (by rw [nI_toInt (by omega), nI_toInt (by omega)]; omega) (by rw [nI_toInt (by omega), nI_toInt (by omega)]; omega), nI_toInt (by omega), nI_toInt (by omega)]
theorem fr_rng {w x : Int32} {k a : Nat} (hk : k ≤ 4) (ha : a ≤ 2 * k) (hw : 1 ≤ w ∧ w ≤ 50) (hx : 0 ≤ x ∧ x ≤ 50) : 0 ≤ (fr w x k a).toInt ∧ (fr w x k a).toInt ≤ 450 := by
  have w1 : 1 ≤ w.toInt := by simpa using le32.mp hw.1
  have w2 : w.toInt ≤ 50 := by simpa using le32.mp hw.2
  have x1 : 0 ≤ x.toInt := by simpa using le32.mp hx.1
  have x2 : x.toInt ≤ 50 := by simpa using le32.mp hx.2
  have e1 := ik_toInt (k := k) (a := a) hk (by omega)
  have e2 : (2 * (nI a - nI k)).toInt = 2 * ((a : Int) - k) := by
    rw [mulI (by rw [e1]; simp; omega) (by rw [e1]; simp; omega), e1]; simp
  have b1 : -8 ≤ 2 * ((a : Int) - k) := by omega
  have b2 : 2 * ((a : Int) - k) ≤ 8 := by omega
  generalize 2 * ((a : Int) - k) = z at *
  have m1 : z * w.toInt ≤ 400 := by
    rcases Int.le_total 0 z with q | q
    · calc z * w.toInt ≤ 8 * 50 := Int.mul_le_mul b2 w2 (by omega) (by omega)
        _ = 400 := rfl
    · have := Int.mul_nonneg (show 0 ≤ -z by omega) (show 0 ≤ w.toInt by omega)
      rw [Int.neg_mul] at this
      omega
  have m2 : -400 ≤ z * w.toInt := by
    rcases Int.le_total 0 z with q | q
    · have := Int.mul_nonneg q (show 0 ≤ w.toInt by omega)
      omega
    · have : -z * w.toInt ≤ 8 * 50 := Int.mul_le_mul (by omega) w2 (by omega) (by omega)
      rw [Int.neg_mul] at this
      omega
  have e3 : (2 * (nI a - nI k) * w).toInt = z * w.toInt := by
    rw [mulI (by rw [e2]; omega) (by rw [e2]; omega), e2]
  have e4 : (x - 2 * (nI a - nI k) * w).toInt = x.toInt - z * w.toInt := by
    rw [subI (by rw [e3]; omega) (by rw [e3]; omega), e3]
  unfold fr
  rw [abI_toInt (by rw [e4]; omega), e4]
  split <;> omega
/-- what one image gives -/
def wt (w h b s x y : Int32) (k a c : Nat) (n : Nat) : Int32 := bnc b s n / (1 + (fr w x k a + fr h y k c))
theorem fr_div {w h x y : Int32} {k a c : Nat} (hk : k ≤ 4) (ha : a ≤ 2 * k) (hc : c ≤ 2 * k) (hw : 1 ≤ w ∧ w ≤ 50) (hh : 1 ≤ h ∧ h ≤ 50) (hx : 0 ≤ x ∧ x ≤ 50) (hy : 0 ≤ y ∧ y ≤ 50) : ¬ 1 + (fr w x k a + fr h y k c) = 0 := by
  have h1 := fr_rng hk ha hw hx
  have h2 := fr_rng hk hc hh hy
  rw [eq32]
  have e1 : (fr w x k a + fr h y k c).toInt = (fr w x k a).toInt + (fr h y k c).toInt := addI (by omega) (by omega)
  rw [addI (by rw [e1]; simp; omega) (by rw [e1]; simp; omega), e1]
  simp
  omega
/-- how often it has bounced: 2 |a - k| and 2 |c - k| -/
def bN (k a c : Nat) : Nat := 2 * (if k ≤ a then a - k else k - a) + 2 * (if k ≤ c then c - k else k - c)
theorem bN_eq {k a c : Nat} (hk : k ≤ 4) (ha : a ≤ 9) (hc : c ≤ 9) : 2 * abI (nI a - nI k) + 2 * abI (nI c - nI k) = nI (bN k a c) ∧ bN k a c ≤ 100 := by
  have hb : bN k a c ≤ 100 := by
    unfold bN
    split <;> split <;> omega
  refine ⟨?_, hb⟩
  have e1 := ik_toInt (k := k) (a := a) hk ha
  have e2 := ik_toInt (k := k) (a := c) hk hc
  have f1 := abI_toInt (x := nI a - nI k) (by rw [e1]; omega)
  have f2 := abI_toInt (x := nI c - nI k) (by rw [e2]; omega)
  rw [e1] at f1
  rw [e2] at f2
  have g1 : (2 * abI (nI a - nI k)).toInt = 2 * (abI (nI a - nI k)).toInt := by
    rw [mulI (by rw [f1]; split <;> simp <;> omega) (by rw [f1]; split <;> simp <;> omega)]; simp
  have g2 : (2 * abI (nI c - nI k)).toInt = 2 * (abI (nI c - nI k)).toInt := by
    rw [mulI (by rw [f2]; split <;> simp <;> omega) (by rw [f2]; split <;> simp <;> omega)]; simp
  rw [eq32, nI_toInt (by omega)]
  rw [addI (by rw [g1, g2, f1, f2]; split <;> split <;> omega) (by rw [g1, g2, f1, f2]; split <;> split <;> omega), g1, g2, f1, f2]
  unfold bN
  split <;> split <;> split <;> split <;> omega
end
section
/-! the class's sum of images -/
def inr (w h b s x y : Int32) (k a : Nat) (acc : Int64) : Nat → Int64
  | 0 => acc
  | c + 1 => inr w h b s x y k a acc c + (wt w h b s x y k a c (bN k a c)).toInt64
def otr (w h b s x y : Int32) (k : Nat) : Nat → Int64
  | 0 => 0
  | a + 1 => inr w h b s x y k a (otr w h b s x y k a) (2 * k + 1)
theorem c_bnc {X : Xt} {v b n : Int32} {N : Nat} {G : Gt} {Q : Qt} (hN : N ≤ 100) (hn : n = nI N) (K : Q (some (.int (bnc b v N))) G) : con X m_Harbour_bounced [.int v, .int b, .int n] G Q := by
  subst hn
  exact c_bounced hN K
theorem nk_step (k a : Nat) : nI a - nI k + 1 = nI (a + 1) - nI k := by
  rw [← nI_1, Int32.sub_eq_add_neg, Int32.sub_eq_add_neg, Int32.add_assoc, Int32.add_assoc, Int32.add_comm (-nI k) 1]
theorem nk_gt {k a : Nat} (hk : k ≤ 4) (ha : a ≤ 9) : nI k < nI a - nI k ↔ 2 * k < a := by
  rw [lt32, ik_toInt hk ha, nI_toInt (by omega)]
  omega
abbrev wL (w h b s x y : Int32) (k : Nat) : Lt := [(0, .int w), (1, .int h), (2, .int b), (3, .int s), (4, .int (nI k)), (5, .int x), (6, .int y)]
set_option maxRecDepth 4000 in
theorem w_inr {X : Xt} {w h b s x y : Int32} {k a : Nat} {acc : Int64} {G : Gt} {Q : Qt} (hk : k ≤ 4) (ha : a ≤ 2 * k) (hw : 1 ≤ w ∧ w ≤ 50) (hh : 1 ≤ h ∧ h ≤ 50) (hx : 0 ≤ x ∧ x ≤ 50) (hy : 0 ≤ y ∧ y ≤ 50) (K : wp X m_Harbour_comesTo 91 ((9, .int (nI a - nI k)) :: (7, .long (inr w h b s x y k a acc (2 * k + 1))) :: wL w h b s x y k) [] G Q) : ∀ (m c : Nat) (j : Int32) (t : Int64), j = nI c - nI k → c + m = 2 * k + 1 → t = inr w h b s x y k a acc c → wp X m_Harbour_comesTo 20 ((10, .int j) :: (9, .int (nI a - nI k)) :: (7, .long t) :: wL w h b s x y k) [] G Q
  | 0, c, j, t, hj, hc, ht => by
    subst hj
    subst ht
    have hc : c = 2 * k + 1 := by omega
    subst hc
    refine rn_wp (stops := [20, 91]) 80 ?_
    refine bi (fun g => ?_) (fun g => ?_)
    · exact wp_pick [1, 2, 3, 4, 5, 6, 7, 8, 9] K
    · exact absurd ((nk_gt hk (by omega)).mpr (by omega)) g
  | m + 1, c, j, t, hj, hc, ht => by
    subst hj
    have hb := bN_eq (k := k) (a := a) (c := c) hk (by omega) (by omega)
    have hd := fr_div (k := k) (a := a) (c := c) (w := w) (h := h) (x := x) (y := y) hk ha (by omega) hw hh hx hy
    refine rn_wp (stops := [20, 91]) 80 ?_
    refine bi (fun g => ?_) (fun g => ?_)
    · have := (nk_gt hk (by omega)).mp g
      omega
    · refine c_bnc hb.2 hb.1 ?_
      refine zi hd ?_
      refine wp_pick [0, 3, 1, 4, 5, 6, 7, 8, 9, 10] (w_inr hk ha hw hh hx hy K m (c + 1) _ _ (nk_step k c) (by omega) ?_)
      rw [ht]
      rfl
theorem w_otr {X : Xt} {w h b s x y : Int32} {k : Nat} {G : Gt} {Q : Qt} (hk : k ≤ 4) (hw : 1 ≤ w ∧ w ≤ 50) (hh : 1 ≤ h ∧ h ≤ 50) (hx : 0 ≤ x ∧ x ≤ 50) (hy : 0 ≤ y ∧ y ≤ 50) (K : Q (some (.long (otr w h b s x y k (2 * k + 1)))) G) : ∀ (m a : Nat) (i : Int32) (t : Int64), i = nI a - nI k → a + m = 2 * k + 1 → t = otr w h b s x y k a → wp X m_Harbour_comesTo 8 ((9, .int i) :: (7, .long t) :: wL w h b s x y k) [] G Q
  | 0, a, i, t, hi, ha, ht => by
    subst hi
    subst ht
    have ha : a = 2 * k + 1 := by omega
    subst ha
    refine rn_wp (stops := [8, 20]) 80 ?_
    refine bi (fun g => ?_) (fun g => ?_)
    · exact K
    · exact absurd ((nk_gt hk (by omega)).mpr (by omega)) g
  | m + 1, a, i, t, hi, ha, ht => by
    subst hi
    refine rn_wp (stops := [8, 20]) 80 ?_
    refine bi (fun g => ?_) (fun g => ?_)
    · have := (nk_gt hk (by omega)).mp g
      omega
    · refine w_inr (acc := t) hk (by omega) hw hh hx hy ?_ (2 * k + 1) 0 _ _ ?_ (by omega) rfl
      · refine rn_wp (stops := [8, 20]) 20 ?_
        refine w_otr hk hw hh hx hy K m (a + 1) _ _ (nk_step k a) (by omega) ?_
        rw [ht]
        rfl
      · rw [nI_0, Int32.zero_sub]
theorem c_comesTo {X : Xt} {w h b s x y : Int32} {k : Nat} {G : Gt} {Q : Qt} (hk : k ≤ 4) (hw : 1 ≤ w ∧ w ≤ 50) (hh : 1 ≤ h ∧ h ≤ 50) (hx : 0 ≤ x ∧ x ≤ 50) (hy : 0 ≤ y ∧ y ≤ 50) (K : Q (some (.long (otr w h b s x y k (2 * k + 1)))) G) : con X m_Harbour_comesTo [.int w, .int h, .int b, .int s, .int (nI k), .int x, .int y] G Q := by
  refine con_rn 10 [8] (by decide) rfl ?_
  exact w_otr hk hw hh hx hy K (2 * k + 1) 0 _ _ (by rw [nI_0, Int32.zero_sub]) (by omega) rfl
end
section
/-! the model's sum of images -/
set_option maxRecDepth 4000 in
theorem w_Mbnc {X : Xt} {w h b s x y i j : Int32} {k N : Nat} {t : Int64} {G : Gt} {Q : Qt} (hN : N ≤ 100) (hn : 2 * abI i + 2 * abI j = nI N) (K : wp X m_Mo_waveAt 68 ((11, .int (bnc b s N)) :: (10, .int j) :: (9, .int i) :: (7, .long t) :: wL w h b s x y k) [] G Q) : ∀ (m q : Nat) (c v : Int32), c = nI q → q + m = N → v = bnc b s q → wp X m_Mo_waveAt 33 ((12, .int c) :: (11, .int v) :: (10, .int j) :: (9, .int i) :: (7, .long t) :: wL w h b s x y k) [] G Q
  | 0, q, c, v, hc, hq, hv => by
    subst hc
    have hq : q = N := by omega
    subst hq
    subst hv
    refine rn_wp (stops := [33, 68]) 80 ?_
    refine c_size ?_
    refine c_size ?_
    refine bi (fun g => ?_) (fun g => ?_)
    · exact wp_pick [1, 2, 3, 4, 5, 6, 7, 8, 9, 10, 11] K
    · exact absurd (by rw [hn]; exact Int32.le_refl _) g
  | m + 1, q, c, v, hc, hq, hv => by
    subst hc
    refine rn_wp (stops := [33, 68]) 80 ?_
    refine c_size ?_
    refine c_size ?_
    refine bi (fun g => ?_) (fun g => ?_)
    · exfalso
      rw [hn] at g
      simp (disch := omega) only [nI_1, nI_add, nI_clamp, nI_leI, nI_ltI, nI_eq, nI_toInt] at g
      omega
    · refine zi (by decide) ?_
      refine wp_pick [0, 1, 2, 3, 4, 5, 6, 7, 8, 9, 10, 11] (w_Mbnc hN hn K m (q + 1) _ _ (nI_1 _) (by omega) ?_)
      rw [hv]
      rfl
set_option maxRecDepth 4000 in
theorem w_Minr {X : Xt} {w h b s x y : Int32} {k a : Nat} {acc : Int64} {G : Gt} {Q : Qt} (hk : k ≤ 4) (ha : a ≤ 2 * k) (hw : 1 ≤ w ∧ w ≤ 50) (hh : 1 ≤ h ∧ h ≤ 50) (hx : 0 ≤ x ∧ x ≤ 50) (hy : 0 ≤ y ∧ y ≤ 50) (K : wp X m_Mo_waveAt 110 ((9, .int (nI a - nI k)) :: (7, .long (inr w h b s x y k a acc (2 * k + 1))) :: wL w h b s x y k) [] G Q) : ∀ (m c : Nat) (j : Int32) (t : Int64), j = nI c - nI k → c + m = 2 * k + 1 → t = inr w h b s x y k a acc c → wp X m_Mo_waveAt 20 ((10, .int j) :: (9, .int (nI a - nI k)) :: (7, .long t) :: wL w h b s x y k) [] G Q
  | 0, c, j, t, hj, hc, ht => by
    subst hj
    subst ht
    have hc : c = 2 * k + 1 := by omega
    subst hc
    refine rn_wp (stops := [20, 33, 110]) 80 ?_
    refine bi (fun g => ?_) (fun g => ?_)
    · exact wp_pick [1, 2, 3, 4, 5, 6, 7, 8, 9] K
    · exact absurd ((nk_gt hk (by omega)).mpr (by omega)) g
  | m + 1, c, j, t, hj, hc, ht => by
    subst hj
    have hb := bN_eq (k := k) (a := a) (c := c) hk (by omega) (by omega)
    have hd := fr_div (k := k) (a := a) (c := c) (w := w) (h := h) (x := x) (y := y) hk ha (by omega) hw hh hx hy
    rw [← Int32.add_assoc] at hd
    refine rn_wp (stops := [20, 33, 110]) 80 ?_
    refine bi (fun g => ?_) (fun g => ?_)
    · have := (nk_gt hk (by omega)).mp g
      omega
    · refine w_Mbnc hb.2 hb.1 ?_ (bN k a c) 0 _ _ rfl (by omega) rfl
      refine rn_wp (stops := [20]) 60 ?_
      refine c_size ?_
      refine c_size ?_
      refine zi hd ?_
      refine wp_pick [0, 3, 1, 4, 5, 6, 7, 8, 9, 10] (w_Minr hk ha hw hh hx hy K m (c + 1) _ _ (nk_step k c) (by omega) ?_)
      rw [ht, inr, wt, ← Int32.add_assoc]
      rfl
theorem w_Motr {X : Xt} {w h b s x y : Int32} {k : Nat} {G : Gt} {Q : Qt} (hk : k ≤ 4) (hw : 1 ≤ w ∧ w ≤ 50) (hh : 1 ≤ h ∧ h ≤ 50) (hx : 0 ≤ x ∧ x ≤ 50) (hy : 0 ≤ y ∧ y ≤ 50) (K : Q (some (.long (otr w h b s x y k (2 * k + 1)))) G) : ∀ (m a : Nat) (i : Int32) (t : Int64), i = nI a - nI k → a + m = 2 * k + 1 → t = otr w h b s x y k a → wp X m_Mo_waveAt 8 ((9, .int i) :: (7, .long t) :: wL w h b s x y k) [] G Q
  | 0, a, i, t, hi, ha, ht => by
    subst hi
    subst ht
    have ha : a = 2 * k + 1 := by omega
    subst ha
    refine rn_wp (stops := [8, 20]) 80 ?_
    refine bi (fun g => ?_) (fun g => ?_)
    · exact K
    · exact absurd ((nk_gt hk (by omega)).mpr (by omega)) g
  | m + 1, a, i, t, hi, ha, ht => by
    subst hi
    refine rn_wp (stops := [8, 20]) 80 ?_
    refine bi (fun g => ?_) (fun g => ?_)
    · have := (nk_gt hk (by omega)).mp g
      omega
    · refine w_Minr (acc := t) hk (by omega) hw hh hx hy ?_ (2 * k + 1) 0 _ _ ?_ (by omega) rfl
      · refine rn_wp (stops := [8, 20]) 20 ?_
        refine w_Motr hk hw hh hx hy K m (a + 1) _ _ (nk_step k a) (by omega) ?_
        rw [ht]
        rfl
      · rw [nI_0, Int32.zero_sub]
theorem c_waveAt {X : Xt} {w h b s x y : Int32} {k : Nat} {G : Gt} {Q : Qt} (hk : k ≤ 4) (hw : 1 ≤ w ∧ w ≤ 50) (hh : 1 ≤ h ∧ h ≤ 50) (hx : 0 ≤ x ∧ x ≤ 50) (hy : 0 ≤ y ∧ y ≤ 50) (K : Q (some (.long (otr w h b s x y k (2 * k + 1)))) G) : con X m_Mo_waveAt [.int w, .int h, .int b, .int s, .int (nI k), .int x, .int y] G Q := by
  refine con_rn 10 [8] (by decide) rfl ?_
  exact w_Motr hk hw hh hx hy K (2 * k + 1) 0 _ _ (by rw [nI_0, Int32.zero_sub]) (by omega) rfl
end
section
/-! wave -/
def wvS (w h b s k x y : Int32) : Int64 := otr w h b s x y k.toNatClampNeg (2 * k.toNatClampNeg + 1)
theorem k4 {k : Int32} (hk : 0 ≤ k ∧ k ≤ 4) : k = nI k.toNatClampNeg ∧ k.toNatClampNeg ≤ 4 := by
  obtain ⟨e, e1, -⟩ := toN hk.1
  have : k.toInt ≤ 4 := by simpa using le32.mp hk.2
  exact ⟨e, by omega⟩
theorem le50 {x w : Int32} (hw : 1 ≤ w ∧ w ≤ 50) (hx : 0 ≤ x ∧ x ≤ w) : 0 ≤ x ∧ x ≤ 50 := ⟨hx.1, Int32.le_trans hx.2 hw.2⟩
abbrev hbP (w h b : Int32) : Prop := (1 ≤ w ∧ w ≤ 50) ∧ (1 ≤ h ∧ h ≤ 50) ∧ 0 ≤ b ∧ b ≤ 10
theorem c_comes {X : Xt} {w h b s k x y : Int32} {G : Gt} {Q : Qt} (hb : hbP w h b) (hk : 0 ≤ k ∧ k ≤ 4) (hx : 0 ≤ x ∧ x ≤ w) (hy : 0 ≤ y ∧ y ≤ h) (K : Q (some (.long (wvS w h b s k x y))) G) : con X m_Harbour_comesTo [.int w, .int h, .int b, .int s, .int k, .int x, .int y] G Q := by
  obtain ⟨e, e4⟩ := k4 hk
  have hc := @c_comesTo X w h b s x y k.toNatClampNeg G Q e4 hb.1 hb.2.1 (le50 hb.1 hx) (le50 hb.2.1 hy) K
  rw [← e] at hc
  exact hc
theorem c_Mwave {X : Xt} {w h b s k x y : Int32} {G : Gt} {Q : Qt} (hb : hbP w h b) (hk : 0 ≤ k ∧ k ≤ 4) (hx : 0 ≤ x ∧ x ≤ w) (hy : 0 ≤ y ∧ y ≤ h) (K : Q (some (.long (wvS w h b s k x y))) G) : con X m_Mo_waveAt [.int w, .int h, .int b, .int s, .int k, .int x, .int y] G Q := by
  obtain ⟨e, e4⟩ := k4 hk
  have hc := @c_waveAt X w h b s x y k.toNatClampNeg G Q e4 hb.1 hb.2.1 (le50 hb.1 hx) (le50 hb.2.1 hy) K
  rw [← e] at hc
  exact hc
theorem c_isOne {X : Xt} {w hh b : Int32} {G : Gt} {Q : Qt} (K : Q (some (.int (bI (hbP w hh b)))) G) : con X m_Harbour_isOne [.int w, .int hh, .int b] G Q := by
  refine con_rn 60 [] (by decide) rfl ?_
  repeat' first | refine bib (fun h => ?_) (fun h => ?_) | refine bjb (fun h => ?_) (fun h => ?_) | refine bi (fun h => ?_) (fun h => ?_) | refine bj (fun h => ?_) (fun h => ?_) | refine vi (inI (by decide) (by decide)) ?_ | refine vi ?_ ?_ | refine zi (by decide) ?_ | refine zi ?_ ?_ | refine ni rfl ?_ | refine ni (bI_nar _) ?_ | refine c_within ?_
  · exact Qi K (bI_f (fun z => h z.1)).symm
  · exact Qi K (bI_f (fun z => h z.2.1)).symm
  · exact Qi K (bI_f (fun z => h z.2.2)).symm
  · rename_i h1 h2; exact Qi K (bI_t ⟨h1, h2, h⟩).symm
abbrev wvP (w h b s k x y : Int32) : Prop := hbP w h b ∧ (1 ≤ s ∧ s ≤ 1000000) ∧ (0 ≤ k ∧ k ≤ 4) ∧ (0 ≤ x ∧ x ≤ w) ∧ 0 ≤ y ∧ y ≤ h
theorem c_SW_wave {X : Xt} {w e b s k x y : Int32} {G : Gt} {Q : Qt} (K1 : ¬ wvP w e b s k x y → Q (some (.long (-1000001))) G) (K2 : wvP w e b s k x y → Q (some (.long (wvS w e b s k x y))) G) : con X m_SW_wave [.ref 0, .int w, .int e, .int b, .int s, .int k, .int x, .int y] G Q := by
  refine con_rn 80 [] (by decide) rfl ?_
  repeat' first | refine bib (fun h => ?_) (fun h => ?_) | refine bjb (fun h => ?_) (fun h => ?_) | refine bi (fun h => ?_) (fun h => ?_) | refine bj (fun h => ?_) (fun h => ?_) | refine vi (inI (by decide) (by decide)) ?_ | refine vi ?_ ?_ | refine zi (by decide) ?_ | refine zi ?_ ?_ | refine ni rfl ?_ | refine ni (bI_nar _) ?_ | refine c_isOne ?_ | refine c_within ?_ | refine (c_comes (by assumption) (by assumption) (by assumption) (by assumption)) ?_
  · exact K1 (fun z => h z.1)
  · exact K1 (fun z => h z.2.1)
  · exact K1 (fun z => h z.2.2.1)
  · exact K1 (fun z => h z.2.2.2.1)
  · rename_i h1 h2 h3 h4; exact K2 ⟨h1, h2, h3, h4, h⟩
  · exact K1 (fun z => h z.2.2.2.2)
theorem c_isHarbour2 {X : Xt} {w e b : Int32} {G : Gt} {Q : Qt} (K : Q (some (.int (bI (hbP w e b)))) G) : con X m_Mo_isHarbour [.int w, .int e, .int b] G Q := c_isHarbour K
theorem c_Mo_wave {X : Xt} {w e b s k x y : Int32} {G : Gt} {Q : Qt} (h0 : G 26 0 = 0) (K1 : ¬ wvP w e b s k x y → Q (some (.long (-1000001))) G) (K2 : wvP w e b s k x y → Q (some (.long (wvS w e b s k x y))) G) : con X m_Mo_wave [.ref 26, .int w, .int e, .int b, .int s, .int k, .int x, .int y] G Q := by
  refine con_rm 80 [] (by decide) rfl (by decide +kernel) h0 ?_
  repeat' first | refine bib (fun h => ?_) (fun h => ?_) | refine bjb (fun h => ?_) (fun h => ?_) | refine bi (fun h => ?_) (fun h => ?_) | refine bj (fun h => ?_) (fun h => ?_) | refine vi (inI (by decide) (by decide)) ?_ | refine vi ?_ ?_ | refine zi (by decide) ?_ | refine zi ?_ ?_ | refine ni rfl ?_ | refine ni (bI_nar _) ?_ | refine c_isHarbour2 ?_ | refine (c_in 1 1000000 rfl rfl) ?_ | refine (c_in 0 4 rfl rfl) ?_ | refine (c_in 0 _ rfl rfl) ?_ | refine (c_Mwave (by assumption) (by assumption) (by assumption) (by assumption)) ?_
  · exact K1 (fun z => h z.1)
  · exact K1 (fun z => h z.2.1)
  · exact K1 (fun z => h z.2.2.1)
  · exact K1 (fun z => h z.2.2.2.1)
  · rename_i h1 h2 h3 h4; exact K2 ⟨h1, h2, h3, h4, h⟩
  · exact K1 (fun z => h z.2.2.2.2)
def pairL (X : Xt) (mx mm : Nat) (as : List Value) (G : Gt) : Prop := con X mx (.ref 0 :: as) G (fun r1 G1 => ∃ v, r1 = some (.long v) ∧ con X mm (.ref 26 :: as) G1 (fun r2 G2 => r2 = some (.long v) ∧ Inv G2))
theorem p_wave {X : Xt} {G : Gt} (hI : Inv G) {w e b s k x y : Int32} : pairL X m_SW_wave m_Mo_wave [.int w, .int e, .int b, .int s, .int k, .int x, .int y] G := by
  obtain ⟨hW, hT, hS, hP, hs, h0⟩ := id hI
  refine c_SW_wave (fun h => ⟨_, rfl, ?_⟩) (fun h => ⟨_, rfl, ?_⟩)
  · exact c_Mo_wave h0 (fun _ => ⟨rfl, hI⟩) (fun z => absurd z h)
  · exact c_Mo_wave h0 (fun z => absurd h z) (fun _ => ⟨rfl, hI⟩)
end
section
/-! the model's look at items -/
theorem lcmp_le (x y : Int64) : lg_cmp x y ≤ 0 ↔ x ≤ y := by
  rw [← Int64.not_lt, ← lcmp_gt, Int32.not_lt]
theorem add64 (i n : Int32) : (i.toInt64 + n.toInt64).toInt = i.toInt + n.toInt := by
  have h1 := rng i
  have h2 := rng n
  rw [Int64.toInt_add, Int32.toInt_toInt64, Int32.toInt_toInt64, Int.bmod_def]
  split <;> omega
theorem c_lookAt {X : Xt} {s i n : Int32} {G : Gt} {Q : Qt} (hs : 0 ≤ s ∧ s ≤ 7) (hn : 0 ≤ n) (hz : 0 ≤ G 27 s.toNatClampNeg → 0 ≤ G 28 s.toNatClampNeg ∧ G 28 s.toNatClampNeg ≤ 100) (K2 : ¬ 0 ≤ G 27 s.toNatClampNeg → Q (some (.int (-1000011))) (sG G 26 (upd (G 26) 1 1))) (K3 : 0 ≤ G 27 s.toNatClampNeg → ¬ fnd (G 28 s.toNatClampNeg) i n = 0 → Q (some (.int (-1000012))) (sG G 26 (upd (G 26) 1 2))) (K4 : 0 ≤ G 27 s.toNatClampNeg → fnd (G 28 s.toNatClampNeg) i n = 0 → Q (some (.int 0)) G) : con X m_Mo_lookAt [.ref 26, .int s, .int i, .int n] G Q := by
  have key : 0 ≤ G 27 s.toNatClampNeg → (fnd (G 28 s.toNatClampNeg) i n = 0 ↔ ¬ i < 0 ∧ lg_cmp (i.toInt64 + n.toInt64) (G 28 s.toNatClampNeg).toInt64 ≤ 0) := by
    intro h
    rw [fnd_0 (hz h) hn, lcmp_le, Int64.le_iff_toInt_le, add64, Int32.toInt_toInt64, Int32.not_lt]
  refine con_rn 60 [] (by decide) rfl ?_
  repeat' first | refine bib (fun h => ?_) (fun h => ?_) | refine bjb (fun h => ?_) (fun h => ?_) | refine bi (fun h => ?_) (fun h => ?_) | refine bj (fun h => ?_) (fun h => ?_) | refine vi (inI (by decide) (by decide)) ?_ | refine vi ?_ ?_ | refine zi (by decide) ?_ | refine zi ?_ ?_ | refine ni rfl ?_ | refine ni (bI_nar _) ?_ | refine c_Mfound ?_
  all_goals first | exact (sN hs).2 | skip
  · rename_i h1
    exact K3 h1 (fun z => ((key h1).mp z).1 h)
  · rename_i h1 h2
    exact K4 h1 ((key h1).mpr ⟨h2, h⟩)
  · rename_i h1 h2
    exact K3 h1 (fun z => h ((key h1).mp z).2)
  · exact K2 h
/-- both sides look at items: found alike, or nothing -/
theorem look_both {G : Gt} (hS : IS (G 2) (G 3) (G 4) (G 27) (G 28) (G 29)) {s : Int32} (hs : 0 ≤ s ∧ s ≤ 7) (i n : Int32) : (fnd (G 4 s.toNatClampNeg) i n = 1 ∧ ¬ 0 ≤ G 27 s.toNatClampNeg) ∨ (fnd (G 4 s.toNatClampNeg) i n = 2 ∧ 0 ≤ G 27 s.toNatClampNeg ∧ G 28 s.toNatClampNeg = G 4 s.toNatClampNeg) ∨ (fnd (G 4 s.toNatClampNeg) i n = 0 ∧ 0 ≤ G 27 s.toNatClampNeg ∧ G 28 s.toNatClampNeg = G 4 s.toNatClampNeg ∧ (0 ≤ G 4 s.toNatClampNeg ∧ G 4 s.toNatClampNeg ≤ 100) ∧ ∀ k : Nat, (k : Int) < (G 4 s.toNatClampNeg).toInt → G 2 (100 * s.toNatClampNeg + k) = G 29 (100 * s.toNatClampNeg + k)) := by
  have hh := IS_at hS (sN hs).1
  rcases fnd_cases (G 4 s.toNatClampNeg) i n with ⟨h3, h4⟩ | ⟨h3, h4⟩
  · exact Or.inl ⟨h4, hh.1.mp h3⟩
  · have h5 : 0 ≤ G 27 s.toNatClampNeg := Decidable.byContradiction fun z => h3 (hh.1.mpr z)
    obtain ⟨g1, g2, g3, g4⟩ := hh.2 h5
    rcases h4 with h4 | h4
    · exact Or.inr (Or.inr ⟨h4, h5, g1, g3, g4⟩)
    · exact Or.inr (Or.inl ⟨h4, h5, g1⟩)
theorem hzM {G : Gt} (hS : IS (G 2) (G 3) (G 4) (G 27) (G 28) (G 29)) {s : Int32} (h : 0 ≤ s ∧ s ≤ 7) (h2 : 0 ≤ G 27 s.toNatClampNeg) : 0 ≤ G 28 s.toNatClampNeg ∧ G 28 s.toNatClampNeg ≤ 100 := by
  have hh := (IS_at hS (sN h).1).2 h2
  rw [hh.1]
  exact hh.2.2.1
end
section
/-! calm: the class's part -/
theorem c_itemN {X : Xt} {s i : Int32} {j : Nat} {G : Gt} {Q : Qt} (hs : 0 ≤ s ∧ s ≤ 7) (hi : i = nI j) (hj : j < 100) (K : Q (some (.int (G 2 (100 * s.toNatClampNeg + j)))) G) : con X m_Sheets_item [.ref 1, .int s, .int i] G Q := by
  subst hi
  refine c_item hs (nI_pos' (by omega)) ?_ ?_
  · rw [show (100 : Int32) = nI 100 from rfl, nI_ltI (by omega) (by omega)]
    exact hj
  · rw [ix_nat hs (by omega)]
    exact K
theorem two_at (I p : Nat) : nI I + 2 * nI p = nI (I + 2 * p) := by
  rw [show (2 : Int32) = nI 2 from rfl, pk_mul, nI_add]
/-- n places, in rows (x, y) -/
def spP (f : Nat → Int32) (w h : Int32) (n : Nat) : Prop := ∀ p, p < n → (0 ≤ f (2 * p) ∧ f (2 * p) ≤ w) ∧ 0 ≤ f (2 * p + 1) ∧ f (2 * p + 1) ≤ h
set_option maxRecDepth 4000 in
theorem w_areSpots {X : Xt} {s w e : Int32} {I N : Nat} {G : Gt} {Q : Qt} (hs : 0 ≤ s ∧ s ≤ 7) (hN : I + 2 * N ≤ 100) (K1 : spP (fun k => G 2 (100 * s.toNatClampNeg + (I + k))) w e N → Q (some (.int 1)) G) (K2 : ¬ spP (fun k => G 2 (100 * s.toNatClampNeg + (I + k))) w e N → Q (some (.int 0)) G) : ∀ (m p : Nat) (c : Int32), c = nI p → p + m = N → spP (fun k => G 2 (100 * s.toNatClampNeg + (I + k))) w e p → wp X m_SW_areSpots 3 [(6, .int c), (0, .ref 0), (1, .int w), (2, .int e), (3, .int s), (4, .int (nI I)), (5, .int (nI N))] [] G Q
  | 0, p, c, hc, hp, hj => by
    subst hc
    have hp : p = N := by omega
    subst hp
    refine rn_wp (stops := [3]) 60 ?_
    refine bi (fun h => ?_) (fun h => ?_)
    · exact ni rfl (K1 hj)
    · exact absurd (Int32.le_refl _) h
  | m + 1, p, c, hc, hp, hj => by
    subst hc
    refine rn_wp (stops := [3]) 60 ?_
    refine bi (fun h => ?_) (fun h => ?_)
    · exfalso
      simp (disch := omega) only [nI_1, nI_add, nI_clamp, nI_leI, nI_ltI, nI_eq, nI_toInt] at h
      omega
    · refine c_itemN (j := I + 2 * p) hs (two_at I p) (by omega) ?_
      refine c_within ?_
      refine bib (fun h1 => ?_) (fun h1 => ?_)
      · exact ni rfl (K2 (fun z => h1 (z p (by omega)).1))
      · refine c_itemN (j := I + (2 * p + 1)) hs (by rw [two_at, nI_1]; rfl) (by omega) ?_
        refine c_within ?_
        refine bjb (fun h2 => ?_) (fun h2 => ?_)
        · refine wp_pick [0, 2, 3, 4, 5, 6, 7] (w_areSpots hs hN K1 K2 m (p + 1) _ (nI_1 _) (by omega) ?_)
          intro q hq
          rcases Nat.lt_succ_iff_lt_or_eq.mp hq with z | z
          · exact hj q z
          · rw [z]; exact ⟨h1, h2⟩
        · exact ni rfl (K2 (fun z => h2 (z p (by omega)).2))
theorem c_areSpots {X : Xt} {s w e : Int32} {I N : Nat} {G : Gt} {Q : Qt} (hs : 0 ≤ s ∧ s ≤ 7) (hN : I + 2 * N ≤ 100) (K1 : spP (fun k => G 2 (100 * s.toNatClampNeg + (I + k))) w e N → Q (some (.int 1)) G) (K2 : ¬ spP (fun k => G 2 (100 * s.toNatClampNeg + (I + k))) w e N → Q (some (.int 0)) G) : con X m_SW_areSpots [.ref 0, .int w, .int e, .int s, .int (nI I), .int (nI N)] G Q := by
  refine con_rn 10 [3] (by decide) rfl ?_
  exact w_areSpots hs hN K1 K2 N 0 _ rfl (by omega) (fun q hq => absurd hq (by omega))
/-- the calmest of the first n: which, and what comes there -/
def cm (g : Nat → Int64) : Nat → Nat × Int64
  | 0 => (0, 0)
  | p + 1 => if p = 0 ∨ g p < (cm g p).2 then (p, g p) else cm g p
set_option maxRecDepth 4000 in
theorem w_calmest {X : Xt} {s w e b : Int32} {I N : Nat} {G : Gt} {Q : Qt} (hs : 0 ≤ s ∧ s ≤ 7) (hN : I + 2 * N ≤ 100) (hb : hbP w e b) (hsp : spP (fun k => G 2 (100 * s.toNatClampNeg + (I + k))) w e N) (K : Q (some (.int (nI (cm (fun p => wvS w e b 1000000 2 (G 2 (100 * s.toNatClampNeg + (I + 2 * p))) (G 2 (100 * s.toNatClampNeg + (I + (2 * p + 1))))) N).1))) G) : ∀ (m p : Nat) (c bst : Int32) (lst : Int64), c = nI p → p + m = N → bst = nI (cm (fun p => wvS w e b 1000000 2 (G 2 (100 * s.toNatClampNeg + (I + 2 * p))) (G 2 (100 * s.toNatClampNeg + (I + (2 * p + 1))))) p).1 → lst = (cm (fun p => wvS w e b 1000000 2 (G 2 (100 * s.toNatClampNeg + (I + 2 * p))) (G 2 (100 * s.toNatClampNeg + (I + (2 * p + 1))))) p).2 → wp X m_SW_calmest 9 [(10, .int c), (8, .long lst), (7, .int bst), (0, .ref 0), (1, .int w), (2, .int e), (3, .int b), (4, .int s), (5, .int (nI I)), (6, .int (nI N))] [] G Q
  | 0, p, c, bst, lst, hc, hp, hb1, hl1 => by
    subst hc
    have hp : p = N := by omega
    subst hp
    refine rn_wp (stops := [9]) 60 ?_
    refine bi (fun h => ?_) (fun h => ?_)
    · exact Qi K hb1
    · exact absurd (Int32.le_refl _) h
  | m + 1, p, c, bst, lst, hc, hp, hb1, hl1 => by
    subst hc
    have hpp := hsp p (by omega)
    refine rn_wp (stops := [9]) 80 ?_
    refine bi (fun h => ?_) (fun h => ?_)
    · exfalso
      simp (disch := omega) only [nI_1, nI_add, nI_clamp, nI_leI, nI_ltI, nI_eq, nI_toInt] at h
      omega
    · refine c_itemN (j := I + 2 * p) hs (two_at I p) (by omega) ?_
      refine c_itemN (j := I + (2 * p + 1)) hs (by rw [two_at, nI_1]; rfl) (by omega) ?_
      refine c_comes hb (by decide) hpp.1 hpp.2 ?_
      have hp0 : nI p = 0 ↔ p = 0 := by
        rw [← nI_0, nI_eq (by omega) (by omega)]
      refine bi (fun h1 => ?_) (fun h1 => ?_)
      · refine wp_pick [0, 2, 1, 6, 7, 8, 9, 10, 11, 12] (w_calmest hs hN hb hsp K m (p + 1) _ _ _ (nI_1 _) (by omega) ?_ ?_)
        · rw [cm, if_pos (Or.inl (hp0.mp h1))]
        · rw [cm, if_pos (Or.inl (hp0.mp h1))]
      · refine bi (fun h2 => ?_) (fun h2 => ?_)
        · have h3 := (lg_cmp_ge _ _).mp h2
          rw [hl1] at h3
          refine wp_pick [0, 4, 5, 6, 7, 8, 9, 10, 11, 12] (w_calmest hs hN hb hsp K m (p + 1) _ _ _ (nI_1 _) (by omega) ?_ ?_)
          · rw [cm, if_neg (fun z => z.elim (fun q => h1 (hp0.mpr q)) (fun q => Int64.not_lt.mpr h3 q))]
            exact hb1
          · rw [cm, if_neg (fun z => z.elim (fun q => h1 (hp0.mpr q)) (fun q => Int64.not_lt.mpr h3 q))]
            exact hl1
        · have h3 := Int64.not_le.mp (fun z => h2 ((lg_cmp_ge _ _).mpr z))
          rw [hl1] at h3
          refine wp_pick [0, 2, 1, 6, 7, 8, 9, 10, 11, 12] (w_calmest hs hN hb hsp K m (p + 1) _ _ _ (nI_1 _) (by omega) ?_ ?_)
          · rw [cm, if_pos (Or.inr h3)]
          · rw [cm, if_pos (Or.inr h3)]
theorem c_calmest {X : Xt} {s w e b : Int32} {I N : Nat} {G : Gt} {Q : Qt} (hs : 0 ≤ s ∧ s ≤ 7) (hN : I + 2 * N ≤ 100) (hb : hbP w e b) (hsp : spP (fun k => G 2 (100 * s.toNatClampNeg + (I + k))) w e N) (K : Q (some (.int (nI (cm (fun p => wvS w e b 1000000 2 (G 2 (100 * s.toNatClampNeg + (I + 2 * p))) (G 2 (100 * s.toNatClampNeg + (I + (2 * p + 1))))) N).1))) G) : con X m_SW_calmest [.ref 0, .int w, .int e, .int b, .int s, .int (nI I), .int (nI N)] G Q := by
  refine con_rn 10 [9] (by decide) rfl ?_
  exact w_calmest hs hN hb hsp K N 0 _ _ _ rfl (by omega) rfl rfl
end
section
/-! calm: the model's part -/
theorem atM (A p : Nat) : nI A + 2 * nI p = nI (A + 2 * p) := two_at A p
abbrev cL6 (w e b : Int32) (S I N : Nat) : Lt := [(8, .int (nI (100 * S + I))), (0, .ref 26), (1, .int w), (2, .int e), (3, .int b), (4, .int (nI S)), (5, .int (nI I)), (6, .int (nI N))]
set_option maxRecDepth 4000 in
theorem w_Mspots {X : Xt} {w e b : Int32} {S I N : Nat} {G : Gt} {Q : Qt} (hS : S < 8) (hN : I + 2 * N ≤ 100) (K1 : spP (fun k => G 29 (100 * S + (I + k))) w e N → wp X m_Mo_calm 135 (cL6 w e b S I N) [] G Q) (K2 : ¬ spP (fun k => G 29 (100 * S + (I + k))) w e N → Q (some (.int (-1000001))) G) : ∀ (m p : Nat) (c : Int32), c = nI p → p + m = N → spP (fun k => G 29 (100 * S + (I + k))) w e p → wp X m_Mo_calm 73 ((9, .int c) :: cL6 w e b S I N) [] G Q
  | 0, p, c, hc, hp, hj => by
    subst hc
    have hp : p = N := by omega
    subst hp
    refine rn_wp (stops := [73, 135]) 60 ?_
    refine bi (fun h => ?_) (fun h => ?_)
    · exact wp_pick [1, 2, 3, 4, 5, 6, 7, 8] (K1 hj)
    · exact absurd (Int32.le_refl _) h
  | m + 1, p, c, hc, hp, hj => by
    subst hc
    refine rn_wp (stops := [73, 135]) 60 ?_
    refine bi (fun h => ?_) (fun h => ?_)
    · exfalso
      simp (disch := omega) only [nI_1, nI_add, nI_clamp, nI_leI, nI_ltI, nI_eq, nI_toInt] at h
      omega
    · have e1 : nI (100 * S + I) + 2 * nI p = nI (100 * S + (I + 2 * p)) := by rw [two_at, Nat.add_assoc]
      have e2 : nI (100 * S + I) + 2 * nI p + 1 = nI (100 * S + (I + (2 * p + 1))) := by rw [e1, nI_1]; rfl
      refine vi (by rw [e1]; exact vp_in_nI (by omega) (by omega)) ?_
      rw [e1, nI_clamp (by omega)]
      refine c_in 0 _ rfl rfl ?_
      refine bib (fun h1 => ?_) (fun h1 => ?_)
      · exact K2 (fun z => h1 (z p (by omega)).1)
      · refine vi (by rw [e2]; exact vp_in_nI (by omega) (by omega)) ?_
        rw [e2, nI_clamp (by omega)]
        refine c_in 0 _ rfl rfl ?_
        refine bjb (fun h2 => ?_) (fun h2 => ?_)
        · refine w_Mspots hS hN K1 K2 m (p + 1) _ (nI_1 _) (by omega) ?_
          intro q hq
          rcases Nat.lt_succ_iff_lt_or_eq.mp hq with z | z
          · exact hj q z
          · rw [z]; exact ⟨h1, h2⟩
        · exact K2 (fun z => h2 (z p (by omega)).2)
set_option maxRecDepth 4000 in
theorem w_Mcalm {X : Xt} {w e b : Int32} {S I N : Nat} {G : Gt} {Q : Qt} (hS : S < 8) (hN : I + 2 * N ≤ 100) (hb : hbP w e b) (hsp : spP (fun k => G 29 (100 * S + (I + k))) w e N) (K : Q (some (.int (nI (cm (fun p => wvS w e b 1000000 2 (G 29 (100 * S + (I + 2 * p))) (G 29 (100 * S + (I + (2 * p + 1))))) N).1))) G) : ∀ (m p : Nat) (c bst : Int32) (lst : Int64), c = nI p → p + m = N → bst = nI (cm (fun p => wvS w e b 1000000 2 (G 29 (100 * S + (I + 2 * p))) (G 29 (100 * S + (I + (2 * p + 1))))) p).1 → lst = (cm (fun p => wvS w e b 1000000 2 (G 29 (100 * S + (I + 2 * p))) (G 29 (100 * S + (I + (2 * p + 1))))) p).2 → wp X m_Mo_calm 149 ((12, .int c) :: (10, .long lst) :: (9, .int bst) :: cL6 w e b S I N) [] G Q
  | 0, p, c, bst, lst, hc, hp, hb1, hl1 => by
    subst hc
    have hp : p = N := by omega
    subst hp
    refine rn_wp (stops := [149]) 60 ?_
    refine bi (fun h => ?_) (fun h => ?_)
    · exact Qi K hb1
    · exact absurd (Int32.le_refl _) h
  | m + 1, p, c, bst, lst, hc, hp, hb1, hl1 => by
    subst hc
    have hpp := hsp p (by omega)
    refine rn_wp (stops := [149]) 80 ?_
    refine bi (fun h => ?_) (fun h => ?_)
    · exfalso
      simp (disch := omega) only [nI_1, nI_add, nI_clamp, nI_leI, nI_ltI, nI_eq, nI_toInt] at h
      omega
    · have e1 : nI (100 * S + I) + 2 * nI p = nI (100 * S + (I + 2 * p)) := by rw [two_at, Nat.add_assoc]
      have e2 : nI (100 * S + I) + 2 * nI p + 1 = nI (100 * S + (I + (2 * p + 1))) := by rw [e1, nI_1]; rfl
      refine vi (by rw [e1]; exact vp_in_nI (by omega) (by omega)) ?_
      refine vi (by rw [e2]; exact vp_in_nI (by omega) (by omega)) ?_
      rw [e2, e1, nI_clamp (by omega), nI_clamp (by omega)]
      refine c_Mwave hb (by decide) hpp.1 hpp.2 ?_
      have hp0 : nI p = 0 ↔ p = 0 := by
        rw [← nI_0, nI_eq (by omega) (by omega)]
      refine bi (fun h1 => ?_) (fun h1 => ?_)
      · refine wp_pick [0, 1, 2, 4, 5, 6, 7, 8, 9, 10, 11] (w_Mcalm hS hN hb hsp K m (p + 1) _ _ _ (nI_1 _) (by omega) ?_ ?_)
        · rw [cm, if_pos (Or.inl (hp0.mp h1))]
        · rw [cm, if_pos (Or.inl (hp0.mp h1))]
      · refine bi (fun h2 => ?_) (fun h2 => ?_)
        · have h3 := (lg_cmp_ge _ _).mp h2
          rw [hl1] at h3
          refine wp_pick [0, 2, 3, 4, 5, 6, 7, 8, 9, 10, 11] (w_Mcalm hS hN hb hsp K m (p + 1) _ _ _ (nI_1 _) (by omega) ?_ ?_)
          · rw [cm, if_neg (fun z => z.elim (fun q => h1 (hp0.mpr q)) (fun q => Int64.not_lt.mpr h3 q))]
            exact hb1
          · rw [cm, if_neg (fun z => z.elim (fun q => h1 (hp0.mpr q)) (fun q => Int64.not_lt.mpr h3 q))]
            exact hl1
        · have h3 := Int64.not_le.mp (fun z => h2 ((lg_cmp_ge _ _).mpr z))
          rw [hl1] at h3
          refine wp_pick [0, 1, 2, 4, 5, 6, 7, 8, 9, 10, 11] (w_Mcalm hS hN hb hsp K m (p + 1) _ _ _ (nI_1 _) (by omega) ?_ ?_)
          · rw [cm, if_pos (Or.inr h3)]
          · rw [cm, if_pos (Or.inr h3)]
end
section
/-! calm, the pair -/
abbrev clP (w e b s n : Int32) : Prop := hbP w e b ∧ (0 ≤ s ∧ s ≤ 7) ∧ 1 ≤ n ∧ n ≤ 50
theorem twoN {n : Int32} (hn : 1 ≤ n ∧ n ≤ 50) : n = nI n.toNatClampNeg ∧ 1 ≤ n.toNatClampNeg ∧ n.toNatClampNeg ≤ 50 ∧ 2 * n = nI (2 * n.toNatClampNeg) ∧ (2 * n).toInt = 2 * (n.toNatClampNeg : Int) ∧ 0 ≤ 2 * n := by
  obtain ⟨e, e1, -⟩ := toN (x := n) (Int32.le_trans (by decide) hn.1)
  have h1 : 1 ≤ n.toInt := by simpa using le32.mp hn.1
  have h2 : n.toInt ≤ 50 := by simpa using le32.mp hn.2
  have e2 : 2 * n = nI (2 * n.toNatClampNeg) := by
    rw [show (2 : Int32) = nI 2 from rfl]
    conv => lhs; rw [e]
    rw [pk_mul]
  refine ⟨e, by omega, by omega, e2, ?_, ?_⟩
  · rw [e2, nI_toInt (by omega)]; omega
  · rw [e2]; exact nI_pos' (by omega)
def clV (f : Nat → Int32) (w e b : Int32) (N : Nat) : Int32 := nI (cm (fun p => wvS w e b 1000000 2 (f (2 * p)) (f (2 * p + 1))) N).1
theorem c_SW_calm {X : Xt} {w e b s i n : Int32} {G : Gt} {Q : Qt} (hz : 0 ≤ s ∧ s ≤ 7 → ¬ G 4 s.toNatClampNeg = -1 → 0 ≤ G 4 s.toNatClampNeg ∧ G 4 s.toNatClampNeg ≤ 100) (K1 : ¬ clP w e b s n → Q (some (.int (-1000001))) G) (K2 : clP w e b s n → ¬ fnd (G 4 s.toNatClampNeg) i (2 * n) = 0 → Q (some (.int (-1000010 - fnd (G 4 s.toNatClampNeg) i (2 * n)))) (sG G 0 (upd (G 0) 7 (fnd (G 4 s.toNatClampNeg) i (2 * n))))) (K3 : clP w e b s n → fnd (G 4 s.toNatClampNeg) i (2 * n) = 0 → ¬ spP (fun k => G 2 (100 * s.toNatClampNeg + (i.toNatClampNeg + k))) w e n.toNatClampNeg → Q (some (.int (-1000001))) G) (K4 : clP w e b s n → fnd (G 4 s.toNatClampNeg) i (2 * n) = 0 → spP (fun k => G 2 (100 * s.toNatClampNeg + (i.toNatClampNeg + k))) w e n.toNatClampNeg → Q (some (.int (clV (fun k => G 2 (100 * s.toNatClampNeg + (i.toNatClampNeg + k))) w e b n.toNatClampNeg))) (sG G 0 (upd (G 0) 7 0))) : con X m_SW_calm [.ref 0, .int w, .int e, .int b, .int s, .int i, .int n] G Q := by
  have hi : clP w e b s n → fnd (G 4 s.toNatClampNeg) i (2 * n) = 0 → i = nI i.toNatClampNeg ∧ i.toNatClampNeg + 2 * n.toNatClampNeg ≤ 100 := by
    intro h1 h2
    obtain ⟨-, -, -, -, t5, t6⟩ := twoN h1.2.2
    rcases fnd_cases (G 4 s.toNatClampNeg) i (2 * n) with ⟨-, h3⟩ | ⟨h3, -⟩
    · rw [h3] at h2; exact absurd h2 (by decide)
    · have h4 := hz h1.2.1 h3
      have h5 := (fnd_0 h4 t6).mp h2
      have h6 : (G 4 s.toNatClampNeg).toInt ≤ 100 := by simpa using le32.mp h4.2
      obtain ⟨e1, e2, -⟩ := toN h5.1
      exact ⟨e1, by have := h5.2; omega⟩
  refine con_rn 80 [] (by decide) rfl ?_
  repeat' first | refine bib (fun h => ?_) (fun h => ?_) | refine bjb (fun h => ?_) (fun h => ?_) | refine bi (fun h => ?_) (fun h => ?_) | refine bj (fun h => ?_) (fun h => ?_) | refine vi (inI (by decide) (by decide)) ?_ | refine vi ?_ ?_ | refine zi (by decide) ?_ | refine zi ?_ ?_ | refine ni rfl ?_ | refine ni (bI_nar _) ?_ | refine c_isOne ?_ | refine c_isNumber ?_ | refine c_within ?_ | refine (c_fnd (by assumption)) ?_ | refine c_found ?_
  · exact K1 (fun z => h z.1)
  · exact K1 (fun z => h z.2.1)
  · rename_i h1 h2 h3
    obtain ⟨ei, hI⟩ := hi ⟨h1, h2, h3⟩ h
    obtain ⟨en, -⟩ := twoN h3
    have ha := fun Q => @c_areSpots X s w e i.toNatClampNeg n.toNatClampNeg G Q h2 hI
    have hc := fun Q => @c_calmest X s w e b i.toNatClampNeg n.toNatClampNeg G Q h2 hI h1
    rw [← ei, ← en] at ha hc
    refine ha _ (fun hsp => ?_) (fun hsp => ?_)
    · refine bj_f (by decide) ?_
      refine hc _ hsp ?_
      refine c_fine ?_
      exact K4 ⟨h1, h2, h3⟩ h hsp
    · refine bj_t rfl ?_
      exact K3 ⟨h1, h2, h3⟩ h hsp
  · rename_i h1 h2 h3
    exact K2 ⟨h1, h2, h3⟩ h
  · exact K1 (fun z => h z.2.2)
theorem c_Mo_calm {X : Xt} {w e b s i n : Int32} {G : Gt} {Q : Qt} (h0 : G 26 0 = 0) (hz : 0 ≤ s ∧ s ≤ 7 → 0 ≤ G 27 s.toNatClampNeg → 0 ≤ G 28 s.toNatClampNeg ∧ G 28 s.toNatClampNeg ≤ 100) (K1 : ¬ clP w e b s n → Q (some (.int (-1000001))) G) (K2 : clP w e b s n → ¬ 0 ≤ G 27 s.toNatClampNeg → Q (some (.int (-1000011))) (sG G 26 (upd (G 26) 1 1))) (K3 : clP w e b s n → 0 ≤ G 27 s.toNatClampNeg → ¬ fnd (G 28 s.toNatClampNeg) i (2 * n) = 0 → Q (some (.int (-1000012))) (sG G 26 (upd (G 26) 1 2))) (K4 : clP w e b s n → 0 ≤ G 27 s.toNatClampNeg → fnd (G 28 s.toNatClampNeg) i (2 * n) = 0 → ¬ spP (fun k => G 29 (100 * s.toNatClampNeg + (i.toNatClampNeg + k))) w e n.toNatClampNeg → Q (some (.int (-1000001))) G) (K5 : clP w e b s n → 0 ≤ G 27 s.toNatClampNeg → fnd (G 28 s.toNatClampNeg) i (2 * n) = 0 → spP (fun k => G 29 (100 * s.toNatClampNeg + (i.toNatClampNeg + k))) w e n.toNatClampNeg → Q (some (.int (clV (fun k => G 29 (100 * s.toNatClampNeg + (i.toNatClampNeg + k))) w e b n.toNatClampNeg))) (sG G 26 (upd (G 26) 1 0))) : con X m_Mo_calm [.ref 26, .int w, .int e, .int b, .int s, .int i, .int n] G Q := by
  refine con_rm 80 [73] (by decide) rfl (by decide +kernel) h0 ?_
  repeat' first | refine bib (fun h => ?_) (fun h => ?_) | refine bjb (fun h => ?_) (fun h => ?_) | refine bi (fun h => ?_) (fun h => ?_) | refine bj (fun h => ?_) (fun h => ?_) | refine vi (inI (by decide) (by decide)) ?_ | refine vi ?_ ?_ | refine zi (by decide) ?_ | refine zi ?_ ?_ | refine ni rfl ?_ | refine ni (bI_nar _) ?_ | refine c_isHarbour2 ?_ | refine c_isSheet ?_ | refine (c_in 1 50 rfl rfl) ?_
  · exact K1 (fun z => h z.1)
  · exact K1 (fun z => h z.2.1)
  · rename_i h1 h2
    have hcl : clP w e b s n := ⟨h1, h2, h⟩
    obtain ⟨en, t2, t3, t4, t5, t6⟩ := twoN h
    refine c_lookAt h2 t6 (hz h2) (fun g => ?_) (fun g g2 => ?_) (fun g g2 => ?_)
    · refine bi_f (by decide) ?_
      exact K2 hcl g
    · refine bi_f (by decide) ?_
      exact K3 hcl g g2
    · have h4 := hz h2 g
      have h5 := (fnd_0 h4 t6).mp g2
      have h6 : (G 28 s.toNatClampNeg).toInt ≤ 100 := by simpa using le32.mp h4.2
      obtain ⟨ei, ei2, -⟩ := toN h5.1
      have hI : i.toNatClampNeg + 2 * n.toNatClampNeg ≤ 100 := by have := h5.2; omega
      obtain ⟨es, -, -⟩ := toN h2.1
      have hS := (sN h2).1
      have k4 := K4 hcl g g2
      have k5 := K5 hcl g g2
      clear K1 K2 K3 K4 K5 g g2 h4 h5 h6 t2 t3 t4 t5 t6 hz ei2 hcl h
      generalize s.toNatClampNeg = S at *
      generalize i.toNatClampNeg = I at *
      generalize n.toNatClampNeg = N at *
      subst es
      subst ei
      subst en
      refine bi_t (by decide) ?_
      have e8 : 100 * nI S + nI I = nI (100 * S + I) := (ixM hS (by omega)).2
      have hw : wp X m_Mo_calm 73 [(9, .int 0), (8, .int (100 * nI S + nI I)), (0, .ref 26), (1, .int w), (2, .int e), (3, .int b), (4, .int (nI S)), (5, .int (nI I)), (6, .int (nI N))] [] G Q := by
        rw [e8]
        refine w_Mspots hS hI (fun hsp => ?_) k4 N 0 _ rfl (by omega) (fun q hq => absurd hq (by omega))
        refine rn_wp (stops := [149]) 20 ?_
        exact w_Mcalm (G := sG G 26 (upd (G 26) 1 0)) hS hI h1 hsp (k5 hsp) N 0 _ _ _ rfl (by omega) rfl rfl
      exact wp_pick [0, 1, 3, 4, 5, 6, 7, 8, 9] hw
  · exact K1 (fun z => h z.2.2)
theorem cm_congr {g g' : Nat → Int64} : ∀ (n : Nat), (∀ p, p < n → g p = g' p) → cm g n = cm g' n
  | 0, _ => rfl
  | n + 1, h => by
    rw [cm, cm, cm_congr n (fun p hp => h p (by omega)), h n (by omega)]
theorem sp_congr {f f' : Nat → Int32} {w e : Int32} {N : Nat} (h : ∀ k, k < 2 * N → f k = f' k) (hs : spP f w e N) : spP f' w e N := by
  intro p hp
  have h1 := hs p hp
  rw [h (2 * p) (by omega), h (2 * p + 1) (by omega)] at h1
  exact h1
theorem cl_congr {f f' : Nat → Int32} {w e b : Int32} {N : Nat} (h : ∀ k, k < 2 * N → f k = f' k) : clV f w e b N = clV f' w e b N := by
  unfold clV
  rw [cm_congr N (fun p hp => by rw [h (2 * p) (by omega), h (2 * p + 1) (by omega)])]
theorem p_calm {X : Xt} {G : Gt} (hI : Inv G) {w e b s i n : Int32} : pair X m_SW_calm m_Mo_calm [.int w, .int e, .int b, .int s, .int i, .int n] G := by
  obtain ⟨hW, hT, hS, hP, hs, h0⟩ := id hI
  have hzX : 0 ≤ s ∧ s ≤ 7 → ¬ G 4 s.toNatClampNeg = -1 → 0 ≤ G 4 s.toNatClampNeg ∧ G 4 s.toNatClampNeg ≤ 100 := by
    intro h h2
    have hh := IS_at hS (sN h).1
    exact (hh.2 (Decidable.byContradiction fun z => h2 (hh.1.mpr z))).2.2.1
  have hq : clP w e b s n → fnd (G 4 s.toNatClampNeg) i (2 * n) = 0 → 0 ≤ G 27 s.toNatClampNeg ∧ G 28 s.toNatClampNeg = G 4 s.toNatClampNeg ∧ ∀ k, k < 2 * n.toNatClampNeg → G 2 (100 * s.toNatClampNeg + (i.toNatClampNeg + k)) = G 29 (100 * s.toNatClampNeg + (i.toNatClampNeg + k)) := by
    intro h h2
    obtain ⟨-, -, -, -, t5, t6⟩ := twoN h.2.2
    rcases look_both hS h.2.1 i (2 * n) with ⟨g1, g2⟩ | ⟨g1, g2, g3⟩ | ⟨g1, g2, g3, g4, g5⟩
    · rw [g1] at h2; exact absurd h2 (by decide)
    · rw [g1] at h2; exact absurd h2 (by decide)
    · have h5 := (fnd_0 g4 t6).mp h2
      obtain ⟨-, ei2, -⟩ := toN h5.1
      exact ⟨g2, g3, fun k hk => g5 _ (by have := h5.2; omega)⟩
  refine c_SW_calm hzX (fun h => pq ?_) (fun h h2 => pq ?_) (fun h h2 h3 => pq ?_) (fun h h2 h3 => pq ?_)
  · exact c_Mo_calm h0 (fun a c => hzM hS a c) (fun _ => ⟨rfl, hI⟩) (fun z => absurd z h) (fun z => absurd z h) (fun z => absurd z h) (fun z => absurd z h)
  · rcases look_both hS h.2.1 i (2 * n) with ⟨g1, g2⟩ | ⟨g1, g2, g3⟩ | ⟨g1, -⟩
    · rw [g1]
      exact c_Mo_calm h0 (fun a c => hzM hS a c) (fun z => absurd h z) (fun _ _ => ⟨rfl, ⟨hW, hT, hS, hP, rfl, h0⟩⟩) (fun _ z => absurd z g2) (fun _ z => absurd z g2) (fun _ z => absurd z g2)
    · rw [g1]
      refine c_Mo_calm h0 (fun a c => hzM hS a c) (fun z => absurd h z) (fun _ z => absurd g2 z) (fun _ _ _ => ⟨rfl, ⟨hW, hT, hS, hP, rfl, h0⟩⟩) (fun _ _ z => ?_) (fun _ _ z => ?_)
      · have z : fnd (G 28 s.toNatClampNeg) i (2 * n) = 0 := z
        rw [g3] at z
        exact absurd z h2
      · have z : fnd (G 28 s.toNatClampNeg) i (2 * n) = 0 := z
        rw [g3] at z
        exact absurd z h2
    · exact absurd g1 h2
  · obtain ⟨q1, q2, q3⟩ := hq h h2
    refine c_Mo_calm h0 (fun a c => hzM hS a c) (fun z => absurd h z) (fun _ z => absurd q1 z) (fun _ _ z => ?_) (fun _ _ _ _ => ⟨rfl, hI⟩) (fun _ _ _ z => absurd (sp_congr (fun k hk => (q3 k hk).symm) z) h3)
    have z : ¬ fnd (G 28 s.toNatClampNeg) i (2 * n) = 0 := z
    rw [q2] at z
    exact absurd h2 z
  · obtain ⟨q1, q2, q3⟩ := hq h h2
    refine c_Mo_calm h0 (fun a c => hzM hS a c) (fun z => absurd h z) (fun _ z => absurd q1 z) (fun _ _ z => ?_) (fun _ _ _ z => absurd (sp_congr q3 h3) z) (fun _ _ _ _ => ⟨?_, ⟨hW, hT, hS, hP, rfl, h0⟩⟩)
    · have z : ¬ fnd (G 28 s.toNatClampNeg) i (2 * n) = 0 := z
      rw [q2] at z
      exact absurd h2 z
    · show some (Value.int (clV (fun k => G 29 (100 * s.toNatClampNeg + (i.toNatClampNeg + k))) w e b n.toNatClampNeg)) = some (Value.int (clV (fun k => G 2 (100 * s.toNatClampNeg + (i.toNatClampNeg + k))) w e b n.toNatClampNeg))
      rw [cl_congr q3]
end
section
/-! bits of ints (pasted from the kit's laws, the family bt) -/
def bt (x : Int32) (i : Nat) : Bool := x.toBitVec.getLsbD i
theorem b_or (x y : Int32) (i : Nat) : bt (x ||| y) i = (bt x i || bt y i) := by unfold bt; rw [Int32.toBitVec_or, BitVec.getLsbD_or]
theorem b_and (x y : Int32) (i : Nat) : bt (x &&& y) i = (bt x i && bt y i) := by unfold bt; rw [Int32.toBitVec_and, BitVec.getLsbD_and]
theorem b_xor (x y : Int32) (i : Nat) : bt (x ^^^ y) i = (bt x i ^^ bt y i) := by unfold bt; rw [Int32.toBitVec_xor, BitVec.getLsbD_xor]
theorem b_big {x : Int32} {i : Nat} (h : 32 ≤ i) : bt x i = false := BitVec.getLsbD_of_ge _ _ h
theorem b_m1 : ∀ i, i < 32 → bt (-1) i = true := by decide +kernel
theorem s_l : ∀ n, n < 32 → ((nI n &&& 31).toBitVec.smod 32).toNat = n := by decide +kernel
theorem b_1sh : ∀ P, P < 32 → ∀ i, i < 32 → bt ((1 : Int32) <<< (nI P &&& 31)) i = decide (i = P) := by decide +kernel
/-- an int of none below 0, by its bits -/
theorem bt_tb {x : Int32} (h : 0 ≤ x.toInt) (i : Nat) : bt x i = x.toInt.toNat.testBit i := by
  have e : x.toInt.toNat = x.toBitVec.toNat := by
    have h1 : x.toInt = x.toBitVec.toInt := rfl
    have h2 := x.toBitVec.isLt
    rw [h1] at h
    rw [h1]
    rw [BitVec.toInt_eq_toNat_cond] at h ⊢
    split
    · omega
    · rename_i h3
      rw [if_neg h3] at h
      omega
  rw [e, BitVec.testBit_toNat]
  rfl
/-- an int with no bit from n on, n below 32 -/
theorem bt_small {x : Int32} {n : Nat} (hn : n < 32) (h : ∀ i, n ≤ i → i < 32 → bt x i = false) : 0 ≤ x.toInt ∧ x.toInt < 2 ^ n := by
  have h1 : x.toBitVec.toNat < 2 ^ n := by
    apply Nat.lt_pow_two_of_testBit
    intro i hi
    rw [BitVec.testBit_toNat]
    by_cases h32 : i < 32
    · exact h i hi h32
    · exact b_big (Nat.le_of_not_lt h32)
  have h2 : (2 : Nat) ^ n ≤ 2 ^ 31 := Nat.pow_le_pow_right (by omega) (by omega)
  have h3 : x.toInt = (x.toBitVec.toNat : Int) := by
    have h4 : x.toInt = x.toBitVec.toInt := rfl
    rw [h4, BitVec.toInt_eq_toNat_cond, if_pos (by omega)]
  rw [h3]
  refine ⟨by omega, ?_⟩
  exact_mod_cast h1
/-- bit P put on -/
theorem bit_on {x : Int32} {n P : Nat} (hn : n < 32) (hP : P < n) (h0 : 0 ≤ x.toInt) (h1 : x.toInt < 2 ^ n) : (0 ≤ (x ||| (1 : Int32) <<< (nI P &&& 31)).toInt ∧ (x ||| (1 : Int32) <<< (nI P &&& 31)).toInt < 2 ^ n) ∧ ∀ j, j < 32 → (x ||| (1 : Int32) <<< (nI P &&& 31)).toInt.toNat.testBit j = (x.toInt.toNat.testBit j || decide (j = P)) := by
  have hx : ∀ i, n ≤ i → x.toInt.toNat.testBit i = false := fun i hi => Nat.testBit_lt_two_pow (Nat.lt_of_lt_of_le (show x.toInt.toNat < 2 ^ n by
    have : ((2 ^ n : Nat) : Int) = (2 : Int) ^ n := by exact_mod_cast rfl
    omega) (Nat.pow_le_pow_right (by omega) hi))
  have hr := bt_small (x := x ||| (1 : Int32) <<< (nI P &&& 31)) hn (fun i hi h32 => by rw [b_or, b_1sh P (by omega) i h32, bt_tb h0, hx i hi, decide_eq_false (by omega)]; rfl)
  refine ⟨hr, fun j hj => ?_⟩
  rw [← bt_tb hr.1, b_or, b_1sh P (by omega) j hj, bt_tb h0]
/-- bit P put off -/
theorem bit_off {x : Int32} {n P : Nat} (hn : n < 32) (hP : P < n) (h0 : 0 ≤ x.toInt) (h1 : x.toInt < 2 ^ n) : (0 ≤ (x &&& ((1 : Int32) <<< (nI P &&& 31) ^^^ (-1))).toInt ∧ (x &&& ((1 : Int32) <<< (nI P &&& 31) ^^^ (-1))).toInt < 2 ^ n) ∧ ∀ j, j < 32 → (x &&& ((1 : Int32) <<< (nI P &&& 31) ^^^ (-1))).toInt.toNat.testBit j = (x.toInt.toNat.testBit j && !decide (j = P)) := by
  have hx : ∀ i, n ≤ i → x.toInt.toNat.testBit i = false := fun i hi => Nat.testBit_lt_two_pow (Nat.lt_of_lt_of_le (show x.toInt.toNat < 2 ^ n by
    have : ((2 ^ n : Nat) : Int) = (2 : Int) ^ n := by exact_mod_cast rfl
    omega) (Nat.pow_le_pow_right (by omega) hi))
  have hr := bt_small (x := x &&& ((1 : Int32) <<< (nI P &&& 31) ^^^ (-1))) hn (fun i hi h32 => by rw [b_and, bt_tb h0, hx i hi]; rfl)
  refine ⟨hr, fun j hj => ?_⟩
  rw [← bt_tb hr.1, b_and, b_xor, b_1sh P (by omega) j hj, bt_tb h0, b_m1 j hj, Bool.xor_true]
theorem c_isIn {X : Xt} {x p : Int32} {B P : Nat} {G : Gt} {Q : Qt} (hx : x = nI B) (hp : p = nI P) (hB : B < 2 ^ 31) (hP : P < 32) (K : Q (some (.int (bI (B.testBit P = true)))) G) : con X m_Mo_isIn [.int x, .int p] G Q := by
  subst hx
  subst hp
  have e : (nI B >>> (nI P &&& 31)) &&& 1 = nI (B / 2 ^ P % 2) := by
    rw [pk_shrN hB _ P (s_l P hP), pk_andN (Nat.lt_of_le_of_lt (Nat.div_le_self _ _) (by omega)) 1 rfl]
  have e2 : B.testBit P = true ↔ nI (B / 2 ^ P % 2) = 1 := by
    rw [Nat.testBit_eq_decide_div_mod_eq, decide_eq_true_iff, show (1 : Int32) = nI 1 from rfl, nI_eq (by omega) (by omega)]
  refine con_rn 40 [] (by decide) rfl ?_
  repeat' first | refine bib (fun h => ?_) (fun h => ?_) | refine bjb (fun h => ?_) (fun h => ?_) | refine bi (fun h => ?_) (fun h => ?_) | refine bj (fun h => ?_) (fun h => ?_) | refine vi (inI (by decide) (by decide)) ?_ | refine vi ?_ ?_ | refine zi (by decide) ?_ | refine zi ?_ ?_ | refine ni rfl ?_ | refine ni (bI_nar _) ?_
  · exact absurd h (nI_pos (by omega))
  · rw [e] at h
    exact Qi K (bI_f (fun z => h (e2.mp z))).symm
  · rw [e] at h
    exact Qi K (bI_t (e2.mpr h)).symm
theorem c_isIn_n {X : Xt} {x p : Int32} {G : Gt} {Q : Qt} (hp : p < 0) (K : Q (some (.int 0)) G) : con X m_Mo_isIn [.int x, .int p] G Q := by
  refine con_rn 40 [] (by decide) rfl ?_
  repeat' first | refine bib (fun h => ?_) (fun h => ?_) | refine bjb (fun h => ?_) (fun h => ?_) | refine bi (fun h => ?_) (fun h => ?_) | refine bj (fun h => ?_) (fun h => ?_) | refine vi (inI (by decide) (by decide)) ?_ | refine vi ?_ ?_ | refine zi (by decide) ?_ | refine zi ?_ ?_ | refine ni rfl ?_ | refine ni (bI_nar _) ?_
  · exact K
  · exact absurd hp (by assumption)
  · exact absurd hp (by assumption)
/-! the pile -/
theorem plcN {r p : Int32} (h : plc r p) : ∃ R P : Nat, r = nI R ∧ p = nI P ∧ R < 8 ∧ P + R < 12 := by
  obtain ⟨e1, e2, -⟩ := toN h.1.1
  obtain ⟨e3, e4, -⟩ := toN h.2.1
  have h1 : r.toInt ≤ 7 := by simpa using le32.mp h.1.2
  have h2 : (11 - r).toInt = 11 - r.toInt := by rw [subI (by simp; omega) (by simp; omega)]; simp
  have h3 := le32.mp h.2.2
  exact ⟨_, _, e1, e3, by omega, by omega⟩
theorem plcI {R P : Nat} (hR : R < 8) (hP : P + R < 12) : plc (nI R) (nI P) := by
  have h2 : (11 - nI R).toInt = 11 - (R : Int) := by rw [subI (by rw [nI_toInt (by omega)]; simp; omega) (by rw [nI_toInt (by omega)]; simp; omega), nI_toInt (by omega)]; simp
  refine ⟨⟨nI_pos' (by omega), ?_⟩, nI_pos' (by omega), ?_⟩
  · rw [show (7 : Int32) = nI 7 from rfl, nI_leI (by omega) (by omega)]; omega
  · rw [le32, h2, nI_toInt (by omega)]; omega
theorem c_at {X : Xt} {r p : Int32} {R P : Nat} {G : Gt} {Q : Qt} (hr : r = nI R) (hp : p = nI P) (K : Q (some (.int (nI (12 * R + P)))) G) : con X m_Pile_at [.int r, .int p] G Q := by
  subst hr
  subst hp
  refine con_rn 40 [] (by decide) rfl ?_
  repeat' first | refine bib (fun h => ?_) (fun h => ?_) | refine bjb (fun h => ?_) (fun h => ?_) | refine bi (fun h => ?_) (fun h => ?_) | refine bj (fun h => ?_) (fun h => ?_) | refine vi (inI (by decide) (by decide)) ?_ | refine vi ?_ ?_ | refine zi (by decide) ?_ | refine zi ?_ ?_ | refine ni rfl ?_ | refine ni (bI_nar _) ?_
  refine Qi K ?_
  rw [show (12 : Int32) = nI 12 from rfl, pk_mul, nI_add, Nat.mul_comm]
/-- what bears a place -/
abbrev brn (f : Nat → Int32) (R P : Nat) : Prop := R = 0 ∨ (¬ f (12 * (R - 1) + P) = 0 ∧ ¬ f (12 * (R - 1) + (P + 1)) = 0)
theorem nI_m1 {R : Nat} (h : 0 < R) : nI R - 1 = nI (R - 1) := by
  obtain ⟨z, rfl⟩ : ∃ z, R = z + 1 := ⟨R - 1, by omega⟩
  rw [nI_pred]
  rfl
theorem c_isBorne {X : Xt} {q : Nat} {r p : Int32} {R P : Nat} {G : Gt} {Q : Qt} (hq : q = 15 ∨ q = 16) (hr : r = nI R) (hp : p = nI P) (hR : R < 8) (hP : P + R < 12) (K : Q (some (.int (bI (brn (G q) R P)))) G) : con X m_Pile_isBorne [.ref q, .int r, .int p] G Q := by
  subst hr
  subst hp
  rcases Nat.eq_zero_or_pos R with h0 | h0
  · subst h0
    rcases hq with rfl | rfl
    all_goals
      refine con_rn 60 [] (by decide) rfl ?_
      refine bi_t rfl ?_
      exact ni rfl (Qi K (bI_t (Or.inl rfl)).symm)
  · have e1 := nI_m1 h0
    have hz : ¬ nI R = 0 := nI_ne0 h0 (by omega)
    rcases hq with rfl | rfl
    all_goals
      refine con_rn 60 [] (by decide) rfl ?_
      refine bi_f hz ?_
      refine c_at e1 rfl ?_
      refine vi (vp_in_nI (by omega) (by omega)) ?_
      rw [nI_clamp (by omega)]
      refine bi (fun h => ?_) (fun h => ?_)
      · refine ni rfl (Qi K (bI_f (fun z => ?_)).symm)
        rcases z with z | z
        · omega
        · exact z.1 h
      · refine c_at e1 (nI_1 P) ?_
        refine vi (vp_in_nI (by omega) (by omega)) ?_
        rw [nI_clamp (by omega)]
        refine bi (fun h2 => ?_) (fun h2 => ?_)
        · refine ni rfl (Qi K (bI_f (fun z => ?_)).symm)
          rcases z with z | z
          · omega
          · exact z.2 h2
        · exact ni rfl (Qi K (bI_t (Or.inr ⟨h, h2⟩)).symm)
theorem c_add {X : Xt} {R P : Nat} {G : Gt} {Q : Qt} (hR : R < 8) (hP : P + R < 12) (K1 : ¬ (G 15 (12 * R + P) = 0 ∧ brn (G 15) R P) → Q (some (.int 0)) G) (K2 : G 15 (12 * R + P) = 0 ∧ brn (G 15) R P → Q (some (.int 1)) (sG (sG G 15 (upd (G 15) (12 * R + P) 1)) 14 (upd (G 14) 3 (G 14 3 + 1)))) : con X m_Pile_add [.ref 14, .int (nI R), .int (nI P)] G Q := by
  refine con_rn 60 [] (by decide) rfl ?_
  refine c_at rfl rfl ?_
  refine vi (vp_in_nI (by omega) (by omega)) ?_
  rw [nI_clamp (by omega)]
  refine bj (fun h => ?_) (fun h => ?_)
  · exact ni rfl (K1 (fun z => h z.1))
  · refine c_isBorne (Or.inl rfl) rfl rfl hR hP ?_
    refine bjb (fun h2 => ?_) (fun h2 => ?_)
    · refine c_at rfl rfl ?_
      refine vi (vp_in_nI (by omega) (by omega)) ?_
      rw [nI_clamp (by omega)]
      exact ni rfl (K2 ⟨h, h2⟩)
    · exact ni rfl (K1 (fun z => h2 z.2))
/-- what lies on a place -/
abbrev brs (f : Nat → Int32) (R : Nat) (a : Int32) : Prop := plc (nI R + 1) a ∧ ¬ f (12 * (R + 1) + a.toNatClampNeg) = 0
theorem c_bears {X : Xt} {a : Int32} {R : Nat} {G : Gt} {Q : Qt} (hR : R < 8) (K : Q (some (.int (bI (brs (G 15) R a)))) G) : con X m_Pile_bears [.ref 14, .int (nI R), .int a] G Q := by
  refine con_rn 60 [] (by decide) rfl ?_
  refine c_isPlace ?_
  refine bib (fun h => ?_) (fun h => ?_)
  · exact ni rfl (Qi K (bI_f (fun z => h z.1)).symm)
  · obtain ⟨R1, P, e1, e2, h1, h2⟩ := plcN h
    rw [nI_1, nI_eq (by omega) (by omega)] at e1
    subst e1
    subst e2
    refine c_at (nI_1 R) rfl ?_
    refine vi (vp_in_nI (by omega) (by omega)) ?_
    rw [nI_clamp (by omega)]
    have e3 : (nI P).toNatClampNeg = P := nI_clamp (by omega)
    refine bi (fun h3 => ?_) (fun h3 => ?_)
    · refine ni rfl (Qi K (bI_f (fun z => z.2 ?_)).symm)
      rw [e3]; exact h3
    · refine ni rfl (Qi K (bI_t ⟨h, ?_⟩).symm)
      rw [e3]; exact h3
theorem c_take {X : Xt} {R P : Nat} {G : Gt} {Q : Qt} (hR : R < 8) (hP : P + R < 12) (K1 : ¬ (¬ G 15 (12 * R + P) = 0 ∧ ¬ brs (G 15) R (nI P - 1) ∧ ¬ brs (G 15) R (nI P)) → Q (some (.int 0)) G) (K2 : ¬ G 15 (12 * R + P) = 0 ∧ ¬ brs (G 15) R (nI P - 1) ∧ ¬ brs (G 15) R (nI P) → Q (some (.int 1)) (sG (sG G 15 (upd (G 15) (12 * R + P) 0)) 14 (upd (G 14) 3 (G 14 3 - 1)))) : con X m_Pile_take [.ref 14, .int (nI R), .int (nI P)] G Q := by
  refine con_rn 60 [] (by decide) rfl ?_
  refine c_at rfl rfl ?_
  refine vi (vp_in_nI (by omega) (by omega)) ?_
  rw [nI_clamp (by omega)]
  refine bi (fun h => ?_) (fun h => ?_)
  · exact ni rfl (K1 (fun z => z.1 h))
  · refine c_bears hR ?_
    refine bjb (fun h2 => ?_) (fun h2 => ?_)
    · exact ni rfl (K1 (fun z => z.2.1 h2))
    · refine c_bears hR ?_
      refine bib (fun h3 => ?_) (fun h3 => ?_)
      · refine c_at rfl rfl ?_
        refine vi (vp_in_nI (by omega) (by omega)) ?_
        rw [nI_clamp (by omega)]
        exact ni rfl (K2 ⟨h, h2, h3⟩)
      · exact ni rfl (K1 (fun z => z.2.2 h3))
theorem c_SW_lay {X : Xt} {r p : Int32} {G : Gt} {Q : Qt} (K1 : ¬ plc r p → Q (some (.int (-1000001))) G) (K2 : ∀ R P : Nat, r = nI R → p = nI P → R < 8 → P + R < 12 → ¬ (G 15 (12 * R + P) = 0 ∧ brn (G 15) R P) → Q (some (.int (-1000002))) G) (K3 : ∀ R P : Nat, r = nI R → p = nI P → R < 8 → P + R < 12 → G 15 (12 * R + P) = 0 ∧ brn (G 15) R P → Q (some (.int 1)) (sG (sG G 15 (upd (G 15) (12 * R + P) 1)) 14 (upd (G 14) 3 (G 14 3 + 1)))) : con X m_SW_lay [.ref 0, .int r, .int p] G Q := by
  refine con_rn 60 [] (by decide) rfl ?_
  refine c_isPlace ?_
  refine bjb (fun h => ?_) (fun h => ?_)
  · obtain ⟨R, P, e1, e2, h1, h2⟩ := plcN h
    subst e1
    subst e2
    refine c_add h1 h2 (fun z => ?_) (fun z => ?_)
    · refine bi_t rfl ?_
      exact K2 R P rfl rfl h1 h2 z
    · refine bi_f (by decide) ?_
      exact K3 R P rfl rfl h1 h2 z
  · exact K1 h
theorem c_SW_lift {X : Xt} {r p : Int32} {G : Gt} {Q : Qt} (K1 : ¬ plc r p → Q (some (.int (-1000001))) G) (K2 : ∀ R P : Nat, r = nI R → p = nI P → R < 8 → P + R < 12 → ¬ (¬ G 15 (12 * R + P) = 0 ∧ ¬ brs (G 15) R (nI P - 1) ∧ ¬ brs (G 15) R (nI P)) → Q (some (.int (-1000002))) G) (K3 : ∀ R P : Nat, r = nI R → p = nI P → R < 8 → P + R < 12 → ¬ G 15 (12 * R + P) = 0 ∧ ¬ brs (G 15) R (nI P - 1) ∧ ¬ brs (G 15) R (nI P) → Q (some (.int 1)) (sG (sG G 15 (upd (G 15) (12 * R + P) 0)) 14 (upd (G 14) 3 (G 14 3 - 1)))) : con X m_SW_lift [.ref 0, .int r, .int p] G Q := by
  refine con_rn 60 [] (by decide) rfl ?_
  refine c_isPlace ?_
  refine bjb (fun h => ?_) (fun h => ?_)
  · obtain ⟨R, P, e1, e2, h1, h2⟩ := plcN h
    subst e1
    subst e2
    refine c_take h1 h2 (fun z => ?_) (fun z => ?_)
    · refine bi_t rfl ?_
      exact K2 R P rfl rfl h1 h2 z
    · refine bi_f (by decide) ?_
      exact K3 R P rfl rfl h1 h2 z
  · exact K1 h
end
section
/-! lay, lift: the model, the pairs -/
theorem rN {x : Int32} (h : 0 ≤ x.toInt) : x = nI x.toInt.toNat ∧ x.toInt.toNat < 2 ^ 31 := by
  have h2 := rng x
  have h4 : x.toInt.toNat < 2 ^ 31 := by omega
  refine ⟨eq32.mpr ?_, h4⟩
  rw [nI_toInt h4]
  omega
abbrev tb (f : Nat → Int32) (R P : Nat) : Prop := (f R).toInt.toNat.testBit P = true
abbrev canM (f : Nat → Int32) (R P : Nat) : Prop := ¬ tb f R P ∧ (R = 0 ∨ (tb f (R - 1) P ∧ tb f (R - 1) (P + 1)))
abbrev offM (f : Nat → Int32) (R P : Nat) : Prop := tb f R P ∧ (R = 7 ∨ (¬ tb f (R + 1) P ∧ (P = 0 ∨ ¬ tb f (R + 1) (P - 1))))
theorem c_Mo_lay {X : Xt} {r p : Int32} {G : Gt} {Q : Qt} (h0 : G 26 0 = 0) (hro : ∀ r, r < 8 → 0 ≤ (G 37 r).toInt) (K1 : ¬ plc r p → Q (some (.int (-1000001))) G) (K2 : ∀ R P : Nat, r = nI R → p = nI P → R < 8 → P + R < 12 → ¬ canM (G 37) R P → Q (some (.int (-1000002))) G) (K3 : ∀ R P : Nat, r = nI R → p = nI P → R < 8 → P + R < 12 → canM (G 37) R P → Q (some (.int 1)) (sG G 37 (upd (G 37) R (G 37 R ||| (1 : Int32) <<< (nI P &&& 31))))) : con X m_Mo_lay [.ref 26, .int r, .int p] G Q := by
  refine con_rm 80 [] (by decide) rfl (by decide +kernel) h0 ?_
  refine c_MisPlace2 ?_
  refine bjb (fun h => ?_) (fun h => ?_)
  · obtain ⟨R, P, e1, e2, h1, h2⟩ := plcN h
    subst e1
    subst e2
    have k2 := K2 R P rfl rfl h1 h2
    have k3 := K3 R P rfl rfl h1 h2
    refine vi (vp_in_nI (by omega) (by omega)) ?_
    rw [nI_clamp (by omega)]
    refine c_isIn (rN (hro R h1)).1 rfl (rN (hro R h1)).2 (by omega) ?_
    refine bjb (fun h3 => ?_) (fun h3 => ?_)
    · exact k2 (fun z => z.1 h3)
    · refine bi (fun h4 => ?_) (fun h4 => ?_)
      · have hz : R = 0 := by
          rw [← nI_0, nI_leI (by omega) (by omega)] at h4
          omega
        refine vi (vp_in_nI (by omega) (by omega)) ?_
        refine vi (vp_in_nI (by omega) (by omega)) ?_
        rw [nI_clamp (by omega)]
        exact k3 ⟨h3, Or.inl hz⟩
      · have hz : 0 < R := by
          rw [← nI_0, nI_leI (by omega) (by omega)] at h4
          omega
        refine vi (by rw [nI_m1 hz]; exact vp_in_nI (by omega) (by omega)) ?_
        rw [nI_m1 hz, nI_clamp (by omega)]
        refine c_isIn (rN (hro (R - 1) (by omega))).1 rfl (rN (hro (R - 1) (by omega))).2 (by omega) ?_
        refine bib (fun h5 => ?_) (fun h5 => ?_)
        · refine k2 (fun z => ?_)
          rcases z.2 with q | q
          · omega
          · exact h5 q.1
        · refine vi (by rw [nI_m1 hz]; exact vp_in_nI (by omega) (by omega)) ?_
          rw [nI_m1 hz, nI_clamp (by omega)]
          refine c_isIn (rN (hro (R - 1) (by omega))).1 (nI_1 P) (rN (hro (R - 1) (by omega))).2 (by omega) ?_
          refine bjb (fun h6 => ?_) (fun h6 => ?_)
          · refine vi (vp_in_nI (by omega) (by omega)) ?_
            refine vi (vp_in_nI (by omega) (by omega)) ?_
            rw [nI_clamp (by omega)]
            exact k3 ⟨h3, Or.inr ⟨h5, h6⟩⟩
          · refine k2 (fun z => ?_)
            rcases z.2 with q | q
            · omega
            · exact h6 q.2
  · exact K1 h
theorem c_Mo_lift {X : Xt} {r p : Int32} {G : Gt} {Q : Qt} (h0 : G 26 0 = 0) (hro : ∀ r, r < 8 → 0 ≤ (G 37 r).toInt) (K1 : ¬ plc r p → Q (some (.int (-1000001))) G) (K2 : ∀ R P : Nat, r = nI R → p = nI P → R < 8 → P + R < 12 → ¬ offM (G 37) R P → Q (some (.int (-1000002))) G) (K3 : ∀ R P : Nat, r = nI R → p = nI P → R < 8 → P + R < 12 → offM (G 37) R P → Q (some (.int 1)) (sG G 37 (upd (G 37) R (G 37 R &&& ((1 : Int32) <<< (nI P &&& 31) ^^^ (-1)))))) : con X m_Mo_lift [.ref 26, .int r, .int p] G Q := by
  refine con_rm 80 [] (by decide) rfl (by decide +kernel) h0 ?_
  refine c_MisPlace2 ?_
  refine bjb (fun h => ?_) (fun h => ?_)
  · obtain ⟨R, P, e1, e2, h1, h2⟩ := plcN h
    subst e1
    subst e2
    have k2 := K2 R P rfl rfl h1 h2
    have k3 := K3 R P rfl rfl h1 h2
    refine vi (vp_in_nI (by omega) (by omega)) ?_
    rw [nI_clamp (by omega)]
    refine c_isIn (rN (hro R h1)).1 rfl (rN (hro R h1)).2 (by omega) ?_
    refine bib (fun h3 => ?_) (fun h3 => ?_)
    · exact k2 (fun z => h3 z.1)
    · refine bi (fun h4 => ?_) (fun h4 => ?_)
      · have hz : R = 7 := by
          rw [show (7 : Int32) = nI 7 from rfl, nI_leI (by omega) (by omega)] at h4
          omega
        refine vi (vp_in_nI (by omega) (by omega)) ?_
        refine vi (vp_in_nI (by omega) (by omega)) ?_
        rw [nI_clamp (by omega)]
        exact k3 ⟨h3, Or.inl hz⟩
      · have hz : R < 7 := by
          rw [show (7 : Int32) = nI 7 from rfl, nI_leI (by omega) (by omega)] at h4
          omega
        refine vi (by rw [nI_1 R]; exact vp_in_nI (by omega) (by omega)) ?_
        rw [nI_1 R, nI_clamp (by omega)]
        refine c_isIn (rN (hro (R + 1) (by omega))).1 rfl (rN (hro (R + 1) (by omega))).2 (by omega) ?_
        refine bjb (fun h5 => ?_) (fun h5 => ?_)
        · refine k2 (fun z => ?_)
          rcases z.2 with q | q
          · omega
          · exact q.1 h5
        · refine vi (by rw [nI_1 R]; exact vp_in_nI (by omega) (by omega)) ?_
          rw [nI_1 R, nI_clamp (by omega)]
          rcases Nat.eq_zero_or_pos P with hp | hp
          · subst hp
            refine c_isIn_n (by decide) ?_
            refine bi_t rfl ?_
            refine vi (vp_in_nI (by omega) (by omega)) ?_
            refine vi (vp_in_nI (by omega) (by omega)) ?_
            rw [nI_clamp (by omega)]
            exact k3 ⟨h3, Or.inr ⟨h5, Or.inl rfl⟩⟩
          · refine c_isIn (rN (hro (R + 1) (by omega))).1 (nI_m1 hp) (rN (hro (R + 1) (by omega))).2 (by omega) ?_
            refine bib (fun h6 => ?_) (fun h6 => ?_)
            · refine vi (vp_in_nI (by omega) (by omega)) ?_
              refine vi (vp_in_nI (by omega) (by omega)) ?_
              rw [nI_clamp (by omega)]
              exact k3 ⟨h3, Or.inr ⟨h5, Or.inr h6⟩⟩
            · refine k2 (fun z => ?_)
              rcases z.2 with q | q
              · omega
              · rcases q.2 with q | q
                · omega
                · exact q h6
  · exact K1 h
theorem cnt_out {f : Nat → Int32} {k : Nat} {v : Int32} : ∀ {n : Nat}, n ≤ k → cnt (upd f k v) n = cnt f n
  | 0, _ => rfl
  | n + 1, h => by
    rw [cnt, cnt, cnt_out (by omega), pk_un (by omega)]
theorem cnt_on {f : Nat → Int32} {k : Nat} (hk : f k = 0) : ∀ {n : Nat}, k < n → cnt (upd f k 1) n = cnt f n + 1
  | 0, h => absurd h (by omega)
  | n + 1, h => by
    rw [cnt, cnt]
    by_cases e : n = k
    · subst e
      rw [cnt_out (Nat.le_refl _), pk_us, if_pos hk, if_neg (by decide)]
    · rw [cnt_on hk (by omega), pk_un e]
      omega
theorem cnt_off {f : Nat → Int32} {k : Nat} (hk : ¬ f k = 0) : ∀ {n : Nat}, k < n → cnt f n = cnt (upd f k 0) n + 1
  | 0, h => absurd h (by omega)
  | n + 1, h => by
    rw [cnt, cnt]
    by_cases e : n = k
    · subst e
      rw [cnt_out (Nat.le_refl _), pk_us, if_neg hk, if_pos rfl]
    · rw [cnt_off hk (n := n) (by omega), pk_un e]
      omega
theorem IP_0 {li ro : Nat → Int32} {n : Int32} (h : IP li n ro) {R P : Nat} (hR : R < 8) (hP : P < 12) : (¬ li (12 * R + P) = 0 ↔ tb ro R P) := by
  have h1 := h.1 R P hR hP
  have h2 := h.2.2.1 R P hR hP
  unfold tb
  rw [← h2]
  rcases h1 with h1 | h1
  · rw [h1]; exact ⟨fun z => absurd rfl z, fun z => absurd z (by decide)⟩
  · rw [h1]; exact ⟨fun _ => rfl, fun _ => by decide⟩
theorem IP_hi {li ro : Nat → Int32} {n : Int32} (h : IP li n ro) {R P : Nat} (hR : R < 8) (hP : 12 ≤ P + R) : ¬ tb ro R P := by
  obtain ⟨h1, h2⟩ := h.2.1 R hR
  have h3 : (ro R).toInt.toNat < 2 ^ (12 - R) := by
    have : ((2 ^ (12 - R) : Nat) : Int) = (2 : Int) ^ (12 - R) := by exact_mod_cast rfl
    omega
  have := Nat.testBit_lt_two_pow (Nat.lt_of_lt_of_le h3 (Nat.pow_le_pow_right (by omega) (show 12 - R ≤ P by omega)))
  unfold tb
  rw [this]
  decide
theorem IP_set {li ro : Nat → Int32} {n n' v x : Int32} (h : IP li n ro) {R P : Nat} (hR : R < 8) (hP : P + R < 12) (hv : v = 0 ∨ v = 1) (hx : (0 ≤ x.toInt ∧ x.toInt < 2 ^ (12 - R)) ∧ ∀ j, j < 12 → (x.toInt.toNat.testBit j = true ↔ if j = P then v = 1 else tb ro R j)) (hn : n' = nI (cnt (upd li (12 * R + P) v) 96)) : IP (upd li (12 * R + P) v) n' (upd ro R x) := by
  obtain ⟨h1, h2, h3, h4⟩ := h
  refine ⟨fun r p hr hp => ?_, fun r hr => ?_, fun r p hr hp => ?_, hn⟩
  · unfold upd
    split
    · exact hv
    · exact h1 r p hr hp
  · unfold upd
    split
    · rename_i e; rw [e]; exact hx.1
    · exact h2 r hr
  · by_cases e : r = R
    · subst e
      rw [pk_us, hx.2 p hp]
      by_cases e2 : p = P
      · subst e2
        rw [pk_us, if_pos rfl]
      · rw [pk_un (by omega), if_neg e2]
        exact h3 r p hr hp
    · rw [pk_un e, pk_un (by omega)]
      exact h3 r p hr hp
theorem p_lay {X : Xt} {G : Gt} (hI : Inv G) {r p : Int32} : pair X m_SW_lay m_Mo_lay [.int r, .int p] G := by
  obtain ⟨hW, hT, hS, hP, hs, h0⟩ := id hI
  have hro : ∀ r, r < 8 → 0 ≤ (G 37 r).toInt := fun r hr => (hP.2.1 r hr).1
  have key : ∀ R P : Nat, R < 8 → P + R < 12 → (G 15 (12 * R + P) = 0 ∧ brn (G 15) R P ↔ canM (G 37) R P) := by
    intro R P h1 h2
    have a := IP_0 hP h1 (show P < 12 by omega)
    have b : G 15 (12 * R + P) = 0 ↔ ¬ tb (G 37) R P := by rw [← a, Decidable.not_not]
    rw [b]
    refine and_congr_right (fun _ => ?_)
    by_cases hz : R = 0
    · exact ⟨fun _ => Or.inl hz, fun _ => Or.inl hz⟩
    · have c := IP_0 hP (show R - 1 < 8 by omega) (show P < 12 by omega)
      have d := IP_0 hP (show R - 1 < 8 by omega) (show P + 1 < 12 by omega)
      unfold brn
      rw [c, d]
  have nn : ∀ {R P R' P' : Nat}, R < 8 → P + R < 12 → R' < 8 → P' + R' < 12 → nI R = nI R' → nI P = nI P' → R' = R ∧ P' = P := by
    intro R P R' P' a b c d e f
    rw [nI_eq (by omega) (by omega)] at e f
    exact ⟨e.symm, f.symm⟩
  refine c_SW_lay (fun h => pq ?_) (fun R P e1 e2 h1 h2 h3 => pq ?_) (fun R P e1 e2 h1 h2 h3 => pq ?_)
  · exact c_Mo_lay h0 hro (fun _ => ⟨rfl, hI⟩) (fun R P e1 e2 h1 h2 _ => absurd (by rw [e1, e2]; exact plcI h1 h2) h) (fun R P e1 e2 h1 h2 _ => absurd (by rw [e1, e2]; exact plcI h1 h2) h)
  · subst e1
    subst e2
    refine c_Mo_lay h0 hro (fun z => absurd (plcI h1 h2) z) (fun _ _ _ _ _ _ _ => ⟨rfl, hI⟩) (fun R' P' e1 e2 g1 g2 z => ?_)
    obtain ⟨rfl, rfl⟩ := nn h1 h2 g1 g2 e1 e2
    exact absurd ((key _ _ h1 h2).mpr z) h3
  · subst e1
    subst e2
    refine c_Mo_lay h0 hro (fun z => absurd (plcI h1 h2) z) (fun R' P' e1 e2 g1 g2 z => ?_) (fun R' P' e1 e2 g1 g2 z => ⟨rfl, ?_⟩)
    · obtain ⟨rfl, rfl⟩ := nn h1 h2 g1 g2 e1 e2
      exact absurd ((key _ _ h1 h2).mp h3) z
    · obtain ⟨rfl, rfl⟩ := nn h1 h2 g1 g2 e1 e2
      refine ⟨hW, hT, hS, ?_, hs, h0⟩
      have hb := bit_on (x := G 37 R') (n := 12 - R') (P := P') (by omega) (by omega) (hP.2.1 R' h1).1 (hP.2.1 R' h1).2
      refine IP_set hP h1 h2 (Or.inr rfl) ⟨hb.1, fun j hj => ?_⟩ ?_
      · rw [show (sG (sG G 15 (upd (G 15) (12 * R' + P') 1)) 14 (upd (G 14) 3 (G 14 3 + 1))) 37 = G 37 from rfl, hb.2 j (by omega)]
        by_cases e : j = P'
        · rw [if_pos e, decide_eq_true e, Bool.or_true]
          exact ⟨fun _ => rfl, fun _ => rfl⟩
        · rw [if_neg e, decide_eq_false e, Bool.or_false]
      · show G 14 3 + 1 = _
        rw [cnt_on h3.1 (by omega), hP.2.2.2, nI_1]
theorem p_lift {X : Xt} {G : Gt} (hI : Inv G) {r p : Int32} : pair X m_SW_lift m_Mo_lift [.int r, .int p] G := by
  obtain ⟨hW, hT, hS, hP, hs, h0⟩ := id hI
  have hro : ∀ r, r < 8 → 0 ≤ (G 37 r).toInt := fun r hr => (hP.2.1 r hr).1
  have kb : ∀ R P : Nat, R < 8 → P < 12 → (brs (G 15) R (nI P) ↔ R < 7 ∧ tb (G 37) (R + 1) P) := by
    intro R P h1 h2
    unfold brs
    rw [nI_1, nI_clamp (by omega)]
    constructor
    · rintro ⟨a, b⟩
      obtain ⟨R1, P1, e1, e2, g1, g2⟩ := plcN a
      rw [nI_eq (by omega) (by omega)] at e1 e2
      subst e1
      subst e2
      exact ⟨by omega, (IP_0 hP (by omega) h2).mp b⟩
    · rintro ⟨a, b⟩
      refine ⟨plcI (by omega) (Nat.lt_of_not_le (fun z => ?_)), (IP_0 hP (by omega) h2).mpr b⟩
      exact IP_hi hP (show R + 1 < 8 by omega) z b
  have key : ∀ R P : Nat, R < 8 → P + R < 12 → (¬ G 15 (12 * R + P) = 0 ∧ ¬ brs (G 15) R (nI P - 1) ∧ ¬ brs (G 15) R (nI P) ↔ offM (G 37) R P) := by
    intro R P h1 h2
    rw [IP_0 hP h1 (show P < 12 by omega), kb R P h1 (by omega)]
    refine and_congr_right (fun _ => ?_)
    have hm : brs (G 15) R (nI P - 1) ↔ R < 7 ∧ 0 < P ∧ tb (G 37) (R + 1) (P - 1) := by
      rcases Nat.eq_zero_or_pos P with hp | hp
      · subst hp
        refine ⟨fun z => ?_, fun z => absurd z.2.1 (by omega)⟩
        exact absurd z.1.2.1 (by decide)
      · rw [nI_m1 hp, kb R (P - 1) h1 (by omega)]
        exact ⟨fun z => ⟨z.1, hp, z.2⟩, fun z => ⟨z.1, z.2.2⟩⟩
    rw [hm]
    constructor
    · rintro ⟨a, b⟩
      by_cases h7 : R = 7
      · exact Or.inl h7
      · refine Or.inr ⟨fun z => b ⟨by omega, z⟩, ?_⟩
        by_cases hp : P = 0
        · exact Or.inl hp
        · exact Or.inr (fun z => a ⟨by omega, by omega, z⟩)
    · rintro (a | ⟨a, b⟩)
      · exact ⟨fun z => by omega, fun z => by omega⟩
      · refine ⟨fun z => ?_, fun z => a z.2⟩
        rcases b with b | b
        · omega
        · exact b z.2.2
  have nn : ∀ {R P R' P' : Nat}, R < 8 → P + R < 12 → R' < 8 → P' + R' < 12 → nI R = nI R' → nI P = nI P' → R' = R ∧ P' = P := by
    intro R P R' P' a b c d e f
    rw [nI_eq (by omega) (by omega)] at e f
    exact ⟨e.symm, f.symm⟩
  refine c_SW_lift (fun h => pq ?_) (fun R P e1 e2 h1 h2 h3 => pq ?_) (fun R P e1 e2 h1 h2 h3 => pq ?_)
  · exact c_Mo_lift h0 hro (fun _ => ⟨rfl, hI⟩) (fun R P e1 e2 h1 h2 _ => absurd (by rw [e1, e2]; exact plcI h1 h2) h) (fun R P e1 e2 h1 h2 _ => absurd (by rw [e1, e2]; exact plcI h1 h2) h)
  · subst e1
    subst e2
    refine c_Mo_lift h0 hro (fun z => absurd (plcI h1 h2) z) (fun _ _ _ _ _ _ _ => ⟨rfl, hI⟩) (fun R' P' e1 e2 g1 g2 z => ?_)
    obtain ⟨rfl, rfl⟩ := nn h1 h2 g1 g2 e1 e2
    exact absurd ((key _ _ h1 h2).mpr z) h3
  · subst e1
    subst e2
    refine c_Mo_lift h0 hro (fun z => absurd (plcI h1 h2) z) (fun R' P' e1 e2 g1 g2 z => ?_) (fun R' P' e1 e2 g1 g2 z => ⟨rfl, ?_⟩)
    · obtain ⟨rfl, rfl⟩ := nn h1 h2 g1 g2 e1 e2
      exact absurd ((key _ _ h1 h2).mp h3) z
    · obtain ⟨rfl, rfl⟩ := nn h1 h2 g1 g2 e1 e2
      refine ⟨hW, hT, hS, ?_, hs, h0⟩
      have hb := bit_off (x := G 37 R') (n := 12 - R') (P := P') (by omega) (by omega) (hP.2.1 R' h1).1 (hP.2.1 R' h1).2
      refine IP_set hP h1 h2 (Or.inl rfl) ⟨hb.1, fun j hj => ?_⟩ ?_
      · rw [show (sG (sG G 15 (upd (G 15) (12 * R' + P') 0)) 14 (upd (G 14) 3 (G 14 3 - 1))) 37 = G 37 from rfl, hb.2 j (by omega)]
        by_cases e : j = P'
        · rw [if_pos e, decide_eq_true e, Bool.not_true, Bool.and_false]
          exact ⟨fun z => absurd z (by decide), fun z => absurd z (by decide)⟩
        · rw [if_neg e, decide_eq_false e, Bool.not_false, Bool.and_true]
      · show G 14 3 - 1 = _
        have := cnt_off h3.1 (n := 96) (by omega)
        rw [hP.2.2.2, this, nI_pred]
end
section
/-! copy -/
abbrev hasI (z i n : Int32) : Prop := 0 ≤ i ∧ 0 ≤ n ∧ n ≤ z - i
theorem hasI_iff {z i n : Int32} (hz : 0 ≤ z ∧ z ≤ 100) : hasI z i n ↔ 0 ≤ i ∧ 0 ≤ n ∧ i.toInt + n.toInt ≤ z.toInt := by
  have h1 : 0 ≤ z.toInt := by simpa using le32.mp hz.1
  have h2 : z.toInt ≤ 100 := by simpa using le32.mp hz.2
  have h3 := rng i
  refine and_congr_right (fun h => and_congr_right (fun _ => ?_))
  have h4 : 0 ≤ i.toInt := by simpa using le32.mp h
  have e : (z - i).toInt = z.toInt - i.toInt := subI (by omega) (by omega)
  rw [le32, e]
  omega
set_option maxRecDepth 4000 in
theorem c_SW_copy {X : Xt} {a i b j n : Int32} {G : Gt} {Q : Qt} (hz : ∀ s : Int32, 0 ≤ s ∧ s ≤ 7 → ¬ G 4 s.toNatClampNeg = -1 → 0 ≤ G 4 s.toNatClampNeg ∧ G 4 s.toNatClampNeg ≤ 100)
    (K1 : ¬ ((0 ≤ a ∧ a ≤ 7) ∧ 0 ≤ b ∧ b ≤ 7) → Q (some (.int (-1000001))) G)
    (K2 : (0 ≤ a ∧ a ≤ 7) ∧ 0 ≤ b ∧ b ≤ 7 → G 4 a.toNatClampNeg = -1 ∨ G 4 b.toNatClampNeg = -1 → Q (some (.int (-1000011))) (sG G 0 (upd (G 0) 7 1)))
    (K3 : (0 ≤ a ∧ a ≤ 7) ∧ 0 ≤ b ∧ b ≤ 7 → ¬ G 4 a.toNatClampNeg = -1 → ¬ G 4 b.toNatClampNeg = -1 → ¬ G 3 a.toNatClampNeg = G 3 b.toNatClampNeg → Q (some (.int (-1000015))) (sG G 0 (upd (G 0) 7 5)))
    (K4 : (0 ≤ a ∧ a ≤ 7) ∧ 0 ≤ b ∧ b ≤ 7 → ¬ G 4 a.toNatClampNeg = -1 → ¬ G 4 b.toNatClampNeg = -1 → G 3 a.toNatClampNeg = G 3 b.toNatClampNeg → ¬ (hasI (G 4 a.toNatClampNeg) i n ∧ hasI (G 4 b.toNatClampNeg) j n) → Q (some (.int (-1000012))) (sG G 0 (upd (G 0) 7 2)))
    (K5 : (0 ≤ a ∧ a ≤ 7) ∧ 0 ≤ b ∧ b ≤ 7 → ¬ G 4 a.toNatClampNeg = -1 → ¬ G 4 b.toNatClampNeg = -1 → G 3 a.toNatClampNeg = G 3 b.toNatClampNeg → hasI (G 4 a.toNatClampNeg) i n → hasI (G 4 b.toNatClampNeg) j n → Q (some (.int n)) (sG (sG G 2 (va_cpy (G 2) (G 2) (ix a i) (ix b j) n.toNatClampNeg)) 0 (upd (G 0) 7 0))) : con X m_SW_copy [.ref 0, .int a, .int i, .int b, .int j, .int n] G Q := by
  refine con_rn 100 [] (by decide) rfl ?_
  refine c_isNumber (bib (fun h => K1 (fun z => h z.1)) (fun ha => ?_))
  refine c_isNumber (bjb (fun hb => ?_) (fun h => K1 (fun z => h z.2)))
  refine c_isMissing ha (bjb (fun h => ?_) (fun m1 => ?_))
  · refine c_found ?_
    exact K2 ⟨ha, hb⟩ (Or.inl h)
  refine c_isMissing hb (bib (fun m2 => ?_) (fun h => ?_))
  · refine c_areOfOneLane ha hb (bjb (fun hl => ?_) (fun h => ?_))
    · refine c_hasItems ha (bib (fun h => ?_) (fun h1 => ?_))
      · refine c_found ?_
        exact K4 ⟨ha, hb⟩ m1 m2 hl (fun z => h z.1)
      · refine c_hasItems hb (bjb (fun h2 => ?_) (fun h => ?_))
        · have q1 := (hasI_iff (hz a ha m1)).mp h1
          have q2 := (hasI_iff (hz b hb m2)).mp h2
          have r1 : (G 4 a.toNatClampNeg).toInt ≤ 100 := by simpa using le32.mp (hz a ha m1).2
          have r2 : (G 4 b.toNatClampNeg).toInt ≤ 100 := by simpa using le32.mp (hz b hb m2).2
          refine c_move ha hb q1.1 q2.1 q1.2.1 (by omega) (by omega) ?_
          refine c_fine ?_
          exact K5 ⟨ha, hb⟩ m1 m2 hl h1 h2
        · refine c_found ?_
          exact K4 ⟨ha, hb⟩ m1 m2 hl (fun z => h z.2)
    · refine c_found ?_
      exact K3 ⟨ha, hb⟩ m1 m2 h
  · refine c_found ?_
    exact K2 ⟨ha, hb⟩ (Or.inr h)
abbrev cpL (a i b j N : Nat) (u : Int32) : Lt := [(6, .int u), (0, .ref 26), (1, .int (nI a)), (2, .int (nI i)), (3, .int (nI b)), (4, .int (nI j)), (5, .int (nI N))]
theorem cp_ix (a i k : Nat) : 100 * nI a + nI i + nI k = nI (100 * a + i + k) := by
  rw [show (100 : Int32) = nI 100 from rfl, pk_mul, nI_add, nI_add]
set_option maxRecDepth 4000 in
theorem w_cpU {X : Xt} {a i b j N : Nat} {f : Nat → Int32} {Q : Qt} (ha : a < 8) (hb : b < 8) (hi : i + N ≤ 100) (hj : j + N ≤ 100) (hs : 100 * b + j ≤ 100 * a + i ∨ 100 * a + i + N ≤ 100 * b + j) : ∀ (m k : Nat) (c : Int32) (G : Gt), c = nI k → k + m = N → G 29 = va_cpy f f (100 * a + i) (100 * b + j) k → Q (some (.int (nI N))) (sG G 29 (va_cpy f f (100 * a + i) (100 * b + j) N)) → wp X m_Mo_copy 143 ((7, .int c) :: cpL a i b j N 1) [] G Q
  | 0, k, c, G, hc, hk, hG, K => by
    subst hc
    have hk : k = N := by omega
    subst hk
    refine rn_wp (stops := [143]) 60 ?_
    refine bi_t (Int32.le_refl _) ?_
    refine Qg K ?_
    rw [← hG, sG_id]
  | m + 1, k, c, G, hc, hk, hG, K => by
    subst hc
    refine rn_wp (stops := [143]) 60 ?_
    refine bi_f (by simp (disch := omega) only [nI_1, nI_add, nI_clamp, nI_leI, nI_ltI, nI_eq, nI_toInt]; omega) ?_
    refine bi_f (by decide) ?_
    refine vi (by rw [cp_ix]; exact vp_in_nI (by omega) (by omega)) ?_
    refine vi (by rw [cp_ix]; exact vp_in_nI (by omega) (by omega)) ?_
    rw [cp_ix, cp_ix, nI_clamp (by omega), nI_clamp (by omega)]
    refine wp_pick [0, 2, 3, 4, 5, 6, 7, 8] (w_cpU (f := f) ha hb hi hj hs m (k + 1) _ _ (nI_1 _) (by omega) ?_ ?_)
    · show upd (G 29) _ _ = _
      rw [hG]
      funext x
      by_cases h1 : x = 100 * b + j + k
      · subst h1
        rw [pk_us, pk_cpy_out (j := 100 * a + i + k) (by omega), pk_cpy_in (by omega) (by omega)]
        congr 1
        omega
      · rw [pk_un h1]
        by_cases h2 : 100 * b + j ≤ x ∧ x < 100 * b + j + k
        · rw [pk_cpy_in h2.1 h2.2, pk_cpy_in h2.1 (by omega)]
        · rw [pk_cpy_out (by omega), pk_cpy_out (by omega)]
    · rw [sG_sG]; exact K
def cpD (f : Nat → Int32) (sp dp N k : Nat) : Nat → Int32 := fun x => if dp + (N - k) ≤ x ∧ x < dp + N then f (sp + (x - dp)) else f x
set_option maxRecDepth 4000 in
theorem w_cpD {X : Xt} {a i b j N : Nat} {f : Nat → Int32} {Q : Qt} (ha : a < 8) (hb : b < 8) (hi : i + N ≤ 100) (hj : j + N ≤ 100) (hs : 100 * a + i ≤ 100 * b + j ∨ 100 * b + j + N ≤ 100 * a + i) : ∀ (m k : Nat) (c : Int32) (G : Gt), c = nI k → k + m = N → G 29 = cpD f (100 * a + i) (100 * b + j) N k → Q (some (.int (nI N))) (sG G 29 (va_cpy f f (100 * a + i) (100 * b + j) N)) → wp X m_Mo_copy 143 ((7, .int c) :: cpL a i b j N 0) [] G Q
  | 0, k, c, G, hc, hk, hG, K => by
    subst hc
    have hk : k = N := by omega
    subst hk
    refine rn_wp (stops := [143]) 60 ?_
    refine bi_t (Int32.le_refl _) ?_
    refine Qg K ?_
    have e : va_cpy f f (100 * a + i) (100 * b + j) k = G 29 := by
      rw [hG]
      funext x
      unfold cpD
      by_cases h2 : 100 * b + j ≤ x ∧ x < 100 * b + j + k
      · rw [pk_cpy_in h2.1 h2.2, if_pos (by omega)]
      · rw [pk_cpy_out (by omega), if_neg (by omega)]
    rw [e, sG_id]
  | m + 1, k, c, G, hc, hk, hG, K => by
    subst hc
    refine rn_wp (stops := [143]) 60 ?_
    refine bi_f (by simp (disch := omega) only [nI_1, nI_add, nI_clamp, nI_leI, nI_ltI, nI_eq, nI_toInt]; omega) ?_
    refine bi_t rfl ?_
    have e : nI N - 1 - nI k = nI (N - 1 - k) := by rw [nI_m1 (by omega), pk_sub (by omega)]
    refine vi (by rw [e, cp_ix]; exact vp_in_nI (by omega) (by omega)) ?_
    refine vi (by rw [e, cp_ix]; exact vp_in_nI (by omega) (by omega)) ?_
    rw [e, cp_ix, cp_ix, nI_clamp (by omega), nI_clamp (by omega)]
    refine wp_pick [0, 2, 3, 4, 5, 6, 7, 8] (w_cpD (f := f) ha hb hi hj hs m (k + 1) _ _ (nI_1 _) (by omega) ?_ ?_)
    · show upd (G 29) _ _ = _
      rw [hG]
      funext x
      unfold cpD
      by_cases h1 : x = 100 * b + j + (N - 1 - k)
      · subst h1
        rw [pk_us, if_neg (by omega), if_pos (by omega)]
        congr 1
        omega
      · rw [pk_un h1]
        by_cases h2 : 100 * b + j + (N - k) ≤ x ∧ x < 100 * b + j + N
        · rw [if_pos h2, if_pos (by omega)]
        · rw [if_neg h2, if_neg (by omega)]
    · rw [sG_sG]; exact K
end
section
/-! copy: the model, the pair -/
theorem hasI_l {z i n : Int32} (hz : 0 ≤ z ∧ z ≤ 100) : hasI z i n ↔ ¬ i < 0 ∧ ¬ n < 0 ∧ lg_cmp (i.toInt64 + n.toInt64) z.toInt64 ≤ 0 := by
  rw [hasI_iff hz, lcmp_le, Int64.le_iff_toInt_le, add64, Int32.toInt_toInt64, Int32.not_lt, Int32.not_lt]
set_option maxRecDepth 4000 in
theorem c_Mo_copy {X : Xt} {a i b j n : Int32} {G : Gt} {Q : Qt} (h0 : G 26 0 = 0) (hz : ∀ s : Int32, 0 ≤ s ∧ s ≤ 7 → 0 ≤ G 27 s.toNatClampNeg → 0 ≤ G 28 s.toNatClampNeg ∧ G 28 s.toNatClampNeg ≤ 100)
    (K1 : ¬ ((0 ≤ a ∧ a ≤ 7) ∧ 0 ≤ b ∧ b ≤ 7) → Q (some (.int (-1000001))) G)
    (K2 : (0 ≤ a ∧ a ≤ 7) ∧ 0 ≤ b ∧ b ≤ 7 → ¬ (0 ≤ G 27 a.toNatClampNeg ∧ 0 ≤ G 27 b.toNatClampNeg) → Q (some (.int (-1000011))) (sG (sG G 26 (upd (G 26) 1 0)) 26 (upd (upd (G 26) 1 0) 1 1)))
    (K3 : (0 ≤ a ∧ a ≤ 7) ∧ 0 ≤ b ∧ b ≤ 7 → 0 ≤ G 27 a.toNatClampNeg → 0 ≤ G 27 b.toNatClampNeg → ¬ G 27 a.toNatClampNeg = G 27 b.toNatClampNeg → Q (some (.int (-1000015))) (sG (sG G 26 (upd (G 26) 1 0)) 26 (upd (upd (G 26) 1 0) 1 5)))
    (K4 : (0 ≤ a ∧ a ≤ 7) ∧ 0 ≤ b ∧ b ≤ 7 → 0 ≤ G 27 a.toNatClampNeg → 0 ≤ G 27 b.toNatClampNeg → G 27 a.toNatClampNeg = G 27 b.toNatClampNeg → ¬ (hasI (G 28 a.toNatClampNeg) i n ∧ hasI (G 28 b.toNatClampNeg) j n) → Q (some (.int (-1000012))) (sG (sG G 26 (upd (G 26) 1 0)) 26 (upd (upd (G 26) 1 0) 1 2)))
    (K5 : (0 ≤ a ∧ a ≤ 7) ∧ 0 ≤ b ∧ b ≤ 7 → 0 ≤ G 27 a.toNatClampNeg → 0 ≤ G 27 b.toNatClampNeg → G 27 a.toNatClampNeg = G 27 b.toNatClampNeg → hasI (G 28 a.toNatClampNeg) i n → hasI (G 28 b.toNatClampNeg) j n → Q (some (.int n)) (sG (sG G 26 (upd (G 26) 1 0)) 29 (va_cpy (G 29) (G 29) (ix a i) (ix b j) n.toNatClampNeg))) : con X m_Mo_copy [.ref 26, .int a, .int i, .int b, .int j, .int n] G Q := by
  refine con_rm 120 [143] (by decide) rfl (by decide +kernel) h0 ?_
  refine c_isSheet (bib (fun h => K1 (fun z => h z.1)) (fun ha => ?_))
  refine c_isSheet (bjb (fun hb => ?_) (fun h => K1 (fun z => h z.2)))
  have hab : (0 ≤ a ∧ a ≤ 7) ∧ 0 ≤ b ∧ b ≤ 7 := ⟨ha, hb⟩
  refine vi (sN ha).2 (bi (fun h => ?_) (fun m1 => ?_))
  · refine c_Mfound ?_
    exact K2 hab (fun z => Int32.not_lt.mpr z.1 h)
  refine vi (sN hb).2 (bi (fun m2 => ?_) (fun h => ?_))
  · have m1 : 0 ≤ G 27 a.toNatClampNeg := Int32.not_lt.mp m1
    have m2 : 0 ≤ G 27 b.toNatClampNeg := m2
    have k4 := K4 hab m1 m2
    refine vi (sN ha).2 (vi (sN hb).2 (bi (fun hl => ?_) (fun h => ?_)))
    · have k4 := k4 hl
      have ia := hasI_l (i := i) (n := n) (hz a ha m1)
      have ib := hasI_l (i := j) (n := n) (hz b hb m2)
      refine bi (fun h => by refine c_Mfound ?_; exact k4 (fun z => (ia.mp z.1).1 h)) (fun g1 => ?_)
      refine bi (fun h => by refine c_Mfound ?_; exact k4 (fun z => (ib.mp z.2).1 h)) (fun g2 => ?_)
      refine bi (fun h => by refine c_Mfound ?_; exact k4 (fun z => (ia.mp z.1).2.1 h)) (fun g3 => ?_)
      refine vi (sN ha).2 (bi (fun h => by refine c_Mfound ?_; exact k4 (fun z => Int32.not_lt.mpr (ia.mp z.1).2.2 h)) (fun g4 => ?_))
      refine vi (sN hb).2 (bi (fun g5 => ?_) (fun h => by refine c_Mfound ?_; exact k4 (fun z => h (ib.mp z.2).2.2)))
      have q1 : hasI (G 28 a.toNatClampNeg) i n := ia.mpr ⟨g1, g3, Int32.not_lt.mp g4⟩
      have q2 : hasI (G 28 b.toNatClampNeg) j n := ib.mpr ⟨g2, g3, g5⟩
      have k5 := K5 hab m1 m2 hl q1 q2
      have r1 : (G 28 a.toNatClampNeg).toInt ≤ 100 := by simpa using le32.mp (hz a ha m1).2
      have r2 : (G 28 b.toNatClampNeg).toInt ≤ 100 := by simpa using le32.mp (hz b hb m2).2
      obtain ⟨p1, p2, p3⟩ := (hasI_iff (hz a ha m1)).mp q1
      obtain ⟨p4, -, p5⟩ := (hasI_iff (hz b hb m2)).mp q2
      obtain ⟨ea, -, -⟩ := toN ha.1
      obtain ⟨eb, -, -⟩ := toN hb.1
      obtain ⟨ei, ei2, -⟩ := toN p1
      obtain ⟨ej, ej2, -⟩ := toN p4
      obtain ⟨en, en2, -⟩ := toN p2
      have hA := (sN ha).1
      have hB := (sN hb).1
      have hij : j ≤ i ↔ j.toNatClampNeg ≤ i.toNatClampNeg := by rw [le32]; omega
      have hI : i.toNatClampNeg + n.toNatClampNeg ≤ 100 := by omega
      have hJ : j.toNatClampNeg + n.toNatClampNeg ≤ 100 := by omega
      clear K1 K2 K3 K4 K5 k4 ia ib hz q1 q2 g1 g2 g3 g4 g5 hl m1 m2 h0 r1 r2 p1 p2 p3 p4 p5 ei2 ej2 en2 hab
      have eI : ix a i = 100 * a.toNatClampNeg + i.toNatClampNeg := by
        have := ix_nat (i := i.toNatClampNeg) ha (by omega)
        rw [← ei] at this; exact this
      have eJ : ix b j = 100 * b.toNatClampNeg + j.toNatClampNeg := by
        have := ix_nat (i := j.toNatClampNeg) hb (by omega)
        rw [← ej] at this; exact this
      rw [eI, eJ] at k5
      clear eI eJ ha hb
      generalize a.toNatClampNeg = A at *
      generalize b.toNatClampNeg = B at *
      generalize i.toNatClampNeg = I at *
      generalize j.toNatClampNeg = J at *
      generalize n.toNatClampNeg = N at *
      subst ea
      subst eb
      subst ei
      subst ej
      subst en
      refine bi (fun hlt => ?_) (fun hge => ?_)
      · have hlt : ¬ J ≤ I := fun z => Int32.not_lt.mpr (hij.mpr z) hlt
        refine w_cpD (f := G 29) hA hB hI hJ (by omega) N 0 _ _ rfl (by omega) ?_ k5
        funext x
        unfold cpD
        rw [if_neg (by omega)]
        rfl
      · have hge : J ≤ I := hij.mp (Int32.not_lt.mp hge)
        refine w_cpU (f := G 29) hA hB hI hJ (by omega) N 0 _ _ rfl (by omega) ?_ k5
        funext x
        rw [pk_cpy_out (by omega)]
        rfl
    · refine c_Mfound ?_
      exact K3 hab m1 m2 h
  · refine c_Mfound ?_
    exact K2 hab (fun z => h z.2)
theorem p_copy {X : Xt} {G : Gt} (hI : Inv G) {a i b j n : Int32} : pair X m_SW_copy m_Mo_copy [.int a, .int i, .int b, .int j, .int n] G := by
  obtain ⟨hW, hT, hS, hP, hs, h0⟩ := id hI
  have hzX : ∀ s : Int32, 0 ≤ s ∧ s ≤ 7 → ¬ G 4 s.toNatClampNeg = -1 → 0 ≤ G 4 s.toNatClampNeg ∧ G 4 s.toNatClampNeg ≤ 100 := by
    intro s h h2
    have hh := IS_at hS (sN h).1
    exact (hh.2 (Decidable.byContradiction fun z => h2 (hh.1.mpr z))).2.2.1
  have hzm : ∀ s : Int32, 0 ≤ s ∧ s ≤ 7 → 0 ≤ G 27 s.toNatClampNeg → 0 ≤ G 28 s.toNatClampNeg ∧ G 28 s.toNatClampNeg ≤ 100 := fun s h h2 => hzM hS h h2
  have up : ∀ s : Int32, 0 ≤ s ∧ s ≤ 7 → ¬ G 4 s.toNatClampNeg = -1 → 0 ≤ G 27 s.toNatClampNeg ∧ G 28 s.toNatClampNeg = G 4 s.toNatClampNeg ∧ G 27 s.toNatClampNeg = G 3 s.toNatClampNeg := by
    intro s h h2
    have hh := IS_at hS (sN h).1
    have h5 := Decidable.byContradiction fun z => h2 (hh.1.mpr z)
    exact ⟨h5, (hh.2 h5).1, (hh.2 h5).2.1⟩
  refine c_SW_copy hzX (fun h => pq ?_) (fun h h2 => pq ?_) (fun h m1 m2 h2 => pq ?_) (fun h m1 m2 h2 h3 => pq ?_) (fun h m1 m2 h2 h3 h4 => pq ?_)
  · exact c_Mo_copy h0 hzm (fun _ => ⟨rfl, hI⟩) (fun z => absurd z h) (fun z => absurd z h) (fun z => absurd z h) (fun z => absurd z h)
  · have hn : ¬ (0 ≤ G 27 a.toNatClampNeg ∧ 0 ≤ G 27 b.toNatClampNeg) := fun z => by
      rcases h2 with h2 | h2
      · exact (IS_at hS (sN h.1).1).1.mp h2 z.1
      · exact (IS_at hS (sN h.2).1).1.mp h2 z.2
    exact c_Mo_copy h0 hzm (fun z => absurd h z) (fun _ _ => ⟨rfl, ⟨hW, hT, hS, hP, rfl, h0⟩⟩) (fun _ z1 z2 => absurd ⟨z1, z2⟩ hn) (fun _ z1 z2 => absurd ⟨z1, z2⟩ hn) (fun _ z1 z2 => absurd ⟨z1, z2⟩ hn)
  · obtain ⟨a1, a2, a3⟩ := up a h.1 m1
    obtain ⟨b1, b2, b3⟩ := up b h.2 m2
    have e : ¬ G 27 a.toNatClampNeg = G 27 b.toNatClampNeg := by rw [a3, b3]; exact h2
    exact c_Mo_copy h0 hzm (fun z => absurd h z) (fun _ z => absurd ⟨a1, b1⟩ z) (fun _ _ _ _ => ⟨rfl, ⟨hW, hT, hS, hP, rfl, h0⟩⟩) (fun _ _ _ z => absurd z e) (fun _ _ _ z => absurd z e)
  · obtain ⟨a1, a2, a3⟩ := up a h.1 m1
    obtain ⟨b1, b2, b3⟩ := up b h.2 m2
    have e : G 27 a.toNatClampNeg = G 27 b.toNatClampNeg := by rw [a3, b3]; exact h2
    refine c_Mo_copy h0 hzm (fun z => absurd h z) (fun _ z => absurd ⟨a1, b1⟩ z) (fun _ _ _ z => absurd e z) (fun _ _ _ _ _ => ⟨rfl, ⟨hW, hT, hS, hP, rfl, h0⟩⟩) (fun _ _ _ _ z1 z2 => ?_)
    have z1 : hasI (G 28 a.toNatClampNeg) i n := z1
    have z2 : hasI (G 28 b.toNatClampNeg) j n := z2
    rw [a2] at z1
    rw [b2] at z2
    exact absurd ⟨z1, z2⟩ h3
  · obtain ⟨a1, a2, a3⟩ := up a h.1 m1
    obtain ⟨b1, b2, b3⟩ := up b h.2 m2
    have e : G 27 a.toNatClampNeg = G 27 b.toNatClampNeg := by rw [a3, b3]; exact h2
    refine c_Mo_copy h0 hzm (fun z => absurd h z) (fun _ z => absurd ⟨a1, b1⟩ z) (fun _ _ _ z => absurd e z) (fun _ _ _ _ z => ?_) (fun _ _ _ _ _ _ => ⟨rfl, ⟨hW, hT, ?_, hP, rfl, h0⟩⟩)
    · refine absurd ?_ z
      show hasI (G 28 a.toNatClampNeg) i n ∧ hasI (G 28 b.toNatClampNeg) j n
      rw [a2, b2]
      exact ⟨h3, h4⟩
    · obtain ⟨g1, g2, g3, g4⟩ := (IS_at hS (sN h.1).1).2 a1
      obtain ⟨f1, f2, f3, f4⟩ := (IS_at hS (sN h.2).1).2 b1
      obtain ⟨p1, p2, p3⟩ := (hasI_iff (hzX a h.1 m1)).mp h3
      obtain ⟨p4, -, p5⟩ := (hasI_iff (hzX b h.2 m2)).mp h4
      obtain ⟨ei, ei2, ei3⟩ := toN p1
      obtain ⟨ej, ej2, ej3⟩ := toN p4
      obtain ⟨en, en2, -⟩ := toN p2
      have hA := (sN h.1).1
      have hB := (sN h.2).1
      have r2 : (G 4 b.toNatClampNeg).toInt ≤ 100 := by simpa using le32.mp (hzX b h.2 m2).2
      have eI : ix a i = 100 * a.toNatClampNeg + i.toNatClampNeg := by
        have := ix_nat (i := i.toNatClampNeg) h.1 (by omega)
        rw [← ei] at this; exact this
      have eJ : ix b j = 100 * b.toNatClampNeg + j.toNatClampNeg := by
        have := ix_nat (i := j.toNatClampNeg) h.2 (by omega)
        rw [← ej] at this; exact this
      refine IS_put (s := b.toNatClampNeg) hS (Or.inr ⟨f3, ?_, f2, f1, fun k hk => ?_⟩) (fun q hq hn => ⟨rfl, rfl, rfl, rfl, fun k hk => ⟨?_, ?_⟩⟩)
      · rcases hS _ (sN h.2).1 with ⟨z, -⟩ | z
        · exact absurd z m2
        · exact z.2.1
      · have hk : (k : Int) < (G 4 b.toNatClampNeg).toInt := hk
        show va_cpy (G 2) (G 2) (ix a i) (ix b j) _ (100 * b.toNatClampNeg + k) = va_cpy (G 29) (G 29) (ix a i) (ix b j) _ (100 * b.toNatClampNeg + k)
        rw [eI, eJ]
        by_cases hin : j.toNatClampNeg ≤ k ∧ k < j.toNatClampNeg + n.toNatClampNeg
        · rw [pk_cpy_in (by omega) (by omega), pk_cpy_in (by omega) (by omega)]
          have := g4 (i.toNatClampNeg + (k - j.toNatClampNeg)) (by omega)
          rw [show 100 * a.toNatClampNeg + i.toNatClampNeg + (100 * b.toNatClampNeg + k - (100 * b.toNatClampNeg + j.toNatClampNeg)) = 100 * a.toNatClampNeg + (i.toNatClampNeg + (k - j.toNatClampNeg)) by omega]
          exact this
        · rw [pk_cpy_out (by omega), pk_cpy_out (by omega)]
          exact f4 k hk
      · show va_cpy (G 2) (G 2) (ix a i) (ix b j) _ (100 * q + k) = G 2 (100 * q + k)
        rw [eI, eJ, pk_cpy_out (by omega)]
      · show va_cpy (G 29) (G 29) (ix a i) (ix b j) _ (100 * q + k) = G 29 (100 * q + k)
        rw [eI, eJ, pk_cpy_out (by omega)]
end
section
/-! count -/
theorem c_blocks {X : Xt} {G : Gt} {Q : Qt} (K : Q (some (.int (G 14 3))) G) : con X m_Pile_blocks [.ref 14] G Q := by
  refine con_rn 40 [] (by decide) rfl ?_
  repeat' first | refine bib (fun h => ?_) (fun h => ?_) | refine bjb (fun h => ?_) (fun h => ?_) | refine bi (fun h => ?_) (fun h => ?_) | refine bj (fun h => ?_) (fun h => ?_) | refine vi (inI (by decide) (by decide)) ?_ | refine vi ?_ ?_ | refine zi (by decide) ?_ | refine zi ?_ ?_ | refine ni rfl ?_ | refine ni (bI_nar _) ?_
  exact K
set_option maxRecDepth 8000 in
theorem c_allPlaces {X : Xt} {G : Gt} {Q : Qt} (K : Q (some (.int 68)) G) : con X m_Pile_allPlaces [] G Q := by
  refine con_rn 200 [] (by decide) rfl ?_
  repeat' first | refine bib_t (by decide) ?_ | refine bib_f (by decide) ?_ | refine bjb_t (by decide) ?_ | refine bjb_f (by decide) ?_ | refine bi_t (by decide) ?_ | refine bi_f (by decide) ?_ | refine bj_t (by decide) ?_ | refine bj_f (by decide) ?_ | refine bib (fun h => ?_) (fun h => ?_) | refine bjb (fun h => ?_) (fun h => ?_) | refine bi (fun h => ?_) (fun h => ?_) | refine bj (fun h => ?_) (fun h => ?_) | refine vi (inI (by decide) (by decide)) ?_ | refine vi ?_ ?_ | refine zi (by decide) ?_ | refine zi ?_ ?_ | refine ni rfl ?_ | refine ni (bI_nar _) ?_
  exact Qi K (by decide)
theorem c_SW_count {X : Xt} {N : Nat} {a : Int32} {G : Gt} {Q : Qt} (hN6 : N ≤ 6) (hl : lyOK (G 5 3)) (hm : G 5 3 = nI N)
    (K0 : a = 0 → Q (some (.int (nI (prs (G 4) 8)))) G)
    (K1 : a = 1 → Q (some (.int (G 5 3))) G)
    (K2 : a = 2 → Q (some (.int (nI (hN (G 5 3) (G 6 4) (G 8) N)))) G)
    (K3 : a = 3 → Q (some (.int (nI (oN (G 5 3) (G 6 4) (G 8) N)))) G)
    (K4 : a = 4 → Q (some (.int (G 14 3))) G)
    (K5 : a = 5 → Q (some (.int 68)) G)
    (K6 : ¬ (0 ≤ a ∧ a ≤ 5) → Q (some (.int (-1000001))) G) : con X m_SW_count [.ref 0, .int a] G Q := by
  refine con_rn 40 [] (by decide) rfl ?_
  refine ⟨fun h => ?_, fun h => ?_, fun h => ?_, fun h => ?_, fun h => ?_, fun h => ?_, fun h => ?_, trivial⟩
  · refine K6 (fun z => ?_)
    ((try simp only [le32, lt32, eq32, ne_eq, cl_0, cl_1, cl_2, cl_3, cl_4, cl_5, cl_6] at *); (try simp only [Int32.reduceToInt] at *); omega)
  · refine c_present ?_
    exact K0 h
  · refine c_layers ?_
    exact K1 h
  · refine c_holding hN6 hl hm ?_
    exact K2 h
  · refine c_loose hN6 hl hm ?_
    exact K3 h
  · refine c_blocks ?_
    exact K4 h
  · refine c_allPlaces ?_
    exact K5 h
def prl (f : Nat → Int32) : Nat → Nat
  | 0 => 0
  | n + 1 => prl f n + (if 0 ≤ f n then 1 else 0)
theorem w_Mc0 {X : Xt} {a : Int32} {G : Gt} {Q : Qt} (K : Q (some (.int (nI (prl (G 27) 8)))) G) : ∀ (m k : Nat) (c d : Int32), c = nI k → k + m = 8 → d = nI (prl (G 27) k) → wp X m_Mo_count 50 [(3, .int c), (2, .int d), (0, .ref 26), (1, .int a)] [] G Q
  | 0, k, c, d, hc, hk, hd => by
    subst hc
    have hk : k = 8 := by omega
    subst hk
    refine rn_wp (stops := [50]) 40 ?_
    refine bi_t (by decide) ?_
    exact Qi K hd
  | m + 1, k, c, d, hc, hk, hd => by
    subst hc
    refine rn_wp (stops := [50]) 40 ?_
    refine bi_f (by rw [show (8 : Int32) = nI 8 from rfl]; simp (disch := omega) only [nI_1, nI_add, nI_clamp, nI_leI, nI_ltI, nI_eq, nI_toInt]; omega) ?_
    refine vi (vp_in_nI (by omega) (by omega)) ?_
    rw [nI_clamp (by omega)]
    refine bi (fun h => ?_) (fun h => ?_)
    · refine w_Mc0 K m (k + 1) _ _ (nI_1 _) (by omega) ?_
      rw [hd, prl, if_neg (fun z => Int32.not_lt.mpr z h)]
      exact Int32.add_zero _
    · refine w_Mc0 K m (k + 1) _ _ (nI_1 _) (by omega) ?_
      rw [hd, prl, if_pos (Int32.not_lt.mp h), nI_1]
theorem w_Mc2 {X : Xt} {N : Nat} {G : Gt} {Q : Qt} (hN6 : N ≤ 6) (hl : lyOK (G 26 6)) (hm : G 26 6 = nI N) (K : Q (some (.int (nI (hN (G 26 6) (G 30 4) (G 32) N)))) G) : ∀ (m j : Nat) (c t : Int32), c = nI j → j + m = N → t = nI (hN (G 26 6) (G 30 4) (G 32) j) → wp X m_Mo_count 88 [(3, .int c), (2, .int t), (0, .ref 26), (1, .int 2)] [] G Q
  | 0, j, c, t, hc, hj, ht => by
    subst hc
    have hj : j = N := by omega
    subst hj
    refine rn_wp (stops := [88]) 40 ?_
    refine bi (fun h => ?_) (fun h => ?_)
    · exact Qi K ht
    · exact absurd (by rw [hm]; exact Int32.le_refl _) h
  | m + 1, j, c, t, hc, hj, ht => by
    subst hc
    refine rn_wp (stops := [88]) 40 ?_
    refine bi (fun h => ?_) (fun h => ?_)
    · exfalso
      rw [hm] at h
      simp (disch := omega) only [nI_1, nI_add, nI_clamp, nI_leI, nI_ltI, nI_eq, nI_toInt] at h
      omega
    · refine bj_t rfl ?_
      refine c_Mholds hl (by rw [hm]; exact lkN hN6 (by omega)) ?_
      refine bib (fun h2 => ?_) (fun h2 => ?_)
      · refine w_Mc2 hN6 hl hm K m (j + 1) _ _ (nI_1 _) (by omega) ?_
        rw [ht, hN, if_neg h2]
        exact Int32.add_zero _
      · refine w_Mc2 hN6 hl hm K m (j + 1) _ _ (nI_1 _) (by omega) ?_
        rw [ht, hN, if_pos h2, nI_1]
theorem w_Mc3 {X : Xt} {N : Nat} {G : Gt} {Q : Qt} (hN6 : N ≤ 6) (hl : lyOK (G 26 6)) (hm : G 26 6 = nI N) (K : Q (some (.int (nI (oN (G 26 6) (G 30 4) (G 32) N)))) G) : ∀ (m j : Nat) (c t : Int32), c = nI j → j + m = N → t = nI (oN (G 26 6) (G 30 4) (G 32) j) → wp X m_Mo_count 88 [(3, .int c), (2, .int t), (0, .ref 26), (1, .int 3)] [] G Q
  | 0, j, c, t, hc, hj, ht => by
    subst hc
    have hj : j = N := by omega
    subst hj
    refine rn_wp (stops := [88]) 40 ?_
    refine bi (fun h => ?_) (fun h => ?_)
    · exact Qi K ht
    · exact absurd (by rw [hm]; exact Int32.le_refl _) h
  | m + 1, j, c, t, hc, hj, ht => by
    subst hc
    refine rn_wp (stops := [88]) 40 ?_
    refine bi (fun h => ?_) (fun h => ?_)
    · exfalso
      rw [hm] at h
      simp (disch := omega) only [nI_1, nI_add, nI_clamp, nI_leI, nI_ltI, nI_eq, nI_toInt] at h
      omega
    · refine bj_f (by decide) ?_
      refine c_MkindOf hl (by rw [hm]; exact lkN hN6 (by omega)) ?_
      refine bj (fun h2 => ?_) (fun h2 => ?_)
      · refine w_Mc3 hN6 hl hm K m (j + 1) _ _ (nI_1 _) (by omega) ?_
        rw [ht, oN, if_neg h2]
        exact Int32.add_zero _
      · refine w_Mc3 hN6 hl hm K m (j + 1) _ _ (nI_1 _) (by omega) ?_
        rw [ht, oN, if_pos h2, nI_1]
/-- the bits of the rows against the places -/
def lbR (li ro : Nat → Int32) : Prop := (∀ r, r < 8 → 0 ≤ (ro r).toInt) ∧ ∀ r p : Nat, r < 8 → p < 12 → (¬ li (12 * r + p) = 0 ↔ tb ro r p)
theorem bit_val {x : Int32} {P : Nat} (h : 0 ≤ x.toInt) (hP : P < 32) : (x >>> (nI P &&& 31)) &&& 1 = nI (if x.toInt.toNat.testBit P = true then 1 else 0) := by
  obtain ⟨e, hB⟩ := rN h
  generalize x.toInt.toNat = B at *
  subst e
  rw [pk_shrN hB _ P (s_l P hP), pk_andN (Nat.lt_of_le_of_lt (Nat.div_le_self _ _) (by omega)) 1 rfl, Nat.testBit_eq_decide_div_mod_eq]
  congr 1
  simp only [decide_eq_true_eq]
  split <;> omega
theorem w_Mc4i {X : Xt} {li : Nat → Int32} {R : Nat} {a : Int32} {G : Gt} {Q : Qt} (hR : R < 8) (hb : lbR li (G 37)) (K : ∀ q, q = nI (R + 1) → wp X m_Mo_count 144 [(3, .int q), (2, .int (nI (cnt li (12 * (R + 1))))), (0, .ref 26), (1, .int a)] [] G Q) : ∀ (m k : Nat) (c t : Int32), c = nI k → k + m = 12 → t = nI (cnt li (12 * R + k)) → wp X m_Mo_count 153 [(4, .int c), (3, .int (nI R)), (2, .int t), (0, .ref 26), (1, .int a)] [] G Q
  | 0, k, c, t, hc, hk, ht => by
    subst hc
    have hk : k = 12 := by omega
    subst hk
    refine rn_wp (stops := [144, 153]) 40 ?_
    refine bi_t (by decide) ?_
    subst ht
    exact wp_pick [0, 2, 3, 4] (K _ (nI_1 R))
  | m + 1, k, c, t, hc, hk, ht => by
    subst hc
    refine rn_wp (stops := [144, 153]) 40 ?_
    refine bi_f (by rw [show (12 : Int32) = nI 12 from rfl]; simp (disch := omega) only [nI_1, nI_add, nI_clamp, nI_leI, nI_ltI, nI_eq, nI_toInt]; omega) ?_
    refine vi (vp_in_nI (by omega) (by omega)) ?_
    rw [nI_clamp (by omega)]
    refine wp_pick [0, 2, 1, 3, 4] (w_Mc4i hR hb K m (k + 1) _ _ (nI_1 _) (by omega) ?_)
    rw [ht, bit_val (hb.1 R hR) (by omega), nI_add]
    congr 1
    show _ = cnt li (12 * R + k + 1)
    rw [cnt]
    congr 1
    have := hb.2 R k hR (by omega)
    by_cases h : li (12 * R + k) = 0
    · rw [if_pos h, if_neg (fun z => this.mpr z h)]
    · rw [if_neg h, if_pos (this.mp h)]
theorem w_Mc4 {X : Xt} {li : Nat → Int32} {a : Int32} {G : Gt} {Q : Qt} (hb : lbR li (G 37)) (K : Q (some (.int (nI (cnt li 96)))) G) : ∀ (m k : Nat) (c t : Int32), c = nI k → k + m = 8 → t = nI (cnt li (12 * k)) → wp X m_Mo_count 144 [(3, .int c), (2, .int t), (0, .ref 26), (1, .int a)] [] G Q
  | 0, k, c, t, hc, hk, ht => by
    subst hc
    have hk : k = 8 := by omega
    subst hk
    refine rn_wp (stops := [144, 153]) 40 ?_
    refine bi_t (by decide) ?_
    exact Qi K ht
  | m + 1, k, c, t, hc, hk, ht => by
    subst hc
    refine rn_wp (stops := [144, 153]) 40 ?_
    refine bi_f (by rw [show (8 : Int32) = nI 8 from rfl]; simp (disch := omega) only [nI_1, nI_add, nI_clamp, nI_leI, nI_ltI, nI_eq, nI_toInt]; omega) ?_
    exact w_Mc4i (by omega) hb (fun q hq => w_Mc4 hb K m (k + 1) _ _ hq (by omega) rfl) 12 0 _ _ rfl rfl ht
theorem c_Mo_count {X : Xt} {N : Nat} {li : Nat → Int32} {a : Int32} {G : Gt} {Q : Qt} (h0 : G 26 0 = 0) (hN6 : N ≤ 6) (hl : lyOK (G 26 6)) (hm : G 26 6 = nI N) (hb : lbR li (G 37))
    (K0 : a = 0 → Q (some (.int (nI (prl (G 27) 8)))) G)
    (K1 : a = 1 → Q (some (.int (G 26 6))) G)
    (K2 : a = 2 → Q (some (.int (nI (hN (G 26 6) (G 30 4) (G 32) N)))) G)
    (K3 : a = 3 → Q (some (.int (nI (oN (G 26 6) (G 30 4) (G 32) N)))) G)
    (K4 : a = 4 → Q (some (.int (nI (cnt li 96)))) G)
    (K5 : a = 5 → Q (some (.int 68)) G)
    (K6 : ¬ (0 ≤ a ∧ a ≤ 5) → Q (some (.int (-1000001))) G) : con X m_Mo_count [.ref 26, .int a] G Q := by
  refine con_rm 40 [50, 88, 144] (by decide) rfl (by decide +kernel) h0 ?_
  refine ⟨fun h => ?_, fun h => ?_, fun h => ?_, fun h => ?_, fun h => ?_, fun h => ?_, fun h => ?_, trivial⟩
  · refine K6 (fun z => ?_)
    ((try simp only [le32, lt32, eq32, ne_eq, cl_0, cl_1, cl_2, cl_3, cl_4, cl_5, cl_6] at *); (try simp only [Int32.reduceToInt] at *); omega)
  · exact w_Mc0 (K0 h) 8 0 _ _ rfl rfl rfl
  · exact K1 h
  · have h : a = 2 := h
    subst h
    exact w_Mc2 hN6 hl hm (K2 rfl) N 0 _ _ rfl (by omega) rfl
  · have h : a = 3 := h
    subst h
    exact w_Mc3 hN6 hl hm (K3 rfl) N 0 _ _ rfl (by omega) rfl
  · exact w_Mc4 hb (K4 h) 8 0 _ _ rfl rfl rfl
  · exact K5 h
theorem prl_prs {f g : Nat → Int32} : ∀ (n : Nat), (∀ s, s < n → (f s = -1 ↔ ¬ 0 ≤ g s)) → prl g n = prs f n
  | 0, _ => rfl
  | n + 1, h => by
    rw [prl, prs, prl_prs n (fun s hs => h s (by omega))]
    have := h n (by omega)
    by_cases q : f n = -1
    · rw [if_pos q, if_neg (this.mp q)]
    · rw [if_neg q, if_pos (Decidable.byContradiction fun z => q (this.mpr z))]
theorem p_count {X : Xt} {G : Gt} (hI : Inv G) {a : Int32} : pair X m_SW_count m_Mo_count [.int a] G := by
  obtain ⟨⟨w1, w2, w3, w4, w5, w6, w7⟩, hT, hS, hP, hs, h0⟩ := id hI
  obtain ⟨N, hN6, hm⟩ := lyN w5
  have hl' : lyOK (G 26 6) := w1 ▸ w5
  have hm' : G 26 6 = nI N := w1 ▸ hm
  have hb : lbR (G 15) (G 37) := ⟨fun r hr => (hP.2.1 r hr).1, fun r p hr hp => IP_0 hP hr hp⟩
  have hM : ∀ {v : Int32}, (a = 0 → nI (prs (G 4) 8) = v) → (a = 1 → G 5 3 = v) → (a = 2 → nI (hN (G 5 3) (G 6 4) (G 8) N) = v) → (a = 3 → nI (oN (G 5 3) (G 6 4) (G 8) N) = v) → (a = 4 → G 14 3 = v) → (a = 5 → 68 = v) → (¬ (0 ≤ a ∧ a ≤ 5) → -1000001 = v) → con X m_Mo_count [.ref 26, .int a] G (fun r2 G2 => r2 = some (.int v) ∧ Inv G2) := by
    intro v g0 g1 g2 g3 g4 g5 g6
    refine c_Mo_count h0 hN6 hl' hm' hb (fun h => ⟨?_, hI⟩) (fun h => ⟨?_, hI⟩) (fun h => ⟨?_, hI⟩) (fun h => ⟨?_, hI⟩) (fun h => ⟨?_, hI⟩) (fun h => ⟨?_, hI⟩) (fun h => ⟨?_, hI⟩)
    · rw [prl_prs 8 (fun s hs => (IS_at hS hs).1), g0 h]
    · rw [← w1, g1 h]
    · rw [← w1, ← w2, ← w4, g2 h]
    · rw [← w1, ← w2, ← w4, g3 h]
    · rw [← hP.2.2.2, g4 h]
    · rw [g5 h]
    · rw [g6 h]
  have d0 : ∀ {P : Prop}, a = 0 → (a = 1 ∨ a = 2 ∨ a = 3 ∨ a = 4 ∨ a = 5 ∨ ¬ (0 ≤ a ∧ a ≤ 5)) → P := by
    intro P h h2
    subst h
    exact absurd h2 (by decide)
  refine c_SW_count hN6 w5 hm (fun h => pq ?_) (fun h => pq ?_) (fun h => pq ?_) (fun h => pq ?_) (fun h => pq ?_) (fun h => pq ?_) (fun h => pq ?_)
  · subst h; exact hM (fun _ => rfl) (fun z => absurd z (by decide)) (fun z => absurd z (by decide)) (fun z => absurd z (by decide)) (fun z => absurd z (by decide)) (fun z => absurd z (by decide)) (fun z => absurd (by decide) z)
  · subst h; exact hM (fun z => absurd z (by decide)) (fun _ => rfl) (fun z => absurd z (by decide)) (fun z => absurd z (by decide)) (fun z => absurd z (by decide)) (fun z => absurd z (by decide)) (fun z => absurd (by decide) z)
  · subst h; exact hM (fun z => absurd z (by decide)) (fun z => absurd z (by decide)) (fun _ => rfl) (fun z => absurd z (by decide)) (fun z => absurd z (by decide)) (fun z => absurd z (by decide)) (fun z => absurd (by decide) z)
  · subst h; exact hM (fun z => absurd z (by decide)) (fun z => absurd z (by decide)) (fun z => absurd z (by decide)) (fun _ => rfl) (fun z => absurd z (by decide)) (fun z => absurd z (by decide)) (fun z => absurd (by decide) z)
  · subst h; exact hM (fun z => absurd z (by decide)) (fun z => absurd z (by decide)) (fun z => absurd z (by decide)) (fun z => absurd z (by decide)) (fun _ => rfl) (fun z => absurd z (by decide)) (fun z => absurd (by decide) z)
  · subst h; exact hM (fun z => absurd z (by decide)) (fun z => absurd z (by decide)) (fun z => absurd z (by decide)) (fun z => absurd z (by decide)) (fun z => absurd z (by decide)) (fun _ => rfl) (fun z => absurd (by decide) z)
  · exact hM (fun z => absurd (by rw [z]; decide) h) (fun z => absurd (by rw [z]; decide) h) (fun z => absurd (by rw [z]; decide) h) (fun z => absurd (by rw [z]; decide) h) (fun z => absurd (by rw [z]; decide) h) (fun z => absurd (by rw [z]; decide) h) (fun _ => rfl)
end
section
/-! hours: what both sides say of a storm -/
def hv (w d sl : Int32) : Int32 := if 30 < w * 100 / (d * sl + 10) then (w * 100 / (d * sl + 10) - 30) * (w * 100 / (d * sl + 10) - 30) / 10 else 0
def ovv (w l cr : Int32) : Int32 := if 0 < w * 2 - 10 * (cr - l) then (w * 2 - 10 * (cr - l)) * (w * 2 - 10 * (cr - l)) / 100 else 0
def rngI (x : Int32) (a b : Int32) : Prop := a ≤ x ∧ x ≤ b
theorem rng_N {x b : Int32} {B : Nat} (hb : b.toInt = B) (h : 0 ≤ x ∧ x ≤ b) : ∃ k : Nat, k ≤ B ∧ x = nI k := by
  obtain ⟨e, e1, -⟩ := toN h.1
  have h1 := le32.mp h.2
  exact ⟨_, by omega, e⟩
theorem hv_c {w d sl : Int32} (hw : 0 ≤ w ∧ w ≤ 200) (hd : 0 ≤ d ∧ d ≤ 40) (hs : 0 ≤ sl ∧ sl ≤ 60) : ¬ d * sl + 10 = 0 ∧ (w * 100 / (d * sl + 10) - 30 ≤ 0 ↔ ¬ 30 < w * 100 / (d * sl + 10)) := by
  obtain ⟨W, hW, rfl⟩ := rng_N (B := 200) rfl hw
  obtain ⟨D, hD, rfl⟩ := rng_N (B := 40) rfl hd
  obtain ⟨S, hS, rfl⟩ := rng_N (B := 60) rfl hs
  have hm : D * S ≤ 40 * 60 := Nat.mul_le_mul hD hS
  have e1 : nI D * nI S + 10 = nI (D * S + 10) := by rw [show (10 : Int32) = nI 10 from rfl, pk_mul, nI_add]
  have e2 : nI W * 100 / nI (D * S + 10) = nI (W * 100 / (D * S + 10)) := by
    rw [show (100 : Int32) = nI 100 from rfl, pk_mul, pk_div (by omega) (by omega) (by omega)]
  rw [e1, e2]
  have hV : W * 100 / (D * S + 10) ≤ W * 100 := Nat.div_le_self _ _
  generalize W * 100 / (D * S + 10) = V at *
  refine ⟨nI_ne0 (by omega) (by omega), ?_⟩
  rw [show (30 : Int32) = nI 30 from rfl, nI_ltI (by omega) (by omega), le32, pk_sub_toInt (by omega) (by omega)]
  simp
  omega
theorem hv_0 {w d sl : Int32} (h : ¬ 30 < w * 100 / (d * sl + 10)) : hv w d sl = 0 := if_neg h
theorem hv_1 {w d sl : Int32} (h : 30 < w * 100 / (d * sl + 10)) : hv w d sl = (w * 100 / (d * sl + 10) - 30) * (w * 100 / (d * sl + 10) - 30) / 10 := if_pos h
theorem ovv_0 {w l cr : Int32} (h : ¬ 0 < w * 2 - 10 * (cr - l)) : ovv w l cr = 0 := if_neg h
theorem ovv_1 {w l cr : Int32} (h : 0 < w * 2 - 10 * (cr - l)) : ovv w l cr = (w * 2 - 10 * (cr - l)) * (w * 2 - 10 * (cr - l)) / 100 := if_pos h
set_option maxRecDepth 4000 in
theorem w_harm {X : Xt} {d sl : Int32} {N : Nat} {G : Gt} {Q : Qt} (hN : N ≤ 48) (hh : G 18 2 = nI N) (hw : ∀ k, k < N → 0 ≤ G 19 k ∧ G 19 k ≤ 200) (hd : 0 ≤ d ∧ d ≤ 40) (hs : 0 ≤ sl ∧ sl ≤ 60) (K : Q (some (.int (sI (fun k => hv (G 19 k) d sl) N))) G) : ∀ (m k : Nat) (c t : Int32), c = nI k → k + m = N → t = sI (fun k => hv (G 19 k) d sl) k → wp X m_Hours_harm 5 [(4, .int c), (3, .int t), (0, .ref 18), (1, .int d), (2, .int sl)] [] G Q
  | 0, k, c, t, hc, hk, ht => by
    subst hc
    have hk : k = N := by omega
    subst hk
    refine rn_wp (stops := [5]) 60 ?_
    refine bi_t (by rw [hh]; exact Int32.le_refl _) ?_
    exact Qi K ht
  | m + 1, k, c, t, hc, hk, ht => by
    subst hc
    refine rn_wp (stops := [5]) 60 ?_
    refine bi_f (by rw [hh]; simp (disch := omega) only [nI_1, nI_add, nI_clamp, nI_leI, nI_ltI, nI_eq, nI_toInt]; omega) ?_
    refine vi (vp_in_nI (by omega) (by omega)) ?_
    rw [nI_clamp (by omega)]
    obtain ⟨g1, g2⟩ := hv_c (hw k (by omega)) hd hs
    refine zi g1 ?_
    refine bi (fun h => ?_) (fun h => ?_)
    · refine wp_pick [0, 2, 3, 4, 5] (w_harm hN hh hw hd hs K m (k + 1) _ _ (nI_1 _) (by omega) ?_)
      rw [ht, sI, hv_0 (g2.mp h), Int32.add_zero]
    · refine zi (by decide) ?_
      refine wp_pick [0, 1, 3, 4, 5] (w_harm hN hh hw hd hs K m (k + 1) _ _ (nI_1 _) (by omega) ?_)
      rw [ht, sI, hv_1 (Decidable.byContradiction fun z => h (g2.mpr z))]
theorem c_harm {X : Xt} {d sl : Int32} {N : Nat} {G : Gt} {Q : Qt} (hN : N ≤ 48) (hh : G 18 2 = nI N) (hw : ∀ k, k < N → 0 ≤ G 19 k ∧ G 19 k ≤ 200) (hd : 0 ≤ d ∧ d ≤ 40) (hs : 0 ≤ sl ∧ sl ≤ 60) (K : Q (some (.int (sI (fun k => hv (G 19 k) d sl) N))) G) : con X m_Hours_harm [.ref 18, .int d, .int sl] G Q := by
  refine con_rn 10 [5] (by decide) rfl ?_
  exact w_harm hN hh hw hd hs K N 0 _ _ rfl (by omega) rfl
set_option maxRecDepth 4000 in
theorem w_over {X : Xt} {cr : Int32} {N : Nat} {G : Gt} {Q : Qt} (hN : N ≤ 48) (hh : G 18 2 = nI N) (K : Q (some (.int (sI (fun k => ovv (G 19 k) (G 20 k) cr) N))) G) : ∀ (m k : Nat) (c t : Int32), c = nI k → k + m = N → t = sI (fun k => ovv (G 19 k) (G 20 k) cr) k → wp X m_Hours_over 4 [(3, .int c), (2, .int t), (0, .ref 18), (1, .int cr)] [] G Q
  | 0, k, c, t, hc, hk, ht => by
    subst hc
    have hk : k = N := by omega
    subst hk
    refine rn_wp (stops := [4]) 60 ?_
    refine bi_t (by rw [hh]; exact Int32.le_refl _) ?_
    exact Qi K ht
  | m + 1, k, c, t, hc, hk, ht => by
    subst hc
    refine rn_wp (stops := [4]) 60 ?_
    refine bi_f (by rw [hh]; simp (disch := omega) only [nI_1, nI_add, nI_clamp, nI_leI, nI_ltI, nI_eq, nI_toInt]; omega) ?_
    refine vi (vp_in_nI (by omega) (by omega)) ?_
    refine vi (vp_in_nI (by omega) (by omega)) ?_
    rw [nI_clamp (by omega)]
    refine bi (fun h => ?_) (fun h => ?_)
    · refine wp_pick [0, 2, 3, 4] (w_over hN hh K m (k + 1) _ _ (nI_1 _) (by omega) ?_)
      rw [ht, sI, ovv_0 (Int32.not_lt.mpr h), Int32.add_zero]
    · refine zi (by decide) ?_
      refine wp_pick [0, 1, 3, 4] (w_over hN hh K m (k + 1) _ _ (nI_1 _) (by omega) ?_)
      rw [ht, sI, ovv_1 (Int32.not_le.mp h)]
theorem c_over {X : Xt} {cr : Int32} {N : Nat} {G : Gt} {Q : Qt} (hN : N ≤ 48) (hh : G 18 2 = nI N) (K : Q (some (.int (sI (fun k => ovv (G 19 k) (G 20 k) cr) N))) G) : con X m_Hours_over [.ref 18, .int cr] G Q := by
  refine con_rn 10 [4] (by decide) rfl ?_
  exact w_over hN hh K N 0 _ _ rfl (by omega) rfl
theorem twoA (A k : Nat) : nI A + 2 * nI k = nI (A + 2 * k) := two_at A k
set_option maxRecDepth 4000 in
theorem w_harmBy {X : Xt} {d : Int32} {A N : Nat} {G : Gt} {Q : Qt} (hN : A + 2 * N ≤ 800) (hw : ∀ k, k < N → 0 ≤ G 29 (A + 2 * k) ∧ G 29 (A + 2 * k) ≤ 200) (hd : 0 ≤ d ∧ d ≤ 40) (hs : 0 ≤ G 30 2 ∧ G 30 2 ≤ 60) (K : Q (some (.int (sI (fun k => hv (G 29 (A + 2 * k)) d (G 30 2)) N))) G) : ∀ (m k : Nat) (c t : Int32), c = nI k → k + m = N → t = sI (fun k => hv (G 29 (A + 2 * k)) d (G 30 2)) k → wp X m_Mo_harmBy 6 [(5, .int c), (4, .int t), (0, .ref 26), (1, .int (nI A)), (2, .int (nI N)), (3, .int d)] [] G Q
  | 0, k, c, t, hc, hk, ht => by
    subst hc
    have hk : k = N := by omega
    subst hk
    refine rn_wp (stops := [6]) 60 ?_
    refine bi_t (Int32.le_refl _) ?_
    exact Qi K ht
  | m + 1, k, c, t, hc, hk, ht => by
    subst hc
    refine rn_wp (stops := [6]) 60 ?_
    refine bi_f (by simp (disch := omega) only [nI_1, nI_add, nI_clamp, nI_leI, nI_ltI, nI_eq, nI_toInt]; omega) ?_
    refine vi (by rw [twoA]; exact vp_in_nI (by omega) (by omega)) ?_
    rw [twoA, nI_clamp (by omega)]
    refine vi (inI (by decide) (by decide)) ?_
    rw [cl_2]
    obtain ⟨g1, g2⟩ := hv_c (hw k (by omega)) hd hs
    refine zi g1 ?_
    refine bi (fun h => ?_) (fun h => ?_)
    · refine wp_pick [0, 1, 3, 4, 5, 6] (w_harmBy hN hw hd hs K m (k + 1) _ _ (nI_1 _) (by omega) ?_)
      rw [ht, sI, hv_0 (Int32.not_lt.mpr h)]
    · refine zi (by decide) ?_
      refine wp_pick [0, 1, 3, 4, 5, 6] (w_harmBy hN hw hd hs K m (k + 1) _ _ (nI_1 _) (by omega) ?_)
      rw [ht, sI, hv_1 (Int32.not_le.mp h)]
theorem c_harmBy {X : Xt} {d : Int32} {A N : Nat} {G : Gt} {Q : Qt} (hN : A + 2 * N ≤ 800) (hw : ∀ k, k < N → 0 ≤ G 29 (A + 2 * k) ∧ G 29 (A + 2 * k) ≤ 200) (hd : 0 ≤ d ∧ d ≤ 40) (hs : 0 ≤ G 30 2 ∧ G 30 2 ≤ 60) (K : Q (some (.int (sI (fun k => hv (G 29 (A + 2 * k)) d (G 30 2)) N))) G) : con X m_Mo_harmBy [.ref 26, .int (nI A), .int (nI N), .int d] G Q := by
  refine con_rn 10 [6] (by decide) rfl ?_
  exact w_harmBy hN hw hd hs K N 0 _ _ rfl (by omega) rfl
set_option maxRecDepth 4000 in
theorem w_overBy {X : Xt} {cr : Int32} {A N : Nat} {G : Gt} {Q : Qt} (hN : A + 2 * N ≤ 800) (K : Q (some (.int (sI (fun k => ovv (G 29 (A + 2 * k)) (G 29 (A + (2 * k + 1))) cr) N))) G) : ∀ (m k : Nat) (c t : Int32), c = nI k → k + m = N → t = sI (fun k => ovv (G 29 (A + 2 * k)) (G 29 (A + (2 * k + 1))) cr) k → wp X m_Mo_overBy 6 [(5, .int c), (4, .int t), (0, .ref 26), (1, .int (nI A)), (2, .int (nI N)), (3, .int cr)] [] G Q
  | 0, k, c, t, hc, hk, ht => by
    subst hc
    have hk : k = N := by omega
    subst hk
    refine rn_wp (stops := [6]) 60 ?_
    refine bi_t (Int32.le_refl _) ?_
    exact Qi K ht
  | m + 1, k, c, t, hc, hk, ht => by
    subst hc
    refine rn_wp (stops := [6]) 60 ?_
    refine bi_f (by simp (disch := omega) only [nI_1, nI_add, nI_clamp, nI_leI, nI_ltI, nI_eq, nI_toInt]; omega) ?_
    refine vi (by rw [twoA]; exact vp_in_nI (by omega) (by omega)) ?_
    refine vi (by rw [twoA, nI_1]; exact vp_in_nI (by omega) (by omega)) ?_
    rw [twoA, nI_1, nI_clamp (by omega), nI_clamp (by omega), Int32.mul_comm 2]
    refine bi (fun h => ?_) (fun h => ?_)
    · refine wp_pick [0, 1, 3, 4, 5, 6] (w_overBy hN K m (k + 1) _ _ (nI_1 _) (by omega) ?_)
      rw [ht, sI, ← Nat.add_assoc, ovv_0 (Int32.not_lt.mpr h)]
    · refine zi (by decide) ?_
      refine wp_pick [0, 1, 3, 4, 5, 6] (w_overBy hN K m (k + 1) _ _ (nI_1 _) (by omega) ?_)
      rw [ht, sI, ← Nat.add_assoc, ovv_1 (Int32.not_le.mp h)]
theorem c_overBy {X : Xt} {cr : Int32} {A N : Nat} {G : Gt} {Q : Qt} (hN : A + 2 * N ≤ 800) (K : Q (some (.int (sI (fun k => ovv (G 29 (A + 2 * k)) (G 29 (A + (2 * k + 1))) cr) N))) G) : con X m_Mo_overBy [.ref 26, .int (nI A), .int (nI N), .int cr] G Q := by
  refine con_rn 10 [6] (by decide) rfl ?_
  exact w_overBy hN K N 0 _ _ rfl (by omega) rfl
/-- the least whole number of which the third power is w or more, from d on -/
def rtF (W : Nat) : Nat → Nat → Nat
  | 0, d => d
  | m + 1, d => if W ≤ d * d * d then d else rtF W m (d + 1)
theorem cube_lt {k : Nat} (h : k ≤ 40) : k * k * k ≤ 64000 := by
  have h1 : k * k ≤ 40 * 40 := Nat.mul_le_mul h h
  have h2 : k * k * k ≤ 40 * 40 * 40 := Nat.mul_le_mul h1 h
  omega
theorem cube_I (k : Nat) : nI k * nI k * nI k = nI (k * k * k) := by rw [pk_mul, pk_mul]
theorem w_root {X : Xt} {W : Nat} {G : Gt} {Q : Qt} (hW : W ≤ 60000) : ∀ (m k : Nat) (c : Int32), c = nI k → k + m = 40 → Q (some (.int (nI (rtF W m k)))) G → wp X m_Mo_root 2 [(1, .int c), (0, .int (nI W))] [] G Q
  | 0, k, c, hc, hk, K => by
    subst hc
    have hk : k = 40 := by omega
    subst hk
    refine rn_wp (stops := [2]) 40 ?_
    refine bi_t (by rw [cube_I, nI_leI (by omega) (by omega)]; omega) ?_
    exact K
  | m + 1, k, c, hc, hk, K => by
    subst hc
    have hq := cube_lt (k := k) (by omega)
    refine rn_wp (stops := [2]) 40 ?_
    refine bi (fun h => ?_) (fun h => ?_)
    · rw [cube_I, nI_leI (by omega) (by omega)] at h
      rw [rtF, if_pos h] at K
      exact K
    · rw [cube_I, nI_leI (by omega) (by omega)] at h
      rw [rtF, if_neg h] at K
      exact w_root hW m (k + 1) _ (nI_1 _) (by omega) K
theorem c_root {X : Xt} {W : Nat} {G : Gt} {Q : Qt} (hW : W ≤ 60000) (K : Q (some (.int (nI (rtF W 39 1)))) G) : con X m_Mo_root [.int (nI W)] G Q := by
  refine con_rn 10 [2] (by decide) rfl ?_
  exact w_root hW 39 1 _ rfl rfl K
theorem w_bsize {X : Xt} {W : Nat} {G : Gt} {Q : Qt} (hW : W ≤ 60000) : ∀ (m k : Nat) (c : Int32), c = nI k → k + m = 40 → Q (some (.int (nI (rtF W m k)))) G → wp X m_Wall_blockSize 20 [(2, .int c), (1, .int (nI W)), (0, .ref 5)] [] G Q
  | 0, k, c, hc, hk, K => by
    subst hc
    have hk : k = 40 := by omega
    subst hk
    refine rn_wp (stops := [20]) 40 ?_
    refine bi_t (by decide) ?_
    exact K
  | m + 1, k, c, hc, hk, K => by
    subst hc
    have hq := cube_lt (k := k) (by omega)
    refine rn_wp (stops := [20]) 40 ?_
    refine bi_f (by rw [show (40 : Int32) = nI 40 from rfl, nI_leI (by omega) (by omega)]; omega) ?_
    refine bi (fun h => ?_) (fun h => ?_)
    · rw [cube_I, nI_leI (by omega) (by omega)] at h
      rw [rtF, if_pos h] at K
      exact K
    · rw [cube_I, nI_leI (by omega) (by omega)] at h
      rw [rtF, if_neg h] at K
      exact w_bsize hW m (k + 1) _ (nI_1 _) (by omega) K
/-- how large a block of layer 0 is -/
def bsz (ly : Int32) (w : Nat → Int32) : Nat := rtF (if ly = 0 then 1 else (w 0).toNatClampNeg) 39 1
theorem c_blockSize {X : Xt} {G : Gt} {Q : Qt} (hw : ¬ G 5 3 = 0 → 1 ≤ G 8 0 ∧ G 8 0 ≤ 60000) (K : Q (some (.int (nI (bsz (G 5 3) (G 8))))) G) : con X m_Wall_blockSize [.ref 5] G Q := by
  refine con_rn 20 [20] (by decide) rfl ?_
  refine bj (fun h => ?_) (fun h => ?_)
  · refine vi (inI (by decide) (by decide)) ?_
    rw [cl_0]
    unfold bsz at K
    rw [if_neg h] at K
    obtain ⟨e, e1, -⟩ := toN (x := G 8 0) (Int32.le_trans (by decide) (hw h).1)
    have h2 : (G 8 0).toInt ≤ 60000 := by simpa using le32.mp (hw h).2
    generalize (G 8 0).toNatClampNeg = W at *
    rw [e]
    exact w_bsize (by omega) 39 1 _ rfl rfl K
  · unfold bsz at K
    rw [if_pos h] at K
    exact w_bsize (W := 1) (by omega) 39 1 _ rfl rfl K
theorem rtF_rng (W : Nat) : ∀ (m d : Nat), d ≤ rtF W m d ∧ rtF W m d ≤ d + m
  | 0, d => ⟨Nat.le_refl _, Nat.le_refl _⟩
  | m + 1, d => by
    unfold rtF
    split
    · omega
    · have := rtF_rng W m (d + 1)
      omega
end
section
/-! storms: reading the hours -/
abbrev fX (G : Gt) (s : Int32) (I : Nat) : Nat → Int32 := fun k => G 2 (100 * s.toNatClampNeg + (I + k))
abbrev fM (G : Gt) (S I : Nat) : Nat → Int32 := fun k => G 29 (100 * S + (I + k))
set_option maxRecDepth 4000 in
theorem w_read {X : Xt} {s : Int32} {I N : Nat} {G : Gt} {Q : Qt} (hs : 0 ≤ s ∧ s ≤ 7) (hN : I + 2 * N ≤ 100) (h48 : N ≤ 48)
    (K1 : ∀ a b : Nat → Int32, ¬ spP (fX G s I) 200 100 N → Q (some (.int 0)) (sG (sG G 19 a) 20 b))
    (K2 : ∀ a b : Nat → Int32, spP (fX G s I) 200 100 N → (∀ j, j < N → a j = fX G s I (2 * j) ∧ b j = fX G s I (2 * j + 1)) → Q (some (.int 1)) (sG (sG (sG G 19 a) 20 b) 18 (upd (G 18) 2 (nI N)))) : ∀ (m k : Nat) (c : Int32) (a b : Nat → Int32), c = nI k → k + m = N → spP (fX G s I) 200 100 k → (∀ j, j < k → a j = fX G s I (2 * j) ∧ b j = fX G s I (2 * j + 1)) → wp X m_Hours_read 3 [(5, .int c), (0, .ref 18), (1, .ref 1), (2, .int s), (3, .int (nI I)), (4, .int (nI N))] [] (sG (sG G 19 a) 20 b) Q
  | 0, k, c, a, b, hc, hk, hj, hab => by
    subst hc
    have hk : k = N := by omega
    subst hk
    refine rn_wp (stops := [3]) 80 ?_
    refine bi_t (Int32.le_refl _) ?_
    exact ni rfl (K2 a b hj hab)
  | m + 1, k, c, a, b, hc, hk, hj, hab => by
    subst hc
    refine rn_wp (stops := [3]) 80 ?_
    refine bi_f (by simp (disch := omega) only [nI_1, nI_add, nI_clamp, nI_leI, nI_ltI, nI_eq, nI_toInt]; omega) ?_
    refine c_itemN (j := I + 2 * k) hs (two_at I k) (by omega) ?_
    refine vi (vp_in_nI (by omega) (by omega)) ?_
    rw [nI_clamp (by omega)]
    refine c_itemN (j := I + (2 * k + 1)) hs (by rw [two_at, nI_1]; rfl) (by omega) ?_
    refine vi (vp_in_nI (by omega) (by omega)) ?_
    rw [nI_clamp (by omega)]
    have e4 : sG (sG (sG (sG G 19 a) 20 b) 19 (upd a k (fX G s I (2 * k)))) 20 (upd b k (fX G s I (2 * k + 1))) = sG (sG G 19 (upd a k (fX G s I (2 * k)))) 20 (upd b k (fX G s I (2 * k + 1))) := sG_4
    refine vi (vp_in_nI (by omega) (by omega)) ?_
    rw [nI_clamp (by omega)]
    refine c_within ?_
    refine bib (fun h => ?_) (fun h => ?_)
    · have h : ¬ (0 ≤ upd a k (fX G s I (2 * k)) k ∧ upd a k (fX G s I (2 * k)) k ≤ 200) := h
      rw [pk_us] at h
      refine ni rfl (Qg (K1 _ _ (fun z => h (z k (by omega)).1)) e4)
    · have h : 0 ≤ upd a k (fX G s I (2 * k)) k ∧ upd a k (fX G s I (2 * k)) k ≤ 200 := h
      rw [pk_us] at h
      refine vi (vp_in_nI (by omega) (by omega)) ?_
      rw [nI_clamp (by omega)]
      refine c_within ?_
      refine bjb (fun h2 => ?_) (fun h2 => ?_)
      · have h2 : 0 ≤ upd b k (fX G s I (2 * k + 1)) k ∧ upd b k (fX G s I (2 * k + 1)) k ≤ 100 := h2
        rw [pk_us] at h2
        have hw := w_read (X := X) hs hN h48 K1 K2 m (k + 1) _ (upd a k (fX G s I (2 * k))) (upd b k (fX G s I (2 * k + 1))) (nI_1 k) (by omega) (by
          intro q hq
          rcases Nat.lt_succ_iff_lt_or_eq.mp hq with z | z
          · exact hj q z
          · rw [z]; exact ⟨h, h2⟩) (by
          intro q hq
          by_cases e : q = k
          · subst e
            exact ⟨pk_us, pk_us⟩
          · rw [pk_un e, pk_un e]
            exact hab q (by omega))
        rw [← e4] at hw
        exact hw
      · have h2 : ¬ (0 ≤ upd b k (fX G s I (2 * k + 1)) k ∧ upd b k (fX G s I (2 * k + 1)) k ≤ 100) := h2
        rw [pk_us] at h2
        refine ni rfl (Qg (K1 _ _ (fun z => h2 (z k (by omega)).2)) e4)
theorem c_read {X : Xt} {s : Int32} {I N : Nat} {G : Gt} {Q : Qt} (hs : 0 ≤ s ∧ s ≤ 7) (hN : I + 2 * N ≤ 100) (h48 : N ≤ 48)
    (K1 : ∀ a b : Nat → Int32, ¬ spP (fX G s I) 200 100 N → Q (some (.int 0)) (sG (sG G 19 a) 20 b))
    (K2 : ∀ a b : Nat → Int32, spP (fX G s I) 200 100 N → (∀ j, j < N → a j = fX G s I (2 * j) ∧ b j = fX G s I (2 * j + 1)) → Q (some (.int 1)) (sG (sG (sG G 19 a) 20 b) 18 (upd (G 18) 2 (nI N)))) : con X m_Hours_read [.ref 18, .ref 1, .int s, .int (nI I), .int (nI N)] G Q := by
  refine con_rn 10 [3] (by decide) rfl ?_
  have hw := w_read (X := X) hs hN h48 K1 K2 N 0 _ (G 19) (G 20) rfl (by omega) (fun q hq => absurd hq (by omega)) (fun q hq => absurd hq (by omega))
  rw [sG_id, sG_id] at hw
  exact hw
theorem twoS {n : Int32} (hn : 1 ≤ n ∧ n ≤ 48) : n = nI n.toNatClampNeg ∧ 1 ≤ n.toNatClampNeg ∧ n.toNatClampNeg ≤ 48 ∧ 2 * n = nI (2 * n.toNatClampNeg) ∧ (2 * n).toInt = 2 * (n.toNatClampNeg : Int) ∧ 0 ≤ 2 * n := by
  obtain ⟨a, b, c, d, e, f⟩ := twoN ⟨hn.1, Int32.le_trans hn.2 (by decide)⟩
  have h2 : n.toInt ≤ 48 := by simpa using le32.mp hn.2
  have h3 : n.toNatClampNeg = n.toInt.toNat := rfl
  exact ⟨a, b, by omega, d, e, f⟩
theorem fnd_I {z i n : Int32} {N : Nat} (hz : ¬ z = -1 → 0 ≤ z ∧ z ≤ 100) (hn : n.toInt = N) (hn0 : 0 ≤ n) (h : fnd z i n = 0) : i = nI i.toNatClampNeg ∧ i.toNatClampNeg + N ≤ 100 ∧ (i.toNatClampNeg : Int) + N ≤ z.toInt := by
  rcases fnd_cases z i n with ⟨-, h3⟩ | ⟨h3, -⟩
  · rw [h3] at h; exact absurd h (by decide)
  · have h4 := hz h3
    have h5 := (fnd_0 h4 hn0).mp h
    have h6 : z.toInt ≤ 100 := by simpa using le32.mp h4.2
    obtain ⟨e1, e2, -⟩ := toN h5.1
    have := h5.2
    exact ⟨e1, by omega, by omega⟩
theorem c_readHours {X : Xt} {s i n : Int32} {G : Gt} {Q : Qt} (hs : 0 ≤ s ∧ s ≤ 7) (hn : 1 ≤ n ∧ n ≤ 48) (hz : ¬ G 4 s.toNatClampNeg = -1 → 0 ≤ G 4 s.toNatClampNeg ∧ G 4 s.toNatClampNeg ≤ 100)
    (K2 : ¬ fnd (G 4 s.toNatClampNeg) i (2 * n) = 0 → Q (some (.int (-1000010 - fnd (G 4 s.toNatClampNeg) i (2 * n)))) (sG G 0 (upd (G 0) 7 (fnd (G 4 s.toNatClampNeg) i (2 * n)))))
    (K3 : fnd (G 4 s.toNatClampNeg) i (2 * n) = 0 → ∀ a b : Nat → Int32, ¬ spP (fX G s i.toNatClampNeg) 200 100 n.toNatClampNeg → Q (some (.int (-1000001))) (sG (sG G 19 a) 20 b))
    (K4 : fnd (G 4 s.toNatClampNeg) i (2 * n) = 0 → ∀ a b : Nat → Int32, spP (fX G s i.toNatClampNeg) 200 100 n.toNatClampNeg → (∀ j, j < n.toNatClampNeg → a j = fX G s i.toNatClampNeg (2 * j) ∧ b j = fX G s i.toNatClampNeg (2 * j + 1)) → Q (some (.int 0)) (sG (sG (sG G 19 a) 20 b) 18 (upd (G 18) 2 (nI n.toNatClampNeg)))) : con X m_SW_readHours [.ref 0, .int s, .int i, .int n] G Q := by
  obtain ⟨en, t2, t3, t4, t5, t6⟩ := twoS hn
  refine con_rn 40 [] (by decide) rfl ?_
  refine c_fnd hs ?_
  refine bi (fun h => ?_) (fun h => ?_)
  · obtain ⟨ei, hI, -⟩ := fnd_I (N := 2 * n.toNatClampNeg) hz (by rw [t5]; omega) t6 h
    have k3 := K3 h
    have k4 := K4 h
    have hr := fun Q => @c_read X s i.toNatClampNeg n.toNatClampNeg G Q hs hI t3
    rw [← ei, ← en] at hr
    refine hr _ (fun a b hsp => ?_) (fun a b hsp hab => ?_)
    · refine bi_t rfl ?_
      exact k3 a b hsp
    · refine bi_f (by decide) ?_
      rw [← en] at k4
      exact k4 a b hsp hab
  · refine c_found ?_
    exact K2 h
theorem w_lookB {X : Xt} {c n : Int32} {G : Gt} {Q : Qt} (K : wp X m_Mo_lookStorm 90 [(4, .int (-1000001)), (0, .ref 26)] [] G Q) : wp X m_Mo_lookStorm 14 [(5, .int c), (4, .int (-1000001)), (0, .ref 26), (3, .int n)] [] G Q := by
  refine rn_wp (stops := [14, 90]) 20 ?_
  refine bi (fun _ => ?_) (fun _ => ?_)
  · exact wp_pick [1, 2] K
  · refine bj_f (by decide) ?_
    exact wp_pick [1, 2] K
set_option maxRecDepth 4000 in
theorem w_lookS {X : Xt} {S I N : Nat} {G : Gt} {Q : Qt} (hS : S < 8) (hN : I + 2 * N ≤ 100) (K1 : spP (fM G S I) 200 100 N → wp X m_Mo_lookStorm 90 [(4, .int 0), (0, .ref 26)] [] G Q) (K2 : ¬ spP (fM G S I) 200 100 N → wp X m_Mo_lookStorm 90 [(4, .int (-1000001)), (0, .ref 26)] [] G Q) : ∀ (m k : Nat) (c : Int32), c = nI k → k + m = N → spP (fM G S I) 200 100 k → wp X m_Mo_lookStorm 14 [(5, .int c), (4, .int 0), (0, .ref 26), (1, .int (nI S)), (2, .int (nI I)), (3, .int (nI N))] [] G Q
  | 0, k, c, hc, hk, hj => by
    subst hc
    have hk : k = N := by omega
    subst hk
    refine rn_wp (stops := [14, 90]) 80 ?_
    refine bi_t (Int32.le_refl _) ?_
    exact wp_pick [1, 2] (K1 hj)
  | m + 1, k, c, hc, hk, hj => by
    subst hc
    refine rn_wp (stops := [14, 90]) 80 ?_
    refine bi_f (by simp (disch := omega) only [nI_1, nI_add, nI_clamp, nI_leI, nI_ltI, nI_eq, nI_toInt]; omega) ?_
    refine bj_t rfl ?_
    have e1 : 100 * nI S + nI I + 2 * nI k = nI (100 * S + (I + 2 * k)) := by rw [(ixM hS (by omega)).2, two_at, Nat.add_assoc]
    refine vi (by rw [e1]; exact vp_in_nI (by omega) (by omega)) ?_
    rw [e1, nI_clamp (by omega)]
    refine c_in 0 200 rfl rfl ?_
    refine bib (fun h => ?_) (fun h => ?_)
    · exact wp_pick [0, 1, 3, 6] (w_lookB (K2 (fun z => h (z k (by omega)).1)))
    · refine vi (by rw [nI_1]; exact vp_in_nI (by omega) (by omega)) ?_
      rw [nI_1, nI_clamp (by omega)]
      refine c_in 0 100 rfl rfl ?_
      refine bib (fun h2 => ?_) (fun h2 => ?_)
      · exact wp_pick [0, 1, 3, 6] (w_lookB (K2 (fun z => h2 (z k (by omega)).2)))
      · refine wp_pick [0, 1, 3, 4, 5, 6] (w_lookS hS hN K1 K2 m (k + 1) _ (nI_1 _) (by omega) ?_)
        intro q hq
        rcases Nat.lt_succ_iff_lt_or_eq.mp hq with z | z
        · exact hj q z
        · rw [z]; exact ⟨h, h2⟩
theorem U_id (f : Nat → Int32) (k : Nat) : upd f k (f k) = f := by
  funext j
  unfold upd
  split
  · rename_i h; rw [h]
  · rfl
theorem w_lookE {X : Xt} {y : Int32} {G : Gt} {Q : Qt} (K1 : y = 0 → Q (some (.int 0)) (sG G 26 (upd (G 26) 1 0))) (K2 : ¬ y = 0 → Q (some (.int y)) G) : wp X m_Mo_lookStorm 90 [(4, .int y), (0, .ref 26)] [] G Q := by
  refine rn_wp (stops := []) 20 ?_
  refine bj (fun h => ?_) (fun h => ?_)
  · refine Qg (K2 h) ?_
    rw [U_id, sG_id]
  · subst h
    exact K1 rfl
theorem c_lookStorm {X : Xt} {s i n : Int32} {G : Gt} {Q : Qt} (hs : 0 ≤ s ∧ s ≤ 7) (hn : 1 ≤ n ∧ n ≤ 48) (hz : 0 ≤ G 27 s.toNatClampNeg → 0 ≤ G 28 s.toNatClampNeg ∧ G 28 s.toNatClampNeg ≤ 100)
    (K2 : ¬ 0 ≤ G 27 s.toNatClampNeg → Q (some (.int (-1000011))) (sG G 26 (upd (G 26) 1 1)))
    (K3 : 0 ≤ G 27 s.toNatClampNeg → ¬ fnd (G 28 s.toNatClampNeg) i (2 * n) = 0 → Q (some (.int (-1000012))) (sG G 26 (upd (G 26) 1 2)))
    (K4 : 0 ≤ G 27 s.toNatClampNeg → fnd (G 28 s.toNatClampNeg) i (2 * n) = 0 → ¬ spP (fM G s.toNatClampNeg i.toNatClampNeg) 200 100 n.toNatClampNeg → Q (some (.int (-1000001))) G)
    (K5 : 0 ≤ G 27 s.toNatClampNeg → fnd (G 28 s.toNatClampNeg) i (2 * n) = 0 → spP (fM G s.toNatClampNeg i.toNatClampNeg) 200 100 n.toNatClampNeg → Q (some (.int 0)) (sG G 26 (upd (G 26) 1 0))) : con X m_Mo_lookStorm [.ref 26, .int s, .int i, .int n] G Q := by
  obtain ⟨en, t2, t3, t4, t5, t6⟩ := twoS hn
  refine con_rn 80 [14, 90] (by decide) rfl ?_
  refine c_lookAt hs t6 hz (fun g => ?_) (fun g g2 => ?_) (fun g g2 => ?_)
  · refine rn_wp (stops := [14, 90]) 20 ?_
    refine bi (fun h => ?_) (fun h => ?_)
    · exact wp_pick [1, 2] (w_lookE (fun z => absurd z (by decide)) (fun _ => K2 g))
    · refine bj_f (by decide) ?_
      exact wp_pick [1, 2] (w_lookE (fun z => absurd z (by decide)) (fun _ => K2 g))
  · refine rn_wp (stops := [14, 90]) 20 ?_
    refine bi (fun h => ?_) (fun h => ?_)
    · exact wp_pick [1, 2] (w_lookE (fun z => absurd z (by decide)) (fun _ => K3 g g2))
    · refine bj_f (by decide) ?_
      exact wp_pick [1, 2] (w_lookE (fun z => absurd z (by decide)) (fun _ => K3 g g2))
  · obtain ⟨ei, hI, -⟩ := fnd_I (N := 2 * n.toNatClampNeg) (fun _ => hz g) (by rw [t5]; omega) t6 g2
    obtain ⟨es, -, -⟩ := toN hs.1
    have hS := (sN hs).1
    have k4 := K4 g g2
    have k5 := K5 g g2
    clear K2 K3 K4 K5 g g2 t2 t3 t4 t5 t6 hz hn hs
    generalize s.toNatClampNeg = S at *
    generalize i.toNatClampNeg = I at *
    generalize n.toNatClampNeg = N at *
    subst es
    subst ei
    subst en
    refine w_lookS hS hI (fun hsp => ?_) (fun hsp => ?_) N 0 _ rfl (by omega) (fun q hq => absurd hq (by omega))
    · exact w_lookE (fun _ => k5 hsp) (fun z => absurd rfl z)
    · exact w_lookE (fun z => absurd z (by decide)) (fun _ => k4 hsp)
end
section
/-! storm -/
abbrev stP (s n a : Int32) : Prop := (0 ≤ s ∧ s ≤ 7) ∧ (1 ≤ n ∧ n ≤ 48) ∧ 0 ≤ a ∧ a ≤ 1
def stV (f : Nat → Int32) (N : Nat) (d sl cr a : Int32) : Int32 := if a = 0 then sI (fun k => hv (f (2 * k)) d sl) N else sI (fun k => ovv (f (2 * k)) (f (2 * k + 1)) cr) N
theorem fnd_ne (z i n : Int32) : ¬ -1000010 - fnd z i n = 0 := by
  rcases fnd_cases z i n with ⟨-, h⟩ | ⟨-, h | h⟩ <;> rw [h] <;> decide
theorem bsz_rng (ly : Int32) (w : Nat → Int32) : 0 ≤ nI (bsz ly w) ∧ nI (bsz ly w) ≤ 40 := by
  have := rtF_rng (if ly = 0 then 1 else (w 0).toNatClampNeg) 39 1
  unfold bsz
  refine ⟨nI_pos' (by omega), ?_⟩
  rw [show (40 : Int32) = nI 40 from rfl, nI_leI (by omega) (by omega)]
  omega
set_option maxRecDepth 4000 in
theorem c_SW_storm {X : Xt} {s i n a : Int32} {G : Gt} {Q : Qt} (hz : 0 ≤ s ∧ s ≤ 7 → ¬ G 4 s.toNatClampNeg = -1 → 0 ≤ G 4 s.toNatClampNeg ∧ G 4 s.toNatClampNeg ≤ 100) (hw : ¬ G 5 3 = 0 → 1 ≤ G 8 0 ∧ G 8 0 ≤ 60000) (hm : msOK (G 6))
    (K1 : ¬ stP s n a → Q (some (.int (-1000001))) G)
    (K2 : stP s n a → ¬ fnd (G 4 s.toNatClampNeg) i (2 * n) = 0 → Q (some (.int (-1000010 - fnd (G 4 s.toNatClampNeg) i (2 * n)))) (sG G 0 (upd (G 0) 7 (fnd (G 4 s.toNatClampNeg) i (2 * n)))))
    (K3 : stP s n a → fnd (G 4 s.toNatClampNeg) i (2 * n) = 0 → ∀ x y : Nat → Int32, ¬ spP (fX G s i.toNatClampNeg) 200 100 n.toNatClampNeg → Q (some (.int (-1000001))) (sG (sG G 19 x) 20 y))
    (K4 : stP s n a → fnd (G 4 s.toNatClampNeg) i (2 * n) = 0 → ∀ x y z : Nat → Int32, spP (fX G s i.toNatClampNeg) 200 100 n.toNatClampNeg → Q (some (.int (stV (fX G s i.toNatClampNeg) n.toNatClampNeg (nI (bsz (G 5 3) (G 8))) (G 6 2) (G 6 0) a))) (sG (sG (sG (sG G 19 x) 20 y) 18 z) 0 (upd (G 0) 7 0))) : con X m_SW_storm [.ref 0, .int s, .int i, .int n, .int a] G Q := by
  refine con_rn 80 [] (by decide) rfl ?_
  refine c_isNumber (bib (fun h => K1 (fun z => h z.1)) (fun hs => ?_))
  refine c_within (bib (fun h => K1 (fun z => h z.2.1)) (fun hn => ?_))
  refine c_within (bjb (fun ha => ?_) (fun h => K1 (fun z => h z.2.2)))
  have hst : stP s n a := ⟨hs, hn, ha⟩
  have h48 := (twoS hn).2.2.1
  refine c_readHours hs hn (hz hs) (fun h => ?_) (fun h x y hsp => ?_) (fun h x y hsp hab => ?_)
  · refine bi_f (fnd_ne _ _ _) ?_
    exact K2 hst h
  · refine bi_f (by decide) ?_
    exact K3 hst h x y hsp
  · refine bi_t rfl ?_
    have k4 := K4 hst h x y (upd (G 18) 2 (nI n.toNatClampNeg)) hsp
    unfold stV at k4
    refine bj (fun h2 => ?_) (fun h2 => ?_)
    · rw [if_neg h2] at k4
      refine c_measure (by decide) ?_
      refine c_over (N := n.toNatClampNeg) h48 rfl ?_
      refine c_fine ?_
      refine Qi k4 (sI_congr _ (fun k hk => ?_))
      show ovv (x k) (y k) (G 6 0) = _
      rw [(hab k hk).1, (hab k hk).2]
    · rw [if_pos h2] at k4
      refine c_blockSize hw ?_
      refine c_measure (by decide) ?_
      refine c_harm (N := n.toNatClampNeg) h48 rfl (fun k hk => ?_) (bsz_rng _ _) ⟨Int32.le_trans (by decide) hm.2.2.1.1, hm.2.2.1.2⟩ ?_
      · show 0 ≤ x k ∧ x k ≤ 200
        rw [(hab k hk).1]
        exact (hsp k hk).1
      · refine c_fine ?_
        refine Qi k4 (sI_congr _ (fun k hk => ?_))
        show hv (x k) (nI (bsz (G 5 3) (G 8))) (G 6 2) = _
        rw [(hab k hk).1]
set_option maxRecDepth 4000 in
theorem c_Mo_storm {X : Xt} {s i n a : Int32} {G : Gt} {Q : Qt} (h0 : G 26 0 = 0) (hz : 0 ≤ s ∧ s ≤ 7 → 0 ≤ G 27 s.toNatClampNeg → 0 ≤ G 28 s.toNatClampNeg ∧ G 28 s.toNatClampNeg ≤ 100) (hw : ¬ G 26 6 = 0 → 1 ≤ G 32 0 ∧ G 32 0 ≤ 60000) (hm : msOK (G 30))
    (K1 : ¬ stP s n a → Q (some (.int (-1000001))) G)
    (K2 : stP s n a → ¬ 0 ≤ G 27 s.toNatClampNeg → Q (some (.int (-1000011))) (sG G 26 (upd (G 26) 1 1)))
    (K3 : stP s n a → 0 ≤ G 27 s.toNatClampNeg → ¬ fnd (G 28 s.toNatClampNeg) i (2 * n) = 0 → Q (some (.int (-1000012))) (sG G 26 (upd (G 26) 1 2)))
    (K4 : stP s n a → 0 ≤ G 27 s.toNatClampNeg → fnd (G 28 s.toNatClampNeg) i (2 * n) = 0 → ¬ spP (fM G s.toNatClampNeg i.toNatClampNeg) 200 100 n.toNatClampNeg → Q (some (.int (-1000001))) G)
    (K5 : stP s n a → 0 ≤ G 27 s.toNatClampNeg → fnd (G 28 s.toNatClampNeg) i (2 * n) = 0 → spP (fM G s.toNatClampNeg i.toNatClampNeg) 200 100 n.toNatClampNeg → Q (some (.int (stV (fM G s.toNatClampNeg i.toNatClampNeg) n.toNatClampNeg (nI (bsz (G 26 6) (G 32))) (G 30 2) (G 30 0) a))) (sG G 26 (upd (G 26) 1 0))) : con X m_Mo_storm [.ref 26, .int s, .int i, .int n, .int a] G Q := by
  refine con_rm 80 [] (by decide) rfl (by decide +kernel) h0 ?_
  refine c_isSheet (bib (fun h => K1 (fun z => h z.1)) (fun hs => ?_))
  refine c_in 1 48 rfl rfl (bib (fun h => K1 (fun z => h z.2.1)) (fun hn => ?_))
  refine c_in 0 1 rfl rfl (bjb (fun ha => ?_) (fun h => K1 (fun z => h z.2.2)))
  have hst : stP s n a := ⟨hs, hn, ha⟩
  obtain ⟨en, t2, t3, t4, t5, t6⟩ := twoS hn
  refine c_lookStorm hs hn (hz hs) (fun g => ?_) (fun g g2 => ?_) (fun g g2 hsp => ?_) (fun g g2 hsp => ?_)
  · refine bi_f (by decide) ?_
    exact K2 hst g
  · refine bi_f (by decide) ?_
    exact K3 hst g g2
  · refine bi_f (by decide) ?_
    exact K4 hst g g2 hsp
  · refine bi_t (by decide) ?_
    obtain ⟨ei, hI, -⟩ := fnd_I (N := 2 * n.toNatClampNeg) (fun _ => hz hs g) (by rw [t5]; omega) t6 g2
    obtain ⟨es, -, -⟩ := toN hs.1
    have hS := (sN hs).1
    have k5 := K5 hst g g2 hsp
    clear K1 K2 K3 K4 K5 g g2 t2 t4 t5 t6 hz hn hs hst
    generalize s.toNatClampNeg = S at *
    generalize i.toNatClampNeg = I at *
    generalize n.toNatClampNeg = N at *
    subst es
    subst ei
    subst en
    have e8 : 100 * nI S + nI I = nI (100 * S + I) := (ixM hS (by omega)).2
    unfold stV at k5
    have hsl : 0 ≤ G 30 2 ∧ G 30 2 ≤ 60 := ⟨Int32.le_trans (by decide) hm.2.2.1.1, hm.2.2.1.2⟩
    have hwv : ∀ k, k < N → 0 ≤ G 29 (100 * S + I + 2 * k) ∧ G 29 (100 * S + I + 2 * k) ≤ 200 := by
      intro k hk
      rw [Nat.add_assoc]
      exact (hsp k hk).1
    refine bj (fun h2 => ?_) (fun h2 => ?_)
    · rw [if_neg h2] at k5
      refine vi (inI (by decide) (by decide)) ?_
      rw [e8]
      refine c_overBy (A := 100 * S + I) (N := N) (by omega) ?_
      refine Qi k5 (sI_congr _ (fun k hk => ?_))
      show ovv (G 29 (100 * S + I + 2 * k)) (G 29 (100 * S + I + (2 * k + 1))) (G 30 0) = _
      rw [Nat.add_assoc, Nat.add_assoc]
    · rw [if_pos h2] at k5
      have done : Q (some (.int (sI (fun k => hv (G 29 (100 * S + I + 2 * k)) (nI (bsz (G 26 6) (G 32))) (G 30 2)) N))) (sG G 26 (upd (G 26) 1 0)) := by
        refine Qi k5 (sI_congr _ (fun k hk => ?_))
        rw [Nat.add_assoc]
      have hb := bsz_rng (G 26 6) (G 32)
      unfold bsz at done hb
      refine bj (fun h3 => ?_) (fun h3 => ?_)
      · have h3 : ¬ G 26 6 = 0 := h3
        rw [if_neg h3] at done hb
        obtain ⟨e, e1, -⟩ := toN (x := G 32 0) (Int32.le_trans (by decide) (hw h3).1)
        have h4 : (G 32 0).toInt ≤ 60000 := by simpa using le32.mp (hw h3).2
        refine vi (inI (by decide) (by decide)) ?_
        rw [cl_0]
        have e' : (sG G 26 (upd (G 26) 1 0)) 32 0 = nI (G 32 0).toNatClampNeg := e
        rw [e', e8]
        refine c_root (by omega) ?_
        exact c_harmBy (A := 100 * S + I) (N := N) (by omega) hwv hb hsl done
      · have h3 : G 26 6 = 0 := h3
        rw [if_pos h3] at done hb
        rw [e8]
        exact c_harmBy (A := 100 * S + I) (N := N) (by omega) hwv hb hsl done
theorem stV_congr {f f' : Nat → Int32} {N : Nat} {d sl cr a : Int32} (h : ∀ k, k < 2 * N → f k = f' k) : stV f N d sl cr a = stV f' N d sl cr a := by
  have e1 : sI (fun k => hv (f (2 * k)) d sl) N = sI (fun k => hv (f' (2 * k)) d sl) N := sI_congr N (fun k hk => by rw [h (2 * k) (by omega)])
  have e2 : sI (fun k => ovv (f (2 * k)) (f (2 * k + 1)) cr) N = sI (fun k => ovv (f' (2 * k)) (f' (2 * k + 1)) cr) N := sI_congr N (fun k hk => by rw [h (2 * k) (by omega), h (2 * k + 1) (by omega)])
  unfold stV
  rw [e1, e2]
/-- both sides look at two items each of n hours -/
theorem hrs_both {G : Gt} (hS : IS (G 2) (G 3) (G 4) (G 27) (G 28) (G 29)) {s i n : Int32} (hs : 0 ≤ s ∧ s ≤ 7) (hn : 1 ≤ n ∧ n ≤ 48) (h2 : fnd (G 4 s.toNatClampNeg) i (2 * n) = 0) : 0 ≤ G 27 s.toNatClampNeg ∧ G 28 s.toNatClampNeg = G 4 s.toNatClampNeg ∧ ∀ k, k < 2 * n.toNatClampNeg → fX G s i.toNatClampNeg k = fM G s.toNatClampNeg i.toNatClampNeg k := by
  obtain ⟨-, -, -, -, t5, t6⟩ := twoS hn
  rcases look_both hS hs i (2 * n) with ⟨g1, g2⟩ | ⟨g1, g2, g3⟩ | ⟨g1, g2, g3, g4, g5⟩
  · rw [g1] at h2; exact absurd h2 (by decide)
  · rw [g1] at h2; exact absurd h2 (by decide)
  · have h5 := (fnd_0 g4 t6).mp h2
    obtain ⟨-, ei2, -⟩ := toN h5.1
    exact ⟨g2, g3, fun k hk => g5 _ (by have := h5.2; omega)⟩
theorem w8_0 {G : Gt} (hW : IW (G 5 3) (G 26 6) (G 6) (G 30) (G 7) (G 31) (G 8) (G 32)) : ¬ G 5 3 = 0 → 1 ≤ G 8 0 ∧ G 8 0 ≤ 60000 := by
  intro h
  obtain ⟨w1, w2, w3, w4, w5, w6, w7⟩ := hW
  have h1 := (ly_1 w5).2.1
  have h2 : ¬ (G 5 3).toInt = 0 := fun z => h (eq32.mpr (by simpa using z))
  exact (w7 0 (by omega)).2
theorem hzX {G : Gt} (hS : IS (G 2) (G 3) (G 4) (G 27) (G 28) (G 29)) {s : Int32} (h : 0 ≤ s ∧ s ≤ 7) (h2 : ¬ G 4 s.toNatClampNeg = -1) : 0 ≤ G 4 s.toNatClampNeg ∧ G 4 s.toNatClampNeg ≤ 100 := by
  have hh := IS_at hS (sN h).1
  exact (hh.2 (Decidable.byContradiction fun z => h2 (hh.1.mpr z))).2.2.1
theorem p_storm {X : Xt} {G : Gt} (hI : Inv G) {s i n a : Int32} : pair X m_SW_storm m_Mo_storm [.int s, .int i, .int n, .int a] G := by
  obtain ⟨hW, hT, hS, hP, hs, h0⟩ := id hI
  obtain ⟨w1, w2, w3, w4, w5, w6, w7⟩ := id hW
  have hw := w8_0 hW
  have hw' : ¬ G 26 6 = 0 → 1 ≤ G 32 0 ∧ G 32 0 ≤ 60000 := by rw [← w1, ← w4]; exact hw
  have hm' : msOK (G 30) := w2 ▸ w6
  have hzx : 0 ≤ s ∧ s ≤ 7 → ¬ G 4 s.toNatClampNeg = -1 → 0 ≤ G 4 s.toNatClampNeg ∧ G 4 s.toNatClampNeg ≤ 100 := fun h h2 => hzX hS h h2
  have hzm : 0 ≤ s ∧ s ≤ 7 → 0 ≤ G 27 s.toNatClampNeg → 0 ≤ G 28 s.toNatClampNeg ∧ G 28 s.toNatClampNeg ≤ 100 := fun h h2 => hzM hS h h2
  refine c_SW_storm hzx hw w6 (fun h => pq ?_) (fun h h2 => pq ?_) (fun h h2 x y h3 => pq ?_) (fun h h2 x y z h3 => pq ?_)
  · exact c_Mo_storm h0 hzm hw' hm' (fun _ => ⟨rfl, hI⟩) (fun z => absurd z h) (fun z => absurd z h) (fun z => absurd z h) (fun z => absurd z h)
  · rcases look_both hS h.1 i (2 * n) with ⟨g1, g2⟩ | ⟨g1, g2, g3⟩ | ⟨g1, -⟩
    · rw [g1]
      exact c_Mo_storm h0 hzm hw' hm' (fun z => absurd h z) (fun _ _ => ⟨rfl, ⟨hW, hT, hS, hP, rfl, h0⟩⟩) (fun _ z => absurd z g2) (fun _ z => absurd z g2) (fun _ z => absurd z g2)
    · rw [g1]
      have h2' : ¬ fnd (G 28 s.toNatClampNeg) i (2 * n) = 0 := by rw [g3]; exact h2
      exact c_Mo_storm h0 hzm hw' hm' (fun z => absurd h z) (fun _ z => absurd g2 z) (fun _ _ _ => ⟨rfl, ⟨hW, hT, hS, hP, rfl, h0⟩⟩) (fun _ _ z => absurd z h2') (fun _ _ z => absurd z h2')
    · exact absurd g1 h2
  · obtain ⟨q1, q2, q3⟩ := hrs_both hS h.1 h.2.1 h2
    have h2' : fnd (G 28 s.toNatClampNeg) i (2 * n) = 0 := by rw [q2]; exact h2
    exact c_Mo_storm h0 hzm hw' hm' (fun z => absurd h z) (fun _ z => absurd q1 z) (fun _ _ z => absurd h2' z) (fun _ _ _ _ => ⟨rfl, ⟨hW, hT, hS, hP, hs, h0⟩⟩) (fun _ _ _ z => absurd (sp_congr (fun k hk => (q3 k hk).symm) z) h3)
  · obtain ⟨q1, q2, q3⟩ := hrs_both hS h.1 h.2.1 h2
    have h2' : fnd (G 28 s.toNatClampNeg) i (2 * n) = 0 := by rw [q2]; exact h2
    refine c_Mo_storm h0 hzm hw' hm' (fun z => absurd h z) (fun _ z => absurd q1 z) (fun _ _ z => absurd h2' z) (fun _ _ _ z => absurd (sp_congr q3 h3) z) (fun _ _ _ _ => ⟨?_, ⟨hW, hT, hS, hP, rfl, h0⟩⟩)
    show some (Value.int (stV (fM G s.toNatClampNeg i.toNatClampNeg) n.toNatClampNeg (nI (bsz (G 26 6) (G 32))) (G 30 2) (G 30 0) a)) = some (Value.int (stV (fX G s i.toNatClampNeg) n.toNatClampNeg (nI (bsz (G 5 3) (G 8))) (G 6 2) (G 6 0) a))
    rw [stV_congr q3, w1, w2, w4]
end
section
/-! design: the class -/
def ovF (f : Nat → Int32) (N c : Nat) : Int32 := sI (fun k => ovv (f (2 * k)) (f (2 * k + 1)) (nI c)) N
def haF (f : Nat → Int32) (N : Nat) (sl : Int32) (d : Nat) : Int32 := sI (fun k => hv (f (2 * k)) (nI d) sl) N
abbrev fstP (P : Nat → Prop) (k : Nat) : Prop := 1 ≤ k ∧ P k ∧ ∀ j, 1 ≤ j → j < k → ¬ P j
theorem fst_u {P : Nat → Prop} {a b : Nat} (h : fstP P a) (h2 : fstP P b) : a = b := by
  rcases Nat.lt_trichotomy a b with z | z | z
  · exact absurd h.2.1 (h2.2.2 a h.1 z)
  · exact z
  · exact absurd h2.2.1 (h.2.2 b h2.1 z)
/-- the hours as the class has read them -/
def hrX (G : Gt) (f : Nat → Int32) (N : Nat) : Prop := N ≤ 48 ∧ G 18 2 = nI N ∧ (∀ k, k < N → G 19 k = f (2 * k) ∧ G 20 k = f (2 * k + 1)) ∧ spP f 200 100 N
theorem c_overX {X : Xt} {f : Nat → Int32} {N c : Nat} {G : Gt} {Q : Qt} (h : hrX G f N) (K : Q (some (.int (ovF f N c))) G) : con X m_Hours_over [.ref 18, .int (nI c)] G Q := by
  refine c_over h.1 h.2.1 (Qi K (sI_congr _ (fun k hk => ?_)))
  rw [(h.2.2.1 k hk).1, (h.2.2.1 k hk).2]
theorem c_harmX {X : Xt} {f : Nat → Int32} {N d : Nat} {sl : Int32} {G : Gt} {Q : Qt} (h : hrX G f N) (hd : d ≤ 40) (hs : 0 ≤ sl ∧ sl ≤ 60) (K : Q (some (.int (haF f N sl d))) G) : con X m_Hours_harm [.ref 18, .int (nI d), .int sl] G Q := by
  refine c_harm h.1 h.2.1 (fun k hk => ?_) ⟨nI_pos' (by omega), ?_⟩ hs (Qi K (sI_congr _ (fun k hk => ?_)))
  · rw [(h.2.2.1 k hk).1]
    exact (h.2.2.2 k hk).1
  · rw [show (40 : Int32) = nI 40 from rfl, nI_leI (by omega) (by omega)]; exact hd
  · rw [(h.2.2.1 k hk).1]
theorem w_lCrest {X : Xt} {f : Nat → Int32} {N : Nat} {ov : Int32} {G : Gt} {Q : Qt} (h : hrX G f N) (K1 : ∀ c, c ≤ 100 → fstP (fun c => ovF f N c ≤ ov) c → Q (some (.int (nI c))) G) (K2 : (∀ c, 1 ≤ c → c ≤ 100 → ¬ ovF f N c ≤ ov) → Q (some (.int (-1000000))) G) : ∀ (m k : Nat) (c : Int32), c = nI k → k + m = 101 → 1 ≤ k → (∀ j, 1 ≤ j → j < k → ¬ ovF f N j ≤ ov) → wp X m_Hours_leastCrest 2 [(2, .int c), (0, .ref 18), (1, .int ov)] [] G Q
  | 0, k, c, hc, hk, h1, hj => by
    subst hc
    have hk : k = 101 := by omega
    subst hk
    refine rn_wp (stops := [2]) 40 ?_
    refine bi_t (by decide) ?_
    exact K2 (fun c a b => hj c a (by omega))
  | m + 1, k, c, hc, hk, h1, hj => by
    subst hc
    refine rn_wp (stops := [2]) 40 ?_
    refine bi_f (by rw [show (100 : Int32) = nI 100 from rfl, nI_ltI (by omega) (by omega)]; omega) ?_
    refine c_overX h ?_
    refine bi (fun z => ?_) (fun z => ?_)
    · refine w_lCrest h K1 K2 m (k + 1) _ (nI_1 _) (by omega) (by omega) (fun j a b => ?_)
      rcases Nat.lt_succ_iff_lt_or_eq.mp b with q | q
      · exact hj j a q
      · rw [q]; exact Int32.not_le.mpr z
    · exact K1 k (by omega) ⟨h1, Int32.not_lt.mp z, hj⟩
theorem c_lCrest {X : Xt} {f : Nat → Int32} {N : Nat} {ov : Int32} {G : Gt} {Q : Qt} (h : hrX G f N) (K1 : ∀ c, c ≤ 100 → fstP (fun c => ovF f N c ≤ ov) c → Q (some (.int (nI c))) G) (K2 : (∀ c, 1 ≤ c → c ≤ 100 → ¬ ovF f N c ≤ ov) → Q (some (.int (-1000000))) G) : con X m_Hours_leastCrest [.ref 18, .int ov] G Q := by
  refine con_rn 10 [2] (by decide) rfl ?_
  exact w_lCrest h K1 K2 100 1 _ rfl rfl (by omega) (fun j a b => by omega)
theorem w_lSize {X : Xt} {f : Nat → Int32} {N : Nat} {sl ha : Int32} {G : Gt} {Q : Qt} (h : hrX G f N) (hs : 0 ≤ sl ∧ sl ≤ 60) (K1 : ∀ c, c ≤ 39 → fstP (fun c => haF f N sl c ≤ ha) c → Q (some (.int (nI c))) G) (K2 : (∀ c, 1 ≤ c → c ≤ 39 → ¬ haF f N sl c ≤ ha) → Q (some (.int (-1000000))) G) : ∀ (m k : Nat) (c : Int32), c = nI k → k + m = 40 → 1 ≤ k → (∀ j, 1 ≤ j → j < k → ¬ haF f N sl j ≤ ha) → wp X m_Hours_leastBlockSize 2 [(3, .int c), (0, .ref 18), (1, .int ha), (2, .int sl)] [] G Q
  | 0, k, c, hc, hk, h1, hj => by
    subst hc
    have hk : k = 40 := by omega
    subst hk
    refine rn_wp (stops := [2]) 40 ?_
    refine bi_t (by decide) ?_
    exact K2 (fun c a b => hj c a (by omega))
  | m + 1, k, c, hc, hk, h1, hj => by
    subst hc
    refine rn_wp (stops := [2]) 40 ?_
    refine bi_f (by rw [show (39 : Int32) = nI 39 from rfl, nI_ltI (by omega) (by omega)]; omega) ?_
    refine c_harmX h (by omega) hs ?_
    refine bi (fun z => ?_) (fun z => ?_)
    · refine w_lSize h hs K1 K2 m (k + 1) _ (nI_1 _) (by omega) (by omega) (fun j a b => ?_)
      rcases Nat.lt_succ_iff_lt_or_eq.mp b with q | q
      · exact hj j a q
      · rw [q]; exact Int32.not_le.mpr z
    · exact K1 k (by omega) ⟨h1, Int32.not_lt.mp z, hj⟩
theorem c_lSize {X : Xt} {f : Nat → Int32} {N : Nat} {sl ha : Int32} {G : Gt} {Q : Qt} (h : hrX G f N) (hs : 0 ≤ sl ∧ sl ≤ 60) (K1 : ∀ c, c ≤ 39 → fstP (fun c => haF f N sl c ≤ ha) c → Q (some (.int (nI c))) G) (K2 : (∀ c, 1 ≤ c → c ≤ 39 → ¬ haF f N sl c ≤ ha) → Q (some (.int (-1000000))) G) : con X m_Hours_leastBlockSize [.ref 18, .int ha, .int sl] G Q := by
  refine con_rn 10 [2] (by decide) rfl ?_
  exact w_lSize h hs K1 K2 39 1 _ rfl rfl (by omega) (fun j a b => by omega)
def dvF (sl : Int32) (c d : Nat) (a : Int32) : Int32 := if a = 0 then nI c else if a = 1 then nI d * nI d * nI d else nI c * nI c * sl + nI d * nI d * nI d / 10
/-- there is none -/
abbrev noD (f : Nat → Int32) (N : Nat) (sl ha ov : Int32) : Prop := (∀ c, 1 ≤ c → c ≤ 100 → ¬ ovF f N c ≤ ov) ∨ (∀ c, 1 ≤ c → c ≤ 39 → ¬ haF f N sl c ≤ ha)
theorem c_leastDesign {X : Xt} {f : Nat → Int32} {N : Nat} {ha ov a : Int32} {G : Gt} {Q : Qt} (h : hrX G f N) (hs : 0 ≤ G 6 2 ∧ G 6 2 ≤ 60) (ha2 : 0 ≤ a ∧ a ≤ 2) (K1 : ∀ c d, c ≤ 100 → d ≤ 39 → fstP (fun c => ovF f N c ≤ ov) c → fstP (fun c => haF f N (G 6 2) c ≤ ha) d → Q (some (.int (dvF (G 6 2) c d a))) G) (K2 : noD f N (G 6 2) ha ov → Q (some (.int (-1000000))) G) : con X m_SW_leastDesign [.ref 0, .int ha, .int ov, .int a] G Q := by
  refine con_rn 80 [] (by decide) rfl ?_
  refine c_measure (by decide) ?_
  rw [cl_2]
  have nn : ∀ c : Nat, c ≤ 100 → ¬ nI c = -1000000 := by
    intro c hc z
    rw [eq32, nI_toInt (by omega)] at z
    rw [show (-1000000 : Int32).toInt = -1000000 from rfl] at z
    omega
  refine c_lCrest h (fun c c1 c2 => ?_) (fun hno => ?_)
  · refine c_lSize h hs (fun d d1 d2 => ?_) (fun hno => ?_)
    · refine bi_f (nn c c1) ?_
      refine bj_f (nn d (by omega)) ?_
      have k1 := K1 c d c1 d1 c2 d2
      unfold dvF at k1
      refine bi (fun z => ?_) (fun z => ?_)
      · have z : a = 0 := eq32.mpr z
        rw [if_pos z] at k1
        exact k1
      · refine bi (fun z2 => ?_) (fun z2 => ?_)
        · have z2 : a = 1 := eq32.mpr z2
          rw [if_neg (fun q => z (by rw [q]; rfl)), if_pos z2] at k1
          exact k1
        · refine zi (by decide) ?_
          rw [if_neg (fun q => z (by rw [q]; rfl)), if_neg (fun q => z2 (by rw [q]; rfl))] at k1
          exact k1
    · refine bi_f (nn c c1) ?_
      refine bj_t rfl ?_
      exact K2 (Or.inr hno)
  · refine c_lSize h hs (fun d d1 d2 => ?_) (fun hno2 => ?_)
    · refine bi_t rfl ?_
      exact K2 (Or.inl hno)
    · refine bi_t rfl ?_
      exact K2 (Or.inl hno)
abbrev dsP (s n ha ov a : Int32) : Prop := (0 ≤ s ∧ s ≤ 7) ∧ (1 ≤ n ∧ n ≤ 48) ∧ (0 ≤ ha ∧ ha ≤ 1000000) ∧ (0 ≤ ov ∧ ov ≤ 1000000) ∧ 0 ≤ a ∧ a ≤ 2
set_option maxRecDepth 4000 in
theorem c_SW_design {X : Xt} {s i n ha ov a : Int32} {G : Gt} {Q : Qt} (hz : 0 ≤ s ∧ s ≤ 7 → ¬ G 4 s.toNatClampNeg = -1 → 0 ≤ G 4 s.toNatClampNeg ∧ G 4 s.toNatClampNeg ≤ 100) (hm : msOK (G 6))
    (K1 : ¬ dsP s n ha ov a → Q (some (.int (-1000001))) G)
    (K2 : dsP s n ha ov a → ¬ fnd (G 4 s.toNatClampNeg) i (2 * n) = 0 → Q (some (.int (-1000010 - fnd (G 4 s.toNatClampNeg) i (2 * n)))) (sG G 0 (upd (G 0) 7 (fnd (G 4 s.toNatClampNeg) i (2 * n)))))
    (K3 : dsP s n ha ov a → fnd (G 4 s.toNatClampNeg) i (2 * n) = 0 → ∀ x y : Nat → Int32, ¬ spP (fX G s i.toNatClampNeg) 200 100 n.toNatClampNeg → Q (some (.int (-1000001))) (sG (sG G 19 x) 20 y))
    (K4 : dsP s n ha ov a → fnd (G 4 s.toNatClampNeg) i (2 * n) = 0 → ∀ x y z : Nat → Int32, spP (fX G s i.toNatClampNeg) 200 100 n.toNatClampNeg → noD (fX G s i.toNatClampNeg) n.toNatClampNeg (G 6 2) ha ov → Q (some (.int (-1000000))) (sG (sG (sG (sG G 19 x) 20 y) 18 z) 0 (upd (G 0) 7 0)))
    (K5 : dsP s n ha ov a → fnd (G 4 s.toNatClampNeg) i (2 * n) = 0 → ∀ x y z : Nat → Int32, spP (fX G s i.toNatClampNeg) 200 100 n.toNatClampNeg → ∀ c d, c ≤ 100 → d ≤ 39 → fstP (fun c => ovF (fX G s i.toNatClampNeg) n.toNatClampNeg c ≤ ov) c → fstP (fun c => haF (fX G s i.toNatClampNeg) n.toNatClampNeg (G 6 2) c ≤ ha) d → Q (some (.int (dvF (G 6 2) c d a))) (sG (sG (sG (sG G 19 x) 20 y) 18 z) 0 (upd (G 0) 7 0))) : con X m_SW_design [.ref 0, .int s, .int i, .int n, .int ha, .int ov, .int a] G Q := by
  refine con_rn 80 [] (by decide) rfl ?_
  refine c_isNumber (bib (fun h => K1 (fun z => h z.1)) (fun hs => ?_))
  refine c_within (bib (fun h => K1 (fun z => h z.2.1)) (fun hn => ?_))
  refine c_within (bib (fun h => K1 (fun z => h z.2.2.1)) (fun h3 => ?_))
  refine c_within (bib (fun h => K1 (fun z => h z.2.2.2.1)) (fun h4 => ?_))
  refine c_within (bjb (fun ha => ?_) (fun h => K1 (fun z => h z.2.2.2.2)))
  have hst : dsP s n _ ov a := ⟨hs, hn, h3, h4, ha⟩
  have h48 := (twoS hn).2.2.1
  refine c_readHours hs hn (hz hs) (fun h => ?_) (fun h x y hsp => ?_) (fun h x y hsp hab => ?_)
  · refine bi_f (fnd_ne _ _ _) ?_
    exact K2 hst h
  · refine bi_f (by decide) ?_
    exact K3 hst h x y hsp
  · refine bi_t rfl ?_
    refine c_leastDesign (f := fX G s i.toNatClampNeg) (N := n.toNatClampNeg) ⟨h48, rfl, hab, hsp⟩ ⟨Int32.le_trans (by decide) hm.2.2.1.1, hm.2.2.1.2⟩ ha (fun c d c1 d1 c2 d2 => ?_) (fun hno => ?_)
    · refine c_fine ?_
      exact K5 hst h x y _ hsp c d c1 d1 c2 d2
    · refine c_fine ?_
      exact K4 hst h x y _ hsp hno
end
section
/-! design: the model's search -/
theorem c_overF {X : Xt} {S I N c : Nat} {G : Gt} {Q : Qt} (hS : S < 8) (hN : I + 2 * N ≤ 100) (K : Q (some (.int (ovF (fM G S I) N c))) G) : con X m_Mo_overBy [.ref 26, .int (nI (100 * S + I)), .int (nI N), .int (nI c)] G Q := by
  refine c_overBy (by omega) (Qi K (sI_congr _ (fun k hk => ?_)))
  rw [Nat.add_assoc, Nat.add_assoc]
theorem c_harmF {X : Xt} {S I N d : Nat} {G : Gt} {Q : Qt} (hS : S < 8) (hN : I + 2 * N ≤ 100) (hsp : spP (fM G S I) 200 100 N) (hd : d ≤ 40) (hs : 0 ≤ G 30 2 ∧ G 30 2 ≤ 60) (K : Q (some (.int (haF (fM G S I) N (G 30 2) d))) G) : con X m_Mo_harmBy [.ref 26, .int (nI (100 * S + I)), .int (nI N), .int (nI d)] G Q := by
  refine c_harmBy (by omega) (fun k hk => ?_) ⟨nI_pos' (by omega), ?_⟩ hs (Qi K (sI_congr _ (fun k hk => ?_)))
  · rw [Nat.add_assoc]
    exact (hsp k hk).1
  · rw [show (40 : Int32) = nI 40 from rfl, nI_leI (by omega) (by omega)]; exact hd
  · rw [Nat.add_assoc]
def coF (sl : Int32) (c d : Nat) : Int32 := nI c * nI c * sl + nI d * nI d * nI d / 10
theorem coF_N {sl : Int32} {SL c d : Nat} (hs : sl = nI SL) (h1 : SL ≤ 60) (hc : c ≤ 100) (hd : d ≤ 40) : coF sl c d = nI (c * c * SL + d * d * d / 10) ∧ c * c * SL + d * d * d / 10 < 2 ^ 31 := by
  have a1 : c * c ≤ 100 * 100 := Nat.mul_le_mul hc hc
  have a2 : c * c * SL ≤ 100 * 100 * 60 := Nat.mul_le_mul a1 h1
  have a3 := cube_lt hd
  have a4 : d * d * d / 10 ≤ d * d * d := Nat.div_le_self _ _
  refine ⟨?_, by omega⟩
  unfold coF
  rw [hs, pk_mul, pk_mul, cube_I, show (10 : Int32) = nI 10 from rfl, pk_div (by omega) (by omega) (by omega), nI_add]
theorem coF_le {sl : Int32} (hs : 0 ≤ sl ∧ sl ≤ 60) {c d c0 d0 : Nat} (hc : c ≤ 100) (hd : d ≤ 40) (h1 : c0 ≤ c) (h2 : d0 ≤ d) : ¬ coF sl c d < coF sl c0 d0 ∧ ¬ coF sl c0 d0 = -1000000 := by
  obtain ⟨SL, h60, e⟩ := rng_N (B := 60) rfl hs
  obtain ⟨e1, b1⟩ := coF_N (c := c) (d := d) e h60 hc hd
  obtain ⟨e2, b2⟩ := coF_N (c := c0) (d := d0) e h60 (by omega) (by omega)
  rw [e1, e2]
  constructor
  · rw [nI_ltI b1 b2]
    have m1 : c0 * c0 ≤ c * c := Nat.mul_le_mul h1 h1
    have m2 : c0 * c0 * SL ≤ c * c * SL := Nat.mul_le_mul m1 (Nat.le_refl _)
    have m3 : d0 * d0 * d0 ≤ d * d * d := Nat.mul_le_mul (Nat.mul_le_mul h2 h2) h2
    have m4 : d0 * d0 * d0 / 10 ≤ d * d * d / 10 := Nat.div_le_div_right m3
    omega
  · intro z
    rw [eq32, nI_toInt b2] at z
    rw [show (-1000000 : Int32).toInt = -1000000 from rfl] at z
    omega
/-- what the search has found ahead of crest c -/
def dsS (P R : Nat → Prop) (sl : Int32) (c : Nat) (l b r : Int32) : Prop := (l = -1000000 ∧ ((∀ j, 1 ≤ j → j < c → ¬ P j) ∨ (∀ j, 1 ≤ j → j ≤ 39 → ¬ R j))) ∨ ∃ c0 d0 : Nat, c0 ≤ 100 ∧ d0 ≤ 39 ∧ c0 ≤ c ∧ fstP P c0 ∧ fstP R d0 ∧ l = coF sl c0 d0 ∧ b = nI c0 ∧ r = nI d0
abbrev dB (A N : Nat) (ha ov a : Int32) (l b r : Int32) : Lt := [(11, .int r), (10, .int b), (9, .int l), (8, .int (nI A)), (0, .ref 26), (3, .int (nI N)), (4, .int ha), (5, .int ov), (6, .int a)]
set_option maxRecDepth 8000 in
theorem w_dIn {X : Xt} {S I N c : Nat} {ha ov a : Int32} {G : Gt} {Q : Qt} (hS : S < 8) (hN : I + 2 * N ≤ 100) (hsp : spP (fM G S I) 200 100 N) (hs : 0 ≤ G 30 2 ∧ G 30 2 ≤ 60) (hc1 : 1 ≤ c) (hc : c ≤ 100) (hov : ovF (fM G S I) N c ≤ ov)
    (K : ∀ q l b r : Int32, q = nI (c + 1) → dsS (fun c => ovF (fM G S I) N c ≤ ov) (fun d => haF (fM G S I) N (G 30 2) d ≤ ha) (G 30 2) (c + 1) l b r → wp X m_Mo_design 104 ((12, .int q) :: dB (100 * S + I) N ha ov a l b r) [] G Q) : ∀ (m d : Nat) (q l b r : Int32), q = nI d → d + m = 40 → 1 ≤ d → ((l = -1000000 ∧ ((∀ j, 1 ≤ j → j < c → ¬ ovF (fM G S I) N j ≤ ov) ∨ (∀ j, 1 ≤ j → j ≤ 39 → ¬ haF (fM G S I) N (G 30 2) j ≤ ha)) ∧ ∀ j, 1 ≤ j → j < d → ¬ haF (fM G S I) N (G 30 2) j ≤ ha) ∨ ∃ c0 d0 : Nat, c0 ≤ 100 ∧ d0 ≤ 39 ∧ c0 ≤ c ∧ fstP (fun c => ovF (fM G S I) N c ≤ ov) c0 ∧ fstP (fun d => haF (fM G S I) N (G 30 2) d ≤ ha) d0 ∧ l = coF (G 30 2) c0 d0 ∧ b = nI c0 ∧ r = nI d0) → wp X m_Mo_design 135 ((14, .int q) :: (13, .int 1) :: (12, .int (nI c)) :: dB (100 * S + I) N ha ov a l b r) [] G Q
  | 0, d, q, l, b, r, hq, hd, h1, hst => by
    subst hq
    have hd : d = 40 := by omega
    subst hd
    refine rn_wp (stops := [104, 135]) 80 ?_
    refine bi_t (by decide) ?_
    refine wp_pick [0, 3, 4, 5, 6, 7, 8, 9, 10, 11] (K _ l b r (nI_1 c) ?_)
    rcases hst with ⟨g1, g2, g3⟩ | ⟨c0, d0, g1, g2, g3, g4⟩
    · exact Or.inl ⟨g1, Or.inr (fun j a b => g3 j a (by omega))⟩
    · exact Or.inr ⟨c0, d0, g1, g2, by omega, g4⟩
  | m + 1, d, q, l, b, r, hq, hd, h1, hst => by
    subst hq
    refine rn_wp (stops := [104, 135]) 80 ?_
    refine bi_f (by rw [show (40 : Int32) = nI 40 from rfl, nI_leI (by omega) (by omega)]; omega) ?_
    refine bi_f (by decide) ?_
    refine vi (inI (by decide) (by decide)) ?_
    rw [cl_2]
    refine zi (by decide) ?_
    refine c_harmF hS hN hsp (by omega) hs ?_
    have up : haF (fM G S I) N (G 30 2) d ≤ ha → l = -1000000 → wp X m_Mo_design 135 [(14, .int (nI d + 1)), (11, .int (nI d)), (10, .int (nI c)), (9, .int (coF (G 30 2) c d)), (15, .int (coF (G 30 2) c d)), (13, .int 1), (12, .int (nI c)), (8, .int (nI (100 * S + I))), (0, .ref 26), (3, .int (nI N)), (4, .int ha), (5, .int ov), (6, .int a)] [] G Q := by
      intro z zl
      refine wp_pick [0, 5, 6, 1, 2, 3, 7, 8, 9, 10, 11, 12] (w_dIn hS hN hsp hs hc1 hc hov K m (d + 1) _ _ _ _ (nI_1 _) (by omega) (by omega) (Or.inr ?_))
      rcases hst with ⟨g1, g2, g3⟩ | ⟨c0, d0, g1, g2, g3, g4, g5, g6, g7⟩
      · refine ⟨c, d, hc, by omega, Nat.le_refl _, ⟨hc1, hov, ?_⟩, ⟨h1, z, g3⟩, rfl, rfl, rfl⟩
        rcases g2 with g2 | g2
        · exact g2
        · exact absurd z (g2 d h1 (by omega))
      · exact absurd (g6 ▸ zl) (coF_le hs (c := c) (d := 40) hc (by omega) g3 (by omega)).2
    have no : (haF (fM G S I) N (G 30 2) d ≤ ha → ¬ l = -1000000) → wp X m_Mo_design 135 [(14, .int (nI d + 1)), (15, .int (coF (G 30 2) c d)), (13, .int 1), (12, .int (nI c)), (11, .int r), (10, .int b), (9, .int l), (8, .int (nI (100 * S + I))), (0, .ref 26), (3, .int (nI N)), (4, .int ha), (5, .int ov), (6, .int a)] [] G Q := by
      intro z
      refine wp_pick [0, 2, 3, 4, 5, 6, 7, 8, 9, 10, 11, 12] (w_dIn hS hN hsp hs hc1 hc hov K m (d + 1) _ _ _ _ (nI_1 _) (by omega) (by omega) ?_)
      rcases hst with ⟨g1, g2, g3⟩ | g
      · refine Or.inl ⟨g1, g2, fun j a b => ?_⟩
        rcases Nat.lt_succ_iff_lt_or_eq.mp b with q | q
        · exact g3 j a q
        · rw [q]; exact fun w => z w g1
      · exact Or.inr g
    refine bi (fun z => ?_) (fun z => ?_)
    · exact no (fun w => absurd z (Int32.not_lt.mpr w))
    · refine bi (fun z2 => ?_) (fun z2 => ?_)
      · exact up (Int32.not_lt.mp z) z2
      · refine bi (fun z3 => ?_) (fun z3 => ?_)
        · exact no (fun _ => z2)
        · exfalso
          rcases hst with ⟨g1, -⟩ | ⟨c0, d0, g1, g2, g3, g4, g5, g6, g7⟩
          · exact z2 g1
          · have hle : d0 ≤ d := Nat.le_of_not_lt (fun w => g5.2.2 d h1 w (Int32.not_lt.mp z))
            refine (coF_le hs (c := c) (d := d) hc (by omega) g3 hle).1 ?_
            rw [← g6]
            exact Int32.not_le.mp z3
set_option maxRecDepth 8000 in
theorem w_dOut {X : Xt} {S I N : Nat} {ha ov a : Int32} {G : Gt} {Q : Qt} (hS : S < 8) (hN : I + 2 * N ≤ 100) (hsp : spP (fM G S I) 200 100 N) (hs : 0 ≤ G 30 2 ∧ G 30 2 ≤ 60) (ha2 : 0 ≤ a ∧ a ≤ 2)
    (K1 : ∀ c d, c ≤ 100 → d ≤ 39 → fstP (fun c => ovF (fM G S I) N c ≤ ov) c → fstP (fun d => haF (fM G S I) N (G 30 2) d ≤ ha) d → Q (some (.int (dvF (G 30 2) c d a))) G) (K2 : noD (fM G S I) N (G 30 2) ha ov → Q (some (.int (-1000000))) G) : ∀ (m c : Nat) (q l b r : Int32), q = nI c → c + m = 101 → 1 ≤ c → dsS (fun c => ovF (fM G S I) N c ≤ ov) (fun d => haF (fM G S I) N (G 30 2) d ≤ ha) (G 30 2) c l b r → wp X m_Mo_design 104 ((12, .int q) :: dB (100 * S + I) N ha ov a l b r) [] G Q
  | 0, c, q, l, b, r, hq, hc, h1, hst => by
    subst hq
    have hc : c = 101 := by omega
    subst hc
    refine rn_wp (stops := [104, 135]) 80 ?_
    refine bi_t (by decide) ?_
    rcases hst with ⟨g1, g2⟩ | ⟨c0, d0, g1, g2, g3, g4, g5, g6, g7, g8⟩
    · subst g1
      refine bj_t rfl ?_
      refine K2 ?_
      rcases g2 with g2 | g2
      · exact Or.inl (fun j a b => g2 j a (by omega))
      · exact Or.inr g2
    · have k1 := K1 c0 d0 g1 g2 g4 g5
      subst g7
      subst g8
      refine bj_f (by rw [g6]; exact (coF_le hs (c := 100) (d := 40) (by omega) (by omega) g1 (by omega)).2) ?_
      unfold dvF at k1
      refine bj (fun z => ?_) (fun z => ?_)
      · rw [if_neg z] at k1
        refine bj (fun z2 => ?_) (fun z2 => ?_)
        · rw [if_neg z2] at k1
          exact Qi k1 g6
        · rw [if_pos z2] at k1
          exact k1
      · rw [if_pos z] at k1
        exact k1
  | m + 1, c, q, l, b, r, hq, hc, h1, hst => by
    subst hq
    refine rn_wp (stops := [104, 135]) 80 ?_
    refine bi_f (by rw [show (101 : Int32) = nI 101 from rfl, nI_leI (by omega) (by omega)]; omega) ?_
    refine c_overF hS hN ?_
    have hK : ∀ q l b r : Int32, q = nI (c + 1) → dsS (fun c => ovF (fM G S I) N c ≤ ov) (fun d => haF (fM G S I) N (G 30 2) d ≤ ha) (G 30 2) (c + 1) l b r → wp X m_Mo_design 104 ((12, .int q) :: dB (100 * S + I) N ha ov a l b r) [] G Q := fun q l b r hq h => w_dOut hS hN hsp hs ha2 K1 K2 m (c + 1) q l b r hq (by omega) (by omega) h
    refine bi (fun z => ?_) (fun z => ?_)
    · refine rn_wp (stops := [104, 135]) 20 ?_
      refine bi_f (by decide) ?_
      refine bi_t rfl ?_
      refine wp_pick [0, 3, 4, 5, 6, 7, 8, 9, 10, 11] (hK _ l b r (nI_1 c) ?_)
      rcases hst with ⟨g1, g2⟩ | ⟨c0, d0, g1, g2, g3, g4⟩
      · refine Or.inl ⟨g1, ?_⟩
        rcases g2 with g2 | g2
        · refine Or.inl (fun j a b => ?_)
          rcases Nat.lt_succ_iff_lt_or_eq.mp b with q | q
          · exact g2 j a q
          · rw [q]; exact Int32.not_le.mpr z
        · exact Or.inr g2
      · exact Or.inr ⟨c0, d0, g1, g2, by omega, g4⟩
    · refine w_dIn hS hN hsp hs h1 (by omega) (Int32.not_lt.mp z) hK 39 1 _ _ _ _ rfl rfl (by omega) ?_
      rcases hst with ⟨g1, g2⟩ | g
      · exact Or.inl ⟨g1, g2, fun j a b => by omega⟩
      · exact Or.inr g
set_option maxRecDepth 8000 in
theorem c_Mo_design {X : Xt} {s i n ha ov a : Int32} {G : Gt} {Q : Qt} (h0 : G 26 0 = 0) (hz : 0 ≤ s ∧ s ≤ 7 → 0 ≤ G 27 s.toNatClampNeg → 0 ≤ G 28 s.toNatClampNeg ∧ G 28 s.toNatClampNeg ≤ 100) (hm : msOK (G 30))
    (K1 : ¬ dsP s n ha ov a → Q (some (.int (-1000001))) G)
    (K2 : dsP s n ha ov a → ¬ 0 ≤ G 27 s.toNatClampNeg → Q (some (.int (-1000011))) (sG G 26 (upd (G 26) 1 1)))
    (K3 : dsP s n ha ov a → 0 ≤ G 27 s.toNatClampNeg → ¬ fnd (G 28 s.toNatClampNeg) i (2 * n) = 0 → Q (some (.int (-1000012))) (sG G 26 (upd (G 26) 1 2)))
    (K4 : dsP s n ha ov a → 0 ≤ G 27 s.toNatClampNeg → fnd (G 28 s.toNatClampNeg) i (2 * n) = 0 → ¬ spP (fM G s.toNatClampNeg i.toNatClampNeg) 200 100 n.toNatClampNeg → Q (some (.int (-1000001))) G)
    (K5 : dsP s n ha ov a → 0 ≤ G 27 s.toNatClampNeg → fnd (G 28 s.toNatClampNeg) i (2 * n) = 0 → spP (fM G s.toNatClampNeg i.toNatClampNeg) 200 100 n.toNatClampNeg → noD (fM G s.toNatClampNeg i.toNatClampNeg) n.toNatClampNeg (G 30 2) ha ov → Q (some (.int (-1000000))) (sG G 26 (upd (G 26) 1 0)))
    (K6 : dsP s n ha ov a → 0 ≤ G 27 s.toNatClampNeg → fnd (G 28 s.toNatClampNeg) i (2 * n) = 0 → spP (fM G s.toNatClampNeg i.toNatClampNeg) 200 100 n.toNatClampNeg → ∀ c d, c ≤ 100 → d ≤ 39 → fstP (fun c => ovF (fM G s.toNatClampNeg i.toNatClampNeg) n.toNatClampNeg c ≤ ov) c → fstP (fun d => haF (fM G s.toNatClampNeg i.toNatClampNeg) n.toNatClampNeg (G 30 2) d ≤ ha) d → Q (some (.int (dvF (G 30 2) c d a))) (sG G 26 (upd (G 26) 1 0))) : con X m_Mo_design [.ref 26, .int s, .int i, .int n, .int ha, .int ov, .int a] G Q := by
  refine con_rm 100 [104] (by decide) rfl (by decide +kernel) h0 ?_
  refine c_isSheet (bib (fun h => K1 (fun z => h z.1)) (fun hs => ?_))
  refine c_in 1 48 rfl rfl (bib (fun h => K1 (fun z => h z.2.1)) (fun hn => ?_))
  refine c_in 0 1000000 rfl rfl (bib (fun h => K1 (fun z => h z.2.2.1)) (fun h3 => ?_))
  refine c_in 0 1000000 rfl rfl (bib (fun h => K1 (fun z => h z.2.2.2.1)) (fun h4 => ?_))
  refine c_in 0 2 rfl rfl (bjb (fun ha2 => ?_) (fun h => K1 (fun z => h z.2.2.2.2)))
  have hst : dsP s n ha ov a := ⟨hs, hn, h3, h4, ha2⟩
  obtain ⟨en, t2, t3, t4, t5, t6⟩ := twoS hn
  refine c_lookStorm hs hn (hz hs) (fun g => ?_) (fun g g2 => ?_) (fun g g2 hsp => ?_) (fun g g2 hsp => ?_)
  · refine bi_f (by decide) ?_
    exact K2 hst g
  · refine bi_f (by decide) ?_
    exact K3 hst g g2
  · refine bi_f (by decide) ?_
    exact K4 hst g g2 hsp
  · refine bi_t (by decide) ?_
    obtain ⟨ei, hI, -⟩ := fnd_I (N := 2 * n.toNatClampNeg) (fun _ => hz hs g) (by rw [t5]; omega) t6 g2
    obtain ⟨es, -, -⟩ := toN hs.1
    have hS := (sN hs).1
    have k5 := K5 hst g g2 hsp
    have k6 := K6 hst g g2 hsp
    clear K1 K2 K3 K4 K5 K6 g g2 t2 t4 t5 t6 hz hn hs hst
    generalize s.toNatClampNeg = S at *
    generalize i.toNatClampNeg = I at *
    generalize n.toNatClampNeg = N at *
    subst es
    subst ei
    subst en
    have e8 : 100 * nI S + nI I = nI (100 * S + I) := (ixM hS (by omega)).2
    have hsl : 0 ≤ G 30 2 ∧ G 30 2 ≤ 60 := ⟨Int32.le_trans (by decide) hm.2.2.1.1, hm.2.2.1.2⟩
    refine wp_pick [0, 1, 2, 3, 4, 6, 9, 10, 11, 12] ?_
    have hw := w_dOut (X := X) (G := sG G 26 (upd (G 26) 1 0)) hS hI hsp hsl ha2 k6 k5 100 1 1 (-1000000) 0 0 rfl rfl (by omega) (Or.inl ⟨rfl, Or.inl (fun j a b => by omega)⟩)
    rw [e8]
    exact hw
theorem p_design {X : Xt} {G : Gt} (hI : Inv G) {s i n ha ov a : Int32} : pair X m_SW_design m_Mo_design [.int s, .int i, .int n, .int ha, .int ov, .int a] G := by
  obtain ⟨hW, hT, hS, hP, hs, h0⟩ := id hI
  obtain ⟨w1, w2, w3, w4, w5, w6, w7⟩ := id hW
  have hm' : msOK (G 30) := w2 ▸ w6
  have hzx : 0 ≤ s ∧ s ≤ 7 → ¬ G 4 s.toNatClampNeg = -1 → 0 ≤ G 4 s.toNatClampNeg ∧ G 4 s.toNatClampNeg ≤ 100 := fun h h2 => hzX hS h h2
  have hzm : 0 ≤ s ∧ s ≤ 7 → 0 ≤ G 27 s.toNatClampNeg → 0 ≤ G 28 s.toNatClampNeg ∧ G 28 s.toNatClampNeg ≤ 100 := fun h h2 => hzM hS h h2
  have q4 : (∀ k, k < 2 * n.toNatClampNeg → fX G s i.toNatClampNeg k = fM G s.toNatClampNeg i.toNatClampNeg k) → (∀ c, ovF (fX G s i.toNatClampNeg) n.toNatClampNeg c = ovF (fM G s.toNatClampNeg i.toNatClampNeg) n.toNatClampNeg c) ∧ ∀ d, haF (fX G s i.toNatClampNeg) n.toNatClampNeg (G 6 2) d = haF (fM G s.toNatClampNeg i.toNatClampNeg) n.toNatClampNeg (G 30 2) d := by
    intro q3
    refine ⟨fun c => sI_congr _ (fun k hk => ?_), fun d => ?_⟩
    · rw [q3 (2 * k) (by omega), q3 (2 * k + 1) (by omega)]
    · rw [w2]
      refine sI_congr _ (fun k hk => ?_)
      rw [q3 (2 * k) (by omega)]
  refine c_SW_design hzx w6 (fun h => pq ?_) (fun h h2 => pq ?_) (fun h h2 x y h3 => pq ?_) (fun h h2 x y z h3 hno => pq ?_) (fun h h2 x y z h3 c d c1 d1 c2 d2 => pq ?_)
  · exact c_Mo_design h0 hzm hm' (fun _ => ⟨rfl, hI⟩) (fun z => absurd z h) (fun z => absurd z h) (fun z => absurd z h) (fun z => absurd z h) (fun z => absurd z h)
  · rcases look_both hS h.1 i (2 * n) with ⟨g1, g2⟩ | ⟨g1, g2, g3⟩ | ⟨g1, -⟩
    · rw [g1]
      exact c_Mo_design h0 hzm hm' (fun z => absurd h z) (fun _ _ => ⟨rfl, ⟨hW, hT, hS, hP, rfl, h0⟩⟩) (fun _ z => absurd z g2) (fun _ z => absurd z g2) (fun _ z => absurd z g2) (fun _ z => absurd z g2)
    · rw [g1]
      have h2' : ¬ fnd (G 28 s.toNatClampNeg) i (2 * n) = 0 := by rw [g3]; exact h2
      exact c_Mo_design h0 hzm hm' (fun z => absurd h z) (fun _ z => absurd g2 z) (fun _ _ _ => ⟨rfl, ⟨hW, hT, hS, hP, rfl, h0⟩⟩) (fun _ _ z => absurd z h2') (fun _ _ z => absurd z h2') (fun _ _ z => absurd z h2')
    · exact absurd g1 h2
  · obtain ⟨q1, q2, q3⟩ := hrs_both hS h.1 h.2.1 h2
    have h2' : fnd (G 28 s.toNatClampNeg) i (2 * n) = 0 := by rw [q2]; exact h2
    exact c_Mo_design h0 hzm hm' (fun z => absurd h z) (fun _ z => absurd q1 z) (fun _ _ z => absurd h2' z) (fun _ _ _ _ => ⟨rfl, ⟨hW, hT, hS, hP, hs, h0⟩⟩) (fun _ _ _ z => absurd (sp_congr (fun k hk => (q3 k hk).symm) z) h3) (fun _ _ _ z => absurd (sp_congr (fun k hk => (q3 k hk).symm) z) h3)
  · obtain ⟨q1, q2, q3⟩ := hrs_both hS h.1 h.2.1 h2
    obtain ⟨q5, q6⟩ := q4 q3
    have h2' : fnd (G 28 s.toNatClampNeg) i (2 * n) = 0 := by rw [q2]; exact h2
    refine c_Mo_design h0 hzm hm' (fun z => absurd h z) (fun _ z => absurd q1 z) (fun _ _ z => absurd h2' z) (fun _ _ _ z => absurd (sp_congr q3 h3) z) (fun _ _ _ _ _ => ⟨rfl, ⟨hW, hT, hS, hP, rfl, h0⟩⟩) (fun _ _ _ _ c d c1 d1 c2 d2 => ?_)
    exfalso
    rcases hno with z | z
    · exact z c c2.1 c1 (by rw [q5]; exact c2.2.1)
    · exact z d d2.1 d1 (by rw [q6]; exact d2.2.1)
  · obtain ⟨q1, q2, q3⟩ := hrs_both hS h.1 h.2.1 h2
    obtain ⟨q5, q6⟩ := q4 q3
    have h2' : fnd (G 28 s.toNatClampNeg) i (2 * n) = 0 := by rw [q2]; exact h2
    simp only [q5, q6] at c2 d2
    refine c_Mo_design h0 hzm hm' (fun z => absurd h z) (fun _ z => absurd q1 z) (fun _ _ z => absurd h2' z) (fun _ _ _ z => absurd (sp_congr q3 h3) z) (fun _ _ _ _ hno => ?_) (fun _ _ _ _ c' d' c1' d1' c2' d2' => ⟨?_, ⟨hW, hT, hS, hP, rfl, h0⟩⟩)
    · exfalso
      rcases hno with z | z
      · exact z c c2.1 c1 c2.2.1
      · exact z d d2.1 d1 d2.2.1
    · have e1 : c = c' := fst_u c2 c2'
      have e2 : d = d' := fst_u d2 d2'
      subst e1
      subst e2
      show some (Value.int (dvF (G 30 2) c d a)) = some (Value.int (dvF (G 6 2) c d a))
      rw [w2]
end
section
/-! the order of laying: a pure picture -/
def stn (L nr : Nat → Nat → Bool) : Nat → Nat → Bool
  | 0, p => L 0 p || nr 0 p
  | r + 1, p => L (r + 1) p || (nr (r + 1) p && (stn L nr r p && stn L nr r (p + 1)))
/-- what a place is on -/
def onB (L nr : Nat → Nat → Bool) (r p : Nat) : Bool := decide (r = 0) || (stn L nr (r - 1) p && stn L nr (r - 1) (p + 1))
def due (L nr : Nat → Nat → Bool) (r p : Nat) : Bool := !L r p && (nr r p && onB L nr r p)
theorem stn_due (L nr : Nat → Nat → Bool) (r p : Nat) : stn L nr r p = (L r p || due L nr r p) := by
  unfold due onB
  cases r with
  | zero => cases hL : L 0 p <;> simp [stn, hL]
  | succ r => cases hL : L (r + 1) p <;> simp [stn, hL]
def dC (L nr : Nat → Nat → Bool) (r : Nat) : Nat → Nat
  | 0 => 0
  | p + 1 => dC L nr r p + (if due L nr r p = true then 1 else 0)
def dT (L nr : Nat → Nat → Bool) : Nat → Nat
  | 0 => 0
  | r + 1 => dT L nr r + dC L nr r (12 - r)
theorem dC_le (L nr : Nat → Nat → Bool) (r : Nat) : ∀ p, dC L nr r p ≤ p
  | 0 => Nat.le_refl _
  | p + 1 => by
    have := dC_le L nr r p
    unfold dC
    split <;> omega
def bT : Nat → Nat
  | 0 => 0
  | r + 1 => bT r + (12 - r)
theorem dT_le (L nr : Nat → Nat → Bool) : ∀ r, dT L nr r ≤ bT r
  | 0 => Nat.le_refl _
  | r + 1 => by
    have h1 := dT_le L nr r
    have h2 := dC_le L nr r (12 - r)
    unfold dT bT
    omega
theorem bT_68 : ∀ r, r < 8 → bT r + (12 - r) ≤ 68 := by decide
theorem dT_68 {L nr : Nat → Nat → Bool} {r p : Nat} (hr : r < 8) (hp : p + r < 12) : dT L nr r + dC L nr r p < 68 := by
  have h1 := dT_le L nr r
  have h2 := dC_le L nr r p
  have h3 := bT_68 r hr
  omega
theorem bT_8 : ∀ r, r < 9 → bT r ≤ 68 := by decide
theorem dC_mono (L nr : Nat → Nat → Bool) (r : Nat) {p : Nat} : ∀ {q : Nat}, p ≤ q → dC L nr r p ≤ dC L nr r q
  | 0, h => by rw [show p = 0 by omega]; exact Nat.le_refl _
  | q + 1, h => by
    by_cases e : p = q + 1
    · rw [e]; exact Nat.le_refl _
    · have := dC_mono L nr r (p := p) (q := q) (by omega)
      rw [dC]
      omega
theorem dC_lt {L nr : Nat → Nat → Bool} {r p q : Nat} (h : due L nr r p = true) (hpq : p < q) : dC L nr r p < dC L nr r q := by
  have h1 : dC L nr r (p + 1) = dC L nr r p + 1 := by rw [dC, if_pos h]
  have h2 := dC_mono L nr r (p := p + 1) (q := q) hpq
  omega
theorem dT_mono (L nr : Nat → Nat → Bool) {r : Nat} : ∀ {q : Nat}, r ≤ q → dT L nr r ≤ dT L nr q
  | 0, h => by rw [show r = 0 by omega]; exact Nat.le_refl _
  | q + 1, h => by
    by_cases e : r = q + 1
    · rw [e]; exact Nat.le_refl _
    · have := dT_mono L nr (r := r) (q := q) (by omega)
      rw [dT]
      omega
/-- ahead in the order -/
def ahd (r' p' r p : Nat) : Prop := (r' < r ∧ p' + r' < 12) ∨ (r' = r ∧ p' < p)
theorem ord_lt {L nr : Nat → Nat → Bool} {r' p' r p : Nat} (h : ahd r' p' r p) (hd : due L nr r' p' = true) : dT L nr r' + dC L nr r' p' < dT L nr r + dC L nr r p := by
  rcases h with ⟨h1, h2⟩ | ⟨h1, h2⟩
  · have a := dC_lt hd (q := 12 - r') (by omega)
    have b : dT L nr (r' + 1) = dT L nr r' + dC L nr r' (12 - r') := rfl
    have c := dT_mono L nr (r := r' + 1) (q := r) h1
    omega
  · subst h1
    have := dC_lt hd h2
    omega
theorem ord_sj (L nr : Nat → Nat → Bool) : ∀ (r p t : Nat), t < dT L nr r + dC L nr r p → ∃ r' p', ahd r' p' r p ∧ due L nr r' p' = true ∧ t = dT L nr r' + dC L nr r' p'
  | r, p + 1, t, h => by
    by_cases h1 : t < dT L nr r + dC L nr r p
    · obtain ⟨r', p', a, b, c⟩ := ord_sj L nr r p t h1
      refine ⟨r', p', ?_, b, c⟩
      rcases a with a | ⟨a1, a2⟩
      · exact Or.inl a
      · exact Or.inr ⟨a1, by omega⟩
    · rw [dC] at h
      by_cases hd : due L nr r p = true
      · rw [if_pos hd] at h
        exact ⟨r, p, Or.inr ⟨rfl, by omega⟩, hd, by omega⟩
      · rw [if_neg hd] at h
        omega
  | 0, 0, t, h => by
    exact absurd h (by simp [dT, dC])
  | r + 1, 0, t, h => by
    have h1 : t < dT L nr r + dC L nr r (12 - r) := h
    obtain ⟨r', p', a, b, c⟩ := ord_sj L nr r (12 - r) t h1
    refine ⟨r', p', ?_, b, c⟩
    rcases a with ⟨a1, a2⟩ | ⟨a1, a2⟩
    · exact Or.inl ⟨by omega, a2⟩
    · exact Or.inl ⟨by omega, by omega⟩
/-! scratch cells: nothing that the relation speaks of -/
def scr (q : Nat) : Bool := [9, 10, 11, 12, 13, 16, 17, 18, 19, 20, 21, 22, 23, 33, 34, 35, 36, 38, 39, 40, 41].contains q
def FrS (G G' : Gt) : Prop := (∀ q, scr q = false → q ≠ 26 → G' q = G q) ∧ ∀ j, j ≠ 14 → G' 26 j = G 26 j
theorem FrS.rf (G : Gt) : FrS G G := ⟨fun _ _ _ => rfl, fun _ _ => rfl⟩
theorem FrS.s {G G' : Gt} {p : Nat} {f : Nat → Int32} (h : FrS G G') (hp : scr p = true) : FrS G (sG G' p f) := by
  have h26 : p ≠ 26 := fun z => by rw [z] at hp; exact absurd hp (by decide)
  refine ⟨fun q hq hn => ?_, fun j hj => ?_⟩
  · rw [sG_ne (fun z => by rw [z, hp] at hq; cases hq)]
    exact h.1 q hq hn
  · rw [sG_ne (Ne.symm h26)]
    exact h.2 j hj
theorem FrS.o {G G' : Gt} {v : Int32} (h : FrS G G') : FrS G (sG G' 26 (upd (G' 26) 14 v)) := by
  refine ⟨fun q hq hn => ?_, fun j hj => ?_⟩
  · rw [sG_ne hn]
    exact h.1 q hq hn
  · rw [sG_at, pk_un hj]
    exact h.2 j hj
theorem FrS.tr {A B C : Gt} (h : FrS A B) (h2 : FrS B C) : FrS A C := ⟨fun q a b => (h2.1 q a b).trans (h.1 q a b), fun j a => (h2.2 j a).trans (h.2 j a)⟩
theorem Inv_fr {G G' : Gt} (h : FrS G G') (hI : Inv G) : Inv G' := by
  have f := fun q (a : scr q = false) (b : q ≠ 26) => h.1 q a b
  have g := h.2
  unfold Inv
  rw [f 5 rfl (by decide), f 6 rfl (by decide), f 7 rfl (by decide), f 8 rfl (by decide), f 30 rfl (by decide), f 31 rfl (by decide), f 32 rfl (by decide), f 25 rfl (by decide), f 42 rfl (by decide), f 24 rfl (by decide), f 2 rfl (by decide), f 3 rfl (by decide), f 4 rfl (by decide), f 27 rfl (by decide), f 28 rfl (by decide), f 29 rfl (by decide), f 15 rfl (by decide), f 14 rfl (by decide), f 37 rfl (by decide), f 0 rfl (by decide), g 6 (by decide), g 20 (by decide), g 1 (by decide), g 0 (by decide)]
  exact hI
/-! the class: putInTurn -/
def bB (b : Bool) : Int32 := if b = true then 1 else 0
theorem bB_0 {b : Bool} : bB b = 0 ↔ b = false := by cases b <;> decide
abbrev tvO (L nr : Nat → Nat → Bool) (r p : Nat) : Int32 := if due L nr r p = true then nI (dT L nr r + dC L nr r p) else -1000000
/-- what is written of the places ahead of r, p -/
def okX (L nr : Nat → Nat → Bool) (G : Gt) (r p : Nat) : Prop := ∀ r' p', ahd r' p' r p → G 16 (12 * r' + p') = bB (stn L nr r' p') ∧ G 17 (12 * r' + p') = tvO L nr r' p'
theorem okX_put {L nr : Nat → Nat → Bool} {G : Gt} {r p : Nat} {a b : Int32} (hr : r < 8) (hp : p + r < 12) (h : okX L nr G r p) (ha : a = bB (stn L nr r p)) (hb : b = tvO L nr r p) : okX L nr (sG (sG G 16 (upd (G 16) (12 * r + p) a)) 17 (upd (G 17) (12 * r + p) b)) r (p + 1) := by
  intro r' p' h1
  show upd (G 16) (12 * r + p) a (12 * r' + p') = _ ∧ upd (G 17) (12 * r + p) b (12 * r' + p') = _
  by_cases e : r' = r ∧ p' = p
  · obtain ⟨rfl, rfl⟩ := e
    rw [pk_us, pk_us]
    exact ⟨ha, hb⟩
  · have hn : 12 * r' + p' ≠ 12 * r + p := by
      rcases h1 with ⟨q1, q2⟩ | ⟨q1, q2⟩
      · omega
      · omega
    rw [pk_un hn, pk_un hn]
    refine h r' p' ?_
    rcases h1 with q | ⟨q1, q2⟩
    · exact Or.inl q
    · exact Or.inr ⟨q1, by omega⟩
theorem okX_row {L nr : Nat → Nat → Bool} {G : Gt} {r : Nat} (h : okX L nr G r (12 - r)) : okX L nr G (r + 1) 0 := by
  intro r' p' h1
  refine h r' p' ?_
  rcases h1 with ⟨q1, q2⟩ | ⟨q1, q2⟩
  · by_cases e : r' = r
    · exact Or.inr ⟨e, by omega⟩
    · exact Or.inl ⟨by omega, q2⟩
  · omega
abbrev oL (c k m : Int32) (r n : Int32) : Lt := [(5, .int r), (4, .int n), (0, .ref 14), (1, .int c), (2, .int k), (3, .int m)]
set_option maxRecDepth 4000 in
theorem w_pt {X : Xt} {c k m : Int32} {R P nx : Nat} {d l : Bool} {G : Gt} {Q : Qt} (hR : R < 8) (hP : P + R < 12) (hl : l = true ↔ ¬ G 15 (12 * R + P) = 0) (K : ∀ q n, q = nI (P + 1) → n = nI (nx + (if d = true then 1 else 0)) → wp X m_Pile_putInTurn 15 ((6, .int q) :: oL c k m (nI R) n) [] (sG (sG G 16 (upd (G 16) (12 * R + P) (bB (l || d)))) 17 (upd (G 17) (12 * R + P) (if d = true then nI nx else -1000000))) Q) : wp X m_Pile_putInTurn 77 ((8, .int (bB d)) :: (7, .int (nI (12 * R + P))) :: (6, .int (nI P)) :: oL c k m (nI R) (nI nx)) [] G Q := by
  have n1 : vp_nar .boolean 1 = 1 := rfl
  have n0 : vp_nar .boolean 0 = 0 := rfl
  refine rn_wp (stops := [15]) 60 ?_
  refine vi (vp_in_nI (by omega) (by omega)) ?_
  rw [nI_clamp (by omega)]
  refine bj (fun h => ?_) (fun h => ?_)
  · have hl1 : l = true := hl.mpr h
    subst hl1
    refine vi (vp_in_nI (by omega) (by omega)) ?_
    rw [nI_clamp (by omega), n1]
    cases d
    · refine bi_t rfl ?_
      refine vi (vp_in_nI (by omega) (by omega)) ?_
      rw [nI_clamp (by omega)]
      refine bi_t rfl ?_
      exact wp_pick [0, 4, 1, 5, 6, 7, 8] (K _ _ (nI_1 P) (Int32.add_zero _))
    · refine bi_f (by decide) ?_
      refine vi (vp_in_nI (by omega) (by omega)) ?_
      rw [nI_clamp (by omega)]
      refine bi_f (by decide) ?_
      exact wp_pick [0, 4, 1, 5, 6, 7, 8] (K _ _ (nI_1 P) (nI_1 nx))
  · have hl1 : l = false := by
      cases l
      · rfl
      · exact absurd h (hl.mp rfl)
    subst hl1
    cases d
    · refine bi_t rfl ?_
      refine vi (vp_in_nI (by omega) (by omega)) ?_
      rw [nI_clamp (by omega), n0]
      refine bi_t rfl ?_
      refine vi (vp_in_nI (by omega) (by omega)) ?_
      rw [nI_clamp (by omega)]
      refine bi_t rfl ?_
      exact wp_pick [0, 4, 1, 5, 6, 7, 8] (K _ _ (nI_1 P) (Int32.add_zero _))
    · refine bi_f (by decide) ?_
      refine vi (vp_in_nI (by omega) (by omega)) ?_
      rw [nI_clamp (by omega), n1]
      refine bi_f (by decide) ?_
      refine vi (vp_in_nI (by omega) (by omega)) ?_
      rw [nI_clamp (by omega)]
      refine bi_f (by decide) ?_
      exact wp_pick [0, 4, 1, 5, 6, 7, 8] (K _ _ (nI_1 P) (nI_1 nx))
end
section
/-! the class: putInTurn's loops -/
/-- L: where blocks lie; nr: what is near -/
abbrev lyX (L : Nat → Nat → Bool) (G : Gt) : Prop := ∀ r p, r < 8 → p < 12 → (L r p = true ↔ ¬ G 15 (12 * r + p) = 0)
abbrev nrB (c k : Int32) : Nat → Nat → Bool := fun r p => decide (nea c k (nI r) (nI p))
theorem brn_on {L nr : Nat → Nat → Bool} {G : Gt} {r p : Nat} (hp : p + r < 12) (h : okX L nr G r p) : brn (G 16) r p ↔ onB L nr r p = true := by
  unfold onB
  by_cases hz : r = 0
  · rw [decide_eq_true hz, Bool.true_or]
    exact ⟨fun _ => rfl, fun _ => Or.inl hz⟩
  · rw [decide_eq_false hz, Bool.false_or]
    have h1 := (h (r - 1) p (Or.inl ⟨by omega, by omega⟩)).1
    have h2 := (h (r - 1) (p + 1) (Or.inl ⟨by omega, by omega⟩)).1
    unfold brn
    rw [h1, h2, bB_0, bB_0, Bool.and_eq_true]
    constructor
    · rintro (q | ⟨q1, q2⟩)
      · exact absurd q hz
      · exact ⟨by simpa using q1, by simpa using q2⟩
    · rintro ⟨q1, q2⟩
      exact Or.inr ⟨by simp [q1], by simp [q2]⟩
set_option maxRecDepth 4000 in
theorem w_pi {X : Xt} {L : Nat → Nat → Bool} {c k m : Int32} {R : Nat} {G : Gt} {Q : Qt} (hR : R < 8) (hL : lyX L G) (K : ∀ G' q n, q = nI (R + 1) → n = nI (dT L (nrB c k) (R + 1)) → FrS G G' → okX L (nrB c k) G' (R + 1) 0 → wp X m_Pile_putInTurn 6 (oL c k m q n) [] G' Q) : ∀ (z p : Nat) (q n : Int32) (G' : Gt), q = nI p → p + z = 12 - R → n = nI (dT L (nrB c k) R + dC L (nrB c k) R p) → FrS G G' → okX L (nrB c k) G' R p → wp X m_Pile_putInTurn 15 ((6, .int q) :: oL c k m (nI R) n) [] G' Q
  | 0, p, q, n, G', hq, hp, hn, hF, hO => by
    subst hq
    have hp : p = 12 - R := by omega
    subst hp
    refine rn_wp (stops := [6, 15, 77]) 60 ?_
    refine bi_t (by rw [show (12 : Int32) = nI 12 from rfl, pk_sub (by omega)]; exact Int32.le_refl _) ?_
    exact wp_pick [0, 2, 3, 4, 5, 6] (K G' _ n (nI_1 R) hn hF (okX_row hO))
  | z + 1, p, q, n, G', hq, hp, hn, hF, hO => by
    subst hq
    subst hn
    refine rn_wp (stops := [6, 15, 77]) 60 ?_
    refine bi_f (by rw [show (12 : Int32) = nI 12 from rfl, pk_sub (by omega), nI_leI (by omega) (by omega)]; omega) ?_
    refine c_at rfl rfl ?_
    have hl : L R p = true ↔ ¬ G' 15 (12 * R + p) = 0 := by
      rw [hF.1 15 rfl (by decide)]
      exact hL R p hR (by omega)
    have hb := brn_on (by omega) hO
    have fin : ∀ d : Int32, d = bB (due L (nrB c k) R p) → wp X m_Pile_putInTurn 77 ((8, .int d) :: (7, .int (nI (12 * R + p))) :: (6, .int (nI p)) :: oL c k m (nI R) (nI (dT L (nrB c k) R + dC L (nrB c k) R p))) [] G' Q := by
      intro d hd
      subst hd
      refine w_pt hR (by omega) hl (fun q n hq hn => ?_)
      refine w_pi hR hL K z (p + 1) q n _ hq (by omega) (by rw [hn, dC, Nat.add_assoc]) ((hF.s rfl).s rfl) ?_
      exact okX_put hR (by omega) hO (by rw [stn_due]) rfl
    refine vi (vp_in_nI (by omega) (by omega)) ?_
    rw [nI_clamp (by omega)]
    refine bj (fun h => ?_) (fun h => ?_)
    · refine fin 0 ?_
      unfold due
      rw [hl.mpr h]
      rfl
    · have hlf : L R p = false := by
        cases e : L R p
        · rfl
        · exact absurd h (hl.mp e)
      refine c_isBorne (Or.inr rfl) rfl rfl hR (by omega) ?_
      refine bib (fun h2 => ?_) (fun h2 => ?_)
      · refine fin 0 ?_
        unfold due
        rw [show onB L (nrB c k) R p = false from Bool.eq_false_iff.mpr (fun e => h2 (hb.mpr e)), Bool.and_false, Bool.and_false]
        rfl
      · refine c_isNear ?_
        refine bib (fun h3 => ?_) (fun h3 => ?_)
        · refine fin 0 ?_
          unfold due nrB
          rw [decide_eq_false h3, Bool.false_and, Bool.and_false]
          rfl
        · refine fin 1 ?_
          unfold due
          rw [hlf, hb.mp h2]
          unfold nrB
          rw [decide_eq_true h3]
          rfl
theorem w_po {X : Xt} {L : Nat → Nat → Bool} {c k : Int32} {M : Nat} {G : Gt} {Q : Qt} (hM : M ≤ 8) (hL : lyX L G) (K : ∀ G', FrS G G' → okX L (nrB c k) G' M 0 → Q (some (.int (nI (dT L (nrB c k) M)))) G') : ∀ (z r : Nat) (q n : Int32) (G' : Gt), q = nI r → r + z = M → n = nI (dT L (nrB c k) r) → FrS G G' → okX L (nrB c k) G' r 0 → wp X m_Pile_putInTurn 6 (oL c k (nI M) q n) [] G' Q
  | 0, r, q, n, G', hq, hr, hn, hF, hO => by
    subst hq
    have hr : r = M := by omega
    subst hr
    refine rn_wp (stops := [6, 15]) 60 ?_
    refine bi_t (Int32.le_refl _) ?_
    exact Qi (K G' hF hO) hn
  | z + 1, r, q, n, G', hq, hr, hn, hF, hO => by
    subst hq
    refine rn_wp (stops := [6, 15]) 60 ?_
    refine bi_f (by simp (disch := omega) only [nI_1, nI_add, nI_clamp, nI_leI, nI_ltI, nI_eq, nI_toInt]; omega) ?_
    exact w_pi (by omega) hL (fun G'' q' n' hq' hn' hF' hO' => w_po hM hL K z (r + 1) q' n' G'' hq' (by omega) hn' hF' hO') (12 - r) 0 _ _ G' rfl (by omega) (by rw [hn]; rfl) hF hO
theorem c_putInTurn {X : Xt} {L : Nat → Nat → Bool} {c k : Int32} {M : Nat} {G : Gt} {Q : Qt} (hM : M ≤ 8) (hL : lyX L G) (K : ∀ G', FrS G G' → okX L (nrB c k) G' M 0 → Q (some (.int (nI (dT L (nrB c k) M)))) G') : con X m_Pile_putInTurn [.ref 14, .int c, .int k, .int (nI M)] G Q := by
  refine con_rn 10 [6] (by decide) rfl ?_
  exact w_po hM hL K M 0 _ _ G rfl (by omega) rfl (FrS.rf G) (fun r p h => by rcases h with ⟨h, -⟩ | ⟨-, h⟩ <;> omega)
theorem mN {m : Int32} (h : 1 ≤ m ∧ m ≤ 8) : ∃ M : Nat, M ≤ 8 ∧ 1 ≤ M ∧ m = nI M := by
  obtain ⟨e, e1, -⟩ := toN (x := m) (Int32.le_trans (by decide) h.1)
  have h1 : 1 ≤ m.toInt := by simpa using le32.mp h.1
  have h2 : m.toInt ≤ 8 := by simpa using le32.mp h.2
  exact ⟨_, by omega, by omega, e⟩
theorem c_SW_order {X : Xt} {L : Nat → Nat → Bool} {c k m : Int32} {G : Gt} {Q : Qt} (hL : lyX L G) (K1 : ¬ (crn c k ∧ 1 ≤ m ∧ m ≤ 8) → Q (some (.int (-1000001))) G) (K2 : ∀ M G', M ≤ 8 → m = nI M → crn c k ∧ 1 ≤ m ∧ m ≤ 8 → FrS G G' → Q (some (.int (nI (dT L (nrB c k) M)))) G') : con X m_SW_order [.ref 0, .int c, .int k, .int m] G Q := by
  refine con_rn 40 [] (by decide) rfl ?_
  refine c_isCrane (bib (fun h => K1 (fun z => h z.1)) (fun hc => ?_))
  refine c_within (bjb (fun hm => ?_) (fun h => K1 (fun z => h z.2)))
  obtain ⟨M, h8, -, e⟩ := mN hm
  subst e
  refine c_putInTurn h8 hL (fun G' hF hO => ?_)
  exact K2 M G' h8 rfl ⟨hc, hm⟩ hF
/-! the model: findOrder -/
abbrev lyM (L : Nat → Nat → Bool) (G : Gt) : Prop := (∀ r, r < 8 → 0 ≤ (G 37 r).toInt ∧ (G 37 r).toInt < 2 ^ (12 - r)) ∧ ∀ r p, r < 8 → p < 12 → (L r p = true ↔ tb (G 37) r p)
def okM (L nr : Nat → Nat → Bool) (G : Gt) (r p : Nat) : Prop := (∀ r' p', r' < r → p' + r' < 12 → 0 ≤ (G 40 r').toInt ∧ (tb (G 40) r' p' ↔ stn L nr r' p' = true)) ∧ (∀ r' p', ahd r' p' r p → due L nr r' p' = true → G 38 (dT L nr r' + dC L nr r' p') = nI r' ∧ G 39 (dT L nr r' + dC L nr r' p') = nI p') ∧ G 26 14 = nI (dT L nr r + dC L nr r p)
/-- the row under way -/
def rwM (L nr : Nat → Nat → Bool) (G : Gt) (r p : Nat) : Prop := (0 ≤ (G 40 r).toInt ∧ (G 40 r).toInt < 2 ^ (12 - r)) ∧ ∀ j, j < 12 → (tb (G 40) r j ↔ L r j = true ∨ (j < p ∧ due L nr r j = true))
theorem rw_row {L nr : Nat → Nat → Bool} {G : Gt} {r : Nat} (h : okM L nr G r (12 - r)) (h2 : rwM L nr G r (12 - r)) : okM L nr G (r + 1) 0 := by
  refine ⟨fun r' p' a b => ?_, fun r' p' a b => ?_, h.2.2⟩
  · by_cases e : r' = r
    · subst e
      refine ⟨h2.1.1, ?_⟩
      rw [h2.2 p' (by omega), stn_due, Bool.or_eq_true]
      refine or_congr_right ?_
      exact ⟨fun z => z.2, fun z => ⟨by omega, z⟩⟩
    · exact h.1 r' p' (by omega) b
  · refine h.2.1 r' p' ?_ b
    rcases a with ⟨a1, a2⟩ | ⟨a1, a2⟩
    · by_cases e : r' = r
      · exact Or.inr ⟨e, by omega⟩
      · exact Or.inl ⟨by omega, a2⟩
    · omega
/-- a place that is not due -/
theorem ok_no {L nr : Nat → Nat → Bool} {G : Gt} {r p : Nat} (hd : due L nr r p = false) (h : okM L nr G r p) (h2 : rwM L nr G r p) : okM L nr G r (p + 1) ∧ rwM L nr G r (p + 1) := by
  refine ⟨⟨h.1, fun r' p' a b => ?_, ?_⟩, h2.1, fun j hj => ?_⟩
  · refine h.2.1 r' p' ?_ b
    rcases a with a | ⟨a1, a2⟩
    · exact Or.inl a
    · refine Or.inr ⟨a1, ?_⟩
      by_cases e : p' = p
      · rw [a1, e, hd] at b; cases b
      · omega
  · rw [h.2.2, dC, hd]
    rfl
  · rw [h2.2 j hj]
    refine or_congr_right ⟨fun z => ⟨by omega, z.2⟩, fun z => ⟨?_, z.2⟩⟩
    by_cases e : j = p
    · have := z.2
      rw [e, hd] at this; cases this
    · omega
/-- one that is -/
theorem ok_yes {L nr : Nat → Nat → Bool} {G : Gt} {r p : Nat} (hr : r < 8) (hp : p + r < 12) (hd : due L nr r p = true) (h : okM L nr G r p) (h2 : rwM L nr G r p) : okM L nr (sG (sG (sG (sG G 40 (upd (G 40) r (G 40 r ||| (1 : Int32) <<< (nI p &&& 31)))) 38 (upd (G 38) (dT L nr r + dC L nr r p) (nI r))) 39 (upd (G 39) (dT L nr r + dC L nr r p) (nI p))) 26 (upd (G 26) 14 (nI (dT L nr r + dC L nr r p) + 1))) r (p + 1) ∧ rwM L nr (sG (sG (sG (sG G 40 (upd (G 40) r (G 40 r ||| (1 : Int32) <<< (nI p &&& 31)))) 38 (upd (G 38) (dT L nr r + dC L nr r p) (nI r))) 39 (upd (G 39) (dT L nr r + dC L nr r p) (nI p))) 26 (upd (G 26) 14 (nI (dT L nr r + dC L nr r p) + 1))) r (p + 1) := by
  have hb := bit_on (x := G 40 r) (n := 12 - r) (P := p) (by omega) (by omega) h2.1.1 h2.1.2
  refine ⟨⟨fun r' p' a b => ?_, fun r' p' a b => ?_, ?_⟩, ?_, fun j hj => ?_⟩
  · show 0 ≤ (upd (G 40) r _ r').toInt ∧ ((upd (G 40) r _ r').toInt.toNat.testBit p' = true ↔ _)
    rw [pk_un (by omega)]
    exact h.1 r' p' a b
  · show upd (G 38) _ _ _ = _ ∧ upd (G 39) _ _ _ = _
    by_cases e : r' = r ∧ p' = p
    · obtain ⟨rfl, rfl⟩ := e
      rw [pk_us, pk_us]
      exact ⟨rfl, rfl⟩
    · have a' : ahd r' p' r p := by
        rcases a with a | ⟨a1, a2⟩
        · exact Or.inl a
        · exact Or.inr ⟨a1, by omega⟩
      have := ord_lt a' b
      rw [pk_un (by omega), pk_un (by omega)]
      exact h.2.1 r' p' a' b
  · show nI _ + 1 = _
    rw [nI_1, dC, if_pos hd]
    rfl
  · show 0 ≤ (upd (G 40) r _ r).toInt ∧ (upd (G 40) r _ r).toInt < _
    rw [pk_us]
    exact hb.1
  · show (upd (G 40) r _ r).toInt.toNat.testBit j = true ↔ _
    rw [pk_us, hb.2 j (by omega), Bool.or_eq_true, decide_eq_true_iff]
    have := h2.2 j hj
    unfold tb at this
    rw [this]
    constructor
    · rintro ((q | ⟨q1, q2⟩) | q)
      · exact Or.inl q
      · exact Or.inr ⟨by omega, q2⟩
      · exact Or.inr ⟨by omega, by rw [q]; exact hd⟩
    · rintro (q | ⟨q1, q2⟩)
      · exact Or.inl (Or.inl q)
      · by_cases e : j = p
        · exact Or.inr e
        · exact Or.inl (Or.inr ⟨by omega, q2⟩)
end
section
/-! the model: findOrder's loops; order -/
abbrev oM (c k m : Int32) (r : Int32) : Lt := [(4, .int r), (0, .ref 26), (1, .int c), (2, .int k), (3, .int m)]
set_option maxRecDepth 4000 in
theorem w_fy {X : Xt} {c k m : Int32} {R P t : Nat} {d : Bool} {G : Gt} {Q : Qt} (hR : R < 8) (hP : P + R < 12) (ht : t < 68) (e : G 26 14 = nI t) (K : ∀ q, q = nI (P + 1) → wp X m_Mo_findOrder 31 ((5, .int q) :: oM c k m (nI R)) [] (if d = true then sG (sG (sG (sG G 40 (upd (G 40) R (G 40 R ||| (1 : Int32) <<< (nI P &&& 31)))) 38 (upd (G 38) t (nI R))) 39 (upd (G 39) t (nI P))) 26 (upd (G 26) 14 (nI t + 1)) else G) Q) : wp X m_Mo_findOrder 116 ((6, .int (bB d)) :: (5, .int (nI P)) :: oM c k m (nI R)) [] G Q := by
  refine rn_wp (stops := [31]) 60 ?_
  cases d
  · refine bi_t rfl ?_
    exact wp_pick [0, 2, 3, 4, 5, 6] (K _ (nI_1 P))
  · refine bi_f (by decide) ?_
    refine vi (vp_in_nI (by omega) (by omega)) ?_
    refine vi (vp_in_nI (by omega) (by omega)) ?_
    rw [nI_clamp (by omega)]
    have hv : vp_in (G 26 14) 68 := by rw [e]; exact vp_in_nI ht (by omega)
    refine vi hv ?_
    refine vi hv ?_
    have K2 : wp X m_Mo_findOrder 31 ((5, .int (nI P + 1)) :: oM c k m (nI R)) [] (sG (sG (sG (sG G 40 (upd (G 40) R (G 40 R ||| (1 : Int32) <<< (nI P &&& 31)))) 38 (upd (G 38) (G 26 14).toNatClampNeg (nI R))) 39 (upd (G 39) (G 26 14).toNatClampNeg (nI P))) 26 (upd (G 26) 14 (G 26 14 + 1))) Q := by
      rw [e, nI_clamp (by omega)]
      exact K _ (nI_1 P)
    exact wp_pick [0, 2, 3, 4, 5, 6] K2
theorem tb_on {L nr : Nat → Nat → Bool} {G : Gt} {r p : Nat} (hr : r ≠ 0) (hp : p + r < 12) (h : okM L nr G r p) : (0 ≤ (G 40 (r - 1)).toInt ∧ ((tb (G 40) (r - 1) p ∧ tb (G 40) (r - 1) (p + 1)) ↔ onB L nr r p = true)) := by
  have h1 := h.1 (r - 1) p (by omega) (by omega)
  have h2 := h.1 (r - 1) (p + 1) (by omega) (by omega)
  refine ⟨h1.1, ?_⟩
  unfold onB
  rw [h1.2, h2.2, decide_eq_false hr, Bool.false_or, Bool.and_eq_true]
set_option maxRecDepth 4000 in
theorem w_fi {X : Xt} {L : Nat → Nat → Bool} {c k m : Int32} {R : Nat} {G : Gt} {Q : Qt} (hR : R < 8) (hL : lyM L G) (K : ∀ G' q, q = nI (R + 1) → FrS G G' → okM L (nrB c k) G' (R + 1) 0 → wp X m_Mo_findOrder 8 (oM c k m q) [] G' Q) : ∀ (z p : Nat) (q : Int32) (G' : Gt), q = nI p → p + z = 12 - R → FrS G G' → okM L (nrB c k) G' R p → rwM L (nrB c k) G' R p → wp X m_Mo_findOrder 31 ((5, .int q) :: oM c k m (nI R)) [] G' Q
  | 0, p, q, G', hq, hp, hF, hO, hW => by
    subst hq
    have hp : p = 12 - R := by omega
    subst hp
    refine rn_wp (stops := [8, 31, 116]) 60 ?_
    refine bi_t (by rw [show (12 : Int32) = nI 12 from rfl, pk_sub (by omega)]; exact Int32.le_refl _) ?_
    exact wp_pick [0, 2, 3, 4, 5] (K G' _ (nI_1 R) hF (rw_row hO hW))
  | z + 1, p, q, G', hq, hp, hF, hO, hW => by
    subst hq
    refine rn_wp (stops := [8, 31, 116]) 60 ?_
    refine bi_f (by rw [show (12 : Int32) = nI 12 from rfl, pk_sub (by omega), nI_leI (by omega) (by omega)]; omega) ?_
    have e37 : G' 37 = G 37 := hF.1 37 rfl (by decide)
    have hl := hL.2 R p hR (by omega)
    have fin : ∀ d : Int32, d = bB (due L (nrB c k) R p) → wp X m_Mo_findOrder 116 ((6, .int d) :: (5, .int (nI p)) :: oM c k m (nI R)) [] G' Q := by
      intro d hd
      subst hd
      refine w_fy hR (by omega) (dT_68 (L := L) (nr := nrB c k) hR (show p + R < 12 by omega)) hO.2.2 (fun q hq => ?_)
      cases hd : due L (nrB c k) R p
      · rw [if_neg (by decide)]
        have := ok_no hd hO hW
        exact w_fi hR hL K z (p + 1) q G' hq (by omega) hF this.1 this.2
      · rw [if_pos rfl]
        have := ok_yes hR (by omega) hd hO hW
        exact w_fi hR hL K z (p + 1) q _ hq (by omega) (FrS.o (((hF.s (p := 40) rfl).s (p := 38) rfl).s (p := 39) rfl)) this.1 this.2
    refine vi (vp_in_nI (by omega) (by omega)) ?_
    rw [nI_clamp (by omega), e37]
    refine c_isIn (rN (hL.1 R hR).1).1 rfl (rN (hL.1 R hR).1).2 (by omega) ?_
    refine bjb (fun h => ?_) (fun h => ?_)
    · refine fin 0 ?_
      unfold due
      rw [hl.mpr h]
      rfl
    · have hlf : L R p = false := by
        cases e : L R p
        · rfl
        · exact absurd (hl.mp e) h
      refine c_isReached ?_
      refine bib (fun h3 => ?_) (fun h3 => ?_)
      · refine fin 0 ?_
        unfold due nrB
        rw [decide_eq_false h3, Bool.false_and, Bool.and_false]
        rfl
      · have yes : onB L (nrB c k) R p = true → (1 : Int32) = bB (due L (nrB c k) R p) := by
          intro hon
          unfold due
          rw [hlf, hon]
          unfold nrB
          rw [decide_eq_true h3]
          rfl
        have no : ¬ onB L (nrB c k) R p = true → (0 : Int32) = bB (due L (nrB c k) R p) := by
          intro hon
          unfold due
          rw [show onB L (nrB c k) R p = false from Bool.eq_false_iff.mpr hon, Bool.and_false, Bool.and_false]
          rfl
        refine bi (fun h4 => ?_) (fun h4 => ?_)
        · have hz : R = 0 := by
            rw [← nI_0, nI_eq (by omega) (by omega)] at h4
            exact h4
          refine fin 1 (yes ?_)
          unfold onB
          rw [decide_eq_true hz, Bool.true_or]
        · have hz : R ≠ 0 := fun z => h4 (by rw [z]; rfl)
          obtain ⟨b0, hb⟩ := tb_on hz (by omega) hO
          refine vi (by rw [nI_m1 (by omega)]; exact vp_in_nI (by omega) (by omega)) ?_
          rw [nI_m1 (by omega), nI_clamp (by omega)]
          refine c_isIn (rN b0).1 rfl (rN b0).2 (by omega) ?_
          refine bib (fun h5 => ?_) (fun h5 => ?_)
          · exact fin 0 (no (fun z => h5 (hb.mpr z).1))
          · refine vi (by rw [nI_m1 (by omega)]; exact vp_in_nI (by omega) (by omega)) ?_
            rw [nI_m1 (by omega), nI_clamp (by omega)]
            refine c_isIn (rN b0).1 (nI_1 p) (rN b0).2 (by omega) ?_
            refine bib (fun h6 => ?_) (fun h6 => ?_)
            · exact fin 0 (no (fun z => h6 (hb.mpr z).2))
            · exact fin 1 (yes (hb.mp ⟨h5, h6⟩))
set_option maxRecDepth 4000 in
theorem w_fo {X : Xt} {L : Nat → Nat → Bool} {c k : Int32} {M : Nat} {G : Gt} {Q : Qt} (hM : M ≤ 8) (hL : lyM L G) (K : ∀ G', FrS G G' → okM L (nrB c k) G' M 0 → Q none G') : ∀ (z r : Nat) (q : Int32) (G' : Gt), q = nI r → r + z = M → FrS G G' → okM L (nrB c k) G' r 0 → wp X m_Mo_findOrder 8 (oM c k (nI M) q) [] G' Q
  | 0, r, q, G', hq, hr, hF, hO => by
    subst hq
    have hr : r = M := by omega
    subst hr
    refine rn_wp (stops := [8, 31]) 60 ?_
    refine bi_t (Int32.le_refl _) ?_
    exact K G' hF hO
  | z + 1, r, q, G', hq, hr, hF, hO => by
    subst hq
    refine rn_wp (stops := [8, 31]) 60 ?_
    refine bi_f (by simp (disch := omega) only [nI_1, nI_add, nI_clamp, nI_leI, nI_ltI, nI_eq, nI_toInt]; omega) ?_
    refine vi (vp_in_nI (by omega) (by omega)) ?_
    refine vi (vp_in_nI (by omega) (by omega)) ?_
    rw [nI_clamp (by omega)]
    have e37 : G' 37 = G 37 := hF.1 37 rfl (by decide)
    refine w_fi (by omega) hL (fun G'' q' hq' hF' hO' => w_fo hM hL K z (r + 1) q' G'' hq' (by omega) hF' hO') (12 - r) 0 _ _ rfl (by omega) (hF.s (p := 40) rfl) ?_ ?_
    · refine ⟨fun r' p' a b => ?_, hO.2.1, hO.2.2⟩
      show 0 ≤ (upd (G' 40) r _ r').toInt ∧ ((upd (G' 40) r _ r').toInt.toNat.testBit p' = true ↔ _)
      rw [pk_un (by omega)]
      exact hO.1 r' p' a b
    · refine ⟨?_, fun j hj => ?_⟩
      · show 0 ≤ (upd (G' 40) r (G' 37 r) r).toInt ∧ (upd (G' 40) r (G' 37 r) r).toInt < _
        rw [pk_us, e37]
        exact hL.1 r (by omega)
      · show (upd (G' 40) r (G' 37 r) r).toInt.toNat.testBit j = true ↔ _
        rw [pk_us, e37]
        have := hL.2 r j (by omega) hj
        unfold tb at this
        rw [← this]
        exact ⟨fun z => Or.inl z, fun z => z.elim id (fun w => absurd w.1 (by omega))⟩
theorem c_findOrder {X : Xt} {L : Nat → Nat → Bool} {c k : Int32} {M : Nat} {G : Gt} {Q : Qt} (hM : M ≤ 8) (hL : lyM L G) (K : ∀ G', FrS G G' → okM L (nrB c k) G' M 0 → Q none G') : con X m_Mo_findOrder [.ref 26, .int c, .int k, .int (nI M)] G Q := by
  refine con_rn 10 [8] (by decide) rfl ?_
  refine w_fo hM hL K M 0 _ _ rfl (by omega) (FrS.o (FrS.rf G)) ⟨fun r' p' a => absurd a (by omega), fun r' p' a => ?_, rfl⟩
  rcases a with ⟨a, -⟩ | ⟨-, a⟩ <;> omega
theorem c_Mo_order {X : Xt} {L : Nat → Nat → Bool} {c k m : Int32} {G : Gt} {Q : Qt} (h0 : G 26 0 = 0) (hL : lyM L G) (K1 : ¬ (crn c k ∧ 1 ≤ m ∧ m ≤ 8) → Q (some (.int (-1000001))) G) (K2 : ∀ M G', M ≤ 8 → m = nI M → crn c k ∧ 1 ≤ m ∧ m ≤ 8 → FrS G G' → Q (some (.int (nI (dT L (nrB c k) M)))) G') : con X m_Mo_order [.ref 26, .int c, .int k, .int m] G Q := by
  refine con_rm 40 [] (by decide) rfl (by decide +kernel) h0 ?_
  refine c_MisCrane (bib (fun h => K1 (fun z => h z.1)) (fun hc => ?_))
  refine c_in 1 8 rfl rfl (bjb (fun hm => ?_) (fun h => K1 (fun z => h z.2)))
  obtain ⟨M, h8, -, e⟩ := mN hm
  subst e
  refine c_findOrder h8 hL (fun G' hF hO => ?_)
  have e := hO.2.2
  exact Qi (K2 M G' h8 rfl ⟨hc, hm⟩ hF) (by rw [e]; rfl)
abbrev LyB (G : Gt) : Nat → Nat → Bool := fun r p => decide (tb (G 37) r p)
theorem LyB_M {G : Gt} (hP : IP (G 15) (G 14 3) (G 37)) : lyM (LyB G) G := ⟨hP.2.1, fun r p _ _ => by unfold LyB; rw [decide_eq_true_iff]⟩
theorem LyB_X {G : Gt} (hP : IP (G 15) (G 14 3) (G 37)) : lyX (LyB G) G := fun r p hr hp => by unfold LyB; rw [decide_eq_true_iff, IP_0 hP hr hp]
theorem lyM_fr {L : Nat → Nat → Bool} {G G' : Gt} (h : lyM L G) (hF : FrS G G') : lyM L G' := by
  have e : G' 37 = G 37 := hF.1 37 rfl (by decide)
  unfold lyM
  rw [e]
  exact h
theorem p_order {X : Xt} {G : Gt} (hI : Inv G) {c k m : Int32} : pair X m_SW_order m_Mo_order [.int c, .int k, .int m] G := by
  obtain ⟨hW, hT, hS, hP, hs, h0⟩ := id hI
  refine c_SW_order (LyB_X hP) (fun h => pq ?_) (fun M G' h1 h2 h3 hF => pq ?_)
  · exact c_Mo_order h0 (LyB_M hP) (fun _ => ⟨rfl, hI⟩) (fun M G' a b c _ => absurd c h)
  · have h0' : G' 26 0 = 0 := by rw [hF.2 0 (by decide)]; exact h0
    subst h2
    refine c_Mo_order h0' (lyM_fr (LyB_M hP) hF) (fun z => ?_) (fun M' G'' a b _ hF' => ⟨?_, Inv_fr hF' (Inv_fr hF hI)⟩)
    · exact absurd h3 z
    · rw [nI_eq (by omega) (by omega)] at b
      rw [b]
end
section
/-! planned -/
def tS (f : Nat → Nat) : Nat → Nat
  | 0 => 0
  | d + 1 => tS f d + f d
theorem tS_le {f : Nat → Nat} {N : Nat} (h : ∀ d, d < N → f d ≤ 20) : ∀ d, d ≤ N → tS f d ≤ 20 * d
  | 0, _ => Nat.le_refl _
  | d + 1, hd => by
    have := tS_le h d (by omega)
    have := h d (by omega)
    unfold tS
    omega
theorem w_day {X : Xt} {s : Int32} {I N t0 : Nat} {f : Nat → Nat} {G : Gt} {Q : Qt} (hs : 0 ≤ s ∧ s ≤ 7) (hN : I + N ≤ 100) (h20 : N ≤ 20) (ht0 : t0 < 68) (hf : ∀ d, d < N → fX G s I d = nI (f d) ∧ f d ≤ 20) (K1 : ∀ d, d < N → tS f d ≤ t0 → t0 < tS f (d + 1) → Q (some (.int (nI d))) G) (K2 : tS f N ≤ t0 → Q (some (.int (-1000000))) G) : ∀ (m d : Nat) (q l : Int32), q = nI d → d + m = N → l = nI (tS f d) → tS f d ≤ t0 → wp X m_SW_dayOf 15 [(6, .int q), (5, .int l), (0, .ref 0), (1, .int (nI t0)), (2, .int s), (3, .int (nI I)), (4, .int (nI N))] [] G Q
  | 0, d, q, l, hq, hd, hl, ht => by
    subst hq
    have hd : d = N := by omega
    subst hd
    refine rn_wp (stops := [15]) 40 ?_
    refine bi_t (Int32.le_refl _) ?_
    exact K2 ht
  | m + 1, d, q, l, hq, hd, hl, ht => by
    subst hq
    have hb := tS_le (fun d hd => (hf d hd).2) (d + 1) (by omega)
    refine rn_wp (stops := [15]) 40 ?_
    refine bi_f (by simp (disch := omega) only [nI_1, nI_add, nI_clamp, nI_leI, nI_ltI, nI_eq, nI_toInt]; omega) ?_
    refine c_itemN (j := I + d) hs (nI_add I d) (by omega) ?_
    have e : l + G 2 (100 * s.toNatClampNeg + (I + d)) = nI (tS f (d + 1)) := by
      have h1 := (hf d (by omega)).1
      unfold fX at h1
      rw [h1, hl, nI_add]
      rfl
    refine bi (fun h => ?_) (fun h => ?_)
    · rw [e, nI_leI (by omega) (by omega)] at h
      exact w_day hs hN h20 ht0 hf K1 K2 m (d + 1) _ _ (nI_1 _) (by omega) e h
    · rw [e, nI_leI (by omega) (by omega)] at h
      exact K1 d (by omega) ht (by omega)
theorem c_dayOf {X : Xt} {s : Int32} {I N t0 : Nat} {f : Nat → Nat} {G : Gt} {Q : Qt} (hs : 0 ≤ s ∧ s ≤ 7) (hN : I + N ≤ 100) (h20 : N ≤ 20) (ht0 : t0 < 68) (hf : ∀ d, d < N → fX G s I d = nI (f d) ∧ f d ≤ 20) (K1 : ∀ d, d < N → tS f d ≤ t0 → t0 < tS f (d + 1) → Q (some (.int (nI d))) G) (K2 : tS f N ≤ t0 → Q (some (.int (-1000000))) G) : con X m_SW_dayOf [.ref 0, .int (nI t0), .int s, .int (nI I), .int (nI N)] G Q := by
  refine con_rn 20 [15] (by decide) rfl ?_
  refine bj_f ?_ ?_
  · rw [eq32, nI_toInt (by omega), show (-1000000 : Int32).toInt = -1000000 from rfl]
    omega
  · exact w_day hs hN h20 ht0 hf K1 K2 N 0 _ _ rfl (by omega) rfl (Nat.zero_le _)
theorem c_dayN {X : Xt} {s i n : Int32} {G : Gt} {Q : Qt} (K : Q (some (.int (-1000000))) G) : con X m_SW_dayOf [.ref 0, .int (-1000000), .int s, .int i, .int n] G Q := by
  refine con_rn 20 [15] (by decide) rfl ?_
  refine bj_t rfl ?_
  exact K
theorem c_turnOf {X : Xt} {R P : Nat} {G : Gt} {Q : Qt} (hR : R < 8) (hP : P + R < 12) (K : Q (some (.int (G 17 (12 * R + P)))) G) : con X m_Pile_turnOf [.ref 14, .int (nI R), .int (nI P)] G Q := by
  refine con_rn 20 [] (by decide) rfl ?_
  refine c_at rfl rfl ?_
  refine vi (vp_in_nI (by omega) (by omega)) ?_
  rw [nI_clamp (by omega)]
  exact K
abbrev plP (c k m s n r p : Int32) : Prop := crn c k ∧ (1 ≤ m ∧ m ≤ 8) ∧ (0 ≤ s ∧ s ≤ 7) ∧ (1 ≤ n ∧ n ≤ 20) ∧ plc r p
/-- n items, each 0 to 20 -/
abbrev tdP (f : Nat → Int32) (n : Nat) : Prop := ∀ k, k < n → 0 ≤ f k ∧ f k ≤ 20
def tdN (f : Nat → Int32) : Nat → Nat := fun d => (f d).toNatClampNeg
theorem td_ok {f : Nat → Int32} {n : Nat} (h : tdP f n) : ∀ d, d < n → f d = nI (tdN f d) ∧ tdN f d ≤ 20 := by
  intro d hd
  obtain ⟨e, e1, -⟩ := toN (h d hd).1
  have h2 : (f d).toInt ≤ 20 := by simpa using le32.mp (h d hd).2
  unfold tdN
  exact ⟨e, by omega⟩
theorem nN20 {n : Int32} (hn : 1 ≤ n ∧ n ≤ 20) : n = nI n.toNatClampNeg ∧ n.toNatClampNeg ≤ 20 ∧ n.toInt = (n.toNatClampNeg : Int) ∧ 0 ≤ n := by
  have h0 : 0 ≤ n := Int32.le_trans (by decide) hn.1
  obtain ⟨e, e1, -⟩ := toN h0
  have h2 : n.toInt ≤ 20 := by simpa using le32.mp hn.2
  exact ⟨e, by omega, e1, h0⟩
set_option maxRecDepth 8000 in
theorem c_SW_planned {X : Xt} {L : Nat → Nat → Bool} {c k m s i n r p : Int32} {G : Gt} {Q : Qt} (hL : lyX L G) (hz : 0 ≤ s ∧ s ≤ 7 → ¬ G 4 s.toNatClampNeg = -1 → 0 ≤ G 4 s.toNatClampNeg ∧ G 4 s.toNatClampNeg ≤ 100)
    (K1 : ¬ plP c k m s n r p → Q (some (.int (-1000001))) G)
    (K2 : plP c k m s n r p → ¬ fnd (G 4 s.toNatClampNeg) i n = 0 → Q (some (.int (-1000010 - fnd (G 4 s.toNatClampNeg) i n))) (sG G 0 (upd (G 0) 7 (fnd (G 4 s.toNatClampNeg) i n))))
    (K3 : plP c k m s n r p → fnd (G 4 s.toNatClampNeg) i n = 0 → ¬ tdP (fX G s i.toNatClampNeg) n.toNatClampNeg → Q (some (.int (-1000001))) G)
    (K4 : plP c k m s n r p → fnd (G 4 s.toNatClampNeg) i n = 0 → tdP (fX G s i.toNatClampNeg) n.toNatClampNeg → ∀ G' M R P, FrS G G' → m = nI M → r = nI R → p = nI P → M ≤ 8 → R < 8 → P + R < 12 → ∀ d, d < n.toNatClampNeg → R < M ∧ due L (nrB c k) R P = true → tS (tdN (fX G s i.toNatClampNeg)) d ≤ dT L (nrB c k) R + dC L (nrB c k) R P → dT L (nrB c k) R + dC L (nrB c k) R P < tS (tdN (fX G s i.toNatClampNeg)) (d + 1) → Q (some (.int (nI d))) (sG G' 0 (upd (G' 0) 7 0)))
    (K5 : plP c k m s n r p → fnd (G 4 s.toNatClampNeg) i n = 0 → tdP (fX G s i.toNatClampNeg) n.toNatClampNeg → ∀ G' M R P, FrS G G' → m = nI M → r = nI R → p = nI P → M ≤ 8 → R < 8 → P + R < 12 → ¬ (R < M ∧ due L (nrB c k) R P = true) ∨ tS (tdN (fX G s i.toNatClampNeg)) n.toNatClampNeg ≤ dT L (nrB c k) R + dC L (nrB c k) R P → Q (some (.int (-1000000))) (sG G' 0 (upd (G' 0) 7 0))) : con X m_SW_planned [.ref 0, .int c, .int k, .int m, .int s, .int i, .int n, .int r, .int p] G Q := by
  refine con_rn 100 [] (by decide) rfl ?_
  refine c_isCrane (bib (fun h => K1 (fun z => h z.1)) (fun h1 => ?_))
  refine c_within (bib (fun h => K1 (fun z => h z.2.1)) (fun h2 => ?_))
  refine c_isNumber (bib (fun h => K1 (fun z => h z.2.2.1)) (fun h3 => ?_))
  refine c_within (bib (fun h => K1 (fun z => h z.2.2.2.1)) (fun h4 => ?_))
  refine c_isPlace (bjb (fun h5 => ?_) (fun h => K1 (fun z => h z.2.2.2.2)))
  have hp : plP c k m s n r p := ⟨h1, h2, h3, h4, h5⟩
  obtain ⟨en, t1, t2, t3⟩ := nN20 h4
  refine c_fnd h3 ?_
  refine bi (fun hf => ?_) (fun hf => ?_)
  · obtain ⟨ei, hI, -⟩ := fnd_I (N := n.toNatClampNeg) (hz h3) t2 t3 hf
    have k3 := K3 hp hf
    have k4 := K4 hp hf
    have k5 := K5 hp hf
    obtain ⟨M, hM, -, eM⟩ := mN h2
    obtain ⟨R, P, eR, eP, hR, hP⟩ := plcN h5
    refine c_areWithin h3 (by rw [ei]; exact nI_pos' (by omega)) t3 (by rw [ei, nI_toInt (by omega), t2]; omega) (fun htd => ?_) (fun htd => ?_)
    · refine bj_f (by decide) ?_
      have ho := td_ok (f := fX G s i.toNatClampNeg) htd
      subst eM
      subst eR
      subst eP
      refine c_putInTurn hM hL (fun G' hF hO => ?_)
      have e2 : G' 2 = G 2 := hF.1 2 rfl (by decide)
      have k4' := k4 htd G' M R P hF rfl rfl rfl hM hR hP
      have k5' := k5 htd G' M R P hF rfl rfl rfl hM hR hP
      refine bi (fun h => ?_) (fun h => ?_)
      · rw [nI_leI (by omega) (by omega)] at h
        refine c_fine ?_
        exact k5' (Or.inl (fun z => by omega))
      · rw [nI_leI (by omega) (by omega)] at h
        refine c_turnOf hR hP ?_
        have e17 := (hO R P (Or.inl ⟨by omega, hP⟩)).2
        have hf' : ∀ d, d < n.toNatClampNeg → fX G' s i.toNatClampNeg d = nI (tdN (fX G s i.toNatClampNeg) d) ∧ tdN (fX G s i.toNatClampNeg) d ≤ 20 := by
          intro d hd
          show G' 2 _ = _ ∧ _
          rw [e2]
          exact ho d hd
        by_cases hd : due L (nrB c k) R P = true
        · rw [e17, tvO, if_pos hd]
          have hc := fun Q => @c_dayOf X s i.toNatClampNeg n.toNatClampNeg (dT L (nrB c k) R + dC L (nrB c k) R P) (tdN (fX G s i.toNatClampNeg)) G' Q h3 hI t1 (dT_68 hR hP) hf'
          rw [← ei, ← en] at hc
          refine hc _ (fun d q1 q2 q3 => ?_) (fun q => ?_)
          · refine c_fine ?_
            exact k4' d q1 ⟨by omega, hd⟩ q2 q3
          · refine c_fine ?_
            exact k5' (Or.inr q)
        · rw [e17, tvO, if_neg hd]
          refine c_dayN ?_
          refine c_fine ?_
          exact k5' (Or.inl (fun z => hd z.2))
    · refine bj_t rfl ?_
      exact k3 htd
  · refine c_found ?_
    exact K2 hp hf
/-! planned: the model -/
abbrev plB (S I N R P : Nat) : Lt := [(0, .ref 26), (4, .int (nI S)), (5, .int (nI I)), (6, .int (nI N)), (7, .int (nI R)), (8, .int (nI P))]
abbrev plA (c k m : Int32) (S I N R P : Nat) : Lt := [(0, .ref 26), (1, .int c), (2, .int k), (3, .int m), (4, .int (nI S)), (5, .int (nI I)), (6, .int (nI N)), (7, .int (nI R)), (8, .int (nI P))]
set_option maxRecDepth 4000 in
theorem w_plC {X : Xt} {c k m : Int32} {S I N R P : Nat} {G : Gt} {Q : Qt} (hS : S < 8) (hN : I + N ≤ 100) (K1 : tdP (fM G S I) N → wp X m_Mo_planned 125 (plA c k m S I N R P) [] G Q) (K2 : ¬ tdP (fM G S I) N → Q (some (.int (-1000001))) G) : ∀ (z d : Nat) (q : Int32), q = nI d → d + z = N → tdP (fM G S I) d → wp X m_Mo_planned 82 ((10, .int q) :: plA c k m S I N R P) [] G Q
  | 0, d, q, hq, hd, hj => by
    subst hq
    have hd : d = N := by omega
    subst hd
    refine rn_wp (stops := [82, 125]) 40 ?_
    refine bi_t (Int32.le_refl _) ?_
    exact wp_pick [1, 2, 3, 4, 5, 6, 7, 8, 9] (K1 hj)
  | z + 1, d, q, hq, hd, hj => by
    subst hq
    refine rn_wp (stops := [82, 125]) 40 ?_
    refine bi_f (by simp (disch := omega) only [nI_1, nI_add, nI_clamp, nI_leI, nI_ltI, nI_eq, nI_toInt]; omega) ?_
    have e1 : 100 * nI S + nI I + nI d = nI (100 * S + (I + d)) := by rw [cp_ix, Nat.add_assoc]
    refine vi (by rw [e1]; exact vp_in_nI (by omega) (by omega)) ?_
    rw [e1, nI_clamp (by omega)]
    refine c_in 0 20 rfl rfl ?_
    refine bjb (fun h => ?_) (fun h => ?_)
    · refine w_plC hS hN K1 K2 z (d + 1) _ (nI_1 _) (by omega) (fun q hq => ?_)
      rcases Nat.lt_succ_iff_lt_or_eq.mp hq with z | z
      · exact hj q z
      · rw [z]; exact h
    · exact K2 (fun w => h (w d (by omega)))
set_option maxRecDepth 4000 in
theorem w_plI {X : Xt} {S I N R P NO t0 d : Nat} {f : Nat → Nat} {D : Prop} {G : Gt} {Q : Qt} (hS : S < 8) (hN : I + N ≤ 100) (h20 : N ≤ 20) (hR : R < 8) (hP : P < 12) (hNO : NO ≤ 68) (hf : ∀ d, d < N → fM G S I d = nI (f d) ∧ f d ≤ 20) (e14 : G 26 14 = nI NO) (hh : ∀ t, t < NO → ((G 38 t = nI R ∧ G 39 t = nI P) ↔ (D ∧ t = t0))) (hD : D → t0 < NO) (hd : d < N) (K1 : D → tS f d ≤ t0 → t0 < tS f (d + 1) → Q (some (.int (nI d))) G) (Ko : ∀ q a, q = nI (d + 1) → a = nI (min (tS f (d + 1)) NO) → (D → tS f (d + 1) ≤ t0) → wp X m_Mo_planned 143 ((11, .int q) :: (10, .int a) :: plB S I N R P) [] G Q) : ∀ (z k : Nat) (q a : Int32), q = nI k → k + z = f d → a = nI (min (tS f d + k) NO) → (D → tS f d + k ≤ t0) → wp X m_Mo_planned 153 ((12, .int q) :: (11, .int (nI d)) :: (10, .int a) :: plB S I N R P) [] G Q
  | 0, k, q, a, hq, hk, ha, ht => by
    subst hq
    have hk : k = f d := by omega
    subst hk
    have e1 : 100 * nI S + nI I + nI d = nI (100 * S + (I + d)) := by rw [cp_ix, Nat.add_assoc]
    have e2 : G 29 (100 * S + (I + d)) = nI (f d) := (hf d hd).1
    refine rn_wp (stops := [143, 153]) 60 ?_
    refine vi (by rw [e1]; exact vp_in_nI (by omega) (by omega)) ?_
    rw [e1, nI_clamp (by omega), e2]
    refine bi_t (Int32.le_refl _) ?_
    exact wp_pick [0, 2, 3, 4, 5, 6, 7, 8] (Ko _ a (nI_1 d) ha ht)
  | z + 1, k, q, a, hq, hk, ha, ht => by
    subst hq
    have e1 : 100 * nI S + nI I + nI d = nI (100 * S + (I + d)) := by rw [cp_ix, Nat.add_assoc]
    have e2 : G 29 (100 * S + (I + d)) = nI (f d) := (hf d hd).1
    have h20d := (hf d hd).2
    have eS : tS f (d + 1) = tS f d + f d := rfl
    refine rn_wp (stops := [143, 153]) 60 ?_
    refine vi (by rw [e1]; exact vp_in_nI (by omega) (by omega)) ?_
    rw [e1, nI_clamp (by omega), e2]
    refine bi_f (by simp (disch := omega) only [nI_1, nI_add, nI_clamp, nI_leI, nI_ltI, nI_eq, nI_toInt]; omega) ?_
    subst ha
    refine bi (fun h => ?_) (fun h => ?_)
    · rw [e14, nI_leI (by omega) (by omega)] at h
      refine wp_pick [0, 2, 3, 4, 5, 6, 7, 8] (Ko _ _ (nI_1 d) (by rw [show min (tS f (d + 1)) NO = min (tS f d + k) NO by omega]) (fun z => ?_))
      have := hD z
      have := ht z
      omega
    · rw [e14, nI_leI (by omega) (by omega)] at h
      have ea : min (tS f d + k) NO = tS f d + k := by omega
      rw [ea] at h
      rw [ea]
      have hlt : tS f d + k < NO := by omega
      have nx : ¬ (G 38 (tS f d + k) = nI R ∧ G 39 (tS f d + k) = nI P) → wp X m_Mo_planned 153 ((12, .int (nI k + 1)) :: (10, .int (nI (tS f d + k) + 1)) :: (11, .int (nI d)) :: plB S I N R P) [] G Q := by
        intro hno
        refine wp_pick [0, 2, 1, 3, 4, 5, 6, 7, 8] (w_plI hS hN h20 hR hP hNO hf e14 hh hD hd K1 Ko z (k + 1) _ _ (nI_1 _) (by omega) ?_ (fun w => ?_))
        · rw [nI_1, show min (tS f d + (k + 1)) NO = tS f d + k + 1 by omega]
        · have h1 := ht w
          have h2 : ¬ tS f d + k = t0 := fun y => hno ((hh _ hlt).mpr ⟨w, y⟩)
          omega
      refine vi (vp_in_nI (by omega) (by omega)) ?_
      rw [nI_clamp (by omega)]
      refine bj (fun h1 => ?_) (fun h1 => ?_)
      · exact nx (fun y => h1 y.1)
      · refine vi (vp_in_nI (by omega) (by omega)) ?_
        rw [nI_clamp (by omega)]
        refine bj (fun h2 => ?_) (fun h2 => ?_)
        · exact nx (fun y => h2 y.2)
        · obtain ⟨y1, y2⟩ := (hh _ hlt).mp ⟨h1, h2⟩
          exact K1 y1 (by omega) (by omega)
theorem w_plO {X : Xt} {S I N R P NO t0 : Nat} {f : Nat → Nat} {D : Prop} {G : Gt} {Q : Qt} (hS : S < 8) (hN : I + N ≤ 100) (h20 : N ≤ 20) (hR : R < 8) (hP : P < 12) (hNO : NO ≤ 68) (hf : ∀ d, d < N → fM G S I d = nI (f d) ∧ f d ≤ 20) (e14 : G 26 14 = nI NO) (hh : ∀ t, t < NO → ((G 38 t = nI R ∧ G 39 t = nI P) ↔ (D ∧ t = t0))) (hD : D → t0 < NO) (K1 : ∀ d, d < N → D → tS f d ≤ t0 → t0 < tS f (d + 1) → Q (some (.int (nI d))) G) (K2 : ¬ D ∨ tS f N ≤ t0 → Q (some (.int (-1000000))) G) : ∀ (z d : Nat) (q a : Int32), q = nI d → d + z = N → a = nI (min (tS f d) NO) → (D → tS f d ≤ t0) → wp X m_Mo_planned 143 ((11, .int q) :: (10, .int a) :: plB S I N R P) [] G Q
  | 0, d, q, a, hq, hd, ha, ht => by
    subst hq
    have hd : d = N := by omega
    subst hd
    refine rn_wp (stops := [143, 153]) 40 ?_
    refine bi_t (Int32.le_refl _) ?_
    refine K2 ?_
    by_cases w : D
    · exact Or.inr (ht w)
    · exact Or.inl w
  | z + 1, d, q, a, hq, hd, ha, ht => by
    subst hq
    refine rn_wp (stops := [143, 153]) 40 ?_
    refine bi_f (by simp (disch := omega) only [nI_1, nI_add, nI_clamp, nI_leI, nI_ltI, nI_eq, nI_toInt]; omega) ?_
    exact w_plI hS hN h20 hR hP hNO hf e14 hh hD (by omega) (K1 d (by omega)) (fun q' a' hq' ha' ht' => w_plO hS hN h20 hR hP hNO hf e14 hh hD K1 K2 z (d + 1) q' a' hq' (by omega) ha' ht') (f d) 0 _ _ rfl (by omega) ha ht
end
section
/-! planned: the model's whole, the pair -/
theorem ord_hit {L nr : Nat → Nat → Bool} {G : Gt} {M R P : Nat} (hM : M ≤ 8) (hR : R < 8) (hP : P + R < 12) (h : okM L nr G M 0) : ∀ t, t < dT L nr M → ((G 38 t = nI R ∧ G 39 t = nI P) ↔ ((R < M ∧ due L nr R P = true) ∧ t = dT L nr R + dC L nr R P)) := by
  intro t ht
  constructor
  · rintro ⟨h1, h2⟩
    obtain ⟨r', p', a, b, c⟩ := ord_sj L nr M 0 t ht
    have a2 : r' < M ∧ p' + r' < 12 := by
      rcases a with a | ⟨-, a⟩
      · exact a
      · omega
    obtain ⟨q1, q2⟩ := h.2.1 r' p' a b
    rw [← c, h1, nI_eq (by omega) (by omega)] at q1
    rw [← c, h2, nI_eq (by omega) (by omega)] at q2
    subst q1
    subst q2
    exact ⟨⟨a2.1, b⟩, c⟩
  · rintro ⟨⟨h1, h2⟩, h3⟩
    rw [h3]
    exact h.2.1 R P (Or.inl ⟨h1, hP⟩) h2
set_option maxRecDepth 8000 in
theorem c_Mo_planned {X : Xt} {L : Nat → Nat → Bool} {c k m s i n r p : Int32} {G : Gt} {Q : Qt} (h0 : G 26 0 = 0) (hL : lyM L G) (hz : 0 ≤ s ∧ s ≤ 7 → 0 ≤ G 27 s.toNatClampNeg → 0 ≤ G 28 s.toNatClampNeg ∧ G 28 s.toNatClampNeg ≤ 100)
    (K1 : ¬ plP c k m s n r p → Q (some (.int (-1000001))) G)
    (K2 : plP c k m s n r p → ¬ 0 ≤ G 27 s.toNatClampNeg → Q (some (.int (-1000011))) (sG G 26 (upd (G 26) 1 1)))
    (K3 : plP c k m s n r p → 0 ≤ G 27 s.toNatClampNeg → ¬ fnd (G 28 s.toNatClampNeg) i n = 0 → Q (some (.int (-1000012))) (sG G 26 (upd (G 26) 1 2)))
    (K4 : plP c k m s n r p → 0 ≤ G 27 s.toNatClampNeg → fnd (G 28 s.toNatClampNeg) i n = 0 → ¬ tdP (fM G s.toNatClampNeg i.toNatClampNeg) n.toNatClampNeg → Q (some (.int (-1000001))) G)
    (K5 : plP c k m s n r p → 0 ≤ G 27 s.toNatClampNeg → fnd (G 28 s.toNatClampNeg) i n = 0 → tdP (fM G s.toNatClampNeg i.toNatClampNeg) n.toNatClampNeg → ∀ G' M R P, FrS (sG G 26 (upd (G 26) 1 0)) G' → m = nI M → r = nI R → p = nI P → M ≤ 8 → R < 8 → P + R < 12 → ∀ d, d < n.toNatClampNeg → R < M ∧ due L (nrB c k) R P = true → tS (tdN (fM G s.toNatClampNeg i.toNatClampNeg)) d ≤ dT L (nrB c k) R + dC L (nrB c k) R P → dT L (nrB c k) R + dC L (nrB c k) R P < tS (tdN (fM G s.toNatClampNeg i.toNatClampNeg)) (d + 1) → Q (some (.int (nI d))) G')
    (K6 : plP c k m s n r p → 0 ≤ G 27 s.toNatClampNeg → fnd (G 28 s.toNatClampNeg) i n = 0 → tdP (fM G s.toNatClampNeg i.toNatClampNeg) n.toNatClampNeg → ∀ G' M R P, FrS (sG G 26 (upd (G 26) 1 0)) G' → m = nI M → r = nI R → p = nI P → M ≤ 8 → R < 8 → P + R < 12 → ¬ (R < M ∧ due L (nrB c k) R P = true) ∨ tS (tdN (fM G s.toNatClampNeg i.toNatClampNeg)) n.toNatClampNeg ≤ dT L (nrB c k) R + dC L (nrB c k) R P → Q (some (.int (-1000000))) G') : con X m_Mo_planned [.ref 26, .int c, .int k, .int m, .int s, .int i, .int n, .int r, .int p] G Q := by
  refine con_rm 100 [82] (by decide) rfl (by decide +kernel) h0 ?_
  refine c_MisCrane (bib (fun h => K1 (fun z => h z.1)) (fun h1 => ?_))
  refine c_in 1 8 rfl rfl (bib (fun h => K1 (fun z => h z.2.1)) (fun h2 => ?_))
  refine c_isSheet (bib (fun h => K1 (fun z => h z.2.2.1)) (fun h3 => ?_))
  refine c_in 1 20 rfl rfl (bib (fun h => K1 (fun z => h z.2.2.2.1)) (fun h4 => ?_))
  refine c_MisPlace2 (bjb (fun h5 => ?_) (fun h => K1 (fun z => h z.2.2.2.2)))
  have hp : plP c k m s n r p := ⟨h1, h2, h3, h4, h5⟩
  obtain ⟨en, t1, t2, t3⟩ := nN20 h4
  refine c_lookAt h3 t3 (hz h3) (fun g => ?_) (fun g g2 => ?_) (fun g g2 => ?_)
  · refine bi_f (by decide) ?_
    exact K2 hp g
  · refine bi_f (by decide) ?_
    exact K3 hp g g2
  · refine bi_t (by decide) ?_
    obtain ⟨ei, hI, -⟩ := fnd_I (N := n.toNatClampNeg) (fun _ => hz h3 g) t2 t3 g2
    obtain ⟨es, -, -⟩ := toN h3.1
    have hS := (sN h3).1
    have k4 := K4 hp g g2
    have k5 := K5 hp g g2
    have k6 := K6 hp g g2
    obtain ⟨M, hM, -, eM⟩ := mN h2
    obtain ⟨R, P, eR, eP, hR, hP⟩ := plcN h5
    clear K1 K2 K3 K4 K5 K6 g g2 t2 t3 hz h2 h3 h4 h5 hp
    generalize s.toNatClampNeg = S at *
    generalize i.toNatClampNeg = I at *
    generalize n.toNatClampNeg = N at *
    subst es
    subst ei
    subst en
    subst eM
    subst eR
    subst eP
    refine wp_pick [0, 2, 3, 4, 5, 6, 7, 8, 9, 10] ?_
    refine w_plC hS hI (fun htd => ?_) k4 N 0 _ rfl (by omega) (fun q hq => absurd hq (by omega))
    refine rn_wp (stops := [143]) 20 ?_
    refine c_findOrder (G := sG G 26 (upd (G 26) 1 0)) hM hL (fun G' hF hO => ?_)
    have e29 : G' 29 = G 29 := hF.1 29 rfl (by decide)
    have hN68 : dT L (nrB c k) M ≤ 68 := Nat.le_trans (dT_le L (nrB c k) M) (bT_8 M (by omega))
    have ho := td_ok (f := fM G S I) htd
    refine wp_pick [0, 1, 2, 6, 7, 8, 9, 10] ?_
    refine w_plO (NO := dT L (nrB c k) M) (t0 := dT L (nrB c k) R + dC L (nrB c k) R P) (f := tdN (fM G S I)) (D := R < M ∧ due L (nrB c k) R P = true) hS hI t1 hR (by omega) hN68 (fun d hd => ?_) hO.2.2 (ord_hit hM hR hP hO) (fun z => ?_) (fun d hd => k5 htd G' M R P hF rfl rfl rfl hM hR hP d hd) (k6 htd G' M R P hF rfl rfl rfl hM hR hP) N 0 _ _ rfl (by omega) ?_ (fun _ => Nat.zero_le _)
    · show G' 29 _ = _ ∧ _
      rw [e29]
      exact ho d hd
    · exact ord_lt (p := 0) (Or.inl ⟨z.1, hP⟩) z.2
    · rw [show min (tS (tdN (fM G S I)) 0) (dT L (nrB c k) M) = 0 from Nat.zero_min _]
      rfl
theorem tS_congr {f g : Nat → Nat} : ∀ (n : Nat), (∀ d, d < n → f d = g d) → tS f n = tS g n
  | 0, _ => rfl
  | n + 1, h => by rw [tS, tS, tS_congr n (fun d hd => h d (by omega)), h n (by omega)]
theorem tS_uniq {f : Nat → Nat} {d e t : Nat} (h1 : tS f d ≤ t) (h2 : t < tS f (d + 1)) (h3 : tS f e ≤ t) (h4 : t < tS f (e + 1)) : d = e := by
  have mono : ∀ a b, a ≤ b → tS f a ≤ tS f b := by
    intro a b hab
    induction b with
    | zero => rw [show a = 0 by omega]; exact Nat.le_refl _
    | succ b ih =>
      by_cases q : a = b + 1
      · rw [q]; exact Nat.le_refl _
      · have := ih (by omega)
        have e : tS f (b + 1) = tS f b + f b := rfl
        omega
  rcases Nat.lt_trichotomy d e with z | z | z
  · have := mono (d + 1) e z
    omega
  · exact z
  · have := mono (e + 1) d z
    omega
theorem tS_last {f : Nat → Nat} {d n t : Nat} (hd : d < n) (h : t < tS f (d + 1)) : ¬ tS f n ≤ t := by
  have mono : ∀ b, d + 1 ≤ b → tS f (d + 1) ≤ tS f b := by
    intro b hab
    induction b with
    | zero => omega
    | succ b ih =>
      by_cases q : d + 1 = b + 1
      · rw [q]; exact Nat.le_refl _
      · have := ih (by omega)
        have e : tS f (b + 1) = tS f b + f b := rfl
        omega
  have := mono n hd
  omega
theorem Inv_s0 {G G' : Gt} (hI : Inv G) (hF : FrS G G') (v : Int32) : Inv (sG (sG G' 0 (upd (G' 0) 7 v)) 26 (upd (G' 26) 1 v)) := Inv_st (Inv_fr hF hI) v
theorem p_planned {X : Xt} {G : Gt} (hI : Inv G) {c k m s i n r p : Int32} : pair X m_SW_planned m_Mo_planned [.int c, .int k, .int m, .int s, .int i, .int n, .int r, .int p] G := by
  obtain ⟨hW, hT, hS, hP, hs, h0⟩ := id hI
  have hzx : 0 ≤ s ∧ s ≤ 7 → ¬ G 4 s.toNatClampNeg = -1 → 0 ≤ G 4 s.toNatClampNeg ∧ G 4 s.toNatClampNeg ≤ 100 := fun h h2 => hzX hS h h2
  have hzm : 0 ≤ s ∧ s ≤ 7 → 0 ≤ G 27 s.toNatClampNeg → 0 ≤ G 28 s.toNatClampNeg ∧ G 28 s.toNatClampNeg ≤ 100 := fun h h2 => hzM hS h h2
  have hq : plP c k m s n r p → fnd (G 4 s.toNatClampNeg) i n = 0 → 0 ≤ G 27 s.toNatClampNeg ∧ G 28 s.toNatClampNeg = G 4 s.toNatClampNeg ∧ ∀ k, k < n.toNatClampNeg → fX G s i.toNatClampNeg k = fM G s.toNatClampNeg i.toNatClampNeg k := by
    intro h h2
    obtain ⟨en, t1, t2, t3⟩ := nN20 h.2.2.2.1
    rcases look_both hS h.2.2.1 i n with ⟨g1, g2⟩ | ⟨g1, g2, g3⟩ | ⟨g1, g2, g3, g4, g5⟩
    · rw [g1] at h2; exact absurd h2 (by decide)
    · rw [g1] at h2; exact absurd h2 (by decide)
    · have h5 := (fnd_0 g4 t3).mp h2
      obtain ⟨-, ei2, -⟩ := toN h5.1
      exact ⟨g2, g3, fun k hk => g5 _ (by have := h5.2; omega)⟩
  have tdc : ∀ {f f' : Nat → Int32} {N : Nat}, (∀ k, k < N → f k = f' k) → tdP f N → tdP f' N := by
    intro f f' N h h2 k hk
    rw [← h k hk]
    exact h2 k hk
  refine c_SW_planned (LyB_X hP) hzx (fun h => pq ?_) (fun h h2 => pq ?_) (fun h h2 h3 => pq ?_) (fun h h2 h3 G' M R P hF eM eR eP hM hR hPR d hd hD q1 q2 => pq ?_) (fun h h2 h3 G' M R P hF eM eR eP hM hR hPR hno => pq ?_)
  · exact c_Mo_planned h0 (LyB_M hP) hzm (fun _ => ⟨rfl, hI⟩) (fun z => absurd z h) (fun z => absurd z h) (fun z => absurd z h) (fun z => absurd z h) (fun z => absurd z h)
  · rcases look_both hS h.2.2.1 i n with ⟨g1, g2⟩ | ⟨g1, g2, g3⟩ | ⟨g1, -⟩
    · rw [g1]
      exact c_Mo_planned (L := LyB G) h0 (LyB_M hP) hzm (fun z => absurd h z) (fun _ _ => ⟨rfl, ⟨hW, hT, hS, hP, rfl, h0⟩⟩) (fun _ z => absurd z g2) (fun _ z => absurd z g2) (fun _ z => absurd z g2) (fun _ z => absurd z g2)
    · rw [g1]
      have h2' : ¬ fnd (G 28 s.toNatClampNeg) i n = 0 := by rw [g3]; exact h2
      exact c_Mo_planned (L := LyB G) h0 (LyB_M hP) hzm (fun z => absurd h z) (fun _ z => absurd g2 z) (fun _ _ _ => ⟨rfl, ⟨hW, hT, hS, hP, rfl, h0⟩⟩) (fun _ _ z => absurd z h2') (fun _ _ z => absurd z h2') (fun _ _ z => absurd z h2')
    · exact absurd g1 h2
  · obtain ⟨q1, q2, q3⟩ := hq h h2
    have h2' : fnd (G 28 s.toNatClampNeg) i n = 0 := by rw [q2]; exact h2
    exact c_Mo_planned h0 (LyB_M hP) hzm (fun z => absurd h z) (fun _ z => absurd q1 z) (fun _ _ z => absurd h2' z) (fun _ _ _ _ => ⟨rfl, hI⟩) (fun _ _ _ z => absurd (tdc (fun k hk => (q3 k hk).symm) z) h3) (fun _ _ _ z => absurd (tdc (fun k hk => (q3 k hk).symm) z) h3)
  all_goals
    obtain ⟨y1, y2, y3⟩ := hq h h2
    have f27 : G' 27 = G 27 := hF.1 27 rfl (by decide)
    have f28 : G' 28 = G 28 := hF.1 28 rfl (by decide)
    have f29 : G' 29 = G 29 := hF.1 29 rfl (by decide)
    have h0' : G' 26 0 = 0 := by rw [hF.2 0 (by decide)]; exact h0
    have hI' := Inv_fr hF hI
    have hLm : lyM (LyB G) G' := lyM_fr (LyB_M hP) hF
    have hzm' : 0 ≤ s ∧ s ≤ 7 → 0 ≤ G' 27 s.toNatClampNeg → 0 ≤ G' 28 s.toNatClampNeg ∧ G' 28 s.toNatClampNeg ≤ 100 := by rw [f27, f28]; exact hzm
    have y1' : 0 ≤ G' 27 s.toNatClampNeg := by rw [f27]; exact y1
    have h2' : fnd (G' 28 s.toNatClampNeg) i n = 0 := by rw [f28, y2]; exact h2
    have eM' : fM G' s.toNatClampNeg i.toNatClampNeg = fM G s.toNatClampNeg i.toNatClampNeg := by unfold fM; rw [f29]
    have h3' : tdP (fM G' s.toNatClampNeg i.toNatClampNeg) n.toNatClampNeg := by rw [eM']; exact tdc y3 h3
    have eS : ∀ d, d ≤ n.toNatClampNeg → tS (tdN (fM G' s.toNatClampNeg i.toNatClampNeg)) d = tS (tdN (fX G s i.toNatClampNeg)) d := by
      intro d hd
      rw [eM']
      refine tS_congr d (fun e he => ?_)
      unfold tdN
      rw [y3 e (by omega)]
    have fin : ∀ {G'' : Gt} {v : Int32}, FrS (sG (sG G' 0 (upd (G' 0) 7 0)) 26 (upd ((sG G' 0 (upd (G' 0) 7 0)) 26) 1 0)) G'' → Inv G'' := fun hF' => Inv_fr hF' (Inv_st hI' 0)
    have nn : ∀ {M' R' P' : Nat}, M' ≤ 8 → R' < 8 → P' + R' < 12 → m = nI M' → r = nI R' → p = nI P' → M' = M ∧ R' = R ∧ P' = P := by
      intro M' R' P' a b c d e f
      rw [eM, nI_eq (by omega) (by omega)] at d
      rw [eR, nI_eq (by omega) (by omega)] at e
      rw [eP, nI_eq (by omega) (by omega)] at f
      exact ⟨d.symm, e.symm, f.symm⟩
    refine c_Mo_planned (L := LyB G) (G := sG G' 0 (upd (G' 0) 7 0)) h0' hLm hzm' (fun z => absurd h z) (fun _ z => absurd y1' z) (fun _ _ z => absurd h2' z) (fun _ _ _ z => absurd h3' z) (fun _ _ _ _ G'' M' R' P' hF' a1 a2 a3 a4 a5 a6 d' b1 b2 b3 b4 => ?_) (fun _ _ _ _ G'' M' R' P' hF' a1 a2 a3 a4 a5 a6 b1 => ?_)
  · obtain ⟨rfl, rfl, rfl⟩ := nn a4 a5 a6 a1 a2 a3
    have b3 : tS (tdN (fM G' s.toNatClampNeg i.toNatClampNeg)) d' ≤ _ := b3
    have b4 : _ < tS (tdN (fM G' s.toNatClampNeg i.toNatClampNeg)) (d' + 1) := b4
    rw [eS d' (by omega)] at b3
    rw [eS (d' + 1) (by omega)] at b4
    rw [tS_uniq q1 q2 b3 b4]
    exact ⟨rfl, fin (v := 0) hF'⟩
  · obtain ⟨rfl, rfl, rfl⟩ := nn a4 a5 a6 a1 a2 a3
    exfalso
    rcases b1 with b1 | b1
    · exact b1 hD
    · have b1 : tS (tdN (fM G' s.toNatClampNeg i.toNatClampNeg)) n.toNatClampNeg ≤ _ := b1
      rw [eS _ (Nat.le_refl _)] at b1
      exact tS_last hd q2 b1
  · obtain ⟨rfl, rfl, rfl⟩ := nn a4 a5 a6 a1 a2 a3
    exfalso
    rcases hno with b | b
    · exact b b2
    · have b4 : _ < tS (tdN (fM G' s.toNatClampNeg i.toNatClampNeg)) (d' + 1) := b4
      rw [eS (d' + 1) (by omega)] at b4
      exact tS_last b1 b4 b
  · exact ⟨rfl, fin (v := 0) hF'⟩
end
section
/-! patches: a pure picture -/
def adj (w h a b : Nat) : Prop := (0 < a % w ∧ b + 1 = a) ∨ (a % w + 1 < w ∧ b = a + 1) ∨ (w ≤ a ∧ b + w = a) ∨ (a + w < w * h ∧ b = a + w)
theorem mod_s {w : Nat} (hw : 0 < w) (a : Nat) : (a + 1) % w = if a % w + 1 = w then 0 else a % w + 1 := by
  have h1 : (a + 1) % w = (a % w + 1) % w := by rw [Nat.mod_add_mod]
  have h2 := Nat.mod_lt a hw
  rw [h1]
  split
  · rename_i h; rw [h, Nat.mod_self]
  · exact Nat.mod_eq_of_lt (by omega)
theorem adj_sym {w h a b : Nat} (hw : 0 < w) (ha : a < w * h) (hab : adj w h a b) : adj w h b a := by
  rcases hab with ⟨h1, h2⟩ | ⟨h1, h2⟩ | ⟨h1, h2⟩ | ⟨h1, h2⟩
  · subst h2
    rw [mod_s hw] at h1
    have := Nat.mod_lt b hw
    refine Or.inr (Or.inl ⟨?_, rfl⟩)
    split at h1
    · omega
    · omega
  · subst h2
    refine Or.inl ⟨?_, rfl⟩
    rw [mod_s hw, if_neg (by omega)]
    omega
  · subst h2
    exact Or.inr (Or.inr (Or.inr ⟨ha, rfl⟩))
  · subst h2
    exact Or.inr (Or.inr (Or.inl ⟨by omega, rfl⟩))
theorem adj_lt {w h a b : Nat} (hw : 0 < w) (ha : a < w * h) (hab : adj w h a b) : b < w * h := by
  rcases hab with ⟨h1, h2⟩ | ⟨h1, h2⟩ | ⟨h1, h2⟩ | ⟨h1, h2⟩
  · omega
  · subst h2
    refine Nat.lt_of_le_of_ne ha (fun e => ?_)
    have h3 := mod_s hw a
    have e' : a + 1 = w * h := e
    rw [e', Nat.mul_mod_right, if_neg (by omega)] at h3
    omega
  · omega
  · omega
/-- what can be come to from a, by places of U -/
def rch (w h : Nat) (U : Nat → Prop) (a b : Nat) : Prop := ∀ D : Nat → Prop, D a → (∀ x y, D x → U y → adj w h x y → D y) → D b
theorem rch_rf (w h : Nat) (U : Nat → Prop) (a : Nat) : rch w h U a a := fun _ h _ => h
theorem rch_st {w h : Nat} {U : Nat → Prop} {a x y : Nat} (h1 : rch w h U a x) (h2 : U y) (h3 : adj w h x y) : rch w h U a y := fun D d0 d1 => d1 x y (h1 D d0 d1) h2 h3
theorem rch_U {w h : Nat} {U : Nat → Prop} {a b : Nat} (h1 : U a) (h2 : rch w h U a b) : U b := h2 U h1 (fun _ _ _ q _ => q)
/-- how many of n -/
noncomputable def cP (U : Nat → Prop) : Nat → Nat
  | 0 => 0
  | n + 1 => cP U n + @ite Nat (U n) (Classical.propDecidable _) 1 0
theorem cP_s1 {U : Nat → Prop} {n : Nat} (h : U n) : cP U (n + 1) = cP U n + 1 := by rw [cP, if_pos h]
theorem cP_s0 {U : Nat → Prop} {n : Nat} (h : ¬ U n) : cP U (n + 1) = cP U n := by rw [cP, if_neg h]; rfl
theorem cP_congr {U V : Nat → Prop} : ∀ {n : Nat}, (∀ x, x < n → (U x ↔ V x)) → cP U n = cP V n
  | 0, _ => rfl
  | n + 1, h => by
    have ih := cP_congr (n := n) (fun x hx => h x (by omega))
    by_cases q : U n
    · rw [cP_s1 q, cP_s1 ((h n (by omega)).mp q), ih]
    · rw [cP_s0 q, cP_s0 (fun z => q ((h n (by omega)).mpr z)), ih]
theorem cP_del {U V : Nat → Prop} {k : Nat} (hk : U k) (hV : ¬ V k) : ∀ {n : Nat}, k < n → (∀ x, x < n → x ≠ k → (U x ↔ V x)) → cP U n = cP V n + 1
  | 0, h, _ => absurd h (by omega)
  | n + 1, h, hx => by
    by_cases e : n = k
    · subst e
      rw [cP_s1 hk, cP_s0 hV, cP_congr (fun x h => hx x (by omega) (by omega))]
    · have ih := cP_del hk hV (n := n) (by omega) (fun x h => hx x (by omega))
      by_cases q : U n
      · rw [cP_s1 q, cP_s1 ((hx n (by omega) e).mp q), ih]
      · rw [cP_s0 q, cP_s0 (fun z => q ((hx n (by omega) e).mpr z)), ih]
theorem cP_le (U : Nat → Prop) : ∀ n, cP U n ≤ n
  | 0 => Nat.le_refl _
  | n + 1 => by
    have := cP_le U n
    by_cases q : U n
    · rw [cP_s1 q]; omega
    · rw [cP_s0 q]; omega
theorem cP_pos {U : Nat → Prop} {k : Nat} (hk : U k) : ∀ {n : Nat}, k < n → 0 < cP U n
  | 0, h => absurd h (by omega)
  | n + 1, h => by
    by_cases e : n = k
    · rw [e, cP_s1 hk]; omega
    · have ih := cP_pos hk (n := n) (by omega)
      by_cases q : U n
      · rw [cP_s1 q]; omega
      · rw [cP_s0 q]; exact ih
/-- what is left behind k places -/
def Us (w h : Nat) (U : Nat → Prop) : Nat → Nat → Prop
  | 0 => U
  | k + 1 => fun x => Us w h U k x ∧ ¬ (Us w h U k k ∧ rch w h (Us w h U k) k x)
noncomputable def szS (w h : Nat) (U : Nat → Prop) (k : Nat) : Nat := cP (Us w h U k) (w * h) - cP (Us w h U (k + 1)) (w * h)
noncomputable def pcs (w h : Nat) (U : Nat → Prop) : Nat → Nat × Nat
  | 0 => (0, 0)
  | k + 1 => @ite (Nat × Nat) (Us w h U k k) (Classical.propDecidable _) ((pcs w h U k).1 + 1, if (pcs w h U k).2 < szS w h U k then szS w h U k else (pcs w h U k).2) (pcs w h U k)
theorem pcs_1 {w h : Nat} {U : Nat → Prop} {k : Nat} (q : Us w h U k k) : pcs w h U (k + 1) = ((pcs w h U k).1 + 1, if (pcs w h U k).2 < szS w h U k then szS w h U k else (pcs w h U k).2) := by rw [pcs, if_pos q]
theorem pcs_0 {w h : Nat} {U : Nat → Prop} {k : Nat} (q : ¬ Us w h U k k) : pcs w h U (k + 1) = pcs w h U k := by rw [pcs, if_neg q]
theorem Us_0 {w h : Nat} {U : Nat → Prop} {k : Nat} (q : ¬ Us w h U k k) (x : Nat) : Us w h U (k + 1) x ↔ Us w h U k x := ⟨fun z => z.1, fun z => ⟨z, fun y => q y.1⟩⟩
theorem Us_1 {w h : Nat} {U : Nat → Prop} {k : Nat} (q : Us w h U k k) (x : Nat) : Us w h U (k + 1) x ↔ Us w h U k x ∧ ¬ rch w h (Us w h U k) k x := ⟨fun z => ⟨z.1, fun y => z.2 ⟨q, y⟩⟩, fun z => ⟨z.1, fun y => z.2 y.2⟩⟩
theorem pcs_rng {w h : Nat} {U : Nat → Prop} (hn : w * h ≤ 100) : ∀ k, (pcs w h U k).1 ≤ k ∧ (pcs w h U k).2 ≤ 100
  | 0 => ⟨Nat.le_refl _, Nat.zero_le _⟩
  | k + 1 => by
    have ih := pcs_rng (U := U) hn k
    have h2 := cP_le (Us w h U k) (w * h)
    by_cases q : Us w h U k k
    · rw [pcs_1 q]
      refine ⟨by have := ih.1; omega, ?_⟩
      show (if _ then _ else _) ≤ 100
      split
      · exact Nat.le_trans (Nat.sub_le _ _) (by omega)
      · exact ih.2
    · rw [pcs_0 q]
      exact ⟨by have := ih.1; omega, ih.2⟩
/-! the class: join, spread -/
def inL (G : Gt) (f x : Nat) : Prop := ∃ i, i < f ∧ G 23 i = nI x
/-- joined so far: f of them, from a0 by U -/
def SI (w h : Nat) (U : Nat → Prop) (a0 : Nat) (G0 G : Gt) (f : Nat) : Prop := (G 21 2 = nI f ∧ FrS G0 G ∧ ∀ j, j ≠ 2 → G 21 j = G0 21 j) ∧ (∀ i, i < f → ∃ x, x < w * h ∧ G 23 i = nI x ∧ U x ∧ rch w h U a0 x) ∧ (∀ x, x < w * h → (¬ G 22 x = 0 ↔ U x ∧ ¬ inL G f x)) ∧ f + cP (fun x => ¬ G 22 x = 0) (w * h) = cP U (w * h)
theorem SI_f {w h : Nat} {U : Nat → Prop} {a0 : Nat} {G0 G : Gt} {f : Nat} (hn : w * h ≤ 100) (hS : SI w h U a0 G0 G f) : f ≤ 100 := by
  have := cP_le U (w * h)
  have := hS.2.2.2
  omega
theorem SI_put {w h : Nat} {U : Nat → Prop} {a0 y : Nat} {G0 G : Gt} {f : Nat} (hn : w * h ≤ 100) (hy : y < w * h) (hr : U y → rch w h U a0 y) (hS : SI w h U a0 G0 G f) (hq : ¬ G 22 y = 0) : f < 100 ∧ SI w h U a0 G0 (sG (sG (sG G 22 (upd (G 22) y 0)) 23 (upd (G 23) f (nI y))) 21 (upd (G 21) 2 (nI (f + 1)))) (f + 1) := by
  obtain ⟨⟨s1, s2, s3⟩, s4, s5, s6⟩ := hS
  have hy2 := (s5 y hy).mp hq
  have hp := cP_pos (U := fun x => ¬ G 22 x = 0) hq hy
  have hle := cP_le U (w * h)
  have hin : ∀ x, x < w * h → (inL (sG (sG (sG G 22 (upd (G 22) y 0)) 23 (upd (G 23) f (nI y))) 21 (upd (G 21) 2 (nI (f + 1)))) (f + 1) x ↔ inL G f x ∨ x = y) := by
    intro x hx
    constructor
    · rintro ⟨i, h1, h2⟩
      have h2 : upd (G 23) f (nI y) i = nI x := h2
      by_cases e : i = f
      · rw [e, pk_us, nI_eq (by omega) (by omega)] at h2
        exact Or.inr h2.symm
      · rw [pk_un e] at h2
        exact Or.inl ⟨i, by omega, h2⟩
    · rintro (⟨i, h1, h2⟩ | e)
      · refine ⟨i, by omega, ?_⟩
        show upd (G 23) f (nI y) i = nI x
        rw [pk_un (by omega)]
        exact h2
      · refine ⟨f, by omega, ?_⟩
        show upd (G 23) f (nI y) f = nI x
        rw [pk_us, e]
  refine ⟨by omega, ⟨rfl, ((s2.s rfl).s rfl).s rfl, fun j hj => ?_⟩, fun i hi => ?_, fun x hx => ?_, ?_⟩
  · show upd (G 21) 2 _ j = _
    rw [pk_un hj]
    exact s3 j hj
  · show ∃ x, x < w * h ∧ upd (G 23) f (nI y) i = nI x ∧ _
    by_cases e : i = f
    · subst e
      exact ⟨y, hy, pk_us, hy2.1, hr hy2.1⟩
    · rw [pk_un e]
      exact s4 i (by omega)
  · show ¬ upd (G 22) y 0 x = 0 ↔ _
    rw [hin x hx]
    by_cases e : x = y
    · subst e
      rw [pk_us]
      exact ⟨fun z => absurd rfl z, fun z => absurd (Or.inr rfl) z.2⟩
    · rw [pk_un e, s5 x hx]
      exact ⟨fun z => ⟨z.1, fun q => q.elim z.2 e⟩, fun z => ⟨z.1, fun q => z.2 (Or.inl q)⟩⟩
  · have h1 : cP (fun x => ¬ G 22 x = 0) (w * h) = cP (fun x => ¬ upd (G 22) y 0 x = 0) (w * h) + 1 := by
      refine cP_del (k := y) hq (fun z => z (pk_us)) hy (fun x hx e => ?_)
      show _ ↔ ¬ upd (G 22) y 0 x = 0
      rw [pk_un e]
    show f + 1 + cP (fun x => ¬ upd (G 22) y 0 x = 0) (w * h) = _
    omega
theorem c_join {X : Xt} {a f : Nat} {G : Gt} {Q : Qt} (ha : a < 100) (e : G 21 2 = nI f) (hf : ¬ G 22 a = 0 → f < 100) (K1 : G 22 a = 0 → Q none G) (K2 : ¬ G 22 a = 0 → Q none (sG (sG (sG G 22 (upd (G 22) a 0)) 23 (upd (G 23) f (nI a))) 21 (upd (G 21) 2 (nI (f + 1))))) {p : Int32} (hp : p = nI a) : con X m_Surveys_join [.ref 21, .int p] G Q := by
  subst hp
  refine con_rn 60 [] (by decide) rfl ?_
  refine vi (vp_in_nI ha (by omega)) ?_
  rw [nI_clamp (by omega)]
  refine bi (fun h => ?_) (fun h => ?_)
  · exact K1 h
  · have hf := hf h
    refine bi_f (by rw [e, show (100 : Int32) = nI 100 from rfl, nI_leI (by omega) (by omega)]; omega) ?_
    refine vi (vp_in_nI ha (by omega)) ?_
    rw [nI_clamp (by omega)]
    have hv : vp_in (G 21 2) 100 := by rw [e]; exact vp_in_nI hf (by omega)
    refine vi hv ?_
    have k2 : Q none (sG (sG (sG G 22 (upd (G 22) a 0)) 23 (upd (G 23) (G 21 2).toNatClampNeg (nI a))) 21 (upd (G 21) 2 (G 21 2 + 1))) := by
      rw [e, nI_clamp (by omega), nI_1]
      exact K2 h
    exact k2
/-- one more place, if it is left -/
theorem c_joinS {X : Xt} {w h : Nat} {U : Nat → Prop} {a0 y f : Nat} {G0 G : Gt} {Q : Qt} (hn : w * h ≤ 100) (hy : y < w * h) (hr : U y → rch w h U a0 y) (hS : SI w h U a0 G0 G f) (K : ∀ G' f', SI w h U a0 G0 G' f' → f ≤ f' → (∀ x, inL G f x → inL G' f' x) → (∀ i, i < f → G' 23 i = G 23 i) → (U y → inL G' f' y) → Q none G') {p : Int32} (hp : p = nI y) : con X m_Surveys_join [.ref 21, .int p] G Q := by
  refine c_join (f := f) (by omega) hS.1.1 (fun q => (SI_put hn hy hr hS q).1) (fun q => ?_) (fun q => ?_) hp
  · refine K G f hS (Nat.le_refl _) (fun _ z => z) (fun _ _ => rfl) (fun z => ?_)
    exact Classical.byContradiction (fun z2 => (hS.2.2.1 y hy).mpr ⟨z, z2⟩ q)
  · refine K _ (f + 1) (SI_put hn hy hr hS q).2 (by omega) (fun x z => ?_) (fun i hi => ?_) (fun _ => ?_)
    · obtain ⟨i, h1, h2⟩ := z
      refine ⟨i, by omega, ?_⟩
      show upd (G 23) f (nI y) i = nI x
      rw [pk_un (by omega)]
      exact h2
    · show upd (G 23) f (nI y) i = G 23 i
      rw [pk_un (by omega)]
    · refine ⟨f, by omega, ?_⟩
      show upd (G 23) f (nI y) f = nI y
      rw [pk_us]
end
section
/-! the class: spread -/
abbrev spL (w h nx x : Nat) : Lt := [(6, .int (nI (x / w))), (5, .int (nI (x % w))), (4, .int (nI x)), (3, .int (nI nx)), (0, .ref 21), (1, .int (nI w)), (2, .int (nI h))]
/-- what a step of the spread keeps -/
def SK (w h : Nat) (U : Nat → Prop) (a0 : Nat) (G0 G : Gt) (f : Nat) (G' : Gt) (f' : Nat) : Prop := SI w h U a0 G0 G' f' ∧ f ≤ f' ∧ (∀ x, inL G f x → inL G' f' x) ∧ ∀ i, i < f → G' 23 i = G 23 i
theorem SK.tr {w h : Nat} {U : Nat → Prop} {a0 : Nat} {G0 A B C : Gt} {a b c : Nat} (h1 : SK w h U a0 G0 A a B b) (h2 : SK w h U a0 G0 B b C c) : SK w h U a0 G0 A a C c := ⟨h2.1, Nat.le_trans h1.2.1 h2.2.1, fun x z => h2.2.2.1 x (h1.2.2.1 x z), fun i hi => (h2.2.2.2 i (Nat.lt_of_lt_of_le hi h1.2.1)).trans (h1.2.2.2 i hi)⟩
theorem w_j1 {X : Xt} {w h : Nat} {U : Nat → Prop} {a0 x nx f : Nat} {G0 G : Gt} {Q : Qt} (hw : 0 < w) (hn : w * h ≤ 100) (hx : x < w * h) (hr : rch w h U a0 x) (hS : SI w h U a0 G0 G f) (K : ∀ G' f', SK w h U a0 G0 G f G' f' → (∀ y, 0 < x % w ∧ y + 1 = x → U y → inL G' f' y) → wp X m_Surveys_spread 49 (spL w h nx x) [] G' Q) : wp X m_Surveys_spread 36 (spL w h nx x) [] G Q := by
  have hm := Nat.mod_lt x hw
  have hm2 : x % w ≤ x := Nat.mod_le x w
  refine rn_wp (stops := [49]) 20 ?_
  refine bi (fun z => ?_) (fun z => ?_)
  · rw [← nI_0, nI_leI (by omega) (by omega)] at z
    exact K G f ⟨hS, Nat.le_refl _, fun _ q => q, fun _ _ => rfl⟩ (fun y hy => absurd hy.1 (by omega))
  · rw [← nI_0, nI_leI (by omega) (by omega)] at z
    have ha : adj w h x (x - 1) := Or.inl ⟨by omega, by omega⟩
    refine c_joinS hn (adj_lt hw hx ha) (fun q => rch_st hr q ha) hS (fun G' f' g1 g2 g3 g4 g5 => ?_) (nI_m1 (by omega))
    refine K G' f' ⟨g1, g2, g3, g4⟩ (fun y hy q => ?_)
    rw [show x - 1 = y by omega] at g5
    exact g5 q
theorem w_j2 {X : Xt} {w h : Nat} {U : Nat → Prop} {a0 x nx f : Nat} {G0 G : Gt} {Q : Qt} (hw : 0 < w) (hn : w * h ≤ 100) (hwb : w ≤ 10) (hx : x < w * h) (hr : rch w h U a0 x) (hS : SI w h U a0 G0 G f) (K : ∀ G' f', SK w h U a0 G0 G f G' f' → (∀ y, x % w + 1 < w ∧ y = x + 1 → U y → inL G' f' y) → wp X m_Surveys_spread 65 (spL w h nx x) [] G' Q) : wp X m_Surveys_spread 49 (spL w h nx x) [] G Q := by
  have hm := Nat.mod_lt x hw
  refine rn_wp (stops := [65]) 20 ?_
  refine bi (fun z => ?_) (fun z => ?_)
  · rw [nI_m1 hw, nI_leI (by omega) (by omega)] at z
    exact K G f ⟨hS, Nat.le_refl _, fun _ q => q, fun _ _ => rfl⟩ (fun y hy => absurd hy.1 (by omega))
  · rw [nI_m1 hw, nI_leI (by omega) (by omega)] at z
    have ha : adj w h x (x + 1) := Or.inr (Or.inl ⟨by omega, rfl⟩)
    refine c_joinS hn (adj_lt hw hx ha) (fun q => rch_st hr q ha) hS (fun G' f' g1 g2 g3 g4 g5 => ?_) (nI_1 x)
    refine K G' f' ⟨g1, g2, g3, g4⟩ (fun y hy q => ?_)
    rw [← hy.2] at g5
    exact g5 q
theorem w_j3 {X : Xt} {w h : Nat} {U : Nat → Prop} {a0 x nx f : Nat} {G0 G : Gt} {Q : Qt} (hw : 0 < w) (hn : w * h ≤ 100) (hx : x < w * h) (hr : rch w h U a0 x) (hS : SI w h U a0 G0 G f) (K : ∀ G' f', SK w h U a0 G0 G f G' f' → (∀ y, w ≤ x ∧ y + w = x → U y → inL G' f' y) → wp X m_Surveys_spread 78 (spL w h nx x) [] G' Q) : wp X m_Surveys_spread 65 (spL w h nx x) [] G Q := by
  have hd : x / w ≤ x := Nat.div_le_self x w
  have hp : 0 < x / w ↔ w ≤ x := by
    rw [Nat.div_pos_iff]
    exact ⟨fun z => z.2, fun z => ⟨hw, z⟩⟩
  refine rn_wp (stops := [78]) 20 ?_
  refine bi (fun z => ?_) (fun z => ?_)
  · rw [← nI_0, nI_leI (by omega) (by omega)] at z
    exact K G f ⟨hS, Nat.le_refl _, fun _ q => q, fun _ _ => rfl⟩ (fun y hy => absurd (hp.mpr hy.1) (by omega))
  · rw [← nI_0, nI_leI (by omega) (by omega)] at z
    have hle : w ≤ x := hp.mp (by omega)
    have ha : adj w h x (x - w) := Or.inr (Or.inr (Or.inl ⟨hle, by omega⟩))
    refine c_joinS hn (adj_lt hw hx ha) (fun q => rch_st hr q ha) hS (fun G' f' g1 g2 g3 g4 g5 => ?_) (pk_sub hle)
    refine K G' f' ⟨g1, g2, g3, g4⟩ (fun y hy q => ?_)
    rw [show x - w = y by omega] at g5
    exact g5 q
theorem w_j4 {X : Xt} {w h : Nat} {U : Nat → Prop} {a0 x nx f : Nat} {G0 G : Gt} {Q : Qt} (hw : 0 < w) (hh : 0 < h) (hhb : h ≤ 10) (hn : w * h ≤ 100) (hx : x < w * h) (hr : rch w h U a0 x) (hS : SI w h U a0 G0 G f) (K : ∀ G' f', SK w h U a0 G0 G f G' f' → (∀ y, x + w < w * h ∧ y = x + w → U y → inL G' f' y) → wp X m_Surveys_spread 94 (spL w h nx x) [] G' Q) : wp X m_Surveys_spread 78 (spL w h nx x) [] G Q := by
  have hd : x / w ≤ x := Nat.div_le_self x w
  have hp : x / w + 1 < h ↔ x + w < w * h := by
    have e : (x + w) / w = x / w + 1 := Nat.add_div_right x hw
    rw [← e, Nat.div_lt_iff_lt_mul hw, Nat.mul_comm]
  refine rn_wp (stops := [94]) 20 ?_
  refine bi (fun z => ?_) (fun z => ?_)
  · rw [nI_m1 hh, nI_leI (by omega) (by omega)] at z
    exact K G f ⟨hS, Nat.le_refl _, fun _ q => q, fun _ _ => rfl⟩ (fun y hy => absurd (hp.mpr hy.1) (by omega))
  · rw [nI_m1 hh, nI_leI (by omega) (by omega)] at z
    have hlt : x + w < w * h := hp.mp (by omega)
    have ha : adj w h x (x + w) := Or.inr (Or.inr (Or.inr ⟨hlt, rfl⟩))
    refine c_joinS hn (adj_lt hw hx ha) (fun q => rch_st hr q ha) hS (fun G' f' g1 g2 g3 g4 g5 => ?_) (nI_add x w)
    refine K G' f' ⟨g1, g2, g3, g4⟩ (fun y hy q => ?_)
    rw [← hy.2] at g5
    exact g5 q
/-- the first m of the list have all their neighbours in it -/
def cls (w h : Nat) (U : Nat → Prop) (G : Gt) (f m : Nat) : Prop := ∀ i, i < m → ∀ x, x < w * h → G 23 i = nI x → ∀ y, U y → adj w h x y → inL G f y
set_option maxRecDepth 4000 in
theorem w_spread {X : Xt} {w h : Nat} {U : Nat → Prop} {a0 : Nat} {G0 : Gt} {Q : Qt} (hw : 0 < w) (hh : 0 < h) (hwb : w ≤ 10) (hhb : h ≤ 10) (hn : w * h ≤ 100) (K : ∀ G f, SI w h U a0 G0 G f → cls w h U G f f → inL G f a0 → Q none G) : ∀ (z nx f : Nat) (q : Int32) (G : Gt), q = nI nx → nx + z = 100 → SI w h U a0 G0 G f → nx ≤ f → cls w h U G f nx → inL G f a0 → wp X m_Surveys_spread 2 [(3, .int q), (0, .ref 21), (1, .int (nI w)), (2, .int (nI h))] [] G Q
  | 0, nx, f, q, G, hq, hz, hS, hle, hc, h0 => by
    subst hq
    have hf := SI_f hn hS
    have e : f = nx := by omega
    subst e
    refine rn_wp (stops := [2, 36]) 60 ?_
    refine bi_t (by rw [hS.1.1]; exact Int32.le_refl _) ?_
    exact K G f hS hc h0
  | z + 1, nx, f, q, G, hq, hz, hS, hle, hc, h0 => by
    subst hq
    have hf := SI_f hn hS
    refine rn_wp (stops := [2, 36]) 60 ?_
    refine bi (fun g => ?_) (fun g => ?_)
    · rw [hS.1.1, nI_leI (by omega) (by omega)] at g
      have e : f = nx := by omega
      subst e
      exact K G f hS hc h0
    · rw [hS.1.1, nI_leI (by omega) (by omega)] at g
      refine bi_f (by rw [show (100 : Int32) = nI 100 from rfl, nI_leI (by omega) (by omega)]; omega) ?_
      obtain ⟨x, hx, ex, hU, hr⟩ := hS.2.1 nx (by omega)
      refine vi (vp_in_nI (by omega) (by omega)) ?_
      rw [nI_clamp (by omega), ex]
      refine zi (nI_ne0 hw (by omega)) ?_
      refine zi (nI_ne0 hw (by omega)) ?_
      rw [pk_rem (by omega) hw (by omega), pk_div (by omega) hw (by omega)]
      refine w_j1 hw hn hx hr hS (fun G1 f1 k1 n1 => ?_)
      refine w_j2 hw hn hwb hx hr k1.1 (fun G2 f2 k2 n2 => ?_)
      refine w_j3 hw hn hx hr k2.1 (fun G3 f3 k3 n3 => ?_)
      refine w_j4 hw hh hhb hn hx hr k3.1 (fun G4 f4 k4 n4 => ?_)
      refine rn_wp (stops := [2]) 5 ?_
      have k34 := k3.tr k4
      have k24 := k2.tr k34
      have k14 := k1.tr k24
      refine wp_pick [0, 4, 5, 6] (w_spread hw hh hwb hhb hn K z (nx + 1) f4 _ G4 (nI_1 _) (by omega) k14.1 (by have := k14.2.1; omega) (fun i hi x' hx' e' y hy ha => ?_) (k14.2.2.1 a0 h0))
      have e'' : G 23 i = nI x' := by rw [← k14.2.2.2 i (by omega)]; exact e'
      by_cases ei : i = nx
      · rw [ei, ex, nI_eq (by omega) (by omega)] at e''
        subst e''
        rcases ha with ha | ha | ha | ha
        · exact k24.2.2.1 y (n1 y ha hy)
        · exact k34.2.2.1 y (n2 y ha hy)
        · exact k4.2.2.1 y (n3 y ha hy)
        · exact n4 y ha hy
      · exact k14.2.2.1 y (hc i (by omega) x' hx' e'' y hy ha)
theorem c_spread {X : Xt} {w h : Nat} {U : Nat → Prop} {a0 f : Nat} {G0 G : Gt} {Q : Qt} (hw : 0 < w) (hh : 0 < h) (hwb : w ≤ 10) (hhb : h ≤ 10) (hn : w * h ≤ 100) (hS : SI w h U a0 G0 G f) (h0 : inL G f a0) (K : ∀ G f, SI w h U a0 G0 G f → cls w h U G f f → inL G f a0 → Q none G) : con X m_Surveys_spread [.ref 21, .int (nI w), .int (nI h)] G Q := by
  refine con_rn 5 [2] (by decide) rfl ?_
  exact w_spread hw hh hwb hhb hn K 100 0 f _ G rfl rfl hS (Nat.zero_le _) (fun i hi => absurd hi (by omega)) h0
theorem c_spread0 {X : Xt} {a b : Int32} {G : Gt} {Q : Qt} (h0 : G 21 2 = 0) (K : Q none G) : con X m_Surveys_spread [.ref 21, .int a, .int b] G Q := by
  refine con_rn 20 [] (by decide) rfl ?_
  refine bi_t (by rw [h0]; exact Int32.le_refl _) ?_
  exact K
/-- what is left when the spread is done -/
theorem SI_end {w h : Nat} {U : Nat → Prop} {a0 f : Nat} {G0 G : Gt} (hw : 0 < w) (hn : w * h ≤ 100) (hS : SI w h U a0 G0 G f) (hc : cls w h U G f f) (h0 : inL G f a0) (hU : ∀ x, U x → x < w * h) (ha0 : U a0) : ∀ x, x < w * h → (¬ G 22 x = 0 ↔ U x ∧ ¬ rch w h U a0 x) := by
  intro x hx
  rw [hS.2.2.1 x hx]
  refine and_congr_right (fun hUx => not_congr ⟨fun z => ?_, fun z => ?_⟩)
  · obtain ⟨i, h1, h2⟩ := z
    obtain ⟨x', h3, h4, h5, h6⟩ := hS.2.1 i h1
    rw [h2, nI_eq (by omega) (by omega)] at h4
    subst h4
    exact h6
  · refine (z (fun y => U y ∧ inL G f y) ⟨ha0, h0⟩ (fun u v hu hv hadj => ⟨hv, ?_⟩)).2
    obtain ⟨hu1, i, h1, h2⟩ := hu
    exact hc i h1 u (hU u hu1) h2 v hv hadj
end
section
/-! the class: gather, compare -/
theorem Us_lt {w h : Nat} {U : Nat → Prop} (hU : ∀ x, U x → x < w * h) : ∀ k x, Us w h U k x → x < w * h
  | 0, x, hx => hU x hx
  | k + 1, x, hx => Us_lt hU k x hx.1
def gI (w h : Nat) (U : Nat → Prop) (lo he : Int32) (G0 : Gt) (k : Nat) (G : Gt) : Prop := FrS G0 G ∧ (∀ x, x < w * h → (¬ G 22 x = 0 ↔ Us w h U k x)) ∧ (G 21 3 = lo ∧ G 21 4 = he) ∧ G 21 5 = nI (pcs w h U k).1 ∧ G 21 6 = nI (pcs w h U k).2
theorem inL_pos {G : Gt} {f x : Nat} (h : inL G f x) : 0 < f := by
  obtain ⟨i, h1, -⟩ := h
  omega
set_option maxRecDepth 4000 in
theorem w_gather {X : Xt} {w h : Nat} {U : Nat → Prop} {lo he : Int32} {G0 : Gt} {Q : Qt} (hw : 0 < w) (hh : 0 < h) (hwb : w ≤ 10) (hhb : h ≤ 10) (hn : w * h ≤ 100) (hU : ∀ x, U x → x < w * h) (K : ∀ G, gI w h U lo he G0 (w * h) G → Q none G) : ∀ (z k : Nat) (q : Int32) (G : Gt), q = nI k → k + z = w * h → gI w h U lo he G0 k G → wp X m_Surveys_gather 12 [(3, .int q), (0, .ref 21), (1, .int (nI w)), (2, .int (nI h))] [] G Q
  | 0, k, q, G, hq, hz, hg => by
    subst hq
    have hk : k = w * h := by omega
    refine rn_wp (stops := [12]) 60 ?_
    refine bi_t (by rw [pk_mul, hk]; exact Int32.le_refl _) ?_
    rw [hk] at hg
    exact K G hg
  | z + 1, k, q, G, hq, hz, hg => by
    subst hq
    have hk : k < w * h := by omega
    obtain ⟨g1, g2, ⟨g3, g4⟩, g5, g6⟩ := hg
    have hr := pcs_rng (U := U) hn k
    refine rn_wp (stops := [12]) 60 ?_
    refine bi_f (by rw [pk_mul, nI_leI (by omega) (by omega)]; omega) ?_
    by_cases hkk : Us w h U k k
    · have hS : SI w h (Us w h U k) k (sG G 21 (upd (G 21) 2 0)) (sG G 21 (upd (G 21) 2 0)) 0 := by
        refine ⟨⟨rfl, FrS.rf _, fun _ _ => rfl⟩, fun i hi => absurd hi (by omega), fun x hx => ?_, ?_⟩
        · show ¬ G 22 x = 0 ↔ _
          rw [g2 x hx]
          exact ⟨fun q => ⟨q, fun y => absurd (inL_pos y) (by omega)⟩, fun q => q.1⟩
        · rw [Nat.zero_add]
          exact cP_congr (fun x hx => g2 x hx)
      refine c_joinS hn hk (fun _ => rch_rf _ _ _ _) hS (fun G1 f1 s1 s2 s3 s4 s5 => ?_) rfl
      refine c_spread hw hh hwb hhb hn s1 (s5 hkk) (fun G2 f2 t1 t2 t3 => ?_)
      have hf := SI_f hn t1
      have hpos := inL_pos t3
      have hend := SI_end hw hn t1 t2 t3 (Us_lt hU k) hkk
      have e2 : G2 21 2 = nI f2 := t1.1.1
      have e5 : G2 21 5 = nI (pcs w h U k).1 := (t1.1.2.2 5 (by decide)).trans g5
      have e6 : G2 21 6 = nI (pcs w h U k).2 := (t1.1.2.2 6 (by decide)).trans g6
      have e3 : G2 21 3 = lo := (t1.1.2.2 3 (by decide)).trans g3
      have e4 : G2 21 4 = he := (t1.1.2.2 4 (by decide)).trans g4
      have esz : szS w h U k = f2 := by
        have h1 := t1.2.2.2
        have h2 : cP (fun x => ¬ G2 22 x = 0) (w * h) = cP (Us w h U (k + 1)) (w * h) := cP_congr (fun x hx => (hend x hx).trans (Us_1 hkk x).symm)
        unfold szS
        rw [← h2, ← h1]
        exact Nat.add_sub_cancel _ _
      refine bi_f (by rw [e2, ← nI_0, nI_leI (by omega) (by omega)]; omega) ?_
      refine w_gather hw hh hwb hhb hn hU K z (k + 1) _ _ (nI_1 _) (by omega) ⟨((g1.s rfl).tr (t1.1.2.1)).s rfl |>.s rfl, fun x hx => ?_, ⟨?_, ?_⟩, ?_, ?_⟩
      · show ¬ G2 22 x = 0 ↔ _
        rw [Us_1 hkk]
        exact hend x hx
      · exact e3
      · exact e4
      · show G2 21 5 + 1 = _
        rw [e5, pcs_1 hkk, nI_1]
      · show (if G2 21 6 < G2 21 2 then G2 21 2 else G2 21 6) = _
        rw [e2, e6, pcs_1 hkk, esz]
        show _ = nI (if (pcs w h U k).2 < f2 then f2 else (pcs w h U k).2)
        by_cases hlt : (pcs w h U k).2 < f2
        · rw [if_pos hlt, if_pos (by rw [nI_ltI (by omega) (by omega)]; exact hlt)]
        · rw [if_neg hlt, if_neg (by rw [nI_ltI (by omega) (by omega)]; exact hlt)]
    · have hz22 : G 22 k = 0 := Decidable.byContradiction (fun y => hkk ((g2 k hk).mp y))
      refine c_join (G := sG G 21 (upd (G 21) 2 0)) (f := 0) (by omega) rfl (fun _ => by omega) (fun _ => ?_) (fun y => absurd hz22 y) rfl
      refine c_spread0 rfl ?_
      refine bi_t (show (0 : Int32) ≤ 0 from Int32.le_refl _) ?_
      refine w_gather hw hh hwb hhb hn hU K z (k + 1) _ _ (nI_1 _) (by omega) ⟨g1.s rfl, fun x hx => ?_, ⟨g3, g4⟩, ?_, ?_⟩
      · show ¬ G 22 x = 0 ↔ _
        rw [Us_0 hkk, g2 x hx]
      · show G 21 5 = _
        rw [pcs_0 hkk, g5]
      · show G 21 6 = _
        rw [pcs_0 hkk, g6]
theorem c_gather {X : Xt} {w h : Nat} {U : Nat → Prop} {lo he : Int32} {G : Gt} {Q : Qt} (hw : 0 < w) (hh : 0 < h) (hwb : w ≤ 10) (hhb : h ≤ 10) (hn : w * h ≤ 100) (hU : ∀ x, U x → x < w * h) (h22 : ∀ x, x < w * h → (¬ G 22 x = 0 ↔ U x)) (e3 : G 21 3 = lo) (e4 : G 21 4 = he) (K : ∀ G', gI w h U lo he G (w * h) G' → Q none G') : con X m_Surveys_gather [.ref 21, .int (nI w), .int (nI h)] G Q := by
  refine con_rn 12 [12] (by decide) rfl ?_
  refine w_gather hw hh hwb hhb hn hU K (w * h) 0 _ _ rfl (by omega) ⟨((FrS.rf G).s rfl).s rfl, h22, ⟨e3, e4⟩, rfl, rfl⟩
abbrev lsP (ga gb : Nat → Int32) (s : Int32) (x : Nat) : Prop := ¬ 0 < lg_cmp ((gb x).toInt64 - (ga x).toInt64) ((-s).toInt64)
abbrev hpP (ga gb : Nat → Int32) (s : Int32) (x : Nat) : Prop := ¬ lg_cmp ((gb x).toInt64 - (ga x).toInt64) (s.toInt64) < 0
abbrev gX (G : Gt) (a : Int32) : Nat → Int32 := fun x => G 2 (100 * a.toNatClampNeg + x)
def cI (ga gb : Nat → Int32) (s : Int32) (G0 : Gt) (k : Nat) (G : Gt) : Prop := FrS G0 G ∧ (∀ x, x < k → (¬ G 22 x = 0 ↔ lsP ga gb s x)) ∧ G 21 3 = sI (fun x => bI (lsP ga gb s x)) k ∧ G 21 4 = sI (fun x => bI (hpP ga gb s x)) k
theorem cI_put {ga gb : Nat → Int32} {s v l e : Int32} {G0 G : Gt} {k : Nat} (h : cI ga gb s G0 k G) (hv : ¬ v = 0 ↔ lsP ga gb s k) (hl : l = bI (lsP ga gb s k)) (he : e = bI (hpP ga gb s k)) : cI ga gb s G0 (k + 1) (sG (sG (sG G 22 (upd (G 22) k v)) 21 (upd (G 21) 3 (G 21 3 + l))) 21 (upd (upd (G 21) 3 (G 21 3 + l)) 4 (G 21 4 + e))) := by
  obtain ⟨h1, h2, h3, h4⟩ := h
  refine ⟨((h1.s rfl).s rfl).s rfl, fun x hx => ?_, ?_, ?_⟩
  · show ¬ upd (G 22) k v x = 0 ↔ _
    by_cases q : x = k
    · subst q
      rw [pk_us]
      exact hv
    · rw [pk_un q]
      exact h2 x (by omega)
  · show G 21 3 + l = _
    rw [h3, hl]
    rfl
  · show G 21 4 + e = _
    rw [h4, he]
    rfl
set_option maxRecDepth 4000 in
theorem w_compare {X : Xt} {a b s : Int32} {N : Nat} {G0 : Gt} {Q : Qt} (ha : 0 ≤ a ∧ a ≤ 7) (hb : 0 ≤ b ∧ b ≤ 7) (hN : N ≤ 100) (K : ∀ G, cI (gX G0 a) (gX G0 b) s G0 N G → Q none G) : ∀ (z k : Nat) (q : Int32) (G : Gt), q = nI k → k + z = N → cI (gX G0 a) (gX G0 b) s G0 k G → wp X m_Surveys_compare 13 [(6, .int q), (0, .ref 21), (1, .ref 1), (2, .int a), (3, .int b), (4, .int (nI N)), (5, .int s)] [] G Q
  | 0, k, q, G, hq, hz, hc => by
    subst hq
    have hk : k = N := by omega
    subst hk
    refine rn_wp (stops := [13]) 80 ?_
    refine bi_t (Int32.le_refl _) ?_
    exact K G hc
  | z + 1, k, q, G, hq, hz, hc => by
    subst hq
    have n1 : vp_nar .boolean 1 = 1 := rfl
    have n0 : vp_nar .boolean 0 = 0 := rfl
    have e2 : G 2 = G0 2 := hc.1.1 2 rfl (by decide)
    refine rn_wp (stops := [13]) 80 ?_
    refine bi_f (by simp (disch := omega) only [nI_1, nI_add, nI_clamp, nI_leI, nI_ltI, nI_eq, nI_toInt]; omega) ?_
    refine c_itemN (j := k) hb rfl (by omega) ?_
    refine c_itemN (j := k) ha rfl (by omega) ?_
    rw [e2]
    have nx : ∀ v l e : Int32, (¬ v = 0 ↔ lsP (gX G0 a) (gX G0 b) s k) → l = bI (lsP (gX G0 a) (gX G0 b) s k) → e = bI (hpP (gX G0 a) (gX G0 b) s k) → wp X m_Surveys_compare 13 [(6, .int (nI k + 1)), (7, .long ((gX G0 b k).toInt64 - (gX G0 a k).toInt64)), (0, .ref 21), (1, .ref 1), (2, .int a), (3, .int b), (4, .int (nI N)), (5, .int s)] [] (sG (sG (sG G 22 (upd (G 22) k v)) 21 (upd (G 21) 3 (G 21 3 + l))) 21 (upd (upd (G 21) 3 (G 21 3 + l)) 4 (G 21 4 + e))) Q := by
      intro v l e hv hl he
      exact wp_pick [0, 2, 3, 4, 5, 6, 7] (w_compare ha hb hN K z (k + 1) _ _ (nI_1 _) (by omega) (cI_put hc hv hl he))
    refine bi (fun h => ?_) (fun h => ?_)
    · refine vi (vp_in_nI (by omega) (by omega)) ?_
      rw [nI_clamp (by omega), n0]
      refine vi (vp_in_nI (by omega) (by omega)) ?_
      rw [nI_clamp (by omega)]
      refine bi_t (show upd (G 22) k 0 k = 0 from pk_us) ?_
      have hl : ¬ lsP (gX G0 a) (gX G0 b) s k := fun y => y h
      refine bi (fun h2 => ?_) (fun h2 => ?_)
      · have hh : ¬ hpP (gX G0 a) (gX G0 b) s k := fun y => y h2
        exact nx 0 0 0 ⟨fun y => absurd rfl y, fun y => absurd y hl⟩ (bI_f hl).symm (bI_f hh).symm
      · have hh : hpP (gX G0 a) (gX G0 b) s k := h2
        exact nx 0 0 1 ⟨fun y => absurd rfl y, fun y => absurd y hl⟩ (bI_f hl).symm (bI_t hh).symm
    · refine vi (vp_in_nI (by omega) (by omega)) ?_
      rw [nI_clamp (by omega), n1]
      refine vi (vp_in_nI (by omega) (by omega)) ?_
      rw [nI_clamp (by omega)]
      refine bi_f (show ¬ upd (G 22) k 1 k = 0 by rw [pk_us]; decide) ?_
      have hl : lsP (gX G0 a) (gX G0 b) s k := h
      refine bi (fun h2 => ?_) (fun h2 => ?_)
      · have hh : ¬ hpP (gX G0 a) (gX G0 b) s k := fun y => y h2
        exact nx 1 1 0 ⟨fun _ => hl, fun _ => by decide⟩ (bI_t hl).symm (bI_f hh).symm
      · have hh : hpP (gX G0 a) (gX G0 b) s k := h2
        exact nx 1 1 1 ⟨fun _ => hl, fun _ => by decide⟩ (bI_t hl).symm (bI_t hh).symm
theorem c_compare {X : Xt} {a b s : Int32} {N : Nat} {G : Gt} {Q : Qt} (ha : 0 ≤ a ∧ a ≤ 7) (hb : 0 ≤ b ∧ b ≤ 7) (hN : N ≤ 100) (K : ∀ G', cI (gX G a) (gX G b) s G N G' → Q none G') {n : Int32} (hn : n = nI N) : con X m_Surveys_compare [.ref 21, .ref 1, .int a, .int b, .int n, .int s] G Q := by
  subst hn
  refine con_rn 12 [13] (by decide) rfl ?_
  exact w_compare ha hb hN K N 0 _ _ rfl (by omega) ⟨((FrS.rf G).s rfl).s rfl, fun x hx => absurd hx (by omega), rfl, rfl⟩
def svU (ga gb : Nat → Int32) (s : Int32) (n : Nat) : Nat → Prop := fun x => x < n ∧ lsP ga gb s x
noncomputable def svV (ga gb : Nat → Int32) (s : Int32) (w h : Nat) (a : Int32) : Int32 := if a = 0 then sI (fun x => bI (lsP ga gb s x)) (w * h) else if a = 1 then sI (fun x => bI (hpP ga gb s x)) (w * h) else if a = 2 then nI (pcs w h (svU ga gb s (w * h)) (w * h)).1 else nI (pcs w h (svU ga gb s (w * h)) (w * h)).2
theorem c_result {X : Xt} {a : Int32} {G : Gt} {Q : Qt} (ha : 0 ≤ a ∧ a ≤ 3) (K : Q (some (.int (if a = 0 then G 21 3 else if a = 1 then G 21 4 else if a = 2 then G 21 5 else G 21 6))) G) : con X m_Surveys_result [.ref 21, .int a] G Q := by
  refine con_rn 20 [] (by decide) rfl ?_
  refine ⟨fun h => ?_, fun h => ?_, fun h => ?_, fun h => ?_, trivial⟩
  · have h0 : ¬ a = 0 := fun z => by rw [z] at h; exact absurd h (by decide)
    have h1 : ¬ a = 1 := fun z => by rw [z] at h; exact absurd h (by decide)
    have h2 : ¬ a = 2 := fun z => by rw [z] at h; exact absurd h (by decide)
    rw [if_neg h0, if_neg h1, if_neg h2] at K
    exact K
  · have h : a = 0 := h
    subst h
    exact K
  · have h : a = 1 := h
    subst h
    exact K
  · have h : a = 2 := h
    subst h
    exact K
abbrev svP (a b w h s e : Int32) : Prop := (0 ≤ a ∧ a ≤ 7) ∧ (0 ≤ b ∧ b ≤ 7) ∧ (1 ≤ w ∧ w ≤ 10) ∧ (1 ≤ h ∧ h ≤ 10) ∧ (1 ≤ s ∧ s ≤ 1000) ∧ 0 ≤ e ∧ e ≤ 3
theorem tenN {w : Int32} (h : 1 ≤ w ∧ w ≤ 10) : ∃ W : Nat, 0 < W ∧ W ≤ 10 ∧ w = nI W := by
  obtain ⟨e, e1, -⟩ := toN (x := w) (Int32.le_trans (by decide) h.1)
  have h1 : 1 ≤ w.toInt := by simpa using le32.mp h.1
  have h2 : w.toInt ≤ 10 := by simpa using le32.mp h.2
  exact ⟨_, by omega, by omega, e⟩
set_option maxRecDepth 8000 in
theorem c_SW_survey {X : Xt} {a b w h s e : Int32} {G : Gt} {Q : Qt}
    (K1 : ¬ svP a b w h s e → Q (some (.int (-1000001))) G)
    (K2 : svP a b w h s e → G 4 a.toNatClampNeg = -1 ∨ G 4 b.toNatClampNeg = -1 → Q (some (.int (-1000011))) (sG G 0 (upd (G 0) 7 1)))
    (K3 : svP a b w h s e → ¬ G 4 a.toNatClampNeg = -1 → ¬ G 4 b.toNatClampNeg = -1 → ¬ (hasI (G 4 a.toNatClampNeg) 0 (w * h) ∧ hasI (G 4 b.toNatClampNeg) 0 (w * h)) → Q (some (.int (-1000012))) (sG G 0 (upd (G 0) 7 2)))
    (K4 : svP a b w h s e → ¬ G 4 a.toNatClampNeg = -1 → ¬ G 4 b.toNatClampNeg = -1 → hasI (G 4 a.toNatClampNeg) 0 (w * h) → hasI (G 4 b.toNatClampNeg) 0 (w * h) → ∀ G' W H, FrS G G' → w = nI W → h = nI H → 0 < W → 0 < H → W ≤ 10 → H ≤ 10 → W * H ≤ 100 → Q (some (.int (svV (gX G a) (gX G b) s W H e))) (sG G' 0 (upd (G' 0) 7 0))) : con X m_SW_survey [.ref 0, .int a, .int b, .int w, .int h, .int s, .int e] G Q := by
  refine con_rn 120 [] (by decide) rfl ?_
  refine c_isNumber (bib (fun g => K1 (fun z => g z.1)) (fun ha => ?_))
  refine c_isNumber (bib (fun g => K1 (fun z => g z.2.1)) (fun hb => ?_))
  refine c_within (bib (fun g => K1 (fun z => g z.2.2.1)) (fun hw => ?_))
  refine c_within (bib (fun g => K1 (fun z => g z.2.2.2.1)) (fun hh => ?_))
  refine c_within (bib (fun g => K1 (fun z => g z.2.2.2.2.1)) (fun hs => ?_))
  refine c_within (bjb (fun he => ?_) (fun g => K1 (fun z => g z.2.2.2.2.2)))
  have hp : svP a b w h s e := ⟨ha, hb, hw, hh, hs, he⟩
  refine c_isMissing ha (bjb (fun g => ?_) (fun m1 => ?_))
  · refine c_found ?_
    exact K2 hp (Or.inl g)
  refine c_isMissing hb (bib (fun m2 => ?_) (fun g => ?_))
  · refine c_hasItems ha (bib (fun g => ?_) (fun h1 => ?_))
    · refine c_found ?_
      exact K3 hp m1 m2 (fun z => g z.1)
    · refine c_hasItems hb (bjb (fun h2 => ?_) (fun g => ?_))
      · obtain ⟨W, W0, W10, eW⟩ := tenN hw
        obtain ⟨H, H0, H10, eH⟩ := tenN hh
        have hn : W * H ≤ 100 := Nat.mul_le_mul W10 H10
        subst eW
        subst eH
        have k4 := K4 hp m1 m2 h1 h2
        refine c_compare (N := W * H) ha hb hn (fun G1 c1 => ?_) (pk_mul W H)
        refine c_gather (U := svU (gX G a) (gX G b) s (W * H)) W0 H0 W10 H10 hn (fun x hx => hx.1) (fun x hx => ?_) c1.2.2.1 c1.2.2.2 (fun G2 g2 => ?_)
        · rw [c1.2.1 x hx]
          exact ⟨fun z => ⟨hx, z⟩, fun z => z.2⟩
        · obtain ⟨f1, f2, ⟨f3, f4⟩, f5, f6⟩ := g2
          refine c_result he ?_
          refine c_fine ?_
          refine Qi (k4 G2 W H (c1.1.tr f1) rfl rfl W0 H0 W10 H10 hn) ?_
          rw [f3, f4, f5, f6]
          rfl
      · refine c_found ?_
        exact K3 hp m1 m2 (fun z => g z.2)
  · refine c_found ?_
    exact K2 hp (Or.inr g)
end
section
/-! the model: sweeps -/
def MI (w h : Nat) (U : Nat → Prop) (k0 p : Nat) (G0 G : Gt) (m : Nat) : Prop := FrS G0 G ∧ (∀ x, x < w * h → (G 41 x = 0 ↔ U x ∧ ¬ G 41 x = nI (p + 1))) ∧ (∀ x, x < w * h → G 41 x = nI (p + 1) → U x ∧ rch w h U k0 x) ∧ (m + cP (fun x => G 41 x = 0) (w * h) = cP U (w * h)) ∧ (∀ x, x < w * h → (G 41 x).toInt ≤ p + 1) ∧ G 41 k0 = nI (p + 1)
theorem MI_put {w h : Nat} {U : Nat → Prop} {k0 p y m : Nat} {G0 G : Gt} (hp : p ≤ 100) (hk0 : ¬ y = k0) (hy : y < w * h) (hr : U y → rch w h U k0 y) (hM : MI w h U k0 p G0 G m) (hq : G 41 y = 0) : MI w h U k0 p G0 (sG G 41 (upd (G 41) y (nI (p + 1)))) (m + 1) ∧ cP (fun x => (sG G 41 (upd (G 41) y (nI (p + 1)))) 41 x = 0) (w * h) < cP (fun x => G 41 x = 0) (w * h) := by
  obtain ⟨m0, m1, m2, m3, m4, m5⟩ := hM
  have hy2 := (m1 y hy).mp hq
  have hne : ¬ nI (p + 1) = 0 := nI_ne0 (by omega) (by omega)
  have h1 : cP (fun x => G 41 x = 0) (w * h) = cP (fun x => upd (G 41) y (nI (p + 1)) x = 0) (w * h) + 1 := by
    refine cP_del (k := y) hq (fun z => hne (by rw [pk_us] at z; exact z)) hy (fun x hx e => ?_)
    show _ ↔ upd (G 41) y (nI (p + 1)) x = 0
    rw [pk_un e]
  refine ⟨⟨m0.s rfl, fun x hx => ?_, fun x hx => ?_, ?_, fun x hx => ?_, ?_⟩, ?_⟩
  · show upd (G 41) y (nI (p + 1)) x = 0 ↔ U x ∧ ¬ upd (G 41) y (nI (p + 1)) x = nI (p + 1)
    by_cases e : x = y
    · subst e
      rw [pk_us]
      exact ⟨fun z => absurd z hne, fun z => absurd rfl z.2⟩
    · rw [pk_un e]
      exact m1 x hx
  · show upd (G 41) y (nI (p + 1)) x = nI (p + 1) → _
    by_cases e : x = y
    · subst e
      exact fun _ => ⟨hy2.1, hr hy2.1⟩
    · rw [pk_un e]
      exact m2 x hx
  · show m + 1 + cP (fun x => upd (G 41) y (nI (p + 1)) x = 0) (w * h) = _
    omega
  · show (upd (G 41) y (nI (p + 1)) x).toInt ≤ _
    by_cases e : x = y
    · subst e
      rw [pk_us, nI_toInt (by omega)]
      omega
    · rw [pk_un e]
      exact m4 x hx
  · show upd (G 41) y (nI (p + 1)) k0 = _
    rw [pk_un (Ne.symm hk0)]
    exact m5
  · show cP (fun x => upd (G 41) y (nI (p + 1)) x = 0) (w * h) < _
    omega
def bsM (w h p : Nat) (G : Gt) (j : Nat) : Prop := ∃ x, adj w h j x ∧ G 41 x = nI (p + 1)
def clM (w h p : Nat) (G : Gt) (j : Nat) : Prop := ∀ y, y < j → ¬ (G 41 y = 0 ∧ bsM w h p G y)
theorem MI_end {w h : Nat} {U : Nat → Prop} {k0 p m : Nat} {G0 G : Gt} (hw : 0 < w) (hU : ∀ x, U x → x < w * h) (hk0 : U k0) (hM : MI w h U k0 p G0 G m) (hc : clM w h p G (w * h)) : ∀ x, x < w * h → (G 41 x = 0 ↔ U x ∧ ¬ rch w h U k0 x) := by
  obtain ⟨m0, m1, m2, m3, m4, m5⟩ := hM
  intro x hx
  rw [m1 x hx]
  refine and_congr_right (fun hUx => not_congr ⟨fun z => (m2 x hx z).2, fun z => ?_⟩)
  refine (z (fun y => U y ∧ G 41 y = nI (p + 1)) ⟨hk0, m5⟩ (fun u v hu hv ha => ⟨hv, ?_⟩)).2
  refine Classical.byContradiction (fun hq => ?_)
  have h0 := (m1 v (hU v hv)).mpr ⟨hv, hq⟩
  exact hc v (hU v hv) ⟨h0, u, adj_sym hw (hU u hu.1) ha, hu.2⟩
abbrev svB (w h : Nat) (e lo he : Int32) : Lt := [(0, .ref 26), (3, .int (nI w)), (4, .int (nI h)), (6, .int e), (7, .int lo), (8, .int he)]
abbrev L305 (w h : Nat) (e lo he : Int32) (j : Nat) (mo m : Int32) (p k : Nat) (la : Int32) : Lt := (14, .int (nI j)) :: (13, .int mo) :: (12, .int m) :: (9, .int (nI p)) :: (11, .int (nI k)) :: (10, .int la) :: svB w h e lo he
section
variable {X : Xt} {w h : Nat} {e lo he : Int32} {j p k : Nat} {mo m la : Int32} {G : Gt} {Q : Qt}
set_option maxRecDepth 4000 in
theorem w_b4 (hw : 0 < w) (hn : w * h ≤ 100) (hwb : w ≤ 10) (hj : j < w * h) (h1 : ∀ x, 0 < j % w ∧ x + 1 = j → ¬ G 41 x = nI p) (h2 : ∀ x, j % w + 1 < w ∧ x = j + 1 → ¬ G 41 x = nI p) (h3 : ∀ x, w ≤ j ∧ x + w = j → ¬ G 41 x = nI p) (K1 : (∃ x, adj w h j x ∧ G 41 x = nI p) → wp X m_Mo_survey 411 ((15, .int 1) :: L305 w h e lo he j mo m p k la) [] G Q) (K0 : (¬ ∃ x, adj w h j x ∧ G 41 x = nI p) → wp X m_Mo_survey 411 ((15, .int 0) :: L305 w h e lo he j mo m p k la) [] G Q) : wp X m_Mo_survey 379 (L305 w h e lo he j mo m p k la) [] G Q := by
  have no : (∀ x, j + w < w * h ∧ x = j + w → ¬ G 41 x = nI p) → ¬ ∃ x, adj w h j x ∧ G 41 x = nI p := by
    rintro h4 ⟨x, ha, hx⟩
    rcases ha with ha | ha | ha | ha
    · exact h1 x ha hx
    · exact h2 x ha hx
    · exact h3 x ha hx
    · exact h4 x ha hx
  refine rn_wp (stops := [411]) 40 ?_
  refine bi (fun z => ?_) (fun z => ?_)
  · rw [pk_mul, nI_add, nI_leI (by omega) (by omega)] at z
    exact K0 (no (fun x hx => absurd hx.1 (by omega)))
  · rw [pk_mul, nI_add, nI_leI (by omega) (by omega)] at z
    refine vi (by rw [nI_add]; exact vp_in_nI (by omega) (by omega)) ?_
    rw [nI_add, nI_clamp (by omega)]
    refine bj (fun q => ?_) (fun q => ?_)
    · exact K0 (no (fun x hx => by rw [hx.2]; exact q))
    · exact K1 ⟨j + w, Or.inr (Or.inr (Or.inr ⟨by omega, rfl⟩)), q⟩
set_option maxRecDepth 4000 in
theorem w_b3 (hw : 0 < w) (hn : w * h ≤ 100) (hwb : w ≤ 10) (hj : j < w * h) (h1 : ∀ x, 0 < j % w ∧ x + 1 = j → ¬ G 41 x = nI p) (h2 : ∀ x, j % w + 1 < w ∧ x = j + 1 → ¬ G 41 x = nI p) (K1 : (∃ x, adj w h j x ∧ G 41 x = nI p) → wp X m_Mo_survey 411 ((15, .int 1) :: L305 w h e lo he j mo m p k la) [] G Q) (K0 : (¬ ∃ x, adj w h j x ∧ G 41 x = nI p) → wp X m_Mo_survey 411 ((15, .int 0) :: L305 w h e lo he j mo m p k la) [] G Q) : wp X m_Mo_survey 359 (L305 w h e lo he j mo m p k la) [] G Q := by
  refine rn_wp (stops := [379, 411]) 40 ?_
  refine bi (fun z => ?_) (fun z => ?_)
  · rw [nI_ltI (by omega) (by omega)] at z
    exact w_b4 hw hn hwb hj h1 h2 (fun x hx => absurd hx.1 (by omega)) K1 K0
  · rw [nI_ltI (by omega) (by omega)] at z
    refine vi (by rw [pk_sub (by omega)]; exact vp_in_nI (by omega) (by omega)) ?_
    rw [pk_sub (by omega), nI_clamp (by omega)]
    refine bi (fun q => ?_) (fun q => ?_)
    · exact K1 ⟨j - w, Or.inr (Or.inr (Or.inl ⟨by omega, by omega⟩)), q⟩
    · exact w_b4 hw hn hwb hj h1 h2 (fun x hx => by rw [show x = j - w by omega]; exact q) K1 K0
set_option maxRecDepth 4000 in
theorem w_b2 (hw : 0 < w) (hn : w * h ≤ 100) (hwb : w ≤ 10) (hj : j < w * h) (h1 : ∀ x, 0 < j % w ∧ x + 1 = j → ¬ G 41 x = nI p) (K1 : (∃ x, adj w h j x ∧ G 41 x = nI p) → wp X m_Mo_survey 411 ((15, .int 1) :: L305 w h e lo he j mo m p k la) [] G Q) (K0 : (¬ ∃ x, adj w h j x ∧ G 41 x = nI p) → wp X m_Mo_survey 411 ((15, .int 0) :: L305 w h e lo he j mo m p k la) [] G Q) : wp X m_Mo_survey 335 (L305 w h e lo he j mo m p k la) [] G Q := by
  have hm := Nat.mod_lt j hw
  refine rn_wp (stops := [359, 411]) 40 ?_
  refine zi (nI_ne0 hw (by omega)) ?_
  refine bi (fun z => ?_) (fun z => ?_)
  · rw [pk_rem (by omega) hw (by omega), nI_m1 hw, nI_leI (by omega) (by omega)] at z
    exact w_b3 hw hn hwb hj h1 (fun x hx => absurd hx.1 (by omega)) K1 K0
  · rw [pk_rem (by omega) hw (by omega), nI_m1 hw, nI_leI (by omega) (by omega)] at z
    have ha : adj w h j (j + 1) := Or.inr (Or.inl ⟨by omega, rfl⟩)
    have hlt := adj_lt hw hj ha
    refine vi (by rw [nI_1]; exact vp_in_nI (by omega) (by omega)) ?_
    rw [nI_1, nI_clamp (by omega)]
    refine bi (fun q => ?_) (fun q => ?_)
    · exact K1 ⟨j + 1, ha, q⟩
    · exact w_b3 hw hn hwb hj h1 (fun x hx => by rw [hx.2]; exact q) K1 K0
set_option maxRecDepth 4000 in
theorem w_b1 (hw : 0 < w) (hn : w * h ≤ 100) (hwb : w ≤ 10) (hj : j < w * h) (K1 : (∃ x, adj w h j x ∧ G 41 x = nI p) → wp X m_Mo_survey 411 ((15, .int 1) :: L305 w h e lo he j mo m p k la) [] G Q) (K0 : (¬ ∃ x, adj w h j x ∧ G 41 x = nI p) → wp X m_Mo_survey 411 ((15, .int 0) :: L305 w h e lo he j mo m p k la) [] G Q) : wp X m_Mo_survey 314 (L305 w h e lo he j mo m p k la) [] G Q := by
  have hm := Nat.mod_lt j hw
  have hm2 := Nat.mod_le j w
  refine rn_wp (stops := [335, 411]) 40 ?_
  refine zi (nI_ne0 hw (by omega)) ?_
  refine bi (fun z => ?_) (fun z => ?_)
  · rw [pk_rem (by omega) hw (by omega), ← nI_0, nI_leI (by omega) (by omega)] at z
    exact w_b2 hw hn hwb hj (fun x hx => absurd hx.1 (by omega)) K1 K0
  · rw [pk_rem (by omega) hw (by omega), ← nI_0, nI_leI (by omega) (by omega)] at z
    refine vi (by rw [nI_m1 (by omega)]; exact vp_in_nI (by omega) (by omega)) ?_
    rw [nI_m1 (by omega), nI_clamp (by omega)]
    refine bi (fun q => ?_) (fun q => ?_)
    · exact K1 ⟨j - 1, Or.inl ⟨by omega, by omega⟩, q⟩
    · exact w_b2 hw hn hwb hj (fun x hx => by rw [show x = j - 1 by omega]; exact q) K1 K0
end
abbrev L294 (w h : Nat) (e lo he : Int32) (mo m : Int32) (p k : Nat) (la : Int32) : Lt := (13, .int mo) :: (12, .int m) :: (9, .int (nI p)) :: (11, .int (nI k)) :: (10, .int la) :: svB w h e lo he
set_option maxRecDepth 4000 in
theorem w_mi {X : Xt} {w h : Nat} {U : Nat → Prop} {e lo he la : Int32} {p k c0 : Nat} {G0 : Gt} {Q : Qt} (hw : 0 < w) (hn : w * h ≤ 100) (hwb : w ≤ 10) (hp : p ≤ 100) (hU : ∀ x, U x → x < w * h) (hk : U k) (K : ∀ G m mo, MI w h U k p G0 G m → ((mo = 0 ∧ clM w h p G (w * h)) ∨ (mo = 1 ∧ cP (fun x => G 41 x = 0) (w * h) < c0)) → wp X m_Mo_survey 294 (L294 w h e lo he mo (nI m) (p + 1) k la) [] G Q) : ∀ (z j m : Nat) (q mo mm : Int32) (G : Gt), q = nI j → mm = nI m → j + z = w * h → MI w h U k p G0 G m → ((mo = 0 ∧ clM w h p G j ∧ cP (fun x => G 41 x = 0) (w * h) ≤ c0) ∨ (mo = 1 ∧ cP (fun x => G 41 x = 0) (w * h) < c0)) → wp X m_Mo_survey 305 ((14, .int q) :: (13, .int mo) :: (12, .int mm) :: (9, .int (nI (p + 1))) :: (11, .int (nI k)) :: (10, .int la) :: svB w h e lo he) [] G Q
  | 0, j, m, q, mo, mm, G, hq, hm, hz, hM, hst => by
    subst hq
    subst hm
    have hj : j = w * h := by omega
    refine rn_wp (stops := [294, 305, 314]) 40 ?_
    refine bi_t (by rw [pk_mul, hj]; exact Int32.le_refl _) ?_
    refine wp_pick [1, 2, 3, 4, 5, 6, 7, 8, 9, 10, 11] (K G m mo hM ?_)
    rw [hj] at hst
    rcases hst with ⟨a, b, -⟩ | a
    · exact Or.inl ⟨a, b⟩
    · exact Or.inr a
  | z + 1, j, m, q, mo, mm, G, hq, hm, hz, hM, hst => by
    subst hq
    subst hm
    have hj : j < w * h := by omega
    refine rn_wp (stops := [294, 305, 314]) 40 ?_
    refine bi_f (by rw [pk_mul, nI_leI (by omega) (by omega)]; omega) ?_
    have no : ∀ b : Int32, ¬ (G 41 j = 0 ∧ bsM w h p G j) → wp X m_Mo_survey 305 ((14, .int (nI j + 1)) :: (15, .int b) :: (13, .int mo) :: (12, .int (nI m)) :: (9, .int (nI (p + 1))) :: (11, .int (nI k)) :: (10, .int la) :: svB w h e lo he) [] G Q := by
      intro b hb
      refine wp_pick [0, 2, 3, 4, 5, 6, 7, 8, 9, 10, 11, 12] (w_mi hw hn hwb hp hU hk K z (j + 1) m _ mo _ G (nI_1 _) rfl (by omega) hM ?_)
      rcases hst with ⟨a, b, c⟩ | a
      · refine Or.inl ⟨a, fun y hy => ?_, c⟩
        rcases Nat.lt_succ_iff_lt_or_eq.mp hy with y1 | y1
        · exact b y y1
        · rw [y1]; exact hb
      · exact Or.inr a
    refine w_b1 hw hn hwb hj (fun hb => ?_) (fun hb => ?_)
    · refine rn_wp (stops := [305]) 20 ?_
      refine vi (vp_in_nI (by omega) (by omega)) ?_
      rw [nI_clamp (by omega)]
      refine bj (fun g => ?_) (fun g => ?_)
      · exact no 1 (fun y => g y.1)
      · refine bi_f (by decide) ?_
        refine vi (vp_in_nI (by omega) (by omega)) ?_
        rw [nI_clamp (by omega)]
        obtain ⟨x, hx1, hx2⟩ := hb
        have hxl := adj_lt hw hj hx1
        have hne : ¬ j = k := fun y => by
          have := hM.2.2.2.2.2
          rw [← y, g] at this
          exact absurd this.symm (nI_ne0 (by omega) (by omega))
        obtain ⟨u1, u2⟩ := MI_put hp hne hj (fun hUj => rch_st (hM.2.2.1 x hxl hx2).2 hUj (adj_sym hw hj hx1)) hM g
        refine wp_pick [0, 1, 2, 4, 5, 6, 7, 8, 9, 10, 11, 12] (w_mi hw hn hwb hp hU hk K z (j + 1) (m + 1) _ 1 _ _ (nI_1 _) (nI_1 _) (by omega) u1 (Or.inr ⟨rfl, ?_⟩))
        rcases hst with ⟨a, b, c⟩ | a
        · omega
        · omega
    · refine rn_wp (stops := [305]) 20 ?_
      refine vi (vp_in_nI (by omega) (by omega)) ?_
      rw [nI_clamp (by omega)]
      refine bj (fun g => ?_) (fun g => ?_)
      · exact no 0 (fun y => g y.1)
      · refine bi_t rfl ?_
        exact no 0 (fun y => hb y.2)
set_option maxRecDepth 4000 in
theorem w_mw {X : Xt} {w h : Nat} {U : Nat → Prop} {e lo he la : Int32} {p k : Nat} {G0 : Gt} {Q : Qt} (hw : 0 < w) (hn : w * h ≤ 100) (hwb : w ≤ 10) (hp : p ≤ 100) (hU : ∀ x, U x → x < w * h) (hk : U k) (K : ∀ G m, MI w h U k p G0 G m → clM w h p G (w * h) → wp X m_Mo_survey 450 (L294 w h e lo he 0 (nI m) (p + 1) k la) [] G Q) : ∀ (c m : Nat) (G : Gt), cP (fun x => G 41 x = 0) (w * h) ≤ c → MI w h U k p G0 G m → wp X m_Mo_survey 294 (L294 w h e lo he 1 (nI m) (p + 1) k la) [] G Q
  | 0, m, G, hc, hM => by
    refine rn_wp (stops := [305, 450]) 20 ?_
    refine bi_f (by decide) ?_
    refine w_mi (c0 := 0) hw hn hwb hp hU hk (fun G' m' mo' hM' hst => ?_) (w * h) 0 m _ _ _ G rfl rfl (by omega) hM (Or.inl ⟨rfl, fun y hy => absurd hy (by omega), hc⟩)
    rcases hst with ⟨a, b⟩ | ⟨-, b⟩
    · subst a
      refine rn_wp (stops := [450]) 5 ?_
      refine bi_t rfl ?_
      exact K G' m' hM' b
    · omega
  | c + 1, m, G, hc, hM => by
    refine rn_wp (stops := [305, 450]) 20 ?_
    refine bi_f (by decide) ?_
    refine w_mi (c0 := c + 1) hw hn hwb hp hU hk (fun G' m' mo' hM' hst => ?_) (w * h) 0 m _ _ _ G rfl rfl (by omega) hM (Or.inl ⟨rfl, fun y hy => absurd hy (by omega), hc⟩)
    rcases hst with ⟨a, b⟩ | ⟨a, b⟩
    · subst a
      refine rn_wp (stops := [450]) 5 ?_
      refine bi_t rfl ?_
      exact K G' m' hM' b
    · subst a
      exact w_mw hw hn hwb hp hU hk K c m' G' (by omega) hM'
end
section
/-! the model: survey -/
abbrev gM (G : Gt) (A : Nat) : Nat → Int32 := fun x => G 29 (100 * A + x)
def cM (ga gb : Nat → Int32) (s : Int32) (G0 : Gt) (k : Nat) (G : Gt) : Prop := FrS G0 G ∧ ∀ x, x < k → (lsP ga gb s x → G 41 x = 0) ∧ (¬ lsP ga gb s x → G 41 x = -1)
theorem cM_put {ga gb : Nat → Int32} {s v : Int32} {G0 G : Gt} {k : Nat} (h : cM ga gb s G0 k G) (hv : (lsP ga gb s k → v = 0) ∧ (¬ lsP ga gb s k → v = -1)) : cM ga gb s G0 (k + 1) (sG G 41 (upd (G 41) k v)) := by
  refine ⟨h.1.s rfl, fun x hx => ?_⟩
  show (_ → upd (G 41) k v x = 0) ∧ (_ → upd (G 41) k v x = -1)
  by_cases q : x = k
  · subst q
    rw [pk_us]
    exact hv
  · rw [pk_un q]
    exact h.2 x (by omega)
set_option maxRecDepth 4000 in
theorem w_mc {X : Xt} {s e : Int32} {A B w h : Nat} {G0 : Gt} {Q : Qt} (hA : A < 8) (hB : B < 8) (hn : w * h ≤ 100) (K : ∀ G, cM (gM G0 A) (gM G0 B) s G0 (w * h) G → wp X m_Mo_survey 248 (svB w h e (sI (fun x => bI (lsP (gM G0 A) (gM G0 B) s x)) (w * h)) (sI (fun x => bI (hpP (gM G0 A) (gM G0 B) s x)) (w * h))) [] G Q) : ∀ (z k : Nat) (q lo he : Int32) (G : Gt), q = nI k → k + z = w * h → lo = sI (fun x => bI (lsP (gM G0 A) (gM G0 B) s x)) k → he = sI (fun x => bI (hpP (gM G0 A) (gM G0 B) s x)) k → cM (gM G0 A) (gM G0 B) s G0 k G → wp X m_Mo_survey 143 [(9, .int q), (8, .int he), (7, .int lo), (0, .ref 26), (1, .int (nI A)), (2, .int (nI B)), (3, .int (nI w)), (4, .int (nI h)), (5, .int s), (6, .int e)] [] G Q
  | 0, k, q, lo, he, G, hq, hz, hl, hh, hc => by
    subst hq
    have hk : k = w * h := by omega
    refine rn_wp (stops := [143, 248]) 80 ?_
    refine bi_t (by rw [pk_mul, hk]; exact Int32.le_refl _) ?_
    rw [hk] at hl hh hc
    subst hl
    subst hh
    exact wp_pick [3, 6, 7, 9, 2, 1] (K G hc)
  | z + 1, k, q, lo, he, G, hq, hz, hl, hh, hc => by
    subst hq
    have e29 : G 29 = G0 29 := hc.1.1 29 rfl (by decide)
    refine rn_wp (stops := [143, 248]) 80 ?_
    refine bi_f (by rw [pk_mul, nI_leI (by omega) (by omega)]; omega) ?_
    refine vi (by rw [(ixM hB (by omega)).2]; exact vp_in_nI (by omega) (by omega)) ?_
    refine vi (by rw [(ixM hA (by omega)).2]; exact vp_in_nI (by omega) (by omega)) ?_
    rw [(ixM hB (by omega)).1, (ixM hA (by omega)).1, e29]
    have nx : ∀ v l t : Int32, ((lsP (gM G0 A) (gM G0 B) s k → v = 0) ∧ (¬ lsP (gM G0 A) (gM G0 B) s k → v = -1)) → l = lo + bI (lsP (gM G0 A) (gM G0 B) s k) → t = he + bI (hpP (gM G0 A) (gM G0 B) s k) → wp X m_Mo_survey 143 [(9, .int (nI k + 1)), (8, .int t), (7, .int l), (10, .long ((gM G0 B k).toInt64 - (gM G0 A k).toInt64)), (0, .ref 26), (1, .int (nI A)), (2, .int (nI B)), (3, .int (nI w)), (4, .int (nI h)), (5, .int s), (6, .int e)] [] (sG G 41 (upd (G 41) k v)) Q := by
      intro v l t hv hl2 ht2
      refine wp_pick [0, 1, 2, 4, 5, 6, 7, 8, 9, 10] (w_mc hA hB hn K z (k + 1) _ _ _ _ (nI_1 _) (by omega) ?_ ?_ (cM_put hc hv))
      · rw [hl2, hl]
        rfl
      · rw [ht2, hh]
        rfl
    refine bi (fun g => ?_) (fun g => ?_)
    · have hl1 : ¬ lsP (gM G0 A) (gM G0 B) s k := fun y => y g
      refine vi (vp_in_nI (by omega) (by omega)) ?_
      rw [nI_clamp (by omega)]
      refine bi_t g ?_
      refine bi (fun g2 => ?_) (fun g2 => ?_)
      · have hh1 : ¬ hpP (gM G0 A) (gM G0 B) s k := fun y => y g2
        exact nx (-1) (lo + 0) (he + 0) ⟨fun y => absurd y hl1, fun _ => rfl⟩ (by rw [bI_f hl1]) (by rw [bI_f hh1])
      · have hh1 : hpP (gM G0 A) (gM G0 B) s k := g2
        exact nx (-1) (lo + 0) (he + 1) ⟨fun y => absurd y hl1, fun _ => rfl⟩ (by rw [bI_f hl1]) (by rw [bI_t hh1])
    · have hl1 : lsP (gM G0 A) (gM G0 B) s k := g
      refine vi (vp_in_nI (by omega) (by omega)) ?_
      rw [nI_clamp (by omega)]
      refine bi_f g ?_
      refine bi (fun g2 => ?_) (fun g2 => ?_)
      · have hh1 : ¬ hpP (gM G0 A) (gM G0 B) s k := fun y => y g2
        exact nx 0 (lo + 1) (he + 0) ⟨fun _ => rfl, fun y => absurd hl1 y⟩ (by rw [bI_t hl1]) (by rw [bI_f hh1])
      · have hh1 : hpP (gM G0 A) (gM G0 B) s k := g2
        exact nx 0 (lo + 1) (he + 1) ⟨fun _ => rfl, fun y => absurd hl1 y⟩ (by rw [bI_t hl1]) (by rw [bI_t hh1])
def pI (w h : Nat) (U : Nat → Prop) (G0 : Gt) (k : Nat) (G : Gt) : Prop := FrS G0 G ∧ (∀ x, x < w * h → (G 41 x = 0 ↔ Us w h U k x)) ∧ ∀ x, x < w * h → (G 41 x).toInt ≤ (pcs w h U k).1
theorem pI_MI {w h : Nat} {U : Nat → Prop} {G0 G : Gt} {k : Nat} (hn : w * h ≤ 100) (hk : k < w * h) (hkk : Us w h U k k) (h1 : pI w h U G0 k G) : MI w h (Us w h U k) k (pcs w h U k).1 G0 (sG G 41 (upd (G 41) k (nI ((pcs w h U k).1 + 1)))) 1 := by
  obtain ⟨g1, g2, g3⟩ := h1
  have hr := pcs_rng (U := U) hn k
  have hne : ¬ nI ((pcs w h U k).1 + 1) = 0 := nI_ne0 (by omega) (by omega)
  have hbig : ∀ x, x < w * h → ¬ G 41 x = nI ((pcs w h U k).1 + 1) := by
    intro x hx z
    have := g3 x hx
    rw [z, nI_toInt (by omega)] at this
    omega
  refine ⟨g1.s rfl, fun x hx => ?_, fun x hx => ?_, ?_, fun x hx => ?_, pk_us⟩
  · show upd (G 41) k _ x = 0 ↔ Us w h U k x ∧ ¬ upd (G 41) k _ x = _
    by_cases q : x = k
    · subst q
      rw [pk_us]
      exact ⟨fun z => absurd z hne, fun z => absurd rfl z.2⟩
    · rw [pk_un q, g2 x hx]
      exact ⟨fun z => ⟨z, hbig x hx⟩, fun z => z.1⟩
  · show upd (G 41) k _ x = _ → _
    by_cases q : x = k
    · subst q
      exact fun _ => ⟨hkk, rch_rf _ _ _ _⟩
    · rw [pk_un q]
      exact fun z => absurd z (hbig x hx)
  · have a1 : cP (fun x => G 41 x = 0) (w * h) = cP (fun x => upd (G 41) k (nI ((pcs w h U k).1 + 1)) x = 0) (w * h) + 1 := by
      refine cP_del (k := k) ((g2 k hk).mpr hkk) (fun z => hne (by rw [pk_us] at z; exact z)) hk (fun x hx q => ?_)
      show _ ↔ upd (G 41) k _ x = 0
      rw [pk_un q]
    have a2 : cP (fun x => G 41 x = 0) (w * h) = cP (Us w h U k) (w * h) := cP_congr (fun x hx => g2 x hx)
    show 1 + cP (fun x => upd (G 41) k (nI ((pcs w h U k).1 + 1)) x = 0) (w * h) = _
    omega
  · show (upd (G 41) k _ x).toInt ≤ _
    by_cases q : x = k
    · subst q
      rw [pk_us, nI_toInt (by omega)]
      omega
    · rw [pk_un q]
      have := g3 x hx
      omega
set_option maxRecDepth 4000 in
theorem w_mp {X : Xt} {w h : Nat} {U : Nat → Prop} {e lo he : Int32} {G0 : Gt} {Q : Qt} (hw : 0 < w) (hn : w * h ≤ 100) (hwb : w ≤ 10) (hU : ∀ x, U x → x < w * h) (K : ∀ G, FrS G0 G → wp X m_Mo_survey 472 [(10, .int (nI (pcs w h U (w * h)).2)), (9, .int (nI (pcs w h U (w * h)).1)), (6, .int e), (7, .int lo), (8, .int he)] [] G Q) : ∀ (z k : Nat) (q la pa : Int32) (G : Gt), q = nI k → k + z = w * h → la = nI (pcs w h U k).2 → pa = nI (pcs w h U k).1 → pI w h U G0 k G → wp X m_Mo_survey 257 ((11, .int q) :: (10, .int la) :: (9, .int pa) :: svB w h e lo he) [] G Q
  | 0, k, q, la, pa, G, hq, hz, hl, hp, hI => by
    subst hq
    have hk : k = w * h := by omega
    refine rn_wp (stops := [257, 472]) 40 ?_
    refine bi_t (by rw [pk_mul, hk]; exact Int32.le_refl _) ?_
    rw [hk] at hl hp
    subst hl
    subst hp
    exact wp_pick [1, 2, 6, 7, 8] (K G hI.1)
  | z + 1, k, q, la, pa, G, hq, hz, hl, hp, hI => by
    subst hq
    subst hl
    subst hp
    have hk : k < w * h := by omega
    have hr := pcs_rng (U := U) hn k
    refine rn_wp (stops := [257, 294, 472]) 40 ?_
    refine bi_f (by rw [pk_mul, nI_leI (by omega) (by omega)]; omega) ?_
    refine vi (vp_in_nI (by omega) (by omega)) ?_
    rw [nI_clamp (by omega)]
    refine bj (fun g => ?_) (fun g => ?_)
    · have hkk : ¬ Us w h U k k := fun y => g ((hI.2.1 k hk).mpr y)
      refine w_mp hw hn hwb hU K z (k + 1) _ _ _ G (nI_1 _) (by omega) (by rw [pcs_0 hkk]) (by rw [pcs_0 hkk]) ⟨hI.1, fun x hx => ?_, fun x hx => ?_⟩
      · rw [Us_0 hkk]
        exact hI.2.1 x hx
      · rw [pcs_0 hkk]
        exact hI.2.2 x hx
    · have hkk : Us w h U k k := (hI.2.1 k hk).mp g
      refine vi (vp_in_nI (by omega) (by omega)) ?_
      rw [nI_clamp (by omega), nI_1]
      have hM := pI_MI hn hk hkk hI
      refine w_mw hw hn hwb (by omega) (Us_lt hU k) hkk (fun G1 m1 hM1 hc1 => ?_) (w * h) 1 _ (cP_le _ _) hM
      have hend := MI_end hw (Us_lt hU k) hkk hM1 hc1
      obtain ⟨q0, q1, q2, q3, q4, q5⟩ := hM1
      have esz : szS w h U k = m1 := by
        have h2 : cP (fun x => G1 41 x = 0) (w * h) = cP (Us w h U (k + 1)) (w * h) := cP_congr (fun x hx => (hend x hx).trans (Us_1 hkk x).symm)
        unfold szS
        rw [← h2, ← q3]
        exact Nat.add_sub_cancel _ _
      have hm100 : m1 ≤ 100 := by
        have := cP_le (Us w h U k) (w * h)
        omega
      have nx : ∀ la' : Int32, la' = nI (if (pcs w h U k).2 < m1 then m1 else (pcs w h U k).2) → wp X m_Mo_survey 257 ((11, .int (nI k + 1)) :: (10, .int la') :: (13, .int 0) :: (12, .int (nI m1)) :: (9, .int (nI ((pcs w h U k).1 + 1))) :: svB w h e lo he) [] G1 Q := by
        intro la' hla
        refine wp_pick [0, 1, 4, 5, 6, 7, 8, 9, 10] (w_mp hw hn hwb hU K z (k + 1) _ _ _ G1 (nI_1 _) (by omega) ?_ ?_ ⟨q0, fun x hx => ?_, fun x hx => ?_⟩)
        · rw [hla, pcs_1 hkk, esz]
        · rw [pcs_1 hkk]
        · rw [Us_1 hkk]
          exact hend x hx
        · rw [pcs_1 hkk]
          have := q4 x hx
          show _ ≤ (((pcs w h U k).1 + 1 : Nat) : Int)
          omega
      refine rn_wp (stops := [257]) 20 ?_
      refine bi (fun g2 => ?_) (fun g2 => ?_)
      · rw [nI_leI (by omega) (by omega)] at g2
        exact nx _ (by rw [if_neg (by omega)])
      · rw [nI_leI (by omega) (by omega)] at g2
        exact nx _ (by rw [if_pos (by omega)])
theorem w_me {X : Xt} {e lo he la pa : Int32} {G : Gt} {Q : Qt} (K : Q (some (.int (if e = 0 then lo else if e = 1 then he else if e = 2 then pa else la))) G) : wp X m_Mo_survey 472 [(10, .int la), (9, .int pa), (6, .int e), (7, .int lo), (8, .int he)] [] G Q := by
  refine rn_wp (stops := []) 40 ?_
  refine bj (fun h0 => ?_) (fun h0 => ?_)
  · rw [if_neg h0] at K
    refine bj (fun h1 => ?_) (fun h1 => ?_)
    · rw [if_neg h1] at K
      refine bj (fun h2 => ?_) (fun h2 => ?_)
      · rw [if_neg h2] at K
        exact K
      · rw [if_pos h2] at K
        exact K
    · rw [if_pos h1] at K
      exact K
  · rw [if_pos h0] at K
    exact K
theorem hasI_0 {z n : Int32} (hn : 0 ≤ n) : hasI z 0 n ↔ n ≤ z := by
  unfold hasI
  rw [Int32.sub_zero]
  exact ⟨fun q => q.2.2, fun q => ⟨Int32.le_refl _, hn, q⟩⟩
set_option maxRecDepth 8000 in
theorem c_Mo_survey {X : Xt} {a b w h s e : Int32} {G : Gt} {Q : Qt} (h0 : G 26 0 = 0)
    (K1 : ¬ svP a b w h s e → Q (some (.int (-1000001))) G)
    (K2 : svP a b w h s e → ¬ (0 ≤ G 27 a.toNatClampNeg ∧ 0 ≤ G 27 b.toNatClampNeg) → Q (some (.int (-1000011))) (sG (sG G 26 (upd (G 26) 1 0)) 26 (upd (upd (G 26) 1 0) 1 1)))
    (K3 : svP a b w h s e → 0 ≤ G 27 a.toNatClampNeg → 0 ≤ G 27 b.toNatClampNeg → ¬ (hasI (G 28 a.toNatClampNeg) 0 (w * h) ∧ hasI (G 28 b.toNatClampNeg) 0 (w * h)) → Q (some (.int (-1000012))) (sG (sG G 26 (upd (G 26) 1 0)) 26 (upd (upd (G 26) 1 0) 1 2)))
    (K4 : svP a b w h s e → 0 ≤ G 27 a.toNatClampNeg → 0 ≤ G 27 b.toNatClampNeg → hasI (G 28 a.toNatClampNeg) 0 (w * h) → hasI (G 28 b.toNatClampNeg) 0 (w * h) → ∀ G' W H, FrS (sG G 26 (upd (G 26) 1 0)) G' → w = nI W → h = nI H → W ≤ 10 → H ≤ 10 → Q (some (.int (svV (gM G a.toNatClampNeg) (gM G b.toNatClampNeg) s W H e))) G') : con X m_Mo_survey [.ref 26, .int a, .int b, .int w, .int h, .int s, .int e] G Q := by
  refine con_rm 120 [143] (by decide) rfl (by decide +kernel) h0 ?_
  refine c_isSheet (bib (fun g => K1 (fun z => g z.1)) (fun ha => ?_))
  refine c_isSheet (bib (fun g => K1 (fun z => g z.2.1)) (fun hb => ?_))
  refine c_in 1 10 rfl rfl (bib (fun g => K1 (fun z => g z.2.2.1)) (fun hw => ?_))
  refine c_in 1 10 rfl rfl (bib (fun g => K1 (fun z => g z.2.2.2.1)) (fun hh => ?_))
  refine c_in 1 1000 rfl rfl (bib (fun g => K1 (fun z => g z.2.2.2.2.1)) (fun hs => ?_))
  refine c_in 0 3 rfl rfl (bjb (fun he => ?_) (fun g => K1 (fun z => g z.2.2.2.2.2)))
  have hp : svP a b w h s e := ⟨ha, hb, hw, hh, hs, he⟩
  obtain ⟨W, W0, W10, eW⟩ := tenN hw
  obtain ⟨H, H0, H10, eH⟩ := tenN hh
  have hn : W * H ≤ 100 := Nat.mul_le_mul W10 H10
  have hwh : 0 ≤ w * h := by rw [eW, eH, pk_mul]; exact nI_pos' (by omega)
  refine vi (sN ha).2 (bi (fun g => ?_) (fun m1 => ?_))
  · refine c_Mfound ?_
    exact K2 hp (fun z => Int32.not_lt.mpr z.1 g)
  refine vi (sN hb).2 (bi (fun m2 => ?_) (fun g => ?_))
  · have m1 : 0 ≤ G 27 a.toNatClampNeg := Int32.not_lt.mp m1
    have m2 : 0 ≤ G 27 b.toNatClampNeg := m2
    refine vi (sN ha).2 (bi (fun g => ?_) (fun i1 => ?_))
    · refine c_Mfound ?_
      exact K3 hp m1 m2 (fun z => Int32.not_lt.mpr ((hasI_0 hwh).mp z.1) g)
    · have i1 : hasI (G 28 a.toNatClampNeg) 0 (w * h) := (hasI_0 hwh).mpr (Int32.not_lt.mp i1)
      refine vi (sN hb).2 (bi (fun i2 => ?_) (fun g => ?_))
      · have i2 : hasI (G 28 b.toNatClampNeg) 0 (w * h) := (hasI_0 hwh).mpr i2
        have k4 := K4 hp m1 m2 i1 i2
        obtain ⟨ea, -, -⟩ := toN ha.1
        obtain ⟨eb, -, -⟩ := toN hb.1
        have hA := (sN ha).1
        have hB := (sN hb).1
        clear K1 K2 K3 K4 m1 m2 i1 i2 hwh hp ha hb
        generalize a.toNatClampNeg = A at *
        generalize b.toNatClampNeg = B at *
        subst ea
        subst eb
        subst eW
        subst eH
        refine w_mc (G0 := sG G 26 (upd (G 26) 1 0)) hA hB hn (fun G1 c1 => ?_) (W * H) 0 _ _ _ _ rfl (by omega) rfl rfl ⟨FrS.rf _, fun x hx => absurd hx (by omega)⟩
        refine rn_wp (stops := [257]) 10 ?_
        refine w_mp (U := svU (gM G A) (gM G B) s (W * H)) (G0 := sG G 26 (upd (G 26) 1 0)) W0 hn W10 (fun x hx => hx.1) (fun G2 f2 => ?_) (W * H) 0 _ _ _ _ rfl (by omega) rfl rfl ⟨c1.1, fun x hx => ?_, fun x hx => ?_⟩
        · refine w_me ?_
          exact k4 G2 W H f2 rfl rfl W10 H10
        · by_cases q : lsP (gM G A) (gM G B) s x
          · exact ⟨fun _ => ⟨hx, q⟩, fun _ => (c1.2 x hx).1 q⟩
          · refine ⟨fun y => ?_, fun y => absurd y.2 q⟩
            rw [(c1.2 x hx).2 q] at y
            exact absurd y (by decide)
        · by_cases q : lsP (gM G A) (gM G B) s x
          · rw [(c1.2 x hx).1 q]
            exact Int.le_refl _
          · rw [(c1.2 x hx).2 q]
            show (-1 : Int) ≤ 0
            decide
      · refine c_Mfound ?_
        exact K3 hp m1 m2 (fun z => g ((hasI_0 hwh).mp z.2))
  · refine c_Mfound ?_
    exact K2 hp (fun z => g z.2)
theorem svV_congr {ga gb ga' gb' : Nat → Int32} {s e : Int32} {w h : Nat} (h1 : ∀ x, x < w * h → ga x = ga' x) (h2 : ∀ x, x < w * h → gb x = gb' x) : svV ga gb s w h e = svV ga' gb' s w h e := by
  have e1 : sI (fun x => bI (lsP ga gb s x)) (w * h) = sI (fun x => bI (lsP ga' gb' s x)) (w * h) := sI_congr _ (fun x hx => bI_congr (by unfold lsP; rw [h1 x hx, h2 x hx]))
  have e2 : sI (fun x => bI (hpP ga gb s x)) (w * h) = sI (fun x => bI (hpP ga' gb' s x)) (w * h) := sI_congr _ (fun x hx => bI_congr (by unfold hpP; rw [h1 x hx, h2 x hx]))
  have e3 : svU ga gb s (w * h) = svU ga' gb' s (w * h) := by
    funext x
    refine propext (and_congr_right (fun hx => ?_))
    unfold lsP
    rw [h1 x hx, h2 x hx]
  unfold svV
  rw [e1, e2, e3]
theorem p_survey {X : Xt} {G : Gt} (hI : Inv G) {a b w h s e : Int32} : pair X m_SW_survey m_Mo_survey [.int a, .int b, .int w, .int h, .int s, .int e] G := by
  obtain ⟨hW, hT, hS, hP, hs, h0⟩ := id hI
  have up : ∀ s : Int32, 0 ≤ s ∧ s ≤ 7 → ¬ G 4 s.toNatClampNeg = -1 → 0 ≤ G 27 s.toNatClampNeg ∧ G 28 s.toNatClampNeg = G 4 s.toNatClampNeg := by
    intro s h h2
    have hh := IS_at hS (sN h).1
    have h5 := Decidable.byContradiction fun z => h2 (hh.1.mpr z)
    exact ⟨h5, (hh.2 h5).1⟩
  refine c_SW_survey (fun g => pq ?_) (fun g g2 => pq ?_) (fun g m1 m2 g2 => pq ?_) (fun g m1 m2 i1 i2 G' W H hF eW eH W0 H0 W10 H10 hn => pq ?_)
  · exact c_Mo_survey h0 (fun _ => ⟨rfl, hI⟩) (fun z => absurd z g) (fun z => absurd z g) (fun z => absurd z g)
  · have hn : ¬ (0 ≤ G 27 a.toNatClampNeg ∧ 0 ≤ G 27 b.toNatClampNeg) := fun z => by
      rcases g2 with h2 | h2
      · exact (IS_at hS (sN g.1).1).1.mp h2 z.1
      · exact (IS_at hS (sN g.2.1).1).1.mp h2 z.2
    exact c_Mo_survey h0 (fun z => absurd g z) (fun _ _ => ⟨rfl, ⟨hW, hT, hS, hP, rfl, h0⟩⟩) (fun _ z1 z2 => absurd ⟨z1, z2⟩ hn) (fun _ z1 z2 => absurd ⟨z1, z2⟩ hn)
  · obtain ⟨a1, a2⟩ := up a g.1 m1
    obtain ⟨b1, b2⟩ := up b g.2.1 m2
    refine c_Mo_survey h0 (fun z => absurd g z) (fun _ z => absurd ⟨a1, b1⟩ z) (fun _ _ _ _ => ⟨rfl, ⟨hW, hT, hS, hP, rfl, h0⟩⟩) (fun _ _ _ z1 z2 => ?_)
    have z1 : hasI (G 28 a.toNatClampNeg) 0 (w * h) := z1
    have z2 : hasI (G 28 b.toNatClampNeg) 0 (w * h) := z2
    rw [a2] at z1
    rw [b2] at z2
    exact absurd ⟨z1, z2⟩ g2
  · obtain ⟨a1, a2⟩ := up a g.1 m1
    obtain ⟨b1, b2⟩ := up b g.2.1 m2
    have f27 : G' 27 = G 27 := hF.1 27 rfl (by decide)
    have f28 : G' 28 = G 28 := hF.1 28 rfl (by decide)
    have f29 : G' 29 = G 29 := hF.1 29 rfl (by decide)
    have h0' : G' 26 0 = 0 := by rw [hF.2 0 (by decide)]; exact h0
    have hI' := Inv_fr hF hI
    have a1' : 0 ≤ G' 27 a.toNatClampNeg := by rw [f27]; exact a1
    have b1' : 0 ≤ G' 27 b.toNatClampNeg := by rw [f27]; exact b1
    have i1' : hasI (G' 28 a.toNatClampNeg) 0 (w * h) := by rw [f28, a2]; exact i1
    have i2' : hasI (G' 28 b.toNatClampNeg) 0 (w * h) := by rw [f28, b2]; exact i2
    refine c_Mo_survey (G := sG G' 0 (upd (G' 0) 7 0)) h0' (fun z => absurd g z) (fun _ z => absurd ⟨a1', b1'⟩ z) (fun _ _ _ z => absurd ⟨i1', i2'⟩ z) (fun _ _ _ _ _ G'' W' H' hF' eW' eH' W10' H10' => ⟨?_, Inv_fr hF' (Inv_st hI' 0)⟩)
    have q1 : W = W' := by rw [eW, nI_eq (by omega) (by omega)] at eW'; exact eW'
    have q2 : H = H' := by rw [eH, nI_eq (by omega) (by omega)] at eH'; exact eH'
    subst q1
    subst q2
    have hwh : w * h = nI (W * H) := by rw [eW, eH, pk_mul]
    have hwh0 : 0 ≤ w * h := by rw [hwh]; exact nI_pos' (by omega)
    have r1 := le32.mp ((hasI_0 hwh0).mp i1)
    have r2 := le32.mp ((hasI_0 hwh0).mp i2)
    rw [hwh, nI_toInt (by omega)] at r1 r2
    have t1 := ((IS_at hS (sN g.1).1).2 a1).2.2.2
    have t2 := ((IS_at hS (sN g.2.1).1).2 b1).2.2.2
    show some (Value.int (svV (gM G' a.toNatClampNeg) (gM G' b.toNatClampNeg) s W H e)) = some (Value.int (svV (gX G a) (gX G b) s W H e))
    have e1 : gM G' a.toNatClampNeg = gM G a.toNatClampNeg := by unfold gM; rw [f29]
    have e2 : gM G' b.toNatClampNeg = gM G b.toNatClampNeg := by unfold gM; rw [f29]
    rw [e1, e2, svV_congr (ga := gM G a.toNatClampNeg) (gb := gM G b.toNatClampNeg) (ga' := gX G a) (gb' := gX G b) (fun x hx => (t1 x (by omega)).symm) (fun x hx => (t2 x (by omega)).symm)]
end
section
/-! the quarry: a pure picture. y: yields, n: needs, t: of each sort the bits of the layers that may take of it; m: the bits of filled layers -/
def bey (t m : Nat) : Bool := (t.testBit 0 && !m.testBit 0) || ((t.testBit 1 && !m.testBit 1) || (t.testBit 2 && !m.testBit 2))
def clr (t b : Nat) : Nat := if t.testBit b = true then t - 2 ^ b else t
theorem bey_and : ∀ t, t < 8 → ∀ m, m < 8 → ∀ m1, m1 < 8 → bey t (m &&& m1) = (bey t m || bey t m1) := by decide +kernel
theorem bey_or : ∀ t, t < 8 → ∀ m, m < 8 → ∀ m1, m1 < 8 → bey t (m ||| m1) = true → bey t m = true ∧ bey t m1 = true := by decide +kernel
theorem m_and : ∀ m, m < 8 → ∀ m1, m1 < 8 → m &&& m1 < 8 ∧ m ||| m1 < 8 := by decide +kernel
theorem clr_lt : ∀ t, t < 8 → ∀ b, b < 3 → clr t b < 8 := by decide +kernel
theorem bey_in : ∀ t, t < 8 → ∀ b, b < 3 → ∀ m, m < 8 → m.testBit b = true → bey (clr t b) m = bey t m := by decide +kernel
theorem bey_op' : ∀ t, t < 8 → ∀ b, b < 3 → ∀ m, m < 8 → (!t.testBit b || (m.testBit b || bey t m)) = true := by decide +kernel
theorem bey_op (t : Nat) (ht : t < 8) (b : Nat) (hb : b < 3) (m : Nat) (hm : m < 8) (h1 : t.testBit b = true) (h2 : ¬ m.testBit b = true) : bey t m = true := by
  have := bey_op' t ht b hb m hm
  rw [h1, Bool.eq_false_iff.mpr h2] at this
  simpa using this
theorem bey_4' : ∀ t, t < 8 → ∀ b, b < 3 → ∀ m, m < 8 → ∀ m1, m1 < 8 → (bey (clr t b) m || (!m1.testBit b || !bey t (m ||| m1))) = true := by decide +kernel
theorem bey_4 (t : Nat) (ht : t < 8) (b : Nat) (hb : b < 3) (m : Nat) (hm : m < 8) (h1 : bey (clr t b) m = false) (m1 : Nat) (hm1 : m1 < 8) (h2 : m1.testBit b = true) : bey t (m ||| m1) = false := by
  have := bey_4' t ht b hb m hm m1 hm1
  rw [h1, h2] at this
  simpa using this
theorem bit_2 : ∀ b, b < 3 → 2 ^ b < 8 ∧ (2 ^ b).testBit b = true ∧ ∀ k, k < 3 → k ≠ b → (2 ^ b).testBit k = false := by decide +kernel
def upn (f : Nat → Nat) (k v : Nat) : Nat → Nat := fun j => if j = k then v else f j
theorem upn_s {f : Nat → Nat} {k v : Nat} : upn f k v k = v := if_pos rfl
theorem upn_n {f : Nat → Nat} {k v j : Nat} (h : j ≠ k) : upn f k v j = f j := if_neg h
theorem upn_id (f : Nat → Nat) (k : Nat) : upn f k (f k) = f := by
  funext j
  unfold upn
  split
  · rename_i h; rw [h]
  · rfl
theorem tS_upd {f g : Nat → Nat} {k : Nat} : ∀ {n : Nat}, k < n → (∀ j, j < n → j ≠ k → g j = f j) → tS g n + f k = tS f n + g k
  | 0, h, _ => absurd h (by omega)
  | n + 1, h, hj => by
    have e1 : tS g (n + 1) = tS g n + g n := rfl
    have e2 : tS f (n + 1) = tS f n + f n := rfl
    by_cases e : n = k
    · have : tS g n = tS f n := tS_congr n (fun j q => hj j (by omega) (by omega))
      rw [e1, e2, this, e]
      omega
    · have ih := tS_upd (n := n) (k := k) (by omega) (fun j q => hj j (by omega))
      rw [e1, e2, hj n (by omega) e]
      omega
theorem tS_ge {f g h e x : Nat → Nat} : ∀ {n : Nat}, (∀ j, j < n → h j + e j + x j ≤ f j + g j) → tS h n + tS e n + tS x n ≤ tS f n + tS g n
  | 0, _ => Nat.le_refl _
  | n + 1, hj => by
    have ih := tS_ge (n := n) (fun j q => hj j (by omega))
    have := hj n (by omega)
    show tS h n + h n + (tS e n + e n) + (tS x n + x n) ≤ tS f n + f n + (tS g n + g n)
    omega
theorem tS_one {a Y : Nat} : ∀ {n : Nat}, a < n → tS (fun s => if s = a then Y else 0) n = Y
  | 0, h => absurd h (by omega)
  | n + 1, h => by
    show tS _ n + (if n = a then Y else 0) = Y
    by_cases e : n = a
    · rw [if_pos e]
      have : tS (fun s => if s = a then Y else 0) n = tS (fun _ => 0) n := tS_congr n (fun j hj => if_neg (by omega))
      have z : ∀ k, tS (fun _ => 0) k = 0 := by
        intro k
        induction k with
        | zero => rfl
        | succ k ih => show tS _ k + 0 = 0; rw [ih]
      rw [this, z]
      omega
    · rw [if_neg e, tS_one (n := n) (by omega)]
      rfl
def ndT (n : Nat → Nat) (m : Nat) : Nat → Nat := fun k => if m.testBit k = true then n k else 0
def ylT (y t : Nat → Nat) (m : Nat) : Nat → Nat := fun s => if bey (t s) m = true then y s else 0
/-- what is cut off with the layers of m filled -/
def cutN (y n t : Nat → Nat) (m : Nat) : Nat := tS (ndT n m) 3 + tS (ylT y t m) 4
abbrev TI (t : Nat → Nat) : Prop := ∀ s, s < 4 → t s < 8
abbrev CI (y n t : Nat → Nat) (L : Nat) : Prop := ∀ m, m < 8 → L ≤ cutN y n t m
theorem cut_sub {y n t : Nat → Nat} {a m m1 : Nat} (hT : TI t) (ha : a < 4) (hm : m < 8) (hm1 : m1 < 8) (h1 : bey (t a) m = true) (h2 : bey (t a) m1 = true) (h3 : bey (t a) (m ||| m1) = false) : cutN y n t (m &&& m1) + cutN y n t (m ||| m1) + y a ≤ cutN y n t m + cutN y n t m1 := by
  have e1 : tS (ndT n (m &&& m1)) 3 + tS (ndT n (m ||| m1)) 3 + tS (fun _ => 0) 3 ≤ tS (ndT n m) 3 + tS (ndT n m1) 3 := by
    refine tS_ge (fun k hk => ?_)
    unfold ndT
    rw [Nat.testBit_and, Nat.testBit_or]
    cases m.testBit k <;> cases m1.testBit k <;> simp
  have e2 : tS (ylT y t (m &&& m1)) 4 + tS (ylT y t (m ||| m1)) 4 + tS (fun s => if s = a then y a else 0) 4 ≤ tS (ylT y t m) 4 + tS (ylT y t m1) 4 := by
    refine tS_ge (fun s hs => ?_)
    unfold ylT
    have a1 := bey_and (t s) (hT s hs) m hm m1 hm1
    have a2 := bey_or (t s) (hT s hs) m hm m1 hm1
    by_cases e : s = a
    · subst e
      rw [a1, h1, h2, h3, if_pos rfl]
      simp
    · rw [a1, if_neg e]
      revert a2
      cases bey (t s) m <;> cases bey (t s) m1 <;> cases bey (t s) (m ||| m1) <;> simp
  rw [tS_one ha] at e2
  unfold cutN
  omega
/-- how a cut changes by a part v from a to b -/
theorem cut_rel {y n t : Nat → Nat} {a b v m : Nat} (hT : TI t) (ha : a < 4) (hb : b < 3) (hm : m < 8) (ho : (t a).testBit b = true) (hy : v ≤ y a) (hn : v ≤ n b) : (m.testBit b = true ∧ bey (t a) m = true ∧ cutN (upn y a (y a - v)) (upn n b (n b - v)) (upn t a (clr (t a) b)) m + 2 * v = cutN y n t m) ∨ (m.testBit b = true ∧ bey (t a) m = false ∧ cutN (upn y a (y a - v)) (upn n b (n b - v)) (upn t a (clr (t a) b)) m + v = cutN y n t m) ∨ (¬ m.testBit b = true ∧ bey (t a) m = true ∧ bey (clr (t a) b) m = true ∧ cutN (upn y a (y a - v)) (upn n b (n b - v)) (upn t a (clr (t a) b)) m + v = cutN y n t m) ∨ (¬ m.testBit b = true ∧ bey (t a) m = true ∧ bey (clr (t a) b) m = false ∧ cutN (upn y a (y a - v)) (upn n b (n b - v)) (upn t a (clr (t a) b)) m + y a = cutN y n t m) := by
  have e1 := tS_upd (f := ndT n m) (g := ndT (upn n b (n b - v)) m) (k := b) (n := 3) hb (fun j _ hj => by unfold ndT; rw [upn_n hj])
  have e2 := tS_upd (f := ylT y t m) (g := ylT (upn y a (y a - v)) (upn t a (clr (t a) b)) m) (k := a) (n := 4) ha (fun j _ hj => by unfold ylT; rw [upn_n hj, upn_n hj])
  have g1 : ndT n m b = if m.testBit b = true then n b else 0 := rfl
  have g2 : ndT (upn n b (n b - v)) m b = if m.testBit b = true then n b - v else 0 := by unfold ndT; rw [upn_s]
  have g3 : ylT y t m a = if bey (t a) m = true then y a else 0 := rfl
  have g4 : ylT (upn y a (y a - v)) (upn t a (clr (t a) b)) m a = if bey (clr (t a) b) m = true then y a - v else 0 := by unfold ylT; rw [upn_s, upn_s]
  unfold cutN
  generalize tS (ndT (upn n b (n b - v)) m) 3 = A1 at *
  generalize tS (ylT (upn y a (y a - v)) (upn t a (clr (t a) b)) m) 4 = A2 at *
  generalize tS (ndT n m) 3 = B1 at *
  generalize tS (ylT y t m) 4 = B2 at *
  rw [g1, g2] at e1
  rw [g3, g4] at e2
  by_cases hmb : m.testBit b = true
  · rw [if_pos hmb, if_pos hmb] at e1
    rw [bey_in (t a) (hT a ha) b hb m hm hmb] at e2
    cases hbe : bey (t a) m
    · rw [hbe] at e2
      simp at e2
      exact Or.inr (Or.inl ⟨hmb, rfl, by omega⟩)
    · rw [hbe] at e2
      simp at e2
      exact Or.inl ⟨hmb, rfl, by omega⟩
  · rw [if_neg hmb, if_neg hmb] at e1
    have hbe := bey_op (t a) (hT a ha) b hb m hm ho hmb
    rw [hbe] at e2
    cases hc : bey (clr (t a) b) m
    · rw [hc] at e2
      simp at e2
      exact Or.inr (Or.inr (Or.inr ⟨hmb, hbe, rfl, by omega⟩))
    · rw [hc] at e2
      simp at e2
      exact Or.inr (Or.inr (Or.inl ⟨hmb, hbe, rfl, by omega⟩))
/-- the most between a and b -/
def hiP (y n t : Nat → Nat) (a b L v : Nat) : Prop := (v ≤ y a ∧ v ≤ n b) ∧ (∀ m, m < 8 → m.testBit b = true → bey (t a) m = true → v + L ≤ cutN y n t m) ∧ (v = y a ∨ v = n b ∨ ∃ m, m < 8 ∧ m.testBit b = true ∧ bey (t a) m = true ∧ v + L = cutN y n t m)
theorem key_1 {y n t : Nat → Nat} {a b L v : Nat} (hT : TI t) (hC : CI y n t L) (ha : a < 4) (hb : b < 3) (ho : (t a).testBit b = true) (hv : hiP y n t a b L v) : ∀ m, m < 8 → L ≤ cutN (upn y a (y a - v)) (upn n b (n b - v)) (upn t a (clr (t a) b)) m + v := by
  intro m hm
  obtain ⟨⟨v1, v2⟩, v3, v4⟩ := hv
  have hL := hC m hm
  rcases cut_rel (v := v) hT ha hb hm ho v1 v2 with ⟨q1, q2, q3⟩ | ⟨q1, q2, q3⟩ | ⟨q1, q2, q3, q4⟩ | ⟨q1, q2, q3, q4⟩
  · have := v3 m hm q1 q2
    omega
  · omega
  · omega
  · rcases v4 with e | e | ⟨m1, w1, w2, w3, w4⟩
    · omega
    · obtain ⟨b1, b2, b3⟩ := bit_2 b hb
      have hor := (m_and m hm (2 ^ b) b1).2
      have hL2 := hC (m ||| 2 ^ b) hor
      have h4 := bey_4 (t a) (hT a ha) b hb m hm q3 (2 ^ b) b1 b2
      have e1 : tS (ndT n (m ||| 2 ^ b)) 3 + 0 = tS (ndT n m) 3 + n b := by
        have := tS_upd (f := ndT n m) (g := ndT n (m ||| 2 ^ b)) (k := b) (n := 3) hb (fun j hj hne => by unfold ndT; rw [Nat.testBit_or, b3 j hj hne, Bool.or_false])
        have f1 : ndT n m b = 0 := if_neg q1
        have f2 : ndT n (m ||| 2 ^ b) b = n b := by unfold ndT; rw [Nat.testBit_or, b2, Bool.or_true, if_pos rfl]
        rw [f1, f2] at this
        exact this
      have e2 : tS (ylT y t (m ||| 2 ^ b)) 4 + tS (fun s => if s = a then y a else 0) 4 + tS (fun _ => 0) 4 ≤ tS (ylT y t m) 4 + tS (fun _ => 0) 4 := by
        refine tS_ge (fun s hs => ?_)
        unfold ylT
        have a2 := bey_or (t s) (hT s hs) m hm (2 ^ b) b1
        by_cases es : s = a
        · subst es
          rw [h4, q2, if_pos rfl]
          simp
        · rw [if_neg es]
          revert a2
          cases bey (t s) m <;> cases bey (t s) (m ||| 2 ^ b) <;> simp
      rw [tS_one ha] at e2
      unfold cutN at hL2 q4 ⊢
      omega
    · have h4 := bey_4 (t a) (hT a ha) b hb m hm q3 m1 w1 w2
      have hs := cut_sub (y := y) (n := n) hT ha hm w1 q2 w3 h4
      have l1 := hC (m &&& m1) (m_and m hm m1 w1).1
      have l2 := hC (m ||| m1) (m_and m hm m1 w1).2
      omega
theorem key_2 {y n t : Nat → Nat} {a b L v v' : Nat} (hT : TI t) (ha : a < 4) (hb : b < 3) (ho : (t a).testBit b = true) (hv : hiP y n t a b L v) (h1 : v < v') (h2 : v' ≤ y a) (h3 : v' ≤ n b) : ∃ m, m < 8 ∧ cutN (upn y a (y a - v')) (upn n b (n b - v')) (upn t a (clr (t a) b)) m + v' < L := by
  obtain ⟨⟨v1, v2⟩, v3, v4⟩ := hv
  rcases v4 with e | e | ⟨m1, w1, w2, w3, w4⟩
  · omega
  · omega
  · refine ⟨m1, w1, ?_⟩
    rcases cut_rel (v := v') hT ha hb w1 ho h2 h3 with ⟨q1, q2, q3⟩ | ⟨q1, q2, q3⟩ | ⟨q1, q2, q3, q4⟩ | ⟨q1, q2, q3, q4⟩
    · omega
    · rw [w3] at q2; cases q2
    · exact absurd w2 q1
    · exact absurd w2 q1
def mn2 (x y : Nat) : Nat := if y < x then y else x
theorem mn2_le (x y : Nat) : mn2 x y ≤ x ∧ mn2 x y ≤ y ∧ (mn2 x y = x ∨ mn2 x y = y) := by
  unfold mn2
  split <;> omega
def mnH (y n t : Nat → Nat) (a b L : Nat) : Nat → Nat
  | 0 => mn2 (y a) (n b)
  | i + 1 => if i.testBit b = true ∧ bey (t a) i = true then mn2 (mnH y n t a b L i) (cutN y n t i - L) else mnH y n t a b L i
def hiF (y n t : Nat → Nat) (a b L : Nat) : Nat := if (t a).testBit b = true then mnH y n t a b L 8 else 0
theorem mnH_P {y n t : Nat → Nat} {a b L : Nat} (hC : CI y n t L) : ∀ i, i ≤ 8 → (mnH y n t a b L i ≤ y a ∧ mnH y n t a b L i ≤ n b) ∧ (∀ m, m < i → m.testBit b = true → bey (t a) m = true → mnH y n t a b L i + L ≤ cutN y n t m) ∧ (mnH y n t a b L i = y a ∨ mnH y n t a b L i = n b ∨ ∃ m, m < i ∧ m.testBit b = true ∧ bey (t a) m = true ∧ mnH y n t a b L i + L = cutN y n t m)
  | 0, _ => by
    have := mn2_le (y a) (n b)
    refine ⟨⟨this.1, this.2.1⟩, fun m hm => absurd hm (by omega), ?_⟩
    rcases this.2.2 with h | h
    · exact Or.inl h
    · exact Or.inr (Or.inl h)
  | i + 1, hi => by
    obtain ⟨⟨p1, p2⟩, p3, p4⟩ := mnH_P hC (a := a) (b := b) i (by omega)
    by_cases hc : i.testBit b = true ∧ bey (t a) i = true
    · have e : mnH y n t a b L (i + 1) = mn2 (mnH y n t a b L i) (cutN y n t i - L) := by rw [mnH, if_pos hc]
      have q := mn2_le (mnH y n t a b L i) (cutN y n t i - L)
      have hL := hC i (by omega)
      rw [e]
      refine ⟨⟨by omega, by omega⟩, fun m hm h1 h2 => ?_, ?_⟩
      · rcases Nat.lt_succ_iff_lt_or_eq.mp hm with z | z
        · have := p3 m z h1 h2
          omega
        · rw [z]; omega
      · rcases q.2.2 with z | z
        · rw [z]
          rcases p4 with w | w | ⟨m, w1, w2⟩
          · exact Or.inl w
          · exact Or.inr (Or.inl w)
          · exact Or.inr (Or.inr ⟨m, by omega, w2⟩)
        · exact Or.inr (Or.inr ⟨i, by omega, hc.1, hc.2, by omega⟩)
    · have e : mnH y n t a b L (i + 1) = mnH y n t a b L i := by rw [mnH, if_neg hc]
      rw [e]
      refine ⟨⟨p1, p2⟩, fun m hm h1 h2 => ?_, ?_⟩
      · rcases Nat.lt_succ_iff_lt_or_eq.mp hm with z | z
        · exact p3 m z h1 h2
        · rw [z] at h1 h2; exact absurd ⟨h1, h2⟩ hc
      · rcases p4 with w | w | ⟨m, w1, w2⟩
        · exact Or.inl w
        · exact Or.inr (Or.inl w)
        · exact Or.inr (Or.inr ⟨m, by omega, w2⟩)
theorem hiF_P {y n t : Nat → Nat} {a b L : Nat} (hC : CI y n t L) (ho : (t a).testBit b = true) : hiP y n t a b L (hiF y n t a b L) := by
  unfold hiF
  rw [if_pos ho]
  exact mnH_P hC 8 (Nat.le_refl _)
/-- the state of the sharing: yields, needs, takers, what is left to give -/
abbrev Sq : Type := (Nat → Nat) × (Nat → Nat) × (Nat → Nat) × Nat
def vQ (S : Sq) (i : Nat) : Nat := hiF S.1 S.2.1 S.2.2.1 (i / 3) (i % 3) S.2.2.2
def stQ (S : Sq) (i : Nat) : Sq := (upn S.1 (i / 3) (S.1 (i / 3) - vQ S i), upn S.2.1 (i % 3) (S.2.1 (i % 3) - vQ S i), upn S.2.2.1 (i / 3) (clr (S.2.2.1 (i / 3)) (i % 3)), S.2.2.2 - vQ S i)
def shQ (S : Sq) : Nat → Sq
  | 0 => S
  | i + 1 => stQ (shQ S i) i
def PQ (S : Sq) : Prop := ((∀ s, s < 4 → S.1 s ≤ 100) ∧ ∀ k, k < 3 → S.2.1 k ≤ 100) ∧ TI S.2.2.1 ∧ S.2.2.2 ≤ 100 ∧ CI S.1 S.2.1 S.2.2.1 S.2.2.2
theorem vQ_le {S : Sq} {i : Nat} (hP : PQ S) : vQ S i ≤ S.1 (i / 3) ∧ vQ S i ≤ S.2.1 (i % 3) := by
  unfold vQ
  by_cases ho : (S.2.2.1 (i / 3)).testBit (i % 3) = true
  · exact (hiF_P hP.2.2.2 ho).1
  · unfold hiF
    rw [if_neg ho]
    exact ⟨Nat.zero_le _, Nat.zero_le _⟩
theorem vQ_L {S : Sq} {i : Nat} (hi : i < 12) (hP : PQ S) : ∀ m, m < 8 → S.2.2.2 ≤ cutN (upn S.1 (i / 3) (S.1 (i / 3) - vQ S i)) (upn S.2.1 (i % 3) (S.2.1 (i % 3) - vQ S i)) (upn S.2.2.1 (i / 3) (clr (S.2.2.1 (i / 3)) (i % 3))) m + vQ S i := by
  by_cases ho : (S.2.2.1 (i / 3)).testBit (i % 3) = true
  · exact key_1 hP.2.1 hP.2.2.2 (by omega) (by omega) ho (hiF_P hP.2.2.2 ho)
  · have e : vQ S i = 0 := by unfold vQ hiF; rw [if_neg ho]
    intro m hm
    have e2 : clr (S.2.2.1 (i / 3)) (i % 3) = S.2.2.1 (i / 3) := if_neg ho
    rw [e, e2, Nat.sub_zero, Nat.sub_zero, upn_id, upn_id, upn_id]
    exact hP.2.2.2 m hm
theorem PQ_st {S : Sq} {i : Nat} (hi : i < 12) (hP : PQ S) : PQ (stQ S i) := by
  have hL := vQ_L hi hP
  obtain ⟨⟨p1, p2⟩, p3, p4, p5⟩ := hP
  refine ⟨⟨fun s hs => ?_, fun k hk => ?_⟩, fun s hs => ?_, ?_, fun m hm => ?_⟩
  · show upn _ _ _ s ≤ 100
    unfold upn
    split
    · have := p1 (i / 3) (by omega)
      omega
    · exact p1 s hs
  · show upn _ _ _ k ≤ 100
    unfold upn
    split
    · have := p2 (i % 3) (by omega)
      omega
    · exact p2 k hk
  · show upn _ _ _ s < 8
    unfold upn
    split
    · exact clr_lt _ (p3 (i / 3) (by omega)) _ (by omega)
    · exact p3 s hs
  · show S.2.2.2 - _ ≤ 100
    omega
  · have := hL m hm
    show S.2.2.2 - vQ S i ≤ cutN (upn S.1 (i / 3) (S.1 (i / 3) - vQ S i)) (upn S.2.1 (i % 3) (S.2.1 (i % 3) - vQ S i)) (upn S.2.2.1 (i / 3) (clr (S.2.2.1 (i / 3)) (i % 3))) m
    omega
theorem PQ_sh {S : Sq} (hP : PQ S) : ∀ i, i ≤ 12 → PQ (shQ S i)
  | 0, _ => hP
  | i + 1, hi => PQ_st (by omega) (PQ_sh hP i (by omega))
theorem cutN_b {y n t : Nat → Nat} (h1 : ∀ s, s < 4 → y s ≤ 100) (h2 : ∀ k, k < 3 → n k ≤ 100) (m : Nat) : cutN y n t m ≤ 700 := by
  have a0 := h1 0 (by omega)
  have a1 := h1 1 (by omega)
  have a2 := h1 2 (by omega)
  have a3 := h1 3 (by omega)
  have b0 := h2 0 (by omega)
  have b1 := h2 1 (by omega)
  have b2 := h2 2 (by omega)
  have nd : ∀ k, ndT n m k ≤ n k := fun k => by unfold ndT; split <;> omega
  have yl : ∀ s, ylT y t m s ≤ y s := fun s => by unfold ylT; split <;> omega
  have c0 := nd 0
  have c1 := nd 1
  have c2 := nd 2
  have d0 := yl 0
  have d1 := yl 1
  have d2 := yl 2
  have d3 := yl 3
  show (0 + ndT n m 0 + ndT n m 1 + ndT n m 2) + (0 + ylT y t m 0 + ylT y t m 1 + ylT y t m 2 + ylT y t m 3) ≤ 700
  omega
/-- the least cut: of the class, of the model -/
def mnX (y n t : Nat → Nat) : Nat → Nat
  | 0 => 100
  | i + 1 => mn2 (mnX y n t i) (cutN y n t i)
def mnM (y n t : Nat → Nat) : Nat → Nat
  | 0 => 1000
  | i + 1 => if cutN y n t (7 - i) < mnM y n t i then cutN y n t (7 - i) else mnM y n t i
theorem mnX_P (y n t : Nat → Nat) : ∀ i, i ≤ 8 → mnX y n t i ≤ 100 ∧ (∀ m, m < i → mnX y n t i ≤ cutN y n t m) ∧ (mnX y n t i = 100 ∨ ∃ m, m < i ∧ mnX y n t i = cutN y n t m)
  | 0, _ => ⟨Nat.le_refl _, fun m hm => absurd hm (by omega), Or.inl rfl⟩
  | i + 1, hi => by
    obtain ⟨p1, p2, p3⟩ := mnX_P y n t i (by omega)
    have q := mn2_le (mnX y n t i) (cutN y n t i)
    have e : mnX y n t (i + 1) = mn2 (mnX y n t i) (cutN y n t i) := rfl
    rw [e]
    refine ⟨by omega, fun m hm => ?_, ?_⟩
    · rcases Nat.lt_succ_iff_lt_or_eq.mp hm with z | z
      · have := p2 m z
        omega
      · rw [z]; omega
    · rcases q.2.2 with z | z
      · rw [z]
        rcases p3 with w | ⟨m, w1, w2⟩
        · exact Or.inl w
        · exact Or.inr ⟨m, by omega, w2⟩
      · exact Or.inr ⟨i, by omega, z⟩
theorem mnM_P (y n t : Nat → Nat) : ∀ i, i ≤ 8 → mnM y n t i ≤ 1000 ∧ (∀ m, m < 8 → 7 - m < i → mnM y n t i ≤ cutN y n t m) ∧ (mnM y n t i = 1000 ∨ ∃ m, m < 8 ∧ mnM y n t i = cutN y n t m)
  | 0, _ => ⟨Nat.le_refl _, fun m hm h => absurd h (by omega), Or.inl rfl⟩
  | i + 1, hi => by
    obtain ⟨p1, p2, p3⟩ := mnM_P y n t i (by omega)
    have e : mnM y n t (i + 1) = if cutN y n t (7 - i) < mnM y n t i then cutN y n t (7 - i) else mnM y n t i := rfl
    rw [e]
    split
    · rename_i hlt
      refine ⟨by omega, fun m hm h => ?_, Or.inr ⟨7 - i, by omega, rfl⟩⟩
      by_cases z : 7 - m = i
      · rw [show m = 7 - i by omega]; exact Nat.le_refl _
      · have := p2 m hm (by omega)
        omega
    · rename_i hlt
      refine ⟨p1, fun m hm h => ?_, p3⟩
      by_cases z : 7 - m = i
      · rw [show m = 7 - i by omega]; omega
      · exact p2 m hm (by omega)
theorem mn_eq {y n t : Nat → Nat} (hy : tS y 4 = 100) (h0 : ∀ m, m < 8 → cutN y n t m ≤ 700) : mnM y n t 8 = mnX y n t 8 := by
  obtain ⟨p1, p2, p3⟩ := mnX_P y n t 8 (Nat.le_refl _)
  obtain ⟨q1, q2, q3⟩ := mnM_P y n t 8 (Nat.le_refl _)
  have hc0 : cutN y n t 0 ≤ 100 := by
    have nd : ∀ k, ndT n 0 k = 0 := fun k => by unfold ndT; rw [Nat.zero_testBit]; rfl
    have yl : ∀ s, ylT y t 0 s ≤ y s := fun s => by unfold ylT; split <;> omega
    have d0 := yl 0
    have d1 := yl 1
    have d2 := yl 2
    have d3 := yl 3
    have e : tS y 4 = 0 + y 0 + y 1 + y 2 + y 3 := rfl
    show (0 + ndT n 0 0 + ndT n 0 1 + ndT n 0 2) + (0 + ylT y t 0 0 + ylT y t 0 1 + ylT y t 0 2 + ylT y t 0 3) ≤ 100
    rw [nd, nd, nd]
    omega
  have a1 : mnM y n t 8 ≤ mnX y n t 8 := by
    rcases p3 with w | ⟨m, w1, w2⟩
    · have := q2 0 (by omega) (by omega)
      omega
    · rw [w2]; exact q2 m w1 (by omega)
  have a2 : mnX y n t 8 ≤ mnM y n t 8 := by
    rcases q3 with w | ⟨m, w1, w2⟩
    · omega
    · rw [w2]; exact p2 m w1
  omega
end
section
/-! the quarry: the class -/
theorem bitN {m k : Nat} (hm : m < 2 ^ 31) (hk : k < 32) : (nI m >>> (nI k &&& 31)) &&& 1 = nI (if m.testBit k = true then 1 else 0) := by
  have h := bit_val (x := nI m) (P := k) (by rw [nI_toInt hm]; omega) hk
  rw [nI_toInt hm] at h
  exact h
theorem bitN_1 {m k : Nat} (hm : m < 2 ^ 31) (hk : k < 32) : (nI m >>> (nI k &&& 31)) &&& 1 = 1 ↔ m.testBit k = true := by
  rw [bitN hm hk]
  split
  · rename_i h; exact ⟨fun _ => h, fun _ => rfl⟩
  · rename_i h; exact ⟨fun z => absurd z (by decide), fun z => absurd z h⟩
theorem bitN_0 {m k : Nat} (hm : m < 2 ^ 31) (hk : k < 32) : (nI m >>> (nI k &&& 31)) &&& 1 = 0 ↔ ¬ m.testBit k = true := by
  rw [bitN hm hk]
  split
  · rename_i h; exact ⟨fun z => absurd z (by decide), fun z => absurd h z⟩
  · rename_i h; exact ⟨fun _ => h, fun _ => rfl⟩
theorem tbey : ∀ t, t < 8 → ∀ m, m < 8 → (nI t &&& (nI m ^^^ (-1)) = 0 ↔ bey t m = false) := by decide +kernel
theorem tclr : ∀ t, t < 8 → ∀ b, b < 3 → nI t &&& ((1 : Int32) <<< (nI b &&& 31) ^^^ (-1)) = nI (clr t b) := by decide +kernel
theorem tor : ∀ t, t < 8 → ∀ b, b < 3 → nI t ||| (1 : Int32) <<< (nI b &&& 31) = nI (t ||| 2 ^ b) ∧ t ||| 2 ^ b < 8 := by decide +kernel
/-- the class's cells hold y, n, t -/
def QX (G : Gt) (y n t : Nat → Nat) : Prop := (∀ s, s < 4 → G 10 s = nI (y s)) ∧ (∀ k, k < 3 → G 11 k = nI (n k)) ∧ ∀ s, s < 4 → G 12 s = nI (t s)
def BQ (y n t : Nat → Nat) : Prop := (∀ s, s < 4 → y s ≤ 100) ∧ (∀ k, k < 3 → n k ≤ 100) ∧ TI t
theorem c_isTB {X : Xt} {y n t : Nat → Nat} {s m : Nat} {G : Gt} {Q : Qt} (hq : QX G y n t) (hB : BQ y n t) (hs : s < 4) (hm : m < 8) (K : Q (some (.int (bI (bey (t s) m = true)))) G) : con X m_Quarry_isTakenBeyond [.ref 9, .int (nI s), .int (nI m)] G Q := by
  have h1 := tbey (t s) (hB.2.2 s hs) m hm
  refine con_rn 20 [] (by decide) rfl ?_
  refine vi (vp_in_nI hs (by omega)) ?_
  rw [nI_clamp (by omega), hq.2.2 s hs]
  refine bi (fun h => ?_) (fun h => ?_)
  · refine ni rfl (Qi K (bI_f ?_).symm)
    rw [h1.mp h]
    decide
  · refine ni rfl (Qi K (bI_t ?_).symm)
    cases e : bey (t s) m
    · exact absurd (h1.mpr e) h
    · rfl
theorem w_cutY {X : Xt} {y n t : Nat → Nat} {m : Nat} {G : Gt} {Q : Qt} (hq : QX G y n t) (hB : BQ y n t) (hm : m < 8) (K : Q (some (.int (nI (cutN y n t m)))) G) : ∀ (z s : Nat) (q l : Int32), q = nI s → s + z = 4 → l = nI (tS (ndT n m) 3 + tS (ylT y t m) s) → wp X m_Quarry_cutOff 35 [(3, .int q), (2, .int l), (0, .ref 9), (1, .int (nI m))] [] G Q
  | 0, s, q, l, h1, hz, hl => by
    subst h1
    have hs : s = 4 := by omega
    subst hs
    refine rn_wp (stops := [35]) 40 ?_
    refine bi_t (by decide) ?_
    exact Qi K hl
  | z + 1, s, q, l, h1, hz, hl => by
    subst h1
    refine rn_wp (stops := [35]) 40 ?_
    refine bi_f (by rw [show (4 : Int32) = nI 4 from rfl, nI_leI (by omega) (by omega)]; omega) ?_
    refine c_isTB hq hB (by omega) hm ?_
    have e : tS (ylT y t m) (s + 1) = tS (ylT y t m) s + ylT y t m s := rfl
    refine bib (fun h => ?_) (fun h => ?_)
    · refine w_cutY hq hB hm K z (s + 1) _ _ (nI_1 _) (by omega) ?_
      rw [e, hl, show ylT y t m s = 0 from if_neg h]
      rfl
    · refine vi (vp_in_nI (by omega) (by omega)) ?_
      rw [nI_clamp (by omega), hq.1 s (by omega)]
      refine w_cutY hq hB hm K z (s + 1) _ _ (nI_1 _) (by omega) ?_
      rw [e, hl, show ylT y t m s = y s from if_pos h, nI_add, Nat.add_assoc]
theorem w_cutN {X : Xt} {y n t : Nat → Nat} {m : Nat} {G : Gt} {Q : Qt} (hq : QX G y n t) (hB : BQ y n t) (hm : m < 8) (K : Q (some (.int (nI (cutN y n t m)))) G) : ∀ (z s : Nat) (q l : Int32), q = nI s → s + z = 3 → l = nI (tS (ndT n m) s) → wp X m_Quarry_cutOff 4 [(3, .int q), (2, .int l), (0, .ref 9), (1, .int (nI m))] [] G Q
  | 0, s, q, l, h1, hz, hl => by
    subst h1
    have hs : s = 3 := by omega
    subst hs
    refine rn_wp (stops := [4, 35]) 40 ?_
    refine bi_t (by decide) ?_
    exact w_cutY hq hB hm K 4 0 _ _ rfl rfl hl
  | z + 1, s, q, l, h1, hz, hl => by
    subst h1
    refine rn_wp (stops := [4, 35]) 40 ?_
    refine bi_f (by rw [show (3 : Int32) = nI 3 from rfl, nI_leI (by omega) (by omega)]; omega) ?_
    have e : tS (ndT n m) (s + 1) = tS (ndT n m) s + ndT n m s := rfl
    refine bj (fun h => ?_) (fun h => ?_)
    · rw [bitN_1 (by omega) (by omega)] at h
      refine w_cutN hq hB hm K z (s + 1) _ _ (nI_1 _) (by omega) ?_
      rw [e, hl, show ndT n m s = 0 from if_neg h]
      rfl
    · rw [bitN_1 (by omega) (by omega)] at h
      refine vi (vp_in_nI (by omega) (by omega)) ?_
      rw [nI_clamp (by omega), hq.2.1 s (by omega)]
      refine w_cutN hq hB hm K z (s + 1) _ _ (nI_1 _) (by omega) ?_
      rw [e, hl, show ndT n m s = n s from if_pos h, nI_add]
theorem c_cutOff {X : Xt} {y n t : Nat → Nat} {m : Nat} {G : Gt} {Q : Qt} (hq : QX G y n t) (hB : BQ y n t) (hm : m < 8) (K : Q (some (.int (nI (cutN y n t m)))) G) : con X m_Quarry_cutOff [.ref 9, .int (nI m)] G Q := by
  refine con_rn 10 [4] (by decide) rfl ?_
  exact w_cutN hq hB hm K 3 0 _ _ rfl rfl rfl
theorem mn2_I {x y : Nat} (hx : x < 2 ^ 31) (hy : y < 2 ^ 31) : (if nI y < nI x then nI y else nI x) = nI (mn2 x y) := by
  unfold mn2
  by_cases h : y < x
  · rw [if_pos h, if_pos (by rw [nI_ltI hy hx]; exact h)]
  · rw [if_neg h, if_neg (by rw [nI_ltI hy hx]; exact h)]
theorem w_mostG {X : Xt} {y n t : Nat → Nat} {G : Gt} {Q : Qt} (hq : QX G y n t) (hB : BQ y n t) (K : Q (some (.int (nI (mnX y n t 8)))) G) : ∀ (z i : Nat) (q l : Int32), q = nI i → i + z = 8 → l = nI (mnX y n t i) → wp X m_Quarry_mostGiven 5 [(2, .int q), (1, .int l), (0, .ref 9)] [] G Q
  | 0, i, q, l, h1, hz, hl => by
    subst h1
    have hs : i = 8 := by omega
    subst hs
    refine rn_wp (stops := [5]) 40 ?_
    refine bi_t (by decide) ?_
    exact Qi K hl
  | z + 1, i, q, l, h1, hz, hl => by
    subst h1
    have hc := cutN_b (t := t) hB.1 hB.2.1 i
    have hm := (mnX_P y n t i (by omega)).1
    refine rn_wp (stops := [5]) 40 ?_
    refine bi_f (by rw [show (8 : Int32) = nI 8 from rfl, nI_leI (by omega) (by omega)]; omega) ?_
    refine c_cutOff hq hB (by omega) ?_
    refine w_mostG hq hB K z (i + 1) _ _ (nI_1 _) (by omega) ?_
    rw [hl, mn2_I (by omega) (by omega)]
    rfl
theorem c_mostG {X : Xt} {y n t : Nat → Nat} {G : Gt} {Q : Qt} (hq : QX G y n t) (hB : BQ y n t) (K : Q (some (.int (nI (mnX y n t 8)))) G) : con X m_Quarry_mostGiven [.ref 9] G Q := by
  refine con_rn 10 [5] (by decide) rfl ?_
  exact w_mostG hq hB K 8 0 _ _ rfl rfl rfl
set_option maxRecDepth 4000 in
theorem w_mostB {X : Xt} {y n t : Nat → Nat} {a b L : Nat} {G : Gt} {Q : Qt} (hq : QX G y n t) (hB : BQ y n t) (hC : CI y n t L) (ha : a < 4) (hb : b < 3) (hL : L ≤ 100) (K : Q (some (.int (nI (mnH y n t a b L 8)))) G) : ∀ (z i : Nat) (q l : Int32), q = nI i → i + z = 8 → l = nI (mnH y n t a b L i) → wp X m_Quarry_mostBetween 35 [(5, .int q), (4, .int l), (0, .ref 9), (1, .int (nI a)), (2, .int (nI b)), (3, .int (nI L))] [] G Q
  | 0, i, q, l, h1, hz, hl => by
    subst h1
    have hs : i = 8 := by omega
    subst hs
    refine rn_wp (stops := [35]) 40 ?_
    refine bi_t (by decide) ?_
    exact Qi K hl
  | z + 1, i, q, l, h1, hz, hl => by
    subst h1
    have hc := cutN_b (t := t) hB.1 hB.2.1 i
    have hm := (mnH_P (a := a) (b := b) hC i (by omega)).1.1
    have hya := hB.1 a ha
    have hLi := hC i (by omega)
    refine rn_wp (stops := [35]) 60 ?_
    refine bi_f (by rw [show (8 : Int32) = nI 8 from rfl, nI_leI (by omega) (by omega)]; omega) ?_
    refine bj (fun h => ?_) (fun h => ?_)
    · rw [bitN_1 (by omega) (by omega)] at h
      refine w_mostB hq hB hC ha hb hL K z (i + 1) _ _ (nI_1 _) (by omega) ?_
      rw [hl, mnH, if_neg (fun w => h w.1)]
    · rw [bitN_1 (by omega) (by omega)] at h
      refine c_isTB hq hB ha (by omega) ?_
      refine bib (fun h2 => ?_) (fun h2 => ?_)
      · refine w_mostB hq hB hC ha hb hL K z (i + 1) _ _ (nI_1 _) (by omega) ?_
        rw [hl, mnH, if_neg (fun w => h2 w.2)]
      · refine c_cutOff hq hB (by omega) ?_
        refine w_mostB hq hB hC ha hb hL K z (i + 1) _ _ (nI_1 _) (by omega) ?_
        rw [hl, pk_sub hLi, mn2_I (by omega) (by omega), mnH, if_pos ⟨h, h2⟩]
theorem c_mostB {X : Xt} {y n t : Nat → Nat} {a b L : Nat} {G : Gt} {Q : Qt} (hq : QX G y n t) (hB : BQ y n t) (hC : CI y n t L) (ha : a < 4) (hb : b < 3) (hL : L ≤ 100) (K : Q (some (.int (nI (hiF y n t a b L)))) G) : con X m_Quarry_mostBetween [.ref 9, .int (nI a), .int (nI b), .int (nI L)] G Q := by
  have ht := hB.2.2 a ha
  unfold hiF at K
  refine con_rn 40 [35] (by decide) rfl ?_
  refine vi (vp_in_nI ha (by omega)) ?_
  rw [nI_clamp (by omega), hq.2.2 a ha]
  refine bj (fun h => ?_) (fun h => ?_)
  · rw [bitN_0 (by omega) (by omega), Decidable.not_not] at h
    rw [if_pos h] at K
    refine vi (vp_in_nI ha (by omega)) ?_
    refine vi (vp_in_nI hb (by omega)) ?_
    rw [nI_clamp (by omega), nI_clamp (by omega), hq.1 a ha, hq.2.1 b hb]
    have h1 := hB.1 a ha
    have h2 := hB.2.1 b hb
    refine w_mostB hq hB hC ha hb hL K 8 0 _ _ rfl rfl ?_
    rw [mn2_I (by omega) (by omega)]
    rfl
  · rw [bitN_0 (by omega) (by omega)] at h
    rw [if_neg h] at K
    exact K
/-- what the sharing has done ahead of pair i -/
def hX (S : Sq) (wv : Int32) (G0 : Gt) (i : Nat) (G : Gt) : Prop := FrS G0 G ∧ QX G (shQ S i).1 (shQ S i).2.1 (shQ S i).2.2.1 ∧ (∀ j, j < i → G 13 j = nI (vQ (shQ S j) j)) ∧ G 9 4 = wv
theorem hX_st {S : Sq} {wv : Int32} {G0 G : Gt} {a b : Nat} (ha : a < 4) (hb : b < 3) (hP : PQ (shQ S (3 * a + b))) (h : hX S wv G0 (3 * a + b) G) : hX S wv G0 (3 * a + b + 1) (sG (sG (sG (sG G 13 (upd (G 13) (3 * a + b) (nI (vQ (shQ S (3 * a + b)) (3 * a + b))))) 10 (upd (G 10) a (G 10 a - nI (vQ (shQ S (3 * a + b)) (3 * a + b))))) 11 (upd (G 11) b (G 11 b - nI (vQ (shQ S (3 * a + b)) (3 * a + b))))) 12 (upd (G 12) a (G 12 a &&& ((1 : Int32) <<< (nI b &&& 31) ^^^ (-1))))) := by
  obtain ⟨h1, ⟨q1, q2, q3⟩, h3, h4⟩ := h
  have ea : (3 * a + b) / 3 = a := by omega
  have eb : (3 * a + b) % 3 = b := by omega
  have hv := vQ_le (i := 3 * a + b) hP
  rw [ea, eb] at hv
  have est : shQ S (3 * a + b + 1) = stQ (shQ S (3 * a + b)) (3 * a + b) := rfl
  refine ⟨(((h1.s rfl).s rfl).s rfl).s rfl, ⟨fun s hs => ?_, fun k hk => ?_, fun s hs => ?_⟩, fun j hj => ?_, h4⟩
  · rw [est]
    show upd (G 10) a _ s = nI (upn _ _ _ s)
    rw [ea]
    by_cases e : s = a
    · subst e
      rw [pk_us, upn_s, q1 s hs, pk_sub hv.1]
    · rw [pk_un e, upn_n e, q1 s hs]
  · rw [est]
    show upd (G 11) b _ k = nI (upn _ _ _ k)
    rw [eb]
    by_cases e : k = b
    · subst e
      rw [pk_us, upn_s, q2 k hk, pk_sub hv.2]
    · rw [pk_un e, upn_n e, q2 k hk]
  · rw [est]
    show upd (G 12) a _ s = nI (upn _ _ _ s)
    rw [ea, eb]
    by_cases e : s = a
    · subst e
      rw [pk_us, upn_s, q3 s hs, tclr _ (hP.2.1 s hs) b hb]
    · rw [pk_un e, upn_n e, q3 s hs]
  · show upd (G 13) (3 * a + b) _ j = _
    by_cases e : j = 3 * a + b
    · subst e
      rw [pk_us]
    · rw [pk_un e]
      exact h3 j (by omega)
/-- some cut is just what is left -/
def AQ (S : Sq) : Prop := ∃ m, m < 8 ∧ S.2.2.2 = cutN S.1 S.2.1 S.2.2.1 m
theorem AQ_st {S : Sq} {i : Nat} (hi : i < 12) (hP : PQ S) (hA : AQ S) : AQ (stQ S i) ∧ vQ S i ≤ S.2.2.2 := by
  obtain ⟨m, hm, e⟩ := hA
  have hL := vQ_L hi hP m hm
  have hv := vQ_le (i := i) hP
  by_cases ho : (S.2.2.1 (i / 3)).testBit (i % 3) = true
  · have hr := cut_rel (y := S.1) (n := S.2.1) (v := vQ S i) (a := i / 3) (b := i % 3) (m := m) hP.2.1 (by omega) (by omega) hm ho hv.1 hv.2
    have h1 : cutN (upn S.1 (i / 3) (S.1 (i / 3) - vQ S i)) (upn S.2.1 (i % 3) (S.2.1 (i % 3) - vQ S i)) (upn S.2.2.1 (i / 3) (clr (S.2.2.1 (i / 3)) (i % 3))) m + vQ S i ≤ S.2.2.2 := by
      rcases hr with ⟨-, -, q⟩ | ⟨-, -, q⟩ | ⟨-, -, -, q⟩ | ⟨-, -, -, q⟩ <;> omega
    refine ⟨⟨m, hm, ?_⟩, by omega⟩
    show S.2.2.2 - vQ S i = cutN (upn S.1 (i / 3) (S.1 (i / 3) - vQ S i)) (upn S.2.1 (i % 3) (S.2.1 (i % 3) - vQ S i)) (upn S.2.2.1 (i / 3) (clr (S.2.2.1 (i / 3)) (i % 3))) m
    omega
  · have ev : vQ S i = 0 := by unfold vQ hiF; rw [if_neg ho]
    have e2 : clr (S.2.2.1 (i / 3)) (i % 3) = S.2.2.1 (i / 3) := if_neg ho
    refine ⟨⟨m, hm, ?_⟩, by omega⟩
    show S.2.2.2 - vQ S i = cutN (upn S.1 (i / 3) (S.1 (i / 3) - vQ S i)) (upn S.2.1 (i % 3) (S.2.1 (i % 3) - vQ S i)) (upn S.2.2.1 (i / 3) (clr (S.2.2.1 (i / 3)) (i % 3))) m
    rw [ev, e2, Nat.sub_zero, Nat.sub_zero, Nat.sub_zero, upn_id, upn_id, upn_id]
    exact e
theorem AQ_sh {S : Sq} (hP : PQ S) (hA : AQ S) : ∀ i, i ≤ 12 → AQ (shQ S i)
  | 0, _ => hA
  | i + 1, hi => (AQ_st (by omega) (PQ_sh hP i (by omega)) (AQ_sh hP hA i (by omega))).1
theorem PQ_B {S : Sq} (h : PQ S) : BQ S.1 S.2.1 S.2.2.1 := ⟨h.1.1, h.1.2, h.2.1⟩
set_option maxRecDepth 4000 in
theorem w_shI {X : Xt} {S : Sq} {wv : Int32} {a : Nat} {G0 : Gt} {Q : Qt} (hS : PQ S) (hA : AQ S) (ha : a < 4) (K : ∀ G q l, q = nI (a + 1) → l = nI (shQ S (3 * (a + 1))).2.2.2 → hX S wv G0 (3 * (a + 1)) G → wp X m_Quarry_share 15 [(2, .int q), (1, .int l), (0, .ref 9)] [] G Q) : ∀ (z b : Nat) (q l : Int32) (G : Gt), q = nI b → b + z = 3 → l = nI (shQ S (3 * a + b)).2.2.2 → hX S wv G0 (3 * a + b) G → wp X m_Quarry_share 22 [(3, .int q), (2, .int (nI a)), (1, .int l), (0, .ref 9)] [] G Q
  | 0, b, q, l, G, h1, hz, hl, hx => by
    subst h1
    have hs : b = 3 := by omega
    subst hs
    refine rn_wp (stops := [15, 22]) 60 ?_
    refine bi_t (by decide) ?_
    exact wp_pick [0, 2, 3] (K G _ l (nI_1 a) hl hx)
  | z + 1, b, q, l, G, h1, hz, hl, hx => by
    subst h1
    have hP := PQ_sh hS (3 * a + b) (by omega)
    have ea : (3 * a + b) / 3 = a := by omega
    have eb : (3 * a + b) % 3 = b := by omega
    have ev : vQ (shQ S (3 * a + b)) (3 * a + b) = hiF (shQ S (3 * a + b)).1 (shQ S (3 * a + b)).2.1 (shQ S (3 * a + b)).2.2.1 a b (shQ S (3 * a + b)).2.2.2 := by unfold vQ; rw [ea, eb]
    have hLc := PQ_sh hS (3 * a + b + 1) (by omega)
    have hst := hX_st ha (by omega) hP hx
    have hvl : vQ (shQ S (3 * a + b)) (3 * a + b) ≤ (shQ S (3 * a + b)).2.2.2 := (AQ_st (by omega) hP (AQ_sh hS hA _ (by omega))).2
    subst hl
    refine rn_wp (stops := [15, 22]) 60 ?_
    refine bi_f (by rw [show (3 : Int32) = nI 3 from rfl, nI_leI (by omega) (by omega)]; omega) ?_
    refine c_mostB hx.2.1 (PQ_B hP) hP.2.2.2 ha (by omega) hP.2.2.1 ?_
    rw [← ev]
    have ei : nI a * 3 + nI b = nI (3 * a + b) := by rw [show (3 : Int32) = nI 3 from rfl, pk_mul, nI_add, Nat.mul_comm]
    refine vi (by rw [ei]; exact vp_in_nI (by omega) (by omega)) ?_
    refine vi (vp_in_nI ha (by omega)) ?_
    refine vi (vp_in_nI ha (by omega)) ?_
    refine vi (vp_in_nI (by omega) (by omega)) ?_
    refine vi (vp_in_nI (by omega) (by omega)) ?_
    refine vi (vp_in_nI ha (by omega)) ?_
    refine vi (vp_in_nI ha (by omega)) ?_
    rw [ei, nI_clamp (by omega), nI_clamp (n := a) (by omega), nI_clamp (n := b) (by omega)]
    refine wp_pick [0, 3, 1, 4] (w_shI hS hA ha K z (b + 1) _ _ _ (nI_1 _) (by omega) ?_ hst)
    rw [pk_sub hvl]
    rfl
end
section
/-! the quarry: share, read -/
theorem w_shO {X : Xt} {S : Sq} {wv : Int32} {G0 : Gt} {Q : Qt} (hS : PQ S) (hA : AQ S) (K : ∀ G, hX S wv G0 12 G → Q none G) : ∀ (z a : Nat) (q l : Int32) (G : Gt), q = nI a → a + z = 4 → l = nI (shQ S (3 * a)).2.2.2 → hX S wv G0 (3 * a) G → wp X m_Quarry_share 15 [(2, .int q), (1, .int l), (0, .ref 9)] [] G Q
  | 0, a, q, l, G, h1, hz, hl, hx => by
    subst h1
    have hs : a = 4 := by omega
    subst hs
    refine rn_wp (stops := [15, 22]) 40 ?_
    refine bi_t (by decide) ?_
    exact K G hx
  | z + 1, a, q, l, G, h1, hz, hl, hx => by
    subst h1
    refine rn_wp (stops := [15, 22]) 40 ?_
    refine bi_f (by rw [show (4 : Int32) = nI 4 from rfl, nI_leI (by omega) (by omega)]; omega) ?_
    exact w_shI hS hA (by omega) (fun G' q' l' hq' hl' hx' => w_shO hS hA K z (a + 1) q' l' G' hq' (by omega) hl' hx') 3 0 _ _ G rfl rfl hl hx
abbrev S0 (y n t : Nat → Nat) : Sq := (y, n, t, mnX y n t 8)
theorem cut_0 {y n t : Nat → Nat} (hy : tS y 4 = 100) : cutN y n t 0 ≤ 100 := by
  have nd : ∀ k, ndT n 0 k = 0 := fun k => by unfold ndT; rw [Nat.zero_testBit]; rfl
  have yl : ∀ s, ylT y t 0 s ≤ y s := fun s => by unfold ylT; split <;> omega
  have d0 := yl 0
  have d1 := yl 1
  have d2 := yl 2
  have d3 := yl 3
  have e : tS y 4 = 0 + y 0 + y 1 + y 2 + y 3 := rfl
  show (0 + ndT n 0 0 + ndT n 0 1 + ndT n 0 2) + (0 + ylT y t 0 0 + ylT y t 0 1 + ylT y t 0 2 + ylT y t 0 3) ≤ 100
  rw [nd, nd, nd]
  omega
theorem S_P {y n t : Nat → Nat} {L : Nat} (hB : BQ y n t) (hy : tS y 4 = 100) (p1 : L ≤ 100) (p2 : ∀ m, m < 8 → L ≤ cutN y n t m) (p3 : L = 100 ∨ ∃ m, m < 8 ∧ L = cutN y n t m) : PQ (y, n, t, L) ∧ AQ (y, n, t, L) := by
  refine ⟨⟨⟨hB.1, hB.2.1⟩, hB.2.2, p1, p2⟩, ?_⟩
  rcases p3 with w | ⟨m, w1, w2⟩
  · refine ⟨0, by omega, ?_⟩
    have h1 := cut_0 (n := n) (t := t) hy
    have h2 := p2 0 (by omega)
    show L = cutN y n t 0
    omega
  · exact ⟨m, w1, w2⟩
theorem S0_P {y n t : Nat → Nat} (hB : BQ y n t) (hy : tS y 4 = 100) : PQ (S0 y n t) ∧ AQ (S0 y n t) :=
  S_P hB hy (mnX_P y n t 8 (Nat.le_refl _)).1 (mnX_P y n t 8 (Nat.le_refl _)).2.1 (mnX_P y n t 8 (Nat.le_refl _)).2.2
theorem c_share {X : Xt} {y n t : Nat → Nat} {L : Nat} {G : Gt} {Q : Qt} (hq : QX G y n t) (hB : BQ y n t) (hy : tS y 4 = 100) (hL : mnX y n t 8 = L) (K : ∀ G', hX (y, n, t, L) (100 - nI L) G 12 G' → Q none G') : con X m_Quarry_share [.ref 9] G Q := by
  obtain ⟨p1, p2, p3⟩ := mnX_P y n t 8 (Nat.le_refl _)
  have hm := fun Q => @c_mostG X y n t G Q hq hB
  rw [hL] at p1 p2 p3 hm
  clear hL
  obtain ⟨hP, hA⟩ := S_P hB hy p1 p2 p3
  refine con_rn 20 [15] (by decide) rfl ?_
  refine hm _ ?_
  refine w_shO hP hA K 4 0 _ _ _ rfl rfl rfl ⟨(FrS.rf G).s rfl, hq, fun j hj => absurd hj (by omega), rfl⟩
/-- of a sort the bits of the layers below k that are allowed it -/
def tkF (x : Nat → Nat) (s : Nat) : Nat → Nat
  | 0 => 0
  | k + 1 => if (x k).testBit s = true then tkF x s k ||| 2 ^ k else tkF x s k
theorem tkF_lt {x : Nat → Nat} {s : Nat} : ∀ k, k ≤ 3 → tkF x s k < 8
  | 0, _ => by unfold tkF; omega
  | k + 1, hk => by
    have := tkF_lt (x := x) (s := s) k (by omega)
    unfold tkF
    split
    · exact (tor _ this k (by omega)).2
    · exact this
theorem w_admit {X : Xt} {k V : Nat} {τ : Nat → Nat} {G0 : Gt} {Q : Qt} (hk : k < 3) (hV : V ≤ 15) (hτ : ∀ s, s < 4 → τ s < 8) (K : ∀ g : Nat → Int32, (∀ s, s < 4 → g s = nI (if V.testBit s = true then τ s ||| 2 ^ k else τ s)) → Q none (sG G0 12 g)) : ∀ (z s : Nat) (q : Int32) (g : Nat → Int32), q = nI s → s + z = 4 → (∀ j, j < s → g j = nI (if V.testBit j = true then τ j ||| 2 ^ k else τ j)) → (∀ j, s ≤ j → j < 4 → g j = nI (τ j)) → wp X m_Quarry_admit 2 [(3, .int q), (0, .ref 9), (1, .int (nI k)), (2, .int (nI V))] [] (sG G0 12 g) Q
  | 0, s, q, g, h1, hz, h2, h3 => by
    subst h1
    have hs : s = 4 := by omega
    subst hs
    refine rn_wp (stops := [2]) 40 ?_
    refine bi_t (by decide) ?_
    exact K g h2
  | z + 1, s, q, g, h1, hz, h2, h3 => by
    subst h1
    refine rn_wp (stops := [2]) 40 ?_
    refine bi_f (by rw [show (4 : Int32) = nI 4 from rfl, nI_leI (by omega) (by omega)]; omega) ?_
    refine bj (fun h => ?_) (fun h => ?_)
    · rw [bitN_1 (by omega) (by omega)] at h
      refine w_admit hk hV hτ K z (s + 1) _ g (nI_1 _) (by omega) (fun j hj => ?_) (fun j hj hj2 => h3 j (by omega) hj2)
      by_cases e : j = s
      · rw [e, if_neg h]
        exact h3 s (by omega) (by omega)
      · exact h2 j (by omega)
    · rw [bitN_1 (by omega) (by omega)] at h
      refine vi (vp_in_nI (by omega) (by omega)) ?_
      refine vi (vp_in_nI (by omega) (by omega)) ?_
      rw [nI_clamp (by omega)]
      have hw := w_admit (X := X) hk hV hτ K z (s + 1) _ (upd g s (g s ||| (1 : Int32) <<< (nI k &&& 31))) (nI_1 s) (by omega) (fun j hj => by
        by_cases e : j = s
        · subst e
          rw [pk_us, if_pos h, h3 j (by omega) (by omega), (tor _ (hτ j (by omega)) k hk).1]
        · rw [pk_un e]
          exact h2 j (by omega)) (fun j hj hj2 => by
        rw [pk_un (by omega)]
        exact h3 j (by omega) hj2)
      rw [← sG_sG G0 12 g] at hw
      exact hw
theorem c_admit {X : Xt} {k V : Nat} {τ : Nat → Nat} {G : Gt} {Q : Qt} (hk : k < 3) (hV : V ≤ 15) (hτ : ∀ s, s < 4 → τ s < 8) (h12 : ∀ s, s < 4 → G 12 s = nI (τ s)) (K : ∀ g : Nat → Int32, (∀ s, s < 4 → g s = nI (if V.testBit s = true then τ s ||| 2 ^ k else τ s)) → Q none (sG G 12 g)) {x : Int32} (hx : x = nI V) : con X m_Quarry_admit [.ref 9, .int (nI k), .int x] G Q := by
  subst hx
  refine con_rn 10 [2] (by decide) rfl ?_
  have hw := w_admit (X := X) hk hV hτ K 4 0 _ (G 12) rfl rfl (fun j hj => absurd hj (by omega)) (fun j _ hj => h12 j hj)
  rw [sG_id] at hw
  exact hw
/-- ten items, as they may be -/
abbrev rdP (f : Nat → Int32) : Prop := ((∀ j, j < 7 → 0 ≤ f j ∧ f j ≤ 100) ∧ ∀ j, j < 3 → 0 ≤ f (7 + j) ∧ f (7 + j) ≤ 15) ∧ tS (tdN f) 4 = 100
abbrev yF (f : Nat → Int32) : Nat → Nat := tdN f
abbrev nF (f : Nat → Int32) : Nat → Nat := fun k => tdN f (4 + k)
abbrev tF (f : Nat → Int32) : Nat → Nat := fun s => tkF (fun k => tdN f (7 + k)) s 3
theorem td_I {f : Nat → Int32} {j : Nat} {B : Nat} {b : Int32} (hb : b.toInt = B) (h : 0 ≤ f j ∧ f j ≤ b) : f j = nI (tdN f j) ∧ tdN f j ≤ B := by
  obtain ⟨e, e1, -⟩ := toN h.1
  have h2 := le32.mp h.2
  unfold tdN
  exact ⟨e, by omega⟩
abbrev rdL (s : Int32) (I : Nat) : Lt := [(5, .int (nI (I + 7))), (4, .int (nI (I + 4))), (0, .ref 9), (1, .ref 1), (2, .int s), (3, .int (nI I))]
set_option maxRecDepth 4000 in
theorem w_rd2 {X : Xt} {s : Int32} {I : Nat} {W : Int32} {f : Nat → Int32} {G0 : Gt} {Q : Qt} (hs : 0 ≤ s ∧ s ≤ 7) (hI : I + 10 ≤ 100) (hf : fX G0 s I = f) (h1 : ∀ j, j < 7 → 0 ≤ f j ∧ f j ≤ 100) (h2 : ∀ j, j < 3 → 0 ≤ f (7 + j) ∧ f (7 + j) ≤ 15) (K : ∀ G, FrS G0 G → QX G (yF f) (nF f) (tF f) → wp X m_Quarry_read 141 [(6, .int W)] [] G Q) : ∀ (z k : Nat) (q : Int32) (G : Gt), q = nI k → k + z = 3 → FrS G0 G → (∀ s, s < 4 → G 10 s = nI (yF f s)) → (∀ j, j < k → G 11 j = nI (nF f j)) → (∀ s, s < 4 → G 12 s = nI (tkF (fun k => tdN f (7 + k)) s k)) → wp X m_Quarry_read 96 ((7, .int q) :: (6, .int W) :: rdL s I) [] G Q
  | 0, k, q, G, hq, hz, hF, a1, a2, a3 => by
    subst hq
    have hk : k = 3 := by omega
    subst hk
    refine rn_wp (stops := [96, 141]) 60 ?_
    refine bi_t (by decide) ?_
    exact wp_pick [1] (K G hF ⟨a1, a2, a3⟩)
  | z + 1, k, q, G, hq, hz, hF, a1, a2, a3 => by
    subst hq
    have e2 : G 2 = G0 2 := hF.1 2 rfl (by decide)
    have ef : ∀ j, G 2 (100 * s.toNatClampNeg + (I + j)) = f j := by
      intro j
      rw [e2, ← hf]
    refine rn_wp (stops := [96, 141]) 60 ?_
    refine bi_f (by rw [show (3 : Int32) = nI 3 from rfl, nI_leI (by omega) (by omega)]; omega) ?_
    refine c_itemN (j := I + (4 + k)) hs (by rw [nI_add, Nat.add_assoc]) (by omega) ?_
    rw [ef]
    refine vi (vp_in_nI (by omega) (by omega)) ?_
    rw [nI_clamp (by omega)]
    refine c_itemN (j := I + (7 + k)) hs (by rw [nI_add, Nat.add_assoc]) (by omega) ?_
    have eV : (sG G 11 (upd (G 11) k (f (4 + k)))) 2 (100 * s.toNatClampNeg + (I + (7 + k))) = nI (tdN f (7 + k)) := (ef (7 + k)).trans (td_I (B := 15) rfl (h2 k (by omega))).1
    refine c_admit (G := sG G 11 (upd (G 11) k (f (4 + k)))) (V := tdN f (7 + k)) (τ := fun s => tkF (fun k => tdN f (7 + k)) s k) (by omega) (td_I (B := 15) rfl (h2 k (by omega))).2 (fun s _ => tkF_lt k (by omega)) a3 (fun g hg => ?_) eV
    refine w_rd2 hs hI hf h1 h2 K z (k + 1) _ _ (nI_1 _) (by omega) ((hF.s (p := 11) rfl).s (p := 12) rfl) a1 (fun j hj => ?_) (fun s' hs' => ?_)
    · show upd (G 11) k (f (4 + k)) j = _
      by_cases e : j = k
      · subst e
        rw [pk_us]
        exact (td_I (B := 100) rfl (h1 (4 + j) (by omega))).1
      · rw [pk_un e]
        exact a2 j (by omega)
    · show g s' = _
      rw [hg s' hs']
      rfl
set_option maxRecDepth 4000 in
theorem w_rd1 {X : Xt} {s : Int32} {I : Nat} {f : Nat → Int32} {G0 : Gt} {Q : Qt} (hs : 0 ≤ s ∧ s ≤ 7) (hI : I + 10 ≤ 100) (hf : fX G0 s I = f) (h1 : ∀ j, j < 7 → 0 ≤ f j ∧ f j ≤ 100) (h2 : ∀ j, j < 3 → 0 ≤ f (7 + j) ∧ f (7 + j) ≤ 15) (K : ∀ G, FrS G0 G → QX G (yF f) (nF f) (tF f) → wp X m_Quarry_read 141 [(6, .int (nI (tS (tdN f) 4)))] [] G Q) : ∀ (z k : Nat) (q l : Int32) (G : Gt), q = nI k → k + z = 4 → l = nI (tS (tdN f) k) → FrS G0 G → (∀ s, s < k → G 10 s = nI (yF f s)) → (∀ s, s < k → G 12 s = nI 0) → wp X m_Quarry_read 45 ((7, .int q) :: (6, .int l) :: rdL s I) [] G Q
  | 0, k, q, l, G, hq, hz, hl, hF, a1, a3 => by
    subst hq
    have hk : k = 4 := by omega
    subst hk
    subst hl
    refine rn_wp (stops := [45, 96]) 60 ?_
    refine bi_t (by decide) ?_
    exact w_rd2 hs hI hf h1 h2 K 3 0 _ G rfl rfl hF a1 (fun j hj => absurd hj (by omega)) a3
  | z + 1, k, q, l, G, hq, hz, hl, hF, a1, a3 => by
    subst hq
    have e2 : G 2 = G0 2 := hF.1 2 rfl (by decide)
    have ef : G 2 (100 * s.toNatClampNeg + (I + k)) = f k := by
      rw [e2, ← hf]
    have hk := td_I (B := 100) rfl (h1 k (by omega))
    refine rn_wp (stops := [45, 96]) 60 ?_
    refine bi_f (by rw [show (4 : Int32) = nI 4 from rfl, nI_leI (by omega) (by omega)]; omega) ?_
    refine c_itemN (j := I + k) hs (nI_add I k) (by omega) ?_
    rw [ef]
    refine vi (vp_in_nI (by omega) (by omega)) ?_
    refine vi (vp_in_nI (by omega) (by omega)) ?_
    refine vi (vp_in_nI (by omega) (by omega)) ?_
    rw [nI_clamp (by omega)]
    refine w_rd1 hs hI hf h1 h2 K z (k + 1) _ _ _ (nI_1 _) (by omega) ?_ ((hF.s (p := 10) rfl).s (p := 12) rfl) (fun j hj => ?_) (fun j hj => ?_)
    · show l + upd (G 10) k (f k) k = _
      rw [pk_us, hl]
      rw [hk.1, nI_add]
      rfl
    · show upd (G 10) k (f k) j = _
      by_cases e : j = k
      · subst e
        rw [pk_us]
        exact hk.1
      · rw [pk_un e]
        exact a1 j (by omega)
    · show upd (G 12) k 0 j = _
      by_cases e : j = k
      · subst e
        rw [pk_us]
        rfl
      · rw [pk_un e]
        exact a3 j (by omega)
set_option maxRecDepth 4000 in
theorem c_qread {X : Xt} {s : Int32} {I : Nat} {G : Gt} {Q : Qt} (hs : 0 ≤ s ∧ s ≤ 7) (hI : I + 10 ≤ 100) (K1 : ¬ rdP (fX G s I) → ∀ G', FrS G G' → Q (some (.int 0)) G') (K2 : rdP (fX G s I) → ∀ G', FrS G G' → QX G' (yF (fX G s I)) (nF (fX G s I)) (tF (fX G s I)) → Q (some (.int 1)) G') : con X m_Quarry_read [.ref 9, .ref 1, .int s, .int (nI I)] G Q := by
  have e4 : nI I + 4 = nI (I + 4) := by rw [show (4 : Int32) = nI 4 from rfl, nI_add]
  have e7 : nI I + 4 + 3 = nI (I + 7) := by rw [e4, show (3 : Int32) = nI 3 from rfl, nI_add]
  refine con_rn 40 [45] (by decide) rfl ?_
  refine c_areWithin hs (nI_pos' (by omega)) (by decide) (by rw [nI_toInt (by omega)]; show (I : Int) + 7 ≤ 100; omega) (fun h1 => ?_) (fun h1 => ?_)
  · rw [nI_clamp (by omega)] at h1
    have h1 : ∀ j, j < 7 → 0 ≤ fX G s I j ∧ fX G s I j ≤ 100 := h1
    refine bi_f (by decide) ?_
    refine c_areWithin hs (by rw [e7]; exact nI_pos' (by omega)) (by decide) (by rw [e7, nI_toInt (by omega)]; show ((I + 7 : Nat) : Int) + 3 ≤ 100; omega) (fun h2 => ?_) (fun h2 => ?_)
    · rw [e7, nI_clamp (by omega)] at h2
      have h2 : ∀ j, j < 3 → 0 ≤ fX G s I (7 + j) ∧ fX G s I (7 + j) ≤ 15 := by
        intro j hj
        have := h2 j hj
        rw [Nat.add_assoc] at this
        exact this
      refine bj_f (by decide) ?_
      rw [e7, e4]
      refine w_rd1 hs hI rfl h1 h2 (fun G' hF hq => ?_) 4 0 _ _ _ rfl rfl rfl (FrS.rf G) (fun j hj => absurd hj (by omega)) (fun j hj => absurd hj (by omega))
      have hb : tS (tdN (fX G s I)) 4 ≤ 700 := by
        have a0 := (td_I (B := 100) rfl (h1 0 (by omega))).2
        have a1 := (td_I (B := 100) rfl (h1 1 (by omega))).2
        have a2 := (td_I (B := 100) rfl (h1 2 (by omega))).2
        have a3 := (td_I (B := 100) rfl (h1 3 (by omega))).2
        show 0 + tdN (fX G s I) 0 + tdN (fX G s I) 1 + tdN (fX G s I) 2 + tdN (fX G s I) 3 ≤ 700
        omega
      refine rn_wp (stops := []) 10 ?_
      refine bj (fun h => ?_) (fun h => ?_)
      · rw [show (100 : Int32) = nI 100 from rfl, nI_eq (by omega) (by omega)] at h
        exact ni rfl (K1 (fun w => h w.2) G' hF)
      · rw [show (100 : Int32) = nI 100 from rfl, nI_eq (by omega) (by omega)] at h
        exact ni rfl (K2 ⟨⟨h1, h2⟩, h⟩ G' hF hq)
    · refine bj_t rfl ?_
      refine ni rfl (K1 (fun w => h2 (fun j hj => ?_)) G (FrS.rf G))
      rw [e7, nI_clamp (by omega), Nat.add_assoc]
      exact w.1.2 j hj
  · refine bi_t rfl ?_
    refine ni rfl (K1 (fun w => h1 (fun j hj => ?_)) G (FrS.rf G))
    rw [nI_clamp (by omega)]
    exact w.1.1 j hj
end
