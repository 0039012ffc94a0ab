section
-- ===== PART A: goes FIRST, ahead of the names: the tables' words, and 'selects' of the private methods out of them =====
/-- a private method of a class that the tables say can be made, by its rows of tables_1 -/
def lw_okq (q : MethodName × Nat) : Prop := (q.1.cls ≠ "java/lang/invoke/MethodHandle" ∧ q.1.cls ≠ "java/lang/invoke/VarHandle") ∧ Cond.instantiable q.1.cls q.2 ∈ tables_1 ∧ Cond.privateMethod q.1 ∈ tables_1 ∧ Cond.instanceMethod q.1 ∈ tables_1
theorem lw_p0 : lw_okq (⟨"StageLines$Loader", "ordersBehind", "(II)I"⟩, 5) := ⟨⟨by decide +kernel, by decide +kernel⟩, List.mem_of_getElem? (i := 124) (by decide +kernel), List.mem_of_getElem? (i := 280) (by decide +kernel), List.mem_of_getElem? (i := 281) (by decide +kernel)⟩
theorem lw_p1 : lw_okq (⟨"StageLines$Loader", "leastBehind", "(II)I"⟩, 5) := ⟨⟨by decide +kernel, by decide +kernel⟩, List.mem_of_getElem? (i := 124) (by decide +kernel), List.mem_of_getElem? (i := 297) (by decide +kernel), List.mem_of_getElem? (i := 298) (by decide +kernel)⟩
theorem lw_p2 : lw_okq (⟨"StageLines", "isMove", "(I)Z"⟩, 6) := ⟨⟨by decide +kernel, by decide +kernel⟩, List.mem_of_getElem? (i := 14) (by decide +kernel), List.mem_of_getElem? (i := 325) (by decide +kernel), List.mem_of_getElem? (i := 326) (by decide +kernel)⟩
theorem lw_p3 : lw_okq (⟨"StageLines", "flownBy", "(II)I"⟩, 6) := ⟨⟨by decide +kernel, by decide +kernel⟩, List.mem_of_getElem? (i := 14) (by decide +kernel), List.mem_of_getElem? (i := 345) (by decide +kernel), List.mem_of_getElem? (i := 346) (by decide +kernel)⟩
theorem lw_p4 : lw_okq (⟨"StageLines$CrewFinder", "foesOf", "(LStageLines$Stage;I)I"⟩, 7) := ⟨⟨by decide +kernel, by decide +kernel⟩, List.mem_of_getElem? (i := 159) (by decide +kernel), List.mem_of_getElem? (i := 378) (by decide +kernel), List.mem_of_getElem? (i := 379) (by decide +kernel)⟩
theorem lw_p5 : lw_okq (⟨"StageLines$CrewFinder", "reaches", "(LStageLines$Stage;II)Z"⟩, 7) := ⟨⟨by decide +kernel, by decide +kernel⟩, List.mem_of_getElem? (i := 159) (by decide +kernel), List.mem_of_getElem? (i := 382) (by decide +kernel), List.mem_of_getElem? (i := 383) (by decide +kernel)⟩
theorem lw_p6 : lw_okq (⟨"StageLines$CrewFinder", "giveFrom", "(I)Z"⟩, 7) := ⟨⟨by decide +kernel, by decide +kernel⟩, List.mem_of_getElem? (i := 159) (by decide +kernel), List.mem_of_getElem? (i := 390) (by decide +kernel), List.mem_of_getElem? (i := 391) (by decide +kernel)⟩
theorem lw_p7 : lw_okq (⟨"StageLines$CrewFinder", "doneAt", "(LStageLines$Stage;I)I"⟩, 7) := ⟨⟨by decide +kernel, by decide +kernel⟩, List.mem_of_getElem? (i := 159) (by decide +kernel), List.mem_of_getElem? (i := 455) (by decide +kernel), List.mem_of_getElem? (i := 456) (by decide +kernel)⟩
theorem lw_p8 : lw_okq (⟨"StageLines$CrewFinder", "turnsAhead", "(LStageLines$Stage;I)I"⟩, 7) := ⟨⟨by decide +kernel, by decide +kernel⟩, List.mem_of_getElem? (i := 159) (by decide +kernel), List.mem_of_getElem? (i := 468) (by decide +kernel), List.mem_of_getElem? (i := 469) (by decide +kernel)⟩
theorem lw_p9 : lw_okq (⟨"StageLines", "lastEnd", "()I"⟩, 6) := ⟨⟨by decide +kernel, by decide +kernel⟩, List.mem_of_getElem? (i := 14) (by decide +kernel), List.mem_of_getElem? (i := 509) (by decide +kernel), List.mem_of_getElem? (i := 510) (by decide +kernel)⟩
theorem lw_p10 : lw_okq (⟨"StageLinesModel", "many", "(II)I"⟩, 13) := ⟨⟨by decide +kernel, by decide +kernel⟩, List.mem_of_getElem? (i := 514) (by decide +kernel), List.mem_of_getElem? (i := 574) (by decide +kernel), List.mem_of_getElem? (i := 575) (by decide +kernel)⟩
theorem lw_p11 : lw_okq (⟨"StageLinesModel", "weight", "(III)I"⟩, 13) := ⟨⟨by decide +kernel, by decide +kernel⟩, List.mem_of_getElem? (i := 514) (by decide +kernel), List.mem_of_getElem? (i := 582) (by decide +kernel), List.mem_of_getElem? (i := 583) (by decide +kernel)⟩
theorem lw_p12 : lw_okq (⟨"StageLinesModel", "thing", "(III)I"⟩, 13) := ⟨⟨by decide +kernel, by decide +kernel⟩, List.mem_of_getElem? (i := 514) (by decide +kernel), List.mem_of_getElem? (i := 590) (by decide +kernel), List.mem_of_getElem? (i := 591) (by decide +kernel)⟩
theorem lw_p13 : lw_okq (⟨"StageLinesModel", "together", "(II)I"⟩, 13) := ⟨⟨by decide +kernel, by decide +kernel⟩, List.mem_of_getElem? (i := 514) (by decide +kernel), List.mem_of_getElem? (i := 594) (by decide +kernel), List.mem_of_getElem? (i := 595) (by decide +kernel)⟩
theorem lw_p14 : lw_okq (⟨"StageLinesModel", "isEven", "(I)Z"⟩, 13) := ⟨⟨by decide +kernel, by decide +kernel⟩, List.mem_of_getElem? (i := 514) (by decide +kernel), List.mem_of_getElem? (i := 598) (by decide +kernel), List.mem_of_getElem? (i := 599) (by decide +kernel)⟩
theorem lw_p15 : lw_okq (⟨"StageLinesModel", "movesOf", "(I)I"⟩, 13) := ⟨⟨by decide +kernel, by decide +kernel⟩, List.mem_of_getElem? (i := 514) (by decide +kernel), List.mem_of_getElem? (i := 605) (by decide +kernel), List.mem_of_getElem? (i := 606) (by decide +kernel)⟩
def lw_privs_1 : List (MethodName × Nat) := [(⟨"StageLines$Loader", "ordersBehind", "(II)I"⟩, 5), (⟨"StageLines$Loader", "leastBehind", "(II)I"⟩, 5), (⟨"StageLines", "isMove", "(I)Z"⟩, 6), (⟨"StageLines", "flownBy", "(II)I"⟩, 6), (⟨"StageLines$CrewFinder", "foesOf", "(LStageLines$Stage;I)I"⟩, 7), (⟨"StageLines$CrewFinder", "reaches", "(LStageLines$Stage;II)Z"⟩, 7), (⟨"StageLines$CrewFinder", "giveFrom", "(I)Z"⟩, 7), (⟨"StageLines$CrewFinder", "doneAt", "(LStageLines$Stage;I)I"⟩, 7), (⟨"StageLines$CrewFinder", "turnsAhead", "(LStageLines$Stage;I)I"⟩, 7), (⟨"StageLines", "lastEnd", "()I"⟩, 6), (⟨"StageLinesModel", "many", "(II)I"⟩, 13), (⟨"StageLinesModel", "weight", "(III)I"⟩, 13), (⟨"StageLinesModel", "thing", "(III)I"⟩, 13), (⟨"StageLinesModel", "together", "(II)I"⟩, 13), (⟨"StageLinesModel", "isEven", "(I)Z"⟩, 13), (⟨"StageLinesModel", "movesOf", "(I)I"⟩, 13)]
theorem lw_r1 : ∀ q ∈ lw_privs_1, lw_okq q := List.forall_mem_cons.mpr ⟨lw_p0, List.forall_mem_cons.mpr ⟨lw_p1, List.forall_mem_cons.mpr ⟨lw_p2, List.forall_mem_cons.mpr ⟨lw_p3, List.forall_mem_cons.mpr ⟨lw_p4, List.forall_mem_cons.mpr ⟨lw_p5, List.forall_mem_cons.mpr ⟨lw_p6, List.forall_mem_cons.mpr ⟨lw_p7, List.forall_mem_cons.mpr ⟨lw_p8, List.forall_mem_cons.mpr ⟨lw_p9, List.forall_mem_cons.mpr ⟨lw_p10, List.forall_mem_cons.mpr ⟨lw_p11, List.forall_mem_cons.mpr ⟨lw_p12, List.forall_mem_cons.mpr ⟨lw_p13, List.forall_mem_cons.mpr ⟨lw_p14, List.forall_mem_cons.mpr ⟨lw_p15, fun _ h => absurd h List.not_mem_nil⟩⟩⟩⟩⟩⟩⟩⟩⟩⟩⟩⟩⟩⟩⟩⟩
theorem lw_p16 : lw_okq (⟨"StageLinesModel", "layWays", "(I)V"⟩, 13) := ⟨⟨by decide +kernel, by decide +kernel⟩, List.mem_of_getElem? (i := 514) (by decide +kernel), List.mem_of_getElem? (i := 613) (by decide +kernel), List.mem_of_getElem? (i := 614) (by decide +kernel)⟩
theorem lw_p17 : lw_okq (⟨"StageLinesModel", "pull", "(II)I"⟩, 13) := ⟨⟨by decide +kernel, by decide +kernel⟩, List.mem_of_getElem? (i := 514) (by decide +kernel), List.mem_of_getElem? (i := 620) (by decide +kernel), List.mem_of_getElem? (i := 621) (by decide +kernel)⟩
theorem lw_p18 : lw_okq (⟨"StageLinesModel", "moveAt", "(II)I"⟩, 13) := ⟨⟨by decide +kernel, by decide +kernel⟩, List.mem_of_getElem? (i := 514) (by decide +kernel), List.mem_of_getElem? (i := 632) (by decide +kernel), List.mem_of_getElem? (i := 633) (by decide +kernel)⟩
theorem lw_p19 : lw_okq (⟨"StageLinesModel", "isMove", "(I)Z"⟩, 13) := ⟨⟨by decide +kernel, by decide +kernel⟩, List.mem_of_getElem? (i := 514) (by decide +kernel), List.mem_of_getElem? (i := 640) (by decide +kernel), List.mem_of_getElem? (i := 641) (by decide +kernel)⟩
theorem lw_p20 : lw_okq (⟨"StageLinesModel", "layHeights", "(I)V"⟩, 13) := ⟨⟨by decide +kernel, by decide +kernel⟩, List.mem_of_getElem? (i := 514) (by decide +kernel), List.mem_of_getElem? (i := 652) (by decide +kernel), List.mem_of_getElem? (i := 653) (by decide +kernel)⟩
theorem lw_p21 : lw_okq (⟨"StageLinesModel", "latest", "(II)I"⟩, 13) := ⟨⟨by decide +kernel, by decide +kernel⟩, List.mem_of_getElem? (i := 514) (by decide +kernel), List.mem_of_getElem? (i := 656) (by decide +kernel), List.mem_of_getElem? (i := 657) (by decide +kernel)⟩
theorem lw_p22 : lw_okq (⟨"StageLinesModel", "layRows", "()V"⟩, 13) := ⟨⟨by decide +kernel, by decide +kernel⟩, List.mem_of_getElem? (i := 514) (by decide +kernel), List.mem_of_getElem? (i := 664) (by decide +kernel), List.mem_of_getElem? (i := 665) (by decide +kernel)⟩
theorem lw_p23 : lw_okq (⟨"StageLinesModel", "doStrike", "(III)Z"⟩, 13) := ⟨⟨by decide +kernel, by decide +kernel⟩, List.mem_of_getElem? (i := 514) (by decide +kernel), List.mem_of_getElem? (i := 668) (by decide +kernel), List.mem_of_getElem? (i := 669) (by decide +kernel)⟩
theorem lw_p24 : lw_okq (⟨"StageLinesModel", "areNear", "(II)Z"⟩, 13) := ⟨⟨by decide +kernel, by decide +kernel⟩, List.mem_of_getElem? (i := 514) (by decide +kernel), List.mem_of_getElem? (i := 672) (by decide +kernel), List.mem_of_getElem? (i := 673) (by decide +kernel)⟩
theorem lw_p25 : lw_okq (⟨"StageLinesModel", "endOf", "(I)I"⟩, 13) := ⟨⟨by decide +kernel, by decide +kernel⟩, List.mem_of_getElem? (i := 514) (by decide +kernel), List.mem_of_getElem? (i := 688) (by decide +kernel), List.mem_of_getElem? (i := 689) (by decide +kernel)⟩
theorem lw_p26 : lw_okq (⟨"StageLinesModel", "nextBegin", "(I)I"⟩, 13) := ⟨⟨by decide +kernel, by decide +kernel⟩, List.mem_of_getElem? (i := 514) (by decide +kernel), List.mem_of_getElem? (i := 692) (by decide +kernel), List.mem_of_getElem? (i := 693) (by decide +kernel)⟩
theorem lw_p27 : lw_okq (⟨"StageLinesModel", "isCut", "(I)Z"⟩, 13) := ⟨⟨by decide +kernel, by decide +kernel⟩, List.mem_of_getElem? (i := 514) (by decide +kernel), List.mem_of_getElem? (i := 696) (by decide +kernel), List.mem_of_getElem? (i := 697) (by decide +kernel)⟩
theorem lw_p28 : lw_okq (⟨"StageLinesModel", "handOf", "(I)I"⟩, 13) := ⟨⟨by decide +kernel, by decide +kernel⟩, List.mem_of_getElem? (i := 514) (by decide +kernel), List.mem_of_getElem? (i := 700) (by decide +kernel), List.mem_of_getElem? (i := 701) (by decide +kernel)⟩
theorem lw_p29 : lw_okq (⟨"StageLinesModel", "layCrew", "()V"⟩, 13) := ⟨⟨by decide +kernel, by decide +kernel⟩, List.mem_of_getElem? (i := 514) (by decide +kernel), List.mem_of_getElem? (i := 704) (by decide +kernel), List.mem_of_getElem? (i := 705) (by decide +kernel)⟩
theorem lw_p30 : lw_okq (⟨"StageLinesModel", "layHands", "()I"⟩, 13) := ⟨⟨by decide +kernel, by decide +kernel⟩, List.mem_of_getElem? (i := 514) (by decide +kernel), List.mem_of_getElem? (i := 708) (by decide +kernel), List.mem_of_getElem? (i := 709) (by decide +kernel)⟩
theorem lw_p31 : lw_okq (⟨"StageLinesModel", "layAble", "()V"⟩, 13) := ⟨⟨by decide +kernel, by decide +kernel⟩, List.mem_of_getElem? (i := 514) (by decide +kernel), List.mem_of_getElem? (i := 712) (by decide +kernel), List.mem_of_getElem? (i := 713) (by decide +kernel)⟩
def lw_privs_2 : List (MethodName × Nat) := [(⟨"StageLinesModel", "layWays", "(I)V"⟩, 13), (⟨"StageLinesModel", "pull", "(II)I"⟩, 13), (⟨"StageLinesModel", "moveAt", "(II)I"⟩, 13), (⟨"StageLinesModel", "isMove", "(I)Z"⟩, 13), (⟨"StageLinesModel", "layHeights", "(I)V"⟩, 13), (⟨"StageLinesModel", "latest", "(II)I"⟩, 13), (⟨"StageLinesModel", "layRows", "()V"⟩, 13), (⟨"StageLinesModel", "doStrike", "(III)Z"⟩, 13), (⟨"StageLinesModel", "areNear", "(II)Z"⟩, 13), (⟨"StageLinesModel", "endOf", "(I)I"⟩, 13), (⟨"StageLinesModel", "nextBegin", "(I)I"⟩, 13), (⟨"StageLinesModel", "isCut", "(I)Z"⟩, 13), (⟨"StageLinesModel", "handOf", "(I)I"⟩, 13), (⟨"StageLinesModel", "layCrew", "()V"⟩, 13), (⟨"StageLinesModel", "layHands", "()I"⟩, 13), (⟨"StageLinesModel", "layAble", "()V"⟩, 13)]
theorem lw_r2 : ∀ q ∈ lw_privs_2, lw_okq q := List.forall_mem_cons.mpr ⟨lw_p16, List.forall_mem_cons.mpr ⟨lw_p17, List.forall_mem_cons.mpr ⟨lw_p18, List.forall_mem_cons.mpr ⟨lw_p19, List.forall_mem_cons.mpr ⟨lw_p20, List.forall_mem_cons.mpr ⟨lw_p21, List.forall_mem_cons.mpr ⟨lw_p22, List.forall_mem_cons.mpr ⟨lw_p23, List.forall_mem_cons.mpr ⟨lw_p24, List.forall_mem_cons.mpr ⟨lw_p25, List.forall_mem_cons.mpr ⟨lw_p26, List.forall_mem_cons.mpr ⟨lw_p27, List.forall_mem_cons.mpr ⟨lw_p28, List.forall_mem_cons.mpr ⟨lw_p29, List.forall_mem_cons.mpr ⟨lw_p30, List.forall_mem_cons.mpr ⟨lw_p31, fun _ h => absurd h List.not_mem_nil⟩⟩⟩⟩⟩⟩⟩⟩⟩⟩⟩⟩⟩⟩⟩⟩
theorem lw_p32 : lw_okq (⟨"StageLinesModel", "canBeOne", "(I)Z"⟩, 13) := ⟨⟨by decide +kernel, by decide +kernel⟩, List.mem_of_getElem? (i := 514) (by decide +kernel), List.mem_of_getElem? (i := 716) (by decide +kernel), List.mem_of_getElem? (i := 717) (by decide +kernel)⟩
theorem lw_p33 : lw_okq (⟨"StageLinesModel", "canDoBoth", "(II)Z"⟩, 13) := ⟨⟨by decide +kernel, by decide +kernel⟩, List.mem_of_getElem? (i := 514) (by decide +kernel), List.mem_of_getElem? (i := 720) (by decide +kernel), List.mem_of_getElem? (i := 721) (by decide +kernel)⟩
theorem lw_p34 : lw_okq (⟨"StageLinesModel", "begin", "(I)I"⟩, 13) := ⟨⟨by decide +kernel, by decide +kernel⟩, List.mem_of_getElem? (i := 514) (by decide +kernel), List.mem_of_getElem? (i := 724) (by decide +kernel), List.mem_of_getElem? (i := 725) (by decide +kernel)⟩
theorem lw_p35 : lw_okq (⟨"StageLinesModel", "fits", "(I)Z"⟩, 13) := ⟨⟨by decide +kernel, by decide +kernel⟩, List.mem_of_getElem? (i := 514) (by decide +kernel), List.mem_of_getElem? (i := 728) (by decide +kernel), List.mem_of_getElem? (i := 729) (by decide +kernel)⟩
theorem lw_p36 : lw_okq (⟨"StageLinesModel", "mostAtOnce", "()I"⟩, 13) := ⟨⟨by decide +kernel, by decide +kernel⟩, List.mem_of_getElem? (i := 514) (by decide +kernel), List.mem_of_getElem? (i := 736) (by decide +kernel), List.mem_of_getElem? (i := 737) (by decide +kernel)⟩
theorem lw_p37 : lw_okq (⟨"StageLinesModel", "evenBars", "()I"⟩, 13) := ⟨⟨by decide +kernel, by decide +kernel⟩, List.mem_of_getElem? (i := 514) (by decide +kernel), List.mem_of_getElem? (i := 756) (by decide +kernel), List.mem_of_getElem? (i := 757) (by decide +kernel)⟩
theorem lw_p38 : lw_okq (⟨"StageLinesModel", "nearPairs", "()I"⟩, 13) := ⟨⟨by decide +kernel, by decide +kernel⟩, List.mem_of_getElem? (i := 514) (by decide +kernel), List.mem_of_getElem? (i := 760) (by decide +kernel), List.mem_of_getElem? (i := 761) (by decide +kernel)⟩
theorem lw_p39 : lw_okq (⟨"StageLinesModel", "lastEnd", "()I"⟩, 13) := ⟨⟨by decide +kernel, by decide +kernel⟩, List.mem_of_getElem? (i := 514) (by decide +kernel), List.mem_of_getElem? (i := 764) (by decide +kernel), List.mem_of_getElem? (i := 765) (by decide +kernel)⟩
def lw_privs_3 : List (MethodName × Nat) := [(⟨"StageLinesModel", "canBeOne", "(I)Z"⟩, 13), (⟨"StageLinesModel", "canDoBoth", "(II)Z"⟩, 13), (⟨"StageLinesModel", "begin", "(I)I"⟩, 13), (⟨"StageLinesModel", "fits", "(I)Z"⟩, 13), (⟨"StageLinesModel", "mostAtOnce", "()I"⟩, 13), (⟨"StageLinesModel", "evenBars", "()I"⟩, 13), (⟨"StageLinesModel", "nearPairs", "()I"⟩, 13), (⟨"StageLinesModel", "lastEnd", "()I"⟩, 13)]
theorem lw_r3 : ∀ q ∈ lw_privs_3, lw_okq q := List.forall_mem_cons.mpr ⟨lw_p32, List.forall_mem_cons.mpr ⟨lw_p33, List.forall_mem_cons.mpr ⟨lw_p34, List.forall_mem_cons.mpr ⟨lw_p35, List.forall_mem_cons.mpr ⟨lw_p36, List.forall_mem_cons.mpr ⟨lw_p37, List.forall_mem_cons.mpr ⟨lw_p38, List.forall_mem_cons.mpr ⟨lw_p39, fun _ h => absurd h List.not_mem_nil⟩⟩⟩⟩⟩⟩⟩⟩
def lw_privs : List (MethodName × Nat) := lw_privs_1 ++ (lw_privs_2 ++ (lw_privs_3))
def lw_tbl : List Cond := k2_sels lw_privs ++ tables_1
theorem lw_privs_ok : ∀ q ∈ lw_privs, lw_okq q := by
  show ∀ q ∈ lw_privs_1 ++ (lw_privs_2 ++ (lw_privs_3)), lw_okq q
  exact List.forall_mem_append.mpr ⟨lw_r1, List.forall_mem_append.mpr ⟨lw_r2, lw_r3⟩⟩
theorem mem_r {big : List Cond} {ws : List Cond} (ps : List Nat) (hp : ws = ps.filterMap (fun i => big[i]?)) : ∀ w ∈ ws, w ∈ big := by
  intro w hw
  rw [hp] at hw
  obtain ⟨i, -, hi⟩ := List.mem_filterMap.mp hw
  exact List.mem_of_getElem? hi
end
section
/-! ===== BEGIN words of one list among another's, by their places ===== -/
theorem goodIn_r {big : List Cond} (ws : List Cond) (ps : List Nat) (hp : ws = ps.filterMap (fun i => big[i]?)) (h : ws.all goodWord = true) : GoodIn big ws := by
  intro w hw
  have h1 := List.all_eq_true.mp h w hw
  rw [hp] at hw
  obtain ⟨i, -, hi⟩ := List.mem_filterMap.mp hw
  have hm : w ∈ big := by first | exact List.mem_of_getElem? hi | exact List.getElem?_mem hi
  exact ⟨hm, good_of_word h1⟩
theorem goodIn_app {big a b : List Cond} (ha : GoodIn big a) (hb : GoodIn big b) : GoodIn big (a ++ b) := fun w h => (List.mem_append.mp h).elim (ha w) (hb w)
theorem goodIn_ca {big a b : List Cond} {c : Cond} (ha : GoodIn big (c :: a)) (hb : GoodIn big b) : GoodIn big (c :: (a ++ b)) := fun w h => (List.mem_cons.mp h).elim (fun e => ha w (List.mem_cons.mpr (Or.inl e))) (fun h => (List.mem_append.mp h).elim (fun h => ha w (List.mem_cons.mpr (Or.inr h))) (hb w))
theorem goodIn_sub {big ws : List Cond} (hm : ∀ w ∈ ws, w ∈ big) (h : ws.all goodWord = true) : GoodIn big ws := fun w hw => ⟨hm w hw, good_of_word (List.all_eq_true.mp h w hw)⟩
/-! ===== END ===== -/

/-! ===== BEGIN new T[n][m]: the outer array a place, the inner ones among the pooled ===== -/
/-- f, but v at every address of l -/
def vr_up {α : Type} (f : Nat → α) (l : List Nat) (v : α) : Nat → α := fun a => if a ∈ l then v else f a
theorem vr_up_in {α : Type} {f : Nat → α} {l : List Nat} {v : α} {a : Nat} (h : a ∈ l) : vr_up f l v a = v := if_pos h
theorem vr_up_ne {α : Type} {f : Nat → α} {l : List Nat} {v : α} {a : Nat} (h : a ∉ l) : vr_up f l v a = f a := if_neg h
theorem vr_rows {L l : List Nat} {f : Nat → va_E} {e : va_E} (h : ∀ a, a ∈ l → a ∉ L) : va_pl L f ++ l.map (fun a => (a, e)) = va_pl (L ++ l) (vr_up f l e) := by
  unfold va_pl
  rw [List.map_append]
  congr 1
  · apply List.map_congr_left
    intro a ha
    rw [vr_up_ne (fun q => h a q ha)]
  · apply List.map_congr_left
    intro a ha
    rw [vr_up_in ha]
theorem vr_lay {X rows : va_W} {x : Nat × va_E} {pl : va_W} {D : va_G} {cl : List vw_C} {H : Heap} (hP : va_P D cl (((X ++ pl) ++ [x]) ++ rows) H) : va_P D cl ((X ++ [x]) ++ (pl ++ rows)) H := by
  rw [List.append_assoc (X ++ pl)] at hP
  have h := va_P.swap hP
  rw [← List.append_assoc X] at h
  have h2 := va_P.swap h
  rw [List.append_assoc (X ++ [x])] at h2
  exact h2
theorem vr_layD {X rows : va_W} {x : Nat × va_E} {pl : va_W} {A : Nat → Prop} (hD : va_D A (((X ++ pl) ++ [x]) ++ rows)) : va_D A ((X ++ [x]) ++ (pl ++ rows)) := by
  rw [List.append_assoc (X ++ pl)] at hD
  have h := va_D.swap hD
  rw [← List.append_assoc X] at h
  have h2 := va_D.swap h
  rw [List.append_assoc (X ++ [x])] at h2
  exact h2
theorem vr_outer (c : ClassId) (N h0 : Nat) : ∀ i : Nat, Jvm.Free.Multi.outerC c N h0 i = arrV c N (fun j => va_rf (if j < i then some (h0 + 1 + j) else none))
  | 0 => by
    show ({ cls := c, slots := Array.replicate N .null, vm := .none } : Cell) = _
    rw [arrV_new]
    refine congrArg (arrV c N) (funext fun j => ?_)
    simp [va_rf]
  | i + 1 => by
    show (Jvm.Free.Multi.outerC c N h0 i).setSlot i (.ref (h0 + 1 + i)) = _
    rw [vr_outer c N h0 i, arrV_store]
    refine congrArg (arrV c N) (funext fun j => ?_)
    by_cases e : j = i
    · subst e
      simp [updV, va_rf]
    · by_cases h : j < i
      · simp [updV, e, h, Nat.lt_succ_of_lt h]
      · simp [updV, e, h, show ¬ j < i + 1 by omega]
/-! ===== END ===== -/

/-! ===== BEGIN printed: names, fields, word lists, decode rows ===== -/
def RX0 : String := "StageLines$Bar"
def TX0 : u_T := fun k => match k with
  | 0 => ("StageLines$Bar", "settings", "[I", true)
  | 1 => ("StageLines$Bar", "pieces", "LStageLines$Pile;", true)
  | _ => ("StageLines$Bar", "bricks", "LStageLines$Pile;", true)
def tyX0 : Nat → FieldType := fun k => match k with
  | 0 => .array .int
  | 1 => .object "StageLines$Pile"
  | _ => .object "StageLines$Pile"
abbrev wsX00 : List Cond := u_ws RX0 TX0 3
theorem nmX0 : ∀ a, a < 3 → ∀ b, b < 3 → a ≠ b → (TX0 a).2.1 ≠ (TX0 b).2.1 := by decide +kernel
theorem tyX0_ok : ∀ k, k < 3 → parseFieldDescriptor (TX0 k).2.2.1 = some (tyX0 k) := by decide +kernel
abbrev cX0_init : ByteArray := prog_2_method_1_code
def yX0_init : MethodName := ⟨RX0, "<init>", "()V"⟩
abbrev cX0_pileOf : ByteArray := prog_2_method_2_code
def yX0_pileOf : MethodName := ⟨RX0, "pileOf", "(I)LStageLines$Pile;"⟩
abbrev cX0_isEven : ByteArray := prog_2_method_3_code
def yX0_isEven : MethodName := ⟨RX0, "isEven", "(I)Z"⟩
abbrev cX0_copyFrom : ByteArray := prog_2_method_4_code
def yX0_copyFrom : MethodName := ⟨RX0, "copyFrom", "(LStageLines$Bar;)V"⟩
def RX1 : String := "StageLines$CrewFinder"
def TX1 : u_T := fun k => match k with
  | 0 => ("StageLines$CrewFinder", "least", "I", false)
  | 1 => ("StageLines$CrewFinder", "handOf", "[I", true)
  | 2 => ("StageLines$CrewFinder", "doable", "[Z", true)
  | 3 => ("StageLines$CrewFinder", "ends", "[I", true)
  | 4 => ("StageLines$CrewFinder", "foes", "[I", true)
  | 5 => ("StageLines$CrewFinder", "doneBy", "[I", true)
  | _ => ("StageLines$CrewFinder", "size", "I", false)
def tyX1 : Nat → FieldType := fun k => match k with
  | 0 => .int
  | 1 => .array .int
  | 2 => .array .boolean
  | 3 => .array .int
  | 4 => .array .int
  | 5 => .array .int
  | _ => .int
abbrev wsX10 : List Cond := u_ws RX1 TX1 7
theorem nmX1 : ∀ a, a < 7 → ∀ b, b < 7 → a ≠ b → (TX1 a).2.1 ≠ (TX1 b).2.1 := by decide +kernel
theorem tyX1_ok : ∀ k, k < 7 → parseFieldDescriptor (TX1 k).2.2.1 = some (tyX1 k) := by decide +kernel
abbrev cX1_init : ByteArray := prog_3_method_1_code
def yX1_init : MethodName := ⟨RX1, "<init>", "()V"⟩
abbrev cX1_gather : ByteArray := prog_3_method_2_code
def yX1_gather : MethodName := ⟨RX1, "gather", "(LStageLines$Stage;LStageLines$Flight;)V"⟩
abbrev cX1_doableCount : ByteArray := prog_3_method_3_code
def yX1_doableCount : MethodName := ⟨RX1, "doableCount", "()I"⟩
abbrev cX1_mostAtOnce : ByteArray := prog_3_method_4_code
def yX1_mostAtOnce : MethodName := ⟨RX1, "mostAtOnce", "(LStageLines$Stage;)I"⟩
abbrev cX1_turn : ByteArray := prog_3_method_5_code
def yX1_turn : MethodName := ⟨RX1, "turn", "(LStageLines$Stage;II)I"⟩
abbrev cX1_doneAt : ByteArray := prog_3_method_6_code
def yX1_doneAt : MethodName := ⟨RX1, "doneAt", "(LStageLines$Stage;I)I"⟩
abbrev cX1_turnsAhead : ByteArray := prog_3_method_7_code
def yX1_turnsAhead : MethodName := ⟨RX1, "turnsAhead", "(LStageLines$Stage;I)I"⟩
abbrev cX1_foesOf : ByteArray := prog_3_method_8_code
def yX1_foesOf : MethodName := ⟨RX1, "foesOf", "(LStageLines$Stage;I)I"⟩
abbrev cX1_reaches : ByteArray := prog_3_method_9_code
def yX1_reaches : MethodName := ⟨RX1, "reaches", "(LStageLines$Stage;II)Z"⟩
abbrev cX1_giveFrom : ByteArray := prog_3_method_10_code
def yX1_giveFrom : MethodName := ⟨RX1, "giveFrom", "(I)Z"⟩
def RX2 : String := "StageLines$Flight"
def TX2 : u_T := fun k => match k with
  | _ => ("StageLines$Flight", "heights", "[[I", true)
def tyX2 : Nat → FieldType := fun k => match k with
  | _ => .array (.array .int)
abbrev wsX20 : List Cond := u_ws RX2 TX2 1
theorem nmX2 : ∀ a, a < 1 → ∀ b, b < 1 → a ≠ b → (TX2 a).2.1 ≠ (TX2 b).2.1 := by decide +kernel
theorem tyX2_ok : ∀ k, k < 1 → parseFieldDescriptor (TX2 k).2.2.1 = some (tyX2 k) := by decide +kernel
abbrev cX2_init : ByteArray := prog_4_method_1_code
def yX2_init : MethodName := ⟨RX2, "<init>", "()V"⟩
abbrev cX2_trace : ByteArray := prog_4_method_2_code
def yX2_trace : MethodName := ⟨RX2, "trace", "(LStageLines$Stage;I)V"⟩
abbrev cX2_traceAll : ByteArray := prog_4_method_3_code
def yX2_traceAll : MethodName := ⟨RX2, "traceAll", "(LStageLines$Stage;)V"⟩
abbrev cX2_endOf : ByteArray := prog_4_method_4_code
def yX2_endOf : MethodName := ⟨RX2, "endOf", "(LStageLines$Stage;I)I"⟩
abbrev cX2_canStrike : ByteArray := prog_4_method_5_code
def yX2_canStrike : MethodName := ⟨RX2, "canStrike", "(LStageLines$Stage;II)Z"⟩
abbrev cX2_overlap : ByteArray := prog_4_method_6_code
def yX2_overlap : MethodName := ⟨RX2, "overlap", "(LStageLines$Stage;III)Z"⟩
abbrev cX2_firstStrike : ByteArray := prog_4_method_7_code
def yX2_firstStrike : MethodName := ⟨RX2, "firstStrike", "(LStageLines$Stage;IIII)I"⟩
abbrev cX2_strikesOf : ByteArray := prog_4_method_8_code
def yX2_strikesOf : MethodName := ⟨RX2, "strikesOf", "(LStageLines$Stage;II)I"⟩
def RX3 : String := "StageLines$Loader"
def TX3 : u_T := fun k => match k with
  | 0 => ("StageLines$Loader", "pieceSums", "[I", true)
  | 1 => ("StageLines$Loader", "brickSums", "[I", true)
  | 2 => ("StageLines$Loader", "orders", "[I", true)
  | 3 => ("StageLines$Loader", "pieceCount", "I", false)
  | _ => ("StageLines$Loader", "brickCount", "I", false)
def tyX3 : Nat → FieldType := fun k => match k with
  | 0 => .array .int
  | 1 => .array .int
  | 2 => .array .int
  | 3 => .int
  | _ => .int
abbrev wsX30 : List Cond := u_ws RX3 TX3 5
theorem nmX3 : ∀ a, a < 5 → ∀ b, b < 5 → a ≠ b → (TX3 a).2.1 ≠ (TX3 b).2.1 := by decide +kernel
theorem tyX3_ok : ∀ k, k < 5 → parseFieldDescriptor (TX3 k).2.2.1 = some (tyX3 k) := by decide +kernel
abbrev cX3_init : ByteArray := prog_5_method_1_code
def yX3_init : MethodName := ⟨RX3, "<init>", "()V"⟩
abbrev cX3_reckon : ByteArray := prog_5_method_2_code
def yX3_reckon : MethodName := ⟨RX3, "reckon", "(LStageLines$Bar;I)V"⟩
abbrev cX3_allOrders : ByteArray := prog_5_method_3_code
def yX3_allOrders : MethodName := ⟨RX3, "allOrders", "()I"⟩
abbrev cX3_things : ByteArray := prog_5_method_4_code
def yX3_things : MethodName := ⟨RX3, "things", "()I"⟩
abbrev cX3_placed : ByteArray := prog_5_method_5_code
def yX3_placed : MethodName := ⟨RX3, "placed", "(I)I"⟩
abbrev cX3_fillSums : ByteArray := prog_5_method_6_code
def yX3_fillSums : MethodName := ⟨RX3, "fillSums", "(LStageLines$Pile;[I)V"⟩
abbrev cX3_indexOf : ByteArray := prog_5_method_7_code
def yX3_indexOf : MethodName := ⟨RX3, "indexOf", "(II)I"⟩
abbrev cX3_ordersBehind : ByteArray := prog_5_method_8_code
def yX3_ordersBehind : MethodName := ⟨RX3, "ordersBehind", "(II)I"⟩
abbrev cX3_leastBehind : ByteArray := prog_5_method_9_code
def yX3_leastBehind : MethodName := ⟨RX3, "leastBehind", "(II)I"⟩
def RX4 : String := "StageLines$Move"
def TX4 : u_T := fun k => match k with
  | 0 => ("StageLines$Move", "bar", "I", false)
  | 1 => ("StageLines$Move", "begin", "I", false)
  | 2 => ("StageLines$Move", "target", "I", false)
  | _ => ("StageLines$Move", "pace", "I", false)
def tyX4 : Nat → FieldType := fun k => match k with
  | 0 => .int
  | 1 => .int
  | 2 => .int
  | _ => .int
abbrev wsX40 : List Cond := u_ws RX4 TX4 4
theorem nmX4 : ∀ a, a < 4 → ∀ b, b < 4 → a ≠ b → (TX4 a).2.1 ≠ (TX4 b).2.1 := by decide +kernel
theorem tyX4_ok : ∀ k, k < 4 → parseFieldDescriptor (TX4 k).2.2.1 = some (tyX4 k) := by decide +kernel
abbrev cX4_init : ByteArray := prog_6_method_1_code
def yX4_init : MethodName := ⟨RX4, "<init>", "()V"⟩
abbrev cX4_stepFrom : ByteArray := prog_6_method_2_code
def yX4_stepFrom : MethodName := ⟨RX4, "stepFrom", "(I)I"⟩
abbrev cX4_copyFrom : ByteArray := prog_6_method_3_code
def yX4_copyFrom : MethodName := ⟨RX4, "copyFrom", "(LStageLines$Move;)V"⟩
def RX5 : String := "StageLines$Pile"
def TX5 : u_T := fun k => match k with
  | 0 => ("StageLines$Pile", "weights", "[I", true)
  | _ => ("StageLines$Pile", "size", "I", false)
def tyX5 : Nat → FieldType := fun k => match k with
  | 0 => .array .int
  | _ => .int
abbrev wsX50 : List Cond := u_ws RX5 TX5 2
theorem nmX5 : ∀ a, a < 2 → ∀ b, b < 2 → a ≠ b → (TX5 a).2.1 ≠ (TX5 b).2.1 := by decide +kernel
theorem tyX5_ok : ∀ k, k < 2 → parseFieldDescriptor (TX5 k).2.2.1 = some (tyX5 k) := by decide +kernel
abbrev cX5_init : ByteArray := prog_7_method_1_code
def yX5_init : MethodName := ⟨RX5, "<init>", "()V"⟩
abbrev cX5_add : ByteArray := prog_7_method_2_code
def yX5_add : MethodName := ⟨RX5, "add", "(I)V"⟩
abbrev cX5_remove : ByteArray := prog_7_method_3_code
def yX5_remove : MethodName := ⟨RX5, "remove", "(I)I"⟩
abbrev cX5_weightOf : ByteArray := prog_7_method_4_code
def yX5_weightOf : MethodName := ⟨RX5, "weightOf", "(I)I"⟩
abbrev cX5_total : ByteArray := prog_7_method_5_code
def yX5_total : MethodName := ⟨RX5, "total", "()I"⟩
abbrev cX5_copyFrom : ByteArray := prog_7_method_6_code
def yX5_copyFrom : MethodName := ⟨RX5, "copyFrom", "(LStageLines$Pile;)V"⟩
def RX6 : String := "StageLines$Stage"
def TX6 : u_T := fun k => match k with
  | 0 => ("StageLines$Stage", "bars", "[LStageLines$Bar;", true)
  | 1 => ("StageLines$Stage", "moves", "[LStageLines$Move;", true)
  | 2 => ("StageLines$Stage", "moveCount", "I", false)
  | _ => ("StageLines$Stage", "sway", "I", false)
def tyX6 : Nat → FieldType := fun k => match k with
  | 0 => .array (.object "StageLines$Bar")
  | 1 => .array (.object "StageLines$Move")
  | 2 => .int
  | _ => .int
abbrev wsX60 : List Cond := u_ws RX6 TX6 4
theorem nmX6 : ∀ a, a < 4 → ∀ b, b < 4 → a ≠ b → (TX6 a).2.1 ≠ (TX6 b).2.1 := by decide +kernel
theorem tyX6_ok : ∀ k, k < 4 → parseFieldDescriptor (TX6 k).2.2.1 = some (tyX6 k) := by decide +kernel
abbrev cX6_init : ByteArray := prog_8_method_1_code
def yX6_init : MethodName := ⟨RX6, "<init>", "()V"⟩
abbrev cX6_copyFrom : ByteArray := prog_8_method_2_code
def yX6_copyFrom : MethodName := ⟨RX6, "copyFrom", "(LStageLines$Stage;)V"⟩
abbrev cX6_addMove : ByteArray := prog_8_method_3_code
def yX6_addMove : MethodName := ⟨RX6, "addMove", "(IIII)I"⟩
abbrev cX6_removeMove : ByteArray := prog_8_method_4_code
def yX6_removeMove : MethodName := ⟨RX6, "removeMove", "(I)V"⟩
abbrev cX6_movesOf : ByteArray := prog_8_method_5_code
def yX6_movesOf : MethodName := ⟨RX6, "movesOf", "(I)I"⟩
abbrev cX6_moveAt : ByteArray := prog_8_method_6_code
def yX6_moveAt : MethodName := ⟨RX6, "moveAt", "(II)I"⟩
abbrev cX6_firstMoveFrom : ByteArray := prog_8_method_7_code
def yX6_firstMoveFrom : MethodName := ⟨RX6, "firstMoveFrom", "(II)I"⟩
abbrev cX6_areNear : ByteArray := prog_8_method_8_code
def yX6_areNear : MethodName := ⟨RX6, "areNear", "(II)Z"⟩
abbrev cX6_isDoable : ByteArray := prog_8_method_9_code
def yX6_isDoable : MethodName := ⟨RX6, "isDoable", "(I)Z"⟩
abbrev cX6_evenBars : ByteArray := prog_8_method_10_code
def yX6_evenBars : MethodName := ⟨RX6, "evenBars", "()I"⟩
abbrev cX6_nearPairs : ByteArray := prog_8_method_11_code
def yX6_nearPairs : MethodName := ⟨RX6, "nearPairs", "()I"⟩
def RX7 : String := "StageLines"
def TX7 : u_T := fun k => match k with
  | 0 => ("StageLines", "stage", "LStageLines$Stage;", true)
  | 1 => ("StageLines", "images", "[LStageLines$Stage;", true)
  | 2 => ("StageLines", "keptImages", "I", false)
  | 3 => ("StageLines", "loader", "LStageLines$Loader;", true)
  | 4 => ("StageLines", "flight", "LStageLines$Flight;", true)
  | _ => ("StageLines", "crewFinder", "LStageLines$CrewFinder;", true)
def tyX7 : Nat → FieldType := fun k => match k with
  | 0 => .object "StageLines$Stage"
  | 1 => .array (.object "StageLines$Stage")
  | 2 => .int
  | 3 => .object "StageLines$Loader"
  | 4 => .object "StageLines$Flight"
  | _ => .object "StageLines$CrewFinder"
abbrev wsX70 : List Cond := u_ws RX7 TX7 6
theorem nmX7 : ∀ a, a < 6 → ∀ b, b < 6 → a ≠ b → (TX7 a).2.1 ≠ (TX7 b).2.1 := by decide +kernel
theorem tyX7_ok : ∀ k, k < 6 → parseFieldDescriptor (TX7 k).2.2.1 = some (tyX7 k) := by decide +kernel
abbrev cX7_init : ByteArray := prog_1_method_1_code
def yX7_init : MethodName := ⟨RX7, "<init>", "()V"⟩
abbrev cX7_set : ByteArray := prog_1_method_2_code
def yX7_set : MethodName := ⟨RX7, "set", "(III)I"⟩
abbrev cX7_load : ByteArray := prog_1_method_3_code
def yX7_load : MethodName := ⟨RX7, "load", "(III)I"⟩
abbrev cX7_take : ByteArray := prog_1_method_4_code
def yX7_take : MethodName := ⟨RX7, "take", "(III)I"⟩
abbrev cX7_bar : ByteArray := prog_1_method_5_code
def yX7_bar : MethodName := ⟨RX7, "bar", "(II)I"⟩
abbrev cX7_loading : ByteArray := prog_1_method_6_code
def yX7_loading : MethodName := ⟨RX7, "loading", "(II)I"⟩
abbrev cX7_loadings : ByteArray := prog_1_method_7_code
def yX7_loadings : MethodName := ⟨RX7, "loadings", "(I)I"⟩
abbrev cX7_move : ByteArray := prog_1_method_8_code
def yX7_move : MethodName := ⟨RX7, "move", "(IIII)I"⟩
abbrev cX7_drop : ByteArray := prog_1_method_9_code
def yX7_drop : MethodName := ⟨RX7, "drop", "(I)I"⟩
abbrev cX7_shift : ByteArray := prog_1_method_10_code
def yX7_shift : MethodName := ⟨RX7, "shift", "(II)I"⟩
abbrev cX7_told : ByteArray := prog_1_method_11_code
def yX7_told : MethodName := ⟨RX7, "told", "(II)I"⟩
abbrev cX7_height : ByteArray := prog_1_method_12_code
def yX7_height : MethodName := ⟨RX7, "height", "(II)I"⟩
abbrev cX7_strike : ByteArray := prog_1_method_13_code
def yX7_strike : MethodName := ⟨RX7, "strike", "(III)I"⟩
abbrev cX7_clash : ByteArray := prog_1_method_14_code
def yX7_clash : MethodName := ⟨RX7, "clash", "(II)I"⟩
abbrev cX7_often : ByteArray := prog_1_method_15_code
def yX7_often : MethodName := ⟨RX7, "often", "(II)I"⟩
abbrev cX7_hands : ByteArray := prog_1_method_16_code
def yX7_hands : MethodName := ⟨RX7, "hands", "(I)I"⟩
abbrev cX7_crew : ByteArray := prog_1_method_17_code
def yX7_crew : MethodName := ⟨RX7, "crew", "(II)I"⟩
abbrev cX7_image : ByteArray := prog_1_method_18_code
def yX7_image : MethodName := ⟨RX7, "image", "(I)I"⟩
abbrev cX7_restore : ByteArray := prog_1_method_19_code
def yX7_restore : MethodName := ⟨RX7, "restore", "(I)I"⟩
abbrev cX7_count : ByteArray := prog_1_method_20_code
def yX7_count : MethodName := ⟨RX7, "count", "(I)I"⟩
abbrev cX7_within : ByteArray := prog_1_method_21_code
def yX7_within : MethodName := ⟨RX7, "within", "(III)Z"⟩
abbrev cX7_isBar : ByteArray := prog_1_method_22_code
def yX7_isBar : MethodName := ⟨RX7, "isBar", "(I)Z"⟩
abbrev cX7_isTime : ByteArray := prog_1_method_23_code
def yX7_isTime : MethodName := ⟨RX7, "isTime", "(I)Z"⟩
abbrev cX7_isMove : ByteArray := prog_1_method_24_code
def yX7_isMove : MethodName := ⟨RX7, "isMove", "(I)Z"⟩
abbrev cX7_flownBy : ByteArray := prog_1_method_25_code
def yX7_flownBy : MethodName := ⟨RX7, "flownBy", "(II)I"⟩
abbrev cX7_lastEnd : ByteArray := prog_1_method_26_code
def yX7_lastEnd : MethodName := ⟨RX7, "lastEnd", "()I"⟩
def RX8 : String := "StageLinesModel"
def TX8 : u_T := fun k => match k with
  | 0 => ("StageLinesModel", "state", "[I", true)
  | 1 => ("StageLinesModel", "images", "[I", true)
  | 2 => ("StageLinesModel", "isKept", "[Z", true)
  | 3 => ("StageLinesModel", "ways", "[I", true)
  | 4 => ("StageLinesModel", "things", "I", false)
  | 5 => ("StageLinesModel", "heights", "[I", true)
  | 6 => ("StageLinesModel", "rows", "[I", true)
  | 7 => ("StageLinesModel", "able", "[I", true)
  | 8 => ("StageLinesModel", "ends", "[I", true)
  | 9 => ("StageLinesModel", "ables", "I", false)
  | 10 => ("StageLinesModel", "isOne", "[Z", true)
  | 11 => ("StageLinesModel", "least", "[I", true)
  | _ => ("StageLinesModel", "hand", "[I", true)
def tyX8 : Nat → FieldType := fun k => match k with
  | 0 => .array .int
  | 1 => .array .int
  | 2 => .array .boolean
  | 3 => .array .int
  | 4 => .int
  | 5 => .array .int
  | 6 => .array .int
  | 7 => .array .int
  | 8 => .array .int
  | 9 => .int
  | 10 => .array .boolean
  | 11 => .array .int
  | _ => .array .int
abbrev wsX80 : List Cond := u_ws RX8 TX8 13
theorem nmX8 : ∀ a, a < 13 → ∀ b, b < 13 → a ≠ b → (TX8 a).2.1 ≠ (TX8 b).2.1 := by decide +kernel
theorem tyX8_ok : ∀ k, k < 13 → parseFieldDescriptor (TX8 k).2.2.1 = some (tyX8 k) := by decide +kernel
abbrev cX8_init : ByteArray := prog_10_method_1_code
def yX8_init : MethodName := ⟨RX8, "<init>", "()V"⟩
abbrev cX8_in : ByteArray := prog_10_method_2_code
def yX8_in : MethodName := ⟨RX8, "in", "(III)Z"⟩
abbrev cX8_isBar : ByteArray := prog_10_method_3_code
def yX8_isBar : MethodName := ⟨RX8, "isBar", "(I)Z"⟩
abbrev cX8_isMove : ByteArray := prog_10_method_4_code
def yX8_isMove : MethodName := ⟨RX8, "isMove", "(I)Z"⟩
abbrev cX8_has : ByteArray := prog_10_method_5_code
def yX8_has : MethodName := ⟨RX8, "has", "(II)Z"⟩
abbrev cX8_size : ByteArray := prog_10_method_6_code
def yX8_size : MethodName := ⟨RX8, "size", "(I)I"⟩
abbrev cX8_many : ByteArray := prog_10_method_7_code
def yX8_many : MethodName := ⟨RX8, "many", "(II)I"⟩
abbrev cX8_weight : ByteArray := prog_10_method_8_code
def yX8_weight : MethodName := ⟨RX8, "weight", "(III)I"⟩
abbrev cX8_together : ByteArray := prog_10_method_9_code
def yX8_together : MethodName := ⟨RX8, "together", "(II)I"⟩
abbrev cX8_isEven : ByteArray := prog_10_method_10_code
def yX8_isEven : MethodName := ⟨RX8, "isEven", "(I)Z"⟩
abbrev cX8_set : ByteArray := prog_10_method_11_code
def yX8_set : MethodName := ⟨RX8, "set", "(III)I"⟩
abbrev cX8_load : ByteArray := prog_10_method_12_code
def yX8_load : MethodName := ⟨RX8, "load", "(III)I"⟩
abbrev cX8_take : ByteArray := prog_10_method_13_code
def yX8_take : MethodName := ⟨RX8, "take", "(III)I"⟩
abbrev cX8_movesOf : ByteArray := prog_10_method_14_code
def yX8_movesOf : MethodName := ⟨RX8, "movesOf", "(I)I"⟩
abbrev cX8_thing : ByteArray := prog_10_method_15_code
def yX8_thing : MethodName := ⟨RX8, "thing", "(III)I"⟩
abbrev cX8_bar : ByteArray := prog_10_method_16_code
def yX8_bar : MethodName := ⟨RX8, "bar", "(II)I"⟩
abbrev cX8_pull : ByteArray := prog_10_method_17_code
def yX8_pull : MethodName := ⟨RX8, "pull", "(II)I"⟩
abbrev cX8_layWays : ByteArray := prog_10_method_18_code
def yX8_layWays : MethodName := ⟨RX8, "layWays", "(I)V"⟩
abbrev cX8_loading : ByteArray := prog_10_method_19_code
def yX8_loading : MethodName := ⟨RX8, "loading", "(II)I"⟩
abbrev cX8_loadings : ByteArray := prog_10_method_20_code
def yX8_loadings : MethodName := ⟨RX8, "loadings", "(I)I"⟩
abbrev cX8_moveAt : ByteArray := prog_10_method_21_code
def yX8_moveAt : MethodName := ⟨RX8, "moveAt", "(II)I"⟩
abbrev cX8_move : ByteArray := prog_10_method_22_code
def yX8_move : MethodName := ⟨RX8, "move", "(IIII)I"⟩
abbrev cX8_drop : ByteArray := prog_10_method_23_code
def yX8_drop : MethodName := ⟨RX8, "drop", "(I)I"⟩
abbrev cX8_shift : ByteArray := prog_10_method_24_code
def yX8_shift : MethodName := ⟨RX8, "shift", "(II)I"⟩
abbrev cX8_latest : ByteArray := prog_10_method_25_code
def yX8_latest : MethodName := ⟨RX8, "latest", "(II)I"⟩
abbrev cX8_layHeights : ByteArray := prog_10_method_26_code
def yX8_layHeights : MethodName := ⟨RX8, "layHeights", "(I)V"⟩
abbrev cX8_nextBegin : ByteArray := prog_10_method_27_code
def yX8_nextBegin : MethodName := ⟨RX8, "nextBegin", "(I)I"⟩
abbrev cX8_endOf : ByteArray := prog_10_method_28_code
def yX8_endOf : MethodName := ⟨RX8, "endOf", "(I)I"⟩
abbrev cX8_isCut : ByteArray := prog_10_method_29_code
def yX8_isCut : MethodName := ⟨RX8, "isCut", "(I)Z"⟩
abbrev cX8_height : ByteArray := prog_10_method_30_code
def yX8_height : MethodName := ⟨RX8, "height", "(II)I"⟩
abbrev cX8_layRows : ByteArray := prog_10_method_31_code
def yX8_layRows : MethodName := ⟨RX8, "layRows", "()V"⟩
abbrev cX8_areNear : ByteArray := prog_10_method_32_code
def yX8_areNear : MethodName := ⟨RX8, "areNear", "(II)Z"⟩
abbrev cX8_doStrike : ByteArray := prog_10_method_33_code
def yX8_doStrike : MethodName := ⟨RX8, "doStrike", "(III)Z"⟩
abbrev cX8_strike : ByteArray := prog_10_method_34_code
def yX8_strike : MethodName := ⟨RX8, "strike", "(III)I"⟩
abbrev cX8_clash : ByteArray := prog_10_method_35_code
def yX8_clash : MethodName := ⟨RX8, "clash", "(II)I"⟩
abbrev cX8_often : ByteArray := prog_10_method_36_code
def yX8_often : MethodName := ⟨RX8, "often", "(II)I"⟩
abbrev cX8_begin : ByteArray := prog_10_method_37_code
def yX8_begin : MethodName := ⟨RX8, "begin", "(I)I"⟩
abbrev cX8_canDoBoth : ByteArray := prog_10_method_38_code
def yX8_canDoBoth : MethodName := ⟨RX8, "canDoBoth", "(II)Z"⟩
abbrev cX8_layAble : ByteArray := prog_10_method_39_code
def yX8_layAble : MethodName := ⟨RX8, "layAble", "()V"⟩
abbrev cX8_canBeOne : ByteArray := prog_10_method_40_code
def yX8_canBeOne : MethodName := ⟨RX8, "canBeOne", "(I)Z"⟩
abbrev cX8_layHands : ByteArray := prog_10_method_41_code
def yX8_layHands : MethodName := ⟨RX8, "layHands", "()I"⟩
abbrev cX8_fits : ByteArray := prog_10_method_42_code
def yX8_fits : MethodName := ⟨RX8, "fits", "(I)Z"⟩
abbrev cX8_layCrew : ByteArray := prog_10_method_43_code
def yX8_layCrew : MethodName := ⟨RX8, "layCrew", "()V"⟩
abbrev cX8_handOf : ByteArray := prog_10_method_44_code
def yX8_handOf : MethodName := ⟨RX8, "handOf", "(I)I"⟩
abbrev cX8_told : ByteArray := prog_10_method_45_code
def yX8_told : MethodName := ⟨RX8, "told", "(II)I"⟩
abbrev cX8_mostAtOnce : ByteArray := prog_10_method_46_code
def yX8_mostAtOnce : MethodName := ⟨RX8, "mostAtOnce", "()I"⟩
abbrev cX8_hands : ByteArray := prog_10_method_47_code
def yX8_hands : MethodName := ⟨RX8, "hands", "(I)I"⟩
abbrev cX8_crew : ByteArray := prog_10_method_48_code
def yX8_crew : MethodName := ⟨RX8, "crew", "(II)I"⟩
abbrev cX8_image : ByteArray := prog_10_method_49_code
def yX8_image : MethodName := ⟨RX8, "image", "(I)I"⟩
abbrev cX8_restore : ByteArray := prog_10_method_50_code
def yX8_restore : MethodName := ⟨RX8, "restore", "(I)I"⟩
abbrev cX8_evenBars : ByteArray := prog_10_method_51_code
def yX8_evenBars : MethodName := ⟨RX8, "evenBars", "()I"⟩
abbrev cX8_nearPairs : ByteArray := prog_10_method_52_code
def yX8_nearPairs : MethodName := ⟨RX8, "nearPairs", "()I"⟩
abbrev cX8_lastEnd : ByteArray := prog_10_method_53_code
def yX8_lastEnd : MethodName := ⟨RX8, "lastEnd", "()I"⟩
abbrev cX8_count : ByteArray := prog_10_method_54_code
def yX8_count : MethodName := ⟨RX8, "count", "(I)I"⟩
def RJ9 : String := "java/lang/Math"
def TJ9 : u_T := fun k => match k with
  | _ => ("", "", "", false)
def tyJ9 : Nat → FieldType := fun k => match k with
  | _ => .int
abbrev wsJ90 : List Cond := u_ws RJ9 TJ9 0
theorem nmJ9 : ∀ a, a < 0 → ∀ b, b < 0 → a ≠ b → (TJ9 a).2.1 ≠ (TJ9 b).2.1 := by decide +kernel
theorem tyJ9_ok : ∀ k, k < 0 → parseFieldDescriptor (TJ9 k).2.2.1 = some (tyJ9 k) := by decide +kernel
abbrev cJ9_abs_0f7a4 : ByteArray := prog_11_method_59_code
def yJ9_abs_0f7a4 : MethodName := ⟨RJ9, "abs", "(I)I"⟩
abbrev cJ9_max_7cf53 : ByteArray := prog_11_method_65_code
def yJ9_max_7cf53 : MethodName := ⟨RJ9, "max", "(II)I"⟩
abbrev cJ9_min_7cf53 : ByteArray := prog_11_method_69_code
def yJ9_min_7cf53 : MethodName := ⟨RJ9, "min", "(II)I"⟩
def RJ10 : String := "java/lang/System"
def TJ10 : u_T := fun k => match k with
  | _ => ("", "", "", false)
def tyJ10 : Nat → FieldType := fun k => match k with
  | _ => .int
abbrev wsJ100 : List Cond := u_ws RJ10 TJ10 0
theorem nmJ10 : ∀ a, a < 0 → ∀ b, b < 0 → a ≠ b → (TJ10 a).2.1 ≠ (TJ10 b).2.1 := by decide +kernel
theorem tyJ10_ok : ∀ k, k < 0 → parseFieldDescriptor (TJ10 k).2.2.1 = some (tyJ10 k) := by decide +kernel
def RJ7 : String := "java/util/Arrays"
def TJ7 : u_T := fun k => match k with
  | _ => ("", "", "", false)
def tyJ7 : Nat → FieldType := fun k => match k with
  | _ => .int
abbrev wsJ70 : List Cond := u_ws RJ7 TJ7 0
theorem nmJ7 : ∀ a, a < 0 → ∀ b, b < 0 → a ≠ b → (TJ7 a).2.1 ≠ (TJ7 b).2.1 := by decide +kernel
theorem tyJ7_ok : ∀ k, k < 0 → parseFieldDescriptor (TJ7 k).2.2.1 = some (tyJ7 k) := by decide +kernel
abbrev cJ7_fill_53178 : ByteArray := prog_13_method_103_code
def yJ7_fill_53178 : MethodName := ⟨RJ7, "fill", "([II)V"⟩
def RL : String := "StageLinesLaw"
abbrev cL_law : ByteArray := code
def yL_law : MethodName := ⟨RL, "law", "([I)Z"⟩
def wsX5_init : List Cond := .code yX5_init cX5_init 1 none :: ([.methodLink RX5 3 objectInit, .instanceMethod objectInit, .code objectInit ⟨#[0xb1]⟩ 1 none, .arrayClass .int, .fieldLink RX5 9 "StageLines$Pile" "weights" "[I", .fieldLink RX5 15 "StageLines$Pile" "size" "I"] ++ wsX50)
def wsX0_init : List Cond := .code yX0_init cX0_init 1 none :: ([.methodLink RX0 3 objectInit, .instanceMethod objectInit, .code objectInit ⟨#[0xb1]⟩ 1 none, .arrayClass .int, .fieldLink RX0 9 "StageLines$Bar" "settings" "[I", .classLink RX0 15 RX5, .instantiable RX5 2, .initialized RX5, .fieldLink RX0 18 "StageLines$Bar" "pieces" "LStageLines$Pile;", .fieldLink RX0 22 "StageLines$Bar" "bricks" "LStageLines$Pile;", .instanceMethod yX5_init, .code yX5_init cX5_init 1 none, .methodLink RX5 3 objectInit, .fieldLink RX5 9 "StageLines$Pile" "weights" "[I", .fieldLink RX5 15 "StageLines$Pile" "size" "I"] ++ wsX00 ++ wsX50)
def wsX0_pileOf : List Cond := .code yX0_pileOf cX0_pileOf 2 (some (.object "StageLines$Pile")) :: ([.fieldLink RX0 18 "StageLines$Bar" "pieces" "LStageLines$Pile;", .fieldLink RX0 22 "StageLines$Bar" "bricks" "LStageLines$Pile;"] ++ wsX00)
def wsX5_total : List Cond := .code yX5_total cX5_total 3 (some .int) :: ([.fieldLink RX5 15 "StageLines$Pile" "size" "I", .fieldLink RX5 9 "StageLines$Pile" "weights" "[I"] ++ wsX50)
def wsX0_isEven : List Cond := .code yX0_isEven cX0_isEven 2 (some .boolean) :: ([.fieldLink RX0 18 "StageLines$Bar" "pieces" "LStageLines$Pile;", .fieldLink RX0 22 "StageLines$Bar" "bricks" "LStageLines$Pile;", .methodLink RX0 29 Lib.Math.abs.name, .static Lib.Math.abs.name, .initialized "java/lang/Math", .code Lib.Math.abs.name Lib.Math.abs.code 1 (some .int), .methodLink RX0 25 yX5_total, .instanceMethod yX5_total, .selects RX5 yX5_total yX5_total, .initialized RX5, .code yX5_total cX5_total 3 (some .int), .fieldLink RX5 15 "StageLines$Pile" "size" "I", .fieldLink RX5 9 "StageLines$Pile" "weights" "[I"] ++ wsX00 ++ wsX50)
def wsX5_copyFrom : List Cond := .code yX5_copyFrom cX5_copyFrom 2 none :: ([.fieldLink RX5 9 "StageLines$Pile" "weights" "[I", .methodLink RX5 19 arraycopyName, .native arraycopyName, .static arraycopyName, .initialized "java/lang/System", .fieldLink RX5 15 "StageLines$Pile" "size" "I"] ++ wsX50)
def wsX0_copyFrom : List Cond := .code yX0_copyFrom cX0_copyFrom 2 none :: ([.fieldLink RX0 9 "StageLines$Bar" "settings" "[I", .methodLink RX0 35 arraycopyName, .native arraycopyName, .static arraycopyName, .initialized "java/lang/System", .fieldLink RX0 18 "StageLines$Bar" "pieces" "LStageLines$Pile;", .fieldLink RX0 22 "StageLines$Bar" "bricks" "LStageLines$Pile;", .methodLink RX0 41 yX5_copyFrom, .instanceMethod yX5_copyFrom, .selects RX5 yX5_copyFrom yX5_copyFrom, .initialized RX5, .code yX5_copyFrom cX5_copyFrom 2 none, .fieldLink RX5 9 "StageLines$Pile" "weights" "[I", .methodLink RX5 19 arraycopyName, .fieldLink RX5 15 "StageLines$Pile" "size" "I"] ++ wsX00 ++ wsX50)
def wsX1_init : List Cond := .code yX1_init cX1_init 1 none :: ([.methodLink RX1 3 objectInit, .instanceMethod objectInit, .code objectInit ⟨#[0xb1]⟩ 1 none, .fieldLink RX1 9 "StageLines$CrewFinder" "least" "I", .arrayClass .int, .fieldLink RX1 15 "StageLines$CrewFinder" "handOf" "[I", .arrayClass .boolean, .fieldLink RX1 19 "StageLines$CrewFinder" "doable" "[Z", .fieldLink RX1 23 "StageLines$CrewFinder" "ends" "[I", .fieldLink RX1 26 "StageLines$CrewFinder" "foes" "[I", .fieldLink RX1 29 "StageLines$CrewFinder" "doneBy" "[I", .fieldLink RX1 32 "StageLines$CrewFinder" "size" "I"] ++ wsX10)
def wsX6_firstMoveFrom : List Cond := .code yX6_firstMoveFrom cX6_firstMoveFrom 6 (some .int) :: ([.fieldLink RX6 23 "StageLines$Stage" "moveCount" "I", .fieldLink RX6 19 "StageLines$Stage" "moves" "[LStageLines$Move;", .fieldLink RX6 39 "StageLines$Move" "bar" "I", .fieldLink RX6 42 "StageLines$Move" "begin" "I"] ++ wsX60 ++ wsX40)
def wsX4_stepFrom : List Cond := .code yX4_stepFrom cX4_stepFrom 2 (some .int) :: ([.fieldLink RX4 16 "StageLines$Move" "target" "I", .methodLink RX4 22 Lib.Math.abs.name, .static Lib.Math.abs.name, .initialized "java/lang/Math", .code Lib.Math.abs.name Lib.Math.abs.code 1 (some .int), .fieldLink RX4 19 "StageLines$Move" "pace" "I"] ++ wsX40)
def wsX2_trace_r1 : List Cond := [Cond.fieldLink RX2 11 "StageLines$Flight" "heights" "[[I", Cond.fieldLink RX2 16 "StageLines$Stage" "bars" "[LStageLines$Bar;", Cond.fieldLink RX2 22 "StageLines$Bar" "settings" "[I", Cond.fieldLink RX2 32 "StageLines$Stage" "moves" "[LStageLines$Move;", Cond.fieldLink RX2 36 "StageLines$Move" "begin" "I", Cond.methodLink RX2 28 yX6_firstMoveFrom, Cond.instanceMethod yX6_firstMoveFrom, Cond.selects RX6 yX6_firstMoveFrom yX6_firstMoveFrom, Cond.initialized RX6, Cond.code yX6_firstMoveFrom cX6_firstMoveFrom 6 (some .int), Cond.fieldLink RX6 23 "StageLines$Stage" "moveCount" "I", Cond.fieldLink RX6 19 "StageLines$Stage" "moves" "[LStageLines$Move;", Cond.fieldLink RX6 39 "StageLines$Move" "bar" "I", Cond.fieldLink RX6 42 "StageLines$Move" "begin" "I", Cond.methodLink RX2 42 yX4_stepFrom, Cond.instanceMethod yX4_stepFrom, Cond.selects RX4 yX4_stepFrom yX4_stepFrom, Cond.initialized RX4, Cond.code yX4_stepFrom cX4_stepFrom 2 (some .int), Cond.fieldLink RX4 16 "StageLines$Move" "target" "I", Cond.methodLink RX4 22 Lib.Math.abs.name, Cond.static Lib.Math.abs.name, Cond.initialized "java/lang/Math", Cond.code Lib.Math.abs.name Lib.Math.abs.code 1 (some .int)]
def wsX2_trace_r2 : List Cond := [Cond.fieldLink RX4 19 "StageLines$Move" "pace" "I"]
def wsX2_trace : List Cond := .code yX2_trace cX2_trace 7 none :: ((wsX2_trace_r1 ++ wsX2_trace_r2) ++ wsX20 ++ wsX60 ++ wsX00 ++ wsX40)
def wsX2_traceAll_r1 : List Cond := [Cond.methodLink RX2 46 yX2_trace, Cond.instanceMethod yX2_trace, Cond.selects RX2 yX2_trace yX2_trace, Cond.initialized RX2, Cond.code yX2_trace cX2_trace 7 none, Cond.fieldLink RX2 11 "StageLines$Flight" "heights" "[[I", Cond.fieldLink RX2 16 "StageLines$Stage" "bars" "[LStageLines$Bar;", Cond.fieldLink RX2 22 "StageLines$Bar" "settings" "[I", Cond.fieldLink RX2 32 "StageLines$Stage" "moves" "[LStageLines$Move;", Cond.fieldLink RX2 36 "StageLines$Move" "begin" "I", Cond.methodLink RX2 28 yX6_firstMoveFrom, Cond.instanceMethod yX6_firstMoveFrom, Cond.selects RX6 yX6_firstMoveFrom yX6_firstMoveFrom, Cond.initialized RX6, Cond.code yX6_firstMoveFrom cX6_firstMoveFrom 6 (some .int), Cond.fieldLink RX6 23 "StageLines$Stage" "moveCount" "I", Cond.fieldLink RX6 19 "StageLines$Stage" "moves" "[LStageLines$Move;", Cond.fieldLink RX6 39 "StageLines$Move" "bar" "I", Cond.fieldLink RX6 42 "StageLines$Move" "begin" "I", Cond.methodLink RX2 42 yX4_stepFrom, Cond.instanceMethod yX4_stepFrom, Cond.selects RX4 yX4_stepFrom yX4_stepFrom, Cond.initialized RX4, Cond.code yX4_stepFrom cX4_stepFrom 2 (some .int)]
def wsX2_traceAll_r2 : List Cond := [Cond.fieldLink RX4 16 "StageLines$Move" "target" "I", Cond.methodLink RX4 22 Lib.Math.abs.name, Cond.static Lib.Math.abs.name, Cond.initialized "java/lang/Math", Cond.code Lib.Math.abs.name Lib.Math.abs.code 1 (some .int), Cond.fieldLink RX4 19 "StageLines$Move" "pace" "I"]
def wsX2_traceAll : List Cond := .code yX2_traceAll cX2_traceAll 3 none :: ((wsX2_traceAll_r1 ++ wsX2_traceAll_r2) ++ wsX20 ++ wsX60 ++ wsX00 ++ wsX40)
def wsX6_isDoable : List Cond := .code yX6_isDoable cX6_isDoable 2 (some .boolean) :: ([.fieldLink RX6 11 "StageLines$Stage" "bars" "[LStageLines$Bar;", .fieldLink RX6 19 "StageLines$Stage" "moves" "[LStageLines$Move;", .fieldLink RX6 39 "StageLines$Move" "bar" "I", .fieldLink RX6 27 "StageLines$Stage" "sway" "I", .methodLink RX6 65 yX0_isEven, .instanceMethod yX0_isEven, .selects RX0 yX0_isEven yX0_isEven, .initialized RX0, .code yX0_isEven cX0_isEven 2 (some .boolean), .fieldLink RX0 18 "StageLines$Bar" "pieces" "LStageLines$Pile;", .fieldLink RX0 22 "StageLines$Bar" "bricks" "LStageLines$Pile;", .methodLink RX0 29 Lib.Math.abs.name, .static Lib.Math.abs.name, .initialized "java/lang/Math", .code Lib.Math.abs.name Lib.Math.abs.code 1 (some .int), .methodLink RX0 25 yX5_total, .instanceMethod yX5_total, .selects RX5 yX5_total yX5_total, .initialized RX5, .code yX5_total cX5_total 3 (some .int), .fieldLink RX5 15 "StageLines$Pile" "size" "I", .fieldLink RX5 9 "StageLines$Pile" "weights" "[I"] ++ wsX60 ++ wsX40 ++ wsX00 ++ wsX50)
def wsX2_endOf : List Cond := .code yX2_endOf cX2_endOf 7 (some .int) :: ([.fieldLink RX2 32 "StageLines$Stage" "moves" "[LStageLines$Move;", .fieldLink RX2 50 "StageLines$Move" "bar" "I", .fieldLink RX2 36 "StageLines$Move" "begin" "I", .fieldLink RX2 11 "StageLines$Flight" "heights" "[[I", .fieldLink RX2 53 "StageLines$Move" "target" "I", .methodLink RX2 28 yX6_firstMoveFrom, .instanceMethod yX6_firstMoveFrom, .selects RX6 yX6_firstMoveFrom yX6_firstMoveFrom, .initialized RX6, .code yX6_firstMoveFrom cX6_firstMoveFrom 6 (some .int), .fieldLink RX6 23 "StageLines$Stage" "moveCount" "I", .fieldLink RX6 19 "StageLines$Stage" "moves" "[LStageLines$Move;", .fieldLink RX6 39 "StageLines$Move" "bar" "I", .fieldLink RX6 42 "StageLines$Move" "begin" "I"] ++ wsX60 ++ wsX40 ++ wsX20)
def wsX1_reaches : List Cond := .code yX1_reaches cX1_reaches 5 (some .boolean) :: ([.fieldLink RX1 66 "StageLines$Stage" "moves" "[LStageLines$Move;", .fieldLink RX1 91 "StageLines$Move" "bar" "I", .methodLink RX1 94 Lib.Math.abs.name, .static Lib.Math.abs.name, .initialized "java/lang/Math", .code Lib.Math.abs.name Lib.Math.abs.code 1 (some .int), .fieldLink RX1 23 "StageLines$CrewFinder" "ends" "[I", .fieldLink RX1 70 "StageLines$Move" "begin" "I"] ++ wsX60 ++ wsX40 ++ wsX10)
def wsX1_foesOf : List Cond := .code yX1_foesOf cX1_foesOf 5 (some .int) :: ([.fieldLink RX1 32 "StageLines$CrewFinder" "size" "I", .methodLink RX1 87 yX1_reaches, .instanceMethod yX1_reaches, .selects RX1 yX1_reaches yX1_reaches, .initialized RX1, .code yX1_reaches cX1_reaches 5 (some .boolean), .fieldLink RX1 66 "StageLines$Stage" "moves" "[LStageLines$Move;", .fieldLink RX1 91 "StageLines$Move" "bar" "I", .methodLink RX1 94 Lib.Math.abs.name, .static Lib.Math.abs.name, .initialized "java/lang/Math", .code Lib.Math.abs.name Lib.Math.abs.code 1 (some .int), .fieldLink RX1 23 "StageLines$CrewFinder" "ends" "[I", .fieldLink RX1 70 "StageLines$Move" "begin" "I"] ++ wsX10 ++ wsX60 ++ wsX40)
def wsJ7_fill_53178 : List Cond := .code yJ7_fill_53178 cJ7_fill_53178 4 none :: ([])
def wsX1_giveFrom : List Cond := .code yX1_giveFrom cX1_giveFrom 4 (some .boolean) :: ([.fieldLink RX1 32 "StageLines$CrewFinder" "size" "I", .fieldLink RX1 19 "StageLines$CrewFinder" "doable" "[Z", .fieldLink RX1 15 "StageLines$CrewFinder" "handOf" "[I", .fieldLink RX1 9 "StageLines$CrewFinder" "least" "I", .fieldLink RX1 29 "StageLines$CrewFinder" "doneBy" "[I", .fieldLink RX1 26 "StageLines$CrewFinder" "foes" "[I", .methodLink RX1 63 yX1_giveFrom, .instanceMethod yX1_giveFrom, .selects RX1 yX1_giveFrom yX1_giveFrom, .initialized RX1] ++ wsX10)
def wsX1_gather_r1 : List Cond := [Cond.fieldLink RX1 35 "StageLines$Stage" "moveCount" "I", Cond.fieldLink RX1 32 "StageLines$CrewFinder" "size" "I", Cond.fieldLink RX1 19 "StageLines$CrewFinder" "doable" "[Z", Cond.fieldLink RX1 23 "StageLines$CrewFinder" "ends" "[I", Cond.fieldLink RX1 26 "StageLines$CrewFinder" "foes" "[I", Cond.fieldLink RX1 29 "StageLines$CrewFinder" "doneBy" "[I", Cond.fieldLink RX1 9 "StageLines$CrewFinder" "least" "I", Cond.methodLink RX1 40 yX2_traceAll, Cond.instanceMethod yX2_traceAll, Cond.selects RX2 yX2_traceAll yX2_traceAll, Cond.initialized RX2, Cond.code yX2_traceAll cX2_traceAll 3 none, Cond.methodLink RX2 46 yX2_trace, Cond.instanceMethod yX2_trace, Cond.selects RX2 yX2_trace yX2_trace, Cond.code yX2_trace cX2_trace 7 none, Cond.fieldLink RX2 11 "StageLines$Flight" "heights" "[[I", Cond.fieldLink RX2 16 "StageLines$Stage" "bars" "[LStageLines$Bar;", Cond.fieldLink RX2 22 "StageLines$Bar" "settings" "[I", Cond.fieldLink RX2 32 "StageLines$Stage" "moves" "[LStageLines$Move;", Cond.fieldLink RX2 36 "StageLines$Move" "begin" "I", Cond.methodLink RX2 28 yX6_firstMoveFrom, Cond.instanceMethod yX6_firstMoveFrom, Cond.selects RX6 yX6_firstMoveFrom yX6_firstMoveFrom]
def wsX1_gather_r2 : List Cond := [Cond.initialized RX6, Cond.code yX6_firstMoveFrom cX6_firstMoveFrom 6 (some .int), Cond.fieldLink RX6 23 "StageLines$Stage" "moveCount" "I", Cond.fieldLink RX6 19 "StageLines$Stage" "moves" "[LStageLines$Move;", Cond.fieldLink RX6 39 "StageLines$Move" "bar" "I", Cond.fieldLink RX6 42 "StageLines$Move" "begin" "I", Cond.methodLink RX2 42 yX4_stepFrom, Cond.instanceMethod yX4_stepFrom, Cond.selects RX4 yX4_stepFrom yX4_stepFrom, Cond.initialized RX4, Cond.code yX4_stepFrom cX4_stepFrom 2 (some .int), Cond.fieldLink RX4 16 "StageLines$Move" "target" "I", Cond.methodLink RX4 22 Lib.Math.abs.name, Cond.static Lib.Math.abs.name, Cond.initialized "java/lang/Math", Cond.code Lib.Math.abs.name Lib.Math.abs.code 1 (some .int), Cond.fieldLink RX4 19 "StageLines$Move" "pace" "I", Cond.methodLink RX1 46 yX6_isDoable, Cond.instanceMethod yX6_isDoable, Cond.selects RX6 yX6_isDoable yX6_isDoable, Cond.code yX6_isDoable cX6_isDoable 2 (some .boolean), Cond.fieldLink RX6 11 "StageLines$Stage" "bars" "[LStageLines$Bar;", Cond.fieldLink RX6 27 "StageLines$Stage" "sway" "I", Cond.methodLink RX6 65 yX0_isEven]
def wsX1_gather_r3 : List Cond := [Cond.instanceMethod yX0_isEven, Cond.selects RX0 yX0_isEven yX0_isEven, Cond.initialized RX0, Cond.code yX0_isEven cX0_isEven 2 (some .boolean), Cond.fieldLink RX0 18 "StageLines$Bar" "pieces" "LStageLines$Pile;", Cond.fieldLink RX0 22 "StageLines$Bar" "bricks" "LStageLines$Pile;", Cond.methodLink RX0 29 Lib.Math.abs.name, Cond.methodLink RX0 25 yX5_total, Cond.instanceMethod yX5_total, Cond.selects RX5 yX5_total yX5_total, Cond.initialized RX5, Cond.code yX5_total cX5_total 3 (some .int), Cond.fieldLink RX5 15 "StageLines$Pile" "size" "I", Cond.fieldLink RX5 9 "StageLines$Pile" "weights" "[I", Cond.methodLink RX1 50 yX2_endOf, Cond.instanceMethod yX2_endOf, Cond.selects RX2 yX2_endOf yX2_endOf, Cond.code yX2_endOf cX2_endOf 7 (some .int), Cond.fieldLink RX2 50 "StageLines$Move" "bar" "I", Cond.fieldLink RX2 53 "StageLines$Move" "target" "I", Cond.methodLink RX1 54 yX1_foesOf, Cond.instanceMethod yX1_foesOf, Cond.selects RX1 yX1_foesOf yX1_foesOf, Cond.initialized RX1]
def wsX1_gather_r4 : List Cond := [Cond.code yX1_foesOf cX1_foesOf 5 (some .int), Cond.methodLink RX1 87 yX1_reaches, Cond.instanceMethod yX1_reaches, Cond.selects RX1 yX1_reaches yX1_reaches, Cond.code yX1_reaches cX1_reaches 5 (some .boolean), Cond.fieldLink RX1 66 "StageLines$Stage" "moves" "[LStageLines$Move;", Cond.fieldLink RX1 91 "StageLines$Move" "bar" "I", Cond.methodLink RX1 94 Lib.Math.abs.name, Cond.fieldLink RX1 70 "StageLines$Move" "begin" "I", Cond.methodLink RX1 57 yJ7_fill_53178, Cond.static yJ7_fill_53178, Cond.initialized RJ7, Cond.code yJ7_fill_53178 cJ7_fill_53178 4 none, Cond.methodLink RX1 63 yX1_giveFrom, Cond.instanceMethod yX1_giveFrom, Cond.selects RX1 yX1_giveFrom yX1_giveFrom, Cond.code yX1_giveFrom cX1_giveFrom 4 (some .boolean), Cond.fieldLink RX1 15 "StageLines$CrewFinder" "handOf" "[I"]
def wsX1_gather : List Cond := .code yX1_gather cX1_gather 4 none :: ((wsX1_gather_r1 ++ (wsX1_gather_r2 ++ (wsX1_gather_r3 ++ wsX1_gather_r4))) ++ wsX60 ++ wsX10 ++ wsX20 ++ wsX00 ++ wsX40 ++ wsX50)
def wsX1_doableCount : List Cond := .code yX1_doableCount cX1_doableCount 3 (some .int) :: ([.fieldLink RX1 32 "StageLines$CrewFinder" "size" "I", .fieldLink RX1 19 "StageLines$CrewFinder" "doable" "[Z"] ++ wsX10)
def wsX1_doneAt : List Cond := .code yX1_doneAt cX1_doneAt 5 (some .int) :: ([.fieldLink RX1 32 "StageLines$CrewFinder" "size" "I", .fieldLink RX1 19 "StageLines$CrewFinder" "doable" "[Z", .fieldLink RX1 66 "StageLines$Stage" "moves" "[LStageLines$Move;", .fieldLink RX1 70 "StageLines$Move" "begin" "I", .fieldLink RX1 23 "StageLines$CrewFinder" "ends" "[I"] ++ wsX10 ++ wsX60 ++ wsX40)
def wsX1_mostAtOnce : List Cond := .code yX1_mostAtOnce cX1_mostAtOnce 4 (some .int) :: ([.fieldLink RX1 32 "StageLines$CrewFinder" "size" "I", .fieldLink RX1 66 "StageLines$Stage" "moves" "[LStageLines$Move;", .fieldLink RX1 70 "StageLines$Move" "begin" "I", .methodLink RX1 78 Lib.Math.max.name, .static Lib.Math.max.name, .initialized "java/lang/Math", .code Lib.Math.max.name Lib.Math.max.code 2 (some .int), .methodLink RX1 75 yX1_doneAt, .instanceMethod yX1_doneAt, .selects RX1 yX1_doneAt yX1_doneAt, .initialized RX1, .code yX1_doneAt cX1_doneAt 5 (some .int), .fieldLink RX1 19 "StageLines$CrewFinder" "doable" "[Z", .fieldLink RX1 23 "StageLines$CrewFinder" "ends" "[I"] ++ wsX10 ++ wsX60 ++ wsX40)
def wsX1_turnsAhead : List Cond := .code yX1_turnsAhead cX1_turnsAhead 5 (some .int) :: ([.fieldLink RX1 32 "StageLines$CrewFinder" "size" "I", .fieldLink RX1 15 "StageLines$CrewFinder" "handOf" "[I", .fieldLink RX1 66 "StageLines$Stage" "moves" "[LStageLines$Move;", .fieldLink RX1 70 "StageLines$Move" "begin" "I"] ++ wsX10 ++ wsX60 ++ wsX40)
def wsX1_turn : List Cond := .code yX1_turn cX1_turn 5 (some .int) :: ([.fieldLink RX1 32 "StageLines$CrewFinder" "size" "I", .fieldLink RX1 15 "StageLines$CrewFinder" "handOf" "[I", .methodLink RX1 84 yX1_turnsAhead, .instanceMethod yX1_turnsAhead, .selects RX1 yX1_turnsAhead yX1_turnsAhead, .initialized RX1, .code yX1_turnsAhead cX1_turnsAhead 5 (some .int), .fieldLink RX1 66 "StageLines$Stage" "moves" "[LStageLines$Move;", .fieldLink RX1 70 "StageLines$Move" "begin" "I"] ++ wsX10 ++ wsX60 ++ wsX40)
def wsX2_init : List Cond := .code yX2_init cX2_init 1 none :: ([.methodLink RX2 3 objectInit, .instanceMethod objectInit, .code objectInit ⟨#[0xb1]⟩ 1 none, .classLink RX2 9 "[[I", .arrayClass .int, .fieldLink RX2 11 "StageLines$Flight" "heights" "[[I"] ++ wsX20)
def wsX6_areNear : List Cond := .code yX6_areNear cX6_areNear 3 (some .boolean) :: ([.methodLink RX6 55 Lib.Math.abs.name, .static Lib.Math.abs.name, .initialized "java/lang/Math", .code Lib.Math.abs.name Lib.Math.abs.code 1 (some .int), .fieldLink RX6 11 "StageLines$Stage" "bars" "[LStageLines$Bar;", .fieldLink RX6 61 "StageLines$Bar" "settings" "[I"] ++ wsX60 ++ wsX00)
def wsX2_canStrike : List Cond := .code yX2_canStrike cX2_canStrike 5 (some .boolean) :: ([.fieldLink RX2 16 "StageLines$Stage" "bars" "[LStageLines$Bar;", .fieldLink RX2 22 "StageLines$Bar" "settings" "[I", .methodLink RX2 56 yX6_areNear, .instanceMethod yX6_areNear, .selects RX6 yX6_areNear yX6_areNear, .initialized RX6, .code yX6_areNear cX6_areNear 3 (some .boolean), .methodLink RX6 55 Lib.Math.abs.name, .static Lib.Math.abs.name, .initialized "java/lang/Math", .code Lib.Math.abs.name Lib.Math.abs.code 1 (some .int), .fieldLink RX6 11 "StageLines$Stage" "bars" "[LStageLines$Bar;", .fieldLink RX6 61 "StageLines$Bar" "settings" "[I"] ++ wsX60 ++ wsX00)
def wsX2_overlap : List Cond := .code yX2_overlap cX2_overlap 9 (some .boolean) :: ([.fieldLink RX2 11 "StageLines$Flight" "heights" "[[I", .fieldLink RX2 16 "StageLines$Stage" "bars" "[LStageLines$Bar;", .fieldLink RX2 22 "StageLines$Bar" "settings" "[I", .methodLink RX2 60 Lib.Math.max.name, .static Lib.Math.max.name, .initialized "java/lang/Math", .code Lib.Math.max.name Lib.Math.max.code 2 (some .int), .methodLink RX2 65 Lib.Math.min.name, .static Lib.Math.min.name, .code Lib.Math.min.name Lib.Math.min.code 2 (some .int)] ++ wsX20 ++ wsX60 ++ wsX00)
def wsX2_firstStrike_r1 : List Cond := [Cond.methodLink RX2 68 yX2_canStrike, Cond.instanceMethod yX2_canStrike, Cond.selects RX2 yX2_canStrike yX2_canStrike, Cond.initialized RX2, Cond.code yX2_canStrike cX2_canStrike 5 (some .boolean), Cond.fieldLink RX2 16 "StageLines$Stage" "bars" "[LStageLines$Bar;", Cond.fieldLink RX2 22 "StageLines$Bar" "settings" "[I", Cond.methodLink RX2 56 yX6_areNear, Cond.instanceMethod yX6_areNear, Cond.selects RX6 yX6_areNear yX6_areNear, Cond.initialized RX6, Cond.code yX6_areNear cX6_areNear 3 (some .boolean), Cond.methodLink RX6 55 Lib.Math.abs.name, Cond.static Lib.Math.abs.name, Cond.initialized "java/lang/Math", Cond.code Lib.Math.abs.name Lib.Math.abs.code 1 (some .int), Cond.fieldLink RX6 11 "StageLines$Stage" "bars" "[LStageLines$Bar;", Cond.fieldLink RX6 61 "StageLines$Bar" "settings" "[I", Cond.methodLink RX2 72 yX2_overlap, Cond.instanceMethod yX2_overlap, Cond.selects RX2 yX2_overlap yX2_overlap, Cond.code yX2_overlap cX2_overlap 9 (some .boolean), Cond.fieldLink RX2 11 "StageLines$Flight" "heights" "[[I", Cond.methodLink RX2 60 Lib.Math.max.name]
def wsX2_firstStrike_r2 : List Cond := [Cond.static Lib.Math.max.name, Cond.code Lib.Math.max.name Lib.Math.max.code 2 (some .int), Cond.methodLink RX2 65 Lib.Math.min.name, Cond.static Lib.Math.min.name, Cond.code Lib.Math.min.name Lib.Math.min.code 2 (some .int)]
def wsX2_firstStrike : List Cond := .code yX2_firstStrike cX2_firstStrike 7 (some .int) :: ((wsX2_firstStrike_r1 ++ wsX2_firstStrike_r2) ++ wsX60 ++ wsX00 ++ wsX20)
def wsX2_strikesOf_r1 : List Cond := [Cond.methodLink RX2 68 yX2_canStrike, Cond.instanceMethod yX2_canStrike, Cond.selects RX2 yX2_canStrike yX2_canStrike, Cond.initialized RX2, Cond.code yX2_canStrike cX2_canStrike 5 (some .boolean), Cond.fieldLink RX2 16 "StageLines$Stage" "bars" "[LStageLines$Bar;", Cond.fieldLink RX2 22 "StageLines$Bar" "settings" "[I", Cond.methodLink RX2 56 yX6_areNear, Cond.instanceMethod yX6_areNear, Cond.selects RX6 yX6_areNear yX6_areNear, Cond.initialized RX6, Cond.code yX6_areNear cX6_areNear 3 (some .boolean), Cond.methodLink RX6 55 Lib.Math.abs.name, Cond.static Lib.Math.abs.name, Cond.initialized "java/lang/Math", Cond.code Lib.Math.abs.name Lib.Math.abs.code 1 (some .int), Cond.fieldLink RX6 11 "StageLines$Stage" "bars" "[LStageLines$Bar;", Cond.fieldLink RX6 61 "StageLines$Bar" "settings" "[I", Cond.methodLink RX2 72 yX2_overlap, Cond.instanceMethod yX2_overlap, Cond.selects RX2 yX2_overlap yX2_overlap, Cond.code yX2_overlap cX2_overlap 9 (some .boolean), Cond.fieldLink RX2 11 "StageLines$Flight" "heights" "[[I", Cond.methodLink RX2 60 Lib.Math.max.name]
def wsX2_strikesOf_r2 : List Cond := [Cond.static Lib.Math.max.name, Cond.code Lib.Math.max.name Lib.Math.max.code 2 (some .int), Cond.methodLink RX2 65 Lib.Math.min.name, Cond.static Lib.Math.min.name, Cond.code Lib.Math.min.name Lib.Math.min.code 2 (some .int)]
def wsX2_strikesOf : List Cond := .code yX2_strikesOf cX2_strikesOf 6 (some .int) :: ((wsX2_strikesOf_r1 ++ wsX2_strikesOf_r2) ++ wsX60 ++ wsX00 ++ wsX20)
def wsX3_init : List Cond := .code yX3_init cX3_init 1 none :: ([.methodLink RX3 3 objectInit, .instanceMethod objectInit, .code objectInit ⟨#[0xb1]⟩ 1 none, .arrayClass .int, .fieldLink RX3 9 "StageLines$Loader" "pieceSums" "[I", .fieldLink RX3 15 "StageLines$Loader" "brickSums" "[I", .fieldLink RX3 18 "StageLines$Loader" "orders" "[I", .fieldLink RX3 21 "StageLines$Loader" "pieceCount" "I", .fieldLink RX3 25 "StageLines$Loader" "brickCount" "I"] ++ wsX30)
def wsX3_fillSums : List Cond := .code yX3_fillSums cX3_fillSums 5 none :: ([.fieldLink RX3 34 "StageLines$Pile" "size" "I", .fieldLink RX3 66 "StageLines$Pile" "weights" "[I"] ++ wsX50)
def wsX3_indexOf : List Cond := .code yX3_indexOf cX3_indexOf 2 (some .int) :: ([])
def wsX3_ordersBehind : List Cond := .code yX3_ordersBehind cX3_ordersBehind 5 (some .int) :: ([.fieldLink RX3 21 "StageLines$Loader" "pieceCount" "I", .fieldLink RX3 25 "StageLines$Loader" "brickCount" "I", .fieldLink RX3 18 "StageLines$Loader" "orders" "[I", .methodLink RX3 52 yX3_indexOf, .static yX3_indexOf, .initialized RX3, .code yX3_indexOf cX3_indexOf 2 (some .int)] ++ wsX30)
def wsX3_reckon : List Cond := .code yX3_reckon cX3_reckon 6 none :: ([.fieldLink RX3 28 "StageLines$Bar" "pieces" "LStageLines$Pile;", .fieldLink RX3 34 "StageLines$Pile" "size" "I", .fieldLink RX3 21 "StageLines$Loader" "pieceCount" "I", .fieldLink RX3 39 "StageLines$Bar" "bricks" "LStageLines$Pile;", .fieldLink RX3 25 "StageLines$Loader" "brickCount" "I", .fieldLink RX3 9 "StageLines$Loader" "pieceSums" "[I", .fieldLink RX3 15 "StageLines$Loader" "brickSums" "[I", .methodLink RX3 46 Lib.Math.abs.name, .static Lib.Math.abs.name, .initialized "java/lang/Math", .code Lib.Math.abs.name Lib.Math.abs.code 1 (some .int), .fieldLink RX3 18 "StageLines$Loader" "orders" "[I", .methodLink RX3 42 yX3_fillSums, .static yX3_fillSums, .initialized RX3, .code yX3_fillSums cX3_fillSums 5 none, .fieldLink RX3 66 "StageLines$Pile" "weights" "[I", .methodLink RX3 52 yX3_indexOf, .static yX3_indexOf, .code yX3_indexOf cX3_indexOf 2 (some .int), .methodLink RX3 56 yX3_ordersBehind, .instanceMethod yX3_ordersBehind, .selects RX3 yX3_ordersBehind yX3_ordersBehind, .code yX3_ordersBehind cX3_ordersBehind 5 (some .int)] ++ wsX00 ++ wsX50 ++ wsX30)
def wsX3_allOrders : List Cond := .code yX3_allOrders cX3_allOrders 1 (some .int) :: ([.fieldLink RX3 18 "StageLines$Loader" "orders" "[I"] ++ wsX30)
def wsX3_things : List Cond := .code yX3_things cX3_things 1 (some .int) :: ([.fieldLink RX3 21 "StageLines$Loader" "pieceCount" "I", .fieldLink RX3 25 "StageLines$Loader" "brickCount" "I"] ++ wsX30)
def wsX3_leastBehind : List Cond := .code yX3_leastBehind cX3_leastBehind 4 (some .int) :: ([.fieldLink RX3 21 "StageLines$Loader" "pieceCount" "I", .fieldLink RX3 18 "StageLines$Loader" "orders" "[I", .fieldLink RX3 25 "StageLines$Loader" "brickCount" "I", .methodLink RX3 52 yX3_indexOf, .static yX3_indexOf, .initialized RX3, .code yX3_indexOf cX3_indexOf 2 (some .int)] ++ wsX30)
def wsX3_placed : List Cond := .code yX3_placed cX3_placed 6 (some .int) :: ([.methodLink RX3 59 yX3_things, .instanceMethod yX3_things, .selects RX3 yX3_things yX3_things, .initialized RX3, .code yX3_things cX3_things 1 (some .int), .fieldLink RX3 21 "StageLines$Loader" "pieceCount" "I", .fieldLink RX3 25 "StageLines$Loader" "brickCount" "I", .methodLink RX3 63 yX3_leastBehind, .instanceMethod yX3_leastBehind, .selects RX3 yX3_leastBehind yX3_leastBehind, .code yX3_leastBehind cX3_leastBehind 4 (some .int), .fieldLink RX3 18 "StageLines$Loader" "orders" "[I", .methodLink RX3 52 yX3_indexOf, .static yX3_indexOf, .code yX3_indexOf cX3_indexOf 2 (some .int)] ++ wsX30)
def wsX4_init : List Cond := .code yX4_init cX4_init 1 none :: ([.methodLink RX4 1 objectInit, .instanceMethod objectInit, .code objectInit ⟨#[0xb1]⟩ 1 none, .fieldLink RX4 7 "StageLines$Move" "bar" "I", .fieldLink RX4 13 "StageLines$Move" "begin" "I", .fieldLink RX4 16 "StageLines$Move" "target" "I", .fieldLink RX4 19 "StageLines$Move" "pace" "I"] ++ wsX40)
def wsX4_copyFrom : List Cond := .code yX4_copyFrom cX4_copyFrom 2 none :: ([.fieldLink RX4 7 "StageLines$Move" "bar" "I", .fieldLink RX4 13 "StageLines$Move" "begin" "I", .fieldLink RX4 16 "StageLines$Move" "target" "I", .fieldLink RX4 19 "StageLines$Move" "pace" "I"] ++ wsX40)
def wsX5_add : List Cond := .code yX5_add cX5_add 2 none :: ([.fieldLink RX5 9 "StageLines$Pile" "weights" "[I", .fieldLink RX5 15 "StageLines$Pile" "size" "I"] ++ wsX50)
def wsX5_remove : List Cond := .code yX5_remove cX5_remove 4 (some .int) :: ([.fieldLink RX5 9 "StageLines$Pile" "weights" "[I", .fieldLink RX5 15 "StageLines$Pile" "size" "I"] ++ wsX50)
def wsX5_weightOf : List Cond := .code yX5_weightOf cX5_weightOf 2 (some .int) :: ([.fieldLink RX5 15 "StageLines$Pile" "size" "I", .fieldLink RX5 9 "StageLines$Pile" "weights" "[I"] ++ wsX50)
def wsX6_init_r1 : List Cond := [Cond.methodLink RX6 3 objectInit, Cond.instanceMethod objectInit, Cond.code objectInit ⟨#[0xb1]⟩ 1 none, Cond.classLink RX6 9 RX0, Cond.fieldLink RX6 11 "StageLines$Stage" "bars" "[LStageLines$Bar;", Cond.classLink RX6 17 RX4, Cond.fieldLink RX6 19 "StageLines$Stage" "moves" "[LStageLines$Move;", Cond.fieldLink RX6 23 "StageLines$Stage" "moveCount" "I", Cond.fieldLink RX6 27 "StageLines$Stage" "sway" "I", Cond.instantiable RX0 3, Cond.initialized RX0, Cond.instantiable RX4 4, Cond.initialized RX4, Cond.instanceMethod yX0_init, Cond.code yX0_init cX0_init 1 none, Cond.methodLink RX0 3 objectInit, Cond.arrayClass .int, Cond.fieldLink RX0 9 "StageLines$Bar" "settings" "[I", Cond.classLink RX0 15 RX5, Cond.instantiable RX5 2, Cond.initialized RX5, Cond.fieldLink RX0 18 "StageLines$Bar" "pieces" "LStageLines$Pile;", Cond.fieldLink RX0 22 "StageLines$Bar" "bricks" "LStageLines$Pile;", Cond.instanceMethod yX5_init]
def wsX6_init_r2 : List Cond := [Cond.code yX5_init cX5_init 1 none, Cond.methodLink RX5 3 objectInit, Cond.fieldLink RX5 9 "StageLines$Pile" "weights" "[I", Cond.fieldLink RX5 15 "StageLines$Pile" "size" "I", Cond.instanceMethod yX4_init, Cond.code yX4_init cX4_init 1 none, Cond.methodLink RX4 1 objectInit, Cond.fieldLink RX4 7 "StageLines$Move" "bar" "I", Cond.fieldLink RX4 13 "StageLines$Move" "begin" "I", Cond.fieldLink RX4 16 "StageLines$Move" "target" "I", Cond.fieldLink RX4 19 "StageLines$Move" "pace" "I"]
def wsX6_init : List Cond := .code yX6_init cX6_init 2 none :: ((wsX6_init_r1 ++ wsX6_init_r2) ++ wsX60 ++ wsX00 ++ wsX40 ++ wsX50)
def wsX6_copyFrom_r1 : List Cond := [Cond.fieldLink RX6 11 "StageLines$Stage" "bars" "[LStageLines$Bar;", Cond.fieldLink RX6 19 "StageLines$Stage" "moves" "[LStageLines$Move;", Cond.fieldLink RX6 23 "StageLines$Stage" "moveCount" "I", Cond.fieldLink RX6 27 "StageLines$Stage" "sway" "I", Cond.methodLink RX6 32 yX0_copyFrom, Cond.instanceMethod yX0_copyFrom, Cond.selects RX0 yX0_copyFrom yX0_copyFrom, Cond.initialized RX0, Cond.code yX0_copyFrom cX0_copyFrom 2 none, Cond.fieldLink RX0 9 "StageLines$Bar" "settings" "[I", Cond.methodLink RX0 35 arraycopyName, Cond.native arraycopyName, Cond.static arraycopyName, Cond.initialized "java/lang/System", Cond.fieldLink RX0 18 "StageLines$Bar" "pieces" "LStageLines$Pile;", Cond.fieldLink RX0 22 "StageLines$Bar" "bricks" "LStageLines$Pile;", Cond.methodLink RX0 41 yX5_copyFrom, Cond.instanceMethod yX5_copyFrom, Cond.selects RX5 yX5_copyFrom yX5_copyFrom, Cond.initialized RX5, Cond.code yX5_copyFrom cX5_copyFrom 2 none, Cond.fieldLink RX5 9 "StageLines$Pile" "weights" "[I", Cond.methodLink RX5 19 arraycopyName, Cond.fieldLink RX5 15 "StageLines$Pile" "size" "I"]
def wsX6_copyFrom_r2 : List Cond := [Cond.methodLink RX6 36 yX4_copyFrom, Cond.instanceMethod yX4_copyFrom, Cond.selects RX4 yX4_copyFrom yX4_copyFrom, Cond.initialized RX4, Cond.code yX4_copyFrom cX4_copyFrom 2 none, Cond.fieldLink RX4 7 "StageLines$Move" "bar" "I", Cond.fieldLink RX4 13 "StageLines$Move" "begin" "I", Cond.fieldLink RX4 16 "StageLines$Move" "target" "I", Cond.fieldLink RX4 19 "StageLines$Move" "pace" "I"]
def wsX6_copyFrom : List Cond := .code yX6_copyFrom cX6_copyFrom 3 none :: ((wsX6_copyFrom_r1 ++ wsX6_copyFrom_r2) ++ wsX60 ++ wsX00 ++ wsX50 ++ wsX40)
def wsX6_addMove : List Cond := .code yX6_addMove cX6_addMove 6 (some .int) :: ([.fieldLink RX6 19 "StageLines$Stage" "moves" "[LStageLines$Move;", .fieldLink RX6 23 "StageLines$Stage" "moveCount" "I", .fieldLink RX6 39 "StageLines$Move" "bar" "I", .fieldLink RX6 42 "StageLines$Move" "begin" "I", .fieldLink RX6 45 "StageLines$Move" "target" "I", .fieldLink RX6 48 "StageLines$Move" "pace" "I"] ++ wsX60 ++ wsX40)
def wsX6_removeMove : List Cond := .code yX6_removeMove cX6_removeMove 3 none :: ([.fieldLink RX6 23 "StageLines$Stage" "moveCount" "I", .fieldLink RX6 19 "StageLines$Stage" "moves" "[LStageLines$Move;", .methodLink RX6 36 yX4_copyFrom, .instanceMethod yX4_copyFrom, .selects RX4 yX4_copyFrom yX4_copyFrom, .initialized RX4, .code yX4_copyFrom cX4_copyFrom 2 none, .fieldLink RX4 7 "StageLines$Move" "bar" "I", .fieldLink RX4 13 "StageLines$Move" "begin" "I", .fieldLink RX4 16 "StageLines$Move" "target" "I", .fieldLink RX4 19 "StageLines$Move" "pace" "I"] ++ wsX60 ++ wsX40)
def wsX6_movesOf : List Cond := .code yX6_movesOf cX6_movesOf 4 (some .int) :: ([.fieldLink RX6 23 "StageLines$Stage" "moveCount" "I", .fieldLink RX6 19 "StageLines$Stage" "moves" "[LStageLines$Move;", .fieldLink RX6 39 "StageLines$Move" "bar" "I"] ++ wsX60 ++ wsX40)
def wsX6_moveAt : List Cond := .code yX6_moveAt cX6_moveAt 4 (some .int) :: ([.fieldLink RX6 19 "StageLines$Stage" "moves" "[LStageLines$Move;", .fieldLink RX6 42 "StageLines$Move" "begin" "I", .methodLink RX6 51 yX6_firstMoveFrom, .instanceMethod yX6_firstMoveFrom, .selects RX6 yX6_firstMoveFrom yX6_firstMoveFrom, .initialized RX6, .code yX6_firstMoveFrom cX6_firstMoveFrom 6 (some .int), .fieldLink RX6 23 "StageLines$Stage" "moveCount" "I", .fieldLink RX6 39 "StageLines$Move" "bar" "I"] ++ wsX60 ++ wsX40)
def wsX6_evenBars : List Cond := .code yX6_evenBars cX6_evenBars 3 (some .int) :: ([.fieldLink RX6 11 "StageLines$Stage" "bars" "[LStageLines$Bar;", .fieldLink RX6 27 "StageLines$Stage" "sway" "I", .methodLink RX6 65 yX0_isEven, .instanceMethod yX0_isEven, .selects RX0 yX0_isEven yX0_isEven, .initialized RX0, .code yX0_isEven cX0_isEven 2 (some .boolean), .fieldLink RX0 18 "StageLines$Bar" "pieces" "LStageLines$Pile;", .fieldLink RX0 22 "StageLines$Bar" "bricks" "LStageLines$Pile;", .methodLink RX0 29 Lib.Math.abs.name, .static Lib.Math.abs.name, .initialized "java/lang/Math", .code Lib.Math.abs.name Lib.Math.abs.code 1 (some .int), .methodLink RX0 25 yX5_total, .instanceMethod yX5_total, .selects RX5 yX5_total yX5_total, .initialized RX5, .code yX5_total cX5_total 3 (some .int), .fieldLink RX5 15 "StageLines$Pile" "size" "I", .fieldLink RX5 9 "StageLines$Pile" "weights" "[I"] ++ wsX60 ++ wsX00 ++ wsX50)
def wsX6_nearPairs : List Cond := .code yX6_nearPairs cX6_nearPairs 4 (some .int) :: ([.methodLink RX6 69 yX6_areNear, .instanceMethod yX6_areNear, .selects RX6 yX6_areNear yX6_areNear, .initialized RX6, .code yX6_areNear cX6_areNear 3 (some .boolean), .methodLink RX6 55 Lib.Math.abs.name, .static Lib.Math.abs.name, .initialized "java/lang/Math", .code Lib.Math.abs.name Lib.Math.abs.code 1 (some .int), .fieldLink RX6 11 "StageLines$Stage" "bars" "[LStageLines$Bar;", .fieldLink RX6 61 "StageLines$Bar" "settings" "[I"] ++ wsX60 ++ wsX00)
def wsX7_init_r1 : List Cond := [Cond.methodLink RX7 3 objectInit, Cond.instanceMethod objectInit, Cond.code objectInit ⟨#[0xb1]⟩ 1 none, Cond.classLink RX7 9 RX6, Cond.instantiable RX6 4, Cond.initialized RX6, Cond.fieldLink RX7 12 "StageLines" "stage" "LStageLines$Stage;", Cond.fieldLink RX7 16 "StageLines" "images" "[LStageLines$Stage;", Cond.fieldLink RX7 20 "StageLines" "keptImages" "I", Cond.classLink RX7 24 RX3, Cond.instantiable RX3 5, Cond.initialized RX3, Cond.fieldLink RX7 27 "StageLines" "loader" "LStageLines$Loader;", Cond.classLink RX7 31 RX2, Cond.instantiable RX2 1, Cond.initialized RX2, Cond.fieldLink RX7 34 "StageLines" "flight" "LStageLines$Flight;", Cond.classLink RX7 38 RX1, Cond.instantiable RX1 7, Cond.initialized RX1, Cond.fieldLink RX7 41 "StageLines" "crewFinder" "LStageLines$CrewFinder;", Cond.methodLink RX7 11 yX6_init, Cond.instanceMethod yX6_init, Cond.code yX6_init cX6_init 2 none]
def wsX7_init_r2 : List Cond := [Cond.methodLink RX6 3 objectInit, Cond.classLink RX6 9 RX0, Cond.fieldLink RX6 11 "StageLines$Stage" "bars" "[LStageLines$Bar;", Cond.classLink RX6 17 RX4, Cond.fieldLink RX6 19 "StageLines$Stage" "moves" "[LStageLines$Move;", Cond.fieldLink RX6 23 "StageLines$Stage" "moveCount" "I", Cond.fieldLink RX6 27 "StageLines$Stage" "sway" "I", Cond.instantiable RX0 3, Cond.initialized RX0, Cond.instantiable RX4 4, Cond.initialized RX4, Cond.instanceMethod yX0_init, Cond.code yX0_init cX0_init 1 none, Cond.methodLink RX0 3 objectInit, Cond.arrayClass .int, Cond.fieldLink RX0 9 "StageLines$Bar" "settings" "[I", Cond.classLink RX0 15 RX5, Cond.instantiable RX5 2, Cond.initialized RX5, Cond.fieldLink RX0 18 "StageLines$Bar" "pieces" "LStageLines$Pile;", Cond.fieldLink RX0 22 "StageLines$Bar" "bricks" "LStageLines$Pile;", Cond.instanceMethod yX5_init, Cond.code yX5_init cX5_init 1 none, Cond.methodLink RX5 3 objectInit]
def wsX7_init_r3 : List Cond := [Cond.fieldLink RX5 9 "StageLines$Pile" "weights" "[I", Cond.fieldLink RX5 15 "StageLines$Pile" "size" "I", Cond.instanceMethod yX4_init, Cond.code yX4_init cX4_init 1 none, Cond.methodLink RX4 1 objectInit, Cond.fieldLink RX4 7 "StageLines$Move" "bar" "I", Cond.fieldLink RX4 13 "StageLines$Move" "begin" "I", Cond.fieldLink RX4 16 "StageLines$Move" "target" "I", Cond.fieldLink RX4 19 "StageLines$Move" "pace" "I", Cond.instanceMethod yX3_init, Cond.code yX3_init cX3_init 1 none, Cond.methodLink RX3 3 objectInit, Cond.fieldLink RX3 9 "StageLines$Loader" "pieceSums" "[I", Cond.fieldLink RX3 15 "StageLines$Loader" "brickSums" "[I", Cond.fieldLink RX3 18 "StageLines$Loader" "orders" "[I", Cond.fieldLink RX3 21 "StageLines$Loader" "pieceCount" "I", Cond.fieldLink RX3 25 "StageLines$Loader" "brickCount" "I", Cond.instanceMethod yX2_init, Cond.code yX2_init cX2_init 1 none, Cond.methodLink RX2 3 objectInit, Cond.classLink RX2 9 "[[I", Cond.fieldLink RX2 11 "StageLines$Flight" "heights" "[[I", Cond.instanceMethod yX1_init, Cond.code yX1_init cX1_init 1 none]
def wsX7_init_r4 : List Cond := [Cond.methodLink RX1 3 objectInit, Cond.fieldLink RX1 9 "StageLines$CrewFinder" "least" "I", Cond.fieldLink RX1 15 "StageLines$CrewFinder" "handOf" "[I", Cond.arrayClass .boolean, Cond.fieldLink RX1 19 "StageLines$CrewFinder" "doable" "[Z", Cond.fieldLink RX1 23 "StageLines$CrewFinder" "ends" "[I", Cond.fieldLink RX1 26 "StageLines$CrewFinder" "foes" "[I", Cond.fieldLink RX1 29 "StageLines$CrewFinder" "doneBy" "[I", Cond.fieldLink RX1 32 "StageLines$CrewFinder" "size" "I"]
def wsX7_init : List Cond := .code yX7_init cX7_init 2 none :: ((wsX7_init_r1 ++ (wsX7_init_r2 ++ (wsX7_init_r3 ++ wsX7_init_r4))) ++ wsX60 ++ wsX70 ++ wsX30 ++ wsX20 ++ wsX10 ++ wsX00 ++ wsX40 ++ wsX50)
def wsX7_within : List Cond := .code yX7_within cX7_within 3 (some .boolean) :: ([])
def wsX7_isBar : List Cond := .code yX7_isBar cX7_isBar 1 (some .boolean) :: ([.methodLink RX7 49 yX7_within, .static yX7_within, .initialized RX7, .code yX7_within cX7_within 3 (some .boolean)])
def wsX7_set : List Cond := .code yX7_set cX7_set 5 (some .int) :: ([.fieldLink RX7 53 "StageLines" "GREATEST_SETTING" "[I", .fieldLink RX7 12 "StageLines" "stage" "LStageLines$Stage;", .fieldLink RX7 57 "StageLines$Stage" "sway" "I", .fieldLink RX7 60 "StageLines$Stage" "bars" "[LStageLines$Bar;", .fieldLink RX7 64 "StageLines$Bar" "settings" "[I", .methodLink RX7 45 yX7_isBar, .static yX7_isBar, .initialized RX7, .code yX7_isBar cX7_isBar 1 (some .boolean), .methodLink RX7 49 yX7_within, .static yX7_within, .code yX7_within cX7_within 3 (some .boolean)] ++ wsX70 ++ wsX60 ++ wsX00)
def wsX7_load : List Cond := .code yX7_load cX7_load 5 (some .int) :: ([.fieldLink RX7 12 "StageLines" "stage" "LStageLines$Stage;", .fieldLink RX7 60 "StageLines$Stage" "bars" "[LStageLines$Bar;", .fieldLink RX7 73 "StageLines$Pile" "size" "I", .methodLink RX7 45 yX7_isBar, .static yX7_isBar, .initialized RX7, .code yX7_isBar cX7_isBar 1 (some .boolean), .methodLink RX7 49 yX7_within, .static yX7_within, .code yX7_within cX7_within 3 (some .boolean), .methodLink RX7 69 yX0_pileOf, .instanceMethod yX0_pileOf, .selects RX0 yX0_pileOf yX0_pileOf, .initialized RX0, .code yX0_pileOf cX0_pileOf 2 (some (.object "StageLines$Pile")), .fieldLink RX0 18 "StageLines$Bar" "pieces" "LStageLines$Pile;", .fieldLink RX0 22 "StageLines$Bar" "bricks" "LStageLines$Pile;", .methodLink RX7 78 yX5_add, .instanceMethod yX5_add, .selects RX5 yX5_add yX5_add, .initialized RX5, .code yX5_add cX5_add 2 none, .fieldLink RX5 9 "StageLines$Pile" "weights" "[I", .fieldLink RX5 15 "StageLines$Pile" "size" "I"] ++ wsX70 ++ wsX60 ++ wsX50 ++ wsX00)
def wsX7_take : List Cond := .code yX7_take cX7_take 5 (some .int) :: ([.fieldLink RX7 12 "StageLines" "stage" "LStageLines$Stage;", .fieldLink RX7 60 "StageLines$Stage" "bars" "[LStageLines$Bar;", .fieldLink RX7 73 "StageLines$Pile" "size" "I", .methodLink RX7 45 yX7_isBar, .static yX7_isBar, .initialized RX7, .code yX7_isBar cX7_isBar 1 (some .boolean), .methodLink RX7 49 yX7_within, .static yX7_within, .code yX7_within cX7_within 3 (some .boolean), .methodLink RX7 69 yX0_pileOf, .instanceMethod yX0_pileOf, .selects RX0 yX0_pileOf yX0_pileOf, .initialized RX0, .code yX0_pileOf cX0_pileOf 2 (some (.object "StageLines$Pile")), .fieldLink RX0 18 "StageLines$Bar" "pieces" "LStageLines$Pile;", .fieldLink RX0 22 "StageLines$Bar" "bricks" "LStageLines$Pile;", .methodLink RX7 82 yX5_remove, .instanceMethod yX5_remove, .selects RX5 yX5_remove yX5_remove, .initialized RX5, .code yX5_remove cX5_remove 4 (some .int), .fieldLink RX5 9 "StageLines$Pile" "weights" "[I", .fieldLink RX5 15 "StageLines$Pile" "size" "I"] ++ wsX70 ++ wsX60 ++ wsX50 ++ wsX00)
def wsX7_bar_r1 : List Cond := [Cond.fieldLink RX7 12 "StageLines" "stage" "LStageLines$Stage;", Cond.fieldLink RX7 60 "StageLines$Stage" "bars" "[LStageLines$Bar;", Cond.fieldLink RX7 86 "StageLines$Bar" "pieces" "LStageLines$Pile;", Cond.fieldLink RX7 93 "StageLines$Bar" "bricks" "LStageLines$Pile;", Cond.fieldLink RX7 64 "StageLines$Bar" "settings" "[I", Cond.fieldLink RX7 73 "StageLines$Pile" "size" "I", Cond.fieldLink RX7 57 "StageLines$Stage" "sway" "I", Cond.methodLink RX7 45 yX7_isBar, Cond.static yX7_isBar, Cond.initialized RX7, Cond.code yX7_isBar cX7_isBar 1 (some .boolean), Cond.methodLink RX7 49 yX7_within, Cond.static yX7_within, Cond.code yX7_within cX7_within 3 (some .boolean), Cond.methodLink RX7 90 yX5_weightOf, Cond.instanceMethod yX5_weightOf, Cond.selects RX5 yX5_weightOf yX5_weightOf, Cond.initialized RX5, Cond.code yX5_weightOf cX5_weightOf 2 (some .int), Cond.fieldLink RX5 15 "StageLines$Pile" "size" "I", Cond.fieldLink RX5 9 "StageLines$Pile" "weights" "[I", Cond.methodLink RX7 96 yX5_total, Cond.instanceMethod yX5_total, Cond.selects RX5 yX5_total yX5_total]
def wsX7_bar_r2 : List Cond := [Cond.code yX5_total cX5_total 3 (some .int), Cond.methodLink RX7 100 yX0_isEven, Cond.instanceMethod yX0_isEven, Cond.selects RX0 yX0_isEven yX0_isEven, Cond.initialized RX0, Cond.code yX0_isEven cX0_isEven 2 (some .boolean), Cond.fieldLink RX0 18 "StageLines$Bar" "pieces" "LStageLines$Pile;", Cond.fieldLink RX0 22 "StageLines$Bar" "bricks" "LStageLines$Pile;", Cond.methodLink RX0 29 Lib.Math.abs.name, Cond.static Lib.Math.abs.name, Cond.initialized "java/lang/Math", Cond.code Lib.Math.abs.name Lib.Math.abs.code 1 (some .int), Cond.methodLink RX0 25 yX5_total, Cond.methodLink RX7 103 yX6_movesOf, Cond.instanceMethod yX6_movesOf, Cond.selects RX6 yX6_movesOf yX6_movesOf, Cond.initialized RX6, Cond.code yX6_movesOf cX6_movesOf 4 (some .int), Cond.fieldLink RX6 23 "StageLines$Stage" "moveCount" "I", Cond.fieldLink RX6 19 "StageLines$Stage" "moves" "[LStageLines$Move;", Cond.fieldLink RX6 39 "StageLines$Move" "bar" "I"]
def wsX7_bar : List Cond := .code yX7_bar cX7_bar 4 (some .int) :: ((wsX7_bar_r1 ++ wsX7_bar_r2) ++ wsX70 ++ wsX60 ++ wsX00 ++ wsX50 ++ wsX40)
def wsX7_loading_r1 : List Cond := [Cond.fieldLink RX7 27 "StageLines" "loader" "LStageLines$Loader;", Cond.fieldLink RX7 12 "StageLines" "stage" "LStageLines$Stage;", Cond.fieldLink RX7 60 "StageLines$Stage" "bars" "[LStageLines$Bar;", Cond.fieldLink RX7 57 "StageLines$Stage" "sway" "I", Cond.methodLink RX7 45 yX7_isBar, Cond.static yX7_isBar, Cond.initialized RX7, Cond.code yX7_isBar cX7_isBar 1 (some .boolean), Cond.methodLink RX7 49 yX7_within, Cond.static yX7_within, Cond.code yX7_within cX7_within 3 (some .boolean), Cond.methodLink RX7 106 yX3_reckon, Cond.instanceMethod yX3_reckon, Cond.selects RX3 yX3_reckon yX3_reckon, Cond.initialized RX3, Cond.code yX3_reckon cX3_reckon 6 none, Cond.fieldLink RX3 28 "StageLines$Bar" "pieces" "LStageLines$Pile;", Cond.fieldLink RX3 34 "StageLines$Pile" "size" "I", Cond.fieldLink RX3 21 "StageLines$Loader" "pieceCount" "I", Cond.fieldLink RX3 39 "StageLines$Bar" "bricks" "LStageLines$Pile;", Cond.fieldLink RX3 25 "StageLines$Loader" "brickCount" "I", Cond.fieldLink RX3 9 "StageLines$Loader" "pieceSums" "[I", Cond.fieldLink RX3 15 "StageLines$Loader" "brickSums" "[I", Cond.methodLink RX3 46 Lib.Math.abs.name]
def wsX7_loading_r2 : List Cond := [Cond.static Lib.Math.abs.name, Cond.initialized "java/lang/Math", Cond.code Lib.Math.abs.name Lib.Math.abs.code 1 (some .int), Cond.fieldLink RX3 18 "StageLines$Loader" "orders" "[I", Cond.methodLink RX3 42 yX3_fillSums, Cond.static yX3_fillSums, Cond.code yX3_fillSums cX3_fillSums 5 none, Cond.fieldLink RX3 66 "StageLines$Pile" "weights" "[I", Cond.methodLink RX3 52 yX3_indexOf, Cond.static yX3_indexOf, Cond.code yX3_indexOf cX3_indexOf 2 (some .int), Cond.methodLink RX3 56 yX3_ordersBehind, Cond.instanceMethod yX3_ordersBehind, Cond.selects RX3 yX3_ordersBehind yX3_ordersBehind, Cond.code yX3_ordersBehind cX3_ordersBehind 5 (some .int), Cond.methodLink RX7 110 yX3_allOrders, Cond.instanceMethod yX3_allOrders, Cond.selects RX3 yX3_allOrders yX3_allOrders, Cond.code yX3_allOrders cX3_allOrders 1 (some .int), Cond.methodLink RX7 113 yX3_things, Cond.instanceMethod yX3_things, Cond.selects RX3 yX3_things yX3_things, Cond.code yX3_things cX3_things 1 (some .int), Cond.methodLink RX7 116 yX3_placed]
def wsX7_loading_r3 : List Cond := [Cond.instanceMethod yX3_placed, Cond.selects RX3 yX3_placed yX3_placed, Cond.code yX3_placed cX3_placed 6 (some .int), Cond.methodLink RX3 59 yX3_things, Cond.methodLink RX3 63 yX3_leastBehind, Cond.instanceMethod yX3_leastBehind, Cond.selects RX3 yX3_leastBehind yX3_leastBehind, Cond.code yX3_leastBehind cX3_leastBehind 4 (some .int)]
def wsX7_loading : List Cond := .code yX7_loading cX7_loading 3 (some .int) :: ((wsX7_loading_r1 ++ (wsX7_loading_r2 ++ wsX7_loading_r3)) ++ wsX70 ++ wsX60 ++ wsX00 ++ wsX50 ++ wsX30)
def wsX7_loadings_r1 : List Cond := [Cond.fieldLink RX7 27 "StageLines" "loader" "LStageLines$Loader;", Cond.fieldLink RX7 12 "StageLines" "stage" "LStageLines$Stage;", Cond.fieldLink RX7 60 "StageLines$Stage" "bars" "[LStageLines$Bar;", Cond.fieldLink RX7 57 "StageLines$Stage" "sway" "I", Cond.methodLink RX7 45 yX7_isBar, Cond.static yX7_isBar, Cond.initialized RX7, Cond.code yX7_isBar cX7_isBar 1 (some .boolean), Cond.methodLink RX7 49 yX7_within, Cond.static yX7_within, Cond.code yX7_within cX7_within 3 (some .boolean), Cond.methodLink RX7 106 yX3_reckon, Cond.instanceMethod yX3_reckon, Cond.selects RX3 yX3_reckon yX3_reckon, Cond.initialized RX3, Cond.code yX3_reckon cX3_reckon 6 none, Cond.fieldLink RX3 28 "StageLines$Bar" "pieces" "LStageLines$Pile;", Cond.fieldLink RX3 34 "StageLines$Pile" "size" "I", Cond.fieldLink RX3 21 "StageLines$Loader" "pieceCount" "I", Cond.fieldLink RX3 39 "StageLines$Bar" "bricks" "LStageLines$Pile;", Cond.fieldLink RX3 25 "StageLines$Loader" "brickCount" "I", Cond.fieldLink RX3 9 "StageLines$Loader" "pieceSums" "[I", Cond.fieldLink RX3 15 "StageLines$Loader" "brickSums" "[I", Cond.methodLink RX3 46 Lib.Math.abs.name]
def wsX7_loadings_r2 : List Cond := [Cond.static Lib.Math.abs.name, Cond.initialized "java/lang/Math", Cond.code Lib.Math.abs.name Lib.Math.abs.code 1 (some .int), Cond.fieldLink RX3 18 "StageLines$Loader" "orders" "[I", Cond.methodLink RX3 42 yX3_fillSums, Cond.static yX3_fillSums, Cond.code yX3_fillSums cX3_fillSums 5 none, Cond.fieldLink RX3 66 "StageLines$Pile" "weights" "[I", Cond.methodLink RX3 52 yX3_indexOf, Cond.static yX3_indexOf, Cond.code yX3_indexOf cX3_indexOf 2 (some .int), Cond.methodLink RX3 56 yX3_ordersBehind, Cond.instanceMethod yX3_ordersBehind, Cond.selects RX3 yX3_ordersBehind yX3_ordersBehind, Cond.code yX3_ordersBehind cX3_ordersBehind 5 (some .int), Cond.methodLink RX7 110 yX3_allOrders, Cond.instanceMethod yX3_allOrders, Cond.selects RX3 yX3_allOrders yX3_allOrders, Cond.code yX3_allOrders cX3_allOrders 1 (some .int)]
def wsX7_loadings : List Cond := .code yX7_loadings cX7_loadings 2 (some .int) :: ((wsX7_loadings_r1 ++ wsX7_loadings_r2) ++ wsX70 ++ wsX60 ++ wsX00 ++ wsX50 ++ wsX30)
def wsX7_move_r1 : List Cond := [Cond.fieldLink RX7 12 "StageLines" "stage" "LStageLines$Stage;", Cond.fieldLink RX7 123 "StageLines$Stage" "moveCount" "I", Cond.methodLink RX7 45 yX7_isBar, Cond.static yX7_isBar, Cond.initialized RX7, Cond.code yX7_isBar cX7_isBar 1 (some .boolean), Cond.methodLink RX7 49 yX7_within, Cond.static yX7_within, Cond.code yX7_within cX7_within 3 (some .boolean), Cond.methodLink RX7 119 yX6_moveAt, Cond.instanceMethod yX6_moveAt, Cond.selects RX6 yX6_moveAt yX6_moveAt, Cond.initialized RX6, Cond.code yX6_moveAt cX6_moveAt 4 (some .int), Cond.fieldLink RX6 19 "StageLines$Stage" "moves" "[LStageLines$Move;", Cond.fieldLink RX6 42 "StageLines$Move" "begin" "I", Cond.methodLink RX6 51 yX6_firstMoveFrom, Cond.instanceMethod yX6_firstMoveFrom, Cond.selects RX6 yX6_firstMoveFrom yX6_firstMoveFrom, Cond.code yX6_firstMoveFrom cX6_firstMoveFrom 6 (some .int), Cond.fieldLink RX6 23 "StageLines$Stage" "moveCount" "I", Cond.fieldLink RX6 39 "StageLines$Move" "bar" "I", Cond.methodLink RX7 126 yX6_addMove, Cond.instanceMethod yX6_addMove]
def wsX7_move_r2 : List Cond := [Cond.selects RX6 yX6_addMove yX6_addMove, Cond.code yX6_addMove cX6_addMove 6 (some .int), Cond.fieldLink RX6 45 "StageLines$Move" "target" "I", Cond.fieldLink RX6 48 "StageLines$Move" "pace" "I"]
def wsX7_move : List Cond := .code yX7_move cX7_move 5 (some .int) :: ((wsX7_move_r1 ++ wsX7_move_r2) ++ wsX70 ++ wsX60 ++ wsX40)
def wsX7_isMove : List Cond := .code yX7_isMove cX7_isMove 2 (some .boolean) :: ([.fieldLink RX7 12 "StageLines" "stage" "LStageLines$Stage;", .fieldLink RX7 123 "StageLines$Stage" "moveCount" "I", .methodLink RX7 49 yX7_within, .static yX7_within, .initialized RX7, .code yX7_within cX7_within 3 (some .boolean)] ++ wsX70 ++ wsX60)
def wsX7_drop_r1 : List Cond := [Cond.fieldLink RX7 12 "StageLines" "stage" "LStageLines$Stage;", Cond.fieldLink RX7 123 "StageLines$Stage" "moveCount" "I", Cond.methodLink RX7 130 yX7_isMove, Cond.instanceMethod yX7_isMove, Cond.selects RX7 yX7_isMove yX7_isMove, Cond.initialized RX7, Cond.code yX7_isMove cX7_isMove 2 (some .boolean), Cond.methodLink RX7 49 yX7_within, Cond.static yX7_within, Cond.code yX7_within cX7_within 3 (some .boolean), Cond.methodLink RX7 133 yX6_removeMove, Cond.instanceMethod yX6_removeMove, Cond.selects RX6 yX6_removeMove yX6_removeMove, Cond.initialized RX6, Cond.code yX6_removeMove cX6_removeMove 3 none, Cond.fieldLink RX6 23 "StageLines$Stage" "moveCount" "I", Cond.fieldLink RX6 19 "StageLines$Stage" "moves" "[LStageLines$Move;", Cond.methodLink RX6 36 yX4_copyFrom, Cond.instanceMethod yX4_copyFrom, Cond.selects RX4 yX4_copyFrom yX4_copyFrom, Cond.initialized RX4, Cond.code yX4_copyFrom cX4_copyFrom 2 none, Cond.fieldLink RX4 7 "StageLines$Move" "bar" "I", Cond.fieldLink RX4 13 "StageLines$Move" "begin" "I"]
def wsX7_drop_r2 : List Cond := [Cond.fieldLink RX4 16 "StageLines$Move" "target" "I", Cond.fieldLink RX4 19 "StageLines$Move" "pace" "I"]
def wsX7_drop : List Cond := .code yX7_drop cX7_drop 2 (some .int) :: ((wsX7_drop_r1 ++ wsX7_drop_r2) ++ wsX70 ++ wsX60 ++ wsX40)
def wsX7_shift_r1 : List Cond := [Cond.fieldLink RX7 12 "StageLines" "stage" "LStageLines$Stage;", Cond.fieldLink RX7 136 "StageLines$Stage" "moves" "[LStageLines$Move;", Cond.fieldLink RX7 140 "StageLines$Move" "begin" "I", Cond.fieldLink RX7 145 "StageLines$Move" "bar" "I", Cond.methodLink RX7 130 yX7_isMove, Cond.instanceMethod yX7_isMove, Cond.selects RX7 yX7_isMove yX7_isMove, Cond.initialized RX7, Cond.code yX7_isMove cX7_isMove 2 (some .boolean), Cond.fieldLink RX7 123 "StageLines$Stage" "moveCount" "I", Cond.methodLink RX7 49 yX7_within, Cond.static yX7_within, Cond.code yX7_within cX7_within 3 (some .boolean), Cond.methodLink RX7 119 yX6_moveAt, Cond.instanceMethod yX6_moveAt, Cond.selects RX6 yX6_moveAt yX6_moveAt, Cond.initialized RX6, Cond.code yX6_moveAt cX6_moveAt 4 (some .int), Cond.fieldLink RX6 19 "StageLines$Stage" "moves" "[LStageLines$Move;", Cond.fieldLink RX6 42 "StageLines$Move" "begin" "I", Cond.methodLink RX6 51 yX6_firstMoveFrom, Cond.instanceMethod yX6_firstMoveFrom, Cond.selects RX6 yX6_firstMoveFrom yX6_firstMoveFrom, Cond.code yX6_firstMoveFrom cX6_firstMoveFrom 6 (some .int)]
def wsX7_shift_r2 : List Cond := [Cond.fieldLink RX6 23 "StageLines$Stage" "moveCount" "I", Cond.fieldLink RX6 39 "StageLines$Move" "bar" "I"]
def wsX7_shift : List Cond := .code yX7_shift cX7_shift 6 (some .int) :: ((wsX7_shift_r1 ++ wsX7_shift_r2) ++ wsX70 ++ wsX60 ++ wsX40)
def wsX7_flownBy_r1 : List Cond := [Cond.fieldLink RX7 12 "StageLines" "stage" "LStageLines$Stage;", Cond.fieldLink RX7 136 "StageLines$Stage" "moves" "[LStageLines$Move;", Cond.fieldLink RX7 34 "StageLines" "flight" "LStageLines$Flight;", Cond.fieldLink RX7 145 "StageLines$Move" "bar" "I", Cond.fieldLink RX7 171 "StageLines$Flight" "heights" "[[I", Cond.fieldLink RX7 140 "StageLines$Move" "begin" "I", Cond.fieldLink RX7 148 "StageLines$Move" "target" "I", Cond.methodLink RX7 167 yX2_trace, Cond.instanceMethod yX2_trace, Cond.selects RX2 yX2_trace yX2_trace, Cond.initialized RX2, Cond.code yX2_trace cX2_trace 7 none, Cond.fieldLink RX2 11 "StageLines$Flight" "heights" "[[I", Cond.fieldLink RX2 16 "StageLines$Stage" "bars" "[LStageLines$Bar;", Cond.fieldLink RX2 22 "StageLines$Bar" "settings" "[I", Cond.fieldLink RX2 32 "StageLines$Stage" "moves" "[LStageLines$Move;", Cond.fieldLink RX2 36 "StageLines$Move" "begin" "I", Cond.methodLink RX2 28 yX6_firstMoveFrom, Cond.instanceMethod yX6_firstMoveFrom, Cond.selects RX6 yX6_firstMoveFrom yX6_firstMoveFrom, Cond.initialized RX6, Cond.code yX6_firstMoveFrom cX6_firstMoveFrom 6 (some .int), Cond.fieldLink RX6 23 "StageLines$Stage" "moveCount" "I", Cond.fieldLink RX6 19 "StageLines$Stage" "moves" "[LStageLines$Move;"]
def wsX7_flownBy_r2 : List Cond := [Cond.fieldLink RX6 39 "StageLines$Move" "bar" "I", Cond.fieldLink RX6 42 "StageLines$Move" "begin" "I", Cond.methodLink RX2 42 yX4_stepFrom, Cond.instanceMethod yX4_stepFrom, Cond.selects RX4 yX4_stepFrom yX4_stepFrom, Cond.initialized RX4, Cond.code yX4_stepFrom cX4_stepFrom 2 (some .int), Cond.fieldLink RX4 16 "StageLines$Move" "target" "I", Cond.methodLink RX4 22 Lib.Math.abs.name, Cond.static Lib.Math.abs.name, Cond.initialized "java/lang/Math", Cond.code Lib.Math.abs.name Lib.Math.abs.code 1 (some .int), Cond.fieldLink RX4 19 "StageLines$Move" "pace" "I", Cond.methodLink RX7 220 yX2_endOf, Cond.instanceMethod yX2_endOf, Cond.selects RX2 yX2_endOf yX2_endOf, Cond.code yX2_endOf cX2_endOf 7 (some .int), Cond.fieldLink RX2 50 "StageLines$Move" "bar" "I", Cond.fieldLink RX2 53 "StageLines$Move" "target" "I"]
def wsX7_flownBy : List Cond := .code yX7_flownBy cX7_flownBy 6 (some .int) :: ((wsX7_flownBy_r1 ++ wsX7_flownBy_r2) ++ wsX70 ++ wsX60 ++ wsX40 ++ wsX20 ++ wsX00)
def wsX7_told_r1 : List Cond := [Cond.fieldLink RX7 12 "StageLines" "stage" "LStageLines$Stage;", Cond.fieldLink RX7 136 "StageLines$Stage" "moves" "[LStageLines$Move;", Cond.fieldLink RX7 145 "StageLines$Move" "bar" "I", Cond.fieldLink RX7 140 "StageLines$Move" "begin" "I", Cond.fieldLink RX7 148 "StageLines$Move" "target" "I", Cond.fieldLink RX7 151 "StageLines$Move" "pace" "I", Cond.fieldLink RX7 41 "StageLines" "crewFinder" "LStageLines$CrewFinder;", Cond.fieldLink RX7 34 "StageLines" "flight" "LStageLines$Flight;", Cond.fieldLink RX7 161 "StageLines$CrewFinder" "handOf" "[I", Cond.methodLink RX7 130 yX7_isMove, Cond.instanceMethod yX7_isMove, Cond.selects RX7 yX7_isMove yX7_isMove, Cond.initialized RX7, Cond.code yX7_isMove cX7_isMove 2 (some .boolean), Cond.fieldLink RX7 123 "StageLines$Stage" "moveCount" "I", Cond.methodLink RX7 49 yX7_within, Cond.static yX7_within, Cond.code yX7_within cX7_within 3 (some .boolean), Cond.methodLink RX7 154 yX7_flownBy, Cond.instanceMethod yX7_flownBy, Cond.selects RX7 yX7_flownBy yX7_flownBy, Cond.code yX7_flownBy cX7_flownBy 6 (some .int), Cond.fieldLink RX7 171 "StageLines$Flight" "heights" "[[I", Cond.methodLink RX7 167 yX2_trace]
def wsX7_told_r2 : List Cond := [Cond.instanceMethod yX2_trace, Cond.selects RX2 yX2_trace yX2_trace, Cond.initialized RX2, Cond.code yX2_trace cX2_trace 7 none, Cond.fieldLink RX2 11 "StageLines$Flight" "heights" "[[I", Cond.fieldLink RX2 16 "StageLines$Stage" "bars" "[LStageLines$Bar;", Cond.fieldLink RX2 22 "StageLines$Bar" "settings" "[I", Cond.fieldLink RX2 32 "StageLines$Stage" "moves" "[LStageLines$Move;", Cond.fieldLink RX2 36 "StageLines$Move" "begin" "I", Cond.methodLink RX2 28 yX6_firstMoveFrom, Cond.instanceMethod yX6_firstMoveFrom, Cond.selects RX6 yX6_firstMoveFrom yX6_firstMoveFrom, Cond.initialized RX6, Cond.code yX6_firstMoveFrom cX6_firstMoveFrom 6 (some .int), Cond.fieldLink RX6 23 "StageLines$Stage" "moveCount" "I", Cond.fieldLink RX6 19 "StageLines$Stage" "moves" "[LStageLines$Move;", Cond.fieldLink RX6 39 "StageLines$Move" "bar" "I", Cond.fieldLink RX6 42 "StageLines$Move" "begin" "I", Cond.methodLink RX2 42 yX4_stepFrom, Cond.instanceMethod yX4_stepFrom, Cond.selects RX4 yX4_stepFrom yX4_stepFrom, Cond.initialized RX4, Cond.code yX4_stepFrom cX4_stepFrom 2 (some .int), Cond.fieldLink RX4 16 "StageLines$Move" "target" "I"]
def wsX7_told_r3 : List Cond := [Cond.methodLink RX4 22 Lib.Math.abs.name, Cond.static Lib.Math.abs.name, Cond.initialized "java/lang/Math", Cond.code Lib.Math.abs.name Lib.Math.abs.code 1 (some .int), Cond.fieldLink RX4 19 "StageLines$Move" "pace" "I", Cond.methodLink RX7 220 yX2_endOf, Cond.instanceMethod yX2_endOf, Cond.selects RX2 yX2_endOf yX2_endOf, Cond.code yX2_endOf cX2_endOf 7 (some .int), Cond.fieldLink RX2 50 "StageLines$Move" "bar" "I", Cond.fieldLink RX2 53 "StageLines$Move" "target" "I", Cond.methodLink RX7 157 yX1_gather, Cond.instanceMethod yX1_gather, Cond.selects RX1 yX1_gather yX1_gather, Cond.initialized RX1, Cond.code yX1_gather cX1_gather 4 none, Cond.fieldLink RX1 35 "StageLines$Stage" "moveCount" "I", Cond.fieldLink RX1 32 "StageLines$CrewFinder" "size" "I", Cond.fieldLink RX1 19 "StageLines$CrewFinder" "doable" "[Z", Cond.fieldLink RX1 23 "StageLines$CrewFinder" "ends" "[I", Cond.fieldLink RX1 26 "StageLines$CrewFinder" "foes" "[I", Cond.fieldLink RX1 29 "StageLines$CrewFinder" "doneBy" "[I", Cond.fieldLink RX1 9 "StageLines$CrewFinder" "least" "I", Cond.methodLink RX1 40 yX2_traceAll]
def wsX7_told_r4 : List Cond := [Cond.instanceMethod yX2_traceAll, Cond.selects RX2 yX2_traceAll yX2_traceAll, Cond.code yX2_traceAll cX2_traceAll 3 none, Cond.methodLink RX2 46 yX2_trace, Cond.methodLink RX1 46 yX6_isDoable, Cond.instanceMethod yX6_isDoable, Cond.selects RX6 yX6_isDoable yX6_isDoable, Cond.code yX6_isDoable cX6_isDoable 2 (some .boolean), Cond.fieldLink RX6 11 "StageLines$Stage" "bars" "[LStageLines$Bar;", Cond.fieldLink RX6 27 "StageLines$Stage" "sway" "I", Cond.methodLink RX6 65 yX0_isEven, Cond.instanceMethod yX0_isEven, Cond.selects RX0 yX0_isEven yX0_isEven, Cond.initialized RX0, Cond.code yX0_isEven cX0_isEven 2 (some .boolean), Cond.fieldLink RX0 18 "StageLines$Bar" "pieces" "LStageLines$Pile;", Cond.fieldLink RX0 22 "StageLines$Bar" "bricks" "LStageLines$Pile;", Cond.methodLink RX0 29 Lib.Math.abs.name, Cond.methodLink RX0 25 yX5_total, Cond.instanceMethod yX5_total, Cond.selects RX5 yX5_total yX5_total, Cond.initialized RX5, Cond.code yX5_total cX5_total 3 (some .int), Cond.fieldLink RX5 15 "StageLines$Pile" "size" "I"]
def wsX7_told_r5 : List Cond := [Cond.fieldLink RX5 9 "StageLines$Pile" "weights" "[I", Cond.methodLink RX1 50 yX2_endOf, Cond.methodLink RX1 54 yX1_foesOf, Cond.instanceMethod yX1_foesOf, Cond.selects RX1 yX1_foesOf yX1_foesOf, Cond.code yX1_foesOf cX1_foesOf 5 (some .int), Cond.methodLink RX1 87 yX1_reaches, Cond.instanceMethod yX1_reaches, Cond.selects RX1 yX1_reaches yX1_reaches, Cond.code yX1_reaches cX1_reaches 5 (some .boolean), Cond.fieldLink RX1 66 "StageLines$Stage" "moves" "[LStageLines$Move;", Cond.fieldLink RX1 91 "StageLines$Move" "bar" "I", Cond.methodLink RX1 94 Lib.Math.abs.name, Cond.fieldLink RX1 70 "StageLines$Move" "begin" "I", Cond.methodLink RX1 57 yJ7_fill_53178, Cond.static yJ7_fill_53178, Cond.initialized RJ7, Cond.code yJ7_fill_53178 cJ7_fill_53178 4 none, Cond.methodLink RX1 63 yX1_giveFrom, Cond.instanceMethod yX1_giveFrom, Cond.selects RX1 yX1_giveFrom yX1_giveFrom, Cond.code yX1_giveFrom cX1_giveFrom 4 (some .boolean), Cond.fieldLink RX1 15 "StageLines$CrewFinder" "handOf" "[I"]
def wsX7_told : List Cond := .code yX7_told cX7_told 4 (some .int) :: ((wsX7_told_r1 ++ (wsX7_told_r2 ++ (wsX7_told_r3 ++ (wsX7_told_r4 ++ wsX7_told_r5)))) ++ wsX70 ++ wsX60 ++ wsX40 ++ wsX10 ++ wsX20 ++ wsX00 ++ wsX50)
def wsX7_isTime : List Cond := .code yX7_isTime cX7_isTime 1 (some .boolean) :: ([.methodLink RX7 49 yX7_within, .static yX7_within, .initialized RX7, .code yX7_within cX7_within 3 (some .boolean)])
def wsX7_height_r1 : List Cond := [Cond.fieldLink RX7 34 "StageLines" "flight" "LStageLines$Flight;", Cond.fieldLink RX7 12 "StageLines" "stage" "LStageLines$Stage;", Cond.fieldLink RX7 171 "StageLines$Flight" "heights" "[[I", Cond.methodLink RX7 45 yX7_isBar, Cond.static yX7_isBar, Cond.initialized RX7, Cond.code yX7_isBar cX7_isBar 1 (some .boolean), Cond.methodLink RX7 49 yX7_within, Cond.static yX7_within, Cond.code yX7_within cX7_within 3 (some .boolean), Cond.methodLink RX7 164 yX7_isTime, Cond.static yX7_isTime, Cond.code yX7_isTime cX7_isTime 1 (some .boolean), Cond.methodLink RX7 167 yX2_trace, Cond.instanceMethod yX2_trace, Cond.selects RX2 yX2_trace yX2_trace, Cond.initialized RX2, Cond.code yX2_trace cX2_trace 7 none, Cond.fieldLink RX2 11 "StageLines$Flight" "heights" "[[I", Cond.fieldLink RX2 16 "StageLines$Stage" "bars" "[LStageLines$Bar;", Cond.fieldLink RX2 22 "StageLines$Bar" "settings" "[I", Cond.fieldLink RX2 32 "StageLines$Stage" "moves" "[LStageLines$Move;", Cond.fieldLink RX2 36 "StageLines$Move" "begin" "I", Cond.methodLink RX2 28 yX6_firstMoveFrom]
def wsX7_height_r2 : List Cond := [Cond.instanceMethod yX6_firstMoveFrom, Cond.selects RX6 yX6_firstMoveFrom yX6_firstMoveFrom, Cond.initialized RX6, Cond.code yX6_firstMoveFrom cX6_firstMoveFrom 6 (some .int), Cond.fieldLink RX6 23 "StageLines$Stage" "moveCount" "I", Cond.fieldLink RX6 19 "StageLines$Stage" "moves" "[LStageLines$Move;", Cond.fieldLink RX6 39 "StageLines$Move" "bar" "I", Cond.fieldLink RX6 42 "StageLines$Move" "begin" "I", Cond.methodLink RX2 42 yX4_stepFrom, Cond.instanceMethod yX4_stepFrom, Cond.selects RX4 yX4_stepFrom yX4_stepFrom, Cond.initialized RX4, Cond.code yX4_stepFrom cX4_stepFrom 2 (some .int), Cond.fieldLink RX4 16 "StageLines$Move" "target" "I", Cond.methodLink RX4 22 Lib.Math.abs.name, Cond.static Lib.Math.abs.name, Cond.initialized "java/lang/Math", Cond.code Lib.Math.abs.name Lib.Math.abs.code 1 (some .int), Cond.fieldLink RX4 19 "StageLines$Move" "pace" "I"]
def wsX7_height : List Cond := .code yX7_height cX7_height 3 (some .int) :: ((wsX7_height_r1 ++ wsX7_height_r2) ++ wsX70 ++ wsX20 ++ wsX60 ++ wsX00 ++ wsX40)
def wsX7_strike_r1 : List Cond := [Cond.fieldLink RX7 34 "StageLines" "flight" "LStageLines$Flight;", Cond.fieldLink RX7 12 "StageLines" "stage" "LStageLines$Stage;", Cond.methodLink RX7 45 yX7_isBar, Cond.static yX7_isBar, Cond.initialized RX7, Cond.code yX7_isBar cX7_isBar 1 (some .boolean), Cond.methodLink RX7 49 yX7_within, Cond.static yX7_within, Cond.code yX7_within cX7_within 3 (some .boolean), Cond.methodLink RX7 164 yX7_isTime, Cond.static yX7_isTime, Cond.code yX7_isTime cX7_isTime 1 (some .boolean), Cond.methodLink RX7 167 yX2_trace, Cond.instanceMethod yX2_trace, Cond.selects RX2 yX2_trace yX2_trace, Cond.initialized RX2, Cond.code yX2_trace cX2_trace 7 none, Cond.fieldLink RX2 11 "StageLines$Flight" "heights" "[[I", Cond.fieldLink RX2 16 "StageLines$Stage" "bars" "[LStageLines$Bar;", Cond.fieldLink RX2 22 "StageLines$Bar" "settings" "[I", Cond.fieldLink RX2 32 "StageLines$Stage" "moves" "[LStageLines$Move;", Cond.fieldLink RX2 36 "StageLines$Move" "begin" "I", Cond.methodLink RX2 28 yX6_firstMoveFrom, Cond.instanceMethod yX6_firstMoveFrom]
def wsX7_strike_r2 : List Cond := [Cond.selects RX6 yX6_firstMoveFrom yX6_firstMoveFrom, Cond.initialized RX6, Cond.code yX6_firstMoveFrom cX6_firstMoveFrom 6 (some .int), Cond.fieldLink RX6 23 "StageLines$Stage" "moveCount" "I", Cond.fieldLink RX6 19 "StageLines$Stage" "moves" "[LStageLines$Move;", Cond.fieldLink RX6 39 "StageLines$Move" "bar" "I", Cond.fieldLink RX6 42 "StageLines$Move" "begin" "I", Cond.methodLink RX2 42 yX4_stepFrom, Cond.instanceMethod yX4_stepFrom, Cond.selects RX4 yX4_stepFrom yX4_stepFrom, Cond.initialized RX4, Cond.code yX4_stepFrom cX4_stepFrom 2 (some .int), Cond.fieldLink RX4 16 "StageLines$Move" "target" "I", Cond.methodLink RX4 22 Lib.Math.abs.name, Cond.static Lib.Math.abs.name, Cond.initialized "java/lang/Math", Cond.code Lib.Math.abs.name Lib.Math.abs.code 1 (some .int), Cond.fieldLink RX4 19 "StageLines$Move" "pace" "I", Cond.methodLink RX7 175 yX2_canStrike, Cond.instanceMethod yX2_canStrike, Cond.selects RX2 yX2_canStrike yX2_canStrike, Cond.code yX2_canStrike cX2_canStrike 5 (some .boolean), Cond.methodLink RX2 56 yX6_areNear, Cond.instanceMethod yX6_areNear]
def wsX7_strike_r3 : List Cond := [Cond.selects RX6 yX6_areNear yX6_areNear, Cond.code yX6_areNear cX6_areNear 3 (some .boolean), Cond.methodLink RX6 55 Lib.Math.abs.name, Cond.fieldLink RX6 11 "StageLines$Stage" "bars" "[LStageLines$Bar;", Cond.fieldLink RX6 61 "StageLines$Bar" "settings" "[I", Cond.methodLink RX7 179 yX2_overlap, Cond.instanceMethod yX2_overlap, Cond.selects RX2 yX2_overlap yX2_overlap, Cond.code yX2_overlap cX2_overlap 9 (some .boolean), Cond.methodLink RX2 60 Lib.Math.max.name, Cond.static Lib.Math.max.name, Cond.code Lib.Math.max.name Lib.Math.max.code 2 (some .int), Cond.methodLink RX2 65 Lib.Math.min.name, Cond.static Lib.Math.min.name, Cond.code Lib.Math.min.name Lib.Math.min.code 2 (some .int)]
def wsX7_strike : List Cond := .code yX7_strike cX7_strike 4 (some .int) :: ((wsX7_strike_r1 ++ (wsX7_strike_r2 ++ wsX7_strike_r3)) ++ wsX70 ++ wsX20 ++ wsX60 ++ wsX00 ++ wsX40)
def wsX7_clash_r1 : List Cond := [Cond.fieldLink RX7 34 "StageLines" "flight" "LStageLines$Flight;", Cond.fieldLink RX7 12 "StageLines" "stage" "LStageLines$Stage;", Cond.methodLink RX7 164 yX7_isTime, Cond.static yX7_isTime, Cond.initialized RX7, Cond.code yX7_isTime cX7_isTime 1 (some .boolean), Cond.methodLink RX7 49 yX7_within, Cond.static yX7_within, Cond.code yX7_within cX7_within 3 (some .boolean), Cond.methodLink RX7 183 yX2_traceAll, Cond.instanceMethod yX2_traceAll, Cond.selects RX2 yX2_traceAll yX2_traceAll, Cond.initialized RX2, Cond.code yX2_traceAll cX2_traceAll 3 none, Cond.methodLink RX2 46 yX2_trace, Cond.instanceMethod yX2_trace, Cond.selects RX2 yX2_trace yX2_trace, Cond.code yX2_trace cX2_trace 7 none, Cond.fieldLink RX2 11 "StageLines$Flight" "heights" "[[I", Cond.fieldLink RX2 16 "StageLines$Stage" "bars" "[LStageLines$Bar;", Cond.fieldLink RX2 22 "StageLines$Bar" "settings" "[I", Cond.fieldLink RX2 32 "StageLines$Stage" "moves" "[LStageLines$Move;", Cond.fieldLink RX2 36 "StageLines$Move" "begin" "I", Cond.methodLink RX2 28 yX6_firstMoveFrom]
def wsX7_clash_r2 : List Cond := [Cond.instanceMethod yX6_firstMoveFrom, Cond.selects RX6 yX6_firstMoveFrom yX6_firstMoveFrom, Cond.initialized RX6, Cond.code yX6_firstMoveFrom cX6_firstMoveFrom 6 (some .int), Cond.fieldLink RX6 23 "StageLines$Stage" "moveCount" "I", Cond.fieldLink RX6 19 "StageLines$Stage" "moves" "[LStageLines$Move;", Cond.fieldLink RX6 39 "StageLines$Move" "bar" "I", Cond.fieldLink RX6 42 "StageLines$Move" "begin" "I", Cond.methodLink RX2 42 yX4_stepFrom, Cond.instanceMethod yX4_stepFrom, Cond.selects RX4 yX4_stepFrom yX4_stepFrom, Cond.initialized RX4, Cond.code yX4_stepFrom cX4_stepFrom 2 (some .int), Cond.fieldLink RX4 16 "StageLines$Move" "target" "I", Cond.methodLink RX4 22 Lib.Math.abs.name, Cond.static Lib.Math.abs.name, Cond.initialized "java/lang/Math", Cond.code Lib.Math.abs.name Lib.Math.abs.code 1 (some .int), Cond.fieldLink RX4 19 "StageLines$Move" "pace" "I", Cond.methodLink RX7 187 yX2_firstStrike, Cond.instanceMethod yX2_firstStrike, Cond.selects RX2 yX2_firstStrike yX2_firstStrike, Cond.code yX2_firstStrike cX2_firstStrike 7 (some .int), Cond.methodLink RX2 68 yX2_canStrike]
def wsX7_clash_r3 : List Cond := [Cond.instanceMethod yX2_canStrike, Cond.selects RX2 yX2_canStrike yX2_canStrike, Cond.code yX2_canStrike cX2_canStrike 5 (some .boolean), Cond.methodLink RX2 56 yX6_areNear, Cond.instanceMethod yX6_areNear, Cond.selects RX6 yX6_areNear yX6_areNear, Cond.code yX6_areNear cX6_areNear 3 (some .boolean), Cond.methodLink RX6 55 Lib.Math.abs.name, Cond.fieldLink RX6 11 "StageLines$Stage" "bars" "[LStageLines$Bar;", Cond.fieldLink RX6 61 "StageLines$Bar" "settings" "[I", Cond.methodLink RX2 72 yX2_overlap, Cond.instanceMethod yX2_overlap, Cond.selects RX2 yX2_overlap yX2_overlap, Cond.code yX2_overlap cX2_overlap 9 (some .boolean), Cond.methodLink RX2 60 Lib.Math.max.name, Cond.static Lib.Math.max.name, Cond.code Lib.Math.max.name Lib.Math.max.code 2 (some .int), Cond.methodLink RX2 65 Lib.Math.min.name, Cond.static Lib.Math.min.name, Cond.code Lib.Math.min.name Lib.Math.min.code 2 (some .int)]
def wsX7_clash : List Cond := .code yX7_clash cX7_clash 9 (some .int) :: ((wsX7_clash_r1 ++ (wsX7_clash_r2 ++ wsX7_clash_r3)) ++ wsX70 ++ wsX20 ++ wsX60 ++ wsX00 ++ wsX40)
def wsX7_often_r1 : List Cond := [Cond.fieldLink RX7 34 "StageLines" "flight" "LStageLines$Flight;", Cond.fieldLink RX7 12 "StageLines" "stage" "LStageLines$Stage;", Cond.methodLink RX7 45 yX7_isBar, Cond.static yX7_isBar, Cond.initialized RX7, Cond.code yX7_isBar cX7_isBar 1 (some .boolean), Cond.methodLink RX7 49 yX7_within, Cond.static yX7_within, Cond.code yX7_within cX7_within 3 (some .boolean), Cond.methodLink RX7 167 yX2_trace, Cond.instanceMethod yX2_trace, Cond.selects RX2 yX2_trace yX2_trace, Cond.initialized RX2, Cond.code yX2_trace cX2_trace 7 none, Cond.fieldLink RX2 11 "StageLines$Flight" "heights" "[[I", Cond.fieldLink RX2 16 "StageLines$Stage" "bars" "[LStageLines$Bar;", Cond.fieldLink RX2 22 "StageLines$Bar" "settings" "[I", Cond.fieldLink RX2 32 "StageLines$Stage" "moves" "[LStageLines$Move;", Cond.fieldLink RX2 36 "StageLines$Move" "begin" "I", Cond.methodLink RX2 28 yX6_firstMoveFrom, Cond.instanceMethod yX6_firstMoveFrom, Cond.selects RX6 yX6_firstMoveFrom yX6_firstMoveFrom, Cond.initialized RX6, Cond.code yX6_firstMoveFrom cX6_firstMoveFrom 6 (some .int)]
def wsX7_often_r2 : List Cond := [Cond.fieldLink RX6 23 "StageLines$Stage" "moveCount" "I", Cond.fieldLink RX6 19 "StageLines$Stage" "moves" "[LStageLines$Move;", Cond.fieldLink RX6 39 "StageLines$Move" "bar" "I", Cond.fieldLink RX6 42 "StageLines$Move" "begin" "I", Cond.methodLink RX2 42 yX4_stepFrom, Cond.instanceMethod yX4_stepFrom, Cond.selects RX4 yX4_stepFrom yX4_stepFrom, Cond.initialized RX4, Cond.code yX4_stepFrom cX4_stepFrom 2 (some .int), Cond.fieldLink RX4 16 "StageLines$Move" "target" "I", Cond.methodLink RX4 22 Lib.Math.abs.name, Cond.static Lib.Math.abs.name, Cond.initialized "java/lang/Math", Cond.code Lib.Math.abs.name Lib.Math.abs.code 1 (some .int), Cond.fieldLink RX4 19 "StageLines$Move" "pace" "I", Cond.methodLink RX7 191 yX2_strikesOf, Cond.instanceMethod yX2_strikesOf, Cond.selects RX2 yX2_strikesOf yX2_strikesOf, Cond.code yX2_strikesOf cX2_strikesOf 6 (some .int), Cond.methodLink RX2 68 yX2_canStrike, Cond.instanceMethod yX2_canStrike, Cond.selects RX2 yX2_canStrike yX2_canStrike, Cond.code yX2_canStrike cX2_canStrike 5 (some .boolean), Cond.methodLink RX2 56 yX6_areNear]
def wsX7_often_r3 : List Cond := [Cond.instanceMethod yX6_areNear, Cond.selects RX6 yX6_areNear yX6_areNear, Cond.code yX6_areNear cX6_areNear 3 (some .boolean), Cond.methodLink RX6 55 Lib.Math.abs.name, Cond.fieldLink RX6 11 "StageLines$Stage" "bars" "[LStageLines$Bar;", Cond.fieldLink RX6 61 "StageLines$Bar" "settings" "[I", Cond.methodLink RX2 72 yX2_overlap, Cond.instanceMethod yX2_overlap, Cond.selects RX2 yX2_overlap yX2_overlap, Cond.code yX2_overlap cX2_overlap 9 (some .boolean), Cond.methodLink RX2 60 Lib.Math.max.name, Cond.static Lib.Math.max.name, Cond.code Lib.Math.max.name Lib.Math.max.code 2 (some .int), Cond.methodLink RX2 65 Lib.Math.min.name, Cond.static Lib.Math.min.name, Cond.code Lib.Math.min.name Lib.Math.min.code 2 (some .int)]
def wsX7_often : List Cond := .code yX7_often cX7_often 3 (some .int) :: ((wsX7_often_r1 ++ (wsX7_often_r2 ++ wsX7_often_r3)) ++ wsX70 ++ wsX20 ++ wsX60 ++ wsX00 ++ wsX40)
def wsX7_hands_r1 : List Cond := [Cond.fieldLink RX7 41 "StageLines" "crewFinder" "LStageLines$CrewFinder;", Cond.fieldLink RX7 12 "StageLines" "stage" "LStageLines$Stage;", Cond.fieldLink RX7 34 "StageLines" "flight" "LStageLines$Flight;", Cond.fieldLink RX7 195 "StageLines$CrewFinder" "least" "I", Cond.methodLink RX7 49 yX7_within, Cond.static yX7_within, Cond.initialized RX7, Cond.code yX7_within cX7_within 3 (some .boolean), Cond.methodLink RX7 157 yX1_gather, Cond.instanceMethod yX1_gather, Cond.selects RX1 yX1_gather yX1_gather, Cond.initialized RX1, Cond.code yX1_gather cX1_gather 4 none, Cond.fieldLink RX1 35 "StageLines$Stage" "moveCount" "I", Cond.fieldLink RX1 32 "StageLines$CrewFinder" "size" "I", Cond.fieldLink RX1 19 "StageLines$CrewFinder" "doable" "[Z", Cond.fieldLink RX1 23 "StageLines$CrewFinder" "ends" "[I", Cond.fieldLink RX1 26 "StageLines$CrewFinder" "foes" "[I", Cond.fieldLink RX1 29 "StageLines$CrewFinder" "doneBy" "[I", Cond.fieldLink RX1 9 "StageLines$CrewFinder" "least" "I", Cond.methodLink RX1 40 yX2_traceAll, Cond.instanceMethod yX2_traceAll, Cond.selects RX2 yX2_traceAll yX2_traceAll, Cond.initialized RX2]
def wsX7_hands_r2 : List Cond := [Cond.code yX2_traceAll cX2_traceAll 3 none, Cond.methodLink RX2 46 yX2_trace, Cond.instanceMethod yX2_trace, Cond.selects RX2 yX2_trace yX2_trace, Cond.code yX2_trace cX2_trace 7 none, Cond.fieldLink RX2 11 "StageLines$Flight" "heights" "[[I", Cond.fieldLink RX2 16 "StageLines$Stage" "bars" "[LStageLines$Bar;", Cond.fieldLink RX2 22 "StageLines$Bar" "settings" "[I", Cond.fieldLink RX2 32 "StageLines$Stage" "moves" "[LStageLines$Move;", Cond.fieldLink RX2 36 "StageLines$Move" "begin" "I", Cond.methodLink RX2 28 yX6_firstMoveFrom, Cond.instanceMethod yX6_firstMoveFrom, Cond.selects RX6 yX6_firstMoveFrom yX6_firstMoveFrom, Cond.initialized RX6, Cond.code yX6_firstMoveFrom cX6_firstMoveFrom 6 (some .int), Cond.fieldLink RX6 23 "StageLines$Stage" "moveCount" "I", Cond.fieldLink RX6 19 "StageLines$Stage" "moves" "[LStageLines$Move;", Cond.fieldLink RX6 39 "StageLines$Move" "bar" "I", Cond.fieldLink RX6 42 "StageLines$Move" "begin" "I", Cond.methodLink RX2 42 yX4_stepFrom, Cond.instanceMethod yX4_stepFrom, Cond.selects RX4 yX4_stepFrom yX4_stepFrom, Cond.initialized RX4, Cond.code yX4_stepFrom cX4_stepFrom 2 (some .int)]
def wsX7_hands_r3 : List Cond := [Cond.fieldLink RX4 16 "StageLines$Move" "target" "I", Cond.methodLink RX4 22 Lib.Math.abs.name, Cond.static Lib.Math.abs.name, Cond.initialized "java/lang/Math", Cond.code Lib.Math.abs.name Lib.Math.abs.code 1 (some .int), Cond.fieldLink RX4 19 "StageLines$Move" "pace" "I", Cond.methodLink RX1 46 yX6_isDoable, Cond.instanceMethod yX6_isDoable, Cond.selects RX6 yX6_isDoable yX6_isDoable, Cond.code yX6_isDoable cX6_isDoable 2 (some .boolean), Cond.fieldLink RX6 11 "StageLines$Stage" "bars" "[LStageLines$Bar;", Cond.fieldLink RX6 27 "StageLines$Stage" "sway" "I", Cond.methodLink RX6 65 yX0_isEven, Cond.instanceMethod yX0_isEven, Cond.selects RX0 yX0_isEven yX0_isEven, Cond.initialized RX0, Cond.code yX0_isEven cX0_isEven 2 (some .boolean), Cond.fieldLink RX0 18 "StageLines$Bar" "pieces" "LStageLines$Pile;", Cond.fieldLink RX0 22 "StageLines$Bar" "bricks" "LStageLines$Pile;", Cond.methodLink RX0 29 Lib.Math.abs.name, Cond.methodLink RX0 25 yX5_total, Cond.instanceMethod yX5_total, Cond.selects RX5 yX5_total yX5_total, Cond.initialized RX5]
def wsX7_hands_r4 : List Cond := [Cond.code yX5_total cX5_total 3 (some .int), Cond.fieldLink RX5 15 "StageLines$Pile" "size" "I", Cond.fieldLink RX5 9 "StageLines$Pile" "weights" "[I", Cond.methodLink RX1 50 yX2_endOf, Cond.instanceMethod yX2_endOf, Cond.selects RX2 yX2_endOf yX2_endOf, Cond.code yX2_endOf cX2_endOf 7 (some .int), Cond.fieldLink RX2 50 "StageLines$Move" "bar" "I", Cond.fieldLink RX2 53 "StageLines$Move" "target" "I", Cond.methodLink RX1 54 yX1_foesOf, Cond.instanceMethod yX1_foesOf, Cond.selects RX1 yX1_foesOf yX1_foesOf, Cond.code yX1_foesOf cX1_foesOf 5 (some .int), Cond.methodLink RX1 87 yX1_reaches, Cond.instanceMethod yX1_reaches, Cond.selects RX1 yX1_reaches yX1_reaches, Cond.code yX1_reaches cX1_reaches 5 (some .boolean), Cond.fieldLink RX1 66 "StageLines$Stage" "moves" "[LStageLines$Move;", Cond.fieldLink RX1 91 "StageLines$Move" "bar" "I", Cond.methodLink RX1 94 Lib.Math.abs.name, Cond.fieldLink RX1 70 "StageLines$Move" "begin" "I", Cond.methodLink RX1 57 yJ7_fill_53178, Cond.static yJ7_fill_53178, Cond.initialized RJ7]
def wsX7_hands_r5 : List Cond := [Cond.code yJ7_fill_53178 cJ7_fill_53178 4 none, Cond.methodLink RX1 63 yX1_giveFrom, Cond.instanceMethod yX1_giveFrom, Cond.selects RX1 yX1_giveFrom yX1_giveFrom, Cond.code yX1_giveFrom cX1_giveFrom 4 (some .boolean), Cond.fieldLink RX1 15 "StageLines$CrewFinder" "handOf" "[I", Cond.methodLink RX7 198 yX1_doableCount, Cond.instanceMethod yX1_doableCount, Cond.selects RX1 yX1_doableCount yX1_doableCount, Cond.code yX1_doableCount cX1_doableCount 3 (some .int), Cond.methodLink RX7 201 yX1_mostAtOnce, Cond.instanceMethod yX1_mostAtOnce, Cond.selects RX1 yX1_mostAtOnce yX1_mostAtOnce, Cond.code yX1_mostAtOnce cX1_mostAtOnce 4 (some .int), Cond.methodLink RX1 78 Lib.Math.max.name, Cond.static Lib.Math.max.name, Cond.code Lib.Math.max.name Lib.Math.max.code 2 (some .int), Cond.methodLink RX1 75 yX1_doneAt, Cond.instanceMethod yX1_doneAt, Cond.selects RX1 yX1_doneAt yX1_doneAt, Cond.code yX1_doneAt cX1_doneAt 5 (some .int)]
def wsX7_hands : List Cond := .code yX7_hands cX7_hands 2 (some .int) :: ((wsX7_hands_r1 ++ (wsX7_hands_r2 ++ (wsX7_hands_r3 ++ (wsX7_hands_r4 ++ wsX7_hands_r5)))) ++ wsX70 ++ wsX10 ++ wsX60 ++ wsX20 ++ wsX00 ++ wsX40 ++ wsX50)
def wsX7_crew_r1 : List Cond := [Cond.fieldLink RX7 41 "StageLines" "crewFinder" "LStageLines$CrewFinder;", Cond.fieldLink RX7 12 "StageLines" "stage" "LStageLines$Stage;", Cond.fieldLink RX7 34 "StageLines" "flight" "LStageLines$Flight;", Cond.methodLink RX7 49 yX7_within, Cond.static yX7_within, Cond.initialized RX7, Cond.code yX7_within cX7_within 3 (some .boolean), Cond.methodLink RX7 157 yX1_gather, Cond.instanceMethod yX1_gather, Cond.selects RX1 yX1_gather yX1_gather, Cond.initialized RX1, Cond.code yX1_gather cX1_gather 4 none, Cond.fieldLink RX1 35 "StageLines$Stage" "moveCount" "I", Cond.fieldLink RX1 32 "StageLines$CrewFinder" "size" "I", Cond.fieldLink RX1 19 "StageLines$CrewFinder" "doable" "[Z", Cond.fieldLink RX1 23 "StageLines$CrewFinder" "ends" "[I", Cond.fieldLink RX1 26 "StageLines$CrewFinder" "foes" "[I", Cond.fieldLink RX1 29 "StageLines$CrewFinder" "doneBy" "[I", Cond.fieldLink RX1 9 "StageLines$CrewFinder" "least" "I", Cond.methodLink RX1 40 yX2_traceAll, Cond.instanceMethod yX2_traceAll, Cond.selects RX2 yX2_traceAll yX2_traceAll, Cond.initialized RX2, Cond.code yX2_traceAll cX2_traceAll 3 none]
def wsX7_crew_r2 : List Cond := [Cond.methodLink RX2 46 yX2_trace, Cond.instanceMethod yX2_trace, Cond.selects RX2 yX2_trace yX2_trace, Cond.code yX2_trace cX2_trace 7 none, Cond.fieldLink RX2 11 "StageLines$Flight" "heights" "[[I", Cond.fieldLink RX2 16 "StageLines$Stage" "bars" "[LStageLines$Bar;", Cond.fieldLink RX2 22 "StageLines$Bar" "settings" "[I", Cond.fieldLink RX2 32 "StageLines$Stage" "moves" "[LStageLines$Move;", Cond.fieldLink RX2 36 "StageLines$Move" "begin" "I", Cond.methodLink RX2 28 yX6_firstMoveFrom, Cond.instanceMethod yX6_firstMoveFrom, Cond.selects RX6 yX6_firstMoveFrom yX6_firstMoveFrom, Cond.initialized RX6, Cond.code yX6_firstMoveFrom cX6_firstMoveFrom 6 (some .int), Cond.fieldLink RX6 23 "StageLines$Stage" "moveCount" "I", Cond.fieldLink RX6 19 "StageLines$Stage" "moves" "[LStageLines$Move;", Cond.fieldLink RX6 39 "StageLines$Move" "bar" "I", Cond.fieldLink RX6 42 "StageLines$Move" "begin" "I", Cond.methodLink RX2 42 yX4_stepFrom, Cond.instanceMethod yX4_stepFrom, Cond.selects RX4 yX4_stepFrom yX4_stepFrom, Cond.initialized RX4, Cond.code yX4_stepFrom cX4_stepFrom 2 (some .int), Cond.fieldLink RX4 16 "StageLines$Move" "target" "I"]
def wsX7_crew_r3 : List Cond := [Cond.methodLink RX4 22 Lib.Math.abs.name, Cond.static Lib.Math.abs.name, Cond.initialized "java/lang/Math", Cond.code Lib.Math.abs.name Lib.Math.abs.code 1 (some .int), Cond.fieldLink RX4 19 "StageLines$Move" "pace" "I", Cond.methodLink RX1 46 yX6_isDoable, Cond.instanceMethod yX6_isDoable, Cond.selects RX6 yX6_isDoable yX6_isDoable, Cond.code yX6_isDoable cX6_isDoable 2 (some .boolean), Cond.fieldLink RX6 11 "StageLines$Stage" "bars" "[LStageLines$Bar;", Cond.fieldLink RX6 27 "StageLines$Stage" "sway" "I", Cond.methodLink RX6 65 yX0_isEven, Cond.instanceMethod yX0_isEven, Cond.selects RX0 yX0_isEven yX0_isEven, Cond.initialized RX0, Cond.code yX0_isEven cX0_isEven 2 (some .boolean), Cond.fieldLink RX0 18 "StageLines$Bar" "pieces" "LStageLines$Pile;", Cond.fieldLink RX0 22 "StageLines$Bar" "bricks" "LStageLines$Pile;", Cond.methodLink RX0 29 Lib.Math.abs.name, Cond.methodLink RX0 25 yX5_total, Cond.instanceMethod yX5_total, Cond.selects RX5 yX5_total yX5_total, Cond.initialized RX5, Cond.code yX5_total cX5_total 3 (some .int)]
def wsX7_crew_r4 : List Cond := [Cond.fieldLink RX5 15 "StageLines$Pile" "size" "I", Cond.fieldLink RX5 9 "StageLines$Pile" "weights" "[I", Cond.methodLink RX1 50 yX2_endOf, Cond.instanceMethod yX2_endOf, Cond.selects RX2 yX2_endOf yX2_endOf, Cond.code yX2_endOf cX2_endOf 7 (some .int), Cond.fieldLink RX2 50 "StageLines$Move" "bar" "I", Cond.fieldLink RX2 53 "StageLines$Move" "target" "I", Cond.methodLink RX1 54 yX1_foesOf, Cond.instanceMethod yX1_foesOf, Cond.selects RX1 yX1_foesOf yX1_foesOf, Cond.code yX1_foesOf cX1_foesOf 5 (some .int), Cond.methodLink RX1 87 yX1_reaches, Cond.instanceMethod yX1_reaches, Cond.selects RX1 yX1_reaches yX1_reaches, Cond.code yX1_reaches cX1_reaches 5 (some .boolean), Cond.fieldLink RX1 66 "StageLines$Stage" "moves" "[LStageLines$Move;", Cond.fieldLink RX1 91 "StageLines$Move" "bar" "I", Cond.methodLink RX1 94 Lib.Math.abs.name, Cond.fieldLink RX1 70 "StageLines$Move" "begin" "I", Cond.methodLink RX1 57 yJ7_fill_53178, Cond.static yJ7_fill_53178, Cond.initialized RJ7, Cond.code yJ7_fill_53178 cJ7_fill_53178 4 none]
def wsX7_crew_r5 : List Cond := [Cond.methodLink RX1 63 yX1_giveFrom, Cond.instanceMethod yX1_giveFrom, Cond.selects RX1 yX1_giveFrom yX1_giveFrom, Cond.code yX1_giveFrom cX1_giveFrom 4 (some .boolean), Cond.fieldLink RX1 15 "StageLines$CrewFinder" "handOf" "[I", Cond.methodLink RX7 205 yX1_turn, Cond.instanceMethod yX1_turn, Cond.selects RX1 yX1_turn yX1_turn, Cond.code yX1_turn cX1_turn 5 (some .int), Cond.methodLink RX1 84 yX1_turnsAhead, Cond.instanceMethod yX1_turnsAhead, Cond.selects RX1 yX1_turnsAhead yX1_turnsAhead, Cond.code yX1_turnsAhead cX1_turnsAhead 5 (some .int)]
def wsX7_crew : List Cond := .code yX7_crew cX7_crew 3 (some .int) :: ((wsX7_crew_r1 ++ (wsX7_crew_r2 ++ (wsX7_crew_r3 ++ (wsX7_crew_r4 ++ wsX7_crew_r5)))) ++ wsX70 ++ wsX60 ++ wsX10 ++ wsX20 ++ wsX00 ++ wsX40 ++ wsX50)
def wsX7_image_r1 : List Cond := [Cond.fieldLink RX7 16 "StageLines" "images" "[LStageLines$Stage;", Cond.fieldLink RX7 12 "StageLines" "stage" "LStageLines$Stage;", Cond.fieldLink RX7 20 "StageLines" "keptImages" "I", Cond.methodLink RX7 49 yX7_within, Cond.static yX7_within, Cond.initialized RX7, Cond.code yX7_within cX7_within 3 (some .boolean), Cond.methodLink RX7 208 yX6_copyFrom, Cond.instanceMethod yX6_copyFrom, Cond.selects RX6 yX6_copyFrom yX6_copyFrom, Cond.initialized RX6, Cond.code yX6_copyFrom cX6_copyFrom 3 none, Cond.fieldLink RX6 11 "StageLines$Stage" "bars" "[LStageLines$Bar;", Cond.fieldLink RX6 19 "StageLines$Stage" "moves" "[LStageLines$Move;", Cond.fieldLink RX6 23 "StageLines$Stage" "moveCount" "I", Cond.fieldLink RX6 27 "StageLines$Stage" "sway" "I", Cond.methodLink RX6 32 yX0_copyFrom, Cond.instanceMethod yX0_copyFrom, Cond.selects RX0 yX0_copyFrom yX0_copyFrom, Cond.initialized RX0, Cond.code yX0_copyFrom cX0_copyFrom 2 none, Cond.fieldLink RX0 9 "StageLines$Bar" "settings" "[I", Cond.methodLink RX0 35 arraycopyName, Cond.native arraycopyName]
def wsX7_image_r2 : List Cond := [Cond.static arraycopyName, Cond.initialized "java/lang/System", Cond.fieldLink RX0 18 "StageLines$Bar" "pieces" "LStageLines$Pile;", Cond.fieldLink RX0 22 "StageLines$Bar" "bricks" "LStageLines$Pile;", Cond.methodLink RX0 41 yX5_copyFrom, Cond.instanceMethod yX5_copyFrom, Cond.selects RX5 yX5_copyFrom yX5_copyFrom, Cond.initialized RX5, Cond.code yX5_copyFrom cX5_copyFrom 2 none, Cond.fieldLink RX5 9 "StageLines$Pile" "weights" "[I", Cond.methodLink RX5 19 arraycopyName, Cond.fieldLink RX5 15 "StageLines$Pile" "size" "I", Cond.methodLink RX6 36 yX4_copyFrom, Cond.instanceMethod yX4_copyFrom, Cond.selects RX4 yX4_copyFrom yX4_copyFrom, Cond.initialized RX4, Cond.code yX4_copyFrom cX4_copyFrom 2 none, Cond.fieldLink RX4 7 "StageLines$Move" "bar" "I", Cond.fieldLink RX4 13 "StageLines$Move" "begin" "I", Cond.fieldLink RX4 16 "StageLines$Move" "target" "I", Cond.fieldLink RX4 19 "StageLines$Move" "pace" "I"]
def wsX7_image : List Cond := .code yX7_image cX7_image 2 (some .int) :: ((wsX7_image_r1 ++ wsX7_image_r2) ++ wsX70 ++ wsX60 ++ wsX00 ++ wsX50 ++ wsX40)
def wsX7_restore_r1 : List Cond := [Cond.fieldLink RX7 20 "StageLines" "keptImages" "I", Cond.fieldLink RX7 12 "StageLines" "stage" "LStageLines$Stage;", Cond.fieldLink RX7 16 "StageLines" "images" "[LStageLines$Stage;", Cond.methodLink RX7 49 yX7_within, Cond.static yX7_within, Cond.initialized RX7, Cond.code yX7_within cX7_within 3 (some .boolean), Cond.methodLink RX7 208 yX6_copyFrom, Cond.instanceMethod yX6_copyFrom, Cond.selects RX6 yX6_copyFrom yX6_copyFrom, Cond.initialized RX6, Cond.code yX6_copyFrom cX6_copyFrom 3 none, Cond.fieldLink RX6 11 "StageLines$Stage" "bars" "[LStageLines$Bar;", Cond.fieldLink RX6 19 "StageLines$Stage" "moves" "[LStageLines$Move;", Cond.fieldLink RX6 23 "StageLines$Stage" "moveCount" "I", Cond.fieldLink RX6 27 "StageLines$Stage" "sway" "I", Cond.methodLink RX6 32 yX0_copyFrom, Cond.instanceMethod yX0_copyFrom, Cond.selects RX0 yX0_copyFrom yX0_copyFrom, Cond.initialized RX0, Cond.code yX0_copyFrom cX0_copyFrom 2 none, Cond.fieldLink RX0 9 "StageLines$Bar" "settings" "[I", Cond.methodLink RX0 35 arraycopyName, Cond.native arraycopyName]
def wsX7_restore_r2 : List Cond := [Cond.static arraycopyName, Cond.initialized "java/lang/System", Cond.fieldLink RX0 18 "StageLines$Bar" "pieces" "LStageLines$Pile;", Cond.fieldLink RX0 22 "StageLines$Bar" "bricks" "LStageLines$Pile;", Cond.methodLink RX0 41 yX5_copyFrom, Cond.instanceMethod yX5_copyFrom, Cond.selects RX5 yX5_copyFrom yX5_copyFrom, Cond.initialized RX5, Cond.code yX5_copyFrom cX5_copyFrom 2 none, Cond.fieldLink RX5 9 "StageLines$Pile" "weights" "[I", Cond.methodLink RX5 19 arraycopyName, Cond.fieldLink RX5 15 "StageLines$Pile" "size" "I", Cond.methodLink RX6 36 yX4_copyFrom, Cond.instanceMethod yX4_copyFrom, Cond.selects RX4 yX4_copyFrom yX4_copyFrom, Cond.initialized RX4, Cond.code yX4_copyFrom cX4_copyFrom 2 none, Cond.fieldLink RX4 7 "StageLines$Move" "bar" "I", Cond.fieldLink RX4 13 "StageLines$Move" "begin" "I", Cond.fieldLink RX4 16 "StageLines$Move" "target" "I", Cond.fieldLink RX4 19 "StageLines$Move" "pace" "I"]
def wsX7_restore : List Cond := .code yX7_restore cX7_restore 2 (some .int) :: ((wsX7_restore_r1 ++ wsX7_restore_r2) ++ wsX70 ++ wsX60 ++ wsX00 ++ wsX50 ++ wsX40)
def wsX7_lastEnd_r1 : List Cond := [Cond.fieldLink RX7 34 "StageLines" "flight" "LStageLines$Flight;", Cond.fieldLink RX7 12 "StageLines" "stage" "LStageLines$Stage;", Cond.fieldLink RX7 123 "StageLines$Stage" "moveCount" "I", Cond.methodLink RX7 224 Lib.Math.max.name, Cond.static Lib.Math.max.name, Cond.initialized "java/lang/Math", Cond.code Lib.Math.max.name Lib.Math.max.code 2 (some .int), Cond.methodLink RX7 183 yX2_traceAll, Cond.instanceMethod yX2_traceAll, Cond.selects RX2 yX2_traceAll yX2_traceAll, Cond.initialized RX2, Cond.code yX2_traceAll cX2_traceAll 3 none, Cond.methodLink RX2 46 yX2_trace, Cond.instanceMethod yX2_trace, Cond.selects RX2 yX2_trace yX2_trace, Cond.code yX2_trace cX2_trace 7 none, Cond.fieldLink RX2 11 "StageLines$Flight" "heights" "[[I", Cond.fieldLink RX2 16 "StageLines$Stage" "bars" "[LStageLines$Bar;", Cond.fieldLink RX2 22 "StageLines$Bar" "settings" "[I", Cond.fieldLink RX2 32 "StageLines$Stage" "moves" "[LStageLines$Move;", Cond.fieldLink RX2 36 "StageLines$Move" "begin" "I", Cond.methodLink RX2 28 yX6_firstMoveFrom, Cond.instanceMethod yX6_firstMoveFrom, Cond.selects RX6 yX6_firstMoveFrom yX6_firstMoveFrom]
def wsX7_lastEnd_r2 : List Cond := [Cond.initialized RX6, Cond.code yX6_firstMoveFrom cX6_firstMoveFrom 6 (some .int), Cond.fieldLink RX6 23 "StageLines$Stage" "moveCount" "I", Cond.fieldLink RX6 19 "StageLines$Stage" "moves" "[LStageLines$Move;", Cond.fieldLink RX6 39 "StageLines$Move" "bar" "I", Cond.fieldLink RX6 42 "StageLines$Move" "begin" "I", Cond.methodLink RX2 42 yX4_stepFrom, Cond.instanceMethod yX4_stepFrom, Cond.selects RX4 yX4_stepFrom yX4_stepFrom, Cond.initialized RX4, Cond.code yX4_stepFrom cX4_stepFrom 2 (some .int), Cond.fieldLink RX4 16 "StageLines$Move" "target" "I", Cond.methodLink RX4 22 Lib.Math.abs.name, Cond.static Lib.Math.abs.name, Cond.code Lib.Math.abs.name Lib.Math.abs.code 1 (some .int), Cond.fieldLink RX4 19 "StageLines$Move" "pace" "I", Cond.methodLink RX7 220 yX2_endOf, Cond.instanceMethod yX2_endOf, Cond.selects RX2 yX2_endOf yX2_endOf, Cond.code yX2_endOf cX2_endOf 7 (some .int), Cond.fieldLink RX2 50 "StageLines$Move" "bar" "I", Cond.fieldLink RX2 53 "StageLines$Move" "target" "I"]
def wsX7_lastEnd : List Cond := .code yX7_lastEnd cX7_lastEnd 3 (some .int) :: ((wsX7_lastEnd_r1 ++ wsX7_lastEnd_r2) ++ wsX70 ++ wsX60 ++ wsX20 ++ wsX00 ++ wsX40)
def wsX7_count_r1 : List Cond := [Cond.fieldLink RX7 12 "StageLines" "stage" "LStageLines$Stage;", Cond.fieldLink RX7 123 "StageLines$Stage" "moveCount" "I", Cond.fieldLink RX7 57 "StageLines$Stage" "sway" "I", Cond.fieldLink RX7 20 "StageLines" "keptImages" "I", Cond.methodLink RX7 211 yX6_evenBars, Cond.instanceMethod yX6_evenBars, Cond.selects RX6 yX6_evenBars yX6_evenBars, Cond.initialized RX6, Cond.code yX6_evenBars cX6_evenBars 3 (some .int), Cond.fieldLink RX6 11 "StageLines$Stage" "bars" "[LStageLines$Bar;", Cond.fieldLink RX6 27 "StageLines$Stage" "sway" "I", Cond.methodLink RX6 65 yX0_isEven, Cond.instanceMethod yX0_isEven, Cond.selects RX0 yX0_isEven yX0_isEven, Cond.initialized RX0, Cond.code yX0_isEven cX0_isEven 2 (some .boolean), Cond.fieldLink RX0 18 "StageLines$Bar" "pieces" "LStageLines$Pile;", Cond.fieldLink RX0 22 "StageLines$Bar" "bricks" "LStageLines$Pile;", Cond.methodLink RX0 29 Lib.Math.abs.name, Cond.static Lib.Math.abs.name, Cond.initialized "java/lang/Math", Cond.code Lib.Math.abs.name Lib.Math.abs.code 1 (some .int), Cond.methodLink RX0 25 yX5_total, Cond.instanceMethod yX5_total]
def wsX7_count_r2 : List Cond := [Cond.selects RX5 yX5_total yX5_total, Cond.initialized RX5, Cond.code yX5_total cX5_total 3 (some .int), Cond.fieldLink RX5 15 "StageLines$Pile" "size" "I", Cond.fieldLink RX5 9 "StageLines$Pile" "weights" "[I", Cond.methodLink RX7 214 yX6_nearPairs, Cond.instanceMethod yX6_nearPairs, Cond.selects RX6 yX6_nearPairs yX6_nearPairs, Cond.code yX6_nearPairs cX6_nearPairs 4 (some .int), Cond.methodLink RX6 69 yX6_areNear, Cond.instanceMethod yX6_areNear, Cond.selects RX6 yX6_areNear yX6_areNear, Cond.code yX6_areNear cX6_areNear 3 (some .boolean), Cond.methodLink RX6 55 Lib.Math.abs.name, Cond.fieldLink RX6 61 "StageLines$Bar" "settings" "[I", Cond.methodLink RX7 217 yX7_lastEnd, Cond.instanceMethod yX7_lastEnd, Cond.selects RX7 yX7_lastEnd yX7_lastEnd, Cond.initialized RX7, Cond.code yX7_lastEnd cX7_lastEnd 3 (some .int), Cond.fieldLink RX7 34 "StageLines" "flight" "LStageLines$Flight;", Cond.methodLink RX7 224 Lib.Math.max.name, Cond.static Lib.Math.max.name, Cond.code Lib.Math.max.name Lib.Math.max.code 2 (some .int)]
def wsX7_count_r3 : List Cond := [Cond.methodLink RX7 183 yX2_traceAll, Cond.instanceMethod yX2_traceAll, Cond.selects RX2 yX2_traceAll yX2_traceAll, Cond.initialized RX2, Cond.code yX2_traceAll cX2_traceAll 3 none, Cond.methodLink RX2 46 yX2_trace, Cond.instanceMethod yX2_trace, Cond.selects RX2 yX2_trace yX2_trace, Cond.code yX2_trace cX2_trace 7 none, Cond.fieldLink RX2 11 "StageLines$Flight" "heights" "[[I", Cond.fieldLink RX2 16 "StageLines$Stage" "bars" "[LStageLines$Bar;", Cond.fieldLink RX2 22 "StageLines$Bar" "settings" "[I", Cond.fieldLink RX2 32 "StageLines$Stage" "moves" "[LStageLines$Move;", Cond.fieldLink RX2 36 "StageLines$Move" "begin" "I", Cond.methodLink RX2 28 yX6_firstMoveFrom, Cond.instanceMethod yX6_firstMoveFrom, Cond.selects RX6 yX6_firstMoveFrom yX6_firstMoveFrom, Cond.code yX6_firstMoveFrom cX6_firstMoveFrom 6 (some .int), Cond.fieldLink RX6 23 "StageLines$Stage" "moveCount" "I", Cond.fieldLink RX6 19 "StageLines$Stage" "moves" "[LStageLines$Move;", Cond.fieldLink RX6 39 "StageLines$Move" "bar" "I", Cond.fieldLink RX6 42 "StageLines$Move" "begin" "I", Cond.methodLink RX2 42 yX4_stepFrom, Cond.instanceMethod yX4_stepFrom]
def wsX7_count_r4 : List Cond := [Cond.selects RX4 yX4_stepFrom yX4_stepFrom, Cond.initialized RX4, Cond.code yX4_stepFrom cX4_stepFrom 2 (some .int), Cond.fieldLink RX4 16 "StageLines$Move" "target" "I", Cond.methodLink RX4 22 Lib.Math.abs.name, Cond.fieldLink RX4 19 "StageLines$Move" "pace" "I", Cond.methodLink RX7 220 yX2_endOf, Cond.instanceMethod yX2_endOf, Cond.selects RX2 yX2_endOf yX2_endOf, Cond.code yX2_endOf cX2_endOf 7 (some .int), Cond.fieldLink RX2 50 "StageLines$Move" "bar" "I", Cond.fieldLink RX2 53 "StageLines$Move" "target" "I"]
def wsX7_count : List Cond := .code yX7_count cX7_count 2 (some .int) :: ((wsX7_count_r1 ++ (wsX7_count_r2 ++ (wsX7_count_r3 ++ wsX7_count_r4))) ++ wsX70 ++ wsX60 ++ wsX00 ++ wsX50 ++ wsX20 ++ wsX40)
def wsX8_init : List Cond := .code yX8_init cX8_init 2 none :: ([.methodLink RX8 1 objectInit, .instanceMethod objectInit, .code objectInit ⟨#[0xb1]⟩ 1 none, .arrayClass .int, .fieldLink RX8 7 "StageLinesModel" "state" "[I", .fieldLink RX8 13 "StageLinesModel" "images" "[I", .arrayClass .boolean, .fieldLink RX8 16 "StageLinesModel" "isKept" "[Z", .fieldLink RX8 20 "StageLinesModel" "ways" "[I", .fieldLink RX8 23 "StageLinesModel" "heights" "[I", .fieldLink RX8 26 "StageLinesModel" "rows" "[I", .fieldLink RX8 29 "StageLinesModel" "able" "[I", .fieldLink RX8 32 "StageLinesModel" "ends" "[I", .fieldLink RX8 35 "StageLinesModel" "isOne" "[Z", .fieldLink RX8 38 "StageLinesModel" "least" "[I", .fieldLink RX8 41 "StageLinesModel" "hand" "[I"] ++ wsX80)
def wsX8_in : List Cond := .code yX8_in cX8_in 3 (some .boolean) :: ([])
def wsX8_isBar : List Cond := .code yX8_isBar cX8_isBar 1 (some .boolean) :: ([.methodLink RX8 44 yX8_in, .static yX8_in, .initialized RX8, .code yX8_in cX8_in 3 (some .boolean)])
def wsX8_isMove : List Cond := .code yX8_isMove cX8_isMove 2 (some .boolean) :: ([.fieldLink RX8 7 "StageLinesModel" "state" "[I", .methodLink RX8 44 yX8_in, .static yX8_in, .initialized RX8, .code yX8_in cX8_in 3 (some .boolean)] ++ wsX80)
def wsX8_has : List Cond := .code yX8_has cX8_has 2 (some .boolean) :: ([])
def wsX8_size : List Cond := .code yX8_size cX8_size 1 (some .int) :: ([])
def wsX8_many : List Cond := .code yX8_many cX8_many 3 (some .int) :: ([.fieldLink RX8 7 "StageLinesModel" "state" "[I"] ++ wsX80)
def wsX8_weight : List Cond := .code yX8_weight cX8_weight 4 (some .int) :: ([.fieldLink RX8 7 "StageLinesModel" "state" "[I"] ++ wsX80)
def wsX8_together : List Cond := .code yX8_together cX8_together 5 (some .int) :: ([.methodLink RX8 48 yX8_many, .instanceMethod yX8_many, .selects RX8 yX8_many yX8_many, .initialized RX8, .code yX8_many cX8_many 3 (some .int), .fieldLink RX8 7 "StageLinesModel" "state" "[I", .methodLink RX8 52 yX8_weight, .instanceMethod yX8_weight, .selects RX8 yX8_weight yX8_weight, .code yX8_weight cX8_weight 4 (some .int)] ++ wsX80)
def wsX8_isEven : List Cond := .code yX8_isEven cX8_isEven 2 (some .boolean) :: ([.fieldLink RX8 7 "StageLinesModel" "state" "[I", .methodLink RX8 56 yX8_together, .instanceMethod yX8_together, .selects RX8 yX8_together yX8_together, .initialized RX8, .code yX8_together cX8_together 5 (some .int), .methodLink RX8 48 yX8_many, .instanceMethod yX8_many, .selects RX8 yX8_many yX8_many, .code yX8_many cX8_many 3 (some .int), .methodLink RX8 52 yX8_weight, .instanceMethod yX8_weight, .selects RX8 yX8_weight yX8_weight, .code yX8_weight cX8_weight 4 (some .int), .methodLink RX8 59 yX8_size, .static yX8_size, .code yX8_size cX8_size 1 (some .int)] ++ wsX80)
def wsX8_set : List Cond := .code yX8_set cX8_set 6 (some .int) :: ([.fieldLink RX8 7 "StageLinesModel" "state" "[I", .methodLink RX8 63 yX8_isBar, .static yX8_isBar, .initialized RX8, .code yX8_isBar cX8_isBar 1 (some .boolean), .methodLink RX8 44 yX8_in, .static yX8_in, .code yX8_in cX8_in 3 (some .boolean)] ++ wsX80)
def wsX8_load : List Cond := .code yX8_load cX8_load 5 (some .int) :: ([.fieldLink RX8 7 "StageLinesModel" "state" "[I", .methodLink RX8 63 yX8_isBar, .static yX8_isBar, .initialized RX8, .code yX8_isBar cX8_isBar 1 (some .boolean), .methodLink RX8 44 yX8_in, .static yX8_in, .code yX8_in cX8_in 3 (some .boolean), .methodLink RX8 48 yX8_many, .instanceMethod yX8_many, .selects RX8 yX8_many yX8_many, .code yX8_many cX8_many 3 (some .int)] ++ wsX80)
def wsX8_take : List Cond := .code yX8_take cX8_take 6 (some .int) :: ([.fieldLink RX8 7 "StageLinesModel" "state" "[I", .methodLink RX8 63 yX8_isBar, .static yX8_isBar, .initialized RX8, .code yX8_isBar cX8_isBar 1 (some .boolean), .methodLink RX8 44 yX8_in, .static yX8_in, .code yX8_in cX8_in 3 (some .boolean), .methodLink RX8 48 yX8_many, .instanceMethod yX8_many, .selects RX8 yX8_many yX8_many, .code yX8_many cX8_many 3 (some .int), .methodLink RX8 52 yX8_weight, .instanceMethod yX8_weight, .selects RX8 yX8_weight yX8_weight, .code yX8_weight cX8_weight 4 (some .int)] ++ wsX80)
def wsX8_movesOf : List Cond := .code yX8_movesOf cX8_movesOf 4 (some .int) :: ([.fieldLink RX8 7 "StageLinesModel" "state" "[I"] ++ wsX80)
def wsX8_thing : List Cond := .code yX8_thing cX8_thing 4 (some .int) :: ([.methodLink RX8 48 yX8_many, .instanceMethod yX8_many, .selects RX8 yX8_many yX8_many, .initialized RX8, .code yX8_many cX8_many 3 (some .int), .fieldLink RX8 7 "StageLinesModel" "state" "[I", .methodLink RX8 52 yX8_weight, .instanceMethod yX8_weight, .selects RX8 yX8_weight yX8_weight, .code yX8_weight cX8_weight 4 (some .int)] ++ wsX80)
def wsX8_bar_r1 : List Cond := [Cond.fieldLink RX8 7 "StageLinesModel" "state" "[I", Cond.methodLink RX8 63 yX8_isBar, Cond.static yX8_isBar, Cond.initialized RX8, Cond.code yX8_isBar cX8_isBar 1 (some .boolean), Cond.methodLink RX8 44 yX8_in, Cond.static yX8_in, Cond.code yX8_in cX8_in 3 (some .boolean), Cond.methodLink RX8 67 yX8_thing, Cond.instanceMethod yX8_thing, Cond.selects RX8 yX8_thing yX8_thing, Cond.code yX8_thing cX8_thing 4 (some .int), Cond.methodLink RX8 48 yX8_many, Cond.instanceMethod yX8_many, Cond.selects RX8 yX8_many yX8_many, Cond.code yX8_many cX8_many 3 (some .int), Cond.methodLink RX8 52 yX8_weight, Cond.instanceMethod yX8_weight, Cond.selects RX8 yX8_weight yX8_weight, Cond.code yX8_weight cX8_weight 4 (some .int), Cond.methodLink RX8 56 yX8_together, Cond.instanceMethod yX8_together, Cond.selects RX8 yX8_together yX8_together, Cond.code yX8_together cX8_together 5 (some .int)]
def wsX8_bar_r2 : List Cond := [Cond.methodLink RX8 70 yX8_isEven, Cond.instanceMethod yX8_isEven, Cond.selects RX8 yX8_isEven yX8_isEven, Cond.code yX8_isEven cX8_isEven 2 (some .boolean), Cond.methodLink RX8 59 yX8_size, Cond.static yX8_size, Cond.code yX8_size cX8_size 1 (some .int), Cond.methodLink RX8 73 yX8_movesOf, Cond.instanceMethod yX8_movesOf, Cond.selects RX8 yX8_movesOf yX8_movesOf, Cond.code yX8_movesOf cX8_movesOf 4 (some .int)]
def wsX8_bar : List Cond := .code yX8_bar cX8_bar 3 (some .int) :: ((wsX8_bar_r1 ++ wsX8_bar_r2) ++ wsX80)
def wsX8_pull : List Cond := .code yX8_pull cX8_pull 3 (some .int) :: ([.methodLink RX8 48 yX8_many, .instanceMethod yX8_many, .selects RX8 yX8_many yX8_many, .initialized RX8, .code yX8_many cX8_many 3 (some .int), .fieldLink RX8 7 "StageLinesModel" "state" "[I", .methodLink RX8 52 yX8_weight, .instanceMethod yX8_weight, .selects RX8 yX8_weight yX8_weight, .code yX8_weight cX8_weight 4 (some .int)] ++ wsX80)
def wsX8_layWays : List Cond := .code yX8_layWays cX8_layWays 6 none :: ([.fieldLink RX8 76 "StageLinesModel" "things" "I", .fieldLink RX8 20 "StageLinesModel" "ways" "[I", .fieldLink RX8 7 "StageLinesModel" "state" "[I", .methodLink RX8 48 yX8_many, .instanceMethod yX8_many, .selects RX8 yX8_many yX8_many, .initialized RX8, .code yX8_many cX8_many 3 (some .int), .methodLink RX8 80 yX8_has, .static yX8_has, .code yX8_has cX8_has 2 (some .boolean), .methodLink RX8 84 yX8_pull, .instanceMethod yX8_pull, .selects RX8 yX8_pull yX8_pull, .code yX8_pull cX8_pull 3 (some .int), .methodLink RX8 52 yX8_weight, .instanceMethod yX8_weight, .selects RX8 yX8_weight yX8_weight, .code yX8_weight cX8_weight 4 (some .int), .methodLink RX8 59 yX8_size, .static yX8_size, .code yX8_size cX8_size 1 (some .int)] ++ wsX80)
def wsX8_loading_r1 : List Cond := [Cond.fieldLink RX8 20 "StageLinesModel" "ways" "[I", Cond.fieldLink RX8 76 "StageLinesModel" "things" "I", Cond.methodLink RX8 63 yX8_isBar, Cond.static yX8_isBar, Cond.initialized RX8, Cond.code yX8_isBar cX8_isBar 1 (some .boolean), Cond.methodLink RX8 44 yX8_in, Cond.static yX8_in, Cond.code yX8_in cX8_in 3 (some .boolean), Cond.methodLink RX8 87 yX8_layWays, Cond.instanceMethod yX8_layWays, Cond.selects RX8 yX8_layWays yX8_layWays, Cond.code yX8_layWays cX8_layWays 6 none, Cond.fieldLink RX8 7 "StageLinesModel" "state" "[I", Cond.methodLink RX8 48 yX8_many, Cond.instanceMethod yX8_many, Cond.selects RX8 yX8_many yX8_many, Cond.code yX8_many cX8_many 3 (some .int), Cond.methodLink RX8 80 yX8_has, Cond.static yX8_has, Cond.code yX8_has cX8_has 2 (some .boolean), Cond.methodLink RX8 84 yX8_pull, Cond.instanceMethod yX8_pull, Cond.selects RX8 yX8_pull yX8_pull]
def wsX8_loading_r2 : List Cond := [Cond.code yX8_pull cX8_pull 3 (some .int), Cond.methodLink RX8 52 yX8_weight, Cond.instanceMethod yX8_weight, Cond.selects RX8 yX8_weight yX8_weight, Cond.code yX8_weight cX8_weight 4 (some .int), Cond.methodLink RX8 59 yX8_size, Cond.static yX8_size, Cond.code yX8_size cX8_size 1 (some .int)]
def wsX8_loading : List Cond := .code yX8_loading cX8_loading 6 (some .int) :: ((wsX8_loading_r1 ++ wsX8_loading_r2) ++ wsX80)
def wsX8_loadings_r1 : List Cond := [Cond.fieldLink RX8 20 "StageLinesModel" "ways" "[I", Cond.methodLink RX8 63 yX8_isBar, Cond.static yX8_isBar, Cond.initialized RX8, Cond.code yX8_isBar cX8_isBar 1 (some .boolean), Cond.methodLink RX8 44 yX8_in, Cond.static yX8_in, Cond.code yX8_in cX8_in 3 (some .boolean), Cond.methodLink RX8 87 yX8_layWays, Cond.instanceMethod yX8_layWays, Cond.selects RX8 yX8_layWays yX8_layWays, Cond.code yX8_layWays cX8_layWays 6 none, Cond.fieldLink RX8 76 "StageLinesModel" "things" "I", Cond.fieldLink RX8 7 "StageLinesModel" "state" "[I", Cond.methodLink RX8 48 yX8_many, Cond.instanceMethod yX8_many, Cond.selects RX8 yX8_many yX8_many, Cond.code yX8_many cX8_many 3 (some .int), Cond.methodLink RX8 80 yX8_has, Cond.static yX8_has, Cond.code yX8_has cX8_has 2 (some .boolean), Cond.methodLink RX8 84 yX8_pull, Cond.instanceMethod yX8_pull, Cond.selects RX8 yX8_pull yX8_pull]
def wsX8_loadings_r2 : List Cond := [Cond.code yX8_pull cX8_pull 3 (some .int), Cond.methodLink RX8 52 yX8_weight, Cond.instanceMethod yX8_weight, Cond.selects RX8 yX8_weight yX8_weight, Cond.code yX8_weight cX8_weight 4 (some .int), Cond.methodLink RX8 59 yX8_size, Cond.static yX8_size, Cond.code yX8_size cX8_size 1 (some .int)]
def wsX8_loadings : List Cond := .code yX8_loadings cX8_loadings 2 (some .int) :: ((wsX8_loadings_r1 ++ wsX8_loadings_r2) ++ wsX80)
def wsX8_moveAt : List Cond := .code yX8_moveAt cX8_moveAt 5 (some .int) :: ([.fieldLink RX8 7 "StageLinesModel" "state" "[I"] ++ wsX80)
def wsX8_move : List Cond := .code yX8_move cX8_move 6 (some .int) :: ([.fieldLink RX8 7 "StageLinesModel" "state" "[I", .methodLink RX8 63 yX8_isBar, .static yX8_isBar, .initialized RX8, .code yX8_isBar cX8_isBar 1 (some .boolean), .methodLink RX8 44 yX8_in, .static yX8_in, .code yX8_in cX8_in 3 (some .boolean), .methodLink RX8 91 yX8_moveAt, .instanceMethod yX8_moveAt, .selects RX8 yX8_moveAt yX8_moveAt, .code yX8_moveAt cX8_moveAt 5 (some .int)] ++ wsX80)
def wsX8_drop : List Cond := .code yX8_drop cX8_drop 4 (some .int) :: ([.fieldLink RX8 7 "StageLinesModel" "state" "[I", .methodLink RX8 94 yX8_isMove, .instanceMethod yX8_isMove, .selects RX8 yX8_isMove yX8_isMove, .initialized RX8, .code yX8_isMove cX8_isMove 2 (some .boolean), .methodLink RX8 44 yX8_in, .static yX8_in, .code yX8_in cX8_in 3 (some .boolean)] ++ wsX80)
def wsX8_shift : List Cond := .code yX8_shift cX8_shift 5 (some .int) :: ([.fieldLink RX8 7 "StageLinesModel" "state" "[I", .methodLink RX8 94 yX8_isMove, .instanceMethod yX8_isMove, .selects RX8 yX8_isMove yX8_isMove, .initialized RX8, .code yX8_isMove cX8_isMove 2 (some .boolean), .methodLink RX8 44 yX8_in, .static yX8_in, .code yX8_in cX8_in 3 (some .boolean), .methodLink RX8 91 yX8_moveAt, .instanceMethod yX8_moveAt, .selects RX8 yX8_moveAt yX8_moveAt, .code yX8_moveAt cX8_moveAt 5 (some .int)] ++ wsX80)
def wsX8_latest : List Cond := .code yX8_latest cX8_latest 5 (some .int) :: ([.fieldLink RX8 7 "StageLinesModel" "state" "[I"] ++ wsX80)
def wsX8_layHeights : List Cond := .code yX8_layHeights cX8_layHeights 8 none :: ([.fieldLink RX8 23 "StageLinesModel" "heights" "[I", .fieldLink RX8 7 "StageLinesModel" "state" "[I", .methodLink RX8 97 yX8_latest, .instanceMethod yX8_latest, .selects RX8 yX8_latest yX8_latest, .initialized RX8, .code yX8_latest cX8_latest 5 (some .int), .methodLink RX8 59 yX8_size, .static yX8_size, .code yX8_size cX8_size 1 (some .int)] ++ wsX80)
def wsX8_nextBegin : List Cond := .code yX8_nextBegin cX8_nextBegin 4 (some .int) :: ([.fieldLink RX8 7 "StageLinesModel" "state" "[I"] ++ wsX80)
def wsX8_endOf : List Cond := .code yX8_endOf cX8_endOf 4 (some .int) :: ([.fieldLink RX8 7 "StageLinesModel" "state" "[I", .fieldLink RX8 23 "StageLinesModel" "heights" "[I", .methodLink RX8 100 yX8_layHeights, .instanceMethod yX8_layHeights, .selects RX8 yX8_layHeights yX8_layHeights, .initialized RX8, .code yX8_layHeights cX8_layHeights 8 none, .methodLink RX8 97 yX8_latest, .instanceMethod yX8_latest, .selects RX8 yX8_latest yX8_latest, .code yX8_latest cX8_latest 5 (some .int), .methodLink RX8 59 yX8_size, .static yX8_size, .code yX8_size cX8_size 1 (some .int), .methodLink RX8 103 yX8_nextBegin, .instanceMethod yX8_nextBegin, .selects RX8 yX8_nextBegin yX8_nextBegin, .code yX8_nextBegin cX8_nextBegin 4 (some .int)] ++ wsX80)
def wsX8_isCut : List Cond := .code yX8_isCut cX8_isCut 2 (some .boolean) :: ([.fieldLink RX8 23 "StageLinesModel" "heights" "[I", .fieldLink RX8 7 "StageLinesModel" "state" "[I", .methodLink RX8 106 yX8_endOf, .instanceMethod yX8_endOf, .selects RX8 yX8_endOf yX8_endOf, .initialized RX8, .code yX8_endOf cX8_endOf 4 (some .int), .methodLink RX8 100 yX8_layHeights, .instanceMethod yX8_layHeights, .selects RX8 yX8_layHeights yX8_layHeights, .code yX8_layHeights cX8_layHeights 8 none, .methodLink RX8 97 yX8_latest, .instanceMethod yX8_latest, .selects RX8 yX8_latest yX8_latest, .code yX8_latest cX8_latest 5 (some .int), .methodLink RX8 59 yX8_size, .static yX8_size, .code yX8_size cX8_size 1 (some .int), .methodLink RX8 103 yX8_nextBegin, .instanceMethod yX8_nextBegin, .selects RX8 yX8_nextBegin yX8_nextBegin, .code yX8_nextBegin cX8_nextBegin 4 (some .int)] ++ wsX80)
def wsX8_height : List Cond := .code yX8_height cX8_height 3 (some .int) :: ([.fieldLink RX8 23 "StageLinesModel" "heights" "[I", .methodLink RX8 63 yX8_isBar, .static yX8_isBar, .initialized RX8, .code yX8_isBar cX8_isBar 1 (some .boolean), .methodLink RX8 44 yX8_in, .static yX8_in, .code yX8_in cX8_in 3 (some .boolean), .methodLink RX8 100 yX8_layHeights, .instanceMethod yX8_layHeights, .selects RX8 yX8_layHeights yX8_layHeights, .code yX8_layHeights cX8_layHeights 8 none, .fieldLink RX8 7 "StageLinesModel" "state" "[I", .methodLink RX8 97 yX8_latest, .instanceMethod yX8_latest, .selects RX8 yX8_latest yX8_latest, .code yX8_latest cX8_latest 5 (some .int), .methodLink RX8 59 yX8_size, .static yX8_size, .code yX8_size cX8_size 1 (some .int)] ++ wsX80)
def wsX8_layRows : List Cond := .code yX8_layRows cX8_layRows 3 none :: ([.fieldLink RX8 26 "StageLinesModel" "rows" "[I", .fieldLink RX8 23 "StageLinesModel" "heights" "[I", .methodLink RX8 100 yX8_layHeights, .instanceMethod yX8_layHeights, .selects RX8 yX8_layHeights yX8_layHeights, .initialized RX8, .code yX8_layHeights cX8_layHeights 8 none, .fieldLink RX8 7 "StageLinesModel" "state" "[I", .methodLink RX8 97 yX8_latest, .instanceMethod yX8_latest, .selects RX8 yX8_latest yX8_latest, .code yX8_latest cX8_latest 5 (some .int), .methodLink RX8 59 yX8_size, .static yX8_size, .code yX8_size cX8_size 1 (some .int)] ++ wsX80)
def wsX8_areNear : List Cond := .code yX8_areNear cX8_areNear 3 (some .boolean) :: ([.fieldLink RX8 7 "StageLinesModel" "state" "[I", .methodLink RX8 59 yX8_size, .static yX8_size, .initialized RX8, .code yX8_size cX8_size 1 (some .int)] ++ wsX80)
def wsX8_doStrike : List Cond := .code yX8_doStrike cX8_doStrike 7 (some .boolean) :: ([.fieldLink RX8 26 "StageLinesModel" "rows" "[I", .fieldLink RX8 7 "StageLinesModel" "state" "[I", .methodLink RX8 109 yX8_areNear, .instanceMethod yX8_areNear, .selects RX8 yX8_areNear yX8_areNear, .initialized RX8, .code yX8_areNear cX8_areNear 3 (some .boolean), .methodLink RX8 59 yX8_size, .static yX8_size, .code yX8_size cX8_size 1 (some .int)] ++ wsX80)
def wsX8_strike_r1 : List Cond := [Cond.methodLink RX8 63 yX8_isBar, Cond.static yX8_isBar, Cond.initialized RX8, Cond.code yX8_isBar cX8_isBar 1 (some .boolean), Cond.methodLink RX8 44 yX8_in, Cond.static yX8_in, Cond.code yX8_in cX8_in 3 (some .boolean), Cond.methodLink RX8 112 yX8_layRows, Cond.instanceMethod yX8_layRows, Cond.selects RX8 yX8_layRows yX8_layRows, Cond.code yX8_layRows cX8_layRows 3 none, Cond.fieldLink RX8 26 "StageLinesModel" "rows" "[I", Cond.fieldLink RX8 23 "StageLinesModel" "heights" "[I", Cond.methodLink RX8 100 yX8_layHeights, Cond.instanceMethod yX8_layHeights, Cond.selects RX8 yX8_layHeights yX8_layHeights, Cond.code yX8_layHeights cX8_layHeights 8 none, Cond.fieldLink RX8 7 "StageLinesModel" "state" "[I", Cond.methodLink RX8 97 yX8_latest, Cond.instanceMethod yX8_latest, Cond.selects RX8 yX8_latest yX8_latest, Cond.code yX8_latest cX8_latest 5 (some .int), Cond.methodLink RX8 59 yX8_size, Cond.static yX8_size]
def wsX8_strike_r2 : List Cond := [Cond.code yX8_size cX8_size 1 (some .int), Cond.methodLink RX8 115 yX8_doStrike, Cond.instanceMethod yX8_doStrike, Cond.selects RX8 yX8_doStrike yX8_doStrike, Cond.code yX8_doStrike cX8_doStrike 7 (some .boolean), Cond.methodLink RX8 109 yX8_areNear, Cond.instanceMethod yX8_areNear, Cond.selects RX8 yX8_areNear yX8_areNear, Cond.code yX8_areNear cX8_areNear 3 (some .boolean)]
def wsX8_strike : List Cond := .code yX8_strike cX8_strike 4 (some .int) :: ((wsX8_strike_r1 ++ wsX8_strike_r2) ++ wsX80)
def wsX8_clash_r1 : List Cond := [Cond.methodLink RX8 44 yX8_in, Cond.static yX8_in, Cond.initialized RX8, Cond.code yX8_in cX8_in 3 (some .boolean), Cond.methodLink RX8 112 yX8_layRows, Cond.instanceMethod yX8_layRows, Cond.selects RX8 yX8_layRows yX8_layRows, Cond.code yX8_layRows cX8_layRows 3 none, Cond.fieldLink RX8 26 "StageLinesModel" "rows" "[I", Cond.fieldLink RX8 23 "StageLinesModel" "heights" "[I", Cond.methodLink RX8 100 yX8_layHeights, Cond.instanceMethod yX8_layHeights, Cond.selects RX8 yX8_layHeights yX8_layHeights, Cond.code yX8_layHeights cX8_layHeights 8 none, Cond.fieldLink RX8 7 "StageLinesModel" "state" "[I", Cond.methodLink RX8 97 yX8_latest, Cond.instanceMethod yX8_latest, Cond.selects RX8 yX8_latest yX8_latest, Cond.code yX8_latest cX8_latest 5 (some .int), Cond.methodLink RX8 59 yX8_size, Cond.static yX8_size, Cond.code yX8_size cX8_size 1 (some .int), Cond.methodLink RX8 115 yX8_doStrike, Cond.instanceMethod yX8_doStrike]
def wsX8_clash_r2 : List Cond := [Cond.selects RX8 yX8_doStrike yX8_doStrike, Cond.code yX8_doStrike cX8_doStrike 7 (some .boolean), Cond.methodLink RX8 109 yX8_areNear, Cond.instanceMethod yX8_areNear, Cond.selects RX8 yX8_areNear yX8_areNear, Cond.code yX8_areNear cX8_areNear 3 (some .boolean)]
def wsX8_clash : List Cond := .code yX8_clash cX8_clash 6 (some .int) :: ((wsX8_clash_r1 ++ wsX8_clash_r2) ++ wsX80)
def wsX8_often_r1 : List Cond := [Cond.methodLink RX8 63 yX8_isBar, Cond.static yX8_isBar, Cond.initialized RX8, Cond.code yX8_isBar cX8_isBar 1 (some .boolean), Cond.methodLink RX8 44 yX8_in, Cond.static yX8_in, Cond.code yX8_in cX8_in 3 (some .boolean), Cond.methodLink RX8 112 yX8_layRows, Cond.instanceMethod yX8_layRows, Cond.selects RX8 yX8_layRows yX8_layRows, Cond.code yX8_layRows cX8_layRows 3 none, Cond.fieldLink RX8 26 "StageLinesModel" "rows" "[I", Cond.fieldLink RX8 23 "StageLinesModel" "heights" "[I", Cond.methodLink RX8 100 yX8_layHeights, Cond.instanceMethod yX8_layHeights, Cond.selects RX8 yX8_layHeights yX8_layHeights, Cond.code yX8_layHeights cX8_layHeights 8 none, Cond.fieldLink RX8 7 "StageLinesModel" "state" "[I", Cond.methodLink RX8 97 yX8_latest, Cond.instanceMethod yX8_latest, Cond.selects RX8 yX8_latest yX8_latest, Cond.code yX8_latest cX8_latest 5 (some .int), Cond.methodLink RX8 59 yX8_size, Cond.static yX8_size]
def wsX8_often_r2 : List Cond := [Cond.code yX8_size cX8_size 1 (some .int), Cond.methodLink RX8 115 yX8_doStrike, Cond.instanceMethod yX8_doStrike, Cond.selects RX8 yX8_doStrike yX8_doStrike, Cond.code yX8_doStrike cX8_doStrike 7 (some .boolean), Cond.methodLink RX8 109 yX8_areNear, Cond.instanceMethod yX8_areNear, Cond.selects RX8 yX8_areNear yX8_areNear, Cond.code yX8_areNear cX8_areNear 3 (some .boolean)]
def wsX8_often : List Cond := .code yX8_often cX8_often 5 (some .int) :: ((wsX8_often_r1 ++ wsX8_often_r2) ++ wsX80)
def wsX8_begin : List Cond := .code yX8_begin cX8_begin 2 (some .int) :: ([.fieldLink RX8 7 "StageLinesModel" "state" "[I", .fieldLink RX8 29 "StageLinesModel" "able" "[I"] ++ wsX80)
def wsX8_canDoBoth : List Cond := .code yX8_canDoBoth cX8_canDoBoth 4 (some .boolean) :: ([.fieldLink RX8 7 "StageLinesModel" "state" "[I", .fieldLink RX8 29 "StageLinesModel" "able" "[I", .fieldLink RX8 32 "StageLinesModel" "ends" "[I", .methodLink RX8 59 yX8_size, .static yX8_size, .initialized RX8, .code yX8_size cX8_size 1 (some .int), .methodLink RX8 118 yX8_begin, .instanceMethod yX8_begin, .selects RX8 yX8_begin yX8_begin, .code yX8_begin cX8_begin 2 (some .int)] ++ wsX80)
def wsX8_layAble_r1 : List Cond := [Cond.fieldLink RX8 121 "StageLinesModel" "ables" "I", Cond.fieldLink RX8 7 "StageLinesModel" "state" "[I", Cond.fieldLink RX8 29 "StageLinesModel" "able" "[I", Cond.fieldLink RX8 32 "StageLinesModel" "ends" "[I", Cond.methodLink RX8 70 yX8_isEven, Cond.instanceMethod yX8_isEven, Cond.selects RX8 yX8_isEven yX8_isEven, Cond.initialized RX8, Cond.code yX8_isEven cX8_isEven 2 (some .boolean), Cond.methodLink RX8 56 yX8_together, Cond.instanceMethod yX8_together, Cond.selects RX8 yX8_together yX8_together, Cond.code yX8_together cX8_together 5 (some .int), Cond.methodLink RX8 48 yX8_many, Cond.instanceMethod yX8_many, Cond.selects RX8 yX8_many yX8_many, Cond.code yX8_many cX8_many 3 (some .int), Cond.methodLink RX8 52 yX8_weight, Cond.instanceMethod yX8_weight, Cond.selects RX8 yX8_weight yX8_weight, Cond.code yX8_weight cX8_weight 4 (some .int), Cond.methodLink RX8 59 yX8_size, Cond.static yX8_size, Cond.code yX8_size cX8_size 1 (some .int)]
def wsX8_layAble_r2 : List Cond := [Cond.methodLink RX8 106 yX8_endOf, Cond.instanceMethod yX8_endOf, Cond.selects RX8 yX8_endOf yX8_endOf, Cond.code yX8_endOf cX8_endOf 4 (some .int), Cond.fieldLink RX8 23 "StageLinesModel" "heights" "[I", Cond.methodLink RX8 100 yX8_layHeights, Cond.instanceMethod yX8_layHeights, Cond.selects RX8 yX8_layHeights yX8_layHeights, Cond.code yX8_layHeights cX8_layHeights 8 none, Cond.methodLink RX8 97 yX8_latest, Cond.instanceMethod yX8_latest, Cond.selects RX8 yX8_latest yX8_latest, Cond.code yX8_latest cX8_latest 5 (some .int), Cond.methodLink RX8 103 yX8_nextBegin, Cond.instanceMethod yX8_nextBegin, Cond.selects RX8 yX8_nextBegin yX8_nextBegin, Cond.code yX8_nextBegin cX8_nextBegin 4 (some .int)]
def wsX8_layAble : List Cond := .code yX8_layAble cX8_layAble 2 none :: ((wsX8_layAble_r1 ++ wsX8_layAble_r2) ++ wsX80)
def wsX8_canBeOne : List Cond := .code yX8_canBeOne cX8_canBeOne 4 (some .boolean) :: ([.fieldLink RX8 121 "StageLinesModel" "ables" "I", .methodLink RX8 80 yX8_has, .static yX8_has, .initialized RX8, .code yX8_has cX8_has 2 (some .boolean), .methodLink RX8 124 yX8_canDoBoth, .instanceMethod yX8_canDoBoth, .selects RX8 yX8_canDoBoth yX8_canDoBoth, .code yX8_canDoBoth cX8_canDoBoth 4 (some .boolean), .fieldLink RX8 7 "StageLinesModel" "state" "[I", .fieldLink RX8 29 "StageLinesModel" "able" "[I", .fieldLink RX8 32 "StageLinesModel" "ends" "[I", .methodLink RX8 59 yX8_size, .static yX8_size, .code yX8_size cX8_size 1 (some .int), .methodLink RX8 118 yX8_begin, .instanceMethod yX8_begin, .selects RX8 yX8_begin yX8_begin, .code yX8_begin cX8_begin 2 (some .int)] ++ wsX80)
def wsX8_layHands_r1 : List Cond := [Cond.fieldLink RX8 121 "StageLinesModel" "ables" "I", Cond.fieldLink RX8 35 "StageLinesModel" "isOne" "[Z", Cond.fieldLink RX8 38 "StageLinesModel" "least" "[I", Cond.methodLink RX8 127 yX8_layAble, Cond.instanceMethod yX8_layAble, Cond.selects RX8 yX8_layAble yX8_layAble, Cond.initialized RX8, Cond.code yX8_layAble cX8_layAble 2 none, Cond.fieldLink RX8 7 "StageLinesModel" "state" "[I", Cond.fieldLink RX8 29 "StageLinesModel" "able" "[I", Cond.fieldLink RX8 32 "StageLinesModel" "ends" "[I", Cond.methodLink RX8 70 yX8_isEven, Cond.instanceMethod yX8_isEven, Cond.selects RX8 yX8_isEven yX8_isEven, Cond.code yX8_isEven cX8_isEven 2 (some .boolean), Cond.methodLink RX8 56 yX8_together, Cond.instanceMethod yX8_together, Cond.selects RX8 yX8_together yX8_together, Cond.code yX8_together cX8_together 5 (some .int), Cond.methodLink RX8 48 yX8_many, Cond.instanceMethod yX8_many, Cond.selects RX8 yX8_many yX8_many, Cond.code yX8_many cX8_many 3 (some .int), Cond.methodLink RX8 52 yX8_weight]
def wsX8_layHands_r2 : List Cond := [Cond.instanceMethod yX8_weight, Cond.selects RX8 yX8_weight yX8_weight, Cond.code yX8_weight cX8_weight 4 (some .int), Cond.methodLink RX8 59 yX8_size, Cond.static yX8_size, Cond.code yX8_size cX8_size 1 (some .int), Cond.methodLink RX8 106 yX8_endOf, Cond.instanceMethod yX8_endOf, Cond.selects RX8 yX8_endOf yX8_endOf, Cond.code yX8_endOf cX8_endOf 4 (some .int), Cond.fieldLink RX8 23 "StageLinesModel" "heights" "[I", Cond.methodLink RX8 100 yX8_layHeights, Cond.instanceMethod yX8_layHeights, Cond.selects RX8 yX8_layHeights yX8_layHeights, Cond.code yX8_layHeights cX8_layHeights 8 none, Cond.methodLink RX8 97 yX8_latest, Cond.instanceMethod yX8_latest, Cond.selects RX8 yX8_latest yX8_latest, Cond.code yX8_latest cX8_latest 5 (some .int), Cond.methodLink RX8 103 yX8_nextBegin, Cond.instanceMethod yX8_nextBegin, Cond.selects RX8 yX8_nextBegin yX8_nextBegin, Cond.code yX8_nextBegin cX8_nextBegin 4 (some .int), Cond.methodLink RX8 130 yX8_canBeOne]
def wsX8_layHands_r3 : List Cond := [Cond.instanceMethod yX8_canBeOne, Cond.selects RX8 yX8_canBeOne yX8_canBeOne, Cond.code yX8_canBeOne cX8_canBeOne 4 (some .boolean), Cond.methodLink RX8 80 yX8_has, Cond.static yX8_has, Cond.code yX8_has cX8_has 2 (some .boolean), Cond.methodLink RX8 124 yX8_canDoBoth, Cond.instanceMethod yX8_canDoBoth, Cond.selects RX8 yX8_canDoBoth yX8_canDoBoth, Cond.code yX8_canDoBoth cX8_canDoBoth 4 (some .boolean), Cond.methodLink RX8 118 yX8_begin, Cond.instanceMethod yX8_begin, Cond.selects RX8 yX8_begin yX8_begin, Cond.code yX8_begin cX8_begin 2 (some .int)]
def wsX8_layHands : List Cond := .code yX8_layHands cX8_layHands 4 (some .int) :: ((wsX8_layHands_r1 ++ (wsX8_layHands_r2 ++ wsX8_layHands_r3)) ++ wsX80)
def wsX8_fits : List Cond := .code yX8_fits cX8_fits 3 (some .boolean) :: ([.fieldLink RX8 41 "StageLinesModel" "hand" "[I", .methodLink RX8 124 yX8_canDoBoth, .instanceMethod yX8_canDoBoth, .selects RX8 yX8_canDoBoth yX8_canDoBoth, .initialized RX8, .code yX8_canDoBoth cX8_canDoBoth 4 (some .boolean), .fieldLink RX8 7 "StageLinesModel" "state" "[I", .fieldLink RX8 29 "StageLinesModel" "able" "[I", .fieldLink RX8 32 "StageLinesModel" "ends" "[I", .methodLink RX8 59 yX8_size, .static yX8_size, .code yX8_size cX8_size 1 (some .int), .methodLink RX8 118 yX8_begin, .instanceMethod yX8_begin, .selects RX8 yX8_begin yX8_begin, .code yX8_begin cX8_begin 2 (some .int)] ++ wsX80)
def wsX8_layCrew_r1 : List Cond := [Cond.fieldLink RX8 121 "StageLinesModel" "ables" "I", Cond.fieldLink RX8 41 "StageLinesModel" "hand" "[I", Cond.methodLink RX8 133 yX8_layHands, Cond.instanceMethod yX8_layHands, Cond.selects RX8 yX8_layHands yX8_layHands, Cond.initialized RX8, Cond.code yX8_layHands cX8_layHands 4 (some .int), Cond.fieldLink RX8 35 "StageLinesModel" "isOne" "[Z", Cond.fieldLink RX8 38 "StageLinesModel" "least" "[I", Cond.methodLink RX8 127 yX8_layAble, Cond.instanceMethod yX8_layAble, Cond.selects RX8 yX8_layAble yX8_layAble, Cond.code yX8_layAble cX8_layAble 2 none, Cond.fieldLink RX8 7 "StageLinesModel" "state" "[I", Cond.fieldLink RX8 29 "StageLinesModel" "able" "[I", Cond.fieldLink RX8 32 "StageLinesModel" "ends" "[I", Cond.methodLink RX8 70 yX8_isEven, Cond.instanceMethod yX8_isEven, Cond.selects RX8 yX8_isEven yX8_isEven, Cond.code yX8_isEven cX8_isEven 2 (some .boolean), Cond.methodLink RX8 56 yX8_together, Cond.instanceMethod yX8_together, Cond.selects RX8 yX8_together yX8_together, Cond.code yX8_together cX8_together 5 (some .int)]
def wsX8_layCrew_r2 : List Cond := [Cond.methodLink RX8 48 yX8_many, Cond.instanceMethod yX8_many, Cond.selects RX8 yX8_many yX8_many, Cond.code yX8_many cX8_many 3 (some .int), Cond.methodLink RX8 52 yX8_weight, Cond.instanceMethod yX8_weight, Cond.selects RX8 yX8_weight yX8_weight, Cond.code yX8_weight cX8_weight 4 (some .int), Cond.methodLink RX8 59 yX8_size, Cond.static yX8_size, Cond.code yX8_size cX8_size 1 (some .int), Cond.methodLink RX8 106 yX8_endOf, Cond.instanceMethod yX8_endOf, Cond.selects RX8 yX8_endOf yX8_endOf, Cond.code yX8_endOf cX8_endOf 4 (some .int), Cond.fieldLink RX8 23 "StageLinesModel" "heights" "[I", Cond.methodLink RX8 100 yX8_layHeights, Cond.instanceMethod yX8_layHeights, Cond.selects RX8 yX8_layHeights yX8_layHeights, Cond.code yX8_layHeights cX8_layHeights 8 none, Cond.methodLink RX8 97 yX8_latest, Cond.instanceMethod yX8_latest, Cond.selects RX8 yX8_latest yX8_latest, Cond.code yX8_latest cX8_latest 5 (some .int)]
def wsX8_layCrew_r3 : List Cond := [Cond.methodLink RX8 103 yX8_nextBegin, Cond.instanceMethod yX8_nextBegin, Cond.selects RX8 yX8_nextBegin yX8_nextBegin, Cond.code yX8_nextBegin cX8_nextBegin 4 (some .int), Cond.methodLink RX8 130 yX8_canBeOne, Cond.instanceMethod yX8_canBeOne, Cond.selects RX8 yX8_canBeOne yX8_canBeOne, Cond.code yX8_canBeOne cX8_canBeOne 4 (some .boolean), Cond.methodLink RX8 80 yX8_has, Cond.static yX8_has, Cond.code yX8_has cX8_has 2 (some .boolean), Cond.methodLink RX8 124 yX8_canDoBoth, Cond.instanceMethod yX8_canDoBoth, Cond.selects RX8 yX8_canDoBoth yX8_canDoBoth, Cond.code yX8_canDoBoth cX8_canDoBoth 4 (some .boolean), Cond.methodLink RX8 118 yX8_begin, Cond.instanceMethod yX8_begin, Cond.selects RX8 yX8_begin yX8_begin, Cond.code yX8_begin cX8_begin 2 (some .int), Cond.methodLink RX8 137 yX8_fits, Cond.instanceMethod yX8_fits, Cond.selects RX8 yX8_fits yX8_fits, Cond.code yX8_fits cX8_fits 3 (some .boolean)]
def wsX8_layCrew : List Cond := .code yX8_layCrew cX8_layCrew 3 none :: ((wsX8_layCrew_r1 ++ (wsX8_layCrew_r2 ++ wsX8_layCrew_r3)) ++ wsX80)
def wsX8_handOf_r1 : List Cond := [Cond.fieldLink RX8 121 "StageLinesModel" "ables" "I", Cond.fieldLink RX8 29 "StageLinesModel" "able" "[I", Cond.fieldLink RX8 41 "StageLinesModel" "hand" "[I", Cond.methodLink RX8 140 yX8_layCrew, Cond.instanceMethod yX8_layCrew, Cond.selects RX8 yX8_layCrew yX8_layCrew, Cond.initialized RX8, Cond.code yX8_layCrew cX8_layCrew 3 none, Cond.methodLink RX8 133 yX8_layHands, Cond.instanceMethod yX8_layHands, Cond.selects RX8 yX8_layHands yX8_layHands, Cond.code yX8_layHands cX8_layHands 4 (some .int), Cond.fieldLink RX8 35 "StageLinesModel" "isOne" "[Z", Cond.fieldLink RX8 38 "StageLinesModel" "least" "[I", Cond.methodLink RX8 127 yX8_layAble, Cond.instanceMethod yX8_layAble, Cond.selects RX8 yX8_layAble yX8_layAble, Cond.code yX8_layAble cX8_layAble 2 none, Cond.fieldLink RX8 7 "StageLinesModel" "state" "[I", Cond.fieldLink RX8 32 "StageLinesModel" "ends" "[I", Cond.methodLink RX8 70 yX8_isEven, Cond.instanceMethod yX8_isEven, Cond.selects RX8 yX8_isEven yX8_isEven, Cond.code yX8_isEven cX8_isEven 2 (some .boolean)]
def wsX8_handOf_r2 : List Cond := [Cond.methodLink RX8 56 yX8_together, Cond.instanceMethod yX8_together, Cond.selects RX8 yX8_together yX8_together, Cond.code yX8_together cX8_together 5 (some .int), Cond.methodLink RX8 48 yX8_many, Cond.instanceMethod yX8_many, Cond.selects RX8 yX8_many yX8_many, Cond.code yX8_many cX8_many 3 (some .int), Cond.methodLink RX8 52 yX8_weight, Cond.instanceMethod yX8_weight, Cond.selects RX8 yX8_weight yX8_weight, Cond.code yX8_weight cX8_weight 4 (some .int), Cond.methodLink RX8 59 yX8_size, Cond.static yX8_size, Cond.code yX8_size cX8_size 1 (some .int), Cond.methodLink RX8 106 yX8_endOf, Cond.instanceMethod yX8_endOf, Cond.selects RX8 yX8_endOf yX8_endOf, Cond.code yX8_endOf cX8_endOf 4 (some .int), Cond.fieldLink RX8 23 "StageLinesModel" "heights" "[I", Cond.methodLink RX8 100 yX8_layHeights, Cond.instanceMethod yX8_layHeights, Cond.selects RX8 yX8_layHeights yX8_layHeights, Cond.code yX8_layHeights cX8_layHeights 8 none]
def wsX8_handOf_r3 : List Cond := [Cond.methodLink RX8 97 yX8_latest, Cond.instanceMethod yX8_latest, Cond.selects RX8 yX8_latest yX8_latest, Cond.code yX8_latest cX8_latest 5 (some .int), Cond.methodLink RX8 103 yX8_nextBegin, Cond.instanceMethod yX8_nextBegin, Cond.selects RX8 yX8_nextBegin yX8_nextBegin, Cond.code yX8_nextBegin cX8_nextBegin 4 (some .int), Cond.methodLink RX8 130 yX8_canBeOne, Cond.instanceMethod yX8_canBeOne, Cond.selects RX8 yX8_canBeOne yX8_canBeOne, Cond.code yX8_canBeOne cX8_canBeOne 4 (some .boolean), Cond.methodLink RX8 80 yX8_has, Cond.static yX8_has, Cond.code yX8_has cX8_has 2 (some .boolean), Cond.methodLink RX8 124 yX8_canDoBoth, Cond.instanceMethod yX8_canDoBoth, Cond.selects RX8 yX8_canDoBoth yX8_canDoBoth, Cond.code yX8_canDoBoth cX8_canDoBoth 4 (some .boolean), Cond.methodLink RX8 118 yX8_begin, Cond.instanceMethod yX8_begin, Cond.selects RX8 yX8_begin yX8_begin, Cond.code yX8_begin cX8_begin 2 (some .int), Cond.methodLink RX8 137 yX8_fits]
def wsX8_handOf_r4 : List Cond := [Cond.instanceMethod yX8_fits, Cond.selects RX8 yX8_fits yX8_fits, Cond.code yX8_fits cX8_fits 3 (some .boolean)]
def wsX8_handOf : List Cond := .code yX8_handOf cX8_handOf 4 (some .int) :: ((wsX8_handOf_r1 ++ (wsX8_handOf_r2 ++ (wsX8_handOf_r3 ++ wsX8_handOf_r4))) ++ wsX80)
def wsX8_told_r1 : List Cond := [Cond.fieldLink RX8 7 "StageLinesModel" "state" "[I", Cond.fieldLink RX8 23 "StageLinesModel" "heights" "[I", Cond.methodLink RX8 94 yX8_isMove, Cond.instanceMethod yX8_isMove, Cond.selects RX8 yX8_isMove yX8_isMove, Cond.initialized RX8, Cond.code yX8_isMove cX8_isMove 2 (some .boolean), Cond.methodLink RX8 44 yX8_in, Cond.static yX8_in, Cond.code yX8_in cX8_in 3 (some .boolean), Cond.methodLink RX8 106 yX8_endOf, Cond.instanceMethod yX8_endOf, Cond.selects RX8 yX8_endOf yX8_endOf, Cond.code yX8_endOf cX8_endOf 4 (some .int), Cond.methodLink RX8 100 yX8_layHeights, Cond.instanceMethod yX8_layHeights, Cond.selects RX8 yX8_layHeights yX8_layHeights, Cond.code yX8_layHeights cX8_layHeights 8 none, Cond.methodLink RX8 97 yX8_latest, Cond.instanceMethod yX8_latest, Cond.selects RX8 yX8_latest yX8_latest, Cond.code yX8_latest cX8_latest 5 (some .int), Cond.methodLink RX8 59 yX8_size, Cond.static yX8_size]
def wsX8_told_r2 : List Cond := [Cond.code yX8_size cX8_size 1 (some .int), Cond.methodLink RX8 103 yX8_nextBegin, Cond.instanceMethod yX8_nextBegin, Cond.selects RX8 yX8_nextBegin yX8_nextBegin, Cond.code yX8_nextBegin cX8_nextBegin 4 (some .int), Cond.methodLink RX8 143 yX8_isCut, Cond.instanceMethod yX8_isCut, Cond.selects RX8 yX8_isCut yX8_isCut, Cond.code yX8_isCut cX8_isCut 2 (some .boolean), Cond.methodLink RX8 146 yX8_handOf, Cond.instanceMethod yX8_handOf, Cond.selects RX8 yX8_handOf yX8_handOf, Cond.code yX8_handOf cX8_handOf 4 (some .int), Cond.fieldLink RX8 121 "StageLinesModel" "ables" "I", Cond.fieldLink RX8 29 "StageLinesModel" "able" "[I", Cond.fieldLink RX8 41 "StageLinesModel" "hand" "[I", Cond.methodLink RX8 140 yX8_layCrew, Cond.instanceMethod yX8_layCrew, Cond.selects RX8 yX8_layCrew yX8_layCrew, Cond.code yX8_layCrew cX8_layCrew 3 none, Cond.methodLink RX8 133 yX8_layHands, Cond.instanceMethod yX8_layHands, Cond.selects RX8 yX8_layHands yX8_layHands, Cond.code yX8_layHands cX8_layHands 4 (some .int)]
def wsX8_told_r3 : List Cond := [Cond.fieldLink RX8 35 "StageLinesModel" "isOne" "[Z", Cond.fieldLink RX8 38 "StageLinesModel" "least" "[I", Cond.methodLink RX8 127 yX8_layAble, Cond.instanceMethod yX8_layAble, Cond.selects RX8 yX8_layAble yX8_layAble, Cond.code yX8_layAble cX8_layAble 2 none, Cond.fieldLink RX8 32 "StageLinesModel" "ends" "[I", Cond.methodLink RX8 70 yX8_isEven, Cond.instanceMethod yX8_isEven, Cond.selects RX8 yX8_isEven yX8_isEven, Cond.code yX8_isEven cX8_isEven 2 (some .boolean), Cond.methodLink RX8 56 yX8_together, Cond.instanceMethod yX8_together, Cond.selects RX8 yX8_together yX8_together, Cond.code yX8_together cX8_together 5 (some .int), Cond.methodLink RX8 48 yX8_many, Cond.instanceMethod yX8_many, Cond.selects RX8 yX8_many yX8_many, Cond.code yX8_many cX8_many 3 (some .int), Cond.methodLink RX8 52 yX8_weight, Cond.instanceMethod yX8_weight, Cond.selects RX8 yX8_weight yX8_weight, Cond.code yX8_weight cX8_weight 4 (some .int), Cond.methodLink RX8 130 yX8_canBeOne]
def wsX8_told_r4 : List Cond := [Cond.instanceMethod yX8_canBeOne, Cond.selects RX8 yX8_canBeOne yX8_canBeOne, Cond.code yX8_canBeOne cX8_canBeOne 4 (some .boolean), Cond.methodLink RX8 80 yX8_has, Cond.static yX8_has, Cond.code yX8_has cX8_has 2 (some .boolean), Cond.methodLink RX8 124 yX8_canDoBoth, Cond.instanceMethod yX8_canDoBoth, Cond.selects RX8 yX8_canDoBoth yX8_canDoBoth, Cond.code yX8_canDoBoth cX8_canDoBoth 4 (some .boolean), Cond.methodLink RX8 118 yX8_begin, Cond.instanceMethod yX8_begin, Cond.selects RX8 yX8_begin yX8_begin, Cond.code yX8_begin cX8_begin 2 (some .int), Cond.methodLink RX8 137 yX8_fits, Cond.instanceMethod yX8_fits, Cond.selects RX8 yX8_fits yX8_fits, Cond.code yX8_fits cX8_fits 3 (some .boolean)]
def wsX8_told : List Cond := .code yX8_told cX8_told 3 (some .int) :: ((wsX8_told_r1 ++ (wsX8_told_r2 ++ (wsX8_told_r3 ++ wsX8_told_r4))) ++ wsX80)
def wsX8_mostAtOnce : List Cond := .code yX8_mostAtOnce cX8_mostAtOnce 5 (some .int) :: ([.fieldLink RX8 121 "StageLinesModel" "ables" "I", .fieldLink RX8 32 "StageLinesModel" "ends" "[I", .methodLink RX8 118 yX8_begin, .instanceMethod yX8_begin, .selects RX8 yX8_begin yX8_begin, .initialized RX8, .code yX8_begin cX8_begin 2 (some .int), .fieldLink RX8 7 "StageLinesModel" "state" "[I", .fieldLink RX8 29 "StageLinesModel" "able" "[I"] ++ wsX80)
def wsX8_hands_r1 : List Cond := [Cond.fieldLink RX8 121 "StageLinesModel" "ables" "I", Cond.methodLink RX8 44 yX8_in, Cond.static yX8_in, Cond.initialized RX8, Cond.code yX8_in cX8_in 3 (some .boolean), Cond.methodLink RX8 133 yX8_layHands, Cond.instanceMethod yX8_layHands, Cond.selects RX8 yX8_layHands yX8_layHands, Cond.code yX8_layHands cX8_layHands 4 (some .int), Cond.fieldLink RX8 35 "StageLinesModel" "isOne" "[Z", Cond.fieldLink RX8 38 "StageLinesModel" "least" "[I", Cond.methodLink RX8 127 yX8_layAble, Cond.instanceMethod yX8_layAble, Cond.selects RX8 yX8_layAble yX8_layAble, Cond.code yX8_layAble cX8_layAble 2 none, Cond.fieldLink RX8 7 "StageLinesModel" "state" "[I", Cond.fieldLink RX8 29 "StageLinesModel" "able" "[I", Cond.fieldLink RX8 32 "StageLinesModel" "ends" "[I", Cond.methodLink RX8 70 yX8_isEven, Cond.instanceMethod yX8_isEven, Cond.selects RX8 yX8_isEven yX8_isEven, Cond.code yX8_isEven cX8_isEven 2 (some .boolean), Cond.methodLink RX8 56 yX8_together, Cond.instanceMethod yX8_together]
def wsX8_hands_r2 : List Cond := [Cond.selects RX8 yX8_together yX8_together, Cond.code yX8_together cX8_together 5 (some .int), Cond.methodLink RX8 48 yX8_many, Cond.instanceMethod yX8_many, Cond.selects RX8 yX8_many yX8_many, Cond.code yX8_many cX8_many 3 (some .int), Cond.methodLink RX8 52 yX8_weight, Cond.instanceMethod yX8_weight, Cond.selects RX8 yX8_weight yX8_weight, Cond.code yX8_weight cX8_weight 4 (some .int), Cond.methodLink RX8 59 yX8_size, Cond.static yX8_size, Cond.code yX8_size cX8_size 1 (some .int), Cond.methodLink RX8 106 yX8_endOf, Cond.instanceMethod yX8_endOf, Cond.selects RX8 yX8_endOf yX8_endOf, Cond.code yX8_endOf cX8_endOf 4 (some .int), Cond.fieldLink RX8 23 "StageLinesModel" "heights" "[I", Cond.methodLink RX8 100 yX8_layHeights, Cond.instanceMethod yX8_layHeights, Cond.selects RX8 yX8_layHeights yX8_layHeights, Cond.code yX8_layHeights cX8_layHeights 8 none, Cond.methodLink RX8 97 yX8_latest, Cond.instanceMethod yX8_latest]
def wsX8_hands_r3 : List Cond := [Cond.selects RX8 yX8_latest yX8_latest, Cond.code yX8_latest cX8_latest 5 (some .int), Cond.methodLink RX8 103 yX8_nextBegin, Cond.instanceMethod yX8_nextBegin, Cond.selects RX8 yX8_nextBegin yX8_nextBegin, Cond.code yX8_nextBegin cX8_nextBegin 4 (some .int), Cond.methodLink RX8 130 yX8_canBeOne, Cond.instanceMethod yX8_canBeOne, Cond.selects RX8 yX8_canBeOne yX8_canBeOne, Cond.code yX8_canBeOne cX8_canBeOne 4 (some .boolean), Cond.methodLink RX8 80 yX8_has, Cond.static yX8_has, Cond.code yX8_has cX8_has 2 (some .boolean), Cond.methodLink RX8 124 yX8_canDoBoth, Cond.instanceMethod yX8_canDoBoth, Cond.selects RX8 yX8_canDoBoth yX8_canDoBoth, Cond.code yX8_canDoBoth cX8_canDoBoth 4 (some .boolean), Cond.methodLink RX8 118 yX8_begin, Cond.instanceMethod yX8_begin, Cond.selects RX8 yX8_begin yX8_begin, Cond.code yX8_begin cX8_begin 2 (some .int), Cond.methodLink RX8 149 yX8_mostAtOnce, Cond.instanceMethod yX8_mostAtOnce, Cond.selects RX8 yX8_mostAtOnce yX8_mostAtOnce]
def wsX8_hands_r4 : List Cond := [Cond.code yX8_mostAtOnce cX8_mostAtOnce 5 (some .int)]
def wsX8_hands : List Cond := .code yX8_hands cX8_hands 3 (some .int) :: ((wsX8_hands_r1 ++ (wsX8_hands_r2 ++ (wsX8_hands_r3 ++ wsX8_hands_r4))) ++ wsX80)
def wsX8_crew_r1 : List Cond := [Cond.fieldLink RX8 121 "StageLinesModel" "ables" "I", Cond.fieldLink RX8 41 "StageLinesModel" "hand" "[I", Cond.fieldLink RX8 29 "StageLinesModel" "able" "[I", Cond.methodLink RX8 44 yX8_in, Cond.static yX8_in, Cond.initialized RX8, Cond.code yX8_in cX8_in 3 (some .boolean), Cond.methodLink RX8 140 yX8_layCrew, Cond.instanceMethod yX8_layCrew, Cond.selects RX8 yX8_layCrew yX8_layCrew, Cond.code yX8_layCrew cX8_layCrew 3 none, Cond.methodLink RX8 133 yX8_layHands, Cond.instanceMethod yX8_layHands, Cond.selects RX8 yX8_layHands yX8_layHands, Cond.code yX8_layHands cX8_layHands 4 (some .int), Cond.fieldLink RX8 35 "StageLinesModel" "isOne" "[Z", Cond.fieldLink RX8 38 "StageLinesModel" "least" "[I", Cond.methodLink RX8 127 yX8_layAble, Cond.instanceMethod yX8_layAble, Cond.selects RX8 yX8_layAble yX8_layAble, Cond.code yX8_layAble cX8_layAble 2 none, Cond.fieldLink RX8 7 "StageLinesModel" "state" "[I", Cond.fieldLink RX8 32 "StageLinesModel" "ends" "[I", Cond.methodLink RX8 70 yX8_isEven]
def wsX8_crew_r2 : List Cond := [Cond.instanceMethod yX8_isEven, Cond.selects RX8 yX8_isEven yX8_isEven, Cond.code yX8_isEven cX8_isEven 2 (some .boolean), Cond.methodLink RX8 56 yX8_together, Cond.instanceMethod yX8_together, Cond.selects RX8 yX8_together yX8_together, Cond.code yX8_together cX8_together 5 (some .int), Cond.methodLink RX8 48 yX8_many, Cond.instanceMethod yX8_many, Cond.selects RX8 yX8_many yX8_many, Cond.code yX8_many cX8_many 3 (some .int), Cond.methodLink RX8 52 yX8_weight, Cond.instanceMethod yX8_weight, Cond.selects RX8 yX8_weight yX8_weight, Cond.code yX8_weight cX8_weight 4 (some .int), Cond.methodLink RX8 59 yX8_size, Cond.static yX8_size, Cond.code yX8_size cX8_size 1 (some .int), Cond.methodLink RX8 106 yX8_endOf, Cond.instanceMethod yX8_endOf, Cond.selects RX8 yX8_endOf yX8_endOf, Cond.code yX8_endOf cX8_endOf 4 (some .int), Cond.fieldLink RX8 23 "StageLinesModel" "heights" "[I", Cond.methodLink RX8 100 yX8_layHeights]
def wsX8_crew_r3 : List Cond := [Cond.instanceMethod yX8_layHeights, Cond.selects RX8 yX8_layHeights yX8_layHeights, Cond.code yX8_layHeights cX8_layHeights 8 none, Cond.methodLink RX8 97 yX8_latest, Cond.instanceMethod yX8_latest, Cond.selects RX8 yX8_latest yX8_latest, Cond.code yX8_latest cX8_latest 5 (some .int), Cond.methodLink RX8 103 yX8_nextBegin, Cond.instanceMethod yX8_nextBegin, Cond.selects RX8 yX8_nextBegin yX8_nextBegin, Cond.code yX8_nextBegin cX8_nextBegin 4 (some .int), Cond.methodLink RX8 130 yX8_canBeOne, Cond.instanceMethod yX8_canBeOne, Cond.selects RX8 yX8_canBeOne yX8_canBeOne, Cond.code yX8_canBeOne cX8_canBeOne 4 (some .boolean), Cond.methodLink RX8 80 yX8_has, Cond.static yX8_has, Cond.code yX8_has cX8_has 2 (some .boolean), Cond.methodLink RX8 124 yX8_canDoBoth, Cond.instanceMethod yX8_canDoBoth, Cond.selects RX8 yX8_canDoBoth yX8_canDoBoth, Cond.code yX8_canDoBoth cX8_canDoBoth 4 (some .boolean), Cond.methodLink RX8 118 yX8_begin, Cond.instanceMethod yX8_begin]
def wsX8_crew_r4 : List Cond := [Cond.selects RX8 yX8_begin yX8_begin, Cond.code yX8_begin cX8_begin 2 (some .int), Cond.methodLink RX8 137 yX8_fits, Cond.instanceMethod yX8_fits, Cond.selects RX8 yX8_fits yX8_fits, Cond.code yX8_fits cX8_fits 3 (some .boolean)]
def wsX8_crew : List Cond := .code yX8_crew cX8_crew 6 (some .int) :: ((wsX8_crew_r1 ++ (wsX8_crew_r2 ++ (wsX8_crew_r3 ++ wsX8_crew_r4))) ++ wsX80)
def wsX8_image : List Cond := .code yX8_image cX8_image 3 (some .int) :: ([.fieldLink RX8 13 "StageLinesModel" "images" "[I", .fieldLink RX8 7 "StageLinesModel" "state" "[I", .fieldLink RX8 16 "StageLinesModel" "isKept" "[Z", .methodLink RX8 44 yX8_in, .static yX8_in, .initialized RX8, .code yX8_in cX8_in 3 (some .boolean)] ++ wsX80)
def wsX8_restore : List Cond := .code yX8_restore cX8_restore 3 (some .int) :: ([.fieldLink RX8 16 "StageLinesModel" "isKept" "[Z", .fieldLink RX8 7 "StageLinesModel" "state" "[I", .fieldLink RX8 13 "StageLinesModel" "images" "[I", .methodLink RX8 44 yX8_in, .static yX8_in, .initialized RX8, .code yX8_in cX8_in 3 (some .boolean)] ++ wsX80)
def wsX8_evenBars : List Cond := .code yX8_evenBars cX8_evenBars 3 (some .int) :: ([.methodLink RX8 70 yX8_isEven, .instanceMethod yX8_isEven, .selects RX8 yX8_isEven yX8_isEven, .initialized RX8, .code yX8_isEven cX8_isEven 2 (some .boolean), .fieldLink RX8 7 "StageLinesModel" "state" "[I", .methodLink RX8 56 yX8_together, .instanceMethod yX8_together, .selects RX8 yX8_together yX8_together, .code yX8_together cX8_together 5 (some .int), .methodLink RX8 48 yX8_many, .instanceMethod yX8_many, .selects RX8 yX8_many yX8_many, .code yX8_many cX8_many 3 (some .int), .methodLink RX8 52 yX8_weight, .instanceMethod yX8_weight, .selects RX8 yX8_weight yX8_weight, .code yX8_weight cX8_weight 4 (some .int), .methodLink RX8 59 yX8_size, .static yX8_size, .code yX8_size cX8_size 1 (some .int)] ++ wsX80)
def wsX8_nearPairs : List Cond := .code yX8_nearPairs cX8_nearPairs 4 (some .int) :: ([.methodLink RX8 109 yX8_areNear, .instanceMethod yX8_areNear, .selects RX8 yX8_areNear yX8_areNear, .initialized RX8, .code yX8_areNear cX8_areNear 3 (some .boolean), .fieldLink RX8 7 "StageLinesModel" "state" "[I", .methodLink RX8 59 yX8_size, .static yX8_size, .code yX8_size cX8_size 1 (some .int)] ++ wsX80)
def wsX8_lastEnd : List Cond := .code yX8_lastEnd cX8_lastEnd 4 (some .int) :: ([.fieldLink RX8 7 "StageLinesModel" "state" "[I", .methodLink RX8 106 yX8_endOf, .instanceMethod yX8_endOf, .selects RX8 yX8_endOf yX8_endOf, .initialized RX8, .code yX8_endOf cX8_endOf 4 (some .int), .fieldLink RX8 23 "StageLinesModel" "heights" "[I", .methodLink RX8 100 yX8_layHeights, .instanceMethod yX8_layHeights, .selects RX8 yX8_layHeights yX8_layHeights, .code yX8_layHeights cX8_layHeights 8 none, .methodLink RX8 97 yX8_latest, .instanceMethod yX8_latest, .selects RX8 yX8_latest yX8_latest, .code yX8_latest cX8_latest 5 (some .int), .methodLink RX8 59 yX8_size, .static yX8_size, .code yX8_size cX8_size 1 (some .int), .methodLink RX8 103 yX8_nextBegin, .instanceMethod yX8_nextBegin, .selects RX8 yX8_nextBegin yX8_nextBegin, .code yX8_nextBegin cX8_nextBegin 4 (some .int)] ++ wsX80)
def wsX8_count_r1 : List Cond := [Cond.fieldLink RX8 7 "StageLinesModel" "state" "[I", Cond.fieldLink RX8 16 "StageLinesModel" "isKept" "[Z", Cond.methodLink RX8 152 yX8_evenBars, Cond.instanceMethod yX8_evenBars, Cond.selects RX8 yX8_evenBars yX8_evenBars, Cond.initialized RX8, Cond.code yX8_evenBars cX8_evenBars 3 (some .int), Cond.methodLink RX8 70 yX8_isEven, Cond.instanceMethod yX8_isEven, Cond.selects RX8 yX8_isEven yX8_isEven, Cond.code yX8_isEven cX8_isEven 2 (some .boolean), Cond.methodLink RX8 56 yX8_together, Cond.instanceMethod yX8_together, Cond.selects RX8 yX8_together yX8_together, Cond.code yX8_together cX8_together 5 (some .int), Cond.methodLink RX8 48 yX8_many, Cond.instanceMethod yX8_many, Cond.selects RX8 yX8_many yX8_many, Cond.code yX8_many cX8_many 3 (some .int), Cond.methodLink RX8 52 yX8_weight, Cond.instanceMethod yX8_weight, Cond.selects RX8 yX8_weight yX8_weight, Cond.code yX8_weight cX8_weight 4 (some .int), Cond.methodLink RX8 59 yX8_size]
def wsX8_count_r2 : List Cond := [Cond.static yX8_size, Cond.code yX8_size cX8_size 1 (some .int), Cond.methodLink RX8 155 yX8_nearPairs, Cond.instanceMethod yX8_nearPairs, Cond.selects RX8 yX8_nearPairs yX8_nearPairs, Cond.code yX8_nearPairs cX8_nearPairs 4 (some .int), Cond.methodLink RX8 109 yX8_areNear, Cond.instanceMethod yX8_areNear, Cond.selects RX8 yX8_areNear yX8_areNear, Cond.code yX8_areNear cX8_areNear 3 (some .boolean), Cond.methodLink RX8 158 yX8_lastEnd, Cond.instanceMethod yX8_lastEnd, Cond.selects RX8 yX8_lastEnd yX8_lastEnd, Cond.code yX8_lastEnd cX8_lastEnd 4 (some .int), Cond.methodLink RX8 106 yX8_endOf, Cond.instanceMethod yX8_endOf, Cond.selects RX8 yX8_endOf yX8_endOf, Cond.code yX8_endOf cX8_endOf 4 (some .int), Cond.fieldLink RX8 23 "StageLinesModel" "heights" "[I", Cond.methodLink RX8 100 yX8_layHeights, Cond.instanceMethod yX8_layHeights, Cond.selects RX8 yX8_layHeights yX8_layHeights, Cond.code yX8_layHeights cX8_layHeights 8 none, Cond.methodLink RX8 97 yX8_latest]
def wsX8_count_r3 : List Cond := [Cond.instanceMethod yX8_latest, Cond.selects RX8 yX8_latest yX8_latest, Cond.code yX8_latest cX8_latest 5 (some .int), Cond.methodLink RX8 103 yX8_nextBegin, Cond.instanceMethod yX8_nextBegin, Cond.selects RX8 yX8_nextBegin yX8_nextBegin, Cond.code yX8_nextBegin cX8_nextBegin 4 (some .int)]
def wsX8_count : List Cond := .code yX8_count cX8_count 2 (some .int) :: ((wsX8_count_r1 ++ (wsX8_count_r2 ++ wsX8_count_r3)) ++ wsX80)
def wsJ9_abs_0f7a4 : List Cond := .code yJ9_abs_0f7a4 cJ9_abs_0f7a4 1 (some .int) :: ([])
def wsJ9_max_7cf53 : List Cond := .code yJ9_max_7cf53 cJ9_max_7cf53 2 (some .int) :: ([])
def wsJ9_min_7cf53 : List Cond := .code yJ9_min_7cf53 cJ9_min_7cf53 2 (some .int) :: ([])
def wsL_law_r1 : List Cond := [Cond.classLink RL 7 RX7, Cond.instantiable RX7 6, Cond.initialized RX7, Cond.classLink RL 10 RX8, Cond.instantiable RX8 13, Cond.initialized RX8, Cond.methodLink RL 9 yX7_init, Cond.instanceMethod yX7_init, Cond.code yX7_init cX7_init 2 none, Cond.methodLink RX7 3 objectInit, Cond.instanceMethod objectInit, Cond.code objectInit ⟨#[0xb1]⟩ 1 none, Cond.classLink RX7 9 RX6, Cond.instantiable RX6 4, Cond.initialized RX6, Cond.fieldLink RX7 12 "StageLines" "stage" "LStageLines$Stage;", Cond.fieldLink RX7 16 "StageLines" "images" "[LStageLines$Stage;", Cond.fieldLink RX7 20 "StageLines" "keptImages" "I", Cond.classLink RX7 24 RX3, Cond.instantiable RX3 5, Cond.initialized RX3, Cond.fieldLink RX7 27 "StageLines" "loader" "LStageLines$Loader;", Cond.classLink RX7 31 RX2, Cond.instantiable RX2 1]
def wsL_law_r2 : List Cond := [Cond.initialized RX2, Cond.fieldLink RX7 34 "StageLines" "flight" "LStageLines$Flight;", Cond.classLink RX7 38 RX1, Cond.instantiable RX1 7, Cond.initialized RX1, Cond.fieldLink RX7 41 "StageLines" "crewFinder" "LStageLines$CrewFinder;", Cond.methodLink RX7 11 yX6_init, Cond.instanceMethod yX6_init, Cond.code yX6_init cX6_init 2 none, Cond.methodLink RX6 3 objectInit, Cond.classLink RX6 9 RX0, Cond.fieldLink RX6 11 "StageLines$Stage" "bars" "[LStageLines$Bar;", Cond.classLink RX6 17 RX4, Cond.fieldLink RX6 19 "StageLines$Stage" "moves" "[LStageLines$Move;", Cond.fieldLink RX6 23 "StageLines$Stage" "moveCount" "I", Cond.fieldLink RX6 27 "StageLines$Stage" "sway" "I", Cond.instantiable RX0 3, Cond.initialized RX0, Cond.instantiable RX4 4, Cond.initialized RX4, Cond.instanceMethod yX0_init, Cond.code yX0_init cX0_init 1 none, Cond.methodLink RX0 3 objectInit, Cond.arrayClass .int]
def wsL_law_r3 : List Cond := [Cond.fieldLink RX0 9 "StageLines$Bar" "settings" "[I", Cond.classLink RX0 15 RX5, Cond.instantiable RX5 2, Cond.initialized RX5, Cond.fieldLink RX0 18 "StageLines$Bar" "pieces" "LStageLines$Pile;", Cond.fieldLink RX0 22 "StageLines$Bar" "bricks" "LStageLines$Pile;", Cond.instanceMethod yX5_init, Cond.code yX5_init cX5_init 1 none, Cond.methodLink RX5 3 objectInit, Cond.fieldLink RX5 9 "StageLines$Pile" "weights" "[I", Cond.fieldLink RX5 15 "StageLines$Pile" "size" "I", Cond.instanceMethod yX4_init, Cond.code yX4_init cX4_init 1 none, Cond.methodLink RX4 1 objectInit, Cond.fieldLink RX4 7 "StageLines$Move" "bar" "I", Cond.fieldLink RX4 13 "StageLines$Move" "begin" "I", Cond.fieldLink RX4 16 "StageLines$Move" "target" "I", Cond.fieldLink RX4 19 "StageLines$Move" "pace" "I", Cond.instanceMethod yX3_init, Cond.code yX3_init cX3_init 1 none, Cond.methodLink RX3 3 objectInit, Cond.fieldLink RX3 9 "StageLines$Loader" "pieceSums" "[I", Cond.fieldLink RX3 15 "StageLines$Loader" "brickSums" "[I", Cond.fieldLink RX3 18 "StageLines$Loader" "orders" "[I"]
def wsL_law_r4 : List Cond := [Cond.fieldLink RX3 21 "StageLines$Loader" "pieceCount" "I", Cond.fieldLink RX3 25 "StageLines$Loader" "brickCount" "I", Cond.instanceMethod yX2_init, Cond.code yX2_init cX2_init 1 none, Cond.methodLink RX2 3 objectInit, Cond.classLink RX2 9 "[[I", Cond.fieldLink RX2 11 "StageLines$Flight" "heights" "[[I", Cond.instanceMethod yX1_init, Cond.code yX1_init cX1_init 1 none, Cond.methodLink RX1 3 objectInit, Cond.fieldLink RX1 9 "StageLines$CrewFinder" "least" "I", Cond.fieldLink RX1 15 "StageLines$CrewFinder" "handOf" "[I", Cond.arrayClass .boolean, Cond.fieldLink RX1 19 "StageLines$CrewFinder" "doable" "[Z", Cond.fieldLink RX1 23 "StageLines$CrewFinder" "ends" "[I", Cond.fieldLink RX1 26 "StageLines$CrewFinder" "foes" "[I", Cond.fieldLink RX1 29 "StageLines$CrewFinder" "doneBy" "[I", Cond.fieldLink RX1 32 "StageLines$CrewFinder" "size" "I", Cond.methodLink RL 12 yX8_init, Cond.instanceMethod yX8_init, Cond.code yX8_init cX8_init 2 none, Cond.methodLink RX8 1 objectInit, Cond.fieldLink RX8 7 "StageLinesModel" "state" "[I", Cond.fieldLink RX8 13 "StageLinesModel" "images" "[I"]
def wsL_law_r5 : List Cond := [Cond.fieldLink RX8 16 "StageLinesModel" "isKept" "[Z", Cond.fieldLink RX8 20 "StageLinesModel" "ways" "[I", Cond.fieldLink RX8 23 "StageLinesModel" "heights" "[I", Cond.fieldLink RX8 26 "StageLinesModel" "rows" "[I", Cond.fieldLink RX8 29 "StageLinesModel" "able" "[I", Cond.fieldLink RX8 32 "StageLinesModel" "ends" "[I", Cond.fieldLink RX8 35 "StageLinesModel" "isOne" "[Z", Cond.fieldLink RX8 38 "StageLinesModel" "least" "[I", Cond.fieldLink RX8 41 "StageLinesModel" "hand" "[I", Cond.methodLink RL 13 yX7_set, Cond.instanceMethod yX7_set, Cond.selects RX7 yX7_set yX7_set, Cond.code yX7_set cX7_set 5 (some .int), Cond.fieldLink RX7 53 "StageLines" "GREATEST_SETTING" "[I", Cond.fieldLink RX7 57 "StageLines$Stage" "sway" "I", Cond.fieldLink RX7 60 "StageLines$Stage" "bars" "[LStageLines$Bar;", Cond.fieldLink RX7 64 "StageLines$Bar" "settings" "[I", Cond.methodLink RX7 45 yX7_isBar, Cond.static yX7_isBar, Cond.code yX7_isBar cX7_isBar 1 (some .boolean), Cond.methodLink RX7 49 yX7_within, Cond.static yX7_within, Cond.code yX7_within cX7_within 3 (some .boolean), Cond.methodLink RL 17 yX8_set]
def wsL_law_r6 : List Cond := [Cond.instanceMethod yX8_set, Cond.selects RX8 yX8_set yX8_set, Cond.code yX8_set cX8_set 6 (some .int), Cond.methodLink RX8 63 yX8_isBar, Cond.static yX8_isBar, Cond.code yX8_isBar cX8_isBar 1 (some .boolean), Cond.methodLink RX8 44 yX8_in, Cond.static yX8_in, Cond.code yX8_in cX8_in 3 (some .boolean), Cond.methodLink RL 18 yX7_load, Cond.instanceMethod yX7_load, Cond.selects RX7 yX7_load yX7_load, Cond.code yX7_load cX7_load 5 (some .int), Cond.fieldLink RX7 73 "StageLines$Pile" "size" "I", Cond.methodLink RX7 69 yX0_pileOf, Cond.instanceMethod yX0_pileOf, Cond.selects RX0 yX0_pileOf yX0_pileOf, Cond.code yX0_pileOf cX0_pileOf 2 (some (.object "StageLines$Pile")), Cond.methodLink RX7 78 yX5_add, Cond.instanceMethod yX5_add, Cond.selects RX5 yX5_add yX5_add, Cond.code yX5_add cX5_add 2 none, Cond.methodLink RL 21 yX8_load, Cond.instanceMethod yX8_load]
def wsL_law_r7 : List Cond := [Cond.selects RX8 yX8_load yX8_load, Cond.code yX8_load cX8_load 5 (some .int), Cond.methodLink RX8 48 yX8_many, Cond.instanceMethod yX8_many, Cond.selects RX8 yX8_many yX8_many, Cond.code yX8_many cX8_many 3 (some .int), Cond.methodLink RL 22 yX7_take, Cond.instanceMethod yX7_take, Cond.selects RX7 yX7_take yX7_take, Cond.code yX7_take cX7_take 5 (some .int), Cond.methodLink RX7 82 yX5_remove, Cond.instanceMethod yX5_remove, Cond.selects RX5 yX5_remove yX5_remove, Cond.code yX5_remove cX5_remove 4 (some .int), Cond.methodLink RL 25 yX8_take, Cond.instanceMethod yX8_take, Cond.selects RX8 yX8_take yX8_take, Cond.code yX8_take cX8_take 6 (some .int), Cond.methodLink RX8 52 yX8_weight, Cond.instanceMethod yX8_weight, Cond.selects RX8 yX8_weight yX8_weight, Cond.code yX8_weight cX8_weight 4 (some .int), Cond.methodLink RL 26 yX7_bar, Cond.instanceMethod yX7_bar]
def wsL_law_r8 : List Cond := [Cond.selects RX7 yX7_bar yX7_bar, Cond.code yX7_bar cX7_bar 4 (some .int), Cond.fieldLink RX7 86 "StageLines$Bar" "pieces" "LStageLines$Pile;", Cond.fieldLink RX7 93 "StageLines$Bar" "bricks" "LStageLines$Pile;", Cond.methodLink RX7 90 yX5_weightOf, Cond.instanceMethod yX5_weightOf, Cond.selects RX5 yX5_weightOf yX5_weightOf, Cond.code yX5_weightOf cX5_weightOf 2 (some .int), Cond.methodLink RX7 96 yX5_total, Cond.instanceMethod yX5_total, Cond.selects RX5 yX5_total yX5_total, Cond.code yX5_total cX5_total 3 (some .int), Cond.methodLink RX7 100 yX0_isEven, Cond.instanceMethod yX0_isEven, Cond.selects RX0 yX0_isEven yX0_isEven, Cond.code yX0_isEven cX0_isEven 2 (some .boolean), Cond.methodLink RX0 29 Lib.Math.abs.name, Cond.static Lib.Math.abs.name, Cond.initialized "java/lang/Math", Cond.code Lib.Math.abs.name Lib.Math.abs.code 1 (some .int), Cond.methodLink RX0 25 yX5_total, Cond.methodLink RX7 103 yX6_movesOf, Cond.instanceMethod yX6_movesOf, Cond.selects RX6 yX6_movesOf yX6_movesOf]
def wsL_law_r9 : List Cond := [Cond.code yX6_movesOf cX6_movesOf 4 (some .int), Cond.fieldLink RX6 39 "StageLines$Move" "bar" "I", Cond.methodLink RL 30 yX8_bar, Cond.instanceMethod yX8_bar, Cond.selects RX8 yX8_bar yX8_bar, Cond.code yX8_bar cX8_bar 3 (some .int), Cond.methodLink RX8 67 yX8_thing, Cond.instanceMethod yX8_thing, Cond.selects RX8 yX8_thing yX8_thing, Cond.code yX8_thing cX8_thing 4 (some .int), Cond.methodLink RX8 56 yX8_together, Cond.instanceMethod yX8_together, Cond.selects RX8 yX8_together yX8_together, Cond.code yX8_together cX8_together 5 (some .int), Cond.methodLink RX8 70 yX8_isEven, Cond.instanceMethod yX8_isEven, Cond.selects RX8 yX8_isEven yX8_isEven, Cond.code yX8_isEven cX8_isEven 2 (some .boolean), Cond.methodLink RX8 59 yX8_size, Cond.static yX8_size, Cond.code yX8_size cX8_size 1 (some .int), Cond.methodLink RX8 73 yX8_movesOf, Cond.instanceMethod yX8_movesOf, Cond.selects RX8 yX8_movesOf yX8_movesOf]
def wsL_law_r10 : List Cond := [Cond.code yX8_movesOf cX8_movesOf 4 (some .int), Cond.methodLink RL 31 yX7_loading, Cond.instanceMethod yX7_loading, Cond.selects RX7 yX7_loading yX7_loading, Cond.code yX7_loading cX7_loading 3 (some .int), Cond.methodLink RX7 106 yX3_reckon, Cond.instanceMethod yX3_reckon, Cond.selects RX3 yX3_reckon yX3_reckon, Cond.code yX3_reckon cX3_reckon 6 none, Cond.fieldLink RX3 28 "StageLines$Bar" "pieces" "LStageLines$Pile;", Cond.fieldLink RX3 34 "StageLines$Pile" "size" "I", Cond.fieldLink RX3 39 "StageLines$Bar" "bricks" "LStageLines$Pile;", Cond.methodLink RX3 46 Lib.Math.abs.name, Cond.methodLink RX3 42 yX3_fillSums, Cond.static yX3_fillSums, Cond.code yX3_fillSums cX3_fillSums 5 none, Cond.fieldLink RX3 66 "StageLines$Pile" "weights" "[I", Cond.methodLink RX3 52 yX3_indexOf, Cond.static yX3_indexOf, Cond.code yX3_indexOf cX3_indexOf 2 (some .int), Cond.methodLink RX3 56 yX3_ordersBehind, Cond.instanceMethod yX3_ordersBehind, Cond.selects RX3 yX3_ordersBehind yX3_ordersBehind, Cond.code yX3_ordersBehind cX3_ordersBehind 5 (some .int)]
def wsL_law_r11 : List Cond := [Cond.methodLink RX7 110 yX3_allOrders, Cond.instanceMethod yX3_allOrders, Cond.selects RX3 yX3_allOrders yX3_allOrders, Cond.code yX3_allOrders cX3_allOrders 1 (some .int), Cond.methodLink RX7 113 yX3_things, Cond.instanceMethod yX3_things, Cond.selects RX3 yX3_things yX3_things, Cond.code yX3_things cX3_things 1 (some .int), Cond.methodLink RX7 116 yX3_placed, Cond.instanceMethod yX3_placed, Cond.selects RX3 yX3_placed yX3_placed, Cond.code yX3_placed cX3_placed 6 (some .int), Cond.methodLink RX3 59 yX3_things, Cond.methodLink RX3 63 yX3_leastBehind, Cond.instanceMethod yX3_leastBehind, Cond.selects RX3 yX3_leastBehind yX3_leastBehind, Cond.code yX3_leastBehind cX3_leastBehind 4 (some .int), Cond.methodLink RL 34 yX8_loading, Cond.instanceMethod yX8_loading, Cond.selects RX8 yX8_loading yX8_loading, Cond.code yX8_loading cX8_loading 6 (some .int), Cond.fieldLink RX8 76 "StageLinesModel" "things" "I", Cond.methodLink RX8 87 yX8_layWays, Cond.instanceMethod yX8_layWays]
def wsL_law_r12 : List Cond := [Cond.selects RX8 yX8_layWays yX8_layWays, Cond.code yX8_layWays cX8_layWays 6 none, Cond.methodLink RX8 80 yX8_has, Cond.static yX8_has, Cond.code yX8_has cX8_has 2 (some .boolean), Cond.methodLink RX8 84 yX8_pull, Cond.instanceMethod yX8_pull, Cond.selects RX8 yX8_pull yX8_pull, Cond.code yX8_pull cX8_pull 3 (some .int), Cond.methodLink RL 35 yX7_loadings, Cond.instanceMethod yX7_loadings, Cond.selects RX7 yX7_loadings yX7_loadings, Cond.code yX7_loadings cX7_loadings 2 (some .int), Cond.methodLink RL 39 yX8_loadings, Cond.instanceMethod yX8_loadings, Cond.selects RX8 yX8_loadings yX8_loadings, Cond.code yX8_loadings cX8_loadings 2 (some .int), Cond.methodLink RL 40 yX7_move, Cond.instanceMethod yX7_move, Cond.selects RX7 yX7_move yX7_move, Cond.code yX7_move cX7_move 5 (some .int), Cond.fieldLink RX7 123 "StageLines$Stage" "moveCount" "I", Cond.methodLink RX7 119 yX6_moveAt, Cond.instanceMethod yX6_moveAt]
def wsL_law_r13 : List Cond := [Cond.selects RX6 yX6_moveAt yX6_moveAt, Cond.code yX6_moveAt cX6_moveAt 4 (some .int), Cond.fieldLink RX6 42 "StageLines$Move" "begin" "I", Cond.methodLink RX6 51 yX6_firstMoveFrom, Cond.instanceMethod yX6_firstMoveFrom, Cond.selects RX6 yX6_firstMoveFrom yX6_firstMoveFrom, Cond.code yX6_firstMoveFrom cX6_firstMoveFrom 6 (some .int), Cond.methodLink RX7 126 yX6_addMove, Cond.instanceMethod yX6_addMove, Cond.selects RX6 yX6_addMove yX6_addMove, Cond.code yX6_addMove cX6_addMove 6 (some .int), Cond.fieldLink RX6 45 "StageLines$Move" "target" "I", Cond.fieldLink RX6 48 "StageLines$Move" "pace" "I", Cond.methodLink RL 44 yX8_move, Cond.instanceMethod yX8_move, Cond.selects RX8 yX8_move yX8_move, Cond.code yX8_move cX8_move 6 (some .int), Cond.methodLink RX8 91 yX8_moveAt, Cond.instanceMethod yX8_moveAt, Cond.selects RX8 yX8_moveAt yX8_moveAt, Cond.code yX8_moveAt cX8_moveAt 5 (some .int), Cond.methodLink RL 45 yX7_drop, Cond.instanceMethod yX7_drop, Cond.selects RX7 yX7_drop yX7_drop]
def wsL_law_r14 : List Cond := [Cond.code yX7_drop cX7_drop 2 (some .int), Cond.methodLink RX7 130 yX7_isMove, Cond.instanceMethod yX7_isMove, Cond.selects RX7 yX7_isMove yX7_isMove, Cond.code yX7_isMove cX7_isMove 2 (some .boolean), Cond.methodLink RX7 133 yX6_removeMove, Cond.instanceMethod yX6_removeMove, Cond.selects RX6 yX6_removeMove yX6_removeMove, Cond.code yX6_removeMove cX6_removeMove 3 none, Cond.methodLink RX6 36 yX4_copyFrom, Cond.instanceMethod yX4_copyFrom, Cond.selects RX4 yX4_copyFrom yX4_copyFrom, Cond.code yX4_copyFrom cX4_copyFrom 2 none, Cond.methodLink RL 48 yX8_drop, Cond.instanceMethod yX8_drop, Cond.selects RX8 yX8_drop yX8_drop, Cond.code yX8_drop cX8_drop 4 (some .int), Cond.methodLink RX8 94 yX8_isMove, Cond.instanceMethod yX8_isMove, Cond.selects RX8 yX8_isMove yX8_isMove, Cond.code yX8_isMove cX8_isMove 2 (some .boolean), Cond.methodLink RL 49 yX7_shift, Cond.instanceMethod yX7_shift, Cond.selects RX7 yX7_shift yX7_shift]
def wsL_law_r15 : List Cond := [Cond.code yX7_shift cX7_shift 6 (some .int), Cond.fieldLink RX7 136 "StageLines$Stage" "moves" "[LStageLines$Move;", Cond.fieldLink RX7 140 "StageLines$Move" "begin" "I", Cond.fieldLink RX7 145 "StageLines$Move" "bar" "I", Cond.methodLink RL 52 yX8_shift, Cond.instanceMethod yX8_shift, Cond.selects RX8 yX8_shift yX8_shift, Cond.code yX8_shift cX8_shift 5 (some .int), Cond.methodLink RL 53 yX7_told, Cond.instanceMethod yX7_told, Cond.selects RX7 yX7_told yX7_told, Cond.code yX7_told cX7_told 4 (some .int), Cond.fieldLink RX7 148 "StageLines$Move" "target" "I", Cond.fieldLink RX7 151 "StageLines$Move" "pace" "I", Cond.fieldLink RX7 161 "StageLines$CrewFinder" "handOf" "[I", Cond.methodLink RX7 154 yX7_flownBy, Cond.instanceMethod yX7_flownBy, Cond.selects RX7 yX7_flownBy yX7_flownBy, Cond.code yX7_flownBy cX7_flownBy 6 (some .int), Cond.fieldLink RX7 171 "StageLines$Flight" "heights" "[[I", Cond.methodLink RX7 167 yX2_trace, Cond.instanceMethod yX2_trace, Cond.selects RX2 yX2_trace yX2_trace, Cond.code yX2_trace cX2_trace 7 none]
def wsL_law_r16 : List Cond := [Cond.fieldLink RX2 16 "StageLines$Stage" "bars" "[LStageLines$Bar;", Cond.fieldLink RX2 22 "StageLines$Bar" "settings" "[I", Cond.fieldLink RX2 32 "StageLines$Stage" "moves" "[LStageLines$Move;", Cond.fieldLink RX2 36 "StageLines$Move" "begin" "I", Cond.methodLink RX2 28 yX6_firstMoveFrom, Cond.methodLink RX2 42 yX4_stepFrom, Cond.instanceMethod yX4_stepFrom, Cond.selects RX4 yX4_stepFrom yX4_stepFrom, Cond.code yX4_stepFrom cX4_stepFrom 2 (some .int), Cond.methodLink RX4 22 Lib.Math.abs.name, Cond.methodLink RX7 220 yX2_endOf, Cond.instanceMethod yX2_endOf, Cond.selects RX2 yX2_endOf yX2_endOf, Cond.code yX2_endOf cX2_endOf 7 (some .int), Cond.fieldLink RX2 50 "StageLines$Move" "bar" "I", Cond.fieldLink RX2 53 "StageLines$Move" "target" "I", Cond.methodLink RX7 157 yX1_gather, Cond.instanceMethod yX1_gather, Cond.selects RX1 yX1_gather yX1_gather, Cond.code yX1_gather cX1_gather 4 none, Cond.fieldLink RX1 35 "StageLines$Stage" "moveCount" "I", Cond.methodLink RX1 40 yX2_traceAll, Cond.instanceMethod yX2_traceAll, Cond.selects RX2 yX2_traceAll yX2_traceAll]
def wsL_law_r17 : List Cond := [Cond.code yX2_traceAll cX2_traceAll 3 none, Cond.methodLink RX2 46 yX2_trace, Cond.methodLink RX1 46 yX6_isDoable, Cond.instanceMethod yX6_isDoable, Cond.selects RX6 yX6_isDoable yX6_isDoable, Cond.code yX6_isDoable cX6_isDoable 2 (some .boolean), Cond.methodLink RX6 65 yX0_isEven, Cond.methodLink RX1 50 yX2_endOf, Cond.methodLink RX1 54 yX1_foesOf, Cond.instanceMethod yX1_foesOf, Cond.selects RX1 yX1_foesOf yX1_foesOf, Cond.code yX1_foesOf cX1_foesOf 5 (some .int), Cond.methodLink RX1 87 yX1_reaches, Cond.instanceMethod yX1_reaches, Cond.selects RX1 yX1_reaches yX1_reaches, Cond.code yX1_reaches cX1_reaches 5 (some .boolean), Cond.fieldLink RX1 66 "StageLines$Stage" "moves" "[LStageLines$Move;", Cond.fieldLink RX1 91 "StageLines$Move" "bar" "I", Cond.methodLink RX1 94 Lib.Math.abs.name, Cond.fieldLink RX1 70 "StageLines$Move" "begin" "I", Cond.methodLink RX1 57 yJ7_fill_53178, Cond.static yJ7_fill_53178, Cond.initialized RJ7, Cond.code yJ7_fill_53178 cJ7_fill_53178 4 none]
def wsL_law_r18 : List Cond := [Cond.methodLink RX1 63 yX1_giveFrom, Cond.instanceMethod yX1_giveFrom, Cond.selects RX1 yX1_giveFrom yX1_giveFrom, Cond.code yX1_giveFrom cX1_giveFrom 4 (some .boolean), Cond.methodLink RL 56 yX8_told, Cond.instanceMethod yX8_told, Cond.selects RX8 yX8_told yX8_told, Cond.code yX8_told cX8_told 3 (some .int), Cond.methodLink RX8 106 yX8_endOf, Cond.instanceMethod yX8_endOf, Cond.selects RX8 yX8_endOf yX8_endOf, Cond.code yX8_endOf cX8_endOf 4 (some .int), Cond.methodLink RX8 100 yX8_layHeights, Cond.instanceMethod yX8_layHeights, Cond.selects RX8 yX8_layHeights yX8_layHeights, Cond.code yX8_layHeights cX8_layHeights 8 none, Cond.methodLink RX8 97 yX8_latest, Cond.instanceMethod yX8_latest, Cond.selects RX8 yX8_latest yX8_latest, Cond.code yX8_latest cX8_latest 5 (some .int), Cond.methodLink RX8 103 yX8_nextBegin, Cond.instanceMethod yX8_nextBegin, Cond.selects RX8 yX8_nextBegin yX8_nextBegin, Cond.code yX8_nextBegin cX8_nextBegin 4 (some .int)]
def wsL_law_r19 : List Cond := [Cond.methodLink RX8 143 yX8_isCut, Cond.instanceMethod yX8_isCut, Cond.selects RX8 yX8_isCut yX8_isCut, Cond.code yX8_isCut cX8_isCut 2 (some .boolean), Cond.methodLink RX8 146 yX8_handOf, Cond.instanceMethod yX8_handOf, Cond.selects RX8 yX8_handOf yX8_handOf, Cond.code yX8_handOf cX8_handOf 4 (some .int), Cond.fieldLink RX8 121 "StageLinesModel" "ables" "I", Cond.methodLink RX8 140 yX8_layCrew, Cond.instanceMethod yX8_layCrew, Cond.selects RX8 yX8_layCrew yX8_layCrew, Cond.code yX8_layCrew cX8_layCrew 3 none, Cond.methodLink RX8 133 yX8_layHands, Cond.instanceMethod yX8_layHands, Cond.selects RX8 yX8_layHands yX8_layHands, Cond.code yX8_layHands cX8_layHands 4 (some .int), Cond.methodLink RX8 127 yX8_layAble, Cond.instanceMethod yX8_layAble, Cond.selects RX8 yX8_layAble yX8_layAble, Cond.code yX8_layAble cX8_layAble 2 none, Cond.methodLink RX8 130 yX8_canBeOne, Cond.instanceMethod yX8_canBeOne, Cond.selects RX8 yX8_canBeOne yX8_canBeOne]
def wsL_law_r20 : List Cond := [Cond.code yX8_canBeOne cX8_canBeOne 4 (some .boolean), Cond.methodLink RX8 124 yX8_canDoBoth, Cond.instanceMethod yX8_canDoBoth, Cond.selects RX8 yX8_canDoBoth yX8_canDoBoth, Cond.code yX8_canDoBoth cX8_canDoBoth 4 (some .boolean), Cond.methodLink RX8 118 yX8_begin, Cond.instanceMethod yX8_begin, Cond.selects RX8 yX8_begin yX8_begin, Cond.code yX8_begin cX8_begin 2 (some .int), Cond.methodLink RX8 137 yX8_fits, Cond.instanceMethod yX8_fits, Cond.selects RX8 yX8_fits yX8_fits, Cond.code yX8_fits cX8_fits 3 (some .boolean), Cond.methodLink RL 57 yX7_height, Cond.instanceMethod yX7_height, Cond.selects RX7 yX7_height yX7_height, Cond.code yX7_height cX7_height 3 (some .int), Cond.methodLink RX7 164 yX7_isTime, Cond.static yX7_isTime, Cond.code yX7_isTime cX7_isTime 1 (some .boolean), Cond.methodLink RL 60 yX8_height, Cond.instanceMethod yX8_height, Cond.selects RX8 yX8_height yX8_height, Cond.code yX8_height cX8_height 3 (some .int)]
def wsL_law_r21 : List Cond := [Cond.methodLink RL 61 yX7_strike, Cond.instanceMethod yX7_strike, Cond.selects RX7 yX7_strike yX7_strike, Cond.code yX7_strike cX7_strike 4 (some .int), Cond.methodLink RX7 175 yX2_canStrike, Cond.instanceMethod yX2_canStrike, Cond.selects RX2 yX2_canStrike yX2_canStrike, Cond.code yX2_canStrike cX2_canStrike 5 (some .boolean), Cond.methodLink RX2 56 yX6_areNear, Cond.instanceMethod yX6_areNear, Cond.selects RX6 yX6_areNear yX6_areNear, Cond.code yX6_areNear cX6_areNear 3 (some .boolean), Cond.methodLink RX6 55 Lib.Math.abs.name, Cond.fieldLink RX6 61 "StageLines$Bar" "settings" "[I", Cond.methodLink RX7 179 yX2_overlap, Cond.instanceMethod yX2_overlap, Cond.selects RX2 yX2_overlap yX2_overlap, Cond.code yX2_overlap cX2_overlap 9 (some .boolean), Cond.methodLink RX2 60 Lib.Math.max.name, Cond.static Lib.Math.max.name, Cond.code Lib.Math.max.name Lib.Math.max.code 2 (some .int), Cond.methodLink RX2 65 Lib.Math.min.name, Cond.static Lib.Math.min.name, Cond.code Lib.Math.min.name Lib.Math.min.code 2 (some .int)]
def wsL_law_r22 : List Cond := [Cond.methodLink RL 64 yX8_strike, Cond.instanceMethod yX8_strike, Cond.selects RX8 yX8_strike yX8_strike, Cond.code yX8_strike cX8_strike 4 (some .int), Cond.methodLink RX8 112 yX8_layRows, Cond.instanceMethod yX8_layRows, Cond.selects RX8 yX8_layRows yX8_layRows, Cond.code yX8_layRows cX8_layRows 3 none, Cond.methodLink RX8 115 yX8_doStrike, Cond.instanceMethod yX8_doStrike, Cond.selects RX8 yX8_doStrike yX8_doStrike, Cond.code yX8_doStrike cX8_doStrike 7 (some .boolean), Cond.methodLink RX8 109 yX8_areNear, Cond.instanceMethod yX8_areNear, Cond.selects RX8 yX8_areNear yX8_areNear, Cond.code yX8_areNear cX8_areNear 3 (some .boolean), Cond.methodLink RL 65 yX7_clash, Cond.instanceMethod yX7_clash, Cond.selects RX7 yX7_clash yX7_clash, Cond.code yX7_clash cX7_clash 9 (some .int), Cond.methodLink RX7 183 yX2_traceAll, Cond.methodLink RX7 187 yX2_firstStrike, Cond.instanceMethod yX2_firstStrike, Cond.selects RX2 yX2_firstStrike yX2_firstStrike]
def wsL_law_r23 : List Cond := [Cond.code yX2_firstStrike cX2_firstStrike 7 (some .int), Cond.methodLink RX2 68 yX2_canStrike, Cond.methodLink RX2 72 yX2_overlap, Cond.methodLink RL 68 yX8_clash, Cond.instanceMethod yX8_clash, Cond.selects RX8 yX8_clash yX8_clash, Cond.code yX8_clash cX8_clash 6 (some .int), Cond.methodLink RL 69 yX7_often, Cond.instanceMethod yX7_often, Cond.selects RX7 yX7_often yX7_often, Cond.code yX7_often cX7_often 3 (some .int), Cond.methodLink RX7 191 yX2_strikesOf, Cond.instanceMethod yX2_strikesOf, Cond.selects RX2 yX2_strikesOf yX2_strikesOf, Cond.code yX2_strikesOf cX2_strikesOf 6 (some .int), Cond.methodLink RL 72 yX8_often, Cond.instanceMethod yX8_often, Cond.selects RX8 yX8_often yX8_often, Cond.code yX8_often cX8_often 5 (some .int), Cond.methodLink RL 73 yX7_hands, Cond.instanceMethod yX7_hands, Cond.selects RX7 yX7_hands yX7_hands, Cond.code yX7_hands cX7_hands 2 (some .int), Cond.fieldLink RX7 195 "StageLines$CrewFinder" "least" "I"]
def wsL_law_r24 : List Cond := [Cond.methodLink RX7 198 yX1_doableCount, Cond.instanceMethod yX1_doableCount, Cond.selects RX1 yX1_doableCount yX1_doableCount, Cond.code yX1_doableCount cX1_doableCount 3 (some .int), Cond.methodLink RX7 201 yX1_mostAtOnce, Cond.instanceMethod yX1_mostAtOnce, Cond.selects RX1 yX1_mostAtOnce yX1_mostAtOnce, Cond.code yX1_mostAtOnce cX1_mostAtOnce 4 (some .int), Cond.methodLink RX1 78 Lib.Math.max.name, Cond.methodLink RX1 75 yX1_doneAt, Cond.instanceMethod yX1_doneAt, Cond.selects RX1 yX1_doneAt yX1_doneAt, Cond.code yX1_doneAt cX1_doneAt 5 (some .int), Cond.methodLink RL 76 yX8_hands, Cond.instanceMethod yX8_hands, Cond.selects RX8 yX8_hands yX8_hands, Cond.code yX8_hands cX8_hands 3 (some .int), Cond.methodLink RX8 149 yX8_mostAtOnce, Cond.instanceMethod yX8_mostAtOnce, Cond.selects RX8 yX8_mostAtOnce yX8_mostAtOnce, Cond.code yX8_mostAtOnce cX8_mostAtOnce 5 (some .int), Cond.methodLink RL 77 yX7_crew, Cond.instanceMethod yX7_crew, Cond.selects RX7 yX7_crew yX7_crew]
def wsL_law_r25 : List Cond := [Cond.code yX7_crew cX7_crew 3 (some .int), Cond.methodLink RX7 205 yX1_turn, Cond.instanceMethod yX1_turn, Cond.selects RX1 yX1_turn yX1_turn, Cond.code yX1_turn cX1_turn 5 (some .int), Cond.methodLink RX1 84 yX1_turnsAhead, Cond.instanceMethod yX1_turnsAhead, Cond.selects RX1 yX1_turnsAhead yX1_turnsAhead, Cond.code yX1_turnsAhead cX1_turnsAhead 5 (some .int), Cond.methodLink RL 80 yX8_crew, Cond.instanceMethod yX8_crew, Cond.selects RX8 yX8_crew yX8_crew, Cond.code yX8_crew cX8_crew 6 (some .int), Cond.methodLink RL 81 yX7_image, Cond.instanceMethod yX7_image, Cond.selects RX7 yX7_image yX7_image, Cond.code yX7_image cX7_image 2 (some .int), Cond.methodLink RX7 208 yX6_copyFrom, Cond.instanceMethod yX6_copyFrom, Cond.selects RX6 yX6_copyFrom yX6_copyFrom, Cond.code yX6_copyFrom cX6_copyFrom 3 none, Cond.methodLink RX6 32 yX0_copyFrom, Cond.instanceMethod yX0_copyFrom, Cond.selects RX0 yX0_copyFrom yX0_copyFrom]
def wsL_law_r26 : List Cond := [Cond.code yX0_copyFrom cX0_copyFrom 2 none, Cond.methodLink RX0 35 arraycopyName, Cond.native arraycopyName, Cond.static arraycopyName, Cond.initialized "java/lang/System", Cond.methodLink RX0 41 yX5_copyFrom, Cond.instanceMethod yX5_copyFrom, Cond.selects RX5 yX5_copyFrom yX5_copyFrom, Cond.code yX5_copyFrom cX5_copyFrom 2 none, Cond.methodLink RX5 19 arraycopyName, Cond.methodLink RL 84 yX8_image, Cond.instanceMethod yX8_image, Cond.selects RX8 yX8_image yX8_image, Cond.code yX8_image cX8_image 3 (some .int), Cond.methodLink RL 85 yX7_restore, Cond.instanceMethod yX7_restore, Cond.selects RX7 yX7_restore yX7_restore, Cond.code yX7_restore cX7_restore 2 (some .int), Cond.methodLink RL 88 yX8_restore, Cond.instanceMethod yX8_restore, Cond.selects RX8 yX8_restore yX8_restore, Cond.code yX8_restore cX8_restore 3 (some .int), Cond.methodLink RL 89 yX7_count, Cond.instanceMethod yX7_count]
def wsL_law_r27 : List Cond := [Cond.selects RX7 yX7_count yX7_count, Cond.code yX7_count cX7_count 2 (some .int), Cond.methodLink RX7 211 yX6_evenBars, Cond.instanceMethod yX6_evenBars, Cond.selects RX6 yX6_evenBars yX6_evenBars, Cond.code yX6_evenBars cX6_evenBars 3 (some .int), Cond.methodLink RX7 214 yX6_nearPairs, Cond.instanceMethod yX6_nearPairs, Cond.selects RX6 yX6_nearPairs yX6_nearPairs, Cond.code yX6_nearPairs cX6_nearPairs 4 (some .int), Cond.methodLink RX6 69 yX6_areNear, Cond.methodLink RX7 217 yX7_lastEnd, Cond.instanceMethod yX7_lastEnd, Cond.selects RX7 yX7_lastEnd yX7_lastEnd, Cond.code yX7_lastEnd cX7_lastEnd 3 (some .int), Cond.methodLink RX7 224 Lib.Math.max.name, Cond.methodLink RL 92 yX8_count, Cond.instanceMethod yX8_count, Cond.selects RX8 yX8_count yX8_count, Cond.code yX8_count cX8_count 2 (some .int), Cond.methodLink RX8 152 yX8_evenBars, Cond.instanceMethod yX8_evenBars, Cond.selects RX8 yX8_evenBars yX8_evenBars, Cond.code yX8_evenBars cX8_evenBars 3 (some .int)]
def wsL_law_r28 : List Cond := [Cond.methodLink RX8 155 yX8_nearPairs, Cond.instanceMethod yX8_nearPairs, Cond.selects RX8 yX8_nearPairs yX8_nearPairs, Cond.code yX8_nearPairs cX8_nearPairs 4 (some .int), Cond.methodLink RX8 158 yX8_lastEnd, Cond.instanceMethod yX8_lastEnd, Cond.selects RX8 yX8_lastEnd yX8_lastEnd, Cond.code yX8_lastEnd cX8_lastEnd 4 (some .int)]
def wsL_law : List Cond := (wsL_law_r1 ++ (wsL_law_r2 ++ (wsL_law_r3 ++ (wsL_law_r4 ++ (wsL_law_r5 ++ (wsL_law_r6 ++ (wsL_law_r7 ++ (wsL_law_r8 ++ (wsL_law_r9 ++ (wsL_law_r10 ++ (wsL_law_r11 ++ (wsL_law_r12 ++ (wsL_law_r13 ++ (wsL_law_r14 ++ (wsL_law_r15 ++ (wsL_law_r16 ++ (wsL_law_r17 ++ (wsL_law_r18 ++ (wsL_law_r19 ++ (wsL_law_r20 ++ (wsL_law_r21 ++ (wsL_law_r22 ++ (wsL_law_r23 ++ (wsL_law_r24 ++ (wsL_law_r25 ++ (wsL_law_r26 ++ (wsL_law_r27 ++ wsL_law_r28))))))))))))))))))))))))))) ++ wsX70 ++ wsX80 ++ wsX60 ++ wsX30 ++ wsX20 ++ wsX10 ++ wsX00 ++ wsX40 ++ wsX50 ++ ([] : List Cond)
set_option maxRecDepth 20000 in
theorem wsL_law_r1_in : ∀ w ∈ wsL_law_r1, w ∈ lw_tbl := mem_r [53, 54, 41, 553, 554, 49, 55, 56, 57, 58, 59, 60, 61, 62, 42, 229, 230, 231, 163, 164, 46, 232, 185, 186] (by decide +kernel)
set_option maxRecDepth 20000 in
theorem wsL_law_r2_in : ∀ w ∈ wsL_law_r2, w ∈ lw_tbl := mem_r [47, 233, 198, 199, 48, 234, 63, 64, 65, 66, 67, 141, 69, 144, 148, 151, 71, 43, 110, 45, 73, 74, 75, 92] (by decide +kernel)
set_option maxRecDepth 20000 in
theorem wsL_law_r3_in : ∀ w ∈ wsL_law_r3, w ∈ lw_tbl := mem_r [93, 76, 77, 44, 97, 100, 79, 80, 81, 82, 84, 112, 113, 114, 115, 120, 125, 129, 166, 167, 168, 169, 170, 171] (by decide +kernel)
set_option maxRecDepth 20000 in
theorem wsL_law_r4_in : ∀ w ∈ wsL_law_r4, w ∈ lw_tbl := mem_r [172, 173, 188, 189, 190, 191, 193, 201, 202, 203, 204, 206, 228, 208, 209, 210, 211, 212, 555, 556, 557, 558, 559, 560] (by decide +kernel)
set_option maxRecDepth 20000 in
theorem wsL_law_r5_in : ∀ w ∈ wsL_law_r5, w ∈ lw_tbl := mem_r [561, 562, 564, 565, 566, 567, 569, 570, 571, 248, 249, 250, 251, 258, 152, 143, 95, 252, 253, 254, 255, 256, 257, 599] (by decide +kernel)
set_option maxRecDepth 20000 in
theorem wsL_law_r6_in : ∀ w ∈ wsL_law_r6, w ∈ lw_tbl := mem_r [600, 601, 602, 603, 604, 605, 606, 607, 608, 260, 261, 262, 263, 86, 264, 265, 266, 267, 268, 269, 270, 271, 609, 610] (by decide +kernel)
set_option maxRecDepth 20000 in
theorem wsL_law_r7_in : ∀ w ∈ wsL_law_r7, w ∈ lw_tbl := mem_r [611, 612, 613, 615, 10, 616, 272, 273, 274, 275, 276, 277, 278, 279, 617, 618, 619, 620, 621, 623, 11, 624, 280, 281] (by decide +kernel)
set_option maxRecDepth 20000 in
theorem wsL_law_r8_in : ∀ w ∈ wsL_law_r8, w ∈ lw_tbl := mem_r [282, 283, 99, 102, 284, 285, 286, 287, 288, 289, 290, 291, 292, 293, 294, 295, 297, 298, 50, 299, 296, 300, 301, 302] (by decide +kernel)
set_option maxRecDepth 20000 in
theorem wsL_law_r9_in : ∀ w ∈ wsL_law_r9, w ∈ lw_tbl := mem_r [303, 116, 625, 626, 627, 628, 629, 631, 12, 632, 633, 635, 13, 636, 637, 639, 14, 640, 641, 642, 643, 644, 646, 15] (by decide +kernel)
set_option maxRecDepth 20000 in
theorem wsL_law_r10_in : ∀ w ∈ wsL_law_r10, w ∈ lw_tbl := mem_r [647, 304, 305, 306, 307, 308, 309, 310, 311, 98, 85, 101, 315, 312, 313, 314, 83, 316, 317, 318, 319, 321, 0, 322] (by decide +kernel)
set_option maxRecDepth 20000 in
theorem wsL_law_r11_in : ∀ w ∈ wsL_law_r11, w ∈ lw_tbl := mem_r [323, 324, 325, 326, 327, 328, 329, 330, 331, 332, 333, 334, 335, 336, 338, 1, 339, 648, 649, 650, 651, 563, 652, 654] (by decide +kernel)
set_option maxRecDepth 20000 in
theorem wsL_law_r12_in : ∀ w ∈ wsL_law_r12, w ∈ lw_tbl := mem_r [16, 655, 656, 657, 658, 659, 661, 17, 662, 340, 341, 342, 343, 663, 664, 665, 666, 344, 345, 346, 347, 150, 348, 349] (by decide +kernel)
set_option maxRecDepth 20000 in
theorem wsL_law_r13_in : ∀ w ∈ wsL_law_r13, w ∈ lw_tbl := mem_r [350, 351, 122, 352, 353, 354, 355, 356, 357, 358, 359, 126, 130, 667, 668, 669, 670, 671, 673, 18, 674, 360, 361, 362] (by decide +kernel)
set_option maxRecDepth 20000 in
theorem wsL_law_r14_in : ∀ w ∈ wsL_law_r14, w ∈ lw_tbl := mem_r [363, 364, 366, 2, 367, 368, 369, 370, 371, 372, 373, 374, 375, 675, 676, 677, 678, 679, 681, 19, 682, 376, 377, 378] (by decide +kernel)
set_option maxRecDepth 20000 in
theorem wsL_law_r15_in : ∀ w ∈ wsL_law_r15, w ∈ lw_tbl := mem_r [379, 147, 124, 119, 683, 684, 685, 686, 380, 381, 382, 383, 128, 131, 207, 384, 386, 3, 387, 194, 388, 389, 390, 391] (by decide +kernel)
set_option maxRecDepth 20000 in
theorem wsL_law_r16_in : ∀ w ∈ wsL_law_r16, w ∈ lw_tbl := mem_r [142, 94, 145, 121, 392, 393, 394, 395, 396, 397, 398, 399, 400, 401, 117, 127, 402, 403, 404, 405, 149, 406, 407, 408] (by decide +kernel)
set_option maxRecDepth 20000 in
theorem wsL_law_r17_in : ∀ w ∈ wsL_law_r17, w ∈ lw_tbl := mem_r [409, 410, 411, 412, 413, 414, 415, 416, 417, 419, 4, 420, 421, 423, 5, 424, 146, 118, 425, 123, 426, 427, 51, 428] (by decide +kernel)
set_option maxRecDepth 20000 in
theorem wsL_law_r18_in : ∀ w ∈ wsL_law_r18, w ∈ lw_tbl := mem_r [429, 431, 6, 432, 723, 724, 725, 726, 727, 729, 25, 730, 691, 693, 20, 694, 695, 697, 21, 698, 731, 733, 26, 734] (by decide +kernel)
set_option maxRecDepth 20000 in
theorem wsL_law_r19_in : ∀ w ∈ wsL_law_r19, w ∈ lw_tbl := mem_r [735, 737, 27, 738, 739, 741, 28, 742, 568, 743, 745, 29, 746, 747, 749, 30, 750, 751, 753, 31, 754, 755, 757, 32] (by decide +kernel)
set_option maxRecDepth 20000 in
theorem wsL_law_r20_in : ∀ w ∈ wsL_law_r20, w ∈ lw_tbl := mem_r [758, 759, 761, 33, 762, 763, 765, 34, 766, 767, 769, 35, 770, 433, 434, 435, 436, 437, 438, 439, 687, 688, 689, 690] (by decide +kernel)
set_option maxRecDepth 20000 in
theorem wsL_law_r21_in : ∀ w ∈ wsL_law_r21, w ∈ lw_tbl := mem_r [440, 441, 442, 443, 444, 445, 446, 447, 448, 449, 450, 451, 452, 96, 453, 454, 455, 456, 457, 458, 459, 460, 461, 462] (by decide +kernel)
set_option maxRecDepth 20000 in
theorem wsL_law_r22_in : ∀ w ∈ wsL_law_r22, w ∈ lw_tbl := mem_r [699, 700, 701, 702, 703, 705, 22, 706, 707, 709, 23, 710, 711, 713, 24, 714, 463, 464, 465, 466, 467, 468, 469, 470] (by decide +kernel)
set_option maxRecDepth 20000 in
theorem wsL_law_r23_in : ∀ w ∈ wsL_law_r23, w ∈ lw_tbl := mem_r [471, 472, 473, 715, 716, 717, 718, 474, 475, 476, 477, 478, 479, 480, 481, 719, 720, 721, 722, 482, 483, 484, 485, 205] (by decide +kernel)
set_option maxRecDepth 20000 in
theorem wsL_law_r24_in : ∀ w ∈ wsL_law_r24, w ∈ lw_tbl := mem_r [486, 487, 488, 489, 490, 491, 492, 493, 498, 494, 496, 7, 497, 771, 772, 773, 774, 775, 777, 36, 778, 499, 500, 501] (by decide +kernel)
set_option maxRecDepth 20000 in
theorem wsL_law_r25_in : ∀ w ∈ wsL_law_r25, w ∈ lw_tbl := mem_r [502, 503, 504, 505, 506, 507, 509, 8, 510, 779, 780, 781, 782, 511, 512, 513, 514, 515, 516, 517, 518, 519, 520, 521] (by decide +kernel)
set_option maxRecDepth 20000 in
theorem wsL_law_r26_in : ∀ w ∈ wsL_law_r26, w ∈ lw_tbl := mem_r [522, 523, 525, 524, 52, 526, 527, 528, 529, 530, 783, 784, 785, 786, 531, 532, 533, 534, 787, 788, 789, 790, 535, 536] (by decide +kernel)
set_option maxRecDepth 20000 in
theorem wsL_law_r27_in : ∀ w ∈ wsL_law_r27, w ∈ lw_tbl := mem_r [537, 538, 539, 540, 541, 542, 543, 544, 545, 546, 547, 548, 550, 9, 551, 552, 791, 792, 793, 794, 795, 797, 37, 798] (by decide +kernel)
set_option maxRecDepth 20000 in
theorem wsL_law_r28_in : ∀ w ∈ wsL_law_r28, w ∈ lw_tbl := mem_r [799, 801, 38, 802, 803, 805, 39, 806] (by decide +kernel)
set_option maxRecDepth 20000 in
theorem wsX70_in : ∀ w ∈ wsX70, w ∈ lw_tbl := mem_r [235, 237, 239, 241, 243, 245] (by decide +kernel)
set_option maxRecDepth 20000 in
theorem wsX80_in : ∀ w ∈ wsX80, w ∈ lw_tbl := mem_r [572, 574, 576, 578, 580, 582, 584, 586, 588, 590, 592, 594, 596] (by decide +kernel)
set_option maxRecDepth 20000 in
theorem wsX60_in : ∀ w ∈ wsX60, w ∈ lw_tbl := mem_r [153, 155, 157, 159] (by decide +kernel)
set_option maxRecDepth 20000 in
theorem wsX30_in : ∀ w ∈ wsX30, w ∈ lw_tbl := mem_r [174, 176, 178, 180, 182] (by decide +kernel)
set_option maxRecDepth 20000 in
theorem wsX20_in : ∀ w ∈ wsX20, w ∈ lw_tbl := mem_r [195] (by decide +kernel)
set_option maxRecDepth 20000 in
theorem wsX10_in : ∀ w ∈ wsX10, w ∈ lw_tbl := mem_r [213, 215, 217, 219, 221, 223, 225] (by decide +kernel)
set_option maxRecDepth 20000 in
theorem wsX00_in : ∀ w ∈ wsX00, w ∈ lw_tbl := mem_r [103, 105, 107] (by decide +kernel)
set_option maxRecDepth 20000 in
theorem wsX40_in : ∀ w ∈ wsX40, w ∈ lw_tbl := mem_r [132, 134, 136, 138] (by decide +kernel)
set_option maxRecDepth 20000 in
theorem wsX50_in : ∀ w ∈ wsX50, w ∈ lw_tbl := mem_r [87, 89] (by decide +kernel)
set_option maxRecDepth 20000 in
theorem wsL_law_in : ∀ w ∈ wsL_law, w ∈ lw_tbl := by
  show ∀ w ∈ (wsL_law_r1 ++ (wsL_law_r2 ++ (wsL_law_r3 ++ (wsL_law_r4 ++ (wsL_law_r5 ++ (wsL_law_r6 ++ (wsL_law_r7 ++ (wsL_law_r8 ++ (wsL_law_r9 ++ (wsL_law_r10 ++ (wsL_law_r11 ++ (wsL_law_r12 ++ (wsL_law_r13 ++ (wsL_law_r14 ++ (wsL_law_r15 ++ (wsL_law_r16 ++ (wsL_law_r17 ++ (wsL_law_r18 ++ (wsL_law_r19 ++ (wsL_law_r20 ++ (wsL_law_r21 ++ (wsL_law_r22 ++ (wsL_law_r23 ++ (wsL_law_r24 ++ (wsL_law_r25 ++ (wsL_law_r26 ++ (wsL_law_r27 ++ wsL_law_r28))))))))))))))))))))))))))) ++ wsX70 ++ wsX80 ++ wsX60 ++ wsX30 ++ wsX20 ++ wsX10 ++ wsX00 ++ wsX40 ++ wsX50 ++ ([] : List Cond), w ∈ lw_tbl
  exact List.forall_mem_append.mpr ⟨List.forall_mem_append.mpr ⟨List.forall_mem_append.mpr ⟨List.forall_mem_append.mpr ⟨List.forall_mem_append.mpr ⟨List.forall_mem_append.mpr ⟨List.forall_mem_append.mpr ⟨List.forall_mem_append.mpr ⟨List.forall_mem_append.mpr ⟨List.forall_mem_append.mpr ⟨(List.forall_mem_append.mpr ⟨wsL_law_r1_in, List.forall_mem_append.mpr ⟨wsL_law_r2_in, List.forall_mem_append.mpr ⟨wsL_law_r3_in, List.forall_mem_append.mpr ⟨wsL_law_r4_in, List.forall_mem_append.mpr ⟨wsL_law_r5_in, List.forall_mem_append.mpr ⟨wsL_law_r6_in, List.forall_mem_append.mpr ⟨wsL_law_r7_in, List.forall_mem_append.mpr ⟨wsL_law_r8_in, List.forall_mem_append.mpr ⟨wsL_law_r9_in, List.forall_mem_append.mpr ⟨wsL_law_r10_in, List.forall_mem_append.mpr ⟨wsL_law_r11_in, List.forall_mem_append.mpr ⟨wsL_law_r12_in, List.forall_mem_append.mpr ⟨wsL_law_r13_in, List.forall_mem_append.mpr ⟨wsL_law_r14_in, List.forall_mem_append.mpr ⟨wsL_law_r15_in, List.forall_mem_append.mpr ⟨wsL_law_r16_in, List.forall_mem_append.mpr ⟨wsL_law_r17_in, List.forall_mem_append.mpr ⟨wsL_law_r18_in, List.forall_mem_append.mpr ⟨wsL_law_r19_in, List.forall_mem_append.mpr ⟨wsL_law_r20_in, List.forall_mem_append.mpr ⟨wsL_law_r21_in, List.forall_mem_append.mpr ⟨wsL_law_r22_in, List.forall_mem_append.mpr ⟨wsL_law_r23_in, List.forall_mem_append.mpr ⟨wsL_law_r24_in, List.forall_mem_append.mpr ⟨wsL_law_r25_in, List.forall_mem_append.mpr ⟨wsL_law_r26_in, List.forall_mem_append.mpr ⟨wsL_law_r27_in, wsL_law_r28_in⟩⟩⟩⟩⟩⟩⟩⟩⟩⟩⟩⟩⟩⟩⟩⟩⟩⟩⟩⟩⟩⟩⟩⟩⟩⟩⟩), wsX70_in⟩, wsX80_in⟩, wsX60_in⟩, wsX30_in⟩, wsX20_in⟩, wsX10_in⟩, wsX00_in⟩, wsX40_in⟩, wsX50_in⟩, fun _ h => absurd h List.not_mem_nil⟩
theorem inlX0 : ∀ w ∈ wsX00, w ∈ wsL_law := fun _ h => List.mem_append_left _ (List.mem_append_left _ (List.mem_append_left _ (List.mem_append_right _ h)))
theorem inX0 : ∀ w ∈ wsX00, w ∈ lw_tbl := fun w h => wsL_law_in w (inlX0 w h)
theorem inlX1 : ∀ w ∈ wsX10, w ∈ wsL_law := fun _ h => List.mem_append_left _ (List.mem_append_left _ (List.mem_append_left _ (List.mem_append_left _ (List.mem_append_right _ h))))
theorem inX1 : ∀ w ∈ wsX10, w ∈ lw_tbl := fun w h => wsL_law_in w (inlX1 w h)
theorem inlX2 : ∀ w ∈ wsX20, w ∈ wsL_law := fun _ h => List.mem_append_left _ (List.mem_append_left _ (List.mem_append_left _ (List.mem_append_left _ (List.mem_append_left _ (List.mem_append_right _ h)))))
theorem inX2 : ∀ w ∈ wsX20, w ∈ lw_tbl := fun w h => wsL_law_in w (inlX2 w h)
theorem inlX3 : ∀ w ∈ wsX30, w ∈ wsL_law := fun _ h => List.mem_append_left _ (List.mem_append_left _ (List.mem_append_left _ (List.mem_append_left _ (List.mem_append_left _ (List.mem_append_left _ (List.mem_append_right _ h))))))
theorem inX3 : ∀ w ∈ wsX30, w ∈ lw_tbl := fun w h => wsL_law_in w (inlX3 w h)
theorem inlX4 : ∀ w ∈ wsX40, w ∈ wsL_law := fun _ h => List.mem_append_left _ (List.mem_append_left _ (List.mem_append_right _ h))
theorem inX4 : ∀ w ∈ wsX40, w ∈ lw_tbl := fun w h => wsL_law_in w (inlX4 w h)
theorem inlX5 : ∀ w ∈ wsX50, w ∈ wsL_law := fun _ h => List.mem_append_left _ (List.mem_append_right _ h)
theorem inX5 : ∀ w ∈ wsX50, w ∈ lw_tbl := fun w h => wsL_law_in w (inlX5 w h)
theorem inlX6 : ∀ w ∈ wsX60, w ∈ wsL_law := fun _ h => List.mem_append_left _ (List.mem_append_left _ (List.mem_append_left _ (List.mem_append_left _ (List.mem_append_left _ (List.mem_append_left _ (List.mem_append_left _ (List.mem_append_right _ h)))))))
theorem inX6 : ∀ w ∈ wsX60, w ∈ lw_tbl := fun w h => wsL_law_in w (inlX6 w h)
theorem inlX7 : ∀ w ∈ wsX70, w ∈ wsL_law := fun _ h => List.mem_append_left _ (List.mem_append_left _ (List.mem_append_left _ (List.mem_append_left _ (List.mem_append_left _ (List.mem_append_left _ (List.mem_append_left _ (List.mem_append_left _ (List.mem_append_left _ (List.mem_append_right _ h)))))))))
theorem inX7 : ∀ w ∈ wsX70, w ∈ lw_tbl := fun w h => wsL_law_in w (inlX7 w h)
theorem inlX8 : ∀ w ∈ wsX80, w ∈ wsL_law := fun _ h => List.mem_append_left _ (List.mem_append_left _ (List.mem_append_left _ (List.mem_append_left _ (List.mem_append_left _ (List.mem_append_left _ (List.mem_append_left _ (List.mem_append_left _ (List.mem_append_right _ h))))))))
theorem inX8 : ∀ w ∈ wsX80, w ∈ lw_tbl := fun w h => wsL_law_in w (inlX8 w h)
end
section
set_option maxRecDepth 20000 in
theorem ggX0_init_X5_init : GoodIn wsX0_init wsX5_init := goodIn_r _ [12, 13, 2, 3, 4, 14, 15, 19, 20] (by decide +kernel) (by decide +kernel)
set_option maxRecDepth 20000 in
theorem gX0_init_X5_init_n17 : GoodIn wsX0_init (wsX5_init) := ggX0_init_X5_init
theorem dX0_init_0 : decode cX0_init 0 = .ok (.aload_n 0, 1) := by decide +kernel
theorem dX0_init_1 : decode cX0_init 1 = .ok (.invokespecial 3, 3) := by decide +kernel
theorem dX0_init_4 : decode cX0_init 4 = .ok (.aload_n 0, 1) := by decide +kernel
theorem dX0_init_5 : decode cX0_init 5 = .ok (.iconst 3, 1) := by decide +kernel
theorem dX0_init_6 : decode cX0_init 6 = .ok (.newarray .int, 2) := by decide +kernel
theorem dX0_init_8 : decode cX0_init 8 = .ok (.dup, 1) := by decide +kernel
theorem dX0_init_9 : decode cX0_init 9 = .ok (.iconst 0, 1) := by decide +kernel
theorem dX0_init_10 : decode cX0_init 10 = .ok (.bipush 60, 2) := by decide +kernel
theorem dX0_init_12 : decode cX0_init 12 = .ok (.iastore, 1) := by decide +kernel
theorem dX0_init_13 : decode cX0_init 13 = .ok (.dup, 1) := by decide +kernel
theorem dX0_init_14 : decode cX0_init 14 = .ok (.iconst 1, 1) := by decide +kernel
theorem dX0_init_15 : decode cX0_init 15 = .ok (.iconst 0, 1) := by decide +kernel
theorem dX0_init_16 : decode cX0_init 16 = .ok (.iastore, 1) := by decide +kernel
theorem dX0_init_17 : decode cX0_init 17 = .ok (.dup, 1) := by decide +kernel
theorem dX0_init_18 : decode cX0_init 18 = .ok (.iconst 2, 1) := by decide +kernel
theorem dX0_init_19 : decode cX0_init 19 = .ok (.iconst 0, 1) := by decide +kernel
theorem dX0_init_20 : decode cX0_init 20 = .ok (.iastore, 1) := by decide +kernel
theorem dX0_init_21 : decode cX0_init 21 = .ok (.putfield 9, 3) := by decide +kernel
theorem dX0_init_24 : decode cX0_init 24 = .ok (.aload_n 0, 1) := by decide +kernel
theorem dX0_init_25 : decode cX0_init 25 = .ok (.new 15, 3) := by decide +kernel
theorem dX0_init_28 : decode cX0_init 28 = .ok (.dup, 1) := by decide +kernel
theorem dX0_init_29 : decode cX0_init 29 = .ok (.invokespecial 17, 3) := by decide +kernel
theorem dX0_init_32 : decode cX0_init 32 = .ok (.putfield 18, 3) := by decide +kernel
theorem dX0_init_35 : decode cX0_init 35 = .ok (.aload_n 0, 1) := by decide +kernel
theorem dX0_init_36 : decode cX0_init 36 = .ok (.new 15, 3) := by decide +kernel
theorem dX0_init_39 : decode cX0_init 39 = .ok (.dup, 1) := by decide +kernel
theorem dX0_init_40 : decode cX0_init 40 = .ok (.invokespecial 17, 3) := by decide +kernel
theorem dX0_init_43 : decode cX0_init 43 = .ok (.putfield 22, 3) := by decide +kernel
theorem dX0_init_46 : decode cX0_init 46 = .ok (.return_, 1) := by decide +kernel
theorem dX0_pileOf_0 : decode cX0_pileOf 0 = .ok (.iload_n 1, 1) := by decide +kernel
theorem dX0_pileOf_1 : decode cX0_pileOf 1 = .ok (.ifCond .ne 10, 3) := by decide +kernel
theorem dX0_pileOf_4 : decode cX0_pileOf 4 = .ok (.aload_n 0, 1) := by decide +kernel
theorem dX0_pileOf_5 : decode cX0_pileOf 5 = .ok (.getfield 18, 3) := by decide +kernel
theorem dX0_pileOf_8 : decode cX0_pileOf 8 = .ok (.goto 7, 3) := by decide +kernel
theorem dX0_pileOf_11 : decode cX0_pileOf 11 = .ok (.aload_n 0, 1) := by decide +kernel
theorem dX0_pileOf_12 : decode cX0_pileOf 12 = .ok (.getfield 22, 3) := by decide +kernel
theorem dX0_pileOf_15 : decode cX0_pileOf 15 = .ok (.areturn, 1) := by decide +kernel
set_option maxRecDepth 20000 in
theorem ggX0_isEven_X5_total : GoodIn wsX0_isEven wsX5_total := goodIn_r _ [11, 12, 13, 17, 18] (by decide +kernel) (by decide +kernel)
set_option maxRecDepth 20000 in
theorem gX0_isEven_X5_total : GoodIn wsX0_isEven (wsV RX0 25 RX5 yX5_total wsX5_total) := goodIn_app (goodIn_of _ (by decide +kernel)) ggX0_isEven_X5_total
theorem dX0_isEven_0 : decode cX0_isEven 0 = .ok (.aload_n 0, 1) := by decide +kernel
theorem dX0_isEven_1 : decode cX0_isEven 1 = .ok (.getfield 18, 3) := by decide +kernel
theorem dX0_isEven_4 : decode cX0_isEven 4 = .ok (.invokevirtual 25, 3) := by decide +kernel
theorem dX0_isEven_7 : decode cX0_isEven 7 = .ok (.aload_n 0, 1) := by decide +kernel
theorem dX0_isEven_8 : decode cX0_isEven 8 = .ok (.getfield 22, 3) := by decide +kernel
theorem dX0_isEven_11 : decode cX0_isEven 11 = .ok (.invokevirtual 25, 3) := by decide +kernel
theorem dX0_isEven_14 : decode cX0_isEven 14 = .ok (.isub, 1) := by decide +kernel
theorem dX0_isEven_15 : decode cX0_isEven 15 = .ok (.invokestatic 29, 3) := by decide +kernel
theorem dX0_isEven_18 : decode cX0_isEven 18 = .ok (.iload_n 1, 1) := by decide +kernel
theorem dX0_isEven_19 : decode cX0_isEven 19 = .ok (.if_icmp .gt 7, 3) := by decide +kernel
theorem dX0_isEven_22 : decode cX0_isEven 22 = .ok (.iconst 1, 1) := by decide +kernel
theorem dX0_isEven_23 : decode cX0_isEven 23 = .ok (.goto 4, 3) := by decide +kernel
theorem dX0_isEven_26 : decode cX0_isEven 26 = .ok (.iconst 0, 1) := by decide +kernel
theorem dX0_isEven_27 : decode cX0_isEven 27 = .ok (.ireturn, 1) := by decide +kernel
set_option maxRecDepth 20000 in
theorem ggX0_copyFrom_X5_copyFrom : GoodIn wsX0_copyFrom wsX5_copyFrom := goodIn_r _ [12, 13, 14, 3, 4, 5, 15, 19, 20] (by decide +kernel) (by decide +kernel)
set_option maxRecDepth 20000 in
theorem gX0_copyFrom_X5_copyFrom : GoodIn wsX0_copyFrom (wsV RX0 41 RX5 yX5_copyFrom wsX5_copyFrom) := goodIn_app (goodIn_of _ (by decide +kernel)) ggX0_copyFrom_X5_copyFrom
theorem dX0_copyFrom_0 : decode cX0_copyFrom 0 = .ok (.aload_n 1, 1) := by decide +kernel
theorem dX0_copyFrom_1 : decode cX0_copyFrom 1 = .ok (.getfield 9, 3) := by decide +kernel
theorem dX0_copyFrom_4 : decode cX0_copyFrom 4 = .ok (.iconst 0, 1) := by decide +kernel
theorem dX0_copyFrom_5 : decode cX0_copyFrom 5 = .ok (.aload_n 0, 1) := by decide +kernel
theorem dX0_copyFrom_6 : decode cX0_copyFrom 6 = .ok (.getfield 9, 3) := by decide +kernel
theorem dX0_copyFrom_9 : decode cX0_copyFrom 9 = .ok (.iconst 0, 1) := by decide +kernel
theorem dX0_copyFrom_10 : decode cX0_copyFrom 10 = .ok (.aload_n 0, 1) := by decide +kernel
theorem dX0_copyFrom_11 : decode cX0_copyFrom 11 = .ok (.getfield 9, 3) := by decide +kernel
theorem dX0_copyFrom_14 : decode cX0_copyFrom 14 = .ok (.arraylength, 1) := by decide +kernel
theorem dX0_copyFrom_15 : decode cX0_copyFrom 15 = .ok (.invokestatic 35, 3) := by decide +kernel
theorem dX0_copyFrom_18 : decode cX0_copyFrom 18 = .ok (.aload_n 0, 1) := by decide +kernel
theorem dX0_copyFrom_19 : decode cX0_copyFrom 19 = .ok (.getfield 18, 3) := by decide +kernel
theorem dX0_copyFrom_22 : decode cX0_copyFrom 22 = .ok (.aload_n 1, 1) := by decide +kernel
theorem dX0_copyFrom_23 : decode cX0_copyFrom 23 = .ok (.getfield 18, 3) := by decide +kernel
theorem dX0_copyFrom_26 : decode cX0_copyFrom 26 = .ok (.invokevirtual 41, 3) := by decide +kernel
theorem dX0_copyFrom_29 : decode cX0_copyFrom 29 = .ok (.aload_n 0, 1) := by decide +kernel
theorem dX0_copyFrom_30 : decode cX0_copyFrom 30 = .ok (.getfield 22, 3) := by decide +kernel
theorem dX0_copyFrom_33 : decode cX0_copyFrom 33 = .ok (.aload_n 1, 1) := by decide +kernel
theorem dX0_copyFrom_34 : decode cX0_copyFrom 34 = .ok (.getfield 22, 3) := by decide +kernel
theorem dX0_copyFrom_37 : decode cX0_copyFrom 37 = .ok (.invokevirtual 41, 3) := by decide +kernel
theorem dX0_copyFrom_40 : decode cX0_copyFrom 40 = .ok (.return_, 1) := by decide +kernel
theorem dX1_init_0 : decode cX1_init 0 = .ok (.aload_n 0, 1) := by decide +kernel
theorem dX1_init_1 : decode cX1_init 1 = .ok (.invokespecial 3, 3) := by decide +kernel
theorem dX1_init_4 : decode cX1_init 4 = .ok (.aload_n 0, 1) := by decide +kernel
theorem dX1_init_5 : decode cX1_init 5 = .ok (.iconst 0, 1) := by decide +kernel
theorem dX1_init_6 : decode cX1_init 6 = .ok (.putfield 9, 3) := by decide +kernel
theorem dX1_init_9 : decode cX1_init 9 = .ok (.aload_n 0, 1) := by decide +kernel
theorem dX1_init_10 : decode cX1_init 10 = .ok (.bipush 10, 2) := by decide +kernel
theorem dX1_init_12 : decode cX1_init 12 = .ok (.newarray .int, 2) := by decide +kernel
theorem dX1_init_14 : decode cX1_init 14 = .ok (.putfield 15, 3) := by decide +kernel
theorem dX1_init_17 : decode cX1_init 17 = .ok (.aload_n 0, 1) := by decide +kernel
theorem dX1_init_18 : decode cX1_init 18 = .ok (.bipush 10, 2) := by decide +kernel
theorem dX1_init_20 : decode cX1_init 20 = .ok (.newarray .boolean, 2) := by decide +kernel
theorem dX1_init_22 : decode cX1_init 22 = .ok (.putfield 19, 3) := by decide +kernel
theorem dX1_init_25 : decode cX1_init 25 = .ok (.aload_n 0, 1) := by decide +kernel
theorem dX1_init_26 : decode cX1_init 26 = .ok (.bipush 10, 2) := by decide +kernel
theorem dX1_init_28 : decode cX1_init 28 = .ok (.newarray .int, 2) := by decide +kernel
theorem dX1_init_30 : decode cX1_init 30 = .ok (.putfield 23, 3) := by decide +kernel
theorem dX1_init_33 : decode cX1_init 33 = .ok (.aload_n 0, 1) := by decide +kernel
theorem dX1_init_34 : decode cX1_init 34 = .ok (.bipush 10, 2) := by decide +kernel
theorem dX1_init_36 : decode cX1_init 36 = .ok (.newarray .int, 2) := by decide +kernel
theorem dX1_init_38 : decode cX1_init 38 = .ok (.putfield 26, 3) := by decide +kernel
theorem dX1_init_41 : decode cX1_init 41 = .ok (.aload_n 0, 1) := by decide +kernel
theorem dX1_init_42 : decode cX1_init 42 = .ok (.bipush 10, 2) := by decide +kernel
theorem dX1_init_44 : decode cX1_init 44 = .ok (.newarray .int, 2) := by decide +kernel
theorem dX1_init_46 : decode cX1_init 46 = .ok (.putfield 29, 3) := by decide +kernel
theorem dX1_init_49 : decode cX1_init 49 = .ok (.aload_n 0, 1) := by decide +kernel
theorem dX1_init_50 : decode cX1_init 50 = .ok (.iconst 0, 1) := by decide +kernel
theorem dX1_init_51 : decode cX1_init 51 = .ok (.putfield 32, 3) := by decide +kernel
theorem dX1_init_54 : decode cX1_init 54 = .ok (.return_, 1) := by decide +kernel
set_option maxRecDepth 20000 in
theorem ggX1_gather_X2_traceAll : GoodIn wsX1_gather wsX2_traceAll := goodIn_r _ [12, 13, 14, 15, 11, 16, 17, 18, 19, 20, 21, 22, 23, 24, 25, 26, 27, 28, 29, 30, 31, 32, 33, 34, 35, 36, 37, 38, 39, 40, 41, 102, 91, 92, 93, 94, 103, 104, 105, 106, 107, 108, 109] (by decide +kernel) (by decide +kernel)
set_option maxRecDepth 20000 in
theorem gX1_gather_X2_traceAll : GoodIn wsX1_gather (wsV RX1 40 RX2 yX2_traceAll wsX2_traceAll) := goodIn_app (goodIn_of _ (by decide +kernel)) ggX1_gather_X2_traceAll
set_option maxRecDepth 20000 in
theorem ggX1_gather_X6_isDoable : GoodIn wsX1_gather wsX6_isDoable := goodIn_r _ [45, 46, 28, 29, 47, 48, 49, 50, 51, 52, 53, 54, 55, 38, 39, 40, 56, 57, 58, 59, 60, 61, 62, 91, 92, 93, 94, 106, 107, 108, 109, 103, 104, 105, 110, 111] (by decide +kernel) (by decide +kernel)
set_option maxRecDepth 20000 in
theorem gX1_gather_X6_isDoable : GoodIn wsX1_gather (wsV RX1 46 RX6 yX6_isDoable wsX6_isDoable) := goodIn_app (goodIn_of _ (by decide +kernel)) ggX1_gather_X6_isDoable
set_option maxRecDepth 20000 in
theorem ggX1_gather_X2_endOf : GoodIn wsX1_gather wsX2_endOf := goodIn_r _ [66, 20, 67, 21, 17, 68, 22, 23, 24, 25, 26, 27, 28, 29, 30, 91, 92, 93, 94, 106, 107, 108, 109, 102] (by decide +kernel) (by decide +kernel)
set_option maxRecDepth 20000 in
theorem gX1_gather_X2_endOf : GoodIn wsX1_gather (wsV RX1 50 RX2 yX2_endOf wsX2_endOf) := goodIn_app (goodIn_of _ (by decide +kernel)) ggX1_gather_X2_endOf
set_option maxRecDepth 20000 in
theorem ggX1_gather_X1_foesOf : GoodIn wsX1_gather wsX1_foesOf := goodIn_r _ [73, 2, 74, 75, 76, 72, 77, 78, 79, 80, 38, 39, 40, 4, 81, 95, 96, 97, 98, 99, 100, 101, 91, 92, 93, 94, 106, 107, 108, 109] (by decide +kernel) (by decide +kernel)
set_option maxRecDepth 20000 in
theorem gX1_gather_X1_foesOf : GoodIn wsX1_gather (wsV RX1 54 RX1 yX1_foesOf wsX1_foesOf) := goodIn_app (goodIn_of _ (by decide +kernel)) ggX1_gather_X1_foesOf
set_option maxRecDepth 20000 in
theorem ggX1_gather_J7_fill_53178 : GoodIn wsX1_gather wsJ7_fill_53178 := goodIn_r _ [85] (by decide +kernel) (by decide +kernel)
set_option maxRecDepth 20000 in
theorem gX1_gather_J7_fill_53178 : GoodIn wsX1_gather (va_wsS RX1 57 yJ7_fill_53178 wsJ7_fill_53178) := goodIn_app (goodIn_of _ (by decide +kernel)) ggX1_gather_J7_fill_53178
set_option maxRecDepth 20000 in
theorem ggX1_gather_X1_giveFrom : GoodIn wsX1_gather wsX1_giveFrom := goodIn_r _ [89, 2, 3, 90, 7, 6, 5, 86, 87, 88, 72, 95, 96, 97, 98, 99, 100, 101] (by decide +kernel) (by decide +kernel)
set_option maxRecDepth 20000 in
theorem gX1_gather_X1_giveFrom : GoodIn wsX1_gather (wsV RX1 63 RX1 yX1_giveFrom wsX1_giveFrom) := goodIn_app (goodIn_of _ (by decide +kernel)) ggX1_gather_X1_giveFrom
theorem dX1_gather_0 : decode cX1_gather 0 = .ok (.aload_n 0, 1) := by decide +kernel
theorem dX1_gather_1 : decode cX1_gather 1 = .ok (.aload_n 1, 1) := by decide +kernel
theorem dX1_gather_2 : decode cX1_gather 2 = .ok (.getfield 35, 3) := by decide +kernel
theorem dX1_gather_5 : decode cX1_gather 5 = .ok (.putfield 32, 3) := by decide +kernel
theorem dX1_gather_8 : decode cX1_gather 8 = .ok (.aload_n 2, 1) := by decide +kernel
theorem dX1_gather_9 : decode cX1_gather 9 = .ok (.aload_n 1, 1) := by decide +kernel
theorem dX1_gather_10 : decode cX1_gather 10 = .ok (.invokevirtual 40, 3) := by decide +kernel
theorem dX1_gather_13 : decode cX1_gather 13 = .ok (.iconst 0, 1) := by decide +kernel
theorem dX1_gather_14 : decode cX1_gather 14 = .ok (.istore_n 3, 1) := by decide +kernel
theorem dX1_gather_15 : decode cX1_gather 15 = .ok (.iload_n 3, 1) := by decide +kernel
theorem dX1_gather_16 : decode cX1_gather 16 = .ok (.aload_n 0, 1) := by decide +kernel
theorem dX1_gather_17 : decode cX1_gather 17 = .ok (.getfield 32, 3) := by decide +kernel
theorem dX1_gather_20 : decode cX1_gather 20 = .ok (.if_icmp .ge 32, 3) := by decide +kernel
theorem dX1_gather_23 : decode cX1_gather 23 = .ok (.aload_n 0, 1) := by decide +kernel
theorem dX1_gather_24 : decode cX1_gather 24 = .ok (.getfield 19, 3) := by decide +kernel
theorem dX1_gather_27 : decode cX1_gather 27 = .ok (.iload_n 3, 1) := by decide +kernel
theorem dX1_gather_28 : decode cX1_gather 28 = .ok (.aload_n 1, 1) := by decide +kernel
theorem dX1_gather_29 : decode cX1_gather 29 = .ok (.iload_n 3, 1) := by decide +kernel
theorem dX1_gather_30 : decode cX1_gather 30 = .ok (.invokevirtual 46, 3) := by decide +kernel
theorem dX1_gather_33 : decode cX1_gather 33 = .ok (.bastore, 1) := by decide +kernel
theorem dX1_gather_34 : decode cX1_gather 34 = .ok (.aload_n 0, 1) := by decide +kernel
theorem dX1_gather_35 : decode cX1_gather 35 = .ok (.getfield 23, 3) := by decide +kernel
theorem dX1_gather_38 : decode cX1_gather 38 = .ok (.iload_n 3, 1) := by decide +kernel
theorem dX1_gather_39 : decode cX1_gather 39 = .ok (.aload_n 2, 1) := by decide +kernel
theorem dX1_gather_40 : decode cX1_gather 40 = .ok (.aload_n 1, 1) := by decide +kernel
theorem dX1_gather_41 : decode cX1_gather 41 = .ok (.iload_n 3, 1) := by decide +kernel
theorem dX1_gather_42 : decode cX1_gather 42 = .ok (.invokevirtual 50, 3) := by decide +kernel
theorem dX1_gather_45 : decode cX1_gather 45 = .ok (.iastore, 1) := by decide +kernel
theorem dX1_gather_46 : decode cX1_gather 46 = .ok (.iinc 3 1, 3) := by decide +kernel
theorem dX1_gather_49 : decode cX1_gather 49 = .ok (.goto (-34), 3) := by decide +kernel
theorem dX1_gather_52 : decode cX1_gather 52 = .ok (.iconst 0, 1) := by decide +kernel
theorem dX1_gather_53 : decode cX1_gather 53 = .ok (.istore_n 3, 1) := by decide +kernel
theorem dX1_gather_54 : decode cX1_gather 54 = .ok (.iload_n 3, 1) := by decide +kernel
theorem dX1_gather_55 : decode cX1_gather 55 = .ok (.aload_n 0, 1) := by decide +kernel
theorem dX1_gather_56 : decode cX1_gather 56 = .ok (.getfield 32, 3) := by decide +kernel
theorem dX1_gather_59 : decode cX1_gather 59 = .ok (.if_icmp .ge 21, 3) := by decide +kernel
theorem dX1_gather_62 : decode cX1_gather 62 = .ok (.aload_n 0, 1) := by decide +kernel
theorem dX1_gather_63 : decode cX1_gather 63 = .ok (.getfield 26, 3) := by decide +kernel
theorem dX1_gather_66 : decode cX1_gather 66 = .ok (.iload_n 3, 1) := by decide +kernel
theorem dX1_gather_67 : decode cX1_gather 67 = .ok (.aload_n 0, 1) := by decide +kernel
theorem dX1_gather_68 : decode cX1_gather 68 = .ok (.aload_n 1, 1) := by decide +kernel
theorem dX1_gather_69 : decode cX1_gather 69 = .ok (.iload_n 3, 1) := by decide +kernel
theorem dX1_gather_70 : decode cX1_gather 70 = .ok (.invokevirtual 54, 3) := by decide +kernel
theorem dX1_gather_73 : decode cX1_gather 73 = .ok (.iastore, 1) := by decide +kernel
theorem dX1_gather_74 : decode cX1_gather 74 = .ok (.iinc 3 1, 3) := by decide +kernel
theorem dX1_gather_77 : decode cX1_gather 77 = .ok (.goto (-23), 3) := by decide +kernel
theorem dX1_gather_80 : decode cX1_gather 80 = .ok (.aload_n 0, 1) := by decide +kernel
theorem dX1_gather_81 : decode cX1_gather 81 = .ok (.getfield 29, 3) := by decide +kernel
theorem dX1_gather_84 : decode cX1_gather 84 = .ok (.iconst 0, 1) := by decide +kernel
theorem dX1_gather_85 : decode cX1_gather 85 = .ok (.invokestatic 57, 3) := by decide +kernel
theorem dX1_gather_88 : decode cX1_gather 88 = .ok (.aload_n 0, 1) := by decide +kernel
theorem dX1_gather_89 : decode cX1_gather 89 = .ok (.iconst 0, 1) := by decide +kernel
theorem dX1_gather_90 : decode cX1_gather 90 = .ok (.putfield 9, 3) := by decide +kernel
theorem dX1_gather_93 : decode cX1_gather 93 = .ok (.aload_n 0, 1) := by decide +kernel
theorem dX1_gather_94 : decode cX1_gather 94 = .ok (.iconst 0, 1) := by decide +kernel
theorem dX1_gather_95 : decode cX1_gather 95 = .ok (.invokevirtual 63, 3) := by decide +kernel
theorem dX1_gather_98 : decode cX1_gather 98 = .ok (.istore_n 3, 1) := by decide +kernel
theorem dX1_gather_99 : decode cX1_gather 99 = .ok (.iload_n 3, 1) := by decide +kernel
theorem dX1_gather_100 : decode cX1_gather 100 = .ok (.ifCond .ne 33, 3) := by decide +kernel
theorem dX1_gather_103 : decode cX1_gather 103 = .ok (.aload_n 0, 1) := by decide +kernel
theorem dX1_gather_104 : decode cX1_gather 104 = .ok (.getfield 9, 3) := by decide +kernel
theorem dX1_gather_107 : decode cX1_gather 107 = .ok (.aload_n 0, 1) := by decide +kernel
theorem dX1_gather_108 : decode cX1_gather 108 = .ok (.getfield 32, 3) := by decide +kernel
theorem dX1_gather_111 : decode cX1_gather 111 = .ok (.if_icmp .ge 22, 3) := by decide +kernel
theorem dX1_gather_114 : decode cX1_gather 114 = .ok (.aload_n 0, 1) := by decide +kernel
theorem dX1_gather_115 : decode cX1_gather 115 = .ok (.dup, 1) := by decide +kernel
theorem dX1_gather_116 : decode cX1_gather 116 = .ok (.getfield 9, 3) := by decide +kernel
theorem dX1_gather_119 : decode cX1_gather 119 = .ok (.iconst 1, 1) := by decide +kernel
theorem dX1_gather_120 : decode cX1_gather 120 = .ok (.iadd, 1) := by decide +kernel
theorem dX1_gather_121 : decode cX1_gather 121 = .ok (.putfield 9, 3) := by decide +kernel
theorem dX1_gather_124 : decode cX1_gather 124 = .ok (.aload_n 0, 1) := by decide +kernel
theorem dX1_gather_125 : decode cX1_gather 125 = .ok (.iconst 0, 1) := by decide +kernel
theorem dX1_gather_126 : decode cX1_gather 126 = .ok (.invokevirtual 63, 3) := by decide +kernel
theorem dX1_gather_129 : decode cX1_gather 129 = .ok (.istore_n 3, 1) := by decide +kernel
theorem dX1_gather_130 : decode cX1_gather 130 = .ok (.goto (-31), 3) := by decide +kernel
theorem dX1_gather_133 : decode cX1_gather 133 = .ok (.return_, 1) := by decide +kernel
theorem dX1_doableCount_0 : decode cX1_doableCount 0 = .ok (.iconst 0, 1) := by decide +kernel
theorem dX1_doableCount_1 : decode cX1_doableCount 1 = .ok (.istore_n 1, 1) := by decide +kernel
theorem dX1_doableCount_2 : decode cX1_doableCount 2 = .ok (.iconst 0, 1) := by decide +kernel
theorem dX1_doableCount_3 : decode cX1_doableCount 3 = .ok (.istore_n 2, 1) := by decide +kernel
theorem dX1_doableCount_4 : decode cX1_doableCount 4 = .ok (.iload_n 2, 1) := by decide +kernel
theorem dX1_doableCount_5 : decode cX1_doableCount 5 = .ok (.aload_n 0, 1) := by decide +kernel
theorem dX1_doableCount_6 : decode cX1_doableCount 6 = .ok (.getfield 32, 3) := by decide +kernel
theorem dX1_doableCount_9 : decode cX1_doableCount 9 = .ok (.if_icmp .ge 21, 3) := by decide +kernel
theorem dX1_doableCount_12 : decode cX1_doableCount 12 = .ok (.aload_n 0, 1) := by decide +kernel
theorem dX1_doableCount_13 : decode cX1_doableCount 13 = .ok (.getfield 19, 3) := by decide +kernel
theorem dX1_doableCount_16 : decode cX1_doableCount 16 = .ok (.iload_n 2, 1) := by decide +kernel
theorem dX1_doableCount_17 : decode cX1_doableCount 17 = .ok (.baload, 1) := by decide +kernel
theorem dX1_doableCount_18 : decode cX1_doableCount 18 = .ok (.ifCond .eq 6, 3) := by decide +kernel
theorem dX1_doableCount_21 : decode cX1_doableCount 21 = .ok (.iinc 1 1, 3) := by decide +kernel
theorem dX1_doableCount_24 : decode cX1_doableCount 24 = .ok (.iinc 2 1, 3) := by decide +kernel
theorem dX1_doableCount_27 : decode cX1_doableCount 27 = .ok (.goto (-23), 3) := by decide +kernel
theorem dX1_doableCount_30 : decode cX1_doableCount 30 = .ok (.iload_n 1, 1) := by decide +kernel
theorem dX1_doableCount_31 : decode cX1_doableCount 31 = .ok (.ireturn, 1) := by decide +kernel
set_option maxRecDepth 20000 in
theorem ggX1_mostAtOnce_X1_doneAt : GoodIn wsX1_mostAtOnce wsX1_doneAt := goodIn_r _ [12, 1, 13, 2, 3, 14, 15, 16, 17, 18, 19, 20, 21, 22, 23, 24, 25, 26, 27, 28, 29] (by decide +kernel) (by decide +kernel)
set_option maxRecDepth 20000 in
theorem gX1_mostAtOnce_X1_doneAt : GoodIn wsX1_mostAtOnce (wsV RX1 75 RX1 yX1_doneAt wsX1_doneAt) := goodIn_app (goodIn_of _ (by decide +kernel)) ggX1_mostAtOnce_X1_doneAt
theorem dX1_mostAtOnce_0 : decode cX1_mostAtOnce 0 = .ok (.iconst 0, 1) := by decide +kernel
theorem dX1_mostAtOnce_1 : decode cX1_mostAtOnce 1 = .ok (.istore_n 2, 1) := by decide +kernel
theorem dX1_mostAtOnce_2 : decode cX1_mostAtOnce 2 = .ok (.iconst 0, 1) := by decide +kernel
theorem dX1_mostAtOnce_3 : decode cX1_mostAtOnce 3 = .ok (.istore_n 3, 1) := by decide +kernel
theorem dX1_mostAtOnce_4 : decode cX1_mostAtOnce 4 = .ok (.iload_n 3, 1) := by decide +kernel
theorem dX1_mostAtOnce_5 : decode cX1_mostAtOnce 5 = .ok (.aload_n 0, 1) := by decide +kernel
theorem dX1_mostAtOnce_6 : decode cX1_mostAtOnce 6 = .ok (.getfield 32, 3) := by decide +kernel
theorem dX1_mostAtOnce_9 : decode cX1_mostAtOnce 9 = .ok (.if_icmp .ge 28, 3) := by decide +kernel
theorem dX1_mostAtOnce_12 : decode cX1_mostAtOnce 12 = .ok (.iload_n 2, 1) := by decide +kernel
theorem dX1_mostAtOnce_13 : decode cX1_mostAtOnce 13 = .ok (.aload_n 0, 1) := by decide +kernel
theorem dX1_mostAtOnce_14 : decode cX1_mostAtOnce 14 = .ok (.aload_n 1, 1) := by decide +kernel
theorem dX1_mostAtOnce_15 : decode cX1_mostAtOnce 15 = .ok (.aload_n 1, 1) := by decide +kernel
theorem dX1_mostAtOnce_16 : decode cX1_mostAtOnce 16 = .ok (.getfield 66, 3) := by decide +kernel
theorem dX1_mostAtOnce_19 : decode cX1_mostAtOnce 19 = .ok (.iload_n 3, 1) := by decide +kernel
theorem dX1_mostAtOnce_20 : decode cX1_mostAtOnce 20 = .ok (.aaload, 1) := by decide +kernel
theorem dX1_mostAtOnce_21 : decode cX1_mostAtOnce 21 = .ok (.getfield 70, 3) := by decide +kernel
theorem dX1_mostAtOnce_24 : decode cX1_mostAtOnce 24 = .ok (.invokevirtual 75, 3) := by decide +kernel
theorem dX1_mostAtOnce_27 : decode cX1_mostAtOnce 27 = .ok (.invokestatic 78, 3) := by decide +kernel
theorem dX1_mostAtOnce_30 : decode cX1_mostAtOnce 30 = .ok (.istore_n 2, 1) := by decide +kernel
theorem dX1_mostAtOnce_31 : decode cX1_mostAtOnce 31 = .ok (.iinc 3 1, 3) := by decide +kernel
theorem dX1_mostAtOnce_34 : decode cX1_mostAtOnce 34 = .ok (.goto (-30), 3) := by decide +kernel
theorem dX1_mostAtOnce_37 : decode cX1_mostAtOnce 37 = .ok (.iload_n 2, 1) := by decide +kernel
theorem dX1_mostAtOnce_38 : decode cX1_mostAtOnce 38 = .ok (.ireturn, 1) := by decide +kernel
set_option maxRecDepth 20000 in
theorem ggX1_turn_X1_turnsAhead : GoodIn wsX1_turn wsX1_turnsAhead := goodIn_r _ [7, 1, 2, 8, 9, 10, 11, 12, 13, 14, 15, 16, 17, 18, 19, 20, 21, 22, 23, 24] (by decide +kernel) (by decide +kernel)
set_option maxRecDepth 20000 in
theorem gX1_turn_X1_turnsAhead : GoodIn wsX1_turn (wsV RX1 84 RX1 yX1_turnsAhead wsX1_turnsAhead) := goodIn_app (goodIn_of _ (by decide +kernel)) ggX1_turn_X1_turnsAhead
theorem dX1_turn_0 : decode cX1_turn 0 = .ok (.iconst 0, 1) := by decide +kernel
theorem dX1_turn_1 : decode cX1_turn 1 = .ok (.istore 4, 2) := by decide +kernel
theorem dX1_turn_3 : decode cX1_turn 3 = .ok (.iload 4, 2) := by decide +kernel
theorem dX1_turn_5 : decode cX1_turn 5 = .ok (.aload_n 0, 1) := by decide +kernel
theorem dX1_turn_6 : decode cX1_turn 6 = .ok (.getfield 32, 3) := by decide +kernel
theorem dX1_turn_9 : decode cX1_turn 9 = .ok (.if_icmp .ge 34, 3) := by decide +kernel
theorem dX1_turn_12 : decode cX1_turn 12 = .ok (.aload_n 0, 1) := by decide +kernel
theorem dX1_turn_13 : decode cX1_turn 13 = .ok (.getfield 15, 3) := by decide +kernel
theorem dX1_turn_16 : decode cX1_turn 16 = .ok (.iload 4, 2) := by decide +kernel
theorem dX1_turn_18 : decode cX1_turn 18 = .ok (.iaload, 1) := by decide +kernel
theorem dX1_turn_19 : decode cX1_turn 19 = .ok (.iload_n 2, 1) := by decide +kernel
theorem dX1_turn_20 : decode cX1_turn 20 = .ok (.if_icmp .ne 17, 3) := by decide +kernel
theorem dX1_turn_23 : decode cX1_turn 23 = .ok (.aload_n 0, 1) := by decide +kernel
theorem dX1_turn_24 : decode cX1_turn 24 = .ok (.aload_n 1, 1) := by decide +kernel
theorem dX1_turn_25 : decode cX1_turn 25 = .ok (.iload 4, 2) := by decide +kernel
theorem dX1_turn_27 : decode cX1_turn 27 = .ok (.invokevirtual 84, 3) := by decide +kernel
theorem dX1_turn_30 : decode cX1_turn 30 = .ok (.iload_n 3, 1) := by decide +kernel
theorem dX1_turn_31 : decode cX1_turn 31 = .ok (.if_icmp .ne 6, 3) := by decide +kernel
theorem dX1_turn_34 : decode cX1_turn 34 = .ok (.iload 4, 2) := by decide +kernel
theorem dX1_turn_36 : decode cX1_turn 36 = .ok (.ireturn, 1) := by decide +kernel
theorem dX1_turn_37 : decode cX1_turn 37 = .ok (.iinc 4 1, 3) := by decide +kernel
theorem dX1_turn_40 : decode cX1_turn 40 = .ok (.goto (-37), 3) := by decide +kernel
theorem dX1_turn_43 : decode cX1_turn 43 = .ok (.bipush (-6), 2) := by decide +kernel
theorem dX1_turn_45 : decode cX1_turn 45 = .ok (.ireturn, 1) := by decide +kernel
theorem dX1_doneAt_0 : decode cX1_doneAt 0 = .ok (.iconst 0, 1) := by decide +kernel
theorem dX1_doneAt_1 : decode cX1_doneAt 1 = .ok (.istore_n 3, 1) := by decide +kernel
theorem dX1_doneAt_2 : decode cX1_doneAt 2 = .ok (.iconst 0, 1) := by decide +kernel
theorem dX1_doneAt_3 : decode cX1_doneAt 3 = .ok (.istore 4, 2) := by decide +kernel
theorem dX1_doneAt_5 : decode cX1_doneAt 5 = .ok (.iload 4, 2) := by decide +kernel
theorem dX1_doneAt_7 : decode cX1_doneAt 7 = .ok (.aload_n 0, 1) := by decide +kernel
theorem dX1_doneAt_8 : decode cX1_doneAt 8 = .ok (.getfield 32, 3) := by decide +kernel
theorem dX1_doneAt_11 : decode cX1_doneAt 11 = .ok (.if_icmp .ge 47, 3) := by decide +kernel
theorem dX1_doneAt_14 : decode cX1_doneAt 14 = .ok (.aload_n 0, 1) := by decide +kernel
theorem dX1_doneAt_15 : decode cX1_doneAt 15 = .ok (.getfield 19, 3) := by decide +kernel
theorem dX1_doneAt_18 : decode cX1_doneAt 18 = .ok (.iload 4, 2) := by decide +kernel
theorem dX1_doneAt_20 : decode cX1_doneAt 20 = .ok (.baload, 1) := by decide +kernel
theorem dX1_doneAt_21 : decode cX1_doneAt 21 = .ok (.ifCond .eq 31, 3) := by decide +kernel
theorem dX1_doneAt_24 : decode cX1_doneAt 24 = .ok (.aload_n 1, 1) := by decide +kernel
theorem dX1_doneAt_25 : decode cX1_doneAt 25 = .ok (.getfield 66, 3) := by decide +kernel
theorem dX1_doneAt_28 : decode cX1_doneAt 28 = .ok (.iload 4, 2) := by decide +kernel
theorem dX1_doneAt_30 : decode cX1_doneAt 30 = .ok (.aaload, 1) := by decide +kernel
theorem dX1_doneAt_31 : decode cX1_doneAt 31 = .ok (.getfield 70, 3) := by decide +kernel
theorem dX1_doneAt_34 : decode cX1_doneAt 34 = .ok (.iload_n 2, 1) := by decide +kernel
theorem dX1_doneAt_35 : decode cX1_doneAt 35 = .ok (.if_icmp .gt 17, 3) := by decide +kernel
theorem dX1_doneAt_38 : decode cX1_doneAt 38 = .ok (.aload_n 0, 1) := by decide +kernel
theorem dX1_doneAt_39 : decode cX1_doneAt 39 = .ok (.getfield 23, 3) := by decide +kernel
theorem dX1_doneAt_42 : decode cX1_doneAt 42 = .ok (.iload 4, 2) := by decide +kernel
theorem dX1_doneAt_44 : decode cX1_doneAt 44 = .ok (.iaload, 1) := by decide +kernel
theorem dX1_doneAt_45 : decode cX1_doneAt 45 = .ok (.iload_n 2, 1) := by decide +kernel
theorem dX1_doneAt_46 : decode cX1_doneAt 46 = .ok (.if_icmp .le 6, 3) := by decide +kernel
theorem dX1_doneAt_49 : decode cX1_doneAt 49 = .ok (.iinc 3 1, 3) := by decide +kernel
theorem dX1_doneAt_52 : decode cX1_doneAt 52 = .ok (.iinc 4 1, 3) := by decide +kernel
theorem dX1_doneAt_55 : decode cX1_doneAt 55 = .ok (.goto (-50), 3) := by decide +kernel
theorem dX1_doneAt_58 : decode cX1_doneAt 58 = .ok (.iload_n 3, 1) := by decide +kernel
theorem dX1_doneAt_59 : decode cX1_doneAt 59 = .ok (.ireturn, 1) := by decide +kernel
theorem dX1_turnsAhead_0 : decode cX1_turnsAhead 0 = .ok (.iconst 0, 1) := by decide +kernel
theorem dX1_turnsAhead_1 : decode cX1_turnsAhead 1 = .ok (.istore_n 3, 1) := by decide +kernel
theorem dX1_turnsAhead_2 : decode cX1_turnsAhead 2 = .ok (.iconst 0, 1) := by decide +kernel
theorem dX1_turnsAhead_3 : decode cX1_turnsAhead 3 = .ok (.istore 4, 2) := by decide +kernel
theorem dX1_turnsAhead_5 : decode cX1_turnsAhead 5 = .ok (.iload 4, 2) := by decide +kernel
theorem dX1_turnsAhead_7 : decode cX1_turnsAhead 7 = .ok (.aload_n 0, 1) := by decide +kernel
theorem dX1_turnsAhead_8 : decode cX1_turnsAhead 8 = .ok (.getfield 32, 3) := by decide +kernel
theorem dX1_turnsAhead_11 : decode cX1_turnsAhead 11 = .ok (.if_icmp .ge 50, 3) := by decide +kernel
theorem dX1_turnsAhead_14 : decode cX1_turnsAhead 14 = .ok (.aload_n 0, 1) := by decide +kernel
theorem dX1_turnsAhead_15 : decode cX1_turnsAhead 15 = .ok (.getfield 15, 3) := by decide +kernel
theorem dX1_turnsAhead_18 : decode cX1_turnsAhead 18 = .ok (.iload 4, 2) := by decide +kernel
theorem dX1_turnsAhead_20 : decode cX1_turnsAhead 20 = .ok (.iaload, 1) := by decide +kernel
theorem dX1_turnsAhead_21 : decode cX1_turnsAhead 21 = .ok (.aload_n 0, 1) := by decide +kernel
theorem dX1_turnsAhead_22 : decode cX1_turnsAhead 22 = .ok (.getfield 15, 3) := by decide +kernel
theorem dX1_turnsAhead_25 : decode cX1_turnsAhead 25 = .ok (.iload_n 2, 1) := by decide +kernel
theorem dX1_turnsAhead_26 : decode cX1_turnsAhead 26 = .ok (.iaload, 1) := by decide +kernel
theorem dX1_turnsAhead_27 : decode cX1_turnsAhead 27 = .ok (.if_icmp .ne 28, 3) := by decide +kernel
theorem dX1_turnsAhead_30 : decode cX1_turnsAhead 30 = .ok (.aload_n 1, 1) := by decide +kernel
theorem dX1_turnsAhead_31 : decode cX1_turnsAhead 31 = .ok (.getfield 66, 3) := by decide +kernel
theorem dX1_turnsAhead_34 : decode cX1_turnsAhead 34 = .ok (.iload 4, 2) := by decide +kernel
theorem dX1_turnsAhead_36 : decode cX1_turnsAhead 36 = .ok (.aaload, 1) := by decide +kernel
theorem dX1_turnsAhead_37 : decode cX1_turnsAhead 37 = .ok (.getfield 70, 3) := by decide +kernel
theorem dX1_turnsAhead_40 : decode cX1_turnsAhead 40 = .ok (.aload_n 1, 1) := by decide +kernel
theorem dX1_turnsAhead_41 : decode cX1_turnsAhead 41 = .ok (.getfield 66, 3) := by decide +kernel
theorem dX1_turnsAhead_44 : decode cX1_turnsAhead 44 = .ok (.iload_n 2, 1) := by decide +kernel
theorem dX1_turnsAhead_45 : decode cX1_turnsAhead 45 = .ok (.aaload, 1) := by decide +kernel
theorem dX1_turnsAhead_46 : decode cX1_turnsAhead 46 = .ok (.getfield 70, 3) := by decide +kernel
theorem dX1_turnsAhead_49 : decode cX1_turnsAhead 49 = .ok (.if_icmp .ge 6, 3) := by decide +kernel
theorem dX1_turnsAhead_52 : decode cX1_turnsAhead 52 = .ok (.iinc 3 1, 3) := by decide +kernel
theorem dX1_turnsAhead_55 : decode cX1_turnsAhead 55 = .ok (.iinc 4 1, 3) := by decide +kernel
theorem dX1_turnsAhead_58 : decode cX1_turnsAhead 58 = .ok (.goto (-53), 3) := by decide +kernel
theorem dX1_turnsAhead_61 : decode cX1_turnsAhead 61 = .ok (.iload_n 3, 1) := by decide +kernel
theorem dX1_turnsAhead_62 : decode cX1_turnsAhead 62 = .ok (.ireturn, 1) := by decide +kernel
set_option maxRecDepth 20000 in
theorem ggX1_foesOf_X1_reaches : GoodIn wsX1_foesOf wsX1_reaches := goodIn_r _ [6, 7, 8, 9, 10, 11, 12, 13, 14, 22, 23, 24, 25, 26, 27, 28, 29, 15, 16, 17, 18, 19, 20, 21] (by decide +kernel) (by decide +kernel)
set_option maxRecDepth 20000 in
theorem gX1_foesOf_X1_reaches : GoodIn wsX1_foesOf (wsV RX1 87 RX1 yX1_reaches wsX1_reaches) := goodIn_app (goodIn_of _ (by decide +kernel)) ggX1_foesOf_X1_reaches
theorem dX1_foesOf_0 : decode cX1_foesOf 0 = .ok (.iconst 0, 1) := by decide +kernel
theorem dX1_foesOf_1 : decode cX1_foesOf 1 = .ok (.istore_n 3, 1) := by decide +kernel
theorem dX1_foesOf_2 : decode cX1_foesOf 2 = .ok (.iconst 0, 1) := by decide +kernel
theorem dX1_foesOf_3 : decode cX1_foesOf 3 = .ok (.istore 4, 2) := by decide +kernel
theorem dX1_foesOf_5 : decode cX1_foesOf 5 = .ok (.iload 4, 2) := by decide +kernel
theorem dX1_foesOf_7 : decode cX1_foesOf 7 = .ok (.aload_n 0, 1) := by decide +kernel
theorem dX1_foesOf_8 : decode cX1_foesOf 8 = .ok (.getfield 32, 3) := by decide +kernel
theorem dX1_foesOf_11 : decode cX1_foesOf 11 = .ok (.if_icmp .ge 44, 3) := by decide +kernel
theorem dX1_foesOf_14 : decode cX1_foesOf 14 = .ok (.iload 4, 2) := by decide +kernel
theorem dX1_foesOf_16 : decode cX1_foesOf 16 = .ok (.iload_n 2, 1) := by decide +kernel
theorem dX1_foesOf_17 : decode cX1_foesOf 17 = .ok (.if_icmp .eq 32, 3) := by decide +kernel
theorem dX1_foesOf_20 : decode cX1_foesOf 20 = .ok (.aload_n 0, 1) := by decide +kernel
theorem dX1_foesOf_21 : decode cX1_foesOf 21 = .ok (.aload_n 1, 1) := by decide +kernel
theorem dX1_foesOf_22 : decode cX1_foesOf 22 = .ok (.iload 4, 2) := by decide +kernel
theorem dX1_foesOf_24 : decode cX1_foesOf 24 = .ok (.iload_n 2, 1) := by decide +kernel
theorem dX1_foesOf_25 : decode cX1_foesOf 25 = .ok (.invokevirtual 87, 3) := by decide +kernel
theorem dX1_foesOf_28 : decode cX1_foesOf 28 = .ok (.ifCond .ne 21, 3) := by decide +kernel
theorem dX1_foesOf_31 : decode cX1_foesOf 31 = .ok (.aload_n 0, 1) := by decide +kernel
theorem dX1_foesOf_32 : decode cX1_foesOf 32 = .ok (.aload_n 1, 1) := by decide +kernel
theorem dX1_foesOf_33 : decode cX1_foesOf 33 = .ok (.iload_n 2, 1) := by decide +kernel
theorem dX1_foesOf_34 : decode cX1_foesOf 34 = .ok (.iload 4, 2) := by decide +kernel
theorem dX1_foesOf_36 : decode cX1_foesOf 36 = .ok (.invokevirtual 87, 3) := by decide +kernel
theorem dX1_foesOf_39 : decode cX1_foesOf 39 = .ok (.ifCond .ne 10, 3) := by decide +kernel
theorem dX1_foesOf_42 : decode cX1_foesOf 42 = .ok (.iload_n 3, 1) := by decide +kernel
theorem dX1_foesOf_43 : decode cX1_foesOf 43 = .ok (.iconst 1, 1) := by decide +kernel
theorem dX1_foesOf_44 : decode cX1_foesOf 44 = .ok (.iload 4, 2) := by decide +kernel
theorem dX1_foesOf_46 : decode cX1_foesOf 46 = .ok (.ishl, 1) := by decide +kernel
theorem dX1_foesOf_47 : decode cX1_foesOf 47 = .ok (.ior, 1) := by decide +kernel
theorem dX1_foesOf_48 : decode cX1_foesOf 48 = .ok (.istore_n 3, 1) := by decide +kernel
theorem dX1_foesOf_49 : decode cX1_foesOf 49 = .ok (.iinc 4 1, 3) := by decide +kernel
theorem dX1_foesOf_52 : decode cX1_foesOf 52 = .ok (.goto (-47), 3) := by decide +kernel
theorem dX1_foesOf_55 : decode cX1_foesOf 55 = .ok (.iload_n 3, 1) := by decide +kernel
theorem dX1_foesOf_56 : decode cX1_foesOf 56 = .ok (.ireturn, 1) := by decide +kernel
theorem dX1_reaches_0 : decode cX1_reaches 0 = .ok (.aload_n 1, 1) := by decide +kernel
theorem dX1_reaches_1 : decode cX1_reaches 1 = .ok (.getfield 66, 3) := by decide +kernel
theorem dX1_reaches_4 : decode cX1_reaches 4 = .ok (.iload_n 2, 1) := by decide +kernel
theorem dX1_reaches_5 : decode cX1_reaches 5 = .ok (.aaload, 1) := by decide +kernel
theorem dX1_reaches_6 : decode cX1_reaches 6 = .ok (.getfield 91, 3) := by decide +kernel
theorem dX1_reaches_9 : decode cX1_reaches 9 = .ok (.aload_n 1, 1) := by decide +kernel
theorem dX1_reaches_10 : decode cX1_reaches 10 = .ok (.getfield 66, 3) := by decide +kernel
theorem dX1_reaches_13 : decode cX1_reaches 13 = .ok (.iload_n 3, 1) := by decide +kernel
theorem dX1_reaches_14 : decode cX1_reaches 14 = .ok (.aaload, 1) := by decide +kernel
theorem dX1_reaches_15 : decode cX1_reaches 15 = .ok (.getfield 91, 3) := by decide +kernel
theorem dX1_reaches_18 : decode cX1_reaches 18 = .ok (.isub, 1) := by decide +kernel
theorem dX1_reaches_19 : decode cX1_reaches 19 = .ok (.invokestatic 94, 3) := by decide +kernel
theorem dX1_reaches_22 : decode cX1_reaches 22 = .ok (.istore 4, 2) := by decide +kernel
theorem dX1_reaches_24 : decode cX1_reaches 24 = .ok (.aload_n 0, 1) := by decide +kernel
theorem dX1_reaches_25 : decode cX1_reaches 25 = .ok (.getfield 23, 3) := by decide +kernel
theorem dX1_reaches_28 : decode cX1_reaches 28 = .ok (.iload_n 2, 1) := by decide +kernel
theorem dX1_reaches_29 : decode cX1_reaches 29 = .ok (.iaload, 1) := by decide +kernel
theorem dX1_reaches_30 : decode cX1_reaches 30 = .ok (.aload_n 1, 1) := by decide +kernel
theorem dX1_reaches_31 : decode cX1_reaches 31 = .ok (.getfield 66, 3) := by decide +kernel
theorem dX1_reaches_34 : decode cX1_reaches 34 = .ok (.iload_n 3, 1) := by decide +kernel
theorem dX1_reaches_35 : decode cX1_reaches 35 = .ok (.aaload, 1) := by decide +kernel
theorem dX1_reaches_36 : decode cX1_reaches 36 = .ok (.getfield 70, 3) := by decide +kernel
theorem dX1_reaches_39 : decode cX1_reaches 39 = .ok (.iload 4, 2) := by decide +kernel
theorem dX1_reaches_41 : decode cX1_reaches 41 = .ok (.isub, 1) := by decide +kernel
theorem dX1_reaches_42 : decode cX1_reaches 42 = .ok (.if_icmp .gt 7, 3) := by decide +kernel
theorem dX1_reaches_45 : decode cX1_reaches 45 = .ok (.iconst 1, 1) := by decide +kernel
theorem dX1_reaches_46 : decode cX1_reaches 46 = .ok (.goto 4, 3) := by decide +kernel
theorem dX1_reaches_49 : decode cX1_reaches 49 = .ok (.iconst 0, 1) := by decide +kernel
theorem dX1_reaches_50 : decode cX1_reaches 50 = .ok (.ireturn, 1) := by decide +kernel
set_option maxRecDepth 20000 in
theorem ggX1_giveFrom_X1_giveFrom : GoodIn wsX1_giveFrom wsX1_giveFrom := goodIn_r _ [0, 1, 2, 3, 4, 5, 6, 7, 8, 9, 10, 11, 12, 13, 14, 15, 16, 17] (by decide +kernel) (by decide +kernel)
set_option maxRecDepth 20000 in
theorem gX1_giveFrom_X1_giveFrom : GoodIn wsX1_giveFrom (wsV RX1 63 RX1 yX1_giveFrom wsX1_giveFrom) := goodIn_app (goodIn_of _ (by decide +kernel)) ggX1_giveFrom_X1_giveFrom
theorem dX1_giveFrom_0 : decode cX1_giveFrom 0 = .ok (.iload_n 1, 1) := by decide +kernel
theorem dX1_giveFrom_1 : decode cX1_giveFrom 1 = .ok (.aload_n 0, 1) := by decide +kernel
theorem dX1_giveFrom_2 : decode cX1_giveFrom 2 = .ok (.getfield 32, 3) := by decide +kernel
theorem dX1_giveFrom_5 : decode cX1_giveFrom 5 = .ok (.if_icmp .lt 5, 3) := by decide +kernel
theorem dX1_giveFrom_8 : decode cX1_giveFrom 8 = .ok (.iconst 1, 1) := by decide +kernel
theorem dX1_giveFrom_9 : decode cX1_giveFrom 9 = .ok (.ireturn, 1) := by decide +kernel
theorem dX1_giveFrom_10 : decode cX1_giveFrom 10 = .ok (.aload_n 0, 1) := by decide +kernel
theorem dX1_giveFrom_11 : decode cX1_giveFrom 11 = .ok (.getfield 19, 3) := by decide +kernel
theorem dX1_giveFrom_14 : decode cX1_giveFrom 14 = .ok (.iload_n 1, 1) := by decide +kernel
theorem dX1_giveFrom_15 : decode cX1_giveFrom 15 = .ok (.baload, 1) := by decide +kernel
theorem dX1_giveFrom_16 : decode cX1_giveFrom 16 = .ok (.ifCond .ne 19, 3) := by decide +kernel
theorem dX1_giveFrom_19 : decode cX1_giveFrom 19 = .ok (.aload_n 0, 1) := by decide +kernel
theorem dX1_giveFrom_20 : decode cX1_giveFrom 20 = .ok (.getfield 15, 3) := by decide +kernel
theorem dX1_giveFrom_23 : decode cX1_giveFrom 23 = .ok (.iload_n 1, 1) := by decide +kernel
theorem dX1_giveFrom_24 : decode cX1_giveFrom 24 = .ok (.bipush (-6), 2) := by decide +kernel
theorem dX1_giveFrom_26 : decode cX1_giveFrom 26 = .ok (.iastore, 1) := by decide +kernel
theorem dX1_giveFrom_27 : decode cX1_giveFrom 27 = .ok (.aload_n 0, 1) := by decide +kernel
theorem dX1_giveFrom_28 : decode cX1_giveFrom 28 = .ok (.iload_n 1, 1) := by decide +kernel
theorem dX1_giveFrom_29 : decode cX1_giveFrom 29 = .ok (.iconst 1, 1) := by decide +kernel
theorem dX1_giveFrom_30 : decode cX1_giveFrom 30 = .ok (.iadd, 1) := by decide +kernel
theorem dX1_giveFrom_31 : decode cX1_giveFrom 31 = .ok (.invokevirtual 63, 3) := by decide +kernel
theorem dX1_giveFrom_34 : decode cX1_giveFrom 34 = .ok (.ireturn, 1) := by decide +kernel
theorem dX1_giveFrom_35 : decode cX1_giveFrom 35 = .ok (.iconst 0, 1) := by decide +kernel
theorem dX1_giveFrom_36 : decode cX1_giveFrom 36 = .ok (.istore_n 2, 1) := by decide +kernel
theorem dX1_giveFrom_37 : decode cX1_giveFrom 37 = .ok (.iload_n 2, 1) := by decide +kernel
theorem dX1_giveFrom_38 : decode cX1_giveFrom 38 = .ok (.aload_n 0, 1) := by decide +kernel
theorem dX1_giveFrom_39 : decode cX1_giveFrom 39 = .ok (.getfield 9, 3) := by decide +kernel
theorem dX1_giveFrom_42 : decode cX1_giveFrom 42 = .ok (.if_icmp .ge 91, 3) := by decide +kernel
theorem dX1_giveFrom_45 : decode cX1_giveFrom 45 = .ok (.aload_n 0, 1) := by decide +kernel
theorem dX1_giveFrom_46 : decode cX1_giveFrom 46 = .ok (.getfield 29, 3) := by decide +kernel
theorem dX1_giveFrom_49 : decode cX1_giveFrom 49 = .ok (.iload_n 2, 1) := by decide +kernel
theorem dX1_giveFrom_50 : decode cX1_giveFrom 50 = .ok (.iaload, 1) := by decide +kernel
theorem dX1_giveFrom_51 : decode cX1_giveFrom 51 = .ok (.ifCond .ne 7, 3) := by decide +kernel
theorem dX1_giveFrom_54 : decode cX1_giveFrom 54 = .ok (.iconst 1, 1) := by decide +kernel
theorem dX1_giveFrom_55 : decode cX1_giveFrom 55 = .ok (.goto 4, 3) := by decide +kernel
theorem dX1_giveFrom_58 : decode cX1_giveFrom 58 = .ok (.iconst 0, 1) := by decide +kernel
theorem dX1_giveFrom_59 : decode cX1_giveFrom 59 = .ok (.istore_n 3, 1) := by decide +kernel
theorem dX1_giveFrom_60 : decode cX1_giveFrom 60 = .ok (.aload_n 0, 1) := by decide +kernel
theorem dX1_giveFrom_61 : decode cX1_giveFrom 61 = .ok (.getfield 29, 3) := by decide +kernel
theorem dX1_giveFrom_64 : decode cX1_giveFrom 64 = .ok (.iload_n 2, 1) := by decide +kernel
theorem dX1_giveFrom_65 : decode cX1_giveFrom 65 = .ok (.iaload, 1) := by decide +kernel
theorem dX1_giveFrom_66 : decode cX1_giveFrom 66 = .ok (.aload_n 0, 1) := by decide +kernel
theorem dX1_giveFrom_67 : decode cX1_giveFrom 67 = .ok (.getfield 26, 3) := by decide +kernel
theorem dX1_giveFrom_70 : decode cX1_giveFrom 70 = .ok (.iload_n 1, 1) := by decide +kernel
theorem dX1_giveFrom_71 : decode cX1_giveFrom 71 = .ok (.iaload, 1) := by decide +kernel
theorem dX1_giveFrom_72 : decode cX1_giveFrom 72 = .ok (.iand, 1) := by decide +kernel
theorem dX1_giveFrom_73 : decode cX1_giveFrom 73 = .ok (.ifCond .ne 48, 3) := by decide +kernel
theorem dX1_giveFrom_76 : decode cX1_giveFrom 76 = .ok (.aload_n 0, 1) := by decide +kernel
theorem dX1_giveFrom_77 : decode cX1_giveFrom 77 = .ok (.getfield 29, 3) := by decide +kernel
theorem dX1_giveFrom_80 : decode cX1_giveFrom 80 = .ok (.iload_n 2, 1) := by decide +kernel
theorem dX1_giveFrom_81 : decode cX1_giveFrom 81 = .ok (.dup2, 1) := by decide +kernel
theorem dX1_giveFrom_82 : decode cX1_giveFrom 82 = .ok (.iaload, 1) := by decide +kernel
theorem dX1_giveFrom_83 : decode cX1_giveFrom 83 = .ok (.iconst 1, 1) := by decide +kernel
theorem dX1_giveFrom_84 : decode cX1_giveFrom 84 = .ok (.iload_n 1, 1) := by decide +kernel
theorem dX1_giveFrom_85 : decode cX1_giveFrom 85 = .ok (.ishl, 1) := by decide +kernel
theorem dX1_giveFrom_86 : decode cX1_giveFrom 86 = .ok (.ior, 1) := by decide +kernel
theorem dX1_giveFrom_87 : decode cX1_giveFrom 87 = .ok (.iastore, 1) := by decide +kernel
theorem dX1_giveFrom_88 : decode cX1_giveFrom 88 = .ok (.aload_n 0, 1) := by decide +kernel
theorem dX1_giveFrom_89 : decode cX1_giveFrom 89 = .ok (.getfield 15, 3) := by decide +kernel
theorem dX1_giveFrom_92 : decode cX1_giveFrom 92 = .ok (.iload_n 1, 1) := by decide +kernel
theorem dX1_giveFrom_93 : decode cX1_giveFrom 93 = .ok (.iload_n 2, 1) := by decide +kernel
theorem dX1_giveFrom_94 : decode cX1_giveFrom 94 = .ok (.iastore, 1) := by decide +kernel
theorem dX1_giveFrom_95 : decode cX1_giveFrom 95 = .ok (.aload_n 0, 1) := by decide +kernel
theorem dX1_giveFrom_96 : decode cX1_giveFrom 96 = .ok (.iload_n 1, 1) := by decide +kernel
theorem dX1_giveFrom_97 : decode cX1_giveFrom 97 = .ok (.iconst 1, 1) := by decide +kernel
theorem dX1_giveFrom_98 : decode cX1_giveFrom 98 = .ok (.iadd, 1) := by decide +kernel
theorem dX1_giveFrom_99 : decode cX1_giveFrom 99 = .ok (.invokevirtual 63, 3) := by decide +kernel
theorem dX1_giveFrom_102 : decode cX1_giveFrom 102 = .ok (.ifCond .eq 5, 3) := by decide +kernel
theorem dX1_giveFrom_105 : decode cX1_giveFrom 105 = .ok (.iconst 1, 1) := by decide +kernel
theorem dX1_giveFrom_106 : decode cX1_giveFrom 106 = .ok (.ireturn, 1) := by decide +kernel
theorem dX1_giveFrom_107 : decode cX1_giveFrom 107 = .ok (.aload_n 0, 1) := by decide +kernel
theorem dX1_giveFrom_108 : decode cX1_giveFrom 108 = .ok (.getfield 29, 3) := by decide +kernel
theorem dX1_giveFrom_111 : decode cX1_giveFrom 111 = .ok (.iload_n 2, 1) := by decide +kernel
theorem dX1_giveFrom_112 : decode cX1_giveFrom 112 = .ok (.dup2, 1) := by decide +kernel
theorem dX1_giveFrom_113 : decode cX1_giveFrom 113 = .ok (.iaload, 1) := by decide +kernel
theorem dX1_giveFrom_114 : decode cX1_giveFrom 114 = .ok (.iconst 1, 1) := by decide +kernel
theorem dX1_giveFrom_115 : decode cX1_giveFrom 115 = .ok (.iload_n 1, 1) := by decide +kernel
theorem dX1_giveFrom_116 : decode cX1_giveFrom 116 = .ok (.ishl, 1) := by decide +kernel
theorem dX1_giveFrom_117 : decode cX1_giveFrom 117 = .ok (.iconst (-1), 1) := by decide +kernel
theorem dX1_giveFrom_118 : decode cX1_giveFrom 118 = .ok (.ixor, 1) := by decide +kernel
theorem dX1_giveFrom_119 : decode cX1_giveFrom 119 = .ok (.iand, 1) := by decide +kernel
theorem dX1_giveFrom_120 : decode cX1_giveFrom 120 = .ok (.iastore, 1) := by decide +kernel
theorem dX1_giveFrom_121 : decode cX1_giveFrom 121 = .ok (.iload_n 3, 1) := by decide +kernel
theorem dX1_giveFrom_122 : decode cX1_giveFrom 122 = .ok (.ifCond .eq 5, 3) := by decide +kernel
theorem dX1_giveFrom_125 : decode cX1_giveFrom 125 = .ok (.iconst 0, 1) := by decide +kernel
theorem dX1_giveFrom_126 : decode cX1_giveFrom 126 = .ok (.ireturn, 1) := by decide +kernel
theorem dX1_giveFrom_127 : decode cX1_giveFrom 127 = .ok (.iinc 2 1, 3) := by decide +kernel
theorem dX1_giveFrom_130 : decode cX1_giveFrom 130 = .ok (.goto (-93), 3) := by decide +kernel
theorem dX1_giveFrom_133 : decode cX1_giveFrom 133 = .ok (.iconst 0, 1) := by decide +kernel
theorem dX1_giveFrom_134 : decode cX1_giveFrom 134 = .ok (.ireturn, 1) := by decide +kernel
theorem dX2_init_0 : decode cX2_init 0 = .ok (.aload_n 0, 1) := by decide +kernel
theorem dX2_init_1 : decode cX2_init 1 = .ok (.invokespecial 3, 3) := by decide +kernel
theorem dX2_init_4 : decode cX2_init 4 = .ok (.aload_n 0, 1) := by decide +kernel
theorem dX2_init_5 : decode cX2_init 5 = .ok (.bipush 10, 2) := by decide +kernel
theorem dX2_init_7 : decode cX2_init 7 = .ok (.sipush 301, 3) := by decide +kernel
theorem dX2_init_10 : decode cX2_init 10 = .ok (.multianewarray 9 2, 4) := by decide +kernel
theorem dX2_init_14 : decode cX2_init 14 = .ok (.putfield 11, 3) := by decide +kernel
theorem dX2_init_17 : decode cX2_init 17 = .ok (.return_, 1) := by decide +kernel
set_option maxRecDepth 20000 in
theorem ggX2_trace_X6_firstMoveFrom : GoodIn wsX2_trace wsX6_firstMoveFrom := goodIn_r _ [10, 11, 12, 13, 14, 27, 28, 29, 30, 34, 35, 36, 37] (by decide +kernel) (by decide +kernel)
set_option maxRecDepth 20000 in
theorem gX2_trace_X6_firstMoveFrom : GoodIn wsX2_trace (wsV RX2 28 RX6 yX6_firstMoveFrom wsX6_firstMoveFrom) := goodIn_app (goodIn_of _ (by decide +kernel)) ggX2_trace_X6_firstMoveFrom
set_option maxRecDepth 20000 in
theorem ggX2_trace_X4_stepFrom : GoodIn wsX2_trace wsX4_stepFrom := goodIn_r _ [19, 20, 21, 22, 23, 24, 25, 34, 35, 36, 37] (by decide +kernel) (by decide +kernel)
set_option maxRecDepth 20000 in
theorem gX2_trace_X4_stepFrom : GoodIn wsX2_trace (wsV RX2 42 RX4 yX4_stepFrom wsX4_stepFrom) := goodIn_app (goodIn_of _ (by decide +kernel)) ggX2_trace_X4_stepFrom
theorem dX2_trace_0 : decode cX2_trace 0 = .ok (.aload_n 0, 1) := by decide +kernel
theorem dX2_trace_1 : decode cX2_trace 1 = .ok (.getfield 11, 3) := by decide +kernel
theorem dX2_trace_4 : decode cX2_trace 4 = .ok (.iload_n 2, 1) := by decide +kernel
theorem dX2_trace_5 : decode cX2_trace 5 = .ok (.aaload, 1) := by decide +kernel
theorem dX2_trace_6 : decode cX2_trace 6 = .ok (.astore_n 3, 1) := by decide +kernel
theorem dX2_trace_7 : decode cX2_trace 7 = .ok (.aload_n 3, 1) := by decide +kernel
theorem dX2_trace_8 : decode cX2_trace 8 = .ok (.iconst 0, 1) := by decide +kernel
theorem dX2_trace_9 : decode cX2_trace 9 = .ok (.aload_n 1, 1) := by decide +kernel
theorem dX2_trace_10 : decode cX2_trace 10 = .ok (.getfield 16, 3) := by decide +kernel
theorem dX2_trace_13 : decode cX2_trace 13 = .ok (.iload_n 2, 1) := by decide +kernel
theorem dX2_trace_14 : decode cX2_trace 14 = .ok (.aaload, 1) := by decide +kernel
theorem dX2_trace_15 : decode cX2_trace 15 = .ok (.getfield 22, 3) := by decide +kernel
theorem dX2_trace_18 : decode cX2_trace 18 = .ok (.iconst 0, 1) := by decide +kernel
theorem dX2_trace_19 : decode cX2_trace 19 = .ok (.iaload, 1) := by decide +kernel
theorem dX2_trace_20 : decode cX2_trace 20 = .ok (.iastore, 1) := by decide +kernel
theorem dX2_trace_21 : decode cX2_trace 21 = .ok (.iconst (-1), 1) := by decide +kernel
theorem dX2_trace_22 : decode cX2_trace 22 = .ok (.istore 4, 2) := by decide +kernel
theorem dX2_trace_24 : decode cX2_trace 24 = .ok (.aload_n 1, 1) := by decide +kernel
theorem dX2_trace_25 : decode cX2_trace 25 = .ok (.iload_n 2, 1) := by decide +kernel
theorem dX2_trace_26 : decode cX2_trace 26 = .ok (.iconst 0, 1) := by decide +kernel
theorem dX2_trace_27 : decode cX2_trace 27 = .ok (.invokevirtual 28, 3) := by decide +kernel
theorem dX2_trace_30 : decode cX2_trace 30 = .ok (.istore 5, 2) := by decide +kernel
theorem dX2_trace_32 : decode cX2_trace 32 = .ok (.iconst 1, 1) := by decide +kernel
theorem dX2_trace_33 : decode cX2_trace 33 = .ok (.istore 6, 2) := by decide +kernel
theorem dX2_trace_35 : decode cX2_trace 35 = .ok (.iload 6, 2) := by decide +kernel
theorem dX2_trace_37 : decode cX2_trace 37 = .ok (.sipush 300, 3) := by decide +kernel
theorem dX2_trace_40 : decode cX2_trace 40 = .ok (.if_icmp .gt 78, 3) := by decide +kernel
theorem dX2_trace_43 : decode cX2_trace 43 = .ok (.iload 5, 2) := by decide +kernel
theorem dX2_trace_45 : decode cX2_trace 45 = .ok (.ifCond .lt 33, 3) := by decide +kernel
theorem dX2_trace_48 : decode cX2_trace 48 = .ok (.aload_n 1, 1) := by decide +kernel
theorem dX2_trace_49 : decode cX2_trace 49 = .ok (.getfield 32, 3) := by decide +kernel
theorem dX2_trace_52 : decode cX2_trace 52 = .ok (.iload 5, 2) := by decide +kernel
theorem dX2_trace_54 : decode cX2_trace 54 = .ok (.aaload, 1) := by decide +kernel
theorem dX2_trace_55 : decode cX2_trace 55 = .ok (.getfield 36, 3) := by decide +kernel
theorem dX2_trace_58 : decode cX2_trace 58 = .ok (.iload 6, 2) := by decide +kernel
theorem dX2_trace_60 : decode cX2_trace 60 = .ok (.iconst 1, 1) := by decide +kernel
theorem dX2_trace_61 : decode cX2_trace 61 = .ok (.isub, 1) := by decide +kernel
theorem dX2_trace_62 : decode cX2_trace 62 = .ok (.if_icmp .ne 16, 3) := by decide +kernel
theorem dX2_trace_65 : decode cX2_trace 65 = .ok (.iload 5, 2) := by decide +kernel
theorem dX2_trace_67 : decode cX2_trace 67 = .ok (.istore 4, 2) := by decide +kernel
theorem dX2_trace_69 : decode cX2_trace 69 = .ok (.aload_n 1, 1) := by decide +kernel
theorem dX2_trace_70 : decode cX2_trace 70 = .ok (.iload_n 2, 1) := by decide +kernel
theorem dX2_trace_71 : decode cX2_trace 71 = .ok (.iload 6, 2) := by decide +kernel
theorem dX2_trace_73 : decode cX2_trace 73 = .ok (.invokevirtual 28, 3) := by decide +kernel
theorem dX2_trace_76 : decode cX2_trace 76 = .ok (.istore 5, 2) := by decide +kernel
theorem dX2_trace_78 : decode cX2_trace 78 = .ok (.aload_n 3, 1) := by decide +kernel
theorem dX2_trace_79 : decode cX2_trace 79 = .ok (.iload 6, 2) := by decide +kernel
theorem dX2_trace_81 : decode cX2_trace 81 = .ok (.iload 4, 2) := by decide +kernel
theorem dX2_trace_83 : decode cX2_trace 83 = .ok (.ifCond .ge 12, 3) := by decide +kernel
theorem dX2_trace_86 : decode cX2_trace 86 = .ok (.aload_n 3, 1) := by decide +kernel
theorem dX2_trace_87 : decode cX2_trace 87 = .ok (.iload 6, 2) := by decide +kernel
theorem dX2_trace_89 : decode cX2_trace 89 = .ok (.iconst 1, 1) := by decide +kernel
theorem dX2_trace_90 : decode cX2_trace 90 = .ok (.isub, 1) := by decide +kernel
theorem dX2_trace_91 : decode cX2_trace 91 = .ok (.iaload, 1) := by decide +kernel
theorem dX2_trace_92 : decode cX2_trace 92 = .ok (.goto 19, 3) := by decide +kernel
theorem dX2_trace_95 : decode cX2_trace 95 = .ok (.aload_n 1, 1) := by decide +kernel
theorem dX2_trace_96 : decode cX2_trace 96 = .ok (.getfield 32, 3) := by decide +kernel
theorem dX2_trace_99 : decode cX2_trace 99 = .ok (.iload 4, 2) := by decide +kernel
theorem dX2_trace_101 : decode cX2_trace 101 = .ok (.aaload, 1) := by decide +kernel
theorem dX2_trace_102 : decode cX2_trace 102 = .ok (.aload_n 3, 1) := by decide +kernel
theorem dX2_trace_103 : decode cX2_trace 103 = .ok (.iload 6, 2) := by decide +kernel
theorem dX2_trace_105 : decode cX2_trace 105 = .ok (.iconst 1, 1) := by decide +kernel
theorem dX2_trace_106 : decode cX2_trace 106 = .ok (.isub, 1) := by decide +kernel
theorem dX2_trace_107 : decode cX2_trace 107 = .ok (.iaload, 1) := by decide +kernel
theorem dX2_trace_108 : decode cX2_trace 108 = .ok (.invokevirtual 42, 3) := by decide +kernel
theorem dX2_trace_111 : decode cX2_trace 111 = .ok (.iastore, 1) := by decide +kernel
theorem dX2_trace_112 : decode cX2_trace 112 = .ok (.iinc 6 1, 3) := by decide +kernel
theorem dX2_trace_115 : decode cX2_trace 115 = .ok (.goto (-80), 3) := by decide +kernel
theorem dX2_trace_118 : decode cX2_trace 118 = .ok (.return_, 1) := by decide +kernel
set_option maxRecDepth 20000 in
theorem ggX2_traceAll_X2_trace : GoodIn wsX2_traceAll wsX2_trace := goodIn_r _ [5, 6, 7, 8, 9, 10, 11, 12, 13, 14, 15, 16, 17, 18, 19, 20, 21, 22, 23, 24, 25, 26, 27, 28, 29, 30, 31, 32, 33, 34, 35, 36, 37, 38, 39, 40, 41, 42] (by decide +kernel) (by decide +kernel)
set_option maxRecDepth 20000 in
theorem gX2_traceAll_X2_trace : GoodIn wsX2_traceAll (wsV RX2 46 RX2 yX2_trace wsX2_trace) := goodIn_app (goodIn_of _ (by decide +kernel)) ggX2_traceAll_X2_trace
theorem dX2_traceAll_0 : decode cX2_traceAll 0 = .ok (.iconst 0, 1) := by decide +kernel
theorem dX2_traceAll_1 : decode cX2_traceAll 1 = .ok (.istore_n 2, 1) := by decide +kernel
theorem dX2_traceAll_2 : decode cX2_traceAll 2 = .ok (.iload_n 2, 1) := by decide +kernel
theorem dX2_traceAll_3 : decode cX2_traceAll 3 = .ok (.bipush 10, 2) := by decide +kernel
theorem dX2_traceAll_5 : decode cX2_traceAll 5 = .ok (.if_icmp .ge 15, 3) := by decide +kernel
theorem dX2_traceAll_8 : decode cX2_traceAll 8 = .ok (.aload_n 0, 1) := by decide +kernel
theorem dX2_traceAll_9 : decode cX2_traceAll 9 = .ok (.aload_n 1, 1) := by decide +kernel
theorem dX2_traceAll_10 : decode cX2_traceAll 10 = .ok (.iload_n 2, 1) := by decide +kernel
theorem dX2_traceAll_11 : decode cX2_traceAll 11 = .ok (.invokevirtual 46, 3) := by decide +kernel
theorem dX2_traceAll_14 : decode cX2_traceAll 14 = .ok (.iinc 2 1, 3) := by decide +kernel
theorem dX2_traceAll_17 : decode cX2_traceAll 17 = .ok (.goto (-15), 3) := by decide +kernel
theorem dX2_traceAll_20 : decode cX2_traceAll 20 = .ok (.return_, 1) := by decide +kernel
set_option maxRecDepth 20000 in
theorem ggX2_endOf_X6_firstMoveFrom : GoodIn wsX2_endOf wsX6_firstMoveFrom := goodIn_r _ [10, 11, 12, 13, 14, 15, 16, 17, 18, 19, 20, 21, 22] (by decide +kernel) (by decide +kernel)
set_option maxRecDepth 20000 in
theorem gX2_endOf_X6_firstMoveFrom : GoodIn wsX2_endOf (wsV RX2 28 RX6 yX6_firstMoveFrom wsX6_firstMoveFrom) := goodIn_app (goodIn_of _ (by decide +kernel)) ggX2_endOf_X6_firstMoveFrom
theorem dX2_endOf_0 : decode cX2_endOf 0 = .ok (.aload_n 1, 1) := by decide +kernel
theorem dX2_endOf_1 : decode cX2_endOf 1 = .ok (.getfield 32, 3) := by decide +kernel
theorem dX2_endOf_4 : decode cX2_endOf 4 = .ok (.iload_n 2, 1) := by decide +kernel
theorem dX2_endOf_5 : decode cX2_endOf 5 = .ok (.aaload, 1) := by decide +kernel
theorem dX2_endOf_6 : decode cX2_endOf 6 = .ok (.astore_n 3, 1) := by decide +kernel
theorem dX2_endOf_7 : decode cX2_endOf 7 = .ok (.aload_n 1, 1) := by decide +kernel
theorem dX2_endOf_8 : decode cX2_endOf 8 = .ok (.aload_n 3, 1) := by decide +kernel
theorem dX2_endOf_9 : decode cX2_endOf 9 = .ok (.getfield 50, 3) := by decide +kernel
theorem dX2_endOf_12 : decode cX2_endOf 12 = .ok (.aload_n 3, 1) := by decide +kernel
theorem dX2_endOf_13 : decode cX2_endOf 13 = .ok (.getfield 36, 3) := by decide +kernel
theorem dX2_endOf_16 : decode cX2_endOf 16 = .ok (.iconst 1, 1) := by decide +kernel
theorem dX2_endOf_17 : decode cX2_endOf 17 = .ok (.iadd, 1) := by decide +kernel
theorem dX2_endOf_18 : decode cX2_endOf 18 = .ok (.invokevirtual 28, 3) := by decide +kernel
theorem dX2_endOf_21 : decode cX2_endOf 21 = .ok (.istore 4, 2) := by decide +kernel
theorem dX2_endOf_23 : decode cX2_endOf 23 = .ok (.iload 4, 2) := by decide +kernel
theorem dX2_endOf_25 : decode cX2_endOf 25 = .ok (.ifCond .ge 9, 3) := by decide +kernel
theorem dX2_endOf_28 : decode cX2_endOf 28 = .ok (.sipush 300, 3) := by decide +kernel
theorem dX2_endOf_31 : decode cX2_endOf 31 = .ok (.goto 13, 3) := by decide +kernel
theorem dX2_endOf_34 : decode cX2_endOf 34 = .ok (.aload_n 1, 1) := by decide +kernel
theorem dX2_endOf_35 : decode cX2_endOf 35 = .ok (.getfield 32, 3) := by decide +kernel
theorem dX2_endOf_38 : decode cX2_endOf 38 = .ok (.iload 4, 2) := by decide +kernel
theorem dX2_endOf_40 : decode cX2_endOf 40 = .ok (.aaload, 1) := by decide +kernel
theorem dX2_endOf_41 : decode cX2_endOf 41 = .ok (.getfield 36, 3) := by decide +kernel
theorem dX2_endOf_44 : decode cX2_endOf 44 = .ok (.istore 5, 2) := by decide +kernel
theorem dX2_endOf_46 : decode cX2_endOf 46 = .ok (.aload_n 3, 1) := by decide +kernel
theorem dX2_endOf_47 : decode cX2_endOf 47 = .ok (.getfield 36, 3) := by decide +kernel
theorem dX2_endOf_50 : decode cX2_endOf 50 = .ok (.istore 6, 2) := by decide +kernel
theorem dX2_endOf_52 : decode cX2_endOf 52 = .ok (.iload 6, 2) := by decide +kernel
theorem dX2_endOf_54 : decode cX2_endOf 54 = .ok (.iload 5, 2) := by decide +kernel
theorem dX2_endOf_56 : decode cX2_endOf 56 = .ok (.if_icmp .ge 28, 3) := by decide +kernel
theorem dX2_endOf_59 : decode cX2_endOf 59 = .ok (.aload_n 0, 1) := by decide +kernel
theorem dX2_endOf_60 : decode cX2_endOf 60 = .ok (.getfield 11, 3) := by decide +kernel
theorem dX2_endOf_63 : decode cX2_endOf 63 = .ok (.aload_n 3, 1) := by decide +kernel
theorem dX2_endOf_64 : decode cX2_endOf 64 = .ok (.getfield 50, 3) := by decide +kernel
theorem dX2_endOf_67 : decode cX2_endOf 67 = .ok (.aaload, 1) := by decide +kernel
theorem dX2_endOf_68 : decode cX2_endOf 68 = .ok (.iload 6, 2) := by decide +kernel
theorem dX2_endOf_70 : decode cX2_endOf 70 = .ok (.iaload, 1) := by decide +kernel
theorem dX2_endOf_71 : decode cX2_endOf 71 = .ok (.aload_n 3, 1) := by decide +kernel
theorem dX2_endOf_72 : decode cX2_endOf 72 = .ok (.getfield 53, 3) := by decide +kernel
theorem dX2_endOf_75 : decode cX2_endOf 75 = .ok (.if_icmp .eq 9, 3) := by decide +kernel
theorem dX2_endOf_78 : decode cX2_endOf 78 = .ok (.iinc 6 1, 3) := by decide +kernel
theorem dX2_endOf_81 : decode cX2_endOf 81 = .ok (.goto (-29), 3) := by decide +kernel
theorem dX2_endOf_84 : decode cX2_endOf 84 = .ok (.iload 6, 2) := by decide +kernel
theorem dX2_endOf_86 : decode cX2_endOf 86 = .ok (.ireturn, 1) := by decide +kernel
set_option maxRecDepth 20000 in
theorem ggX2_canStrike_X6_areNear : GoodIn wsX2_canStrike wsX6_areNear := goodIn_r _ [7, 8, 9, 10, 11, 12, 13, 14, 15, 16, 17, 18, 19, 20] (by decide +kernel) (by decide +kernel)
set_option maxRecDepth 20000 in
theorem gX2_canStrike_X6_areNear : GoodIn wsX2_canStrike (wsV RX2 56 RX6 yX6_areNear wsX6_areNear) := goodIn_app (goodIn_of _ (by decide +kernel)) ggX2_canStrike_X6_areNear
theorem dX2_canStrike_0 : decode cX2_canStrike 0 = .ok (.aload_n 1, 1) := by decide +kernel
theorem dX2_canStrike_1 : decode cX2_canStrike 1 = .ok (.getfield 16, 3) := by decide +kernel
theorem dX2_canStrike_4 : decode cX2_canStrike 4 = .ok (.iload_n 2, 1) := by decide +kernel
theorem dX2_canStrike_5 : decode cX2_canStrike 5 = .ok (.aaload, 1) := by decide +kernel
theorem dX2_canStrike_6 : decode cX2_canStrike 6 = .ok (.getfield 22, 3) := by decide +kernel
theorem dX2_canStrike_9 : decode cX2_canStrike 9 = .ok (.iconst 1, 1) := by decide +kernel
theorem dX2_canStrike_10 : decode cX2_canStrike 10 = .ok (.iaload, 1) := by decide +kernel
theorem dX2_canStrike_11 : decode cX2_canStrike 11 = .ok (.ifCond .le 21, 3) := by decide +kernel
theorem dX2_canStrike_14 : decode cX2_canStrike 14 = .ok (.aload_n 1, 1) := by decide +kernel
theorem dX2_canStrike_15 : decode cX2_canStrike 15 = .ok (.getfield 16, 3) := by decide +kernel
theorem dX2_canStrike_18 : decode cX2_canStrike 18 = .ok (.iload_n 3, 1) := by decide +kernel
theorem dX2_canStrike_19 : decode cX2_canStrike 19 = .ok (.aaload, 1) := by decide +kernel
theorem dX2_canStrike_20 : decode cX2_canStrike 20 = .ok (.getfield 22, 3) := by decide +kernel
theorem dX2_canStrike_23 : decode cX2_canStrike 23 = .ok (.iconst 1, 1) := by decide +kernel
theorem dX2_canStrike_24 : decode cX2_canStrike 24 = .ok (.iaload, 1) := by decide +kernel
theorem dX2_canStrike_25 : decode cX2_canStrike 25 = .ok (.ifCond .le 7, 3) := by decide +kernel
theorem dX2_canStrike_28 : decode cX2_canStrike 28 = .ok (.iconst 1, 1) := by decide +kernel
theorem dX2_canStrike_29 : decode cX2_canStrike 29 = .ok (.goto 4, 3) := by decide +kernel
theorem dX2_canStrike_32 : decode cX2_canStrike 32 = .ok (.iconst 0, 1) := by decide +kernel
theorem dX2_canStrike_33 : decode cX2_canStrike 33 = .ok (.istore 4, 2) := by decide +kernel
theorem dX2_canStrike_35 : decode cX2_canStrike 35 = .ok (.iload 4, 2) := by decide +kernel
theorem dX2_canStrike_37 : decode cX2_canStrike 37 = .ok (.ifCond .eq 16, 3) := by decide +kernel
theorem dX2_canStrike_40 : decode cX2_canStrike 40 = .ok (.aload_n 1, 1) := by decide +kernel
theorem dX2_canStrike_41 : decode cX2_canStrike 41 = .ok (.iload_n 2, 1) := by decide +kernel
theorem dX2_canStrike_42 : decode cX2_canStrike 42 = .ok (.iload_n 3, 1) := by decide +kernel
theorem dX2_canStrike_43 : decode cX2_canStrike 43 = .ok (.invokevirtual 56, 3) := by decide +kernel
theorem dX2_canStrike_46 : decode cX2_canStrike 46 = .ok (.ifCond .eq 7, 3) := by decide +kernel
theorem dX2_canStrike_49 : decode cX2_canStrike 49 = .ok (.iconst 1, 1) := by decide +kernel
theorem dX2_canStrike_50 : decode cX2_canStrike 50 = .ok (.goto 4, 3) := by decide +kernel
theorem dX2_canStrike_53 : decode cX2_canStrike 53 = .ok (.iconst 0, 1) := by decide +kernel
theorem dX2_canStrike_54 : decode cX2_canStrike 54 = .ok (.ireturn, 1) := by decide +kernel
theorem dX2_overlap_0 : decode cX2_overlap 0 = .ok (.aload_n 0, 1) := by decide +kernel
theorem dX2_overlap_1 : decode cX2_overlap 1 = .ok (.getfield 11, 3) := by decide +kernel
theorem dX2_overlap_4 : decode cX2_overlap 4 = .ok (.iload_n 2, 1) := by decide +kernel
theorem dX2_overlap_5 : decode cX2_overlap 5 = .ok (.aaload, 1) := by decide +kernel
theorem dX2_overlap_6 : decode cX2_overlap 6 = .ok (.iload 4, 2) := by decide +kernel
theorem dX2_overlap_8 : decode cX2_overlap 8 = .ok (.iaload, 1) := by decide +kernel
theorem dX2_overlap_9 : decode cX2_overlap 9 = .ok (.istore 5, 2) := by decide +kernel
theorem dX2_overlap_11 : decode cX2_overlap 11 = .ok (.aload_n 0, 1) := by decide +kernel
theorem dX2_overlap_12 : decode cX2_overlap 12 = .ok (.getfield 11, 3) := by decide +kernel
theorem dX2_overlap_15 : decode cX2_overlap 15 = .ok (.iload_n 3, 1) := by decide +kernel
theorem dX2_overlap_16 : decode cX2_overlap 16 = .ok (.aaload, 1) := by decide +kernel
theorem dX2_overlap_17 : decode cX2_overlap 17 = .ok (.iload 4, 2) := by decide +kernel
theorem dX2_overlap_19 : decode cX2_overlap 19 = .ok (.iaload, 1) := by decide +kernel
theorem dX2_overlap_20 : decode cX2_overlap 20 = .ok (.istore 6, 2) := by decide +kernel
theorem dX2_overlap_22 : decode cX2_overlap 22 = .ok (.iload 5, 2) := by decide +kernel
theorem dX2_overlap_24 : decode cX2_overlap 24 = .ok (.aload_n 1, 1) := by decide +kernel
theorem dX2_overlap_25 : decode cX2_overlap 25 = .ok (.getfield 16, 3) := by decide +kernel
theorem dX2_overlap_28 : decode cX2_overlap 28 = .ok (.iload_n 2, 1) := by decide +kernel
theorem dX2_overlap_29 : decode cX2_overlap 29 = .ok (.aaload, 1) := by decide +kernel
theorem dX2_overlap_30 : decode cX2_overlap 30 = .ok (.getfield 22, 3) := by decide +kernel
theorem dX2_overlap_33 : decode cX2_overlap 33 = .ok (.iconst 1, 1) := by decide +kernel
theorem dX2_overlap_34 : decode cX2_overlap 34 = .ok (.iaload, 1) := by decide +kernel
theorem dX2_overlap_35 : decode cX2_overlap 35 = .ok (.isub, 1) := by decide +kernel
theorem dX2_overlap_36 : decode cX2_overlap 36 = .ok (.istore 7, 2) := by decide +kernel
theorem dX2_overlap_38 : decode cX2_overlap 38 = .ok (.iload 6, 2) := by decide +kernel
theorem dX2_overlap_40 : decode cX2_overlap 40 = .ok (.aload_n 1, 1) := by decide +kernel
theorem dX2_overlap_41 : decode cX2_overlap 41 = .ok (.getfield 16, 3) := by decide +kernel
theorem dX2_overlap_44 : decode cX2_overlap 44 = .ok (.iload_n 3, 1) := by decide +kernel
theorem dX2_overlap_45 : decode cX2_overlap 45 = .ok (.aaload, 1) := by decide +kernel
theorem dX2_overlap_46 : decode cX2_overlap 46 = .ok (.getfield 22, 3) := by decide +kernel
theorem dX2_overlap_49 : decode cX2_overlap 49 = .ok (.iconst 1, 1) := by decide +kernel
theorem dX2_overlap_50 : decode cX2_overlap 50 = .ok (.iaload, 1) := by decide +kernel
theorem dX2_overlap_51 : decode cX2_overlap 51 = .ok (.isub, 1) := by decide +kernel
theorem dX2_overlap_52 : decode cX2_overlap 52 = .ok (.istore 8, 2) := by decide +kernel
theorem dX2_overlap_54 : decode cX2_overlap 54 = .ok (.iload 7, 2) := by decide +kernel
theorem dX2_overlap_56 : decode cX2_overlap 56 = .ok (.iload 8, 2) := by decide +kernel
theorem dX2_overlap_58 : decode cX2_overlap 58 = .ok (.invokestatic 60, 3) := by decide +kernel
theorem dX2_overlap_61 : decode cX2_overlap 61 = .ok (.iload 5, 2) := by decide +kernel
theorem dX2_overlap_63 : decode cX2_overlap 63 = .ok (.iload 6, 2) := by decide +kernel
theorem dX2_overlap_65 : decode cX2_overlap 65 = .ok (.invokestatic 65, 3) := by decide +kernel
theorem dX2_overlap_68 : decode cX2_overlap 68 = .ok (.if_icmp .ge 7, 3) := by decide +kernel
theorem dX2_overlap_71 : decode cX2_overlap 71 = .ok (.iconst 1, 1) := by decide +kernel
theorem dX2_overlap_72 : decode cX2_overlap 72 = .ok (.goto 4, 3) := by decide +kernel
theorem dX2_overlap_75 : decode cX2_overlap 75 = .ok (.iconst 0, 1) := by decide +kernel
theorem dX2_overlap_76 : decode cX2_overlap 76 = .ok (.ireturn, 1) := by decide +kernel
set_option maxRecDepth 20000 in
theorem ggX2_firstStrike_X2_canStrike : GoodIn wsX2_firstStrike wsX2_canStrike := goodIn_r _ [5, 6, 7, 8, 9, 10, 11, 12, 13, 14, 15, 16, 17, 18, 30, 31, 32, 33, 34, 35, 36] (by decide +kernel) (by decide +kernel)
set_option maxRecDepth 20000 in
theorem gX2_firstStrike_X2_canStrike : GoodIn wsX2_firstStrike (wsV RX2 68 RX2 yX2_canStrike wsX2_canStrike) := goodIn_app (goodIn_of _ (by decide +kernel)) ggX2_firstStrike_X2_canStrike
set_option maxRecDepth 20000 in
theorem ggX2_firstStrike_X2_overlap : GoodIn wsX2_firstStrike wsX2_overlap := goodIn_r _ [22, 23, 6, 7, 24, 25, 15, 26, 27, 28, 29, 37, 30, 31, 32, 33, 34, 35, 36] (by decide +kernel) (by decide +kernel)
set_option maxRecDepth 20000 in
theorem gX2_firstStrike_X2_overlap : GoodIn wsX2_firstStrike (wsV RX2 72 RX2 yX2_overlap wsX2_overlap) := goodIn_app (goodIn_of _ (by decide +kernel)) ggX2_firstStrike_X2_overlap
theorem dX2_firstStrike_0 : decode cX2_firstStrike 0 = .ok (.aload_n 0, 1) := by decide +kernel
theorem dX2_firstStrike_1 : decode cX2_firstStrike 1 = .ok (.aload_n 1, 1) := by decide +kernel
theorem dX2_firstStrike_2 : decode cX2_firstStrike 2 = .ok (.iload_n 2, 1) := by decide +kernel
theorem dX2_firstStrike_3 : decode cX2_firstStrike 3 = .ok (.iload_n 3, 1) := by decide +kernel
theorem dX2_firstStrike_4 : decode cX2_firstStrike 4 = .ok (.invokevirtual 68, 3) := by decide +kernel
theorem dX2_firstStrike_7 : decode cX2_firstStrike 7 = .ok (.ifCond .ne 6, 3) := by decide +kernel
theorem dX2_firstStrike_10 : decode cX2_firstStrike 10 = .ok (.iload 5, 2) := by decide +kernel
theorem dX2_firstStrike_12 : decode cX2_firstStrike 12 = .ok (.ireturn, 1) := by decide +kernel
theorem dX2_firstStrike_13 : decode cX2_firstStrike 13 = .ok (.iload 4, 2) := by decide +kernel
theorem dX2_firstStrike_15 : decode cX2_firstStrike 15 = .ok (.istore 6, 2) := by decide +kernel
theorem dX2_firstStrike_17 : decode cX2_firstStrike 17 = .ok (.iload 6, 2) := by decide +kernel
theorem dX2_firstStrike_19 : decode cX2_firstStrike 19 = .ok (.iload 5, 2) := by decide +kernel
theorem dX2_firstStrike_21 : decode cX2_firstStrike 21 = .ok (.if_icmp .ge 24, 3) := by decide +kernel
theorem dX2_firstStrike_24 : decode cX2_firstStrike 24 = .ok (.aload_n 0, 1) := by decide +kernel
theorem dX2_firstStrike_25 : decode cX2_firstStrike 25 = .ok (.aload_n 1, 1) := by decide +kernel
theorem dX2_firstStrike_26 : decode cX2_firstStrike 26 = .ok (.iload_n 2, 1) := by decide +kernel
theorem dX2_firstStrike_27 : decode cX2_firstStrike 27 = .ok (.iload_n 3, 1) := by decide +kernel
theorem dX2_firstStrike_28 : decode cX2_firstStrike 28 = .ok (.iload 6, 2) := by decide +kernel
theorem dX2_firstStrike_30 : decode cX2_firstStrike 30 = .ok (.invokevirtual 72, 3) := by decide +kernel
theorem dX2_firstStrike_33 : decode cX2_firstStrike 33 = .ok (.ifCond .eq 6, 3) := by decide +kernel
theorem dX2_firstStrike_36 : decode cX2_firstStrike 36 = .ok (.iload 6, 2) := by decide +kernel
theorem dX2_firstStrike_38 : decode cX2_firstStrike 38 = .ok (.ireturn, 1) := by decide +kernel
theorem dX2_firstStrike_39 : decode cX2_firstStrike 39 = .ok (.iinc 6 1, 3) := by decide +kernel
theorem dX2_firstStrike_42 : decode cX2_firstStrike 42 = .ok (.goto (-25), 3) := by decide +kernel
theorem dX2_firstStrike_45 : decode cX2_firstStrike 45 = .ok (.iload 5, 2) := by decide +kernel
theorem dX2_firstStrike_47 : decode cX2_firstStrike 47 = .ok (.ireturn, 1) := by decide +kernel
set_option maxRecDepth 20000 in
theorem ggX2_strikesOf_X2_canStrike : GoodIn wsX2_strikesOf wsX2_canStrike := goodIn_r _ [5, 6, 7, 8, 9, 10, 11, 12, 13, 14, 15, 16, 17, 18, 30, 31, 32, 33, 34, 35, 36] (by decide +kernel) (by decide +kernel)
set_option maxRecDepth 20000 in
theorem gX2_strikesOf_X2_canStrike : GoodIn wsX2_strikesOf (wsV RX2 68 RX2 yX2_canStrike wsX2_canStrike) := goodIn_app (goodIn_of _ (by decide +kernel)) ggX2_strikesOf_X2_canStrike
set_option maxRecDepth 20000 in
theorem ggX2_strikesOf_X2_overlap : GoodIn wsX2_strikesOf wsX2_overlap := goodIn_r _ [22, 23, 6, 7, 24, 25, 15, 26, 27, 28, 29, 37, 30, 31, 32, 33, 34, 35, 36] (by decide +kernel) (by decide +kernel)
set_option maxRecDepth 20000 in
theorem gX2_strikesOf_X2_overlap : GoodIn wsX2_strikesOf (wsV RX2 72 RX2 yX2_overlap wsX2_overlap) := goodIn_app (goodIn_of _ (by decide +kernel)) ggX2_strikesOf_X2_overlap
theorem dX2_strikesOf_0 : decode cX2_strikesOf 0 = .ok (.aload_n 0, 1) := by decide +kernel
theorem dX2_strikesOf_1 : decode cX2_strikesOf 1 = .ok (.aload_n 1, 1) := by decide +kernel
theorem dX2_strikesOf_2 : decode cX2_strikesOf 2 = .ok (.iload_n 2, 1) := by decide +kernel
theorem dX2_strikesOf_3 : decode cX2_strikesOf 3 = .ok (.iload_n 3, 1) := by decide +kernel
theorem dX2_strikesOf_4 : decode cX2_strikesOf 4 = .ok (.invokevirtual 68, 3) := by decide +kernel
theorem dX2_strikesOf_7 : decode cX2_strikesOf 7 = .ok (.ifCond .ne 5, 3) := by decide +kernel
theorem dX2_strikesOf_10 : decode cX2_strikesOf 10 = .ok (.iconst 0, 1) := by decide +kernel
theorem dX2_strikesOf_11 : decode cX2_strikesOf 11 = .ok (.ireturn, 1) := by decide +kernel
theorem dX2_strikesOf_12 : decode cX2_strikesOf 12 = .ok (.iconst 0, 1) := by decide +kernel
theorem dX2_strikesOf_13 : decode cX2_strikesOf 13 = .ok (.istore 4, 2) := by decide +kernel
theorem dX2_strikesOf_15 : decode cX2_strikesOf 15 = .ok (.iconst 0, 1) := by decide +kernel
theorem dX2_strikesOf_16 : decode cX2_strikesOf 16 = .ok (.istore 5, 2) := by decide +kernel
theorem dX2_strikesOf_18 : decode cX2_strikesOf 18 = .ok (.iload 5, 2) := by decide +kernel
theorem dX2_strikesOf_20 : decode cX2_strikesOf 20 = .ok (.sipush 300, 3) := by decide +kernel
theorem dX2_strikesOf_23 : decode cX2_strikesOf 23 = .ok (.if_icmp .gt 24, 3) := by decide +kernel
theorem dX2_strikesOf_26 : decode cX2_strikesOf 26 = .ok (.aload_n 0, 1) := by decide +kernel
theorem dX2_strikesOf_27 : decode cX2_strikesOf 27 = .ok (.aload_n 1, 1) := by decide +kernel
theorem dX2_strikesOf_28 : decode cX2_strikesOf 28 = .ok (.iload_n 2, 1) := by decide +kernel
theorem dX2_strikesOf_29 : decode cX2_strikesOf 29 = .ok (.iload_n 3, 1) := by decide +kernel
theorem dX2_strikesOf_30 : decode cX2_strikesOf 30 = .ok (.iload 5, 2) := by decide +kernel
theorem dX2_strikesOf_32 : decode cX2_strikesOf 32 = .ok (.invokevirtual 72, 3) := by decide +kernel
theorem dX2_strikesOf_35 : decode cX2_strikesOf 35 = .ok (.ifCond .eq 6, 3) := by decide +kernel
theorem dX2_strikesOf_38 : decode cX2_strikesOf 38 = .ok (.iinc 4 1, 3) := by decide +kernel
theorem dX2_strikesOf_41 : decode cX2_strikesOf 41 = .ok (.iinc 5 1, 3) := by decide +kernel
theorem dX2_strikesOf_44 : decode cX2_strikesOf 44 = .ok (.goto (-26), 3) := by decide +kernel
theorem dX2_strikesOf_47 : decode cX2_strikesOf 47 = .ok (.iload 4, 2) := by decide +kernel
theorem dX2_strikesOf_49 : decode cX2_strikesOf 49 = .ok (.ireturn, 1) := by decide +kernel
theorem dX3_init_0 : decode cX3_init 0 = .ok (.aload_n 0, 1) := by decide +kernel
theorem dX3_init_1 : decode cX3_init 1 = .ok (.invokespecial 3, 3) := by decide +kernel
theorem dX3_init_4 : decode cX3_init 4 = .ok (.aload_n 0, 1) := by decide +kernel
theorem dX3_init_5 : decode cX3_init 5 = .ok (.bipush 64, 2) := by decide +kernel
theorem dX3_init_7 : decode cX3_init 7 = .ok (.newarray .int, 2) := by decide +kernel
theorem dX3_init_9 : decode cX3_init 9 = .ok (.putfield 9, 3) := by decide +kernel
theorem dX3_init_12 : decode cX3_init 12 = .ok (.aload_n 0, 1) := by decide +kernel
theorem dX3_init_13 : decode cX3_init 13 = .ok (.bipush 64, 2) := by decide +kernel
theorem dX3_init_15 : decode cX3_init 15 = .ok (.newarray .int, 2) := by decide +kernel
theorem dX3_init_17 : decode cX3_init 17 = .ok (.putfield 15, 3) := by decide +kernel
theorem dX3_init_20 : decode cX3_init 20 = .ok (.aload_n 0, 1) := by decide +kernel
theorem dX3_init_21 : decode cX3_init 21 = .ok (.sipush 4096, 3) := by decide +kernel
theorem dX3_init_24 : decode cX3_init 24 = .ok (.newarray .int, 2) := by decide +kernel
theorem dX3_init_26 : decode cX3_init 26 = .ok (.putfield 18, 3) := by decide +kernel
theorem dX3_init_29 : decode cX3_init 29 = .ok (.aload_n 0, 1) := by decide +kernel
theorem dX3_init_30 : decode cX3_init 30 = .ok (.iconst 0, 1) := by decide +kernel
theorem dX3_init_31 : decode cX3_init 31 = .ok (.putfield 21, 3) := by decide +kernel
theorem dX3_init_34 : decode cX3_init 34 = .ok (.aload_n 0, 1) := by decide +kernel
theorem dX3_init_35 : decode cX3_init 35 = .ok (.iconst 0, 1) := by decide +kernel
theorem dX3_init_36 : decode cX3_init 36 = .ok (.putfield 25, 3) := by decide +kernel
theorem dX3_init_39 : decode cX3_init 39 = .ok (.return_, 1) := by decide +kernel
set_option maxRecDepth 20000 in
theorem ggX3_reckon_X3_fillSums : GoodIn wsX3_reckon wsX3_fillSums := goodIn_r _ [16, 2, 17, 28, 29] (by decide +kernel) (by decide +kernel)
set_option maxRecDepth 20000 in
theorem gX3_reckon_X3_fillSums : GoodIn wsX3_reckon (va_wsS RX3 42 yX3_fillSums wsX3_fillSums) := goodIn_app (goodIn_of _ (by decide +kernel)) ggX3_reckon_X3_fillSums
set_option maxRecDepth 20000 in
theorem ggX3_reckon_X3_indexOf : GoodIn wsX3_reckon wsX3_indexOf := goodIn_r _ [20] (by decide +kernel) (by decide +kernel)
set_option maxRecDepth 20000 in
theorem gX3_reckon_X3_indexOf : GoodIn wsX3_reckon (va_wsS RX3 52 yX3_indexOf wsX3_indexOf) := goodIn_app (goodIn_of _ (by decide +kernel)) ggX3_reckon_X3_indexOf
set_option maxRecDepth 20000 in
theorem ggX3_reckon_X3_ordersBehind : GoodIn wsX3_reckon wsX3_ordersBehind := goodIn_r _ [24, 3, 5, 12, 18, 19, 15, 20, 30, 31, 32, 33, 34] (by decide +kernel) (by decide +kernel)
set_option maxRecDepth 20000 in
theorem gX3_reckon_X3_ordersBehind : GoodIn wsX3_reckon (wsV RX3 56 RX3 yX3_ordersBehind wsX3_ordersBehind) := goodIn_app (goodIn_of _ (by decide +kernel)) ggX3_reckon_X3_ordersBehind
theorem dX3_reckon_0 : decode cX3_reckon 0 = .ok (.aload_n 0, 1) := by decide +kernel
theorem dX3_reckon_1 : decode cX3_reckon 1 = .ok (.aload_n 1, 1) := by decide +kernel
theorem dX3_reckon_2 : decode cX3_reckon 2 = .ok (.getfield 28, 3) := by decide +kernel
theorem dX3_reckon_5 : decode cX3_reckon 5 = .ok (.getfield 34, 3) := by decide +kernel
theorem dX3_reckon_8 : decode cX3_reckon 8 = .ok (.putfield 21, 3) := by decide +kernel
theorem dX3_reckon_11 : decode cX3_reckon 11 = .ok (.aload_n 0, 1) := by decide +kernel
theorem dX3_reckon_12 : decode cX3_reckon 12 = .ok (.aload_n 1, 1) := by decide +kernel
theorem dX3_reckon_13 : decode cX3_reckon 13 = .ok (.getfield 39, 3) := by decide +kernel
theorem dX3_reckon_16 : decode cX3_reckon 16 = .ok (.getfield 34, 3) := by decide +kernel
theorem dX3_reckon_19 : decode cX3_reckon 19 = .ok (.putfield 25, 3) := by decide +kernel
theorem dX3_reckon_22 : decode cX3_reckon 22 = .ok (.aload_n 1, 1) := by decide +kernel
theorem dX3_reckon_23 : decode cX3_reckon 23 = .ok (.getfield 28, 3) := by decide +kernel
theorem dX3_reckon_26 : decode cX3_reckon 26 = .ok (.aload_n 0, 1) := by decide +kernel
theorem dX3_reckon_27 : decode cX3_reckon 27 = .ok (.getfield 9, 3) := by decide +kernel
theorem dX3_reckon_30 : decode cX3_reckon 30 = .ok (.invokestatic 42, 3) := by decide +kernel
theorem dX3_reckon_33 : decode cX3_reckon 33 = .ok (.aload_n 1, 1) := by decide +kernel
theorem dX3_reckon_34 : decode cX3_reckon 34 = .ok (.getfield 39, 3) := by decide +kernel
theorem dX3_reckon_37 : decode cX3_reckon 37 = .ok (.aload_n 0, 1) := by decide +kernel
theorem dX3_reckon_38 : decode cX3_reckon 38 = .ok (.getfield 15, 3) := by decide +kernel
theorem dX3_reckon_41 : decode cX3_reckon 41 = .ok (.invokestatic 42, 3) := by decide +kernel
theorem dX3_reckon_44 : decode cX3_reckon 44 = .ok (.iconst 1, 1) := by decide +kernel
theorem dX3_reckon_45 : decode cX3_reckon 45 = .ok (.aload_n 0, 1) := by decide +kernel
theorem dX3_reckon_46 : decode cX3_reckon 46 = .ok (.getfield 25, 3) := by decide +kernel
theorem dX3_reckon_49 : decode cX3_reckon 49 = .ok (.ishl, 1) := by decide +kernel
theorem dX3_reckon_50 : decode cX3_reckon 50 = .ok (.iconst 1, 1) := by decide +kernel
theorem dX3_reckon_51 : decode cX3_reckon 51 = .ok (.isub, 1) := by decide +kernel
theorem dX3_reckon_52 : decode cX3_reckon 52 = .ok (.istore_n 3, 1) := by decide +kernel
theorem dX3_reckon_53 : decode cX3_reckon 53 = .ok (.iload_n 3, 1) := by decide +kernel
theorem dX3_reckon_54 : decode cX3_reckon 54 = .ok (.ifCond .lt 85, 3) := by decide +kernel
theorem dX3_reckon_57 : decode cX3_reckon 57 = .ok (.iconst 1, 1) := by decide +kernel
theorem dX3_reckon_58 : decode cX3_reckon 58 = .ok (.aload_n 0, 1) := by decide +kernel
theorem dX3_reckon_59 : decode cX3_reckon 59 = .ok (.getfield 21, 3) := by decide +kernel
theorem dX3_reckon_62 : decode cX3_reckon 62 = .ok (.ishl, 1) := by decide +kernel
theorem dX3_reckon_63 : decode cX3_reckon 63 = .ok (.iconst 1, 1) := by decide +kernel
theorem dX3_reckon_64 : decode cX3_reckon 64 = .ok (.isub, 1) := by decide +kernel
theorem dX3_reckon_65 : decode cX3_reckon 65 = .ok (.istore 4, 2) := by decide +kernel
theorem dX3_reckon_67 : decode cX3_reckon 67 = .ok (.iload 4, 2) := by decide +kernel
theorem dX3_reckon_69 : decode cX3_reckon 69 = .ok (.ifCond .lt 64, 3) := by decide +kernel
theorem dX3_reckon_72 : decode cX3_reckon 72 = .ok (.aload_n 0, 1) := by decide +kernel
theorem dX3_reckon_73 : decode cX3_reckon 73 = .ok (.getfield 9, 3) := by decide +kernel
theorem dX3_reckon_76 : decode cX3_reckon 76 = .ok (.iload 4, 2) := by decide +kernel
theorem dX3_reckon_78 : decode cX3_reckon 78 = .ok (.iaload, 1) := by decide +kernel
theorem dX3_reckon_79 : decode cX3_reckon 79 = .ok (.aload_n 0, 1) := by decide +kernel
theorem dX3_reckon_80 : decode cX3_reckon 80 = .ok (.getfield 15, 3) := by decide +kernel
theorem dX3_reckon_83 : decode cX3_reckon 83 = .ok (.iload_n 3, 1) := by decide +kernel
theorem dX3_reckon_84 : decode cX3_reckon 84 = .ok (.iaload, 1) := by decide +kernel
theorem dX3_reckon_85 : decode cX3_reckon 85 = .ok (.isub, 1) := by decide +kernel
theorem dX3_reckon_86 : decode cX3_reckon 86 = .ok (.invokestatic 46, 3) := by decide +kernel
theorem dX3_reckon_89 : decode cX3_reckon 89 = .ok (.iload_n 2, 1) := by decide +kernel
theorem dX3_reckon_90 : decode cX3_reckon 90 = .ok (.if_icmp .gt 7, 3) := by decide +kernel
theorem dX3_reckon_93 : decode cX3_reckon 93 = .ok (.iconst 1, 1) := by decide +kernel
theorem dX3_reckon_94 : decode cX3_reckon 94 = .ok (.goto 4, 3) := by decide +kernel
theorem dX3_reckon_97 : decode cX3_reckon 97 = .ok (.iconst 0, 1) := by decide +kernel
theorem dX3_reckon_98 : decode cX3_reckon 98 = .ok (.istore 5, 2) := by decide +kernel
theorem dX3_reckon_100 : decode cX3_reckon 100 = .ok (.aload_n 0, 1) := by decide +kernel
theorem dX3_reckon_101 : decode cX3_reckon 101 = .ok (.getfield 18, 3) := by decide +kernel
theorem dX3_reckon_104 : decode cX3_reckon 104 = .ok (.iload 4, 2) := by decide +kernel
theorem dX3_reckon_106 : decode cX3_reckon 106 = .ok (.iload_n 3, 1) := by decide +kernel
theorem dX3_reckon_107 : decode cX3_reckon 107 = .ok (.invokestatic 52, 3) := by decide +kernel
theorem dX3_reckon_110 : decode cX3_reckon 110 = .ok (.iload 5, 2) := by decide +kernel
theorem dX3_reckon_112 : decode cX3_reckon 112 = .ok (.ifCond .eq 13, 3) := by decide +kernel
theorem dX3_reckon_115 : decode cX3_reckon 115 = .ok (.aload_n 0, 1) := by decide +kernel
theorem dX3_reckon_116 : decode cX3_reckon 116 = .ok (.iload 4, 2) := by decide +kernel
theorem dX3_reckon_118 : decode cX3_reckon 118 = .ok (.iload_n 3, 1) := by decide +kernel
theorem dX3_reckon_119 : decode cX3_reckon 119 = .ok (.invokevirtual 56, 3) := by decide +kernel
theorem dX3_reckon_122 : decode cX3_reckon 122 = .ok (.goto 4, 3) := by decide +kernel
theorem dX3_reckon_125 : decode cX3_reckon 125 = .ok (.iconst 0, 1) := by decide +kernel
theorem dX3_reckon_126 : decode cX3_reckon 126 = .ok (.iastore, 1) := by decide +kernel
theorem dX3_reckon_127 : decode cX3_reckon 127 = .ok (.iinc 4 (-1), 3) := by decide +kernel
theorem dX3_reckon_130 : decode cX3_reckon 130 = .ok (.goto (-63), 3) := by decide +kernel
theorem dX3_reckon_133 : decode cX3_reckon 133 = .ok (.iinc 3 (-1), 3) := by decide +kernel
theorem dX3_reckon_136 : decode cX3_reckon 136 = .ok (.goto (-83), 3) := by decide +kernel
theorem dX3_reckon_139 : decode cX3_reckon 139 = .ok (.return_, 1) := by decide +kernel
theorem dX3_allOrders_0 : decode cX3_allOrders 0 = .ok (.aload_n 0, 1) := by decide +kernel
theorem dX3_allOrders_1 : decode cX3_allOrders 1 = .ok (.getfield 18, 3) := by decide +kernel
theorem dX3_allOrders_4 : decode cX3_allOrders 4 = .ok (.iconst 0, 1) := by decide +kernel
theorem dX3_allOrders_5 : decode cX3_allOrders 5 = .ok (.iaload, 1) := by decide +kernel
theorem dX3_allOrders_6 : decode cX3_allOrders 6 = .ok (.ireturn, 1) := by decide +kernel
theorem dX3_things_0 : decode cX3_things 0 = .ok (.aload_n 0, 1) := by decide +kernel
theorem dX3_things_1 : decode cX3_things 1 = .ok (.getfield 21, 3) := by decide +kernel
theorem dX3_things_4 : decode cX3_things 4 = .ok (.aload_n 0, 1) := by decide +kernel
theorem dX3_things_5 : decode cX3_things 5 = .ok (.getfield 25, 3) := by decide +kernel
theorem dX3_things_8 : decode cX3_things 8 = .ok (.iadd, 1) := by decide +kernel
theorem dX3_things_9 : decode cX3_things 9 = .ok (.ireturn, 1) := by decide +kernel
set_option maxRecDepth 20000 in
theorem ggX3_placed_X3_things : GoodIn wsX3_placed wsX3_things := goodIn_r _ [5, 6, 7, 16, 17, 18, 19, 20] (by decide +kernel) (by decide +kernel)
set_option maxRecDepth 20000 in
theorem gX3_placed_X3_things : GoodIn wsX3_placed (wsV RX3 59 RX3 yX3_things wsX3_things) := goodIn_app (goodIn_of _ (by decide +kernel)) ggX3_placed_X3_things
set_option maxRecDepth 20000 in
theorem ggX3_placed_X3_leastBehind : GoodIn wsX3_placed wsX3_leastBehind := goodIn_r _ [11, 6, 12, 7, 13, 14, 4, 15, 16, 17, 18, 19, 20] (by decide +kernel) (by decide +kernel)
set_option maxRecDepth 20000 in
theorem gX3_placed_X3_leastBehind : GoodIn wsX3_placed (wsV RX3 63 RX3 yX3_leastBehind wsX3_leastBehind) := goodIn_app (goodIn_of _ (by decide +kernel)) ggX3_placed_X3_leastBehind
theorem dX3_placed_0 : decode cX3_placed 0 = .ok (.iload_n 1, 1) := by decide +kernel
theorem dX3_placed_1 : decode cX3_placed 1 = .ok (.aload_n 0, 1) := by decide +kernel
theorem dX3_placed_2 : decode cX3_placed 2 = .ok (.invokevirtual 59, 3) := by decide +kernel
theorem dX3_placed_5 : decode cX3_placed 5 = .ok (.if_icmp .lt 6, 3) := by decide +kernel
theorem dX3_placed_8 : decode cX3_placed 8 = .ok (.bipush (-6), 2) := by decide +kernel
theorem dX3_placed_10 : decode cX3_placed 10 = .ok (.ireturn, 1) := by decide +kernel
theorem dX3_placed_11 : decode cX3_placed 11 = .ok (.iconst 0, 1) := by decide +kernel
theorem dX3_placed_12 : decode cX3_placed 12 = .ok (.istore_n 2, 1) := by decide +kernel
theorem dX3_placed_13 : decode cX3_placed 13 = .ok (.iconst 0, 1) := by decide +kernel
theorem dX3_placed_14 : decode cX3_placed 14 = .ok (.istore_n 3, 1) := by decide +kernel
theorem dX3_placed_15 : decode cX3_placed 15 = .ok (.bipush (-6), 2) := by decide +kernel
theorem dX3_placed_17 : decode cX3_placed 17 = .ok (.istore 4, 2) := by decide +kernel
theorem dX3_placed_19 : decode cX3_placed 19 = .ok (.iconst 0, 1) := by decide +kernel
theorem dX3_placed_20 : decode cX3_placed 20 = .ok (.istore 5, 2) := by decide +kernel
theorem dX3_placed_22 : decode cX3_placed 22 = .ok (.iload 5, 2) := by decide +kernel
theorem dX3_placed_24 : decode cX3_placed 24 = .ok (.iload_n 1, 1) := by decide +kernel
theorem dX3_placed_25 : decode cX3_placed 25 = .ok (.if_icmp .gt 49, 3) := by decide +kernel
theorem dX3_placed_28 : decode cX3_placed 28 = .ok (.aload_n 0, 1) := by decide +kernel
theorem dX3_placed_29 : decode cX3_placed 29 = .ok (.iload_n 2, 1) := by decide +kernel
theorem dX3_placed_30 : decode cX3_placed 30 = .ok (.iload_n 3, 1) := by decide +kernel
theorem dX3_placed_31 : decode cX3_placed 31 = .ok (.invokevirtual 63, 3) := by decide +kernel
theorem dX3_placed_34 : decode cX3_placed 34 = .ok (.istore 4, 2) := by decide +kernel
theorem dX3_placed_36 : decode cX3_placed 36 = .ok (.iload 4, 2) := by decide +kernel
theorem dX3_placed_38 : decode cX3_placed 38 = .ok (.bipush 10, 2) := by decide +kernel
theorem dX3_placed_40 : decode cX3_placed 40 = .ok (.if_icmp .lt 16, 3) := by decide +kernel
theorem dX3_placed_43 : decode cX3_placed 43 = .ok (.iload_n 3, 1) := by decide +kernel
theorem dX3_placed_44 : decode cX3_placed 44 = .ok (.iconst 1, 1) := by decide +kernel
theorem dX3_placed_45 : decode cX3_placed 45 = .ok (.iload 4, 2) := by decide +kernel
theorem dX3_placed_47 : decode cX3_placed 47 = .ok (.bipush 10, 2) := by decide +kernel
theorem dX3_placed_49 : decode cX3_placed 49 = .ok (.isub, 1) := by decide +kernel
theorem dX3_placed_50 : decode cX3_placed 50 = .ok (.ishl, 1) := by decide +kernel
theorem dX3_placed_51 : decode cX3_placed 51 = .ok (.ior, 1) := by decide +kernel
theorem dX3_placed_52 : decode cX3_placed 52 = .ok (.istore_n 3, 1) := by decide +kernel
theorem dX3_placed_53 : decode cX3_placed 53 = .ok (.goto 15, 3) := by decide +kernel
theorem dX3_placed_56 : decode cX3_placed 56 = .ok (.iload 4, 2) := by decide +kernel
theorem dX3_placed_58 : decode cX3_placed 58 = .ok (.ifCond .lt 10, 3) := by decide +kernel
theorem dX3_placed_61 : decode cX3_placed 61 = .ok (.iload_n 2, 1) := by decide +kernel
theorem dX3_placed_62 : decode cX3_placed 62 = .ok (.iconst 1, 1) := by decide +kernel
theorem dX3_placed_63 : decode cX3_placed 63 = .ok (.iload 4, 2) := by decide +kernel
theorem dX3_placed_65 : decode cX3_placed 65 = .ok (.ishl, 1) := by decide +kernel
theorem dX3_placed_66 : decode cX3_placed 66 = .ok (.ior, 1) := by decide +kernel
theorem dX3_placed_67 : decode cX3_placed 67 = .ok (.istore_n 2, 1) := by decide +kernel
theorem dX3_placed_68 : decode cX3_placed 68 = .ok (.iinc 5 1, 3) := by decide +kernel
theorem dX3_placed_71 : decode cX3_placed 71 = .ok (.goto (-49), 3) := by decide +kernel
theorem dX3_placed_74 : decode cX3_placed 74 = .ok (.iload 4, 2) := by decide +kernel
theorem dX3_placed_76 : decode cX3_placed 76 = .ok (.ireturn, 1) := by decide +kernel
theorem dX3_fillSums_0 : decode cX3_fillSums 0 = .ok (.aload_n 1, 1) := by decide +kernel
theorem dX3_fillSums_1 : decode cX3_fillSums 1 = .ok (.iconst 0, 1) := by decide +kernel
theorem dX3_fillSums_2 : decode cX3_fillSums 2 = .ok (.iconst 0, 1) := by decide +kernel
theorem dX3_fillSums_3 : decode cX3_fillSums 3 = .ok (.iastore, 1) := by decide +kernel
theorem dX3_fillSums_4 : decode cX3_fillSums 4 = .ok (.iconst 0, 1) := by decide +kernel
theorem dX3_fillSums_5 : decode cX3_fillSums 5 = .ok (.istore_n 2, 1) := by decide +kernel
theorem dX3_fillSums_6 : decode cX3_fillSums 6 = .ok (.iload_n 2, 1) := by decide +kernel
theorem dX3_fillSums_7 : decode cX3_fillSums 7 = .ok (.aload_n 0, 1) := by decide +kernel
theorem dX3_fillSums_8 : decode cX3_fillSums 8 = .ok (.getfield 34, 3) := by decide +kernel
theorem dX3_fillSums_11 : decode cX3_fillSums 11 = .ok (.if_icmp .ge 45, 3) := by decide +kernel
theorem dX3_fillSums_14 : decode cX3_fillSums 14 = .ok (.iconst 1, 1) := by decide +kernel
theorem dX3_fillSums_15 : decode cX3_fillSums 15 = .ok (.iload_n 2, 1) := by decide +kernel
theorem dX3_fillSums_16 : decode cX3_fillSums 16 = .ok (.ishl, 1) := by decide +kernel
theorem dX3_fillSums_17 : decode cX3_fillSums 17 = .ok (.istore_n 3, 1) := by decide +kernel
theorem dX3_fillSums_18 : decode cX3_fillSums 18 = .ok (.iconst 0, 1) := by decide +kernel
theorem dX3_fillSums_19 : decode cX3_fillSums 19 = .ok (.istore 4, 2) := by decide +kernel
theorem dX3_fillSums_21 : decode cX3_fillSums 21 = .ok (.iload 4, 2) := by decide +kernel
theorem dX3_fillSums_23 : decode cX3_fillSums 23 = .ok (.iload_n 3, 1) := by decide +kernel
theorem dX3_fillSums_24 : decode cX3_fillSums 24 = .ok (.if_icmp .ge 26, 3) := by decide +kernel
theorem dX3_fillSums_27 : decode cX3_fillSums 27 = .ok (.aload_n 1, 1) := by decide +kernel
theorem dX3_fillSums_28 : decode cX3_fillSums 28 = .ok (.iload 4, 2) := by decide +kernel
theorem dX3_fillSums_30 : decode cX3_fillSums 30 = .ok (.iload_n 3, 1) := by decide +kernel
theorem dX3_fillSums_31 : decode cX3_fillSums 31 = .ok (.iadd, 1) := by decide +kernel
theorem dX3_fillSums_32 : decode cX3_fillSums 32 = .ok (.aload_n 1, 1) := by decide +kernel
theorem dX3_fillSums_33 : decode cX3_fillSums 33 = .ok (.iload 4, 2) := by decide +kernel
theorem dX3_fillSums_35 : decode cX3_fillSums 35 = .ok (.iaload, 1) := by decide +kernel
theorem dX3_fillSums_36 : decode cX3_fillSums 36 = .ok (.aload_n 0, 1) := by decide +kernel
theorem dX3_fillSums_37 : decode cX3_fillSums 37 = .ok (.getfield 66, 3) := by decide +kernel
theorem dX3_fillSums_40 : decode cX3_fillSums 40 = .ok (.iload_n 2, 1) := by decide +kernel
theorem dX3_fillSums_41 : decode cX3_fillSums 41 = .ok (.iaload, 1) := by decide +kernel
theorem dX3_fillSums_42 : decode cX3_fillSums 42 = .ok (.iadd, 1) := by decide +kernel
theorem dX3_fillSums_43 : decode cX3_fillSums 43 = .ok (.iastore, 1) := by decide +kernel
theorem dX3_fillSums_44 : decode cX3_fillSums 44 = .ok (.iinc 4 1, 3) := by decide +kernel
theorem dX3_fillSums_47 : decode cX3_fillSums 47 = .ok (.goto (-26), 3) := by decide +kernel
theorem dX3_fillSums_50 : decode cX3_fillSums 50 = .ok (.iinc 2 1, 3) := by decide +kernel
theorem dX3_fillSums_53 : decode cX3_fillSums 53 = .ok (.goto (-47), 3) := by decide +kernel
theorem dX3_fillSums_56 : decode cX3_fillSums 56 = .ok (.return_, 1) := by decide +kernel
theorem dX3_indexOf_0 : decode cX3_indexOf 0 = .ok (.iload_n 1, 1) := by decide +kernel
theorem dX3_indexOf_1 : decode cX3_indexOf 1 = .ok (.bipush 64, 2) := by decide +kernel
theorem dX3_indexOf_3 : decode cX3_indexOf 3 = .ok (.imul, 1) := by decide +kernel
theorem dX3_indexOf_4 : decode cX3_indexOf 4 = .ok (.iload_n 0, 1) := by decide +kernel
theorem dX3_indexOf_5 : decode cX3_indexOf 5 = .ok (.iadd, 1) := by decide +kernel
theorem dX3_indexOf_6 : decode cX3_indexOf 6 = .ok (.ireturn, 1) := by decide +kernel
set_option maxRecDepth 20000 in
theorem ggX3_ordersBehind_X3_indexOf : GoodIn wsX3_ordersBehind wsX3_indexOf := goodIn_r _ [7] (by decide +kernel) (by decide +kernel)
set_option maxRecDepth 20000 in
theorem gX3_ordersBehind_X3_indexOf : GoodIn wsX3_ordersBehind (va_wsS RX3 52 yX3_indexOf wsX3_indexOf) := goodIn_app (goodIn_of _ (by decide +kernel)) ggX3_ordersBehind_X3_indexOf
theorem dX3_ordersBehind_0 : decode cX3_ordersBehind 0 = .ok (.iload_n 1, 1) := by decide +kernel
theorem dX3_ordersBehind_1 : decode cX3_ordersBehind 1 = .ok (.iconst 1, 1) := by decide +kernel
theorem dX3_ordersBehind_2 : decode cX3_ordersBehind 2 = .ok (.aload_n 0, 1) := by decide +kernel
theorem dX3_ordersBehind_3 : decode cX3_ordersBehind 3 = .ok (.getfield 21, 3) := by decide +kernel
theorem dX3_ordersBehind_6 : decode cX3_ordersBehind 6 = .ok (.ishl, 1) := by decide +kernel
theorem dX3_ordersBehind_7 : decode cX3_ordersBehind 7 = .ok (.iconst 1, 1) := by decide +kernel
theorem dX3_ordersBehind_8 : decode cX3_ordersBehind 8 = .ok (.isub, 1) := by decide +kernel
theorem dX3_ordersBehind_9 : decode cX3_ordersBehind 9 = .ok (.if_icmp .ne 17, 3) := by decide +kernel
theorem dX3_ordersBehind_12 : decode cX3_ordersBehind 12 = .ok (.iload_n 2, 1) := by decide +kernel
theorem dX3_ordersBehind_13 : decode cX3_ordersBehind 13 = .ok (.iconst 1, 1) := by decide +kernel
theorem dX3_ordersBehind_14 : decode cX3_ordersBehind 14 = .ok (.aload_n 0, 1) := by decide +kernel
theorem dX3_ordersBehind_15 : decode cX3_ordersBehind 15 = .ok (.getfield 25, 3) := by decide +kernel
theorem dX3_ordersBehind_18 : decode cX3_ordersBehind 18 = .ok (.ishl, 1) := by decide +kernel
theorem dX3_ordersBehind_19 : decode cX3_ordersBehind 19 = .ok (.iconst 1, 1) := by decide +kernel
theorem dX3_ordersBehind_20 : decode cX3_ordersBehind 20 = .ok (.isub, 1) := by decide +kernel
theorem dX3_ordersBehind_21 : decode cX3_ordersBehind 21 = .ok (.if_icmp .ne 5, 3) := by decide +kernel
theorem dX3_ordersBehind_24 : decode cX3_ordersBehind 24 = .ok (.iconst 1, 1) := by decide +kernel
theorem dX3_ordersBehind_25 : decode cX3_ordersBehind 25 = .ok (.ireturn, 1) := by decide +kernel
theorem dX3_ordersBehind_26 : decode cX3_ordersBehind 26 = .ok (.iconst 0, 1) := by decide +kernel
theorem dX3_ordersBehind_27 : decode cX3_ordersBehind 27 = .ok (.istore_n 3, 1) := by decide +kernel
theorem dX3_ordersBehind_28 : decode cX3_ordersBehind 28 = .ok (.iconst 0, 1) := by decide +kernel
theorem dX3_ordersBehind_29 : decode cX3_ordersBehind 29 = .ok (.istore 4, 2) := by decide +kernel
theorem dX3_ordersBehind_31 : decode cX3_ordersBehind 31 = .ok (.iload 4, 2) := by decide +kernel
theorem dX3_ordersBehind_33 : decode cX3_ordersBehind 33 = .ok (.aload_n 0, 1) := by decide +kernel
theorem dX3_ordersBehind_34 : decode cX3_ordersBehind 34 = .ok (.getfield 21, 3) := by decide +kernel
theorem dX3_ordersBehind_37 : decode cX3_ordersBehind 37 = .ok (.if_icmp .ge 36, 3) := by decide +kernel
theorem dX3_ordersBehind_40 : decode cX3_ordersBehind 40 = .ok (.iload_n 1, 1) := by decide +kernel
theorem dX3_ordersBehind_41 : decode cX3_ordersBehind 41 = .ok (.iload 4, 2) := by decide +kernel
theorem dX3_ordersBehind_43 : decode cX3_ordersBehind 43 = .ok (.ishr, 1) := by decide +kernel
theorem dX3_ordersBehind_44 : decode cX3_ordersBehind 44 = .ok (.iconst 1, 1) := by decide +kernel
theorem dX3_ordersBehind_45 : decode cX3_ordersBehind 45 = .ok (.iand, 1) := by decide +kernel
theorem dX3_ordersBehind_46 : decode cX3_ordersBehind 46 = .ok (.ifCond .ne 21, 3) := by decide +kernel
theorem dX3_ordersBehind_49 : decode cX3_ordersBehind 49 = .ok (.iload_n 3, 1) := by decide +kernel
theorem dX3_ordersBehind_50 : decode cX3_ordersBehind 50 = .ok (.aload_n 0, 1) := by decide +kernel
theorem dX3_ordersBehind_51 : decode cX3_ordersBehind 51 = .ok (.getfield 18, 3) := by decide +kernel
theorem dX3_ordersBehind_54 : decode cX3_ordersBehind 54 = .ok (.iload_n 1, 1) := by decide +kernel
theorem dX3_ordersBehind_55 : decode cX3_ordersBehind 55 = .ok (.iconst 1, 1) := by decide +kernel
theorem dX3_ordersBehind_56 : decode cX3_ordersBehind 56 = .ok (.iload 4, 2) := by decide +kernel
theorem dX3_ordersBehind_58 : decode cX3_ordersBehind 58 = .ok (.ishl, 1) := by decide +kernel
theorem dX3_ordersBehind_59 : decode cX3_ordersBehind 59 = .ok (.ior, 1) := by decide +kernel
theorem dX3_ordersBehind_60 : decode cX3_ordersBehind 60 = .ok (.iload_n 2, 1) := by decide +kernel
theorem dX3_ordersBehind_61 : decode cX3_ordersBehind 61 = .ok (.invokestatic 52, 3) := by decide +kernel
theorem dX3_ordersBehind_64 : decode cX3_ordersBehind 64 = .ok (.iaload, 1) := by decide +kernel
theorem dX3_ordersBehind_65 : decode cX3_ordersBehind 65 = .ok (.iadd, 1) := by decide +kernel
theorem dX3_ordersBehind_66 : decode cX3_ordersBehind 66 = .ok (.istore_n 3, 1) := by decide +kernel
theorem dX3_ordersBehind_67 : decode cX3_ordersBehind 67 = .ok (.iinc 4 1, 3) := by decide +kernel
theorem dX3_ordersBehind_70 : decode cX3_ordersBehind 70 = .ok (.goto (-39), 3) := by decide +kernel
theorem dX3_ordersBehind_73 : decode cX3_ordersBehind 73 = .ok (.iconst 0, 1) := by decide +kernel
theorem dX3_ordersBehind_74 : decode cX3_ordersBehind 74 = .ok (.istore 4, 2) := by decide +kernel
theorem dX3_ordersBehind_76 : decode cX3_ordersBehind 76 = .ok (.iload 4, 2) := by decide +kernel
theorem dX3_ordersBehind_78 : decode cX3_ordersBehind 78 = .ok (.aload_n 0, 1) := by decide +kernel
theorem dX3_ordersBehind_79 : decode cX3_ordersBehind 79 = .ok (.getfield 25, 3) := by decide +kernel
theorem dX3_ordersBehind_82 : decode cX3_ordersBehind 82 = .ok (.if_icmp .ge 36, 3) := by decide +kernel
theorem dX3_ordersBehind_85 : decode cX3_ordersBehind 85 = .ok (.iload_n 2, 1) := by decide +kernel
theorem dX3_ordersBehind_86 : decode cX3_ordersBehind 86 = .ok (.iload 4, 2) := by decide +kernel
theorem dX3_ordersBehind_88 : decode cX3_ordersBehind 88 = .ok (.ishr, 1) := by decide +kernel
theorem dX3_ordersBehind_89 : decode cX3_ordersBehind 89 = .ok (.iconst 1, 1) := by decide +kernel
theorem dX3_ordersBehind_90 : decode cX3_ordersBehind 90 = .ok (.iand, 1) := by decide +kernel
theorem dX3_ordersBehind_91 : decode cX3_ordersBehind 91 = .ok (.ifCond .ne 21, 3) := by decide +kernel
theorem dX3_ordersBehind_94 : decode cX3_ordersBehind 94 = .ok (.iload_n 3, 1) := by decide +kernel
theorem dX3_ordersBehind_95 : decode cX3_ordersBehind 95 = .ok (.aload_n 0, 1) := by decide +kernel
theorem dX3_ordersBehind_96 : decode cX3_ordersBehind 96 = .ok (.getfield 18, 3) := by decide +kernel
theorem dX3_ordersBehind_99 : decode cX3_ordersBehind 99 = .ok (.iload_n 1, 1) := by decide +kernel
theorem dX3_ordersBehind_100 : decode cX3_ordersBehind 100 = .ok (.iload_n 2, 1) := by decide +kernel
theorem dX3_ordersBehind_101 : decode cX3_ordersBehind 101 = .ok (.iconst 1, 1) := by decide +kernel
theorem dX3_ordersBehind_102 : decode cX3_ordersBehind 102 = .ok (.iload 4, 2) := by decide +kernel
theorem dX3_ordersBehind_104 : decode cX3_ordersBehind 104 = .ok (.ishl, 1) := by decide +kernel
theorem dX3_ordersBehind_105 : decode cX3_ordersBehind 105 = .ok (.ior, 1) := by decide +kernel
theorem dX3_ordersBehind_106 : decode cX3_ordersBehind 106 = .ok (.invokestatic 52, 3) := by decide +kernel
theorem dX3_ordersBehind_109 : decode cX3_ordersBehind 109 = .ok (.iaload, 1) := by decide +kernel
theorem dX3_ordersBehind_110 : decode cX3_ordersBehind 110 = .ok (.iadd, 1) := by decide +kernel
theorem dX3_ordersBehind_111 : decode cX3_ordersBehind 111 = .ok (.istore_n 3, 1) := by decide +kernel
theorem dX3_ordersBehind_112 : decode cX3_ordersBehind 112 = .ok (.iinc 4 1, 3) := by decide +kernel
theorem dX3_ordersBehind_115 : decode cX3_ordersBehind 115 = .ok (.goto (-39), 3) := by decide +kernel
theorem dX3_ordersBehind_118 : decode cX3_ordersBehind 118 = .ok (.iload_n 3, 1) := by decide +kernel
theorem dX3_ordersBehind_119 : decode cX3_ordersBehind 119 = .ok (.ireturn, 1) := by decide +kernel
set_option maxRecDepth 20000 in
theorem ggX3_leastBehind_X3_indexOf : GoodIn wsX3_leastBehind wsX3_indexOf := goodIn_r _ [7] (by decide +kernel) (by decide +kernel)
set_option maxRecDepth 20000 in
theorem gX3_leastBehind_X3_indexOf : GoodIn wsX3_leastBehind (va_wsS RX3 52 yX3_indexOf wsX3_indexOf) := goodIn_app (goodIn_of _ (by decide +kernel)) ggX3_leastBehind_X3_indexOf
theorem dX3_leastBehind_0 : decode cX3_leastBehind 0 = .ok (.iconst 0, 1) := by decide +kernel
theorem dX3_leastBehind_1 : decode cX3_leastBehind 1 = .ok (.istore_n 3, 1) := by decide +kernel
theorem dX3_leastBehind_2 : decode cX3_leastBehind 2 = .ok (.iload_n 3, 1) := by decide +kernel
theorem dX3_leastBehind_3 : decode cX3_leastBehind 3 = .ok (.aload_n 0, 1) := by decide +kernel
theorem dX3_leastBehind_4 : decode cX3_leastBehind 4 = .ok (.getfield 21, 3) := by decide +kernel
theorem dX3_leastBehind_7 : decode cX3_leastBehind 7 = .ok (.if_icmp .ge 36, 3) := by decide +kernel
theorem dX3_leastBehind_10 : decode cX3_leastBehind 10 = .ok (.iload_n 1, 1) := by decide +kernel
theorem dX3_leastBehind_11 : decode cX3_leastBehind 11 = .ok (.iload_n 3, 1) := by decide +kernel
theorem dX3_leastBehind_12 : decode cX3_leastBehind 12 = .ok (.ishr, 1) := by decide +kernel
theorem dX3_leastBehind_13 : decode cX3_leastBehind 13 = .ok (.iconst 1, 1) := by decide +kernel
theorem dX3_leastBehind_14 : decode cX3_leastBehind 14 = .ok (.iand, 1) := by decide +kernel
theorem dX3_leastBehind_15 : decode cX3_leastBehind 15 = .ok (.ifCond .ne 22, 3) := by decide +kernel
theorem dX3_leastBehind_18 : decode cX3_leastBehind 18 = .ok (.aload_n 0, 1) := by decide +kernel
theorem dX3_leastBehind_19 : decode cX3_leastBehind 19 = .ok (.getfield 18, 3) := by decide +kernel
theorem dX3_leastBehind_22 : decode cX3_leastBehind 22 = .ok (.iload_n 1, 1) := by decide +kernel
theorem dX3_leastBehind_23 : decode cX3_leastBehind 23 = .ok (.iconst 1, 1) := by decide +kernel
theorem dX3_leastBehind_24 : decode cX3_leastBehind 24 = .ok (.iload_n 3, 1) := by decide +kernel
theorem dX3_leastBehind_25 : decode cX3_leastBehind 25 = .ok (.ishl, 1) := by decide +kernel
theorem dX3_leastBehind_26 : decode cX3_leastBehind 26 = .ok (.ior, 1) := by decide +kernel
theorem dX3_leastBehind_27 : decode cX3_leastBehind 27 = .ok (.iload_n 2, 1) := by decide +kernel
theorem dX3_leastBehind_28 : decode cX3_leastBehind 28 = .ok (.invokestatic 52, 3) := by decide +kernel
theorem dX3_leastBehind_31 : decode cX3_leastBehind 31 = .ok (.iaload, 1) := by decide +kernel
theorem dX3_leastBehind_32 : decode cX3_leastBehind 32 = .ok (.ifCond .le 5, 3) := by decide +kernel
theorem dX3_leastBehind_35 : decode cX3_leastBehind 35 = .ok (.iload_n 3, 1) := by decide +kernel
theorem dX3_leastBehind_36 : decode cX3_leastBehind 36 = .ok (.ireturn, 1) := by decide +kernel
theorem dX3_leastBehind_37 : decode cX3_leastBehind 37 = .ok (.iinc 3 1, 3) := by decide +kernel
theorem dX3_leastBehind_40 : decode cX3_leastBehind 40 = .ok (.goto (-38), 3) := by decide +kernel
theorem dX3_leastBehind_43 : decode cX3_leastBehind 43 = .ok (.iconst 0, 1) := by decide +kernel
theorem dX3_leastBehind_44 : decode cX3_leastBehind 44 = .ok (.istore_n 3, 1) := by decide +kernel
theorem dX3_leastBehind_45 : decode cX3_leastBehind 45 = .ok (.iload_n 3, 1) := by decide +kernel
theorem dX3_leastBehind_46 : decode cX3_leastBehind 46 = .ok (.aload_n 0, 1) := by decide +kernel
theorem dX3_leastBehind_47 : decode cX3_leastBehind 47 = .ok (.getfield 25, 3) := by decide +kernel
theorem dX3_leastBehind_50 : decode cX3_leastBehind 50 = .ok (.if_icmp .ge 39, 3) := by decide +kernel
theorem dX3_leastBehind_53 : decode cX3_leastBehind 53 = .ok (.iload_n 2, 1) := by decide +kernel
theorem dX3_leastBehind_54 : decode cX3_leastBehind 54 = .ok (.iload_n 3, 1) := by decide +kernel
theorem dX3_leastBehind_55 : decode cX3_leastBehind 55 = .ok (.ishr, 1) := by decide +kernel
theorem dX3_leastBehind_56 : decode cX3_leastBehind 56 = .ok (.iconst 1, 1) := by decide +kernel
theorem dX3_leastBehind_57 : decode cX3_leastBehind 57 = .ok (.iand, 1) := by decide +kernel
theorem dX3_leastBehind_58 : decode cX3_leastBehind 58 = .ok (.ifCond .ne 25, 3) := by decide +kernel
theorem dX3_leastBehind_61 : decode cX3_leastBehind 61 = .ok (.aload_n 0, 1) := by decide +kernel
theorem dX3_leastBehind_62 : decode cX3_leastBehind 62 = .ok (.getfield 18, 3) := by decide +kernel
theorem dX3_leastBehind_65 : decode cX3_leastBehind 65 = .ok (.iload_n 1, 1) := by decide +kernel
theorem dX3_leastBehind_66 : decode cX3_leastBehind 66 = .ok (.iload_n 2, 1) := by decide +kernel
theorem dX3_leastBehind_67 : decode cX3_leastBehind 67 = .ok (.iconst 1, 1) := by decide +kernel
theorem dX3_leastBehind_68 : decode cX3_leastBehind 68 = .ok (.iload_n 3, 1) := by decide +kernel
theorem dX3_leastBehind_69 : decode cX3_leastBehind 69 = .ok (.ishl, 1) := by decide +kernel
theorem dX3_leastBehind_70 : decode cX3_leastBehind 70 = .ok (.ior, 1) := by decide +kernel
theorem dX3_leastBehind_71 : decode cX3_leastBehind 71 = .ok (.invokestatic 52, 3) := by decide +kernel
theorem dX3_leastBehind_74 : decode cX3_leastBehind 74 = .ok (.iaload, 1) := by decide +kernel
theorem dX3_leastBehind_75 : decode cX3_leastBehind 75 = .ok (.ifCond .le 8, 3) := by decide +kernel
theorem dX3_leastBehind_78 : decode cX3_leastBehind 78 = .ok (.bipush 10, 2) := by decide +kernel
theorem dX3_leastBehind_80 : decode cX3_leastBehind 80 = .ok (.iload_n 3, 1) := by decide +kernel
theorem dX3_leastBehind_81 : decode cX3_leastBehind 81 = .ok (.iadd, 1) := by decide +kernel
theorem dX3_leastBehind_82 : decode cX3_leastBehind 82 = .ok (.ireturn, 1) := by decide +kernel
theorem dX3_leastBehind_83 : decode cX3_leastBehind 83 = .ok (.iinc 3 1, 3) := by decide +kernel
theorem dX3_leastBehind_86 : decode cX3_leastBehind 86 = .ok (.goto (-41), 3) := by decide +kernel
theorem dX3_leastBehind_89 : decode cX3_leastBehind 89 = .ok (.bipush (-6), 2) := by decide +kernel
theorem dX3_leastBehind_91 : decode cX3_leastBehind 91 = .ok (.ireturn, 1) := by decide +kernel
theorem dX4_init_0 : decode cX4_init 0 = .ok (.aload_n 0, 1) := by decide +kernel
theorem dX4_init_1 : decode cX4_init 1 = .ok (.invokespecial 1, 3) := by decide +kernel
theorem dX4_init_4 : decode cX4_init 4 = .ok (.aload_n 0, 1) := by decide +kernel
theorem dX4_init_5 : decode cX4_init 5 = .ok (.iconst 0, 1) := by decide +kernel
theorem dX4_init_6 : decode cX4_init 6 = .ok (.putfield 7, 3) := by decide +kernel
theorem dX4_init_9 : decode cX4_init 9 = .ok (.aload_n 0, 1) := by decide +kernel
theorem dX4_init_10 : decode cX4_init 10 = .ok (.iconst 0, 1) := by decide +kernel
theorem dX4_init_11 : decode cX4_init 11 = .ok (.putfield 13, 3) := by decide +kernel
theorem dX4_init_14 : decode cX4_init 14 = .ok (.aload_n 0, 1) := by decide +kernel
theorem dX4_init_15 : decode cX4_init 15 = .ok (.iconst 0, 1) := by decide +kernel
theorem dX4_init_16 : decode cX4_init 16 = .ok (.putfield 16, 3) := by decide +kernel
theorem dX4_init_19 : decode cX4_init 19 = .ok (.aload_n 0, 1) := by decide +kernel
theorem dX4_init_20 : decode cX4_init 20 = .ok (.iconst 1, 1) := by decide +kernel
theorem dX4_init_21 : decode cX4_init 21 = .ok (.putfield 19, 3) := by decide +kernel
theorem dX4_init_24 : decode cX4_init 24 = .ok (.return_, 1) := by decide +kernel
theorem dX4_stepFrom_0 : decode cX4_stepFrom 0 = .ok (.aload_n 0, 1) := by decide +kernel
theorem dX4_stepFrom_1 : decode cX4_stepFrom 1 = .ok (.getfield 16, 3) := by decide +kernel
theorem dX4_stepFrom_4 : decode cX4_stepFrom 4 = .ok (.iload_n 1, 1) := by decide +kernel
theorem dX4_stepFrom_5 : decode cX4_stepFrom 5 = .ok (.isub, 1) := by decide +kernel
theorem dX4_stepFrom_6 : decode cX4_stepFrom 6 = .ok (.invokestatic 22, 3) := by decide +kernel
theorem dX4_stepFrom_9 : decode cX4_stepFrom 9 = .ok (.aload_n 0, 1) := by decide +kernel
theorem dX4_stepFrom_10 : decode cX4_stepFrom 10 = .ok (.getfield 19, 3) := by decide +kernel
theorem dX4_stepFrom_13 : decode cX4_stepFrom 13 = .ok (.if_icmp .gt 8, 3) := by decide +kernel
theorem dX4_stepFrom_16 : decode cX4_stepFrom 16 = .ok (.aload_n 0, 1) := by decide +kernel
theorem dX4_stepFrom_17 : decode cX4_stepFrom 17 = .ok (.getfield 16, 3) := by decide +kernel
theorem dX4_stepFrom_20 : decode cX4_stepFrom 20 = .ok (.ireturn, 1) := by decide +kernel
theorem dX4_stepFrom_21 : decode cX4_stepFrom 21 = .ok (.iload_n 1, 1) := by decide +kernel
theorem dX4_stepFrom_22 : decode cX4_stepFrom 22 = .ok (.aload_n 0, 1) := by decide +kernel
theorem dX4_stepFrom_23 : decode cX4_stepFrom 23 = .ok (.getfield 16, 3) := by decide +kernel
theorem dX4_stepFrom_26 : decode cX4_stepFrom 26 = .ok (.if_icmp .ge 12, 3) := by decide +kernel
theorem dX4_stepFrom_29 : decode cX4_stepFrom 29 = .ok (.iload_n 1, 1) := by decide +kernel
theorem dX4_stepFrom_30 : decode cX4_stepFrom 30 = .ok (.aload_n 0, 1) := by decide +kernel
theorem dX4_stepFrom_31 : decode cX4_stepFrom 31 = .ok (.getfield 19, 3) := by decide +kernel
theorem dX4_stepFrom_34 : decode cX4_stepFrom 34 = .ok (.iadd, 1) := by decide +kernel
theorem dX4_stepFrom_35 : decode cX4_stepFrom 35 = .ok (.goto 9, 3) := by decide +kernel
theorem dX4_stepFrom_38 : decode cX4_stepFrom 38 = .ok (.iload_n 1, 1) := by decide +kernel
end
section
theorem dX4_stepFrom_39 : decode cX4_stepFrom 39 = .ok (.aload_n 0, 1) := by decide +kernel
theorem dX4_stepFrom_40 : decode cX4_stepFrom 40 = .ok (.getfield 19, 3) := by decide +kernel
theorem dX4_stepFrom_43 : decode cX4_stepFrom 43 = .ok (.isub, 1) := by decide +kernel
theorem dX4_stepFrom_44 : decode cX4_stepFrom 44 = .ok (.ireturn, 1) := by decide +kernel
theorem dX4_copyFrom_0 : decode cX4_copyFrom 0 = .ok (.aload_n 0, 1) := by decide +kernel
theorem dX4_copyFrom_1 : decode cX4_copyFrom 1 = .ok (.aload_n 1, 1) := by decide +kernel
theorem dX4_copyFrom_2 : decode cX4_copyFrom 2 = .ok (.getfield 7, 3) := by decide +kernel
theorem dX4_copyFrom_5 : decode cX4_copyFrom 5 = .ok (.putfield 7, 3) := by decide +kernel
theorem dX4_copyFrom_8 : decode cX4_copyFrom 8 = .ok (.aload_n 0, 1) := by decide +kernel
theorem dX4_copyFrom_9 : decode cX4_copyFrom 9 = .ok (.aload_n 1, 1) := by decide +kernel
theorem dX4_copyFrom_10 : decode cX4_copyFrom 10 = .ok (.getfield 13, 3) := by decide +kernel
theorem dX4_copyFrom_13 : decode cX4_copyFrom 13 = .ok (.putfield 13, 3) := by decide +kernel
theorem dX4_copyFrom_16 : decode cX4_copyFrom 16 = .ok (.aload_n 0, 1) := by decide +kernel
theorem dX4_copyFrom_17 : decode cX4_copyFrom 17 = .ok (.aload_n 1, 1) := by decide +kernel
theorem dX4_copyFrom_18 : decode cX4_copyFrom 18 = .ok (.getfield 16, 3) := by decide +kernel
theorem dX4_copyFrom_21 : decode cX4_copyFrom 21 = .ok (.putfield 16, 3) := by decide +kernel
theorem dX4_copyFrom_24 : decode cX4_copyFrom 24 = .ok (.aload_n 0, 1) := by decide +kernel
theorem dX4_copyFrom_25 : decode cX4_copyFrom 25 = .ok (.aload_n 1, 1) := by decide +kernel
theorem dX4_copyFrom_26 : decode cX4_copyFrom 26 = .ok (.getfield 19, 3) := by decide +kernel
theorem dX4_copyFrom_29 : decode cX4_copyFrom 29 = .ok (.putfield 19, 3) := by decide +kernel
theorem dX4_copyFrom_32 : decode cX4_copyFrom 32 = .ok (.return_, 1) := by decide +kernel
theorem dX5_init_0 : decode cX5_init 0 = .ok (.aload_n 0, 1) := by decide +kernel
theorem dX5_init_1 : decode cX5_init 1 = .ok (.invokespecial 3, 3) := by decide +kernel
theorem dX5_init_4 : decode cX5_init 4 = .ok (.aload_n 0, 1) := by decide +kernel
theorem dX5_init_5 : decode cX5_init 5 = .ok (.bipush 6, 2) := by decide +kernel
theorem dX5_init_7 : decode cX5_init 7 = .ok (.newarray .int, 2) := by decide +kernel
theorem dX5_init_9 : decode cX5_init 9 = .ok (.putfield 9, 3) := by decide +kernel
theorem dX5_init_12 : decode cX5_init 12 = .ok (.aload_n 0, 1) := by decide +kernel
theorem dX5_init_13 : decode cX5_init 13 = .ok (.iconst 0, 1) := by decide +kernel
theorem dX5_init_14 : decode cX5_init 14 = .ok (.putfield 15, 3) := by decide +kernel
theorem dX5_init_17 : decode cX5_init 17 = .ok (.return_, 1) := by decide +kernel
theorem dX5_add_0 : decode cX5_add 0 = .ok (.aload_n 0, 1) := by decide +kernel
theorem dX5_add_1 : decode cX5_add 1 = .ok (.getfield 9, 3) := by decide +kernel
theorem dX5_add_4 : decode cX5_add 4 = .ok (.aload_n 0, 1) := by decide +kernel
theorem dX5_add_5 : decode cX5_add 5 = .ok (.getfield 15, 3) := by decide +kernel
theorem dX5_add_8 : decode cX5_add 8 = .ok (.iload_n 1, 1) := by decide +kernel
theorem dX5_add_9 : decode cX5_add 9 = .ok (.iastore, 1) := by decide +kernel
theorem dX5_add_10 : decode cX5_add 10 = .ok (.aload_n 0, 1) := by decide +kernel
theorem dX5_add_11 : decode cX5_add 11 = .ok (.dup, 1) := by decide +kernel
theorem dX5_add_12 : decode cX5_add 12 = .ok (.getfield 15, 3) := by decide +kernel
theorem dX5_add_15 : decode cX5_add 15 = .ok (.iconst 1, 1) := by decide +kernel
theorem dX5_add_16 : decode cX5_add 16 = .ok (.iadd, 1) := by decide +kernel
theorem dX5_add_17 : decode cX5_add 17 = .ok (.putfield 15, 3) := by decide +kernel
theorem dX5_add_20 : decode cX5_add 20 = .ok (.return_, 1) := by decide +kernel
theorem dX5_remove_0 : decode cX5_remove 0 = .ok (.aload_n 0, 1) := by decide +kernel
theorem dX5_remove_1 : decode cX5_remove 1 = .ok (.getfield 9, 3) := by decide +kernel
theorem dX5_remove_4 : decode cX5_remove 4 = .ok (.iload_n 1, 1) := by decide +kernel
theorem dX5_remove_5 : decode cX5_remove 5 = .ok (.iaload, 1) := by decide +kernel
theorem dX5_remove_6 : decode cX5_remove 6 = .ok (.istore_n 2, 1) := by decide +kernel
theorem dX5_remove_7 : decode cX5_remove 7 = .ok (.iload_n 1, 1) := by decide +kernel
theorem dX5_remove_8 : decode cX5_remove 8 = .ok (.iconst 1, 1) := by decide +kernel
theorem dX5_remove_9 : decode cX5_remove 9 = .ok (.iadd, 1) := by decide +kernel
theorem dX5_remove_10 : decode cX5_remove 10 = .ok (.istore_n 3, 1) := by decide +kernel
theorem dX5_remove_11 : decode cX5_remove 11 = .ok (.iload_n 3, 1) := by decide +kernel
theorem dX5_remove_12 : decode cX5_remove 12 = .ok (.aload_n 0, 1) := by decide +kernel
theorem dX5_remove_13 : decode cX5_remove 13 = .ok (.getfield 15, 3) := by decide +kernel
theorem dX5_remove_16 : decode cX5_remove 16 = .ok (.if_icmp .ge 23, 3) := by decide +kernel
theorem dX5_remove_19 : decode cX5_remove 19 = .ok (.aload_n 0, 1) := by decide +kernel
theorem dX5_remove_20 : decode cX5_remove 20 = .ok (.getfield 9, 3) := by decide +kernel
theorem dX5_remove_23 : decode cX5_remove 23 = .ok (.iload_n 3, 1) := by decide +kernel
theorem dX5_remove_24 : decode cX5_remove 24 = .ok (.iconst 1, 1) := by decide +kernel
theorem dX5_remove_25 : decode cX5_remove 25 = .ok (.isub, 1) := by decide +kernel
theorem dX5_remove_26 : decode cX5_remove 26 = .ok (.aload_n 0, 1) := by decide +kernel
theorem dX5_remove_27 : decode cX5_remove 27 = .ok (.getfield 9, 3) := by decide +kernel
theorem dX5_remove_30 : decode cX5_remove 30 = .ok (.iload_n 3, 1) := by decide +kernel
theorem dX5_remove_31 : decode cX5_remove 31 = .ok (.iaload, 1) := by decide +kernel
theorem dX5_remove_32 : decode cX5_remove 32 = .ok (.iastore, 1) := by decide +kernel
theorem dX5_remove_33 : decode cX5_remove 33 = .ok (.iinc 3 1, 3) := by decide +kernel
theorem dX5_remove_36 : decode cX5_remove 36 = .ok (.goto (-25), 3) := by decide +kernel
theorem dX5_remove_39 : decode cX5_remove 39 = .ok (.aload_n 0, 1) := by decide +kernel
theorem dX5_remove_40 : decode cX5_remove 40 = .ok (.dup, 1) := by decide +kernel
theorem dX5_remove_41 : decode cX5_remove 41 = .ok (.getfield 15, 3) := by decide +kernel
theorem dX5_remove_44 : decode cX5_remove 44 = .ok (.iconst 1, 1) := by decide +kernel
theorem dX5_remove_45 : decode cX5_remove 45 = .ok (.isub, 1) := by decide +kernel
theorem dX5_remove_46 : decode cX5_remove 46 = .ok (.putfield 15, 3) := by decide +kernel
theorem dX5_remove_49 : decode cX5_remove 49 = .ok (.iload_n 2, 1) := by decide +kernel
theorem dX5_remove_50 : decode cX5_remove 50 = .ok (.ireturn, 1) := by decide +kernel
theorem dX5_weightOf_0 : decode cX5_weightOf 0 = .ok (.iload_n 1, 1) := by decide +kernel
theorem dX5_weightOf_1 : decode cX5_weightOf 1 = .ok (.aload_n 0, 1) := by decide +kernel
theorem dX5_weightOf_2 : decode cX5_weightOf 2 = .ok (.getfield 15, 3) := by decide +kernel
theorem dX5_weightOf_5 : decode cX5_weightOf 5 = .ok (.if_icmp .ge 12, 3) := by decide +kernel
theorem dX5_weightOf_8 : decode cX5_weightOf 8 = .ok (.aload_n 0, 1) := by decide +kernel
theorem dX5_weightOf_9 : decode cX5_weightOf 9 = .ok (.getfield 9, 3) := by decide +kernel
theorem dX5_weightOf_12 : decode cX5_weightOf 12 = .ok (.iload_n 1, 1) := by decide +kernel
theorem dX5_weightOf_13 : decode cX5_weightOf 13 = .ok (.iaload, 1) := by decide +kernel
theorem dX5_weightOf_14 : decode cX5_weightOf 14 = .ok (.goto 5, 3) := by decide +kernel
theorem dX5_weightOf_17 : decode cX5_weightOf 17 = .ok (.bipush (-6), 2) := by decide +kernel
theorem dX5_weightOf_19 : decode cX5_weightOf 19 = .ok (.ireturn, 1) := by decide +kernel
theorem dX5_total_0 : decode cX5_total 0 = .ok (.iconst 0, 1) := by decide +kernel
theorem dX5_total_1 : decode cX5_total 1 = .ok (.istore_n 1, 1) := by decide +kernel
theorem dX5_total_2 : decode cX5_total 2 = .ok (.iconst 0, 1) := by decide +kernel
theorem dX5_total_3 : decode cX5_total 3 = .ok (.istore_n 2, 1) := by decide +kernel
theorem dX5_total_4 : decode cX5_total 4 = .ok (.iload_n 2, 1) := by decide +kernel
theorem dX5_total_5 : decode cX5_total 5 = .ok (.aload_n 0, 1) := by decide +kernel
theorem dX5_total_6 : decode cX5_total 6 = .ok (.getfield 15, 3) := by decide +kernel
theorem dX5_total_9 : decode cX5_total 9 = .ok (.if_icmp .ge 18, 3) := by decide +kernel
theorem dX5_total_12 : decode cX5_total 12 = .ok (.iload_n 1, 1) := by decide +kernel
theorem dX5_total_13 : decode cX5_total 13 = .ok (.aload_n 0, 1) := by decide +kernel
theorem dX5_total_14 : decode cX5_total 14 = .ok (.getfield 9, 3) := by decide +kernel
theorem dX5_total_17 : decode cX5_total 17 = .ok (.iload_n 2, 1) := by decide +kernel
theorem dX5_total_18 : decode cX5_total 18 = .ok (.iaload, 1) := by decide +kernel
theorem dX5_total_19 : decode cX5_total 19 = .ok (.iadd, 1) := by decide +kernel
theorem dX5_total_20 : decode cX5_total 20 = .ok (.istore_n 1, 1) := by decide +kernel
theorem dX5_total_21 : decode cX5_total 21 = .ok (.iinc 2 1, 3) := by decide +kernel
theorem dX5_total_24 : decode cX5_total 24 = .ok (.goto (-20), 3) := by decide +kernel
theorem dX5_total_27 : decode cX5_total 27 = .ok (.iload_n 1, 1) := by decide +kernel
theorem dX5_total_28 : decode cX5_total 28 = .ok (.ireturn, 1) := by decide +kernel
theorem dX5_copyFrom_0 : decode cX5_copyFrom 0 = .ok (.aload_n 1, 1) := by decide +kernel
theorem dX5_copyFrom_1 : decode cX5_copyFrom 1 = .ok (.getfield 9, 3) := by decide +kernel
theorem dX5_copyFrom_4 : decode cX5_copyFrom 4 = .ok (.iconst 0, 1) := by decide +kernel
theorem dX5_copyFrom_5 : decode cX5_copyFrom 5 = .ok (.aload_n 0, 1) := by decide +kernel
theorem dX5_copyFrom_6 : decode cX5_copyFrom 6 = .ok (.getfield 9, 3) := by decide +kernel
theorem dX5_copyFrom_9 : decode cX5_copyFrom 9 = .ok (.iconst 0, 1) := by decide +kernel
theorem dX5_copyFrom_10 : decode cX5_copyFrom 10 = .ok (.bipush 6, 2) := by decide +kernel
theorem dX5_copyFrom_12 : decode cX5_copyFrom 12 = .ok (.invokestatic 19, 3) := by decide +kernel
theorem dX5_copyFrom_15 : decode cX5_copyFrom 15 = .ok (.aload_n 0, 1) := by decide +kernel
theorem dX5_copyFrom_16 : decode cX5_copyFrom 16 = .ok (.aload_n 1, 1) := by decide +kernel
theorem dX5_copyFrom_17 : decode cX5_copyFrom 17 = .ok (.getfield 15, 3) := by decide +kernel
theorem dX5_copyFrom_20 : decode cX5_copyFrom 20 = .ok (.putfield 15, 3) := by decide +kernel
theorem dX5_copyFrom_23 : decode cX5_copyFrom 23 = .ok (.return_, 1) := by decide +kernel
set_option maxRecDepth 20000 in
theorem ggX6_init_X0_init : GoodIn wsX6_init wsX0_init := goodIn_r _ [15, 16, 2, 3, 17, 18, 19, 20, 21, 22, 23, 24, 25, 26, 27, 28, 40, 41, 42, 47, 48] (by decide +kernel) (by decide +kernel)
set_option maxRecDepth 20000 in
theorem gX6_init_X0_init_n30 : GoodIn wsX6_init (wsX0_init) := ggX6_init_X0_init
set_option maxRecDepth 20000 in
theorem ggX6_init_X4_init : GoodIn wsX6_init wsX4_init := goodIn_r _ [30, 31, 2, 3, 32, 33, 34, 35, 43, 44, 45, 46] (by decide +kernel) (by decide +kernel)
set_option maxRecDepth 20000 in
theorem gX6_init_X4_init_n31 : GoodIn wsX6_init (wsX4_init) := ggX6_init_X4_init
theorem dX6_init_0 : decode cX6_init 0 = .ok (.aload_n 0, 1) := by decide +kernel
theorem dX6_init_1 : decode cX6_init 1 = .ok (.invokespecial 3, 3) := by decide +kernel
theorem dX6_init_4 : decode cX6_init 4 = .ok (.aload_n 0, 1) := by decide +kernel
theorem dX6_init_5 : decode cX6_init 5 = .ok (.bipush 10, 2) := by decide +kernel
theorem dX6_init_7 : decode cX6_init 7 = .ok (.anewarray 9, 3) := by decide +kernel
theorem dX6_init_10 : decode cX6_init 10 = .ok (.putfield 11, 3) := by decide +kernel
theorem dX6_init_13 : decode cX6_init 13 = .ok (.aload_n 0, 1) := by decide +kernel
theorem dX6_init_14 : decode cX6_init 14 = .ok (.bipush 10, 2) := by decide +kernel
theorem dX6_init_16 : decode cX6_init 16 = .ok (.anewarray 17, 3) := by decide +kernel
theorem dX6_init_19 : decode cX6_init 19 = .ok (.putfield 19, 3) := by decide +kernel
theorem dX6_init_22 : decode cX6_init 22 = .ok (.aload_n 0, 1) := by decide +kernel
theorem dX6_init_23 : decode cX6_init 23 = .ok (.iconst 0, 1) := by decide +kernel
theorem dX6_init_24 : decode cX6_init 24 = .ok (.putfield 23, 3) := by decide +kernel
theorem dX6_init_27 : decode cX6_init 27 = .ok (.aload_n 0, 1) := by decide +kernel
theorem dX6_init_28 : decode cX6_init 28 = .ok (.bipush 20, 2) := by decide +kernel
theorem dX6_init_30 : decode cX6_init 30 = .ok (.putfield 27, 3) := by decide +kernel
theorem dX6_init_33 : decode cX6_init 33 = .ok (.iconst 0, 1) := by decide +kernel
theorem dX6_init_34 : decode cX6_init 34 = .ok (.istore_n 1, 1) := by decide +kernel
theorem dX6_init_35 : decode cX6_init 35 = .ok (.iload_n 1, 1) := by decide +kernel
theorem dX6_init_36 : decode cX6_init 36 = .ok (.bipush 10, 2) := by decide +kernel
theorem dX6_init_38 : decode cX6_init 38 = .ok (.if_icmp .ge 22, 3) := by decide +kernel
theorem dX6_init_41 : decode cX6_init 41 = .ok (.aload_n 0, 1) := by decide +kernel
theorem dX6_init_42 : decode cX6_init 42 = .ok (.getfield 11, 3) := by decide +kernel
theorem dX6_init_45 : decode cX6_init 45 = .ok (.iload_n 1, 1) := by decide +kernel
theorem dX6_init_46 : decode cX6_init 46 = .ok (.new 9, 3) := by decide +kernel
theorem dX6_init_49 : decode cX6_init 49 = .ok (.dup, 1) := by decide +kernel
theorem dX6_init_50 : decode cX6_init 50 = .ok (.invokespecial 30, 3) := by decide +kernel
theorem dX6_init_53 : decode cX6_init 53 = .ok (.aastore, 1) := by decide +kernel
theorem dX6_init_54 : decode cX6_init 54 = .ok (.iinc 1 1, 3) := by decide +kernel
theorem dX6_init_57 : decode cX6_init 57 = .ok (.goto (-22), 3) := by decide +kernel
theorem dX6_init_60 : decode cX6_init 60 = .ok (.iconst 0, 1) := by decide +kernel
theorem dX6_init_61 : decode cX6_init 61 = .ok (.istore_n 1, 1) := by decide +kernel
theorem dX6_init_62 : decode cX6_init 62 = .ok (.iload_n 1, 1) := by decide +kernel
theorem dX6_init_63 : decode cX6_init 63 = .ok (.bipush 10, 2) := by decide +kernel
theorem dX6_init_65 : decode cX6_init 65 = .ok (.if_icmp .ge 22, 3) := by decide +kernel
theorem dX6_init_68 : decode cX6_init 68 = .ok (.aload_n 0, 1) := by decide +kernel
theorem dX6_init_69 : decode cX6_init 69 = .ok (.getfield 19, 3) := by decide +kernel
theorem dX6_init_72 : decode cX6_init 72 = .ok (.iload_n 1, 1) := by decide +kernel
theorem dX6_init_73 : decode cX6_init 73 = .ok (.new 17, 3) := by decide +kernel
theorem dX6_init_76 : decode cX6_init 76 = .ok (.dup, 1) := by decide +kernel
theorem dX6_init_77 : decode cX6_init 77 = .ok (.invokespecial 31, 3) := by decide +kernel
theorem dX6_init_80 : decode cX6_init 80 = .ok (.aastore, 1) := by decide +kernel
theorem dX6_init_81 : decode cX6_init 81 = .ok (.iinc 1 1, 3) := by decide +kernel
theorem dX6_init_84 : decode cX6_init 84 = .ok (.goto (-22), 3) := by decide +kernel
theorem dX6_init_87 : decode cX6_init 87 = .ok (.return_, 1) := by decide +kernel
set_option maxRecDepth 20000 in
theorem ggX6_copyFrom_X0_copyFrom : GoodIn wsX6_copyFrom wsX0_copyFrom := goodIn_r _ [9, 10, 11, 12, 13, 14, 15, 16, 17, 18, 19, 20, 21, 22, 23, 24, 38, 39, 40, 41, 42] (by decide +kernel) (by decide +kernel)
set_option maxRecDepth 20000 in
theorem gX6_copyFrom_X0_copyFrom : GoodIn wsX6_copyFrom (wsV RX6 32 RX0 yX0_copyFrom wsX0_copyFrom) := goodIn_app (goodIn_of _ (by decide +kernel)) ggX6_copyFrom_X0_copyFrom
set_option maxRecDepth 20000 in
theorem ggX6_copyFrom_X4_copyFrom : GoodIn wsX6_copyFrom wsX4_copyFrom := goodIn_r _ [29, 30, 31, 32, 33, 43, 44, 45, 46] (by decide +kernel) (by decide +kernel)
set_option maxRecDepth 20000 in
theorem gX6_copyFrom_X4_copyFrom : GoodIn wsX6_copyFrom (wsV RX6 36 RX4 yX4_copyFrom wsX4_copyFrom) := goodIn_app (goodIn_of _ (by decide +kernel)) ggX6_copyFrom_X4_copyFrom
theorem dX6_copyFrom_0 : decode cX6_copyFrom 0 = .ok (.iconst 0, 1) := by decide +kernel
theorem dX6_copyFrom_1 : decode cX6_copyFrom 1 = .ok (.istore_n 2, 1) := by decide +kernel
theorem dX6_copyFrom_2 : decode cX6_copyFrom 2 = .ok (.iload_n 2, 1) := by decide +kernel
theorem dX6_copyFrom_3 : decode cX6_copyFrom 3 = .ok (.bipush 10, 2) := by decide +kernel
theorem dX6_copyFrom_5 : decode cX6_copyFrom 5 = .ok (.if_icmp .ge 24, 3) := by decide +kernel
theorem dX6_copyFrom_8 : decode cX6_copyFrom 8 = .ok (.aload_n 0, 1) := by decide +kernel
theorem dX6_copyFrom_9 : decode cX6_copyFrom 9 = .ok (.getfield 11, 3) := by decide +kernel
theorem dX6_copyFrom_12 : decode cX6_copyFrom 12 = .ok (.iload_n 2, 1) := by decide +kernel
theorem dX6_copyFrom_13 : decode cX6_copyFrom 13 = .ok (.aaload, 1) := by decide +kernel
theorem dX6_copyFrom_14 : decode cX6_copyFrom 14 = .ok (.aload_n 1, 1) := by decide +kernel
theorem dX6_copyFrom_15 : decode cX6_copyFrom 15 = .ok (.getfield 11, 3) := by decide +kernel
theorem dX6_copyFrom_18 : decode cX6_copyFrom 18 = .ok (.iload_n 2, 1) := by decide +kernel
theorem dX6_copyFrom_19 : decode cX6_copyFrom 19 = .ok (.aaload, 1) := by decide +kernel
theorem dX6_copyFrom_20 : decode cX6_copyFrom 20 = .ok (.invokevirtual 32, 3) := by decide +kernel
theorem dX6_copyFrom_23 : decode cX6_copyFrom 23 = .ok (.iinc 2 1, 3) := by decide +kernel
theorem dX6_copyFrom_26 : decode cX6_copyFrom 26 = .ok (.goto (-24), 3) := by decide +kernel
theorem dX6_copyFrom_29 : decode cX6_copyFrom 29 = .ok (.iconst 0, 1) := by decide +kernel
theorem dX6_copyFrom_30 : decode cX6_copyFrom 30 = .ok (.istore_n 2, 1) := by decide +kernel
theorem dX6_copyFrom_31 : decode cX6_copyFrom 31 = .ok (.iload_n 2, 1) := by decide +kernel
theorem dX6_copyFrom_32 : decode cX6_copyFrom 32 = .ok (.bipush 10, 2) := by decide +kernel
theorem dX6_copyFrom_34 : decode cX6_copyFrom 34 = .ok (.if_icmp .ge 24, 3) := by decide +kernel
theorem dX6_copyFrom_37 : decode cX6_copyFrom 37 = .ok (.aload_n 0, 1) := by decide +kernel
theorem dX6_copyFrom_38 : decode cX6_copyFrom 38 = .ok (.getfield 19, 3) := by decide +kernel
theorem dX6_copyFrom_41 : decode cX6_copyFrom 41 = .ok (.iload_n 2, 1) := by decide +kernel
theorem dX6_copyFrom_42 : decode cX6_copyFrom 42 = .ok (.aaload, 1) := by decide +kernel
theorem dX6_copyFrom_43 : decode cX6_copyFrom 43 = .ok (.aload_n 1, 1) := by decide +kernel
theorem dX6_copyFrom_44 : decode cX6_copyFrom 44 = .ok (.getfield 19, 3) := by decide +kernel
theorem dX6_copyFrom_47 : decode cX6_copyFrom 47 = .ok (.iload_n 2, 1) := by decide +kernel
theorem dX6_copyFrom_48 : decode cX6_copyFrom 48 = .ok (.aaload, 1) := by decide +kernel
theorem dX6_copyFrom_49 : decode cX6_copyFrom 49 = .ok (.invokevirtual 36, 3) := by decide +kernel
theorem dX6_copyFrom_52 : decode cX6_copyFrom 52 = .ok (.iinc 2 1, 3) := by decide +kernel
theorem dX6_copyFrom_55 : decode cX6_copyFrom 55 = .ok (.goto (-24), 3) := by decide +kernel
theorem dX6_copyFrom_58 : decode cX6_copyFrom 58 = .ok (.aload_n 0, 1) := by decide +kernel
theorem dX6_copyFrom_59 : decode cX6_copyFrom 59 = .ok (.aload_n 1, 1) := by decide +kernel
theorem dX6_copyFrom_60 : decode cX6_copyFrom 60 = .ok (.getfield 23, 3) := by decide +kernel
theorem dX6_copyFrom_63 : decode cX6_copyFrom 63 = .ok (.putfield 23, 3) := by decide +kernel
theorem dX6_copyFrom_66 : decode cX6_copyFrom 66 = .ok (.aload_n 0, 1) := by decide +kernel
theorem dX6_copyFrom_67 : decode cX6_copyFrom 67 = .ok (.aload_n 1, 1) := by decide +kernel
theorem dX6_copyFrom_68 : decode cX6_copyFrom 68 = .ok (.getfield 27, 3) := by decide +kernel
theorem dX6_copyFrom_71 : decode cX6_copyFrom 71 = .ok (.putfield 27, 3) := by decide +kernel
theorem dX6_copyFrom_74 : decode cX6_copyFrom 74 = .ok (.return_, 1) := by decide +kernel
theorem dX6_addMove_0 : decode cX6_addMove 0 = .ok (.aload_n 0, 1) := by decide +kernel
theorem dX6_addMove_1 : decode cX6_addMove 1 = .ok (.getfield 19, 3) := by decide +kernel
theorem dX6_addMove_4 : decode cX6_addMove 4 = .ok (.aload_n 0, 1) := by decide +kernel
theorem dX6_addMove_5 : decode cX6_addMove 5 = .ok (.getfield 23, 3) := by decide +kernel
theorem dX6_addMove_8 : decode cX6_addMove 8 = .ok (.aaload, 1) := by decide +kernel
theorem dX6_addMove_9 : decode cX6_addMove 9 = .ok (.astore 5, 2) := by decide +kernel
theorem dX6_addMove_11 : decode cX6_addMove 11 = .ok (.aload 5, 2) := by decide +kernel
theorem dX6_addMove_13 : decode cX6_addMove 13 = .ok (.iload_n 1, 1) := by decide +kernel
theorem dX6_addMove_14 : decode cX6_addMove 14 = .ok (.putfield 39, 3) := by decide +kernel
theorem dX6_addMove_17 : decode cX6_addMove 17 = .ok (.aload 5, 2) := by decide +kernel
theorem dX6_addMove_19 : decode cX6_addMove 19 = .ok (.iload_n 2, 1) := by decide +kernel
theorem dX6_addMove_20 : decode cX6_addMove 20 = .ok (.putfield 42, 3) := by decide +kernel
theorem dX6_addMove_23 : decode cX6_addMove 23 = .ok (.aload 5, 2) := by decide +kernel
theorem dX6_addMove_25 : decode cX6_addMove 25 = .ok (.iload_n 3, 1) := by decide +kernel
theorem dX6_addMove_26 : decode cX6_addMove 26 = .ok (.putfield 45, 3) := by decide +kernel
theorem dX6_addMove_29 : decode cX6_addMove 29 = .ok (.aload 5, 2) := by decide +kernel
theorem dX6_addMove_31 : decode cX6_addMove 31 = .ok (.iload 4, 2) := by decide +kernel
theorem dX6_addMove_33 : decode cX6_addMove 33 = .ok (.putfield 48, 3) := by decide +kernel
theorem dX6_addMove_36 : decode cX6_addMove 36 = .ok (.aload_n 0, 1) := by decide +kernel
theorem dX6_addMove_37 : decode cX6_addMove 37 = .ok (.dup, 1) := by decide +kernel
theorem dX6_addMove_38 : decode cX6_addMove 38 = .ok (.getfield 23, 3) := by decide +kernel
theorem dX6_addMove_41 : decode cX6_addMove 41 = .ok (.iconst 1, 1) := by decide +kernel
theorem dX6_addMove_42 : decode cX6_addMove 42 = .ok (.iadd, 1) := by decide +kernel
theorem dX6_addMove_43 : decode cX6_addMove 43 = .ok (.putfield 23, 3) := by decide +kernel
theorem dX6_addMove_46 : decode cX6_addMove 46 = .ok (.aload_n 0, 1) := by decide +kernel
theorem dX6_addMove_47 : decode cX6_addMove 47 = .ok (.getfield 23, 3) := by decide +kernel
theorem dX6_addMove_50 : decode cX6_addMove 50 = .ok (.iconst 1, 1) := by decide +kernel
theorem dX6_addMove_51 : decode cX6_addMove 51 = .ok (.isub, 1) := by decide +kernel
theorem dX6_addMove_52 : decode cX6_addMove 52 = .ok (.ireturn, 1) := by decide +kernel
set_option maxRecDepth 20000 in
theorem ggX6_removeMove_X4_copyFrom : GoodIn wsX6_removeMove wsX4_copyFrom := goodIn_r _ [7, 8, 9, 10, 11, 16, 17, 18, 19] (by decide +kernel) (by decide +kernel)
set_option maxRecDepth 20000 in
theorem gX6_removeMove_X4_copyFrom : GoodIn wsX6_removeMove (wsV RX6 36 RX4 yX4_copyFrom wsX4_copyFrom) := goodIn_app (goodIn_of _ (by decide +kernel)) ggX6_removeMove_X4_copyFrom
theorem dX6_removeMove_0 : decode cX6_removeMove 0 = .ok (.iload_n 1, 1) := by decide +kernel
theorem dX6_removeMove_1 : decode cX6_removeMove 1 = .ok (.iconst 1, 1) := by decide +kernel
theorem dX6_removeMove_2 : decode cX6_removeMove 2 = .ok (.iadd, 1) := by decide +kernel
theorem dX6_removeMove_3 : decode cX6_removeMove 3 = .ok (.istore_n 2, 1) := by decide +kernel
theorem dX6_removeMove_4 : decode cX6_removeMove 4 = .ok (.iload_n 2, 1) := by decide +kernel
theorem dX6_removeMove_5 : decode cX6_removeMove 5 = .ok (.aload_n 0, 1) := by decide +kernel
theorem dX6_removeMove_6 : decode cX6_removeMove 6 = .ok (.getfield 23, 3) := by decide +kernel
theorem dX6_removeMove_9 : decode cX6_removeMove 9 = .ok (.if_icmp .ge 26, 3) := by decide +kernel
theorem dX6_removeMove_12 : decode cX6_removeMove 12 = .ok (.aload_n 0, 1) := by decide +kernel
theorem dX6_removeMove_13 : decode cX6_removeMove 13 = .ok (.getfield 19, 3) := by decide +kernel
theorem dX6_removeMove_16 : decode cX6_removeMove 16 = .ok (.iload_n 2, 1) := by decide +kernel
theorem dX6_removeMove_17 : decode cX6_removeMove 17 = .ok (.iconst 1, 1) := by decide +kernel
theorem dX6_removeMove_18 : decode cX6_removeMove 18 = .ok (.isub, 1) := by decide +kernel
theorem dX6_removeMove_19 : decode cX6_removeMove 19 = .ok (.aaload, 1) := by decide +kernel
theorem dX6_removeMove_20 : decode cX6_removeMove 20 = .ok (.aload_n 0, 1) := by decide +kernel
theorem dX6_removeMove_21 : decode cX6_removeMove 21 = .ok (.getfield 19, 3) := by decide +kernel
theorem dX6_removeMove_24 : decode cX6_removeMove 24 = .ok (.iload_n 2, 1) := by decide +kernel
theorem dX6_removeMove_25 : decode cX6_removeMove 25 = .ok (.aaload, 1) := by decide +kernel
theorem dX6_removeMove_26 : decode cX6_removeMove 26 = .ok (.invokevirtual 36, 3) := by decide +kernel
theorem dX6_removeMove_29 : decode cX6_removeMove 29 = .ok (.iinc 2 1, 3) := by decide +kernel
theorem dX6_removeMove_32 : decode cX6_removeMove 32 = .ok (.goto (-28), 3) := by decide +kernel
theorem dX6_removeMove_35 : decode cX6_removeMove 35 = .ok (.aload_n 0, 1) := by decide +kernel
theorem dX6_removeMove_36 : decode cX6_removeMove 36 = .ok (.dup, 1) := by decide +kernel
theorem dX6_removeMove_37 : decode cX6_removeMove 37 = .ok (.getfield 23, 3) := by decide +kernel
theorem dX6_removeMove_40 : decode cX6_removeMove 40 = .ok (.iconst 1, 1) := by decide +kernel
theorem dX6_removeMove_41 : decode cX6_removeMove 41 = .ok (.isub, 1) := by decide +kernel
theorem dX6_removeMove_42 : decode cX6_removeMove 42 = .ok (.putfield 23, 3) := by decide +kernel
theorem dX6_removeMove_45 : decode cX6_removeMove 45 = .ok (.return_, 1) := by decide +kernel
theorem dX6_movesOf_0 : decode cX6_movesOf 0 = .ok (.iconst 0, 1) := by decide +kernel
theorem dX6_movesOf_1 : decode cX6_movesOf 1 = .ok (.istore_n 2, 1) := by decide +kernel
theorem dX6_movesOf_2 : decode cX6_movesOf 2 = .ok (.iconst 0, 1) := by decide +kernel
theorem dX6_movesOf_3 : decode cX6_movesOf 3 = .ok (.istore_n 3, 1) := by decide +kernel
theorem dX6_movesOf_4 : decode cX6_movesOf 4 = .ok (.iload_n 3, 1) := by decide +kernel
theorem dX6_movesOf_5 : decode cX6_movesOf 5 = .ok (.aload_n 0, 1) := by decide +kernel
theorem dX6_movesOf_6 : decode cX6_movesOf 6 = .ok (.getfield 23, 3) := by decide +kernel
theorem dX6_movesOf_9 : decode cX6_movesOf 9 = .ok (.if_icmp .ge 25, 3) := by decide +kernel
theorem dX6_movesOf_12 : decode cX6_movesOf 12 = .ok (.aload_n 0, 1) := by decide +kernel
theorem dX6_movesOf_13 : decode cX6_movesOf 13 = .ok (.getfield 19, 3) := by decide +kernel
theorem dX6_movesOf_16 : decode cX6_movesOf 16 = .ok (.iload_n 3, 1) := by decide +kernel
theorem dX6_movesOf_17 : decode cX6_movesOf 17 = .ok (.aaload, 1) := by decide +kernel
theorem dX6_movesOf_18 : decode cX6_movesOf 18 = .ok (.getfield 39, 3) := by decide +kernel
theorem dX6_movesOf_21 : decode cX6_movesOf 21 = .ok (.iload_n 1, 1) := by decide +kernel
theorem dX6_movesOf_22 : decode cX6_movesOf 22 = .ok (.if_icmp .ne 6, 3) := by decide +kernel
theorem dX6_movesOf_25 : decode cX6_movesOf 25 = .ok (.iinc 2 1, 3) := by decide +kernel
theorem dX6_movesOf_28 : decode cX6_movesOf 28 = .ok (.iinc 3 1, 3) := by decide +kernel
theorem dX6_movesOf_31 : decode cX6_movesOf 31 = .ok (.goto (-27), 3) := by decide +kernel
theorem dX6_movesOf_34 : decode cX6_movesOf 34 = .ok (.iload_n 2, 1) := by decide +kernel
theorem dX6_movesOf_35 : decode cX6_movesOf 35 = .ok (.ireturn, 1) := by decide +kernel
set_option maxRecDepth 20000 in
theorem ggX6_moveAt_X6_firstMoveFrom : GoodIn wsX6_moveAt wsX6_firstMoveFrom := goodIn_r _ [7, 8, 1, 9, 2, 10, 11, 12, 13, 14, 15, 16, 17] (by decide +kernel) (by decide +kernel)
set_option maxRecDepth 20000 in
theorem gX6_moveAt_X6_firstMoveFrom : GoodIn wsX6_moveAt (wsV RX6 51 RX6 yX6_firstMoveFrom wsX6_firstMoveFrom) := goodIn_app (goodIn_of _ (by decide +kernel)) ggX6_moveAt_X6_firstMoveFrom
theorem dX6_moveAt_0 : decode cX6_moveAt 0 = .ok (.aload_n 0, 1) := by decide +kernel
theorem dX6_moveAt_1 : decode cX6_moveAt 1 = .ok (.iload_n 1, 1) := by decide +kernel
theorem dX6_moveAt_2 : decode cX6_moveAt 2 = .ok (.iload_n 2, 1) := by decide +kernel
theorem dX6_moveAt_3 : decode cX6_moveAt 3 = .ok (.invokevirtual 51, 3) := by decide +kernel
theorem dX6_moveAt_6 : decode cX6_moveAt 6 = .ok (.istore_n 3, 1) := by decide +kernel
theorem dX6_moveAt_7 : decode cX6_moveAt 7 = .ok (.iload_n 3, 1) := by decide +kernel
theorem dX6_moveAt_8 : decode cX6_moveAt 8 = .ok (.ifCond .lt 20, 3) := by decide +kernel
theorem dX6_moveAt_11 : decode cX6_moveAt 11 = .ok (.aload_n 0, 1) := by decide +kernel
theorem dX6_moveAt_12 : decode cX6_moveAt 12 = .ok (.getfield 19, 3) := by decide +kernel
theorem dX6_moveAt_15 : decode cX6_moveAt 15 = .ok (.iload_n 3, 1) := by decide +kernel
theorem dX6_moveAt_16 : decode cX6_moveAt 16 = .ok (.aaload, 1) := by decide +kernel
theorem dX6_moveAt_17 : decode cX6_moveAt 17 = .ok (.getfield 42, 3) := by decide +kernel
theorem dX6_moveAt_20 : decode cX6_moveAt 20 = .ok (.iload_n 2, 1) := by decide +kernel
theorem dX6_moveAt_21 : decode cX6_moveAt 21 = .ok (.if_icmp .ne 7, 3) := by decide +kernel
theorem dX6_moveAt_24 : decode cX6_moveAt 24 = .ok (.iload_n 3, 1) := by decide +kernel
theorem dX6_moveAt_25 : decode cX6_moveAt 25 = .ok (.goto 4, 3) := by decide +kernel
theorem dX6_moveAt_28 : decode cX6_moveAt 28 = .ok (.iconst (-1), 1) := by decide +kernel
theorem dX6_moveAt_29 : decode cX6_moveAt 29 = .ok (.ireturn, 1) := by decide +kernel
theorem dX6_firstMoveFrom_0 : decode cX6_firstMoveFrom 0 = .ok (.iconst (-1), 1) := by decide +kernel
theorem dX6_firstMoveFrom_1 : decode cX6_firstMoveFrom 1 = .ok (.istore_n 3, 1) := by decide +kernel
theorem dX6_firstMoveFrom_2 : decode cX6_firstMoveFrom 2 = .ok (.iconst 0, 1) := by decide +kernel
theorem dX6_firstMoveFrom_3 : decode cX6_firstMoveFrom 3 = .ok (.istore 4, 2) := by decide +kernel
theorem dX6_firstMoveFrom_5 : decode cX6_firstMoveFrom 5 = .ok (.iload 4, 2) := by decide +kernel
theorem dX6_firstMoveFrom_7 : decode cX6_firstMoveFrom 7 = .ok (.aload_n 0, 1) := by decide +kernel
theorem dX6_firstMoveFrom_8 : decode cX6_firstMoveFrom 8 = .ok (.getfield 23, 3) := by decide +kernel
theorem dX6_firstMoveFrom_11 : decode cX6_firstMoveFrom 11 = .ok (.if_icmp .ge 78, 3) := by decide +kernel
theorem dX6_firstMoveFrom_14 : decode cX6_firstMoveFrom 14 = .ok (.aload_n 0, 1) := by decide +kernel
theorem dX6_firstMoveFrom_15 : decode cX6_firstMoveFrom 15 = .ok (.getfield 19, 3) := by decide +kernel
theorem dX6_firstMoveFrom_18 : decode cX6_firstMoveFrom 18 = .ok (.iload 4, 2) := by decide +kernel
theorem dX6_firstMoveFrom_20 : decode cX6_firstMoveFrom 20 = .ok (.aaload, 1) := by decide +kernel
theorem dX6_firstMoveFrom_21 : decode cX6_firstMoveFrom 21 = .ok (.getfield 39, 3) := by decide +kernel
theorem dX6_firstMoveFrom_24 : decode cX6_firstMoveFrom 24 = .ok (.iload_n 1, 1) := by decide +kernel
theorem dX6_firstMoveFrom_25 : decode cX6_firstMoveFrom 25 = .ok (.if_icmp .ne 21, 3) := by decide +kernel
theorem dX6_firstMoveFrom_28 : decode cX6_firstMoveFrom 28 = .ok (.aload_n 0, 1) := by decide +kernel
theorem dX6_firstMoveFrom_29 : decode cX6_firstMoveFrom 29 = .ok (.getfield 19, 3) := by decide +kernel
theorem dX6_firstMoveFrom_32 : decode cX6_firstMoveFrom 32 = .ok (.iload 4, 2) := by decide +kernel
theorem dX6_firstMoveFrom_34 : decode cX6_firstMoveFrom 34 = .ok (.aaload, 1) := by decide +kernel
theorem dX6_firstMoveFrom_35 : decode cX6_firstMoveFrom 35 = .ok (.getfield 42, 3) := by decide +kernel
theorem dX6_firstMoveFrom_38 : decode cX6_firstMoveFrom 38 = .ok (.iload_n 2, 1) := by decide +kernel
theorem dX6_firstMoveFrom_39 : decode cX6_firstMoveFrom 39 = .ok (.if_icmp .lt 7, 3) := by decide +kernel
theorem dX6_firstMoveFrom_42 : decode cX6_firstMoveFrom 42 = .ok (.iconst 1, 1) := by decide +kernel
theorem dX6_firstMoveFrom_43 : decode cX6_firstMoveFrom 43 = .ok (.goto 4, 3) := by decide +kernel
theorem dX6_firstMoveFrom_46 : decode cX6_firstMoveFrom 46 = .ok (.iconst 0, 1) := by decide +kernel
theorem dX6_firstMoveFrom_47 : decode cX6_firstMoveFrom 47 = .ok (.istore 5, 2) := by decide +kernel
theorem dX6_firstMoveFrom_49 : decode cX6_firstMoveFrom 49 = .ok (.iload 5, 2) := by decide +kernel
theorem dX6_firstMoveFrom_51 : decode cX6_firstMoveFrom 51 = .ok (.ifCond .eq 32, 3) := by decide +kernel
theorem dX6_firstMoveFrom_54 : decode cX6_firstMoveFrom 54 = .ok (.iload_n 3, 1) := by decide +kernel
theorem dX6_firstMoveFrom_55 : decode cX6_firstMoveFrom 55 = .ok (.ifCond .lt 25, 3) := by decide +kernel
theorem dX6_firstMoveFrom_58 : decode cX6_firstMoveFrom 58 = .ok (.aload_n 0, 1) := by decide +kernel
theorem dX6_firstMoveFrom_59 : decode cX6_firstMoveFrom 59 = .ok (.getfield 19, 3) := by decide +kernel
theorem dX6_firstMoveFrom_62 : decode cX6_firstMoveFrom 62 = .ok (.iload 4, 2) := by decide +kernel
theorem dX6_firstMoveFrom_64 : decode cX6_firstMoveFrom 64 = .ok (.aaload, 1) := by decide +kernel
theorem dX6_firstMoveFrom_65 : decode cX6_firstMoveFrom 65 = .ok (.getfield 42, 3) := by decide +kernel
theorem dX6_firstMoveFrom_68 : decode cX6_firstMoveFrom 68 = .ok (.aload_n 0, 1) := by decide +kernel
theorem dX6_firstMoveFrom_69 : decode cX6_firstMoveFrom 69 = .ok (.getfield 19, 3) := by decide +kernel
theorem dX6_firstMoveFrom_72 : decode cX6_firstMoveFrom 72 = .ok (.iload_n 3, 1) := by decide +kernel
theorem dX6_firstMoveFrom_73 : decode cX6_firstMoveFrom 73 = .ok (.aaload, 1) := by decide +kernel
theorem dX6_firstMoveFrom_74 : decode cX6_firstMoveFrom 74 = .ok (.getfield 42, 3) := by decide +kernel
theorem dX6_firstMoveFrom_77 : decode cX6_firstMoveFrom 77 = .ok (.if_icmp .ge 6, 3) := by decide +kernel
theorem dX6_firstMoveFrom_80 : decode cX6_firstMoveFrom 80 = .ok (.iload 4, 2) := by decide +kernel
theorem dX6_firstMoveFrom_82 : decode cX6_firstMoveFrom 82 = .ok (.istore_n 3, 1) := by decide +kernel
theorem dX6_firstMoveFrom_83 : decode cX6_firstMoveFrom 83 = .ok (.iinc 4 1, 3) := by decide +kernel
theorem dX6_firstMoveFrom_86 : decode cX6_firstMoveFrom 86 = .ok (.goto (-81), 3) := by decide +kernel
theorem dX6_firstMoveFrom_89 : decode cX6_firstMoveFrom 89 = .ok (.iload_n 3, 1) := by decide +kernel
theorem dX6_firstMoveFrom_90 : decode cX6_firstMoveFrom 90 = .ok (.ireturn, 1) := by decide +kernel
theorem dX6_areNear_0 : decode cX6_areNear 0 = .ok (.iload_n 1, 1) := by decide +kernel
theorem dX6_areNear_1 : decode cX6_areNear 1 = .ok (.iload_n 2, 1) := by decide +kernel
theorem dX6_areNear_2 : decode cX6_areNear 2 = .ok (.isub, 1) := by decide +kernel
theorem dX6_areNear_3 : decode cX6_areNear 3 = .ok (.invokestatic 55, 3) := by decide +kernel
theorem dX6_areNear_6 : decode cX6_areNear 6 = .ok (.aload_n 0, 1) := by decide +kernel
theorem dX6_areNear_7 : decode cX6_areNear 7 = .ok (.getfield 11, 3) := by decide +kernel
theorem dX6_areNear_10 : decode cX6_areNear 10 = .ok (.iload_n 1, 1) := by decide +kernel
theorem dX6_areNear_11 : decode cX6_areNear 11 = .ok (.aaload, 1) := by decide +kernel
theorem dX6_areNear_12 : decode cX6_areNear 12 = .ok (.getfield 61, 3) := by decide +kernel
theorem dX6_areNear_15 : decode cX6_areNear 15 = .ok (.iconst 2, 1) := by decide +kernel
theorem dX6_areNear_16 : decode cX6_areNear 16 = .ok (.iaload, 1) := by decide +kernel
theorem dX6_areNear_17 : decode cX6_areNear 17 = .ok (.aload_n 0, 1) := by decide +kernel
theorem dX6_areNear_18 : decode cX6_areNear 18 = .ok (.getfield 11, 3) := by decide +kernel
theorem dX6_areNear_21 : decode cX6_areNear 21 = .ok (.iload_n 2, 1) := by decide +kernel
theorem dX6_areNear_22 : decode cX6_areNear 22 = .ok (.aaload, 1) := by decide +kernel
theorem dX6_areNear_23 : decode cX6_areNear 23 = .ok (.getfield 61, 3) := by decide +kernel
theorem dX6_areNear_26 : decode cX6_areNear 26 = .ok (.iconst 2, 1) := by decide +kernel
theorem dX6_areNear_27 : decode cX6_areNear 27 = .ok (.iaload, 1) := by decide +kernel
theorem dX6_areNear_28 : decode cX6_areNear 28 = .ok (.iadd, 1) := by decide +kernel
theorem dX6_areNear_29 : decode cX6_areNear 29 = .ok (.if_icmp .gt 7, 3) := by decide +kernel
theorem dX6_areNear_32 : decode cX6_areNear 32 = .ok (.iconst 1, 1) := by decide +kernel
theorem dX6_areNear_33 : decode cX6_areNear 33 = .ok (.goto 4, 3) := by decide +kernel
theorem dX6_areNear_36 : decode cX6_areNear 36 = .ok (.iconst 0, 1) := by decide +kernel
theorem dX6_areNear_37 : decode cX6_areNear 37 = .ok (.ireturn, 1) := by decide +kernel
set_option maxRecDepth 20000 in
theorem ggX6_isDoable_X0_isEven : GoodIn wsX6_isDoable wsX0_isEven := goodIn_r _ [9, 10, 11, 12, 13, 14, 15, 16, 17, 18, 19, 20, 21, 22, 31, 32, 33, 34, 35] (by decide +kernel) (by decide +kernel)
set_option maxRecDepth 20000 in
theorem gX6_isDoable_X0_isEven : GoodIn wsX6_isDoable (wsV RX6 65 RX0 yX0_isEven wsX0_isEven) := goodIn_app (goodIn_of _ (by decide +kernel)) ggX6_isDoable_X0_isEven
theorem dX6_isDoable_0 : decode cX6_isDoable 0 = .ok (.aload_n 0, 1) := by decide +kernel
theorem dX6_isDoable_1 : decode cX6_isDoable 1 = .ok (.getfield 11, 3) := by decide +kernel
theorem dX6_isDoable_4 : decode cX6_isDoable 4 = .ok (.aload_n 0, 1) := by decide +kernel
theorem dX6_isDoable_5 : decode cX6_isDoable 5 = .ok (.getfield 19, 3) := by decide +kernel
theorem dX6_isDoable_8 : decode cX6_isDoable 8 = .ok (.iload_n 1, 1) := by decide +kernel
theorem dX6_isDoable_9 : decode cX6_isDoable 9 = .ok (.aaload, 1) := by decide +kernel
theorem dX6_isDoable_10 : decode cX6_isDoable 10 = .ok (.getfield 39, 3) := by decide +kernel
theorem dX6_isDoable_13 : decode cX6_isDoable 13 = .ok (.aaload, 1) := by decide +kernel
theorem dX6_isDoable_14 : decode cX6_isDoable 14 = .ok (.aload_n 0, 1) := by decide +kernel
theorem dX6_isDoable_15 : decode cX6_isDoable 15 = .ok (.getfield 27, 3) := by decide +kernel
theorem dX6_isDoable_18 : decode cX6_isDoable 18 = .ok (.invokevirtual 65, 3) := by decide +kernel
theorem dX6_isDoable_21 : decode cX6_isDoable 21 = .ok (.ireturn, 1) := by decide +kernel
set_option maxRecDepth 20000 in
theorem ggX6_evenBars_X0_isEven : GoodIn wsX6_evenBars wsX0_isEven := goodIn_r _ [7, 8, 9, 10, 11, 12, 13, 14, 15, 16, 17, 18, 19, 20, 25, 26, 27, 28, 29] (by decide +kernel) (by decide +kernel)
set_option maxRecDepth 20000 in
theorem gX6_evenBars_X0_isEven : GoodIn wsX6_evenBars (wsV RX6 65 RX0 yX0_isEven wsX0_isEven) := goodIn_app (goodIn_of _ (by decide +kernel)) ggX6_evenBars_X0_isEven
theorem dX6_evenBars_0 : decode cX6_evenBars 0 = .ok (.iconst 0, 1) := by decide +kernel
theorem dX6_evenBars_1 : decode cX6_evenBars 1 = .ok (.istore_n 1, 1) := by decide +kernel
theorem dX6_evenBars_2 : decode cX6_evenBars 2 = .ok (.iconst 0, 1) := by decide +kernel
theorem dX6_evenBars_3 : decode cX6_evenBars 3 = .ok (.istore_n 2, 1) := by decide +kernel
theorem dX6_evenBars_4 : decode cX6_evenBars 4 = .ok (.iload_n 2, 1) := by decide +kernel
theorem dX6_evenBars_5 : decode cX6_evenBars 5 = .ok (.bipush 10, 2) := by decide +kernel
theorem dX6_evenBars_7 : decode cX6_evenBars 7 = .ok (.if_icmp .ge 28, 3) := by decide +kernel
theorem dX6_evenBars_10 : decode cX6_evenBars 10 = .ok (.aload_n 0, 1) := by decide +kernel
theorem dX6_evenBars_11 : decode cX6_evenBars 11 = .ok (.getfield 11, 3) := by decide +kernel
theorem dX6_evenBars_14 : decode cX6_evenBars 14 = .ok (.iload_n 2, 1) := by decide +kernel
theorem dX6_evenBars_15 : decode cX6_evenBars 15 = .ok (.aaload, 1) := by decide +kernel
theorem dX6_evenBars_16 : decode cX6_evenBars 16 = .ok (.aload_n 0, 1) := by decide +kernel
theorem dX6_evenBars_17 : decode cX6_evenBars 17 = .ok (.getfield 27, 3) := by decide +kernel
theorem dX6_evenBars_20 : decode cX6_evenBars 20 = .ok (.invokevirtual 65, 3) := by decide +kernel
theorem dX6_evenBars_23 : decode cX6_evenBars 23 = .ok (.ifCond .eq 6, 3) := by decide +kernel
theorem dX6_evenBars_26 : decode cX6_evenBars 26 = .ok (.iinc 1 1, 3) := by decide +kernel
theorem dX6_evenBars_29 : decode cX6_evenBars 29 = .ok (.iinc 2 1, 3) := by decide +kernel
theorem dX6_evenBars_32 : decode cX6_evenBars 32 = .ok (.goto (-28), 3) := by decide +kernel
theorem dX6_evenBars_35 : decode cX6_evenBars 35 = .ok (.iload_n 1, 1) := by decide +kernel
theorem dX6_evenBars_36 : decode cX6_evenBars 36 = .ok (.ireturn, 1) := by decide +kernel
set_option maxRecDepth 20000 in
theorem ggX6_nearPairs_X6_areNear : GoodIn wsX6_nearPairs wsX6_areNear := goodIn_r _ [5, 6, 7, 8, 9, 10, 11, 12, 13, 14, 15, 16, 17, 18] (by decide +kernel) (by decide +kernel)
set_option maxRecDepth 20000 in
theorem gX6_nearPairs_X6_areNear : GoodIn wsX6_nearPairs (wsV RX6 69 RX6 yX6_areNear wsX6_areNear) := goodIn_app (goodIn_of _ (by decide +kernel)) ggX6_nearPairs_X6_areNear
theorem dX6_nearPairs_0 : decode cX6_nearPairs 0 = .ok (.iconst 0, 1) := by decide +kernel
theorem dX6_nearPairs_1 : decode cX6_nearPairs 1 = .ok (.istore_n 1, 1) := by decide +kernel
theorem dX6_nearPairs_2 : decode cX6_nearPairs 2 = .ok (.iconst 0, 1) := by decide +kernel
theorem dX6_nearPairs_3 : decode cX6_nearPairs 3 = .ok (.istore_n 2, 1) := by decide +kernel
theorem dX6_nearPairs_4 : decode cX6_nearPairs 4 = .ok (.iload_n 2, 1) := by decide +kernel
theorem dX6_nearPairs_5 : decode cX6_nearPairs 5 = .ok (.bipush 10, 2) := by decide +kernel
theorem dX6_nearPairs_7 : decode cX6_nearPairs 7 = .ok (.if_icmp .ge 37, 3) := by decide +kernel
theorem dX6_nearPairs_10 : decode cX6_nearPairs 10 = .ok (.iload_n 2, 1) := by decide +kernel
theorem dX6_nearPairs_11 : decode cX6_nearPairs 11 = .ok (.iconst 1, 1) := by decide +kernel
theorem dX6_nearPairs_12 : decode cX6_nearPairs 12 = .ok (.iadd, 1) := by decide +kernel
theorem dX6_nearPairs_13 : decode cX6_nearPairs 13 = .ok (.istore_n 3, 1) := by decide +kernel
theorem dX6_nearPairs_14 : decode cX6_nearPairs 14 = .ok (.iload_n 3, 1) := by decide +kernel
theorem dX6_nearPairs_15 : decode cX6_nearPairs 15 = .ok (.bipush 10, 2) := by decide +kernel
theorem dX6_nearPairs_17 : decode cX6_nearPairs 17 = .ok (.if_icmp .ge 21, 3) := by decide +kernel
theorem dX6_nearPairs_20 : decode cX6_nearPairs 20 = .ok (.aload_n 0, 1) := by decide +kernel
theorem dX6_nearPairs_21 : decode cX6_nearPairs 21 = .ok (.iload_n 2, 1) := by decide +kernel
theorem dX6_nearPairs_22 : decode cX6_nearPairs 22 = .ok (.iload_n 3, 1) := by decide +kernel
theorem dX6_nearPairs_23 : decode cX6_nearPairs 23 = .ok (.invokevirtual 69, 3) := by decide +kernel
theorem dX6_nearPairs_26 : decode cX6_nearPairs 26 = .ok (.ifCond .eq 6, 3) := by decide +kernel
theorem dX6_nearPairs_29 : decode cX6_nearPairs 29 = .ok (.iinc 1 1, 3) := by decide +kernel
theorem dX6_nearPairs_32 : decode cX6_nearPairs 32 = .ok (.iinc 3 1, 3) := by decide +kernel
theorem dX6_nearPairs_35 : decode cX6_nearPairs 35 = .ok (.goto (-21), 3) := by decide +kernel
theorem dX6_nearPairs_38 : decode cX6_nearPairs 38 = .ok (.iinc 2 1, 3) := by decide +kernel
theorem dX6_nearPairs_41 : decode cX6_nearPairs 41 = .ok (.goto (-37), 3) := by decide +kernel
theorem dX6_nearPairs_44 : decode cX6_nearPairs 44 = .ok (.iload_n 1, 1) := by decide +kernel
theorem dX6_nearPairs_45 : decode cX6_nearPairs 45 = .ok (.ireturn, 1) := by decide +kernel
set_option maxRecDepth 20000 in
theorem ggX7_init_X6_init : GoodIn wsX7_init wsX6_init := goodIn_r _ [24, 25, 2, 3, 26, 27, 28, 29, 30, 31, 32, 33, 34, 35, 36, 37, 38, 39, 40, 41, 42, 43, 44, 45, 46, 47, 48, 49, 50, 51, 52, 53, 54, 55, 56, 57, 82, 83, 84, 85, 105, 106, 107, 108, 109, 110, 111, 112, 113] (by decide +kernel) (by decide +kernel)
set_option maxRecDepth 20000 in
theorem gX7_init_X6_init : GoodIn wsX7_init (wsX6_init) := ggX7_init_X6_init
set_option maxRecDepth 20000 in
theorem ggX7_init_X3_init : GoodIn wsX7_init wsX3_init := goodIn_r _ [59, 60, 2, 3, 39, 61, 62, 63, 64, 65, 92, 93, 94, 95, 96] (by decide +kernel) (by decide +kernel)
set_option maxRecDepth 20000 in
theorem gX7_init_X3_init_n26 : GoodIn wsX7_init (wsX3_init) := ggX7_init_X3_init
set_option maxRecDepth 20000 in
theorem ggX7_init_X2_init : GoodIn wsX7_init wsX2_init := goodIn_r _ [67, 68, 2, 3, 69, 39, 70, 97] (by decide +kernel) (by decide +kernel)
set_option maxRecDepth 20000 in
theorem gX7_init_X2_init_n33 : GoodIn wsX7_init (wsX2_init) := ggX7_init_X2_init
set_option maxRecDepth 20000 in
theorem ggX7_init_X1_init : GoodIn wsX7_init wsX1_init := goodIn_r _ [72, 73, 2, 3, 74, 39, 75, 76, 77, 78, 79, 80, 81, 98, 99, 100, 101, 102, 103, 104] (by decide +kernel) (by decide +kernel)
set_option maxRecDepth 20000 in
theorem gX7_init_X1_init_n40 : GoodIn wsX7_init (wsX1_init) := ggX7_init_X1_init
theorem dX7_init_0 : decode cX7_init 0 = .ok (.aload_n 0, 1) := by decide +kernel
theorem dX7_init_1 : decode cX7_init 1 = .ok (.invokespecial 3, 3) := by decide +kernel
theorem dX7_init_4 : decode cX7_init 4 = .ok (.aload_n 0, 1) := by decide +kernel
theorem dX7_init_5 : decode cX7_init 5 = .ok (.new 9, 3) := by decide +kernel
theorem dX7_init_8 : decode cX7_init 8 = .ok (.dup, 1) := by decide +kernel
theorem dX7_init_9 : decode cX7_init 9 = .ok (.invokespecial 11, 3) := by decide +kernel
theorem dX7_init_12 : decode cX7_init 12 = .ok (.putfield 12, 3) := by decide +kernel
theorem dX7_init_15 : decode cX7_init 15 = .ok (.aload_n 0, 1) := by decide +kernel
theorem dX7_init_16 : decode cX7_init 16 = .ok (.iconst 2, 1) := by decide +kernel
theorem dX7_init_17 : decode cX7_init 17 = .ok (.anewarray 9, 3) := by decide +kernel
theorem dX7_init_20 : decode cX7_init 20 = .ok (.putfield 16, 3) := by decide +kernel
theorem dX7_init_23 : decode cX7_init 23 = .ok (.aload_n 0, 1) := by decide +kernel
theorem dX7_init_24 : decode cX7_init 24 = .ok (.iconst 0, 1) := by decide +kernel
theorem dX7_init_25 : decode cX7_init 25 = .ok (.putfield 20, 3) := by decide +kernel
theorem dX7_init_28 : decode cX7_init 28 = .ok (.aload_n 0, 1) := by decide +kernel
theorem dX7_init_29 : decode cX7_init 29 = .ok (.new 24, 3) := by decide +kernel
theorem dX7_init_32 : decode cX7_init 32 = .ok (.dup, 1) := by decide +kernel
theorem dX7_init_33 : decode cX7_init 33 = .ok (.invokespecial 26, 3) := by decide +kernel
theorem dX7_init_36 : decode cX7_init 36 = .ok (.putfield 27, 3) := by decide +kernel
theorem dX7_init_39 : decode cX7_init 39 = .ok (.aload_n 0, 1) := by decide +kernel
theorem dX7_init_40 : decode cX7_init 40 = .ok (.new 31, 3) := by decide +kernel
theorem dX7_init_43 : decode cX7_init 43 = .ok (.dup, 1) := by decide +kernel
theorem dX7_init_44 : decode cX7_init 44 = .ok (.invokespecial 33, 3) := by decide +kernel
theorem dX7_init_47 : decode cX7_init 47 = .ok (.putfield 34, 3) := by decide +kernel
theorem dX7_init_50 : decode cX7_init 50 = .ok (.aload_n 0, 1) := by decide +kernel
theorem dX7_init_51 : decode cX7_init 51 = .ok (.new 38, 3) := by decide +kernel
theorem dX7_init_54 : decode cX7_init 54 = .ok (.dup, 1) := by decide +kernel
theorem dX7_init_55 : decode cX7_init 55 = .ok (.invokespecial 40, 3) := by decide +kernel
theorem dX7_init_58 : decode cX7_init 58 = .ok (.putfield 41, 3) := by decide +kernel
theorem dX7_init_61 : decode cX7_init 61 = .ok (.iconst 0, 1) := by decide +kernel
theorem dX7_init_62 : decode cX7_init 62 = .ok (.istore_n 1, 1) := by decide +kernel
theorem dX7_init_63 : decode cX7_init 63 = .ok (.iload_n 1, 1) := by decide +kernel
theorem dX7_init_64 : decode cX7_init 64 = .ok (.iconst 2, 1) := by decide +kernel
theorem dX7_init_65 : decode cX7_init 65 = .ok (.if_icmp .ge 22, 3) := by decide +kernel
theorem dX7_init_68 : decode cX7_init 68 = .ok (.aload_n 0, 1) := by decide +kernel
theorem dX7_init_69 : decode cX7_init 69 = .ok (.getfield 16, 3) := by decide +kernel
theorem dX7_init_72 : decode cX7_init 72 = .ok (.iload_n 1, 1) := by decide +kernel
theorem dX7_init_73 : decode cX7_init 73 = .ok (.new 9, 3) := by decide +kernel
theorem dX7_init_76 : decode cX7_init 76 = .ok (.dup, 1) := by decide +kernel
theorem dX7_init_77 : decode cX7_init 77 = .ok (.invokespecial 11, 3) := by decide +kernel
theorem dX7_init_80 : decode cX7_init 80 = .ok (.aastore, 1) := by decide +kernel
theorem dX7_init_81 : decode cX7_init 81 = .ok (.iinc 1 1, 3) := by decide +kernel
theorem dX7_init_84 : decode cX7_init 84 = .ok (.goto (-21), 3) := by decide +kernel
theorem dX7_init_87 : decode cX7_init 87 = .ok (.return_, 1) := by decide +kernel
set_option maxRecDepth 20000 in
theorem ggX7_set_X7_isBar : GoodIn wsX7_set wsX7_isBar := goodIn_r _ [9, 10, 11, 8, 12] (by decide +kernel) (by decide +kernel)
set_option maxRecDepth 20000 in
theorem gX7_set_X7_isBar : GoodIn wsX7_set (va_wsS RX7 45 yX7_isBar wsX7_isBar) := goodIn_app (goodIn_of _ (by decide +kernel)) ggX7_set_X7_isBar
set_option maxRecDepth 20000 in
theorem ggX7_set_X7_within : GoodIn wsX7_set wsX7_within := goodIn_r _ [12] (by decide +kernel) (by decide +kernel)
set_option maxRecDepth 20000 in
theorem gX7_set_X7_within : GoodIn wsX7_set (va_wsS RX7 49 yX7_within wsX7_within) := goodIn_app (goodIn_of _ (by decide +kernel)) ggX7_set_X7_within
theorem dX7_set_0 : decode cX7_set 0 = .ok (.iload_n 1, 1) := by decide +kernel
theorem dX7_set_1 : decode cX7_set 1 = .ok (.invokestatic 45, 3) := by decide +kernel
theorem dX7_set_4 : decode cX7_set 4 = .ok (.ifCond .ne 5, 3) := by decide +kernel
theorem dX7_set_7 : decode cX7_set 7 = .ok (.iconst (-1), 1) := by decide +kernel
theorem dX7_set_8 : decode cX7_set 8 = .ok (.ireturn, 1) := by decide +kernel
theorem dX7_set_9 : decode cX7_set 9 = .ok (.iload_n 2, 1) := by decide +kernel
theorem dX7_set_10 : decode cX7_set 10 = .ok (.iconst 0, 1) := by decide +kernel
theorem dX7_set_11 : decode cX7_set 11 = .ok (.iconst 3, 1) := by decide +kernel
theorem dX7_set_12 : decode cX7_set 12 = .ok (.invokestatic 49, 3) := by decide +kernel
theorem dX7_set_15 : decode cX7_set 15 = .ok (.ifCond .eq 16, 3) := by decide +kernel
theorem dX7_set_18 : decode cX7_set 18 = .ok (.iload_n 3, 1) := by decide +kernel
theorem dX7_set_19 : decode cX7_set 19 = .ok (.iconst 0, 1) := by decide +kernel
theorem dX7_set_20 : decode cX7_set 20 = .ok (.getstatic 53, 3) := by decide +kernel
theorem dX7_set_23 : decode cX7_set 23 = .ok (.iload_n 2, 1) := by decide +kernel
theorem dX7_set_24 : decode cX7_set 24 = .ok (.iaload, 1) := by decide +kernel
theorem dX7_set_25 : decode cX7_set 25 = .ok (.invokestatic 49, 3) := by decide +kernel
theorem dX7_set_28 : decode cX7_set 28 = .ok (.ifCond .ne 6, 3) := by decide +kernel
theorem dX7_set_31 : decode cX7_set 31 = .ok (.bipush (-2), 2) := by decide +kernel
theorem dX7_set_33 : decode cX7_set 33 = .ok (.ireturn, 1) := by decide +kernel
theorem dX7_set_34 : decode cX7_set 34 = .ok (.iload_n 2, 1) := by decide +kernel
theorem dX7_set_35 : decode cX7_set 35 = .ok (.iconst 3, 1) := by decide +kernel
theorem dX7_set_36 : decode cX7_set 36 = .ok (.if_icmp .ne 23, 3) := by decide +kernel
theorem dX7_set_39 : decode cX7_set 39 = .ok (.aload_n 0, 1) := by decide +kernel
theorem dX7_set_40 : decode cX7_set 40 = .ok (.getfield 12, 3) := by decide +kernel
theorem dX7_set_43 : decode cX7_set 43 = .ok (.getfield 57, 3) := by decide +kernel
theorem dX7_set_46 : decode cX7_set 46 = .ok (.istore 4, 2) := by decide +kernel
theorem dX7_set_48 : decode cX7_set 48 = .ok (.aload_n 0, 1) := by decide +kernel
theorem dX7_set_49 : decode cX7_set 49 = .ok (.getfield 12, 3) := by decide +kernel
theorem dX7_set_52 : decode cX7_set 52 = .ok (.iload_n 3, 1) := by decide +kernel
theorem dX7_set_53 : decode cX7_set 53 = .ok (.putfield 57, 3) := by decide +kernel
theorem dX7_set_56 : decode cX7_set 56 = .ok (.goto 34, 3) := by decide +kernel
theorem dX7_set_59 : decode cX7_set 59 = .ok (.aload_n 0, 1) := by decide +kernel
theorem dX7_set_60 : decode cX7_set 60 = .ok (.getfield 12, 3) := by decide +kernel
theorem dX7_set_63 : decode cX7_set 63 = .ok (.getfield 60, 3) := by decide +kernel
theorem dX7_set_66 : decode cX7_set 66 = .ok (.iload_n 1, 1) := by decide +kernel
theorem dX7_set_67 : decode cX7_set 67 = .ok (.aaload, 1) := by decide +kernel
theorem dX7_set_68 : decode cX7_set 68 = .ok (.getfield 64, 3) := by decide +kernel
theorem dX7_set_71 : decode cX7_set 71 = .ok (.iload_n 2, 1) := by decide +kernel
theorem dX7_set_72 : decode cX7_set 72 = .ok (.iaload, 1) := by decide +kernel
theorem dX7_set_73 : decode cX7_set 73 = .ok (.istore 4, 2) := by decide +kernel
theorem dX7_set_75 : decode cX7_set 75 = .ok (.aload_n 0, 1) := by decide +kernel
theorem dX7_set_76 : decode cX7_set 76 = .ok (.getfield 12, 3) := by decide +kernel
theorem dX7_set_79 : decode cX7_set 79 = .ok (.getfield 60, 3) := by decide +kernel
theorem dX7_set_82 : decode cX7_set 82 = .ok (.iload_n 1, 1) := by decide +kernel
theorem dX7_set_83 : decode cX7_set 83 = .ok (.aaload, 1) := by decide +kernel
theorem dX7_set_84 : decode cX7_set 84 = .ok (.getfield 64, 3) := by decide +kernel
theorem dX7_set_87 : decode cX7_set 87 = .ok (.iload_n 2, 1) := by decide +kernel
theorem dX7_set_88 : decode cX7_set 88 = .ok (.iload_n 3, 1) := by decide +kernel
theorem dX7_set_89 : decode cX7_set 89 = .ok (.iastore, 1) := by decide +kernel
theorem dX7_set_90 : decode cX7_set 90 = .ok (.iload 4, 2) := by decide +kernel
theorem dX7_set_92 : decode cX7_set 92 = .ok (.ireturn, 1) := by decide +kernel
set_option maxRecDepth 20000 in
theorem ggX7_load_X7_isBar : GoodIn wsX7_load wsX7_isBar := goodIn_r _ [7, 8, 9, 6, 10] (by decide +kernel) (by decide +kernel)
set_option maxRecDepth 20000 in
theorem gX7_load_X7_isBar : GoodIn wsX7_load (va_wsS RX7 45 yX7_isBar wsX7_isBar) := goodIn_app (goodIn_of _ (by decide +kernel)) ggX7_load_X7_isBar
set_option maxRecDepth 20000 in
theorem ggX7_load_X7_within : GoodIn wsX7_load wsX7_within := goodIn_r _ [10] (by decide +kernel) (by decide +kernel)
set_option maxRecDepth 20000 in
theorem gX7_load_X7_within : GoodIn wsX7_load (va_wsS RX7 49 yX7_within wsX7_within) := goodIn_app (goodIn_of _ (by decide +kernel)) ggX7_load_X7_within
set_option maxRecDepth 20000 in
theorem ggX7_load_X0_pileOf : GoodIn wsX7_load wsX0_pileOf := goodIn_r _ [15, 16, 17, 37, 38, 39] (by decide +kernel) (by decide +kernel)
set_option maxRecDepth 20000 in
theorem gX7_load_X0_pileOf : GoodIn wsX7_load (wsV RX7 69 RX0 yX0_pileOf wsX0_pileOf) := goodIn_app (goodIn_of _ (by decide +kernel)) ggX7_load_X0_pileOf
set_option maxRecDepth 20000 in
theorem ggX7_load_X5_add : GoodIn wsX7_load wsX5_add := goodIn_r _ [22, 23, 24, 35, 36] (by decide +kernel) (by decide +kernel)
set_option maxRecDepth 20000 in
theorem gX7_load_X5_add : GoodIn wsX7_load (wsV RX7 78 RX5 yX5_add wsX5_add) := goodIn_app (goodIn_of _ (by decide +kernel)) ggX7_load_X5_add
theorem dX7_load_0 : decode cX7_load 0 = .ok (.iload_n 1, 1) := by decide +kernel
theorem dX7_load_1 : decode cX7_load 1 = .ok (.invokestatic 45, 3) := by decide +kernel
theorem dX7_load_4 : decode cX7_load 4 = .ok (.ifCond .ne 5, 3) := by decide +kernel
theorem dX7_load_7 : decode cX7_load 7 = .ok (.iconst (-1), 1) := by decide +kernel
theorem dX7_load_8 : decode cX7_load 8 = .ok (.ireturn, 1) := by decide +kernel
theorem dX7_load_9 : decode cX7_load 9 = .ok (.iload_n 2, 1) := by decide +kernel
theorem dX7_load_10 : decode cX7_load 10 = .ok (.iconst 0, 1) := by decide +kernel
theorem dX7_load_11 : decode cX7_load 11 = .ok (.iconst 1, 1) := by decide +kernel
theorem dX7_load_12 : decode cX7_load 12 = .ok (.invokestatic 49, 3) := by decide +kernel
theorem dX7_load_15 : decode cX7_load 15 = .ok (.ifCond .eq 13, 3) := by decide +kernel
theorem dX7_load_18 : decode cX7_load 18 = .ok (.iload_n 3, 1) := by decide +kernel
theorem dX7_load_19 : decode cX7_load 19 = .ok (.iconst 1, 1) := by decide +kernel
theorem dX7_load_20 : decode cX7_load 20 = .ok (.bipush 50, 2) := by decide +kernel
theorem dX7_load_22 : decode cX7_load 22 = .ok (.invokestatic 49, 3) := by decide +kernel
theorem dX7_load_25 : decode cX7_load 25 = .ok (.ifCond .ne 6, 3) := by decide +kernel
theorem dX7_load_28 : decode cX7_load 28 = .ok (.bipush (-2), 2) := by decide +kernel
theorem dX7_load_30 : decode cX7_load 30 = .ok (.ireturn, 1) := by decide +kernel
theorem dX7_load_31 : decode cX7_load 31 = .ok (.aload_n 0, 1) := by decide +kernel
theorem dX7_load_32 : decode cX7_load 32 = .ok (.getfield 12, 3) := by decide +kernel
theorem dX7_load_35 : decode cX7_load 35 = .ok (.getfield 60, 3) := by decide +kernel
theorem dX7_load_38 : decode cX7_load 38 = .ok (.iload_n 1, 1) := by decide +kernel
theorem dX7_load_39 : decode cX7_load 39 = .ok (.aaload, 1) := by decide +kernel
theorem dX7_load_40 : decode cX7_load 40 = .ok (.iload_n 2, 1) := by decide +kernel
theorem dX7_load_41 : decode cX7_load 41 = .ok (.invokevirtual 69, 3) := by decide +kernel
theorem dX7_load_44 : decode cX7_load 44 = .ok (.astore 4, 2) := by decide +kernel
theorem dX7_load_46 : decode cX7_load 46 = .ok (.aload 4, 2) := by decide +kernel
theorem dX7_load_48 : decode cX7_load 48 = .ok (.getfield 73, 3) := by decide +kernel
theorem dX7_load_51 : decode cX7_load 51 = .ok (.bipush 6, 2) := by decide +kernel
theorem dX7_load_53 : decode cX7_load 53 = .ok (.if_icmp .lt 6, 3) := by decide +kernel
theorem dX7_load_56 : decode cX7_load 56 = .ok (.bipush (-4), 2) := by decide +kernel
theorem dX7_load_58 : decode cX7_load 58 = .ok (.ireturn, 1) := by decide +kernel
theorem dX7_load_59 : decode cX7_load 59 = .ok (.aload 4, 2) := by decide +kernel
theorem dX7_load_61 : decode cX7_load 61 = .ok (.iload_n 3, 1) := by decide +kernel
theorem dX7_load_62 : decode cX7_load 62 = .ok (.invokevirtual 78, 3) := by decide +kernel
theorem dX7_load_65 : decode cX7_load 65 = .ok (.aload 4, 2) := by decide +kernel
theorem dX7_load_67 : decode cX7_load 67 = .ok (.getfield 73, 3) := by decide +kernel
theorem dX7_load_70 : decode cX7_load 70 = .ok (.ireturn, 1) := by decide +kernel
set_option maxRecDepth 20000 in
theorem ggX7_take_X7_isBar : GoodIn wsX7_take wsX7_isBar := goodIn_r _ [7, 8, 9, 6, 10] (by decide +kernel) (by decide +kernel)
set_option maxRecDepth 20000 in
theorem gX7_take_X7_isBar : GoodIn wsX7_take (va_wsS RX7 45 yX7_isBar wsX7_isBar) := goodIn_app (goodIn_of _ (by decide +kernel)) ggX7_take_X7_isBar
set_option maxRecDepth 20000 in
theorem ggX7_take_X7_within : GoodIn wsX7_take wsX7_within := goodIn_r _ [10] (by decide +kernel) (by decide +kernel)
set_option maxRecDepth 20000 in
theorem gX7_take_X7_within : GoodIn wsX7_take (va_wsS RX7 49 yX7_within wsX7_within) := goodIn_app (goodIn_of _ (by decide +kernel)) ggX7_take_X7_within
set_option maxRecDepth 20000 in
theorem ggX7_take_X0_pileOf : GoodIn wsX7_take wsX0_pileOf := goodIn_r _ [15, 16, 17, 37, 38, 39] (by decide +kernel) (by decide +kernel)
set_option maxRecDepth 20000 in
theorem gX7_take_X0_pileOf : GoodIn wsX7_take (wsV RX7 69 RX0 yX0_pileOf wsX0_pileOf) := goodIn_app (goodIn_of _ (by decide +kernel)) ggX7_take_X0_pileOf
set_option maxRecDepth 20000 in
theorem ggX7_take_X5_remove : GoodIn wsX7_take wsX5_remove := goodIn_r _ [22, 23, 24, 35, 36] (by decide +kernel) (by decide +kernel)
set_option maxRecDepth 20000 in
theorem gX7_take_X5_remove : GoodIn wsX7_take (wsV RX7 82 RX5 yX5_remove wsX5_remove) := goodIn_app (goodIn_of _ (by decide +kernel)) ggX7_take_X5_remove
theorem dX7_take_0 : decode cX7_take 0 = .ok (.iload_n 1, 1) := by decide +kernel
theorem dX7_take_1 : decode cX7_take 1 = .ok (.invokestatic 45, 3) := by decide +kernel
theorem dX7_take_4 : decode cX7_take 4 = .ok (.ifCond .ne 5, 3) := by decide +kernel
theorem dX7_take_7 : decode cX7_take 7 = .ok (.iconst (-1), 1) := by decide +kernel
theorem dX7_take_8 : decode cX7_take 8 = .ok (.ireturn, 1) := by decide +kernel
theorem dX7_take_9 : decode cX7_take 9 = .ok (.iload_n 2, 1) := by decide +kernel
theorem dX7_take_10 : decode cX7_take 10 = .ok (.iconst 0, 1) := by decide +kernel
theorem dX7_take_11 : decode cX7_take 11 = .ok (.iconst 1, 1) := by decide +kernel
theorem dX7_take_12 : decode cX7_take 12 = .ok (.invokestatic 49, 3) := by decide +kernel
theorem dX7_take_15 : decode cX7_take 15 = .ok (.ifCond .ne 6, 3) := by decide +kernel
theorem dX7_take_18 : decode cX7_take 18 = .ok (.bipush (-2), 2) := by decide +kernel
theorem dX7_take_20 : decode cX7_take 20 = .ok (.ireturn, 1) := by decide +kernel
theorem dX7_take_21 : decode cX7_take 21 = .ok (.aload_n 0, 1) := by decide +kernel
theorem dX7_take_22 : decode cX7_take 22 = .ok (.getfield 12, 3) := by decide +kernel
theorem dX7_take_25 : decode cX7_take 25 = .ok (.getfield 60, 3) := by decide +kernel
theorem dX7_take_28 : decode cX7_take 28 = .ok (.iload_n 1, 1) := by decide +kernel
theorem dX7_take_29 : decode cX7_take 29 = .ok (.aaload, 1) := by decide +kernel
theorem dX7_take_30 : decode cX7_take 30 = .ok (.iload_n 2, 1) := by decide +kernel
theorem dX7_take_31 : decode cX7_take 31 = .ok (.invokevirtual 69, 3) := by decide +kernel
theorem dX7_take_34 : decode cX7_take 34 = .ok (.astore 4, 2) := by decide +kernel
theorem dX7_take_36 : decode cX7_take 36 = .ok (.iload_n 3, 1) := by decide +kernel
theorem dX7_take_37 : decode cX7_take 37 = .ok (.iconst 0, 1) := by decide +kernel
theorem dX7_take_38 : decode cX7_take 38 = .ok (.aload 4, 2) := by decide +kernel
theorem dX7_take_40 : decode cX7_take 40 = .ok (.getfield 73, 3) := by decide +kernel
theorem dX7_take_43 : decode cX7_take 43 = .ok (.iconst 1, 1) := by decide +kernel
theorem dX7_take_44 : decode cX7_take 44 = .ok (.isub, 1) := by decide +kernel
theorem dX7_take_45 : decode cX7_take 45 = .ok (.invokestatic 49, 3) := by decide +kernel
theorem dX7_take_48 : decode cX7_take 48 = .ok (.ifCond .ne 6, 3) := by decide +kernel
theorem dX7_take_51 : decode cX7_take 51 = .ok (.bipush (-5), 2) := by decide +kernel
theorem dX7_take_53 : decode cX7_take 53 = .ok (.ireturn, 1) := by decide +kernel
theorem dX7_take_54 : decode cX7_take 54 = .ok (.aload 4, 2) := by decide +kernel
theorem dX7_take_56 : decode cX7_take 56 = .ok (.iload_n 3, 1) := by decide +kernel
theorem dX7_take_57 : decode cX7_take 57 = .ok (.invokevirtual 82, 3) := by decide +kernel
theorem dX7_take_60 : decode cX7_take 60 = .ok (.ireturn, 1) := by decide +kernel
set_option maxRecDepth 20000 in
theorem ggX7_bar_X7_isBar : GoodIn wsX7_bar wsX7_isBar := goodIn_r _ [11, 12, 13, 10, 14] (by decide +kernel) (by decide +kernel)
set_option maxRecDepth 20000 in
theorem gX7_bar_X7_isBar : GoodIn wsX7_bar (va_wsS RX7 45 yX7_isBar wsX7_isBar) := goodIn_app (goodIn_of _ (by decide +kernel)) ggX7_bar_X7_isBar
set_option maxRecDepth 20000 in
theorem ggX7_bar_X7_within : GoodIn wsX7_bar wsX7_within := goodIn_r _ [14] (by decide +kernel) (by decide +kernel)
set_option maxRecDepth 20000 in
theorem gX7_bar_X7_within : GoodIn wsX7_bar (va_wsS RX7 49 yX7_within wsX7_within) := goodIn_app (goodIn_of _ (by decide +kernel)) ggX7_bar_X7_within
set_option maxRecDepth 20000 in
theorem ggX7_bar_X5_weightOf : GoodIn wsX7_bar wsX5_weightOf := goodIn_r _ [19, 20, 21, 59, 60] (by decide +kernel) (by decide +kernel)
set_option maxRecDepth 20000 in
theorem gX7_bar_X5_weightOf : GoodIn wsX7_bar (wsV RX7 90 RX5 yX5_weightOf wsX5_weightOf) := goodIn_app (goodIn_of _ (by decide +kernel)) ggX7_bar_X5_weightOf
set_option maxRecDepth 20000 in
theorem ggX7_bar_X5_total : GoodIn wsX7_bar wsX5_total := goodIn_r _ [25, 20, 21, 59, 60] (by decide +kernel) (by decide +kernel)
set_option maxRecDepth 20000 in
theorem gX7_bar_X5_total : GoodIn wsX7_bar (wsV RX7 96 RX5 yX5_total wsX5_total) := goodIn_app (goodIn_of _ (by decide +kernel)) ggX7_bar_X5_total
set_option maxRecDepth 20000 in
theorem ggX7_bar_X0_isEven : GoodIn wsX7_bar wsX0_isEven := goodIn_r _ [30, 31, 32, 33, 34, 35, 36, 37, 23, 24, 18, 25, 20, 21, 56, 57, 58, 59, 60] (by decide +kernel) (by decide +kernel)
set_option maxRecDepth 20000 in
theorem gX7_bar_X0_isEven : GoodIn wsX7_bar (wsV RX7 100 RX0 yX0_isEven wsX0_isEven) := goodIn_app (goodIn_of _ (by decide +kernel)) ggX7_bar_X0_isEven
set_option maxRecDepth 20000 in
theorem ggX7_bar_X6_movesOf : GoodIn wsX7_bar wsX6_movesOf := goodIn_r _ [42, 43, 44, 45, 52, 53, 54, 55, 61, 62, 63, 64] (by decide +kernel) (by decide +kernel)
set_option maxRecDepth 20000 in
theorem gX7_bar_X6_movesOf : GoodIn wsX7_bar (wsV RX7 103 RX6 yX6_movesOf wsX6_movesOf) := goodIn_app (goodIn_of _ (by decide +kernel)) ggX7_bar_X6_movesOf
theorem dX7_bar_0 : decode cX7_bar 0 = .ok (.iload_n 1, 1) := by decide +kernel
theorem dX7_bar_1 : decode cX7_bar 1 = .ok (.invokestatic 45, 3) := by decide +kernel
theorem dX7_bar_4 : decode cX7_bar 4 = .ok (.ifCond .ne 5, 3) := by decide +kernel
theorem dX7_bar_7 : decode cX7_bar 7 = .ok (.iconst (-1), 1) := by decide +kernel
theorem dX7_bar_8 : decode cX7_bar 8 = .ok (.ireturn, 1) := by decide +kernel
theorem dX7_bar_9 : decode cX7_bar 9 = .ok (.aload_n 0, 1) := by decide +kernel
theorem dX7_bar_10 : decode cX7_bar 10 = .ok (.getfield 12, 3) := by decide +kernel
theorem dX7_bar_13 : decode cX7_bar 13 = .ok (.getfield 60, 3) := by decide +kernel
theorem dX7_bar_16 : decode cX7_bar 16 = .ok (.iload_n 1, 1) := by decide +kernel
theorem dX7_bar_17 : decode cX7_bar 17 = .ok (.aaload, 1) := by decide +kernel
theorem dX7_bar_18 : decode cX7_bar 18 = .ok (.astore_n 3, 1) := by decide +kernel
theorem dX7_bar_19 : decode cX7_bar 19 = .ok (.iload_n 2, 1) := by decide +kernel
theorem dX7_bar_20 : decode cX7_bar 20 = .ok (.bipush 10, 2) := by decide +kernel
theorem dX7_bar_22 : decode cX7_bar 22 = .ok (.bipush 15, 2) := by decide +kernel
theorem dX7_bar_24 : decode cX7_bar 24 = .ok (.invokestatic 49, 3) := by decide +kernel
theorem dX7_bar_27 : decode cX7_bar 27 = .ok (.ifCond .eq 15, 3) := by decide +kernel
theorem dX7_bar_30 : decode cX7_bar 30 = .ok (.aload_n 3, 1) := by decide +kernel
theorem dX7_bar_31 : decode cX7_bar 31 = .ok (.getfield 86, 3) := by decide +kernel
theorem dX7_bar_34 : decode cX7_bar 34 = .ok (.iload_n 2, 1) := by decide +kernel
theorem dX7_bar_35 : decode cX7_bar 35 = .ok (.bipush 10, 2) := by decide +kernel
theorem dX7_bar_37 : decode cX7_bar 37 = .ok (.isub, 1) := by decide +kernel
theorem dX7_bar_38 : decode cX7_bar 38 = .ok (.invokevirtual 90, 3) := by decide +kernel
theorem dX7_bar_41 : decode cX7_bar 41 = .ok (.ireturn, 1) := by decide +kernel
theorem dX7_bar_42 : decode cX7_bar 42 = .ok (.iload_n 2, 1) := by decide +kernel
theorem dX7_bar_43 : decode cX7_bar 43 = .ok (.bipush 20, 2) := by decide +kernel
theorem dX7_bar_45 : decode cX7_bar 45 = .ok (.bipush 25, 2) := by decide +kernel
theorem dX7_bar_47 : decode cX7_bar 47 = .ok (.invokestatic 49, 3) := by decide +kernel
theorem dX7_bar_50 : decode cX7_bar 50 = .ok (.ifCond .eq 15, 3) := by decide +kernel
theorem dX7_bar_53 : decode cX7_bar 53 = .ok (.aload_n 3, 1) := by decide +kernel
theorem dX7_bar_54 : decode cX7_bar 54 = .ok (.getfield 93, 3) := by decide +kernel
theorem dX7_bar_57 : decode cX7_bar 57 = .ok (.iload_n 2, 1) := by decide +kernel
theorem dX7_bar_58 : decode cX7_bar 58 = .ok (.bipush 20, 2) := by decide +kernel
theorem dX7_bar_60 : decode cX7_bar 60 = .ok (.isub, 1) := by decide +kernel
theorem dX7_bar_61 : decode cX7_bar 61 = .ok (.invokevirtual 90, 3) := by decide +kernel
theorem dX7_bar_64 : decode cX7_bar 64 = .ok (.ireturn, 1) := by decide +kernel
theorem dX7_bar_65 : decode cX7_bar 65 = .ok (.iload_n 2, 1) := by decide +kernel
theorem dX7_bar_66 : decode cX7_bar 66 = .ok (.tableswitch 132 0 8 #[50, 57, 64, 71, 79, 87, 95, 103, 123], 50) := by decide +kernel
theorem dX7_bar_116 : decode cX7_bar 116 = .ok (.aload_n 3, 1) := by decide +kernel
theorem dX7_bar_117 : decode cX7_bar 117 = .ok (.getfield 64, 3) := by decide +kernel
theorem dX7_bar_120 : decode cX7_bar 120 = .ok (.iconst 0, 1) := by decide +kernel
theorem dX7_bar_121 : decode cX7_bar 121 = .ok (.iaload, 1) := by decide +kernel
theorem dX7_bar_122 : decode cX7_bar 122 = .ok (.ireturn, 1) := by decide +kernel
theorem dX7_bar_123 : decode cX7_bar 123 = .ok (.aload_n 3, 1) := by decide +kernel
theorem dX7_bar_124 : decode cX7_bar 124 = .ok (.getfield 64, 3) := by decide +kernel
theorem dX7_bar_127 : decode cX7_bar 127 = .ok (.iconst 1, 1) := by decide +kernel
theorem dX7_bar_128 : decode cX7_bar 128 = .ok (.iaload, 1) := by decide +kernel
theorem dX7_bar_129 : decode cX7_bar 129 = .ok (.ireturn, 1) := by decide +kernel
theorem dX7_bar_130 : decode cX7_bar 130 = .ok (.aload_n 3, 1) := by decide +kernel
theorem dX7_bar_131 : decode cX7_bar 131 = .ok (.getfield 64, 3) := by decide +kernel
theorem dX7_bar_134 : decode cX7_bar 134 = .ok (.iconst 2, 1) := by decide +kernel
theorem dX7_bar_135 : decode cX7_bar 135 = .ok (.iaload, 1) := by decide +kernel
theorem dX7_bar_136 : decode cX7_bar 136 = .ok (.ireturn, 1) := by decide +kernel
theorem dX7_bar_137 : decode cX7_bar 137 = .ok (.aload_n 3, 1) := by decide +kernel
theorem dX7_bar_138 : decode cX7_bar 138 = .ok (.getfield 86, 3) := by decide +kernel
theorem dX7_bar_141 : decode cX7_bar 141 = .ok (.getfield 73, 3) := by decide +kernel
theorem dX7_bar_144 : decode cX7_bar 144 = .ok (.ireturn, 1) := by decide +kernel
theorem dX7_bar_145 : decode cX7_bar 145 = .ok (.aload_n 3, 1) := by decide +kernel
theorem dX7_bar_146 : decode cX7_bar 146 = .ok (.getfield 93, 3) := by decide +kernel
theorem dX7_bar_149 : decode cX7_bar 149 = .ok (.getfield 73, 3) := by decide +kernel
theorem dX7_bar_152 : decode cX7_bar 152 = .ok (.ireturn, 1) := by decide +kernel
theorem dX7_bar_153 : decode cX7_bar 153 = .ok (.aload_n 3, 1) := by decide +kernel
theorem dX7_bar_154 : decode cX7_bar 154 = .ok (.getfield 86, 3) := by decide +kernel
theorem dX7_bar_157 : decode cX7_bar 157 = .ok (.invokevirtual 96, 3) := by decide +kernel
theorem dX7_bar_160 : decode cX7_bar 160 = .ok (.ireturn, 1) := by decide +kernel
theorem dX7_bar_161 : decode cX7_bar 161 = .ok (.aload_n 3, 1) := by decide +kernel
theorem dX7_bar_162 : decode cX7_bar 162 = .ok (.getfield 93, 3) := by decide +kernel
theorem dX7_bar_165 : decode cX7_bar 165 = .ok (.invokevirtual 96, 3) := by decide +kernel
theorem dX7_bar_168 : decode cX7_bar 168 = .ok (.ireturn, 1) := by decide +kernel
theorem dX7_bar_169 : decode cX7_bar 169 = .ok (.aload_n 3, 1) := by decide +kernel
theorem dX7_bar_170 : decode cX7_bar 170 = .ok (.aload_n 0, 1) := by decide +kernel
theorem dX7_bar_171 : decode cX7_bar 171 = .ok (.getfield 12, 3) := by decide +kernel
theorem dX7_bar_174 : decode cX7_bar 174 = .ok (.getfield 57, 3) := by decide +kernel
theorem dX7_bar_177 : decode cX7_bar 177 = .ok (.invokevirtual 100, 3) := by decide +kernel
theorem dX7_bar_180 : decode cX7_bar 180 = .ok (.ifCond .eq 7, 3) := by decide +kernel
theorem dX7_bar_183 : decode cX7_bar 183 = .ok (.iconst 1, 1) := by decide +kernel
theorem dX7_bar_184 : decode cX7_bar 184 = .ok (.goto 4, 3) := by decide +kernel
theorem dX7_bar_187 : decode cX7_bar 187 = .ok (.iconst 0, 1) := by decide +kernel
theorem dX7_bar_188 : decode cX7_bar 188 = .ok (.ireturn, 1) := by decide +kernel
theorem dX7_bar_189 : decode cX7_bar 189 = .ok (.aload_n 0, 1) := by decide +kernel
theorem dX7_bar_190 : decode cX7_bar 190 = .ok (.getfield 12, 3) := by decide +kernel
theorem dX7_bar_193 : decode cX7_bar 193 = .ok (.iload_n 1, 1) := by decide +kernel
theorem dX7_bar_194 : decode cX7_bar 194 = .ok (.invokevirtual 103, 3) := by decide +kernel
theorem dX7_bar_197 : decode cX7_bar 197 = .ok (.ireturn, 1) := by decide +kernel
theorem dX7_bar_198 : decode cX7_bar 198 = .ok (.bipush (-2), 2) := by decide +kernel
theorem dX7_bar_200 : decode cX7_bar 200 = .ok (.ireturn, 1) := by decide +kernel
set_option maxRecDepth 20000 in
theorem ggX7_loading_X7_isBar : GoodIn wsX7_loading wsX7_isBar := goodIn_r _ [8, 9, 10, 7, 11] (by decide +kernel) (by decide +kernel)
set_option maxRecDepth 20000 in
theorem gX7_loading_X7_isBar : GoodIn wsX7_loading (va_wsS RX7 45 yX7_isBar wsX7_isBar) := goodIn_app (goodIn_of _ (by decide +kernel)) ggX7_loading_X7_isBar
set_option maxRecDepth 20000 in
theorem ggX7_loading_X3_reckon : GoodIn wsX7_loading wsX3_reckon := goodIn_r _ [16, 17, 18, 19, 20, 21, 22, 23, 24, 25, 26, 27, 28, 29, 30, 15, 31, 32, 33, 34, 35, 36, 37, 38, 39, 67, 68, 69, 70, 71, 72, 73, 74, 75, 76] (by decide +kernel) (by decide +kernel)
set_option maxRecDepth 20000 in
theorem gX7_loading_X3_reckon : GoodIn wsX7_loading (wsV RX7 106 RX3 yX3_reckon wsX3_reckon) := goodIn_app (goodIn_of _ (by decide +kernel)) ggX7_loading_X3_reckon
set_option maxRecDepth 20000 in
theorem ggX7_loading_X3_allOrders : GoodIn wsX7_loading wsX3_allOrders := goodIn_r _ [43, 28, 72, 73, 74, 75, 76] (by decide +kernel) (by decide +kernel)
set_option maxRecDepth 20000 in
theorem gX7_loading_X3_allOrders : GoodIn wsX7_loading (wsV RX7 110 RX3 yX3_allOrders wsX3_allOrders) := goodIn_app (goodIn_of _ (by decide +kernel)) ggX7_loading_X3_allOrders
set_option maxRecDepth 20000 in
theorem ggX7_loading_X3_things : GoodIn wsX7_loading wsX3_things := goodIn_r _ [47, 19, 21, 72, 73, 74, 75, 76] (by decide +kernel) (by decide +kernel)
set_option maxRecDepth 20000 in
theorem gX7_loading_X3_things : GoodIn wsX7_loading (wsV RX7 113 RX3 yX3_things wsX3_things) := goodIn_app (goodIn_of _ (by decide +kernel)) ggX7_loading_X3_things
set_option maxRecDepth 20000 in
theorem ggX7_loading_X3_placed : GoodIn wsX7_loading wsX3_placed := goodIn_r _ [51, 52, 45, 46, 15, 47, 19, 21, 53, 54, 55, 56, 28, 33, 34, 35, 72, 73, 74, 75, 76] (by decide +kernel) (by decide +kernel)
set_option maxRecDepth 20000 in
theorem gX7_loading_X3_placed : GoodIn wsX7_loading (wsV RX7 116 RX3 yX3_placed wsX3_placed) := goodIn_app (goodIn_of _ (by decide +kernel)) ggX7_loading_X3_placed
theorem dX7_loading_0 : decode cX7_loading 0 = .ok (.iload_n 1, 1) := by decide +kernel
theorem dX7_loading_1 : decode cX7_loading 1 = .ok (.invokestatic 45, 3) := by decide +kernel
theorem dX7_loading_4 : decode cX7_loading 4 = .ok (.ifCond .ne 5, 3) := by decide +kernel
theorem dX7_loading_7 : decode cX7_loading 7 = .ok (.iconst (-1), 1) := by decide +kernel
theorem dX7_loading_8 : decode cX7_loading 8 = .ok (.ireturn, 1) := by decide +kernel
theorem dX7_loading_9 : decode cX7_loading 9 = .ok (.iload_n 2, 1) := by decide +kernel
theorem dX7_loading_10 : decode cX7_loading 10 = .ok (.iconst (-1), 1) := by decide +kernel
theorem dX7_loading_11 : decode cX7_loading 11 = .ok (.if_icmp .ge 6, 3) := by decide +kernel
theorem dX7_loading_14 : decode cX7_loading 14 = .ok (.bipush (-2), 2) := by decide +kernel
theorem dX7_loading_16 : decode cX7_loading 16 = .ok (.ireturn, 1) := by decide +kernel
theorem dX7_loading_17 : decode cX7_loading 17 = .ok (.aload_n 0, 1) := by decide +kernel
theorem dX7_loading_18 : decode cX7_loading 18 = .ok (.getfield 27, 3) := by decide +kernel
theorem dX7_loading_21 : decode cX7_loading 21 = .ok (.aload_n 0, 1) := by decide +kernel
theorem dX7_loading_22 : decode cX7_loading 22 = .ok (.getfield 12, 3) := by decide +kernel
theorem dX7_loading_25 : decode cX7_loading 25 = .ok (.getfield 60, 3) := by decide +kernel
theorem dX7_loading_28 : decode cX7_loading 28 = .ok (.iload_n 1, 1) := by decide +kernel
theorem dX7_loading_29 : decode cX7_loading 29 = .ok (.aaload, 1) := by decide +kernel
theorem dX7_loading_30 : decode cX7_loading 30 = .ok (.aload_n 0, 1) := by decide +kernel
theorem dX7_loading_31 : decode cX7_loading 31 = .ok (.getfield 12, 3) := by decide +kernel
theorem dX7_loading_34 : decode cX7_loading 34 = .ok (.getfield 57, 3) := by decide +kernel
theorem dX7_loading_37 : decode cX7_loading 37 = .ok (.invokevirtual 106, 3) := by decide +kernel
theorem dX7_loading_40 : decode cX7_loading 40 = .ok (.aload_n 0, 1) := by decide +kernel
theorem dX7_loading_41 : decode cX7_loading 41 = .ok (.getfield 27, 3) := by decide +kernel
theorem dX7_loading_44 : decode cX7_loading 44 = .ok (.invokevirtual 110, 3) := by decide +kernel
theorem dX7_loading_47 : decode cX7_loading 47 = .ok (.ifCond .ne 6, 3) := by decide +kernel
theorem dX7_loading_50 : decode cX7_loading 50 = .ok (.bipush (-6), 2) := by decide +kernel
theorem dX7_loading_52 : decode cX7_loading 52 = .ok (.ireturn, 1) := by decide +kernel
theorem dX7_loading_53 : decode cX7_loading 53 = .ok (.iload_n 2, 1) := by decide +kernel
theorem dX7_loading_54 : decode cX7_loading 54 = .ok (.iconst (-1), 1) := by decide +kernel
theorem dX7_loading_55 : decode cX7_loading 55 = .ok (.if_icmp .ne 13, 3) := by decide +kernel
theorem dX7_loading_58 : decode cX7_loading 58 = .ok (.aload_n 0, 1) := by decide +kernel
theorem dX7_loading_59 : decode cX7_loading 59 = .ok (.getfield 27, 3) := by decide +kernel
theorem dX7_loading_62 : decode cX7_loading 62 = .ok (.invokevirtual 113, 3) := by decide +kernel
theorem dX7_loading_65 : decode cX7_loading 65 = .ok (.goto 11, 3) := by decide +kernel
theorem dX7_loading_68 : decode cX7_loading 68 = .ok (.aload_n 0, 1) := by decide +kernel
theorem dX7_loading_69 : decode cX7_loading 69 = .ok (.getfield 27, 3) := by decide +kernel
theorem dX7_loading_72 : decode cX7_loading 72 = .ok (.iload_n 2, 1) := by decide +kernel
theorem dX7_loading_73 : decode cX7_loading 73 = .ok (.invokevirtual 116, 3) := by decide +kernel
theorem dX7_loading_76 : decode cX7_loading 76 = .ok (.ireturn, 1) := by decide +kernel
set_option maxRecDepth 20000 in
theorem ggX7_loadings_X7_isBar : GoodIn wsX7_loadings wsX7_isBar := goodIn_r _ [8, 9, 10, 7, 11] (by decide +kernel) (by decide +kernel)
set_option maxRecDepth 20000 in
theorem gX7_loadings_X7_isBar : GoodIn wsX7_loadings (va_wsS RX7 45 yX7_isBar wsX7_isBar) := goodIn_app (goodIn_of _ (by decide +kernel)) ggX7_loadings_X7_isBar
set_option maxRecDepth 20000 in
theorem ggX7_loadings_X3_reckon : GoodIn wsX7_loadings wsX3_reckon := goodIn_r _ [16, 17, 18, 19, 20, 21, 22, 23, 24, 25, 26, 27, 28, 29, 30, 15, 31, 32, 33, 34, 35, 36, 37, 38, 39, 54, 55, 56, 57, 58, 59, 60, 61, 62, 63] (by decide +kernel) (by decide +kernel)
set_option maxRecDepth 20000 in
theorem gX7_loadings_X3_reckon : GoodIn wsX7_loadings (wsV RX7 106 RX3 yX3_reckon wsX3_reckon) := goodIn_app (goodIn_of _ (by decide +kernel)) ggX7_loadings_X3_reckon
set_option maxRecDepth 20000 in
theorem ggX7_loadings_X3_allOrders : GoodIn wsX7_loadings wsX3_allOrders := goodIn_r _ [43, 28, 59, 60, 61, 62, 63] (by decide +kernel) (by decide +kernel)
set_option maxRecDepth 20000 in
theorem gX7_loadings_X3_allOrders : GoodIn wsX7_loadings (wsV RX7 110 RX3 yX3_allOrders wsX3_allOrders) := goodIn_app (goodIn_of _ (by decide +kernel)) ggX7_loadings_X3_allOrders
theorem dX7_loadings_0 : decode cX7_loadings 0 = .ok (.iload_n 1, 1) := by decide +kernel
theorem dX7_loadings_1 : decode cX7_loadings 1 = .ok (.invokestatic 45, 3) := by decide +kernel
theorem dX7_loadings_4 : decode cX7_loadings 4 = .ok (.ifCond .ne 5, 3) := by decide +kernel
theorem dX7_loadings_7 : decode cX7_loadings 7 = .ok (.iconst (-1), 1) := by decide +kernel
theorem dX7_loadings_8 : decode cX7_loadings 8 = .ok (.ireturn, 1) := by decide +kernel
theorem dX7_loadings_9 : decode cX7_loadings 9 = .ok (.aload_n 0, 1) := by decide +kernel
theorem dX7_loadings_10 : decode cX7_loadings 10 = .ok (.getfield 27, 3) := by decide +kernel
theorem dX7_loadings_13 : decode cX7_loadings 13 = .ok (.aload_n 0, 1) := by decide +kernel
theorem dX7_loadings_14 : decode cX7_loadings 14 = .ok (.getfield 12, 3) := by decide +kernel
theorem dX7_loadings_17 : decode cX7_loadings 17 = .ok (.getfield 60, 3) := by decide +kernel
theorem dX7_loadings_20 : decode cX7_loadings 20 = .ok (.iload_n 1, 1) := by decide +kernel
theorem dX7_loadings_21 : decode cX7_loadings 21 = .ok (.aaload, 1) := by decide +kernel
theorem dX7_loadings_22 : decode cX7_loadings 22 = .ok (.aload_n 0, 1) := by decide +kernel
theorem dX7_loadings_23 : decode cX7_loadings 23 = .ok (.getfield 12, 3) := by decide +kernel
theorem dX7_loadings_26 : decode cX7_loadings 26 = .ok (.getfield 57, 3) := by decide +kernel
theorem dX7_loadings_29 : decode cX7_loadings 29 = .ok (.invokevirtual 106, 3) := by decide +kernel
theorem dX7_loadings_32 : decode cX7_loadings 32 = .ok (.aload_n 0, 1) := by decide +kernel
theorem dX7_loadings_33 : decode cX7_loadings 33 = .ok (.getfield 27, 3) := by decide +kernel
theorem dX7_loadings_36 : decode cX7_loadings 36 = .ok (.invokevirtual 110, 3) := by decide +kernel
theorem dX7_loadings_39 : decode cX7_loadings 39 = .ok (.ireturn, 1) := by decide +kernel
set_option maxRecDepth 20000 in
theorem ggX7_move_X7_isBar : GoodIn wsX7_move wsX7_isBar := goodIn_r _ [6, 7, 8, 5, 9] (by decide +kernel) (by decide +kernel)
set_option maxRecDepth 20000 in
theorem gX7_move_X7_isBar : GoodIn wsX7_move (va_wsS RX7 45 yX7_isBar wsX7_isBar) := goodIn_app (goodIn_of _ (by decide +kernel)) ggX7_move_X7_isBar
set_option maxRecDepth 20000 in
theorem ggX7_move_X7_within : GoodIn wsX7_move wsX7_within := goodIn_r _ [9] (by decide +kernel) (by decide +kernel)
set_option maxRecDepth 20000 in
theorem gX7_move_X7_within : GoodIn wsX7_move (va_wsS RX7 49 yX7_within wsX7_within) := goodIn_app (goodIn_of _ (by decide +kernel)) ggX7_move_X7_within
set_option maxRecDepth 20000 in
theorem ggX7_move_X6_moveAt : GoodIn wsX7_move wsX6_moveAt := goodIn_r _ [14, 15, 16, 17, 18, 19, 13, 20, 21, 22, 35, 36, 37, 38, 39, 40, 41, 42] (by decide +kernel) (by decide +kernel)
set_option maxRecDepth 20000 in
theorem gX7_move_X6_moveAt : GoodIn wsX7_move (wsV RX7 119 RX6 yX6_moveAt wsX6_moveAt) := goodIn_app (goodIn_of _ (by decide +kernel)) ggX7_move_X6_moveAt
set_option maxRecDepth 20000 in
theorem ggX7_move_X6_addMove : GoodIn wsX7_move wsX6_addMove := goodIn_r _ [26, 15, 21, 22, 16, 27, 28, 35, 36, 37, 38, 39, 40, 41, 42] (by decide +kernel) (by decide +kernel)
set_option maxRecDepth 20000 in
theorem gX7_move_X6_addMove : GoodIn wsX7_move (wsV RX7 126 RX6 yX6_addMove wsX6_addMove) := goodIn_app (goodIn_of _ (by decide +kernel)) ggX7_move_X6_addMove
theorem dX7_move_0 : decode cX7_move 0 = .ok (.iload_n 1, 1) := by decide +kernel
theorem dX7_move_1 : decode cX7_move 1 = .ok (.invokestatic 45, 3) := by decide +kernel
theorem dX7_move_4 : decode cX7_move 4 = .ok (.ifCond .ne 5, 3) := by decide +kernel
theorem dX7_move_7 : decode cX7_move 7 = .ok (.iconst (-1), 1) := by decide +kernel
theorem dX7_move_8 : decode cX7_move 8 = .ok (.ireturn, 1) := by decide +kernel
theorem dX7_move_9 : decode cX7_move 9 = .ok (.iload_n 2, 1) := by decide +kernel
theorem dX7_move_10 : decode cX7_move 10 = .ok (.iconst 0, 1) := by decide +kernel
theorem dX7_move_11 : decode cX7_move 11 = .ok (.sipush 200, 3) := by decide +kernel
theorem dX7_move_14 : decode cX7_move 14 = .ok (.invokestatic 49, 3) := by decide +kernel
theorem dX7_move_17 : decode cX7_move 17 = .ok (.ifCond .eq 23, 3) := by decide +kernel
theorem dX7_move_20 : decode cX7_move 20 = .ok (.iload_n 3, 1) := by decide +kernel
theorem dX7_move_21 : decode cX7_move 21 = .ok (.iconst 0, 1) := by decide +kernel
theorem dX7_move_22 : decode cX7_move 22 = .ok (.bipush 60, 2) := by decide +kernel
theorem dX7_move_24 : decode cX7_move 24 = .ok (.invokestatic 49, 3) := by decide +kernel
theorem dX7_move_27 : decode cX7_move 27 = .ok (.ifCond .eq 13, 3) := by decide +kernel
theorem dX7_move_30 : decode cX7_move 30 = .ok (.iload 4, 2) := by decide +kernel
theorem dX7_move_32 : decode cX7_move 32 = .ok (.iconst 1, 1) := by decide +kernel
theorem dX7_move_33 : decode cX7_move 33 = .ok (.iconst 5, 1) := by decide +kernel
theorem dX7_move_34 : decode cX7_move 34 = .ok (.invokestatic 49, 3) := by decide +kernel
theorem dX7_move_37 : decode cX7_move 37 = .ok (.ifCond .ne 6, 3) := by decide +kernel
theorem dX7_move_40 : decode cX7_move 40 = .ok (.bipush (-2), 2) := by decide +kernel
theorem dX7_move_42 : decode cX7_move 42 = .ok (.ireturn, 1) := by decide +kernel
theorem dX7_move_43 : decode cX7_move 43 = .ok (.aload_n 0, 1) := by decide +kernel
theorem dX7_move_44 : decode cX7_move 44 = .ok (.getfield 12, 3) := by decide +kernel
theorem dX7_move_47 : decode cX7_move 47 = .ok (.iload_n 1, 1) := by decide +kernel
theorem dX7_move_48 : decode cX7_move 48 = .ok (.iload_n 2, 1) := by decide +kernel
theorem dX7_move_49 : decode cX7_move 49 = .ok (.invokevirtual 119, 3) := by decide +kernel
theorem dX7_move_52 : decode cX7_move 52 = .ok (.ifCond .lt 6, 3) := by decide +kernel
theorem dX7_move_55 : decode cX7_move 55 = .ok (.bipush (-5), 2) := by decide +kernel
theorem dX7_move_57 : decode cX7_move 57 = .ok (.ireturn, 1) := by decide +kernel
theorem dX7_move_58 : decode cX7_move 58 = .ok (.aload_n 0, 1) := by decide +kernel
theorem dX7_move_59 : decode cX7_move 59 = .ok (.getfield 12, 3) := by decide +kernel
theorem dX7_move_62 : decode cX7_move 62 = .ok (.getfield 123, 3) := by decide +kernel
theorem dX7_move_65 : decode cX7_move 65 = .ok (.bipush 10, 2) := by decide +kernel
theorem dX7_move_67 : decode cX7_move 67 = .ok (.if_icmp .lt 6, 3) := by decide +kernel
theorem dX7_move_70 : decode cX7_move 70 = .ok (.bipush (-4), 2) := by decide +kernel
theorem dX7_move_72 : decode cX7_move 72 = .ok (.ireturn, 1) := by decide +kernel
theorem dX7_move_73 : decode cX7_move 73 = .ok (.aload_n 0, 1) := by decide +kernel
theorem dX7_move_74 : decode cX7_move 74 = .ok (.getfield 12, 3) := by decide +kernel
theorem dX7_move_77 : decode cX7_move 77 = .ok (.iload_n 1, 1) := by decide +kernel
theorem dX7_move_78 : decode cX7_move 78 = .ok (.iload_n 2, 1) := by decide +kernel
theorem dX7_move_79 : decode cX7_move 79 = .ok (.iload_n 3, 1) := by decide +kernel
theorem dX7_move_80 : decode cX7_move 80 = .ok (.iload 4, 2) := by decide +kernel
theorem dX7_move_82 : decode cX7_move 82 = .ok (.invokevirtual 126, 3) := by decide +kernel
theorem dX7_move_85 : decode cX7_move 85 = .ok (.ireturn, 1) := by decide +kernel
set_option maxRecDepth 20000 in
theorem ggX7_drop_X7_isMove : GoodIn wsX7_drop wsX7_isMove := goodIn_r _ [7, 1, 2, 8, 9, 6, 10, 27, 28, 29, 30, 31, 32, 33, 34, 35, 36] (by decide +kernel) (by decide +kernel)
set_option maxRecDepth 20000 in
theorem gX7_drop_X7_isMove : GoodIn wsX7_drop (wsV RX7 130 RX7 yX7_isMove wsX7_isMove) := goodIn_app (goodIn_of _ (by decide +kernel)) ggX7_drop_X7_isMove
set_option maxRecDepth 20000 in
theorem ggX7_drop_X6_removeMove : GoodIn wsX7_drop wsX6_removeMove := goodIn_r _ [15, 16, 17, 18, 19, 20, 21, 22, 23, 24, 25, 26, 33, 34, 35, 36, 37, 38, 39, 40] (by decide +kernel) (by decide +kernel)
set_option maxRecDepth 20000 in
theorem gX7_drop_X6_removeMove : GoodIn wsX7_drop (wsV RX7 133 RX6 yX6_removeMove wsX6_removeMove) := goodIn_app (goodIn_of _ (by decide +kernel)) ggX7_drop_X6_removeMove
theorem dX7_drop_0 : decode cX7_drop 0 = .ok (.aload_n 0, 1) := by decide +kernel
theorem dX7_drop_1 : decode cX7_drop 1 = .ok (.iload_n 1, 1) := by decide +kernel
theorem dX7_drop_2 : decode cX7_drop 2 = .ok (.invokevirtual 130, 3) := by decide +kernel
theorem dX7_drop_5 : decode cX7_drop 5 = .ok (.ifCond .ne 5, 3) := by decide +kernel
theorem dX7_drop_8 : decode cX7_drop 8 = .ok (.iconst (-1), 1) := by decide +kernel
theorem dX7_drop_9 : decode cX7_drop 9 = .ok (.ireturn, 1) := by decide +kernel
theorem dX7_drop_10 : decode cX7_drop 10 = .ok (.aload_n 0, 1) := by decide +kernel
theorem dX7_drop_11 : decode cX7_drop 11 = .ok (.getfield 12, 3) := by decide +kernel
theorem dX7_drop_14 : decode cX7_drop 14 = .ok (.iload_n 1, 1) := by decide +kernel
theorem dX7_drop_15 : decode cX7_drop 15 = .ok (.invokevirtual 133, 3) := by decide +kernel
theorem dX7_drop_18 : decode cX7_drop 18 = .ok (.aload_n 0, 1) := by decide +kernel
theorem dX7_drop_19 : decode cX7_drop 19 = .ok (.getfield 12, 3) := by decide +kernel
theorem dX7_drop_22 : decode cX7_drop 22 = .ok (.getfield 123, 3) := by decide +kernel
theorem dX7_drop_25 : decode cX7_drop 25 = .ok (.ireturn, 1) := by decide +kernel
set_option maxRecDepth 20000 in
theorem ggX7_shift_X7_isMove : GoodIn wsX7_shift wsX7_isMove := goodIn_r _ [9, 1, 10, 11, 12, 8, 13, 27, 28, 29, 30, 31, 32, 33, 34, 35, 36] (by decide +kernel) (by decide +kernel)
set_option maxRecDepth 20000 in
theorem gX7_shift_X7_isMove : GoodIn wsX7_shift (wsV RX7 130 RX7 yX7_isMove wsX7_isMove) := goodIn_app (goodIn_of _ (by decide +kernel)) ggX7_shift_X7_isMove
set_option maxRecDepth 20000 in
theorem ggX7_shift_X7_within : GoodIn wsX7_shift wsX7_within := goodIn_r _ [13] (by decide +kernel) (by decide +kernel)
set_option maxRecDepth 20000 in
theorem gX7_shift_X7_within : GoodIn wsX7_shift (va_wsS RX7 49 yX7_within wsX7_within) := goodIn_app (goodIn_of _ (by decide +kernel)) ggX7_shift_X7_within
set_option maxRecDepth 20000 in
theorem ggX7_shift_X6_moveAt : GoodIn wsX7_shift wsX6_moveAt := goodIn_r _ [18, 19, 20, 21, 22, 23, 17, 24, 25, 26, 33, 34, 35, 36, 37, 38, 39, 40] (by decide +kernel) (by decide +kernel)
set_option maxRecDepth 20000 in
theorem gX7_shift_X6_moveAt : GoodIn wsX7_shift (wsV RX7 119 RX6 yX6_moveAt wsX6_moveAt) := goodIn_app (goodIn_of _ (by decide +kernel)) ggX7_shift_X6_moveAt
theorem dX7_shift_0 : decode cX7_shift 0 = .ok (.aload_n 0, 1) := by decide +kernel
theorem dX7_shift_1 : decode cX7_shift 1 = .ok (.iload_n 1, 1) := by decide +kernel
theorem dX7_shift_2 : decode cX7_shift 2 = .ok (.invokevirtual 130, 3) := by decide +kernel
theorem dX7_shift_5 : decode cX7_shift 5 = .ok (.ifCond .ne 5, 3) := by decide +kernel
theorem dX7_shift_8 : decode cX7_shift 8 = .ok (.iconst (-1), 1) := by decide +kernel
theorem dX7_shift_9 : decode cX7_shift 9 = .ok (.ireturn, 1) := by decide +kernel
theorem dX7_shift_10 : decode cX7_shift 10 = .ok (.aload_n 0, 1) := by decide +kernel
theorem dX7_shift_11 : decode cX7_shift 11 = .ok (.getfield 12, 3) := by decide +kernel
theorem dX7_shift_14 : decode cX7_shift 14 = .ok (.getfield 136, 3) := by decide +kernel
theorem dX7_shift_17 : decode cX7_shift 17 = .ok (.iload_n 1, 1) := by decide +kernel
theorem dX7_shift_18 : decode cX7_shift 18 = .ok (.aaload, 1) := by decide +kernel
theorem dX7_shift_19 : decode cX7_shift 19 = .ok (.astore_n 3, 1) := by decide +kernel
theorem dX7_shift_20 : decode cX7_shift 20 = .ok (.iload_n 2, 1) := by decide +kernel
theorem dX7_shift_21 : decode cX7_shift 21 = .ok (.aload_n 3, 1) := by decide +kernel
theorem dX7_shift_22 : decode cX7_shift 22 = .ok (.getfield 140, 3) := by decide +kernel
theorem dX7_shift_25 : decode cX7_shift 25 = .ok (.ineg, 1) := by decide +kernel
theorem dX7_shift_26 : decode cX7_shift 26 = .ok (.sipush 200, 3) := by decide +kernel
theorem dX7_shift_29 : decode cX7_shift 29 = .ok (.aload_n 3, 1) := by decide +kernel
theorem dX7_shift_30 : decode cX7_shift 30 = .ok (.getfield 140, 3) := by decide +kernel
theorem dX7_shift_33 : decode cX7_shift 33 = .ok (.isub, 1) := by decide +kernel
theorem dX7_shift_34 : decode cX7_shift 34 = .ok (.invokestatic 49, 3) := by decide +kernel
theorem dX7_shift_37 : decode cX7_shift 37 = .ok (.ifCond .ne 6, 3) := by decide +kernel
theorem dX7_shift_40 : decode cX7_shift 40 = .ok (.bipush (-2), 2) := by decide +kernel
theorem dX7_shift_42 : decode cX7_shift 42 = .ok (.ireturn, 1) := by decide +kernel
theorem dX7_shift_43 : decode cX7_shift 43 = .ok (.aload_n 3, 1) := by decide +kernel
theorem dX7_shift_44 : decode cX7_shift 44 = .ok (.getfield 140, 3) := by decide +kernel
theorem dX7_shift_47 : decode cX7_shift 47 = .ok (.iload_n 2, 1) := by decide +kernel
theorem dX7_shift_48 : decode cX7_shift 48 = .ok (.iadd, 1) := by decide +kernel
theorem dX7_shift_49 : decode cX7_shift 49 = .ok (.istore 4, 2) := by decide +kernel
theorem dX7_shift_51 : decode cX7_shift 51 = .ok (.aload_n 0, 1) := by decide +kernel
theorem dX7_shift_52 : decode cX7_shift 52 = .ok (.getfield 12, 3) := by decide +kernel
theorem dX7_shift_55 : decode cX7_shift 55 = .ok (.aload_n 3, 1) := by decide +kernel
theorem dX7_shift_56 : decode cX7_shift 56 = .ok (.getfield 145, 3) := by decide +kernel
theorem dX7_shift_59 : decode cX7_shift 59 = .ok (.iload 4, 2) := by decide +kernel
theorem dX7_shift_61 : decode cX7_shift 61 = .ok (.invokevirtual 119, 3) := by decide +kernel
theorem dX7_shift_64 : decode cX7_shift 64 = .ok (.istore 5, 2) := by decide +kernel
theorem dX7_shift_66 : decode cX7_shift 66 = .ok (.iload 5, 2) := by decide +kernel
theorem dX7_shift_68 : decode cX7_shift 68 = .ok (.ifCond .lt 12, 3) := by decide +kernel
theorem dX7_shift_71 : decode cX7_shift 71 = .ok (.iload 5, 2) := by decide +kernel
theorem dX7_shift_73 : decode cX7_shift 73 = .ok (.iload_n 1, 1) := by decide +kernel
theorem dX7_shift_74 : decode cX7_shift 74 = .ok (.if_icmp .eq 6, 3) := by decide +kernel
theorem dX7_shift_77 : decode cX7_shift 77 = .ok (.bipush (-5), 2) := by decide +kernel
theorem dX7_shift_79 : decode cX7_shift 79 = .ok (.ireturn, 1) := by decide +kernel
theorem dX7_shift_80 : decode cX7_shift 80 = .ok (.aload_n 3, 1) := by decide +kernel
theorem dX7_shift_81 : decode cX7_shift 81 = .ok (.iload 4, 2) := by decide +kernel
theorem dX7_shift_83 : decode cX7_shift 83 = .ok (.putfield 140, 3) := by decide +kernel
theorem dX7_shift_86 : decode cX7_shift 86 = .ok (.iload 4, 2) := by decide +kernel
theorem dX7_shift_88 : decode cX7_shift 88 = .ok (.ireturn, 1) := by decide +kernel
set_option maxRecDepth 20000 in
theorem ggX7_told_X7_isMove : GoodIn wsX7_told wsX7_isMove := goodIn_r _ [14, 1, 15, 16, 17, 13, 18, 120, 121, 122, 123, 124, 125, 126, 127, 128, 129] (by decide +kernel) (by decide +kernel)
set_option maxRecDepth 20000 in
theorem gX7_told_X7_isMove : GoodIn wsX7_told (wsV RX7 130 RX7 yX7_isMove wsX7_isMove) := goodIn_app (goodIn_of _ (by decide +kernel)) ggX7_told_X7_isMove
set_option maxRecDepth 20000 in
theorem ggX7_told_X7_flownBy : GoodIn wsX7_told wsX7_flownBy := goodIn_r _ [22, 1, 2, 8, 3, 23, 4, 5, 24, 25, 26, 27, 28, 29, 30, 31, 32, 33, 34, 35, 36, 37, 38, 39, 40, 41, 42, 43, 44, 45, 46, 47, 48, 49, 50, 51, 52, 53, 54, 55, 56, 57, 58, 59, 120, 121, 122, 123, 124, 125, 126, 127, 128, 129, 130, 131, 132, 133, 141, 142, 143, 144] (by decide +kernel) (by decide +kernel)
set_option maxRecDepth 20000 in
theorem gX7_told_X7_flownBy : GoodIn wsX7_told (wsV RX7 154 RX7 yX7_flownBy wsX7_flownBy) := goodIn_app (goodIn_of _ (by decide +kernel)) ggX7_told_X7_flownBy
set_option maxRecDepth 20000 in
theorem ggX7_told_X1_gather : GoodIn wsX7_told wsX1_gather := goodIn_r _ [64, 65, 66, 67, 68, 69, 70, 71, 72, 73, 74, 27, 75, 76, 25, 26, 28, 29, 30, 31, 32, 33, 34, 35, 36, 37, 38, 39, 40, 41, 42, 43, 44, 45, 46, 47, 48, 49, 50, 51, 52, 53, 77, 78, 79, 80, 81, 82, 83, 84, 85, 86, 87, 88, 89, 90, 91, 92, 93, 94, 95, 96, 97, 98, 55, 56, 57, 58, 59, 99, 100, 101, 63, 102, 103, 104, 105, 106, 107, 108, 109, 110, 111, 112, 113, 114, 115, 116, 117, 118, 119, 126, 127, 128, 129, 134, 135, 136, 137, 138, 139, 140, 141, 142, 143, 144, 130, 131, 132, 133, 145, 146] (by decide +kernel) (by decide +kernel)
set_option maxRecDepth 20000 in
theorem gX7_told_X1_gather : GoodIn wsX7_told (wsV RX7 157 RX1 yX1_gather wsX1_gather) := goodIn_app (goodIn_of _ (by decide +kernel)) ggX7_told_X1_gather
theorem dX7_told_0 : decode cX7_told 0 = .ok (.aload_n 0, 1) := by decide +kernel
theorem dX7_told_1 : decode cX7_told 1 = .ok (.iload_n 1, 1) := by decide +kernel
theorem dX7_told_2 : decode cX7_told 2 = .ok (.invokevirtual 130, 3) := by decide +kernel
theorem dX7_told_5 : decode cX7_told 5 = .ok (.ifCond .ne 5, 3) := by decide +kernel
theorem dX7_told_8 : decode cX7_told 8 = .ok (.iconst (-1), 1) := by decide +kernel
theorem dX7_told_9 : decode cX7_told 9 = .ok (.ireturn, 1) := by decide +kernel
theorem dX7_told_10 : decode cX7_told 10 = .ok (.aload_n 0, 1) := by decide +kernel
theorem dX7_told_11 : decode cX7_told 11 = .ok (.getfield 12, 3) := by decide +kernel
theorem dX7_told_14 : decode cX7_told 14 = .ok (.getfield 136, 3) := by decide +kernel
theorem dX7_told_17 : decode cX7_told 17 = .ok (.iload_n 1, 1) := by decide +kernel
theorem dX7_told_18 : decode cX7_told 18 = .ok (.aaload, 1) := by decide +kernel
theorem dX7_told_19 : decode cX7_told 19 = .ok (.astore_n 3, 1) := by decide +kernel
theorem dX7_told_20 : decode cX7_told 20 = .ok (.iload_n 2, 1) := by decide +kernel
theorem dX7_told_21 : decode cX7_told 21 = .ok (.tableswitch 103 0 8 #[51, 56, 61, 66, 71, 71, 71, 71, 78], 51) := by decide +kernel
theorem dX7_told_72 : decode cX7_told 72 = .ok (.aload_n 3, 1) := by decide +kernel
theorem dX7_told_73 : decode cX7_told 73 = .ok (.getfield 145, 3) := by decide +kernel
theorem dX7_told_76 : decode cX7_told 76 = .ok (.ireturn, 1) := by decide +kernel
theorem dX7_told_77 : decode cX7_told 77 = .ok (.aload_n 3, 1) := by decide +kernel
theorem dX7_told_78 : decode cX7_told 78 = .ok (.getfield 140, 3) := by decide +kernel
theorem dX7_told_81 : decode cX7_told 81 = .ok (.ireturn, 1) := by decide +kernel
theorem dX7_told_82 : decode cX7_told 82 = .ok (.aload_n 3, 1) := by decide +kernel
theorem dX7_told_83 : decode cX7_told 83 = .ok (.getfield 148, 3) := by decide +kernel
theorem dX7_told_86 : decode cX7_told 86 = .ok (.ireturn, 1) := by decide +kernel
theorem dX7_told_87 : decode cX7_told 87 = .ok (.aload_n 3, 1) := by decide +kernel
theorem dX7_told_88 : decode cX7_told 88 = .ok (.getfield 151, 3) := by decide +kernel
theorem dX7_told_91 : decode cX7_told 91 = .ok (.ireturn, 1) := by decide +kernel
theorem dX7_told_92 : decode cX7_told 92 = .ok (.aload_n 0, 1) := by decide +kernel
theorem dX7_told_93 : decode cX7_told 93 = .ok (.iload_n 1, 1) := by decide +kernel
theorem dX7_told_94 : decode cX7_told 94 = .ok (.iload_n 2, 1) := by decide +kernel
theorem dX7_told_95 : decode cX7_told 95 = .ok (.invokevirtual 154, 3) := by decide +kernel
theorem dX7_told_98 : decode cX7_told 98 = .ok (.ireturn, 1) := by decide +kernel
theorem dX7_told_99 : decode cX7_told 99 = .ok (.aload_n 0, 1) := by decide +kernel
theorem dX7_told_100 : decode cX7_told 100 = .ok (.getfield 41, 3) := by decide +kernel
theorem dX7_told_103 : decode cX7_told 103 = .ok (.aload_n 0, 1) := by decide +kernel
theorem dX7_told_104 : decode cX7_told 104 = .ok (.getfield 12, 3) := by decide +kernel
theorem dX7_told_107 : decode cX7_told 107 = .ok (.aload_n 0, 1) := by decide +kernel
theorem dX7_told_108 : decode cX7_told 108 = .ok (.getfield 34, 3) := by decide +kernel
theorem dX7_told_111 : decode cX7_told 111 = .ok (.invokevirtual 157, 3) := by decide +kernel
theorem dX7_told_114 : decode cX7_told 114 = .ok (.aload_n 0, 1) := by decide +kernel
theorem dX7_told_115 : decode cX7_told 115 = .ok (.getfield 41, 3) := by decide +kernel
theorem dX7_told_118 : decode cX7_told 118 = .ok (.getfield 161, 3) := by decide +kernel
theorem dX7_told_121 : decode cX7_told 121 = .ok (.iload_n 1, 1) := by decide +kernel
theorem dX7_told_122 : decode cX7_told 122 = .ok (.iaload, 1) := by decide +kernel
theorem dX7_told_123 : decode cX7_told 123 = .ok (.ireturn, 1) := by decide +kernel
theorem dX7_told_124 : decode cX7_told 124 = .ok (.bipush (-2), 2) := by decide +kernel
theorem dX7_told_126 : decode cX7_told 126 = .ok (.ireturn, 1) := by decide +kernel
set_option maxRecDepth 20000 in
theorem ggX7_height_X7_isBar : GoodIn wsX7_height wsX7_isBar := goodIn_r _ [7, 8, 9, 6, 10] (by decide +kernel) (by decide +kernel)
set_option maxRecDepth 20000 in
theorem gX7_height_X7_isBar : GoodIn wsX7_height (va_wsS RX7 45 yX7_isBar wsX7_isBar) := goodIn_app (goodIn_of _ (by decide +kernel)) ggX7_height_X7_isBar
set_option maxRecDepth 20000 in
theorem ggX7_height_X7_isTime : GoodIn wsX7_height wsX7_isTime := goodIn_r _ [13, 8, 9, 6, 10] (by decide +kernel) (by decide +kernel)
set_option maxRecDepth 20000 in
theorem gX7_height_X7_isTime : GoodIn wsX7_height (va_wsS RX7 164 yX7_isTime wsX7_isTime) := goodIn_app (goodIn_of _ (by decide +kernel)) ggX7_height_X7_isTime
set_option maxRecDepth 20000 in
theorem ggX7_height_X2_trace : GoodIn wsX7_height wsX2_trace := goodIn_r _ [18, 19, 20, 21, 22, 23, 24, 25, 26, 27, 28, 29, 30, 31, 32, 33, 34, 35, 36, 37, 38, 39, 40, 41, 42, 43, 50, 51, 52, 53, 54, 55, 56, 57, 58, 59, 60, 61] (by decide +kernel) (by decide +kernel)
set_option maxRecDepth 20000 in
theorem gX7_height_X2_trace : GoodIn wsX7_height (wsV RX7 167 RX2 yX2_trace wsX2_trace) := goodIn_app (goodIn_of _ (by decide +kernel)) ggX7_height_X2_trace
theorem dX7_height_0 : decode cX7_height 0 = .ok (.iload_n 1, 1) := by decide +kernel
theorem dX7_height_1 : decode cX7_height 1 = .ok (.invokestatic 45, 3) := by decide +kernel
theorem dX7_height_4 : decode cX7_height 4 = .ok (.ifCond .ne 5, 3) := by decide +kernel
theorem dX7_height_7 : decode cX7_height 7 = .ok (.iconst (-1), 1) := by decide +kernel
theorem dX7_height_8 : decode cX7_height 8 = .ok (.ireturn, 1) := by decide +kernel
theorem dX7_height_9 : decode cX7_height 9 = .ok (.iload_n 2, 1) := by decide +kernel
theorem dX7_height_10 : decode cX7_height 10 = .ok (.invokestatic 164, 3) := by decide +kernel
theorem dX7_height_13 : decode cX7_height 13 = .ok (.ifCond .ne 6, 3) := by decide +kernel
theorem dX7_height_16 : decode cX7_height 16 = .ok (.bipush (-2), 2) := by decide +kernel
theorem dX7_height_18 : decode cX7_height 18 = .ok (.ireturn, 1) := by decide +kernel
theorem dX7_height_19 : decode cX7_height 19 = .ok (.aload_n 0, 1) := by decide +kernel
theorem dX7_height_20 : decode cX7_height 20 = .ok (.getfield 34, 3) := by decide +kernel
theorem dX7_height_23 : decode cX7_height 23 = .ok (.aload_n 0, 1) := by decide +kernel
theorem dX7_height_24 : decode cX7_height 24 = .ok (.getfield 12, 3) := by decide +kernel
theorem dX7_height_27 : decode cX7_height 27 = .ok (.iload_n 1, 1) := by decide +kernel
theorem dX7_height_28 : decode cX7_height 28 = .ok (.invokevirtual 167, 3) := by decide +kernel
theorem dX7_height_31 : decode cX7_height 31 = .ok (.aload_n 0, 1) := by decide +kernel
theorem dX7_height_32 : decode cX7_height 32 = .ok (.getfield 34, 3) := by decide +kernel
theorem dX7_height_35 : decode cX7_height 35 = .ok (.getfield 171, 3) := by decide +kernel
theorem dX7_height_38 : decode cX7_height 38 = .ok (.iload_n 1, 1) := by decide +kernel
theorem dX7_height_39 : decode cX7_height 39 = .ok (.aaload, 1) := by decide +kernel
theorem dX7_height_40 : decode cX7_height 40 = .ok (.iload_n 2, 1) := by decide +kernel
theorem dX7_height_41 : decode cX7_height 41 = .ok (.iaload, 1) := by decide +kernel
theorem dX7_height_42 : decode cX7_height 42 = .ok (.ireturn, 1) := by decide +kernel
set_option maxRecDepth 20000 in
theorem ggX7_strike_X7_isBar : GoodIn wsX7_strike wsX7_isBar := goodIn_r _ [6, 7, 8, 5, 9] (by decide +kernel) (by decide +kernel)
set_option maxRecDepth 20000 in
theorem gX7_strike_X7_isBar : GoodIn wsX7_strike (va_wsS RX7 45 yX7_isBar wsX7_isBar) := goodIn_app (goodIn_of _ (by decide +kernel)) ggX7_strike_X7_isBar
set_option maxRecDepth 20000 in
theorem ggX7_strike_X7_isTime : GoodIn wsX7_strike wsX7_isTime := goodIn_r _ [12, 7, 8, 5, 9] (by decide +kernel) (by decide +kernel)
set_option maxRecDepth 20000 in
theorem gX7_strike_X7_isTime : GoodIn wsX7_strike (va_wsS RX7 164 yX7_isTime wsX7_isTime) := goodIn_app (goodIn_of _ (by decide +kernel)) ggX7_strike_X7_isTime
set_option maxRecDepth 20000 in
theorem ggX7_strike_X2_trace : GoodIn wsX7_strike wsX2_trace := goodIn_r _ [17, 18, 19, 20, 21, 22, 23, 24, 25, 26, 27, 28, 29, 30, 31, 32, 33, 34, 35, 36, 37, 38, 39, 40, 41, 42, 70, 71, 72, 73, 74, 75, 76, 77, 78, 79, 80, 81] (by decide +kernel) (by decide +kernel)
set_option maxRecDepth 20000 in
theorem gX7_strike_X2_trace : GoodIn wsX7_strike (wsV RX7 167 RX2 yX2_trace wsX2_trace) := goodIn_app (goodIn_of _ (by decide +kernel)) ggX7_strike_X2_trace
set_option maxRecDepth 20000 in
theorem ggX7_strike_X2_canStrike : GoodIn wsX7_strike wsX2_canStrike := goodIn_r _ [46, 19, 20, 47, 48, 49, 26, 50, 51, 39, 40, 41, 52, 53, 71, 72, 73, 74, 75, 76, 77] (by decide +kernel) (by decide +kernel)
set_option maxRecDepth 20000 in
theorem gX7_strike_X2_canStrike : GoodIn wsX7_strike (wsV RX7 175 RX2 yX2_canStrike wsX2_canStrike) := goodIn_app (goodIn_of _ (by decide +kernel)) ggX7_strike_X2_canStrike
set_option maxRecDepth 20000 in
theorem ggX7_strike_X2_overlap : GoodIn wsX7_strike wsX2_overlap := goodIn_r _ [57, 18, 19, 20, 58, 59, 40, 60, 61, 62, 63, 70, 71, 72, 73, 74, 75, 76, 77] (by decide +kernel) (by decide +kernel)
set_option maxRecDepth 20000 in
theorem gX7_strike_X2_overlap : GoodIn wsX7_strike (wsV RX7 179 RX2 yX2_overlap wsX2_overlap) := goodIn_app (goodIn_of _ (by decide +kernel)) ggX7_strike_X2_overlap
theorem dX7_strike_0 : decode cX7_strike 0 = .ok (.iload_n 1, 1) := by decide +kernel
theorem dX7_strike_1 : decode cX7_strike 1 = .ok (.invokestatic 45, 3) := by decide +kernel
theorem dX7_strike_4 : decode cX7_strike 4 = .ok (.ifCond .eq 10, 3) := by decide +kernel
theorem dX7_strike_7 : decode cX7_strike 7 = .ok (.iload_n 2, 1) := by decide +kernel
theorem dX7_strike_8 : decode cX7_strike 8 = .ok (.invokestatic 45, 3) := by decide +kernel
theorem dX7_strike_11 : decode cX7_strike 11 = .ok (.ifCond .ne 5, 3) := by decide +kernel
theorem dX7_strike_14 : decode cX7_strike 14 = .ok (.iconst (-1), 1) := by decide +kernel
theorem dX7_strike_15 : decode cX7_strike 15 = .ok (.ireturn, 1) := by decide +kernel
theorem dX7_strike_16 : decode cX7_strike 16 = .ok (.iload_n 1, 1) := by decide +kernel
theorem dX7_strike_17 : decode cX7_strike 17 = .ok (.iload_n 2, 1) := by decide +kernel
theorem dX7_strike_18 : decode cX7_strike 18 = .ok (.if_icmp .eq 10, 3) := by decide +kernel
theorem dX7_strike_21 : decode cX7_strike 21 = .ok (.iload_n 3, 1) := by decide +kernel
theorem dX7_strike_22 : decode cX7_strike 22 = .ok (.invokestatic 164, 3) := by decide +kernel
theorem dX7_strike_25 : decode cX7_strike 25 = .ok (.ifCond .ne 6, 3) := by decide +kernel
theorem dX7_strike_28 : decode cX7_strike 28 = .ok (.bipush (-2), 2) := by decide +kernel
theorem dX7_strike_30 : decode cX7_strike 30 = .ok (.ireturn, 1) := by decide +kernel
theorem dX7_strike_31 : decode cX7_strike 31 = .ok (.aload_n 0, 1) := by decide +kernel
theorem dX7_strike_32 : decode cX7_strike 32 = .ok (.getfield 34, 3) := by decide +kernel
theorem dX7_strike_35 : decode cX7_strike 35 = .ok (.aload_n 0, 1) := by decide +kernel
theorem dX7_strike_36 : decode cX7_strike 36 = .ok (.getfield 12, 3) := by decide +kernel
theorem dX7_strike_39 : decode cX7_strike 39 = .ok (.iload_n 1, 1) := by decide +kernel
theorem dX7_strike_40 : decode cX7_strike 40 = .ok (.invokevirtual 167, 3) := by decide +kernel
theorem dX7_strike_43 : decode cX7_strike 43 = .ok (.aload_n 0, 1) := by decide +kernel
theorem dX7_strike_44 : decode cX7_strike 44 = .ok (.getfield 34, 3) := by decide +kernel
theorem dX7_strike_47 : decode cX7_strike 47 = .ok (.aload_n 0, 1) := by decide +kernel
theorem dX7_strike_48 : decode cX7_strike 48 = .ok (.getfield 12, 3) := by decide +kernel
theorem dX7_strike_51 : decode cX7_strike 51 = .ok (.iload_n 2, 1) := by decide +kernel
theorem dX7_strike_52 : decode cX7_strike 52 = .ok (.invokevirtual 167, 3) := by decide +kernel
theorem dX7_strike_55 : decode cX7_strike 55 = .ok (.aload_n 0, 1) := by decide +kernel
theorem dX7_strike_56 : decode cX7_strike 56 = .ok (.getfield 34, 3) := by decide +kernel
theorem dX7_strike_59 : decode cX7_strike 59 = .ok (.aload_n 0, 1) := by decide +kernel
theorem dX7_strike_60 : decode cX7_strike 60 = .ok (.getfield 12, 3) := by decide +kernel
theorem dX7_strike_63 : decode cX7_strike 63 = .ok (.iload_n 1, 1) := by decide +kernel
theorem dX7_strike_64 : decode cX7_strike 64 = .ok (.iload_n 2, 1) := by decide +kernel
theorem dX7_strike_65 : decode cX7_strike 65 = .ok (.invokevirtual 175, 3) := by decide +kernel
theorem dX7_strike_68 : decode cX7_strike 68 = .ok (.ifCond .eq 24, 3) := by decide +kernel
theorem dX7_strike_71 : decode cX7_strike 71 = .ok (.aload_n 0, 1) := by decide +kernel
theorem dX7_strike_72 : decode cX7_strike 72 = .ok (.getfield 34, 3) := by decide +kernel
theorem dX7_strike_75 : decode cX7_strike 75 = .ok (.aload_n 0, 1) := by decide +kernel
theorem dX7_strike_76 : decode cX7_strike 76 = .ok (.getfield 12, 3) := by decide +kernel
theorem dX7_strike_79 : decode cX7_strike 79 = .ok (.iload_n 1, 1) := by decide +kernel
theorem dX7_strike_80 : decode cX7_strike 80 = .ok (.iload_n 2, 1) := by decide +kernel
theorem dX7_strike_81 : decode cX7_strike 81 = .ok (.iload_n 3, 1) := by decide +kernel
theorem dX7_strike_82 : decode cX7_strike 82 = .ok (.invokevirtual 179, 3) := by decide +kernel
theorem dX7_strike_85 : decode cX7_strike 85 = .ok (.ifCond .eq 7, 3) := by decide +kernel
theorem dX7_strike_88 : decode cX7_strike 88 = .ok (.iconst 1, 1) := by decide +kernel
theorem dX7_strike_89 : decode cX7_strike 89 = .ok (.goto 4, 3) := by decide +kernel
theorem dX7_strike_92 : decode cX7_strike 92 = .ok (.iconst 0, 1) := by decide +kernel
theorem dX7_strike_93 : decode cX7_strike 93 = .ok (.ireturn, 1) := by decide +kernel
set_option maxRecDepth 20000 in
theorem ggX7_clash_X7_isTime : GoodIn wsX7_clash wsX7_isTime := goodIn_r _ [6, 7, 8, 5, 9] (by decide +kernel) (by decide +kernel)
set_option maxRecDepth 20000 in
theorem gX7_clash_X7_isTime : GoodIn wsX7_clash (va_wsS RX7 164 yX7_isTime wsX7_isTime) := goodIn_app (goodIn_of _ (by decide +kernel)) ggX7_clash_X7_isTime
set_option maxRecDepth 20000 in
theorem ggX7_clash_X7_within : GoodIn wsX7_clash wsX7_within := goodIn_r _ [9] (by decide +kernel) (by decide +kernel)
set_option maxRecDepth 20000 in
theorem gX7_clash_X7_within : GoodIn wsX7_clash (va_wsS RX7 49 yX7_within wsX7_within) := goodIn_app (goodIn_of _ (by decide +kernel)) ggX7_clash_X7_within
set_option maxRecDepth 20000 in
theorem ggX7_clash_X2_traceAll : GoodIn wsX7_clash wsX2_traceAll := goodIn_r _ [14, 15, 16, 17, 13, 18, 19, 20, 21, 22, 23, 24, 25, 26, 27, 28, 29, 30, 31, 32, 33, 34, 35, 36, 37, 38, 39, 40, 41, 42, 43, 75, 76, 77, 78, 79, 80, 81, 82, 83, 84, 85, 86] (by decide +kernel) (by decide +kernel)
set_option maxRecDepth 20000 in
theorem gX7_clash_X2_traceAll : GoodIn wsX7_clash (wsV RX7 183 RX2 yX2_traceAll wsX2_traceAll) := goodIn_app (goodIn_of _ (by decide +kernel)) ggX7_clash_X2_traceAll
set_option maxRecDepth 20000 in
theorem ggX7_clash_X2_firstStrike : GoodIn wsX7_clash wsX2_firstStrike := goodIn_r _ [47, 48, 49, 50, 13, 51, 20, 21, 52, 53, 54, 27, 55, 56, 40, 41, 42, 57, 58, 59, 60, 61, 62, 19, 63, 64, 65, 66, 67, 68, 76, 77, 78, 79, 80, 81, 82, 75] (by decide +kernel) (by decide +kernel)
set_option maxRecDepth 20000 in
theorem gX7_clash_X2_firstStrike : GoodIn wsX7_clash (wsV RX7 187 RX2 yX2_firstStrike wsX2_firstStrike) := goodIn_app (goodIn_of _ (by decide +kernel)) ggX7_clash_X2_firstStrike
theorem dX7_clash_0 : decode cX7_clash 0 = .ok (.iload_n 1, 1) := by decide +kernel
end
section
theorem dX7_clash_1 : decode cX7_clash 1 = .ok (.invokestatic 164, 3) := by decide +kernel
theorem dX7_clash_4 : decode cX7_clash 4 = .ok (.ifCond .eq 12, 3) := by decide +kernel
theorem dX7_clash_7 : decode cX7_clash 7 = .ok (.iload_n 2, 1) := by decide +kernel
theorem dX7_clash_8 : decode cX7_clash 8 = .ok (.iconst 0, 1) := by decide +kernel
theorem dX7_clash_9 : decode cX7_clash 9 = .ok (.iconst 2, 1) := by decide +kernel
theorem dX7_clash_10 : decode cX7_clash 10 = .ok (.invokestatic 49, 3) := by decide +kernel
theorem dX7_clash_13 : decode cX7_clash 13 = .ok (.ifCond .ne 6, 3) := by decide +kernel
theorem dX7_clash_16 : decode cX7_clash 16 = .ok (.bipush (-2), 2) := by decide +kernel
theorem dX7_clash_18 : decode cX7_clash 18 = .ok (.ireturn, 1) := by decide +kernel
theorem dX7_clash_19 : decode cX7_clash 19 = .ok (.aload_n 0, 1) := by decide +kernel
theorem dX7_clash_20 : decode cX7_clash 20 = .ok (.getfield 34, 3) := by decide +kernel
theorem dX7_clash_23 : decode cX7_clash 23 = .ok (.aload_n 0, 1) := by decide +kernel
theorem dX7_clash_24 : decode cX7_clash 24 = .ok (.getfield 12, 3) := by decide +kernel
theorem dX7_clash_27 : decode cX7_clash 27 = .ok (.invokevirtual 183, 3) := by decide +kernel
theorem dX7_clash_30 : decode cX7_clash 30 = .ok (.sipush 301, 3) := by decide +kernel
theorem dX7_clash_33 : decode cX7_clash 33 = .ok (.istore_n 3, 1) := by decide +kernel
theorem dX7_clash_34 : decode cX7_clash 34 = .ok (.bipush (-6), 2) := by decide +kernel
theorem dX7_clash_36 : decode cX7_clash 36 = .ok (.istore 4, 2) := by decide +kernel
theorem dX7_clash_38 : decode cX7_clash 38 = .ok (.bipush (-6), 2) := by decide +kernel
theorem dX7_clash_40 : decode cX7_clash 40 = .ok (.istore 5, 2) := by decide +kernel
theorem dX7_clash_42 : decode cX7_clash 42 = .ok (.iconst 0, 1) := by decide +kernel
theorem dX7_clash_43 : decode cX7_clash 43 = .ok (.istore 6, 2) := by decide +kernel
theorem dX7_clash_45 : decode cX7_clash 45 = .ok (.iload 6, 2) := by decide +kernel
theorem dX7_clash_47 : decode cX7_clash 47 = .ok (.bipush 10, 2) := by decide +kernel
theorem dX7_clash_49 : decode cX7_clash 49 = .ok (.if_icmp .ge 64, 3) := by decide +kernel
theorem dX7_clash_52 : decode cX7_clash 52 = .ok (.iload 6, 2) := by decide +kernel
theorem dX7_clash_54 : decode cX7_clash 54 = .ok (.iconst 1, 1) := by decide +kernel
theorem dX7_clash_55 : decode cX7_clash 55 = .ok (.iadd, 1) := by decide +kernel
theorem dX7_clash_56 : decode cX7_clash 56 = .ok (.istore 7, 2) := by decide +kernel
theorem dX7_clash_58 : decode cX7_clash 58 = .ok (.iload 7, 2) := by decide +kernel
theorem dX7_clash_60 : decode cX7_clash 60 = .ok (.bipush 10, 2) := by decide +kernel
theorem dX7_clash_62 : decode cX7_clash 62 = .ok (.if_icmp .ge 45, 3) := by decide +kernel
theorem dX7_clash_65 : decode cX7_clash 65 = .ok (.aload_n 0, 1) := by decide +kernel
theorem dX7_clash_66 : decode cX7_clash 66 = .ok (.getfield 34, 3) := by decide +kernel
theorem dX7_clash_69 : decode cX7_clash 69 = .ok (.aload_n 0, 1) := by decide +kernel
theorem dX7_clash_70 : decode cX7_clash 70 = .ok (.getfield 12, 3) := by decide +kernel
theorem dX7_clash_73 : decode cX7_clash 73 = .ok (.iload 6, 2) := by decide +kernel
theorem dX7_clash_75 : decode cX7_clash 75 = .ok (.iload 7, 2) := by decide +kernel
theorem dX7_clash_77 : decode cX7_clash 77 = .ok (.iload_n 1, 1) := by decide +kernel
theorem dX7_clash_78 : decode cX7_clash 78 = .ok (.iload_n 3, 1) := by decide +kernel
theorem dX7_clash_79 : decode cX7_clash 79 = .ok (.invokevirtual 187, 3) := by decide +kernel
theorem dX7_clash_82 : decode cX7_clash 82 = .ok (.istore 8, 2) := by decide +kernel
theorem dX7_clash_84 : decode cX7_clash 84 = .ok (.iload 8, 2) := by decide +kernel
theorem dX7_clash_86 : decode cX7_clash 86 = .ok (.iload_n 3, 1) := by decide +kernel
theorem dX7_clash_87 : decode cX7_clash 87 = .ok (.if_icmp .ge 14, 3) := by decide +kernel
theorem dX7_clash_90 : decode cX7_clash 90 = .ok (.iload 8, 2) := by decide +kernel
theorem dX7_clash_92 : decode cX7_clash 92 = .ok (.istore_n 3, 1) := by decide +kernel
theorem dX7_clash_93 : decode cX7_clash 93 = .ok (.iload 6, 2) := by decide +kernel
theorem dX7_clash_95 : decode cX7_clash 95 = .ok (.istore 4, 2) := by decide +kernel
theorem dX7_clash_97 : decode cX7_clash 97 = .ok (.iload 7, 2) := by decide +kernel
theorem dX7_clash_99 : decode cX7_clash 99 = .ok (.istore 5, 2) := by decide +kernel
theorem dX7_clash_101 : decode cX7_clash 101 = .ok (.iinc 7 1, 3) := by decide +kernel
theorem dX7_clash_104 : decode cX7_clash 104 = .ok (.goto (-46), 3) := by decide +kernel
theorem dX7_clash_107 : decode cX7_clash 107 = .ok (.iinc 6 1, 3) := by decide +kernel
theorem dX7_clash_110 : decode cX7_clash 110 = .ok (.goto (-65), 3) := by decide +kernel
theorem dX7_clash_113 : decode cX7_clash 113 = .ok (.iload_n 3, 1) := by decide +kernel
theorem dX7_clash_114 : decode cX7_clash 114 = .ok (.sipush 300, 3) := by decide +kernel
theorem dX7_clash_117 : decode cX7_clash 117 = .ok (.if_icmp .le 6, 3) := by decide +kernel
theorem dX7_clash_120 : decode cX7_clash 120 = .ok (.bipush (-6), 2) := by decide +kernel
theorem dX7_clash_122 : decode cX7_clash 122 = .ok (.ireturn, 1) := by decide +kernel
theorem dX7_clash_123 : decode cX7_clash 123 = .ok (.iload_n 2, 1) := by decide +kernel
theorem dX7_clash_124 : decode cX7_clash 124 = .ok (.ifCond .ne 7, 3) := by decide +kernel
theorem dX7_clash_127 : decode cX7_clash 127 = .ok (.iload_n 3, 1) := by decide +kernel
theorem dX7_clash_128 : decode cX7_clash 128 = .ok (.goto 15, 3) := by decide +kernel
theorem dX7_clash_131 : decode cX7_clash 131 = .ok (.iload_n 2, 1) := by decide +kernel
theorem dX7_clash_132 : decode cX7_clash 132 = .ok (.iconst 1, 1) := by decide +kernel
theorem dX7_clash_133 : decode cX7_clash 133 = .ok (.if_icmp .ne 8, 3) := by decide +kernel
theorem dX7_clash_136 : decode cX7_clash 136 = .ok (.iload 4, 2) := by decide +kernel
theorem dX7_clash_138 : decode cX7_clash 138 = .ok (.goto 5, 3) := by decide +kernel
theorem dX7_clash_141 : decode cX7_clash 141 = .ok (.iload 5, 2) := by decide +kernel
theorem dX7_clash_143 : decode cX7_clash 143 = .ok (.ireturn, 1) := by decide +kernel
set_option maxRecDepth 20000 in
theorem ggX7_often_X7_isBar : GoodIn wsX7_often wsX7_isBar := goodIn_r _ [6, 7, 8, 5, 9] (by decide +kernel) (by decide +kernel)
set_option maxRecDepth 20000 in
theorem gX7_often_X7_isBar : GoodIn wsX7_often (va_wsS RX7 45 yX7_isBar wsX7_isBar) := goodIn_app (goodIn_of _ (by decide +kernel)) ggX7_often_X7_isBar
set_option maxRecDepth 20000 in
theorem ggX7_often_X2_trace : GoodIn wsX7_often wsX2_trace := goodIn_r _ [14, 15, 16, 17, 18, 19, 20, 21, 22, 23, 24, 25, 26, 27, 28, 29, 30, 31, 32, 33, 34, 35, 36, 37, 38, 39, 71, 72, 73, 74, 75, 76, 77, 78, 79, 80, 81, 82] (by decide +kernel) (by decide +kernel)
set_option maxRecDepth 20000 in
theorem gX7_often_X2_trace : GoodIn wsX7_often (wsV RX7 167 RX2 yX2_trace wsX2_trace) := goodIn_app (goodIn_of _ (by decide +kernel)) ggX7_often_X2_trace
set_option maxRecDepth 20000 in
theorem ggX7_often_X2_strikesOf : GoodIn wsX7_often wsX2_strikesOf := goodIn_r _ [43, 44, 45, 46, 13, 47, 16, 17, 48, 49, 50, 23, 51, 52, 36, 37, 38, 53, 54, 55, 56, 57, 58, 15, 59, 60, 61, 62, 63, 64, 72, 73, 74, 75, 76, 77, 78, 71] (by decide +kernel) (by decide +kernel)
set_option maxRecDepth 20000 in
theorem gX7_often_X2_strikesOf : GoodIn wsX7_often (wsV RX7 191 RX2 yX2_strikesOf wsX2_strikesOf) := goodIn_app (goodIn_of _ (by decide +kernel)) ggX7_often_X2_strikesOf
theorem dX7_often_0 : decode cX7_often 0 = .ok (.iload_n 1, 1) := by decide +kernel
theorem dX7_often_1 : decode cX7_often 1 = .ok (.invokestatic 45, 3) := by decide +kernel
theorem dX7_often_4 : decode cX7_often 4 = .ok (.ifCond .eq 10, 3) := by decide +kernel
theorem dX7_often_7 : decode cX7_often 7 = .ok (.iload_n 2, 1) := by decide +kernel
theorem dX7_often_8 : decode cX7_often 8 = .ok (.invokestatic 45, 3) := by decide +kernel
theorem dX7_often_11 : decode cX7_often 11 = .ok (.ifCond .ne 5, 3) := by decide +kernel
theorem dX7_often_14 : decode cX7_often 14 = .ok (.iconst (-1), 1) := by decide +kernel
theorem dX7_often_15 : decode cX7_often 15 = .ok (.ireturn, 1) := by decide +kernel
theorem dX7_often_16 : decode cX7_often 16 = .ok (.iload_n 1, 1) := by decide +kernel
theorem dX7_often_17 : decode cX7_often 17 = .ok (.iload_n 2, 1) := by decide +kernel
theorem dX7_often_18 : decode cX7_often 18 = .ok (.if_icmp .ne 6, 3) := by decide +kernel
theorem dX7_often_21 : decode cX7_often 21 = .ok (.bipush (-2), 2) := by decide +kernel
theorem dX7_often_23 : decode cX7_often 23 = .ok (.ireturn, 1) := by decide +kernel
theorem dX7_often_24 : decode cX7_often 24 = .ok (.aload_n 0, 1) := by decide +kernel
theorem dX7_often_25 : decode cX7_often 25 = .ok (.getfield 34, 3) := by decide +kernel
theorem dX7_often_28 : decode cX7_often 28 = .ok (.aload_n 0, 1) := by decide +kernel
theorem dX7_often_29 : decode cX7_often 29 = .ok (.getfield 12, 3) := by decide +kernel
theorem dX7_often_32 : decode cX7_often 32 = .ok (.iload_n 1, 1) := by decide +kernel
theorem dX7_often_33 : decode cX7_often 33 = .ok (.invokevirtual 167, 3) := by decide +kernel
theorem dX7_often_36 : decode cX7_often 36 = .ok (.aload_n 0, 1) := by decide +kernel
theorem dX7_often_37 : decode cX7_often 37 = .ok (.getfield 34, 3) := by decide +kernel
theorem dX7_often_40 : decode cX7_often 40 = .ok (.aload_n 0, 1) := by decide +kernel
theorem dX7_often_41 : decode cX7_often 41 = .ok (.getfield 12, 3) := by decide +kernel
theorem dX7_often_44 : decode cX7_often 44 = .ok (.iload_n 2, 1) := by decide +kernel
theorem dX7_often_45 : decode cX7_often 45 = .ok (.invokevirtual 167, 3) := by decide +kernel
theorem dX7_often_48 : decode cX7_often 48 = .ok (.aload_n 0, 1) := by decide +kernel
theorem dX7_often_49 : decode cX7_often 49 = .ok (.getfield 34, 3) := by decide +kernel
theorem dX7_often_52 : decode cX7_often 52 = .ok (.aload_n 0, 1) := by decide +kernel
theorem dX7_often_53 : decode cX7_often 53 = .ok (.getfield 12, 3) := by decide +kernel
theorem dX7_often_56 : decode cX7_often 56 = .ok (.iload_n 1, 1) := by decide +kernel
theorem dX7_often_57 : decode cX7_often 57 = .ok (.iload_n 2, 1) := by decide +kernel
theorem dX7_often_58 : decode cX7_often 58 = .ok (.invokevirtual 191, 3) := by decide +kernel
theorem dX7_often_61 : decode cX7_often 61 = .ok (.ireturn, 1) := by decide +kernel
set_option maxRecDepth 20000 in
theorem ggX7_hands_X7_within : GoodIn wsX7_hands wsX7_within := goodIn_r _ [8] (by decide +kernel) (by decide +kernel)
set_option maxRecDepth 20000 in
theorem gX7_hands_X7_within : GoodIn wsX7_hands (va_wsS RX7 49 yX7_within wsX7_within) := goodIn_app (goodIn_of _ (by decide +kernel)) ggX7_hands_X7_within
set_option maxRecDepth 20000 in
theorem ggX7_hands_X1_gather : GoodIn wsX7_hands wsX1_gather := goodIn_r _ [13, 14, 15, 16, 17, 18, 19, 20, 21, 22, 23, 24, 25, 26, 27, 28, 29, 30, 31, 32, 33, 34, 35, 36, 37, 38, 39, 40, 41, 42, 43, 44, 45, 46, 47, 48, 49, 50, 51, 52, 53, 54, 55, 56, 57, 58, 59, 60, 61, 62, 63, 64, 65, 66, 67, 68, 69, 70, 71, 72, 73, 74, 75, 76, 77, 78, 79, 80, 81, 82, 83, 84, 12, 85, 86, 87, 88, 89, 90, 91, 92, 93, 94, 95, 96, 97, 98, 99, 100, 101, 102, 131, 132, 133, 134, 124, 125, 126, 127, 128, 129, 130, 135, 136, 137, 138, 139, 140, 141, 142, 143, 144] (by decide +kernel) (by decide +kernel)
set_option maxRecDepth 20000 in
theorem gX7_hands_X1_gather : GoodIn wsX7_hands (wsV RX7 157 RX1 yX1_gather wsX1_gather) := goodIn_app (goodIn_of _ (by decide +kernel)) ggX7_hands_X1_gather
set_option maxRecDepth 20000 in
theorem ggX7_hands_X1_doableCount : GoodIn wsX7_hands wsX1_doableCount := goodIn_r _ [106, 15, 16, 124, 125, 126, 127, 128, 129, 130] (by decide +kernel) (by decide +kernel)
set_option maxRecDepth 20000 in
theorem gX7_hands_X1_doableCount : GoodIn wsX7_hands (wsV RX7 198 RX1 yX1_doableCount wsX1_doableCount) := goodIn_app (goodIn_of _ (by decide +kernel)) ggX7_hands_X1_doableCount
set_option maxRecDepth 20000 in
theorem ggX7_hands_X1_mostAtOnce : GoodIn wsX7_hands wsX1_mostAtOnce := goodIn_r _ [110, 15, 90, 93, 111, 112, 52, 113, 114, 115, 116, 12, 117, 16, 17, 124, 125, 126, 127, 128, 129, 130, 131, 132, 133, 134, 139, 140, 141, 142] (by decide +kernel) (by decide +kernel)
set_option maxRecDepth 20000 in
theorem gX7_hands_X1_mostAtOnce : GoodIn wsX7_hands (wsV RX7 201 RX1 yX1_mostAtOnce wsX1_mostAtOnce) := goodIn_app (goodIn_of _ (by decide +kernel)) ggX7_hands_X1_mostAtOnce
theorem dX7_hands_0 : decode cX7_hands 0 = .ok (.iload_n 1, 1) := by decide +kernel
theorem dX7_hands_1 : decode cX7_hands 1 = .ok (.iconst 0, 1) := by decide +kernel
theorem dX7_hands_2 : decode cX7_hands 2 = .ok (.iconst 2, 1) := by decide +kernel
theorem dX7_hands_3 : decode cX7_hands 3 = .ok (.invokestatic 49, 3) := by decide +kernel
theorem dX7_hands_6 : decode cX7_hands 6 = .ok (.ifCond .ne 6, 3) := by decide +kernel
theorem dX7_hands_9 : decode cX7_hands 9 = .ok (.bipush (-2), 2) := by decide +kernel
theorem dX7_hands_11 : decode cX7_hands 11 = .ok (.ireturn, 1) := by decide +kernel
theorem dX7_hands_12 : decode cX7_hands 12 = .ok (.aload_n 0, 1) := by decide +kernel
theorem dX7_hands_13 : decode cX7_hands 13 = .ok (.getfield 41, 3) := by decide +kernel
theorem dX7_hands_16 : decode cX7_hands 16 = .ok (.aload_n 0, 1) := by decide +kernel
theorem dX7_hands_17 : decode cX7_hands 17 = .ok (.getfield 12, 3) := by decide +kernel
theorem dX7_hands_20 : decode cX7_hands 20 = .ok (.aload_n 0, 1) := by decide +kernel
theorem dX7_hands_21 : decode cX7_hands 21 = .ok (.getfield 34, 3) := by decide +kernel
theorem dX7_hands_24 : decode cX7_hands 24 = .ok (.invokevirtual 157, 3) := by decide +kernel
theorem dX7_hands_27 : decode cX7_hands 27 = .ok (.iload_n 1, 1) := by decide +kernel
theorem dX7_hands_28 : decode cX7_hands 28 = .ok (.ifCond .ne 13, 3) := by decide +kernel
theorem dX7_hands_31 : decode cX7_hands 31 = .ok (.aload_n 0, 1) := by decide +kernel
theorem dX7_hands_32 : decode cX7_hands 32 = .ok (.getfield 41, 3) := by decide +kernel
theorem dX7_hands_35 : decode cX7_hands 35 = .ok (.getfield 195, 3) := by decide +kernel
theorem dX7_hands_38 : decode cX7_hands 38 = .ok (.goto 29, 3) := by decide +kernel
theorem dX7_hands_41 : decode cX7_hands 41 = .ok (.iload_n 1, 1) := by decide +kernel
theorem dX7_hands_42 : decode cX7_hands 42 = .ok (.iconst 1, 1) := by decide +kernel
theorem dX7_hands_43 : decode cX7_hands 43 = .ok (.if_icmp .ne 13, 3) := by decide +kernel
theorem dX7_hands_46 : decode cX7_hands 46 = .ok (.aload_n 0, 1) := by decide +kernel
theorem dX7_hands_47 : decode cX7_hands 47 = .ok (.getfield 41, 3) := by decide +kernel
theorem dX7_hands_50 : decode cX7_hands 50 = .ok (.invokevirtual 198, 3) := by decide +kernel
theorem dX7_hands_53 : decode cX7_hands 53 = .ok (.goto 14, 3) := by decide +kernel
theorem dX7_hands_56 : decode cX7_hands 56 = .ok (.aload_n 0, 1) := by decide +kernel
theorem dX7_hands_57 : decode cX7_hands 57 = .ok (.getfield 41, 3) := by decide +kernel
theorem dX7_hands_60 : decode cX7_hands 60 = .ok (.aload_n 0, 1) := by decide +kernel
theorem dX7_hands_61 : decode cX7_hands 61 = .ok (.getfield 12, 3) := by decide +kernel
theorem dX7_hands_64 : decode cX7_hands 64 = .ok (.invokevirtual 201, 3) := by decide +kernel
theorem dX7_hands_67 : decode cX7_hands 67 = .ok (.ireturn, 1) := by decide +kernel
set_option maxRecDepth 20000 in
theorem ggX7_crew_X7_within : GoodIn wsX7_crew wsX7_within := goodIn_r _ [7] (by decide +kernel) (by decide +kernel)
set_option maxRecDepth 20000 in
theorem gX7_crew_X7_within : GoodIn wsX7_crew (va_wsS RX7 49 yX7_within wsX7_within) := goodIn_app (goodIn_of _ (by decide +kernel)) ggX7_crew_X7_within
set_option maxRecDepth 20000 in
theorem ggX7_crew_X1_gather : GoodIn wsX7_crew wsX1_gather := goodIn_r _ [12, 13, 14, 15, 16, 17, 18, 19, 20, 21, 22, 23, 24, 25, 26, 27, 28, 29, 30, 31, 32, 33, 34, 35, 36, 37, 38, 39, 40, 41, 42, 43, 44, 45, 46, 47, 48, 49, 50, 51, 52, 53, 54, 55, 56, 57, 58, 59, 60, 61, 62, 63, 64, 65, 66, 67, 68, 69, 70, 71, 72, 73, 74, 75, 76, 77, 78, 79, 80, 81, 82, 83, 11, 84, 85, 86, 87, 88, 89, 90, 91, 92, 93, 94, 95, 96, 97, 98, 99, 100, 101, 116, 117, 118, 119, 120, 121, 122, 123, 124, 125, 126, 127, 128, 129, 130, 131, 132, 133, 134, 135, 136] (by decide +kernel) (by decide +kernel)
set_option maxRecDepth 20000 in
theorem gX7_crew_X1_gather : GoodIn wsX7_crew (wsV RX7 157 RX1 yX1_gather wsX1_gather) := goodIn_app (goodIn_of _ (by decide +kernel)) ggX7_crew_X1_gather
set_option maxRecDepth 20000 in
theorem ggX7_crew_X1_turn : GoodIn wsX7_crew wsX1_turn := goodIn_r _ [105, 14, 101, 106, 107, 108, 11, 109, 89, 92, 120, 121, 122, 123, 124, 125, 126, 116, 117, 118, 119, 131, 132, 133, 134] (by decide +kernel) (by decide +kernel)
set_option maxRecDepth 20000 in
theorem gX7_crew_X1_turn : GoodIn wsX7_crew (wsV RX7 205 RX1 yX1_turn wsX1_turn) := goodIn_app (goodIn_of _ (by decide +kernel)) ggX7_crew_X1_turn
theorem dX7_crew_0 : decode cX7_crew 0 = .ok (.iload_n 1, 1) := by decide +kernel
theorem dX7_crew_1 : decode cX7_crew 1 = .ok (.iconst 0, 1) := by decide +kernel
theorem dX7_crew_2 : decode cX7_crew 2 = .ok (.bipush 9, 2) := by decide +kernel
theorem dX7_crew_4 : decode cX7_crew 4 = .ok (.invokestatic 49, 3) := by decide +kernel
theorem dX7_crew_7 : decode cX7_crew 7 = .ok (.ifCond .ne 6, 3) := by decide +kernel
theorem dX7_crew_10 : decode cX7_crew 10 = .ok (.bipush (-2), 2) := by decide +kernel
theorem dX7_crew_12 : decode cX7_crew 12 = .ok (.ireturn, 1) := by decide +kernel
theorem dX7_crew_13 : decode cX7_crew 13 = .ok (.aload_n 0, 1) := by decide +kernel
theorem dX7_crew_14 : decode cX7_crew 14 = .ok (.getfield 41, 3) := by decide +kernel
theorem dX7_crew_17 : decode cX7_crew 17 = .ok (.aload_n 0, 1) := by decide +kernel
theorem dX7_crew_18 : decode cX7_crew 18 = .ok (.getfield 12, 3) := by decide +kernel
theorem dX7_crew_21 : decode cX7_crew 21 = .ok (.aload_n 0, 1) := by decide +kernel
theorem dX7_crew_22 : decode cX7_crew 22 = .ok (.getfield 34, 3) := by decide +kernel
theorem dX7_crew_25 : decode cX7_crew 25 = .ok (.invokevirtual 157, 3) := by decide +kernel
theorem dX7_crew_28 : decode cX7_crew 28 = .ok (.aload_n 0, 1) := by decide +kernel
theorem dX7_crew_29 : decode cX7_crew 29 = .ok (.getfield 41, 3) := by decide +kernel
theorem dX7_crew_32 : decode cX7_crew 32 = .ok (.aload_n 0, 1) := by decide +kernel
theorem dX7_crew_33 : decode cX7_crew 33 = .ok (.getfield 12, 3) := by decide +kernel
theorem dX7_crew_36 : decode cX7_crew 36 = .ok (.iload_n 1, 1) := by decide +kernel
theorem dX7_crew_37 : decode cX7_crew 37 = .ok (.iload_n 2, 1) := by decide +kernel
theorem dX7_crew_38 : decode cX7_crew 38 = .ok (.invokevirtual 205, 3) := by decide +kernel
theorem dX7_crew_41 : decode cX7_crew 41 = .ok (.ireturn, 1) := by decide +kernel
set_option maxRecDepth 20000 in
theorem ggX7_image_X7_within : GoodIn wsX7_image wsX7_within := goodIn_r _ [7] (by decide +kernel) (by decide +kernel)
set_option maxRecDepth 20000 in
theorem gX7_image_X7_within : GoodIn wsX7_image (va_wsS RX7 49 yX7_within wsX7_within) := goodIn_app (goodIn_of _ (by decide +kernel)) ggX7_image_X7_within
set_option maxRecDepth 20000 in
theorem ggX7_image_X6_copyFrom : GoodIn wsX7_image wsX6_copyFrom := goodIn_r _ [12, 13, 14, 15, 16, 17, 18, 19, 20, 21, 22, 23, 24, 25, 26, 27, 28, 29, 30, 31, 32, 33, 34, 35, 36, 37, 38, 39, 40, 41, 42, 43, 44, 45, 52, 53, 54, 55, 56, 57, 58, 59, 60, 61, 62, 63, 64] (by decide +kernel) (by decide +kernel)
set_option maxRecDepth 20000 in
theorem gX7_image_X6_copyFrom : GoodIn wsX7_image (wsV RX7 208 RX6 yX6_copyFrom wsX6_copyFrom) := goodIn_app (goodIn_of _ (by decide +kernel)) ggX7_image_X6_copyFrom
theorem dX7_image_0 : decode cX7_image 0 = .ok (.iload_n 1, 1) := by decide +kernel
theorem dX7_image_1 : decode cX7_image 1 = .ok (.iconst 0, 1) := by decide +kernel
theorem dX7_image_2 : decode cX7_image 2 = .ok (.iconst 1, 1) := by decide +kernel
theorem dX7_image_3 : decode cX7_image 3 = .ok (.invokestatic 49, 3) := by decide +kernel
theorem dX7_image_6 : decode cX7_image 6 = .ok (.ifCond .ne 6, 3) := by decide +kernel
theorem dX7_image_9 : decode cX7_image 9 = .ok (.bipush (-2), 2) := by decide +kernel
theorem dX7_image_11 : decode cX7_image 11 = .ok (.ireturn, 1) := by decide +kernel
theorem dX7_image_12 : decode cX7_image 12 = .ok (.aload_n 0, 1) := by decide +kernel
theorem dX7_image_13 : decode cX7_image 13 = .ok (.getfield 16, 3) := by decide +kernel
theorem dX7_image_16 : decode cX7_image 16 = .ok (.iload_n 1, 1) := by decide +kernel
theorem dX7_image_17 : decode cX7_image 17 = .ok (.aaload, 1) := by decide +kernel
theorem dX7_image_18 : decode cX7_image 18 = .ok (.aload_n 0, 1) := by decide +kernel
theorem dX7_image_19 : decode cX7_image 19 = .ok (.getfield 12, 3) := by decide +kernel
theorem dX7_image_22 : decode cX7_image 22 = .ok (.invokevirtual 208, 3) := by decide +kernel
theorem dX7_image_25 : decode cX7_image 25 = .ok (.aload_n 0, 1) := by decide +kernel
theorem dX7_image_26 : decode cX7_image 26 = .ok (.dup, 1) := by decide +kernel
theorem dX7_image_27 : decode cX7_image 27 = .ok (.getfield 20, 3) := by decide +kernel
theorem dX7_image_30 : decode cX7_image 30 = .ok (.iconst 1, 1) := by decide +kernel
theorem dX7_image_31 : decode cX7_image 31 = .ok (.iload_n 1, 1) := by decide +kernel
theorem dX7_image_32 : decode cX7_image 32 = .ok (.ishl, 1) := by decide +kernel
theorem dX7_image_33 : decode cX7_image 33 = .ok (.ior, 1) := by decide +kernel
theorem dX7_image_34 : decode cX7_image 34 = .ok (.putfield 20, 3) := by decide +kernel
theorem dX7_image_37 : decode cX7_image 37 = .ok (.iconst 1, 1) := by decide +kernel
theorem dX7_image_38 : decode cX7_image 38 = .ok (.ireturn, 1) := by decide +kernel
set_option maxRecDepth 20000 in
theorem ggX7_restore_X7_within : GoodIn wsX7_restore wsX7_within := goodIn_r _ [7] (by decide +kernel) (by decide +kernel)
set_option maxRecDepth 20000 in
theorem gX7_restore_X7_within : GoodIn wsX7_restore (va_wsS RX7 49 yX7_within wsX7_within) := goodIn_app (goodIn_of _ (by decide +kernel)) ggX7_restore_X7_within
set_option maxRecDepth 20000 in
theorem ggX7_restore_X6_copyFrom : GoodIn wsX7_restore wsX6_copyFrom := goodIn_r _ [12, 13, 14, 15, 16, 17, 18, 19, 20, 21, 22, 23, 24, 25, 26, 27, 28, 29, 30, 31, 32, 33, 34, 35, 36, 37, 38, 39, 40, 41, 42, 43, 44, 45, 52, 53, 54, 55, 56, 57, 58, 59, 60, 61, 62, 63, 64] (by decide +kernel) (by decide +kernel)
set_option maxRecDepth 20000 in
theorem gX7_restore_X6_copyFrom : GoodIn wsX7_restore (wsV RX7 208 RX6 yX6_copyFrom wsX6_copyFrom) := goodIn_app (goodIn_of _ (by decide +kernel)) ggX7_restore_X6_copyFrom
theorem dX7_restore_0 : decode cX7_restore 0 = .ok (.iload_n 1, 1) := by decide +kernel
theorem dX7_restore_1 : decode cX7_restore 1 = .ok (.iconst 0, 1) := by decide +kernel
theorem dX7_restore_2 : decode cX7_restore 2 = .ok (.iconst 1, 1) := by decide +kernel
theorem dX7_restore_3 : decode cX7_restore 3 = .ok (.invokestatic 49, 3) := by decide +kernel
theorem dX7_restore_6 : decode cX7_restore 6 = .ok (.ifCond .ne 6, 3) := by decide +kernel
theorem dX7_restore_9 : decode cX7_restore 9 = .ok (.bipush (-2), 2) := by decide +kernel
theorem dX7_restore_11 : decode cX7_restore 11 = .ok (.ireturn, 1) := by decide +kernel
theorem dX7_restore_12 : decode cX7_restore 12 = .ok (.aload_n 0, 1) := by decide +kernel
theorem dX7_restore_13 : decode cX7_restore 13 = .ok (.getfield 20, 3) := by decide +kernel
theorem dX7_restore_16 : decode cX7_restore 16 = .ok (.iload_n 1, 1) := by decide +kernel
theorem dX7_restore_17 : decode cX7_restore 17 = .ok (.ishr, 1) := by decide +kernel
theorem dX7_restore_18 : decode cX7_restore 18 = .ok (.iconst 1, 1) := by decide +kernel
theorem dX7_restore_19 : decode cX7_restore 19 = .ok (.iand, 1) := by decide +kernel
theorem dX7_restore_20 : decode cX7_restore 20 = .ok (.ifCond .ne 6, 3) := by decide +kernel
theorem dX7_restore_23 : decode cX7_restore 23 = .ok (.bipush (-3), 2) := by decide +kernel
theorem dX7_restore_25 : decode cX7_restore 25 = .ok (.ireturn, 1) := by decide +kernel
theorem dX7_restore_26 : decode cX7_restore 26 = .ok (.aload_n 0, 1) := by decide +kernel
theorem dX7_restore_27 : decode cX7_restore 27 = .ok (.getfield 12, 3) := by decide +kernel
theorem dX7_restore_30 : decode cX7_restore 30 = .ok (.aload_n 0, 1) := by decide +kernel
theorem dX7_restore_31 : decode cX7_restore 31 = .ok (.getfield 16, 3) := by decide +kernel
theorem dX7_restore_34 : decode cX7_restore 34 = .ok (.iload_n 1, 1) := by decide +kernel
theorem dX7_restore_35 : decode cX7_restore 35 = .ok (.aaload, 1) := by decide +kernel
theorem dX7_restore_36 : decode cX7_restore 36 = .ok (.invokevirtual 208, 3) := by decide +kernel
theorem dX7_restore_39 : decode cX7_restore 39 = .ok (.iconst 1, 1) := by decide +kernel
theorem dX7_restore_40 : decode cX7_restore 40 = .ok (.ireturn, 1) := by decide +kernel
set_option maxRecDepth 20000 in
theorem ggX7_count_X6_evenBars : GoodIn wsX7_count wsX6_evenBars := goodIn_r _ [9, 10, 11, 12, 13, 14, 15, 16, 17, 18, 19, 20, 21, 22, 23, 24, 25, 26, 27, 28, 29, 91, 92, 93, 94, 95, 96, 97, 98, 99] (by decide +kernel) (by decide +kernel)
set_option maxRecDepth 20000 in
theorem gX7_count_X6_evenBars : GoodIn wsX7_count (wsV RX7 211 RX6 yX6_evenBars wsX6_evenBars) := goodIn_app (goodIn_of _ (by decide +kernel)) ggX7_count_X6_evenBars
set_option maxRecDepth 20000 in
theorem ggX7_count_X6_nearPairs : GoodIn wsX7_count wsX6_nearPairs := goodIn_r _ [33, 34, 35, 36, 8, 37, 38, 20, 21, 22, 10, 39, 91, 92, 93, 94, 95, 96, 97] (by decide +kernel) (by decide +kernel)
set_option maxRecDepth 20000 in
theorem gX7_count_X6_nearPairs : GoodIn wsX7_count (wsV RX7 214 RX6 yX6_nearPairs wsX6_nearPairs) := goodIn_app (goodIn_of _ (by decide +kernel)) ggX7_count_X6_nearPairs
set_option maxRecDepth 20000 in
theorem ggX7_count_X7_lastEnd : GoodIn wsX7_count wsX7_lastEnd := goodIn_r _ [44, 45, 1, 2, 46, 47, 21, 48, 49, 50, 51, 52, 53, 54, 55, 56, 57, 58, 59, 60, 61, 62, 63, 64, 65, 8, 66, 67, 68, 69, 70, 71, 72, 73, 74, 75, 76, 77, 20, 22, 78, 79, 80, 81, 82, 83, 84, 85, 86, 87, 88, 89, 90, 91, 92, 93, 94, 100, 95, 96, 97, 101, 102, 103, 104] (by decide +kernel) (by decide +kernel)
set_option maxRecDepth 20000 in
theorem gX7_count_X7_lastEnd : GoodIn wsX7_count (wsV RX7 217 RX7 yX7_lastEnd wsX7_lastEnd) := goodIn_app (goodIn_of _ (by decide +kernel)) ggX7_count_X7_lastEnd
theorem dX7_count_0 : decode cX7_count 0 = .ok (.iload_n 1, 1) := by decide +kernel
theorem dX7_count_1 : decode cX7_count 1 = .ok (.tableswitch 81 0 5 #[39, 47, 55, 63, 71, 76], 39) := by decide +kernel
theorem dX7_count_40 : decode cX7_count 40 = .ok (.aload_n 0, 1) := by decide +kernel
theorem dX7_count_41 : decode cX7_count 41 = .ok (.getfield 12, 3) := by decide +kernel
theorem dX7_count_44 : decode cX7_count 44 = .ok (.getfield 123, 3) := by decide +kernel
theorem dX7_count_47 : decode cX7_count 47 = .ok (.ireturn, 1) := by decide +kernel
theorem dX7_count_48 : decode cX7_count 48 = .ok (.aload_n 0, 1) := by decide +kernel
theorem dX7_count_49 : decode cX7_count 49 = .ok (.getfield 12, 3) := by decide +kernel
theorem dX7_count_52 : decode cX7_count 52 = .ok (.getfield 57, 3) := by decide +kernel
theorem dX7_count_55 : decode cX7_count 55 = .ok (.ireturn, 1) := by decide +kernel
theorem dX7_count_56 : decode cX7_count 56 = .ok (.aload_n 0, 1) := by decide +kernel
theorem dX7_count_57 : decode cX7_count 57 = .ok (.getfield 12, 3) := by decide +kernel
theorem dX7_count_60 : decode cX7_count 60 = .ok (.invokevirtual 211, 3) := by decide +kernel
theorem dX7_count_63 : decode cX7_count 63 = .ok (.ireturn, 1) := by decide +kernel
theorem dX7_count_64 : decode cX7_count 64 = .ok (.aload_n 0, 1) := by decide +kernel
theorem dX7_count_65 : decode cX7_count 65 = .ok (.getfield 12, 3) := by decide +kernel
theorem dX7_count_68 : decode cX7_count 68 = .ok (.invokevirtual 214, 3) := by decide +kernel
theorem dX7_count_71 : decode cX7_count 71 = .ok (.ireturn, 1) := by decide +kernel
theorem dX7_count_72 : decode cX7_count 72 = .ok (.aload_n 0, 1) := by decide +kernel
theorem dX7_count_73 : decode cX7_count 73 = .ok (.invokevirtual 217, 3) := by decide +kernel
theorem dX7_count_76 : decode cX7_count 76 = .ok (.ireturn, 1) := by decide +kernel
theorem dX7_count_77 : decode cX7_count 77 = .ok (.aload_n 0, 1) := by decide +kernel
theorem dX7_count_78 : decode cX7_count 78 = .ok (.getfield 20, 3) := by decide +kernel
theorem dX7_count_81 : decode cX7_count 81 = .ok (.ireturn, 1) := by decide +kernel
theorem dX7_count_82 : decode cX7_count 82 = .ok (.bipush (-2), 2) := by decide +kernel
theorem dX7_count_84 : decode cX7_count 84 = .ok (.ireturn, 1) := by decide +kernel
theorem dX7_within_0 : decode cX7_within 0 = .ok (.iload_n 0, 1) := by decide +kernel
theorem dX7_within_1 : decode cX7_within 1 = .ok (.iload_n 1, 1) := by decide +kernel
theorem dX7_within_2 : decode cX7_within 2 = .ok (.if_icmp .lt 12, 3) := by decide +kernel
theorem dX7_within_5 : decode cX7_within 5 = .ok (.iload_n 0, 1) := by decide +kernel
theorem dX7_within_6 : decode cX7_within 6 = .ok (.iload_n 2, 1) := by decide +kernel
theorem dX7_within_7 : decode cX7_within 7 = .ok (.if_icmp .gt 7, 3) := by decide +kernel
theorem dX7_within_10 : decode cX7_within 10 = .ok (.iconst 1, 1) := by decide +kernel
theorem dX7_within_11 : decode cX7_within 11 = .ok (.goto 4, 3) := by decide +kernel
theorem dX7_within_14 : decode cX7_within 14 = .ok (.iconst 0, 1) := by decide +kernel
theorem dX7_within_15 : decode cX7_within 15 = .ok (.ireturn, 1) := by decide +kernel
set_option maxRecDepth 20000 in
theorem ggX7_isBar_X7_within : GoodIn wsX7_isBar wsX7_within := goodIn_r _ [4] (by decide +kernel) (by decide +kernel)
set_option maxRecDepth 20000 in
theorem gX7_isBar_X7_within : GoodIn wsX7_isBar (va_wsS RX7 49 yX7_within wsX7_within) := goodIn_app (goodIn_of _ (by decide +kernel)) ggX7_isBar_X7_within
theorem dX7_isBar_0 : decode cX7_isBar 0 = .ok (.iload_n 0, 1) := by decide +kernel
theorem dX7_isBar_1 : decode cX7_isBar 1 = .ok (.iconst 0, 1) := by decide +kernel
theorem dX7_isBar_2 : decode cX7_isBar 2 = .ok (.bipush 9, 2) := by decide +kernel
theorem dX7_isBar_4 : decode cX7_isBar 4 = .ok (.invokestatic 49, 3) := by decide +kernel
theorem dX7_isBar_7 : decode cX7_isBar 7 = .ok (.ireturn, 1) := by decide +kernel
set_option maxRecDepth 20000 in
theorem ggX7_isTime_X7_within : GoodIn wsX7_isTime wsX7_within := goodIn_r _ [4] (by decide +kernel) (by decide +kernel)
set_option maxRecDepth 20000 in
theorem gX7_isTime_X7_within : GoodIn wsX7_isTime (va_wsS RX7 49 yX7_within wsX7_within) := goodIn_app (goodIn_of _ (by decide +kernel)) ggX7_isTime_X7_within
theorem dX7_isTime_0 : decode cX7_isTime 0 = .ok (.iload_n 0, 1) := by decide +kernel
theorem dX7_isTime_1 : decode cX7_isTime 1 = .ok (.iconst 0, 1) := by decide +kernel
theorem dX7_isTime_2 : decode cX7_isTime 2 = .ok (.sipush 300, 3) := by decide +kernel
theorem dX7_isTime_5 : decode cX7_isTime 5 = .ok (.invokestatic 49, 3) := by decide +kernel
theorem dX7_isTime_8 : decode cX7_isTime 8 = .ok (.ireturn, 1) := by decide +kernel
set_option maxRecDepth 20000 in
theorem ggX7_isMove_X7_within : GoodIn wsX7_isMove wsX7_within := goodIn_r _ [6] (by decide +kernel) (by decide +kernel)
set_option maxRecDepth 20000 in
theorem gX7_isMove_X7_within : GoodIn wsX7_isMove (va_wsS RX7 49 yX7_within wsX7_within) := goodIn_app (goodIn_of _ (by decide +kernel)) ggX7_isMove_X7_within
theorem dX7_isMove_0 : decode cX7_isMove 0 = .ok (.iload_n 1, 1) := by decide +kernel
theorem dX7_isMove_1 : decode cX7_isMove 1 = .ok (.iconst 0, 1) := by decide +kernel
theorem dX7_isMove_2 : decode cX7_isMove 2 = .ok (.aload_n 0, 1) := by decide +kernel
theorem dX7_isMove_3 : decode cX7_isMove 3 = .ok (.getfield 12, 3) := by decide +kernel
theorem dX7_isMove_6 : decode cX7_isMove 6 = .ok (.getfield 123, 3) := by decide +kernel
theorem dX7_isMove_9 : decode cX7_isMove 9 = .ok (.iconst 1, 1) := by decide +kernel
theorem dX7_isMove_10 : decode cX7_isMove 10 = .ok (.isub, 1) := by decide +kernel
theorem dX7_isMove_11 : decode cX7_isMove 11 = .ok (.invokestatic 49, 3) := by decide +kernel
theorem dX7_isMove_14 : decode cX7_isMove 14 = .ok (.ireturn, 1) := by decide +kernel
set_option maxRecDepth 20000 in
theorem ggX7_flownBy_X2_trace : GoodIn wsX7_flownBy wsX2_trace := goodIn_r _ [12, 13, 14, 15, 16, 17, 18, 19, 20, 21, 22, 23, 24, 25, 26, 27, 28, 29, 30, 31, 32, 33, 34, 35, 36, 37, 58, 50, 51, 52, 53, 59, 60, 61, 54, 55, 56, 57] (by decide +kernel) (by decide +kernel)
set_option maxRecDepth 20000 in
theorem gX7_flownBy_X2_trace : GoodIn wsX7_flownBy (wsV RX7 167 RX2 yX2_trace wsX2_trace) := goodIn_app (goodIn_of _ (by decide +kernel)) ggX7_flownBy_X2_trace
set_option maxRecDepth 20000 in
theorem ggX7_flownBy_X2_endOf : GoodIn wsX7_flownBy wsX2_endOf := goodIn_r _ [41, 16, 42, 17, 13, 43, 18, 19, 20, 21, 22, 23, 24, 25, 26, 50, 51, 52, 53, 54, 55, 56, 57, 58] (by decide +kernel) (by decide +kernel)
set_option maxRecDepth 20000 in
theorem gX7_flownBy_X2_endOf : GoodIn wsX7_flownBy (wsV RX7 220 RX2 yX2_endOf wsX2_endOf) := goodIn_app (goodIn_of _ (by decide +kernel)) ggX7_flownBy_X2_endOf
theorem dX7_flownBy_0 : decode cX7_flownBy 0 = .ok (.aload_n 0, 1) := by decide +kernel
theorem dX7_flownBy_1 : decode cX7_flownBy 1 = .ok (.getfield 12, 3) := by decide +kernel
theorem dX7_flownBy_4 : decode cX7_flownBy 4 = .ok (.getfield 136, 3) := by decide +kernel
theorem dX7_flownBy_7 : decode cX7_flownBy 7 = .ok (.iload_n 1, 1) := by decide +kernel
theorem dX7_flownBy_8 : decode cX7_flownBy 8 = .ok (.aaload, 1) := by decide +kernel
theorem dX7_flownBy_9 : decode cX7_flownBy 9 = .ok (.astore_n 3, 1) := by decide +kernel
theorem dX7_flownBy_10 : decode cX7_flownBy 10 = .ok (.aload_n 0, 1) := by decide +kernel
theorem dX7_flownBy_11 : decode cX7_flownBy 11 = .ok (.getfield 34, 3) := by decide +kernel
theorem dX7_flownBy_14 : decode cX7_flownBy 14 = .ok (.aload_n 0, 1) := by decide +kernel
theorem dX7_flownBy_15 : decode cX7_flownBy 15 = .ok (.getfield 12, 3) := by decide +kernel
theorem dX7_flownBy_18 : decode cX7_flownBy 18 = .ok (.aload_n 3, 1) := by decide +kernel
theorem dX7_flownBy_19 : decode cX7_flownBy 19 = .ok (.getfield 145, 3) := by decide +kernel
theorem dX7_flownBy_22 : decode cX7_flownBy 22 = .ok (.invokevirtual 167, 3) := by decide +kernel
theorem dX7_flownBy_25 : decode cX7_flownBy 25 = .ok (.aload_n 0, 1) := by decide +kernel
theorem dX7_flownBy_26 : decode cX7_flownBy 26 = .ok (.getfield 34, 3) := by decide +kernel
theorem dX7_flownBy_29 : decode cX7_flownBy 29 = .ok (.aload_n 0, 1) := by decide +kernel
theorem dX7_flownBy_30 : decode cX7_flownBy 30 = .ok (.getfield 12, 3) := by decide +kernel
theorem dX7_flownBy_33 : decode cX7_flownBy 33 = .ok (.iload_n 1, 1) := by decide +kernel
theorem dX7_flownBy_34 : decode cX7_flownBy 34 = .ok (.invokevirtual 220, 3) := by decide +kernel
theorem dX7_flownBy_37 : decode cX7_flownBy 37 = .ok (.istore 4, 2) := by decide +kernel
theorem dX7_flownBy_39 : decode cX7_flownBy 39 = .ok (.aload_n 0, 1) := by decide +kernel
theorem dX7_flownBy_40 : decode cX7_flownBy 40 = .ok (.getfield 34, 3) := by decide +kernel
theorem dX7_flownBy_43 : decode cX7_flownBy 43 = .ok (.getfield 171, 3) := by decide +kernel
theorem dX7_flownBy_46 : decode cX7_flownBy 46 = .ok (.aload_n 3, 1) := by decide +kernel
theorem dX7_flownBy_47 : decode cX7_flownBy 47 = .ok (.getfield 145, 3) := by decide +kernel
theorem dX7_flownBy_50 : decode cX7_flownBy 50 = .ok (.aaload, 1) := by decide +kernel
theorem dX7_flownBy_51 : decode cX7_flownBy 51 = .ok (.iload 4, 2) := by decide +kernel
theorem dX7_flownBy_53 : decode cX7_flownBy 53 = .ok (.iaload, 1) := by decide +kernel
theorem dX7_flownBy_54 : decode cX7_flownBy 54 = .ok (.istore 5, 2) := by decide +kernel
theorem dX7_flownBy_56 : decode cX7_flownBy 56 = .ok (.iload_n 2, 1) := by decide +kernel
theorem dX7_flownBy_57 : decode cX7_flownBy 57 = .ok (.tableswitch 51 4 6 #[27, 30, 48], 27) := by decide +kernel
theorem dX7_flownBy_84 : decode cX7_flownBy 84 = .ok (.iload 4, 2) := by decide +kernel
theorem dX7_flownBy_86 : decode cX7_flownBy 86 = .ok (.ireturn, 1) := by decide +kernel
theorem dX7_flownBy_87 : decode cX7_flownBy 87 = .ok (.aload_n 0, 1) := by decide +kernel
theorem dX7_flownBy_88 : decode cX7_flownBy 88 = .ok (.getfield 34, 3) := by decide +kernel
theorem dX7_flownBy_91 : decode cX7_flownBy 91 = .ok (.getfield 171, 3) := by decide +kernel
theorem dX7_flownBy_94 : decode cX7_flownBy 94 = .ok (.aload_n 3, 1) := by decide +kernel
theorem dX7_flownBy_95 : decode cX7_flownBy 95 = .ok (.getfield 145, 3) := by decide +kernel
theorem dX7_flownBy_98 : decode cX7_flownBy 98 = .ok (.aaload, 1) := by decide +kernel
theorem dX7_flownBy_99 : decode cX7_flownBy 99 = .ok (.aload_n 3, 1) := by decide +kernel
theorem dX7_flownBy_100 : decode cX7_flownBy 100 = .ok (.getfield 140, 3) := by decide +kernel
theorem dX7_flownBy_103 : decode cX7_flownBy 103 = .ok (.iaload, 1) := by decide +kernel
theorem dX7_flownBy_104 : decode cX7_flownBy 104 = .ok (.ireturn, 1) := by decide +kernel
theorem dX7_flownBy_105 : decode cX7_flownBy 105 = .ok (.iload 5, 2) := by decide +kernel
theorem dX7_flownBy_107 : decode cX7_flownBy 107 = .ok (.ireturn, 1) := by decide +kernel
theorem dX7_flownBy_108 : decode cX7_flownBy 108 = .ok (.iload 5, 2) := by decide +kernel
theorem dX7_flownBy_110 : decode cX7_flownBy 110 = .ok (.aload_n 3, 1) := by decide +kernel
theorem dX7_flownBy_111 : decode cX7_flownBy 111 = .ok (.getfield 148, 3) := by decide +kernel
theorem dX7_flownBy_114 : decode cX7_flownBy 114 = .ok (.if_icmp .eq 7, 3) := by decide +kernel
theorem dX7_flownBy_117 : decode cX7_flownBy 117 = .ok (.iconst 1, 1) := by decide +kernel
theorem dX7_flownBy_118 : decode cX7_flownBy 118 = .ok (.goto 4, 3) := by decide +kernel
theorem dX7_flownBy_121 : decode cX7_flownBy 121 = .ok (.iconst 0, 1) := by decide +kernel
theorem dX7_flownBy_122 : decode cX7_flownBy 122 = .ok (.ireturn, 1) := by decide +kernel
set_option maxRecDepth 20000 in
theorem ggX7_lastEnd_X2_traceAll : GoodIn wsX7_lastEnd wsX2_traceAll := goodIn_r _ [12, 13, 14, 15, 11, 16, 17, 18, 19, 20, 21, 22, 23, 24, 25, 26, 27, 28, 29, 30, 31, 32, 33, 34, 35, 36, 37, 38, 6, 39, 40, 57, 53, 54, 55, 56, 58, 59, 60, 61, 62, 63, 64] (by decide +kernel) (by decide +kernel)
set_option maxRecDepth 20000 in
theorem gX7_lastEnd_X2_traceAll : GoodIn wsX7_lastEnd (wsV RX7 183 RX2 yX2_traceAll wsX2_traceAll) := goodIn_app (goodIn_of _ (by decide +kernel)) ggX7_lastEnd_X2_traceAll
set_option maxRecDepth 20000 in
theorem ggX7_lastEnd_X2_endOf : GoodIn wsX7_lastEnd wsX2_endOf := goodIn_r _ [44, 20, 45, 21, 17, 46, 22, 23, 24, 25, 26, 27, 28, 29, 30, 53, 54, 55, 56, 61, 62, 63, 64, 57] (by decide +kernel) (by decide +kernel)
set_option maxRecDepth 20000 in
theorem gX7_lastEnd_X2_endOf : GoodIn wsX7_lastEnd (wsV RX7 220 RX2 yX2_endOf wsX2_endOf) := goodIn_app (goodIn_of _ (by decide +kernel)) ggX7_lastEnd_X2_endOf
theorem dX7_lastEnd_0 : decode cX7_lastEnd 0 = .ok (.aload_n 0, 1) := by decide +kernel
theorem dX7_lastEnd_1 : decode cX7_lastEnd 1 = .ok (.getfield 34, 3) := by decide +kernel
theorem dX7_lastEnd_4 : decode cX7_lastEnd 4 = .ok (.aload_n 0, 1) := by decide +kernel
theorem dX7_lastEnd_5 : decode cX7_lastEnd 5 = .ok (.getfield 12, 3) := by decide +kernel
theorem dX7_lastEnd_8 : decode cX7_lastEnd 8 = .ok (.invokevirtual 183, 3) := by decide +kernel
theorem dX7_lastEnd_11 : decode cX7_lastEnd 11 = .ok (.bipush (-6), 2) := by decide +kernel
theorem dX7_lastEnd_13 : decode cX7_lastEnd 13 = .ok (.istore_n 1, 1) := by decide +kernel
theorem dX7_lastEnd_14 : decode cX7_lastEnd 14 = .ok (.iconst 0, 1) := by decide +kernel
theorem dX7_lastEnd_15 : decode cX7_lastEnd 15 = .ok (.istore_n 2, 1) := by decide +kernel
theorem dX7_lastEnd_16 : decode cX7_lastEnd 16 = .ok (.iload_n 2, 1) := by decide +kernel
theorem dX7_lastEnd_17 : decode cX7_lastEnd 17 = .ok (.aload_n 0, 1) := by decide +kernel
theorem dX7_lastEnd_18 : decode cX7_lastEnd 18 = .ok (.getfield 12, 3) := by decide +kernel
theorem dX7_lastEnd_21 : decode cX7_lastEnd 21 = .ok (.getfield 123, 3) := by decide +kernel
theorem dX7_lastEnd_24 : decode cX7_lastEnd 24 = .ok (.if_icmp .ge 26, 3) := by decide +kernel
theorem dX7_lastEnd_27 : decode cX7_lastEnd 27 = .ok (.iload_n 1, 1) := by decide +kernel
theorem dX7_lastEnd_28 : decode cX7_lastEnd 28 = .ok (.aload_n 0, 1) := by decide +kernel
theorem dX7_lastEnd_29 : decode cX7_lastEnd 29 = .ok (.getfield 34, 3) := by decide +kernel
theorem dX7_lastEnd_32 : decode cX7_lastEnd 32 = .ok (.aload_n 0, 1) := by decide +kernel
theorem dX7_lastEnd_33 : decode cX7_lastEnd 33 = .ok (.getfield 12, 3) := by decide +kernel
theorem dX7_lastEnd_36 : decode cX7_lastEnd 36 = .ok (.iload_n 2, 1) := by decide +kernel
theorem dX7_lastEnd_37 : decode cX7_lastEnd 37 = .ok (.invokevirtual 220, 3) := by decide +kernel
theorem dX7_lastEnd_40 : decode cX7_lastEnd 40 = .ok (.invokestatic 224, 3) := by decide +kernel
theorem dX7_lastEnd_43 : decode cX7_lastEnd 43 = .ok (.istore_n 1, 1) := by decide +kernel
theorem dX7_lastEnd_44 : decode cX7_lastEnd 44 = .ok (.iinc 2 1, 3) := by decide +kernel
theorem dX7_lastEnd_47 : decode cX7_lastEnd 47 = .ok (.goto (-31), 3) := by decide +kernel
theorem dX7_lastEnd_50 : decode cX7_lastEnd 50 = .ok (.iload_n 1, 1) := by decide +kernel
theorem dX7_lastEnd_51 : decode cX7_lastEnd 51 = .ok (.ireturn, 1) := by decide +kernel
theorem dX8_init_0 : decode cX8_init 0 = .ok (.aload_n 0, 1) := by decide +kernel
theorem dX8_init_1 : decode cX8_init 1 = .ok (.invokespecial 1, 3) := by decide +kernel
theorem dX8_init_4 : decode cX8_init 4 = .ok (.aload_n 0, 1) := by decide +kernel
theorem dX8_init_5 : decode cX8_init 5 = .ok (.sipush 212, 3) := by decide +kernel
theorem dX8_init_8 : decode cX8_init 8 = .ok (.newarray .int, 2) := by decide +kernel
theorem dX8_init_10 : decode cX8_init 10 = .ok (.putfield 7, 3) := by decide +kernel
theorem dX8_init_13 : decode cX8_init 13 = .ok (.aload_n 0, 1) := by decide +kernel
theorem dX8_init_14 : decode cX8_init 14 = .ok (.sipush 424, 3) := by decide +kernel
theorem dX8_init_17 : decode cX8_init 17 = .ok (.newarray .int, 2) := by decide +kernel
theorem dX8_init_19 : decode cX8_init 19 = .ok (.putfield 13, 3) := by decide +kernel
theorem dX8_init_22 : decode cX8_init 22 = .ok (.aload_n 0, 1) := by decide +kernel
theorem dX8_init_23 : decode cX8_init 23 = .ok (.iconst 2, 1) := by decide +kernel
theorem dX8_init_24 : decode cX8_init 24 = .ok (.newarray .boolean, 2) := by decide +kernel
theorem dX8_init_26 : decode cX8_init 26 = .ok (.putfield 16, 3) := by decide +kernel
theorem dX8_init_29 : decode cX8_init 29 = .ok (.aload_n 0, 1) := by decide +kernel
theorem dX8_init_30 : decode cX8_init 30 = .ok (.sipush 4096, 3) := by decide +kernel
theorem dX8_init_33 : decode cX8_init 33 = .ok (.newarray .int, 2) := by decide +kernel
theorem dX8_init_35 : decode cX8_init 35 = .ok (.putfield 20, 3) := by decide +kernel
theorem dX8_init_38 : decode cX8_init 38 = .ok (.aload_n 0, 1) := by decide +kernel
theorem dX8_init_39 : decode cX8_init 39 = .ok (.sipush 301, 3) := by decide +kernel
theorem dX8_init_42 : decode cX8_init 42 = .ok (.newarray .int, 2) := by decide +kernel
theorem dX8_init_44 : decode cX8_init 44 = .ok (.putfield 23, 3) := by decide +kernel
theorem dX8_init_47 : decode cX8_init 47 = .ok (.aload_n 0, 1) := by decide +kernel
theorem dX8_init_48 : decode cX8_init 48 = .ok (.sipush 3010, 3) := by decide +kernel
theorem dX8_init_51 : decode cX8_init 51 = .ok (.newarray .int, 2) := by decide +kernel
theorem dX8_init_53 : decode cX8_init 53 = .ok (.putfield 26, 3) := by decide +kernel
theorem dX8_init_56 : decode cX8_init 56 = .ok (.aload_n 0, 1) := by decide +kernel
theorem dX8_init_57 : decode cX8_init 57 = .ok (.bipush 10, 2) := by decide +kernel
theorem dX8_init_59 : decode cX8_init 59 = .ok (.newarray .int, 2) := by decide +kernel
theorem dX8_init_61 : decode cX8_init 61 = .ok (.putfield 29, 3) := by decide +kernel
theorem dX8_init_64 : decode cX8_init 64 = .ok (.aload_n 0, 1) := by decide +kernel
theorem dX8_init_65 : decode cX8_init 65 = .ok (.bipush 10, 2) := by decide +kernel
theorem dX8_init_67 : decode cX8_init 67 = .ok (.newarray .int, 2) := by decide +kernel
theorem dX8_init_69 : decode cX8_init 69 = .ok (.putfield 32, 3) := by decide +kernel
theorem dX8_init_72 : decode cX8_init 72 = .ok (.aload_n 0, 1) := by decide +kernel
theorem dX8_init_73 : decode cX8_init 73 = .ok (.sipush 1024, 3) := by decide +kernel
theorem dX8_init_76 : decode cX8_init 76 = .ok (.newarray .boolean, 2) := by decide +kernel
theorem dX8_init_78 : decode cX8_init 78 = .ok (.putfield 35, 3) := by decide +kernel
theorem dX8_init_81 : decode cX8_init 81 = .ok (.aload_n 0, 1) := by decide +kernel
theorem dX8_init_82 : decode cX8_init 82 = .ok (.sipush 1024, 3) := by decide +kernel
theorem dX8_init_85 : decode cX8_init 85 = .ok (.newarray .int, 2) := by decide +kernel
theorem dX8_init_87 : decode cX8_init 87 = .ok (.putfield 38, 3) := by decide +kernel
theorem dX8_init_90 : decode cX8_init 90 = .ok (.aload_n 0, 1) := by decide +kernel
theorem dX8_init_91 : decode cX8_init 91 = .ok (.bipush 10, 2) := by decide +kernel
theorem dX8_init_93 : decode cX8_init 93 = .ok (.newarray .int, 2) := by decide +kernel
theorem dX8_init_95 : decode cX8_init 95 = .ok (.putfield 41, 3) := by decide +kernel
theorem dX8_init_98 : decode cX8_init 98 = .ok (.iconst 0, 1) := by decide +kernel
theorem dX8_init_99 : decode cX8_init 99 = .ok (.istore_n 1, 1) := by decide +kernel
theorem dX8_init_100 : decode cX8_init 100 = .ok (.iload_n 1, 1) := by decide +kernel
theorem dX8_init_101 : decode cX8_init 101 = .ok (.bipush 10, 2) := by decide +kernel
theorem dX8_init_103 : decode cX8_init 103 = .ok (.if_icmp .ge 19, 3) := by decide +kernel
theorem dX8_init_106 : decode cX8_init 106 = .ok (.aload_n 0, 1) := by decide +kernel
theorem dX8_init_107 : decode cX8_init 107 = .ok (.getfield 7, 3) := by decide +kernel
theorem dX8_init_110 : decode cX8_init 110 = .ok (.iconst 0, 1) := by decide +kernel
theorem dX8_init_111 : decode cX8_init 111 = .ok (.iload_n 1, 1) := by decide +kernel
theorem dX8_init_112 : decode cX8_init 112 = .ok (.iadd, 1) := by decide +kernel
theorem dX8_init_113 : decode cX8_init 113 = .ok (.bipush 60, 2) := by decide +kernel
theorem dX8_init_115 : decode cX8_init 115 = .ok (.iastore, 1) := by decide +kernel
theorem dX8_init_116 : decode cX8_init 116 = .ok (.iinc 1 1, 3) := by decide +kernel
theorem dX8_init_119 : decode cX8_init 119 = .ok (.goto (-19), 3) := by decide +kernel
theorem dX8_init_122 : decode cX8_init 122 = .ok (.aload_n 0, 1) := by decide +kernel
theorem dX8_init_123 : decode cX8_init 123 = .ok (.getfield 7, 3) := by decide +kernel
theorem dX8_init_126 : decode cX8_init 126 = .ok (.sipush 170, 3) := by decide +kernel
theorem dX8_init_129 : decode cX8_init 129 = .ok (.bipush 20, 2) := by decide +kernel
theorem dX8_init_131 : decode cX8_init 131 = .ok (.iastore, 1) := by decide +kernel
theorem dX8_init_132 : decode cX8_init 132 = .ok (.return_, 1) := by decide +kernel
theorem dX8_in_0 : decode cX8_in 0 = .ok (.iload_n 0, 1) := by decide +kernel
theorem dX8_in_1 : decode cX8_in 1 = .ok (.iload_n 1, 1) := by decide +kernel
theorem dX8_in_2 : decode cX8_in 2 = .ok (.if_icmp .lt 12, 3) := by decide +kernel
theorem dX8_in_5 : decode cX8_in 5 = .ok (.iload_n 0, 1) := by decide +kernel
theorem dX8_in_6 : decode cX8_in 6 = .ok (.iload_n 2, 1) := by decide +kernel
theorem dX8_in_7 : decode cX8_in 7 = .ok (.if_icmp .gt 7, 3) := by decide +kernel
theorem dX8_in_10 : decode cX8_in 10 = .ok (.iconst 1, 1) := by decide +kernel
theorem dX8_in_11 : decode cX8_in 11 = .ok (.goto 4, 3) := by decide +kernel
theorem dX8_in_14 : decode cX8_in 14 = .ok (.iconst 0, 1) := by decide +kernel
theorem dX8_in_15 : decode cX8_in 15 = .ok (.ireturn, 1) := by decide +kernel
set_option maxRecDepth 20000 in
theorem ggX8_isBar_X8_in : GoodIn wsX8_isBar wsX8_in := goodIn_r _ [4] (by decide +kernel) (by decide +kernel)
set_option maxRecDepth 20000 in
theorem gX8_isBar_X8_in : GoodIn wsX8_isBar (va_wsS RX8 44 yX8_in wsX8_in) := goodIn_app (goodIn_of _ (by decide +kernel)) ggX8_isBar_X8_in
theorem dX8_isBar_0 : decode cX8_isBar 0 = .ok (.iload_n 0, 1) := by decide +kernel
theorem dX8_isBar_1 : decode cX8_isBar 1 = .ok (.iconst 0, 1) := by decide +kernel
theorem dX8_isBar_2 : decode cX8_isBar 2 = .ok (.bipush 9, 2) := by decide +kernel
theorem dX8_isBar_4 : decode cX8_isBar 4 = .ok (.invokestatic 44, 3) := by decide +kernel
theorem dX8_isBar_7 : decode cX8_isBar 7 = .ok (.ireturn, 1) := by decide +kernel
set_option maxRecDepth 20000 in
theorem ggX8_isMove_X8_in : GoodIn wsX8_isMove wsX8_in := goodIn_r _ [5] (by decide +kernel) (by decide +kernel)
set_option maxRecDepth 20000 in
theorem gX8_isMove_X8_in : GoodIn wsX8_isMove (va_wsS RX8 44 yX8_in wsX8_in) := goodIn_app (goodIn_of _ (by decide +kernel)) ggX8_isMove_X8_in
theorem dX8_isMove_0 : decode cX8_isMove 0 = .ok (.iload_n 1, 1) := by decide +kernel
theorem dX8_isMove_1 : decode cX8_isMove 1 = .ok (.iconst 0, 1) := by decide +kernel
theorem dX8_isMove_2 : decode cX8_isMove 2 = .ok (.aload_n 0, 1) := by decide +kernel
theorem dX8_isMove_3 : decode cX8_isMove 3 = .ok (.getfield 7, 3) := by decide +kernel
theorem dX8_isMove_6 : decode cX8_isMove 6 = .ok (.sipush 211, 3) := by decide +kernel
theorem dX8_isMove_9 : decode cX8_isMove 9 = .ok (.iaload, 1) := by decide +kernel
theorem dX8_isMove_10 : decode cX8_isMove 10 = .ok (.iconst 1, 1) := by decide +kernel
theorem dX8_isMove_11 : decode cX8_isMove 11 = .ok (.isub, 1) := by decide +kernel
theorem dX8_isMove_12 : decode cX8_isMove 12 = .ok (.invokestatic 44, 3) := by decide +kernel
theorem dX8_isMove_15 : decode cX8_isMove 15 = .ok (.ireturn, 1) := by decide +kernel
theorem dX8_has_0 : decode cX8_has 0 = .ok (.iload_n 0, 1) := by decide +kernel
theorem dX8_has_1 : decode cX8_has 1 = .ok (.iload_n 1, 1) := by decide +kernel
theorem dX8_has_2 : decode cX8_has 2 = .ok (.ishr, 1) := by decide +kernel
theorem dX8_has_3 : decode cX8_has 3 = .ok (.iconst 1, 1) := by decide +kernel
theorem dX8_has_4 : decode cX8_has 4 = .ok (.iand, 1) := by decide +kernel
theorem dX8_has_5 : decode cX8_has 5 = .ok (.iconst 1, 1) := by decide +kernel
theorem dX8_has_6 : decode cX8_has 6 = .ok (.if_icmp .ne 7, 3) := by decide +kernel
theorem dX8_has_9 : decode cX8_has 9 = .ok (.iconst 1, 1) := by decide +kernel
theorem dX8_has_10 : decode cX8_has 10 = .ok (.goto 4, 3) := by decide +kernel
theorem dX8_has_13 : decode cX8_has 13 = .ok (.iconst 0, 1) := by decide +kernel
theorem dX8_has_14 : decode cX8_has 14 = .ok (.ireturn, 1) := by decide +kernel
theorem dX8_size_0 : decode cX8_size 0 = .ok (.iload_n 0, 1) := by decide +kernel
theorem dX8_size_1 : decode cX8_size 1 = .ok (.ifCond .ge 8, 3) := by decide +kernel
theorem dX8_size_4 : decode cX8_size 4 = .ok (.iload_n 0, 1) := by decide +kernel
theorem dX8_size_5 : decode cX8_size 5 = .ok (.ineg, 1) := by decide +kernel
theorem dX8_size_6 : decode cX8_size 6 = .ok (.goto 4, 3) := by decide +kernel
theorem dX8_size_9 : decode cX8_size 9 = .ok (.iload_n 0, 1) := by decide +kernel
theorem dX8_size_10 : decode cX8_size 10 = .ok (.ireturn, 1) := by decide +kernel
theorem dX8_many_0 : decode cX8_many 0 = .ok (.aload_n 0, 1) := by decide +kernel
theorem dX8_many_1 : decode cX8_many 1 = .ok (.getfield 7, 3) := by decide +kernel
theorem dX8_many_4 : decode cX8_many 4 = .ok (.bipush 30, 2) := by decide +kernel
theorem dX8_many_6 : decode cX8_many 6 = .ok (.bipush 10, 2) := by decide +kernel
theorem dX8_many_8 : decode cX8_many 8 = .ok (.iload_n 2, 1) := by decide +kernel
theorem dX8_many_9 : decode cX8_many 9 = .ok (.imul, 1) := by decide +kernel
theorem dX8_many_10 : decode cX8_many 10 = .ok (.iadd, 1) := by decide +kernel
theorem dX8_many_11 : decode cX8_many 11 = .ok (.iload_n 1, 1) := by decide +kernel
theorem dX8_many_12 : decode cX8_many 12 = .ok (.iadd, 1) := by decide +kernel
theorem dX8_many_13 : decode cX8_many 13 = .ok (.iaload, 1) := by decide +kernel
theorem dX8_many_14 : decode cX8_many 14 = .ok (.ireturn, 1) := by decide +kernel
theorem dX8_weight_0 : decode cX8_weight 0 = .ok (.aload_n 0, 1) := by decide +kernel
theorem dX8_weight_1 : decode cX8_weight 1 = .ok (.getfield 7, 3) := by decide +kernel
theorem dX8_weight_4 : decode cX8_weight 4 = .ok (.bipush 50, 2) := by decide +kernel
theorem dX8_weight_6 : decode cX8_weight 6 = .ok (.bipush 12, 2) := by decide +kernel
theorem dX8_weight_8 : decode cX8_weight 8 = .ok (.iload_n 1, 1) := by decide +kernel
theorem dX8_weight_9 : decode cX8_weight 9 = .ok (.imul, 1) := by decide +kernel
theorem dX8_weight_10 : decode cX8_weight 10 = .ok (.iadd, 1) := by decide +kernel
theorem dX8_weight_11 : decode cX8_weight 11 = .ok (.bipush 6, 2) := by decide +kernel
theorem dX8_weight_13 : decode cX8_weight 13 = .ok (.iload_n 2, 1) := by decide +kernel
theorem dX8_weight_14 : decode cX8_weight 14 = .ok (.imul, 1) := by decide +kernel
theorem dX8_weight_15 : decode cX8_weight 15 = .ok (.iadd, 1) := by decide +kernel
theorem dX8_weight_16 : decode cX8_weight 16 = .ok (.iload_n 3, 1) := by decide +kernel
theorem dX8_weight_17 : decode cX8_weight 17 = .ok (.iadd, 1) := by decide +kernel
theorem dX8_weight_18 : decode cX8_weight 18 = .ok (.iaload, 1) := by decide +kernel
theorem dX8_weight_19 : decode cX8_weight 19 = .ok (.ireturn, 1) := by decide +kernel
set_option maxRecDepth 20000 in
theorem ggX8_together_X8_many : GoodIn wsX8_together wsX8_many := goodIn_r _ [5, 6, 11, 12, 13, 14, 15, 16, 17, 18, 19, 20, 21, 22, 23] (by decide +kernel) (by decide +kernel)
set_option maxRecDepth 20000 in
theorem gX8_together_X8_many : GoodIn wsX8_together (wsV RX8 48 RX8 yX8_many wsX8_many) := goodIn_app (goodIn_of _ (by decide +kernel)) ggX8_together_X8_many
set_option maxRecDepth 20000 in
theorem ggX8_together_X8_weight : GoodIn wsX8_together wsX8_weight := goodIn_r _ [10, 6, 11, 12, 13, 14, 15, 16, 17, 18, 19, 20, 21, 22, 23] (by decide +kernel) (by decide +kernel)
set_option maxRecDepth 20000 in
theorem gX8_together_X8_weight : GoodIn wsX8_together (wsV RX8 52 RX8 yX8_weight wsX8_weight) := goodIn_app (goodIn_of _ (by decide +kernel)) ggX8_together_X8_weight
theorem dX8_together_0 : decode cX8_together 0 = .ok (.iconst 0, 1) := by decide +kernel
theorem dX8_together_1 : decode cX8_together 1 = .ok (.istore_n 3, 1) := by decide +kernel
theorem dX8_together_2 : decode cX8_together 2 = .ok (.iconst 0, 1) := by decide +kernel
theorem dX8_together_3 : decode cX8_together 3 = .ok (.istore 4, 2) := by decide +kernel
theorem dX8_together_5 : decode cX8_together 5 = .ok (.iload 4, 2) := by decide +kernel
theorem dX8_together_7 : decode cX8_together 7 = .ok (.aload_n 0, 1) := by decide +kernel
theorem dX8_together_8 : decode cX8_together 8 = .ok (.iload_n 1, 1) := by decide +kernel
theorem dX8_together_9 : decode cX8_together 9 = .ok (.iload_n 2, 1) := by decide +kernel
theorem dX8_together_10 : decode cX8_together 10 = .ok (.invokevirtual 48, 3) := by decide +kernel
theorem dX8_together_13 : decode cX8_together 13 = .ok (.if_icmp .ge 20, 3) := by decide +kernel
theorem dX8_together_16 : decode cX8_together 16 = .ok (.iload_n 3, 1) := by decide +kernel
theorem dX8_together_17 : decode cX8_together 17 = .ok (.aload_n 0, 1) := by decide +kernel
theorem dX8_together_18 : decode cX8_together 18 = .ok (.iload_n 1, 1) := by decide +kernel
theorem dX8_together_19 : decode cX8_together 19 = .ok (.iload_n 2, 1) := by decide +kernel
theorem dX8_together_20 : decode cX8_together 20 = .ok (.iload 4, 2) := by decide +kernel
theorem dX8_together_22 : decode cX8_together 22 = .ok (.invokevirtual 52, 3) := by decide +kernel
theorem dX8_together_25 : decode cX8_together 25 = .ok (.iadd, 1) := by decide +kernel
theorem dX8_together_26 : decode cX8_together 26 = .ok (.istore_n 3, 1) := by decide +kernel
theorem dX8_together_27 : decode cX8_together 27 = .ok (.iinc 4 1, 3) := by decide +kernel
theorem dX8_together_30 : decode cX8_together 30 = .ok (.goto (-25), 3) := by decide +kernel
theorem dX8_together_33 : decode cX8_together 33 = .ok (.iload_n 3, 1) := by decide +kernel
theorem dX8_together_34 : decode cX8_together 34 = .ok (.ireturn, 1) := by decide +kernel
set_option maxRecDepth 20000 in
theorem ggX8_isEven_X8_together : GoodIn wsX8_isEven wsX8_together := goodIn_r _ [6, 7, 8, 9, 5, 10, 1, 11, 12, 13, 14, 18, 19, 20, 21, 22, 23, 24, 25, 26, 27, 28, 29, 30] (by decide +kernel) (by decide +kernel)
set_option maxRecDepth 20000 in
theorem gX8_isEven_X8_together : GoodIn wsX8_isEven (wsV RX8 56 RX8 yX8_together wsX8_together) := goodIn_app (goodIn_of _ (by decide +kernel)) ggX8_isEven_X8_together
set_option maxRecDepth 20000 in
theorem ggX8_isEven_X8_size : GoodIn wsX8_isEven wsX8_size := goodIn_r _ [17] (by decide +kernel) (by decide +kernel)
set_option maxRecDepth 20000 in
theorem gX8_isEven_X8_size : GoodIn wsX8_isEven (va_wsS RX8 59 yX8_size wsX8_size) := goodIn_app (goodIn_of _ (by decide +kernel)) ggX8_isEven_X8_size
theorem dX8_isEven_0 : decode cX8_isEven 0 = .ok (.aload_n 0, 1) := by decide +kernel
theorem dX8_isEven_1 : decode cX8_isEven 1 = .ok (.iload_n 1, 1) := by decide +kernel
theorem dX8_isEven_2 : decode cX8_isEven 2 = .ok (.iconst 0, 1) := by decide +kernel
theorem dX8_isEven_3 : decode cX8_isEven 3 = .ok (.invokevirtual 56, 3) := by decide +kernel
theorem dX8_isEven_6 : decode cX8_isEven 6 = .ok (.aload_n 0, 1) := by decide +kernel
theorem dX8_isEven_7 : decode cX8_isEven 7 = .ok (.iload_n 1, 1) := by decide +kernel
theorem dX8_isEven_8 : decode cX8_isEven 8 = .ok (.iconst 1, 1) := by decide +kernel
theorem dX8_isEven_9 : decode cX8_isEven 9 = .ok (.invokevirtual 56, 3) := by decide +kernel
theorem dX8_isEven_12 : decode cX8_isEven 12 = .ok (.isub, 1) := by decide +kernel
theorem dX8_isEven_13 : decode cX8_isEven 13 = .ok (.invokestatic 59, 3) := by decide +kernel
theorem dX8_isEven_16 : decode cX8_isEven 16 = .ok (.aload_n 0, 1) := by decide +kernel
theorem dX8_isEven_17 : decode cX8_isEven 17 = .ok (.getfield 7, 3) := by decide +kernel
theorem dX8_isEven_20 : decode cX8_isEven 20 = .ok (.sipush 170, 3) := by decide +kernel
theorem dX8_isEven_23 : decode cX8_isEven 23 = .ok (.iaload, 1) := by decide +kernel
theorem dX8_isEven_24 : decode cX8_isEven 24 = .ok (.if_icmp .gt 7, 3) := by decide +kernel
theorem dX8_isEven_27 : decode cX8_isEven 27 = .ok (.iconst 1, 1) := by decide +kernel
theorem dX8_isEven_28 : decode cX8_isEven 28 = .ok (.goto 4, 3) := by decide +kernel
theorem dX8_isEven_31 : decode cX8_isEven 31 = .ok (.iconst 0, 1) := by decide +kernel
theorem dX8_isEven_32 : decode cX8_isEven 32 = .ok (.ireturn, 1) := by decide +kernel
set_option maxRecDepth 20000 in
theorem ggX8_set_X8_isBar : GoodIn wsX8_set wsX8_isBar := goodIn_r _ [5, 6, 7, 4, 8] (by decide +kernel) (by decide +kernel)
set_option maxRecDepth 20000 in
theorem gX8_set_X8_isBar : GoodIn wsX8_set (va_wsS RX8 63 yX8_isBar wsX8_isBar) := goodIn_app (goodIn_of _ (by decide +kernel)) ggX8_set_X8_isBar
set_option maxRecDepth 20000 in
theorem ggX8_set_X8_in : GoodIn wsX8_set wsX8_in := goodIn_r _ [8] (by decide +kernel) (by decide +kernel)
set_option maxRecDepth 20000 in
theorem gX8_set_X8_in : GoodIn wsX8_set (va_wsS RX8 44 yX8_in wsX8_in) := goodIn_app (goodIn_of _ (by decide +kernel)) ggX8_set_X8_in
theorem dX8_set_0 : decode cX8_set 0 = .ok (.iload_n 1, 1) := by decide +kernel
theorem dX8_set_1 : decode cX8_set 1 = .ok (.invokestatic 63, 3) := by decide +kernel
theorem dX8_set_4 : decode cX8_set 4 = .ok (.ifCond .ne 5, 3) := by decide +kernel
theorem dX8_set_7 : decode cX8_set 7 = .ok (.iconst (-1), 1) := by decide +kernel
theorem dX8_set_8 : decode cX8_set 8 = .ok (.ireturn, 1) := by decide +kernel
theorem dX8_set_9 : decode cX8_set 9 = .ok (.iload_n 2, 1) := by decide +kernel
theorem dX8_set_10 : decode cX8_set 10 = .ok (.iconst 0, 1) := by decide +kernel
theorem dX8_set_11 : decode cX8_set 11 = .ok (.iconst 3, 1) := by decide +kernel
theorem dX8_set_12 : decode cX8_set 12 = .ok (.invokestatic 44, 3) := by decide +kernel
theorem dX8_set_15 : decode cX8_set 15 = .ok (.ifCond .eq 41, 3) := by decide +kernel
theorem dX8_set_18 : decode cX8_set 18 = .ok (.iload_n 3, 1) := by decide +kernel
theorem dX8_set_19 : decode cX8_set 19 = .ok (.iconst 0, 1) := by decide +kernel
theorem dX8_set_20 : decode cX8_set 20 = .ok (.iload_n 2, 1) := by decide +kernel
theorem dX8_set_21 : decode cX8_set 21 = .ok (.ifCond .ne 8, 3) := by decide +kernel
theorem dX8_set_24 : decode cX8_set 24 = .ok (.bipush 60, 2) := by decide +kernel
theorem dX8_set_26 : decode cX8_set 26 = .ok (.goto 24, 3) := by decide +kernel
theorem dX8_set_29 : decode cX8_set 29 = .ok (.iload_n 2, 1) := by decide +kernel
theorem dX8_set_30 : decode cX8_set 30 = .ok (.iconst 1, 1) := by decide +kernel
theorem dX8_set_31 : decode cX8_set 31 = .ok (.if_icmp .ne 8, 3) := by decide +kernel
theorem dX8_set_34 : decode cX8_set 34 = .ok (.bipush 40, 2) := by decide +kernel
theorem dX8_set_36 : decode cX8_set 36 = .ok (.goto 14, 3) := by decide +kernel
theorem dX8_set_39 : decode cX8_set 39 = .ok (.iload_n 2, 1) := by decide +kernel
theorem dX8_set_40 : decode cX8_set 40 = .ok (.iconst 2, 1) := by decide +kernel
theorem dX8_set_41 : decode cX8_set 41 = .ok (.if_icmp .ne 7, 3) := by decide +kernel
theorem dX8_set_44 : decode cX8_set 44 = .ok (.iconst 3, 1) := by decide +kernel
theorem dX8_set_45 : decode cX8_set 45 = .ok (.goto 5, 3) := by decide +kernel
theorem dX8_set_48 : decode cX8_set 48 = .ok (.bipush 100, 2) := by decide +kernel
theorem dX8_set_50 : decode cX8_set 50 = .ok (.invokestatic 44, 3) := by decide +kernel
theorem dX8_set_53 : decode cX8_set 53 = .ok (.ifCond .ne 6, 3) := by decide +kernel
theorem dX8_set_56 : decode cX8_set 56 = .ok (.bipush (-2), 2) := by decide +kernel
theorem dX8_set_58 : decode cX8_set 58 = .ok (.ireturn, 1) := by decide +kernel
theorem dX8_set_59 : decode cX8_set 59 = .ok (.iload_n 2, 1) := by decide +kernel
theorem dX8_set_60 : decode cX8_set 60 = .ok (.iconst 3, 1) := by decide +kernel
theorem dX8_set_61 : decode cX8_set 61 = .ok (.if_icmp .ne 9, 3) := by decide +kernel
theorem dX8_set_64 : decode cX8_set 64 = .ok (.sipush 170, 3) := by decide +kernel
theorem dX8_set_67 : decode cX8_set 67 = .ok (.goto 9, 3) := by decide +kernel
theorem dX8_set_70 : decode cX8_set 70 = .ok (.bipush 10, 2) := by decide +kernel
theorem dX8_set_72 : decode cX8_set 72 = .ok (.iload_n 2, 1) := by decide +kernel
theorem dX8_set_73 : decode cX8_set 73 = .ok (.imul, 1) := by decide +kernel
theorem dX8_set_74 : decode cX8_set 74 = .ok (.iload_n 1, 1) := by decide +kernel
theorem dX8_set_75 : decode cX8_set 75 = .ok (.iadd, 1) := by decide +kernel
theorem dX8_set_76 : decode cX8_set 76 = .ok (.istore 4, 2) := by decide +kernel
theorem dX8_set_78 : decode cX8_set 78 = .ok (.aload_n 0, 1) := by decide +kernel
theorem dX8_set_79 : decode cX8_set 79 = .ok (.getfield 7, 3) := by decide +kernel
theorem dX8_set_82 : decode cX8_set 82 = .ok (.iload 4, 2) := by decide +kernel
theorem dX8_set_84 : decode cX8_set 84 = .ok (.iaload, 1) := by decide +kernel
theorem dX8_set_85 : decode cX8_set 85 = .ok (.istore 5, 2) := by decide +kernel
theorem dX8_set_87 : decode cX8_set 87 = .ok (.aload_n 0, 1) := by decide +kernel
theorem dX8_set_88 : decode cX8_set 88 = .ok (.getfield 7, 3) := by decide +kernel
theorem dX8_set_91 : decode cX8_set 91 = .ok (.iload 4, 2) := by decide +kernel
theorem dX8_set_93 : decode cX8_set 93 = .ok (.iload_n 3, 1) := by decide +kernel
theorem dX8_set_94 : decode cX8_set 94 = .ok (.iastore, 1) := by decide +kernel
theorem dX8_set_95 : decode cX8_set 95 = .ok (.iload 5, 2) := by decide +kernel
theorem dX8_set_97 : decode cX8_set 97 = .ok (.ireturn, 1) := by decide +kernel
set_option maxRecDepth 20000 in
theorem ggX8_load_X8_isBar : GoodIn wsX8_load wsX8_isBar := goodIn_r _ [5, 6, 7, 4, 8] (by decide +kernel) (by decide +kernel)
set_option maxRecDepth 20000 in
theorem gX8_load_X8_isBar : GoodIn wsX8_load (va_wsS RX8 63 yX8_isBar wsX8_isBar) := goodIn_app (goodIn_of _ (by decide +kernel)) ggX8_load_X8_isBar
set_option maxRecDepth 20000 in
theorem ggX8_load_X8_in : GoodIn wsX8_load wsX8_in := goodIn_r _ [8] (by decide +kernel) (by decide +kernel)
set_option maxRecDepth 20000 in
theorem gX8_load_X8_in : GoodIn wsX8_load (va_wsS RX8 44 yX8_in wsX8_in) := goodIn_app (goodIn_of _ (by decide +kernel)) ggX8_load_X8_in
set_option maxRecDepth 20000 in
theorem ggX8_load_X8_many : GoodIn wsX8_load wsX8_many := goodIn_r _ [12, 1, 13, 14, 15, 16, 17, 18, 19, 20, 21, 22, 23, 24, 25] (by decide +kernel) (by decide +kernel)
set_option maxRecDepth 20000 in
theorem gX8_load_X8_many : GoodIn wsX8_load (wsV RX8 48 RX8 yX8_many wsX8_many) := goodIn_app (goodIn_of _ (by decide +kernel)) ggX8_load_X8_many
theorem dX8_load_0 : decode cX8_load 0 = .ok (.iload_n 1, 1) := by decide +kernel
theorem dX8_load_1 : decode cX8_load 1 = .ok (.invokestatic 63, 3) := by decide +kernel
theorem dX8_load_4 : decode cX8_load 4 = .ok (.ifCond .ne 5, 3) := by decide +kernel
theorem dX8_load_7 : decode cX8_load 7 = .ok (.iconst (-1), 1) := by decide +kernel
theorem dX8_load_8 : decode cX8_load 8 = .ok (.ireturn, 1) := by decide +kernel
theorem dX8_load_9 : decode cX8_load 9 = .ok (.iload_n 2, 1) := by decide +kernel
theorem dX8_load_10 : decode cX8_load 10 = .ok (.iconst 0, 1) := by decide +kernel
theorem dX8_load_11 : decode cX8_load 11 = .ok (.iconst 1, 1) := by decide +kernel
theorem dX8_load_12 : decode cX8_load 12 = .ok (.invokestatic 44, 3) := by decide +kernel
theorem dX8_load_15 : decode cX8_load 15 = .ok (.ifCond .eq 13, 3) := by decide +kernel
theorem dX8_load_18 : decode cX8_load 18 = .ok (.iload_n 3, 1) := by decide +kernel
theorem dX8_load_19 : decode cX8_load 19 = .ok (.iconst 1, 1) := by decide +kernel
theorem dX8_load_20 : decode cX8_load 20 = .ok (.bipush 50, 2) := by decide +kernel
theorem dX8_load_22 : decode cX8_load 22 = .ok (.invokestatic 44, 3) := by decide +kernel
theorem dX8_load_25 : decode cX8_load 25 = .ok (.ifCond .ne 6, 3) := by decide +kernel
theorem dX8_load_28 : decode cX8_load 28 = .ok (.bipush (-2), 2) := by decide +kernel
theorem dX8_load_30 : decode cX8_load 30 = .ok (.ireturn, 1) := by decide +kernel
theorem dX8_load_31 : decode cX8_load 31 = .ok (.aload_n 0, 1) := by decide +kernel
theorem dX8_load_32 : decode cX8_load 32 = .ok (.iload_n 1, 1) := by decide +kernel
theorem dX8_load_33 : decode cX8_load 33 = .ok (.iload_n 2, 1) := by decide +kernel
theorem dX8_load_34 : decode cX8_load 34 = .ok (.invokevirtual 48, 3) := by decide +kernel
theorem dX8_load_37 : decode cX8_load 37 = .ok (.istore 4, 2) := by decide +kernel
theorem dX8_load_39 : decode cX8_load 39 = .ok (.iload 4, 2) := by decide +kernel
theorem dX8_load_41 : decode cX8_load 41 = .ok (.bipush 6, 2) := by decide +kernel
theorem dX8_load_43 : decode cX8_load 43 = .ok (.if_icmp .ne 6, 3) := by decide +kernel
theorem dX8_load_46 : decode cX8_load 46 = .ok (.bipush (-4), 2) := by decide +kernel
theorem dX8_load_48 : decode cX8_load 48 = .ok (.ireturn, 1) := by decide +kernel
theorem dX8_load_49 : decode cX8_load 49 = .ok (.aload_n 0, 1) := by decide +kernel
theorem dX8_load_50 : decode cX8_load 50 = .ok (.getfield 7, 3) := by decide +kernel
theorem dX8_load_53 : decode cX8_load 53 = .ok (.bipush 50, 2) := by decide +kernel
theorem dX8_load_55 : decode cX8_load 55 = .ok (.bipush 12, 2) := by decide +kernel
theorem dX8_load_57 : decode cX8_load 57 = .ok (.iload_n 1, 1) := by decide +kernel
theorem dX8_load_58 : decode cX8_load 58 = .ok (.imul, 1) := by decide +kernel
theorem dX8_load_59 : decode cX8_load 59 = .ok (.iadd, 1) := by decide +kernel
theorem dX8_load_60 : decode cX8_load 60 = .ok (.bipush 6, 2) := by decide +kernel
theorem dX8_load_62 : decode cX8_load 62 = .ok (.iload_n 2, 1) := by decide +kernel
theorem dX8_load_63 : decode cX8_load 63 = .ok (.imul, 1) := by decide +kernel
theorem dX8_load_64 : decode cX8_load 64 = .ok (.iadd, 1) := by decide +kernel
theorem dX8_load_65 : decode cX8_load 65 = .ok (.iload 4, 2) := by decide +kernel
theorem dX8_load_67 : decode cX8_load 67 = .ok (.iadd, 1) := by decide +kernel
theorem dX8_load_68 : decode cX8_load 68 = .ok (.iload_n 3, 1) := by decide +kernel
theorem dX8_load_69 : decode cX8_load 69 = .ok (.iastore, 1) := by decide +kernel
theorem dX8_load_70 : decode cX8_load 70 = .ok (.aload_n 0, 1) := by decide +kernel
theorem dX8_load_71 : decode cX8_load 71 = .ok (.getfield 7, 3) := by decide +kernel
theorem dX8_load_74 : decode cX8_load 74 = .ok (.bipush 30, 2) := by decide +kernel
theorem dX8_load_76 : decode cX8_load 76 = .ok (.bipush 10, 2) := by decide +kernel
theorem dX8_load_78 : decode cX8_load 78 = .ok (.iload_n 2, 1) := by decide +kernel
theorem dX8_load_79 : decode cX8_load 79 = .ok (.imul, 1) := by decide +kernel
theorem dX8_load_80 : decode cX8_load 80 = .ok (.iadd, 1) := by decide +kernel
theorem dX8_load_81 : decode cX8_load 81 = .ok (.iload_n 1, 1) := by decide +kernel
theorem dX8_load_82 : decode cX8_load 82 = .ok (.iadd, 1) := by decide +kernel
theorem dX8_load_83 : decode cX8_load 83 = .ok (.dup2, 1) := by decide +kernel
theorem dX8_load_84 : decode cX8_load 84 = .ok (.iaload, 1) := by decide +kernel
theorem dX8_load_85 : decode cX8_load 85 = .ok (.iconst 1, 1) := by decide +kernel
theorem dX8_load_86 : decode cX8_load 86 = .ok (.iadd, 1) := by decide +kernel
theorem dX8_load_87 : decode cX8_load 87 = .ok (.iastore, 1) := by decide +kernel
theorem dX8_load_88 : decode cX8_load 88 = .ok (.iload 4, 2) := by decide +kernel
theorem dX8_load_90 : decode cX8_load 90 = .ok (.iconst 1, 1) := by decide +kernel
theorem dX8_load_91 : decode cX8_load 91 = .ok (.iadd, 1) := by decide +kernel
theorem dX8_load_92 : decode cX8_load 92 = .ok (.ireturn, 1) := by decide +kernel
set_option maxRecDepth 20000 in
theorem ggX8_take_X8_isBar : GoodIn wsX8_take wsX8_isBar := goodIn_r _ [5, 6, 7, 4, 8] (by decide +kernel) (by decide +kernel)
set_option maxRecDepth 20000 in
theorem gX8_take_X8_isBar : GoodIn wsX8_take (va_wsS RX8 63 yX8_isBar wsX8_isBar) := goodIn_app (goodIn_of _ (by decide +kernel)) ggX8_take_X8_isBar
set_option maxRecDepth 20000 in
theorem ggX8_take_X8_in : GoodIn wsX8_take wsX8_in := goodIn_r _ [8] (by decide +kernel) (by decide +kernel)
set_option maxRecDepth 20000 in
theorem gX8_take_X8_in : GoodIn wsX8_take (va_wsS RX8 44 yX8_in wsX8_in) := goodIn_app (goodIn_of _ (by decide +kernel)) ggX8_take_X8_in
set_option maxRecDepth 20000 in
theorem ggX8_take_X8_many : GoodIn wsX8_take wsX8_many := goodIn_r _ [12, 1, 17, 18, 19, 20, 21, 22, 23, 24, 25, 26, 27, 28, 29] (by decide +kernel) (by decide +kernel)
set_option maxRecDepth 20000 in
theorem gX8_take_X8_many : GoodIn wsX8_take (wsV RX8 48 RX8 yX8_many wsX8_many) := goodIn_app (goodIn_of _ (by decide +kernel)) ggX8_take_X8_many
set_option maxRecDepth 20000 in
theorem ggX8_take_X8_weight : GoodIn wsX8_take wsX8_weight := goodIn_r _ [16, 1, 17, 18, 19, 20, 21, 22, 23, 24, 25, 26, 27, 28, 29] (by decide +kernel) (by decide +kernel)
set_option maxRecDepth 20000 in
theorem gX8_take_X8_weight : GoodIn wsX8_take (wsV RX8 52 RX8 yX8_weight wsX8_weight) := goodIn_app (goodIn_of _ (by decide +kernel)) ggX8_take_X8_weight
theorem dX8_take_0 : decode cX8_take 0 = .ok (.iload_n 1, 1) := by decide +kernel
theorem dX8_take_1 : decode cX8_take 1 = .ok (.invokestatic 63, 3) := by decide +kernel
theorem dX8_take_4 : decode cX8_take 4 = .ok (.ifCond .ne 5, 3) := by decide +kernel
theorem dX8_take_7 : decode cX8_take 7 = .ok (.iconst (-1), 1) := by decide +kernel
theorem dX8_take_8 : decode cX8_take 8 = .ok (.ireturn, 1) := by decide +kernel
theorem dX8_take_9 : decode cX8_take 9 = .ok (.iload_n 2, 1) := by decide +kernel
theorem dX8_take_10 : decode cX8_take 10 = .ok (.iconst 0, 1) := by decide +kernel
theorem dX8_take_11 : decode cX8_take 11 = .ok (.iconst 1, 1) := by decide +kernel
theorem dX8_take_12 : decode cX8_take 12 = .ok (.invokestatic 44, 3) := by decide +kernel
theorem dX8_take_15 : decode cX8_take 15 = .ok (.ifCond .ne 6, 3) := by decide +kernel
theorem dX8_take_18 : decode cX8_take 18 = .ok (.bipush (-2), 2) := by decide +kernel
theorem dX8_take_20 : decode cX8_take 20 = .ok (.ireturn, 1) := by decide +kernel
theorem dX8_take_21 : decode cX8_take 21 = .ok (.iload_n 3, 1) := by decide +kernel
theorem dX8_take_22 : decode cX8_take 22 = .ok (.iconst 0, 1) := by decide +kernel
theorem dX8_take_23 : decode cX8_take 23 = .ok (.aload_n 0, 1) := by decide +kernel
theorem dX8_take_24 : decode cX8_take 24 = .ok (.iload_n 1, 1) := by decide +kernel
theorem dX8_take_25 : decode cX8_take 25 = .ok (.iload_n 2, 1) := by decide +kernel
theorem dX8_take_26 : decode cX8_take 26 = .ok (.invokevirtual 48, 3) := by decide +kernel
theorem dX8_take_29 : decode cX8_take 29 = .ok (.iconst 1, 1) := by decide +kernel
theorem dX8_take_30 : decode cX8_take 30 = .ok (.isub, 1) := by decide +kernel
theorem dX8_take_31 : decode cX8_take 31 = .ok (.invokestatic 44, 3) := by decide +kernel
theorem dX8_take_34 : decode cX8_take 34 = .ok (.ifCond .ne 6, 3) := by decide +kernel
theorem dX8_take_37 : decode cX8_take 37 = .ok (.bipush (-5), 2) := by decide +kernel
theorem dX8_take_39 : decode cX8_take 39 = .ok (.ireturn, 1) := by decide +kernel
theorem dX8_take_40 : decode cX8_take 40 = .ok (.aload_n 0, 1) := by decide +kernel
theorem dX8_take_41 : decode cX8_take 41 = .ok (.iload_n 1, 1) := by decide +kernel
theorem dX8_take_42 : decode cX8_take 42 = .ok (.iload_n 2, 1) := by decide +kernel
theorem dX8_take_43 : decode cX8_take 43 = .ok (.iload_n 3, 1) := by decide +kernel
theorem dX8_take_44 : decode cX8_take 44 = .ok (.invokevirtual 52, 3) := by decide +kernel
theorem dX8_take_47 : decode cX8_take 47 = .ok (.istore 4, 2) := by decide +kernel
theorem dX8_take_49 : decode cX8_take 49 = .ok (.aload_n 0, 1) := by decide +kernel
theorem dX8_take_50 : decode cX8_take 50 = .ok (.getfield 7, 3) := by decide +kernel
theorem dX8_take_53 : decode cX8_take 53 = .ok (.bipush 30, 2) := by decide +kernel
theorem dX8_take_55 : decode cX8_take 55 = .ok (.bipush 10, 2) := by decide +kernel
theorem dX8_take_57 : decode cX8_take 57 = .ok (.iload_n 2, 1) := by decide +kernel
theorem dX8_take_58 : decode cX8_take 58 = .ok (.imul, 1) := by decide +kernel
theorem dX8_take_59 : decode cX8_take 59 = .ok (.iadd, 1) := by decide +kernel
theorem dX8_take_60 : decode cX8_take 60 = .ok (.iload_n 1, 1) := by decide +kernel
theorem dX8_take_61 : decode cX8_take 61 = .ok (.iadd, 1) := by decide +kernel
theorem dX8_take_62 : decode cX8_take 62 = .ok (.dup2, 1) := by decide +kernel
theorem dX8_take_63 : decode cX8_take 63 = .ok (.iaload, 1) := by decide +kernel
theorem dX8_take_64 : decode cX8_take 64 = .ok (.iconst 1, 1) := by decide +kernel
theorem dX8_take_65 : decode cX8_take 65 = .ok (.isub, 1) := by decide +kernel
theorem dX8_take_66 : decode cX8_take 66 = .ok (.iastore, 1) := by decide +kernel
theorem dX8_take_67 : decode cX8_take 67 = .ok (.iload_n 3, 1) := by decide +kernel
theorem dX8_take_68 : decode cX8_take 68 = .ok (.istore 5, 2) := by decide +kernel
theorem dX8_take_70 : decode cX8_take 70 = .ok (.iload 5, 2) := by decide +kernel
theorem dX8_take_72 : decode cX8_take 72 = .ok (.aload_n 0, 1) := by decide +kernel
theorem dX8_take_73 : decode cX8_take 73 = .ok (.iload_n 1, 1) := by decide +kernel
theorem dX8_take_74 : decode cX8_take 74 = .ok (.iload_n 2, 1) := by decide +kernel
theorem dX8_take_75 : decode cX8_take 75 = .ok (.invokevirtual 48, 3) := by decide +kernel
theorem dX8_take_78 : decode cX8_take 78 = .ok (.if_icmp .ge 39, 3) := by decide +kernel
theorem dX8_take_81 : decode cX8_take 81 = .ok (.aload_n 0, 1) := by decide +kernel
theorem dX8_take_82 : decode cX8_take 82 = .ok (.getfield 7, 3) := by decide +kernel
theorem dX8_take_85 : decode cX8_take 85 = .ok (.bipush 50, 2) := by decide +kernel
theorem dX8_take_87 : decode cX8_take 87 = .ok (.bipush 12, 2) := by decide +kernel
theorem dX8_take_89 : decode cX8_take 89 = .ok (.iload_n 1, 1) := by decide +kernel
theorem dX8_take_90 : decode cX8_take 90 = .ok (.imul, 1) := by decide +kernel
theorem dX8_take_91 : decode cX8_take 91 = .ok (.iadd, 1) := by decide +kernel
theorem dX8_take_92 : decode cX8_take 92 = .ok (.bipush 6, 2) := by decide +kernel
theorem dX8_take_94 : decode cX8_take 94 = .ok (.iload_n 2, 1) := by decide +kernel
theorem dX8_take_95 : decode cX8_take 95 = .ok (.imul, 1) := by decide +kernel
theorem dX8_take_96 : decode cX8_take 96 = .ok (.iadd, 1) := by decide +kernel
theorem dX8_take_97 : decode cX8_take 97 = .ok (.iload 5, 2) := by decide +kernel
theorem dX8_take_99 : decode cX8_take 99 = .ok (.iadd, 1) := by decide +kernel
theorem dX8_take_100 : decode cX8_take 100 = .ok (.aload_n 0, 1) := by decide +kernel
theorem dX8_take_101 : decode cX8_take 101 = .ok (.iload_n 1, 1) := by decide +kernel
theorem dX8_take_102 : decode cX8_take 102 = .ok (.iload_n 2, 1) := by decide +kernel
theorem dX8_take_103 : decode cX8_take 103 = .ok (.iload 5, 2) := by decide +kernel
theorem dX8_take_105 : decode cX8_take 105 = .ok (.iconst 1, 1) := by decide +kernel
theorem dX8_take_106 : decode cX8_take 106 = .ok (.iadd, 1) := by decide +kernel
theorem dX8_take_107 : decode cX8_take 107 = .ok (.invokevirtual 52, 3) := by decide +kernel
theorem dX8_take_110 : decode cX8_take 110 = .ok (.iastore, 1) := by decide +kernel
theorem dX8_take_111 : decode cX8_take 111 = .ok (.iinc 5 1, 3) := by decide +kernel
theorem dX8_take_114 : decode cX8_take 114 = .ok (.goto (-44), 3) := by decide +kernel
theorem dX8_take_117 : decode cX8_take 117 = .ok (.iload 4, 2) := by decide +kernel
theorem dX8_take_119 : decode cX8_take 119 = .ok (.ireturn, 1) := by decide +kernel
theorem dX8_movesOf_0 : decode cX8_movesOf 0 = .ok (.iconst 0, 1) := by decide +kernel
theorem dX8_movesOf_1 : decode cX8_movesOf 1 = .ok (.istore_n 2, 1) := by decide +kernel
theorem dX8_movesOf_2 : decode cX8_movesOf 2 = .ok (.iconst 0, 1) := by decide +kernel
theorem dX8_movesOf_3 : decode cX8_movesOf 3 = .ok (.istore_n 3, 1) := by decide +kernel
theorem dX8_movesOf_4 : decode cX8_movesOf 4 = .ok (.iload_n 3, 1) := by decide +kernel
theorem dX8_movesOf_5 : decode cX8_movesOf 5 = .ok (.aload_n 0, 1) := by decide +kernel
theorem dX8_movesOf_6 : decode cX8_movesOf 6 = .ok (.getfield 7, 3) := by decide +kernel
theorem dX8_movesOf_9 : decode cX8_movesOf 9 = .ok (.sipush 211, 3) := by decide +kernel
theorem dX8_movesOf_12 : decode cX8_movesOf 12 = .ok (.iaload, 1) := by decide +kernel
theorem dX8_movesOf_13 : decode cX8_movesOf 13 = .ok (.if_icmp .ge 31, 3) := by decide +kernel
theorem dX8_movesOf_16 : decode cX8_movesOf 16 = .ok (.iload_n 2, 1) := by decide +kernel
theorem dX8_movesOf_17 : decode cX8_movesOf 17 = .ok (.aload_n 0, 1) := by decide +kernel
theorem dX8_movesOf_18 : decode cX8_movesOf 18 = .ok (.getfield 7, 3) := by decide +kernel
theorem dX8_movesOf_21 : decode cX8_movesOf 21 = .ok (.sipush 171, 3) := by decide +kernel
theorem dX8_movesOf_24 : decode cX8_movesOf 24 = .ok (.iload_n 3, 1) := by decide +kernel
theorem dX8_movesOf_25 : decode cX8_movesOf 25 = .ok (.iadd, 1) := by decide +kernel
theorem dX8_movesOf_26 : decode cX8_movesOf 26 = .ok (.iaload, 1) := by decide +kernel
theorem dX8_movesOf_27 : decode cX8_movesOf 27 = .ok (.iload_n 1, 1) := by decide +kernel
theorem dX8_movesOf_28 : decode cX8_movesOf 28 = .ok (.if_icmp .ne 7, 3) := by decide +kernel
theorem dX8_movesOf_31 : decode cX8_movesOf 31 = .ok (.iconst 1, 1) := by decide +kernel
theorem dX8_movesOf_32 : decode cX8_movesOf 32 = .ok (.goto 4, 3) := by decide +kernel
theorem dX8_movesOf_35 : decode cX8_movesOf 35 = .ok (.iconst 0, 1) := by decide +kernel
theorem dX8_movesOf_36 : decode cX8_movesOf 36 = .ok (.iadd, 1) := by decide +kernel
theorem dX8_movesOf_37 : decode cX8_movesOf 37 = .ok (.istore_n 2, 1) := by decide +kernel
theorem dX8_movesOf_38 : decode cX8_movesOf 38 = .ok (.iinc 3 1, 3) := by decide +kernel
theorem dX8_movesOf_41 : decode cX8_movesOf 41 = .ok (.goto (-37), 3) := by decide +kernel
theorem dX8_movesOf_44 : decode cX8_movesOf 44 = .ok (.iload_n 2, 1) := by decide +kernel
theorem dX8_movesOf_45 : decode cX8_movesOf 45 = .ok (.ireturn, 1) := by decide +kernel
set_option maxRecDepth 20000 in
theorem ggX8_thing_X8_many : GoodIn wsX8_thing wsX8_many := goodIn_r _ [5, 6, 11, 12, 13, 14, 15, 16, 17, 18, 19, 20, 21, 22, 23] (by decide +kernel) (by decide +kernel)
set_option maxRecDepth 20000 in
theorem gX8_thing_X8_many : GoodIn wsX8_thing (wsV RX8 48 RX8 yX8_many wsX8_many) := goodIn_app (goodIn_of _ (by decide +kernel)) ggX8_thing_X8_many
set_option maxRecDepth 20000 in
theorem ggX8_thing_X8_weight : GoodIn wsX8_thing wsX8_weight := goodIn_r _ [10, 6, 11, 12, 13, 14, 15, 16, 17, 18, 19, 20, 21, 22, 23] (by decide +kernel) (by decide +kernel)
set_option maxRecDepth 20000 in
theorem gX8_thing_X8_weight : GoodIn wsX8_thing (wsV RX8 52 RX8 yX8_weight wsX8_weight) := goodIn_app (goodIn_of _ (by decide +kernel)) ggX8_thing_X8_weight
theorem dX8_thing_0 : decode cX8_thing 0 = .ok (.iload_n 3, 1) := by decide +kernel
theorem dX8_thing_1 : decode cX8_thing 1 = .ok (.aload_n 0, 1) := by decide +kernel
theorem dX8_thing_2 : decode cX8_thing 2 = .ok (.iload_n 1, 1) := by decide +kernel
theorem dX8_thing_3 : decode cX8_thing 3 = .ok (.iload_n 2, 1) := by decide +kernel
theorem dX8_thing_4 : decode cX8_thing 4 = .ok (.invokevirtual 48, 3) := by decide +kernel
theorem dX8_thing_7 : decode cX8_thing 7 = .ok (.if_icmp .ge 13, 3) := by decide +kernel
theorem dX8_thing_10 : decode cX8_thing 10 = .ok (.aload_n 0, 1) := by decide +kernel
theorem dX8_thing_11 : decode cX8_thing 11 = .ok (.iload_n 1, 1) := by decide +kernel
theorem dX8_thing_12 : decode cX8_thing 12 = .ok (.iload_n 2, 1) := by decide +kernel
theorem dX8_thing_13 : decode cX8_thing 13 = .ok (.iload_n 3, 1) := by decide +kernel
theorem dX8_thing_14 : decode cX8_thing 14 = .ok (.invokevirtual 52, 3) := by decide +kernel
theorem dX8_thing_17 : decode cX8_thing 17 = .ok (.goto 5, 3) := by decide +kernel
theorem dX8_thing_20 : decode cX8_thing 20 = .ok (.bipush (-6), 2) := by decide +kernel
theorem dX8_thing_22 : decode cX8_thing 22 = .ok (.ireturn, 1) := by decide +kernel
set_option maxRecDepth 20000 in
theorem ggX8_bar_X8_isBar : GoodIn wsX8_bar wsX8_isBar := goodIn_r _ [5, 6, 7, 4, 8] (by decide +kernel) (by decide +kernel)
set_option maxRecDepth 20000 in
theorem gX8_bar_X8_isBar : GoodIn wsX8_bar (va_wsS RX8 63 yX8_isBar wsX8_isBar) := goodIn_app (goodIn_of _ (by decide +kernel)) ggX8_bar_X8_isBar
set_option maxRecDepth 20000 in
theorem ggX8_bar_X8_in : GoodIn wsX8_bar wsX8_in := goodIn_r _ [8] (by decide +kernel) (by decide +kernel)
set_option maxRecDepth 20000 in
theorem gX8_bar_X8_in : GoodIn wsX8_bar (va_wsS RX8 44 yX8_in wsX8_in) := goodIn_app (goodIn_of _ (by decide +kernel)) ggX8_bar_X8_in
set_option maxRecDepth 20000 in
theorem ggX8_bar_X8_thing : GoodIn wsX8_bar wsX8_thing := goodIn_r _ [12, 13, 14, 15, 4, 16, 1, 17, 18, 19, 20, 36, 37, 38, 39, 40, 41, 42, 43, 44, 45, 46, 47, 48] (by decide +kernel) (by decide +kernel)
set_option maxRecDepth 20000 in
theorem gX8_bar_X8_thing : GoodIn wsX8_bar (wsV RX8 67 RX8 yX8_thing wsX8_thing) := goodIn_app (goodIn_of _ (by decide +kernel)) ggX8_bar_X8_thing
set_option maxRecDepth 20000 in
theorem ggX8_bar_X8_many : GoodIn wsX8_bar wsX8_many := goodIn_r _ [16, 1, 36, 37, 38, 39, 40, 41, 42, 43, 44, 45, 46, 47, 48] (by decide +kernel) (by decide +kernel)
set_option maxRecDepth 20000 in
theorem gX8_bar_X8_many : GoodIn wsX8_bar (wsV RX8 48 RX8 yX8_many wsX8_many) := goodIn_app (goodIn_of _ (by decide +kernel)) ggX8_bar_X8_many
set_option maxRecDepth 20000 in
theorem ggX8_bar_X8_together : GoodIn wsX8_bar wsX8_together := goodIn_r _ [24, 13, 14, 15, 4, 16, 1, 17, 18, 19, 20, 36, 37, 38, 39, 40, 41, 42, 43, 44, 45, 46, 47, 48] (by decide +kernel) (by decide +kernel)
set_option maxRecDepth 20000 in
theorem gX8_bar_X8_together : GoodIn wsX8_bar (wsV RX8 56 RX8 yX8_together wsX8_together) := goodIn_app (goodIn_of _ (by decide +kernel)) ggX8_bar_X8_together
set_option maxRecDepth 20000 in
theorem ggX8_bar_X8_isEven : GoodIn wsX8_bar wsX8_isEven := goodIn_r _ [28, 1, 21, 22, 23, 4, 24, 13, 14, 15, 16, 17, 18, 19, 20, 29, 30, 31, 36, 37, 38, 39, 40, 41, 42, 43, 44, 45, 46, 47, 48] (by decide +kernel) (by decide +kernel)
set_option maxRecDepth 20000 in
theorem gX8_bar_X8_isEven : GoodIn wsX8_bar (wsV RX8 70 RX8 yX8_isEven wsX8_isEven) := goodIn_app (goodIn_of _ (by decide +kernel)) ggX8_bar_X8_isEven
set_option maxRecDepth 20000 in
theorem ggX8_bar_X8_movesOf : GoodIn wsX8_bar wsX8_movesOf := goodIn_r _ [35, 1, 36, 37, 38, 39, 40, 41, 42, 43, 44, 45, 46, 47, 48] (by decide +kernel) (by decide +kernel)
set_option maxRecDepth 20000 in
theorem gX8_bar_X8_movesOf : GoodIn wsX8_bar (wsV RX8 73 RX8 yX8_movesOf wsX8_movesOf) := goodIn_app (goodIn_of _ (by decide +kernel)) ggX8_bar_X8_movesOf
theorem dX8_bar_0 : decode cX8_bar 0 = .ok (.iload_n 1, 1) := by decide +kernel
theorem dX8_bar_1 : decode cX8_bar 1 = .ok (.invokestatic 63, 3) := by decide +kernel
theorem dX8_bar_4 : decode cX8_bar 4 = .ok (.ifCond .ne 5, 3) := by decide +kernel
theorem dX8_bar_7 : decode cX8_bar 7 = .ok (.iconst (-1), 1) := by decide +kernel
theorem dX8_bar_8 : decode cX8_bar 8 = .ok (.ireturn, 1) := by decide +kernel
theorem dX8_bar_9 : decode cX8_bar 9 = .ok (.iload_n 2, 1) := by decide +kernel
theorem dX8_bar_10 : decode cX8_bar 10 = .ok (.bipush 10, 2) := by decide +kernel
theorem dX8_bar_12 : decode cX8_bar 12 = .ok (.bipush 15, 2) := by decide +kernel
theorem dX8_bar_14 : decode cX8_bar 14 = .ok (.invokestatic 44, 3) := by decide +kernel
theorem dX8_bar_17 : decode cX8_bar 17 = .ok (.ifCond .eq 14, 3) := by decide +kernel
theorem dX8_bar_20 : decode cX8_bar 20 = .ok (.aload_n 0, 1) := by decide +kernel
theorem dX8_bar_21 : decode cX8_bar 21 = .ok (.iload_n 1, 1) := by decide +kernel
theorem dX8_bar_22 : decode cX8_bar 22 = .ok (.iconst 0, 1) := by decide +kernel
theorem dX8_bar_23 : decode cX8_bar 23 = .ok (.iload_n 2, 1) := by decide +kernel
theorem dX8_bar_24 : decode cX8_bar 24 = .ok (.bipush 10, 2) := by decide +kernel
theorem dX8_bar_26 : decode cX8_bar 26 = .ok (.isub, 1) := by decide +kernel
theorem dX8_bar_27 : decode cX8_bar 27 = .ok (.invokevirtual 67, 3) := by decide +kernel
theorem dX8_bar_30 : decode cX8_bar 30 = .ok (.ireturn, 1) := by decide +kernel
theorem dX8_bar_31 : decode cX8_bar 31 = .ok (.iload_n 2, 1) := by decide +kernel
theorem dX8_bar_32 : decode cX8_bar 32 = .ok (.bipush 20, 2) := by decide +kernel
theorem dX8_bar_34 : decode cX8_bar 34 = .ok (.bipush 25, 2) := by decide +kernel
theorem dX8_bar_36 : decode cX8_bar 36 = .ok (.invokestatic 44, 3) := by decide +kernel
theorem dX8_bar_39 : decode cX8_bar 39 = .ok (.ifCond .eq 14, 3) := by decide +kernel
theorem dX8_bar_42 : decode cX8_bar 42 = .ok (.aload_n 0, 1) := by decide +kernel
theorem dX8_bar_43 : decode cX8_bar 43 = .ok (.iload_n 1, 1) := by decide +kernel
theorem dX8_bar_44 : decode cX8_bar 44 = .ok (.iconst 1, 1) := by decide +kernel
theorem dX8_bar_45 : decode cX8_bar 45 = .ok (.iload_n 2, 1) := by decide +kernel
theorem dX8_bar_46 : decode cX8_bar 46 = .ok (.bipush 20, 2) := by decide +kernel
theorem dX8_bar_48 : decode cX8_bar 48 = .ok (.isub, 1) := by decide +kernel
theorem dX8_bar_49 : decode cX8_bar 49 = .ok (.invokevirtual 67, 3) := by decide +kernel
theorem dX8_bar_52 : decode cX8_bar 52 = .ok (.ireturn, 1) := by decide +kernel
theorem dX8_bar_53 : decode cX8_bar 53 = .ok (.iload_n 2, 1) := by decide +kernel
theorem dX8_bar_54 : decode cX8_bar 54 = .ok (.tableswitch 100 0 8 #[50, 50, 50, 62, 62, 71, 71, 80, 94], 50) := by decide +kernel
theorem dX8_bar_104 : decode cX8_bar 104 = .ok (.aload_n 0, 1) := by decide +kernel
theorem dX8_bar_105 : decode cX8_bar 105 = .ok (.getfield 7, 3) := by decide +kernel
theorem dX8_bar_108 : decode cX8_bar 108 = .ok (.bipush 10, 2) := by decide +kernel
theorem dX8_bar_110 : decode cX8_bar 110 = .ok (.iload_n 2, 1) := by decide +kernel
theorem dX8_bar_111 : decode cX8_bar 111 = .ok (.imul, 1) := by decide +kernel
theorem dX8_bar_112 : decode cX8_bar 112 = .ok (.iload_n 1, 1) := by decide +kernel
theorem dX8_bar_113 : decode cX8_bar 113 = .ok (.iadd, 1) := by decide +kernel
theorem dX8_bar_114 : decode cX8_bar 114 = .ok (.iaload, 1) := by decide +kernel
theorem dX8_bar_115 : decode cX8_bar 115 = .ok (.ireturn, 1) := by decide +kernel
theorem dX8_bar_116 : decode cX8_bar 116 = .ok (.aload_n 0, 1) := by decide +kernel
theorem dX8_bar_117 : decode cX8_bar 117 = .ok (.iload_n 1, 1) := by decide +kernel
theorem dX8_bar_118 : decode cX8_bar 118 = .ok (.iload_n 2, 1) := by decide +kernel
theorem dX8_bar_119 : decode cX8_bar 119 = .ok (.iconst 3, 1) := by decide +kernel
theorem dX8_bar_120 : decode cX8_bar 120 = .ok (.isub, 1) := by decide +kernel
theorem dX8_bar_121 : decode cX8_bar 121 = .ok (.invokevirtual 48, 3) := by decide +kernel
theorem dX8_bar_124 : decode cX8_bar 124 = .ok (.ireturn, 1) := by decide +kernel
theorem dX8_bar_125 : decode cX8_bar 125 = .ok (.aload_n 0, 1) := by decide +kernel
theorem dX8_bar_126 : decode cX8_bar 126 = .ok (.iload_n 1, 1) := by decide +kernel
theorem dX8_bar_127 : decode cX8_bar 127 = .ok (.iload_n 2, 1) := by decide +kernel
theorem dX8_bar_128 : decode cX8_bar 128 = .ok (.iconst 5, 1) := by decide +kernel
theorem dX8_bar_129 : decode cX8_bar 129 = .ok (.isub, 1) := by decide +kernel
theorem dX8_bar_130 : decode cX8_bar 130 = .ok (.invokevirtual 56, 3) := by decide +kernel
theorem dX8_bar_133 : decode cX8_bar 133 = .ok (.ireturn, 1) := by decide +kernel
theorem dX8_bar_134 : decode cX8_bar 134 = .ok (.aload_n 0, 1) := by decide +kernel
theorem dX8_bar_135 : decode cX8_bar 135 = .ok (.iload_n 1, 1) := by decide +kernel
theorem dX8_bar_136 : decode cX8_bar 136 = .ok (.invokevirtual 70, 3) := by decide +kernel
theorem dX8_bar_139 : decode cX8_bar 139 = .ok (.ifCond .eq 7, 3) := by decide +kernel
theorem dX8_bar_142 : decode cX8_bar 142 = .ok (.iconst 1, 1) := by decide +kernel
theorem dX8_bar_143 : decode cX8_bar 143 = .ok (.goto 4, 3) := by decide +kernel
theorem dX8_bar_146 : decode cX8_bar 146 = .ok (.iconst 0, 1) := by decide +kernel
theorem dX8_bar_147 : decode cX8_bar 147 = .ok (.ireturn, 1) := by decide +kernel
theorem dX8_bar_148 : decode cX8_bar 148 = .ok (.aload_n 0, 1) := by decide +kernel
theorem dX8_bar_149 : decode cX8_bar 149 = .ok (.iload_n 1, 1) := by decide +kernel
theorem dX8_bar_150 : decode cX8_bar 150 = .ok (.invokevirtual 73, 3) := by decide +kernel
theorem dX8_bar_153 : decode cX8_bar 153 = .ok (.ireturn, 1) := by decide +kernel
theorem dX8_bar_154 : decode cX8_bar 154 = .ok (.bipush (-2), 2) := by decide +kernel
theorem dX8_bar_156 : decode cX8_bar 156 = .ok (.ireturn, 1) := by decide +kernel
set_option maxRecDepth 20000 in
theorem ggX8_pull_X8_many : GoodIn wsX8_pull wsX8_many := goodIn_r _ [5, 6, 11, 12, 13, 14, 15, 16, 17, 18, 19, 20, 21, 22, 23] (by decide +kernel) (by decide +kernel)
set_option maxRecDepth 20000 in
theorem gX8_pull_X8_many : GoodIn wsX8_pull (wsV RX8 48 RX8 yX8_many wsX8_many) := goodIn_app (goodIn_of _ (by decide +kernel)) ggX8_pull_X8_many
set_option maxRecDepth 20000 in
theorem ggX8_pull_X8_weight : GoodIn wsX8_pull wsX8_weight := goodIn_r _ [10, 6, 11, 12, 13, 14, 15, 16, 17, 18, 19, 20, 21, 22, 23] (by decide +kernel) (by decide +kernel)
set_option maxRecDepth 20000 in
theorem gX8_pull_X8_weight : GoodIn wsX8_pull (wsV RX8 52 RX8 yX8_weight wsX8_weight) := goodIn_app (goodIn_of _ (by decide +kernel)) ggX8_pull_X8_weight
theorem dX8_pull_0 : decode cX8_pull 0 = .ok (.iload_n 2, 1) := by decide +kernel
theorem dX8_pull_1 : decode cX8_pull 1 = .ok (.aload_n 0, 1) := by decide +kernel
theorem dX8_pull_2 : decode cX8_pull 2 = .ok (.iload_n 1, 1) := by decide +kernel
theorem dX8_pull_3 : decode cX8_pull 3 = .ok (.iconst 0, 1) := by decide +kernel
theorem dX8_pull_4 : decode cX8_pull 4 = .ok (.invokevirtual 48, 3) := by decide +kernel
theorem dX8_pull_7 : decode cX8_pull 7 = .ok (.if_icmp .ge 13, 3) := by decide +kernel
theorem dX8_pull_10 : decode cX8_pull 10 = .ok (.aload_n 0, 1) := by decide +kernel
theorem dX8_pull_11 : decode cX8_pull 11 = .ok (.iload_n 1, 1) := by decide +kernel
theorem dX8_pull_12 : decode cX8_pull 12 = .ok (.iconst 0, 1) := by decide +kernel
theorem dX8_pull_13 : decode cX8_pull 13 = .ok (.iload_n 2, 1) := by decide +kernel
theorem dX8_pull_14 : decode cX8_pull 14 = .ok (.invokevirtual 52, 3) := by decide +kernel
theorem dX8_pull_17 : decode cX8_pull 17 = .ok (.goto 18, 3) := by decide +kernel
theorem dX8_pull_20 : decode cX8_pull 20 = .ok (.aload_n 0, 1) := by decide +kernel
theorem dX8_pull_21 : decode cX8_pull 21 = .ok (.iload_n 1, 1) := by decide +kernel
theorem dX8_pull_22 : decode cX8_pull 22 = .ok (.iconst 1, 1) := by decide +kernel
theorem dX8_pull_23 : decode cX8_pull 23 = .ok (.iload_n 2, 1) := by decide +kernel
theorem dX8_pull_24 : decode cX8_pull 24 = .ok (.aload_n 0, 1) := by decide +kernel
theorem dX8_pull_25 : decode cX8_pull 25 = .ok (.iload_n 1, 1) := by decide +kernel
theorem dX8_pull_26 : decode cX8_pull 26 = .ok (.iconst 0, 1) := by decide +kernel
theorem dX8_pull_27 : decode cX8_pull 27 = .ok (.invokevirtual 48, 3) := by decide +kernel
theorem dX8_pull_30 : decode cX8_pull 30 = .ok (.isub, 1) := by decide +kernel
theorem dX8_pull_31 : decode cX8_pull 31 = .ok (.invokevirtual 52, 3) := by decide +kernel
theorem dX8_pull_34 : decode cX8_pull 34 = .ok (.ineg, 1) := by decide +kernel
theorem dX8_pull_35 : decode cX8_pull 35 = .ok (.ireturn, 1) := by decide +kernel
set_option maxRecDepth 20000 in
theorem ggX8_layWays_X8_many : GoodIn wsX8_layWays wsX8_many := goodIn_r _ [8, 3, 23, 24, 25, 26, 27, 28, 29, 30, 31, 32, 33, 34, 35] (by decide +kernel) (by decide +kernel)
set_option maxRecDepth 20000 in
theorem gX8_layWays_X8_many : GoodIn wsX8_layWays (wsV RX8 48 RX8 yX8_many wsX8_many) := goodIn_app (goodIn_of _ (by decide +kernel)) ggX8_layWays_X8_many
set_option maxRecDepth 20000 in
theorem ggX8_layWays_X8_has : GoodIn wsX8_layWays wsX8_has := goodIn_r _ [11] (by decide +kernel) (by decide +kernel)
set_option maxRecDepth 20000 in
theorem gX8_layWays_X8_has : GoodIn wsX8_layWays (va_wsS RX8 80 yX8_has wsX8_has) := goodIn_app (goodIn_of _ (by decide +kernel)) ggX8_layWays_X8_has
set_option maxRecDepth 20000 in
theorem ggX8_layWays_X8_pull : GoodIn wsX8_layWays wsX8_pull := goodIn_r _ [15, 4, 5, 6, 7, 8, 3, 16, 17, 18, 19, 23, 24, 25, 26, 27, 28, 29, 30, 31, 32, 33, 34, 35] (by decide +kernel) (by decide +kernel)
set_option maxRecDepth 20000 in
theorem gX8_layWays_X8_pull : GoodIn wsX8_layWays (wsV RX8 84 RX8 yX8_pull wsX8_pull) := goodIn_app (goodIn_of _ (by decide +kernel)) ggX8_layWays_X8_pull
set_option maxRecDepth 20000 in
theorem ggX8_layWays_X8_size : GoodIn wsX8_layWays wsX8_size := goodIn_r _ [22] (by decide +kernel) (by decide +kernel)
set_option maxRecDepth 20000 in
theorem gX8_layWays_X8_size : GoodIn wsX8_layWays (va_wsS RX8 59 yX8_size wsX8_size) := goodIn_app (goodIn_of _ (by decide +kernel)) ggX8_layWays_X8_size
theorem dX8_layWays_0 : decode cX8_layWays 0 = .ok (.aload_n 0, 1) := by decide +kernel
theorem dX8_layWays_1 : decode cX8_layWays 1 = .ok (.aload_n 0, 1) := by decide +kernel
theorem dX8_layWays_2 : decode cX8_layWays 2 = .ok (.iload_n 1, 1) := by decide +kernel
theorem dX8_layWays_3 : decode cX8_layWays 3 = .ok (.iconst 0, 1) := by decide +kernel
theorem dX8_layWays_4 : decode cX8_layWays 4 = .ok (.invokevirtual 48, 3) := by decide +kernel
theorem dX8_layWays_7 : decode cX8_layWays 7 = .ok (.aload_n 0, 1) := by decide +kernel
theorem dX8_layWays_8 : decode cX8_layWays 8 = .ok (.iload_n 1, 1) := by decide +kernel
theorem dX8_layWays_9 : decode cX8_layWays 9 = .ok (.iconst 1, 1) := by decide +kernel
theorem dX8_layWays_10 : decode cX8_layWays 10 = .ok (.invokevirtual 48, 3) := by decide +kernel
theorem dX8_layWays_13 : decode cX8_layWays 13 = .ok (.iadd, 1) := by decide +kernel
theorem dX8_layWays_14 : decode cX8_layWays 14 = .ok (.putfield 76, 3) := by decide +kernel
theorem dX8_layWays_17 : decode cX8_layWays 17 = .ok (.iconst 1, 1) := by decide +kernel
theorem dX8_layWays_18 : decode cX8_layWays 18 = .ok (.aload_n 0, 1) := by decide +kernel
theorem dX8_layWays_19 : decode cX8_layWays 19 = .ok (.getfield 76, 3) := by decide +kernel
theorem dX8_layWays_22 : decode cX8_layWays 22 = .ok (.ishl, 1) := by decide +kernel
theorem dX8_layWays_23 : decode cX8_layWays 23 = .ok (.iconst 1, 1) := by decide +kernel
theorem dX8_layWays_24 : decode cX8_layWays 24 = .ok (.isub, 1) := by decide +kernel
theorem dX8_layWays_25 : decode cX8_layWays 25 = .ok (.istore_n 2, 1) := by decide +kernel
theorem dX8_layWays_26 : decode cX8_layWays 26 = .ok (.iload_n 2, 1) := by decide +kernel
theorem dX8_layWays_27 : decode cX8_layWays 27 = .ok (.ifCond .lt 127, 3) := by decide +kernel
theorem dX8_layWays_30 : decode cX8_layWays 30 = .ok (.iconst 0, 1) := by decide +kernel
theorem dX8_layWays_31 : decode cX8_layWays 31 = .ok (.istore_n 3, 1) := by decide +kernel
theorem dX8_layWays_32 : decode cX8_layWays 32 = .ok (.iconst 0, 1) := by decide +kernel
theorem dX8_layWays_33 : decode cX8_layWays 33 = .ok (.istore 4, 2) := by decide +kernel
theorem dX8_layWays_35 : decode cX8_layWays 35 = .ok (.iconst 0, 1) := by decide +kernel
theorem dX8_layWays_36 : decode cX8_layWays 36 = .ok (.istore 5, 2) := by decide +kernel
theorem dX8_layWays_38 : decode cX8_layWays 38 = .ok (.iload 5, 2) := by decide +kernel
theorem dX8_layWays_40 : decode cX8_layWays 40 = .ok (.aload_n 0, 1) := by decide +kernel
theorem dX8_layWays_41 : decode cX8_layWays 41 = .ok (.getfield 76, 3) := by decide +kernel
theorem dX8_layWays_44 : decode cX8_layWays 44 = .ok (.if_icmp .ge 61, 3) := by decide +kernel
theorem dX8_layWays_47 : decode cX8_layWays 47 = .ok (.iload_n 3, 1) := by decide +kernel
theorem dX8_layWays_48 : decode cX8_layWays 48 = .ok (.iload_n 2, 1) := by decide +kernel
theorem dX8_layWays_49 : decode cX8_layWays 49 = .ok (.iload 5, 2) := by decide +kernel
theorem dX8_layWays_51 : decode cX8_layWays 51 = .ok (.invokestatic 80, 3) := by decide +kernel
theorem dX8_layWays_54 : decode cX8_layWays 54 = .ok (.ifCond .eq 13, 3) := by decide +kernel
theorem dX8_layWays_57 : decode cX8_layWays 57 = .ok (.aload_n 0, 1) := by decide +kernel
theorem dX8_layWays_58 : decode cX8_layWays 58 = .ok (.iload_n 1, 1) := by decide +kernel
theorem dX8_layWays_59 : decode cX8_layWays 59 = .ok (.iload 5, 2) := by decide +kernel
theorem dX8_layWays_61 : decode cX8_layWays 61 = .ok (.invokevirtual 84, 3) := by decide +kernel
theorem dX8_layWays_64 : decode cX8_layWays 64 = .ok (.goto 4, 3) := by decide +kernel
theorem dX8_layWays_67 : decode cX8_layWays 67 = .ok (.iconst 0, 1) := by decide +kernel
theorem dX8_layWays_68 : decode cX8_layWays 68 = .ok (.iadd, 1) := by decide +kernel
theorem dX8_layWays_69 : decode cX8_layWays 69 = .ok (.istore_n 3, 1) := by decide +kernel
theorem dX8_layWays_70 : decode cX8_layWays 70 = .ok (.iload 4, 2) := by decide +kernel
theorem dX8_layWays_72 : decode cX8_layWays 72 = .ok (.iload_n 2, 1) := by decide +kernel
theorem dX8_layWays_73 : decode cX8_layWays 73 = .ok (.iload 5, 2) := by decide +kernel
theorem dX8_layWays_75 : decode cX8_layWays 75 = .ok (.invokestatic 80, 3) := by decide +kernel
theorem dX8_layWays_78 : decode cX8_layWays 78 = .ok (.ifCond .eq 7, 3) := by decide +kernel
theorem dX8_layWays_81 : decode cX8_layWays 81 = .ok (.iconst 0, 1) := by decide +kernel
theorem dX8_layWays_82 : decode cX8_layWays 82 = .ok (.goto 14, 3) := by decide +kernel
theorem dX8_layWays_85 : decode cX8_layWays 85 = .ok (.aload_n 0, 1) := by decide +kernel
theorem dX8_layWays_86 : decode cX8_layWays 86 = .ok (.getfield 20, 3) := by decide +kernel
theorem dX8_layWays_89 : decode cX8_layWays 89 = .ok (.iload_n 2, 1) := by decide +kernel
theorem dX8_layWays_90 : decode cX8_layWays 90 = .ok (.iconst 1, 1) := by decide +kernel
theorem dX8_layWays_91 : decode cX8_layWays 91 = .ok (.iload 5, 2) := by decide +kernel
theorem dX8_layWays_93 : decode cX8_layWays 93 = .ok (.ishl, 1) := by decide +kernel
theorem dX8_layWays_94 : decode cX8_layWays 94 = .ok (.ior, 1) := by decide +kernel
theorem dX8_layWays_95 : decode cX8_layWays 95 = .ok (.iaload, 1) := by decide +kernel
theorem dX8_layWays_96 : decode cX8_layWays 96 = .ok (.iadd, 1) := by decide +kernel
theorem dX8_layWays_97 : decode cX8_layWays 97 = .ok (.istore 4, 2) := by decide +kernel
theorem dX8_layWays_99 : decode cX8_layWays 99 = .ok (.iinc 5 1, 3) := by decide +kernel
theorem dX8_layWays_102 : decode cX8_layWays 102 = .ok (.goto (-64), 3) := by decide +kernel
theorem dX8_layWays_105 : decode cX8_layWays 105 = .ok (.aload_n 0, 1) := by decide +kernel
theorem dX8_layWays_106 : decode cX8_layWays 106 = .ok (.getfield 20, 3) := by decide +kernel
theorem dX8_layWays_109 : decode cX8_layWays 109 = .ok (.iload_n 2, 1) := by decide +kernel
theorem dX8_layWays_110 : decode cX8_layWays 110 = .ok (.iload_n 3, 1) := by decide +kernel
theorem dX8_layWays_111 : decode cX8_layWays 111 = .ok (.invokestatic 59, 3) := by decide +kernel
theorem dX8_layWays_114 : decode cX8_layWays 114 = .ok (.aload_n 0, 1) := by decide +kernel
theorem dX8_layWays_115 : decode cX8_layWays 115 = .ok (.getfield 7, 3) := by decide +kernel
theorem dX8_layWays_118 : decode cX8_layWays 118 = .ok (.sipush 170, 3) := by decide +kernel
theorem dX8_layWays_121 : decode cX8_layWays 121 = .ok (.iaload, 1) := by decide +kernel
theorem dX8_layWays_122 : decode cX8_layWays 122 = .ok (.if_icmp .le 7, 3) := by decide +kernel
theorem dX8_layWays_125 : decode cX8_layWays 125 = .ok (.iconst 0, 1) := by decide +kernel
theorem dX8_layWays_126 : decode cX8_layWays 126 = .ok (.goto 21, 3) := by decide +kernel
theorem dX8_layWays_129 : decode cX8_layWays 129 = .ok (.iload_n 2, 1) := by decide +kernel
theorem dX8_layWays_130 : decode cX8_layWays 130 = .ok (.iconst 1, 1) := by decide +kernel
theorem dX8_layWays_131 : decode cX8_layWays 131 = .ok (.aload_n 0, 1) := by decide +kernel
theorem dX8_layWays_132 : decode cX8_layWays 132 = .ok (.getfield 76, 3) := by decide +kernel
theorem dX8_layWays_135 : decode cX8_layWays 135 = .ok (.ishl, 1) := by decide +kernel
theorem dX8_layWays_136 : decode cX8_layWays 136 = .ok (.iconst 1, 1) := by decide +kernel
theorem dX8_layWays_137 : decode cX8_layWays 137 = .ok (.isub, 1) := by decide +kernel
theorem dX8_layWays_138 : decode cX8_layWays 138 = .ok (.if_icmp .ne 7, 3) := by decide +kernel
theorem dX8_layWays_141 : decode cX8_layWays 141 = .ok (.iconst 1, 1) := by decide +kernel
theorem dX8_layWays_142 : decode cX8_layWays 142 = .ok (.goto 5, 3) := by decide +kernel
theorem dX8_layWays_145 : decode cX8_layWays 145 = .ok (.iload 4, 2) := by decide +kernel
theorem dX8_layWays_147 : decode cX8_layWays 147 = .ok (.iastore, 1) := by decide +kernel
theorem dX8_layWays_148 : decode cX8_layWays 148 = .ok (.iinc 2 (-1), 3) := by decide +kernel
theorem dX8_layWays_151 : decode cX8_layWays 151 = .ok (.goto (-125), 3) := by decide +kernel
theorem dX8_layWays_154 : decode cX8_layWays 154 = .ok (.return_, 1) := by decide +kernel
set_option maxRecDepth 20000 in
theorem ggX8_loading_X8_isBar : GoodIn wsX8_loading wsX8_isBar := goodIn_r _ [6, 7, 8, 5, 9] (by decide +kernel) (by decide +kernel)
set_option maxRecDepth 20000 in
theorem gX8_loading_X8_isBar : GoodIn wsX8_loading (va_wsS RX8 63 yX8_isBar wsX8_isBar) := goodIn_app (goodIn_of _ (by decide +kernel)) ggX8_loading_X8_isBar
set_option maxRecDepth 20000 in
theorem ggX8_loading_X8_layWays : GoodIn wsX8_loading wsX8_layWays := goodIn_r _ [13, 2, 1, 14, 15, 16, 17, 5, 18, 19, 20, 21, 22, 23, 24, 25, 26, 27, 28, 29, 30, 31, 32, 33, 34, 35, 36, 37, 38, 39, 40, 41, 42, 43, 44, 45] (by decide +kernel) (by decide +kernel)
set_option maxRecDepth 20000 in
theorem gX8_loading_X8_layWays : GoodIn wsX8_loading (wsV RX8 87 RX8 yX8_layWays wsX8_layWays) := goodIn_app (goodIn_of _ (by decide +kernel)) ggX8_loading_X8_layWays
set_option maxRecDepth 20000 in
theorem ggX8_loading_X8_has : GoodIn wsX8_loading wsX8_has := goodIn_r _ [21] (by decide +kernel) (by decide +kernel)
set_option maxRecDepth 20000 in
theorem gX8_loading_X8_has : GoodIn wsX8_loading (va_wsS RX8 80 yX8_has wsX8_has) := goodIn_app (goodIn_of _ (by decide +kernel)) ggX8_loading_X8_has
set_option maxRecDepth 20000 in
theorem ggX8_loading_X8_many : GoodIn wsX8_loading wsX8_many := goodIn_r _ [18, 14, 33, 34, 35, 36, 37, 38, 39, 40, 41, 42, 43, 44, 45] (by decide +kernel) (by decide +kernel)
set_option maxRecDepth 20000 in
theorem gX8_loading_X8_many : GoodIn wsX8_loading (wsV RX8 48 RX8 yX8_many wsX8_many) := goodIn_app (goodIn_of _ (by decide +kernel)) ggX8_loading_X8_many
theorem dX8_loading_0 : decode cX8_loading 0 = .ok (.iload_n 1, 1) := by decide +kernel
theorem dX8_loading_1 : decode cX8_loading 1 = .ok (.invokestatic 63, 3) := by decide +kernel
theorem dX8_loading_4 : decode cX8_loading 4 = .ok (.ifCond .ne 5, 3) := by decide +kernel
theorem dX8_loading_7 : decode cX8_loading 7 = .ok (.iconst (-1), 1) := by decide +kernel
theorem dX8_loading_8 : decode cX8_loading 8 = .ok (.ireturn, 1) := by decide +kernel
theorem dX8_loading_9 : decode cX8_loading 9 = .ok (.iload_n 2, 1) := by decide +kernel
theorem dX8_loading_10 : decode cX8_loading 10 = .ok (.iconst (-1), 1) := by decide +kernel
theorem dX8_loading_11 : decode cX8_loading 11 = .ok (.if_icmp .ge 6, 3) := by decide +kernel
theorem dX8_loading_14 : decode cX8_loading 14 = .ok (.bipush (-2), 2) := by decide +kernel
theorem dX8_loading_16 : decode cX8_loading 16 = .ok (.ireturn, 1) := by decide +kernel
theorem dX8_loading_17 : decode cX8_loading 17 = .ok (.aload_n 0, 1) := by decide +kernel
theorem dX8_loading_18 : decode cX8_loading 18 = .ok (.iload_n 1, 1) := by decide +kernel
theorem dX8_loading_19 : decode cX8_loading 19 = .ok (.invokevirtual 87, 3) := by decide +kernel
theorem dX8_loading_22 : decode cX8_loading 22 = .ok (.aload_n 0, 1) := by decide +kernel
theorem dX8_loading_23 : decode cX8_loading 23 = .ok (.getfield 20, 3) := by decide +kernel
theorem dX8_loading_26 : decode cX8_loading 26 = .ok (.iconst 0, 1) := by decide +kernel
theorem dX8_loading_27 : decode cX8_loading 27 = .ok (.iaload, 1) := by decide +kernel
theorem dX8_loading_28 : decode cX8_loading 28 = .ok (.ifCond .eq 11, 3) := by decide +kernel
theorem dX8_loading_31 : decode cX8_loading 31 = .ok (.iload_n 2, 1) := by decide +kernel
theorem dX8_loading_32 : decode cX8_loading 32 = .ok (.aload_n 0, 1) := by decide +kernel
theorem dX8_loading_33 : decode cX8_loading 33 = .ok (.getfield 76, 3) := by decide +kernel
theorem dX8_loading_36 : decode cX8_loading 36 = .ok (.if_icmp .lt 6, 3) := by decide +kernel
theorem dX8_loading_39 : decode cX8_loading 39 = .ok (.bipush (-6), 2) := by decide +kernel
theorem dX8_loading_41 : decode cX8_loading 41 = .ok (.ireturn, 1) := by decide +kernel
theorem dX8_loading_42 : decode cX8_loading 42 = .ok (.iload_n 2, 1) := by decide +kernel
theorem dX8_loading_43 : decode cX8_loading 43 = .ok (.iconst (-1), 1) := by decide +kernel
theorem dX8_loading_44 : decode cX8_loading 44 = .ok (.if_icmp .ne 8, 3) := by decide +kernel
theorem dX8_loading_47 : decode cX8_loading 47 = .ok (.aload_n 0, 1) := by decide +kernel
theorem dX8_loading_48 : decode cX8_loading 48 = .ok (.getfield 76, 3) := by decide +kernel
theorem dX8_loading_51 : decode cX8_loading 51 = .ok (.ireturn, 1) := by decide +kernel
theorem dX8_loading_52 : decode cX8_loading 52 = .ok (.iconst 0, 1) := by decide +kernel
theorem dX8_loading_53 : decode cX8_loading 53 = .ok (.istore_n 3, 1) := by decide +kernel
theorem dX8_loading_54 : decode cX8_loading 54 = .ok (.iconst 0, 1) := by decide +kernel
end
section
theorem dX8_loading_55 : decode cX8_loading 55 = .ok (.istore 4, 2) := by decide +kernel
theorem dX8_loading_57 : decode cX8_loading 57 = .ok (.iconst 0, 1) := by decide +kernel
theorem dX8_loading_58 : decode cX8_loading 58 = .ok (.istore 5, 2) := by decide +kernel
theorem dX8_loading_60 : decode cX8_loading 60 = .ok (.iload 5, 2) := by decide +kernel
theorem dX8_loading_62 : decode cX8_loading 62 = .ok (.iload_n 2, 1) := by decide +kernel
theorem dX8_loading_63 : decode cX8_loading 63 = .ok (.if_icmp .gt 48, 3) := by decide +kernel
theorem dX8_loading_66 : decode cX8_loading 66 = .ok (.iconst 0, 1) := by decide +kernel
theorem dX8_loading_67 : decode cX8_loading 67 = .ok (.istore 4, 2) := by decide +kernel
theorem dX8_loading_69 : decode cX8_loading 69 = .ok (.iload_n 3, 1) := by decide +kernel
theorem dX8_loading_70 : decode cX8_loading 70 = .ok (.iload 4, 2) := by decide +kernel
theorem dX8_loading_72 : decode cX8_loading 72 = .ok (.invokestatic 80, 3) := by decide +kernel
theorem dX8_loading_75 : decode cX8_loading 75 = .ok (.ifCond .ne 17, 3) := by decide +kernel
theorem dX8_loading_78 : decode cX8_loading 78 = .ok (.aload_n 0, 1) := by decide +kernel
theorem dX8_loading_79 : decode cX8_loading 79 = .ok (.getfield 20, 3) := by decide +kernel
theorem dX8_loading_82 : decode cX8_loading 82 = .ok (.iload_n 3, 1) := by decide +kernel
theorem dX8_loading_83 : decode cX8_loading 83 = .ok (.iconst 1, 1) := by decide +kernel
theorem dX8_loading_84 : decode cX8_loading 84 = .ok (.iload 4, 2) := by decide +kernel
theorem dX8_loading_86 : decode cX8_loading 86 = .ok (.ishl, 1) := by decide +kernel
theorem dX8_loading_87 : decode cX8_loading 87 = .ok (.ior, 1) := by decide +kernel
theorem dX8_loading_88 : decode cX8_loading 88 = .ok (.iaload, 1) := by decide +kernel
theorem dX8_loading_89 : decode cX8_loading 89 = .ok (.ifCond .ne 9, 3) := by decide +kernel
theorem dX8_loading_92 : decode cX8_loading 92 = .ok (.iinc 4 1, 3) := by decide +kernel
theorem dX8_loading_95 : decode cX8_loading 95 = .ok (.goto (-26), 3) := by decide +kernel
theorem dX8_loading_98 : decode cX8_loading 98 = .ok (.iload_n 3, 1) := by decide +kernel
theorem dX8_loading_99 : decode cX8_loading 99 = .ok (.iconst 1, 1) := by decide +kernel
theorem dX8_loading_100 : decode cX8_loading 100 = .ok (.iload 4, 2) := by decide +kernel
theorem dX8_loading_102 : decode cX8_loading 102 = .ok (.ishl, 1) := by decide +kernel
theorem dX8_loading_103 : decode cX8_loading 103 = .ok (.ior, 1) := by decide +kernel
theorem dX8_loading_104 : decode cX8_loading 104 = .ok (.istore_n 3, 1) := by decide +kernel
theorem dX8_loading_105 : decode cX8_loading 105 = .ok (.iinc 5 1, 3) := by decide +kernel
theorem dX8_loading_108 : decode cX8_loading 108 = .ok (.goto (-48), 3) := by decide +kernel
theorem dX8_loading_111 : decode cX8_loading 111 = .ok (.iload 4, 2) := by decide +kernel
theorem dX8_loading_113 : decode cX8_loading 113 = .ok (.aload_n 0, 1) := by decide +kernel
theorem dX8_loading_114 : decode cX8_loading 114 = .ok (.iload_n 1, 1) := by decide +kernel
theorem dX8_loading_115 : decode cX8_loading 115 = .ok (.iconst 0, 1) := by decide +kernel
theorem dX8_loading_116 : decode cX8_loading 116 = .ok (.invokevirtual 48, 3) := by decide +kernel
theorem dX8_loading_119 : decode cX8_loading 119 = .ok (.if_icmp .ge 8, 3) := by decide +kernel
theorem dX8_loading_122 : decode cX8_loading 122 = .ok (.iload 4, 2) := by decide +kernel
theorem dX8_loading_124 : decode cX8_loading 124 = .ok (.goto 15, 3) := by decide +kernel
theorem dX8_loading_127 : decode cX8_loading 127 = .ok (.bipush 10, 2) := by decide +kernel
theorem dX8_loading_129 : decode cX8_loading 129 = .ok (.iload 4, 2) := by decide +kernel
theorem dX8_loading_131 : decode cX8_loading 131 = .ok (.iadd, 1) := by decide +kernel
theorem dX8_loading_132 : decode cX8_loading 132 = .ok (.aload_n 0, 1) := by decide +kernel
theorem dX8_loading_133 : decode cX8_loading 133 = .ok (.iload_n 1, 1) := by decide +kernel
theorem dX8_loading_134 : decode cX8_loading 134 = .ok (.iconst 0, 1) := by decide +kernel
theorem dX8_loading_135 : decode cX8_loading 135 = .ok (.invokevirtual 48, 3) := by decide +kernel
theorem dX8_loading_138 : decode cX8_loading 138 = .ok (.isub, 1) := by decide +kernel
theorem dX8_loading_139 : decode cX8_loading 139 = .ok (.ireturn, 1) := by decide +kernel
set_option maxRecDepth 20000 in
theorem ggX8_loadings_X8_isBar : GoodIn wsX8_loadings wsX8_isBar := goodIn_r _ [5, 6, 7, 4, 8] (by decide +kernel) (by decide +kernel)
set_option maxRecDepth 20000 in
theorem gX8_loadings_X8_isBar : GoodIn wsX8_loadings (va_wsS RX8 63 yX8_isBar wsX8_isBar) := goodIn_app (goodIn_of _ (by decide +kernel)) ggX8_loadings_X8_isBar
set_option maxRecDepth 20000 in
theorem ggX8_loadings_X8_layWays : GoodIn wsX8_loadings wsX8_layWays := goodIn_r _ [12, 13, 1, 14, 15, 16, 17, 4, 18, 19, 20, 21, 22, 23, 24, 25, 26, 27, 28, 29, 30, 31, 32, 33, 34, 35, 36, 37, 38, 39, 40, 41, 42, 43, 44, 45] (by decide +kernel) (by decide +kernel)
set_option maxRecDepth 20000 in
theorem gX8_loadings_X8_layWays : GoodIn wsX8_loadings (wsV RX8 87 RX8 yX8_layWays wsX8_layWays) := goodIn_app (goodIn_of _ (by decide +kernel)) ggX8_loadings_X8_layWays
theorem dX8_loadings_0 : decode cX8_loadings 0 = .ok (.iload_n 1, 1) := by decide +kernel
theorem dX8_loadings_1 : decode cX8_loadings 1 = .ok (.invokestatic 63, 3) := by decide +kernel
theorem dX8_loadings_4 : decode cX8_loadings 4 = .ok (.ifCond .ne 5, 3) := by decide +kernel
theorem dX8_loadings_7 : decode cX8_loadings 7 = .ok (.iconst (-1), 1) := by decide +kernel
theorem dX8_loadings_8 : decode cX8_loadings 8 = .ok (.ireturn, 1) := by decide +kernel
theorem dX8_loadings_9 : decode cX8_loadings 9 = .ok (.aload_n 0, 1) := by decide +kernel
theorem dX8_loadings_10 : decode cX8_loadings 10 = .ok (.iload_n 1, 1) := by decide +kernel
theorem dX8_loadings_11 : decode cX8_loadings 11 = .ok (.invokevirtual 87, 3) := by decide +kernel
theorem dX8_loadings_14 : decode cX8_loadings 14 = .ok (.aload_n 0, 1) := by decide +kernel
theorem dX8_loadings_15 : decode cX8_loadings 15 = .ok (.getfield 20, 3) := by decide +kernel
theorem dX8_loadings_18 : decode cX8_loadings 18 = .ok (.iconst 0, 1) := by decide +kernel
theorem dX8_loadings_19 : decode cX8_loadings 19 = .ok (.iaload, 1) := by decide +kernel
theorem dX8_loadings_20 : decode cX8_loadings 20 = .ok (.ireturn, 1) := by decide +kernel
theorem dX8_moveAt_0 : decode cX8_moveAt 0 = .ok (.bipush (-6), 2) := by decide +kernel
theorem dX8_moveAt_2 : decode cX8_moveAt 2 = .ok (.istore_n 3, 1) := by decide +kernel
theorem dX8_moveAt_3 : decode cX8_moveAt 3 = .ok (.iconst 0, 1) := by decide +kernel
theorem dX8_moveAt_4 : decode cX8_moveAt 4 = .ok (.istore 4, 2) := by decide +kernel
theorem dX8_moveAt_6 : decode cX8_moveAt 6 = .ok (.iload 4, 2) := by decide +kernel
theorem dX8_moveAt_8 : decode cX8_moveAt 8 = .ok (.aload_n 0, 1) := by decide +kernel
theorem dX8_moveAt_9 : decode cX8_moveAt 9 = .ok (.getfield 7, 3) := by decide +kernel
theorem dX8_moveAt_12 : decode cX8_moveAt 12 = .ok (.sipush 211, 3) := by decide +kernel
theorem dX8_moveAt_15 : decode cX8_moveAt 15 = .ok (.iaload, 1) := by decide +kernel
theorem dX8_moveAt_16 : decode cX8_moveAt 16 = .ok (.if_icmp .ge 46, 3) := by decide +kernel
theorem dX8_moveAt_19 : decode cX8_moveAt 19 = .ok (.aload_n 0, 1) := by decide +kernel
theorem dX8_moveAt_20 : decode cX8_moveAt 20 = .ok (.getfield 7, 3) := by decide +kernel
theorem dX8_moveAt_23 : decode cX8_moveAt 23 = .ok (.sipush 171, 3) := by decide +kernel
theorem dX8_moveAt_26 : decode cX8_moveAt 26 = .ok (.iload 4, 2) := by decide +kernel
theorem dX8_moveAt_28 : decode cX8_moveAt 28 = .ok (.iadd, 1) := by decide +kernel
theorem dX8_moveAt_29 : decode cX8_moveAt 29 = .ok (.iaload, 1) := by decide +kernel
theorem dX8_moveAt_30 : decode cX8_moveAt 30 = .ok (.iload_n 1, 1) := by decide +kernel
theorem dX8_moveAt_31 : decode cX8_moveAt 31 = .ok (.if_icmp .ne 23, 3) := by decide +kernel
theorem dX8_moveAt_34 : decode cX8_moveAt 34 = .ok (.aload_n 0, 1) := by decide +kernel
theorem dX8_moveAt_35 : decode cX8_moveAt 35 = .ok (.getfield 7, 3) := by decide +kernel
theorem dX8_moveAt_38 : decode cX8_moveAt 38 = .ok (.sipush 181, 3) := by decide +kernel
theorem dX8_moveAt_41 : decode cX8_moveAt 41 = .ok (.iload 4, 2) := by decide +kernel
theorem dX8_moveAt_43 : decode cX8_moveAt 43 = .ok (.iadd, 1) := by decide +kernel
theorem dX8_moveAt_44 : decode cX8_moveAt 44 = .ok (.iaload, 1) := by decide +kernel
theorem dX8_moveAt_45 : decode cX8_moveAt 45 = .ok (.iload_n 2, 1) := by decide +kernel
theorem dX8_moveAt_46 : decode cX8_moveAt 46 = .ok (.if_icmp .ne 8, 3) := by decide +kernel
theorem dX8_moveAt_49 : decode cX8_moveAt 49 = .ok (.iload 4, 2) := by decide +kernel
theorem dX8_moveAt_51 : decode cX8_moveAt 51 = .ok (.goto 4, 3) := by decide +kernel
theorem dX8_moveAt_54 : decode cX8_moveAt 54 = .ok (.iload_n 3, 1) := by decide +kernel
theorem dX8_moveAt_55 : decode cX8_moveAt 55 = .ok (.istore_n 3, 1) := by decide +kernel
theorem dX8_moveAt_56 : decode cX8_moveAt 56 = .ok (.iinc 4 1, 3) := by decide +kernel
theorem dX8_moveAt_59 : decode cX8_moveAt 59 = .ok (.goto (-53), 3) := by decide +kernel
theorem dX8_moveAt_62 : decode cX8_moveAt 62 = .ok (.iload_n 3, 1) := by decide +kernel
theorem dX8_moveAt_63 : decode cX8_moveAt 63 = .ok (.ireturn, 1) := by decide +kernel
set_option maxRecDepth 20000 in
theorem ggX8_move_X8_isBar : GoodIn wsX8_move wsX8_isBar := goodIn_r _ [5, 6, 7, 4, 8] (by decide +kernel) (by decide +kernel)
set_option maxRecDepth 20000 in
theorem gX8_move_X8_isBar : GoodIn wsX8_move (va_wsS RX8 63 yX8_isBar wsX8_isBar) := goodIn_app (goodIn_of _ (by decide +kernel)) ggX8_move_X8_isBar
set_option maxRecDepth 20000 in
theorem ggX8_move_X8_in : GoodIn wsX8_move wsX8_in := goodIn_r _ [8] (by decide +kernel) (by decide +kernel)
set_option maxRecDepth 20000 in
theorem gX8_move_X8_in : GoodIn wsX8_move (va_wsS RX8 44 yX8_in wsX8_in) := goodIn_app (goodIn_of _ (by decide +kernel)) ggX8_move_X8_in
set_option maxRecDepth 20000 in
theorem ggX8_move_X8_moveAt : GoodIn wsX8_move wsX8_moveAt := goodIn_r _ [12, 1, 13, 14, 15, 16, 17, 18, 19, 20, 21, 22, 23, 24, 25] (by decide +kernel) (by decide +kernel)
set_option maxRecDepth 20000 in
theorem gX8_move_X8_moveAt : GoodIn wsX8_move (wsV RX8 91 RX8 yX8_moveAt wsX8_moveAt) := goodIn_app (goodIn_of _ (by decide +kernel)) ggX8_move_X8_moveAt
theorem dX8_move_0 : decode cX8_move 0 = .ok (.iload_n 1, 1) := by decide +kernel
theorem dX8_move_1 : decode cX8_move 1 = .ok (.invokestatic 63, 3) := by decide +kernel
theorem dX8_move_4 : decode cX8_move 4 = .ok (.ifCond .ne 5, 3) := by decide +kernel
theorem dX8_move_7 : decode cX8_move 7 = .ok (.iconst (-1), 1) := by decide +kernel
theorem dX8_move_8 : decode cX8_move 8 = .ok (.ireturn, 1) := by decide +kernel
theorem dX8_move_9 : decode cX8_move 9 = .ok (.iload_n 2, 1) := by decide +kernel
theorem dX8_move_10 : decode cX8_move 10 = .ok (.iconst 0, 1) := by decide +kernel
theorem dX8_move_11 : decode cX8_move 11 = .ok (.sipush 200, 3) := by decide +kernel
theorem dX8_move_14 : decode cX8_move 14 = .ok (.invokestatic 44, 3) := by decide +kernel
theorem dX8_move_17 : decode cX8_move 17 = .ok (.ifCond .eq 23, 3) := by decide +kernel
theorem dX8_move_20 : decode cX8_move 20 = .ok (.iload_n 3, 1) := by decide +kernel
theorem dX8_move_21 : decode cX8_move 21 = .ok (.iconst 0, 1) := by decide +kernel
theorem dX8_move_22 : decode cX8_move 22 = .ok (.bipush 60, 2) := by decide +kernel
theorem dX8_move_24 : decode cX8_move 24 = .ok (.invokestatic 44, 3) := by decide +kernel
theorem dX8_move_27 : decode cX8_move 27 = .ok (.ifCond .eq 13, 3) := by decide +kernel
theorem dX8_move_30 : decode cX8_move 30 = .ok (.iload 4, 2) := by decide +kernel
theorem dX8_move_32 : decode cX8_move 32 = .ok (.iconst 1, 1) := by decide +kernel
theorem dX8_move_33 : decode cX8_move 33 = .ok (.iconst 5, 1) := by decide +kernel
theorem dX8_move_34 : decode cX8_move 34 = .ok (.invokestatic 44, 3) := by decide +kernel
theorem dX8_move_37 : decode cX8_move 37 = .ok (.ifCond .ne 6, 3) := by decide +kernel
theorem dX8_move_40 : decode cX8_move 40 = .ok (.bipush (-2), 2) := by decide +kernel
theorem dX8_move_42 : decode cX8_move 42 = .ok (.ireturn, 1) := by decide +kernel
theorem dX8_move_43 : decode cX8_move 43 = .ok (.aload_n 0, 1) := by decide +kernel
theorem dX8_move_44 : decode cX8_move 44 = .ok (.iload_n 1, 1) := by decide +kernel
theorem dX8_move_45 : decode cX8_move 45 = .ok (.iload_n 2, 1) := by decide +kernel
theorem dX8_move_46 : decode cX8_move 46 = .ok (.invokevirtual 91, 3) := by decide +kernel
theorem dX8_move_49 : decode cX8_move 49 = .ok (.ifCond .lt 6, 3) := by decide +kernel
theorem dX8_move_52 : decode cX8_move 52 = .ok (.bipush (-5), 2) := by decide +kernel
theorem dX8_move_54 : decode cX8_move 54 = .ok (.ireturn, 1) := by decide +kernel
theorem dX8_move_55 : decode cX8_move 55 = .ok (.aload_n 0, 1) := by decide +kernel
theorem dX8_move_56 : decode cX8_move 56 = .ok (.getfield 7, 3) := by decide +kernel
theorem dX8_move_59 : decode cX8_move 59 = .ok (.sipush 211, 3) := by decide +kernel
theorem dX8_move_62 : decode cX8_move 62 = .ok (.iaload, 1) := by decide +kernel
theorem dX8_move_63 : decode cX8_move 63 = .ok (.istore 5, 2) := by decide +kernel
theorem dX8_move_65 : decode cX8_move 65 = .ok (.iload 5, 2) := by decide +kernel
theorem dX8_move_67 : decode cX8_move 67 = .ok (.bipush 10, 2) := by decide +kernel
theorem dX8_move_69 : decode cX8_move 69 = .ok (.if_icmp .ne 6, 3) := by decide +kernel
theorem dX8_move_72 : decode cX8_move 72 = .ok (.bipush (-4), 2) := by decide +kernel
theorem dX8_move_74 : decode cX8_move 74 = .ok (.ireturn, 1) := by decide +kernel
theorem dX8_move_75 : decode cX8_move 75 = .ok (.aload_n 0, 1) := by decide +kernel
theorem dX8_move_76 : decode cX8_move 76 = .ok (.getfield 7, 3) := by decide +kernel
theorem dX8_move_79 : decode cX8_move 79 = .ok (.sipush 171, 3) := by decide +kernel
theorem dX8_move_82 : decode cX8_move 82 = .ok (.iload 5, 2) := by decide +kernel
theorem dX8_move_84 : decode cX8_move 84 = .ok (.iadd, 1) := by decide +kernel
theorem dX8_move_85 : decode cX8_move 85 = .ok (.iload_n 1, 1) := by decide +kernel
theorem dX8_move_86 : decode cX8_move 86 = .ok (.iastore, 1) := by decide +kernel
theorem dX8_move_87 : decode cX8_move 87 = .ok (.aload_n 0, 1) := by decide +kernel
theorem dX8_move_88 : decode cX8_move 88 = .ok (.getfield 7, 3) := by decide +kernel
theorem dX8_move_91 : decode cX8_move 91 = .ok (.sipush 181, 3) := by decide +kernel
theorem dX8_move_94 : decode cX8_move 94 = .ok (.iload 5, 2) := by decide +kernel
theorem dX8_move_96 : decode cX8_move 96 = .ok (.iadd, 1) := by decide +kernel
theorem dX8_move_97 : decode cX8_move 97 = .ok (.iload_n 2, 1) := by decide +kernel
theorem dX8_move_98 : decode cX8_move 98 = .ok (.iastore, 1) := by decide +kernel
theorem dX8_move_99 : decode cX8_move 99 = .ok (.aload_n 0, 1) := by decide +kernel
theorem dX8_move_100 : decode cX8_move 100 = .ok (.getfield 7, 3) := by decide +kernel
theorem dX8_move_103 : decode cX8_move 103 = .ok (.sipush 191, 3) := by decide +kernel
theorem dX8_move_106 : decode cX8_move 106 = .ok (.iload 5, 2) := by decide +kernel
theorem dX8_move_108 : decode cX8_move 108 = .ok (.iadd, 1) := by decide +kernel
theorem dX8_move_109 : decode cX8_move 109 = .ok (.iload_n 3, 1) := by decide +kernel
theorem dX8_move_110 : decode cX8_move 110 = .ok (.iastore, 1) := by decide +kernel
theorem dX8_move_111 : decode cX8_move 111 = .ok (.aload_n 0, 1) := by decide +kernel
theorem dX8_move_112 : decode cX8_move 112 = .ok (.getfield 7, 3) := by decide +kernel
theorem dX8_move_115 : decode cX8_move 115 = .ok (.sipush 201, 3) := by decide +kernel
theorem dX8_move_118 : decode cX8_move 118 = .ok (.iload 5, 2) := by decide +kernel
theorem dX8_move_120 : decode cX8_move 120 = .ok (.iadd, 1) := by decide +kernel
theorem dX8_move_121 : decode cX8_move 121 = .ok (.iload 4, 2) := by decide +kernel
theorem dX8_move_123 : decode cX8_move 123 = .ok (.iastore, 1) := by decide +kernel
theorem dX8_move_124 : decode cX8_move 124 = .ok (.aload_n 0, 1) := by decide +kernel
theorem dX8_move_125 : decode cX8_move 125 = .ok (.getfield 7, 3) := by decide +kernel
theorem dX8_move_128 : decode cX8_move 128 = .ok (.sipush 211, 3) := by decide +kernel
theorem dX8_move_131 : decode cX8_move 131 = .ok (.dup2, 1) := by decide +kernel
theorem dX8_move_132 : decode cX8_move 132 = .ok (.iaload, 1) := by decide +kernel
theorem dX8_move_133 : decode cX8_move 133 = .ok (.iconst 1, 1) := by decide +kernel
theorem dX8_move_134 : decode cX8_move 134 = .ok (.iadd, 1) := by decide +kernel
theorem dX8_move_135 : decode cX8_move 135 = .ok (.iastore, 1) := by decide +kernel
theorem dX8_move_136 : decode cX8_move 136 = .ok (.iload 5, 2) := by decide +kernel
theorem dX8_move_138 : decode cX8_move 138 = .ok (.ireturn, 1) := by decide +kernel
set_option maxRecDepth 20000 in
theorem ggX8_drop_X8_isMove : GoodIn wsX8_drop wsX8_isMove := goodIn_r _ [6, 1, 7, 8, 5, 9, 10, 11, 12, 13, 14, 15, 16, 17, 18, 19, 20, 21, 22] (by decide +kernel) (by decide +kernel)
set_option maxRecDepth 20000 in
theorem gX8_drop_X8_isMove : GoodIn wsX8_drop (wsV RX8 94 RX8 yX8_isMove wsX8_isMove) := goodIn_app (goodIn_of _ (by decide +kernel)) ggX8_drop_X8_isMove
theorem dX8_drop_0 : decode cX8_drop 0 = .ok (.aload_n 0, 1) := by decide +kernel
theorem dX8_drop_1 : decode cX8_drop 1 = .ok (.iload_n 1, 1) := by decide +kernel
theorem dX8_drop_2 : decode cX8_drop 2 = .ok (.invokevirtual 94, 3) := by decide +kernel
theorem dX8_drop_5 : decode cX8_drop 5 = .ok (.ifCond .ne 5, 3) := by decide +kernel
theorem dX8_drop_8 : decode cX8_drop 8 = .ok (.iconst (-1), 1) := by decide +kernel
theorem dX8_drop_9 : decode cX8_drop 9 = .ok (.ireturn, 1) := by decide +kernel
theorem dX8_drop_10 : decode cX8_drop 10 = .ok (.aload_n 0, 1) := by decide +kernel
theorem dX8_drop_11 : decode cX8_drop 11 = .ok (.getfield 7, 3) := by decide +kernel
theorem dX8_drop_14 : decode cX8_drop 14 = .ok (.sipush 211, 3) := by decide +kernel
theorem dX8_drop_17 : decode cX8_drop 17 = .ok (.dup2, 1) := by decide +kernel
theorem dX8_drop_18 : decode cX8_drop 18 = .ok (.iaload, 1) := by decide +kernel
theorem dX8_drop_19 : decode cX8_drop 19 = .ok (.iconst 1, 1) := by decide +kernel
theorem dX8_drop_20 : decode cX8_drop 20 = .ok (.isub, 1) := by decide +kernel
theorem dX8_drop_21 : decode cX8_drop 21 = .ok (.iastore, 1) := by decide +kernel
theorem dX8_drop_22 : decode cX8_drop 22 = .ok (.iload_n 1, 1) := by decide +kernel
theorem dX8_drop_23 : decode cX8_drop 23 = .ok (.istore_n 2, 1) := by decide +kernel
theorem dX8_drop_24 : decode cX8_drop 24 = .ok (.iload_n 2, 1) := by decide +kernel
theorem dX8_drop_25 : decode cX8_drop 25 = .ok (.aload_n 0, 1) := by decide +kernel
theorem dX8_drop_26 : decode cX8_drop 26 = .ok (.getfield 7, 3) := by decide +kernel
theorem dX8_drop_29 : decode cX8_drop 29 = .ok (.sipush 211, 3) := by decide +kernel
theorem dX8_drop_32 : decode cX8_drop 32 = .ok (.iaload, 1) := by decide +kernel
theorem dX8_drop_33 : decode cX8_drop 33 = .ok (.if_icmp .ge 44, 3) := by decide +kernel
theorem dX8_drop_36 : decode cX8_drop 36 = .ok (.sipush 171, 3) := by decide +kernel
theorem dX8_drop_39 : decode cX8_drop 39 = .ok (.istore_n 3, 1) := by decide +kernel
theorem dX8_drop_40 : decode cX8_drop 40 = .ok (.iload_n 3, 1) := by decide +kernel
theorem dX8_drop_41 : decode cX8_drop 41 = .ok (.sipush 201, 3) := by decide +kernel
theorem dX8_drop_44 : decode cX8_drop 44 = .ok (.if_icmp .gt 27, 3) := by decide +kernel
theorem dX8_drop_47 : decode cX8_drop 47 = .ok (.aload_n 0, 1) := by decide +kernel
theorem dX8_drop_48 : decode cX8_drop 48 = .ok (.getfield 7, 3) := by decide +kernel
theorem dX8_drop_51 : decode cX8_drop 51 = .ok (.iload_n 3, 1) := by decide +kernel
theorem dX8_drop_52 : decode cX8_drop 52 = .ok (.iload_n 2, 1) := by decide +kernel
theorem dX8_drop_53 : decode cX8_drop 53 = .ok (.iadd, 1) := by decide +kernel
theorem dX8_drop_54 : decode cX8_drop 54 = .ok (.aload_n 0, 1) := by decide +kernel
theorem dX8_drop_55 : decode cX8_drop 55 = .ok (.getfield 7, 3) := by decide +kernel
theorem dX8_drop_58 : decode cX8_drop 58 = .ok (.iload_n 3, 1) := by decide +kernel
theorem dX8_drop_59 : decode cX8_drop 59 = .ok (.iload_n 2, 1) := by decide +kernel
theorem dX8_drop_60 : decode cX8_drop 60 = .ok (.iadd, 1) := by decide +kernel
theorem dX8_drop_61 : decode cX8_drop 61 = .ok (.iconst 1, 1) := by decide +kernel
theorem dX8_drop_62 : decode cX8_drop 62 = .ok (.iadd, 1) := by decide +kernel
theorem dX8_drop_63 : decode cX8_drop 63 = .ok (.iaload, 1) := by decide +kernel
theorem dX8_drop_64 : decode cX8_drop 64 = .ok (.iastore, 1) := by decide +kernel
theorem dX8_drop_65 : decode cX8_drop 65 = .ok (.iinc 3 10, 3) := by decide +kernel
theorem dX8_drop_68 : decode cX8_drop 68 = .ok (.goto (-28), 3) := by decide +kernel
theorem dX8_drop_71 : decode cX8_drop 71 = .ok (.iinc 2 1, 3) := by decide +kernel
theorem dX8_drop_74 : decode cX8_drop 74 = .ok (.goto (-50), 3) := by decide +kernel
theorem dX8_drop_77 : decode cX8_drop 77 = .ok (.aload_n 0, 1) := by decide +kernel
theorem dX8_drop_78 : decode cX8_drop 78 = .ok (.getfield 7, 3) := by decide +kernel
theorem dX8_drop_81 : decode cX8_drop 81 = .ok (.sipush 211, 3) := by decide +kernel
theorem dX8_drop_84 : decode cX8_drop 84 = .ok (.iaload, 1) := by decide +kernel
theorem dX8_drop_85 : decode cX8_drop 85 = .ok (.ireturn, 1) := by decide +kernel
set_option maxRecDepth 20000 in
theorem ggX8_shift_X8_isMove : GoodIn wsX8_shift wsX8_isMove := goodIn_r _ [6, 1, 7, 8, 5, 9, 14, 15, 16, 17, 18, 19, 20, 21, 22, 23, 24, 25, 26] (by decide +kernel) (by decide +kernel)
set_option maxRecDepth 20000 in
theorem gX8_shift_X8_isMove : GoodIn wsX8_shift (wsV RX8 94 RX8 yX8_isMove wsX8_isMove) := goodIn_app (goodIn_of _ (by decide +kernel)) ggX8_shift_X8_isMove
set_option maxRecDepth 20000 in
theorem ggX8_shift_X8_in : GoodIn wsX8_shift wsX8_in := goodIn_r _ [9] (by decide +kernel) (by decide +kernel)
set_option maxRecDepth 20000 in
theorem gX8_shift_X8_in : GoodIn wsX8_shift (va_wsS RX8 44 yX8_in wsX8_in) := goodIn_app (goodIn_of _ (by decide +kernel)) ggX8_shift_X8_in
set_option maxRecDepth 20000 in
theorem ggX8_shift_X8_moveAt : GoodIn wsX8_shift wsX8_moveAt := goodIn_r _ [13, 1, 14, 15, 16, 17, 18, 19, 20, 21, 22, 23, 24, 25, 26] (by decide +kernel) (by decide +kernel)
set_option maxRecDepth 20000 in
theorem gX8_shift_X8_moveAt : GoodIn wsX8_shift (wsV RX8 91 RX8 yX8_moveAt wsX8_moveAt) := goodIn_app (goodIn_of _ (by decide +kernel)) ggX8_shift_X8_moveAt
theorem dX8_shift_0 : decode cX8_shift 0 = .ok (.aload_n 0, 1) := by decide +kernel
theorem dX8_shift_1 : decode cX8_shift 1 = .ok (.iload_n 1, 1) := by decide +kernel
theorem dX8_shift_2 : decode cX8_shift 2 = .ok (.invokevirtual 94, 3) := by decide +kernel
theorem dX8_shift_5 : decode cX8_shift 5 = .ok (.ifCond .ne 5, 3) := by decide +kernel
theorem dX8_shift_8 : decode cX8_shift 8 = .ok (.iconst (-1), 1) := by decide +kernel
theorem dX8_shift_9 : decode cX8_shift 9 = .ok (.ireturn, 1) := by decide +kernel
theorem dX8_shift_10 : decode cX8_shift 10 = .ok (.iload_n 2, 1) := by decide +kernel
theorem dX8_shift_11 : decode cX8_shift 11 = .ok (.sipush (-200), 3) := by decide +kernel
theorem dX8_shift_14 : decode cX8_shift 14 = .ok (.sipush 200, 3) := by decide +kernel
theorem dX8_shift_17 : decode cX8_shift 17 = .ok (.invokestatic 44, 3) := by decide +kernel
theorem dX8_shift_20 : decode cX8_shift 20 = .ok (.ifCond .eq 25, 3) := by decide +kernel
theorem dX8_shift_23 : decode cX8_shift 23 = .ok (.aload_n 0, 1) := by decide +kernel
theorem dX8_shift_24 : decode cX8_shift 24 = .ok (.getfield 7, 3) := by decide +kernel
theorem dX8_shift_27 : decode cX8_shift 27 = .ok (.sipush 181, 3) := by decide +kernel
theorem dX8_shift_30 : decode cX8_shift 30 = .ok (.iload_n 1, 1) := by decide +kernel
theorem dX8_shift_31 : decode cX8_shift 31 = .ok (.iadd, 1) := by decide +kernel
theorem dX8_shift_32 : decode cX8_shift 32 = .ok (.iaload, 1) := by decide +kernel
theorem dX8_shift_33 : decode cX8_shift 33 = .ok (.iload_n 2, 1) := by decide +kernel
theorem dX8_shift_34 : decode cX8_shift 34 = .ok (.iadd, 1) := by decide +kernel
theorem dX8_shift_35 : decode cX8_shift 35 = .ok (.iconst 0, 1) := by decide +kernel
theorem dX8_shift_36 : decode cX8_shift 36 = .ok (.sipush 200, 3) := by decide +kernel
theorem dX8_shift_39 : decode cX8_shift 39 = .ok (.invokestatic 44, 3) := by decide +kernel
theorem dX8_shift_42 : decode cX8_shift 42 = .ok (.ifCond .ne 6, 3) := by decide +kernel
theorem dX8_shift_45 : decode cX8_shift 45 = .ok (.bipush (-2), 2) := by decide +kernel
theorem dX8_shift_47 : decode cX8_shift 47 = .ok (.ireturn, 1) := by decide +kernel
theorem dX8_shift_48 : decode cX8_shift 48 = .ok (.aload_n 0, 1) := by decide +kernel
theorem dX8_shift_49 : decode cX8_shift 49 = .ok (.getfield 7, 3) := by decide +kernel
theorem dX8_shift_52 : decode cX8_shift 52 = .ok (.sipush 181, 3) := by decide +kernel
theorem dX8_shift_55 : decode cX8_shift 55 = .ok (.iload_n 1, 1) := by decide +kernel
theorem dX8_shift_56 : decode cX8_shift 56 = .ok (.iadd, 1) := by decide +kernel
theorem dX8_shift_57 : decode cX8_shift 57 = .ok (.iaload, 1) := by decide +kernel
theorem dX8_shift_58 : decode cX8_shift 58 = .ok (.iload_n 2, 1) := by decide +kernel
theorem dX8_shift_59 : decode cX8_shift 59 = .ok (.iadd, 1) := by decide +kernel
theorem dX8_shift_60 : decode cX8_shift 60 = .ok (.istore_n 3, 1) := by decide +kernel
theorem dX8_shift_61 : decode cX8_shift 61 = .ok (.aload_n 0, 1) := by decide +kernel
theorem dX8_shift_62 : decode cX8_shift 62 = .ok (.aload_n 0, 1) := by decide +kernel
theorem dX8_shift_63 : decode cX8_shift 63 = .ok (.getfield 7, 3) := by decide +kernel
theorem dX8_shift_66 : decode cX8_shift 66 = .ok (.sipush 171, 3) := by decide +kernel
theorem dX8_shift_69 : decode cX8_shift 69 = .ok (.iload_n 1, 1) := by decide +kernel
theorem dX8_shift_70 : decode cX8_shift 70 = .ok (.iadd, 1) := by decide +kernel
theorem dX8_shift_71 : decode cX8_shift 71 = .ok (.iaload, 1) := by decide +kernel
theorem dX8_shift_72 : decode cX8_shift 72 = .ok (.iload_n 3, 1) := by decide +kernel
theorem dX8_shift_73 : decode cX8_shift 73 = .ok (.invokevirtual 91, 3) := by decide +kernel
theorem dX8_shift_76 : decode cX8_shift 76 = .ok (.istore 4, 2) := by decide +kernel
theorem dX8_shift_78 : decode cX8_shift 78 = .ok (.iload 4, 2) := by decide +kernel
theorem dX8_shift_80 : decode cX8_shift 80 = .ok (.ifCond .lt 12, 3) := by decide +kernel
theorem dX8_shift_83 : decode cX8_shift 83 = .ok (.iload 4, 2) := by decide +kernel
theorem dX8_shift_85 : decode cX8_shift 85 = .ok (.iload_n 1, 1) := by decide +kernel
theorem dX8_shift_86 : decode cX8_shift 86 = .ok (.if_icmp .eq 6, 3) := by decide +kernel
theorem dX8_shift_89 : decode cX8_shift 89 = .ok (.bipush (-5), 2) := by decide +kernel
theorem dX8_shift_91 : decode cX8_shift 91 = .ok (.ireturn, 1) := by decide +kernel
theorem dX8_shift_92 : decode cX8_shift 92 = .ok (.aload_n 0, 1) := by decide +kernel
theorem dX8_shift_93 : decode cX8_shift 93 = .ok (.getfield 7, 3) := by decide +kernel
theorem dX8_shift_96 : decode cX8_shift 96 = .ok (.sipush 181, 3) := by decide +kernel
theorem dX8_shift_99 : decode cX8_shift 99 = .ok (.iload_n 1, 1) := by decide +kernel
theorem dX8_shift_100 : decode cX8_shift 100 = .ok (.iadd, 1) := by decide +kernel
theorem dX8_shift_101 : decode cX8_shift 101 = .ok (.iload_n 3, 1) := by decide +kernel
theorem dX8_shift_102 : decode cX8_shift 102 = .ok (.iastore, 1) := by decide +kernel
theorem dX8_shift_103 : decode cX8_shift 103 = .ok (.iload_n 3, 1) := by decide +kernel
theorem dX8_shift_104 : decode cX8_shift 104 = .ok (.ireturn, 1) := by decide +kernel
theorem dX8_latest_0 : decode cX8_latest 0 = .ok (.bipush (-6), 2) := by decide +kernel
theorem dX8_latest_2 : decode cX8_latest 2 = .ok (.istore_n 3, 1) := by decide +kernel
theorem dX8_latest_3 : decode cX8_latest 3 = .ok (.iconst 0, 1) := by decide +kernel
theorem dX8_latest_4 : decode cX8_latest 4 = .ok (.istore 4, 2) := by decide +kernel
theorem dX8_latest_6 : decode cX8_latest 6 = .ok (.iload 4, 2) := by decide +kernel
theorem dX8_latest_8 : decode cX8_latest 8 = .ok (.aload_n 0, 1) := by decide +kernel
theorem dX8_latest_9 : decode cX8_latest 9 = .ok (.getfield 7, 3) := by decide +kernel
theorem dX8_latest_12 : decode cX8_latest 12 = .ok (.sipush 211, 3) := by decide +kernel
theorem dX8_latest_15 : decode cX8_latest 15 = .ok (.iaload, 1) := by decide +kernel
theorem dX8_latest_16 : decode cX8_latest 16 = .ok (.if_icmp .ge 70, 3) := by decide +kernel
theorem dX8_latest_19 : decode cX8_latest 19 = .ok (.aload_n 0, 1) := by decide +kernel
theorem dX8_latest_20 : decode cX8_latest 20 = .ok (.getfield 7, 3) := by decide +kernel
theorem dX8_latest_23 : decode cX8_latest 23 = .ok (.sipush 171, 3) := by decide +kernel
theorem dX8_latest_26 : decode cX8_latest 26 = .ok (.iload 4, 2) := by decide +kernel
theorem dX8_latest_28 : decode cX8_latest 28 = .ok (.iadd, 1) := by decide +kernel
theorem dX8_latest_29 : decode cX8_latest 29 = .ok (.iaload, 1) := by decide +kernel
theorem dX8_latest_30 : decode cX8_latest 30 = .ok (.iload_n 1, 1) := by decide +kernel
theorem dX8_latest_31 : decode cX8_latest 31 = .ok (.if_icmp .ne 49, 3) := by decide +kernel
theorem dX8_latest_34 : decode cX8_latest 34 = .ok (.aload_n 0, 1) := by decide +kernel
theorem dX8_latest_35 : decode cX8_latest 35 = .ok (.getfield 7, 3) := by decide +kernel
theorem dX8_latest_38 : decode cX8_latest 38 = .ok (.sipush 181, 3) := by decide +kernel
theorem dX8_latest_41 : decode cX8_latest 41 = .ok (.iload 4, 2) := by decide +kernel
theorem dX8_latest_43 : decode cX8_latest 43 = .ok (.iadd, 1) := by decide +kernel
theorem dX8_latest_44 : decode cX8_latest 44 = .ok (.iaload, 1) := by decide +kernel
theorem dX8_latest_45 : decode cX8_latest 45 = .ok (.iload_n 2, 1) := by decide +kernel
theorem dX8_latest_46 : decode cX8_latest 46 = .ok (.if_icmp .gt 34, 3) := by decide +kernel
theorem dX8_latest_49 : decode cX8_latest 49 = .ok (.iload_n 3, 1) := by decide +kernel
theorem dX8_latest_50 : decode cX8_latest 50 = .ok (.ifCond .lt 27, 3) := by decide +kernel
theorem dX8_latest_53 : decode cX8_latest 53 = .ok (.aload_n 0, 1) := by decide +kernel
theorem dX8_latest_54 : decode cX8_latest 54 = .ok (.getfield 7, 3) := by decide +kernel
theorem dX8_latest_57 : decode cX8_latest 57 = .ok (.sipush 181, 3) := by decide +kernel
theorem dX8_latest_60 : decode cX8_latest 60 = .ok (.iload 4, 2) := by decide +kernel
theorem dX8_latest_62 : decode cX8_latest 62 = .ok (.iadd, 1) := by decide +kernel
theorem dX8_latest_63 : decode cX8_latest 63 = .ok (.iaload, 1) := by decide +kernel
theorem dX8_latest_64 : decode cX8_latest 64 = .ok (.aload_n 0, 1) := by decide +kernel
theorem dX8_latest_65 : decode cX8_latest 65 = .ok (.getfield 7, 3) := by decide +kernel
theorem dX8_latest_68 : decode cX8_latest 68 = .ok (.sipush 181, 3) := by decide +kernel
theorem dX8_latest_71 : decode cX8_latest 71 = .ok (.iload_n 3, 1) := by decide +kernel
theorem dX8_latest_72 : decode cX8_latest 72 = .ok (.iadd, 1) := by decide +kernel
theorem dX8_latest_73 : decode cX8_latest 73 = .ok (.iaload, 1) := by decide +kernel
theorem dX8_latest_74 : decode cX8_latest 74 = .ok (.if_icmp .le 6, 3) := by decide +kernel
theorem dX8_latest_77 : decode cX8_latest 77 = .ok (.iload 4, 2) := by decide +kernel
theorem dX8_latest_79 : decode cX8_latest 79 = .ok (.istore_n 3, 1) := by decide +kernel
theorem dX8_latest_80 : decode cX8_latest 80 = .ok (.iinc 4 1, 3) := by decide +kernel
theorem dX8_latest_83 : decode cX8_latest 83 = .ok (.goto (-77), 3) := by decide +kernel
theorem dX8_latest_86 : decode cX8_latest 86 = .ok (.iload_n 3, 1) := by decide +kernel
theorem dX8_latest_87 : decode cX8_latest 87 = .ok (.ireturn, 1) := by decide +kernel
set_option maxRecDepth 20000 in
theorem ggX8_layHeights_X8_latest : GoodIn wsX8_layHeights wsX8_latest := goodIn_r _ [7, 2, 11, 12, 13, 14, 15, 16, 17, 18, 19, 20, 21, 22, 23] (by decide +kernel) (by decide +kernel)
set_option maxRecDepth 20000 in
theorem gX8_layHeights_X8_latest : GoodIn wsX8_layHeights (wsV RX8 97 RX8 yX8_latest wsX8_latest) := goodIn_app (goodIn_of _ (by decide +kernel)) ggX8_layHeights_X8_latest
set_option maxRecDepth 20000 in
theorem ggX8_layHeights_X8_size : GoodIn wsX8_layHeights wsX8_size := goodIn_r _ [10] (by decide +kernel) (by decide +kernel)
set_option maxRecDepth 20000 in
theorem gX8_layHeights_X8_size : GoodIn wsX8_layHeights (va_wsS RX8 59 yX8_size wsX8_size) := goodIn_app (goodIn_of _ (by decide +kernel)) ggX8_layHeights_X8_size
theorem dX8_layHeights_0 : decode cX8_layHeights 0 = .ok (.aload_n 0, 1) := by decide +kernel
theorem dX8_layHeights_1 : decode cX8_layHeights 1 = .ok (.getfield 23, 3) := by decide +kernel
theorem dX8_layHeights_4 : decode cX8_layHeights 4 = .ok (.iconst 0, 1) := by decide +kernel
theorem dX8_layHeights_5 : decode cX8_layHeights 5 = .ok (.aload_n 0, 1) := by decide +kernel
theorem dX8_layHeights_6 : decode cX8_layHeights 6 = .ok (.getfield 7, 3) := by decide +kernel
theorem dX8_layHeights_9 : decode cX8_layHeights 9 = .ok (.iconst 0, 1) := by decide +kernel
theorem dX8_layHeights_10 : decode cX8_layHeights 10 = .ok (.iload_n 1, 1) := by decide +kernel
theorem dX8_layHeights_11 : decode cX8_layHeights 11 = .ok (.iadd, 1) := by decide +kernel
theorem dX8_layHeights_12 : decode cX8_layHeights 12 = .ok (.iaload, 1) := by decide +kernel
theorem dX8_layHeights_13 : decode cX8_layHeights 13 = .ok (.iastore, 1) := by decide +kernel
theorem dX8_layHeights_14 : decode cX8_layHeights 14 = .ok (.iconst 1, 1) := by decide +kernel
theorem dX8_layHeights_15 : decode cX8_layHeights 15 = .ok (.istore_n 2, 1) := by decide +kernel
theorem dX8_layHeights_16 : decode cX8_layHeights 16 = .ok (.iload_n 2, 1) := by decide +kernel
theorem dX8_layHeights_17 : decode cX8_layHeights 17 = .ok (.sipush 300, 3) := by decide +kernel
theorem dX8_layHeights_20 : decode cX8_layHeights 20 = .ok (.if_icmp .gt 106, 3) := by decide +kernel
theorem dX8_layHeights_23 : decode cX8_layHeights 23 = .ok (.aload_n 0, 1) := by decide +kernel
theorem dX8_layHeights_24 : decode cX8_layHeights 24 = .ok (.getfield 23, 3) := by decide +kernel
theorem dX8_layHeights_27 : decode cX8_layHeights 27 = .ok (.iload_n 2, 1) := by decide +kernel
theorem dX8_layHeights_28 : decode cX8_layHeights 28 = .ok (.iconst 1, 1) := by decide +kernel
theorem dX8_layHeights_29 : decode cX8_layHeights 29 = .ok (.isub, 1) := by decide +kernel
theorem dX8_layHeights_30 : decode cX8_layHeights 30 = .ok (.iaload, 1) := by decide +kernel
theorem dX8_layHeights_31 : decode cX8_layHeights 31 = .ok (.istore_n 3, 1) := by decide +kernel
theorem dX8_layHeights_32 : decode cX8_layHeights 32 = .ok (.aload_n 0, 1) := by decide +kernel
theorem dX8_layHeights_33 : decode cX8_layHeights 33 = .ok (.iload_n 1, 1) := by decide +kernel
theorem dX8_layHeights_34 : decode cX8_layHeights 34 = .ok (.iload_n 2, 1) := by decide +kernel
theorem dX8_layHeights_35 : decode cX8_layHeights 35 = .ok (.iconst 1, 1) := by decide +kernel
theorem dX8_layHeights_36 : decode cX8_layHeights 36 = .ok (.isub, 1) := by decide +kernel
theorem dX8_layHeights_37 : decode cX8_layHeights 37 = .ok (.invokevirtual 97, 3) := by decide +kernel
theorem dX8_layHeights_40 : decode cX8_layHeights 40 = .ok (.istore 4, 2) := by decide +kernel
theorem dX8_layHeights_42 : decode cX8_layHeights 42 = .ok (.iload_n 3, 1) := by decide +kernel
theorem dX8_layHeights_43 : decode cX8_layHeights 43 = .ok (.istore 5, 2) := by decide +kernel
theorem dX8_layHeights_45 : decode cX8_layHeights 45 = .ok (.iload 4, 2) := by decide +kernel
theorem dX8_layHeights_47 : decode cX8_layHeights 47 = .ok (.ifCond .lt 65, 3) := by decide +kernel
theorem dX8_layHeights_50 : decode cX8_layHeights 50 = .ok (.aload_n 0, 1) := by decide +kernel
theorem dX8_layHeights_51 : decode cX8_layHeights 51 = .ok (.getfield 7, 3) := by decide +kernel
theorem dX8_layHeights_54 : decode cX8_layHeights 54 = .ok (.sipush 191, 3) := by decide +kernel
theorem dX8_layHeights_57 : decode cX8_layHeights 57 = .ok (.iload 4, 2) := by decide +kernel
theorem dX8_layHeights_59 : decode cX8_layHeights 59 = .ok (.iadd, 1) := by decide +kernel
theorem dX8_layHeights_60 : decode cX8_layHeights 60 = .ok (.iaload, 1) := by decide +kernel
theorem dX8_layHeights_61 : decode cX8_layHeights 61 = .ok (.istore 6, 2) := by decide +kernel
theorem dX8_layHeights_63 : decode cX8_layHeights 63 = .ok (.aload_n 0, 1) := by decide +kernel
theorem dX8_layHeights_64 : decode cX8_layHeights 64 = .ok (.getfield 7, 3) := by decide +kernel
theorem dX8_layHeights_67 : decode cX8_layHeights 67 = .ok (.sipush 201, 3) := by decide +kernel
theorem dX8_layHeights_70 : decode cX8_layHeights 70 = .ok (.iload 4, 2) := by decide +kernel
theorem dX8_layHeights_72 : decode cX8_layHeights 72 = .ok (.iadd, 1) := by decide +kernel
theorem dX8_layHeights_73 : decode cX8_layHeights 73 = .ok (.iaload, 1) := by decide +kernel
theorem dX8_layHeights_74 : decode cX8_layHeights 74 = .ok (.istore 7, 2) := by decide +kernel
theorem dX8_layHeights_76 : decode cX8_layHeights 76 = .ok (.iload 6, 2) := by decide +kernel
theorem dX8_layHeights_78 : decode cX8_layHeights 78 = .ok (.iload_n 3, 1) := by decide +kernel
theorem dX8_layHeights_79 : decode cX8_layHeights 79 = .ok (.isub, 1) := by decide +kernel
theorem dX8_layHeights_80 : decode cX8_layHeights 80 = .ok (.invokestatic 59, 3) := by decide +kernel
theorem dX8_layHeights_83 : decode cX8_layHeights 83 = .ok (.iload 7, 2) := by decide +kernel
theorem dX8_layHeights_85 : decode cX8_layHeights 85 = .ok (.if_icmp .gt 8, 3) := by decide +kernel
theorem dX8_layHeights_88 : decode cX8_layHeights 88 = .ok (.iload 6, 2) := by decide +kernel
theorem dX8_layHeights_90 : decode cX8_layHeights 90 = .ok (.goto 20, 3) := by decide +kernel
theorem dX8_layHeights_93 : decode cX8_layHeights 93 = .ok (.iload 6, 2) := by decide +kernel
theorem dX8_layHeights_95 : decode cX8_layHeights 95 = .ok (.iload_n 3, 1) := by decide +kernel
theorem dX8_layHeights_96 : decode cX8_layHeights 96 = .ok (.if_icmp .le 10, 3) := by decide +kernel
theorem dX8_layHeights_99 : decode cX8_layHeights 99 = .ok (.iload_n 3, 1) := by decide +kernel
theorem dX8_layHeights_100 : decode cX8_layHeights 100 = .ok (.iload 7, 2) := by decide +kernel
theorem dX8_layHeights_102 : decode cX8_layHeights 102 = .ok (.iadd, 1) := by decide +kernel
theorem dX8_layHeights_103 : decode cX8_layHeights 103 = .ok (.goto 7, 3) := by decide +kernel
theorem dX8_layHeights_106 : decode cX8_layHeights 106 = .ok (.iload_n 3, 1) := by decide +kernel
theorem dX8_layHeights_107 : decode cX8_layHeights 107 = .ok (.iload 7, 2) := by decide +kernel
theorem dX8_layHeights_109 : decode cX8_layHeights 109 = .ok (.isub, 1) := by decide +kernel
theorem dX8_layHeights_110 : decode cX8_layHeights 110 = .ok (.istore 5, 2) := by decide +kernel
theorem dX8_layHeights_112 : decode cX8_layHeights 112 = .ok (.aload_n 0, 1) := by decide +kernel
theorem dX8_layHeights_113 : decode cX8_layHeights 113 = .ok (.getfield 23, 3) := by decide +kernel
theorem dX8_layHeights_116 : decode cX8_layHeights 116 = .ok (.iload_n 2, 1) := by decide +kernel
theorem dX8_layHeights_117 : decode cX8_layHeights 117 = .ok (.iload 5, 2) := by decide +kernel
theorem dX8_layHeights_119 : decode cX8_layHeights 119 = .ok (.iastore, 1) := by decide +kernel
theorem dX8_layHeights_120 : decode cX8_layHeights 120 = .ok (.iinc 2 1, 3) := by decide +kernel
theorem dX8_layHeights_123 : decode cX8_layHeights 123 = .ok (.goto (-107), 3) := by decide +kernel
theorem dX8_layHeights_126 : decode cX8_layHeights 126 = .ok (.return_, 1) := by decide +kernel
theorem dX8_nextBegin_0 : decode cX8_nextBegin 0 = .ok (.bipush (-6), 2) := by decide +kernel
theorem dX8_nextBegin_2 : decode cX8_nextBegin 2 = .ok (.istore_n 2, 1) := by decide +kernel
theorem dX8_nextBegin_3 : decode cX8_nextBegin 3 = .ok (.iconst 0, 1) := by decide +kernel
theorem dX8_nextBegin_4 : decode cX8_nextBegin 4 = .ok (.istore_n 3, 1) := by decide +kernel
theorem dX8_nextBegin_5 : decode cX8_nextBegin 5 = .ok (.iload_n 3, 1) := by decide +kernel
theorem dX8_nextBegin_6 : decode cX8_nextBegin 6 = .ok (.aload_n 0, 1) := by decide +kernel
theorem dX8_nextBegin_7 : decode cX8_nextBegin 7 = .ok (.getfield 7, 3) := by decide +kernel
theorem dX8_nextBegin_10 : decode cX8_nextBegin 10 = .ok (.sipush 211, 3) := by decide +kernel
theorem dX8_nextBegin_13 : decode cX8_nextBegin 13 = .ok (.iaload, 1) := by decide +kernel
theorem dX8_nextBegin_14 : decode cX8_nextBegin 14 = .ok (.if_icmp .ge 84, 3) := by decide +kernel
theorem dX8_nextBegin_17 : decode cX8_nextBegin 17 = .ok (.aload_n 0, 1) := by decide +kernel
theorem dX8_nextBegin_18 : decode cX8_nextBegin 18 = .ok (.getfield 7, 3) := by decide +kernel
theorem dX8_nextBegin_21 : decode cX8_nextBegin 21 = .ok (.sipush 171, 3) := by decide +kernel
theorem dX8_nextBegin_24 : decode cX8_nextBegin 24 = .ok (.iload_n 3, 1) := by decide +kernel
theorem dX8_nextBegin_25 : decode cX8_nextBegin 25 = .ok (.iadd, 1) := by decide +kernel
theorem dX8_nextBegin_26 : decode cX8_nextBegin 26 = .ok (.iaload, 1) := by decide +kernel
theorem dX8_nextBegin_27 : decode cX8_nextBegin 27 = .ok (.aload_n 0, 1) := by decide +kernel
theorem dX8_nextBegin_28 : decode cX8_nextBegin 28 = .ok (.getfield 7, 3) := by decide +kernel
theorem dX8_nextBegin_31 : decode cX8_nextBegin 31 = .ok (.sipush 171, 3) := by decide +kernel
theorem dX8_nextBegin_34 : decode cX8_nextBegin 34 = .ok (.iload_n 1, 1) := by decide +kernel
theorem dX8_nextBegin_35 : decode cX8_nextBegin 35 = .ok (.iadd, 1) := by decide +kernel
theorem dX8_nextBegin_36 : decode cX8_nextBegin 36 = .ok (.iaload, 1) := by decide +kernel
theorem dX8_nextBegin_37 : decode cX8_nextBegin 37 = .ok (.if_icmp .ne 55, 3) := by decide +kernel
theorem dX8_nextBegin_40 : decode cX8_nextBegin 40 = .ok (.aload_n 0, 1) := by decide +kernel
theorem dX8_nextBegin_41 : decode cX8_nextBegin 41 = .ok (.getfield 7, 3) := by decide +kernel
theorem dX8_nextBegin_44 : decode cX8_nextBegin 44 = .ok (.sipush 181, 3) := by decide +kernel
theorem dX8_nextBegin_47 : decode cX8_nextBegin 47 = .ok (.iload_n 3, 1) := by decide +kernel
theorem dX8_nextBegin_48 : decode cX8_nextBegin 48 = .ok (.iadd, 1) := by decide +kernel
theorem dX8_nextBegin_49 : decode cX8_nextBegin 49 = .ok (.iaload, 1) := by decide +kernel
theorem dX8_nextBegin_50 : decode cX8_nextBegin 50 = .ok (.aload_n 0, 1) := by decide +kernel
theorem dX8_nextBegin_51 : decode cX8_nextBegin 51 = .ok (.getfield 7, 3) := by decide +kernel
theorem dX8_nextBegin_54 : decode cX8_nextBegin 54 = .ok (.sipush 181, 3) := by decide +kernel
theorem dX8_nextBegin_57 : decode cX8_nextBegin 57 = .ok (.iload_n 1, 1) := by decide +kernel
theorem dX8_nextBegin_58 : decode cX8_nextBegin 58 = .ok (.iadd, 1) := by decide +kernel
theorem dX8_nextBegin_59 : decode cX8_nextBegin 59 = .ok (.iaload, 1) := by decide +kernel
theorem dX8_nextBegin_60 : decode cX8_nextBegin 60 = .ok (.if_icmp .le 32, 3) := by decide +kernel
theorem dX8_nextBegin_63 : decode cX8_nextBegin 63 = .ok (.iload_n 2, 1) := by decide +kernel
theorem dX8_nextBegin_64 : decode cX8_nextBegin 64 = .ok (.ifCond .lt 17, 3) := by decide +kernel
theorem dX8_nextBegin_67 : decode cX8_nextBegin 67 = .ok (.aload_n 0, 1) := by decide +kernel
theorem dX8_nextBegin_68 : decode cX8_nextBegin 68 = .ok (.getfield 7, 3) := by decide +kernel
theorem dX8_nextBegin_71 : decode cX8_nextBegin 71 = .ok (.sipush 181, 3) := by decide +kernel
theorem dX8_nextBegin_74 : decode cX8_nextBegin 74 = .ok (.iload_n 3, 1) := by decide +kernel
theorem dX8_nextBegin_75 : decode cX8_nextBegin 75 = .ok (.iadd, 1) := by decide +kernel
theorem dX8_nextBegin_76 : decode cX8_nextBegin 76 = .ok (.iaload, 1) := by decide +kernel
theorem dX8_nextBegin_77 : decode cX8_nextBegin 77 = .ok (.iload_n 2, 1) := by decide +kernel
theorem dX8_nextBegin_78 : decode cX8_nextBegin 78 = .ok (.if_icmp .ge 14, 3) := by decide +kernel
theorem dX8_nextBegin_81 : decode cX8_nextBegin 81 = .ok (.aload_n 0, 1) := by decide +kernel
theorem dX8_nextBegin_82 : decode cX8_nextBegin 82 = .ok (.getfield 7, 3) := by decide +kernel
theorem dX8_nextBegin_85 : decode cX8_nextBegin 85 = .ok (.sipush 181, 3) := by decide +kernel
theorem dX8_nextBegin_88 : decode cX8_nextBegin 88 = .ok (.iload_n 3, 1) := by decide +kernel
theorem dX8_nextBegin_89 : decode cX8_nextBegin 89 = .ok (.iadd, 1) := by decide +kernel
theorem dX8_nextBegin_90 : decode cX8_nextBegin 90 = .ok (.iaload, 1) := by decide +kernel
theorem dX8_nextBegin_91 : decode cX8_nextBegin 91 = .ok (.istore_n 2, 1) := by decide +kernel
theorem dX8_nextBegin_92 : decode cX8_nextBegin 92 = .ok (.iinc 3 1, 3) := by decide +kernel
theorem dX8_nextBegin_95 : decode cX8_nextBegin 95 = .ok (.goto (-90), 3) := by decide +kernel
theorem dX8_nextBegin_98 : decode cX8_nextBegin 98 = .ok (.iload_n 2, 1) := by decide +kernel
theorem dX8_nextBegin_99 : decode cX8_nextBegin 99 = .ok (.ireturn, 1) := by decide +kernel
set_option maxRecDepth 20000 in
theorem ggX8_endOf_X8_layHeights : GoodIn wsX8_endOf wsX8_layHeights := goodIn_r _ [7, 2, 1, 8, 9, 10, 6, 11, 12, 13, 14, 19, 20, 21, 22, 23, 24, 25, 26, 27, 28, 29, 30, 31] (by decide +kernel) (by decide +kernel)
set_option maxRecDepth 20000 in
theorem gX8_endOf_X8_layHeights : GoodIn wsX8_endOf (wsV RX8 100 RX8 yX8_layHeights wsX8_layHeights) := goodIn_app (goodIn_of _ (by decide +kernel)) ggX8_endOf_X8_layHeights
set_option maxRecDepth 20000 in
theorem ggX8_endOf_X8_nextBegin : GoodIn wsX8_endOf wsX8_nextBegin := goodIn_r _ [18, 1, 19, 20, 21, 22, 23, 24, 25, 26, 27, 28, 29, 30, 31] (by decide +kernel) (by decide +kernel)
set_option maxRecDepth 20000 in
theorem gX8_endOf_X8_nextBegin : GoodIn wsX8_endOf (wsV RX8 103 RX8 yX8_nextBegin wsX8_nextBegin) := goodIn_app (goodIn_of _ (by decide +kernel)) ggX8_endOf_X8_nextBegin
theorem dX8_endOf_0 : decode cX8_endOf 0 = .ok (.aload_n 0, 1) := by decide +kernel
theorem dX8_endOf_1 : decode cX8_endOf 1 = .ok (.aload_n 0, 1) := by decide +kernel
theorem dX8_endOf_2 : decode cX8_endOf 2 = .ok (.getfield 7, 3) := by decide +kernel
theorem dX8_endOf_5 : decode cX8_endOf 5 = .ok (.sipush 171, 3) := by decide +kernel
theorem dX8_endOf_8 : decode cX8_endOf 8 = .ok (.iload_n 1, 1) := by decide +kernel
theorem dX8_endOf_9 : decode cX8_endOf 9 = .ok (.iadd, 1) := by decide +kernel
theorem dX8_endOf_10 : decode cX8_endOf 10 = .ok (.iaload, 1) := by decide +kernel
theorem dX8_endOf_11 : decode cX8_endOf 11 = .ok (.invokevirtual 100, 3) := by decide +kernel
theorem dX8_endOf_14 : decode cX8_endOf 14 = .ok (.aload_n 0, 1) := by decide +kernel
theorem dX8_endOf_15 : decode cX8_endOf 15 = .ok (.iload_n 1, 1) := by decide +kernel
theorem dX8_endOf_16 : decode cX8_endOf 16 = .ok (.invokevirtual 103, 3) := by decide +kernel
theorem dX8_endOf_19 : decode cX8_endOf 19 = .ok (.istore_n 2, 1) := by decide +kernel
theorem dX8_endOf_20 : decode cX8_endOf 20 = .ok (.aload_n 0, 1) := by decide +kernel
theorem dX8_endOf_21 : decode cX8_endOf 21 = .ok (.getfield 7, 3) := by decide +kernel
theorem dX8_endOf_24 : decode cX8_endOf 24 = .ok (.sipush 181, 3) := by decide +kernel
theorem dX8_endOf_27 : decode cX8_endOf 27 = .ok (.iload_n 1, 1) := by decide +kernel
theorem dX8_endOf_28 : decode cX8_endOf 28 = .ok (.iadd, 1) := by decide +kernel
theorem dX8_endOf_29 : decode cX8_endOf 29 = .ok (.iaload, 1) := by decide +kernel
theorem dX8_endOf_30 : decode cX8_endOf 30 = .ok (.istore_n 3, 1) := by decide +kernel
theorem dX8_endOf_31 : decode cX8_endOf 31 = .ok (.aload_n 0, 1) := by decide +kernel
theorem dX8_endOf_32 : decode cX8_endOf 32 = .ok (.getfield 23, 3) := by decide +kernel
theorem dX8_endOf_35 : decode cX8_endOf 35 = .ok (.iload_n 3, 1) := by decide +kernel
theorem dX8_endOf_36 : decode cX8_endOf 36 = .ok (.iaload, 1) := by decide +kernel
theorem dX8_endOf_37 : decode cX8_endOf 37 = .ok (.aload_n 0, 1) := by decide +kernel
theorem dX8_endOf_38 : decode cX8_endOf 38 = .ok (.getfield 7, 3) := by decide +kernel
theorem dX8_endOf_41 : decode cX8_endOf 41 = .ok (.sipush 191, 3) := by decide +kernel
theorem dX8_endOf_44 : decode cX8_endOf 44 = .ok (.iload_n 1, 1) := by decide +kernel
theorem dX8_endOf_45 : decode cX8_endOf 45 = .ok (.iadd, 1) := by decide +kernel
theorem dX8_endOf_46 : decode cX8_endOf 46 = .ok (.iaload, 1) := by decide +kernel
theorem dX8_endOf_47 : decode cX8_endOf 47 = .ok (.if_icmp .eq 14, 3) := by decide +kernel
theorem dX8_endOf_50 : decode cX8_endOf 50 = .ok (.iload_n 3, 1) := by decide +kernel
theorem dX8_endOf_51 : decode cX8_endOf 51 = .ok (.iload_n 2, 1) := by decide +kernel
theorem dX8_endOf_52 : decode cX8_endOf 52 = .ok (.if_icmp .eq 9, 3) := by decide +kernel
theorem dX8_endOf_55 : decode cX8_endOf 55 = .ok (.iinc 3 1, 3) := by decide +kernel
theorem dX8_endOf_58 : decode cX8_endOf 58 = .ok (.goto (-27), 3) := by decide +kernel
theorem dX8_endOf_61 : decode cX8_endOf 61 = .ok (.iload_n 3, 1) := by decide +kernel
theorem dX8_endOf_62 : decode cX8_endOf 62 = .ok (.ireturn, 1) := by decide +kernel
set_option maxRecDepth 20000 in
theorem ggX8_isCut_X8_endOf : GoodIn wsX8_isCut wsX8_endOf := goodIn_r _ [7, 2, 1, 8, 9, 10, 6, 11, 12, 13, 14, 15, 16, 17, 18, 19, 20, 21, 22, 23, 24, 25, 26, 27, 28, 29, 30, 31, 32, 33, 34, 35] (by decide +kernel) (by decide +kernel)
set_option maxRecDepth 20000 in
theorem gX8_isCut_X8_endOf : GoodIn wsX8_isCut (wsV RX8 106 RX8 yX8_endOf wsX8_endOf) := goodIn_app (goodIn_of _ (by decide +kernel)) ggX8_isCut_X8_endOf
theorem dX8_isCut_0 : decode cX8_isCut 0 = .ok (.aload_n 0, 1) := by decide +kernel
theorem dX8_isCut_1 : decode cX8_isCut 1 = .ok (.getfield 23, 3) := by decide +kernel
theorem dX8_isCut_4 : decode cX8_isCut 4 = .ok (.aload_n 0, 1) := by decide +kernel
theorem dX8_isCut_5 : decode cX8_isCut 5 = .ok (.iload_n 1, 1) := by decide +kernel
theorem dX8_isCut_6 : decode cX8_isCut 6 = .ok (.invokevirtual 106, 3) := by decide +kernel
theorem dX8_isCut_9 : decode cX8_isCut 9 = .ok (.iaload, 1) := by decide +kernel
theorem dX8_isCut_10 : decode cX8_isCut 10 = .ok (.aload_n 0, 1) := by decide +kernel
theorem dX8_isCut_11 : decode cX8_isCut 11 = .ok (.getfield 7, 3) := by decide +kernel
theorem dX8_isCut_14 : decode cX8_isCut 14 = .ok (.sipush 191, 3) := by decide +kernel
theorem dX8_isCut_17 : decode cX8_isCut 17 = .ok (.iload_n 1, 1) := by decide +kernel
theorem dX8_isCut_18 : decode cX8_isCut 18 = .ok (.iadd, 1) := by decide +kernel
theorem dX8_isCut_19 : decode cX8_isCut 19 = .ok (.iaload, 1) := by decide +kernel
theorem dX8_isCut_20 : decode cX8_isCut 20 = .ok (.if_icmp .eq 7, 3) := by decide +kernel
theorem dX8_isCut_23 : decode cX8_isCut 23 = .ok (.iconst 1, 1) := by decide +kernel
theorem dX8_isCut_24 : decode cX8_isCut 24 = .ok (.goto 4, 3) := by decide +kernel
theorem dX8_isCut_27 : decode cX8_isCut 27 = .ok (.iconst 0, 1) := by decide +kernel
theorem dX8_isCut_28 : decode cX8_isCut 28 = .ok (.ireturn, 1) := by decide +kernel
set_option maxRecDepth 20000 in
theorem ggX8_height_X8_isBar : GoodIn wsX8_height wsX8_isBar := goodIn_r _ [5, 6, 7, 4, 8] (by decide +kernel) (by decide +kernel)
set_option maxRecDepth 20000 in
theorem gX8_height_X8_isBar : GoodIn wsX8_height (va_wsS RX8 63 yX8_isBar wsX8_isBar) := goodIn_app (goodIn_of _ (by decide +kernel)) ggX8_height_X8_isBar
set_option maxRecDepth 20000 in
theorem ggX8_height_X8_in : GoodIn wsX8_height wsX8_in := goodIn_r _ [8] (by decide +kernel) (by decide +kernel)
set_option maxRecDepth 20000 in
theorem gX8_height_X8_in : GoodIn wsX8_height (va_wsS RX8 44 yX8_in wsX8_in) := goodIn_app (goodIn_of _ (by decide +kernel)) ggX8_height_X8_in
set_option maxRecDepth 20000 in
theorem ggX8_height_X8_layHeights : GoodIn wsX8_height wsX8_layHeights := goodIn_r _ [12, 1, 13, 14, 15, 16, 4, 17, 18, 19, 20, 21, 22, 23, 24, 25, 26, 27, 28, 29, 30, 31, 32, 33] (by decide +kernel) (by decide +kernel)
set_option maxRecDepth 20000 in
theorem gX8_height_X8_layHeights : GoodIn wsX8_height (wsV RX8 100 RX8 yX8_layHeights wsX8_layHeights) := goodIn_app (goodIn_of _ (by decide +kernel)) ggX8_height_X8_layHeights
theorem dX8_height_0 : decode cX8_height 0 = .ok (.iload_n 1, 1) := by decide +kernel
theorem dX8_height_1 : decode cX8_height 1 = .ok (.invokestatic 63, 3) := by decide +kernel
theorem dX8_height_4 : decode cX8_height 4 = .ok (.ifCond .ne 5, 3) := by decide +kernel
theorem dX8_height_7 : decode cX8_height 7 = .ok (.iconst (-1), 1) := by decide +kernel
theorem dX8_height_8 : decode cX8_height 8 = .ok (.ireturn, 1) := by decide +kernel
theorem dX8_height_9 : decode cX8_height 9 = .ok (.iload_n 2, 1) := by decide +kernel
theorem dX8_height_10 : decode cX8_height 10 = .ok (.iconst 0, 1) := by decide +kernel
theorem dX8_height_11 : decode cX8_height 11 = .ok (.sipush 300, 3) := by decide +kernel
theorem dX8_height_14 : decode cX8_height 14 = .ok (.invokestatic 44, 3) := by decide +kernel
theorem dX8_height_17 : decode cX8_height 17 = .ok (.ifCond .ne 6, 3) := by decide +kernel
theorem dX8_height_20 : decode cX8_height 20 = .ok (.bipush (-2), 2) := by decide +kernel
theorem dX8_height_22 : decode cX8_height 22 = .ok (.ireturn, 1) := by decide +kernel
theorem dX8_height_23 : decode cX8_height 23 = .ok (.aload_n 0, 1) := by decide +kernel
theorem dX8_height_24 : decode cX8_height 24 = .ok (.iload_n 1, 1) := by decide +kernel
theorem dX8_height_25 : decode cX8_height 25 = .ok (.invokevirtual 100, 3) := by decide +kernel
theorem dX8_height_28 : decode cX8_height 28 = .ok (.aload_n 0, 1) := by decide +kernel
theorem dX8_height_29 : decode cX8_height 29 = .ok (.getfield 23, 3) := by decide +kernel
theorem dX8_height_32 : decode cX8_height 32 = .ok (.iload_n 2, 1) := by decide +kernel
theorem dX8_height_33 : decode cX8_height 33 = .ok (.iaload, 1) := by decide +kernel
theorem dX8_height_34 : decode cX8_height 34 = .ok (.ireturn, 1) := by decide +kernel
set_option maxRecDepth 20000 in
theorem ggX8_layRows_X8_layHeights : GoodIn wsX8_layRows wsX8_layHeights := goodIn_r _ [7, 2, 8, 9, 10, 11, 6, 12, 13, 14, 15, 16, 17, 18, 19, 20, 21, 22, 23, 24, 25, 26, 27, 28] (by decide +kernel) (by decide +kernel)
set_option maxRecDepth 20000 in
theorem gX8_layRows_X8_layHeights : GoodIn wsX8_layRows (wsV RX8 100 RX8 yX8_layHeights wsX8_layHeights) := goodIn_app (goodIn_of _ (by decide +kernel)) ggX8_layRows_X8_layHeights
theorem dX8_layRows_0 : decode cX8_layRows 0 = .ok (.iconst 0, 1) := by decide +kernel
theorem dX8_layRows_1 : decode cX8_layRows 1 = .ok (.istore_n 1, 1) := by decide +kernel
theorem dX8_layRows_2 : decode cX8_layRows 2 = .ok (.iload_n 1, 1) := by decide +kernel
theorem dX8_layRows_3 : decode cX8_layRows 3 = .ok (.bipush 10, 2) := by decide +kernel
theorem dX8_layRows_5 : decode cX8_layRows 5 = .ok (.if_icmp .ge 47, 3) := by decide +kernel
theorem dX8_layRows_8 : decode cX8_layRows 8 = .ok (.aload_n 0, 1) := by decide +kernel
theorem dX8_layRows_9 : decode cX8_layRows 9 = .ok (.iload_n 1, 1) := by decide +kernel
theorem dX8_layRows_10 : decode cX8_layRows 10 = .ok (.invokevirtual 100, 3) := by decide +kernel
theorem dX8_layRows_13 : decode cX8_layRows 13 = .ok (.iconst 0, 1) := by decide +kernel
theorem dX8_layRows_14 : decode cX8_layRows 14 = .ok (.istore_n 2, 1) := by decide +kernel
theorem dX8_layRows_15 : decode cX8_layRows 15 = .ok (.iload_n 2, 1) := by decide +kernel
theorem dX8_layRows_16 : decode cX8_layRows 16 = .ok (.sipush 300, 3) := by decide +kernel
theorem dX8_layRows_19 : decode cX8_layRows 19 = .ok (.if_icmp .gt 27, 3) := by decide +kernel
theorem dX8_layRows_22 : decode cX8_layRows 22 = .ok (.aload_n 0, 1) := by decide +kernel
theorem dX8_layRows_23 : decode cX8_layRows 23 = .ok (.getfield 26, 3) := by decide +kernel
theorem dX8_layRows_26 : decode cX8_layRows 26 = .ok (.sipush 301, 3) := by decide +kernel
theorem dX8_layRows_29 : decode cX8_layRows 29 = .ok (.iload_n 1, 1) := by decide +kernel
theorem dX8_layRows_30 : decode cX8_layRows 30 = .ok (.imul, 1) := by decide +kernel
theorem dX8_layRows_31 : decode cX8_layRows 31 = .ok (.iload_n 2, 1) := by decide +kernel
theorem dX8_layRows_32 : decode cX8_layRows 32 = .ok (.iadd, 1) := by decide +kernel
theorem dX8_layRows_33 : decode cX8_layRows 33 = .ok (.aload_n 0, 1) := by decide +kernel
theorem dX8_layRows_34 : decode cX8_layRows 34 = .ok (.getfield 23, 3) := by decide +kernel
theorem dX8_layRows_37 : decode cX8_layRows 37 = .ok (.iload_n 2, 1) := by decide +kernel
theorem dX8_layRows_38 : decode cX8_layRows 38 = .ok (.iaload, 1) := by decide +kernel
theorem dX8_layRows_39 : decode cX8_layRows 39 = .ok (.iastore, 1) := by decide +kernel
theorem dX8_layRows_40 : decode cX8_layRows 40 = .ok (.iinc 2 1, 3) := by decide +kernel
theorem dX8_layRows_43 : decode cX8_layRows 43 = .ok (.goto (-28), 3) := by decide +kernel
theorem dX8_layRows_46 : decode cX8_layRows 46 = .ok (.iinc 1 1, 3) := by decide +kernel
theorem dX8_layRows_49 : decode cX8_layRows 49 = .ok (.goto (-47), 3) := by decide +kernel
theorem dX8_layRows_52 : decode cX8_layRows 52 = .ok (.return_, 1) := by decide +kernel
set_option maxRecDepth 20000 in
theorem ggX8_areNear_X8_size : GoodIn wsX8_areNear wsX8_size := goodIn_r _ [5] (by decide +kernel) (by decide +kernel)
set_option maxRecDepth 20000 in
theorem gX8_areNear_X8_size : GoodIn wsX8_areNear (va_wsS RX8 59 yX8_size wsX8_size) := goodIn_app (goodIn_of _ (by decide +kernel)) ggX8_areNear_X8_size
theorem dX8_areNear_0 : decode cX8_areNear 0 = .ok (.iload_n 1, 1) := by decide +kernel
theorem dX8_areNear_1 : decode cX8_areNear 1 = .ok (.iload_n 2, 1) := by decide +kernel
theorem dX8_areNear_2 : decode cX8_areNear 2 = .ok (.isub, 1) := by decide +kernel
theorem dX8_areNear_3 : decode cX8_areNear 3 = .ok (.invokestatic 59, 3) := by decide +kernel
theorem dX8_areNear_6 : decode cX8_areNear 6 = .ok (.aload_n 0, 1) := by decide +kernel
theorem dX8_areNear_7 : decode cX8_areNear 7 = .ok (.getfield 7, 3) := by decide +kernel
theorem dX8_areNear_10 : decode cX8_areNear 10 = .ok (.bipush 20, 2) := by decide +kernel
theorem dX8_areNear_12 : decode cX8_areNear 12 = .ok (.iload_n 1, 1) := by decide +kernel
theorem dX8_areNear_13 : decode cX8_areNear 13 = .ok (.iadd, 1) := by decide +kernel
theorem dX8_areNear_14 : decode cX8_areNear 14 = .ok (.iaload, 1) := by decide +kernel
theorem dX8_areNear_15 : decode cX8_areNear 15 = .ok (.aload_n 0, 1) := by decide +kernel
theorem dX8_areNear_16 : decode cX8_areNear 16 = .ok (.getfield 7, 3) := by decide +kernel
theorem dX8_areNear_19 : decode cX8_areNear 19 = .ok (.bipush 20, 2) := by decide +kernel
theorem dX8_areNear_21 : decode cX8_areNear 21 = .ok (.iload_n 2, 1) := by decide +kernel
theorem dX8_areNear_22 : decode cX8_areNear 22 = .ok (.iadd, 1) := by decide +kernel
theorem dX8_areNear_23 : decode cX8_areNear 23 = .ok (.iaload, 1) := by decide +kernel
theorem dX8_areNear_24 : decode cX8_areNear 24 = .ok (.iadd, 1) := by decide +kernel
theorem dX8_areNear_25 : decode cX8_areNear 25 = .ok (.if_icmp .gt 7, 3) := by decide +kernel
theorem dX8_areNear_28 : decode cX8_areNear 28 = .ok (.iconst 1, 1) := by decide +kernel
theorem dX8_areNear_29 : decode cX8_areNear 29 = .ok (.goto 4, 3) := by decide +kernel
theorem dX8_areNear_32 : decode cX8_areNear 32 = .ok (.iconst 0, 1) := by decide +kernel
theorem dX8_areNear_33 : decode cX8_areNear 33 = .ok (.ireturn, 1) := by decide +kernel
set_option maxRecDepth 20000 in
theorem ggX8_doStrike_X8_areNear : GoodIn wsX8_doStrike wsX8_areNear := goodIn_r _ [7, 2, 8, 9, 6, 10, 11, 12, 13, 14, 15, 16, 17, 18, 19, 20, 21, 22, 23] (by decide +kernel) (by decide +kernel)
set_option maxRecDepth 20000 in
theorem gX8_doStrike_X8_areNear : GoodIn wsX8_doStrike (wsV RX8 109 RX8 yX8_areNear wsX8_areNear) := goodIn_app (goodIn_of _ (by decide +kernel)) ggX8_doStrike_X8_areNear
theorem dX8_doStrike_0 : decode cX8_doStrike 0 = .ok (.aload_n 0, 1) := by decide +kernel
theorem dX8_doStrike_1 : decode cX8_doStrike 1 = .ok (.getfield 26, 3) := by decide +kernel
theorem dX8_doStrike_4 : decode cX8_doStrike 4 = .ok (.sipush 301, 3) := by decide +kernel
theorem dX8_doStrike_7 : decode cX8_doStrike 7 = .ok (.iload_n 1, 1) := by decide +kernel
theorem dX8_doStrike_8 : decode cX8_doStrike 8 = .ok (.imul, 1) := by decide +kernel
theorem dX8_doStrike_9 : decode cX8_doStrike 9 = .ok (.iload_n 3, 1) := by decide +kernel
theorem dX8_doStrike_10 : decode cX8_doStrike 10 = .ok (.iadd, 1) := by decide +kernel
theorem dX8_doStrike_11 : decode cX8_doStrike 11 = .ok (.iaload, 1) := by decide +kernel
theorem dX8_doStrike_12 : decode cX8_doStrike 12 = .ok (.istore 4, 2) := by decide +kernel
theorem dX8_doStrike_14 : decode cX8_doStrike 14 = .ok (.aload_n 0, 1) := by decide +kernel
theorem dX8_doStrike_15 : decode cX8_doStrike 15 = .ok (.getfield 26, 3) := by decide +kernel
theorem dX8_doStrike_18 : decode cX8_doStrike 18 = .ok (.sipush 301, 3) := by decide +kernel
theorem dX8_doStrike_21 : decode cX8_doStrike 21 = .ok (.iload_n 2, 1) := by decide +kernel
theorem dX8_doStrike_22 : decode cX8_doStrike 22 = .ok (.imul, 1) := by decide +kernel
theorem dX8_doStrike_23 : decode cX8_doStrike 23 = .ok (.iload_n 3, 1) := by decide +kernel
theorem dX8_doStrike_24 : decode cX8_doStrike 24 = .ok (.iadd, 1) := by decide +kernel
theorem dX8_doStrike_25 : decode cX8_doStrike 25 = .ok (.iaload, 1) := by decide +kernel
theorem dX8_doStrike_26 : decode cX8_doStrike 26 = .ok (.istore 5, 2) := by decide +kernel
theorem dX8_doStrike_28 : decode cX8_doStrike 28 = .ok (.aload_n 0, 1) := by decide +kernel
theorem dX8_doStrike_29 : decode cX8_doStrike 29 = .ok (.getfield 7, 3) := by decide +kernel
theorem dX8_doStrike_32 : decode cX8_doStrike 32 = .ok (.bipush 10, 2) := by decide +kernel
theorem dX8_doStrike_34 : decode cX8_doStrike 34 = .ok (.iload_n 1, 1) := by decide +kernel
theorem dX8_doStrike_35 : decode cX8_doStrike 35 = .ok (.iadd, 1) := by decide +kernel
theorem dX8_doStrike_36 : decode cX8_doStrike 36 = .ok (.iaload, 1) := by decide +kernel
theorem dX8_doStrike_37 : decode cX8_doStrike 37 = .ok (.ifCond .le 19, 3) := by decide +kernel
theorem dX8_doStrike_40 : decode cX8_doStrike 40 = .ok (.aload_n 0, 1) := by decide +kernel
theorem dX8_doStrike_41 : decode cX8_doStrike 41 = .ok (.getfield 7, 3) := by decide +kernel
theorem dX8_doStrike_44 : decode cX8_doStrike 44 = .ok (.bipush 10, 2) := by decide +kernel
theorem dX8_doStrike_46 : decode cX8_doStrike 46 = .ok (.iload_n 2, 1) := by decide +kernel
theorem dX8_doStrike_47 : decode cX8_doStrike 47 = .ok (.iadd, 1) := by decide +kernel
theorem dX8_doStrike_48 : decode cX8_doStrike 48 = .ok (.iaload, 1) := by decide +kernel
theorem dX8_doStrike_49 : decode cX8_doStrike 49 = .ok (.ifCond .le 7, 3) := by decide +kernel
theorem dX8_doStrike_52 : decode cX8_doStrike 52 = .ok (.iconst 1, 1) := by decide +kernel
theorem dX8_doStrike_53 : decode cX8_doStrike 53 = .ok (.goto 4, 3) := by decide +kernel
theorem dX8_doStrike_56 : decode cX8_doStrike 56 = .ok (.iconst 0, 1) := by decide +kernel
theorem dX8_doStrike_57 : decode cX8_doStrike 57 = .ok (.istore 6, 2) := by decide +kernel
theorem dX8_doStrike_59 : decode cX8_doStrike 59 = .ok (.iload 6, 2) := by decide +kernel
theorem dX8_doStrike_61 : decode cX8_doStrike 61 = .ok (.ifCond .eq 50, 3) := by decide +kernel
theorem dX8_doStrike_64 : decode cX8_doStrike 64 = .ok (.aload_n 0, 1) := by decide +kernel
theorem dX8_doStrike_65 : decode cX8_doStrike 65 = .ok (.iload_n 1, 1) := by decide +kernel
theorem dX8_doStrike_66 : decode cX8_doStrike 66 = .ok (.iload_n 2, 1) := by decide +kernel
theorem dX8_doStrike_67 : decode cX8_doStrike 67 = .ok (.invokevirtual 109, 3) := by decide +kernel
theorem dX8_doStrike_70 : decode cX8_doStrike 70 = .ok (.ifCond .eq 41, 3) := by decide +kernel
theorem dX8_doStrike_73 : decode cX8_doStrike 73 = .ok (.iload 4, 2) := by decide +kernel
theorem dX8_doStrike_75 : decode cX8_doStrike 75 = .ok (.aload_n 0, 1) := by decide +kernel
theorem dX8_doStrike_76 : decode cX8_doStrike 76 = .ok (.getfield 7, 3) := by decide +kernel
theorem dX8_doStrike_79 : decode cX8_doStrike 79 = .ok (.bipush 10, 2) := by decide +kernel
theorem dX8_doStrike_81 : decode cX8_doStrike 81 = .ok (.iload_n 1, 1) := by decide +kernel
theorem dX8_doStrike_82 : decode cX8_doStrike 82 = .ok (.iadd, 1) := by decide +kernel
theorem dX8_doStrike_83 : decode cX8_doStrike 83 = .ok (.iaload, 1) := by decide +kernel
theorem dX8_doStrike_84 : decode cX8_doStrike 84 = .ok (.isub, 1) := by decide +kernel
theorem dX8_doStrike_85 : decode cX8_doStrike 85 = .ok (.iload 5, 2) := by decide +kernel
theorem dX8_doStrike_87 : decode cX8_doStrike 87 = .ok (.if_icmp .ge 24, 3) := by decide +kernel
theorem dX8_doStrike_90 : decode cX8_doStrike 90 = .ok (.iload 5, 2) := by decide +kernel
theorem dX8_doStrike_92 : decode cX8_doStrike 92 = .ok (.aload_n 0, 1) := by decide +kernel
theorem dX8_doStrike_93 : decode cX8_doStrike 93 = .ok (.getfield 7, 3) := by decide +kernel
theorem dX8_doStrike_96 : decode cX8_doStrike 96 = .ok (.bipush 10, 2) := by decide +kernel
theorem dX8_doStrike_98 : decode cX8_doStrike 98 = .ok (.iload_n 2, 1) := by decide +kernel
theorem dX8_doStrike_99 : decode cX8_doStrike 99 = .ok (.iadd, 1) := by decide +kernel
theorem dX8_doStrike_100 : decode cX8_doStrike 100 = .ok (.iaload, 1) := by decide +kernel
theorem dX8_doStrike_101 : decode cX8_doStrike 101 = .ok (.isub, 1) := by decide +kernel
theorem dX8_doStrike_102 : decode cX8_doStrike 102 = .ok (.iload 4, 2) := by decide +kernel
theorem dX8_doStrike_104 : decode cX8_doStrike 104 = .ok (.if_icmp .ge 7, 3) := by decide +kernel
theorem dX8_doStrike_107 : decode cX8_doStrike 107 = .ok (.iconst 1, 1) := by decide +kernel
theorem dX8_doStrike_108 : decode cX8_doStrike 108 = .ok (.goto 4, 3) := by decide +kernel
theorem dX8_doStrike_111 : decode cX8_doStrike 111 = .ok (.iconst 0, 1) := by decide +kernel
theorem dX8_doStrike_112 : decode cX8_doStrike 112 = .ok (.ireturn, 1) := by decide +kernel
set_option maxRecDepth 20000 in
theorem ggX8_strike_X8_isBar : GoodIn wsX8_strike wsX8_isBar := goodIn_r _ [4, 5, 6, 3, 7] (by decide +kernel) (by decide +kernel)
set_option maxRecDepth 20000 in
theorem gX8_strike_X8_isBar : GoodIn wsX8_strike (va_wsS RX8 63 yX8_isBar wsX8_isBar) := goodIn_app (goodIn_of _ (by decide +kernel)) ggX8_strike_X8_isBar
set_option maxRecDepth 20000 in
theorem ggX8_strike_X8_in : GoodIn wsX8_strike wsX8_in := goodIn_r _ [7] (by decide +kernel) (by decide +kernel)
set_option maxRecDepth 20000 in
theorem gX8_strike_X8_in : GoodIn wsX8_strike (va_wsS RX8 44 yX8_in wsX8_in) := goodIn_app (goodIn_of _ (by decide +kernel)) ggX8_strike_X8_in
set_option maxRecDepth 20000 in
theorem ggX8_strike_X8_layRows : GoodIn wsX8_strike wsX8_layRows := goodIn_r _ [11, 12, 13, 14, 15, 16, 3, 17, 18, 19, 20, 21, 22, 23, 24, 25, 34, 35, 36, 37, 38, 39, 40, 41, 42, 43, 44, 45, 46] (by decide +kernel) (by decide +kernel)
set_option maxRecDepth 20000 in
theorem gX8_strike_X8_layRows : GoodIn wsX8_strike (wsV RX8 112 RX8 yX8_layRows wsX8_layRows) := goodIn_app (goodIn_of _ (by decide +kernel)) ggX8_strike_X8_layRows
set_option maxRecDepth 20000 in
theorem ggX8_strike_X8_doStrike : GoodIn wsX8_strike wsX8_doStrike := goodIn_r _ [29, 12, 18, 30, 31, 32, 3, 33, 23, 24, 25, 34, 35, 36, 37, 38, 39, 40, 41, 42, 43, 44, 45, 46] (by decide +kernel) (by decide +kernel)
set_option maxRecDepth 20000 in
theorem gX8_strike_X8_doStrike : GoodIn wsX8_strike (wsV RX8 115 RX8 yX8_doStrike wsX8_doStrike) := goodIn_app (goodIn_of _ (by decide +kernel)) ggX8_strike_X8_doStrike
theorem dX8_strike_0 : decode cX8_strike 0 = .ok (.iload_n 1, 1) := by decide +kernel
theorem dX8_strike_1 : decode cX8_strike 1 = .ok (.invokestatic 63, 3) := by decide +kernel
theorem dX8_strike_4 : decode cX8_strike 4 = .ok (.ifCond .eq 10, 3) := by decide +kernel
theorem dX8_strike_7 : decode cX8_strike 7 = .ok (.iload_n 2, 1) := by decide +kernel
theorem dX8_strike_8 : decode cX8_strike 8 = .ok (.invokestatic 63, 3) := by decide +kernel
theorem dX8_strike_11 : decode cX8_strike 11 = .ok (.ifCond .ne 5, 3) := by decide +kernel
theorem dX8_strike_14 : decode cX8_strike 14 = .ok (.iconst (-1), 1) := by decide +kernel
theorem dX8_strike_15 : decode cX8_strike 15 = .ok (.ireturn, 1) := by decide +kernel
theorem dX8_strike_16 : decode cX8_strike 16 = .ok (.iload_n 1, 1) := by decide +kernel
theorem dX8_strike_17 : decode cX8_strike 17 = .ok (.iload_n 2, 1) := by decide +kernel
theorem dX8_strike_18 : decode cX8_strike 18 = .ok (.if_icmp .eq 14, 3) := by decide +kernel
theorem dX8_strike_21 : decode cX8_strike 21 = .ok (.iload_n 3, 1) := by decide +kernel
theorem dX8_strike_22 : decode cX8_strike 22 = .ok (.iconst 0, 1) := by decide +kernel
theorem dX8_strike_23 : decode cX8_strike 23 = .ok (.sipush 300, 3) := by decide +kernel
theorem dX8_strike_26 : decode cX8_strike 26 = .ok (.invokestatic 44, 3) := by decide +kernel
theorem dX8_strike_29 : decode cX8_strike 29 = .ok (.ifCond .ne 6, 3) := by decide +kernel
theorem dX8_strike_32 : decode cX8_strike 32 = .ok (.bipush (-2), 2) := by decide +kernel
theorem dX8_strike_34 : decode cX8_strike 34 = .ok (.ireturn, 1) := by decide +kernel
theorem dX8_strike_35 : decode cX8_strike 35 = .ok (.aload_n 0, 1) := by decide +kernel
theorem dX8_strike_36 : decode cX8_strike 36 = .ok (.invokevirtual 112, 3) := by decide +kernel
theorem dX8_strike_39 : decode cX8_strike 39 = .ok (.aload_n 0, 1) := by decide +kernel
theorem dX8_strike_40 : decode cX8_strike 40 = .ok (.iload_n 1, 1) := by decide +kernel
theorem dX8_strike_41 : decode cX8_strike 41 = .ok (.iload_n 2, 1) := by decide +kernel
theorem dX8_strike_42 : decode cX8_strike 42 = .ok (.iload_n 3, 1) := by decide +kernel
theorem dX8_strike_43 : decode cX8_strike 43 = .ok (.invokevirtual 115, 3) := by decide +kernel
theorem dX8_strike_46 : decode cX8_strike 46 = .ok (.ifCond .eq 7, 3) := by decide +kernel
theorem dX8_strike_49 : decode cX8_strike 49 = .ok (.iconst 1, 1) := by decide +kernel
theorem dX8_strike_50 : decode cX8_strike 50 = .ok (.goto 4, 3) := by decide +kernel
theorem dX8_strike_53 : decode cX8_strike 53 = .ok (.iconst 0, 1) := by decide +kernel
theorem dX8_strike_54 : decode cX8_strike 54 = .ok (.ireturn, 1) := by decide +kernel
set_option maxRecDepth 20000 in
theorem ggX8_clash_X8_in : GoodIn wsX8_clash wsX8_in := goodIn_r _ [4] (by decide +kernel) (by decide +kernel)
set_option maxRecDepth 20000 in
theorem gX8_clash_X8_in : GoodIn wsX8_clash (va_wsS RX8 44 yX8_in wsX8_in) := goodIn_app (goodIn_of _ (by decide +kernel)) ggX8_clash_X8_in
set_option maxRecDepth 20000 in
theorem ggX8_clash_X8_layRows : GoodIn wsX8_clash wsX8_layRows := goodIn_r _ [8, 9, 10, 11, 12, 13, 3, 14, 15, 16, 17, 18, 19, 20, 21, 22, 31, 32, 33, 34, 35, 36, 37, 38, 39, 40, 41, 42, 43] (by decide +kernel) (by decide +kernel)
set_option maxRecDepth 20000 in
theorem gX8_clash_X8_layRows : GoodIn wsX8_clash (wsV RX8 112 RX8 yX8_layRows wsX8_layRows) := goodIn_app (goodIn_of _ (by decide +kernel)) ggX8_clash_X8_layRows
set_option maxRecDepth 20000 in
theorem ggX8_clash_X8_doStrike : GoodIn wsX8_clash wsX8_doStrike := goodIn_r _ [26, 9, 15, 27, 28, 29, 3, 30, 20, 21, 22, 31, 32, 33, 34, 35, 36, 37, 38, 39, 40, 41, 42, 43] (by decide +kernel) (by decide +kernel)
set_option maxRecDepth 20000 in
theorem gX8_clash_X8_doStrike : GoodIn wsX8_clash (wsV RX8 115 RX8 yX8_doStrike wsX8_doStrike) := goodIn_app (goodIn_of _ (by decide +kernel)) ggX8_clash_X8_doStrike
theorem dX8_clash_0 : decode cX8_clash 0 = .ok (.iload_n 1, 1) := by decide +kernel
theorem dX8_clash_1 : decode cX8_clash 1 = .ok (.iconst 0, 1) := by decide +kernel
theorem dX8_clash_2 : decode cX8_clash 2 = .ok (.sipush 300, 3) := by decide +kernel
theorem dX8_clash_5 : decode cX8_clash 5 = .ok (.invokestatic 44, 3) := by decide +kernel
theorem dX8_clash_8 : decode cX8_clash 8 = .ok (.ifCond .eq 12, 3) := by decide +kernel
theorem dX8_clash_11 : decode cX8_clash 11 = .ok (.iload_n 2, 1) := by decide +kernel
theorem dX8_clash_12 : decode cX8_clash 12 = .ok (.iconst 0, 1) := by decide +kernel
theorem dX8_clash_13 : decode cX8_clash 13 = .ok (.iconst 2, 1) := by decide +kernel
theorem dX8_clash_14 : decode cX8_clash 14 = .ok (.invokestatic 44, 3) := by decide +kernel
theorem dX8_clash_17 : decode cX8_clash 17 = .ok (.ifCond .ne 6, 3) := by decide +kernel
theorem dX8_clash_20 : decode cX8_clash 20 = .ok (.bipush (-2), 2) := by decide +kernel
theorem dX8_clash_22 : decode cX8_clash 22 = .ok (.ireturn, 1) := by decide +kernel
theorem dX8_clash_23 : decode cX8_clash 23 = .ok (.aload_n 0, 1) := by decide +kernel
theorem dX8_clash_24 : decode cX8_clash 24 = .ok (.invokevirtual 112, 3) := by decide +kernel
theorem dX8_clash_27 : decode cX8_clash 27 = .ok (.iload_n 1, 1) := by decide +kernel
theorem dX8_clash_28 : decode cX8_clash 28 = .ok (.istore_n 3, 1) := by decide +kernel
theorem dX8_clash_29 : decode cX8_clash 29 = .ok (.iload_n 3, 1) := by decide +kernel
theorem dX8_clash_30 : decode cX8_clash 30 = .ok (.sipush 300, 3) := by decide +kernel
theorem dX8_clash_33 : decode cX8_clash 33 = .ok (.if_icmp .gt 77, 3) := by decide +kernel
theorem dX8_clash_36 : decode cX8_clash 36 = .ok (.iconst 0, 1) := by decide +kernel
theorem dX8_clash_37 : decode cX8_clash 37 = .ok (.istore 4, 2) := by decide +kernel
theorem dX8_clash_39 : decode cX8_clash 39 = .ok (.iload 4, 2) := by decide +kernel
theorem dX8_clash_41 : decode cX8_clash 41 = .ok (.bipush 10, 2) := by decide +kernel
theorem dX8_clash_43 : decode cX8_clash 43 = .ok (.if_icmp .ge 61, 3) := by decide +kernel
theorem dX8_clash_46 : decode cX8_clash 46 = .ok (.iload 4, 2) := by decide +kernel
theorem dX8_clash_48 : decode cX8_clash 48 = .ok (.iconst 1, 1) := by decide +kernel
theorem dX8_clash_49 : decode cX8_clash 49 = .ok (.iadd, 1) := by decide +kernel
theorem dX8_clash_50 : decode cX8_clash 50 = .ok (.istore 5, 2) := by decide +kernel
theorem dX8_clash_52 : decode cX8_clash 52 = .ok (.iload 5, 2) := by decide +kernel
theorem dX8_clash_54 : decode cX8_clash 54 = .ok (.bipush 10, 2) := by decide +kernel
theorem dX8_clash_56 : decode cX8_clash 56 = .ok (.if_icmp .ge 42, 3) := by decide +kernel
theorem dX8_clash_59 : decode cX8_clash 59 = .ok (.aload_n 0, 1) := by decide +kernel
theorem dX8_clash_60 : decode cX8_clash 60 = .ok (.iload 4, 2) := by decide +kernel
theorem dX8_clash_62 : decode cX8_clash 62 = .ok (.iload 5, 2) := by decide +kernel
theorem dX8_clash_64 : decode cX8_clash 64 = .ok (.iload_n 3, 1) := by decide +kernel
theorem dX8_clash_65 : decode cX8_clash 65 = .ok (.invokevirtual 115, 3) := by decide +kernel
theorem dX8_clash_68 : decode cX8_clash 68 = .ok (.ifCond .eq 24, 3) := by decide +kernel
theorem dX8_clash_71 : decode cX8_clash 71 = .ok (.iload_n 2, 1) := by decide +kernel
theorem dX8_clash_72 : decode cX8_clash 72 = .ok (.ifCond .ne 7, 3) := by decide +kernel
theorem dX8_clash_75 : decode cX8_clash 75 = .ok (.iload_n 3, 1) := by decide +kernel
theorem dX8_clash_76 : decode cX8_clash 76 = .ok (.goto 15, 3) := by decide +kernel
theorem dX8_clash_79 : decode cX8_clash 79 = .ok (.iload_n 2, 1) := by decide +kernel
theorem dX8_clash_80 : decode cX8_clash 80 = .ok (.iconst 1, 1) := by decide +kernel
theorem dX8_clash_81 : decode cX8_clash 81 = .ok (.if_icmp .ne 8, 3) := by decide +kernel
theorem dX8_clash_84 : decode cX8_clash 84 = .ok (.iload 4, 2) := by decide +kernel
theorem dX8_clash_86 : decode cX8_clash 86 = .ok (.goto 5, 3) := by decide +kernel
theorem dX8_clash_89 : decode cX8_clash 89 = .ok (.iload 5, 2) := by decide +kernel
theorem dX8_clash_91 : decode cX8_clash 91 = .ok (.ireturn, 1) := by decide +kernel
theorem dX8_clash_92 : decode cX8_clash 92 = .ok (.iinc 5 1, 3) := by decide +kernel
theorem dX8_clash_95 : decode cX8_clash 95 = .ok (.goto (-43), 3) := by decide +kernel
theorem dX8_clash_98 : decode cX8_clash 98 = .ok (.iinc 4 1, 3) := by decide +kernel
theorem dX8_clash_101 : decode cX8_clash 101 = .ok (.goto (-62), 3) := by decide +kernel
theorem dX8_clash_104 : decode cX8_clash 104 = .ok (.iinc 3 1, 3) := by decide +kernel
theorem dX8_clash_107 : decode cX8_clash 107 = .ok (.goto (-78), 3) := by decide +kernel
theorem dX8_clash_110 : decode cX8_clash 110 = .ok (.bipush (-6), 2) := by decide +kernel
theorem dX8_clash_112 : decode cX8_clash 112 = .ok (.ireturn, 1) := by decide +kernel
set_option maxRecDepth 20000 in
theorem ggX8_often_X8_isBar : GoodIn wsX8_often wsX8_isBar := goodIn_r _ [4, 5, 6, 3, 7] (by decide +kernel) (by decide +kernel)
set_option maxRecDepth 20000 in
theorem gX8_often_X8_isBar : GoodIn wsX8_often (va_wsS RX8 63 yX8_isBar wsX8_isBar) := goodIn_app (goodIn_of _ (by decide +kernel)) ggX8_often_X8_isBar
set_option maxRecDepth 20000 in
theorem ggX8_often_X8_layRows : GoodIn wsX8_often wsX8_layRows := goodIn_r _ [11, 12, 13, 14, 15, 16, 3, 17, 18, 19, 20, 21, 22, 23, 24, 25, 34, 35, 36, 37, 38, 39, 40, 41, 42, 43, 44, 45, 46] (by decide +kernel) (by decide +kernel)
set_option maxRecDepth 20000 in
theorem gX8_often_X8_layRows : GoodIn wsX8_often (wsV RX8 112 RX8 yX8_layRows wsX8_layRows) := goodIn_app (goodIn_of _ (by decide +kernel)) ggX8_often_X8_layRows
set_option maxRecDepth 20000 in
theorem ggX8_often_X8_doStrike : GoodIn wsX8_often wsX8_doStrike := goodIn_r _ [29, 12, 18, 30, 31, 32, 3, 33, 23, 24, 25, 34, 35, 36, 37, 38, 39, 40, 41, 42, 43, 44, 45, 46] (by decide +kernel) (by decide +kernel)
set_option maxRecDepth 20000 in
theorem gX8_often_X8_doStrike : GoodIn wsX8_often (wsV RX8 115 RX8 yX8_doStrike wsX8_doStrike) := goodIn_app (goodIn_of _ (by decide +kernel)) ggX8_often_X8_doStrike
theorem dX8_often_0 : decode cX8_often 0 = .ok (.iload_n 1, 1) := by decide +kernel
theorem dX8_often_1 : decode cX8_often 1 = .ok (.invokestatic 63, 3) := by decide +kernel
theorem dX8_often_4 : decode cX8_often 4 = .ok (.ifCond .eq 10, 3) := by decide +kernel
theorem dX8_often_7 : decode cX8_often 7 = .ok (.iload_n 2, 1) := by decide +kernel
theorem dX8_often_8 : decode cX8_often 8 = .ok (.invokestatic 63, 3) := by decide +kernel
theorem dX8_often_11 : decode cX8_often 11 = .ok (.ifCond .ne 5, 3) := by decide +kernel
theorem dX8_often_14 : decode cX8_often 14 = .ok (.iconst (-1), 1) := by decide +kernel
theorem dX8_often_15 : decode cX8_often 15 = .ok (.ireturn, 1) := by decide +kernel
theorem dX8_often_16 : decode cX8_often 16 = .ok (.iload_n 1, 1) := by decide +kernel
theorem dX8_often_17 : decode cX8_often 17 = .ok (.iload_n 2, 1) := by decide +kernel
theorem dX8_often_18 : decode cX8_often 18 = .ok (.if_icmp .ne 6, 3) := by decide +kernel
theorem dX8_often_21 : decode cX8_often 21 = .ok (.bipush (-2), 2) := by decide +kernel
theorem dX8_often_23 : decode cX8_often 23 = .ok (.ireturn, 1) := by decide +kernel
theorem dX8_often_24 : decode cX8_often 24 = .ok (.aload_n 0, 1) := by decide +kernel
theorem dX8_often_25 : decode cX8_often 25 = .ok (.invokevirtual 112, 3) := by decide +kernel
theorem dX8_often_28 : decode cX8_often 28 = .ok (.iconst 0, 1) := by decide +kernel
theorem dX8_often_29 : decode cX8_often 29 = .ok (.istore_n 3, 1) := by decide +kernel
theorem dX8_often_30 : decode cX8_often 30 = .ok (.iconst 0, 1) := by decide +kernel
theorem dX8_often_31 : decode cX8_often 31 = .ok (.istore 4, 2) := by decide +kernel
theorem dX8_often_33 : decode cX8_often 33 = .ok (.iload 4, 2) := by decide +kernel
theorem dX8_often_35 : decode cX8_often 35 = .ok (.sipush 300, 3) := by decide +kernel
theorem dX8_often_38 : decode cX8_often 38 = .ok (.if_icmp .gt 28, 3) := by decide +kernel
theorem dX8_often_41 : decode cX8_often 41 = .ok (.iload_n 3, 1) := by decide +kernel
theorem dX8_often_42 : decode cX8_often 42 = .ok (.aload_n 0, 1) := by decide +kernel
theorem dX8_often_43 : decode cX8_often 43 = .ok (.iload_n 1, 1) := by decide +kernel
theorem dX8_often_44 : decode cX8_often 44 = .ok (.iload_n 2, 1) := by decide +kernel
theorem dX8_often_45 : decode cX8_often 45 = .ok (.iload 4, 2) := by decide +kernel
theorem dX8_often_47 : decode cX8_often 47 = .ok (.invokevirtual 115, 3) := by decide +kernel
theorem dX8_often_50 : decode cX8_often 50 = .ok (.ifCond .eq 7, 3) := by decide +kernel
theorem dX8_often_53 : decode cX8_often 53 = .ok (.iconst 1, 1) := by decide +kernel
theorem dX8_often_54 : decode cX8_often 54 = .ok (.goto 4, 3) := by decide +kernel
theorem dX8_often_57 : decode cX8_often 57 = .ok (.iconst 0, 1) := by decide +kernel
theorem dX8_often_58 : decode cX8_often 58 = .ok (.iadd, 1) := by decide +kernel
theorem dX8_often_59 : decode cX8_often 59 = .ok (.istore_n 3, 1) := by decide +kernel
theorem dX8_often_60 : decode cX8_often 60 = .ok (.iinc 4 1, 3) := by decide +kernel
theorem dX8_often_63 : decode cX8_often 63 = .ok (.goto (-30), 3) := by decide +kernel
theorem dX8_often_66 : decode cX8_often 66 = .ok (.iload_n 3, 1) := by decide +kernel
theorem dX8_often_67 : decode cX8_often 67 = .ok (.ireturn, 1) := by decide +kernel
theorem dX8_begin_0 : decode cX8_begin 0 = .ok (.aload_n 0, 1) := by decide +kernel
theorem dX8_begin_1 : decode cX8_begin 1 = .ok (.getfield 7, 3) := by decide +kernel
theorem dX8_begin_4 : decode cX8_begin 4 = .ok (.sipush 181, 3) := by decide +kernel
theorem dX8_begin_7 : decode cX8_begin 7 = .ok (.aload_n 0, 1) := by decide +kernel
theorem dX8_begin_8 : decode cX8_begin 8 = .ok (.getfield 29, 3) := by decide +kernel
theorem dX8_begin_11 : decode cX8_begin 11 = .ok (.iload_n 1, 1) := by decide +kernel
theorem dX8_begin_12 : decode cX8_begin 12 = .ok (.iaload, 1) := by decide +kernel
theorem dX8_begin_13 : decode cX8_begin 13 = .ok (.iadd, 1) := by decide +kernel
theorem dX8_begin_14 : decode cX8_begin 14 = .ok (.iaload, 1) := by decide +kernel
theorem dX8_begin_15 : decode cX8_begin 15 = .ok (.ireturn, 1) := by decide +kernel
set_option maxRecDepth 20000 in
theorem ggX8_canDoBoth_X8_size : GoodIn wsX8_canDoBoth wsX8_size := goodIn_r _ [7] (by decide +kernel) (by decide +kernel)
set_option maxRecDepth 20000 in
theorem gX8_canDoBoth_X8_size : GoodIn wsX8_canDoBoth (va_wsS RX8 59 yX8_size wsX8_size) := goodIn_app (goodIn_of _ (by decide +kernel)) ggX8_canDoBoth_X8_size
set_option maxRecDepth 20000 in
theorem ggX8_canDoBoth_X8_begin : GoodIn wsX8_canDoBoth wsX8_begin := goodIn_r _ [11, 1, 2, 12, 13, 14, 15, 16, 17, 18, 19, 20, 21, 22, 23, 24] (by decide +kernel) (by decide +kernel)
set_option maxRecDepth 20000 in
theorem gX8_canDoBoth_X8_begin : GoodIn wsX8_canDoBoth (wsV RX8 118 RX8 yX8_begin wsX8_begin) := goodIn_app (goodIn_of _ (by decide +kernel)) ggX8_canDoBoth_X8_begin
theorem dX8_canDoBoth_0 : decode cX8_canDoBoth 0 = .ok (.aload_n 0, 1) := by decide +kernel
theorem dX8_canDoBoth_1 : decode cX8_canDoBoth 1 = .ok (.getfield 7, 3) := by decide +kernel
theorem dX8_canDoBoth_4 : decode cX8_canDoBoth 4 = .ok (.sipush 171, 3) := by decide +kernel
theorem dX8_canDoBoth_7 : decode cX8_canDoBoth 7 = .ok (.aload_n 0, 1) := by decide +kernel
theorem dX8_canDoBoth_8 : decode cX8_canDoBoth 8 = .ok (.getfield 29, 3) := by decide +kernel
theorem dX8_canDoBoth_11 : decode cX8_canDoBoth 11 = .ok (.iload_n 1, 1) := by decide +kernel
theorem dX8_canDoBoth_12 : decode cX8_canDoBoth 12 = .ok (.iaload, 1) := by decide +kernel
theorem dX8_canDoBoth_13 : decode cX8_canDoBoth 13 = .ok (.iadd, 1) := by decide +kernel
theorem dX8_canDoBoth_14 : decode cX8_canDoBoth 14 = .ok (.iaload, 1) := by decide +kernel
theorem dX8_canDoBoth_15 : decode cX8_canDoBoth 15 = .ok (.aload_n 0, 1) := by decide +kernel
theorem dX8_canDoBoth_16 : decode cX8_canDoBoth 16 = .ok (.getfield 7, 3) := by decide +kernel
theorem dX8_canDoBoth_19 : decode cX8_canDoBoth 19 = .ok (.sipush 171, 3) := by decide +kernel
theorem dX8_canDoBoth_22 : decode cX8_canDoBoth 22 = .ok (.aload_n 0, 1) := by decide +kernel
theorem dX8_canDoBoth_23 : decode cX8_canDoBoth 23 = .ok (.getfield 29, 3) := by decide +kernel
theorem dX8_canDoBoth_26 : decode cX8_canDoBoth 26 = .ok (.iload_n 2, 1) := by decide +kernel
theorem dX8_canDoBoth_27 : decode cX8_canDoBoth 27 = .ok (.iaload, 1) := by decide +kernel
theorem dX8_canDoBoth_28 : decode cX8_canDoBoth 28 = .ok (.iadd, 1) := by decide +kernel
theorem dX8_canDoBoth_29 : decode cX8_canDoBoth 29 = .ok (.iaload, 1) := by decide +kernel
theorem dX8_canDoBoth_30 : decode cX8_canDoBoth 30 = .ok (.isub, 1) := by decide +kernel
theorem dX8_canDoBoth_31 : decode cX8_canDoBoth 31 = .ok (.invokestatic 59, 3) := by decide +kernel
theorem dX8_canDoBoth_34 : decode cX8_canDoBoth 34 = .ok (.istore_n 3, 1) := by decide +kernel
theorem dX8_canDoBoth_35 : decode cX8_canDoBoth 35 = .ok (.aload_n 0, 1) := by decide +kernel
theorem dX8_canDoBoth_36 : decode cX8_canDoBoth 36 = .ok (.getfield 32, 3) := by decide +kernel
theorem dX8_canDoBoth_39 : decode cX8_canDoBoth 39 = .ok (.iload_n 1, 1) := by decide +kernel
theorem dX8_canDoBoth_40 : decode cX8_canDoBoth 40 = .ok (.iaload, 1) := by decide +kernel
theorem dX8_canDoBoth_41 : decode cX8_canDoBoth 41 = .ok (.aload_n 0, 1) := by decide +kernel
theorem dX8_canDoBoth_42 : decode cX8_canDoBoth 42 = .ok (.iload_n 2, 1) := by decide +kernel
theorem dX8_canDoBoth_43 : decode cX8_canDoBoth 43 = .ok (.invokevirtual 118, 3) := by decide +kernel
theorem dX8_canDoBoth_46 : decode cX8_canDoBoth 46 = .ok (.iload_n 3, 1) := by decide +kernel
theorem dX8_canDoBoth_47 : decode cX8_canDoBoth 47 = .ok (.isub, 1) := by decide +kernel
theorem dX8_canDoBoth_48 : decode cX8_canDoBoth 48 = .ok (.if_icmp .le 19, 3) := by decide +kernel
theorem dX8_canDoBoth_51 : decode cX8_canDoBoth 51 = .ok (.aload_n 0, 1) := by decide +kernel
theorem dX8_canDoBoth_52 : decode cX8_canDoBoth 52 = .ok (.getfield 32, 3) := by decide +kernel
theorem dX8_canDoBoth_55 : decode cX8_canDoBoth 55 = .ok (.iload_n 2, 1) := by decide +kernel
theorem dX8_canDoBoth_56 : decode cX8_canDoBoth 56 = .ok (.iaload, 1) := by decide +kernel
theorem dX8_canDoBoth_57 : decode cX8_canDoBoth 57 = .ok (.aload_n 0, 1) := by decide +kernel
theorem dX8_canDoBoth_58 : decode cX8_canDoBoth 58 = .ok (.iload_n 1, 1) := by decide +kernel
theorem dX8_canDoBoth_59 : decode cX8_canDoBoth 59 = .ok (.invokevirtual 118, 3) := by decide +kernel
theorem dX8_canDoBoth_62 : decode cX8_canDoBoth 62 = .ok (.iload_n 3, 1) := by decide +kernel
theorem dX8_canDoBoth_63 : decode cX8_canDoBoth 63 = .ok (.isub, 1) := by decide +kernel
theorem dX8_canDoBoth_64 : decode cX8_canDoBoth 64 = .ok (.if_icmp .gt 7, 3) := by decide +kernel
theorem dX8_canDoBoth_67 : decode cX8_canDoBoth 67 = .ok (.iconst 1, 1) := by decide +kernel
theorem dX8_canDoBoth_68 : decode cX8_canDoBoth 68 = .ok (.goto 4, 3) := by decide +kernel
theorem dX8_canDoBoth_71 : decode cX8_canDoBoth 71 = .ok (.iconst 0, 1) := by decide +kernel
theorem dX8_canDoBoth_72 : decode cX8_canDoBoth 72 = .ok (.ireturn, 1) := by decide +kernel
set_option maxRecDepth 20000 in
theorem ggX8_layAble_X8_isEven : GoodIn wsX8_layAble wsX8_isEven := goodIn_r _ [9, 2, 10, 11, 12, 8, 13, 14, 15, 16, 17, 18, 19, 20, 21, 22, 23, 24, 42, 43, 44, 45, 46, 47, 48, 49, 50, 51, 52, 53, 54] (by decide +kernel) (by decide +kernel)
set_option maxRecDepth 20000 in
theorem gX8_layAble_X8_isEven : GoodIn wsX8_layAble (wsV RX8 70 RX8 yX8_isEven wsX8_isEven) := goodIn_app (goodIn_of _ (by decide +kernel)) ggX8_layAble_X8_isEven
set_option maxRecDepth 20000 in
theorem ggX8_layAble_X8_endOf : GoodIn wsX8_layAble wsX8_endOf := goodIn_r _ [28, 2, 29, 30, 31, 32, 8, 33, 34, 35, 36, 37, 22, 23, 24, 38, 39, 40, 41, 42, 43, 44, 45, 46, 47, 48, 49, 50, 51, 52, 53, 54] (by decide +kernel) (by decide +kernel)
set_option maxRecDepth 20000 in
theorem gX8_layAble_X8_endOf : GoodIn wsX8_layAble (wsV RX8 106 RX8 yX8_endOf wsX8_endOf) := goodIn_app (goodIn_of _ (by decide +kernel)) ggX8_layAble_X8_endOf
theorem dX8_layAble_0 : decode cX8_layAble 0 = .ok (.aload_n 0, 1) := by decide +kernel
theorem dX8_layAble_1 : decode cX8_layAble 1 = .ok (.iconst 0, 1) := by decide +kernel
theorem dX8_layAble_2 : decode cX8_layAble 2 = .ok (.putfield 121, 3) := by decide +kernel
theorem dX8_layAble_5 : decode cX8_layAble 5 = .ok (.iconst 0, 1) := by decide +kernel
theorem dX8_layAble_6 : decode cX8_layAble 6 = .ok (.istore_n 1, 1) := by decide +kernel
theorem dX8_layAble_7 : decode cX8_layAble 7 = .ok (.iload_n 1, 1) := by decide +kernel
theorem dX8_layAble_8 : decode cX8_layAble 8 = .ok (.aload_n 0, 1) := by decide +kernel
theorem dX8_layAble_9 : decode cX8_layAble 9 = .ok (.getfield 7, 3) := by decide +kernel
theorem dX8_layAble_12 : decode cX8_layAble 12 = .ok (.sipush 211, 3) := by decide +kernel
theorem dX8_layAble_15 : decode cX8_layAble 15 = .ok (.iaload, 1) := by decide +kernel
theorem dX8_layAble_16 : decode cX8_layAble 16 = .ok (.if_icmp .ge 60, 3) := by decide +kernel
theorem dX8_layAble_19 : decode cX8_layAble 19 = .ok (.aload_n 0, 1) := by decide +kernel
theorem dX8_layAble_20 : decode cX8_layAble 20 = .ok (.aload_n 0, 1) := by decide +kernel
theorem dX8_layAble_21 : decode cX8_layAble 21 = .ok (.getfield 7, 3) := by decide +kernel
theorem dX8_layAble_24 : decode cX8_layAble 24 = .ok (.sipush 171, 3) := by decide +kernel
theorem dX8_layAble_27 : decode cX8_layAble 27 = .ok (.iload_n 1, 1) := by decide +kernel
theorem dX8_layAble_28 : decode cX8_layAble 28 = .ok (.iadd, 1) := by decide +kernel
theorem dX8_layAble_29 : decode cX8_layAble 29 = .ok (.iaload, 1) := by decide +kernel
theorem dX8_layAble_30 : decode cX8_layAble 30 = .ok (.invokevirtual 70, 3) := by decide +kernel
theorem dX8_layAble_33 : decode cX8_layAble 33 = .ok (.ifCond .eq 37, 3) := by decide +kernel
theorem dX8_layAble_36 : decode cX8_layAble 36 = .ok (.aload_n 0, 1) := by decide +kernel
theorem dX8_layAble_37 : decode cX8_layAble 37 = .ok (.getfield 29, 3) := by decide +kernel
theorem dX8_layAble_40 : decode cX8_layAble 40 = .ok (.aload_n 0, 1) := by decide +kernel
theorem dX8_layAble_41 : decode cX8_layAble 41 = .ok (.getfield 121, 3) := by decide +kernel
theorem dX8_layAble_44 : decode cX8_layAble 44 = .ok (.iload_n 1, 1) := by decide +kernel
theorem dX8_layAble_45 : decode cX8_layAble 45 = .ok (.iastore, 1) := by decide +kernel
theorem dX8_layAble_46 : decode cX8_layAble 46 = .ok (.aload_n 0, 1) := by decide +kernel
theorem dX8_layAble_47 : decode cX8_layAble 47 = .ok (.getfield 32, 3) := by decide +kernel
theorem dX8_layAble_50 : decode cX8_layAble 50 = .ok (.aload_n 0, 1) := by decide +kernel
theorem dX8_layAble_51 : decode cX8_layAble 51 = .ok (.getfield 121, 3) := by decide +kernel
theorem dX8_layAble_54 : decode cX8_layAble 54 = .ok (.aload_n 0, 1) := by decide +kernel
theorem dX8_layAble_55 : decode cX8_layAble 55 = .ok (.iload_n 1, 1) := by decide +kernel
theorem dX8_layAble_56 : decode cX8_layAble 56 = .ok (.invokevirtual 106, 3) := by decide +kernel
theorem dX8_layAble_59 : decode cX8_layAble 59 = .ok (.iastore, 1) := by decide +kernel
theorem dX8_layAble_60 : decode cX8_layAble 60 = .ok (.aload_n 0, 1) := by decide +kernel
theorem dX8_layAble_61 : decode cX8_layAble 61 = .ok (.dup, 1) := by decide +kernel
theorem dX8_layAble_62 : decode cX8_layAble 62 = .ok (.getfield 121, 3) := by decide +kernel
theorem dX8_layAble_65 : decode cX8_layAble 65 = .ok (.iconst 1, 1) := by decide +kernel
theorem dX8_layAble_66 : decode cX8_layAble 66 = .ok (.iadd, 1) := by decide +kernel
theorem dX8_layAble_67 : decode cX8_layAble 67 = .ok (.putfield 121, 3) := by decide +kernel
theorem dX8_layAble_70 : decode cX8_layAble 70 = .ok (.iinc 1 1, 3) := by decide +kernel
theorem dX8_layAble_73 : decode cX8_layAble 73 = .ok (.goto (-66), 3) := by decide +kernel
theorem dX8_layAble_76 : decode cX8_layAble 76 = .ok (.return_, 1) := by decide +kernel
set_option maxRecDepth 20000 in
theorem ggX8_canBeOne_X8_has : GoodIn wsX8_canBeOne wsX8_has := goodIn_r _ [5] (by decide +kernel) (by decide +kernel)
set_option maxRecDepth 20000 in
theorem gX8_canBeOne_X8_has : GoodIn wsX8_canBeOne (va_wsS RX8 80 yX8_has wsX8_has) := goodIn_app (goodIn_of _ (by decide +kernel)) ggX8_canBeOne_X8_has
set_option maxRecDepth 20000 in
theorem ggX8_canBeOne_X8_canDoBoth : GoodIn wsX8_canBeOne wsX8_canDoBoth := goodIn_r _ [9, 10, 11, 12, 13, 14, 4, 15, 16, 17, 18, 19, 20, 21, 22, 23, 24, 25, 26, 27, 28, 29, 30, 31, 32] (by decide +kernel) (by decide +kernel)
set_option maxRecDepth 20000 in
theorem gX8_canBeOne_X8_canDoBoth : GoodIn wsX8_canBeOne (wsV RX8 124 RX8 yX8_canDoBoth wsX8_canDoBoth) := goodIn_app (goodIn_of _ (by decide +kernel)) ggX8_canBeOne_X8_canDoBoth
theorem dX8_canBeOne_0 : decode cX8_canBeOne 0 = .ok (.iconst 0, 1) := by decide +kernel
theorem dX8_canBeOne_1 : decode cX8_canBeOne 1 = .ok (.istore_n 2, 1) := by decide +kernel
theorem dX8_canBeOne_2 : decode cX8_canBeOne 2 = .ok (.iload_n 2, 1) := by decide +kernel
theorem dX8_canBeOne_3 : decode cX8_canBeOne 3 = .ok (.aload_n 0, 1) := by decide +kernel
theorem dX8_canBeOne_4 : decode cX8_canBeOne 4 = .ok (.getfield 121, 3) := by decide +kernel
theorem dX8_canBeOne_7 : decode cX8_canBeOne 7 = .ok (.if_icmp .ge 49, 3) := by decide +kernel
theorem dX8_canBeOne_10 : decode cX8_canBeOne 10 = .ok (.iconst 0, 1) := by decide +kernel
theorem dX8_canBeOne_11 : decode cX8_canBeOne 11 = .ok (.istore_n 3, 1) := by decide +kernel
theorem dX8_canBeOne_12 : decode cX8_canBeOne 12 = .ok (.iload_n 3, 1) := by decide +kernel
theorem dX8_canBeOne_13 : decode cX8_canBeOne 13 = .ok (.iload_n 2, 1) := by decide +kernel
theorem dX8_canBeOne_14 : decode cX8_canBeOne 14 = .ok (.if_icmp .ge 36, 3) := by decide +kernel
theorem dX8_canBeOne_17 : decode cX8_canBeOne 17 = .ok (.iload_n 1, 1) := by decide +kernel
theorem dX8_canBeOne_18 : decode cX8_canBeOne 18 = .ok (.iload_n 2, 1) := by decide +kernel
theorem dX8_canBeOne_19 : decode cX8_canBeOne 19 = .ok (.invokestatic 80, 3) := by decide +kernel
theorem dX8_canBeOne_22 : decode cX8_canBeOne 22 = .ok (.ifCond .eq 22, 3) := by decide +kernel
theorem dX8_canBeOne_25 : decode cX8_canBeOne 25 = .ok (.iload_n 1, 1) := by decide +kernel
theorem dX8_canBeOne_26 : decode cX8_canBeOne 26 = .ok (.iload_n 3, 1) := by decide +kernel
theorem dX8_canBeOne_27 : decode cX8_canBeOne 27 = .ok (.invokestatic 80, 3) := by decide +kernel
theorem dX8_canBeOne_30 : decode cX8_canBeOne 30 = .ok (.ifCond .eq 14, 3) := by decide +kernel
theorem dX8_canBeOne_33 : decode cX8_canBeOne 33 = .ok (.aload_n 0, 1) := by decide +kernel
theorem dX8_canBeOne_34 : decode cX8_canBeOne 34 = .ok (.iload_n 2, 1) := by decide +kernel
theorem dX8_canBeOne_35 : decode cX8_canBeOne 35 = .ok (.iload_n 3, 1) := by decide +kernel
theorem dX8_canBeOne_36 : decode cX8_canBeOne 36 = .ok (.invokevirtual 124, 3) := by decide +kernel
theorem dX8_canBeOne_39 : decode cX8_canBeOne 39 = .ok (.ifCond .ne 5, 3) := by decide +kernel
theorem dX8_canBeOne_42 : decode cX8_canBeOne 42 = .ok (.iconst 0, 1) := by decide +kernel
theorem dX8_canBeOne_43 : decode cX8_canBeOne 43 = .ok (.ireturn, 1) := by decide +kernel
theorem dX8_canBeOne_44 : decode cX8_canBeOne 44 = .ok (.iinc 3 1, 3) := by decide +kernel
theorem dX8_canBeOne_47 : decode cX8_canBeOne 47 = .ok (.goto (-35), 3) := by decide +kernel
theorem dX8_canBeOne_50 : decode cX8_canBeOne 50 = .ok (.iinc 2 1, 3) := by decide +kernel
theorem dX8_canBeOne_53 : decode cX8_canBeOne 53 = .ok (.goto (-51), 3) := by decide +kernel
theorem dX8_canBeOne_56 : decode cX8_canBeOne 56 = .ok (.iconst 1, 1) := by decide +kernel
theorem dX8_canBeOne_57 : decode cX8_canBeOne 57 = .ok (.ireturn, 1) := by decide +kernel
set_option maxRecDepth 20000 in
theorem ggX8_layHands_X8_layAble : GoodIn wsX8_layHands wsX8_layAble := goodIn_r _ [8, 1, 9, 10, 11, 12, 13, 14, 7, 15, 16, 17, 18, 19, 20, 21, 22, 23, 24, 25, 26, 27, 28, 29, 30, 31, 32, 33, 34, 35, 36, 37, 38, 39, 40, 41, 42, 43, 44, 45, 46, 47, 63, 64, 65, 66, 67, 68, 69, 70, 71, 72, 73, 74, 75] (by decide +kernel) (by decide +kernel)
set_option maxRecDepth 20000 in
theorem gX8_layHands_X8_layAble : GoodIn wsX8_layHands (wsV RX8 127 RX8 yX8_layAble wsX8_layAble) := goodIn_app (goodIn_of _ (by decide +kernel)) ggX8_layHands_X8_layAble
set_option maxRecDepth 20000 in
theorem ggX8_layHands_X8_canBeOne : GoodIn wsX8_layHands wsX8_canBeOne := goodIn_r _ [51, 1, 52, 53, 7, 54, 55, 56, 57, 58, 9, 10, 11, 28, 29, 30, 59, 60, 61, 62, 63, 64, 65, 66, 67, 68, 69, 70, 71, 72, 73, 74, 75] (by decide +kernel) (by decide +kernel)
set_option maxRecDepth 20000 in
theorem gX8_layHands_X8_canBeOne : GoodIn wsX8_layHands (wsV RX8 130 RX8 yX8_canBeOne wsX8_canBeOne) := goodIn_app (goodIn_of _ (by decide +kernel)) ggX8_layHands_X8_canBeOne
theorem dX8_layHands_0 : decode cX8_layHands 0 = .ok (.aload_n 0, 1) := by decide +kernel
theorem dX8_layHands_1 : decode cX8_layHands 1 = .ok (.invokevirtual 127, 3) := by decide +kernel
theorem dX8_layHands_4 : decode cX8_layHands 4 = .ok (.iconst 1, 1) := by decide +kernel
theorem dX8_layHands_5 : decode cX8_layHands 5 = .ok (.aload_n 0, 1) := by decide +kernel
theorem dX8_layHands_6 : decode cX8_layHands 6 = .ok (.getfield 121, 3) := by decide +kernel
theorem dX8_layHands_9 : decode cX8_layHands 9 = .ok (.ishl, 1) := by decide +kernel
theorem dX8_layHands_10 : decode cX8_layHands 10 = .ok (.iconst 1, 1) := by decide +kernel
theorem dX8_layHands_11 : decode cX8_layHands 11 = .ok (.isub, 1) := by decide +kernel
theorem dX8_layHands_12 : decode cX8_layHands 12 = .ok (.istore_n 1, 1) := by decide +kernel
theorem dX8_layHands_13 : decode cX8_layHands 13 = .ok (.iconst 0, 1) := by decide +kernel
theorem dX8_layHands_14 : decode cX8_layHands 14 = .ok (.istore_n 2, 1) := by decide +kernel
theorem dX8_layHands_15 : decode cX8_layHands 15 = .ok (.iload_n 2, 1) := by decide +kernel
theorem dX8_layHands_16 : decode cX8_layHands 16 = .ok (.iload_n 1, 1) := by decide +kernel
theorem dX8_layHands_17 : decode cX8_layHands 17 = .ok (.if_icmp .gt 20, 3) := by decide +kernel
theorem dX8_layHands_20 : decode cX8_layHands 20 = .ok (.aload_n 0, 1) := by decide +kernel
theorem dX8_layHands_21 : decode cX8_layHands 21 = .ok (.getfield 35, 3) := by decide +kernel
theorem dX8_layHands_24 : decode cX8_layHands 24 = .ok (.iload_n 2, 1) := by decide +kernel
theorem dX8_layHands_25 : decode cX8_layHands 25 = .ok (.aload_n 0, 1) := by decide +kernel
theorem dX8_layHands_26 : decode cX8_layHands 26 = .ok (.iload_n 2, 1) := by decide +kernel
theorem dX8_layHands_27 : decode cX8_layHands 27 = .ok (.invokevirtual 130, 3) := by decide +kernel
theorem dX8_layHands_30 : decode cX8_layHands 30 = .ok (.bastore, 1) := by decide +kernel
theorem dX8_layHands_31 : decode cX8_layHands 31 = .ok (.iinc 2 1, 3) := by decide +kernel
theorem dX8_layHands_34 : decode cX8_layHands 34 = .ok (.goto (-19), 3) := by decide +kernel
theorem dX8_layHands_37 : decode cX8_layHands 37 = .ok (.aload_n 0, 1) := by decide +kernel
theorem dX8_layHands_38 : decode cX8_layHands 38 = .ok (.getfield 38, 3) := by decide +kernel
theorem dX8_layHands_41 : decode cX8_layHands 41 = .ok (.iconst 0, 1) := by decide +kernel
theorem dX8_layHands_42 : decode cX8_layHands 42 = .ok (.iconst 0, 1) := by decide +kernel
theorem dX8_layHands_43 : decode cX8_layHands 43 = .ok (.iastore, 1) := by decide +kernel
theorem dX8_layHands_44 : decode cX8_layHands 44 = .ok (.iconst 1, 1) := by decide +kernel
theorem dX8_layHands_45 : decode cX8_layHands 45 = .ok (.istore_n 2, 1) := by decide +kernel
theorem dX8_layHands_46 : decode cX8_layHands 46 = .ok (.iload_n 2, 1) := by decide +kernel
theorem dX8_layHands_47 : decode cX8_layHands 47 = .ok (.iload_n 1, 1) := by decide +kernel
theorem dX8_layHands_48 : decode cX8_layHands 48 = .ok (.if_icmp .gt 82, 3) := by decide +kernel
theorem dX8_layHands_51 : decode cX8_layHands 51 = .ok (.aload_n 0, 1) := by decide +kernel
theorem dX8_layHands_52 : decode cX8_layHands 52 = .ok (.getfield 38, 3) := by decide +kernel
theorem dX8_layHands_55 : decode cX8_layHands 55 = .ok (.iload_n 2, 1) := by decide +kernel
theorem dX8_layHands_56 : decode cX8_layHands 56 = .ok (.aload_n 0, 1) := by decide +kernel
theorem dX8_layHands_57 : decode cX8_layHands 57 = .ok (.getfield 121, 3) := by decide +kernel
theorem dX8_layHands_60 : decode cX8_layHands 60 = .ok (.iastore, 1) := by decide +kernel
theorem dX8_layHands_61 : decode cX8_layHands 61 = .ok (.iload_n 2, 1) := by decide +kernel
theorem dX8_layHands_62 : decode cX8_layHands 62 = .ok (.istore_n 3, 1) := by decide +kernel
theorem dX8_layHands_63 : decode cX8_layHands 63 = .ok (.iload_n 3, 1) := by decide +kernel
theorem dX8_layHands_64 : decode cX8_layHands 64 = .ok (.ifCond .le 60, 3) := by decide +kernel
theorem dX8_layHands_67 : decode cX8_layHands 67 = .ok (.aload_n 0, 1) := by decide +kernel
theorem dX8_layHands_68 : decode cX8_layHands 68 = .ok (.getfield 35, 3) := by decide +kernel
theorem dX8_layHands_71 : decode cX8_layHands 71 = .ok (.iload_n 3, 1) := by decide +kernel
theorem dX8_layHands_72 : decode cX8_layHands 72 = .ok (.baload, 1) := by decide +kernel
theorem dX8_layHands_73 : decode cX8_layHands 73 = .ok (.ifCond .eq 42, 3) := by decide +kernel
theorem dX8_layHands_76 : decode cX8_layHands 76 = .ok (.aload_n 0, 1) := by decide +kernel
theorem dX8_layHands_77 : decode cX8_layHands 77 = .ok (.getfield 38, 3) := by decide +kernel
theorem dX8_layHands_80 : decode cX8_layHands 80 = .ok (.iload_n 2, 1) := by decide +kernel
theorem dX8_layHands_81 : decode cX8_layHands 81 = .ok (.iload_n 3, 1) := by decide +kernel
theorem dX8_layHands_82 : decode cX8_layHands 82 = .ok (.iconst (-1), 1) := by decide +kernel
theorem dX8_layHands_83 : decode cX8_layHands 83 = .ok (.ixor, 1) := by decide +kernel
theorem dX8_layHands_84 : decode cX8_layHands 84 = .ok (.iand, 1) := by decide +kernel
theorem dX8_layHands_85 : decode cX8_layHands 85 = .ok (.iaload, 1) := by decide +kernel
theorem dX8_layHands_86 : decode cX8_layHands 86 = .ok (.iconst 1, 1) := by decide +kernel
theorem dX8_layHands_87 : decode cX8_layHands 87 = .ok (.iadd, 1) := by decide +kernel
theorem dX8_layHands_88 : decode cX8_layHands 88 = .ok (.aload_n 0, 1) := by decide +kernel
theorem dX8_layHands_89 : decode cX8_layHands 89 = .ok (.getfield 38, 3) := by decide +kernel
theorem dX8_layHands_92 : decode cX8_layHands 92 = .ok (.iload_n 2, 1) := by decide +kernel
theorem dX8_layHands_93 : decode cX8_layHands 93 = .ok (.iaload, 1) := by decide +kernel
theorem dX8_layHands_94 : decode cX8_layHands 94 = .ok (.if_icmp .ge 21, 3) := by decide +kernel
theorem dX8_layHands_97 : decode cX8_layHands 97 = .ok (.aload_n 0, 1) := by decide +kernel
theorem dX8_layHands_98 : decode cX8_layHands 98 = .ok (.getfield 38, 3) := by decide +kernel
theorem dX8_layHands_101 : decode cX8_layHands 101 = .ok (.iload_n 2, 1) := by decide +kernel
theorem dX8_layHands_102 : decode cX8_layHands 102 = .ok (.aload_n 0, 1) := by decide +kernel
theorem dX8_layHands_103 : decode cX8_layHands 103 = .ok (.getfield 38, 3) := by decide +kernel
theorem dX8_layHands_106 : decode cX8_layHands 106 = .ok (.iload_n 2, 1) := by decide +kernel
theorem dX8_layHands_107 : decode cX8_layHands 107 = .ok (.iload_n 3, 1) := by decide +kernel
theorem dX8_layHands_108 : decode cX8_layHands 108 = .ok (.iconst (-1), 1) := by decide +kernel
theorem dX8_layHands_109 : decode cX8_layHands 109 = .ok (.ixor, 1) := by decide +kernel
theorem dX8_layHands_110 : decode cX8_layHands 110 = .ok (.iand, 1) := by decide +kernel
theorem dX8_layHands_111 : decode cX8_layHands 111 = .ok (.iaload, 1) := by decide +kernel
theorem dX8_layHands_112 : decode cX8_layHands 112 = .ok (.iconst 1, 1) := by decide +kernel
theorem dX8_layHands_113 : decode cX8_layHands 113 = .ok (.iadd, 1) := by decide +kernel
theorem dX8_layHands_114 : decode cX8_layHands 114 = .ok (.iastore, 1) := by decide +kernel
theorem dX8_layHands_115 : decode cX8_layHands 115 = .ok (.iload_n 3, 1) := by decide +kernel
theorem dX8_layHands_116 : decode cX8_layHands 116 = .ok (.iconst 1, 1) := by decide +kernel
theorem dX8_layHands_117 : decode cX8_layHands 117 = .ok (.isub, 1) := by decide +kernel
theorem dX8_layHands_118 : decode cX8_layHands 118 = .ok (.iload_n 2, 1) := by decide +kernel
theorem dX8_layHands_119 : decode cX8_layHands 119 = .ok (.iand, 1) := by decide +kernel
theorem dX8_layHands_120 : decode cX8_layHands 120 = .ok (.istore_n 3, 1) := by decide +kernel
theorem dX8_layHands_121 : decode cX8_layHands 121 = .ok (.goto (-58), 3) := by decide +kernel
theorem dX8_layHands_124 : decode cX8_layHands 124 = .ok (.iinc 2 1, 3) := by decide +kernel
theorem dX8_layHands_127 : decode cX8_layHands 127 = .ok (.goto (-81), 3) := by decide +kernel
theorem dX8_layHands_130 : decode cX8_layHands 130 = .ok (.aload_n 0, 1) := by decide +kernel
theorem dX8_layHands_131 : decode cX8_layHands 131 = .ok (.getfield 38, 3) := by decide +kernel
theorem dX8_layHands_134 : decode cX8_layHands 134 = .ok (.iload_n 1, 1) := by decide +kernel
theorem dX8_layHands_135 : decode cX8_layHands 135 = .ok (.iaload, 1) := by decide +kernel
theorem dX8_layHands_136 : decode cX8_layHands 136 = .ok (.ireturn, 1) := by decide +kernel
set_option maxRecDepth 20000 in
theorem ggX8_fits_X8_canDoBoth : GoodIn wsX8_fits wsX8_canDoBoth := goodIn_r _ [6, 7, 8, 9, 10, 11, 5, 12, 13, 14, 15, 16, 17, 18, 19, 20, 21, 22, 23, 24, 25, 26, 27, 28, 29] (by decide +kernel) (by decide +kernel)
set_option maxRecDepth 20000 in
theorem gX8_fits_X8_canDoBoth : GoodIn wsX8_fits (wsV RX8 124 RX8 yX8_canDoBoth wsX8_canDoBoth) := goodIn_app (goodIn_of _ (by decide +kernel)) ggX8_fits_X8_canDoBoth
theorem dX8_fits_0 : decode cX8_fits 0 = .ok (.iconst 0, 1) := by decide +kernel
theorem dX8_fits_1 : decode cX8_fits 1 = .ok (.istore_n 2, 1) := by decide +kernel
theorem dX8_fits_2 : decode cX8_fits 2 = .ok (.iload_n 2, 1) := by decide +kernel
theorem dX8_fits_3 : decode cX8_fits 3 = .ok (.iload_n 1, 1) := by decide +kernel
theorem dX8_fits_4 : decode cX8_fits 4 = .ok (.if_icmp .ge 35, 3) := by decide +kernel
theorem dX8_fits_7 : decode cX8_fits 7 = .ok (.aload_n 0, 1) := by decide +kernel
theorem dX8_fits_8 : decode cX8_fits 8 = .ok (.getfield 41, 3) := by decide +kernel
theorem dX8_fits_11 : decode cX8_fits 11 = .ok (.iload_n 2, 1) := by decide +kernel
theorem dX8_fits_12 : decode cX8_fits 12 = .ok (.iaload, 1) := by decide +kernel
theorem dX8_fits_13 : decode cX8_fits 13 = .ok (.aload_n 0, 1) := by decide +kernel
theorem dX8_fits_14 : decode cX8_fits 14 = .ok (.getfield 41, 3) := by decide +kernel
theorem dX8_fits_17 : decode cX8_fits 17 = .ok (.iload_n 1, 1) := by decide +kernel
theorem dX8_fits_18 : decode cX8_fits 18 = .ok (.iaload, 1) := by decide +kernel
theorem dX8_fits_19 : decode cX8_fits 19 = .ok (.if_icmp .ne 14, 3) := by decide +kernel
theorem dX8_fits_22 : decode cX8_fits 22 = .ok (.aload_n 0, 1) := by decide +kernel
theorem dX8_fits_23 : decode cX8_fits 23 = .ok (.iload_n 1, 1) := by decide +kernel
theorem dX8_fits_24 : decode cX8_fits 24 = .ok (.iload_n 2, 1) := by decide +kernel
theorem dX8_fits_25 : decode cX8_fits 25 = .ok (.invokevirtual 124, 3) := by decide +kernel
theorem dX8_fits_28 : decode cX8_fits 28 = .ok (.ifCond .ne 5, 3) := by decide +kernel
theorem dX8_fits_31 : decode cX8_fits 31 = .ok (.iconst 0, 1) := by decide +kernel
theorem dX8_fits_32 : decode cX8_fits 32 = .ok (.ireturn, 1) := by decide +kernel
theorem dX8_fits_33 : decode cX8_fits 33 = .ok (.iinc 2 1, 3) := by decide +kernel
theorem dX8_fits_36 : decode cX8_fits 36 = .ok (.goto (-34), 3) := by decide +kernel
theorem dX8_fits_39 : decode cX8_fits 39 = .ok (.iconst 1, 1) := by decide +kernel
theorem dX8_fits_40 : decode cX8_fits 40 = .ok (.ireturn, 1) := by decide +kernel
set_option maxRecDepth 20000 in
theorem ggX8_layCrew_X8_layHands : GoodIn wsX8_layCrew wsX8_layHands := goodIn_r _ [7, 1, 8, 9, 10, 11, 12, 6, 13, 14, 15, 16, 17, 18, 19, 20, 21, 22, 23, 24, 25, 26, 27, 28, 29, 30, 31, 32, 33, 34, 35, 36, 37, 38, 39, 40, 41, 42, 43, 44, 45, 46, 47, 48, 49, 50, 51, 52, 53, 54, 55, 56, 57, 58, 59, 60, 61, 62, 63, 64, 65, 66, 67, 72, 73, 74, 75, 76, 77, 78, 79, 80, 81, 82, 83, 84] (by decide +kernel) (by decide +kernel)
set_option maxRecDepth 20000 in
theorem gX8_layCrew_X8_layHands : GoodIn wsX8_layCrew (wsV RX8 133 RX8 yX8_layHands wsX8_layHands) := goodIn_app (goodIn_of _ (by decide +kernel)) ggX8_layCrew_X8_layHands
set_option maxRecDepth 20000 in
theorem ggX8_layCrew_X8_fits : GoodIn wsX8_layCrew wsX8_fits := goodIn_r _ [71, 2, 60, 61, 62, 6, 63, 14, 15, 16, 33, 34, 35, 64, 65, 66, 67, 72, 73, 74, 75, 76, 77, 78, 79, 80, 81, 82, 83, 84] (by decide +kernel) (by decide +kernel)
set_option maxRecDepth 20000 in
theorem gX8_layCrew_X8_fits : GoodIn wsX8_layCrew (wsV RX8 137 RX8 yX8_fits wsX8_fits) := goodIn_app (goodIn_of _ (by decide +kernel)) ggX8_layCrew_X8_fits
theorem dX8_layCrew_0 : decode cX8_layCrew 0 = .ok (.aload_n 0, 1) := by decide +kernel
theorem dX8_layCrew_1 : decode cX8_layCrew 1 = .ok (.invokevirtual 133, 3) := by decide +kernel
theorem dX8_layCrew_4 : decode cX8_layCrew 4 = .ok (.istore_n 1, 1) := by decide +kernel
theorem dX8_layCrew_5 : decode cX8_layCrew 5 = .ok (.iconst 0, 1) := by decide +kernel
theorem dX8_layCrew_6 : decode cX8_layCrew 6 = .ok (.istore_n 2, 1) := by decide +kernel
theorem dX8_layCrew_7 : decode cX8_layCrew 7 = .ok (.iload_n 2, 1) := by decide +kernel
theorem dX8_layCrew_8 : decode cX8_layCrew 8 = .ok (.aload_n 0, 1) := by decide +kernel
theorem dX8_layCrew_9 : decode cX8_layCrew 9 = .ok (.getfield 121, 3) := by decide +kernel
theorem dX8_layCrew_12 : decode cX8_layCrew 12 = .ok (.if_icmp .ge 16, 3) := by decide +kernel
theorem dX8_layCrew_15 : decode cX8_layCrew 15 = .ok (.aload_n 0, 1) := by decide +kernel
theorem dX8_layCrew_16 : decode cX8_layCrew 16 = .ok (.getfield 41, 3) := by decide +kernel
theorem dX8_layCrew_19 : decode cX8_layCrew 19 = .ok (.iload_n 2, 1) := by decide +kernel
theorem dX8_layCrew_20 : decode cX8_layCrew 20 = .ok (.iconst (-1), 1) := by decide +kernel
end
section
theorem dX8_layCrew_21 : decode cX8_layCrew 21 = .ok (.iastore, 1) := by decide +kernel
theorem dX8_layCrew_22 : decode cX8_layCrew 22 = .ok (.iinc 2 1, 3) := by decide +kernel
theorem dX8_layCrew_25 : decode cX8_layCrew 25 = .ok (.goto (-18), 3) := by decide +kernel
theorem dX8_layCrew_28 : decode cX8_layCrew 28 = .ok (.iconst 0, 1) := by decide +kernel
theorem dX8_layCrew_29 : decode cX8_layCrew 29 = .ok (.istore_n 2, 1) := by decide +kernel
theorem dX8_layCrew_30 : decode cX8_layCrew 30 = .ok (.iload_n 2, 1) := by decide +kernel
theorem dX8_layCrew_31 : decode cX8_layCrew 31 = .ok (.aload_n 0, 1) := by decide +kernel
theorem dX8_layCrew_32 : decode cX8_layCrew 32 = .ok (.getfield 121, 3) := by decide +kernel
theorem dX8_layCrew_35 : decode cX8_layCrew 35 = .ok (.if_icmp .ge 77, 3) := by decide +kernel
theorem dX8_layCrew_38 : decode cX8_layCrew 38 = .ok (.iload_n 2, 1) := by decide +kernel
theorem dX8_layCrew_39 : decode cX8_layCrew 39 = .ok (.ifCond .lt 73, 3) := by decide +kernel
theorem dX8_layCrew_42 : decode cX8_layCrew 42 = .ok (.aload_n 0, 1) := by decide +kernel
theorem dX8_layCrew_43 : decode cX8_layCrew 43 = .ok (.getfield 41, 3) := by decide +kernel
theorem dX8_layCrew_46 : decode cX8_layCrew 46 = .ok (.iload_n 2, 1) := by decide +kernel
theorem dX8_layCrew_47 : decode cX8_layCrew 47 = .ok (.dup2, 1) := by decide +kernel
theorem dX8_layCrew_48 : decode cX8_layCrew 48 = .ok (.iaload, 1) := by decide +kernel
theorem dX8_layCrew_49 : decode cX8_layCrew 49 = .ok (.iconst 1, 1) := by decide +kernel
theorem dX8_layCrew_50 : decode cX8_layCrew 50 = .ok (.iadd, 1) := by decide +kernel
theorem dX8_layCrew_51 : decode cX8_layCrew 51 = .ok (.iastore, 1) := by decide +kernel
theorem dX8_layCrew_52 : decode cX8_layCrew 52 = .ok (.aload_n 0, 1) := by decide +kernel
theorem dX8_layCrew_53 : decode cX8_layCrew 53 = .ok (.getfield 41, 3) := by decide +kernel
theorem dX8_layCrew_56 : decode cX8_layCrew 56 = .ok (.iload_n 2, 1) := by decide +kernel
theorem dX8_layCrew_57 : decode cX8_layCrew 57 = .ok (.iaload, 1) := by decide +kernel
theorem dX8_layCrew_58 : decode cX8_layCrew 58 = .ok (.iload_n 1, 1) := by decide +kernel
theorem dX8_layCrew_59 : decode cX8_layCrew 59 = .ok (.if_icmp .ge 24, 3) := by decide +kernel
theorem dX8_layCrew_62 : decode cX8_layCrew 62 = .ok (.aload_n 0, 1) := by decide +kernel
theorem dX8_layCrew_63 : decode cX8_layCrew 63 = .ok (.iload_n 2, 1) := by decide +kernel
theorem dX8_layCrew_64 : decode cX8_layCrew 64 = .ok (.invokevirtual 137, 3) := by decide +kernel
theorem dX8_layCrew_67 : decode cX8_layCrew 67 = .ok (.ifCond .ne 16, 3) := by decide +kernel
theorem dX8_layCrew_70 : decode cX8_layCrew 70 = .ok (.aload_n 0, 1) := by decide +kernel
theorem dX8_layCrew_71 : decode cX8_layCrew 71 = .ok (.getfield 41, 3) := by decide +kernel
theorem dX8_layCrew_74 : decode cX8_layCrew 74 = .ok (.iload_n 2, 1) := by decide +kernel
theorem dX8_layCrew_75 : decode cX8_layCrew 75 = .ok (.dup2, 1) := by decide +kernel
theorem dX8_layCrew_76 : decode cX8_layCrew 76 = .ok (.iaload, 1) := by decide +kernel
theorem dX8_layCrew_77 : decode cX8_layCrew 77 = .ok (.iconst 1, 1) := by decide +kernel
theorem dX8_layCrew_78 : decode cX8_layCrew 78 = .ok (.iadd, 1) := by decide +kernel
theorem dX8_layCrew_79 : decode cX8_layCrew 79 = .ok (.iastore, 1) := by decide +kernel
theorem dX8_layCrew_80 : decode cX8_layCrew 80 = .ok (.goto (-28), 3) := by decide +kernel
theorem dX8_layCrew_83 : decode cX8_layCrew 83 = .ok (.aload_n 0, 1) := by decide +kernel
theorem dX8_layCrew_84 : decode cX8_layCrew 84 = .ok (.getfield 41, 3) := by decide +kernel
theorem dX8_layCrew_87 : decode cX8_layCrew 87 = .ok (.iload_n 2, 1) := by decide +kernel
theorem dX8_layCrew_88 : decode cX8_layCrew 88 = .ok (.iaload, 1) := by decide +kernel
theorem dX8_layCrew_89 : decode cX8_layCrew 89 = .ok (.iload_n 1, 1) := by decide +kernel
theorem dX8_layCrew_90 : decode cX8_layCrew 90 = .ok (.if_icmp .ge 9, 3) := by decide +kernel
theorem dX8_layCrew_93 : decode cX8_layCrew 93 = .ok (.iinc 2 1, 3) := by decide +kernel
theorem dX8_layCrew_96 : decode cX8_layCrew 96 = .ok (.goto (-66), 3) := by decide +kernel
theorem dX8_layCrew_99 : decode cX8_layCrew 99 = .ok (.aload_n 0, 1) := by decide +kernel
theorem dX8_layCrew_100 : decode cX8_layCrew 100 = .ok (.getfield 41, 3) := by decide +kernel
theorem dX8_layCrew_103 : decode cX8_layCrew 103 = .ok (.iload_n 2, 1) := by decide +kernel
theorem dX8_layCrew_104 : decode cX8_layCrew 104 = .ok (.iconst (-1), 1) := by decide +kernel
theorem dX8_layCrew_105 : decode cX8_layCrew 105 = .ok (.iastore, 1) := by decide +kernel
theorem dX8_layCrew_106 : decode cX8_layCrew 106 = .ok (.iinc 2 (-1), 3) := by decide +kernel
theorem dX8_layCrew_109 : decode cX8_layCrew 109 = .ok (.goto (-79), 3) := by decide +kernel
theorem dX8_layCrew_112 : decode cX8_layCrew 112 = .ok (.return_, 1) := by decide +kernel
set_option maxRecDepth 20000 in
theorem ggX8_handOf_X8_layCrew : GoodIn wsX8_handOf wsX8_layCrew := goodIn_r _ [8, 1, 3, 9, 10, 11, 7, 12, 13, 14, 15, 16, 17, 18, 19, 2, 20, 21, 22, 23, 24, 25, 26, 27, 28, 29, 30, 31, 32, 33, 34, 35, 36, 37, 38, 39, 40, 41, 42, 43, 44, 45, 46, 47, 48, 49, 50, 51, 52, 53, 54, 55, 56, 57, 58, 59, 60, 61, 62, 63, 64, 65, 66, 67, 68, 69, 70, 71, 72, 73, 74, 75, 76, 77, 78, 79, 80, 81, 82, 83, 84, 85, 86, 87, 88] (by decide +kernel) (by decide +kernel)
set_option maxRecDepth 20000 in
theorem gX8_handOf_X8_layCrew : GoodIn wsX8_handOf (wsV RX8 140 RX8 yX8_layCrew wsX8_layCrew) := goodIn_app (goodIn_of _ (by decide +kernel)) ggX8_handOf_X8_layCrew
theorem dX8_handOf_0 : decode cX8_handOf 0 = .ok (.aload_n 0, 1) := by decide +kernel
theorem dX8_handOf_1 : decode cX8_handOf 1 = .ok (.invokevirtual 140, 3) := by decide +kernel
theorem dX8_handOf_4 : decode cX8_handOf 4 = .ok (.bipush (-6), 2) := by decide +kernel
theorem dX8_handOf_6 : decode cX8_handOf 6 = .ok (.istore_n 2, 1) := by decide +kernel
theorem dX8_handOf_7 : decode cX8_handOf 7 = .ok (.iconst 0, 1) := by decide +kernel
theorem dX8_handOf_8 : decode cX8_handOf 8 = .ok (.istore_n 3, 1) := by decide +kernel
theorem dX8_handOf_9 : decode cX8_handOf 9 = .ok (.iload_n 3, 1) := by decide +kernel
theorem dX8_handOf_10 : decode cX8_handOf 10 = .ok (.aload_n 0, 1) := by decide +kernel
theorem dX8_handOf_11 : decode cX8_handOf 11 = .ok (.getfield 121, 3) := by decide +kernel
theorem dX8_handOf_14 : decode cX8_handOf 14 = .ok (.if_icmp .ge 30, 3) := by decide +kernel
theorem dX8_handOf_17 : decode cX8_handOf 17 = .ok (.aload_n 0, 1) := by decide +kernel
theorem dX8_handOf_18 : decode cX8_handOf 18 = .ok (.getfield 29, 3) := by decide +kernel
theorem dX8_handOf_21 : decode cX8_handOf 21 = .ok (.iload_n 3, 1) := by decide +kernel
theorem dX8_handOf_22 : decode cX8_handOf 22 = .ok (.iaload, 1) := by decide +kernel
theorem dX8_handOf_23 : decode cX8_handOf 23 = .ok (.iload_n 1, 1) := by decide +kernel
theorem dX8_handOf_24 : decode cX8_handOf 24 = .ok (.if_icmp .ne 12, 3) := by decide +kernel
theorem dX8_handOf_27 : decode cX8_handOf 27 = .ok (.aload_n 0, 1) := by decide +kernel
theorem dX8_handOf_28 : decode cX8_handOf 28 = .ok (.getfield 41, 3) := by decide +kernel
theorem dX8_handOf_31 : decode cX8_handOf 31 = .ok (.iload_n 3, 1) := by decide +kernel
theorem dX8_handOf_32 : decode cX8_handOf 32 = .ok (.iaload, 1) := by decide +kernel
theorem dX8_handOf_33 : decode cX8_handOf 33 = .ok (.goto 4, 3) := by decide +kernel
theorem dX8_handOf_36 : decode cX8_handOf 36 = .ok (.iload_n 2, 1) := by decide +kernel
theorem dX8_handOf_37 : decode cX8_handOf 37 = .ok (.istore_n 2, 1) := by decide +kernel
theorem dX8_handOf_38 : decode cX8_handOf 38 = .ok (.iinc 3 1, 3) := by decide +kernel
theorem dX8_handOf_41 : decode cX8_handOf 41 = .ok (.goto (-32), 3) := by decide +kernel
theorem dX8_handOf_44 : decode cX8_handOf 44 = .ok (.iload_n 2, 1) := by decide +kernel
theorem dX8_handOf_45 : decode cX8_handOf 45 = .ok (.ireturn, 1) := by decide +kernel
set_option maxRecDepth 20000 in
theorem ggX8_told_X8_isMove : GoodIn wsX8_told wsX8_isMove := goodIn_r _ [7, 1, 8, 9, 6, 10, 91, 92, 93, 94, 95, 96, 97, 98, 99, 100, 101, 102, 103] (by decide +kernel) (by decide +kernel)
set_option maxRecDepth 20000 in
theorem gX8_told_X8_isMove : GoodIn wsX8_told (wsV RX8 94 RX8 yX8_isMove wsX8_isMove) := goodIn_app (goodIn_of _ (by decide +kernel)) ggX8_told_X8_isMove
set_option maxRecDepth 20000 in
theorem ggX8_told_X8_endOf : GoodIn wsX8_told wsX8_endOf := goodIn_r _ [14, 1, 2, 15, 16, 17, 6, 18, 19, 20, 21, 22, 23, 24, 25, 26, 27, 28, 29, 91, 92, 93, 94, 95, 96, 97, 98, 99, 100, 101, 102, 103] (by decide +kernel) (by decide +kernel)
set_option maxRecDepth 20000 in
theorem gX8_told_X8_endOf : GoodIn wsX8_told (wsV RX8 106 RX8 yX8_endOf wsX8_endOf) := goodIn_app (goodIn_of _ (by decide +kernel)) ggX8_told_X8_endOf
set_option maxRecDepth 20000 in
theorem ggX8_told_X8_layHeights : GoodIn wsX8_told wsX8_layHeights := goodIn_r _ [18, 2, 1, 19, 20, 21, 6, 22, 23, 24, 25, 91, 92, 93, 94, 95, 96, 97, 98, 99, 100, 101, 102, 103] (by decide +kernel) (by decide +kernel)
set_option maxRecDepth 20000 in
theorem gX8_told_X8_layHeights : GoodIn wsX8_told (wsV RX8 100 RX8 yX8_layHeights wsX8_layHeights) := goodIn_app (goodIn_of _ (by decide +kernel)) ggX8_told_X8_layHeights
set_option maxRecDepth 20000 in
theorem ggX8_told_X8_isCut : GoodIn wsX8_told wsX8_isCut := goodIn_r _ [33, 2, 1, 11, 12, 13, 6, 14, 15, 16, 17, 18, 19, 20, 21, 22, 23, 24, 25, 26, 27, 28, 29, 91, 92, 93, 94, 95, 96, 97, 98, 99, 100, 101, 102, 103] (by decide +kernel) (by decide +kernel)
set_option maxRecDepth 20000 in
theorem gX8_told_X8_isCut : GoodIn wsX8_told (wsV RX8 143 RX8 yX8_isCut wsX8_isCut) := goodIn_app (goodIn_of _ (by decide +kernel)) ggX8_told_X8_isCut
set_option maxRecDepth 20000 in
theorem ggX8_told_X8_handOf : GoodIn wsX8_told wsX8_handOf := goodIn_r _ [37, 38, 39, 40, 41, 42, 43, 6, 44, 45, 46, 47, 48, 49, 50, 51, 52, 53, 54, 1, 55, 56, 57, 58, 59, 60, 61, 62, 63, 64, 65, 66, 67, 68, 69, 70, 71, 23, 24, 25, 11, 12, 13, 14, 2, 15, 16, 17, 18, 19, 20, 21, 22, 26, 27, 28, 29, 72, 73, 74, 75, 76, 77, 78, 79, 80, 81, 82, 83, 84, 85, 86, 87, 88, 89, 90, 91, 92, 93, 94, 95, 96, 97, 98, 99, 100, 101, 102, 103] (by decide +kernel) (by decide +kernel)
set_option maxRecDepth 20000 in
theorem gX8_told_X8_handOf : GoodIn wsX8_told (wsV RX8 146 RX8 yX8_handOf wsX8_handOf) := goodIn_app (goodIn_of _ (by decide +kernel)) ggX8_told_X8_handOf
theorem dX8_told_0 : decode cX8_told 0 = .ok (.aload_n 0, 1) := by decide +kernel
theorem dX8_told_1 : decode cX8_told 1 = .ok (.iload_n 1, 1) := by decide +kernel
theorem dX8_told_2 : decode cX8_told 2 = .ok (.invokevirtual 94, 3) := by decide +kernel
theorem dX8_told_5 : decode cX8_told 5 = .ok (.ifCond .ne 5, 3) := by decide +kernel
theorem dX8_told_8 : decode cX8_told 8 = .ok (.iconst (-1), 1) := by decide +kernel
theorem dX8_told_9 : decode cX8_told 9 = .ok (.ireturn, 1) := by decide +kernel
theorem dX8_told_10 : decode cX8_told 10 = .ok (.iload_n 2, 1) := by decide +kernel
theorem dX8_told_11 : decode cX8_told 11 = .ok (.tableswitch 132 0 8 #[49, 49, 49, 49, 65, 71, 101, 112, 126], 49) := by decide +kernel
theorem dX8_told_60 : decode cX8_told 60 = .ok (.aload_n 0, 1) := by decide +kernel
theorem dX8_told_61 : decode cX8_told 61 = .ok (.getfield 7, 3) := by decide +kernel
theorem dX8_told_64 : decode cX8_told 64 = .ok (.sipush 171, 3) := by decide +kernel
theorem dX8_told_67 : decode cX8_told 67 = .ok (.bipush 10, 2) := by decide +kernel
theorem dX8_told_69 : decode cX8_told 69 = .ok (.iload_n 2, 1) := by decide +kernel
theorem dX8_told_70 : decode cX8_told 70 = .ok (.imul, 1) := by decide +kernel
theorem dX8_told_71 : decode cX8_told 71 = .ok (.iadd, 1) := by decide +kernel
theorem dX8_told_72 : decode cX8_told 72 = .ok (.iload_n 1, 1) := by decide +kernel
theorem dX8_told_73 : decode cX8_told 73 = .ok (.iadd, 1) := by decide +kernel
theorem dX8_told_74 : decode cX8_told 74 = .ok (.iaload, 1) := by decide +kernel
theorem dX8_told_75 : decode cX8_told 75 = .ok (.ireturn, 1) := by decide +kernel
theorem dX8_told_76 : decode cX8_told 76 = .ok (.aload_n 0, 1) := by decide +kernel
theorem dX8_told_77 : decode cX8_told 77 = .ok (.iload_n 1, 1) := by decide +kernel
theorem dX8_told_78 : decode cX8_told 78 = .ok (.invokevirtual 106, 3) := by decide +kernel
theorem dX8_told_81 : decode cX8_told 81 = .ok (.ireturn, 1) := by decide +kernel
theorem dX8_told_82 : decode cX8_told 82 = .ok (.aload_n 0, 1) := by decide +kernel
theorem dX8_told_83 : decode cX8_told 83 = .ok (.aload_n 0, 1) := by decide +kernel
theorem dX8_told_84 : decode cX8_told 84 = .ok (.getfield 7, 3) := by decide +kernel
theorem dX8_told_87 : decode cX8_told 87 = .ok (.sipush 171, 3) := by decide +kernel
theorem dX8_told_90 : decode cX8_told 90 = .ok (.iload_n 1, 1) := by decide +kernel
theorem dX8_told_91 : decode cX8_told 91 = .ok (.iadd, 1) := by decide +kernel
theorem dX8_told_92 : decode cX8_told 92 = .ok (.iaload, 1) := by decide +kernel
theorem dX8_told_93 : decode cX8_told 93 = .ok (.invokevirtual 100, 3) := by decide +kernel
theorem dX8_told_96 : decode cX8_told 96 = .ok (.aload_n 0, 1) := by decide +kernel
theorem dX8_told_97 : decode cX8_told 97 = .ok (.getfield 23, 3) := by decide +kernel
theorem dX8_told_100 : decode cX8_told 100 = .ok (.aload_n 0, 1) := by decide +kernel
theorem dX8_told_101 : decode cX8_told 101 = .ok (.getfield 7, 3) := by decide +kernel
theorem dX8_told_104 : decode cX8_told 104 = .ok (.sipush 181, 3) := by decide +kernel
theorem dX8_told_107 : decode cX8_told 107 = .ok (.iload_n 1, 1) := by decide +kernel
theorem dX8_told_108 : decode cX8_told 108 = .ok (.iadd, 1) := by decide +kernel
theorem dX8_told_109 : decode cX8_told 109 = .ok (.iaload, 1) := by decide +kernel
theorem dX8_told_110 : decode cX8_told 110 = .ok (.iaload, 1) := by decide +kernel
theorem dX8_told_111 : decode cX8_told 111 = .ok (.ireturn, 1) := by decide +kernel
theorem dX8_told_112 : decode cX8_told 112 = .ok (.aload_n 0, 1) := by decide +kernel
theorem dX8_told_113 : decode cX8_told 113 = .ok (.getfield 23, 3) := by decide +kernel
theorem dX8_told_116 : decode cX8_told 116 = .ok (.aload_n 0, 1) := by decide +kernel
theorem dX8_told_117 : decode cX8_told 117 = .ok (.iload_n 1, 1) := by decide +kernel
theorem dX8_told_118 : decode cX8_told 118 = .ok (.invokevirtual 106, 3) := by decide +kernel
theorem dX8_told_121 : decode cX8_told 121 = .ok (.iaload, 1) := by decide +kernel
theorem dX8_told_122 : decode cX8_told 122 = .ok (.ireturn, 1) := by decide +kernel
theorem dX8_told_123 : decode cX8_told 123 = .ok (.aload_n 0, 1) := by decide +kernel
theorem dX8_told_124 : decode cX8_told 124 = .ok (.iload_n 1, 1) := by decide +kernel
theorem dX8_told_125 : decode cX8_told 125 = .ok (.invokevirtual 143, 3) := by decide +kernel
theorem dX8_told_128 : decode cX8_told 128 = .ok (.ifCond .eq 7, 3) := by decide +kernel
theorem dX8_told_131 : decode cX8_told 131 = .ok (.iconst 1, 1) := by decide +kernel
theorem dX8_told_132 : decode cX8_told 132 = .ok (.goto 4, 3) := by decide +kernel
theorem dX8_told_135 : decode cX8_told 135 = .ok (.iconst 0, 1) := by decide +kernel
theorem dX8_told_136 : decode cX8_told 136 = .ok (.ireturn, 1) := by decide +kernel
theorem dX8_told_137 : decode cX8_told 137 = .ok (.aload_n 0, 1) := by decide +kernel
theorem dX8_told_138 : decode cX8_told 138 = .ok (.iload_n 1, 1) := by decide +kernel
theorem dX8_told_139 : decode cX8_told 139 = .ok (.invokevirtual 146, 3) := by decide +kernel
theorem dX8_told_142 : decode cX8_told 142 = .ok (.ireturn, 1) := by decide +kernel
theorem dX8_told_143 : decode cX8_told 143 = .ok (.bipush (-2), 2) := by decide +kernel
theorem dX8_told_145 : decode cX8_told 145 = .ok (.ireturn, 1) := by decide +kernel
set_option maxRecDepth 20000 in
theorem ggX8_mostAtOnce_X8_begin : GoodIn wsX8_mostAtOnce wsX8_begin := goodIn_r _ [7, 8, 9, 10, 11, 12, 13, 14, 15, 16, 17, 18, 19, 20, 21, 22] (by decide +kernel) (by decide +kernel)
set_option maxRecDepth 20000 in
theorem gX8_mostAtOnce_X8_begin : GoodIn wsX8_mostAtOnce (wsV RX8 118 RX8 yX8_begin wsX8_begin) := goodIn_app (goodIn_of _ (by decide +kernel)) ggX8_mostAtOnce_X8_begin
theorem dX8_mostAtOnce_0 : decode cX8_mostAtOnce 0 = .ok (.iconst 0, 1) := by decide +kernel
theorem dX8_mostAtOnce_1 : decode cX8_mostAtOnce 1 = .ok (.istore_n 1, 1) := by decide +kernel
theorem dX8_mostAtOnce_2 : decode cX8_mostAtOnce 2 = .ok (.iconst 0, 1) := by decide +kernel
theorem dX8_mostAtOnce_3 : decode cX8_mostAtOnce 3 = .ok (.istore_n 2, 1) := by decide +kernel
theorem dX8_mostAtOnce_4 : decode cX8_mostAtOnce 4 = .ok (.iload_n 2, 1) := by decide +kernel
theorem dX8_mostAtOnce_5 : decode cX8_mostAtOnce 5 = .ok (.sipush 300, 3) := by decide +kernel
theorem dX8_mostAtOnce_8 : decode cX8_mostAtOnce 8 = .ok (.if_icmp .gt 69, 3) := by decide +kernel
theorem dX8_mostAtOnce_11 : decode cX8_mostAtOnce 11 = .ok (.iconst 0, 1) := by decide +kernel
theorem dX8_mostAtOnce_12 : decode cX8_mostAtOnce 12 = .ok (.istore_n 3, 1) := by decide +kernel
theorem dX8_mostAtOnce_13 : decode cX8_mostAtOnce 13 = .ok (.iconst 0, 1) := by decide +kernel
theorem dX8_mostAtOnce_14 : decode cX8_mostAtOnce 14 = .ok (.istore 4, 2) := by decide +kernel
theorem dX8_mostAtOnce_16 : decode cX8_mostAtOnce 16 = .ok (.iload 4, 2) := by decide +kernel
theorem dX8_mostAtOnce_18 : decode cX8_mostAtOnce 18 = .ok (.aload_n 0, 1) := by decide +kernel
theorem dX8_mostAtOnce_19 : decode cX8_mostAtOnce 19 = .ok (.getfield 121, 3) := by decide +kernel
theorem dX8_mostAtOnce_22 : decode cX8_mostAtOnce 22 = .ok (.if_icmp .ge 38, 3) := by decide +kernel
theorem dX8_mostAtOnce_25 : decode cX8_mostAtOnce 25 = .ok (.iload_n 3, 1) := by decide +kernel
theorem dX8_mostAtOnce_26 : decode cX8_mostAtOnce 26 = .ok (.aload_n 0, 1) := by decide +kernel
theorem dX8_mostAtOnce_27 : decode cX8_mostAtOnce 27 = .ok (.iload 4, 2) := by decide +kernel
theorem dX8_mostAtOnce_29 : decode cX8_mostAtOnce 29 = .ok (.invokevirtual 118, 3) := by decide +kernel
theorem dX8_mostAtOnce_32 : decode cX8_mostAtOnce 32 = .ok (.iload_n 2, 1) := by decide +kernel
theorem dX8_mostAtOnce_33 : decode cX8_mostAtOnce 33 = .ok (.if_icmp .gt 18, 3) := by decide +kernel
theorem dX8_mostAtOnce_36 : decode cX8_mostAtOnce 36 = .ok (.aload_n 0, 1) := by decide +kernel
theorem dX8_mostAtOnce_37 : decode cX8_mostAtOnce 37 = .ok (.getfield 32, 3) := by decide +kernel
theorem dX8_mostAtOnce_40 : decode cX8_mostAtOnce 40 = .ok (.iload 4, 2) := by decide +kernel
theorem dX8_mostAtOnce_42 : decode cX8_mostAtOnce 42 = .ok (.iaload, 1) := by decide +kernel
theorem dX8_mostAtOnce_43 : decode cX8_mostAtOnce 43 = .ok (.iload_n 2, 1) := by decide +kernel
theorem dX8_mostAtOnce_44 : decode cX8_mostAtOnce 44 = .ok (.if_icmp .le 7, 3) := by decide +kernel
theorem dX8_mostAtOnce_47 : decode cX8_mostAtOnce 47 = .ok (.iconst 1, 1) := by decide +kernel
theorem dX8_mostAtOnce_48 : decode cX8_mostAtOnce 48 = .ok (.goto 4, 3) := by decide +kernel
theorem dX8_mostAtOnce_51 : decode cX8_mostAtOnce 51 = .ok (.iconst 0, 1) := by decide +kernel
theorem dX8_mostAtOnce_52 : decode cX8_mostAtOnce 52 = .ok (.iadd, 1) := by decide +kernel
theorem dX8_mostAtOnce_53 : decode cX8_mostAtOnce 53 = .ok (.istore_n 3, 1) := by decide +kernel
theorem dX8_mostAtOnce_54 : decode cX8_mostAtOnce 54 = .ok (.iinc 4 1, 3) := by decide +kernel
theorem dX8_mostAtOnce_57 : decode cX8_mostAtOnce 57 = .ok (.goto (-41), 3) := by decide +kernel
theorem dX8_mostAtOnce_60 : decode cX8_mostAtOnce 60 = .ok (.iload_n 3, 1) := by decide +kernel
theorem dX8_mostAtOnce_61 : decode cX8_mostAtOnce 61 = .ok (.iload_n 1, 1) := by decide +kernel
theorem dX8_mostAtOnce_62 : decode cX8_mostAtOnce 62 = .ok (.if_icmp .le 7, 3) := by decide +kernel
theorem dX8_mostAtOnce_65 : decode cX8_mostAtOnce 65 = .ok (.iload_n 3, 1) := by decide +kernel
theorem dX8_mostAtOnce_66 : decode cX8_mostAtOnce 66 = .ok (.goto 4, 3) := by decide +kernel
theorem dX8_mostAtOnce_69 : decode cX8_mostAtOnce 69 = .ok (.iload_n 1, 1) := by decide +kernel
theorem dX8_mostAtOnce_70 : decode cX8_mostAtOnce 70 = .ok (.istore_n 1, 1) := by decide +kernel
theorem dX8_mostAtOnce_71 : decode cX8_mostAtOnce 71 = .ok (.iinc 2 1, 3) := by decide +kernel
theorem dX8_mostAtOnce_74 : decode cX8_mostAtOnce 74 = .ok (.goto (-70), 3) := by decide +kernel
theorem dX8_mostAtOnce_77 : decode cX8_mostAtOnce 77 = .ok (.iload_n 1, 1) := by decide +kernel
theorem dX8_mostAtOnce_78 : decode cX8_mostAtOnce 78 = .ok (.ireturn, 1) := by decide +kernel
set_option maxRecDepth 20000 in
theorem ggX8_hands_X8_in : GoodIn wsX8_hands wsX8_in := goodIn_r _ [5] (by decide +kernel) (by decide +kernel)
set_option maxRecDepth 20000 in
theorem gX8_hands_X8_in : GoodIn wsX8_hands (va_wsS RX8 44 yX8_in wsX8_in) := goodIn_app (goodIn_of _ (by decide +kernel)) ggX8_hands_X8_in
set_option maxRecDepth 20000 in
theorem ggX8_hands_X8_layHands : GoodIn wsX8_hands wsX8_layHands := goodIn_r _ [9, 1, 10, 11, 12, 13, 14, 4, 15, 16, 17, 18, 19, 20, 21, 22, 23, 24, 25, 26, 27, 28, 29, 30, 31, 32, 33, 34, 35, 36, 37, 38, 39, 40, 41, 42, 43, 44, 45, 46, 47, 48, 49, 50, 51, 52, 53, 54, 55, 56, 57, 58, 59, 60, 61, 62, 63, 64, 65, 66, 67, 68, 69, 74, 75, 76, 77, 78, 79, 80, 81, 82, 83, 84, 85, 86] (by decide +kernel) (by decide +kernel)
set_option maxRecDepth 20000 in
theorem gX8_hands_X8_layHands : GoodIn wsX8_hands (wsV RX8 133 RX8 yX8_layHands wsX8_layHands) := goodIn_app (goodIn_of _ (by decide +kernel)) ggX8_hands_X8_layHands
set_option maxRecDepth 20000 in
theorem ggX8_hands_X8_mostAtOnce : GoodIn wsX8_hands wsX8_mostAtOnce := goodIn_r _ [73, 1, 18, 66, 67, 68, 4, 69, 16, 17, 74, 75, 76, 77, 78, 79, 80, 81, 82, 83, 84, 85, 86] (by decide +kernel) (by decide +kernel)
set_option maxRecDepth 20000 in
theorem gX8_hands_X8_mostAtOnce : GoodIn wsX8_hands (wsV RX8 149 RX8 yX8_mostAtOnce wsX8_mostAtOnce) := goodIn_app (goodIn_of _ (by decide +kernel)) ggX8_hands_X8_mostAtOnce
theorem dX8_hands_0 : decode cX8_hands 0 = .ok (.iload_n 1, 1) := by decide +kernel
theorem dX8_hands_1 : decode cX8_hands 1 = .ok (.iconst 0, 1) := by decide +kernel
theorem dX8_hands_2 : decode cX8_hands 2 = .ok (.iconst 2, 1) := by decide +kernel
theorem dX8_hands_3 : decode cX8_hands 3 = .ok (.invokestatic 44, 3) := by decide +kernel
theorem dX8_hands_6 : decode cX8_hands 6 = .ok (.ifCond .ne 6, 3) := by decide +kernel
theorem dX8_hands_9 : decode cX8_hands 9 = .ok (.bipush (-2), 2) := by decide +kernel
theorem dX8_hands_11 : decode cX8_hands 11 = .ok (.ireturn, 1) := by decide +kernel
theorem dX8_hands_12 : decode cX8_hands 12 = .ok (.aload_n 0, 1) := by decide +kernel
theorem dX8_hands_13 : decode cX8_hands 13 = .ok (.invokevirtual 133, 3) := by decide +kernel
theorem dX8_hands_16 : decode cX8_hands 16 = .ok (.istore_n 2, 1) := by decide +kernel
theorem dX8_hands_17 : decode cX8_hands 17 = .ok (.iload_n 1, 1) := by decide +kernel
theorem dX8_hands_18 : decode cX8_hands 18 = .ok (.ifCond .ne 7, 3) := by decide +kernel
theorem dX8_hands_21 : decode cX8_hands 21 = .ok (.iload_n 2, 1) := by decide +kernel
theorem dX8_hands_22 : decode cX8_hands 22 = .ok (.goto 19, 3) := by decide +kernel
theorem dX8_hands_25 : decode cX8_hands 25 = .ok (.iload_n 1, 1) := by decide +kernel
theorem dX8_hands_26 : decode cX8_hands 26 = .ok (.iconst 1, 1) := by decide +kernel
theorem dX8_hands_27 : decode cX8_hands 27 = .ok (.if_icmp .ne 10, 3) := by decide +kernel
theorem dX8_hands_30 : decode cX8_hands 30 = .ok (.aload_n 0, 1) := by decide +kernel
theorem dX8_hands_31 : decode cX8_hands 31 = .ok (.getfield 121, 3) := by decide +kernel
theorem dX8_hands_34 : decode cX8_hands 34 = .ok (.goto 7, 3) := by decide +kernel
theorem dX8_hands_37 : decode cX8_hands 37 = .ok (.aload_n 0, 1) := by decide +kernel
theorem dX8_hands_38 : decode cX8_hands 38 = .ok (.invokevirtual 149, 3) := by decide +kernel
theorem dX8_hands_41 : decode cX8_hands 41 = .ok (.ireturn, 1) := by decide +kernel
set_option maxRecDepth 20000 in
theorem ggX8_crew_X8_in : GoodIn wsX8_crew wsX8_in := goodIn_r _ [7] (by decide +kernel) (by decide +kernel)
set_option maxRecDepth 20000 in
theorem gX8_crew_X8_in : GoodIn wsX8_crew (va_wsS RX8 44 yX8_in wsX8_in) := goodIn_app (goodIn_of _ (by decide +kernel)) ggX8_crew_X8_in
set_option maxRecDepth 20000 in
theorem ggX8_crew_X8_layCrew : GoodIn wsX8_crew wsX8_layCrew := goodIn_r _ [11, 1, 2, 12, 13, 14, 6, 15, 16, 17, 18, 19, 20, 21, 22, 3, 23, 24, 25, 26, 27, 28, 29, 30, 31, 32, 33, 34, 35, 36, 37, 38, 39, 40, 41, 42, 43, 44, 45, 46, 47, 48, 49, 50, 51, 52, 53, 54, 55, 56, 57, 58, 59, 60, 61, 62, 63, 64, 65, 66, 67, 68, 69, 70, 71, 72, 73, 74, 75, 76, 77, 78, 79, 80, 81, 82, 83, 84, 85, 86, 87, 88, 89, 90, 91] (by decide +kernel) (by decide +kernel)
set_option maxRecDepth 20000 in
theorem gX8_crew_X8_layCrew : GoodIn wsX8_crew (wsV RX8 140 RX8 yX8_layCrew wsX8_layCrew) := goodIn_app (goodIn_of _ (by decide +kernel)) ggX8_crew_X8_layCrew
set_option maxRecDepth 20000 in
theorem ggX8_crew_X8_begin : GoodIn wsX8_crew wsX8_begin := goodIn_r _ [74, 22, 3, 79, 80, 81, 82, 83, 84, 85, 86, 87, 88, 89, 90, 91] (by decide +kernel) (by decide +kernel)
set_option maxRecDepth 20000 in
theorem gX8_crew_X8_begin : GoodIn wsX8_crew (wsV RX8 118 RX8 yX8_begin wsX8_begin) := goodIn_app (goodIn_of _ (by decide +kernel)) ggX8_crew_X8_begin
theorem dX8_crew_0 : decode cX8_crew 0 = .ok (.iload_n 1, 1) := by decide +kernel
theorem dX8_crew_1 : decode cX8_crew 1 = .ok (.iconst 0, 1) := by decide +kernel
theorem dX8_crew_2 : decode cX8_crew 2 = .ok (.bipush 9, 2) := by decide +kernel
theorem dX8_crew_4 : decode cX8_crew 4 = .ok (.invokestatic 44, 3) := by decide +kernel
theorem dX8_crew_7 : decode cX8_crew 7 = .ok (.ifCond .ne 6, 3) := by decide +kernel
theorem dX8_crew_10 : decode cX8_crew 10 = .ok (.bipush (-2), 2) := by decide +kernel
theorem dX8_crew_12 : decode cX8_crew 12 = .ok (.ireturn, 1) := by decide +kernel
theorem dX8_crew_13 : decode cX8_crew 13 = .ok (.aload_n 0, 1) := by decide +kernel
theorem dX8_crew_14 : decode cX8_crew 14 = .ok (.invokevirtual 140, 3) := by decide +kernel
theorem dX8_crew_17 : decode cX8_crew 17 = .ok (.iconst 0, 1) := by decide +kernel
theorem dX8_crew_18 : decode cX8_crew 18 = .ok (.istore_n 3, 1) := by decide +kernel
theorem dX8_crew_19 : decode cX8_crew 19 = .ok (.iconst 0, 1) := by decide +kernel
theorem dX8_crew_20 : decode cX8_crew 20 = .ok (.istore 4, 2) := by decide +kernel
theorem dX8_crew_22 : decode cX8_crew 22 = .ok (.iload 4, 2) := by decide +kernel
theorem dX8_crew_24 : decode cX8_crew 24 = .ok (.sipush 200, 3) := by decide +kernel
theorem dX8_crew_27 : decode cX8_crew 27 = .ok (.if_icmp .gt 65, 3) := by decide +kernel
theorem dX8_crew_30 : decode cX8_crew 30 = .ok (.iconst 0, 1) := by decide +kernel
theorem dX8_crew_31 : decode cX8_crew 31 = .ok (.istore 5, 2) := by decide +kernel
theorem dX8_crew_33 : decode cX8_crew 33 = .ok (.iload 5, 2) := by decide +kernel
theorem dX8_crew_35 : decode cX8_crew 35 = .ok (.aload_n 0, 1) := by decide +kernel
theorem dX8_crew_36 : decode cX8_crew 36 = .ok (.getfield 121, 3) := by decide +kernel
theorem dX8_crew_39 : decode cX8_crew 39 = .ok (.if_icmp .ge 47, 3) := by decide +kernel
theorem dX8_crew_42 : decode cX8_crew 42 = .ok (.aload_n 0, 1) := by decide +kernel
theorem dX8_crew_43 : decode cX8_crew 43 = .ok (.getfield 41, 3) := by decide +kernel
theorem dX8_crew_46 : decode cX8_crew 46 = .ok (.iload 5, 2) := by decide +kernel
theorem dX8_crew_48 : decode cX8_crew 48 = .ok (.iaload, 1) := by decide +kernel
theorem dX8_crew_49 : decode cX8_crew 49 = .ok (.iload_n 1, 1) := by decide +kernel
theorem dX8_crew_50 : decode cX8_crew 50 = .ok (.if_icmp .ne 30, 3) := by decide +kernel
theorem dX8_crew_53 : decode cX8_crew 53 = .ok (.aload_n 0, 1) := by decide +kernel
theorem dX8_crew_54 : decode cX8_crew 54 = .ok (.iload 5, 2) := by decide +kernel
theorem dX8_crew_56 : decode cX8_crew 56 = .ok (.invokevirtual 118, 3) := by decide +kernel
theorem dX8_crew_59 : decode cX8_crew 59 = .ok (.iload 4, 2) := by decide +kernel
theorem dX8_crew_61 : decode cX8_crew 61 = .ok (.if_icmp .ne 19, 3) := by decide +kernel
theorem dX8_crew_64 : decode cX8_crew 64 = .ok (.iload_n 3, 1) := by decide +kernel
theorem dX8_crew_65 : decode cX8_crew 65 = .ok (.iload_n 2, 1) := by decide +kernel
theorem dX8_crew_66 : decode cX8_crew 66 = .ok (.if_icmp .ne 11, 3) := by decide +kernel
theorem dX8_crew_69 : decode cX8_crew 69 = .ok (.aload_n 0, 1) := by decide +kernel
theorem dX8_crew_70 : decode cX8_crew 70 = .ok (.getfield 29, 3) := by decide +kernel
theorem dX8_crew_73 : decode cX8_crew 73 = .ok (.iload 5, 2) := by decide +kernel
theorem dX8_crew_75 : decode cX8_crew 75 = .ok (.iaload, 1) := by decide +kernel
theorem dX8_crew_76 : decode cX8_crew 76 = .ok (.ireturn, 1) := by decide +kernel
theorem dX8_crew_77 : decode cX8_crew 77 = .ok (.iinc 3 1, 3) := by decide +kernel
theorem dX8_crew_80 : decode cX8_crew 80 = .ok (.iinc 5 1, 3) := by decide +kernel
theorem dX8_crew_83 : decode cX8_crew 83 = .ok (.goto (-50), 3) := by decide +kernel
theorem dX8_crew_86 : decode cX8_crew 86 = .ok (.iinc 4 1, 3) := by decide +kernel
theorem dX8_crew_89 : decode cX8_crew 89 = .ok (.goto (-67), 3) := by decide +kernel
theorem dX8_crew_92 : decode cX8_crew 92 = .ok (.bipush (-6), 2) := by decide +kernel
theorem dX8_crew_94 : decode cX8_crew 94 = .ok (.ireturn, 1) := by decide +kernel
set_option maxRecDepth 20000 in
theorem ggX8_image_X8_in : GoodIn wsX8_image wsX8_in := goodIn_r _ [7] (by decide +kernel) (by decide +kernel)
set_option maxRecDepth 20000 in
theorem gX8_image_X8_in : GoodIn wsX8_image (va_wsS RX8 44 yX8_in wsX8_in) := goodIn_app (goodIn_of _ (by decide +kernel)) ggX8_image_X8_in
theorem dX8_image_0 : decode cX8_image 0 = .ok (.iload_n 1, 1) := by decide +kernel
theorem dX8_image_1 : decode cX8_image 1 = .ok (.iconst 0, 1) := by decide +kernel
theorem dX8_image_2 : decode cX8_image 2 = .ok (.iconst 1, 1) := by decide +kernel
theorem dX8_image_3 : decode cX8_image 3 = .ok (.invokestatic 44, 3) := by decide +kernel
theorem dX8_image_6 : decode cX8_image 6 = .ok (.ifCond .ne 6, 3) := by decide +kernel
theorem dX8_image_9 : decode cX8_image 9 = .ok (.bipush (-2), 2) := by decide +kernel
theorem dX8_image_11 : decode cX8_image 11 = .ok (.ireturn, 1) := by decide +kernel
theorem dX8_image_12 : decode cX8_image 12 = .ok (.iconst 0, 1) := by decide +kernel
theorem dX8_image_13 : decode cX8_image 13 = .ok (.istore_n 2, 1) := by decide +kernel
theorem dX8_image_14 : decode cX8_image 14 = .ok (.iload_n 2, 1) := by decide +kernel
theorem dX8_image_15 : decode cX8_image 15 = .ok (.sipush 212, 3) := by decide +kernel
theorem dX8_image_18 : decode cX8_image 18 = .ok (.if_icmp .ge 27, 3) := by decide +kernel
theorem dX8_image_21 : decode cX8_image 21 = .ok (.aload_n 0, 1) := by decide +kernel
theorem dX8_image_22 : decode cX8_image 22 = .ok (.getfield 13, 3) := by decide +kernel
theorem dX8_image_25 : decode cX8_image 25 = .ok (.sipush 212, 3) := by decide +kernel
theorem dX8_image_28 : decode cX8_image 28 = .ok (.iload_n 1, 1) := by decide +kernel
theorem dX8_image_29 : decode cX8_image 29 = .ok (.imul, 1) := by decide +kernel
theorem dX8_image_30 : decode cX8_image 30 = .ok (.iload_n 2, 1) := by decide +kernel
theorem dX8_image_31 : decode cX8_image 31 = .ok (.iadd, 1) := by decide +kernel
theorem dX8_image_32 : decode cX8_image 32 = .ok (.aload_n 0, 1) := by decide +kernel
theorem dX8_image_33 : decode cX8_image 33 = .ok (.getfield 7, 3) := by decide +kernel
theorem dX8_image_36 : decode cX8_image 36 = .ok (.iload_n 2, 1) := by decide +kernel
theorem dX8_image_37 : decode cX8_image 37 = .ok (.iaload, 1) := by decide +kernel
theorem dX8_image_38 : decode cX8_image 38 = .ok (.iastore, 1) := by decide +kernel
theorem dX8_image_39 : decode cX8_image 39 = .ok (.iinc 2 1, 3) := by decide +kernel
theorem dX8_image_42 : decode cX8_image 42 = .ok (.goto (-28), 3) := by decide +kernel
theorem dX8_image_45 : decode cX8_image 45 = .ok (.aload_n 0, 1) := by decide +kernel
theorem dX8_image_46 : decode cX8_image 46 = .ok (.getfield 16, 3) := by decide +kernel
theorem dX8_image_49 : decode cX8_image 49 = .ok (.iload_n 1, 1) := by decide +kernel
theorem dX8_image_50 : decode cX8_image 50 = .ok (.iconst 1, 1) := by decide +kernel
theorem dX8_image_51 : decode cX8_image 51 = .ok (.bastore, 1) := by decide +kernel
theorem dX8_image_52 : decode cX8_image 52 = .ok (.iconst 1, 1) := by decide +kernel
theorem dX8_image_53 : decode cX8_image 53 = .ok (.ireturn, 1) := by decide +kernel
set_option maxRecDepth 20000 in
theorem ggX8_restore_X8_in : GoodIn wsX8_restore wsX8_in := goodIn_r _ [7] (by decide +kernel) (by decide +kernel)
set_option maxRecDepth 20000 in
theorem gX8_restore_X8_in : GoodIn wsX8_restore (va_wsS RX8 44 yX8_in wsX8_in) := goodIn_app (goodIn_of _ (by decide +kernel)) ggX8_restore_X8_in
theorem dX8_restore_0 : decode cX8_restore 0 = .ok (.iload_n 1, 1) := by decide +kernel
theorem dX8_restore_1 : decode cX8_restore 1 = .ok (.iconst 0, 1) := by decide +kernel
theorem dX8_restore_2 : decode cX8_restore 2 = .ok (.iconst 1, 1) := by decide +kernel
theorem dX8_restore_3 : decode cX8_restore 3 = .ok (.invokestatic 44, 3) := by decide +kernel
theorem dX8_restore_6 : decode cX8_restore 6 = .ok (.ifCond .ne 6, 3) := by decide +kernel
theorem dX8_restore_9 : decode cX8_restore 9 = .ok (.bipush (-2), 2) := by decide +kernel
theorem dX8_restore_11 : decode cX8_restore 11 = .ok (.ireturn, 1) := by decide +kernel
theorem dX8_restore_12 : decode cX8_restore 12 = .ok (.aload_n 0, 1) := by decide +kernel
theorem dX8_restore_13 : decode cX8_restore 13 = .ok (.getfield 16, 3) := by decide +kernel
theorem dX8_restore_16 : decode cX8_restore 16 = .ok (.iload_n 1, 1) := by decide +kernel
theorem dX8_restore_17 : decode cX8_restore 17 = .ok (.baload, 1) := by decide +kernel
theorem dX8_restore_18 : decode cX8_restore 18 = .ok (.ifCond .ne 6, 3) := by decide +kernel
theorem dX8_restore_21 : decode cX8_restore 21 = .ok (.bipush (-3), 2) := by decide +kernel
theorem dX8_restore_23 : decode cX8_restore 23 = .ok (.ireturn, 1) := by decide +kernel
theorem dX8_restore_24 : decode cX8_restore 24 = .ok (.iconst 0, 1) := by decide +kernel
theorem dX8_restore_25 : decode cX8_restore 25 = .ok (.istore_n 2, 1) := by decide +kernel
theorem dX8_restore_26 : decode cX8_restore 26 = .ok (.iload_n 2, 1) := by decide +kernel
theorem dX8_restore_27 : decode cX8_restore 27 = .ok (.sipush 212, 3) := by decide +kernel
theorem dX8_restore_30 : decode cX8_restore 30 = .ok (.if_icmp .ge 27, 3) := by decide +kernel
theorem dX8_restore_33 : decode cX8_restore 33 = .ok (.aload_n 0, 1) := by decide +kernel
theorem dX8_restore_34 : decode cX8_restore 34 = .ok (.getfield 7, 3) := by decide +kernel
theorem dX8_restore_37 : decode cX8_restore 37 = .ok (.iload_n 2, 1) := by decide +kernel
theorem dX8_restore_38 : decode cX8_restore 38 = .ok (.aload_n 0, 1) := by decide +kernel
theorem dX8_restore_39 : decode cX8_restore 39 = .ok (.getfield 13, 3) := by decide +kernel
theorem dX8_restore_42 : decode cX8_restore 42 = .ok (.sipush 212, 3) := by decide +kernel
theorem dX8_restore_45 : decode cX8_restore 45 = .ok (.iload_n 1, 1) := by decide +kernel
theorem dX8_restore_46 : decode cX8_restore 46 = .ok (.imul, 1) := by decide +kernel
theorem dX8_restore_47 : decode cX8_restore 47 = .ok (.iload_n 2, 1) := by decide +kernel
theorem dX8_restore_48 : decode cX8_restore 48 = .ok (.iadd, 1) := by decide +kernel
theorem dX8_restore_49 : decode cX8_restore 49 = .ok (.iaload, 1) := by decide +kernel
theorem dX8_restore_50 : decode cX8_restore 50 = .ok (.iastore, 1) := by decide +kernel
theorem dX8_restore_51 : decode cX8_restore 51 = .ok (.iinc 2 1, 3) := by decide +kernel
theorem dX8_restore_54 : decode cX8_restore 54 = .ok (.goto (-28), 3) := by decide +kernel
theorem dX8_restore_57 : decode cX8_restore 57 = .ok (.iconst 1, 1) := by decide +kernel
theorem dX8_restore_58 : decode cX8_restore 58 = .ok (.ireturn, 1) := by decide +kernel
set_option maxRecDepth 20000 in
theorem ggX8_evenBars_X8_isEven : GoodIn wsX8_evenBars wsX8_isEven := goodIn_r _ [5, 6, 7, 8, 9, 4, 10, 11, 12, 13, 14, 15, 16, 17, 18, 19, 20, 21, 22, 23, 24, 25, 26, 27, 28, 29, 30, 31, 32, 33, 34] (by decide +kernel) (by decide +kernel)
set_option maxRecDepth 20000 in
theorem gX8_evenBars_X8_isEven : GoodIn wsX8_evenBars (wsV RX8 70 RX8 yX8_isEven wsX8_isEven) := goodIn_app (goodIn_of _ (by decide +kernel)) ggX8_evenBars_X8_isEven
theorem dX8_evenBars_0 : decode cX8_evenBars 0 = .ok (.iconst 0, 1) := by decide +kernel
theorem dX8_evenBars_1 : decode cX8_evenBars 1 = .ok (.istore_n 1, 1) := by decide +kernel
theorem dX8_evenBars_2 : decode cX8_evenBars 2 = .ok (.iconst 0, 1) := by decide +kernel
theorem dX8_evenBars_3 : decode cX8_evenBars 3 = .ok (.istore_n 2, 1) := by decide +kernel
theorem dX8_evenBars_4 : decode cX8_evenBars 4 = .ok (.iload_n 2, 1) := by decide +kernel
theorem dX8_evenBars_5 : decode cX8_evenBars 5 = .ok (.bipush 10, 2) := by decide +kernel
theorem dX8_evenBars_7 : decode cX8_evenBars 7 = .ok (.if_icmp .ge 25, 3) := by decide +kernel
theorem dX8_evenBars_10 : decode cX8_evenBars 10 = .ok (.iload_n 1, 1) := by decide +kernel
theorem dX8_evenBars_11 : decode cX8_evenBars 11 = .ok (.aload_n 0, 1) := by decide +kernel
theorem dX8_evenBars_12 : decode cX8_evenBars 12 = .ok (.iload_n 2, 1) := by decide +kernel
theorem dX8_evenBars_13 : decode cX8_evenBars 13 = .ok (.invokevirtual 70, 3) := by decide +kernel
theorem dX8_evenBars_16 : decode cX8_evenBars 16 = .ok (.ifCond .eq 7, 3) := by decide +kernel
theorem dX8_evenBars_19 : decode cX8_evenBars 19 = .ok (.iconst 1, 1) := by decide +kernel
theorem dX8_evenBars_20 : decode cX8_evenBars 20 = .ok (.goto 4, 3) := by decide +kernel
theorem dX8_evenBars_23 : decode cX8_evenBars 23 = .ok (.iconst 0, 1) := by decide +kernel
theorem dX8_evenBars_24 : decode cX8_evenBars 24 = .ok (.iadd, 1) := by decide +kernel
theorem dX8_evenBars_25 : decode cX8_evenBars 25 = .ok (.istore_n 1, 1) := by decide +kernel
theorem dX8_evenBars_26 : decode cX8_evenBars 26 = .ok (.iinc 2 1, 3) := by decide +kernel
theorem dX8_evenBars_29 : decode cX8_evenBars 29 = .ok (.goto (-25), 3) := by decide +kernel
theorem dX8_evenBars_32 : decode cX8_evenBars 32 = .ok (.iload_n 1, 1) := by decide +kernel
theorem dX8_evenBars_33 : decode cX8_evenBars 33 = .ok (.ireturn, 1) := by decide +kernel
set_option maxRecDepth 20000 in
theorem ggX8_nearPairs_X8_areNear : GoodIn wsX8_nearPairs wsX8_areNear := goodIn_r _ [5, 6, 7, 8, 4, 9, 10, 11, 12, 13, 14, 15, 16, 17, 18, 19, 20, 21, 22] (by decide +kernel) (by decide +kernel)
set_option maxRecDepth 20000 in
theorem gX8_nearPairs_X8_areNear : GoodIn wsX8_nearPairs (wsV RX8 109 RX8 yX8_areNear wsX8_areNear) := goodIn_app (goodIn_of _ (by decide +kernel)) ggX8_nearPairs_X8_areNear
theorem dX8_nearPairs_0 : decode cX8_nearPairs 0 = .ok (.iconst 0, 1) := by decide +kernel
theorem dX8_nearPairs_1 : decode cX8_nearPairs 1 = .ok (.istore_n 1, 1) := by decide +kernel
theorem dX8_nearPairs_2 : decode cX8_nearPairs 2 = .ok (.iconst 0, 1) := by decide +kernel
theorem dX8_nearPairs_3 : decode cX8_nearPairs 3 = .ok (.istore_n 2, 1) := by decide +kernel
theorem dX8_nearPairs_4 : decode cX8_nearPairs 4 = .ok (.iload_n 2, 1) := by decide +kernel
theorem dX8_nearPairs_5 : decode cX8_nearPairs 5 = .ok (.bipush 10, 2) := by decide +kernel
theorem dX8_nearPairs_7 : decode cX8_nearPairs 7 = .ok (.if_icmp .ge 42, 3) := by decide +kernel
theorem dX8_nearPairs_10 : decode cX8_nearPairs 10 = .ok (.iload_n 2, 1) := by decide +kernel
theorem dX8_nearPairs_11 : decode cX8_nearPairs 11 = .ok (.iconst 1, 1) := by decide +kernel
theorem dX8_nearPairs_12 : decode cX8_nearPairs 12 = .ok (.iadd, 1) := by decide +kernel
theorem dX8_nearPairs_13 : decode cX8_nearPairs 13 = .ok (.istore_n 3, 1) := by decide +kernel
theorem dX8_nearPairs_14 : decode cX8_nearPairs 14 = .ok (.iload_n 3, 1) := by decide +kernel
theorem dX8_nearPairs_15 : decode cX8_nearPairs 15 = .ok (.bipush 10, 2) := by decide +kernel
theorem dX8_nearPairs_17 : decode cX8_nearPairs 17 = .ok (.if_icmp .ge 26, 3) := by decide +kernel
theorem dX8_nearPairs_20 : decode cX8_nearPairs 20 = .ok (.iload_n 1, 1) := by decide +kernel
theorem dX8_nearPairs_21 : decode cX8_nearPairs 21 = .ok (.aload_n 0, 1) := by decide +kernel
theorem dX8_nearPairs_22 : decode cX8_nearPairs 22 = .ok (.iload_n 2, 1) := by decide +kernel
theorem dX8_nearPairs_23 : decode cX8_nearPairs 23 = .ok (.iload_n 3, 1) := by decide +kernel
theorem dX8_nearPairs_24 : decode cX8_nearPairs 24 = .ok (.invokevirtual 109, 3) := by decide +kernel
theorem dX8_nearPairs_27 : decode cX8_nearPairs 27 = .ok (.ifCond .eq 7, 3) := by decide +kernel
theorem dX8_nearPairs_30 : decode cX8_nearPairs 30 = .ok (.iconst 1, 1) := by decide +kernel
theorem dX8_nearPairs_31 : decode cX8_nearPairs 31 = .ok (.goto 4, 3) := by decide +kernel
theorem dX8_nearPairs_34 : decode cX8_nearPairs 34 = .ok (.iconst 0, 1) := by decide +kernel
theorem dX8_nearPairs_35 : decode cX8_nearPairs 35 = .ok (.iadd, 1) := by decide +kernel
theorem dX8_nearPairs_36 : decode cX8_nearPairs 36 = .ok (.istore_n 1, 1) := by decide +kernel
theorem dX8_nearPairs_37 : decode cX8_nearPairs 37 = .ok (.iinc 3 1, 3) := by decide +kernel
theorem dX8_nearPairs_40 : decode cX8_nearPairs 40 = .ok (.goto (-26), 3) := by decide +kernel
theorem dX8_nearPairs_43 : decode cX8_nearPairs 43 = .ok (.iinc 2 1, 3) := by decide +kernel
theorem dX8_nearPairs_46 : decode cX8_nearPairs 46 = .ok (.goto (-42), 3) := by decide +kernel
theorem dX8_nearPairs_49 : decode cX8_nearPairs 49 = .ok (.iload_n 1, 1) := by decide +kernel
theorem dX8_nearPairs_50 : decode cX8_nearPairs 50 = .ok (.ireturn, 1) := by decide +kernel
set_option maxRecDepth 20000 in
theorem ggX8_lastEnd_X8_endOf : GoodIn wsX8_lastEnd wsX8_endOf := goodIn_r _ [6, 1, 7, 8, 9, 10, 5, 11, 12, 13, 14, 15, 16, 17, 18, 19, 20, 21, 22, 23, 24, 25, 26, 27, 28, 29, 30, 31, 32, 33, 34, 35] (by decide +kernel) (by decide +kernel)
set_option maxRecDepth 20000 in
theorem gX8_lastEnd_X8_endOf : GoodIn wsX8_lastEnd (wsV RX8 106 RX8 yX8_endOf wsX8_endOf) := goodIn_app (goodIn_of _ (by decide +kernel)) ggX8_lastEnd_X8_endOf
theorem dX8_lastEnd_0 : decode cX8_lastEnd 0 = .ok (.bipush (-6), 2) := by decide +kernel
theorem dX8_lastEnd_2 : decode cX8_lastEnd 2 = .ok (.istore_n 1, 1) := by decide +kernel
theorem dX8_lastEnd_3 : decode cX8_lastEnd 3 = .ok (.iconst 0, 1) := by decide +kernel
theorem dX8_lastEnd_4 : decode cX8_lastEnd 4 = .ok (.istore_n 2, 1) := by decide +kernel
theorem dX8_lastEnd_5 : decode cX8_lastEnd 5 = .ok (.iload_n 2, 1) := by decide +kernel
theorem dX8_lastEnd_6 : decode cX8_lastEnd 6 = .ok (.aload_n 0, 1) := by decide +kernel
theorem dX8_lastEnd_7 : decode cX8_lastEnd 7 = .ok (.getfield 7, 3) := by decide +kernel
theorem dX8_lastEnd_10 : decode cX8_lastEnd 10 = .ok (.sipush 211, 3) := by decide +kernel
theorem dX8_lastEnd_13 : decode cX8_lastEnd 13 = .ok (.iaload, 1) := by decide +kernel
theorem dX8_lastEnd_14 : decode cX8_lastEnd 14 = .ok (.if_icmp .ge 26, 3) := by decide +kernel
theorem dX8_lastEnd_17 : decode cX8_lastEnd 17 = .ok (.aload_n 0, 1) := by decide +kernel
theorem dX8_lastEnd_18 : decode cX8_lastEnd 18 = .ok (.iload_n 2, 1) := by decide +kernel
theorem dX8_lastEnd_19 : decode cX8_lastEnd 19 = .ok (.invokevirtual 106, 3) := by decide +kernel
theorem dX8_lastEnd_22 : decode cX8_lastEnd 22 = .ok (.istore_n 3, 1) := by decide +kernel
theorem dX8_lastEnd_23 : decode cX8_lastEnd 23 = .ok (.iload_n 3, 1) := by decide +kernel
theorem dX8_lastEnd_24 : decode cX8_lastEnd 24 = .ok (.iload_n 1, 1) := by decide +kernel
theorem dX8_lastEnd_25 : decode cX8_lastEnd 25 = .ok (.if_icmp .le 7, 3) := by decide +kernel
theorem dX8_lastEnd_28 : decode cX8_lastEnd 28 = .ok (.iload_n 3, 1) := by decide +kernel
theorem dX8_lastEnd_29 : decode cX8_lastEnd 29 = .ok (.goto 4, 3) := by decide +kernel
theorem dX8_lastEnd_32 : decode cX8_lastEnd 32 = .ok (.iload_n 1, 1) := by decide +kernel
theorem dX8_lastEnd_33 : decode cX8_lastEnd 33 = .ok (.istore_n 1, 1) := by decide +kernel
theorem dX8_lastEnd_34 : decode cX8_lastEnd 34 = .ok (.iinc 2 1, 3) := by decide +kernel
theorem dX8_lastEnd_37 : decode cX8_lastEnd 37 = .ok (.goto (-32), 3) := by decide +kernel
theorem dX8_lastEnd_40 : decode cX8_lastEnd 40 = .ok (.iload_n 1, 1) := by decide +kernel
theorem dX8_lastEnd_41 : decode cX8_lastEnd 41 = .ok (.ireturn, 1) := by decide +kernel
set_option maxRecDepth 20000 in
theorem ggX8_count_X8_evenBars : GoodIn wsX8_count wsX8_evenBars := goodIn_r _ [7, 8, 9, 10, 6, 11, 1, 12, 13, 14, 15, 16, 17, 18, 19, 20, 21, 22, 23, 24, 25, 26, 56, 57, 58, 59, 60, 61, 62, 63, 64, 65, 66, 67, 68] (by decide +kernel) (by decide +kernel)
set_option maxRecDepth 20000 in
theorem gX8_count_X8_evenBars : GoodIn wsX8_count (wsV RX8 152 RX8 yX8_evenBars wsX8_evenBars) := goodIn_app (goodIn_of _ (by decide +kernel)) ggX8_count_X8_evenBars
set_option maxRecDepth 20000 in
theorem ggX8_count_X8_nearPairs : GoodIn wsX8_count wsX8_nearPairs := goodIn_r _ [30, 31, 32, 33, 6, 34, 1, 24, 25, 26, 56, 57, 58, 59, 60, 61, 62, 63, 64, 65, 66, 67, 68] (by decide +kernel) (by decide +kernel)
set_option maxRecDepth 20000 in
theorem gX8_count_X8_nearPairs : GoodIn wsX8_count (wsV RX8 155 RX8 yX8_nearPairs wsX8_nearPairs) := goodIn_app (goodIn_of _ (by decide +kernel)) ggX8_count_X8_nearPairs
set_option maxRecDepth 20000 in
theorem ggX8_count_X8_lastEnd : GoodIn wsX8_count wsX8_lastEnd := goodIn_r _ [38, 1, 39, 40, 41, 6, 42, 43, 44, 45, 46, 47, 48, 49, 50, 51, 24, 25, 26, 52, 53, 54, 55, 56, 57, 58, 59, 60, 61, 62, 63, 64, 65, 66, 67, 68] (by decide +kernel) (by decide +kernel)
set_option maxRecDepth 20000 in
theorem gX8_count_X8_lastEnd : GoodIn wsX8_count (wsV RX8 158 RX8 yX8_lastEnd wsX8_lastEnd) := goodIn_app (goodIn_of _ (by decide +kernel)) ggX8_count_X8_lastEnd
theorem dX8_count_0 : decode cX8_count 0 = .ok (.iload_n 1, 1) := by decide +kernel
theorem dX8_count_1 : decode cX8_count 1 = .ok (.tableswitch 102 0 5 #[39, 48, 57, 62, 67, 72], 39) := by decide +kernel
theorem dX8_count_40 : decode cX8_count 40 = .ok (.aload_n 0, 1) := by decide +kernel
theorem dX8_count_41 : decode cX8_count 41 = .ok (.getfield 7, 3) := by decide +kernel
theorem dX8_count_44 : decode cX8_count 44 = .ok (.sipush 211, 3) := by decide +kernel
theorem dX8_count_47 : decode cX8_count 47 = .ok (.iaload, 1) := by decide +kernel
theorem dX8_count_48 : decode cX8_count 48 = .ok (.ireturn, 1) := by decide +kernel
theorem dX8_count_49 : decode cX8_count 49 = .ok (.aload_n 0, 1) := by decide +kernel
theorem dX8_count_50 : decode cX8_count 50 = .ok (.getfield 7, 3) := by decide +kernel
theorem dX8_count_53 : decode cX8_count 53 = .ok (.sipush 170, 3) := by decide +kernel
theorem dX8_count_56 : decode cX8_count 56 = .ok (.iaload, 1) := by decide +kernel
theorem dX8_count_57 : decode cX8_count 57 = .ok (.ireturn, 1) := by decide +kernel
theorem dX8_count_58 : decode cX8_count 58 = .ok (.aload_n 0, 1) := by decide +kernel
theorem dX8_count_59 : decode cX8_count 59 = .ok (.invokevirtual 152, 3) := by decide +kernel
theorem dX8_count_62 : decode cX8_count 62 = .ok (.ireturn, 1) := by decide +kernel
theorem dX8_count_63 : decode cX8_count 63 = .ok (.aload_n 0, 1) := by decide +kernel
theorem dX8_count_64 : decode cX8_count 64 = .ok (.invokevirtual 155, 3) := by decide +kernel
theorem dX8_count_67 : decode cX8_count 67 = .ok (.ireturn, 1) := by decide +kernel
theorem dX8_count_68 : decode cX8_count 68 = .ok (.aload_n 0, 1) := by decide +kernel
theorem dX8_count_69 : decode cX8_count 69 = .ok (.invokevirtual 158, 3) := by decide +kernel
theorem dX8_count_72 : decode cX8_count 72 = .ok (.ireturn, 1) := by decide +kernel
theorem dX8_count_73 : decode cX8_count 73 = .ok (.aload_n 0, 1) := by decide +kernel
theorem dX8_count_74 : decode cX8_count 74 = .ok (.getfield 16, 3) := by decide +kernel
theorem dX8_count_77 : decode cX8_count 77 = .ok (.iconst 0, 1) := by decide +kernel
theorem dX8_count_78 : decode cX8_count 78 = .ok (.baload, 1) := by decide +kernel
theorem dX8_count_79 : decode cX8_count 79 = .ok (.ifCond .eq 7, 3) := by decide +kernel
theorem dX8_count_82 : decode cX8_count 82 = .ok (.iconst 1, 1) := by decide +kernel
theorem dX8_count_83 : decode cX8_count 83 = .ok (.goto 4, 3) := by decide +kernel
theorem dX8_count_86 : decode cX8_count 86 = .ok (.iconst 0, 1) := by decide +kernel
theorem dX8_count_87 : decode cX8_count 87 = .ok (.aload_n 0, 1) := by decide +kernel
theorem dX8_count_88 : decode cX8_count 88 = .ok (.getfield 16, 3) := by decide +kernel
theorem dX8_count_91 : decode cX8_count 91 = .ok (.iconst 1, 1) := by decide +kernel
theorem dX8_count_92 : decode cX8_count 92 = .ok (.baload, 1) := by decide +kernel
theorem dX8_count_93 : decode cX8_count 93 = .ok (.ifCond .eq 7, 3) := by decide +kernel
theorem dX8_count_96 : decode cX8_count 96 = .ok (.iconst 2, 1) := by decide +kernel
theorem dX8_count_97 : decode cX8_count 97 = .ok (.goto 4, 3) := by decide +kernel
theorem dX8_count_100 : decode cX8_count 100 = .ok (.iconst 0, 1) := by decide +kernel
theorem dX8_count_101 : decode cX8_count 101 = .ok (.iadd, 1) := by decide +kernel
theorem dX8_count_102 : decode cX8_count 102 = .ok (.ireturn, 1) := by decide +kernel
theorem dX8_count_103 : decode cX8_count 103 = .ok (.bipush (-2), 2) := by decide +kernel
theorem dX8_count_105 : decode cX8_count 105 = .ok (.ireturn, 1) := by decide +kernel
theorem dJ9_abs_0f7a4_0 : decode cJ9_abs_0f7a4 0 = .ok (.iload_n 0, 1) := by decide +kernel
theorem dJ9_abs_0f7a4_1 : decode cJ9_abs_0f7a4 1 = .ok (.ifCond .ge 8, 3) := by decide +kernel
theorem dJ9_abs_0f7a4_4 : decode cJ9_abs_0f7a4 4 = .ok (.iload_n 0, 1) := by decide +kernel
theorem dJ9_abs_0f7a4_5 : decode cJ9_abs_0f7a4 5 = .ok (.ineg, 1) := by decide +kernel
theorem dJ9_abs_0f7a4_6 : decode cJ9_abs_0f7a4 6 = .ok (.goto 4, 3) := by decide +kernel
theorem dJ9_abs_0f7a4_9 : decode cJ9_abs_0f7a4 9 = .ok (.iload_n 0, 1) := by decide +kernel
theorem dJ9_abs_0f7a4_10 : decode cJ9_abs_0f7a4 10 = .ok (.ireturn, 1) := by decide +kernel
theorem dJ9_max_7cf53_0 : decode cJ9_max_7cf53 0 = .ok (.iload_n 0, 1) := by decide +kernel
theorem dJ9_max_7cf53_1 : decode cJ9_max_7cf53 1 = .ok (.iload_n 1, 1) := by decide +kernel
theorem dJ9_max_7cf53_2 : decode cJ9_max_7cf53 2 = .ok (.if_icmp .lt 7, 3) := by decide +kernel
theorem dJ9_max_7cf53_5 : decode cJ9_max_7cf53 5 = .ok (.iload_n 0, 1) := by decide +kernel
theorem dJ9_max_7cf53_6 : decode cJ9_max_7cf53 6 = .ok (.goto 4, 3) := by decide +kernel
theorem dJ9_max_7cf53_9 : decode cJ9_max_7cf53 9 = .ok (.iload_n 1, 1) := by decide +kernel
theorem dJ9_max_7cf53_10 : decode cJ9_max_7cf53 10 = .ok (.ireturn, 1) := by decide +kernel
theorem dJ9_min_7cf53_0 : decode cJ9_min_7cf53 0 = .ok (.iload_n 0, 1) := by decide +kernel
theorem dJ9_min_7cf53_1 : decode cJ9_min_7cf53 1 = .ok (.iload_n 1, 1) := by decide +kernel
theorem dJ9_min_7cf53_2 : decode cJ9_min_7cf53 2 = .ok (.if_icmp .gt 7, 3) := by decide +kernel
theorem dJ9_min_7cf53_5 : decode cJ9_min_7cf53 5 = .ok (.iload_n 0, 1) := by decide +kernel
theorem dJ9_min_7cf53_6 : decode cJ9_min_7cf53 6 = .ok (.goto 4, 3) := by decide +kernel
theorem dJ9_min_7cf53_9 : decode cJ9_min_7cf53 9 = .ok (.iload_n 1, 1) := by decide +kernel
theorem dJ9_min_7cf53_10 : decode cJ9_min_7cf53 10 = .ok (.ireturn, 1) := by decide +kernel
theorem dJ7_fill_53178_0 : decode cJ7_fill_53178 0 = .ok (.iconst 0, 1) := by decide +kernel
theorem dJ7_fill_53178_1 : decode cJ7_fill_53178 1 = .ok (.istore_n 2, 1) := by decide +kernel
theorem dJ7_fill_53178_2 : decode cJ7_fill_53178 2 = .ok (.aload_n 0, 1) := by decide +kernel
theorem dJ7_fill_53178_3 : decode cJ7_fill_53178 3 = .ok (.arraylength, 1) := by decide +kernel
theorem dJ7_fill_53178_4 : decode cJ7_fill_53178 4 = .ok (.istore_n 3, 1) := by decide +kernel
theorem dJ7_fill_53178_5 : decode cJ7_fill_53178 5 = .ok (.iload_n 2, 1) := by decide +kernel
theorem dJ7_fill_53178_6 : decode cJ7_fill_53178 6 = .ok (.iload_n 3, 1) := by decide +kernel
theorem dJ7_fill_53178_7 : decode cJ7_fill_53178 7 = .ok (.if_icmp .ge 13, 3) := by decide +kernel
theorem dJ7_fill_53178_10 : decode cJ7_fill_53178 10 = .ok (.aload_n 0, 1) := by decide +kernel
theorem dJ7_fill_53178_11 : decode cJ7_fill_53178 11 = .ok (.iload_n 2, 1) := by decide +kernel
theorem dJ7_fill_53178_12 : decode cJ7_fill_53178 12 = .ok (.iload_n 1, 1) := by decide +kernel
theorem dJ7_fill_53178_13 : decode cJ7_fill_53178 13 = .ok (.iastore, 1) := by decide +kernel
theorem dJ7_fill_53178_14 : decode cJ7_fill_53178 14 = .ok (.iinc 2 1, 3) := by decide +kernel
theorem dJ7_fill_53178_17 : decode cJ7_fill_53178 17 = .ok (.goto (-12), 3) := by decide +kernel
theorem dJ7_fill_53178_20 : decode cJ7_fill_53178 20 = .ok (.return_, 1) := by decide +kernel
set_option maxRecDepth 20000 in
theorem ggL_law_X7_init : GoodIn wsL_law wsX7_init := goodIn_r _ [8, 9, 10, 11, 12, 13, 14, 15, 16, 17, 18, 19, 20, 21, 22, 23, 24, 25, 26, 27, 28, 29, 30, 31, 32, 33, 34, 35, 36, 37, 38, 39, 40, 41, 42, 43, 44, 45, 46, 47, 48, 49, 50, 51, 52, 53, 54, 55, 56, 57, 58, 59, 60, 61, 62, 63, 64, 65, 66, 67, 68, 69, 70, 71, 72, 73, 74, 75, 76, 77, 78, 79, 80, 81, 82, 83, 84, 85, 86, 87, 88, 89, 675, 676, 677, 678, 656, 657, 658, 659, 660, 661, 679, 680, 681, 682, 683, 684, 685, 686, 687, 688, 689, 690, 691, 692, 693, 694, 695, 696, 697, 698, 699, 700] (by decide +kernel) (by decide +kernel)
set_option maxRecDepth 20000 in
theorem gL_law_X7_init : GoodIn wsL_law (wsX7_init) := ggL_law_X7_init
set_option maxRecDepth 20000 in
theorem ggL_law_X8_init : GoodIn wsL_law wsX8_init := goodIn_r _ [92, 93, 10, 11, 47, 94, 95, 84, 96, 97, 98, 99, 100, 101, 102, 103, 104, 662, 663, 664, 665, 666, 667, 668, 669, 670, 671, 672, 673, 674] (by decide +kernel) (by decide +kernel)
set_option maxRecDepth 20000 in
theorem gL_law_X8_init : GoodIn wsL_law (wsX8_init) := ggL_law_X8_init
set_option maxRecDepth 20000 in
theorem ggL_law_X7_set : GoodIn wsL_law wsX7_set := goodIn_r _ [108, 109, 15, 110, 111, 112, 113, 114, 2, 115, 116, 117, 118, 656, 657, 658, 659, 660, 661, 675, 676, 677, 678, 692, 693, 694] (by decide +kernel) (by decide +kernel)
set_option maxRecDepth 20000 in
theorem gL_law_X7_set : GoodIn wsL_law (wsV RL 13 RX7 yX7_set wsX7_set) := goodIn_app (goodIn_of _ (by decide +kernel)) ggL_law_X7_set
set_option maxRecDepth 20000 in
theorem ggL_law_X8_set : GoodIn wsL_law wsX8_set := goodIn_r _ [122, 94, 123, 124, 5, 125, 126, 127, 128, 662, 663, 664, 665, 666, 667, 668, 669, 670, 671, 672, 673, 674] (by decide +kernel) (by decide +kernel)
set_option maxRecDepth 20000 in
theorem gL_law_X8_set : GoodIn wsL_law (wsV RL 17 RX8 yX8_set wsX8_set) := goodIn_app (goodIn_of _ (by decide +kernel)) ggL_law_X8_set
set_option maxRecDepth 20000 in
theorem ggL_law_X7_load : GoodIn wsL_law wsX7_load := goodIn_r _ [132, 15, 111, 133, 113, 114, 2, 115, 116, 117, 118, 134, 135, 136, 41, 137, 52, 53, 138, 139, 140, 51, 141, 57, 58, 656, 657, 658, 659, 660, 661, 675, 676, 677, 678, 699, 700, 692, 693, 694] (by decide +kernel) (by decide +kernel)
set_option maxRecDepth 20000 in
theorem gL_law_X7_load : GoodIn wsL_law (wsV RL 18 RX7 yX7_load wsX7_load) := goodIn_app (goodIn_of _ (by decide +kernel)) ggL_law_X7_load
set_option maxRecDepth 20000 in
theorem ggL_law_X8_load : GoodIn wsL_law wsX8_load := goodIn_r _ [145, 94, 123, 124, 5, 125, 126, 127, 128, 146, 147, 148, 149, 662, 663, 664, 665, 666, 667, 668, 669, 670, 671, 672, 673, 674] (by decide +kernel) (by decide +kernel)
set_option maxRecDepth 20000 in
theorem gL_law_X8_load : GoodIn wsL_law (wsV RL 21 RX8 yX8_load wsX8_load) := goodIn_app (goodIn_of _ (by decide +kernel)) ggL_law_X8_load
set_option maxRecDepth 20000 in
theorem ggL_law_X7_take : GoodIn wsL_law wsX7_take := goodIn_r _ [153, 15, 111, 133, 113, 114, 2, 115, 116, 117, 118, 134, 135, 136, 41, 137, 52, 53, 154, 155, 156, 51, 157, 57, 58, 656, 657, 658, 659, 660, 661, 675, 676, 677, 678, 699, 700, 692, 693, 694] (by decide +kernel) (by decide +kernel)
set_option maxRecDepth 20000 in
theorem gL_law_X7_take : GoodIn wsL_law (wsV RL 22 RX7 yX7_take wsX7_take) := goodIn_app (goodIn_of _ (by decide +kernel)) ggL_law_X7_take
set_option maxRecDepth 20000 in
theorem ggL_law_X8_take : GoodIn wsL_law wsX8_take := goodIn_r _ [161, 94, 123, 124, 5, 125, 126, 127, 128, 146, 147, 148, 149, 162, 163, 164, 165, 662, 663, 664, 665, 666, 667, 668, 669, 670, 671, 672, 673, 674] (by decide +kernel) (by decide +kernel)
set_option maxRecDepth 20000 in
theorem gL_law_X8_take : GoodIn wsL_law (wsV RL 25 RX8 yX8_take wsX8_take) := goodIn_app (goodIn_of _ (by decide +kernel)) ggL_law_X8_take
set_option maxRecDepth 20000 in
theorem ggL_law_X7_bar : GoodIn wsL_law wsX7_bar := goodIn_r _ [169, 15, 111, 170, 171, 112, 133, 110, 113, 114, 2, 115, 116, 117, 118, 172, 173, 174, 51, 175, 58, 57, 176, 177, 178, 179, 180, 181, 182, 41, 183, 52, 53, 184, 185, 186, 187, 188, 189, 190, 191, 14, 192, 38, 37, 193, 656, 657, 658, 659, 660, 661, 675, 676, 677, 678, 692, 693, 694, 699, 700, 695, 696, 697, 698] (by decide +kernel) (by decide +kernel)
set_option maxRecDepth 20000 in
theorem gL_law_X7_bar : GoodIn wsL_law (wsV RL 26 RX7 yX7_bar wsX7_bar) := goodIn_app (goodIn_of _ (by decide +kernel)) ggL_law_X7_bar
set_option maxRecDepth 20000 in
theorem ggL_law_X8_bar : GoodIn wsL_law wsX8_bar := goodIn_r _ [197, 94, 123, 124, 5, 125, 126, 127, 128, 198, 199, 200, 201, 146, 147, 148, 149, 162, 163, 164, 165, 202, 203, 204, 205, 206, 207, 208, 209, 210, 211, 212, 213, 214, 215, 216, 662, 663, 664, 665, 666, 667, 668, 669, 670, 671, 672, 673, 674] (by decide +kernel) (by decide +kernel)
set_option maxRecDepth 20000 in
theorem gL_law_X8_bar : GoodIn wsL_law (wsV RL 30 RX8 yX8_bar wsX8_bar) := goodIn_app (goodIn_of _ (by decide +kernel)) ggL_law_X8_bar
set_option maxRecDepth 20000 in
theorem ggL_law_X7_loading : GoodIn wsL_law wsX7_loading := goodIn_r _ [220, 21, 15, 111, 110, 113, 114, 2, 115, 116, 117, 118, 221, 222, 223, 20, 224, 225, 226, 72, 227, 73, 69, 70, 228, 185, 186, 187, 71, 229, 230, 231, 232, 233, 234, 235, 236, 237, 238, 239, 240, 241, 242, 243, 244, 245, 246, 247, 248, 249, 250, 251, 252, 253, 254, 255, 256, 656, 657, 658, 659, 660, 661, 675, 676, 677, 678, 692, 693, 694, 699, 700, 679, 680, 681, 682, 683] (by decide +kernel) (by decide +kernel)
set_option maxRecDepth 20000 in
theorem gL_law_X7_loading : GoodIn wsL_law (wsV RL 31 RX7 yX7_loading wsX7_loading) := goodIn_app (goodIn_of _ (by decide +kernel)) ggL_law_X7_loading
set_option maxRecDepth 20000 in
theorem ggL_law_X8_loading : GoodIn wsL_law wsX8_loading := goodIn_r _ [260, 97, 261, 123, 124, 5, 125, 126, 127, 128, 262, 263, 264, 265, 94, 146, 147, 148, 149, 266, 267, 268, 269, 270, 271, 272, 162, 163, 164, 165, 210, 211, 212, 662, 663, 664, 665, 666, 667, 668, 669, 670, 671, 672, 673, 674] (by decide +kernel) (by decide +kernel)
set_option maxRecDepth 20000 in
theorem gL_law_X8_loading : GoodIn wsL_law (wsV RL 34 RX8 yX8_loading wsX8_loading) := goodIn_app (goodIn_of _ (by decide +kernel)) ggL_law_X8_loading
set_option maxRecDepth 20000 in
theorem ggL_law_X7_loadings : GoodIn wsL_law wsX7_loadings := goodIn_r _ [276, 21, 15, 111, 110, 113, 114, 2, 115, 116, 117, 118, 221, 222, 223, 20, 224, 225, 226, 72, 227, 73, 69, 70, 228, 185, 186, 187, 71, 229, 230, 231, 232, 233, 234, 235, 236, 237, 238, 239, 240, 241, 242, 243, 656, 657, 658, 659, 660, 661, 675, 676, 677, 678, 692, 693, 694, 699, 700, 679, 680, 681, 682, 683] (by decide +kernel) (by decide +kernel)
set_option maxRecDepth 20000 in
theorem gL_law_X7_loadings : GoodIn wsL_law (wsV RL 35 RX7 yX7_loadings wsX7_loadings) := goodIn_app (goodIn_of _ (by decide +kernel)) ggL_law_X7_loadings
set_option maxRecDepth 20000 in
theorem ggL_law_X8_loadings : GoodIn wsL_law wsX8_loadings := goodIn_r _ [280, 97, 123, 124, 5, 125, 126, 127, 128, 262, 263, 264, 265, 261, 94, 146, 147, 148, 149, 266, 267, 268, 269, 270, 271, 272, 162, 163, 164, 165, 210, 211, 212, 662, 663, 664, 665, 666, 667, 668, 669, 670, 671, 672, 673, 674] (by decide +kernel) (by decide +kernel)
set_option maxRecDepth 20000 in
theorem gL_law_X8_loadings : GoodIn wsL_law (wsV RL 39 RX8 yX8_loadings wsX8_loadings) := goodIn_app (goodIn_of _ (by decide +kernel)) ggL_law_X8_loadings
set_option maxRecDepth 20000 in
theorem ggL_law_X7_move : GoodIn wsL_law wsX7_move := goodIn_r _ [284, 15, 285, 113, 114, 2, 115, 116, 117, 118, 286, 287, 288, 14, 289, 37, 290, 291, 292, 293, 294, 38, 193, 295, 296, 297, 298, 299, 300, 656, 657, 658, 659, 660, 661, 675, 676, 677, 678, 695, 696, 697, 698] (by decide +kernel) (by decide +kernel)
set_option maxRecDepth 20000 in
theorem gL_law_X7_move : GoodIn wsL_law (wsV RL 40 RX7 yX7_move wsX7_move) := goodIn_app (goodIn_of _ (by decide +kernel)) ggL_law_X7_move
set_option maxRecDepth 20000 in
theorem ggL_law_X8_move : GoodIn wsL_law wsX8_move := goodIn_r _ [304, 94, 123, 124, 5, 125, 126, 127, 128, 305, 306, 307, 308, 662, 663, 664, 665, 666, 667, 668, 669, 670, 671, 672, 673, 674] (by decide +kernel) (by decide +kernel)
set_option maxRecDepth 20000 in
theorem gL_law_X8_move : GoodIn wsL_law (wsV RL 44 RX8 yX8_move wsX8_move) := goodIn_app (goodIn_of _ (by decide +kernel)) ggL_law_X8_move
set_option maxRecDepth 20000 in
theorem ggL_law_X7_drop : GoodIn wsL_law wsX7_drop := goodIn_r _ [312, 15, 285, 313, 314, 315, 2, 316, 116, 117, 118, 317, 318, 319, 14, 320, 38, 37, 321, 322, 323, 43, 324, 62, 63, 64, 65, 656, 657, 658, 659, 660, 661, 675, 676, 677, 678, 695, 696, 697, 698] (by decide +kernel) (by decide +kernel)
set_option maxRecDepth 20000 in
theorem gL_law_X7_drop : GoodIn wsL_law (wsV RL 45 RX7 yX7_drop wsX7_drop) := goodIn_app (goodIn_of _ (by decide +kernel)) ggL_law_X7_drop
set_option maxRecDepth 20000 in
theorem ggL_law_X8_drop : GoodIn wsL_law wsX8_drop := goodIn_r _ [328, 94, 329, 330, 331, 5, 332, 126, 127, 128, 662, 663, 664, 665, 666, 667, 668, 669, 670, 671, 672, 673, 674] (by decide +kernel) (by decide +kernel)
set_option maxRecDepth 20000 in
theorem gL_law_X8_drop : GoodIn wsL_law (wsV RL 48 RX8 yX8_drop wsX8_drop) := goodIn_app (goodIn_of _ (by decide +kernel)) ggL_law_X8_drop
set_option maxRecDepth 20000 in
theorem ggL_law_X7_shift : GoodIn wsL_law wsX7_shift := goodIn_r _ [336, 15, 337, 338, 339, 313, 314, 315, 2, 316, 285, 116, 117, 118, 286, 287, 288, 14, 289, 37, 290, 291, 292, 293, 294, 38, 193, 656, 657, 658, 659, 660, 661, 675, 676, 677, 678, 695, 696, 697, 698] (by decide +kernel) (by decide +kernel)
set_option maxRecDepth 20000 in
theorem gL_law_X7_shift : GoodIn wsL_law (wsV RL 49 RX7 yX7_shift wsX7_shift) := goodIn_app (goodIn_of _ (by decide +kernel)) ggL_law_X7_shift
set_option maxRecDepth 20000 in
theorem ggL_law_X8_shift : GoodIn wsL_law wsX8_shift := goodIn_r _ [343, 94, 329, 330, 331, 5, 332, 126, 127, 128, 305, 306, 307, 308, 662, 663, 664, 665, 666, 667, 668, 669, 670, 671, 672, 673, 674] (by decide +kernel) (by decide +kernel)
set_option maxRecDepth 20000 in
theorem gL_law_X8_shift : GoodIn wsL_law (wsV RL 52 RX8 yX8_shift wsX8_shift) := goodIn_app (goodIn_of _ (by decide +kernel)) ggL_law_X8_shift
set_option maxRecDepth 20000 in
theorem ggL_law_X7_told : GoodIn wsL_law wsX7_told := goodIn_r _ [347, 15, 337, 339, 338, 348, 349, 29, 25, 350, 313, 314, 315, 2, 316, 285, 116, 117, 118, 351, 352, 353, 354, 355, 356, 357, 358, 24, 359, 78, 360, 361, 362, 363, 364, 292, 293, 14, 294, 38, 37, 193, 290, 365, 366, 367, 43, 368, 64, 369, 185, 186, 187, 65, 370, 371, 372, 373, 374, 375, 376, 377, 378, 28, 379, 380, 89, 85, 86, 87, 88, 82, 381, 382, 383, 384, 385, 386, 387, 388, 389, 35, 39, 390, 181, 182, 41, 183, 52, 53, 184, 188, 177, 178, 51, 179, 58, 57, 391, 392, 393, 394, 395, 396, 397, 398, 399, 400, 401, 402, 403, 404, 405, 406, 407, 408, 409, 410, 411, 83, 656, 657, 658, 659, 660, 661, 675, 676, 677, 678, 695, 696, 697, 698, 685, 686, 687, 688, 689, 690, 691, 684, 692, 693, 694, 699, 700] (by decide +kernel) (by decide +kernel)
set_option maxRecDepth 20000 in
theorem gL_law_X7_told : GoodIn wsL_law (wsV RL 53 RX7 yX7_told wsX7_told) := goodIn_app (goodIn_of _ (by decide +kernel)) ggL_law_X7_told
set_option maxRecDepth 20000 in
theorem ggL_law_X8_told : GoodIn wsL_law wsX8_told := goodIn_r _ [415, 94, 98, 329, 330, 331, 5, 332, 126, 127, 128, 416, 417, 418, 419, 420, 421, 422, 423, 424, 425, 426, 427, 210, 211, 212, 428, 429, 430, 431, 432, 433, 434, 435, 436, 437, 438, 439, 440, 100, 104, 441, 442, 443, 444, 445, 446, 447, 448, 102, 103, 449, 450, 451, 452, 101, 206, 207, 208, 209, 202, 203, 204, 205, 146, 147, 148, 149, 162, 163, 164, 165, 453, 454, 455, 456, 266, 267, 268, 457, 458, 459, 460, 461, 462, 463, 464, 465, 466, 467, 468, 662, 663, 664, 665, 666, 667, 668, 669, 670, 671, 672, 673, 674] (by decide +kernel) (by decide +kernel)
set_option maxRecDepth 20000 in
theorem gL_law_X8_told : GoodIn wsL_law (wsV RL 56 RX8 yX8_told wsX8_told) := goodIn_app (goodIn_of _ (by decide +kernel)) ggL_law_X8_told
set_option maxRecDepth 20000 in
theorem ggL_law_X7_height : GoodIn wsL_law wsX7_height := goodIn_r _ [472, 25, 15, 355, 113, 114, 2, 115, 116, 117, 118, 473, 474, 475, 356, 357, 358, 24, 359, 78, 360, 361, 362, 363, 364, 292, 293, 14, 294, 38, 37, 193, 290, 365, 366, 367, 43, 368, 64, 369, 185, 186, 187, 65, 656, 657, 658, 659, 660, 661, 684, 675, 676, 677, 678, 692, 693, 694, 695, 696, 697, 698] (by decide +kernel) (by decide +kernel)
set_option maxRecDepth 20000 in
theorem gL_law_X7_height : GoodIn wsL_law (wsV RL 57 RX7 yX7_height wsX7_height) := goodIn_app (goodIn_of _ (by decide +kernel)) ggL_law_X7_height
set_option maxRecDepth 20000 in
theorem ggL_law_X8_height : GoodIn wsL_law wsX8_height := goodIn_r _ [479, 98, 123, 124, 5, 125, 126, 127, 128, 420, 421, 422, 423, 94, 424, 425, 426, 427, 210, 211, 212, 662, 663, 664, 665, 666, 667, 668, 669, 670, 671, 672, 673, 674] (by decide +kernel) (by decide +kernel)
set_option maxRecDepth 20000 in
theorem gL_law_X8_height : GoodIn wsL_law (wsV RL 60 RX8 yX8_height wsX8_height) := goodIn_app (goodIn_of _ (by decide +kernel)) ggL_law_X8_height
set_option maxRecDepth 20000 in
theorem ggL_law_X7_strike : GoodIn wsL_law wsX7_strike := goodIn_r _ [483, 25, 15, 113, 114, 2, 115, 116, 117, 118, 473, 474, 475, 356, 357, 358, 24, 359, 78, 360, 361, 362, 363, 364, 292, 293, 14, 294, 38, 37, 193, 290, 365, 366, 367, 43, 368, 64, 369, 185, 186, 187, 65, 484, 485, 486, 487, 488, 489, 490, 491, 492, 35, 493, 494, 495, 496, 497, 498, 499, 500, 501, 502, 503, 656, 657, 658, 659, 660, 661, 684, 675, 676, 677, 678, 692, 693, 694, 695, 696, 697, 698] (by decide +kernel) (by decide +kernel)
set_option maxRecDepth 20000 in
theorem gL_law_X7_strike : GoodIn wsL_law (wsV RL 61 RX7 yX7_strike wsX7_strike) := goodIn_app (goodIn_of _ (by decide +kernel)) ggL_law_X7_strike
set_option maxRecDepth 20000 in
theorem ggL_law_X8_strike : GoodIn wsL_law wsX8_strike := goodIn_r _ [507, 123, 124, 5, 125, 126, 127, 128, 508, 509, 510, 511, 99, 98, 420, 421, 422, 423, 94, 424, 425, 426, 427, 210, 211, 212, 512, 513, 514, 515, 516, 517, 518, 519, 662, 663, 664, 665, 666, 667, 668, 669, 670, 671, 672, 673, 674] (by decide +kernel) (by decide +kernel)
set_option maxRecDepth 20000 in
theorem gL_law_X8_strike : GoodIn wsL_law (wsV RL 64 RX8 yX8_strike wsX8_strike) := goodIn_app (goodIn_of _ (by decide +kernel)) ggL_law_X8_strike
set_option maxRecDepth 20000 in
theorem ggL_law_X7_clash : GoodIn wsL_law wsX7_clash := goodIn_r _ [523, 25, 15, 473, 474, 2, 475, 116, 117, 118, 524, 382, 383, 24, 384, 385, 357, 358, 359, 78, 360, 361, 362, 363, 364, 292, 293, 14, 294, 38, 37, 193, 290, 365, 366, 367, 43, 368, 64, 369, 185, 186, 187, 65, 525, 526, 527, 528, 529, 485, 486, 487, 488, 489, 490, 491, 492, 35, 493, 530, 495, 496, 497, 498, 499, 500, 501, 502, 503, 656, 657, 658, 659, 660, 661, 684, 675, 676, 677, 678, 692, 693, 694, 695, 696, 697, 698] (by decide +kernel) (by decide +kernel)
set_option maxRecDepth 20000 in
theorem gL_law_X7_clash : GoodIn wsL_law (wsV RL 65 RX7 yX7_clash wsX7_clash) := goodIn_app (goodIn_of _ (by decide +kernel)) ggL_law_X7_clash
set_option maxRecDepth 20000 in
theorem ggL_law_X8_clash : GoodIn wsL_law wsX8_clash := goodIn_r _ [534, 126, 127, 5, 128, 508, 509, 510, 511, 99, 98, 420, 421, 422, 423, 94, 424, 425, 426, 427, 210, 211, 212, 512, 513, 514, 515, 516, 517, 518, 519, 662, 663, 664, 665, 666, 667, 668, 669, 670, 671, 672, 673, 674] (by decide +kernel) (by decide +kernel)
set_option maxRecDepth 20000 in
theorem gL_law_X8_clash : GoodIn wsL_law (wsV RL 68 RX8 yX8_clash wsX8_clash) := goodIn_app (goodIn_of _ (by decide +kernel)) ggL_law_X8_clash
set_option maxRecDepth 20000 in
theorem ggL_law_X7_often : GoodIn wsL_law wsX7_often := goodIn_r _ [538, 25, 15, 113, 114, 2, 115, 116, 117, 118, 356, 357, 358, 24, 359, 78, 360, 361, 362, 363, 364, 292, 293, 14, 294, 38, 37, 193, 290, 365, 366, 367, 43, 368, 64, 369, 185, 186, 187, 65, 539, 540, 541, 542, 529, 485, 486, 487, 488, 489, 490, 491, 492, 35, 493, 530, 495, 496, 497, 498, 499, 500, 501, 502, 503, 656, 657, 658, 659, 660, 661, 684, 675, 676, 677, 678, 692, 693, 694, 695, 696, 697, 698] (by decide +kernel) (by decide +kernel)
set_option maxRecDepth 20000 in
theorem gL_law_X7_often : GoodIn wsL_law (wsV RL 69 RX7 yX7_often wsX7_often) := goodIn_app (goodIn_of _ (by decide +kernel)) ggL_law_X7_often
set_option maxRecDepth 20000 in
theorem ggL_law_X8_often : GoodIn wsL_law wsX8_often := goodIn_r _ [546, 123, 124, 5, 125, 126, 127, 128, 508, 509, 510, 511, 99, 98, 420, 421, 422, 423, 94, 424, 425, 426, 427, 210, 211, 212, 512, 513, 514, 515, 516, 517, 518, 519, 662, 663, 664, 665, 666, 667, 668, 669, 670, 671, 672, 673, 674] (by decide +kernel) (by decide +kernel)
set_option maxRecDepth 20000 in
theorem gL_law_X8_often : GoodIn wsL_law (wsV RL 72 RX8 yX8_often wsX8_often) := goodIn_app (goodIn_of _ (by decide +kernel)) ggL_law_X8_often
set_option maxRecDepth 20000 in
theorem ggL_law_X7_hands : GoodIn wsL_law wsX7_hands := goodIn_r _ [550, 29, 15, 25, 551, 116, 117, 2, 118, 376, 377, 378, 28, 379, 380, 89, 85, 86, 87, 88, 82, 381, 382, 383, 24, 384, 385, 357, 358, 359, 78, 360, 361, 362, 363, 364, 292, 293, 14, 294, 38, 37, 193, 290, 365, 366, 367, 43, 368, 64, 369, 185, 186, 187, 65, 386, 387, 388, 389, 35, 39, 390, 181, 182, 41, 183, 52, 53, 184, 188, 177, 178, 51, 179, 58, 57, 391, 371, 372, 373, 374, 375, 392, 393, 394, 395, 396, 397, 398, 399, 400, 401, 402, 403, 404, 405, 406, 407, 408, 409, 410, 411, 83, 552, 553, 554, 555, 556, 557, 558, 559, 560, 499, 500, 561, 562, 563, 564, 656, 657, 658, 659, 660, 661, 685, 686, 687, 688, 689, 690, 691, 675, 676, 677, 678, 684, 692, 693, 694, 695, 696, 697, 698, 699, 700] (by decide +kernel) (by decide +kernel)
set_option maxRecDepth 20000 in
theorem gL_law_X7_hands : GoodIn wsL_law (wsV RL 73 RX7 yX7_hands wsX7_hands) := goodIn_app (goodIn_of _ (by decide +kernel)) ggL_law_X7_hands
set_option maxRecDepth 20000 in
theorem ggL_law_X8_hands : GoodIn wsL_law wsX8_hands := goodIn_r _ [568, 440, 126, 127, 5, 128, 445, 446, 447, 448, 102, 103, 449, 450, 451, 452, 94, 100, 101, 206, 207, 208, 209, 202, 203, 204, 205, 146, 147, 148, 149, 162, 163, 164, 165, 210, 211, 212, 416, 417, 418, 419, 98, 420, 421, 422, 423, 424, 425, 426, 427, 428, 429, 430, 431, 453, 454, 455, 456, 266, 267, 268, 457, 458, 459, 460, 461, 462, 463, 464, 569, 570, 571, 572, 662, 663, 664, 665, 666, 667, 668, 669, 670, 671, 672, 673, 674] (by decide +kernel) (by decide +kernel)
set_option maxRecDepth 20000 in
theorem gL_law_X8_hands : GoodIn wsL_law (wsV RL 76 RX8 yX8_hands wsX8_hands) := goodIn_app (goodIn_of _ (by decide +kernel)) ggL_law_X8_hands
set_option maxRecDepth 20000 in
theorem ggL_law_X7_crew : GoodIn wsL_law wsX7_crew := goodIn_r _ [576, 29, 15, 25, 116, 117, 2, 118, 376, 377, 378, 28, 379, 380, 89, 85, 86, 87, 88, 82, 381, 382, 383, 24, 384, 385, 357, 358, 359, 78, 360, 361, 362, 363, 364, 292, 293, 14, 294, 38, 37, 193, 290, 365, 366, 367, 43, 368, 64, 369, 185, 186, 187, 65, 386, 387, 388, 389, 35, 39, 390, 181, 182, 41, 183, 52, 53, 184, 188, 177, 178, 51, 179, 58, 57, 391, 371, 372, 373, 374, 375, 392, 393, 394, 395, 396, 397, 398, 399, 400, 401, 402, 403, 404, 405, 406, 407, 408, 409, 410, 411, 83, 577, 578, 579, 580, 581, 582, 583, 584, 656, 657, 658, 659, 660, 661, 675, 676, 677, 678, 685, 686, 687, 688, 689, 690, 691, 684, 692, 693, 694, 695, 696, 697, 698, 699, 700] (by decide +kernel) (by decide +kernel)
set_option maxRecDepth 20000 in
theorem gL_law_X7_crew : GoodIn wsL_law (wsV RL 77 RX7 yX7_crew wsX7_crew) := goodIn_app (goodIn_of _ (by decide +kernel)) ggL_law_X7_crew
set_option maxRecDepth 20000 in
theorem ggL_law_X8_crew : GoodIn wsL_law wsX8_crew := goodIn_r _ [588, 440, 104, 100, 126, 127, 5, 128, 441, 442, 443, 444, 445, 446, 447, 448, 102, 103, 449, 450, 451, 452, 94, 101, 206, 207, 208, 209, 202, 203, 204, 205, 146, 147, 148, 149, 162, 163, 164, 165, 210, 211, 212, 416, 417, 418, 419, 98, 420, 421, 422, 423, 424, 425, 426, 427, 428, 429, 430, 431, 453, 454, 455, 456, 266, 267, 268, 457, 458, 459, 460, 461, 462, 463, 464, 465, 466, 467, 468, 662, 663, 664, 665, 666, 667, 668, 669, 670, 671, 672, 673, 674] (by decide +kernel) (by decide +kernel)
set_option maxRecDepth 20000 in
theorem gL_law_X8_crew : GoodIn wsL_law (wsV RL 80 RX8 yX8_crew wsX8_crew) := goodIn_app (goodIn_of _ (by decide +kernel)) ggL_law_X8_crew
set_option maxRecDepth 20000 in
theorem ggL_law_X7_image : GoodIn wsL_law wsX7_image := goodIn_r _ [592, 16, 15, 17, 116, 117, 2, 118, 593, 594, 595, 14, 596, 35, 37, 38, 39, 597, 598, 599, 41, 600, 48, 601, 602, 603, 604, 52, 53, 605, 606, 607, 51, 608, 57, 609, 58, 321, 322, 323, 43, 324, 62, 63, 64, 65, 656, 657, 658, 659, 660, 661, 675, 676, 677, 678, 692, 693, 694, 699, 700, 695, 696, 697, 698] (by decide +kernel) (by decide +kernel)
set_option maxRecDepth 20000 in
theorem gL_law_X7_image : GoodIn wsL_law (wsV RL 81 RX7 yX7_image wsX7_image) := goodIn_app (goodIn_of _ (by decide +kernel)) ggL_law_X7_image
set_option maxRecDepth 20000 in
theorem ggL_law_X8_image : GoodIn wsL_law wsX8_image := goodIn_r _ [613, 95, 94, 96, 126, 127, 5, 128, 662, 663, 664, 665, 666, 667, 668, 669, 670, 671, 672, 673, 674] (by decide +kernel) (by decide +kernel)
set_option maxRecDepth 20000 in
theorem gL_law_X8_image : GoodIn wsL_law (wsV RL 84 RX8 yX8_image wsX8_image) := goodIn_app (goodIn_of _ (by decide +kernel)) ggL_law_X8_image
set_option maxRecDepth 20000 in
theorem ggL_law_X7_restore : GoodIn wsL_law wsX7_restore := goodIn_r _ [617, 17, 15, 16, 116, 117, 2, 118, 593, 594, 595, 14, 596, 35, 37, 38, 39, 597, 598, 599, 41, 600, 48, 601, 602, 603, 604, 52, 53, 605, 606, 607, 51, 608, 57, 609, 58, 321, 322, 323, 43, 324, 62, 63, 64, 65, 656, 657, 658, 659, 660, 661, 675, 676, 677, 678, 692, 693, 694, 699, 700, 695, 696, 697, 698] (by decide +kernel) (by decide +kernel)
set_option maxRecDepth 20000 in
theorem gL_law_X7_restore : GoodIn wsL_law (wsV RL 85 RX7 yX7_restore wsX7_restore) := goodIn_app (goodIn_of _ (by decide +kernel)) ggL_law_X7_restore
set_option maxRecDepth 20000 in
theorem ggL_law_X8_restore : GoodIn wsL_law wsX8_restore := goodIn_r _ [621, 96, 94, 95, 126, 127, 5, 128, 662, 663, 664, 665, 666, 667, 668, 669, 670, 671, 672, 673, 674] (by decide +kernel) (by decide +kernel)
set_option maxRecDepth 20000 in
theorem gL_law_X8_restore : GoodIn wsL_law (wsV RL 88 RX8 yX8_restore wsX8_restore) := goodIn_app (goodIn_of _ (by decide +kernel)) ggL_law_X8_restore
set_option maxRecDepth 20000 in
theorem ggL_law_X7_count : GoodIn wsL_law wsX7_count := goodIn_r _ [625, 15, 285, 110, 17, 626, 627, 628, 14, 629, 35, 39, 390, 181, 182, 41, 183, 52, 53, 184, 185, 186, 187, 188, 177, 178, 51, 179, 58, 57, 630, 631, 632, 633, 634, 489, 490, 491, 492, 493, 635, 636, 637, 2, 638, 25, 639, 499, 500, 524, 382, 383, 24, 384, 385, 357, 358, 359, 78, 360, 361, 362, 363, 364, 292, 293, 294, 38, 37, 193, 290, 365, 366, 367, 43, 368, 64, 369, 65, 370, 371, 372, 373, 374, 375, 656, 657, 658, 659, 660, 661, 675, 676, 677, 678, 692, 693, 694, 699, 700, 684, 695, 696, 697, 698] (by decide +kernel) (by decide +kernel)
set_option maxRecDepth 20000 in
theorem gL_law_X7_count : GoodIn wsL_law (wsV RL 89 RX7 yX7_count wsX7_count) := goodIn_app (goodIn_of _ (by decide +kernel)) ggL_law_X7_count
set_option maxRecDepth 20000 in
theorem ggL_law_X8_count : GoodIn wsL_law wsX8_count := goodIn_r _ [643, 94, 96, 644, 645, 646, 5, 647, 206, 207, 208, 209, 202, 203, 204, 205, 146, 147, 148, 149, 162, 163, 164, 165, 210, 211, 212, 648, 649, 650, 651, 516, 517, 518, 519, 652, 653, 654, 655, 416, 417, 418, 419, 98, 420, 421, 422, 423, 424, 425, 426, 427, 428, 429, 430, 431, 662, 663, 664, 665, 666, 667, 668, 669, 670, 671, 672, 673, 674] (by decide +kernel) (by decide +kernel)
set_option maxRecDepth 20000 in
theorem gL_law_X8_count : GoodIn wsL_law (wsV RL 92 RX8 yX8_count wsX8_count) := goodIn_app (goodIn_of _ (by decide +kernel)) ggL_law_X8_count
theorem dL_law_0 : decode cL_law 0 = .ok (.new 7, 3) := by decide +kernel
theorem dL_law_3 : decode cL_law 3 = .ok (.dup, 1) := by decide +kernel
theorem dL_law_4 : decode cL_law 4 = .ok (.invokespecial 9, 3) := by decide +kernel
theorem dL_law_7 : decode cL_law 7 = .ok (.astore_n 1, 1) := by decide +kernel
theorem dL_law_8 : decode cL_law 8 = .ok (.new 10, 3) := by decide +kernel
theorem dL_law_11 : decode cL_law 11 = .ok (.dup, 1) := by decide +kernel
theorem dL_law_12 : decode cL_law 12 = .ok (.invokespecial 12, 3) := by decide +kernel
theorem dL_law_15 : decode cL_law 15 = .ok (.astore_n 2, 1) := by decide +kernel
theorem dL_law_16 : decode cL_law 16 = .ok (.iconst 0, 1) := by decide +kernel
theorem dL_law_17 : decode cL_law 17 = .ok (.istore_n 3, 1) := by decide +kernel
theorem dL_law_18 : decode cL_law 18 = .ok (.iload_n 3, 1) := by decide +kernel
theorem dL_law_19 : decode cL_law 19 = .ok (.aload_n 0, 1) := by decide +kernel
theorem dL_law_20 : decode cL_law 20 = .ok (.arraylength, 1) := by decide +kernel
theorem dL_law_21 : decode cL_law 21 = .ok (.iconst 5, 1) := by decide +kernel
theorem dL_law_22 : decode cL_law 22 = .ok (.isub, 1) := by decide +kernel
theorem dL_law_23 : decode cL_law 23 = .ok (.if_icmp .gt 734, 3) := by decide +kernel
theorem dL_law_26 : decode cL_law 26 = .ok (.aload_n 0, 1) := by decide +kernel
theorem dL_law_27 : decode cL_law 27 = .ok (.iload_n 3, 1) := by decide +kernel
theorem dL_law_28 : decode cL_law 28 = .ok (.iaload, 1) := by decide +kernel
theorem dL_law_29 : decode cL_law 29 = .ok (.bipush 31, 2) := by decide +kernel
theorem dL_law_31 : decode cL_law 31 = .ok (.iand, 1) := by decide +kernel
theorem dL_law_32 : decode cL_law 32 = .ok (.tableswitch 719 0 18 #[92, 135, 178, 221, 254, 287, 310, 363, 386, 419, 452, 485, 528, 561, 594, 617, 650, 673, 696], 92) := by decide +kernel
theorem dL_law_124 : decode cL_law 124 = .ok (.aload_n 1, 1) := by decide +kernel
theorem dL_law_125 : decode cL_law 125 = .ok (.aload_n 0, 1) := by decide +kernel
theorem dL_law_126 : decode cL_law 126 = .ok (.iload_n 3, 1) := by decide +kernel
theorem dL_law_127 : decode cL_law 127 = .ok (.iconst 1, 1) := by decide +kernel
theorem dL_law_128 : decode cL_law 128 = .ok (.iadd, 1) := by decide +kernel
theorem dL_law_129 : decode cL_law 129 = .ok (.iaload, 1) := by decide +kernel
theorem dL_law_130 : decode cL_law 130 = .ok (.aload_n 0, 1) := by decide +kernel
theorem dL_law_131 : decode cL_law 131 = .ok (.iload_n 3, 1) := by decide +kernel
theorem dL_law_132 : decode cL_law 132 = .ok (.iconst 2, 1) := by decide +kernel
theorem dL_law_133 : decode cL_law 133 = .ok (.iadd, 1) := by decide +kernel
theorem dL_law_134 : decode cL_law 134 = .ok (.iaload, 1) := by decide +kernel
theorem dL_law_135 : decode cL_law 135 = .ok (.aload_n 0, 1) := by decide +kernel
theorem dL_law_136 : decode cL_law 136 = .ok (.iload_n 3, 1) := by decide +kernel
theorem dL_law_137 : decode cL_law 137 = .ok (.iconst 3, 1) := by decide +kernel
theorem dL_law_138 : decode cL_law 138 = .ok (.iadd, 1) := by decide +kernel
theorem dL_law_139 : decode cL_law 139 = .ok (.iaload, 1) := by decide +kernel
theorem dL_law_140 : decode cL_law 140 = .ok (.invokevirtual 13, 3) := by decide +kernel
theorem dL_law_143 : decode cL_law 143 = .ok (.aload_n 2, 1) := by decide +kernel
theorem dL_law_144 : decode cL_law 144 = .ok (.aload_n 0, 1) := by decide +kernel
theorem dL_law_145 : decode cL_law 145 = .ok (.iload_n 3, 1) := by decide +kernel
theorem dL_law_146 : decode cL_law 146 = .ok (.iconst 1, 1) := by decide +kernel
theorem dL_law_147 : decode cL_law 147 = .ok (.iadd, 1) := by decide +kernel
theorem dL_law_148 : decode cL_law 148 = .ok (.iaload, 1) := by decide +kernel
theorem dL_law_149 : decode cL_law 149 = .ok (.aload_n 0, 1) := by decide +kernel
theorem dL_law_150 : decode cL_law 150 = .ok (.iload_n 3, 1) := by decide +kernel
theorem dL_law_151 : decode cL_law 151 = .ok (.iconst 2, 1) := by decide +kernel
theorem dL_law_152 : decode cL_law 152 = .ok (.iadd, 1) := by decide +kernel
theorem dL_law_153 : decode cL_law 153 = .ok (.iaload, 1) := by decide +kernel
theorem dL_law_154 : decode cL_law 154 = .ok (.aload_n 0, 1) := by decide +kernel
theorem dL_law_155 : decode cL_law 155 = .ok (.iload_n 3, 1) := by decide +kernel
theorem dL_law_156 : decode cL_law 156 = .ok (.iconst 3, 1) := by decide +kernel
theorem dL_law_157 : decode cL_law 157 = .ok (.iadd, 1) := by decide +kernel
theorem dL_law_158 : decode cL_law 158 = .ok (.iaload, 1) := by decide +kernel
theorem dL_law_159 : decode cL_law 159 = .ok (.invokevirtual 17, 3) := by decide +kernel
theorem dL_law_162 : decode cL_law 162 = .ok (.if_icmp .eq 589, 3) := by decide +kernel
theorem dL_law_165 : decode cL_law 165 = .ok (.iconst 0, 1) := by decide +kernel
theorem dL_law_166 : decode cL_law 166 = .ok (.ireturn, 1) := by decide +kernel
theorem dL_law_167 : decode cL_law 167 = .ok (.aload_n 1, 1) := by decide +kernel
theorem dL_law_168 : decode cL_law 168 = .ok (.aload_n 0, 1) := by decide +kernel
theorem dL_law_169 : decode cL_law 169 = .ok (.iload_n 3, 1) := by decide +kernel
theorem dL_law_170 : decode cL_law 170 = .ok (.iconst 1, 1) := by decide +kernel
theorem dL_law_171 : decode cL_law 171 = .ok (.iadd, 1) := by decide +kernel
theorem dL_law_172 : decode cL_law 172 = .ok (.iaload, 1) := by decide +kernel
theorem dL_law_173 : decode cL_law 173 = .ok (.aload_n 0, 1) := by decide +kernel
theorem dL_law_174 : decode cL_law 174 = .ok (.iload_n 3, 1) := by decide +kernel
theorem dL_law_175 : decode cL_law 175 = .ok (.iconst 2, 1) := by decide +kernel
theorem dL_law_176 : decode cL_law 176 = .ok (.iadd, 1) := by decide +kernel
theorem dL_law_177 : decode cL_law 177 = .ok (.iaload, 1) := by decide +kernel
theorem dL_law_178 : decode cL_law 178 = .ok (.aload_n 0, 1) := by decide +kernel
theorem dL_law_179 : decode cL_law 179 = .ok (.iload_n 3, 1) := by decide +kernel
theorem dL_law_180 : decode cL_law 180 = .ok (.iconst 3, 1) := by decide +kernel
theorem dL_law_181 : decode cL_law 181 = .ok (.iadd, 1) := by decide +kernel
theorem dL_law_182 : decode cL_law 182 = .ok (.iaload, 1) := by decide +kernel
theorem dL_law_183 : decode cL_law 183 = .ok (.invokevirtual 18, 3) := by decide +kernel
theorem dL_law_186 : decode cL_law 186 = .ok (.aload_n 2, 1) := by decide +kernel
theorem dL_law_187 : decode cL_law 187 = .ok (.aload_n 0, 1) := by decide +kernel
theorem dL_law_188 : decode cL_law 188 = .ok (.iload_n 3, 1) := by decide +kernel
theorem dL_law_189 : decode cL_law 189 = .ok (.iconst 1, 1) := by decide +kernel
theorem dL_law_190 : decode cL_law 190 = .ok (.iadd, 1) := by decide +kernel
theorem dL_law_191 : decode cL_law 191 = .ok (.iaload, 1) := by decide +kernel
theorem dL_law_192 : decode cL_law 192 = .ok (.aload_n 0, 1) := by decide +kernel
theorem dL_law_193 : decode cL_law 193 = .ok (.iload_n 3, 1) := by decide +kernel
theorem dL_law_194 : decode cL_law 194 = .ok (.iconst 2, 1) := by decide +kernel
theorem dL_law_195 : decode cL_law 195 = .ok (.iadd, 1) := by decide +kernel
theorem dL_law_196 : decode cL_law 196 = .ok (.iaload, 1) := by decide +kernel
theorem dL_law_197 : decode cL_law 197 = .ok (.aload_n 0, 1) := by decide +kernel
theorem dL_law_198 : decode cL_law 198 = .ok (.iload_n 3, 1) := by decide +kernel
theorem dL_law_199 : decode cL_law 199 = .ok (.iconst 3, 1) := by decide +kernel
theorem dL_law_200 : decode cL_law 200 = .ok (.iadd, 1) := by decide +kernel
theorem dL_law_201 : decode cL_law 201 = .ok (.iaload, 1) := by decide +kernel
theorem dL_law_202 : decode cL_law 202 = .ok (.invokevirtual 21, 3) := by decide +kernel
theorem dL_law_205 : decode cL_law 205 = .ok (.if_icmp .eq 546, 3) := by decide +kernel
theorem dL_law_208 : decode cL_law 208 = .ok (.iconst 0, 1) := by decide +kernel
theorem dL_law_209 : decode cL_law 209 = .ok (.ireturn, 1) := by decide +kernel
theorem dL_law_210 : decode cL_law 210 = .ok (.aload_n 1, 1) := by decide +kernel
theorem dL_law_211 : decode cL_law 211 = .ok (.aload_n 0, 1) := by decide +kernel
theorem dL_law_212 : decode cL_law 212 = .ok (.iload_n 3, 1) := by decide +kernel
theorem dL_law_213 : decode cL_law 213 = .ok (.iconst 1, 1) := by decide +kernel
theorem dL_law_214 : decode cL_law 214 = .ok (.iadd, 1) := by decide +kernel
theorem dL_law_215 : decode cL_law 215 = .ok (.iaload, 1) := by decide +kernel
theorem dL_law_216 : decode cL_law 216 = .ok (.aload_n 0, 1) := by decide +kernel
theorem dL_law_217 : decode cL_law 217 = .ok (.iload_n 3, 1) := by decide +kernel
theorem dL_law_218 : decode cL_law 218 = .ok (.iconst 2, 1) := by decide +kernel
theorem dL_law_219 : decode cL_law 219 = .ok (.iadd, 1) := by decide +kernel
theorem dL_law_220 : decode cL_law 220 = .ok (.iaload, 1) := by decide +kernel
theorem dL_law_221 : decode cL_law 221 = .ok (.aload_n 0, 1) := by decide +kernel
theorem dL_law_222 : decode cL_law 222 = .ok (.iload_n 3, 1) := by decide +kernel
theorem dL_law_223 : decode cL_law 223 = .ok (.iconst 3, 1) := by decide +kernel
theorem dL_law_224 : decode cL_law 224 = .ok (.iadd, 1) := by decide +kernel
theorem dL_law_225 : decode cL_law 225 = .ok (.iaload, 1) := by decide +kernel
theorem dL_law_226 : decode cL_law 226 = .ok (.invokevirtual 22, 3) := by decide +kernel
theorem dL_law_229 : decode cL_law 229 = .ok (.aload_n 2, 1) := by decide +kernel
theorem dL_law_230 : decode cL_law 230 = .ok (.aload_n 0, 1) := by decide +kernel
theorem dL_law_231 : decode cL_law 231 = .ok (.iload_n 3, 1) := by decide +kernel
theorem dL_law_232 : decode cL_law 232 = .ok (.iconst 1, 1) := by decide +kernel
theorem dL_law_233 : decode cL_law 233 = .ok (.iadd, 1) := by decide +kernel
theorem dL_law_234 : decode cL_law 234 = .ok (.iaload, 1) := by decide +kernel
theorem dL_law_235 : decode cL_law 235 = .ok (.aload_n 0, 1) := by decide +kernel
theorem dL_law_236 : decode cL_law 236 = .ok (.iload_n 3, 1) := by decide +kernel
theorem dL_law_237 : decode cL_law 237 = .ok (.iconst 2, 1) := by decide +kernel
theorem dL_law_238 : decode cL_law 238 = .ok (.iadd, 1) := by decide +kernel
theorem dL_law_239 : decode cL_law 239 = .ok (.iaload, 1) := by decide +kernel
theorem dL_law_240 : decode cL_law 240 = .ok (.aload_n 0, 1) := by decide +kernel
theorem dL_law_241 : decode cL_law 241 = .ok (.iload_n 3, 1) := by decide +kernel
theorem dL_law_242 : decode cL_law 242 = .ok (.iconst 3, 1) := by decide +kernel
theorem dL_law_243 : decode cL_law 243 = .ok (.iadd, 1) := by decide +kernel
theorem dL_law_244 : decode cL_law 244 = .ok (.iaload, 1) := by decide +kernel
theorem dL_law_245 : decode cL_law 245 = .ok (.invokevirtual 25, 3) := by decide +kernel
theorem dL_law_248 : decode cL_law 248 = .ok (.if_icmp .eq 503, 3) := by decide +kernel
theorem dL_law_251 : decode cL_law 251 = .ok (.iconst 0, 1) := by decide +kernel
theorem dL_law_252 : decode cL_law 252 = .ok (.ireturn, 1) := by decide +kernel
theorem dL_law_253 : decode cL_law 253 = .ok (.aload_n 1, 1) := by decide +kernel
theorem dL_law_254 : decode cL_law 254 = .ok (.aload_n 0, 1) := by decide +kernel
theorem dL_law_255 : decode cL_law 255 = .ok (.iload_n 3, 1) := by decide +kernel
theorem dL_law_256 : decode cL_law 256 = .ok (.iconst 1, 1) := by decide +kernel
theorem dL_law_257 : decode cL_law 257 = .ok (.iadd, 1) := by decide +kernel
theorem dL_law_258 : decode cL_law 258 = .ok (.iaload, 1) := by decide +kernel
theorem dL_law_259 : decode cL_law 259 = .ok (.aload_n 0, 1) := by decide +kernel
theorem dL_law_260 : decode cL_law 260 = .ok (.iload_n 3, 1) := by decide +kernel
theorem dL_law_261 : decode cL_law 261 = .ok (.iconst 2, 1) := by decide +kernel
theorem dL_law_262 : decode cL_law 262 = .ok (.iadd, 1) := by decide +kernel
theorem dL_law_263 : decode cL_law 263 = .ok (.iaload, 1) := by decide +kernel
theorem dL_law_264 : decode cL_law 264 = .ok (.invokevirtual 26, 3) := by decide +kernel
theorem dL_law_267 : decode cL_law 267 = .ok (.aload_n 2, 1) := by decide +kernel
theorem dL_law_268 : decode cL_law 268 = .ok (.aload_n 0, 1) := by decide +kernel
theorem dL_law_269 : decode cL_law 269 = .ok (.iload_n 3, 1) := by decide +kernel
theorem dL_law_270 : decode cL_law 270 = .ok (.iconst 1, 1) := by decide +kernel
theorem dL_law_271 : decode cL_law 271 = .ok (.iadd, 1) := by decide +kernel
theorem dL_law_272 : decode cL_law 272 = .ok (.iaload, 1) := by decide +kernel
theorem dL_law_273 : decode cL_law 273 = .ok (.aload_n 0, 1) := by decide +kernel
theorem dL_law_274 : decode cL_law 274 = .ok (.iload_n 3, 1) := by decide +kernel
theorem dL_law_275 : decode cL_law 275 = .ok (.iconst 2, 1) := by decide +kernel
theorem dL_law_276 : decode cL_law 276 = .ok (.iadd, 1) := by decide +kernel
theorem dL_law_277 : decode cL_law 277 = .ok (.iaload, 1) := by decide +kernel
theorem dL_law_278 : decode cL_law 278 = .ok (.invokevirtual 30, 3) := by decide +kernel
theorem dL_law_281 : decode cL_law 281 = .ok (.if_icmp .eq 470, 3) := by decide +kernel
theorem dL_law_284 : decode cL_law 284 = .ok (.iconst 0, 1) := by decide +kernel
theorem dL_law_285 : decode cL_law 285 = .ok (.ireturn, 1) := by decide +kernel
theorem dL_law_286 : decode cL_law 286 = .ok (.aload_n 1, 1) := by decide +kernel
theorem dL_law_287 : decode cL_law 287 = .ok (.aload_n 0, 1) := by decide +kernel
theorem dL_law_288 : decode cL_law 288 = .ok (.iload_n 3, 1) := by decide +kernel
theorem dL_law_289 : decode cL_law 289 = .ok (.iconst 1, 1) := by decide +kernel
theorem dL_law_290 : decode cL_law 290 = .ok (.iadd, 1) := by decide +kernel
theorem dL_law_291 : decode cL_law 291 = .ok (.iaload, 1) := by decide +kernel
theorem dL_law_292 : decode cL_law 292 = .ok (.aload_n 0, 1) := by decide +kernel
theorem dL_law_293 : decode cL_law 293 = .ok (.iload_n 3, 1) := by decide +kernel
theorem dL_law_294 : decode cL_law 294 = .ok (.iconst 2, 1) := by decide +kernel
theorem dL_law_295 : decode cL_law 295 = .ok (.iadd, 1) := by decide +kernel
theorem dL_law_296 : decode cL_law 296 = .ok (.iaload, 1) := by decide +kernel
theorem dL_law_297 : decode cL_law 297 = .ok (.invokevirtual 31, 3) := by decide +kernel
theorem dL_law_300 : decode cL_law 300 = .ok (.aload_n 2, 1) := by decide +kernel
theorem dL_law_301 : decode cL_law 301 = .ok (.aload_n 0, 1) := by decide +kernel
theorem dL_law_302 : decode cL_law 302 = .ok (.iload_n 3, 1) := by decide +kernel
theorem dL_law_303 : decode cL_law 303 = .ok (.iconst 1, 1) := by decide +kernel
theorem dL_law_304 : decode cL_law 304 = .ok (.iadd, 1) := by decide +kernel
theorem dL_law_305 : decode cL_law 305 = .ok (.iaload, 1) := by decide +kernel
theorem dL_law_306 : decode cL_law 306 = .ok (.aload_n 0, 1) := by decide +kernel
theorem dL_law_307 : decode cL_law 307 = .ok (.iload_n 3, 1) := by decide +kernel
theorem dL_law_308 : decode cL_law 308 = .ok (.iconst 2, 1) := by decide +kernel
theorem dL_law_309 : decode cL_law 309 = .ok (.iadd, 1) := by decide +kernel
theorem dL_law_310 : decode cL_law 310 = .ok (.iaload, 1) := by decide +kernel
theorem dL_law_311 : decode cL_law 311 = .ok (.invokevirtual 34, 3) := by decide +kernel
theorem dL_law_314 : decode cL_law 314 = .ok (.if_icmp .eq 437, 3) := by decide +kernel
theorem dL_law_317 : decode cL_law 317 = .ok (.iconst 0, 1) := by decide +kernel
theorem dL_law_318 : decode cL_law 318 = .ok (.ireturn, 1) := by decide +kernel
theorem dL_law_319 : decode cL_law 319 = .ok (.aload_n 1, 1) := by decide +kernel
theorem dL_law_320 : decode cL_law 320 = .ok (.aload_n 0, 1) := by decide +kernel
theorem dL_law_321 : decode cL_law 321 = .ok (.iload_n 3, 1) := by decide +kernel
theorem dL_law_322 : decode cL_law 322 = .ok (.iconst 1, 1) := by decide +kernel
theorem dL_law_323 : decode cL_law 323 = .ok (.iadd, 1) := by decide +kernel
theorem dL_law_324 : decode cL_law 324 = .ok (.iaload, 1) := by decide +kernel
theorem dL_law_325 : decode cL_law 325 = .ok (.invokevirtual 35, 3) := by decide +kernel
theorem dL_law_328 : decode cL_law 328 = .ok (.aload_n 2, 1) := by decide +kernel
theorem dL_law_329 : decode cL_law 329 = .ok (.aload_n 0, 1) := by decide +kernel
theorem dL_law_330 : decode cL_law 330 = .ok (.iload_n 3, 1) := by decide +kernel
theorem dL_law_331 : decode cL_law 331 = .ok (.iconst 1, 1) := by decide +kernel
theorem dL_law_332 : decode cL_law 332 = .ok (.iadd, 1) := by decide +kernel
theorem dL_law_333 : decode cL_law 333 = .ok (.iaload, 1) := by decide +kernel
theorem dL_law_334 : decode cL_law 334 = .ok (.invokevirtual 39, 3) := by decide +kernel
theorem dL_law_337 : decode cL_law 337 = .ok (.if_icmp .eq 414, 3) := by decide +kernel
theorem dL_law_340 : decode cL_law 340 = .ok (.iconst 0, 1) := by decide +kernel
theorem dL_law_341 : decode cL_law 341 = .ok (.ireturn, 1) := by decide +kernel
theorem dL_law_342 : decode cL_law 342 = .ok (.aload_n 1, 1) := by decide +kernel
theorem dL_law_343 : decode cL_law 343 = .ok (.aload_n 0, 1) := by decide +kernel
theorem dL_law_344 : decode cL_law 344 = .ok (.iload_n 3, 1) := by decide +kernel
theorem dL_law_345 : decode cL_law 345 = .ok (.iconst 1, 1) := by decide +kernel
theorem dL_law_346 : decode cL_law 346 = .ok (.iadd, 1) := by decide +kernel
theorem dL_law_347 : decode cL_law 347 = .ok (.iaload, 1) := by decide +kernel
theorem dL_law_348 : decode cL_law 348 = .ok (.aload_n 0, 1) := by decide +kernel
theorem dL_law_349 : decode cL_law 349 = .ok (.iload_n 3, 1) := by decide +kernel
theorem dL_law_350 : decode cL_law 350 = .ok (.iconst 2, 1) := by decide +kernel
theorem dL_law_351 : decode cL_law 351 = .ok (.iadd, 1) := by decide +kernel
theorem dL_law_352 : decode cL_law 352 = .ok (.iaload, 1) := by decide +kernel
theorem dL_law_353 : decode cL_law 353 = .ok (.aload_n 0, 1) := by decide +kernel
theorem dL_law_354 : decode cL_law 354 = .ok (.iload_n 3, 1) := by decide +kernel
theorem dL_law_355 : decode cL_law 355 = .ok (.iconst 3, 1) := by decide +kernel
theorem dL_law_356 : decode cL_law 356 = .ok (.iadd, 1) := by decide +kernel
theorem dL_law_357 : decode cL_law 357 = .ok (.iaload, 1) := by decide +kernel
theorem dL_law_358 : decode cL_law 358 = .ok (.aload_n 0, 1) := by decide +kernel
theorem dL_law_359 : decode cL_law 359 = .ok (.iload_n 3, 1) := by decide +kernel
theorem dL_law_360 : decode cL_law 360 = .ok (.iconst 4, 1) := by decide +kernel
theorem dL_law_361 : decode cL_law 361 = .ok (.iadd, 1) := by decide +kernel
theorem dL_law_362 : decode cL_law 362 = .ok (.iaload, 1) := by decide +kernel
theorem dL_law_363 : decode cL_law 363 = .ok (.invokevirtual 40, 3) := by decide +kernel
theorem dL_law_366 : decode cL_law 366 = .ok (.aload_n 2, 1) := by decide +kernel
theorem dL_law_367 : decode cL_law 367 = .ok (.aload_n 0, 1) := by decide +kernel
theorem dL_law_368 : decode cL_law 368 = .ok (.iload_n 3, 1) := by decide +kernel
theorem dL_law_369 : decode cL_law 369 = .ok (.iconst 1, 1) := by decide +kernel
theorem dL_law_370 : decode cL_law 370 = .ok (.iadd, 1) := by decide +kernel
theorem dL_law_371 : decode cL_law 371 = .ok (.iaload, 1) := by decide +kernel
theorem dL_law_372 : decode cL_law 372 = .ok (.aload_n 0, 1) := by decide +kernel
theorem dL_law_373 : decode cL_law 373 = .ok (.iload_n 3, 1) := by decide +kernel
theorem dL_law_374 : decode cL_law 374 = .ok (.iconst 2, 1) := by decide +kernel
theorem dL_law_375 : decode cL_law 375 = .ok (.iadd, 1) := by decide +kernel
theorem dL_law_376 : decode cL_law 376 = .ok (.iaload, 1) := by decide +kernel
theorem dL_law_377 : decode cL_law 377 = .ok (.aload_n 0, 1) := by decide +kernel
theorem dL_law_378 : decode cL_law 378 = .ok (.iload_n 3, 1) := by decide +kernel
theorem dL_law_379 : decode cL_law 379 = .ok (.iconst 3, 1) := by decide +kernel
theorem dL_law_380 : decode cL_law 380 = .ok (.iadd, 1) := by decide +kernel
theorem dL_law_381 : decode cL_law 381 = .ok (.iaload, 1) := by decide +kernel
theorem dL_law_382 : decode cL_law 382 = .ok (.aload_n 0, 1) := by decide +kernel
theorem dL_law_383 : decode cL_law 383 = .ok (.iload_n 3, 1) := by decide +kernel
theorem dL_law_384 : decode cL_law 384 = .ok (.iconst 4, 1) := by decide +kernel
theorem dL_law_385 : decode cL_law 385 = .ok (.iadd, 1) := by decide +kernel
theorem dL_law_386 : decode cL_law 386 = .ok (.iaload, 1) := by decide +kernel
theorem dL_law_387 : decode cL_law 387 = .ok (.invokevirtual 44, 3) := by decide +kernel
theorem dL_law_390 : decode cL_law 390 = .ok (.if_icmp .eq 361, 3) := by decide +kernel
theorem dL_law_393 : decode cL_law 393 = .ok (.iconst 0, 1) := by decide +kernel
theorem dL_law_394 : decode cL_law 394 = .ok (.ireturn, 1) := by decide +kernel
theorem dL_law_395 : decode cL_law 395 = .ok (.aload_n 1, 1) := by decide +kernel
theorem dL_law_396 : decode cL_law 396 = .ok (.aload_n 0, 1) := by decide +kernel
theorem dL_law_397 : decode cL_law 397 = .ok (.iload_n 3, 1) := by decide +kernel
theorem dL_law_398 : decode cL_law 398 = .ok (.iconst 1, 1) := by decide +kernel
theorem dL_law_399 : decode cL_law 399 = .ok (.iadd, 1) := by decide +kernel
theorem dL_law_400 : decode cL_law 400 = .ok (.iaload, 1) := by decide +kernel
theorem dL_law_401 : decode cL_law 401 = .ok (.invokevirtual 45, 3) := by decide +kernel
theorem dL_law_404 : decode cL_law 404 = .ok (.aload_n 2, 1) := by decide +kernel
theorem dL_law_405 : decode cL_law 405 = .ok (.aload_n 0, 1) := by decide +kernel
theorem dL_law_406 : decode cL_law 406 = .ok (.iload_n 3, 1) := by decide +kernel
theorem dL_law_407 : decode cL_law 407 = .ok (.iconst 1, 1) := by decide +kernel
theorem dL_law_408 : decode cL_law 408 = .ok (.iadd, 1) := by decide +kernel
theorem dL_law_409 : decode cL_law 409 = .ok (.iaload, 1) := by decide +kernel
theorem dL_law_410 : decode cL_law 410 = .ok (.invokevirtual 48, 3) := by decide +kernel
theorem dL_law_413 : decode cL_law 413 = .ok (.if_icmp .eq 338, 3) := by decide +kernel
theorem dL_law_416 : decode cL_law 416 = .ok (.iconst 0, 1) := by decide +kernel
theorem dL_law_417 : decode cL_law 417 = .ok (.ireturn, 1) := by decide +kernel
theorem dL_law_418 : decode cL_law 418 = .ok (.aload_n 1, 1) := by decide +kernel
theorem dL_law_419 : decode cL_law 419 = .ok (.aload_n 0, 1) := by decide +kernel
theorem dL_law_420 : decode cL_law 420 = .ok (.iload_n 3, 1) := by decide +kernel
theorem dL_law_421 : decode cL_law 421 = .ok (.iconst 1, 1) := by decide +kernel
theorem dL_law_422 : decode cL_law 422 = .ok (.iadd, 1) := by decide +kernel
theorem dL_law_423 : decode cL_law 423 = .ok (.iaload, 1) := by decide +kernel
theorem dL_law_424 : decode cL_law 424 = .ok (.aload_n 0, 1) := by decide +kernel
theorem dL_law_425 : decode cL_law 425 = .ok (.iload_n 3, 1) := by decide +kernel
theorem dL_law_426 : decode cL_law 426 = .ok (.iconst 2, 1) := by decide +kernel
theorem dL_law_427 : decode cL_law 427 = .ok (.iadd, 1) := by decide +kernel
theorem dL_law_428 : decode cL_law 428 = .ok (.iaload, 1) := by decide +kernel
theorem dL_law_429 : decode cL_law 429 = .ok (.invokevirtual 49, 3) := by decide +kernel
theorem dL_law_432 : decode cL_law 432 = .ok (.aload_n 2, 1) := by decide +kernel
theorem dL_law_433 : decode cL_law 433 = .ok (.aload_n 0, 1) := by decide +kernel
theorem dL_law_434 : decode cL_law 434 = .ok (.iload_n 3, 1) := by decide +kernel
theorem dL_law_435 : decode cL_law 435 = .ok (.iconst 1, 1) := by decide +kernel
theorem dL_law_436 : decode cL_law 436 = .ok (.iadd, 1) := by decide +kernel
theorem dL_law_437 : decode cL_law 437 = .ok (.iaload, 1) := by decide +kernel
theorem dL_law_438 : decode cL_law 438 = .ok (.aload_n 0, 1) := by decide +kernel
theorem dL_law_439 : decode cL_law 439 = .ok (.iload_n 3, 1) := by decide +kernel
theorem dL_law_440 : decode cL_law 440 = .ok (.iconst 2, 1) := by decide +kernel
theorem dL_law_441 : decode cL_law 441 = .ok (.iadd, 1) := by decide +kernel
theorem dL_law_442 : decode cL_law 442 = .ok (.iaload, 1) := by decide +kernel
theorem dL_law_443 : decode cL_law 443 = .ok (.invokevirtual 52, 3) := by decide +kernel
theorem dL_law_446 : decode cL_law 446 = .ok (.if_icmp .eq 305, 3) := by decide +kernel
theorem dL_law_449 : decode cL_law 449 = .ok (.iconst 0, 1) := by decide +kernel
theorem dL_law_450 : decode cL_law 450 = .ok (.ireturn, 1) := by decide +kernel
theorem dL_law_451 : decode cL_law 451 = .ok (.aload_n 1, 1) := by decide +kernel
theorem dL_law_452 : decode cL_law 452 = .ok (.aload_n 0, 1) := by decide +kernel
theorem dL_law_453 : decode cL_law 453 = .ok (.iload_n 3, 1) := by decide +kernel
theorem dL_law_454 : decode cL_law 454 = .ok (.iconst 1, 1) := by decide +kernel
theorem dL_law_455 : decode cL_law 455 = .ok (.iadd, 1) := by decide +kernel
theorem dL_law_456 : decode cL_law 456 = .ok (.iaload, 1) := by decide +kernel
theorem dL_law_457 : decode cL_law 457 = .ok (.aload_n 0, 1) := by decide +kernel
theorem dL_law_458 : decode cL_law 458 = .ok (.iload_n 3, 1) := by decide +kernel
theorem dL_law_459 : decode cL_law 459 = .ok (.iconst 2, 1) := by decide +kernel
theorem dL_law_460 : decode cL_law 460 = .ok (.iadd, 1) := by decide +kernel
theorem dL_law_461 : decode cL_law 461 = .ok (.iaload, 1) := by decide +kernel
theorem dL_law_462 : decode cL_law 462 = .ok (.invokevirtual 53, 3) := by decide +kernel
theorem dL_law_465 : decode cL_law 465 = .ok (.aload_n 2, 1) := by decide +kernel
theorem dL_law_466 : decode cL_law 466 = .ok (.aload_n 0, 1) := by decide +kernel
theorem dL_law_467 : decode cL_law 467 = .ok (.iload_n 3, 1) := by decide +kernel
theorem dL_law_468 : decode cL_law 468 = .ok (.iconst 1, 1) := by decide +kernel
theorem dL_law_469 : decode cL_law 469 = .ok (.iadd, 1) := by decide +kernel
theorem dL_law_470 : decode cL_law 470 = .ok (.iaload, 1) := by decide +kernel
theorem dL_law_471 : decode cL_law 471 = .ok (.aload_n 0, 1) := by decide +kernel
theorem dL_law_472 : decode cL_law 472 = .ok (.iload_n 3, 1) := by decide +kernel
theorem dL_law_473 : decode cL_law 473 = .ok (.iconst 2, 1) := by decide +kernel
theorem dL_law_474 : decode cL_law 474 = .ok (.iadd, 1) := by decide +kernel
theorem dL_law_475 : decode cL_law 475 = .ok (.iaload, 1) := by decide +kernel
theorem dL_law_476 : decode cL_law 476 = .ok (.invokevirtual 56, 3) := by decide +kernel
theorem dL_law_479 : decode cL_law 479 = .ok (.if_icmp .eq 272, 3) := by decide +kernel
theorem dL_law_482 : decode cL_law 482 = .ok (.iconst 0, 1) := by decide +kernel
theorem dL_law_483 : decode cL_law 483 = .ok (.ireturn, 1) := by decide +kernel
theorem dL_law_484 : decode cL_law 484 = .ok (.aload_n 1, 1) := by decide +kernel
theorem dL_law_485 : decode cL_law 485 = .ok (.aload_n 0, 1) := by decide +kernel
theorem dL_law_486 : decode cL_law 486 = .ok (.iload_n 3, 1) := by decide +kernel
theorem dL_law_487 : decode cL_law 487 = .ok (.iconst 1, 1) := by decide +kernel
theorem dL_law_488 : decode cL_law 488 = .ok (.iadd, 1) := by decide +kernel
theorem dL_law_489 : decode cL_law 489 = .ok (.iaload, 1) := by decide +kernel
theorem dL_law_490 : decode cL_law 490 = .ok (.aload_n 0, 1) := by decide +kernel
theorem dL_law_491 : decode cL_law 491 = .ok (.iload_n 3, 1) := by decide +kernel
theorem dL_law_492 : decode cL_law 492 = .ok (.iconst 2, 1) := by decide +kernel
theorem dL_law_493 : decode cL_law 493 = .ok (.iadd, 1) := by decide +kernel
theorem dL_law_494 : decode cL_law 494 = .ok (.iaload, 1) := by decide +kernel
theorem dL_law_495 : decode cL_law 495 = .ok (.invokevirtual 57, 3) := by decide +kernel
theorem dL_law_498 : decode cL_law 498 = .ok (.aload_n 2, 1) := by decide +kernel
theorem dL_law_499 : decode cL_law 499 = .ok (.aload_n 0, 1) := by decide +kernel
theorem dL_law_500 : decode cL_law 500 = .ok (.iload_n 3, 1) := by decide +kernel
theorem dL_law_501 : decode cL_law 501 = .ok (.iconst 1, 1) := by decide +kernel
theorem dL_law_502 : decode cL_law 502 = .ok (.iadd, 1) := by decide +kernel
theorem dL_law_503 : decode cL_law 503 = .ok (.iaload, 1) := by decide +kernel
theorem dL_law_504 : decode cL_law 504 = .ok (.aload_n 0, 1) := by decide +kernel
theorem dL_law_505 : decode cL_law 505 = .ok (.iload_n 3, 1) := by decide +kernel
theorem dL_law_506 : decode cL_law 506 = .ok (.iconst 2, 1) := by decide +kernel
theorem dL_law_507 : decode cL_law 507 = .ok (.iadd, 1) := by decide +kernel
theorem dL_law_508 : decode cL_law 508 = .ok (.iaload, 1) := by decide +kernel
theorem dL_law_509 : decode cL_law 509 = .ok (.invokevirtual 60, 3) := by decide +kernel
theorem dL_law_512 : decode cL_law 512 = .ok (.if_icmp .eq 239, 3) := by decide +kernel
theorem dL_law_515 : decode cL_law 515 = .ok (.iconst 0, 1) := by decide +kernel
theorem dL_law_516 : decode cL_law 516 = .ok (.ireturn, 1) := by decide +kernel
theorem dL_law_517 : decode cL_law 517 = .ok (.aload_n 1, 1) := by decide +kernel
theorem dL_law_518 : decode cL_law 518 = .ok (.aload_n 0, 1) := by decide +kernel
theorem dL_law_519 : decode cL_law 519 = .ok (.iload_n 3, 1) := by decide +kernel
theorem dL_law_520 : decode cL_law 520 = .ok (.iconst 1, 1) := by decide +kernel
theorem dL_law_521 : decode cL_law 521 = .ok (.iadd, 1) := by decide +kernel
theorem dL_law_522 : decode cL_law 522 = .ok (.iaload, 1) := by decide +kernel
theorem dL_law_523 : decode cL_law 523 = .ok (.aload_n 0, 1) := by decide +kernel
theorem dL_law_524 : decode cL_law 524 = .ok (.iload_n 3, 1) := by decide +kernel
theorem dL_law_525 : decode cL_law 525 = .ok (.iconst 2, 1) := by decide +kernel
theorem dL_law_526 : decode cL_law 526 = .ok (.iadd, 1) := by decide +kernel
theorem dL_law_527 : decode cL_law 527 = .ok (.iaload, 1) := by decide +kernel
theorem dL_law_528 : decode cL_law 528 = .ok (.aload_n 0, 1) := by decide +kernel
theorem dL_law_529 : decode cL_law 529 = .ok (.iload_n 3, 1) := by decide +kernel
theorem dL_law_530 : decode cL_law 530 = .ok (.iconst 3, 1) := by decide +kernel
theorem dL_law_531 : decode cL_law 531 = .ok (.iadd, 1) := by decide +kernel
theorem dL_law_532 : decode cL_law 532 = .ok (.iaload, 1) := by decide +kernel
theorem dL_law_533 : decode cL_law 533 = .ok (.invokevirtual 61, 3) := by decide +kernel
theorem dL_law_536 : decode cL_law 536 = .ok (.aload_n 2, 1) := by decide +kernel
theorem dL_law_537 : decode cL_law 537 = .ok (.aload_n 0, 1) := by decide +kernel
theorem dL_law_538 : decode cL_law 538 = .ok (.iload_n 3, 1) := by decide +kernel
theorem dL_law_539 : decode cL_law 539 = .ok (.iconst 1, 1) := by decide +kernel
theorem dL_law_540 : decode cL_law 540 = .ok (.iadd, 1) := by decide +kernel
theorem dL_law_541 : decode cL_law 541 = .ok (.iaload, 1) := by decide +kernel
theorem dL_law_542 : decode cL_law 542 = .ok (.aload_n 0, 1) := by decide +kernel
theorem dL_law_543 : decode cL_law 543 = .ok (.iload_n 3, 1) := by decide +kernel
theorem dL_law_544 : decode cL_law 544 = .ok (.iconst 2, 1) := by decide +kernel
theorem dL_law_545 : decode cL_law 545 = .ok (.iadd, 1) := by decide +kernel
theorem dL_law_546 : decode cL_law 546 = .ok (.iaload, 1) := by decide +kernel
theorem dL_law_547 : decode cL_law 547 = .ok (.aload_n 0, 1) := by decide +kernel
theorem dL_law_548 : decode cL_law 548 = .ok (.iload_n 3, 1) := by decide +kernel
theorem dL_law_549 : decode cL_law 549 = .ok (.iconst 3, 1) := by decide +kernel
theorem dL_law_550 : decode cL_law 550 = .ok (.iadd, 1) := by decide +kernel
theorem dL_law_551 : decode cL_law 551 = .ok (.iaload, 1) := by decide +kernel
theorem dL_law_552 : decode cL_law 552 = .ok (.invokevirtual 64, 3) := by decide +kernel
theorem dL_law_555 : decode cL_law 555 = .ok (.if_icmp .eq 196, 3) := by decide +kernel
theorem dL_law_558 : decode cL_law 558 = .ok (.iconst 0, 1) := by decide +kernel
theorem dL_law_559 : decode cL_law 559 = .ok (.ireturn, 1) := by decide +kernel
theorem dL_law_560 : decode cL_law 560 = .ok (.aload_n 1, 1) := by decide +kernel
theorem dL_law_561 : decode cL_law 561 = .ok (.aload_n 0, 1) := by decide +kernel
theorem dL_law_562 : decode cL_law 562 = .ok (.iload_n 3, 1) := by decide +kernel
theorem dL_law_563 : decode cL_law 563 = .ok (.iconst 1, 1) := by decide +kernel
theorem dL_law_564 : decode cL_law 564 = .ok (.iadd, 1) := by decide +kernel
theorem dL_law_565 : decode cL_law 565 = .ok (.iaload, 1) := by decide +kernel
theorem dL_law_566 : decode cL_law 566 = .ok (.aload_n 0, 1) := by decide +kernel
theorem dL_law_567 : decode cL_law 567 = .ok (.iload_n 3, 1) := by decide +kernel
theorem dL_law_568 : decode cL_law 568 = .ok (.iconst 2, 1) := by decide +kernel
theorem dL_law_569 : decode cL_law 569 = .ok (.iadd, 1) := by decide +kernel
theorem dL_law_570 : decode cL_law 570 = .ok (.iaload, 1) := by decide +kernel
theorem dL_law_571 : decode cL_law 571 = .ok (.invokevirtual 65, 3) := by decide +kernel
theorem dL_law_574 : decode cL_law 574 = .ok (.aload_n 2, 1) := by decide +kernel
theorem dL_law_575 : decode cL_law 575 = .ok (.aload_n 0, 1) := by decide +kernel
theorem dL_law_576 : decode cL_law 576 = .ok (.iload_n 3, 1) := by decide +kernel
theorem dL_law_577 : decode cL_law 577 = .ok (.iconst 1, 1) := by decide +kernel
theorem dL_law_578 : decode cL_law 578 = .ok (.iadd, 1) := by decide +kernel
theorem dL_law_579 : decode cL_law 579 = .ok (.iaload, 1) := by decide +kernel
theorem dL_law_580 : decode cL_law 580 = .ok (.aload_n 0, 1) := by decide +kernel
theorem dL_law_581 : decode cL_law 581 = .ok (.iload_n 3, 1) := by decide +kernel
theorem dL_law_582 : decode cL_law 582 = .ok (.iconst 2, 1) := by decide +kernel
theorem dL_law_583 : decode cL_law 583 = .ok (.iadd, 1) := by decide +kernel
theorem dL_law_584 : decode cL_law 584 = .ok (.iaload, 1) := by decide +kernel
theorem dL_law_585 : decode cL_law 585 = .ok (.invokevirtual 68, 3) := by decide +kernel
theorem dL_law_588 : decode cL_law 588 = .ok (.if_icmp .eq 163, 3) := by decide +kernel
theorem dL_law_591 : decode cL_law 591 = .ok (.iconst 0, 1) := by decide +kernel
theorem dL_law_592 : decode cL_law 592 = .ok (.ireturn, 1) := by decide +kernel
theorem dL_law_593 : decode cL_law 593 = .ok (.aload_n 1, 1) := by decide +kernel
theorem dL_law_594 : decode cL_law 594 = .ok (.aload_n 0, 1) := by decide +kernel
theorem dL_law_595 : decode cL_law 595 = .ok (.iload_n 3, 1) := by decide +kernel
theorem dL_law_596 : decode cL_law 596 = .ok (.iconst 1, 1) := by decide +kernel
theorem dL_law_597 : decode cL_law 597 = .ok (.iadd, 1) := by decide +kernel
theorem dL_law_598 : decode cL_law 598 = .ok (.iaload, 1) := by decide +kernel
theorem dL_law_599 : decode cL_law 599 = .ok (.aload_n 0, 1) := by decide +kernel
theorem dL_law_600 : decode cL_law 600 = .ok (.iload_n 3, 1) := by decide +kernel
theorem dL_law_601 : decode cL_law 601 = .ok (.iconst 2, 1) := by decide +kernel
theorem dL_law_602 : decode cL_law 602 = .ok (.iadd, 1) := by decide +kernel
theorem dL_law_603 : decode cL_law 603 = .ok (.iaload, 1) := by decide +kernel
theorem dL_law_604 : decode cL_law 604 = .ok (.invokevirtual 69, 3) := by decide +kernel
theorem dL_law_607 : decode cL_law 607 = .ok (.aload_n 2, 1) := by decide +kernel
theorem dL_law_608 : decode cL_law 608 = .ok (.aload_n 0, 1) := by decide +kernel
theorem dL_law_609 : decode cL_law 609 = .ok (.iload_n 3, 1) := by decide +kernel
theorem dL_law_610 : decode cL_law 610 = .ok (.iconst 1, 1) := by decide +kernel
theorem dL_law_611 : decode cL_law 611 = .ok (.iadd, 1) := by decide +kernel
theorem dL_law_612 : decode cL_law 612 = .ok (.iaload, 1) := by decide +kernel
theorem dL_law_613 : decode cL_law 613 = .ok (.aload_n 0, 1) := by decide +kernel
theorem dL_law_614 : decode cL_law 614 = .ok (.iload_n 3, 1) := by decide +kernel
theorem dL_law_615 : decode cL_law 615 = .ok (.iconst 2, 1) := by decide +kernel
theorem dL_law_616 : decode cL_law 616 = .ok (.iadd, 1) := by decide +kernel
theorem dL_law_617 : decode cL_law 617 = .ok (.iaload, 1) := by decide +kernel
theorem dL_law_618 : decode cL_law 618 = .ok (.invokevirtual 72, 3) := by decide +kernel
theorem dL_law_621 : decode cL_law 621 = .ok (.if_icmp .eq 130, 3) := by decide +kernel
theorem dL_law_624 : decode cL_law 624 = .ok (.iconst 0, 1) := by decide +kernel
theorem dL_law_625 : decode cL_law 625 = .ok (.ireturn, 1) := by decide +kernel
theorem dL_law_626 : decode cL_law 626 = .ok (.aload_n 1, 1) := by decide +kernel
theorem dL_law_627 : decode cL_law 627 = .ok (.aload_n 0, 1) := by decide +kernel
theorem dL_law_628 : decode cL_law 628 = .ok (.iload_n 3, 1) := by decide +kernel
theorem dL_law_629 : decode cL_law 629 = .ok (.iconst 1, 1) := by decide +kernel
theorem dL_law_630 : decode cL_law 630 = .ok (.iadd, 1) := by decide +kernel
theorem dL_law_631 : decode cL_law 631 = .ok (.iaload, 1) := by decide +kernel
theorem dL_law_632 : decode cL_law 632 = .ok (.invokevirtual 73, 3) := by decide +kernel
theorem dL_law_635 : decode cL_law 635 = .ok (.aload_n 2, 1) := by decide +kernel
theorem dL_law_636 : decode cL_law 636 = .ok (.aload_n 0, 1) := by decide +kernel
theorem dL_law_637 : decode cL_law 637 = .ok (.iload_n 3, 1) := by decide +kernel
theorem dL_law_638 : decode cL_law 638 = .ok (.iconst 1, 1) := by decide +kernel
theorem dL_law_639 : decode cL_law 639 = .ok (.iadd, 1) := by decide +kernel
theorem dL_law_640 : decode cL_law 640 = .ok (.iaload, 1) := by decide +kernel
theorem dL_law_641 : decode cL_law 641 = .ok (.invokevirtual 76, 3) := by decide +kernel
theorem dL_law_644 : decode cL_law 644 = .ok (.if_icmp .eq 107, 3) := by decide +kernel
theorem dL_law_647 : decode cL_law 647 = .ok (.iconst 0, 1) := by decide +kernel
theorem dL_law_648 : decode cL_law 648 = .ok (.ireturn, 1) := by decide +kernel
theorem dL_law_649 : decode cL_law 649 = .ok (.aload_n 1, 1) := by decide +kernel
theorem dL_law_650 : decode cL_law 650 = .ok (.aload_n 0, 1) := by decide +kernel
theorem dL_law_651 : decode cL_law 651 = .ok (.iload_n 3, 1) := by decide +kernel
theorem dL_law_652 : decode cL_law 652 = .ok (.iconst 1, 1) := by decide +kernel
theorem dL_law_653 : decode cL_law 653 = .ok (.iadd, 1) := by decide +kernel
theorem dL_law_654 : decode cL_law 654 = .ok (.iaload, 1) := by decide +kernel
theorem dL_law_655 : decode cL_law 655 = .ok (.aload_n 0, 1) := by decide +kernel
theorem dL_law_656 : decode cL_law 656 = .ok (.iload_n 3, 1) := by decide +kernel
theorem dL_law_657 : decode cL_law 657 = .ok (.iconst 2, 1) := by decide +kernel
theorem dL_law_658 : decode cL_law 658 = .ok (.iadd, 1) := by decide +kernel
theorem dL_law_659 : decode cL_law 659 = .ok (.iaload, 1) := by decide +kernel
theorem dL_law_660 : decode cL_law 660 = .ok (.invokevirtual 77, 3) := by decide +kernel
theorem dL_law_663 : decode cL_law 663 = .ok (.aload_n 2, 1) := by decide +kernel
theorem dL_law_664 : decode cL_law 664 = .ok (.aload_n 0, 1) := by decide +kernel
theorem dL_law_665 : decode cL_law 665 = .ok (.iload_n 3, 1) := by decide +kernel
theorem dL_law_666 : decode cL_law 666 = .ok (.iconst 1, 1) := by decide +kernel
theorem dL_law_667 : decode cL_law 667 = .ok (.iadd, 1) := by decide +kernel
theorem dL_law_668 : decode cL_law 668 = .ok (.iaload, 1) := by decide +kernel
end
section
theorem dL_law_669 : decode cL_law 669 = .ok (.aload_n 0, 1) := by decide +kernel
theorem dL_law_670 : decode cL_law 670 = .ok (.iload_n 3, 1) := by decide +kernel
theorem dL_law_671 : decode cL_law 671 = .ok (.iconst 2, 1) := by decide +kernel
theorem dL_law_672 : decode cL_law 672 = .ok (.iadd, 1) := by decide +kernel
theorem dL_law_673 : decode cL_law 673 = .ok (.iaload, 1) := by decide +kernel
theorem dL_law_674 : decode cL_law 674 = .ok (.invokevirtual 80, 3) := by decide +kernel
theorem dL_law_677 : decode cL_law 677 = .ok (.if_icmp .eq 74, 3) := by decide +kernel
theorem dL_law_680 : decode cL_law 680 = .ok (.iconst 0, 1) := by decide +kernel
theorem dL_law_681 : decode cL_law 681 = .ok (.ireturn, 1) := by decide +kernel
theorem dL_law_682 : decode cL_law 682 = .ok (.aload_n 1, 1) := by decide +kernel
theorem dL_law_683 : decode cL_law 683 = .ok (.aload_n 0, 1) := by decide +kernel
theorem dL_law_684 : decode cL_law 684 = .ok (.iload_n 3, 1) := by decide +kernel
theorem dL_law_685 : decode cL_law 685 = .ok (.iconst 1, 1) := by decide +kernel
theorem dL_law_686 : decode cL_law 686 = .ok (.iadd, 1) := by decide +kernel
theorem dL_law_687 : decode cL_law 687 = .ok (.iaload, 1) := by decide +kernel
theorem dL_law_688 : decode cL_law 688 = .ok (.invokevirtual 81, 3) := by decide +kernel
theorem dL_law_691 : decode cL_law 691 = .ok (.aload_n 2, 1) := by decide +kernel
theorem dL_law_692 : decode cL_law 692 = .ok (.aload_n 0, 1) := by decide +kernel
theorem dL_law_693 : decode cL_law 693 = .ok (.iload_n 3, 1) := by decide +kernel
theorem dL_law_694 : decode cL_law 694 = .ok (.iconst 1, 1) := by decide +kernel
theorem dL_law_695 : decode cL_law 695 = .ok (.iadd, 1) := by decide +kernel
theorem dL_law_696 : decode cL_law 696 = .ok (.iaload, 1) := by decide +kernel
theorem dL_law_697 : decode cL_law 697 = .ok (.invokevirtual 84, 3) := by decide +kernel
theorem dL_law_700 : decode cL_law 700 = .ok (.if_icmp .eq 51, 3) := by decide +kernel
theorem dL_law_703 : decode cL_law 703 = .ok (.iconst 0, 1) := by decide +kernel
theorem dL_law_704 : decode cL_law 704 = .ok (.ireturn, 1) := by decide +kernel
theorem dL_law_705 : decode cL_law 705 = .ok (.aload_n 1, 1) := by decide +kernel
theorem dL_law_706 : decode cL_law 706 = .ok (.aload_n 0, 1) := by decide +kernel
theorem dL_law_707 : decode cL_law 707 = .ok (.iload_n 3, 1) := by decide +kernel
theorem dL_law_708 : decode cL_law 708 = .ok (.iconst 1, 1) := by decide +kernel
theorem dL_law_709 : decode cL_law 709 = .ok (.iadd, 1) := by decide +kernel
theorem dL_law_710 : decode cL_law 710 = .ok (.iaload, 1) := by decide +kernel
theorem dL_law_711 : decode cL_law 711 = .ok (.invokevirtual 85, 3) := by decide +kernel
theorem dL_law_714 : decode cL_law 714 = .ok (.aload_n 2, 1) := by decide +kernel
theorem dL_law_715 : decode cL_law 715 = .ok (.aload_n 0, 1) := by decide +kernel
theorem dL_law_716 : decode cL_law 716 = .ok (.iload_n 3, 1) := by decide +kernel
theorem dL_law_717 : decode cL_law 717 = .ok (.iconst 1, 1) := by decide +kernel
theorem dL_law_718 : decode cL_law 718 = .ok (.iadd, 1) := by decide +kernel
theorem dL_law_719 : decode cL_law 719 = .ok (.iaload, 1) := by decide +kernel
theorem dL_law_720 : decode cL_law 720 = .ok (.invokevirtual 88, 3) := by decide +kernel
theorem dL_law_723 : decode cL_law 723 = .ok (.if_icmp .eq 28, 3) := by decide +kernel
theorem dL_law_726 : decode cL_law 726 = .ok (.iconst 0, 1) := by decide +kernel
theorem dL_law_727 : decode cL_law 727 = .ok (.ireturn, 1) := by decide +kernel
theorem dL_law_728 : decode cL_law 728 = .ok (.aload_n 1, 1) := by decide +kernel
theorem dL_law_729 : decode cL_law 729 = .ok (.aload_n 0, 1) := by decide +kernel
theorem dL_law_730 : decode cL_law 730 = .ok (.iload_n 3, 1) := by decide +kernel
theorem dL_law_731 : decode cL_law 731 = .ok (.iconst 1, 1) := by decide +kernel
theorem dL_law_732 : decode cL_law 732 = .ok (.iadd, 1) := by decide +kernel
theorem dL_law_733 : decode cL_law 733 = .ok (.iaload, 1) := by decide +kernel
theorem dL_law_734 : decode cL_law 734 = .ok (.invokevirtual 89, 3) := by decide +kernel
theorem dL_law_737 : decode cL_law 737 = .ok (.aload_n 2, 1) := by decide +kernel
theorem dL_law_738 : decode cL_law 738 = .ok (.aload_n 0, 1) := by decide +kernel
theorem dL_law_739 : decode cL_law 739 = .ok (.iload_n 3, 1) := by decide +kernel
theorem dL_law_740 : decode cL_law 740 = .ok (.iconst 1, 1) := by decide +kernel
theorem dL_law_741 : decode cL_law 741 = .ok (.iadd, 1) := by decide +kernel
theorem dL_law_742 : decode cL_law 742 = .ok (.iaload, 1) := by decide +kernel
theorem dL_law_743 : decode cL_law 743 = .ok (.invokevirtual 92, 3) := by decide +kernel
theorem dL_law_746 : decode cL_law 746 = .ok (.if_icmp .eq 5, 3) := by decide +kernel
theorem dL_law_749 : decode cL_law 749 = .ok (.iconst 0, 1) := by decide +kernel
theorem dL_law_750 : decode cL_law 750 = .ok (.ireturn, 1) := by decide +kernel
theorem dL_law_751 : decode cL_law 751 = .ok (.iinc 3 5, 3) := by decide +kernel
theorem dL_law_754 : decode cL_law 754 = .ok (.goto (-736), 3) := by decide +kernel
theorem dL_law_757 : decode cL_law 757 = .ok (.iconst 1, 1) := by decide +kernel
theorem dL_law_758 : decode cL_law 758 = .ok (.ireturn, 1) := by decide +kernel
abbrev vwCl : List vw_C := [(RX0, TX0, 3), (RX1, TX1, 7), (RX2, TX2, 1), (RX3, TX3, 5), (RX4, TX4, 4), (RX5, TX5, 2), (RX6, TX6, 4), (RX7, TX7, 6), (RX8, TX8, 13)]
end
