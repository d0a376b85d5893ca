section
-- ===== PART A: goes FIRST, ahead of the names: the tables' words, and 'selects' of the private methods out of them =====
/-- a private method of a class that the tables say can be made, by its rows of tables_1 -/
def lw_okq (q : MethodName × Nat) : Prop := (q.1.cls ≠ "java/lang/invoke/MethodHandle" ∧ q.1.cls ≠ "java/lang/invoke/VarHandle") ∧ Cond.instantiable q.1.cls q.2 ∈ tables_1 ∧ Cond.privateMethod q.1 ∈ tables_1 ∧ Cond.instanceMethod q.1 ∈ tables_1
theorem lw_p0 : lw_okq (⟨"BuddyFiles", "startAfresh", "()V"⟩, 6) := ⟨⟨by decide +kernel, by decide +kernel⟩, List.mem_of_getElem? (i := 9) (by decide +kernel), List.mem_of_getElem? (i := 41) (by decide +kernel), List.mem_of_getElem? (i := 42) (by decide +kernel)⟩
theorem lw_p1 : lw_okq (⟨"BuddyFiles", "goUp", "()V"⟩, 6) := ⟨⟨by decide +kernel, by decide +kernel⟩, List.mem_of_getElem? (i := 9) (by decide +kernel), List.mem_of_getElem? (i := 56) (by decide +kernel), List.mem_of_getElem? (i := 57) (by decide +kernel)⟩
theorem lw_p2 : lw_okq (⟨"BuddyFiles", "isInUse", "(I)Z"⟩, 6) := ⟨⟨by decide +kernel, by decide +kernel⟩, List.mem_of_getElem? (i := 9) (by decide +kernel), List.mem_of_getElem? (i := 113) (by decide +kernel), List.mem_of_getElem? (i := 114) (by decide +kernel)⟩
theorem lw_p3 : lw_okq (⟨"BuddyFiles$Home", "giveBackRuns", "(II)V"⟩, 1) := ⟨⟨by decide +kernel, by decide +kernel⟩, List.mem_of_getElem? (i := 29) (by decide +kernel), List.mem_of_getElem? (i := 157) (by decide +kernel), List.mem_of_getElem? (i := 158) (by decide +kernel)⟩
theorem lw_p4 : lw_okq (⟨"BuddyFiles", "closedHandle", "()I"⟩, 6) := ⟨⟨by decide +kernel, by decide +kernel⟩, List.mem_of_getElem? (i := 9) (by decide +kernel), List.mem_of_getElem? (i := 185) (by decide +kernel), List.mem_of_getElem? (i := 186) (by decide +kernel)⟩
theorem lw_p5 : lw_okq (⟨"BuddyFiles", "isOpen", "(I)Z"⟩, 6) := ⟨⟨by decide +kernel, by decide +kernel⟩, List.mem_of_getElem? (i := 9) (by decide +kernel), List.mem_of_getElem? (i := 193) (by decide +kernel), List.mem_of_getElem? (i := 194) (by decide +kernel)⟩
theorem lw_p6 : lw_okq (⟨"BuddyFiles$Home", "takeRuns", "(III)I"⟩, 1) := ⟨⟨by decide +kernel, by decide +kernel⟩, List.mem_of_getElem? (i := 29) (by decide +kernel), List.mem_of_getElem? (i := 206) (by decide +kernel), List.mem_of_getElem? (i := 207) (by decide +kernel)⟩
theorem lw_p7 : lw_okq (⟨"BuddyFiles$Home", "takeRunFor", "(I)I"⟩, 1) := ⟨⟨by decide +kernel, by decide +kernel⟩, List.mem_of_getElem? (i := 29) (by decide +kernel), List.mem_of_getElem? (i := 210) (by decide +kernel), List.mem_of_getElem? (i := 211) (by decide +kernel)⟩
theorem lw_p8 : lw_okq (⟨"BuddyFiles$Home", "takeRun", "(I)I"⟩, 1) := ⟨⟨by decide +kernel, by decide +kernel⟩, List.mem_of_getElem? (i := 29) (by decide +kernel), List.mem_of_getElem? (i := 217) (by decide +kernel), List.mem_of_getElem? (i := 218) (by decide +kernel)⟩
theorem lw_p9 : lw_okq (⟨"BuddyFiles$Home", "isFreeRun", "(II)Z"⟩, 1) := ⟨⟨by decide +kernel, by decide +kernel⟩, List.mem_of_getElem? (i := 29) (by decide +kernel), List.mem_of_getElem? (i := 221) (by decide +kernel), List.mem_of_getElem? (i := 222) (by decide +kernel)⟩
theorem lw_p10 : lw_okq (⟨"BuddyFiles", "countChanges", "()I"⟩, 6) := ⟨⟨by decide +kernel, by decide +kernel⟩, List.mem_of_getElem? (i := 9) (by decide +kernel), List.mem_of_getElem? (i := 297) (by decide +kernel), List.mem_of_getElem? (i := 298) (by decide +kernel)⟩
theorem lw_p11 : lw_okq (⟨"BuddyFiles", "isChanged", "(I)Z"⟩, 6) := ⟨⟨by decide +kernel, by decide +kernel⟩, List.mem_of_getElem? (i := 9) (by decide +kernel), List.mem_of_getElem? (i := 301) (by decide +kernel), List.mem_of_getElem? (i := 302) (by decide +kernel)⟩
theorem lw_p12 : lw_okq (⟨"BuddyFiles", "writeJournal", "(I)Z"⟩, 6) := ⟨⟨by decide +kernel, by decide +kernel⟩, List.mem_of_getElem? (i := 9) (by decide +kernel), List.mem_of_getElem? (i := 305) (by decide +kernel), List.mem_of_getElem? (i := 306) (by decide +kernel)⟩
theorem lw_p13 : lw_okq (⟨"BuddyFiles", "writeCell", "(II)Z"⟩, 6) := ⟨⟨by decide +kernel, by decide +kernel⟩, List.mem_of_getElem? (i := 9) (by decide +kernel), List.mem_of_getElem? (i := 309) (by decide +kernel), List.mem_of_getElem? (i := 310) (by decide +kernel)⟩
theorem lw_p14 : lw_okq (⟨"BuddyFiles", "writeHome", "()Z"⟩, 6) := ⟨⟨by decide +kernel, by decide +kernel⟩, List.mem_of_getElem? (i := 9) (by decide +kernel), List.mem_of_getElem? (i := 316) (by decide +kernel), List.mem_of_getElem? (i := 317) (by decide +kernel)⟩
theorem lw_p15 : lw_okq (⟨"BuddyFilesModel", "slotOf", "(I)I"⟩, 12) := ⟨⟨by decide +kernel, by decide +kernel⟩, List.mem_of_getElem? (i := 407) (by decide +kernel), List.mem_of_getElem? (i := 463) (by decide +kernel), List.mem_of_getElem? (i := 464) (by decide +kernel)⟩
def lw_privs_1 : List (MethodName × Nat) := [(⟨"BuddyFiles", "startAfresh", "()V"⟩, 6), (⟨"BuddyFiles", "goUp", "()V"⟩, 6), (⟨"BuddyFiles", "isInUse", "(I)Z"⟩, 6), (⟨"BuddyFiles$Home", "giveBackRuns", "(II)V"⟩, 1), (⟨"BuddyFiles", "closedHandle", "()I"⟩, 6), (⟨"BuddyFiles", "isOpen", "(I)Z"⟩, 6), (⟨"BuddyFiles$Home", "takeRuns", "(III)I"⟩, 1), (⟨"BuddyFiles$Home", "takeRunFor", "(I)I"⟩, 1), (⟨"BuddyFiles$Home", "takeRun", "(I)I"⟩, 1), (⟨"BuddyFiles$Home", "isFreeRun", "(II)Z"⟩, 1), (⟨"BuddyFiles", "countChanges", "()I"⟩, 6), (⟨"BuddyFiles", "isChanged", "(I)Z"⟩, 6), (⟨"BuddyFiles", "writeJournal", "(I)Z"⟩, 6), (⟨"BuddyFiles", "writeCell", "(II)Z"⟩, 6), (⟨"BuddyFiles", "writeHome", "()Z"⟩, 6), (⟨"BuddyFilesModel", "slotOf", "(I)I"⟩, 12)]
theorem lw_r1 : ∀ q ∈ lw_privs_1, lw_okq q := List.forall_mem_cons.mpr ⟨lw_p0, List.forall_mem_cons.mpr ⟨lw_p1, List.forall_mem_cons.mpr ⟨lw_p2, List.forall_mem_cons.mpr ⟨lw_p3, List.forall_mem_cons.mpr ⟨lw_p4, List.forall_mem_cons.mpr ⟨lw_p5, List.forall_mem_cons.mpr ⟨lw_p6, List.forall_mem_cons.mpr ⟨lw_p7, List.forall_mem_cons.mpr ⟨lw_p8, List.forall_mem_cons.mpr ⟨lw_p9, List.forall_mem_cons.mpr ⟨lw_p10, List.forall_mem_cons.mpr ⟨lw_p11, List.forall_mem_cons.mpr ⟨lw_p12, List.forall_mem_cons.mpr ⟨lw_p13, List.forall_mem_cons.mpr ⟨lw_p14, List.forall_mem_cons.mpr ⟨lw_p15, fun _ h => absurd h List.not_mem_nil⟩⟩⟩⟩⟩⟩⟩⟩⟩⟩⟩⟩⟩⟩⟩⟩
theorem lw_p16 : lw_okq (⟨"BuddyFilesModel", "isOpen", "(I)Z"⟩, 12) := ⟨⟨by decide +kernel, by decide +kernel⟩, List.mem_of_getElem? (i := 407) (by decide +kernel), List.mem_of_getElem? (i := 471) (by decide +kernel), List.mem_of_getElem? (i := 472) (by decide +kernel)⟩
theorem lw_p17 : lw_okq (⟨"BuddyFilesModel", "takeAway", "(I)V"⟩, 12) := ⟨⟨by decide +kernel, by decide +kernel⟩, List.mem_of_getElem? (i := 407) (by decide +kernel), List.mem_of_getElem? (i := 475) (by decide +kernel), List.mem_of_getElem? (i := 476) (by decide +kernel)⟩
theorem lw_p18 : lw_okq (⟨"BuddyFilesModel", "runs", "(I)I"⟩, 12) := ⟨⟨by decide +kernel, by decide +kernel⟩, List.mem_of_getElem? (i := 407) (by decide +kernel), List.mem_of_getElem? (i := 479) (by decide +kernel), List.mem_of_getElem? (i := 480) (by decide +kernel)⟩
theorem lw_p19 : lw_okq (⟨"BuddyFilesModel", "extentOf", "(II)I"⟩, 12) := ⟨⟨by decide +kernel, by decide +kernel⟩, List.mem_of_getElem? (i := 407) (by decide +kernel), List.mem_of_getElem? (i := 483) (by decide +kernel), List.mem_of_getElem? (i := 484) (by decide +kernel)⟩
theorem lw_p20 : lw_okq (⟨"BuddyFilesModel", "giveBack", "(I)V"⟩, 12) := ⟨⟨by decide +kernel, by decide +kernel⟩, List.mem_of_getElem? (i := 407) (by decide +kernel), List.mem_of_getElem? (i := 487) (by decide +kernel), List.mem_of_getElem? (i := 488) (by decide +kernel)⟩
theorem lw_p21 : lw_okq (⟨"BuddyFilesModel", "slotAt", "(I)I"⟩, 12) := ⟨⟨by decide +kernel, by decide +kernel⟩, List.mem_of_getElem? (i := 407) (by decide +kernel), List.mem_of_getElem? (i := 515) (by decide +kernel), List.mem_of_getElem? (i := 516) (by decide +kernel)⟩
theorem lw_p22 : lw_okq (⟨"BuddyFilesModel", "grow", "(II)I"⟩, 12) := ⟨⟨by decide +kernel, by decide +kernel⟩, List.mem_of_getElem? (i := 407) (by decide +kernel), List.mem_of_getElem? (i := 523) (by decide +kernel), List.mem_of_getElem? (i := 524) (by decide +kernel)⟩
theorem lw_p23 : lw_okq (⟨"BuddyFilesModel", "tryGrow", "(II)I"⟩, 12) := ⟨⟨by decide +kernel, by decide +kernel⟩, List.mem_of_getElem? (i := 407) (by decide +kernel), List.mem_of_getElem? (i := 527) (by decide +kernel), List.mem_of_getElem? (i := 528) (by decide +kernel)⟩
theorem lw_p24 : lw_okq (⟨"BuddyFilesModel", "blocks", "(I)I"⟩, 12) := ⟨⟨by decide +kernel, by decide +kernel⟩, List.mem_of_getElem? (i := 407) (by decide +kernel), List.mem_of_getElem? (i := 531) (by decide +kernel), List.mem_of_getElem? (i := 532) (by decide +kernel)⟩
theorem lw_p25 : lw_okq (⟨"BuddyFilesModel", "used", "(I)I"⟩, 12) := ⟨⟨by decide +kernel, by decide +kernel⟩, List.mem_of_getElem? (i := 407) (by decide +kernel), List.mem_of_getElem? (i := 544) (by decide +kernel), List.mem_of_getElem? (i := 545) (by decide +kernel)⟩
theorem lw_p26 : lw_okq (⟨"BuddyFilesModel", "wordCell", "(II)I"⟩, 12) := ⟨⟨by decide +kernel, by decide +kernel⟩, List.mem_of_getElem? (i := 407) (by decide +kernel), List.mem_of_getElem? (i := 548) (by decide +kernel), List.mem_of_getElem? (i := 549) (by decide +kernel)⟩
theorem lw_p27 : lw_okq (⟨"BuddyFilesModel", "shrink", "(II)V"⟩, 12) := ⟨⟨by decide +kernel, by decide +kernel⟩, List.mem_of_getElem? (i := 407) (by decide +kernel), List.mem_of_getElem? (i := 560) (by decide +kernel), List.mem_of_getElem? (i := 561) (by decide +kernel)⟩
theorem lw_p28 : lw_okq (⟨"BuddyFilesModel", "put", "(II)Z"⟩, 12) := ⟨⟨by decide +kernel, by decide +kernel⟩, List.mem_of_getElem? (i := 407) (by decide +kernel), List.mem_of_getElem? (i := 591) (by decide +kernel), List.mem_of_getElem? (i := 592) (by decide +kernel)⟩
theorem lw_p29 : lw_okq (⟨"BuddyFilesModel", "judge", "()I"⟩, 12) := ⟨⟨by decide +kernel, by decide +kernel⟩, List.mem_of_getElem? (i := 407) (by decide +kernel), List.mem_of_getElem? (i := 603) (by decide +kernel), List.mem_of_getElem? (i := 604) (by decide +kernel)⟩
theorem lw_p30 : lw_okq (⟨"BuddyFilesModel", "fetch", "()V"⟩, 12) := ⟨⟨by decide +kernel, by decide +kernel⟩, List.mem_of_getElem? (i := 407) (by decide +kernel), List.mem_of_getElem? (i := 607) (by decide +kernel), List.mem_of_getElem? (i := 608) (by decide +kernel)⟩
theorem lw_p31 : lw_okq (⟨"BuddyFilesModel", "holds", "()Z"⟩, 12) := ⟨⟨by decide +kernel, by decide +kernel⟩, List.mem_of_getElem? (i := 407) (by decide +kernel), List.mem_of_getElem? (i := 611) (by decide +kernel), List.mem_of_getElem? (i := 612) (by decide +kernel)⟩
def lw_privs_2 : List (MethodName × Nat) := [(⟨"BuddyFilesModel", "isOpen", "(I)Z"⟩, 12), (⟨"BuddyFilesModel", "takeAway", "(I)V"⟩, 12), (⟨"BuddyFilesModel", "runs", "(I)I"⟩, 12), (⟨"BuddyFilesModel", "extentOf", "(II)I"⟩, 12), (⟨"BuddyFilesModel", "giveBack", "(I)V"⟩, 12), (⟨"BuddyFilesModel", "slotAt", "(I)I"⟩, 12), (⟨"BuddyFilesModel", "grow", "(II)I"⟩, 12), (⟨"BuddyFilesModel", "tryGrow", "(II)I"⟩, 12), (⟨"BuddyFilesModel", "blocks", "(I)I"⟩, 12), (⟨"BuddyFilesModel", "used", "(I)I"⟩, 12), (⟨"BuddyFilesModel", "wordCell", "(II)I"⟩, 12), (⟨"BuddyFilesModel", "shrink", "(II)V"⟩, 12), (⟨"BuddyFilesModel", "put", "(II)Z"⟩, 12), (⟨"BuddyFilesModel", "judge", "()I"⟩, 12), (⟨"BuddyFilesModel", "fetch", "()V"⟩, 12), (⟨"BuddyFilesModel", "holds", "()Z"⟩, 12)]
theorem lw_r2 : ∀ q ∈ lw_privs_2, lw_okq q := List.forall_mem_cons.mpr ⟨lw_p16, List.forall_mem_cons.mpr ⟨lw_p17, List.forall_mem_cons.mpr ⟨lw_p18, List.forall_mem_cons.mpr ⟨lw_p19, List.forall_mem_cons.mpr ⟨lw_p20, List.forall_mem_cons.mpr ⟨lw_p21, List.forall_mem_cons.mpr ⟨lw_p22, List.forall_mem_cons.mpr ⟨lw_p23, List.forall_mem_cons.mpr ⟨lw_p24, List.forall_mem_cons.mpr ⟨lw_p25, List.forall_mem_cons.mpr ⟨lw_p26, List.forall_mem_cons.mpr ⟨lw_p27, List.forall_mem_cons.mpr ⟨lw_p28, List.forall_mem_cons.mpr ⟨lw_p29, List.forall_mem_cons.mpr ⟨lw_p30, List.forall_mem_cons.mpr ⟨lw_p31, fun _ h => absurd h List.not_mem_nil⟩⟩⟩⟩⟩⟩⟩⟩⟩⟩⟩⟩⟩⟩⟩⟩
theorem lw_p32 : lw_okq (⟨"BuddyFilesModel", "slotsRight", "()Z"⟩, 12) := ⟨⟨by decide +kernel, by decide +kernel⟩, List.mem_of_getElem? (i := 407) (by decide +kernel), List.mem_of_getElem? (i := 615) (by decide +kernel), List.mem_of_getElem? (i := 616) (by decide +kernel)⟩
theorem lw_p33 : lw_okq (⟨"BuddyFilesModel", "namesRight", "()Z"⟩, 12) := ⟨⟨by decide +kernel, by decide +kernel⟩, List.mem_of_getElem? (i := 407) (by decide +kernel), List.mem_of_getElem? (i := 619) (by decide +kernel), List.mem_of_getElem? (i := 620) (by decide +kernel)⟩
theorem lw_p34 : lw_okq (⟨"BuddyFilesModel", "extentsRight", "()Z"⟩, 12) := ⟨⟨by decide +kernel, by decide +kernel⟩, List.mem_of_getElem? (i := 407) (by decide +kernel), List.mem_of_getElem? (i := 623) (by decide +kernel), List.mem_of_getElem? (i := 624) (by decide +kernel)⟩
theorem lw_p35 : lw_okq (⟨"BuddyFilesModel", "blocksRight", "()Z"⟩, 12) := ⟨⟨by decide +kernel, by decide +kernel⟩, List.mem_of_getElem? (i := 407) (by decide +kernel), List.mem_of_getElem? (i := 630) (by decide +kernel), List.mem_of_getElem? (i := 631) (by decide +kernel)⟩
theorem lw_p36 : lw_okq (⟨"BuddyFilesModel", "needsRight", "()Z"⟩, 12) := ⟨⟨by decide +kernel, by decide +kernel⟩, List.mem_of_getElem? (i := 407) (by decide +kernel), List.mem_of_getElem? (i := 634) (by decide +kernel), List.mem_of_getElem? (i := 635) (by decide +kernel)⟩
theorem lw_p37 : lw_okq (⟨"BuddyFilesModel", "mapRight", "()Z"⟩, 12) := ⟨⟨by decide +kernel, by decide +kernel⟩, List.mem_of_getElem? (i := 407) (by decide +kernel), List.mem_of_getElem? (i := 638) (by decide +kernel), List.mem_of_getElem? (i := 639) (by decide +kernel)⟩
theorem lw_p38 : lw_okq (⟨"BuddyFilesModel", "quotasRight", "()Z"⟩, 12) := ⟨⟨by decide +kernel, by decide +kernel⟩, List.mem_of_getElem? (i := 407) (by decide +kernel), List.mem_of_getElem? (i := 642) (by decide +kernel), List.mem_of_getElem? (i := 643) (by decide +kernel)⟩
theorem lw_p39 : lw_okq (⟨"BuddyFilesModel", "wordsRight", "()Z"⟩, 12) := ⟨⟨by decide +kernel, by decide +kernel⟩, List.mem_of_getElem? (i := 407) (by decide +kernel), List.mem_of_getElem? (i := 646) (by decide +kernel), List.mem_of_getElem? (i := 647) (by decide +kernel)⟩
def lw_privs_3 : List (MethodName × Nat) := [(⟨"BuddyFilesModel", "slotsRight", "()Z"⟩, 12), (⟨"BuddyFilesModel", "namesRight", "()Z"⟩, 12), (⟨"BuddyFilesModel", "extentsRight", "()Z"⟩, 12), (⟨"BuddyFilesModel", "blocksRight", "()Z"⟩, 12), (⟨"BuddyFilesModel", "needsRight", "()Z"⟩, 12), (⟨"BuddyFilesModel", "mapRight", "()Z"⟩, 12), (⟨"BuddyFilesModel", "quotasRight", "()Z"⟩, 12), (⟨"BuddyFilesModel", "wordsRight", "()Z"⟩, 12)]
theorem lw_r3 : ∀ q ∈ lw_privs_3, lw_okq q := List.forall_mem_cons.mpr ⟨lw_p32, List.forall_mem_cons.mpr ⟨lw_p33, List.forall_mem_cons.mpr ⟨lw_p34, List.forall_mem_cons.mpr ⟨lw_p35, List.forall_mem_cons.mpr ⟨lw_p36, List.forall_mem_cons.mpr ⟨lw_p37, List.forall_mem_cons.mpr ⟨lw_p38, List.forall_mem_cons.mpr ⟨lw_p39, fun _ h => absurd h List.not_mem_nil⟩⟩⟩⟩⟩⟩⟩⟩
def lw_privs : List (MethodName × Nat) := lw_privs_1 ++ (lw_privs_2 ++ (lw_privs_3))
def lw_tbl : List Cond := k2_sels lw_privs ++ tables_1
theorem lw_privs_ok : ∀ q ∈ lw_privs, lw_okq q := by
  show ∀ q ∈ lw_privs_1 ++ (lw_privs_2 ++ (lw_privs_3)), lw_okq q
  exact List.forall_mem_append.mpr ⟨lw_r1, List.forall_mem_append.mpr ⟨lw_r2, lw_r3⟩⟩
end
section
/-! ===== BEGIN words of one list among another's, by their places ===== -/
theorem goodIn_r {big : List Cond} (ws : List Cond) (ps : List Nat) (hp : ws = ps.filterMap (fun i => big[i]?)) (h : ws.all goodWord = true) : GoodIn big ws := by
  intro w hw
  have h1 := List.all_eq_true.mp h w hw
  rw [hp] at hw
  obtain ⟨i, -, hi⟩ := List.mem_filterMap.mp hw
  have hm : w ∈ big := by first | exact List.mem_of_getElem? hi | exact List.getElem?_mem hi
  exact ⟨hm, good_of_word h1⟩
theorem goodIn_app {big a b : List Cond} (ha : GoodIn big a) (hb : GoodIn big b) : GoodIn big (a ++ b) := fun w h => (List.mem_append.mp h).elim (ha w) (hb w)
theorem goodIn_ca {big a b : List Cond} {c : Cond} (ha : GoodIn big (c :: a)) (hb : GoodIn big b) : GoodIn big (c :: (a ++ b)) := fun w h => (List.mem_cons.mp h).elim (fun e => ha w (List.mem_cons.mpr (Or.inl e))) (fun h => (List.mem_append.mp h).elim (fun h => ha w (List.mem_cons.mpr (Or.inr h))) (hb w))
theorem goodIn_sub {big ws : List Cond} (hm : ∀ w ∈ ws, w ∈ big) (h : ws.all goodWord = true) : GoodIn big ws := fun w hw => ⟨hm w hw, good_of_word (List.all_eq_true.mp h w hw)⟩
/-! ===== END ===== -/

/-! ===== BEGIN printed: names, fields, word lists, decode rows ===== -/
def RX0 : String := "BuddyFiles$Checker"
def TX0 : u_T := fun k => match k with
  | _ => ("", "", "", false)
def tyX0 : Nat → FieldType := fun k => match k with
  | _ => .int
abbrev wsX00 : List Cond := u_ws RX0 TX0 0
theorem nmX0 : ∀ a, a < 0 → ∀ b, b < 0 → a ≠ b → (TX0 a).2.1 ≠ (TX0 b).2.1 := by decide +kernel
theorem tyX0_ok : ∀ k, k < 0 → parseFieldDescriptor (TX0 k).2.2.1 = some (tyX0 k) := by decide +kernel
abbrev cX0_leastBroken : ByteArray := prog_2_method_2_code
def yX0_leastBroken : MethodName := ⟨RX0, "leastBroken", "(LBuddyFiles$Home;)I"⟩
abbrev cX0_isIn : ByteArray := prog_2_method_3_code
def yX0_isIn : MethodName := ⟨RX0, "isIn", "(III)Z"⟩
abbrev cX0_slotsAreInRange : ByteArray := prog_2_method_4_code
def yX0_slotsAreInRange : MethodName := ⟨RX0, "slotsAreInRange", "(LBuddyFiles$Home;)Z"⟩
abbrev cX0_isAllZero : ByteArray := prog_2_method_5_code
def yX0_isAllZero : MethodName := ⟨RX0, "isAllZero", "(LBuddyFiles$Home;I)Z"⟩
abbrev cX0_namesDiffer : ByteArray := prog_2_method_6_code
def yX0_namesDiffer : MethodName := ⟨RX0, "namesDiffer", "(LBuddyFiles$Home;)Z"⟩
abbrev cX0_extentsAreRuns : ByteArray := prog_2_method_7_code
def yX0_extentsAreRuns : MethodName := ⟨RX0, "extentsAreRuns", "(LBuddyFiles$Home;)Z"⟩
abbrev cX0_runsAreApart : ByteArray := prog_2_method_8_code
def yX0_runsAreApart : MethodName := ⟨RX0, "runsAreApart", "(LBuddyFiles$Home;)Z"⟩
abbrev cX0_runsFitLengths : ByteArray := prog_2_method_9_code
def yX0_runsFitLengths : MethodName := ⟨RX0, "runsFitLengths", "(LBuddyFiles$Home;)Z"⟩
abbrev cX0_bitsOfAllRuns : ByteArray := prog_2_method_10_code
def yX0_bitsOfAllRuns : MethodName := ⟨RX0, "bitsOfAllRuns", "(LBuddyFiles$Home;)I"⟩
abbrev cX0_quotasCoverUsage : ByteArray := prog_2_method_11_code
def yX0_quotasCoverUsage : MethodName := ⟨RX0, "quotasCoverUsage", "(LBuddyFiles$Home;)Z"⟩
abbrev cX0_looseWordsAreZero : ByteArray := prog_2_method_12_code
def yX0_looseWordsAreZero : MethodName := ⟨RX0, "looseWordsAreZero", "(LBuddyFiles$Home;)Z"⟩
abbrev cX0_bitsOfWords : ByteArray := prog_2_method_13_code
def yX0_bitsOfWords : MethodName := ⟨RX0, "bitsOfWords", "(LBuddyFiles$Home;I)J"⟩
def RX1 : String := "BuddyFiles$Disk"
def TX1 : u_T := fun k => match k with
  | _ => ("BuddyFiles$Disk", "cells", "[I", true)
def tyX1 : Nat → FieldType := fun k => match k with
  | _ => .array .int
abbrev wsX10 : List Cond := u_ws RX1 TX1 1
theorem nmX1 : ∀ a, a < 1 → ∀ b, b < 1 → a ≠ b → (TX1 a).2.1 ≠ (TX1 b).2.1 := by decide +kernel
theorem tyX1_ok : ∀ k, k < 1 → parseFieldDescriptor (TX1 k).2.2.1 = some (tyX1 k) := by decide +kernel
abbrev cX1_init : ByteArray := prog_3_method_1_code
def yX1_init : MethodName := ⟨RX1, "<init>", "()V"⟩
abbrev cX1_clear : ByteArray := prog_3_method_2_code
def yX1_clear : MethodName := ⟨RX1, "clear", "()V"⟩
abbrev cX1_journalHolds : ByteArray := prog_3_method_3_code
def yX1_journalHolds : MethodName := ⟨RX1, "journalHolds", "()Z"⟩
abbrev cX1_nextCheck : ByteArray := prog_3_method_4_code
def yX1_nextCheck : MethodName := ⟨RX1, "nextCheck", "(III)I"⟩
abbrev cX1_replayJournal : ByteArray := prog_3_method_5_code
def yX1_replayJournal : MethodName := ⟨RX1, "replayJournal", "()V"⟩
abbrev cX1_replayInto : ByteArray := prog_3_method_6_code
def yX1_replayInto : MethodName := ⟨RX1, "replayInto", "([I)V"⟩
def RX2 : String := "BuddyFiles$Home"
def TX2 : u_T := fun k => match k with
  | _ => ("BuddyFiles$Home", "cells", "[I", true)
def tyX2 : Nat → FieldType := fun k => match k with
  | _ => .array .int
abbrev wsX20 : List Cond := u_ws RX2 TX2 1
theorem nmX2 : ∀ a, a < 1 → ∀ b, b < 1 → a ≠ b → (TX2 a).2.1 ≠ (TX2 b).2.1 := by decide +kernel
theorem tyX2_ok : ∀ k, k < 1 → parseFieldDescriptor (TX2 k).2.2.1 = some (tyX2 k) := by decide +kernel
abbrev cX2_init : ByteArray := prog_4_method_1_code
def yX2_init : MethodName := ⟨RX2, "<init>", "()V"⟩
abbrev cX2_copyFrom : ByteArray := prog_4_method_2_code
def yX2_copyFrom : MethodName := ⟨RX2, "copyFrom", "([I)V"⟩
abbrev cX2_nameOf : ByteArray := prog_4_method_3_code
def yX2_nameOf : MethodName := ⟨RX2, "nameOf", "(I)I"⟩
abbrev cX2_ownerOf : ByteArray := prog_4_method_4_code
def yX2_ownerOf : MethodName := ⟨RX2, "ownerOf", "(I)I"⟩
abbrev cX2_lengthOf : ByteArray := prog_4_method_5_code
def yX2_lengthOf : MethodName := ⟨RX2, "lengthOf", "(I)I"⟩
abbrev cX2_extentOf : ByteArray := prog_4_method_6_code
def yX2_extentOf : MethodName := ⟨RX2, "extentOf", "(II)I"⟩
abbrev cX2_quotaOf : ByteArray := prog_4_method_7_code
def yX2_quotaOf : MethodName := ⟨RX2, "quotaOf", "(I)I"⟩
abbrev cX2_putLength : ByteArray := prog_4_method_8_code
def yX2_putLength : MethodName := ⟨RX2, "putLength", "(II)V"⟩
abbrev cX2_putExtent : ByteArray := prog_4_method_9_code
def yX2_putExtent : MethodName := ⟨RX2, "putExtent", "(III)V"⟩
abbrev cX2_putQuota : ByteArray := prog_4_method_10_code
def yX2_putQuota : MethodName := ⟨RX2, "putQuota", "(II)V"⟩
abbrev cX2_slotOf : ByteArray := prog_4_method_11_code
def yX2_slotOf : MethodName := ⟨RX2, "slotOf", "(I)I"⟩
abbrev cX2_emptySlot : ByteArray := prog_4_method_12_code
def yX2_emptySlot : MethodName := ⟨RX2, "emptySlot", "()I"⟩
abbrev cX2_nameFile : ByteArray := prog_4_method_13_code
def yX2_nameFile : MethodName := ⟨RX2, "nameFile", "(II)V"⟩
abbrev cX2_makeFile : ByteArray := prog_4_method_14_code
def yX2_makeFile : MethodName := ⟨RX2, "makeFile", "(III)V"⟩
abbrev cX2_dropFile : ByteArray := prog_4_method_15_code
def yX2_dropFile : MethodName := ⟨RX2, "dropFile", "(I)V"⟩
abbrev cX2_runsOf : ByteArray := prog_4_method_16_code
def yX2_runsOf : MethodName := ⟨RX2, "runsOf", "(I)I"⟩
abbrev cX2_blocksOf : ByteArray := prog_4_method_17_code
def yX2_blocksOf : MethodName := ⟨RX2, "blocksOf", "(I)I"⟩
abbrev cX2_usageOf : ByteArray := prog_4_method_18_code
def yX2_usageOf : MethodName := ⟨RX2, "usageOf", "(I)I"⟩
abbrev cX2_wordIndex : ByteArray := prog_4_method_19_code
def yX2_wordIndex : MethodName := ⟨RX2, "wordIndex", "(II)I"⟩
abbrev cX2_wordAt : ByteArray := prog_4_method_20_code
def yX2_wordAt : MethodName := ⟨RX2, "wordAt", "(II)I"⟩
abbrev cX2_putWord : ByteArray := prog_4_method_21_code
def yX2_putWord : MethodName := ⟨RX2, "putWord", "(III)V"⟩
abbrev cX2_needOf : ByteArray := prog_4_method_22_code
def yX2_needOf : MethodName := ⟨RX2, "needOf", "(I)I"⟩
abbrev cX2_grow : ByteArray := prog_4_method_23_code
def yX2_grow : MethodName := ⟨RX2, "grow", "(II)I"⟩
abbrev cX2_takeRuns : ByteArray := prog_4_method_24_code
def yX2_takeRuns : MethodName := ⟨RX2, "takeRuns", "(III)I"⟩
abbrev cX2_takeRunFor : ByteArray := prog_4_method_25_code
def yX2_takeRunFor : MethodName := ⟨RX2, "takeRunFor", "(I)I"⟩
abbrev cX2_orderFor : ByteArray := prog_4_method_26_code
def yX2_orderFor : MethodName := ⟨RX2, "orderFor", "(I)I"⟩
abbrev cX2_takeRun : ByteArray := prog_4_method_27_code
def yX2_takeRun : MethodName := ⟨RX2, "takeRun", "(I)I"⟩
abbrev cX2_freeRunsOf : ByteArray := prog_4_method_28_code
def yX2_freeRunsOf : MethodName := ⟨RX2, "freeRunsOf", "(I)I"⟩
abbrev cX2_isFreeRun : ByteArray := prog_4_method_29_code
def yX2_isFreeRun : MethodName := ⟨RX2, "isFreeRun", "(II)Z"⟩
abbrev cX2_shrink : ByteArray := prog_4_method_30_code
def yX2_shrink : MethodName := ⟨RX2, "shrink", "(II)V"⟩
abbrev cX2_giveBackRuns : ByteArray := prog_4_method_31_code
def yX2_giveBackRuns : MethodName := ⟨RX2, "giveBackRuns", "(II)V"⟩
def RX3 : String := "BuddyFiles$Run"
def TX3 : u_T := fun k => match k with
  | _ => ("", "", "", false)
def tyX3 : Nat → FieldType := fun k => match k with
  | _ => .int
abbrev wsX30 : List Cond := u_ws RX3 TX3 0
theorem nmX3 : ∀ a, a < 0 → ∀ b, b < 0 → a ≠ b → (TX3 a).2.1 ≠ (TX3 b).2.1 := by decide +kernel
theorem tyX3_ok : ∀ k, k < 0 → parseFieldDescriptor (TX3 k).2.2.1 = some (tyX3 k) := by decide +kernel
abbrev cX3_cellOf : ByteArray := prog_5_method_2_code
def yX3_cellOf : MethodName := ⟨RX3, "cellOf", "(II)I"⟩
abbrev cX3_firstOf : ByteArray := prog_5_method_3_code
def yX3_firstOf : MethodName := ⟨RX3, "firstOf", "(I)I"⟩
abbrev cX3_orderOf : ByteArray := prog_5_method_4_code
def yX3_orderOf : MethodName := ⟨RX3, "orderOf", "(I)I"⟩
abbrev cX3_blocksOf : ByteArray := prog_5_method_5_code
def yX3_blocksOf : MethodName := ⟨RX3, "blocksOf", "(I)I"⟩
abbrev cX3_isRun : ByteArray := prog_5_method_6_code
def yX3_isRun : MethodName := ⟨RX3, "isRun", "(I)Z"⟩
abbrev cX3_bitsOf : ByteArray := prog_5_method_7_code
def yX3_bitsOf : MethodName := ⟨RX3, "bitsOf", "(I)I"⟩
abbrev cX3_mapBits : ByteArray := prog_5_method_8_code
def yX3_mapBits : MethodName := ⟨RX3, "mapBits", "(II)I"⟩
def RX4 : String := "BuddyFiles"
def TX4 : u_T := fun k => match k with
  | 0 => ("BuddyFiles", "disk", "LBuddyFiles$Disk;", true)
  | 1 => ("BuddyFiles", "memory", "LBuddyFiles$Home;", true)
  | 2 => ("BuddyFiles", "judged", "LBuddyFiles$Home;", true)
  | 3 => ("BuddyFiles", "slotOfHandle", "[I", true)
  | 4 => ("BuddyFiles", "up", "Z", false)
  | _ => ("BuddyFiles", "fuse", "I", false)
def tyX4 : Nat → FieldType := fun k => match k with
  | 0 => .object "BuddyFiles$Disk"
  | 1 => .object "BuddyFiles$Home"
  | 2 => .object "BuddyFiles$Home"
  | 3 => .array .int
  | 4 => .boolean
  | _ => .int
abbrev wsX40 : List Cond := u_ws RX4 TX4 6
theorem nmX4 : ∀ a, a < 6 → ∀ b, b < 6 → a ≠ b → (TX4 a).2.1 ≠ (TX4 b).2.1 := by decide +kernel
theorem tyX4_ok : ∀ k, k < 6 → parseFieldDescriptor (TX4 k).2.2.1 = some (tyX4 k) := by decide +kernel
abbrev cX4_init : ByteArray := prog_1_method_1_code
def yX4_init : MethodName := ⟨RX4, "<init>", "()V"⟩
abbrev cX4_format : ByteArray := prog_1_method_2_code
def yX4_format : MethodName := ⟨RX4, "format", "()V"⟩
abbrev cX4_create : ByteArray := prog_1_method_3_code
def yX4_create : MethodName := ⟨RX4, "create", "(II)I"⟩
abbrev cX4_unlink : ByteArray := prog_1_method_4_code
def yX4_unlink : MethodName := ⟨RX4, "unlink", "(I)I"⟩
abbrev cX4_open : ByteArray := prog_1_method_5_code
def yX4_open : MethodName := ⟨RX4, "open", "(I)I"⟩
abbrev cX4_close : ByteArray := prog_1_method_6_code
def yX4_close : MethodName := ⟨RX4, "close", "(I)I"⟩
abbrev cX4_write : ByteArray := prog_1_method_7_code
def yX4_write : MethodName := ⟨RX4, "write", "(III)I"⟩
abbrev cX4_read : ByteArray := prog_1_method_8_code
def yX4_read : MethodName := ⟨RX4, "read", "(II)I"⟩
abbrev cX4_truncate : ByteArray := prog_1_method_9_code
def yX4_truncate : MethodName := ⟨RX4, "truncate", "(II)I"⟩
abbrev cX4_length : ByteArray := prog_1_method_10_code
def yX4_length : MethodName := ⟨RX4, "length", "(I)I"⟩
abbrev cX4_extent : ByteArray := prog_1_method_11_code
def yX4_extent : MethodName := ⟨RX4, "extent", "(II)I"⟩
abbrev cX4_rename : ByteArray := prog_1_method_12_code
def yX4_rename : MethodName := ⟨RX4, "rename", "(II)I"⟩
abbrev cX4_setQuota : ByteArray := prog_1_method_13_code
def yX4_setQuota : MethodName := ⟨RX4, "setQuota", "(II)I"⟩
abbrev cX4_usage : ByteArray := prog_1_method_14_code
def yX4_usage : MethodName := ⟨RX4, "usage", "(I)I"⟩
abbrev cX4_free : ByteArray := prog_1_method_15_code
def yX4_free : MethodName := ⟨RX4, "free", "(I)I"⟩
abbrev cX4_sync : ByteArray := prog_1_method_16_code
def yX4_sync : MethodName := ⟨RX4, "sync", "()I"⟩
abbrev cX4_crashAfter : ByteArray := prog_1_method_17_code
def yX4_crashAfter : MethodName := ⟨RX4, "crashAfter", "(I)Z"⟩
abbrev cX4_mount : ByteArray := prog_1_method_18_code
def yX4_mount : MethodName := ⟨RX4, "mount", "()I"⟩
abbrev cX4_corrupt : ByteArray := prog_1_method_19_code
def yX4_corrupt : MethodName := ⟨RX4, "corrupt", "(II)Z"⟩
abbrev cX4_fsck : ByteArray := prog_1_method_20_code
def yX4_fsck : MethodName := ⟨RX4, "fsck", "()I"⟩
abbrev cX4_peek : ByteArray := prog_1_method_21_code
def yX4_peek : MethodName := ⟨RX4, "peek", "(I)I"⟩
abbrev cX4_startAfresh : ByteArray := prog_1_method_22_code
def yX4_startAfresh : MethodName := ⟨RX4, "startAfresh", "()V"⟩
abbrev cX4_goUp : ByteArray := prog_1_method_23_code
def yX4_goUp : MethodName := ⟨RX4, "goUp", "()V"⟩
abbrev cX4_closedHandle : ByteArray := prog_1_method_24_code
def yX4_closedHandle : MethodName := ⟨RX4, "closedHandle", "()I"⟩
abbrev cX4_isOpen : ByteArray := prog_1_method_25_code
def yX4_isOpen : MethodName := ⟨RX4, "isOpen", "(I)Z"⟩
abbrev cX4_isInUse : ByteArray := prog_1_method_26_code
def yX4_isInUse : MethodName := ⟨RX4, "isInUse", "(I)Z"⟩
abbrev cX4_isName : ByteArray := prog_1_method_27_code
def yX4_isName : MethodName := ⟨RX4, "isName", "(I)Z"⟩
abbrev cX4_isOwner : ByteArray := prog_1_method_28_code
def yX4_isOwner : MethodName := ⟨RX4, "isOwner", "(I)Z"⟩
abbrev cX4_isChanged : ByteArray := prog_1_method_29_code
def yX4_isChanged : MethodName := ⟨RX4, "isChanged", "(I)Z"⟩
abbrev cX4_countChanges : ByteArray := prog_1_method_30_code
def yX4_countChanges : MethodName := ⟨RX4, "countChanges", "()I"⟩
abbrev cX4_writeJournal : ByteArray := prog_1_method_31_code
def yX4_writeJournal : MethodName := ⟨RX4, "writeJournal", "(I)Z"⟩
abbrev cX4_writeHome : ByteArray := prog_1_method_32_code
def yX4_writeHome : MethodName := ⟨RX4, "writeHome", "()Z"⟩
abbrev cX4_writeCell : ByteArray := prog_1_method_33_code
def yX4_writeCell : MethodName := ⟨RX4, "writeCell", "(II)Z"⟩
def RX5 : String := "BuddyFilesModel"
def TX5 : u_T := fun k => match k with
  | 0 => ("BuddyFilesModel", "disk", "[I", false)
  | 1 => ("BuddyFilesModel", "up", "Z", false)
  | 2 => ("BuddyFilesModel", "fuse", "I", false)
  | 3 => ("BuddyFilesModel", "mem", "[I", false)
  | 4 => ("BuddyFilesModel", "handle", "[I", false)
  | 5 => ("BuddyFilesModel", "home", "[I", false)
  | 6 => ("BuddyFilesModel", "times", "[I", false)
  | 7 => ("BuddyFilesModel", "belongs", "[Z", false)
  | 8 => ("BuddyFilesModel", "tryMap", "I", false)
  | 9 => ("BuddyFilesModel", "tryCount", "I", false)
  | 10 => ("BuddyFilesModel", "tryExtent", "[I", false)
  | _ => ("BuddyFilesModel", "changed", "[I", false)
def tyX5 : Nat → FieldType := fun k => match k with
  | 0 => .array .int
  | 1 => .boolean
  | 2 => .int
  | 3 => .array .int
  | 4 => .array .int
  | 5 => .array .int
  | 6 => .array .int
  | 7 => .array .boolean
  | 8 => .int
  | 9 => .int
  | 10 => .array .int
  | _ => .array .int
abbrev wsX50 : List Cond := u_ws RX5 TX5 12
theorem nmX5 : ∀ a, a < 12 → ∀ b, b < 12 → a ≠ b → (TX5 a).2.1 ≠ (TX5 b).2.1 := by decide +kernel
theorem tyX5_ok : ∀ k, k < 12 → parseFieldDescriptor (TX5 k).2.2.1 = some (tyX5 k) := by decide +kernel
abbrev cX5_init : ByteArray := prog_7_method_1_code
def yX5_init : MethodName := ⟨RX5, "<init>", "()V"⟩
abbrev cX5_within : ByteArray := prog_7_method_2_code
def yX5_within : MethodName := ⟨RX5, "within", "(III)Z"⟩
abbrev cX5_format : ByteArray := prog_7_method_3_code
def yX5_format : MethodName := ⟨RX5, "format", "()V"⟩
abbrev cX5_start : ByteArray := prog_7_method_4_code
def yX5_start : MethodName := ⟨RX5, "start", "(I)I"⟩
abbrev cX5_order : ByteArray := prog_7_method_5_code
def yX5_order : MethodName := ⟨RX5, "order", "(I)I"⟩
abbrev cX5_size : ByteArray := prog_7_method_6_code
def yX5_size : MethodName := ⟨RX5, "size", "(I)I"⟩
abbrev cX5_isRun : ByteArray := prog_7_method_7_code
def yX5_isRun : MethodName := ⟨RX5, "isRun", "(I)Z"⟩
abbrev cX5_allFree : ByteArray := prog_7_method_8_code
def yX5_allFree : MethodName := ⟨RX5, "allFree", "(III)Z"⟩
abbrev cX5_isFree : ByteArray := prog_7_method_9_code
def yX5_isFree : MethodName := ⟨RX5, "isFree", "(III)Z"⟩
abbrev cX5_countFree : ByteArray := prog_7_method_10_code
def yX5_countFree : MethodName := ⟨RX5, "countFree", "(II)I"⟩
abbrev cX5_place : ByteArray := prog_7_method_11_code
def yX5_place : MethodName := ⟨RX5, "place", "(II)I"⟩
abbrev cX5_bits : ByteArray := prog_7_method_12_code
def yX5_bits : MethodName := ⟨RX5, "bits", "(II)I"⟩
abbrev cX5_extentOf : ByteArray := prog_7_method_13_code
def yX5_extentOf : MethodName := ⟨RX5, "extentOf", "(II)I"⟩
abbrev cX5_blocks : ByteArray := prog_7_method_14_code
def yX5_blocks : MethodName := ⟨RX5, "blocks", "(I)I"⟩
abbrev cX5_runs : ByteArray := prog_7_method_15_code
def yX5_runs : MethodName := ⟨RX5, "runs", "(I)I"⟩
abbrev cX5_used : ByteArray := prog_7_method_16_code
def yX5_used : MethodName := ⟨RX5, "used", "(I)I"⟩
abbrev cX5_slotOf : ByteArray := prog_7_method_17_code
def yX5_slotOf : MethodName := ⟨RX5, "slotOf", "(I)I"⟩
abbrev cX5_wordCell : ByteArray := prog_7_method_18_code
def yX5_wordCell : MethodName := ⟨RX5, "wordCell", "(II)I"⟩
abbrev cX5_tryGrow : ByteArray := prog_7_method_19_code
def yX5_tryGrow : MethodName := ⟨RX5, "tryGrow", "(II)I"⟩
abbrev cX5_grow : ByteArray := prog_7_method_20_code
def yX5_grow : MethodName := ⟨RX5, "grow", "(II)I"⟩
abbrev cX5_giveBack : ByteArray := prog_7_method_21_code
def yX5_giveBack : MethodName := ⟨RX5, "giveBack", "(I)V"⟩
abbrev cX5_shrink : ByteArray := prog_7_method_22_code
def yX5_shrink : MethodName := ⟨RX5, "shrink", "(II)V"⟩
abbrev cX5_takeAway : ByteArray := prog_7_method_23_code
def yX5_takeAway : MethodName := ⟨RX5, "takeAway", "(I)V"⟩
abbrev cX5_isOpen : ByteArray := prog_7_method_24_code
def yX5_isOpen : MethodName := ⟨RX5, "isOpen", "(I)Z"⟩
abbrev cX5_create : ByteArray := prog_7_method_25_code
def yX5_create : MethodName := ⟨RX5, "create", "(II)I"⟩
abbrev cX5_unlink : ByteArray := prog_7_method_26_code
def yX5_unlink : MethodName := ⟨RX5, "unlink", "(I)I"⟩
abbrev cX5_rename : ByteArray := prog_7_method_27_code
def yX5_rename : MethodName := ⟨RX5, "rename", "(II)I"⟩
abbrev cX5_open : ByteArray := prog_7_method_28_code
def yX5_open : MethodName := ⟨RX5, "open", "(I)I"⟩
abbrev cX5_slotAt : ByteArray := prog_7_method_29_code
def yX5_slotAt : MethodName := ⟨RX5, "slotAt", "(I)I"⟩
abbrev cX5_close : ByteArray := prog_7_method_30_code
def yX5_close : MethodName := ⟨RX5, "close", "(I)I"⟩
abbrev cX5_write : ByteArray := prog_7_method_31_code
def yX5_write : MethodName := ⟨RX5, "write", "(III)I"⟩
abbrev cX5_read : ByteArray := prog_7_method_32_code
def yX5_read : MethodName := ⟨RX5, "read", "(II)I"⟩
abbrev cX5_truncate : ByteArray := prog_7_method_33_code
def yX5_truncate : MethodName := ⟨RX5, "truncate", "(II)I"⟩
abbrev cX5_length : ByteArray := prog_7_method_34_code
def yX5_length : MethodName := ⟨RX5, "length", "(I)I"⟩
abbrev cX5_extent : ByteArray := prog_7_method_35_code
def yX5_extent : MethodName := ⟨RX5, "extent", "(II)I"⟩
abbrev cX5_setQuota : ByteArray := prog_7_method_36_code
def yX5_setQuota : MethodName := ⟨RX5, "setQuota", "(II)I"⟩
abbrev cX5_usage : ByteArray := prog_7_method_37_code
def yX5_usage : MethodName := ⟨RX5, "usage", "(I)I"⟩
abbrev cX5_free : ByteArray := prog_7_method_38_code
def yX5_free : MethodName := ⟨RX5, "free", "(I)I"⟩
abbrev cX5_put : ByteArray := prog_7_method_39_code
def yX5_put : MethodName := ⟨RX5, "put", "(II)Z"⟩
abbrev cX5_sync : ByteArray := prog_7_method_40_code
def yX5_sync : MethodName := ⟨RX5, "sync", "()I"⟩
abbrev cX5_crashAfter : ByteArray := prog_7_method_41_code
def yX5_crashAfter : MethodName := ⟨RX5, "crashAfter", "(I)Z"⟩
abbrev cX5_holds : ByteArray := prog_7_method_42_code
def yX5_holds : MethodName := ⟨RX5, "holds", "()Z"⟩
abbrev cX5_fetch : ByteArray := prog_7_method_43_code
def yX5_fetch : MethodName := ⟨RX5, "fetch", "()V"⟩
abbrev cX5_slotsRight : ByteArray := prog_7_method_44_code
def yX5_slotsRight : MethodName := ⟨RX5, "slotsRight", "()Z"⟩
abbrev cX5_namesRight : ByteArray := prog_7_method_45_code
def yX5_namesRight : MethodName := ⟨RX5, "namesRight", "()Z"⟩
abbrev cX5_extentsRight : ByteArray := prog_7_method_46_code
def yX5_extentsRight : MethodName := ⟨RX5, "extentsRight", "()Z"⟩
abbrev cX5_blocksRight : ByteArray := prog_7_method_47_code
def yX5_blocksRight : MethodName := ⟨RX5, "blocksRight", "()Z"⟩
abbrev cX5_needsRight : ByteArray := prog_7_method_48_code
def yX5_needsRight : MethodName := ⟨RX5, "needsRight", "()Z"⟩
abbrev cX5_mapRight : ByteArray := prog_7_method_49_code
def yX5_mapRight : MethodName := ⟨RX5, "mapRight", "()Z"⟩
abbrev cX5_quotasRight : ByteArray := prog_7_method_50_code
def yX5_quotasRight : MethodName := ⟨RX5, "quotasRight", "()Z"⟩
abbrev cX5_wordsRight : ByteArray := prog_7_method_51_code
def yX5_wordsRight : MethodName := ⟨RX5, "wordsRight", "()Z"⟩
abbrev cX5_judge : ByteArray := prog_7_method_52_code
def yX5_judge : MethodName := ⟨RX5, "judge", "()I"⟩
abbrev cX5_mount : ByteArray := prog_7_method_53_code
def yX5_mount : MethodName := ⟨RX5, "mount", "()I"⟩
abbrev cX5_corrupt : ByteArray := prog_7_method_54_code
def yX5_corrupt : MethodName := ⟨RX5, "corrupt", "(II)Z"⟩
abbrev cX5_fsck : ByteArray := prog_7_method_55_code
def yX5_fsck : MethodName := ⟨RX5, "fsck", "()I"⟩
abbrev cX5_peek : ByteArray := prog_7_method_56_code
def yX5_peek : MethodName := ⟨RX5, "peek", "(I)I"⟩
def RJ10 : String := "java/lang/System"
def TJ10 : u_T := fun k => match k with
  | _ => ("", "", "", false)
def tyJ10 : Nat → FieldType := fun k => match k with
  | _ => .int
abbrev wsJ100 : List Cond := u_ws RJ10 TJ10 0
theorem nmJ10 : ∀ a, a < 0 → ∀ b, b < 0 → a ≠ b → (TJ10 a).2.1 ≠ (TJ10 b).2.1 := by decide +kernel
theorem tyJ10_ok : ∀ k, k < 0 → parseFieldDescriptor (TJ10 k).2.2.1 = some (tyJ10 k) := by decide +kernel
def RL : String := "BuddyFilesLaw"
abbrev cL_law : ByteArray := code
def yL_law : MethodName := ⟨RL, "law", "([I)Z"⟩
def wsX2_nameOf : List Cond := .code yX2_nameOf cX2_nameOf 2 (some .int) :: ([.fieldLink RX2 9 "BuddyFiles$Home" "cells" "[I"] ++ wsX20)
def wsX0_isIn : List Cond := .code yX0_isIn cX0_isIn 3 (some .boolean) :: ([])
def wsX2_ownerOf : List Cond := .code yX2_ownerOf cX2_ownerOf 2 (some .int) :: ([.fieldLink RX2 9 "BuddyFiles$Home" "cells" "[I"] ++ wsX20)
def wsX2_lengthOf : List Cond := .code yX2_lengthOf cX2_lengthOf 2 (some .int) :: ([.fieldLink RX2 9 "BuddyFiles$Home" "cells" "[I"] ++ wsX20)
def wsX0_isAllZero : List Cond := .code yX0_isAllZero cX0_isAllZero 3 (some .boolean) :: ([.fieldLink RX0 27 "BuddyFiles$Home" "cells" "[I"] ++ wsX20)
def wsX0_slotsAreInRange : List Cond := .code yX0_slotsAreInRange cX0_slotsAreInRange 2 (some .boolean) :: ([.methodLink RX0 43 yX2_nameOf, .instanceMethod yX2_nameOf, .selects RX2 yX2_nameOf yX2_nameOf, .initialized RX2, .code yX2_nameOf cX2_nameOf 2 (some .int), .fieldLink RX2 9 "BuddyFiles$Home" "cells" "[I", .methodLink RX0 47 yX0_isIn, .static yX0_isIn, .initialized RX0, .code yX0_isIn cX0_isIn 3 (some .boolean), .methodLink RX0 51 yX2_ownerOf, .instanceMethod yX2_ownerOf, .selects RX2 yX2_ownerOf yX2_ownerOf, .code yX2_ownerOf cX2_ownerOf 2 (some .int), .methodLink RX0 54 yX2_lengthOf, .instanceMethod yX2_lengthOf, .selects RX2 yX2_lengthOf yX2_lengthOf, .code yX2_lengthOf cX2_lengthOf 2 (some .int), .methodLink RX0 57 yX0_isAllZero, .static yX0_isAllZero, .code yX0_isAllZero cX0_isAllZero 3 (some .boolean), .fieldLink RX0 27 "BuddyFiles$Home" "cells" "[I"] ++ wsX20)
def wsX0_namesDiffer : List Cond := .code yX0_namesDiffer cX0_namesDiffer 3 (some .boolean) :: ([.methodLink RX0 43 yX2_nameOf, .instanceMethod yX2_nameOf, .selects RX2 yX2_nameOf yX2_nameOf, .initialized RX2, .code yX2_nameOf cX2_nameOf 2 (some .int), .fieldLink RX2 9 "BuddyFiles$Home" "cells" "[I"] ++ wsX20)
def wsX2_extentOf : List Cond := .code yX2_extentOf cX2_extentOf 3 (some .int) :: ([.fieldLink RX2 9 "BuddyFiles$Home" "cells" "[I"] ++ wsX20)
def wsX3_cellOf : List Cond := .code yX3_cellOf cX3_cellOf 2 (some .int) :: ([])
def wsX3_firstOf : List Cond := .code yX3_firstOf cX3_firstOf 1 (some .int) :: ([])
def wsX3_orderOf : List Cond := .code yX3_orderOf cX3_orderOf 1 (some .int) :: ([])
def wsX3_blocksOf : List Cond := .code yX3_blocksOf cX3_blocksOf 1 (some .int) :: ([.methodLink RX3 9 yX3_orderOf, .static yX3_orderOf, .initialized RX3, .code yX3_orderOf cX3_orderOf 1 (some .int)])
def wsX3_isRun : List Cond := .code yX3_isRun cX3_isRun 1 (some .boolean) :: ([.methodLink RX3 15 yX3_cellOf, .static yX3_cellOf, .initialized RX3, .code yX3_cellOf cX3_cellOf 2 (some .int), .methodLink RX3 19 yX3_firstOf, .static yX3_firstOf, .code yX3_firstOf cX3_firstOf 1 (some .int), .methodLink RX3 22 yX3_blocksOf, .static yX3_blocksOf, .code yX3_blocksOf cX3_blocksOf 1 (some .int), .methodLink RX3 9 yX3_orderOf, .static yX3_orderOf, .code yX3_orderOf cX3_orderOf 1 (some .int)])
def wsX0_extentsAreRuns : List Cond := .code yX0_extentsAreRuns cX0_extentsAreRuns 5 (some .boolean) :: ([.methodLink RX0 61 yX2_extentOf, .instanceMethod yX2_extentOf, .selects RX2 yX2_extentOf yX2_extentOf, .initialized RX2, .code yX2_extentOf cX2_extentOf 3 (some .int), .fieldLink RX2 9 "BuddyFiles$Home" "cells" "[I", .methodLink RX0 65 yX3_isRun, .static yX3_isRun, .initialized RX3, .code yX3_isRun cX3_isRun 1 (some .boolean), .methodLink RX3 15 yX3_cellOf, .static yX3_cellOf, .code yX3_cellOf cX3_cellOf 2 (some .int), .methodLink RX3 19 yX3_firstOf, .static yX3_firstOf, .code yX3_firstOf cX3_firstOf 1 (some .int), .methodLink RX3 22 yX3_blocksOf, .static yX3_blocksOf, .code yX3_blocksOf cX3_blocksOf 1 (some .int), .methodLink RX3 9 yX3_orderOf, .static yX3_orderOf, .code yX3_orderOf cX3_orderOf 1 (some .int)] ++ wsX20)
def wsX3_mapBits : List Cond := .code yX3_mapBits cX3_mapBits 2 (some .int) :: ([])
def wsX3_bitsOf : List Cond := .code yX3_bitsOf cX3_bitsOf 1 (some .int) :: ([.methodLink RX3 19 yX3_firstOf, .static yX3_firstOf, .initialized RX3, .code yX3_firstOf cX3_firstOf 1 (some .int), .methodLink RX3 9 yX3_orderOf, .static yX3_orderOf, .code yX3_orderOf cX3_orderOf 1 (some .int), .methodLink RX3 25 yX3_mapBits, .static yX3_mapBits, .code yX3_mapBits cX3_mapBits 2 (some .int)])
def wsX0_runsAreApart : List Cond := .code yX0_runsAreApart cX0_runsAreApart 5 (some .boolean) :: ([.methodLink RX0 61 yX2_extentOf, .instanceMethod yX2_extentOf, .selects RX2 yX2_extentOf yX2_extentOf, .initialized RX2, .code yX2_extentOf cX2_extentOf 3 (some .int), .fieldLink RX2 9 "BuddyFiles$Home" "cells" "[I", .methodLink RX0 71 yX3_bitsOf, .static yX3_bitsOf, .initialized RX3, .code yX3_bitsOf cX3_bitsOf 1 (some .int), .methodLink RX3 19 yX3_firstOf, .static yX3_firstOf, .code yX3_firstOf cX3_firstOf 1 (some .int), .methodLink RX3 9 yX3_orderOf, .static yX3_orderOf, .code yX3_orderOf cX3_orderOf 1 (some .int), .methodLink RX3 25 yX3_mapBits, .static yX3_mapBits, .code yX3_mapBits cX3_mapBits 2 (some .int)] ++ wsX20)
def wsX2_needOf : List Cond := .code yX2_needOf cX2_needOf 1 (some .int) :: ([])
def wsX2_blocksOf : List Cond := .code yX2_blocksOf cX2_blocksOf 4 (some .int) :: ([.methodLink RX2 33 yX2_extentOf, .instanceMethod yX2_extentOf, .selects RX2 yX2_extentOf yX2_extentOf, .initialized RX2, .code yX2_extentOf cX2_extentOf 3 (some .int), .fieldLink RX2 9 "BuddyFiles$Home" "cells" "[I", .methodLink RX2 37 yX3_blocksOf, .static yX3_blocksOf, .initialized RX3, .code yX3_blocksOf cX3_blocksOf 1 (some .int), .methodLink RX3 9 yX3_orderOf, .static yX3_orderOf, .code yX3_orderOf cX3_orderOf 1 (some .int)] ++ wsX20)
def wsX2_runsOf : List Cond := .code yX2_runsOf cX2_runsOf 4 (some .int) :: ([.methodLink RX2 33 yX2_extentOf, .instanceMethod yX2_extentOf, .selects RX2 yX2_extentOf yX2_extentOf, .initialized RX2, .code yX2_extentOf cX2_extentOf 3 (some .int), .fieldLink RX2 9 "BuddyFiles$Home" "cells" "[I"] ++ wsX20)
def wsX0_runsFitLengths_r1 : List Cond := [Cond.methodLink RX0 54 yX2_lengthOf, Cond.instanceMethod yX2_lengthOf, Cond.selects RX2 yX2_lengthOf yX2_lengthOf, Cond.initialized RX2, Cond.code yX2_lengthOf cX2_lengthOf 2 (some .int), Cond.fieldLink RX2 9 "BuddyFiles$Home" "cells" "[I", Cond.methodLink RX0 74 yX2_needOf, Cond.static yX2_needOf, Cond.code yX2_needOf cX2_needOf 1 (some .int), Cond.methodLink RX0 77 yX2_blocksOf, Cond.instanceMethod yX2_blocksOf, Cond.selects RX2 yX2_blocksOf yX2_blocksOf, Cond.code yX2_blocksOf cX2_blocksOf 4 (some .int), Cond.methodLink RX2 33 yX2_extentOf, Cond.instanceMethod yX2_extentOf, Cond.selects RX2 yX2_extentOf yX2_extentOf, Cond.code yX2_extentOf cX2_extentOf 3 (some .int), Cond.methodLink RX2 37 yX3_blocksOf, Cond.static yX3_blocksOf, Cond.initialized RX3, Cond.code yX3_blocksOf cX3_blocksOf 1 (some .int), Cond.methodLink RX3 9 yX3_orderOf, Cond.static yX3_orderOf, Cond.code yX3_orderOf cX3_orderOf 1 (some .int)]
def wsX0_runsFitLengths_r2 : List Cond := [Cond.methodLink RX0 80 yX2_runsOf, Cond.instanceMethod yX2_runsOf, Cond.selects RX2 yX2_runsOf yX2_runsOf, Cond.code yX2_runsOf cX2_runsOf 4 (some .int), Cond.methodLink RX0 61 yX2_extentOf, Cond.methodLink RX0 83 yX3_blocksOf]
def wsX0_runsFitLengths : List Cond := .code yX0_runsFitLengths cX0_runsFitLengths 5 (some .boolean) :: ((wsX0_runsFitLengths_r1 ++ wsX0_runsFitLengths_r2) ++ wsX20)
def wsX0_bitsOfAllRuns : List Cond := .code yX0_bitsOfAllRuns cX0_bitsOfAllRuns 4 (some .int) :: ([.methodLink RX0 61 yX2_extentOf, .instanceMethod yX2_extentOf, .selects RX2 yX2_extentOf yX2_extentOf, .initialized RX2, .code yX2_extentOf cX2_extentOf 3 (some .int), .fieldLink RX2 9 "BuddyFiles$Home" "cells" "[I", .methodLink RX0 71 yX3_bitsOf, .static yX3_bitsOf, .initialized RX3, .code yX3_bitsOf cX3_bitsOf 1 (some .int), .methodLink RX3 19 yX3_firstOf, .static yX3_firstOf, .code yX3_firstOf cX3_firstOf 1 (some .int), .methodLink RX3 9 yX3_orderOf, .static yX3_orderOf, .code yX3_orderOf cX3_orderOf 1 (some .int), .methodLink RX3 25 yX3_mapBits, .static yX3_mapBits, .code yX3_mapBits cX3_mapBits 2 (some .int)] ++ wsX20)
def wsX2_quotaOf : List Cond := .code yX2_quotaOf cX2_quotaOf 2 (some .int) :: ([.fieldLink RX2 9 "BuddyFiles$Home" "cells" "[I"] ++ wsX20)
def wsX2_usageOf : List Cond := .code yX2_usageOf cX2_usageOf 4 (some .int) :: ([.methodLink RX2 42 yX2_ownerOf, .instanceMethod yX2_ownerOf, .selects RX2 yX2_ownerOf yX2_ownerOf, .initialized RX2, .code yX2_ownerOf cX2_ownerOf 2 (some .int), .fieldLink RX2 9 "BuddyFiles$Home" "cells" "[I", .methodLink RX2 45 yX2_blocksOf, .instanceMethod yX2_blocksOf, .selects RX2 yX2_blocksOf yX2_blocksOf, .code yX2_blocksOf cX2_blocksOf 4 (some .int), .methodLink RX2 33 yX2_extentOf, .instanceMethod yX2_extentOf, .selects RX2 yX2_extentOf yX2_extentOf, .code yX2_extentOf cX2_extentOf 3 (some .int), .methodLink RX2 37 yX3_blocksOf, .static yX3_blocksOf, .initialized RX3, .code yX3_blocksOf cX3_blocksOf 1 (some .int), .methodLink RX3 9 yX3_orderOf, .static yX3_orderOf, .code yX3_orderOf cX3_orderOf 1 (some .int)] ++ wsX20)
def wsX0_quotasCoverUsage_r1 : List Cond := [Cond.methodLink RX0 84 yX2_quotaOf, Cond.instanceMethod yX2_quotaOf, Cond.selects RX2 yX2_quotaOf yX2_quotaOf, Cond.initialized RX2, Cond.code yX2_quotaOf cX2_quotaOf 2 (some .int), Cond.fieldLink RX2 9 "BuddyFiles$Home" "cells" "[I", Cond.methodLink RX0 87 yX2_usageOf, Cond.instanceMethod yX2_usageOf, Cond.selects RX2 yX2_usageOf yX2_usageOf, Cond.code yX2_usageOf cX2_usageOf 4 (some .int), Cond.methodLink RX2 42 yX2_ownerOf, Cond.instanceMethod yX2_ownerOf, Cond.selects RX2 yX2_ownerOf yX2_ownerOf, Cond.code yX2_ownerOf cX2_ownerOf 2 (some .int), Cond.methodLink RX2 45 yX2_blocksOf, Cond.instanceMethod yX2_blocksOf, Cond.selects RX2 yX2_blocksOf yX2_blocksOf, Cond.code yX2_blocksOf cX2_blocksOf 4 (some .int), Cond.methodLink RX2 33 yX2_extentOf, Cond.instanceMethod yX2_extentOf, Cond.selects RX2 yX2_extentOf yX2_extentOf, Cond.code yX2_extentOf cX2_extentOf 3 (some .int), Cond.methodLink RX2 37 yX3_blocksOf, Cond.static yX3_blocksOf]
def wsX0_quotasCoverUsage_r2 : List Cond := [Cond.initialized RX3, Cond.code yX3_blocksOf cX3_blocksOf 1 (some .int), Cond.methodLink RX3 9 yX3_orderOf, Cond.static yX3_orderOf, Cond.code yX3_orderOf cX3_orderOf 1 (some .int), Cond.methodLink RX0 47 yX0_isIn, Cond.static yX0_isIn, Cond.initialized RX0, Cond.code yX0_isIn cX0_isIn 3 (some .boolean)]
def wsX0_quotasCoverUsage : List Cond := .code yX0_quotasCoverUsage cX0_quotasCoverUsage 2 (some .boolean) :: ((wsX0_quotasCoverUsage_r1 ++ wsX0_quotasCoverUsage_r2) ++ wsX20)
def wsX2_wordIndex : List Cond := .code yX2_wordIndex cX2_wordIndex 7 (some .int) :: ([.methodLink RX2 33 yX2_extentOf, .instanceMethod yX2_extentOf, .selects RX2 yX2_extentOf yX2_extentOf, .initialized RX2, .code yX2_extentOf cX2_extentOf 3 (some .int), .fieldLink RX2 9 "BuddyFiles$Home" "cells" "[I", .methodLink RX2 37 yX3_blocksOf, .static yX3_blocksOf, .initialized RX3, .code yX3_blocksOf cX3_blocksOf 1 (some .int), .methodLink RX3 9 yX3_orderOf, .static yX3_orderOf, .code yX3_orderOf cX3_orderOf 1 (some .int), .methodLink RX2 46 yX3_firstOf, .static yX3_firstOf, .code yX3_firstOf cX3_firstOf 1 (some .int)] ++ wsX20)
def wsX0_bitsOfWords : List Cond := .code yX0_bitsOfWords cX0_bitsOfWords 7 (some .long) :: ([.methodLink RX0 54 yX2_lengthOf, .instanceMethod yX2_lengthOf, .selects RX2 yX2_lengthOf yX2_lengthOf, .initialized RX2, .code yX2_lengthOf cX2_lengthOf 2 (some .int), .fieldLink RX2 9 "BuddyFiles$Home" "cells" "[I", .methodLink RX0 94 yX2_wordIndex, .instanceMethod yX2_wordIndex, .selects RX2 yX2_wordIndex yX2_wordIndex, .code yX2_wordIndex cX2_wordIndex 7 (some .int), .methodLink RX2 33 yX2_extentOf, .instanceMethod yX2_extentOf, .selects RX2 yX2_extentOf yX2_extentOf, .code yX2_extentOf cX2_extentOf 3 (some .int), .methodLink RX2 37 yX3_blocksOf, .static yX3_blocksOf, .initialized RX3, .code yX3_blocksOf cX3_blocksOf 1 (some .int), .methodLink RX3 9 yX3_orderOf, .static yX3_orderOf, .code yX3_orderOf cX3_orderOf 1 (some .int), .methodLink RX2 46 yX3_firstOf, .static yX3_firstOf, .code yX3_firstOf cX3_firstOf 1 (some .int)] ++ wsX20)
def wsX0_looseWordsAreZero_r1 : List Cond := [Cond.fieldLink RX0 27 "BuddyFiles$Home" "cells" "[I", Cond.methodLink RX0 90 yX0_bitsOfWords, Cond.static yX0_bitsOfWords, Cond.initialized RX0, Cond.code yX0_bitsOfWords cX0_bitsOfWords 7 (some .long), Cond.methodLink RX0 54 yX2_lengthOf, Cond.instanceMethod yX2_lengthOf, Cond.selects RX2 yX2_lengthOf yX2_lengthOf, Cond.initialized RX2, Cond.code yX2_lengthOf cX2_lengthOf 2 (some .int), Cond.fieldLink RX2 9 "BuddyFiles$Home" "cells" "[I", Cond.methodLink RX0 94 yX2_wordIndex, Cond.instanceMethod yX2_wordIndex, Cond.selects RX2 yX2_wordIndex yX2_wordIndex, Cond.code yX2_wordIndex cX2_wordIndex 7 (some .int), Cond.methodLink RX2 33 yX2_extentOf, Cond.instanceMethod yX2_extentOf, Cond.selects RX2 yX2_extentOf yX2_extentOf, Cond.code yX2_extentOf cX2_extentOf 3 (some .int), Cond.methodLink RX2 37 yX3_blocksOf, Cond.static yX3_blocksOf, Cond.initialized RX3, Cond.code yX3_blocksOf cX3_blocksOf 1 (some .int), Cond.methodLink RX3 9 yX3_orderOf]
def wsX0_looseWordsAreZero_r2 : List Cond := [Cond.static yX3_orderOf, Cond.code yX3_orderOf cX3_orderOf 1 (some .int), Cond.methodLink RX2 46 yX3_firstOf, Cond.static yX3_firstOf, Cond.code yX3_firstOf cX3_firstOf 1 (some .int)]
def wsX0_looseWordsAreZero : List Cond := .code yX0_looseWordsAreZero cX0_looseWordsAreZero 4 (some .boolean) :: ((wsX0_looseWordsAreZero_r1 ++ wsX0_looseWordsAreZero_r2) ++ wsX20)
def wsX0_leastBroken_r1 : List Cond := [Cond.fieldLink RX0 27 "BuddyFiles$Home" "cells" "[I", Cond.methodLink RX0 9 yX0_slotsAreInRange, Cond.static yX0_slotsAreInRange, Cond.initialized RX0, Cond.code yX0_slotsAreInRange cX0_slotsAreInRange 2 (some .boolean), Cond.methodLink RX0 43 yX2_nameOf, Cond.instanceMethod yX2_nameOf, Cond.selects RX2 yX2_nameOf yX2_nameOf, Cond.initialized RX2, Cond.code yX2_nameOf cX2_nameOf 2 (some .int), Cond.fieldLink RX2 9 "BuddyFiles$Home" "cells" "[I", Cond.methodLink RX0 47 yX0_isIn, Cond.static yX0_isIn, Cond.code yX0_isIn cX0_isIn 3 (some .boolean), Cond.methodLink RX0 51 yX2_ownerOf, Cond.instanceMethod yX2_ownerOf, Cond.selects RX2 yX2_ownerOf yX2_ownerOf, Cond.code yX2_ownerOf cX2_ownerOf 2 (some .int), Cond.methodLink RX0 54 yX2_lengthOf, Cond.instanceMethod yX2_lengthOf, Cond.selects RX2 yX2_lengthOf yX2_lengthOf, Cond.code yX2_lengthOf cX2_lengthOf 2 (some .int), Cond.methodLink RX0 57 yX0_isAllZero, Cond.static yX0_isAllZero]
def wsX0_leastBroken_r2 : List Cond := [Cond.code yX0_isAllZero cX0_isAllZero 3 (some .boolean), Cond.methodLink RX0 15 yX0_namesDiffer, Cond.static yX0_namesDiffer, Cond.code yX0_namesDiffer cX0_namesDiffer 3 (some .boolean), Cond.methodLink RX0 18 yX0_extentsAreRuns, Cond.static yX0_extentsAreRuns, Cond.code yX0_extentsAreRuns cX0_extentsAreRuns 5 (some .boolean), Cond.methodLink RX0 61 yX2_extentOf, Cond.instanceMethod yX2_extentOf, Cond.selects RX2 yX2_extentOf yX2_extentOf, Cond.code yX2_extentOf cX2_extentOf 3 (some .int), Cond.methodLink RX0 65 yX3_isRun, Cond.static yX3_isRun, Cond.initialized RX3, Cond.code yX3_isRun cX3_isRun 1 (some .boolean), Cond.methodLink RX3 15 yX3_cellOf, Cond.static yX3_cellOf, Cond.code yX3_cellOf cX3_cellOf 2 (some .int), Cond.methodLink RX3 19 yX3_firstOf, Cond.static yX3_firstOf, Cond.code yX3_firstOf cX3_firstOf 1 (some .int), Cond.methodLink RX3 22 yX3_blocksOf, Cond.static yX3_blocksOf, Cond.code yX3_blocksOf cX3_blocksOf 1 (some .int)]
def wsX0_leastBroken_r3 : List Cond := [Cond.methodLink RX3 9 yX3_orderOf, Cond.static yX3_orderOf, Cond.code yX3_orderOf cX3_orderOf 1 (some .int), Cond.methodLink RX0 21 yX0_runsAreApart, Cond.static yX0_runsAreApart, Cond.code yX0_runsAreApart cX0_runsAreApart 5 (some .boolean), Cond.methodLink RX0 71 yX3_bitsOf, Cond.static yX3_bitsOf, Cond.code yX3_bitsOf cX3_bitsOf 1 (some .int), Cond.methodLink RX3 25 yX3_mapBits, Cond.static yX3_mapBits, Cond.code yX3_mapBits cX3_mapBits 2 (some .int), Cond.methodLink RX0 24 yX0_runsFitLengths, Cond.static yX0_runsFitLengths, Cond.code yX0_runsFitLengths cX0_runsFitLengths 5 (some .boolean), Cond.methodLink RX0 74 yX2_needOf, Cond.static yX2_needOf, Cond.code yX2_needOf cX2_needOf 1 (some .int), Cond.methodLink RX0 77 yX2_blocksOf, Cond.instanceMethod yX2_blocksOf, Cond.selects RX2 yX2_blocksOf yX2_blocksOf, Cond.code yX2_blocksOf cX2_blocksOf 4 (some .int), Cond.methodLink RX2 33 yX2_extentOf, Cond.methodLink RX2 37 yX3_blocksOf]
def wsX0_leastBroken_r4 : List Cond := [Cond.methodLink RX0 80 yX2_runsOf, Cond.instanceMethod yX2_runsOf, Cond.selects RX2 yX2_runsOf yX2_runsOf, Cond.code yX2_runsOf cX2_runsOf 4 (some .int), Cond.methodLink RX0 83 yX3_blocksOf, Cond.methodLink RX0 33 yX0_bitsOfAllRuns, Cond.static yX0_bitsOfAllRuns, Cond.code yX0_bitsOfAllRuns cX0_bitsOfAllRuns 4 (some .int), Cond.methodLink RX0 37 yX0_quotasCoverUsage, Cond.static yX0_quotasCoverUsage, Cond.code yX0_quotasCoverUsage cX0_quotasCoverUsage 2 (some .boolean), Cond.methodLink RX0 84 yX2_quotaOf, Cond.instanceMethod yX2_quotaOf, Cond.selects RX2 yX2_quotaOf yX2_quotaOf, Cond.code yX2_quotaOf cX2_quotaOf 2 (some .int), Cond.methodLink RX0 87 yX2_usageOf, Cond.instanceMethod yX2_usageOf, Cond.selects RX2 yX2_usageOf yX2_usageOf, Cond.code yX2_usageOf cX2_usageOf 4 (some .int), Cond.methodLink RX2 42 yX2_ownerOf, Cond.methodLink RX2 45 yX2_blocksOf, Cond.methodLink RX0 40 yX0_looseWordsAreZero, Cond.static yX0_looseWordsAreZero, Cond.code yX0_looseWordsAreZero cX0_looseWordsAreZero 4 (some .boolean)]
def wsX0_leastBroken_r5 : List Cond := [Cond.methodLink RX0 90 yX0_bitsOfWords, Cond.static yX0_bitsOfWords, Cond.code yX0_bitsOfWords cX0_bitsOfWords 7 (some .long), Cond.methodLink RX0 94 yX2_wordIndex, Cond.instanceMethod yX2_wordIndex, Cond.selects RX2 yX2_wordIndex yX2_wordIndex, Cond.code yX2_wordIndex cX2_wordIndex 7 (some .int), Cond.methodLink RX2 46 yX3_firstOf]
def wsX0_leastBroken : List Cond := .code yX0_leastBroken cX0_leastBroken 1 (some .int) :: ((wsX0_leastBroken_r1 ++ (wsX0_leastBroken_r2 ++ (wsX0_leastBroken_r3 ++ (wsX0_leastBroken_r4 ++ wsX0_leastBroken_r5)))) ++ wsX20)
def wsX1_init : List Cond := .code yX1_init cX1_init 1 none :: ([.methodLink RX1 3 objectInit, .instanceMethod objectInit, .code objectInit ⟨#[0xb1]⟩ 1 none, .arrayClass .int, .fieldLink RX1 9 "BuddyFiles$Disk" "cells" "[I"] ++ wsX10)
def wsX1_clear : List Cond := .code yX1_clear cX1_clear 2 none :: ([.fieldLink RX1 9 "BuddyFiles$Disk" "cells" "[I"] ++ wsX10)
def wsX1_nextCheck : List Cond := .code yX1_nextCheck cX1_nextCheck 3 (some .int) :: ([])
def wsX1_journalHolds : List Cond := .code yX1_journalHolds cX1_journalHolds 6 (some .boolean) :: ([.fieldLink RX1 9 "BuddyFiles$Disk" "cells" "[I", .methodLink RX1 15 yX1_nextCheck, .static yX1_nextCheck, .initialized RX1, .code yX1_nextCheck cX1_nextCheck 3 (some .int)] ++ wsX10)
def wsX1_replayInto : List Cond := .code yX1_replayInto cX1_replayInto 4 none :: ([.fieldLink RX1 9 "BuddyFiles$Disk" "cells" "[I"] ++ wsX10)
def wsX1_replayJournal : List Cond := .code yX1_replayJournal cX1_replayJournal 1 none :: ([.fieldLink RX1 9 "BuddyFiles$Disk" "cells" "[I", .methodLink RX1 19 yX1_replayInto, .instanceMethod yX1_replayInto, .selects RX1 yX1_replayInto yX1_replayInto, .initialized RX1, .code yX1_replayInto cX1_replayInto 4 none] ++ wsX10)
def wsX2_init : List Cond := .code yX2_init cX2_init 1 none :: ([.methodLink RX2 3 objectInit, .instanceMethod objectInit, .code objectInit ⟨#[0xb1]⟩ 1 none, .arrayClass .int, .fieldLink RX2 9 "BuddyFiles$Home" "cells" "[I"] ++ wsX20)
def wsX2_copyFrom : List Cond := .code yX2_copyFrom cX2_copyFrom 2 none :: ([.fieldLink RX2 9 "BuddyFiles$Home" "cells" "[I", .methodLink RX2 15 arraycopyName, .native arraycopyName, .static arraycopyName, .initialized "java/lang/System"] ++ wsX20)
def wsX2_putLength : List Cond := .code yX2_putLength cX2_putLength 3 none :: ([.fieldLink RX2 9 "BuddyFiles$Home" "cells" "[I"] ++ wsX20)
def wsX2_putExtent : List Cond := .code yX2_putExtent cX2_putExtent 4 none :: ([.fieldLink RX2 9 "BuddyFiles$Home" "cells" "[I"] ++ wsX20)
def wsX2_putQuota : List Cond := .code yX2_putQuota cX2_putQuota 3 none :: ([.fieldLink RX2 9 "BuddyFiles$Home" "cells" "[I"] ++ wsX20)
def wsX2_slotOf : List Cond := .code yX2_slotOf cX2_slotOf 3 (some .int) :: ([.methodLink RX2 21 yX2_nameOf, .instanceMethod yX2_nameOf, .selects RX2 yX2_nameOf yX2_nameOf, .initialized RX2, .code yX2_nameOf cX2_nameOf 2 (some .int), .fieldLink RX2 9 "BuddyFiles$Home" "cells" "[I"] ++ wsX20)
def wsX2_emptySlot : List Cond := .code yX2_emptySlot cX2_emptySlot 2 (some .int) :: ([.methodLink RX2 21 yX2_nameOf, .instanceMethod yX2_nameOf, .selects RX2 yX2_nameOf yX2_nameOf, .initialized RX2, .code yX2_nameOf cX2_nameOf 2 (some .int), .fieldLink RX2 9 "BuddyFiles$Home" "cells" "[I"] ++ wsX20)
def wsX2_nameFile : List Cond := .code yX2_nameFile cX2_nameFile 3 none :: ([.fieldLink RX2 9 "BuddyFiles$Home" "cells" "[I"] ++ wsX20)
def wsX2_makeFile : List Cond := .code yX2_makeFile cX2_makeFile 4 none :: ([.fieldLink RX2 9 "BuddyFiles$Home" "cells" "[I"] ++ wsX20)
def wsX2_putWord : List Cond := .code yX2_putWord cX2_putWord 5 none :: ([.fieldLink RX2 9 "BuddyFiles$Home" "cells" "[I", .methodLink RX2 49 yX2_wordIndex, .instanceMethod yX2_wordIndex, .selects RX2 yX2_wordIndex yX2_wordIndex, .initialized RX2, .code yX2_wordIndex cX2_wordIndex 7 (some .int), .methodLink RX2 33 yX2_extentOf, .instanceMethod yX2_extentOf, .selects RX2 yX2_extentOf yX2_extentOf, .code yX2_extentOf cX2_extentOf 3 (some .int), .methodLink RX2 37 yX3_blocksOf, .static yX3_blocksOf, .initialized RX3, .code yX3_blocksOf cX3_blocksOf 1 (some .int), .methodLink RX3 9 yX3_orderOf, .static yX3_orderOf, .code yX3_orderOf cX3_orderOf 1 (some .int), .methodLink RX2 46 yX3_firstOf, .static yX3_firstOf, .code yX3_firstOf cX3_firstOf 1 (some .int)] ++ wsX20)
def wsX2_giveBackRuns_r1 : List Cond := [Cond.fieldLink RX2 9 "BuddyFiles$Home" "cells" "[I", Cond.methodLink RX2 45 yX2_blocksOf, Cond.instanceMethod yX2_blocksOf, Cond.selects RX2 yX2_blocksOf yX2_blocksOf, Cond.initialized RX2, Cond.code yX2_blocksOf cX2_blocksOf 4 (some .int), Cond.methodLink RX2 33 yX2_extentOf, Cond.instanceMethod yX2_extentOf, Cond.selects RX2 yX2_extentOf yX2_extentOf, Cond.code yX2_extentOf cX2_extentOf 3 (some .int), Cond.methodLink RX2 37 yX3_blocksOf, Cond.static yX3_blocksOf, Cond.initialized RX3, Cond.code yX3_blocksOf cX3_blocksOf 1 (some .int), Cond.methodLink RX3 9 yX3_orderOf, Cond.static yX3_orderOf, Cond.code yX3_orderOf cX3_orderOf 1 (some .int), Cond.methodLink RX2 52 yX2_runsOf, Cond.instanceMethod yX2_runsOf, Cond.selects RX2 yX2_runsOf yX2_runsOf, Cond.code yX2_runsOf cX2_runsOf 4 (some .int), Cond.methodLink RX2 102 yX3_bitsOf, Cond.static yX3_bitsOf, Cond.code yX3_bitsOf cX3_bitsOf 1 (some .int)]
def wsX2_giveBackRuns_r2 : List Cond := [Cond.methodLink RX3 19 yX3_firstOf, Cond.static yX3_firstOf, Cond.code yX3_firstOf cX3_firstOf 1 (some .int), Cond.methodLink RX3 25 yX3_mapBits, Cond.static yX3_mapBits, Cond.code yX3_mapBits cX3_mapBits 2 (some .int), Cond.methodLink RX2 71 yX2_putExtent, Cond.instanceMethod yX2_putExtent, Cond.selects RX2 yX2_putExtent yX2_putExtent, Cond.code yX2_putExtent cX2_putExtent 4 none]
def wsX2_giveBackRuns : List Cond := .code yX2_giveBackRuns cX2_giveBackRuns 6 none :: ((wsX2_giveBackRuns_r1 ++ wsX2_giveBackRuns_r2) ++ wsX20)
def wsX2_shrink_r1 : List Cond := [Cond.methodLink RX2 93 yX2_lengthOf, Cond.instanceMethod yX2_lengthOf, Cond.selects RX2 yX2_lengthOf yX2_lengthOf, Cond.initialized RX2, Cond.code yX2_lengthOf cX2_lengthOf 2 (some .int), Cond.fieldLink RX2 9 "BuddyFiles$Home" "cells" "[I", Cond.methodLink RX2 96 yX2_putWord, Cond.instanceMethod yX2_putWord, Cond.selects RX2 yX2_putWord yX2_putWord, Cond.code yX2_putWord cX2_putWord 5 none, Cond.methodLink RX2 49 yX2_wordIndex, Cond.instanceMethod yX2_wordIndex, Cond.selects RX2 yX2_wordIndex yX2_wordIndex, Cond.code yX2_wordIndex cX2_wordIndex 7 (some .int), Cond.methodLink RX2 33 yX2_extentOf, Cond.instanceMethod yX2_extentOf, Cond.selects RX2 yX2_extentOf yX2_extentOf, Cond.code yX2_extentOf cX2_extentOf 3 (some .int), Cond.methodLink RX2 37 yX3_blocksOf, Cond.static yX3_blocksOf, Cond.initialized RX3, Cond.code yX3_blocksOf cX3_blocksOf 1 (some .int), Cond.methodLink RX3 9 yX3_orderOf, Cond.static yX3_orderOf]
def wsX2_shrink_r2 : List Cond := [Cond.code yX3_orderOf cX3_orderOf 1 (some .int), Cond.methodLink RX2 46 yX3_firstOf, Cond.static yX3_firstOf, Cond.code yX3_firstOf cX3_firstOf 1 (some .int), Cond.methodLink RX2 68 yX2_putLength, Cond.instanceMethod yX2_putLength, Cond.selects RX2 yX2_putLength yX2_putLength, Cond.code yX2_putLength cX2_putLength 3 none, Cond.methodLink RX2 55 yX2_needOf, Cond.static yX2_needOf, Cond.code yX2_needOf cX2_needOf 1 (some .int), Cond.methodLink RX2 99 yX2_giveBackRuns, Cond.instanceMethod yX2_giveBackRuns, Cond.selects RX2 yX2_giveBackRuns yX2_giveBackRuns, Cond.code yX2_giveBackRuns cX2_giveBackRuns 6 none, Cond.methodLink RX2 45 yX2_blocksOf, Cond.instanceMethod yX2_blocksOf, Cond.selects RX2 yX2_blocksOf yX2_blocksOf, Cond.code yX2_blocksOf cX2_blocksOf 4 (some .int), Cond.methodLink RX2 52 yX2_runsOf, Cond.instanceMethod yX2_runsOf, Cond.selects RX2 yX2_runsOf yX2_runsOf, Cond.code yX2_runsOf cX2_runsOf 4 (some .int), Cond.methodLink RX2 102 yX3_bitsOf]
def wsX2_shrink_r3 : List Cond := [Cond.static yX3_bitsOf, Cond.code yX3_bitsOf cX3_bitsOf 1 (some .int), Cond.methodLink RX3 19 yX3_firstOf, Cond.methodLink RX3 25 yX3_mapBits, Cond.static yX3_mapBits, Cond.code yX3_mapBits cX3_mapBits 2 (some .int), Cond.methodLink RX2 71 yX2_putExtent, Cond.instanceMethod yX2_putExtent, Cond.selects RX2 yX2_putExtent yX2_putExtent, Cond.code yX2_putExtent cX2_putExtent 4 none]
def wsX2_shrink : List Cond := .code yX2_shrink cX2_shrink 5 none :: ((wsX2_shrink_r1 ++ (wsX2_shrink_r2 ++ wsX2_shrink_r3)) ++ wsX20)
def wsX2_dropFile_r1 : List Cond := [Cond.methodLink RX2 25 yX2_shrink, Cond.instanceMethod yX2_shrink, Cond.selects RX2 yX2_shrink yX2_shrink, Cond.initialized RX2, Cond.code yX2_shrink cX2_shrink 5 none, Cond.methodLink RX2 93 yX2_lengthOf, Cond.instanceMethod yX2_lengthOf, Cond.selects RX2 yX2_lengthOf yX2_lengthOf, Cond.code yX2_lengthOf cX2_lengthOf 2 (some .int), Cond.fieldLink RX2 9 "BuddyFiles$Home" "cells" "[I", Cond.methodLink RX2 96 yX2_putWord, Cond.instanceMethod yX2_putWord, Cond.selects RX2 yX2_putWord yX2_putWord, Cond.code yX2_putWord cX2_putWord 5 none, Cond.methodLink RX2 49 yX2_wordIndex, Cond.instanceMethod yX2_wordIndex, Cond.selects RX2 yX2_wordIndex yX2_wordIndex, Cond.code yX2_wordIndex cX2_wordIndex 7 (some .int), Cond.methodLink RX2 33 yX2_extentOf, Cond.instanceMethod yX2_extentOf, Cond.selects RX2 yX2_extentOf yX2_extentOf, Cond.code yX2_extentOf cX2_extentOf 3 (some .int), Cond.methodLink RX2 37 yX3_blocksOf, Cond.static yX3_blocksOf]
def wsX2_dropFile_r2 : List Cond := [Cond.initialized RX3, Cond.code yX3_blocksOf cX3_blocksOf 1 (some .int), Cond.methodLink RX3 9 yX3_orderOf, Cond.static yX3_orderOf, Cond.code yX3_orderOf cX3_orderOf 1 (some .int), Cond.methodLink RX2 46 yX3_firstOf, Cond.static yX3_firstOf, Cond.code yX3_firstOf cX3_firstOf 1 (some .int), Cond.methodLink RX2 68 yX2_putLength, Cond.instanceMethod yX2_putLength, Cond.selects RX2 yX2_putLength yX2_putLength, Cond.code yX2_putLength cX2_putLength 3 none, Cond.methodLink RX2 55 yX2_needOf, Cond.static yX2_needOf, Cond.code yX2_needOf cX2_needOf 1 (some .int), Cond.methodLink RX2 99 yX2_giveBackRuns, Cond.instanceMethod yX2_giveBackRuns, Cond.selects RX2 yX2_giveBackRuns yX2_giveBackRuns, Cond.code yX2_giveBackRuns cX2_giveBackRuns 6 none, Cond.methodLink RX2 45 yX2_blocksOf, Cond.instanceMethod yX2_blocksOf, Cond.selects RX2 yX2_blocksOf yX2_blocksOf, Cond.code yX2_blocksOf cX2_blocksOf 4 (some .int), Cond.methodLink RX2 52 yX2_runsOf]
def wsX2_dropFile_r3 : List Cond := [Cond.instanceMethod yX2_runsOf, Cond.selects RX2 yX2_runsOf yX2_runsOf, Cond.code yX2_runsOf cX2_runsOf 4 (some .int), Cond.methodLink RX2 102 yX3_bitsOf, Cond.static yX3_bitsOf, Cond.code yX3_bitsOf cX3_bitsOf 1 (some .int), Cond.methodLink RX3 19 yX3_firstOf, Cond.methodLink RX3 25 yX3_mapBits, Cond.static yX3_mapBits, Cond.code yX3_mapBits cX3_mapBits 2 (some .int), Cond.methodLink RX2 71 yX2_putExtent, Cond.instanceMethod yX2_putExtent, Cond.selects RX2 yX2_putExtent yX2_putExtent, Cond.code yX2_putExtent cX2_putExtent 4 none, Cond.methodLink RX2 29 yX2_makeFile, Cond.instanceMethod yX2_makeFile, Cond.selects RX2 yX2_makeFile yX2_makeFile, Cond.code yX2_makeFile cX2_makeFile 4 none]
def wsX2_dropFile : List Cond := .code yX2_dropFile cX2_dropFile 2 none :: ((wsX2_dropFile_r1 ++ (wsX2_dropFile_r2 ++ wsX2_dropFile_r3)) ++ wsX20)
def wsX2_wordAt : List Cond := .code yX2_wordAt cX2_wordAt 4 (some .int) :: ([.fieldLink RX2 9 "BuddyFiles$Home" "cells" "[I", .methodLink RX2 49 yX2_wordIndex, .instanceMethod yX2_wordIndex, .selects RX2 yX2_wordIndex yX2_wordIndex, .initialized RX2, .code yX2_wordIndex cX2_wordIndex 7 (some .int), .methodLink RX2 33 yX2_extentOf, .instanceMethod yX2_extentOf, .selects RX2 yX2_extentOf yX2_extentOf, .code yX2_extentOf cX2_extentOf 3 (some .int), .methodLink RX2 37 yX3_blocksOf, .static yX3_blocksOf, .initialized RX3, .code yX3_blocksOf cX3_blocksOf 1 (some .int), .methodLink RX3 9 yX3_orderOf, .static yX3_orderOf, .code yX3_orderOf cX3_orderOf 1 (some .int), .methodLink RX2 46 yX3_firstOf, .static yX3_firstOf, .code yX3_firstOf cX3_firstOf 1 (some .int)] ++ wsX20)
def wsX2_orderFor : List Cond := .code yX2_orderFor cX2_orderFor 2 (some .int) :: ([])
def wsX2_isFreeRun : List Cond := .code yX2_isFreeRun cX2_isFreeRun 5 (some .boolean) :: ([.fieldLink RX2 9 "BuddyFiles$Home" "cells" "[I", .methodLink RX2 87 yX3_mapBits, .static yX3_mapBits, .initialized RX3, .code yX3_mapBits cX3_mapBits 2 (some .int)] ++ wsX20)
def wsX2_takeRun : List Cond := .code yX2_takeRun cX2_takeRun 4 (some .int) :: ([.fieldLink RX2 9 "BuddyFiles$Home" "cells" "[I", .methodLink RX2 83 yX2_isFreeRun, .instanceMethod yX2_isFreeRun, .selects RX2 yX2_isFreeRun yX2_isFreeRun, .initialized RX2, .code yX2_isFreeRun cX2_isFreeRun 5 (some .boolean), .methodLink RX2 87 yX3_mapBits, .static yX3_mapBits, .initialized RX3, .code yX3_mapBits cX3_mapBits 2 (some .int), .methodLink RX2 90 yX3_cellOf, .static yX3_cellOf, .code yX3_cellOf cX3_cellOf 2 (some .int)] ++ wsX20)
def wsX2_takeRunFor : List Cond := .code yX2_takeRunFor cX2_takeRunFor 4 (some .int) :: ([.methodLink RX2 77 yX2_orderFor, .static yX2_orderFor, .initialized RX2, .code yX2_orderFor cX2_orderFor 2 (some .int), .methodLink RX2 80 yX2_takeRun, .instanceMethod yX2_takeRun, .selects RX2 yX2_takeRun yX2_takeRun, .code yX2_takeRun cX2_takeRun 4 (some .int), .fieldLink RX2 9 "BuddyFiles$Home" "cells" "[I", .methodLink RX2 83 yX2_isFreeRun, .instanceMethod yX2_isFreeRun, .selects RX2 yX2_isFreeRun yX2_isFreeRun, .code yX2_isFreeRun cX2_isFreeRun 5 (some .boolean), .methodLink RX2 87 yX3_mapBits, .static yX3_mapBits, .initialized RX3, .code yX3_mapBits cX3_mapBits 2 (some .int), .methodLink RX2 90 yX3_cellOf, .static yX3_cellOf, .code yX3_cellOf cX3_cellOf 2 (some .int)] ++ wsX20)
def wsX2_takeRuns_r1 : List Cond := [Cond.methodLink RX2 45 yX2_blocksOf, Cond.instanceMethod yX2_blocksOf, Cond.selects RX2 yX2_blocksOf yX2_blocksOf, Cond.initialized RX2, Cond.code yX2_blocksOf cX2_blocksOf 4 (some .int), Cond.methodLink RX2 33 yX2_extentOf, Cond.instanceMethod yX2_extentOf, Cond.selects RX2 yX2_extentOf yX2_extentOf, Cond.code yX2_extentOf cX2_extentOf 3 (some .int), Cond.fieldLink RX2 9 "BuddyFiles$Home" "cells" "[I", Cond.methodLink RX2 37 yX3_blocksOf, Cond.static yX3_blocksOf, Cond.initialized RX3, Cond.code yX3_blocksOf cX3_blocksOf 1 (some .int), Cond.methodLink RX3 9 yX3_orderOf, Cond.static yX3_orderOf, Cond.code yX3_orderOf cX3_orderOf 1 (some .int), Cond.methodLink RX2 74 yX2_takeRunFor, Cond.instanceMethod yX2_takeRunFor, Cond.selects RX2 yX2_takeRunFor yX2_takeRunFor, Cond.code yX2_takeRunFor cX2_takeRunFor 4 (some .int), Cond.methodLink RX2 77 yX2_orderFor, Cond.static yX2_orderFor, Cond.code yX2_orderFor cX2_orderFor 2 (some .int)]
def wsX2_takeRuns_r2 : List Cond := [Cond.methodLink RX2 80 yX2_takeRun, Cond.instanceMethod yX2_takeRun, Cond.selects RX2 yX2_takeRun yX2_takeRun, Cond.code yX2_takeRun cX2_takeRun 4 (some .int), Cond.methodLink RX2 83 yX2_isFreeRun, Cond.instanceMethod yX2_isFreeRun, Cond.selects RX2 yX2_isFreeRun yX2_isFreeRun, Cond.code yX2_isFreeRun cX2_isFreeRun 5 (some .boolean), Cond.methodLink RX2 87 yX3_mapBits, Cond.static yX3_mapBits, Cond.code yX3_mapBits cX3_mapBits 2 (some .int), Cond.methodLink RX2 90 yX3_cellOf, Cond.static yX3_cellOf, Cond.code yX3_cellOf cX3_cellOf 2 (some .int), Cond.methodLink RX2 71 yX2_putExtent, Cond.instanceMethod yX2_putExtent, Cond.selects RX2 yX2_putExtent yX2_putExtent, Cond.code yX2_putExtent cX2_putExtent 4 none]
def wsX2_takeRuns : List Cond := .code yX2_takeRuns cX2_takeRuns 7 (some .int) :: ((wsX2_takeRuns_r1 ++ wsX2_takeRuns_r2) ++ wsX20)
def wsX2_grow_r1 : List Cond := [Cond.fieldLink RX2 9 "BuddyFiles$Home" "cells" "[I", Cond.methodLink RX2 52 yX2_runsOf, Cond.instanceMethod yX2_runsOf, Cond.selects RX2 yX2_runsOf yX2_runsOf, Cond.initialized RX2, Cond.code yX2_runsOf cX2_runsOf 4 (some .int), Cond.methodLink RX2 33 yX2_extentOf, Cond.instanceMethod yX2_extentOf, Cond.selects RX2 yX2_extentOf yX2_extentOf, Cond.code yX2_extentOf cX2_extentOf 3 (some .int), Cond.methodLink RX2 55 yX2_needOf, Cond.static yX2_needOf, Cond.code yX2_needOf cX2_needOf 1 (some .int), Cond.methodLink RX2 58 yX2_takeRuns, Cond.instanceMethod yX2_takeRuns, Cond.selects RX2 yX2_takeRuns yX2_takeRuns, Cond.code yX2_takeRuns cX2_takeRuns 7 (some .int), Cond.methodLink RX2 45 yX2_blocksOf, Cond.instanceMethod yX2_blocksOf, Cond.selects RX2 yX2_blocksOf yX2_blocksOf, Cond.code yX2_blocksOf cX2_blocksOf 4 (some .int), Cond.methodLink RX2 37 yX3_blocksOf, Cond.static yX3_blocksOf, Cond.initialized RX3]
def wsX2_grow_r2 : List Cond := [Cond.code yX3_blocksOf cX3_blocksOf 1 (some .int), Cond.methodLink RX3 9 yX3_orderOf, Cond.static yX3_orderOf, Cond.code yX3_orderOf cX3_orderOf 1 (some .int), Cond.methodLink RX2 74 yX2_takeRunFor, Cond.instanceMethod yX2_takeRunFor, Cond.selects RX2 yX2_takeRunFor yX2_takeRunFor, Cond.code yX2_takeRunFor cX2_takeRunFor 4 (some .int), Cond.methodLink RX2 77 yX2_orderFor, Cond.static yX2_orderFor, Cond.code yX2_orderFor cX2_orderFor 2 (some .int), Cond.methodLink RX2 80 yX2_takeRun, Cond.instanceMethod yX2_takeRun, Cond.selects RX2 yX2_takeRun yX2_takeRun, Cond.code yX2_takeRun cX2_takeRun 4 (some .int), Cond.methodLink RX2 83 yX2_isFreeRun, Cond.instanceMethod yX2_isFreeRun, Cond.selects RX2 yX2_isFreeRun yX2_isFreeRun, Cond.code yX2_isFreeRun cX2_isFreeRun 5 (some .boolean), Cond.methodLink RX2 87 yX3_mapBits, Cond.static yX3_mapBits, Cond.code yX3_mapBits cX3_mapBits 2 (some .int), Cond.methodLink RX2 90 yX3_cellOf, Cond.static yX3_cellOf]
def wsX2_grow_r3 : List Cond := [Cond.code yX3_cellOf cX3_cellOf 2 (some .int), Cond.methodLink RX2 71 yX2_putExtent, Cond.instanceMethod yX2_putExtent, Cond.selects RX2 yX2_putExtent yX2_putExtent, Cond.code yX2_putExtent cX2_putExtent 4 none, Cond.methodLink RX2 42 yX2_ownerOf, Cond.instanceMethod yX2_ownerOf, Cond.selects RX2 yX2_ownerOf yX2_ownerOf, Cond.code yX2_ownerOf cX2_ownerOf 2 (some .int), Cond.methodLink RX2 62 yX2_usageOf, Cond.instanceMethod yX2_usageOf, Cond.selects RX2 yX2_usageOf yX2_usageOf, Cond.code yX2_usageOf cX2_usageOf 4 (some .int), Cond.methodLink RX2 65 yX2_quotaOf, Cond.instanceMethod yX2_quotaOf, Cond.selects RX2 yX2_quotaOf yX2_quotaOf, Cond.code yX2_quotaOf cX2_quotaOf 2 (some .int), Cond.methodLink RX2 68 yX2_putLength, Cond.instanceMethod yX2_putLength, Cond.selects RX2 yX2_putLength yX2_putLength, Cond.code yX2_putLength cX2_putLength 3 none]
def wsX2_grow : List Cond := .code yX2_grow cX2_grow 7 (some .int) :: ((wsX2_grow_r1 ++ (wsX2_grow_r2 ++ wsX2_grow_r3)) ++ wsX20)
def wsX2_freeRunsOf : List Cond := .code yX2_freeRunsOf cX2_freeRunsOf 4 (some .int) :: ([.methodLink RX2 83 yX2_isFreeRun, .instanceMethod yX2_isFreeRun, .selects RX2 yX2_isFreeRun yX2_isFreeRun, .initialized RX2, .code yX2_isFreeRun cX2_isFreeRun 5 (some .boolean), .fieldLink RX2 9 "BuddyFiles$Home" "cells" "[I", .methodLink RX2 87 yX3_mapBits, .static yX3_mapBits, .initialized RX3, .code yX3_mapBits cX3_mapBits 2 (some .int)] ++ wsX20)
def wsX4_goUp : List Cond := .code yX4_goUp cX4_goUp 2 none :: ([.fieldLink RX4 26 "BuddyFiles" "slotOfHandle" "[I", .fieldLink RX4 115 "BuddyFiles" "fuse" "I", .fieldLink RX4 33 "BuddyFiles" "up" "Z"] ++ wsX40)
def wsX4_startAfresh_r1 : List Cond := [Cond.fieldLink RX4 10 "BuddyFiles" "disk" "LBuddyFiles$Disk;", Cond.fieldLink RX4 19 "BuddyFiles" "memory" "LBuddyFiles$Home;", Cond.fieldLink RX4 125 "BuddyFiles$Disk" "cells" "[I", Cond.methodLink RX4 145 yX1_clear, Cond.instanceMethod yX1_clear, Cond.selects RX1 yX1_clear yX1_clear, Cond.initialized RX1, Cond.code yX1_clear cX1_clear 2 none, Cond.fieldLink RX1 9 "BuddyFiles$Disk" "cells" "[I", Cond.methodLink RX4 128 yX2_copyFrom, Cond.instanceMethod yX2_copyFrom, Cond.selects RX2 yX2_copyFrom yX2_copyFrom, Cond.initialized RX2, Cond.code yX2_copyFrom cX2_copyFrom 2 none, Cond.fieldLink RX2 9 "BuddyFiles$Home" "cells" "[I", Cond.methodLink RX2 15 arraycopyName, Cond.native arraycopyName, Cond.static arraycopyName, Cond.initialized "java/lang/System", Cond.methodLink RX4 138 yX4_goUp, Cond.instanceMethod yX4_goUp, Cond.selects RX4 yX4_goUp yX4_goUp, Cond.initialized RX4, Cond.code yX4_goUp cX4_goUp 2 none]
def wsX4_startAfresh_r2 : List Cond := [Cond.fieldLink RX4 26 "BuddyFiles" "slotOfHandle" "[I", Cond.fieldLink RX4 115 "BuddyFiles" "fuse" "I", Cond.fieldLink RX4 33 "BuddyFiles" "up" "Z"]
def wsX4_startAfresh : List Cond := .code yX4_startAfresh cX4_startAfresh 1 none :: ((wsX4_startAfresh_r1 ++ wsX4_startAfresh_r2) ++ wsX40 ++ wsX10 ++ wsX20)
def wsX4_init_r1 : List Cond := [Cond.methodLink RX4 1 objectInit, Cond.instanceMethod objectInit, Cond.code objectInit ⟨#[0xb1]⟩ 1 none, Cond.classLink RX4 7 RX1, Cond.instantiable RX1 1, Cond.initialized RX1, Cond.fieldLink RX4 10 "BuddyFiles" "disk" "LBuddyFiles$Disk;", Cond.classLink RX4 16 RX2, Cond.instantiable RX2 1, Cond.initialized RX2, Cond.fieldLink RX4 19 "BuddyFiles" "memory" "LBuddyFiles$Home;", Cond.fieldLink RX4 23 "BuddyFiles" "judged" "LBuddyFiles$Home;", Cond.arrayClass .int, Cond.fieldLink RX4 26 "BuddyFiles" "slotOfHandle" "[I", Cond.instanceMethod yX1_init, Cond.code yX1_init cX1_init 1 none, Cond.methodLink RX1 3 objectInit, Cond.fieldLink RX1 9 "BuddyFiles$Disk" "cells" "[I", Cond.instanceMethod yX2_init, Cond.code yX2_init cX2_init 1 none, Cond.methodLink RX2 3 objectInit, Cond.fieldLink RX2 9 "BuddyFiles$Home" "cells" "[I", Cond.methodLink RX4 30 yX4_startAfresh, Cond.instanceMethod yX4_startAfresh]
def wsX4_init_r2 : List Cond := [Cond.selects RX4 yX4_startAfresh yX4_startAfresh, Cond.initialized RX4, Cond.code yX4_startAfresh cX4_startAfresh 1 none, Cond.fieldLink RX4 125 "BuddyFiles$Disk" "cells" "[I", Cond.methodLink RX4 145 yX1_clear, Cond.instanceMethod yX1_clear, Cond.selects RX1 yX1_clear yX1_clear, Cond.code yX1_clear cX1_clear 2 none, Cond.methodLink RX4 128 yX2_copyFrom, Cond.instanceMethod yX2_copyFrom, Cond.selects RX2 yX2_copyFrom yX2_copyFrom, Cond.code yX2_copyFrom cX2_copyFrom 2 none, Cond.methodLink RX2 15 arraycopyName, Cond.native arraycopyName, Cond.static arraycopyName, Cond.initialized "java/lang/System", Cond.methodLink RX4 138 yX4_goUp, Cond.instanceMethod yX4_goUp, Cond.selects RX4 yX4_goUp yX4_goUp, Cond.code yX4_goUp cX4_goUp 2 none, Cond.fieldLink RX4 115 "BuddyFiles" "fuse" "I", Cond.fieldLink RX4 33 "BuddyFiles" "up" "Z"]
def wsX4_init : List Cond := .code yX4_init cX4_init 1 none :: ((wsX4_init_r1 ++ wsX4_init_r2) ++ wsX10 ++ wsX40 ++ wsX20)
def wsX4_format_r1 : List Cond := [Cond.methodLink RX4 30 yX4_startAfresh, Cond.instanceMethod yX4_startAfresh, Cond.selects RX4 yX4_startAfresh yX4_startAfresh, Cond.initialized RX4, Cond.code yX4_startAfresh cX4_startAfresh 1 none, Cond.fieldLink RX4 10 "BuddyFiles" "disk" "LBuddyFiles$Disk;", Cond.fieldLink RX4 19 "BuddyFiles" "memory" "LBuddyFiles$Home;", Cond.fieldLink RX4 125 "BuddyFiles$Disk" "cells" "[I", Cond.methodLink RX4 145 yX1_clear, Cond.instanceMethod yX1_clear, Cond.selects RX1 yX1_clear yX1_clear, Cond.initialized RX1, Cond.code yX1_clear cX1_clear 2 none, Cond.fieldLink RX1 9 "BuddyFiles$Disk" "cells" "[I", Cond.methodLink RX4 128 yX2_copyFrom, Cond.instanceMethod yX2_copyFrom, Cond.selects RX2 yX2_copyFrom yX2_copyFrom, Cond.initialized RX2, Cond.code yX2_copyFrom cX2_copyFrom 2 none, Cond.fieldLink RX2 9 "BuddyFiles$Home" "cells" "[I", Cond.methodLink RX2 15 arraycopyName, Cond.native arraycopyName, Cond.static arraycopyName, Cond.initialized "java/lang/System"]
def wsX4_format_r2 : List Cond := [Cond.methodLink RX4 138 yX4_goUp, Cond.instanceMethod yX4_goUp, Cond.selects RX4 yX4_goUp yX4_goUp, Cond.code yX4_goUp cX4_goUp 2 none, Cond.fieldLink RX4 26 "BuddyFiles" "slotOfHandle" "[I", Cond.fieldLink RX4 115 "BuddyFiles" "fuse" "I", Cond.fieldLink RX4 33 "BuddyFiles" "up" "Z"]
def wsX4_format : List Cond := .code yX4_format cX4_format 1 none :: ((wsX4_format_r1 ++ wsX4_format_r2) ++ wsX40 ++ wsX10 ++ wsX20)
def wsX4_isName : List Cond := .code yX4_isName cX4_isName 1 (some .boolean) :: ([])
def wsX4_isOwner : List Cond := .code yX4_isOwner cX4_isOwner 1 (some .boolean) :: ([])
def wsX4_create_r1 : List Cond := [Cond.fieldLink RX4 33 "BuddyFiles" "up" "Z", Cond.fieldLink RX4 19 "BuddyFiles" "memory" "LBuddyFiles$Home;", Cond.methodLink RX4 37 yX4_isName, Cond.static yX4_isName, Cond.initialized RX4, Cond.code yX4_isName cX4_isName 1 (some .boolean), Cond.methodLink RX4 41 yX4_isOwner, Cond.static yX4_isOwner, Cond.code yX4_isOwner cX4_isOwner 1 (some .boolean), Cond.methodLink RX4 44 yX2_slotOf, Cond.instanceMethod yX2_slotOf, Cond.selects RX2 yX2_slotOf yX2_slotOf, Cond.initialized RX2, Cond.code yX2_slotOf cX2_slotOf 3 (some .int), Cond.methodLink RX2 21 yX2_nameOf, Cond.instanceMethod yX2_nameOf, Cond.selects RX2 yX2_nameOf yX2_nameOf, Cond.code yX2_nameOf cX2_nameOf 2 (some .int), Cond.fieldLink RX2 9 "BuddyFiles$Home" "cells" "[I", Cond.methodLink RX4 48 yX2_emptySlot, Cond.instanceMethod yX2_emptySlot, Cond.selects RX2 yX2_emptySlot yX2_emptySlot, Cond.code yX2_emptySlot cX2_emptySlot 2 (some .int), Cond.methodLink RX4 52 yX2_makeFile]
def wsX4_create_r2 : List Cond := [Cond.instanceMethod yX2_makeFile, Cond.selects RX2 yX2_makeFile yX2_makeFile, Cond.code yX2_makeFile cX2_makeFile 4 none]
def wsX4_create : List Cond := .code yX4_create cX4_create 4 (some .int) :: ((wsX4_create_r1 ++ wsX4_create_r2) ++ wsX40 ++ wsX20)
def wsX4_isInUse : List Cond := .code yX4_isInUse cX4_isInUse 3 (some .boolean) :: ([.fieldLink RX4 26 "BuddyFiles" "slotOfHandle" "[I"] ++ wsX40)
def wsX4_unlink_r1 : List Cond := [Cond.fieldLink RX4 33 "BuddyFiles" "up" "Z", Cond.fieldLink RX4 19 "BuddyFiles" "memory" "LBuddyFiles$Home;", Cond.methodLink RX4 44 yX2_slotOf, Cond.instanceMethod yX2_slotOf, Cond.selects RX2 yX2_slotOf yX2_slotOf, Cond.initialized RX2, Cond.code yX2_slotOf cX2_slotOf 3 (some .int), Cond.methodLink RX2 21 yX2_nameOf, Cond.instanceMethod yX2_nameOf, Cond.selects RX2 yX2_nameOf yX2_nameOf, Cond.code yX2_nameOf cX2_nameOf 2 (some .int), Cond.fieldLink RX2 9 "BuddyFiles$Home" "cells" "[I", Cond.methodLink RX4 56 yX4_isInUse, Cond.instanceMethod yX4_isInUse, Cond.selects RX4 yX4_isInUse yX4_isInUse, Cond.initialized RX4, Cond.code yX4_isInUse cX4_isInUse 3 (some .boolean), Cond.fieldLink RX4 26 "BuddyFiles" "slotOfHandle" "[I", Cond.methodLink RX4 59 yX2_dropFile, Cond.instanceMethod yX2_dropFile, Cond.selects RX2 yX2_dropFile yX2_dropFile, Cond.code yX2_dropFile cX2_dropFile 2 none, Cond.methodLink RX2 25 yX2_shrink, Cond.instanceMethod yX2_shrink]
def wsX4_unlink_r2 : List Cond := [Cond.selects RX2 yX2_shrink yX2_shrink, Cond.code yX2_shrink cX2_shrink 5 none, Cond.methodLink RX2 93 yX2_lengthOf, Cond.instanceMethod yX2_lengthOf, Cond.selects RX2 yX2_lengthOf yX2_lengthOf, Cond.code yX2_lengthOf cX2_lengthOf 2 (some .int), Cond.methodLink RX2 96 yX2_putWord, Cond.instanceMethod yX2_putWord, Cond.selects RX2 yX2_putWord yX2_putWord, Cond.code yX2_putWord cX2_putWord 5 none, Cond.methodLink RX2 49 yX2_wordIndex, Cond.instanceMethod yX2_wordIndex, Cond.selects RX2 yX2_wordIndex yX2_wordIndex, Cond.code yX2_wordIndex cX2_wordIndex 7 (some .int), Cond.methodLink RX2 33 yX2_extentOf, Cond.instanceMethod yX2_extentOf, Cond.selects RX2 yX2_extentOf yX2_extentOf, Cond.code yX2_extentOf cX2_extentOf 3 (some .int), Cond.methodLink RX2 37 yX3_blocksOf, Cond.static yX3_blocksOf, Cond.initialized RX3, Cond.code yX3_blocksOf cX3_blocksOf 1 (some .int), Cond.methodLink RX3 9 yX3_orderOf, Cond.static yX3_orderOf]
def wsX4_unlink_r3 : List Cond := [Cond.code yX3_orderOf cX3_orderOf 1 (some .int), Cond.methodLink RX2 46 yX3_firstOf, Cond.static yX3_firstOf, Cond.code yX3_firstOf cX3_firstOf 1 (some .int), Cond.methodLink RX2 68 yX2_putLength, Cond.instanceMethod yX2_putLength, Cond.selects RX2 yX2_putLength yX2_putLength, Cond.code yX2_putLength cX2_putLength 3 none, Cond.methodLink RX2 55 yX2_needOf, Cond.static yX2_needOf, Cond.code yX2_needOf cX2_needOf 1 (some .int), Cond.methodLink RX2 99 yX2_giveBackRuns, Cond.instanceMethod yX2_giveBackRuns, Cond.selects RX2 yX2_giveBackRuns yX2_giveBackRuns, Cond.code yX2_giveBackRuns cX2_giveBackRuns 6 none, Cond.methodLink RX2 45 yX2_blocksOf, Cond.instanceMethod yX2_blocksOf, Cond.selects RX2 yX2_blocksOf yX2_blocksOf, Cond.code yX2_blocksOf cX2_blocksOf 4 (some .int), Cond.methodLink RX2 52 yX2_runsOf, Cond.instanceMethod yX2_runsOf, Cond.selects RX2 yX2_runsOf yX2_runsOf, Cond.code yX2_runsOf cX2_runsOf 4 (some .int), Cond.methodLink RX2 102 yX3_bitsOf]
def wsX4_unlink_r4 : List Cond := [Cond.static yX3_bitsOf, Cond.code yX3_bitsOf cX3_bitsOf 1 (some .int), Cond.methodLink RX3 19 yX3_firstOf, Cond.methodLink RX3 25 yX3_mapBits, Cond.static yX3_mapBits, Cond.code yX3_mapBits cX3_mapBits 2 (some .int), Cond.methodLink RX2 71 yX2_putExtent, Cond.instanceMethod yX2_putExtent, Cond.selects RX2 yX2_putExtent yX2_putExtent, Cond.code yX2_putExtent cX2_putExtent 4 none, Cond.methodLink RX2 29 yX2_makeFile, Cond.instanceMethod yX2_makeFile, Cond.selects RX2 yX2_makeFile yX2_makeFile, Cond.code yX2_makeFile cX2_makeFile 4 none]
def wsX4_unlink : List Cond := .code yX4_unlink cX4_unlink 3 (some .int) :: ((wsX4_unlink_r1 ++ (wsX4_unlink_r2 ++ (wsX4_unlink_r3 ++ wsX4_unlink_r4))) ++ wsX40 ++ wsX20)
def wsX4_closedHandle : List Cond := .code yX4_closedHandle cX4_closedHandle 2 (some .int) :: ([.fieldLink RX4 26 "BuddyFiles" "slotOfHandle" "[I"] ++ wsX40)
def wsX4_open : List Cond := .code yX4_open cX4_open 4 (some .int) :: ([.fieldLink RX4 33 "BuddyFiles" "up" "Z", .fieldLink RX4 19 "BuddyFiles" "memory" "LBuddyFiles$Home;", .fieldLink RX4 26 "BuddyFiles" "slotOfHandle" "[I", .methodLink RX4 44 yX2_slotOf, .instanceMethod yX2_slotOf, .selects RX2 yX2_slotOf yX2_slotOf, .initialized RX2, .code yX2_slotOf cX2_slotOf 3 (some .int), .methodLink RX2 21 yX2_nameOf, .instanceMethod yX2_nameOf, .selects RX2 yX2_nameOf yX2_nameOf, .code yX2_nameOf cX2_nameOf 2 (some .int), .fieldLink RX2 9 "BuddyFiles$Home" "cells" "[I", .methodLink RX4 63 yX4_closedHandle, .instanceMethod yX4_closedHandle, .selects RX4 yX4_closedHandle yX4_closedHandle, .initialized RX4, .code yX4_closedHandle cX4_closedHandle 2 (some .int)] ++ wsX40 ++ wsX20)
def wsX4_isOpen : List Cond := .code yX4_isOpen cX4_isOpen 2 (some .boolean) :: ([.fieldLink RX4 26 "BuddyFiles" "slotOfHandle" "[I"] ++ wsX40)
def wsX4_close : List Cond := .code yX4_close cX4_close 2 (some .int) :: ([.fieldLink RX4 33 "BuddyFiles" "up" "Z", .fieldLink RX4 26 "BuddyFiles" "slotOfHandle" "[I", .methodLink RX4 66 yX4_isOpen, .instanceMethod yX4_isOpen, .selects RX4 yX4_isOpen yX4_isOpen, .initialized RX4, .code yX4_isOpen cX4_isOpen 2 (some .boolean)] ++ wsX40)
def wsX4_write_r1 : List Cond := [Cond.fieldLink RX4 33 "BuddyFiles" "up" "Z", Cond.fieldLink RX4 26 "BuddyFiles" "slotOfHandle" "[I", Cond.fieldLink RX4 19 "BuddyFiles" "memory" "LBuddyFiles$Home;", Cond.methodLink RX4 66 yX4_isOpen, Cond.instanceMethod yX4_isOpen, Cond.selects RX4 yX4_isOpen yX4_isOpen, Cond.initialized RX4, Cond.code yX4_isOpen cX4_isOpen 2 (some .boolean), Cond.methodLink RX4 69 yX2_lengthOf, Cond.instanceMethod yX2_lengthOf, Cond.selects RX2 yX2_lengthOf yX2_lengthOf, Cond.initialized RX2, Cond.code yX2_lengthOf cX2_lengthOf 2 (some .int), Cond.fieldLink RX2 9 "BuddyFiles$Home" "cells" "[I", Cond.methodLink RX4 72 yX2_grow, Cond.instanceMethod yX2_grow, Cond.selects RX2 yX2_grow yX2_grow, Cond.code yX2_grow cX2_grow 7 (some .int), Cond.methodLink RX2 52 yX2_runsOf, Cond.instanceMethod yX2_runsOf, Cond.selects RX2 yX2_runsOf yX2_runsOf, Cond.code yX2_runsOf cX2_runsOf 4 (some .int), Cond.methodLink RX2 33 yX2_extentOf, Cond.instanceMethod yX2_extentOf]
def wsX4_write_r2 : List Cond := [Cond.selects RX2 yX2_extentOf yX2_extentOf, Cond.code yX2_extentOf cX2_extentOf 3 (some .int), Cond.methodLink RX2 55 yX2_needOf, Cond.static yX2_needOf, Cond.code yX2_needOf cX2_needOf 1 (some .int), Cond.methodLink RX2 58 yX2_takeRuns, Cond.instanceMethod yX2_takeRuns, Cond.selects RX2 yX2_takeRuns yX2_takeRuns, Cond.code yX2_takeRuns cX2_takeRuns 7 (some .int), Cond.methodLink RX2 45 yX2_blocksOf, Cond.instanceMethod yX2_blocksOf, Cond.selects RX2 yX2_blocksOf yX2_blocksOf, Cond.code yX2_blocksOf cX2_blocksOf 4 (some .int), Cond.methodLink RX2 37 yX3_blocksOf, Cond.static yX3_blocksOf, Cond.initialized RX3, Cond.code yX3_blocksOf cX3_blocksOf 1 (some .int), Cond.methodLink RX3 9 yX3_orderOf, Cond.static yX3_orderOf, Cond.code yX3_orderOf cX3_orderOf 1 (some .int), Cond.methodLink RX2 74 yX2_takeRunFor, Cond.instanceMethod yX2_takeRunFor, Cond.selects RX2 yX2_takeRunFor yX2_takeRunFor, Cond.code yX2_takeRunFor cX2_takeRunFor 4 (some .int)]
def wsX4_write_r3 : List Cond := [Cond.methodLink RX2 77 yX2_orderFor, Cond.static yX2_orderFor, Cond.code yX2_orderFor cX2_orderFor 2 (some .int), Cond.methodLink RX2 80 yX2_takeRun, Cond.instanceMethod yX2_takeRun, Cond.selects RX2 yX2_takeRun yX2_takeRun, Cond.code yX2_takeRun cX2_takeRun 4 (some .int), Cond.methodLink RX2 83 yX2_isFreeRun, Cond.instanceMethod yX2_isFreeRun, Cond.selects RX2 yX2_isFreeRun yX2_isFreeRun, Cond.code yX2_isFreeRun cX2_isFreeRun 5 (some .boolean), Cond.methodLink RX2 87 yX3_mapBits, Cond.static yX3_mapBits, Cond.code yX3_mapBits cX3_mapBits 2 (some .int), Cond.methodLink RX2 90 yX3_cellOf, Cond.static yX3_cellOf, Cond.code yX3_cellOf cX3_cellOf 2 (some .int), Cond.methodLink RX2 71 yX2_putExtent, Cond.instanceMethod yX2_putExtent, Cond.selects RX2 yX2_putExtent yX2_putExtent, Cond.code yX2_putExtent cX2_putExtent 4 none, Cond.methodLink RX2 42 yX2_ownerOf, Cond.instanceMethod yX2_ownerOf, Cond.selects RX2 yX2_ownerOf yX2_ownerOf]
def wsX4_write_r4 : List Cond := [Cond.code yX2_ownerOf cX2_ownerOf 2 (some .int), Cond.methodLink RX2 62 yX2_usageOf, Cond.instanceMethod yX2_usageOf, Cond.selects RX2 yX2_usageOf yX2_usageOf, Cond.code yX2_usageOf cX2_usageOf 4 (some .int), Cond.methodLink RX2 65 yX2_quotaOf, Cond.instanceMethod yX2_quotaOf, Cond.selects RX2 yX2_quotaOf yX2_quotaOf, Cond.code yX2_quotaOf cX2_quotaOf 2 (some .int), Cond.methodLink RX2 68 yX2_putLength, Cond.instanceMethod yX2_putLength, Cond.selects RX2 yX2_putLength yX2_putLength, Cond.code yX2_putLength cX2_putLength 3 none, Cond.methodLink RX4 76 yX2_putWord, Cond.instanceMethod yX2_putWord, Cond.selects RX2 yX2_putWord yX2_putWord, Cond.code yX2_putWord cX2_putWord 5 none, Cond.methodLink RX2 49 yX2_wordIndex, Cond.instanceMethod yX2_wordIndex, Cond.selects RX2 yX2_wordIndex yX2_wordIndex, Cond.code yX2_wordIndex cX2_wordIndex 7 (some .int), Cond.methodLink RX2 46 yX3_firstOf, Cond.static yX3_firstOf, Cond.code yX3_firstOf cX3_firstOf 1 (some .int)]
def wsX4_write : List Cond := .code yX4_write cX4_write 6 (some .int) :: ((wsX4_write_r1 ++ (wsX4_write_r2 ++ (wsX4_write_r3 ++ wsX4_write_r4))) ++ wsX40 ++ wsX20)
def wsX4_read_r1 : List Cond := [Cond.fieldLink RX4 33 "BuddyFiles" "up" "Z", Cond.fieldLink RX4 26 "BuddyFiles" "slotOfHandle" "[I", Cond.fieldLink RX4 19 "BuddyFiles" "memory" "LBuddyFiles$Home;", Cond.methodLink RX4 66 yX4_isOpen, Cond.instanceMethod yX4_isOpen, Cond.selects RX4 yX4_isOpen yX4_isOpen, Cond.initialized RX4, Cond.code yX4_isOpen cX4_isOpen 2 (some .boolean), Cond.methodLink RX4 69 yX2_lengthOf, Cond.instanceMethod yX2_lengthOf, Cond.selects RX2 yX2_lengthOf yX2_lengthOf, Cond.initialized RX2, Cond.code yX2_lengthOf cX2_lengthOf 2 (some .int), Cond.fieldLink RX2 9 "BuddyFiles$Home" "cells" "[I", Cond.methodLink RX4 79 yX2_wordAt, Cond.instanceMethod yX2_wordAt, Cond.selects RX2 yX2_wordAt yX2_wordAt, Cond.code yX2_wordAt cX2_wordAt 4 (some .int), Cond.methodLink RX2 49 yX2_wordIndex, Cond.instanceMethod yX2_wordIndex, Cond.selects RX2 yX2_wordIndex yX2_wordIndex, Cond.code yX2_wordIndex cX2_wordIndex 7 (some .int), Cond.methodLink RX2 33 yX2_extentOf, Cond.instanceMethod yX2_extentOf]
def wsX4_read_r2 : List Cond := [Cond.selects RX2 yX2_extentOf yX2_extentOf, Cond.code yX2_extentOf cX2_extentOf 3 (some .int), Cond.methodLink RX2 37 yX3_blocksOf, Cond.static yX3_blocksOf, Cond.initialized RX3, Cond.code yX3_blocksOf cX3_blocksOf 1 (some .int), Cond.methodLink RX3 9 yX3_orderOf, Cond.static yX3_orderOf, Cond.code yX3_orderOf cX3_orderOf 1 (some .int), Cond.methodLink RX2 46 yX3_firstOf, Cond.static yX3_firstOf, Cond.code yX3_firstOf cX3_firstOf 1 (some .int)]
def wsX4_read : List Cond := .code yX4_read cX4_read 4 (some .int) :: ((wsX4_read_r1 ++ wsX4_read_r2) ++ wsX40 ++ wsX20)
def wsX4_truncate_r1 : List Cond := [Cond.fieldLink RX4 33 "BuddyFiles" "up" "Z", Cond.fieldLink RX4 26 "BuddyFiles" "slotOfHandle" "[I", Cond.fieldLink RX4 19 "BuddyFiles" "memory" "LBuddyFiles$Home;", Cond.methodLink RX4 66 yX4_isOpen, Cond.instanceMethod yX4_isOpen, Cond.selects RX4 yX4_isOpen yX4_isOpen, Cond.initialized RX4, Cond.code yX4_isOpen cX4_isOpen 2 (some .boolean), Cond.methodLink RX4 69 yX2_lengthOf, Cond.instanceMethod yX2_lengthOf, Cond.selects RX2 yX2_lengthOf yX2_lengthOf, Cond.initialized RX2, Cond.code yX2_lengthOf cX2_lengthOf 2 (some .int), Cond.fieldLink RX2 9 "BuddyFiles$Home" "cells" "[I", Cond.methodLink RX4 72 yX2_grow, Cond.instanceMethod yX2_grow, Cond.selects RX2 yX2_grow yX2_grow, Cond.code yX2_grow cX2_grow 7 (some .int), Cond.methodLink RX2 52 yX2_runsOf, Cond.instanceMethod yX2_runsOf, Cond.selects RX2 yX2_runsOf yX2_runsOf, Cond.code yX2_runsOf cX2_runsOf 4 (some .int), Cond.methodLink RX2 33 yX2_extentOf, Cond.instanceMethod yX2_extentOf]
def wsX4_truncate_r2 : List Cond := [Cond.selects RX2 yX2_extentOf yX2_extentOf, Cond.code yX2_extentOf cX2_extentOf 3 (some .int), Cond.methodLink RX2 55 yX2_needOf, Cond.static yX2_needOf, Cond.code yX2_needOf cX2_needOf 1 (some .int), Cond.methodLink RX2 58 yX2_takeRuns, Cond.instanceMethod yX2_takeRuns, Cond.selects RX2 yX2_takeRuns yX2_takeRuns, Cond.code yX2_takeRuns cX2_takeRuns 7 (some .int), Cond.methodLink RX2 45 yX2_blocksOf, Cond.instanceMethod yX2_blocksOf, Cond.selects RX2 yX2_blocksOf yX2_blocksOf, Cond.code yX2_blocksOf cX2_blocksOf 4 (some .int), Cond.methodLink RX2 37 yX3_blocksOf, Cond.static yX3_blocksOf, Cond.initialized RX3, Cond.code yX3_blocksOf cX3_blocksOf 1 (some .int), Cond.methodLink RX3 9 yX3_orderOf, Cond.static yX3_orderOf, Cond.code yX3_orderOf cX3_orderOf 1 (some .int), Cond.methodLink RX2 74 yX2_takeRunFor, Cond.instanceMethod yX2_takeRunFor, Cond.selects RX2 yX2_takeRunFor yX2_takeRunFor, Cond.code yX2_takeRunFor cX2_takeRunFor 4 (some .int)]
def wsX4_truncate_r3 : List Cond := [Cond.methodLink RX2 77 yX2_orderFor, Cond.static yX2_orderFor, Cond.code yX2_orderFor cX2_orderFor 2 (some .int), Cond.methodLink RX2 80 yX2_takeRun, Cond.instanceMethod yX2_takeRun, Cond.selects RX2 yX2_takeRun yX2_takeRun, Cond.code yX2_takeRun cX2_takeRun 4 (some .int), Cond.methodLink RX2 83 yX2_isFreeRun, Cond.instanceMethod yX2_isFreeRun, Cond.selects RX2 yX2_isFreeRun yX2_isFreeRun, Cond.code yX2_isFreeRun cX2_isFreeRun 5 (some .boolean), Cond.methodLink RX2 87 yX3_mapBits, Cond.static yX3_mapBits, Cond.code yX3_mapBits cX3_mapBits 2 (some .int), Cond.methodLink RX2 90 yX3_cellOf, Cond.static yX3_cellOf, Cond.code yX3_cellOf cX3_cellOf 2 (some .int), Cond.methodLink RX2 71 yX2_putExtent, Cond.instanceMethod yX2_putExtent, Cond.selects RX2 yX2_putExtent yX2_putExtent, Cond.code yX2_putExtent cX2_putExtent 4 none, Cond.methodLink RX2 42 yX2_ownerOf, Cond.instanceMethod yX2_ownerOf, Cond.selects RX2 yX2_ownerOf yX2_ownerOf]
def wsX4_truncate_r4 : List Cond := [Cond.code yX2_ownerOf cX2_ownerOf 2 (some .int), Cond.methodLink RX2 62 yX2_usageOf, Cond.instanceMethod yX2_usageOf, Cond.selects RX2 yX2_usageOf yX2_usageOf, Cond.code yX2_usageOf cX2_usageOf 4 (some .int), Cond.methodLink RX2 65 yX2_quotaOf, Cond.instanceMethod yX2_quotaOf, Cond.selects RX2 yX2_quotaOf yX2_quotaOf, Cond.code yX2_quotaOf cX2_quotaOf 2 (some .int), Cond.methodLink RX2 68 yX2_putLength, Cond.instanceMethod yX2_putLength, Cond.selects RX2 yX2_putLength yX2_putLength, Cond.code yX2_putLength cX2_putLength 3 none, Cond.methodLink RX4 82 yX2_shrink, Cond.instanceMethod yX2_shrink, Cond.selects RX2 yX2_shrink yX2_shrink, Cond.code yX2_shrink cX2_shrink 5 none, Cond.methodLink RX2 93 yX2_lengthOf, Cond.methodLink RX2 96 yX2_putWord, Cond.instanceMethod yX2_putWord, Cond.selects RX2 yX2_putWord yX2_putWord, Cond.code yX2_putWord cX2_putWord 5 none, Cond.methodLink RX2 49 yX2_wordIndex, Cond.instanceMethod yX2_wordIndex]
def wsX4_truncate_r5 : List Cond := [Cond.selects RX2 yX2_wordIndex yX2_wordIndex, Cond.code yX2_wordIndex cX2_wordIndex 7 (some .int), Cond.methodLink RX2 46 yX3_firstOf, Cond.static yX3_firstOf, Cond.code yX3_firstOf cX3_firstOf 1 (some .int), Cond.methodLink RX2 99 yX2_giveBackRuns, Cond.instanceMethod yX2_giveBackRuns, Cond.selects RX2 yX2_giveBackRuns yX2_giveBackRuns, Cond.code yX2_giveBackRuns cX2_giveBackRuns 6 none, Cond.methodLink RX2 102 yX3_bitsOf, Cond.static yX3_bitsOf, Cond.code yX3_bitsOf cX3_bitsOf 1 (some .int), Cond.methodLink RX3 19 yX3_firstOf, Cond.methodLink RX3 25 yX3_mapBits]
def wsX4_truncate : List Cond := .code yX4_truncate cX4_truncate 4 (some .int) :: ((wsX4_truncate_r1 ++ (wsX4_truncate_r2 ++ (wsX4_truncate_r3 ++ (wsX4_truncate_r4 ++ wsX4_truncate_r5)))) ++ wsX40 ++ wsX20)
def wsX4_length : List Cond := .code yX4_length cX4_length 2 (some .int) :: ([.fieldLink RX4 33 "BuddyFiles" "up" "Z", .fieldLink RX4 19 "BuddyFiles" "memory" "LBuddyFiles$Home;", .fieldLink RX4 26 "BuddyFiles" "slotOfHandle" "[I", .methodLink RX4 66 yX4_isOpen, .instanceMethod yX4_isOpen, .selects RX4 yX4_isOpen yX4_isOpen, .initialized RX4, .code yX4_isOpen cX4_isOpen 2 (some .boolean), .methodLink RX4 69 yX2_lengthOf, .instanceMethod yX2_lengthOf, .selects RX2 yX2_lengthOf yX2_lengthOf, .initialized RX2, .code yX2_lengthOf cX2_lengthOf 2 (some .int), .fieldLink RX2 9 "BuddyFiles$Home" "cells" "[I"] ++ wsX40 ++ wsX20)
def wsX4_extent : List Cond := .code yX4_extent cX4_extent 3 (some .int) :: ([.fieldLink RX4 33 "BuddyFiles" "up" "Z", .fieldLink RX4 19 "BuddyFiles" "memory" "LBuddyFiles$Home;", .fieldLink RX4 26 "BuddyFiles" "slotOfHandle" "[I", .methodLink RX4 66 yX4_isOpen, .instanceMethod yX4_isOpen, .selects RX4 yX4_isOpen yX4_isOpen, .initialized RX4, .code yX4_isOpen cX4_isOpen 2 (some .boolean), .methodLink RX4 86 yX2_extentOf, .instanceMethod yX2_extentOf, .selects RX2 yX2_extentOf yX2_extentOf, .initialized RX2, .code yX2_extentOf cX2_extentOf 3 (some .int), .fieldLink RX2 9 "BuddyFiles$Home" "cells" "[I"] ++ wsX40 ++ wsX20)
def wsX4_rename_r1 : List Cond := [Cond.fieldLink RX4 33 "BuddyFiles" "up" "Z", Cond.fieldLink RX4 19 "BuddyFiles" "memory" "LBuddyFiles$Home;", Cond.methodLink RX4 44 yX2_slotOf, Cond.instanceMethod yX2_slotOf, Cond.selects RX2 yX2_slotOf yX2_slotOf, Cond.initialized RX2, Cond.code yX2_slotOf cX2_slotOf 3 (some .int), Cond.methodLink RX2 21 yX2_nameOf, Cond.instanceMethod yX2_nameOf, Cond.selects RX2 yX2_nameOf yX2_nameOf, Cond.code yX2_nameOf cX2_nameOf 2 (some .int), Cond.fieldLink RX2 9 "BuddyFiles$Home" "cells" "[I", Cond.methodLink RX4 37 yX4_isName, Cond.static yX4_isName, Cond.initialized RX4, Cond.code yX4_isName cX4_isName 1 (some .boolean), Cond.methodLink RX4 56 yX4_isInUse, Cond.instanceMethod yX4_isInUse, Cond.selects RX4 yX4_isInUse yX4_isInUse, Cond.code yX4_isInUse cX4_isInUse 3 (some .boolean), Cond.fieldLink RX4 26 "BuddyFiles" "slotOfHandle" "[I", Cond.methodLink RX4 59 yX2_dropFile, Cond.instanceMethod yX2_dropFile, Cond.selects RX2 yX2_dropFile yX2_dropFile]
def wsX4_rename_r2 : List Cond := [Cond.code yX2_dropFile cX2_dropFile 2 none, Cond.methodLink RX2 25 yX2_shrink, Cond.instanceMethod yX2_shrink, Cond.selects RX2 yX2_shrink yX2_shrink, Cond.code yX2_shrink cX2_shrink 5 none, Cond.methodLink RX2 93 yX2_lengthOf, Cond.instanceMethod yX2_lengthOf, Cond.selects RX2 yX2_lengthOf yX2_lengthOf, Cond.code yX2_lengthOf cX2_lengthOf 2 (some .int), Cond.methodLink RX2 96 yX2_putWord, Cond.instanceMethod yX2_putWord, Cond.selects RX2 yX2_putWord yX2_putWord, Cond.code yX2_putWord cX2_putWord 5 none, Cond.methodLink RX2 49 yX2_wordIndex, Cond.instanceMethod yX2_wordIndex, Cond.selects RX2 yX2_wordIndex yX2_wordIndex, Cond.code yX2_wordIndex cX2_wordIndex 7 (some .int), Cond.methodLink RX2 33 yX2_extentOf, Cond.instanceMethod yX2_extentOf, Cond.selects RX2 yX2_extentOf yX2_extentOf, Cond.code yX2_extentOf cX2_extentOf 3 (some .int), Cond.methodLink RX2 37 yX3_blocksOf, Cond.static yX3_blocksOf, Cond.initialized RX3]
def wsX4_rename_r3 : List Cond := [Cond.code yX3_blocksOf cX3_blocksOf 1 (some .int), Cond.methodLink RX3 9 yX3_orderOf, Cond.static yX3_orderOf, Cond.code yX3_orderOf cX3_orderOf 1 (some .int), Cond.methodLink RX2 46 yX3_firstOf, Cond.static yX3_firstOf, Cond.code yX3_firstOf cX3_firstOf 1 (some .int), Cond.methodLink RX2 68 yX2_putLength, Cond.instanceMethod yX2_putLength, Cond.selects RX2 yX2_putLength yX2_putLength, Cond.code yX2_putLength cX2_putLength 3 none, Cond.methodLink RX2 55 yX2_needOf, Cond.static yX2_needOf, Cond.code yX2_needOf cX2_needOf 1 (some .int), Cond.methodLink RX2 99 yX2_giveBackRuns, Cond.instanceMethod yX2_giveBackRuns, Cond.selects RX2 yX2_giveBackRuns yX2_giveBackRuns, Cond.code yX2_giveBackRuns cX2_giveBackRuns 6 none, Cond.methodLink RX2 45 yX2_blocksOf, Cond.instanceMethod yX2_blocksOf, Cond.selects RX2 yX2_blocksOf yX2_blocksOf, Cond.code yX2_blocksOf cX2_blocksOf 4 (some .int), Cond.methodLink RX2 52 yX2_runsOf, Cond.instanceMethod yX2_runsOf]
def wsX4_rename_r4 : List Cond := [Cond.selects RX2 yX2_runsOf yX2_runsOf, Cond.code yX2_runsOf cX2_runsOf 4 (some .int), Cond.methodLink RX2 102 yX3_bitsOf, Cond.static yX3_bitsOf, Cond.code yX3_bitsOf cX3_bitsOf 1 (some .int), Cond.methodLink RX3 19 yX3_firstOf, Cond.methodLink RX3 25 yX3_mapBits, Cond.static yX3_mapBits, Cond.code yX3_mapBits cX3_mapBits 2 (some .int), Cond.methodLink RX2 71 yX2_putExtent, Cond.instanceMethod yX2_putExtent, Cond.selects RX2 yX2_putExtent yX2_putExtent, Cond.code yX2_putExtent cX2_putExtent 4 none, Cond.methodLink RX2 29 yX2_makeFile, Cond.instanceMethod yX2_makeFile, Cond.selects RX2 yX2_makeFile yX2_makeFile, Cond.code yX2_makeFile cX2_makeFile 4 none, Cond.methodLink RX4 89 yX2_nameFile, Cond.instanceMethod yX2_nameFile, Cond.selects RX2 yX2_nameFile yX2_nameFile, Cond.code yX2_nameFile cX2_nameFile 3 none]
def wsX4_rename : List Cond := .code yX4_rename cX4_rename 5 (some .int) :: ((wsX4_rename_r1 ++ (wsX4_rename_r2 ++ (wsX4_rename_r3 ++ wsX4_rename_r4))) ++ wsX40 ++ wsX20)
def wsX4_setQuota_r1 : List Cond := [Cond.fieldLink RX4 33 "BuddyFiles" "up" "Z", Cond.fieldLink RX4 19 "BuddyFiles" "memory" "LBuddyFiles$Home;", Cond.methodLink RX4 41 yX4_isOwner, Cond.static yX4_isOwner, Cond.initialized RX4, Cond.code yX4_isOwner cX4_isOwner 1 (some .boolean), Cond.methodLink RX4 92 yX2_usageOf, Cond.instanceMethod yX2_usageOf, Cond.selects RX2 yX2_usageOf yX2_usageOf, Cond.initialized RX2, Cond.code yX2_usageOf cX2_usageOf 4 (some .int), Cond.methodLink RX2 42 yX2_ownerOf, Cond.instanceMethod yX2_ownerOf, Cond.selects RX2 yX2_ownerOf yX2_ownerOf, Cond.code yX2_ownerOf cX2_ownerOf 2 (some .int), Cond.fieldLink RX2 9 "BuddyFiles$Home" "cells" "[I", Cond.methodLink RX2 45 yX2_blocksOf, Cond.instanceMethod yX2_blocksOf, Cond.selects RX2 yX2_blocksOf yX2_blocksOf, Cond.code yX2_blocksOf cX2_blocksOf 4 (some .int), Cond.methodLink RX2 33 yX2_extentOf, Cond.instanceMethod yX2_extentOf, Cond.selects RX2 yX2_extentOf yX2_extentOf, Cond.code yX2_extentOf cX2_extentOf 3 (some .int)]
def wsX4_setQuota_r2 : List Cond := [Cond.methodLink RX2 37 yX3_blocksOf, Cond.static yX3_blocksOf, Cond.initialized RX3, Cond.code yX3_blocksOf cX3_blocksOf 1 (some .int), Cond.methodLink RX3 9 yX3_orderOf, Cond.static yX3_orderOf, Cond.code yX3_orderOf cX3_orderOf 1 (some .int), Cond.methodLink RX4 95 yX2_putQuota, Cond.instanceMethod yX2_putQuota, Cond.selects RX2 yX2_putQuota yX2_putQuota, Cond.code yX2_putQuota cX2_putQuota 3 none]
def wsX4_setQuota : List Cond := .code yX4_setQuota cX4_setQuota 3 (some .int) :: ((wsX4_setQuota_r1 ++ wsX4_setQuota_r2) ++ wsX40 ++ wsX20)
def wsX4_usage_r1 : List Cond := [Cond.fieldLink RX4 33 "BuddyFiles" "up" "Z", Cond.fieldLink RX4 19 "BuddyFiles" "memory" "LBuddyFiles$Home;", Cond.methodLink RX4 41 yX4_isOwner, Cond.static yX4_isOwner, Cond.initialized RX4, Cond.code yX4_isOwner cX4_isOwner 1 (some .boolean), Cond.methodLink RX4 92 yX2_usageOf, Cond.instanceMethod yX2_usageOf, Cond.selects RX2 yX2_usageOf yX2_usageOf, Cond.initialized RX2, Cond.code yX2_usageOf cX2_usageOf 4 (some .int), Cond.methodLink RX2 42 yX2_ownerOf, Cond.instanceMethod yX2_ownerOf, Cond.selects RX2 yX2_ownerOf yX2_ownerOf, Cond.code yX2_ownerOf cX2_ownerOf 2 (some .int), Cond.fieldLink RX2 9 "BuddyFiles$Home" "cells" "[I", Cond.methodLink RX2 45 yX2_blocksOf, Cond.instanceMethod yX2_blocksOf, Cond.selects RX2 yX2_blocksOf yX2_blocksOf, Cond.code yX2_blocksOf cX2_blocksOf 4 (some .int), Cond.methodLink RX2 33 yX2_extentOf, Cond.instanceMethod yX2_extentOf, Cond.selects RX2 yX2_extentOf yX2_extentOf, Cond.code yX2_extentOf cX2_extentOf 3 (some .int)]
def wsX4_usage_r2 : List Cond := [Cond.methodLink RX2 37 yX3_blocksOf, Cond.static yX3_blocksOf, Cond.initialized RX3, Cond.code yX3_blocksOf cX3_blocksOf 1 (some .int), Cond.methodLink RX3 9 yX3_orderOf, Cond.static yX3_orderOf, Cond.code yX3_orderOf cX3_orderOf 1 (some .int)]
def wsX4_usage : List Cond := .code yX4_usage cX4_usage 2 (some .int) :: ((wsX4_usage_r1 ++ wsX4_usage_r2) ++ wsX40 ++ wsX20)
def wsX4_free : List Cond := .code yX4_free cX4_free 2 (some .int) :: ([.fieldLink RX4 33 "BuddyFiles" "up" "Z", .fieldLink RX4 19 "BuddyFiles" "memory" "LBuddyFiles$Home;", .methodLink RX4 98 yX2_freeRunsOf, .instanceMethod yX2_freeRunsOf, .selects RX2 yX2_freeRunsOf yX2_freeRunsOf, .initialized RX2, .code yX2_freeRunsOf cX2_freeRunsOf 4 (some .int), .methodLink RX2 83 yX2_isFreeRun, .instanceMethod yX2_isFreeRun, .selects RX2 yX2_isFreeRun yX2_isFreeRun, .code yX2_isFreeRun cX2_isFreeRun 5 (some .boolean), .fieldLink RX2 9 "BuddyFiles$Home" "cells" "[I", .methodLink RX2 87 yX3_mapBits, .static yX3_mapBits, .initialized RX3, .code yX3_mapBits cX3_mapBits 2 (some .int)] ++ wsX40 ++ wsX20)
def wsX4_isChanged : List Cond := .code yX4_isChanged cX4_isChanged 2 (some .boolean) :: ([.fieldLink RX4 10 "BuddyFiles" "disk" "LBuddyFiles$Disk;", .fieldLink RX4 125 "BuddyFiles$Disk" "cells" "[I", .fieldLink RX4 19 "BuddyFiles" "memory" "LBuddyFiles$Home;", .fieldLink RX4 141 "BuddyFiles$Home" "cells" "[I"] ++ wsX40 ++ wsX10 ++ wsX20)
def wsX4_countChanges : List Cond := .code yX4_countChanges cX4_countChanges 3 (some .int) :: ([.methodLink RX4 148 yX4_isChanged, .instanceMethod yX4_isChanged, .selects RX4 yX4_isChanged yX4_isChanged, .initialized RX4, .code yX4_isChanged cX4_isChanged 2 (some .boolean), .fieldLink RX4 10 "BuddyFiles" "disk" "LBuddyFiles$Disk;", .fieldLink RX4 125 "BuddyFiles$Disk" "cells" "[I", .fieldLink RX4 19 "BuddyFiles" "memory" "LBuddyFiles$Home;", .fieldLink RX4 141 "BuddyFiles$Home" "cells" "[I"] ++ wsX40 ++ wsX10 ++ wsX20)
def wsX4_writeCell : List Cond := .code yX4_writeCell cX4_writeCell 3 (some .boolean) :: ([.fieldLink RX4 115 "BuddyFiles" "fuse" "I", .fieldLink RX4 10 "BuddyFiles" "disk" "LBuddyFiles$Disk;", .fieldLink RX4 125 "BuddyFiles$Disk" "cells" "[I"] ++ wsX40 ++ wsX10)
def wsX4_writeJournal : List Cond := .code yX4_writeJournal cX4_writeJournal 6 (some .boolean) :: ([.fieldLink RX4 19 "BuddyFiles" "memory" "LBuddyFiles$Home;", .fieldLink RX4 141 "BuddyFiles$Home" "cells" "[I", .methodLink RX4 148 yX4_isChanged, .instanceMethod yX4_isChanged, .selects RX4 yX4_isChanged yX4_isChanged, .initialized RX4, .code yX4_isChanged cX4_isChanged 2 (some .boolean), .fieldLink RX4 10 "BuddyFiles" "disk" "LBuddyFiles$Disk;", .fieldLink RX4 125 "BuddyFiles$Disk" "cells" "[I", .methodLink RX4 111 yX4_writeCell, .instanceMethod yX4_writeCell, .selects RX4 yX4_writeCell yX4_writeCell, .code yX4_writeCell cX4_writeCell 3 (some .boolean), .fieldLink RX4 115 "BuddyFiles" "fuse" "I", .methodLink RX4 151 yX1_nextCheck, .static yX1_nextCheck, .initialized RX1, .code yX1_nextCheck cX1_nextCheck 3 (some .int)] ++ wsX40 ++ wsX20 ++ wsX10)
def wsX4_writeHome : List Cond := .code yX4_writeHome cX4_writeHome 2 (some .boolean) :: ([.fieldLink RX4 19 "BuddyFiles" "memory" "LBuddyFiles$Home;", .fieldLink RX4 141 "BuddyFiles$Home" "cells" "[I", .methodLink RX4 148 yX4_isChanged, .instanceMethod yX4_isChanged, .selects RX4 yX4_isChanged yX4_isChanged, .initialized RX4, .code yX4_isChanged cX4_isChanged 2 (some .boolean), .fieldLink RX4 10 "BuddyFiles" "disk" "LBuddyFiles$Disk;", .fieldLink RX4 125 "BuddyFiles$Disk" "cells" "[I", .methodLink RX4 111 yX4_writeCell, .instanceMethod yX4_writeCell, .selects RX4 yX4_writeCell yX4_writeCell, .code yX4_writeCell cX4_writeCell 3 (some .boolean), .fieldLink RX4 115 "BuddyFiles" "fuse" "I"] ++ wsX40 ++ wsX20 ++ wsX10)
def wsX4_sync_r1 : List Cond := [Cond.fieldLink RX4 33 "BuddyFiles" "up" "Z", Cond.methodLink RX4 101 yX4_countChanges, Cond.instanceMethod yX4_countChanges, Cond.selects RX4 yX4_countChanges yX4_countChanges, Cond.initialized RX4, Cond.code yX4_countChanges cX4_countChanges 3 (some .int), Cond.methodLink RX4 148 yX4_isChanged, Cond.instanceMethod yX4_isChanged, Cond.selects RX4 yX4_isChanged yX4_isChanged, Cond.code yX4_isChanged cX4_isChanged 2 (some .boolean), Cond.fieldLink RX4 10 "BuddyFiles" "disk" "LBuddyFiles$Disk;", Cond.fieldLink RX4 125 "BuddyFiles$Disk" "cells" "[I", Cond.fieldLink RX4 19 "BuddyFiles" "memory" "LBuddyFiles$Home;", Cond.fieldLink RX4 141 "BuddyFiles$Home" "cells" "[I", Cond.methodLink RX4 104 yX4_writeJournal, Cond.instanceMethod yX4_writeJournal, Cond.selects RX4 yX4_writeJournal yX4_writeJournal, Cond.code yX4_writeJournal cX4_writeJournal 6 (some .boolean), Cond.methodLink RX4 111 yX4_writeCell, Cond.instanceMethod yX4_writeCell, Cond.selects RX4 yX4_writeCell yX4_writeCell, Cond.code yX4_writeCell cX4_writeCell 3 (some .boolean), Cond.fieldLink RX4 115 "BuddyFiles" "fuse" "I", Cond.methodLink RX4 151 yX1_nextCheck]
def wsX4_sync_r2 : List Cond := [Cond.static yX1_nextCheck, Cond.initialized RX1, Cond.code yX1_nextCheck cX1_nextCheck 3 (some .int), Cond.methodLink RX4 107 yX4_writeHome, Cond.instanceMethod yX4_writeHome, Cond.selects RX4 yX4_writeHome yX4_writeHome, Cond.code yX4_writeHome cX4_writeHome 2 (some .boolean)]
def wsX4_sync : List Cond := .code yX4_sync cX4_sync 2 (some .int) :: ((wsX4_sync_r1 ++ wsX4_sync_r2) ++ wsX40 ++ wsX10 ++ wsX20)
def wsX4_crashAfter : List Cond := .code yX4_crashAfter cX4_crashAfter 2 (some .boolean) :: ([.fieldLink RX4 33 "BuddyFiles" "up" "Z", .fieldLink RX4 115 "BuddyFiles" "fuse" "I"] ++ wsX40)
def wsX4_mount_r1 : List Cond := [Cond.fieldLink RX4 33 "BuddyFiles" "up" "Z", Cond.fieldLink RX4 10 "BuddyFiles" "disk" "LBuddyFiles$Disk;", Cond.fieldLink RX4 23 "BuddyFiles" "judged" "LBuddyFiles$Home;", Cond.fieldLink RX4 125 "BuddyFiles$Disk" "cells" "[I", Cond.fieldLink RX4 19 "BuddyFiles" "memory" "LBuddyFiles$Home;", Cond.methodLink RX4 119 yX1_journalHolds, Cond.instanceMethod yX1_journalHolds, Cond.selects RX1 yX1_journalHolds yX1_journalHolds, Cond.initialized RX1, Cond.code yX1_journalHolds cX1_journalHolds 6 (some .boolean), Cond.fieldLink RX1 9 "BuddyFiles$Disk" "cells" "[I", Cond.methodLink RX1 15 yX1_nextCheck, Cond.static yX1_nextCheck, Cond.code yX1_nextCheck cX1_nextCheck 3 (some .int), Cond.methodLink RX4 122 yX1_replayJournal, Cond.instanceMethod yX1_replayJournal, Cond.selects RX1 yX1_replayJournal yX1_replayJournal, Cond.code yX1_replayJournal cX1_replayJournal 1 none, Cond.methodLink RX1 19 yX1_replayInto, Cond.instanceMethod yX1_replayInto, Cond.selects RX1 yX1_replayInto yX1_replayInto, Cond.code yX1_replayInto cX1_replayInto 4 none, Cond.methodLink RX4 128 yX2_copyFrom, Cond.instanceMethod yX2_copyFrom]
def wsX4_mount_r2 : List Cond := [Cond.selects RX2 yX2_copyFrom yX2_copyFrom, Cond.initialized RX2, Cond.code yX2_copyFrom cX2_copyFrom 2 none, Cond.fieldLink RX2 9 "BuddyFiles$Home" "cells" "[I", Cond.methodLink RX2 15 arraycopyName, Cond.native arraycopyName, Cond.static arraycopyName, Cond.initialized "java/lang/System", Cond.methodLink RX4 132 yX0_leastBroken, Cond.static yX0_leastBroken, Cond.initialized RX0, Cond.code yX0_leastBroken cX0_leastBroken 1 (some .int), Cond.fieldLink RX0 27 "BuddyFiles$Home" "cells" "[I", Cond.methodLink RX0 9 yX0_slotsAreInRange, Cond.static yX0_slotsAreInRange, Cond.code yX0_slotsAreInRange cX0_slotsAreInRange 2 (some .boolean), Cond.methodLink RX0 43 yX2_nameOf, Cond.instanceMethod yX2_nameOf, Cond.selects RX2 yX2_nameOf yX2_nameOf, Cond.code yX2_nameOf cX2_nameOf 2 (some .int), Cond.methodLink RX0 47 yX0_isIn, Cond.static yX0_isIn, Cond.code yX0_isIn cX0_isIn 3 (some .boolean), Cond.methodLink RX0 51 yX2_ownerOf]
def wsX4_mount_r3 : List Cond := [Cond.instanceMethod yX2_ownerOf, Cond.selects RX2 yX2_ownerOf yX2_ownerOf, Cond.code yX2_ownerOf cX2_ownerOf 2 (some .int), Cond.methodLink RX0 54 yX2_lengthOf, Cond.instanceMethod yX2_lengthOf, Cond.selects RX2 yX2_lengthOf yX2_lengthOf, Cond.code yX2_lengthOf cX2_lengthOf 2 (some .int), Cond.methodLink RX0 57 yX0_isAllZero, Cond.static yX0_isAllZero, Cond.code yX0_isAllZero cX0_isAllZero 3 (some .boolean), Cond.methodLink RX0 15 yX0_namesDiffer, Cond.static yX0_namesDiffer, Cond.code yX0_namesDiffer cX0_namesDiffer 3 (some .boolean), Cond.methodLink RX0 18 yX0_extentsAreRuns, Cond.static yX0_extentsAreRuns, Cond.code yX0_extentsAreRuns cX0_extentsAreRuns 5 (some .boolean), Cond.methodLink RX0 61 yX2_extentOf, Cond.instanceMethod yX2_extentOf, Cond.selects RX2 yX2_extentOf yX2_extentOf, Cond.code yX2_extentOf cX2_extentOf 3 (some .int), Cond.methodLink RX0 65 yX3_isRun, Cond.static yX3_isRun, Cond.initialized RX3, Cond.code yX3_isRun cX3_isRun 1 (some .boolean)]
def wsX4_mount_r4 : List Cond := [Cond.methodLink RX3 15 yX3_cellOf, Cond.static yX3_cellOf, Cond.code yX3_cellOf cX3_cellOf 2 (some .int), Cond.methodLink RX3 19 yX3_firstOf, Cond.static yX3_firstOf, Cond.code yX3_firstOf cX3_firstOf 1 (some .int), Cond.methodLink RX3 22 yX3_blocksOf, Cond.static yX3_blocksOf, Cond.code yX3_blocksOf cX3_blocksOf 1 (some .int), Cond.methodLink RX3 9 yX3_orderOf, Cond.static yX3_orderOf, Cond.code yX3_orderOf cX3_orderOf 1 (some .int), Cond.methodLink RX0 21 yX0_runsAreApart, Cond.static yX0_runsAreApart, Cond.code yX0_runsAreApart cX0_runsAreApart 5 (some .boolean), Cond.methodLink RX0 71 yX3_bitsOf, Cond.static yX3_bitsOf, Cond.code yX3_bitsOf cX3_bitsOf 1 (some .int), Cond.methodLink RX3 25 yX3_mapBits, Cond.static yX3_mapBits, Cond.code yX3_mapBits cX3_mapBits 2 (some .int), Cond.methodLink RX0 24 yX0_runsFitLengths, Cond.static yX0_runsFitLengths, Cond.code yX0_runsFitLengths cX0_runsFitLengths 5 (some .boolean)]
def wsX4_mount_r5 : List Cond := [Cond.methodLink RX0 74 yX2_needOf, Cond.static yX2_needOf, Cond.code yX2_needOf cX2_needOf 1 (some .int), Cond.methodLink RX0 77 yX2_blocksOf, Cond.instanceMethod yX2_blocksOf, Cond.selects RX2 yX2_blocksOf yX2_blocksOf, Cond.code yX2_blocksOf cX2_blocksOf 4 (some .int), Cond.methodLink RX2 33 yX2_extentOf, Cond.methodLink RX2 37 yX3_blocksOf, Cond.methodLink RX0 80 yX2_runsOf, Cond.instanceMethod yX2_runsOf, Cond.selects RX2 yX2_runsOf yX2_runsOf, Cond.code yX2_runsOf cX2_runsOf 4 (some .int), Cond.methodLink RX0 83 yX3_blocksOf, Cond.methodLink RX0 33 yX0_bitsOfAllRuns, Cond.static yX0_bitsOfAllRuns, Cond.code yX0_bitsOfAllRuns cX0_bitsOfAllRuns 4 (some .int), Cond.methodLink RX0 37 yX0_quotasCoverUsage, Cond.static yX0_quotasCoverUsage, Cond.code yX0_quotasCoverUsage cX0_quotasCoverUsage 2 (some .boolean), Cond.methodLink RX0 84 yX2_quotaOf, Cond.instanceMethod yX2_quotaOf, Cond.selects RX2 yX2_quotaOf yX2_quotaOf, Cond.code yX2_quotaOf cX2_quotaOf 2 (some .int)]
def wsX4_mount_r6 : List Cond := [Cond.methodLink RX0 87 yX2_usageOf, Cond.instanceMethod yX2_usageOf, Cond.selects RX2 yX2_usageOf yX2_usageOf, Cond.code yX2_usageOf cX2_usageOf 4 (some .int), Cond.methodLink RX2 42 yX2_ownerOf, Cond.methodLink RX2 45 yX2_blocksOf, Cond.methodLink RX0 40 yX0_looseWordsAreZero, Cond.static yX0_looseWordsAreZero, Cond.code yX0_looseWordsAreZero cX0_looseWordsAreZero 4 (some .boolean), Cond.methodLink RX0 90 yX0_bitsOfWords, Cond.static yX0_bitsOfWords, Cond.code yX0_bitsOfWords cX0_bitsOfWords 7 (some .long), Cond.methodLink RX0 94 yX2_wordIndex, Cond.instanceMethod yX2_wordIndex, Cond.selects RX2 yX2_wordIndex yX2_wordIndex, Cond.code yX2_wordIndex cX2_wordIndex 7 (some .int), Cond.methodLink RX2 46 yX3_firstOf, Cond.methodLink RX4 138 yX4_goUp, Cond.instanceMethod yX4_goUp, Cond.selects RX4 yX4_goUp yX4_goUp, Cond.initialized RX4, Cond.code yX4_goUp cX4_goUp 2 none, Cond.fieldLink RX4 26 "BuddyFiles" "slotOfHandle" "[I", Cond.fieldLink RX4 115 "BuddyFiles" "fuse" "I"]
def wsX4_mount : List Cond := .code yX4_mount cX4_mount 1 (some .int) :: ((wsX4_mount_r1 ++ (wsX4_mount_r2 ++ (wsX4_mount_r3 ++ (wsX4_mount_r4 ++ (wsX4_mount_r5 ++ wsX4_mount_r6))))) ++ wsX40 ++ wsX10 ++ wsX20)
def wsX4_corrupt : List Cond := .code yX4_corrupt cX4_corrupt 3 (some .boolean) :: ([.fieldLink RX4 33 "BuddyFiles" "up" "Z", .fieldLink RX4 10 "BuddyFiles" "disk" "LBuddyFiles$Disk;", .fieldLink RX4 125 "BuddyFiles$Disk" "cells" "[I"] ++ wsX40 ++ wsX10)
def wsX4_fsck_r1 : List Cond := [Cond.fieldLink RX4 23 "BuddyFiles" "judged" "LBuddyFiles$Home;", Cond.fieldLink RX4 10 "BuddyFiles" "disk" "LBuddyFiles$Disk;", Cond.fieldLink RX4 125 "BuddyFiles$Disk" "cells" "[I", Cond.fieldLink RX4 141 "BuddyFiles$Home" "cells" "[I", Cond.methodLink RX4 128 yX2_copyFrom, Cond.instanceMethod yX2_copyFrom, Cond.selects RX2 yX2_copyFrom yX2_copyFrom, Cond.initialized RX2, Cond.code yX2_copyFrom cX2_copyFrom 2 none, Cond.fieldLink RX2 9 "BuddyFiles$Home" "cells" "[I", Cond.methodLink RX2 15 arraycopyName, Cond.native arraycopyName, Cond.static arraycopyName, Cond.initialized "java/lang/System", Cond.methodLink RX4 119 yX1_journalHolds, Cond.instanceMethod yX1_journalHolds, Cond.selects RX1 yX1_journalHolds yX1_journalHolds, Cond.initialized RX1, Cond.code yX1_journalHolds cX1_journalHolds 6 (some .boolean), Cond.fieldLink RX1 9 "BuddyFiles$Disk" "cells" "[I", Cond.methodLink RX1 15 yX1_nextCheck, Cond.static yX1_nextCheck, Cond.code yX1_nextCheck cX1_nextCheck 3 (some .int), Cond.methodLink RX4 142 yX1_replayInto]
def wsX4_fsck_r2 : List Cond := [Cond.instanceMethod yX1_replayInto, Cond.selects RX1 yX1_replayInto yX1_replayInto, Cond.code yX1_replayInto cX1_replayInto 4 none, Cond.methodLink RX4 132 yX0_leastBroken, Cond.static yX0_leastBroken, Cond.initialized RX0, Cond.code yX0_leastBroken cX0_leastBroken 1 (some .int), Cond.fieldLink RX0 27 "BuddyFiles$Home" "cells" "[I", Cond.methodLink RX0 9 yX0_slotsAreInRange, Cond.static yX0_slotsAreInRange, Cond.code yX0_slotsAreInRange cX0_slotsAreInRange 2 (some .boolean), Cond.methodLink RX0 43 yX2_nameOf, Cond.instanceMethod yX2_nameOf, Cond.selects RX2 yX2_nameOf yX2_nameOf, Cond.code yX2_nameOf cX2_nameOf 2 (some .int), Cond.methodLink RX0 47 yX0_isIn, Cond.static yX0_isIn, Cond.code yX0_isIn cX0_isIn 3 (some .boolean), Cond.methodLink RX0 51 yX2_ownerOf, Cond.instanceMethod yX2_ownerOf, Cond.selects RX2 yX2_ownerOf yX2_ownerOf, Cond.code yX2_ownerOf cX2_ownerOf 2 (some .int), Cond.methodLink RX0 54 yX2_lengthOf, Cond.instanceMethod yX2_lengthOf]
def wsX4_fsck_r3 : List Cond := [Cond.selects RX2 yX2_lengthOf yX2_lengthOf, Cond.code yX2_lengthOf cX2_lengthOf 2 (some .int), Cond.methodLink RX0 57 yX0_isAllZero, Cond.static yX0_isAllZero, Cond.code yX0_isAllZero cX0_isAllZero 3 (some .boolean), Cond.methodLink RX0 15 yX0_namesDiffer, Cond.static yX0_namesDiffer, Cond.code yX0_namesDiffer cX0_namesDiffer 3 (some .boolean), Cond.methodLink RX0 18 yX0_extentsAreRuns, Cond.static yX0_extentsAreRuns, Cond.code yX0_extentsAreRuns cX0_extentsAreRuns 5 (some .boolean), Cond.methodLink RX0 61 yX2_extentOf, Cond.instanceMethod yX2_extentOf, Cond.selects RX2 yX2_extentOf yX2_extentOf, Cond.code yX2_extentOf cX2_extentOf 3 (some .int), Cond.methodLink RX0 65 yX3_isRun, Cond.static yX3_isRun, Cond.initialized RX3, Cond.code yX3_isRun cX3_isRun 1 (some .boolean), Cond.methodLink RX3 15 yX3_cellOf, Cond.static yX3_cellOf, Cond.code yX3_cellOf cX3_cellOf 2 (some .int), Cond.methodLink RX3 19 yX3_firstOf, Cond.static yX3_firstOf]
def wsX4_fsck_r4 : List Cond := [Cond.code yX3_firstOf cX3_firstOf 1 (some .int), Cond.methodLink RX3 22 yX3_blocksOf, Cond.static yX3_blocksOf, Cond.code yX3_blocksOf cX3_blocksOf 1 (some .int), Cond.methodLink RX3 9 yX3_orderOf, Cond.static yX3_orderOf, Cond.code yX3_orderOf cX3_orderOf 1 (some .int), Cond.methodLink RX0 21 yX0_runsAreApart, Cond.static yX0_runsAreApart, Cond.code yX0_runsAreApart cX0_runsAreApart 5 (some .boolean), Cond.methodLink RX0 71 yX3_bitsOf, Cond.static yX3_bitsOf, Cond.code yX3_bitsOf cX3_bitsOf 1 (some .int), Cond.methodLink RX3 25 yX3_mapBits, Cond.static yX3_mapBits, Cond.code yX3_mapBits cX3_mapBits 2 (some .int), Cond.methodLink RX0 24 yX0_runsFitLengths, Cond.static yX0_runsFitLengths, Cond.code yX0_runsFitLengths cX0_runsFitLengths 5 (some .boolean), Cond.methodLink RX0 74 yX2_needOf, Cond.static yX2_needOf, Cond.code yX2_needOf cX2_needOf 1 (some .int), Cond.methodLink RX0 77 yX2_blocksOf, Cond.instanceMethod yX2_blocksOf]
def wsX4_fsck_r5 : List Cond := [Cond.selects RX2 yX2_blocksOf yX2_blocksOf, Cond.code yX2_blocksOf cX2_blocksOf 4 (some .int), Cond.methodLink RX2 33 yX2_extentOf, Cond.methodLink RX2 37 yX3_blocksOf, Cond.methodLink RX0 80 yX2_runsOf, Cond.instanceMethod yX2_runsOf, Cond.selects RX2 yX2_runsOf yX2_runsOf, Cond.code yX2_runsOf cX2_runsOf 4 (some .int), Cond.methodLink RX0 83 yX3_blocksOf, Cond.methodLink RX0 33 yX0_bitsOfAllRuns, Cond.static yX0_bitsOfAllRuns, Cond.code yX0_bitsOfAllRuns cX0_bitsOfAllRuns 4 (some .int), Cond.methodLink RX0 37 yX0_quotasCoverUsage, Cond.static yX0_quotasCoverUsage, Cond.code yX0_quotasCoverUsage cX0_quotasCoverUsage 2 (some .boolean), Cond.methodLink RX0 84 yX2_quotaOf, Cond.instanceMethod yX2_quotaOf, Cond.selects RX2 yX2_quotaOf yX2_quotaOf, Cond.code yX2_quotaOf cX2_quotaOf 2 (some .int), Cond.methodLink RX0 87 yX2_usageOf, Cond.instanceMethod yX2_usageOf, Cond.selects RX2 yX2_usageOf yX2_usageOf, Cond.code yX2_usageOf cX2_usageOf 4 (some .int), Cond.methodLink RX2 42 yX2_ownerOf]
def wsX4_fsck_r6 : List Cond := [Cond.methodLink RX2 45 yX2_blocksOf, Cond.methodLink RX0 40 yX0_looseWordsAreZero, Cond.static yX0_looseWordsAreZero, Cond.code yX0_looseWordsAreZero cX0_looseWordsAreZero 4 (some .boolean), Cond.methodLink RX0 90 yX0_bitsOfWords, Cond.static yX0_bitsOfWords, Cond.code yX0_bitsOfWords cX0_bitsOfWords 7 (some .long), Cond.methodLink RX0 94 yX2_wordIndex, Cond.instanceMethod yX2_wordIndex, Cond.selects RX2 yX2_wordIndex yX2_wordIndex, Cond.code yX2_wordIndex cX2_wordIndex 7 (some .int), Cond.methodLink RX2 46 yX3_firstOf]
def wsX4_fsck : List Cond := .code yX4_fsck cX4_fsck 1 (some .int) :: ((wsX4_fsck_r1 ++ (wsX4_fsck_r2 ++ (wsX4_fsck_r3 ++ (wsX4_fsck_r4 ++ (wsX4_fsck_r5 ++ wsX4_fsck_r6))))) ++ wsX40 ++ wsX10 ++ wsX20)
def wsX4_peek : List Cond := .code yX4_peek cX4_peek 2 (some .int) :: ([.fieldLink RX4 10 "BuddyFiles" "disk" "LBuddyFiles$Disk;", .fieldLink RX4 125 "BuddyFiles$Disk" "cells" "[I"] ++ wsX40 ++ wsX10)
def wsX5_within : List Cond := .code yX5_within cX5_within 3 (some .boolean) :: ([])
def wsX5_format : List Cond := .code yX5_format cX5_format 2 none :: ([.fieldLink RX5 7 "BuddyFilesModel" "disk" "[I", .fieldLink RX5 13 "BuddyFilesModel" "mem" "[I", .fieldLink RX5 42 "BuddyFilesModel" "up" "Z", .fieldLink RX5 46 "BuddyFilesModel" "fuse" "I", .fieldLink RX5 16 "BuddyFilesModel" "handle" "[I", .methodLink RX5 38 yX5_within, .static yX5_within, .initialized RX5, .code yX5_within cX5_within 3 (some .boolean)] ++ wsX50)
def wsX5_init : List Cond := .code yX5_init cX5_init 1 none :: ([.methodLink RX5 1 objectInit, .instanceMethod objectInit, .code objectInit ⟨#[0xb1]⟩ 1 none, .arrayClass .int, .fieldLink RX5 7 "BuddyFilesModel" "disk" "[I", .fieldLink RX5 13 "BuddyFilesModel" "mem" "[I", .fieldLink RX5 16 "BuddyFilesModel" "handle" "[I", .fieldLink RX5 19 "BuddyFilesModel" "home" "[I", .fieldLink RX5 22 "BuddyFilesModel" "times" "[I", .arrayClass .boolean, .fieldLink RX5 25 "BuddyFilesModel" "belongs" "[Z", .fieldLink RX5 29 "BuddyFilesModel" "tryExtent" "[I", .fieldLink RX5 32 "BuddyFilesModel" "changed" "[I", .methodLink RX5 35 yX5_format, .instanceMethod yX5_format, .selects RX5 yX5_format yX5_format, .initialized RX5, .code yX5_format cX5_format 2 none, .fieldLink RX5 42 "BuddyFilesModel" "up" "Z", .fieldLink RX5 46 "BuddyFilesModel" "fuse" "I", .methodLink RX5 38 yX5_within, .static yX5_within, .code yX5_within cX5_within 3 (some .boolean)] ++ wsX50)
def wsX5_start : List Cond := .code yX5_start cX5_start 1 (some .int) :: ([])
def wsX5_order : List Cond := .code yX5_order cX5_order 1 (some .int) :: ([])
def wsX5_size : List Cond := .code yX5_size cX5_size 1 (some .int) :: ([.methodLink RX5 50 yX5_order, .static yX5_order, .initialized RX5, .code yX5_order cX5_order 1 (some .int)])
def wsX5_isRun : List Cond := .code yX5_isRun cX5_isRun 1 (some .boolean) :: ([.methodLink RX5 38 yX5_within, .static yX5_within, .initialized RX5, .code yX5_within cX5_within 3 (some .boolean), .methodLink RX5 54 yX5_start, .static yX5_start, .code yX5_start cX5_start 1 (some .int), .methodLink RX5 50 yX5_order, .static yX5_order, .code yX5_order cX5_order 1 (some .int)])
def wsX5_allFree : List Cond := .code yX5_allFree cX5_allFree 5 (some .boolean) :: ([])
def wsX5_isFree : List Cond := .code yX5_isFree cX5_isFree 4 (some .boolean) :: ([.methodLink RX5 57 yX5_allFree, .static yX5_allFree, .initialized RX5, .code yX5_allFree cX5_allFree 5 (some .boolean)])
def wsX5_countFree : List Cond := .code yX5_countFree cX5_countFree 4 (some .int) :: ([.methodLink RX5 60 yX5_isFree, .static yX5_isFree, .initialized RX5, .code yX5_isFree cX5_isFree 4 (some .boolean), .methodLink RX5 57 yX5_allFree, .static yX5_allFree, .code yX5_allFree cX5_allFree 5 (some .boolean)])
def wsX5_place : List Cond := .code yX5_place cX5_place 4 (some .int) :: ([.methodLink RX5 60 yX5_isFree, .static yX5_isFree, .initialized RX5, .code yX5_isFree cX5_isFree 4 (some .boolean), .methodLink RX5 57 yX5_allFree, .static yX5_allFree, .code yX5_allFree cX5_allFree 5 (some .boolean)])
def wsX5_bits : List Cond := .code yX5_bits cX5_bits 4 (some .int) :: ([])
def wsX5_extentOf : List Cond := .code yX5_extentOf cX5_extentOf 3 (some .int) :: ([.fieldLink RX5 13 "BuddyFilesModel" "mem" "[I"] ++ wsX50)
def wsX5_blocks : List Cond := .code yX5_blocks cX5_blocks 4 (some .int) :: ([.methodLink RX5 63 yX5_extentOf, .instanceMethod yX5_extentOf, .selects RX5 yX5_extentOf yX5_extentOf, .initialized RX5, .code yX5_extentOf cX5_extentOf 3 (some .int), .fieldLink RX5 13 "BuddyFilesModel" "mem" "[I", .methodLink RX5 67 yX5_size, .static yX5_size, .code yX5_size cX5_size 1 (some .int), .methodLink RX5 50 yX5_order, .static yX5_order, .code yX5_order cX5_order 1 (some .int)] ++ wsX50)
def wsX5_runs : List Cond := .code yX5_runs cX5_runs 3 (some .int) :: ([.methodLink RX5 63 yX5_extentOf, .instanceMethod yX5_extentOf, .selects RX5 yX5_extentOf yX5_extentOf, .initialized RX5, .code yX5_extentOf cX5_extentOf 3 (some .int), .fieldLink RX5 13 "BuddyFilesModel" "mem" "[I"] ++ wsX50)
def wsX5_used : List Cond := .code yX5_used cX5_used 4 (some .int) :: ([.fieldLink RX5 13 "BuddyFilesModel" "mem" "[I", .methodLink RX5 70 yX5_blocks, .instanceMethod yX5_blocks, .selects RX5 yX5_blocks yX5_blocks, .initialized RX5, .code yX5_blocks cX5_blocks 4 (some .int), .methodLink RX5 63 yX5_extentOf, .instanceMethod yX5_extentOf, .selects RX5 yX5_extentOf yX5_extentOf, .code yX5_extentOf cX5_extentOf 3 (some .int), .methodLink RX5 67 yX5_size, .static yX5_size, .code yX5_size cX5_size 1 (some .int), .methodLink RX5 50 yX5_order, .static yX5_order, .code yX5_order cX5_order 1 (some .int)] ++ wsX50)
def wsX5_slotOf : List Cond := .code yX5_slotOf cX5_slotOf 3 (some .int) :: ([.fieldLink RX5 13 "BuddyFilesModel" "mem" "[I"] ++ wsX50)
def wsX5_wordCell : List Cond := .code yX5_wordCell cX5_wordCell 7 (some .int) :: ([.methodLink RX5 63 yX5_extentOf, .instanceMethod yX5_extentOf, .selects RX5 yX5_extentOf yX5_extentOf, .initialized RX5, .code yX5_extentOf cX5_extentOf 3 (some .int), .fieldLink RX5 13 "BuddyFilesModel" "mem" "[I", .methodLink RX5 67 yX5_size, .static yX5_size, .code yX5_size cX5_size 1 (some .int), .methodLink RX5 50 yX5_order, .static yX5_order, .code yX5_order cX5_order 1 (some .int), .methodLink RX5 54 yX5_start, .static yX5_start, .code yX5_start cX5_start 1 (some .int)] ++ wsX50)
def wsX5_tryGrow_r1 : List Cond := [Cond.fieldLink RX5 13 "BuddyFilesModel" "mem" "[I", Cond.fieldLink RX5 73 "BuddyFilesModel" "tryMap" "I", Cond.fieldLink RX5 79 "BuddyFilesModel" "tryCount" "I", Cond.fieldLink RX5 29 "BuddyFilesModel" "tryExtent" "[I", Cond.methodLink RX5 70 yX5_blocks, Cond.instanceMethod yX5_blocks, Cond.selects RX5 yX5_blocks yX5_blocks, Cond.initialized RX5, Cond.code yX5_blocks cX5_blocks 4 (some .int), Cond.methodLink RX5 63 yX5_extentOf, Cond.instanceMethod yX5_extentOf, Cond.selects RX5 yX5_extentOf yX5_extentOf, Cond.code yX5_extentOf cX5_extentOf 3 (some .int), Cond.methodLink RX5 67 yX5_size, Cond.static yX5_size, Cond.code yX5_size cX5_size 1 (some .int), Cond.methodLink RX5 50 yX5_order, Cond.static yX5_order, Cond.code yX5_order cX5_order 1 (some .int), Cond.methodLink RX5 76 yX5_runs, Cond.instanceMethod yX5_runs, Cond.selects RX5 yX5_runs yX5_runs, Cond.code yX5_runs cX5_runs 3 (some .int), Cond.methodLink RX5 82 yX5_place]
def wsX5_tryGrow_r2 : List Cond := [Cond.static yX5_place, Cond.code yX5_place cX5_place 4 (some .int), Cond.methodLink RX5 60 yX5_isFree, Cond.static yX5_isFree, Cond.code yX5_isFree cX5_isFree 4 (some .boolean), Cond.methodLink RX5 57 yX5_allFree, Cond.static yX5_allFree, Cond.code yX5_allFree cX5_allFree 5 (some .boolean), Cond.methodLink RX5 85 yX5_bits, Cond.static yX5_bits, Cond.code yX5_bits cX5_bits 4 (some .int), Cond.methodLink RX5 88 yX5_used, Cond.instanceMethod yX5_used, Cond.selects RX5 yX5_used yX5_used, Cond.code yX5_used cX5_used 4 (some .int)]
def wsX5_tryGrow : List Cond := .code yX5_tryGrow cX5_tryGrow 7 (some .int) :: ((wsX5_tryGrow_r1 ++ wsX5_tryGrow_r2) ++ wsX50)
def wsX5_grow_r1 : List Cond := [Cond.fieldLink RX5 13 "BuddyFilesModel" "mem" "[I", Cond.fieldLink RX5 29 "BuddyFilesModel" "tryExtent" "[I", Cond.fieldLink RX5 73 "BuddyFilesModel" "tryMap" "I", Cond.methodLink RX5 91 yX5_tryGrow, Cond.instanceMethod yX5_tryGrow, Cond.selects RX5 yX5_tryGrow yX5_tryGrow, Cond.initialized RX5, Cond.code yX5_tryGrow cX5_tryGrow 7 (some .int), Cond.fieldLink RX5 79 "BuddyFilesModel" "tryCount" "I", Cond.methodLink RX5 70 yX5_blocks, Cond.instanceMethod yX5_blocks, Cond.selects RX5 yX5_blocks yX5_blocks, Cond.code yX5_blocks cX5_blocks 4 (some .int), Cond.methodLink RX5 63 yX5_extentOf, Cond.instanceMethod yX5_extentOf, Cond.selects RX5 yX5_extentOf yX5_extentOf, Cond.code yX5_extentOf cX5_extentOf 3 (some .int), Cond.methodLink RX5 67 yX5_size, Cond.static yX5_size, Cond.code yX5_size cX5_size 1 (some .int), Cond.methodLink RX5 50 yX5_order, Cond.static yX5_order, Cond.code yX5_order cX5_order 1 (some .int), Cond.methodLink RX5 76 yX5_runs]
def wsX5_grow_r2 : List Cond := [Cond.instanceMethod yX5_runs, Cond.selects RX5 yX5_runs yX5_runs, Cond.code yX5_runs cX5_runs 3 (some .int), Cond.methodLink RX5 82 yX5_place, Cond.static yX5_place, Cond.code yX5_place cX5_place 4 (some .int), Cond.methodLink RX5 60 yX5_isFree, Cond.static yX5_isFree, Cond.code yX5_isFree cX5_isFree 4 (some .boolean), Cond.methodLink RX5 57 yX5_allFree, Cond.static yX5_allFree, Cond.code yX5_allFree cX5_allFree 5 (some .boolean), Cond.methodLink RX5 85 yX5_bits, Cond.static yX5_bits, Cond.code yX5_bits cX5_bits 4 (some .int), Cond.methodLink RX5 88 yX5_used, Cond.instanceMethod yX5_used, Cond.selects RX5 yX5_used yX5_used, Cond.code yX5_used cX5_used 4 (some .int)]
def wsX5_grow : List Cond := .code yX5_grow cX5_grow 5 (some .int) :: ((wsX5_grow_r1 ++ wsX5_grow_r2) ++ wsX50)
def wsX5_giveBack : List Cond := .code yX5_giveBack cX5_giveBack 5 none :: ([.fieldLink RX5 13 "BuddyFilesModel" "mem" "[I", .methodLink RX5 76 yX5_runs, .instanceMethod yX5_runs, .selects RX5 yX5_runs yX5_runs, .initialized RX5, .code yX5_runs cX5_runs 3 (some .int), .methodLink RX5 63 yX5_extentOf, .instanceMethod yX5_extentOf, .selects RX5 yX5_extentOf yX5_extentOf, .code yX5_extentOf cX5_extentOf 3 (some .int), .methodLink RX5 54 yX5_start, .static yX5_start, .code yX5_start cX5_start 1 (some .int), .methodLink RX5 67 yX5_size, .static yX5_size, .code yX5_size cX5_size 1 (some .int), .methodLink RX5 50 yX5_order, .static yX5_order, .code yX5_order cX5_order 1 (some .int), .methodLink RX5 85 yX5_bits, .static yX5_bits, .code yX5_bits cX5_bits 4 (some .int)] ++ wsX50)
def wsX5_shrink_r1 : List Cond := [Cond.fieldLink RX5 13 "BuddyFilesModel" "mem" "[I", Cond.methodLink RX5 76 yX5_runs, Cond.instanceMethod yX5_runs, Cond.selects RX5 yX5_runs yX5_runs, Cond.initialized RX5, Cond.code yX5_runs cX5_runs 3 (some .int), Cond.methodLink RX5 63 yX5_extentOf, Cond.instanceMethod yX5_extentOf, Cond.selects RX5 yX5_extentOf yX5_extentOf, Cond.code yX5_extentOf cX5_extentOf 3 (some .int), Cond.methodLink RX5 70 yX5_blocks, Cond.instanceMethod yX5_blocks, Cond.selects RX5 yX5_blocks yX5_blocks, Cond.code yX5_blocks cX5_blocks 4 (some .int), Cond.methodLink RX5 67 yX5_size, Cond.static yX5_size, Cond.code yX5_size cX5_size 1 (some .int), Cond.methodLink RX5 50 yX5_order, Cond.static yX5_order, Cond.code yX5_order cX5_order 1 (some .int), Cond.methodLink RX5 94 yX5_giveBack, Cond.instanceMethod yX5_giveBack, Cond.selects RX5 yX5_giveBack yX5_giveBack, Cond.code yX5_giveBack cX5_giveBack 5 none]
def wsX5_shrink_r2 : List Cond := [Cond.methodLink RX5 54 yX5_start, Cond.static yX5_start, Cond.code yX5_start cX5_start 1 (some .int), Cond.methodLink RX5 85 yX5_bits, Cond.static yX5_bits, Cond.code yX5_bits cX5_bits 4 (some .int), Cond.methodLink RX5 98 yX5_wordCell, Cond.instanceMethod yX5_wordCell, Cond.selects RX5 yX5_wordCell yX5_wordCell, Cond.code yX5_wordCell cX5_wordCell 7 (some .int)]
def wsX5_shrink : List Cond := .code yX5_shrink cX5_shrink 5 none :: ((wsX5_shrink_r1 ++ wsX5_shrink_r2) ++ wsX50)
def wsX5_takeAway_r1 : List Cond := [Cond.fieldLink RX5 13 "BuddyFilesModel" "mem" "[I", Cond.methodLink RX5 76 yX5_runs, Cond.instanceMethod yX5_runs, Cond.selects RX5 yX5_runs yX5_runs, Cond.initialized RX5, Cond.code yX5_runs cX5_runs 3 (some .int), Cond.methodLink RX5 63 yX5_extentOf, Cond.instanceMethod yX5_extentOf, Cond.selects RX5 yX5_extentOf yX5_extentOf, Cond.code yX5_extentOf cX5_extentOf 3 (some .int), Cond.methodLink RX5 94 yX5_giveBack, Cond.instanceMethod yX5_giveBack, Cond.selects RX5 yX5_giveBack yX5_giveBack, Cond.code yX5_giveBack cX5_giveBack 5 none, Cond.methodLink RX5 54 yX5_start, Cond.static yX5_start, Cond.code yX5_start cX5_start 1 (some .int), Cond.methodLink RX5 67 yX5_size, Cond.static yX5_size, Cond.code yX5_size cX5_size 1 (some .int), Cond.methodLink RX5 50 yX5_order, Cond.static yX5_order, Cond.code yX5_order cX5_order 1 (some .int), Cond.methodLink RX5 85 yX5_bits]
def wsX5_takeAway_r2 : List Cond := [Cond.static yX5_bits, Cond.code yX5_bits cX5_bits 4 (some .int)]
def wsX5_takeAway : List Cond := .code yX5_takeAway cX5_takeAway 3 none :: ((wsX5_takeAway_r1 ++ wsX5_takeAway_r2) ++ wsX50)
def wsX5_isOpen : List Cond := .code yX5_isOpen cX5_isOpen 4 (some .boolean) :: ([.fieldLink RX5 16 "BuddyFilesModel" "handle" "[I"] ++ wsX50)
def wsX5_create : List Cond := .code yX5_create cX5_create 4 (some .int) :: ([.fieldLink RX5 42 "BuddyFilesModel" "up" "Z", .fieldLink RX5 13 "BuddyFilesModel" "mem" "[I", .methodLink RX5 38 yX5_within, .static yX5_within, .initialized RX5, .code yX5_within cX5_within 3 (some .boolean), .methodLink RX5 101 yX5_slotOf, .instanceMethod yX5_slotOf, .selects RX5 yX5_slotOf yX5_slotOf, .code yX5_slotOf cX5_slotOf 3 (some .int)] ++ wsX50)
def wsX5_unlink_r1 : List Cond := [Cond.fieldLink RX5 42 "BuddyFilesModel" "up" "Z", Cond.methodLink RX5 101 yX5_slotOf, Cond.instanceMethod yX5_slotOf, Cond.selects RX5 yX5_slotOf yX5_slotOf, Cond.initialized RX5, Cond.code yX5_slotOf cX5_slotOf 3 (some .int), Cond.fieldLink RX5 13 "BuddyFilesModel" "mem" "[I", Cond.methodLink RX5 104 yX5_isOpen, Cond.instanceMethod yX5_isOpen, Cond.selects RX5 yX5_isOpen yX5_isOpen, Cond.code yX5_isOpen cX5_isOpen 4 (some .boolean), Cond.fieldLink RX5 16 "BuddyFilesModel" "handle" "[I", Cond.methodLink RX5 108 yX5_takeAway, Cond.instanceMethod yX5_takeAway, Cond.selects RX5 yX5_takeAway yX5_takeAway, Cond.code yX5_takeAway cX5_takeAway 3 none, Cond.methodLink RX5 76 yX5_runs, Cond.instanceMethod yX5_runs, Cond.selects RX5 yX5_runs yX5_runs, Cond.code yX5_runs cX5_runs 3 (some .int), Cond.methodLink RX5 63 yX5_extentOf, Cond.instanceMethod yX5_extentOf, Cond.selects RX5 yX5_extentOf yX5_extentOf, Cond.code yX5_extentOf cX5_extentOf 3 (some .int)]
def wsX5_unlink_r2 : List Cond := [Cond.methodLink RX5 94 yX5_giveBack, Cond.instanceMethod yX5_giveBack, Cond.selects RX5 yX5_giveBack yX5_giveBack, Cond.code yX5_giveBack cX5_giveBack 5 none, Cond.methodLink RX5 54 yX5_start, Cond.static yX5_start, Cond.code yX5_start cX5_start 1 (some .int), Cond.methodLink RX5 67 yX5_size, Cond.static yX5_size, Cond.code yX5_size cX5_size 1 (some .int), Cond.methodLink RX5 50 yX5_order, Cond.static yX5_order, Cond.code yX5_order cX5_order 1 (some .int), Cond.methodLink RX5 85 yX5_bits, Cond.static yX5_bits, Cond.code yX5_bits cX5_bits 4 (some .int)]
def wsX5_unlink : List Cond := .code yX5_unlink cX5_unlink 3 (some .int) :: ((wsX5_unlink_r1 ++ wsX5_unlink_r2) ++ wsX50)
def wsX5_rename_r1 : List Cond := [Cond.fieldLink RX5 42 "BuddyFilesModel" "up" "Z", Cond.fieldLink RX5 13 "BuddyFilesModel" "mem" "[I", Cond.methodLink RX5 101 yX5_slotOf, Cond.instanceMethod yX5_slotOf, Cond.selects RX5 yX5_slotOf yX5_slotOf, Cond.initialized RX5, Cond.code yX5_slotOf cX5_slotOf 3 (some .int), Cond.methodLink RX5 38 yX5_within, Cond.static yX5_within, Cond.code yX5_within cX5_within 3 (some .boolean), Cond.methodLink RX5 104 yX5_isOpen, Cond.instanceMethod yX5_isOpen, Cond.selects RX5 yX5_isOpen yX5_isOpen, Cond.code yX5_isOpen cX5_isOpen 4 (some .boolean), Cond.fieldLink RX5 16 "BuddyFilesModel" "handle" "[I", Cond.methodLink RX5 108 yX5_takeAway, Cond.instanceMethod yX5_takeAway, Cond.selects RX5 yX5_takeAway yX5_takeAway, Cond.code yX5_takeAway cX5_takeAway 3 none, Cond.methodLink RX5 76 yX5_runs, Cond.instanceMethod yX5_runs, Cond.selects RX5 yX5_runs yX5_runs, Cond.code yX5_runs cX5_runs 3 (some .int), Cond.methodLink RX5 63 yX5_extentOf]
def wsX5_rename_r2 : List Cond := [Cond.instanceMethod yX5_extentOf, Cond.selects RX5 yX5_extentOf yX5_extentOf, Cond.code yX5_extentOf cX5_extentOf 3 (some .int), Cond.methodLink RX5 94 yX5_giveBack, Cond.instanceMethod yX5_giveBack, Cond.selects RX5 yX5_giveBack yX5_giveBack, Cond.code yX5_giveBack cX5_giveBack 5 none, Cond.methodLink RX5 54 yX5_start, Cond.static yX5_start, Cond.code yX5_start cX5_start 1 (some .int), Cond.methodLink RX5 67 yX5_size, Cond.static yX5_size, Cond.code yX5_size cX5_size 1 (some .int), Cond.methodLink RX5 50 yX5_order, Cond.static yX5_order, Cond.code yX5_order cX5_order 1 (some .int), Cond.methodLink RX5 85 yX5_bits, Cond.static yX5_bits, Cond.code yX5_bits cX5_bits 4 (some .int)]
def wsX5_rename : List Cond := .code yX5_rename cX5_rename 5 (some .int) :: ((wsX5_rename_r1 ++ wsX5_rename_r2) ++ wsX50)
def wsX5_open : List Cond := .code yX5_open cX5_open 4 (some .int) :: ([.fieldLink RX5 42 "BuddyFilesModel" "up" "Z", .fieldLink RX5 16 "BuddyFilesModel" "handle" "[I", .methodLink RX5 101 yX5_slotOf, .instanceMethod yX5_slotOf, .selects RX5 yX5_slotOf yX5_slotOf, .initialized RX5, .code yX5_slotOf cX5_slotOf 3 (some .int), .fieldLink RX5 13 "BuddyFilesModel" "mem" "[I"] ++ wsX50)
def wsX5_slotAt : List Cond := .code yX5_slotAt cX5_slotAt 2 (some .int) :: ([.fieldLink RX5 42 "BuddyFilesModel" "up" "Z", .fieldLink RX5 16 "BuddyFilesModel" "handle" "[I", .methodLink RX5 38 yX5_within, .static yX5_within, .initialized RX5, .code yX5_within cX5_within 3 (some .boolean)] ++ wsX50)
def wsX5_close : List Cond := .code yX5_close cX5_close 3 (some .int) :: ([.fieldLink RX5 16 "BuddyFilesModel" "handle" "[I", .methodLink RX5 111 yX5_slotAt, .instanceMethod yX5_slotAt, .selects RX5 yX5_slotAt yX5_slotAt, .initialized RX5, .code yX5_slotAt cX5_slotAt 2 (some .int), .fieldLink RX5 42 "BuddyFilesModel" "up" "Z", .methodLink RX5 38 yX5_within, .static yX5_within, .code yX5_within cX5_within 3 (some .boolean)] ++ wsX50)
def wsX5_write_r1 : List Cond := [Cond.fieldLink RX5 13 "BuddyFilesModel" "mem" "[I", Cond.methodLink RX5 111 yX5_slotAt, Cond.instanceMethod yX5_slotAt, Cond.selects RX5 yX5_slotAt yX5_slotAt, Cond.initialized RX5, Cond.code yX5_slotAt cX5_slotAt 2 (some .int), Cond.fieldLink RX5 42 "BuddyFilesModel" "up" "Z", Cond.fieldLink RX5 16 "BuddyFilesModel" "handle" "[I", Cond.methodLink RX5 38 yX5_within, Cond.static yX5_within, Cond.code yX5_within cX5_within 3 (some .boolean), Cond.methodLink RX5 114 yX5_grow, Cond.instanceMethod yX5_grow, Cond.selects RX5 yX5_grow yX5_grow, Cond.code yX5_grow cX5_grow 5 (some .int), Cond.fieldLink RX5 29 "BuddyFilesModel" "tryExtent" "[I", Cond.fieldLink RX5 73 "BuddyFilesModel" "tryMap" "I", Cond.methodLink RX5 91 yX5_tryGrow, Cond.instanceMethod yX5_tryGrow, Cond.selects RX5 yX5_tryGrow yX5_tryGrow, Cond.code yX5_tryGrow cX5_tryGrow 7 (some .int), Cond.fieldLink RX5 79 "BuddyFilesModel" "tryCount" "I", Cond.methodLink RX5 70 yX5_blocks, Cond.instanceMethod yX5_blocks]
def wsX5_write_r2 : List Cond := [Cond.selects RX5 yX5_blocks yX5_blocks, Cond.code yX5_blocks cX5_blocks 4 (some .int), Cond.methodLink RX5 63 yX5_extentOf, Cond.instanceMethod yX5_extentOf, Cond.selects RX5 yX5_extentOf yX5_extentOf, Cond.code yX5_extentOf cX5_extentOf 3 (some .int), Cond.methodLink RX5 67 yX5_size, Cond.static yX5_size, Cond.code yX5_size cX5_size 1 (some .int), Cond.methodLink RX5 50 yX5_order, Cond.static yX5_order, Cond.code yX5_order cX5_order 1 (some .int), Cond.methodLink RX5 76 yX5_runs, Cond.instanceMethod yX5_runs, Cond.selects RX5 yX5_runs yX5_runs, Cond.code yX5_runs cX5_runs 3 (some .int), Cond.methodLink RX5 82 yX5_place, Cond.static yX5_place, Cond.code yX5_place cX5_place 4 (some .int), Cond.methodLink RX5 60 yX5_isFree, Cond.static yX5_isFree, Cond.code yX5_isFree cX5_isFree 4 (some .boolean), Cond.methodLink RX5 57 yX5_allFree, Cond.static yX5_allFree]
def wsX5_write_r3 : List Cond := [Cond.code yX5_allFree cX5_allFree 5 (some .boolean), Cond.methodLink RX5 85 yX5_bits, Cond.static yX5_bits, Cond.code yX5_bits cX5_bits 4 (some .int), Cond.methodLink RX5 88 yX5_used, Cond.instanceMethod yX5_used, Cond.selects RX5 yX5_used yX5_used, Cond.code yX5_used cX5_used 4 (some .int), Cond.methodLink RX5 98 yX5_wordCell, Cond.instanceMethod yX5_wordCell, Cond.selects RX5 yX5_wordCell yX5_wordCell, Cond.code yX5_wordCell cX5_wordCell 7 (some .int), Cond.methodLink RX5 54 yX5_start, Cond.static yX5_start, Cond.code yX5_start cX5_start 1 (some .int)]
def wsX5_write : List Cond := .code yX5_write cX5_write 6 (some .int) :: ((wsX5_write_r1 ++ (wsX5_write_r2 ++ wsX5_write_r3)) ++ wsX50)
def wsX5_read_r1 : List Cond := [Cond.fieldLink RX5 13 "BuddyFilesModel" "mem" "[I", Cond.methodLink RX5 111 yX5_slotAt, Cond.instanceMethod yX5_slotAt, Cond.selects RX5 yX5_slotAt yX5_slotAt, Cond.initialized RX5, Cond.code yX5_slotAt cX5_slotAt 2 (some .int), Cond.fieldLink RX5 42 "BuddyFilesModel" "up" "Z", Cond.fieldLink RX5 16 "BuddyFilesModel" "handle" "[I", Cond.methodLink RX5 38 yX5_within, Cond.static yX5_within, Cond.code yX5_within cX5_within 3 (some .boolean), Cond.methodLink RX5 98 yX5_wordCell, Cond.instanceMethod yX5_wordCell, Cond.selects RX5 yX5_wordCell yX5_wordCell, Cond.code yX5_wordCell cX5_wordCell 7 (some .int), Cond.methodLink RX5 63 yX5_extentOf, Cond.instanceMethod yX5_extentOf, Cond.selects RX5 yX5_extentOf yX5_extentOf, Cond.code yX5_extentOf cX5_extentOf 3 (some .int), Cond.methodLink RX5 67 yX5_size, Cond.static yX5_size, Cond.code yX5_size cX5_size 1 (some .int), Cond.methodLink RX5 50 yX5_order, Cond.static yX5_order]
def wsX5_read_r2 : List Cond := [Cond.code yX5_order cX5_order 1 (some .int), Cond.methodLink RX5 54 yX5_start, Cond.static yX5_start, Cond.code yX5_start cX5_start 1 (some .int)]
def wsX5_read : List Cond := .code yX5_read cX5_read 4 (some .int) :: ((wsX5_read_r1 ++ wsX5_read_r2) ++ wsX50)
def wsX5_truncate_r1 : List Cond := [Cond.fieldLink RX5 13 "BuddyFilesModel" "mem" "[I", Cond.methodLink RX5 111 yX5_slotAt, Cond.instanceMethod yX5_slotAt, Cond.selects RX5 yX5_slotAt yX5_slotAt, Cond.initialized RX5, Cond.code yX5_slotAt cX5_slotAt 2 (some .int), Cond.fieldLink RX5 42 "BuddyFilesModel" "up" "Z", Cond.fieldLink RX5 16 "BuddyFilesModel" "handle" "[I", Cond.methodLink RX5 38 yX5_within, Cond.static yX5_within, Cond.code yX5_within cX5_within 3 (some .boolean), Cond.methodLink RX5 114 yX5_grow, Cond.instanceMethod yX5_grow, Cond.selects RX5 yX5_grow yX5_grow, Cond.code yX5_grow cX5_grow 5 (some .int), Cond.fieldLink RX5 29 "BuddyFilesModel" "tryExtent" "[I", Cond.fieldLink RX5 73 "BuddyFilesModel" "tryMap" "I", Cond.methodLink RX5 91 yX5_tryGrow, Cond.instanceMethod yX5_tryGrow, Cond.selects RX5 yX5_tryGrow yX5_tryGrow, Cond.code yX5_tryGrow cX5_tryGrow 7 (some .int), Cond.fieldLink RX5 79 "BuddyFilesModel" "tryCount" "I", Cond.methodLink RX5 70 yX5_blocks, Cond.instanceMethod yX5_blocks]
def wsX5_truncate_r2 : List Cond := [Cond.selects RX5 yX5_blocks yX5_blocks, Cond.code yX5_blocks cX5_blocks 4 (some .int), Cond.methodLink RX5 63 yX5_extentOf, Cond.instanceMethod yX5_extentOf, Cond.selects RX5 yX5_extentOf yX5_extentOf, Cond.code yX5_extentOf cX5_extentOf 3 (some .int), Cond.methodLink RX5 67 yX5_size, Cond.static yX5_size, Cond.code yX5_size cX5_size 1 (some .int), Cond.methodLink RX5 50 yX5_order, Cond.static yX5_order, Cond.code yX5_order cX5_order 1 (some .int), Cond.methodLink RX5 76 yX5_runs, Cond.instanceMethod yX5_runs, Cond.selects RX5 yX5_runs yX5_runs, Cond.code yX5_runs cX5_runs 3 (some .int), Cond.methodLink RX5 82 yX5_place, Cond.static yX5_place, Cond.code yX5_place cX5_place 4 (some .int), Cond.methodLink RX5 60 yX5_isFree, Cond.static yX5_isFree, Cond.code yX5_isFree cX5_isFree 4 (some .boolean), Cond.methodLink RX5 57 yX5_allFree, Cond.static yX5_allFree]
def wsX5_truncate_r3 : List Cond := [Cond.code yX5_allFree cX5_allFree 5 (some .boolean), Cond.methodLink RX5 85 yX5_bits, Cond.static yX5_bits, Cond.code yX5_bits cX5_bits 4 (some .int), Cond.methodLink RX5 88 yX5_used, Cond.instanceMethod yX5_used, Cond.selects RX5 yX5_used yX5_used, Cond.code yX5_used cX5_used 4 (some .int), Cond.methodLink RX5 117 yX5_shrink, Cond.instanceMethod yX5_shrink, Cond.selects RX5 yX5_shrink yX5_shrink, Cond.code yX5_shrink cX5_shrink 5 none, Cond.methodLink RX5 94 yX5_giveBack, Cond.instanceMethod yX5_giveBack, Cond.selects RX5 yX5_giveBack yX5_giveBack, Cond.code yX5_giveBack cX5_giveBack 5 none, Cond.methodLink RX5 54 yX5_start, Cond.static yX5_start, Cond.code yX5_start cX5_start 1 (some .int), Cond.methodLink RX5 98 yX5_wordCell, Cond.instanceMethod yX5_wordCell, Cond.selects RX5 yX5_wordCell yX5_wordCell, Cond.code yX5_wordCell cX5_wordCell 7 (some .int)]
def wsX5_truncate : List Cond := .code yX5_truncate cX5_truncate 4 (some .int) :: ((wsX5_truncate_r1 ++ (wsX5_truncate_r2 ++ wsX5_truncate_r3)) ++ wsX50)
def wsX5_length : List Cond := .code yX5_length cX5_length 3 (some .int) :: ([.fieldLink RX5 13 "BuddyFilesModel" "mem" "[I", .methodLink RX5 111 yX5_slotAt, .instanceMethod yX5_slotAt, .selects RX5 yX5_slotAt yX5_slotAt, .initialized RX5, .code yX5_slotAt cX5_slotAt 2 (some .int), .fieldLink RX5 42 "BuddyFilesModel" "up" "Z", .fieldLink RX5 16 "BuddyFilesModel" "handle" "[I", .methodLink RX5 38 yX5_within, .static yX5_within, .code yX5_within cX5_within 3 (some .boolean)] ++ wsX50)
def wsX5_extent : List Cond := .code yX5_extent cX5_extent 4 (some .int) :: ([.methodLink RX5 111 yX5_slotAt, .instanceMethod yX5_slotAt, .selects RX5 yX5_slotAt yX5_slotAt, .initialized RX5, .code yX5_slotAt cX5_slotAt 2 (some .int), .fieldLink RX5 42 "BuddyFilesModel" "up" "Z", .fieldLink RX5 16 "BuddyFilesModel" "handle" "[I", .methodLink RX5 38 yX5_within, .static yX5_within, .code yX5_within cX5_within 3 (some .boolean), .methodLink RX5 63 yX5_extentOf, .instanceMethod yX5_extentOf, .selects RX5 yX5_extentOf yX5_extentOf, .code yX5_extentOf cX5_extentOf 3 (some .int), .fieldLink RX5 13 "BuddyFilesModel" "mem" "[I"] ++ wsX50)
def wsX5_setQuota : List Cond := .code yX5_setQuota cX5_setQuota 3 (some .int) :: ([.fieldLink RX5 42 "BuddyFilesModel" "up" "Z", .fieldLink RX5 13 "BuddyFilesModel" "mem" "[I", .methodLink RX5 38 yX5_within, .static yX5_within, .initialized RX5, .code yX5_within cX5_within 3 (some .boolean), .methodLink RX5 88 yX5_used, .instanceMethod yX5_used, .selects RX5 yX5_used yX5_used, .code yX5_used cX5_used 4 (some .int), .methodLink RX5 70 yX5_blocks, .instanceMethod yX5_blocks, .selects RX5 yX5_blocks yX5_blocks, .code yX5_blocks cX5_blocks 4 (some .int), .methodLink RX5 63 yX5_extentOf, .instanceMethod yX5_extentOf, .selects RX5 yX5_extentOf yX5_extentOf, .code yX5_extentOf cX5_extentOf 3 (some .int), .methodLink RX5 67 yX5_size, .static yX5_size, .code yX5_size cX5_size 1 (some .int), .methodLink RX5 50 yX5_order, .static yX5_order, .code yX5_order cX5_order 1 (some .int)] ++ wsX50)
def wsX5_usage : List Cond := .code yX5_usage cX5_usage 2 (some .int) :: ([.fieldLink RX5 42 "BuddyFilesModel" "up" "Z", .methodLink RX5 38 yX5_within, .static yX5_within, .initialized RX5, .code yX5_within cX5_within 3 (some .boolean), .methodLink RX5 88 yX5_used, .instanceMethod yX5_used, .selects RX5 yX5_used yX5_used, .code yX5_used cX5_used 4 (some .int), .fieldLink RX5 13 "BuddyFilesModel" "mem" "[I", .methodLink RX5 70 yX5_blocks, .instanceMethod yX5_blocks, .selects RX5 yX5_blocks yX5_blocks, .code yX5_blocks cX5_blocks 4 (some .int), .methodLink RX5 63 yX5_extentOf, .instanceMethod yX5_extentOf, .selects RX5 yX5_extentOf yX5_extentOf, .code yX5_extentOf cX5_extentOf 3 (some .int), .methodLink RX5 67 yX5_size, .static yX5_size, .code yX5_size cX5_size 1 (some .int), .methodLink RX5 50 yX5_order, .static yX5_order, .code yX5_order cX5_order 1 (some .int)] ++ wsX50)
def wsX5_free : List Cond := .code yX5_free cX5_free 2 (some .int) :: ([.fieldLink RX5 42 "BuddyFilesModel" "up" "Z", .fieldLink RX5 13 "BuddyFilesModel" "mem" "[I", .methodLink RX5 38 yX5_within, .static yX5_within, .initialized RX5, .code yX5_within cX5_within 3 (some .boolean), .methodLink RX5 121 yX5_countFree, .static yX5_countFree, .code yX5_countFree cX5_countFree 4 (some .int), .methodLink RX5 60 yX5_isFree, .static yX5_isFree, .code yX5_isFree cX5_isFree 4 (some .boolean), .methodLink RX5 57 yX5_allFree, .static yX5_allFree, .code yX5_allFree cX5_allFree 5 (some .boolean)] ++ wsX50)
def wsX5_put : List Cond := .code yX5_put cX5_put 4 (some .boolean) :: ([.fieldLink RX5 46 "BuddyFilesModel" "fuse" "I", .fieldLink RX5 42 "BuddyFilesModel" "up" "Z", .fieldLink RX5 16 "BuddyFilesModel" "handle" "[I", .fieldLink RX5 7 "BuddyFilesModel" "disk" "[I"] ++ wsX50)
def wsX5_sync : List Cond := .code yX5_sync cX5_sync 6 (some .int) :: ([.fieldLink RX5 42 "BuddyFilesModel" "up" "Z", .fieldLink RX5 7 "BuddyFilesModel" "disk" "[I", .fieldLink RX5 13 "BuddyFilesModel" "mem" "[I", .fieldLink RX5 32 "BuddyFilesModel" "changed" "[I", .methodLink RX5 124 yX5_put, .instanceMethod yX5_put, .selects RX5 yX5_put yX5_put, .initialized RX5, .code yX5_put cX5_put 4 (some .boolean), .fieldLink RX5 46 "BuddyFilesModel" "fuse" "I", .fieldLink RX5 16 "BuddyFilesModel" "handle" "[I"] ++ wsX50)
def wsX5_crashAfter : List Cond := .code yX5_crashAfter cX5_crashAfter 2 (some .boolean) :: ([.fieldLink RX5 42 "BuddyFilesModel" "up" "Z", .fieldLink RX5 46 "BuddyFilesModel" "fuse" "I"] ++ wsX50)
def wsX5_holds : List Cond := .code yX5_holds cX5_holds 6 (some .boolean) :: ([.fieldLink RX5 7 "BuddyFilesModel" "disk" "[I", .methodLink RX5 38 yX5_within, .static yX5_within, .initialized RX5, .code yX5_within cX5_within 3 (some .boolean)] ++ wsX50)
def wsX5_fetch : List Cond := .code yX5_fetch cX5_fetch 2 none :: ([.fieldLink RX5 19 "BuddyFilesModel" "home" "[I", .fieldLink RX5 7 "BuddyFilesModel" "disk" "[I", .methodLink RX5 128 yX5_holds, .instanceMethod yX5_holds, .selects RX5 yX5_holds yX5_holds, .initialized RX5, .code yX5_holds cX5_holds 6 (some .boolean), .methodLink RX5 38 yX5_within, .static yX5_within, .code yX5_within cX5_within 3 (some .boolean)] ++ wsX50)
def wsX5_slotsRight : List Cond := .code yX5_slotsRight cX5_slotsRight 4 (some .boolean) :: ([.fieldLink RX5 19 "BuddyFilesModel" "home" "[I", .methodLink RX5 38 yX5_within, .static yX5_within, .initialized RX5, .code yX5_within cX5_within 3 (some .boolean)] ++ wsX50)
def wsX5_namesRight : List Cond := .code yX5_namesRight cX5_namesRight 3 (some .boolean) :: ([.fieldLink RX5 19 "BuddyFilesModel" "home" "[I"] ++ wsX50)
def wsX5_extentsRight : List Cond := .code yX5_extentsRight cX5_extentsRight 4 (some .boolean) :: ([.fieldLink RX5 19 "BuddyFilesModel" "home" "[I", .methodLink RX5 132 yX5_isRun, .static yX5_isRun, .initialized RX5, .code yX5_isRun cX5_isRun 1 (some .boolean), .methodLink RX5 38 yX5_within, .static yX5_within, .code yX5_within cX5_within 3 (some .boolean), .methodLink RX5 54 yX5_start, .static yX5_start, .code yX5_start cX5_start 1 (some .int), .methodLink RX5 50 yX5_order, .static yX5_order, .code yX5_order cX5_order 1 (some .int)] ++ wsX50)
def wsX5_blocksRight : List Cond := .code yX5_blocksRight cX5_blocksRight 7 (some .boolean) :: ([.fieldLink RX5 22 "BuddyFilesModel" "times" "[I", .fieldLink RX5 19 "BuddyFilesModel" "home" "[I", .methodLink RX5 54 yX5_start, .static yX5_start, .initialized RX5, .code yX5_start cX5_start 1 (some .int), .methodLink RX5 67 yX5_size, .static yX5_size, .code yX5_size cX5_size 1 (some .int), .methodLink RX5 50 yX5_order, .static yX5_order, .code yX5_order cX5_order 1 (some .int)] ++ wsX50)
def wsX5_needsRight : List Cond := .code yX5_needsRight cX5_needsRight 8 (some .boolean) :: ([.fieldLink RX5 19 "BuddyFilesModel" "home" "[I", .methodLink RX5 67 yX5_size, .static yX5_size, .initialized RX5, .code yX5_size cX5_size 1 (some .int), .methodLink RX5 50 yX5_order, .static yX5_order, .code yX5_order cX5_order 1 (some .int)] ++ wsX50)
def wsX5_mapRight : List Cond := .code yX5_mapRight cX5_mapRight 3 (some .boolean) :: ([.fieldLink RX5 22 "BuddyFilesModel" "times" "[I", .fieldLink RX5 19 "BuddyFilesModel" "home" "[I"] ++ wsX50)
def wsX5_quotasRight : List Cond := .code yX5_quotasRight cX5_quotasRight 6 (some .boolean) :: ([.fieldLink RX5 19 "BuddyFilesModel" "home" "[I", .methodLink RX5 67 yX5_size, .static yX5_size, .initialized RX5, .code yX5_size cX5_size 1 (some .int), .methodLink RX5 50 yX5_order, .static yX5_order, .code yX5_order cX5_order 1 (some .int), .methodLink RX5 38 yX5_within, .static yX5_within, .code yX5_within cX5_within 3 (some .boolean)] ++ wsX50)
def wsX5_wordsRight : List Cond := .code yX5_wordsRight cX5_wordsRight 6 (some .boolean) :: ([.fieldLink RX5 25 "BuddyFilesModel" "belongs" "[Z", .fieldLink RX5 19 "BuddyFilesModel" "home" "[I", .methodLink RX5 67 yX5_size, .static yX5_size, .initialized RX5, .code yX5_size cX5_size 1 (some .int), .methodLink RX5 50 yX5_order, .static yX5_order, .code yX5_order cX5_order 1 (some .int), .methodLink RX5 54 yX5_start, .static yX5_start, .code yX5_start cX5_start 1 (some .int)] ++ wsX50)
def wsX5_judge_r1 : List Cond := [Cond.methodLink RX5 135 yX5_fetch, Cond.instanceMethod yX5_fetch, Cond.selects RX5 yX5_fetch yX5_fetch, Cond.initialized RX5, Cond.code yX5_fetch cX5_fetch 2 none, Cond.fieldLink RX5 19 "BuddyFilesModel" "home" "[I", Cond.fieldLink RX5 7 "BuddyFilesModel" "disk" "[I", Cond.methodLink RX5 128 yX5_holds, Cond.instanceMethod yX5_holds, Cond.selects RX5 yX5_holds yX5_holds, Cond.code yX5_holds cX5_holds 6 (some .boolean), Cond.methodLink RX5 38 yX5_within, Cond.static yX5_within, Cond.code yX5_within cX5_within 3 (some .boolean), Cond.methodLink RX5 138 yX5_slotsRight, Cond.instanceMethod yX5_slotsRight, Cond.selects RX5 yX5_slotsRight yX5_slotsRight, Cond.code yX5_slotsRight cX5_slotsRight 4 (some .boolean), Cond.methodLink RX5 141 yX5_namesRight, Cond.instanceMethod yX5_namesRight, Cond.selects RX5 yX5_namesRight yX5_namesRight, Cond.code yX5_namesRight cX5_namesRight 3 (some .boolean), Cond.methodLink RX5 144 yX5_extentsRight, Cond.instanceMethod yX5_extentsRight]
def wsX5_judge_r2 : List Cond := [Cond.selects RX5 yX5_extentsRight yX5_extentsRight, Cond.code yX5_extentsRight cX5_extentsRight 4 (some .boolean), Cond.methodLink RX5 132 yX5_isRun, Cond.static yX5_isRun, Cond.code yX5_isRun cX5_isRun 1 (some .boolean), Cond.methodLink RX5 54 yX5_start, Cond.static yX5_start, Cond.code yX5_start cX5_start 1 (some .int), Cond.methodLink RX5 50 yX5_order, Cond.static yX5_order, Cond.code yX5_order cX5_order 1 (some .int), Cond.methodLink RX5 147 yX5_blocksRight, Cond.instanceMethod yX5_blocksRight, Cond.selects RX5 yX5_blocksRight yX5_blocksRight, Cond.code yX5_blocksRight cX5_blocksRight 7 (some .boolean), Cond.fieldLink RX5 22 "BuddyFilesModel" "times" "[I", Cond.methodLink RX5 67 yX5_size, Cond.static yX5_size, Cond.code yX5_size cX5_size 1 (some .int), Cond.methodLink RX5 150 yX5_needsRight, Cond.instanceMethod yX5_needsRight, Cond.selects RX5 yX5_needsRight yX5_needsRight, Cond.code yX5_needsRight cX5_needsRight 8 (some .boolean), Cond.methodLink RX5 153 yX5_mapRight]
def wsX5_judge_r3 : List Cond := [Cond.instanceMethod yX5_mapRight, Cond.selects RX5 yX5_mapRight yX5_mapRight, Cond.code yX5_mapRight cX5_mapRight 3 (some .boolean), Cond.methodLink RX5 156 yX5_quotasRight, Cond.instanceMethod yX5_quotasRight, Cond.selects RX5 yX5_quotasRight yX5_quotasRight, Cond.code yX5_quotasRight cX5_quotasRight 6 (some .boolean), Cond.methodLink RX5 159 yX5_wordsRight, Cond.instanceMethod yX5_wordsRight, Cond.selects RX5 yX5_wordsRight yX5_wordsRight, Cond.code yX5_wordsRight cX5_wordsRight 6 (some .boolean), Cond.fieldLink RX5 25 "BuddyFilesModel" "belongs" "[Z"]
def wsX5_judge : List Cond := .code yX5_judge cX5_judge 1 (some .int) :: ((wsX5_judge_r1 ++ (wsX5_judge_r2 ++ wsX5_judge_r3)) ++ wsX50)
def wsX5_mount_r1 : List Cond := [Cond.fieldLink RX5 42 "BuddyFilesModel" "up" "Z", Cond.fieldLink RX5 7 "BuddyFilesModel" "disk" "[I", Cond.fieldLink RX5 19 "BuddyFilesModel" "home" "[I", Cond.fieldLink RX5 13 "BuddyFilesModel" "mem" "[I", Cond.methodLink RX5 162 yX5_judge, Cond.instanceMethod yX5_judge, Cond.selects RX5 yX5_judge yX5_judge, Cond.initialized RX5, Cond.code yX5_judge cX5_judge 1 (some .int), Cond.methodLink RX5 135 yX5_fetch, Cond.instanceMethod yX5_fetch, Cond.selects RX5 yX5_fetch yX5_fetch, Cond.code yX5_fetch cX5_fetch 2 none, Cond.methodLink RX5 128 yX5_holds, Cond.instanceMethod yX5_holds, Cond.selects RX5 yX5_holds yX5_holds, Cond.code yX5_holds cX5_holds 6 (some .boolean), Cond.methodLink RX5 38 yX5_within, Cond.static yX5_within, Cond.code yX5_within cX5_within 3 (some .boolean), Cond.methodLink RX5 138 yX5_slotsRight, Cond.instanceMethod yX5_slotsRight, Cond.selects RX5 yX5_slotsRight yX5_slotsRight, Cond.code yX5_slotsRight cX5_slotsRight 4 (some .boolean)]
def wsX5_mount_r2 : List Cond := [Cond.methodLink RX5 141 yX5_namesRight, Cond.instanceMethod yX5_namesRight, Cond.selects RX5 yX5_namesRight yX5_namesRight, Cond.code yX5_namesRight cX5_namesRight 3 (some .boolean), Cond.methodLink RX5 144 yX5_extentsRight, Cond.instanceMethod yX5_extentsRight, Cond.selects RX5 yX5_extentsRight yX5_extentsRight, Cond.code yX5_extentsRight cX5_extentsRight 4 (some .boolean), Cond.methodLink RX5 132 yX5_isRun, Cond.static yX5_isRun, Cond.code yX5_isRun cX5_isRun 1 (some .boolean), Cond.methodLink RX5 54 yX5_start, Cond.static yX5_start, Cond.code yX5_start cX5_start 1 (some .int), Cond.methodLink RX5 50 yX5_order, Cond.static yX5_order, Cond.code yX5_order cX5_order 1 (some .int), Cond.methodLink RX5 147 yX5_blocksRight, Cond.instanceMethod yX5_blocksRight, Cond.selects RX5 yX5_blocksRight yX5_blocksRight, Cond.code yX5_blocksRight cX5_blocksRight 7 (some .boolean), Cond.fieldLink RX5 22 "BuddyFilesModel" "times" "[I", Cond.methodLink RX5 67 yX5_size, Cond.static yX5_size]
def wsX5_mount_r3 : List Cond := [Cond.code yX5_size cX5_size 1 (some .int), Cond.methodLink RX5 150 yX5_needsRight, Cond.instanceMethod yX5_needsRight, Cond.selects RX5 yX5_needsRight yX5_needsRight, Cond.code yX5_needsRight cX5_needsRight 8 (some .boolean), Cond.methodLink RX5 153 yX5_mapRight, Cond.instanceMethod yX5_mapRight, Cond.selects RX5 yX5_mapRight yX5_mapRight, Cond.code yX5_mapRight cX5_mapRight 3 (some .boolean), Cond.methodLink RX5 156 yX5_quotasRight, Cond.instanceMethod yX5_quotasRight, Cond.selects RX5 yX5_quotasRight yX5_quotasRight, Cond.code yX5_quotasRight cX5_quotasRight 6 (some .boolean), Cond.methodLink RX5 159 yX5_wordsRight, Cond.instanceMethod yX5_wordsRight, Cond.selects RX5 yX5_wordsRight yX5_wordsRight, Cond.code yX5_wordsRight cX5_wordsRight 6 (some .boolean), Cond.fieldLink RX5 25 "BuddyFilesModel" "belongs" "[Z"]
def wsX5_mount : List Cond := .code yX5_mount cX5_mount 3 (some .int) :: ((wsX5_mount_r1 ++ (wsX5_mount_r2 ++ wsX5_mount_r3)) ++ wsX50)
def wsX5_corrupt : List Cond := .code yX5_corrupt cX5_corrupt 3 (some .boolean) :: ([.fieldLink RX5 42 "BuddyFilesModel" "up" "Z", .fieldLink RX5 7 "BuddyFilesModel" "disk" "[I", .methodLink RX5 38 yX5_within, .static yX5_within, .initialized RX5, .code yX5_within cX5_within 3 (some .boolean)] ++ wsX50)
def wsX5_fsck_r1 : List Cond := [Cond.methodLink RX5 162 yX5_judge, Cond.instanceMethod yX5_judge, Cond.selects RX5 yX5_judge yX5_judge, Cond.initialized RX5, Cond.code yX5_judge cX5_judge 1 (some .int), Cond.methodLink RX5 135 yX5_fetch, Cond.instanceMethod yX5_fetch, Cond.selects RX5 yX5_fetch yX5_fetch, Cond.code yX5_fetch cX5_fetch 2 none, Cond.fieldLink RX5 19 "BuddyFilesModel" "home" "[I", Cond.fieldLink RX5 7 "BuddyFilesModel" "disk" "[I", Cond.methodLink RX5 128 yX5_holds, Cond.instanceMethod yX5_holds, Cond.selects RX5 yX5_holds yX5_holds, Cond.code yX5_holds cX5_holds 6 (some .boolean), Cond.methodLink RX5 38 yX5_within, Cond.static yX5_within, Cond.code yX5_within cX5_within 3 (some .boolean), Cond.methodLink RX5 138 yX5_slotsRight, Cond.instanceMethod yX5_slotsRight, Cond.selects RX5 yX5_slotsRight yX5_slotsRight, Cond.code yX5_slotsRight cX5_slotsRight 4 (some .boolean), Cond.methodLink RX5 141 yX5_namesRight, Cond.instanceMethod yX5_namesRight]
def wsX5_fsck_r2 : List Cond := [Cond.selects RX5 yX5_namesRight yX5_namesRight, Cond.code yX5_namesRight cX5_namesRight 3 (some .boolean), Cond.methodLink RX5 144 yX5_extentsRight, Cond.instanceMethod yX5_extentsRight, Cond.selects RX5 yX5_extentsRight yX5_extentsRight, Cond.code yX5_extentsRight cX5_extentsRight 4 (some .boolean), Cond.methodLink RX5 132 yX5_isRun, Cond.static yX5_isRun, Cond.code yX5_isRun cX5_isRun 1 (some .boolean), Cond.methodLink RX5 54 yX5_start, Cond.static yX5_start, Cond.code yX5_start cX5_start 1 (some .int), Cond.methodLink RX5 50 yX5_order, Cond.static yX5_order, Cond.code yX5_order cX5_order 1 (some .int), Cond.methodLink RX5 147 yX5_blocksRight, Cond.instanceMethod yX5_blocksRight, Cond.selects RX5 yX5_blocksRight yX5_blocksRight, Cond.code yX5_blocksRight cX5_blocksRight 7 (some .boolean), Cond.fieldLink RX5 22 "BuddyFilesModel" "times" "[I", Cond.methodLink RX5 67 yX5_size, Cond.static yX5_size, Cond.code yX5_size cX5_size 1 (some .int), Cond.methodLink RX5 150 yX5_needsRight]
def wsX5_fsck_r3 : List Cond := [Cond.instanceMethod yX5_needsRight, Cond.selects RX5 yX5_needsRight yX5_needsRight, Cond.code yX5_needsRight cX5_needsRight 8 (some .boolean), Cond.methodLink RX5 153 yX5_mapRight, Cond.instanceMethod yX5_mapRight, Cond.selects RX5 yX5_mapRight yX5_mapRight, Cond.code yX5_mapRight cX5_mapRight 3 (some .boolean), Cond.methodLink RX5 156 yX5_quotasRight, Cond.instanceMethod yX5_quotasRight, Cond.selects RX5 yX5_quotasRight yX5_quotasRight, Cond.code yX5_quotasRight cX5_quotasRight 6 (some .boolean), Cond.methodLink RX5 159 yX5_wordsRight, Cond.instanceMethod yX5_wordsRight, Cond.selects RX5 yX5_wordsRight yX5_wordsRight, Cond.code yX5_wordsRight cX5_wordsRight 6 (some .boolean), Cond.fieldLink RX5 25 "BuddyFilesModel" "belongs" "[Z"]
def wsX5_fsck : List Cond := .code yX5_fsck cX5_fsck 1 (some .int) :: ((wsX5_fsck_r1 ++ (wsX5_fsck_r2 ++ wsX5_fsck_r3)) ++ wsX50)
def wsX5_peek : List Cond := .code yX5_peek cX5_peek 2 (some .int) :: ([.fieldLink RX5 7 "BuddyFilesModel" "disk" "[I", .methodLink RX5 38 yX5_within, .static yX5_within, .initialized RX5, .code yX5_within cX5_within 3 (some .boolean)] ++ wsX50)
def wsL_law_r1 : List Cond := [Cond.classLink RL 7 RX4, Cond.instantiable RX4 6, Cond.initialized RX4, Cond.classLink RL 10 RX5, Cond.instantiable RX5 12, Cond.initialized RX5, Cond.methodLink RL 9 yX4_init, Cond.instanceMethod yX4_init, Cond.code yX4_init cX4_init 1 none, Cond.methodLink RX4 1 objectInit, Cond.instanceMethod objectInit, Cond.code objectInit ⟨#[0xb1]⟩ 1 none, Cond.classLink RX4 7 RX1, Cond.instantiable RX1 1, Cond.initialized RX1, Cond.fieldLink RX4 10 "BuddyFiles" "disk" "LBuddyFiles$Disk;", Cond.classLink RX4 16 RX2, Cond.instantiable RX2 1, Cond.initialized RX2, Cond.fieldLink RX4 19 "BuddyFiles" "memory" "LBuddyFiles$Home;", Cond.fieldLink RX4 23 "BuddyFiles" "judged" "LBuddyFiles$Home;", Cond.arrayClass .int, Cond.fieldLink RX4 26 "BuddyFiles" "slotOfHandle" "[I", Cond.instanceMethod yX1_init]
def wsL_law_r2 : List Cond := [Cond.code yX1_init cX1_init 1 none, Cond.methodLink RX1 3 objectInit, Cond.fieldLink RX1 9 "BuddyFiles$Disk" "cells" "[I", Cond.instanceMethod yX2_init, Cond.code yX2_init cX2_init 1 none, Cond.methodLink RX2 3 objectInit, Cond.fieldLink RX2 9 "BuddyFiles$Home" "cells" "[I", Cond.methodLink RX4 30 yX4_startAfresh, Cond.instanceMethod yX4_startAfresh, Cond.selects RX4 yX4_startAfresh yX4_startAfresh, Cond.code yX4_startAfresh cX4_startAfresh 1 none, Cond.fieldLink RX4 125 "BuddyFiles$Disk" "cells" "[I", Cond.methodLink RX4 145 yX1_clear, Cond.instanceMethod yX1_clear, Cond.selects RX1 yX1_clear yX1_clear, Cond.code yX1_clear cX1_clear 2 none, Cond.methodLink RX4 128 yX2_copyFrom, Cond.instanceMethod yX2_copyFrom, Cond.selects RX2 yX2_copyFrom yX2_copyFrom, Cond.code yX2_copyFrom cX2_copyFrom 2 none, Cond.methodLink RX2 15 arraycopyName, Cond.native arraycopyName, Cond.static arraycopyName, Cond.initialized "java/lang/System"]
def wsL_law_r3 : List Cond := [Cond.methodLink RX4 138 yX4_goUp, Cond.instanceMethod yX4_goUp, Cond.selects RX4 yX4_goUp yX4_goUp, Cond.code yX4_goUp cX4_goUp 2 none, Cond.fieldLink RX4 115 "BuddyFiles" "fuse" "I", Cond.fieldLink RX4 33 "BuddyFiles" "up" "Z", Cond.methodLink RL 12 yX5_init, Cond.instanceMethod yX5_init, Cond.code yX5_init cX5_init 1 none, Cond.methodLink RX5 1 objectInit, Cond.fieldLink RX5 7 "BuddyFilesModel" "disk" "[I", Cond.fieldLink RX5 13 "BuddyFilesModel" "mem" "[I", Cond.fieldLink RX5 16 "BuddyFilesModel" "handle" "[I", Cond.fieldLink RX5 19 "BuddyFilesModel" "home" "[I", Cond.fieldLink RX5 22 "BuddyFilesModel" "times" "[I", Cond.arrayClass .boolean, Cond.fieldLink RX5 25 "BuddyFilesModel" "belongs" "[Z", Cond.fieldLink RX5 29 "BuddyFilesModel" "tryExtent" "[I", Cond.fieldLink RX5 32 "BuddyFilesModel" "changed" "[I", Cond.methodLink RX5 35 yX5_format, Cond.instanceMethod yX5_format, Cond.selects RX5 yX5_format yX5_format, Cond.code yX5_format cX5_format 2 none, Cond.fieldLink RX5 42 "BuddyFilesModel" "up" "Z"]
def wsL_law_r4 : List Cond := [Cond.fieldLink RX5 46 "BuddyFilesModel" "fuse" "I", Cond.methodLink RX5 38 yX5_within, Cond.static yX5_within, Cond.code yX5_within cX5_within 3 (some .boolean), Cond.methodLink RL 13 yX4_format, Cond.instanceMethod yX4_format, Cond.selects RX4 yX4_format yX4_format, Cond.code yX4_format cX4_format 1 none, Cond.methodLink RL 16 yX5_format, Cond.methodLink RL 17 yX4_create, Cond.instanceMethod yX4_create, Cond.selects RX4 yX4_create yX4_create, Cond.code yX4_create cX4_create 4 (some .int), Cond.methodLink RX4 37 yX4_isName, Cond.static yX4_isName, Cond.code yX4_isName cX4_isName 1 (some .boolean), Cond.methodLink RX4 41 yX4_isOwner, Cond.static yX4_isOwner, Cond.code yX4_isOwner cX4_isOwner 1 (some .boolean), Cond.methodLink RX4 44 yX2_slotOf, Cond.instanceMethod yX2_slotOf, Cond.selects RX2 yX2_slotOf yX2_slotOf, Cond.code yX2_slotOf cX2_slotOf 3 (some .int), Cond.methodLink RX2 21 yX2_nameOf]
def wsL_law_r5 : List Cond := [Cond.instanceMethod yX2_nameOf, Cond.selects RX2 yX2_nameOf yX2_nameOf, Cond.code yX2_nameOf cX2_nameOf 2 (some .int), Cond.methodLink RX4 48 yX2_emptySlot, Cond.instanceMethod yX2_emptySlot, Cond.selects RX2 yX2_emptySlot yX2_emptySlot, Cond.code yX2_emptySlot cX2_emptySlot 2 (some .int), Cond.methodLink RX4 52 yX2_makeFile, Cond.instanceMethod yX2_makeFile, Cond.selects RX2 yX2_makeFile yX2_makeFile, Cond.code yX2_makeFile cX2_makeFile 4 none, Cond.methodLink RL 21 yX5_create, Cond.instanceMethod yX5_create, Cond.selects RX5 yX5_create yX5_create, Cond.code yX5_create cX5_create 4 (some .int), Cond.methodLink RX5 101 yX5_slotOf, Cond.instanceMethod yX5_slotOf, Cond.selects RX5 yX5_slotOf yX5_slotOf, Cond.code yX5_slotOf cX5_slotOf 3 (some .int), Cond.methodLink RL 22 yX4_unlink, Cond.instanceMethod yX4_unlink, Cond.selects RX4 yX4_unlink yX4_unlink, Cond.code yX4_unlink cX4_unlink 3 (some .int), Cond.methodLink RX4 56 yX4_isInUse]
def wsL_law_r6 : List Cond := [Cond.instanceMethod yX4_isInUse, Cond.selects RX4 yX4_isInUse yX4_isInUse, Cond.code yX4_isInUse cX4_isInUse 3 (some .boolean), Cond.methodLink RX4 59 yX2_dropFile, Cond.instanceMethod yX2_dropFile, Cond.selects RX2 yX2_dropFile yX2_dropFile, Cond.code yX2_dropFile cX2_dropFile 2 none, Cond.methodLink RX2 25 yX2_shrink, Cond.instanceMethod yX2_shrink, Cond.selects RX2 yX2_shrink yX2_shrink, Cond.code yX2_shrink cX2_shrink 5 none, Cond.methodLink RX2 93 yX2_lengthOf, Cond.instanceMethod yX2_lengthOf, Cond.selects RX2 yX2_lengthOf yX2_lengthOf, Cond.code yX2_lengthOf cX2_lengthOf 2 (some .int), Cond.methodLink RX2 96 yX2_putWord, Cond.instanceMethod yX2_putWord, Cond.selects RX2 yX2_putWord yX2_putWord, Cond.code yX2_putWord cX2_putWord 5 none, Cond.methodLink RX2 49 yX2_wordIndex, Cond.instanceMethod yX2_wordIndex, Cond.selects RX2 yX2_wordIndex yX2_wordIndex, Cond.code yX2_wordIndex cX2_wordIndex 7 (some .int), Cond.methodLink RX2 33 yX2_extentOf]
def wsL_law_r7 : List Cond := [Cond.instanceMethod yX2_extentOf, Cond.selects RX2 yX2_extentOf yX2_extentOf, Cond.code yX2_extentOf cX2_extentOf 3 (some .int), Cond.methodLink RX2 37 yX3_blocksOf, Cond.static yX3_blocksOf, Cond.initialized RX3, Cond.code yX3_blocksOf cX3_blocksOf 1 (some .int), Cond.methodLink RX3 9 yX3_orderOf, Cond.static yX3_orderOf, Cond.code yX3_orderOf cX3_orderOf 1 (some .int), Cond.methodLink RX2 46 yX3_firstOf, Cond.static yX3_firstOf, Cond.code yX3_firstOf cX3_firstOf 1 (some .int), Cond.methodLink RX2 68 yX2_putLength, Cond.instanceMethod yX2_putLength, Cond.selects RX2 yX2_putLength yX2_putLength, Cond.code yX2_putLength cX2_putLength 3 none, Cond.methodLink RX2 55 yX2_needOf, Cond.static yX2_needOf, Cond.code yX2_needOf cX2_needOf 1 (some .int), Cond.methodLink RX2 99 yX2_giveBackRuns, Cond.instanceMethod yX2_giveBackRuns, Cond.selects RX2 yX2_giveBackRuns yX2_giveBackRuns, Cond.code yX2_giveBackRuns cX2_giveBackRuns 6 none]
def wsL_law_r8 : List Cond := [Cond.methodLink RX2 45 yX2_blocksOf, Cond.instanceMethod yX2_blocksOf, Cond.selects RX2 yX2_blocksOf yX2_blocksOf, Cond.code yX2_blocksOf cX2_blocksOf 4 (some .int), Cond.methodLink RX2 52 yX2_runsOf, Cond.instanceMethod yX2_runsOf, Cond.selects RX2 yX2_runsOf yX2_runsOf, Cond.code yX2_runsOf cX2_runsOf 4 (some .int), Cond.methodLink RX2 102 yX3_bitsOf, Cond.static yX3_bitsOf, Cond.code yX3_bitsOf cX3_bitsOf 1 (some .int), Cond.methodLink RX3 19 yX3_firstOf, Cond.methodLink RX3 25 yX3_mapBits, Cond.static yX3_mapBits, Cond.code yX3_mapBits cX3_mapBits 2 (some .int), Cond.methodLink RX2 71 yX2_putExtent, Cond.instanceMethod yX2_putExtent, Cond.selects RX2 yX2_putExtent yX2_putExtent, Cond.code yX2_putExtent cX2_putExtent 4 none, Cond.methodLink RX2 29 yX2_makeFile, Cond.methodLink RL 26 yX5_unlink, Cond.instanceMethod yX5_unlink, Cond.selects RX5 yX5_unlink yX5_unlink, Cond.code yX5_unlink cX5_unlink 3 (some .int)]
def wsL_law_r9 : List Cond := [Cond.methodLink RX5 104 yX5_isOpen, Cond.instanceMethod yX5_isOpen, Cond.selects RX5 yX5_isOpen yX5_isOpen, Cond.code yX5_isOpen cX5_isOpen 4 (some .boolean), Cond.methodLink RX5 108 yX5_takeAway, Cond.instanceMethod yX5_takeAway, Cond.selects RX5 yX5_takeAway yX5_takeAway, Cond.code yX5_takeAway cX5_takeAway 3 none, Cond.methodLink RX5 76 yX5_runs, Cond.instanceMethod yX5_runs, Cond.selects RX5 yX5_runs yX5_runs, Cond.code yX5_runs cX5_runs 3 (some .int), Cond.methodLink RX5 63 yX5_extentOf, Cond.instanceMethod yX5_extentOf, Cond.selects RX5 yX5_extentOf yX5_extentOf, Cond.code yX5_extentOf cX5_extentOf 3 (some .int), Cond.methodLink RX5 94 yX5_giveBack, Cond.instanceMethod yX5_giveBack, Cond.selects RX5 yX5_giveBack yX5_giveBack, Cond.code yX5_giveBack cX5_giveBack 5 none, Cond.methodLink RX5 54 yX5_start, Cond.static yX5_start, Cond.code yX5_start cX5_start 1 (some .int), Cond.methodLink RX5 67 yX5_size]
def wsL_law_r10 : List Cond := [Cond.static yX5_size, Cond.code yX5_size cX5_size 1 (some .int), Cond.methodLink RX5 50 yX5_order, Cond.static yX5_order, Cond.code yX5_order cX5_order 1 (some .int), Cond.methodLink RX5 85 yX5_bits, Cond.static yX5_bits, Cond.code yX5_bits cX5_bits 4 (some .int), Cond.methodLink RL 27 yX4_open, Cond.instanceMethod yX4_open, Cond.selects RX4 yX4_open yX4_open, Cond.code yX4_open cX4_open 4 (some .int), Cond.methodLink RX4 63 yX4_closedHandle, Cond.instanceMethod yX4_closedHandle, Cond.selects RX4 yX4_closedHandle yX4_closedHandle, Cond.code yX4_closedHandle cX4_closedHandle 2 (some .int), Cond.methodLink RL 30 yX5_open, Cond.instanceMethod yX5_open, Cond.selects RX5 yX5_open yX5_open, Cond.code yX5_open cX5_open 4 (some .int), Cond.methodLink RL 31 yX4_close, Cond.instanceMethod yX4_close, Cond.selects RX4 yX4_close yX4_close, Cond.code yX4_close cX4_close 2 (some .int)]
def wsL_law_r11 : List Cond := [Cond.methodLink RX4 66 yX4_isOpen, Cond.instanceMethod yX4_isOpen, Cond.selects RX4 yX4_isOpen yX4_isOpen, Cond.code yX4_isOpen cX4_isOpen 2 (some .boolean), Cond.methodLink RL 34 yX5_close, Cond.instanceMethod yX5_close, Cond.selects RX5 yX5_close yX5_close, Cond.code yX5_close cX5_close 3 (some .int), Cond.methodLink RX5 111 yX5_slotAt, Cond.instanceMethod yX5_slotAt, Cond.selects RX5 yX5_slotAt yX5_slotAt, Cond.code yX5_slotAt cX5_slotAt 2 (some .int), Cond.methodLink RL 35 yX4_write, Cond.instanceMethod yX4_write, Cond.selects RX4 yX4_write yX4_write, Cond.code yX4_write cX4_write 6 (some .int), Cond.methodLink RX4 69 yX2_lengthOf, Cond.methodLink RX4 72 yX2_grow, Cond.instanceMethod yX2_grow, Cond.selects RX2 yX2_grow yX2_grow, Cond.code yX2_grow cX2_grow 7 (some .int), Cond.methodLink RX2 58 yX2_takeRuns, Cond.instanceMethod yX2_takeRuns, Cond.selects RX2 yX2_takeRuns yX2_takeRuns]
def wsL_law_r12 : List Cond := [Cond.code yX2_takeRuns cX2_takeRuns 7 (some .int), Cond.methodLink RX2 74 yX2_takeRunFor, Cond.instanceMethod yX2_takeRunFor, Cond.selects RX2 yX2_takeRunFor yX2_takeRunFor, Cond.code yX2_takeRunFor cX2_takeRunFor 4 (some .int), Cond.methodLink RX2 77 yX2_orderFor, Cond.static yX2_orderFor, Cond.code yX2_orderFor cX2_orderFor 2 (some .int), Cond.methodLink RX2 80 yX2_takeRun, Cond.instanceMethod yX2_takeRun, Cond.selects RX2 yX2_takeRun yX2_takeRun, Cond.code yX2_takeRun cX2_takeRun 4 (some .int), Cond.methodLink RX2 83 yX2_isFreeRun, Cond.instanceMethod yX2_isFreeRun, Cond.selects RX2 yX2_isFreeRun yX2_isFreeRun, Cond.code yX2_isFreeRun cX2_isFreeRun 5 (some .boolean), Cond.methodLink RX2 87 yX3_mapBits, Cond.methodLink RX2 90 yX3_cellOf, Cond.static yX3_cellOf, Cond.code yX3_cellOf cX3_cellOf 2 (some .int), Cond.methodLink RX2 42 yX2_ownerOf, Cond.instanceMethod yX2_ownerOf, Cond.selects RX2 yX2_ownerOf yX2_ownerOf, Cond.code yX2_ownerOf cX2_ownerOf 2 (some .int)]
def wsL_law_r13 : List Cond := [Cond.methodLink RX2 62 yX2_usageOf, Cond.instanceMethod yX2_usageOf, Cond.selects RX2 yX2_usageOf yX2_usageOf, Cond.code yX2_usageOf cX2_usageOf 4 (some .int), Cond.methodLink RX2 65 yX2_quotaOf, Cond.instanceMethod yX2_quotaOf, Cond.selects RX2 yX2_quotaOf yX2_quotaOf, Cond.code yX2_quotaOf cX2_quotaOf 2 (some .int), Cond.methodLink RX4 76 yX2_putWord, Cond.methodLink RL 39 yX5_write, Cond.instanceMethod yX5_write, Cond.selects RX5 yX5_write yX5_write, Cond.code yX5_write cX5_write 6 (some .int), Cond.methodLink RX5 114 yX5_grow, Cond.instanceMethod yX5_grow, Cond.selects RX5 yX5_grow yX5_grow, Cond.code yX5_grow cX5_grow 5 (some .int), Cond.fieldLink RX5 73 "BuddyFilesModel" "tryMap" "I", Cond.methodLink RX5 91 yX5_tryGrow, Cond.instanceMethod yX5_tryGrow, Cond.selects RX5 yX5_tryGrow yX5_tryGrow, Cond.code yX5_tryGrow cX5_tryGrow 7 (some .int), Cond.fieldLink RX5 79 "BuddyFilesModel" "tryCount" "I", Cond.methodLink RX5 70 yX5_blocks]
def wsL_law_r14 : List Cond := [Cond.instanceMethod yX5_blocks, Cond.selects RX5 yX5_blocks yX5_blocks, Cond.code yX5_blocks cX5_blocks 4 (some .int), Cond.methodLink RX5 82 yX5_place, Cond.static yX5_place, Cond.code yX5_place cX5_place 4 (some .int), Cond.methodLink RX5 60 yX5_isFree, Cond.static yX5_isFree, Cond.code yX5_isFree cX5_isFree 4 (some .boolean), Cond.methodLink RX5 57 yX5_allFree, Cond.static yX5_allFree, Cond.code yX5_allFree cX5_allFree 5 (some .boolean), Cond.methodLink RX5 88 yX5_used, Cond.instanceMethod yX5_used, Cond.selects RX5 yX5_used yX5_used, Cond.code yX5_used cX5_used 4 (some .int), Cond.methodLink RX5 98 yX5_wordCell, Cond.instanceMethod yX5_wordCell, Cond.selects RX5 yX5_wordCell yX5_wordCell, Cond.code yX5_wordCell cX5_wordCell 7 (some .int), Cond.methodLink RL 40 yX4_read, Cond.instanceMethod yX4_read, Cond.selects RX4 yX4_read yX4_read, Cond.code yX4_read cX4_read 4 (some .int)]
def wsL_law_r15 : List Cond := [Cond.methodLink RX4 79 yX2_wordAt, Cond.instanceMethod yX2_wordAt, Cond.selects RX2 yX2_wordAt yX2_wordAt, Cond.code yX2_wordAt cX2_wordAt 4 (some .int), Cond.methodLink RL 43 yX5_read, Cond.instanceMethod yX5_read, Cond.selects RX5 yX5_read yX5_read, Cond.code yX5_read cX5_read 4 (some .int), Cond.methodLink RL 44 yX4_truncate, Cond.instanceMethod yX4_truncate, Cond.selects RX4 yX4_truncate yX4_truncate, Cond.code yX4_truncate cX4_truncate 4 (some .int), Cond.methodLink RX4 82 yX2_shrink, Cond.methodLink RL 47 yX5_truncate, Cond.instanceMethod yX5_truncate, Cond.selects RX5 yX5_truncate yX5_truncate, Cond.code yX5_truncate cX5_truncate 4 (some .int), Cond.methodLink RX5 117 yX5_shrink, Cond.instanceMethod yX5_shrink, Cond.selects RX5 yX5_shrink yX5_shrink, Cond.code yX5_shrink cX5_shrink 5 none, Cond.methodLink RL 48 yX4_length, Cond.instanceMethod yX4_length, Cond.selects RX4 yX4_length yX4_length]
def wsL_law_r16 : List Cond := [Cond.code yX4_length cX4_length 2 (some .int), Cond.methodLink RL 51 yX5_length, Cond.instanceMethod yX5_length, Cond.selects RX5 yX5_length yX5_length, Cond.code yX5_length cX5_length 3 (some .int), Cond.methodLink RL 52 yX4_extent, Cond.instanceMethod yX4_extent, Cond.selects RX4 yX4_extent yX4_extent, Cond.code yX4_extent cX4_extent 3 (some .int), Cond.methodLink RX4 86 yX2_extentOf, Cond.methodLink RL 55 yX5_extent, Cond.instanceMethod yX5_extent, Cond.selects RX5 yX5_extent yX5_extent, Cond.code yX5_extent cX5_extent 4 (some .int), Cond.methodLink RL 56 yX4_rename, Cond.instanceMethod yX4_rename, Cond.selects RX4 yX4_rename yX4_rename, Cond.code yX4_rename cX4_rename 5 (some .int), Cond.methodLink RX4 89 yX2_nameFile, Cond.instanceMethod yX2_nameFile, Cond.selects RX2 yX2_nameFile yX2_nameFile, Cond.code yX2_nameFile cX2_nameFile 3 none, Cond.methodLink RL 59 yX5_rename, Cond.instanceMethod yX5_rename]
def wsL_law_r17 : List Cond := [Cond.selects RX5 yX5_rename yX5_rename, Cond.code yX5_rename cX5_rename 5 (some .int), Cond.methodLink RL 60 yX4_setQuota, Cond.instanceMethod yX4_setQuota, Cond.selects RX4 yX4_setQuota yX4_setQuota, Cond.code yX4_setQuota cX4_setQuota 3 (some .int), Cond.methodLink RX4 92 yX2_usageOf, Cond.methodLink RX4 95 yX2_putQuota, Cond.instanceMethod yX2_putQuota, Cond.selects RX2 yX2_putQuota yX2_putQuota, Cond.code yX2_putQuota cX2_putQuota 3 none, Cond.methodLink RL 63 yX5_setQuota, Cond.instanceMethod yX5_setQuota, Cond.selects RX5 yX5_setQuota yX5_setQuota, Cond.code yX5_setQuota cX5_setQuota 3 (some .int), Cond.methodLink RL 64 yX4_usage, Cond.instanceMethod yX4_usage, Cond.selects RX4 yX4_usage yX4_usage, Cond.code yX4_usage cX4_usage 2 (some .int), Cond.methodLink RL 67 yX5_usage, Cond.instanceMethod yX5_usage, Cond.selects RX5 yX5_usage yX5_usage, Cond.code yX5_usage cX5_usage 2 (some .int), Cond.methodLink RL 68 yX4_free]
def wsL_law_r18 : List Cond := [Cond.instanceMethod yX4_free, Cond.selects RX4 yX4_free yX4_free, Cond.code yX4_free cX4_free 2 (some .int), Cond.methodLink RX4 98 yX2_freeRunsOf, Cond.instanceMethod yX2_freeRunsOf, Cond.selects RX2 yX2_freeRunsOf yX2_freeRunsOf, Cond.code yX2_freeRunsOf cX2_freeRunsOf 4 (some .int), Cond.methodLink RL 71 yX5_free, Cond.instanceMethod yX5_free, Cond.selects RX5 yX5_free yX5_free, Cond.code yX5_free cX5_free 2 (some .int), Cond.methodLink RX5 121 yX5_countFree, Cond.static yX5_countFree, Cond.code yX5_countFree cX5_countFree 4 (some .int), Cond.methodLink RL 72 yX4_sync, Cond.instanceMethod yX4_sync, Cond.selects RX4 yX4_sync yX4_sync, Cond.code yX4_sync cX4_sync 2 (some .int), Cond.methodLink RX4 101 yX4_countChanges, Cond.instanceMethod yX4_countChanges, Cond.selects RX4 yX4_countChanges yX4_countChanges, Cond.code yX4_countChanges cX4_countChanges 3 (some .int), Cond.methodLink RX4 148 yX4_isChanged, Cond.instanceMethod yX4_isChanged]
def wsL_law_r19 : List Cond := [Cond.selects RX4 yX4_isChanged yX4_isChanged, Cond.code yX4_isChanged cX4_isChanged 2 (some .boolean), Cond.fieldLink RX4 141 "BuddyFiles$Home" "cells" "[I", Cond.methodLink RX4 104 yX4_writeJournal, Cond.instanceMethod yX4_writeJournal, Cond.selects RX4 yX4_writeJournal yX4_writeJournal, Cond.code yX4_writeJournal cX4_writeJournal 6 (some .boolean), Cond.methodLink RX4 111 yX4_writeCell, Cond.instanceMethod yX4_writeCell, Cond.selects RX4 yX4_writeCell yX4_writeCell, Cond.code yX4_writeCell cX4_writeCell 3 (some .boolean), Cond.methodLink RX4 151 yX1_nextCheck, Cond.static yX1_nextCheck, Cond.code yX1_nextCheck cX1_nextCheck 3 (some .int), Cond.methodLink RX4 107 yX4_writeHome, Cond.instanceMethod yX4_writeHome, Cond.selects RX4 yX4_writeHome yX4_writeHome, Cond.code yX4_writeHome cX4_writeHome 2 (some .boolean), Cond.methodLink RL 76 yX5_sync, Cond.instanceMethod yX5_sync, Cond.selects RX5 yX5_sync yX5_sync, Cond.code yX5_sync cX5_sync 6 (some .int), Cond.methodLink RX5 124 yX5_put, Cond.instanceMethod yX5_put]
def wsL_law_r20 : List Cond := [Cond.selects RX5 yX5_put yX5_put, Cond.code yX5_put cX5_put 4 (some .boolean), Cond.methodLink RL 77 yX4_crashAfter, Cond.instanceMethod yX4_crashAfter, Cond.selects RX4 yX4_crashAfter yX4_crashAfter, Cond.code yX4_crashAfter cX4_crashAfter 2 (some .boolean), Cond.methodLink RL 81 yX5_crashAfter, Cond.instanceMethod yX5_crashAfter, Cond.selects RX5 yX5_crashAfter yX5_crashAfter, Cond.code yX5_crashAfter cX5_crashAfter 2 (some .boolean), Cond.methodLink RL 82 yX4_mount, Cond.instanceMethod yX4_mount, Cond.selects RX4 yX4_mount yX4_mount, Cond.code yX4_mount cX4_mount 1 (some .int), Cond.methodLink RX4 119 yX1_journalHolds, Cond.instanceMethod yX1_journalHolds, Cond.selects RX1 yX1_journalHolds yX1_journalHolds, Cond.code yX1_journalHolds cX1_journalHolds 6 (some .boolean), Cond.methodLink RX1 15 yX1_nextCheck, Cond.methodLink RX4 122 yX1_replayJournal, Cond.instanceMethod yX1_replayJournal, Cond.selects RX1 yX1_replayJournal yX1_replayJournal, Cond.code yX1_replayJournal cX1_replayJournal 1 none, Cond.methodLink RX1 19 yX1_replayInto]
def wsL_law_r21 : List Cond := [Cond.instanceMethod yX1_replayInto, Cond.selects RX1 yX1_replayInto yX1_replayInto, Cond.code yX1_replayInto cX1_replayInto 4 none, Cond.methodLink RX4 132 yX0_leastBroken, Cond.static yX0_leastBroken, Cond.initialized RX0, Cond.code yX0_leastBroken cX0_leastBroken 1 (some .int), Cond.fieldLink RX0 27 "BuddyFiles$Home" "cells" "[I", Cond.methodLink RX0 9 yX0_slotsAreInRange, Cond.static yX0_slotsAreInRange, Cond.code yX0_slotsAreInRange cX0_slotsAreInRange 2 (some .boolean), Cond.methodLink RX0 43 yX2_nameOf, Cond.methodLink RX0 47 yX0_isIn, Cond.static yX0_isIn, Cond.code yX0_isIn cX0_isIn 3 (some .boolean), Cond.methodLink RX0 51 yX2_ownerOf, Cond.methodLink RX0 54 yX2_lengthOf, Cond.methodLink RX0 57 yX0_isAllZero, Cond.static yX0_isAllZero, Cond.code yX0_isAllZero cX0_isAllZero 3 (some .boolean), Cond.methodLink RX0 15 yX0_namesDiffer, Cond.static yX0_namesDiffer, Cond.code yX0_namesDiffer cX0_namesDiffer 3 (some .boolean), Cond.methodLink RX0 18 yX0_extentsAreRuns]
def wsL_law_r22 : List Cond := [Cond.static yX0_extentsAreRuns, Cond.code yX0_extentsAreRuns cX0_extentsAreRuns 5 (some .boolean), Cond.methodLink RX0 61 yX2_extentOf, Cond.methodLink RX0 65 yX3_isRun, Cond.static yX3_isRun, Cond.code yX3_isRun cX3_isRun 1 (some .boolean), Cond.methodLink RX3 15 yX3_cellOf, Cond.methodLink RX3 22 yX3_blocksOf, Cond.methodLink RX0 21 yX0_runsAreApart, Cond.static yX0_runsAreApart, Cond.code yX0_runsAreApart cX0_runsAreApart 5 (some .boolean), Cond.methodLink RX0 71 yX3_bitsOf, Cond.methodLink RX0 24 yX0_runsFitLengths, Cond.static yX0_runsFitLengths, Cond.code yX0_runsFitLengths cX0_runsFitLengths 5 (some .boolean), Cond.methodLink RX0 74 yX2_needOf, Cond.methodLink RX0 77 yX2_blocksOf, Cond.methodLink RX0 80 yX2_runsOf, Cond.methodLink RX0 83 yX3_blocksOf, Cond.methodLink RX0 33 yX0_bitsOfAllRuns, Cond.static yX0_bitsOfAllRuns, Cond.code yX0_bitsOfAllRuns cX0_bitsOfAllRuns 4 (some .int), Cond.methodLink RX0 37 yX0_quotasCoverUsage, Cond.static yX0_quotasCoverUsage]
def wsL_law_r23 : List Cond := [Cond.code yX0_quotasCoverUsage cX0_quotasCoverUsage 2 (some .boolean), Cond.methodLink RX0 84 yX2_quotaOf, Cond.methodLink RX0 87 yX2_usageOf, Cond.methodLink RX0 40 yX0_looseWordsAreZero, Cond.static yX0_looseWordsAreZero, Cond.code yX0_looseWordsAreZero cX0_looseWordsAreZero 4 (some .boolean), Cond.methodLink RX0 90 yX0_bitsOfWords, Cond.static yX0_bitsOfWords, Cond.code yX0_bitsOfWords cX0_bitsOfWords 7 (some .long), Cond.methodLink RX0 94 yX2_wordIndex, Cond.methodLink RL 85 yX5_mount, Cond.instanceMethod yX5_mount, Cond.selects RX5 yX5_mount yX5_mount, Cond.code yX5_mount cX5_mount 3 (some .int), Cond.methodLink RX5 162 yX5_judge, Cond.instanceMethod yX5_judge, Cond.selects RX5 yX5_judge yX5_judge, Cond.code yX5_judge cX5_judge 1 (some .int), Cond.methodLink RX5 135 yX5_fetch, Cond.instanceMethod yX5_fetch, Cond.selects RX5 yX5_fetch yX5_fetch, Cond.code yX5_fetch cX5_fetch 2 none, Cond.methodLink RX5 128 yX5_holds, Cond.instanceMethod yX5_holds]
def wsL_law_r24 : List Cond := [Cond.selects RX5 yX5_holds yX5_holds, Cond.code yX5_holds cX5_holds 6 (some .boolean), Cond.methodLink RX5 138 yX5_slotsRight, Cond.instanceMethod yX5_slotsRight, Cond.selects RX5 yX5_slotsRight yX5_slotsRight, Cond.code yX5_slotsRight cX5_slotsRight 4 (some .boolean), Cond.methodLink RX5 141 yX5_namesRight, Cond.instanceMethod yX5_namesRight, Cond.selects RX5 yX5_namesRight yX5_namesRight, Cond.code yX5_namesRight cX5_namesRight 3 (some .boolean), Cond.methodLink RX5 144 yX5_extentsRight, Cond.instanceMethod yX5_extentsRight, Cond.selects RX5 yX5_extentsRight yX5_extentsRight, Cond.code yX5_extentsRight cX5_extentsRight 4 (some .boolean), Cond.methodLink RX5 132 yX5_isRun, Cond.static yX5_isRun, Cond.code yX5_isRun cX5_isRun 1 (some .boolean), Cond.methodLink RX5 147 yX5_blocksRight, Cond.instanceMethod yX5_blocksRight, Cond.selects RX5 yX5_blocksRight yX5_blocksRight, Cond.code yX5_blocksRight cX5_blocksRight 7 (some .boolean), Cond.methodLink RX5 150 yX5_needsRight, Cond.instanceMethod yX5_needsRight, Cond.selects RX5 yX5_needsRight yX5_needsRight]
def wsL_law_r25 : List Cond := [Cond.code yX5_needsRight cX5_needsRight 8 (some .boolean), Cond.methodLink RX5 153 yX5_mapRight, Cond.instanceMethod yX5_mapRight, Cond.selects RX5 yX5_mapRight yX5_mapRight, Cond.code yX5_mapRight cX5_mapRight 3 (some .boolean), Cond.methodLink RX5 156 yX5_quotasRight, Cond.instanceMethod yX5_quotasRight, Cond.selects RX5 yX5_quotasRight yX5_quotasRight, Cond.code yX5_quotasRight cX5_quotasRight 6 (some .boolean), Cond.methodLink RX5 159 yX5_wordsRight, Cond.instanceMethod yX5_wordsRight, Cond.selects RX5 yX5_wordsRight yX5_wordsRight, Cond.code yX5_wordsRight cX5_wordsRight 6 (some .boolean), Cond.methodLink RL 86 yX4_corrupt, Cond.instanceMethod yX4_corrupt, Cond.selects RX4 yX4_corrupt yX4_corrupt, Cond.code yX4_corrupt cX4_corrupt 3 (some .boolean), Cond.methodLink RL 90 yX5_corrupt, Cond.instanceMethod yX5_corrupt, Cond.selects RX5 yX5_corrupt yX5_corrupt, Cond.code yX5_corrupt cX5_corrupt 3 (some .boolean), Cond.methodLink RL 91 yX4_fsck, Cond.instanceMethod yX4_fsck, Cond.selects RX4 yX4_fsck yX4_fsck]
def wsL_law_r26 : List Cond := [Cond.code yX4_fsck cX4_fsck 1 (some .int), Cond.methodLink RX4 142 yX1_replayInto, Cond.methodLink RL 94 yX5_fsck, Cond.instanceMethod yX5_fsck, Cond.selects RX5 yX5_fsck yX5_fsck, Cond.code yX5_fsck cX5_fsck 1 (some .int), Cond.methodLink RL 95 yX4_peek, Cond.instanceMethod yX4_peek, Cond.selects RX4 yX4_peek yX4_peek, Cond.code yX4_peek cX4_peek 2 (some .int), Cond.methodLink RL 98 yX5_peek, Cond.instanceMethod yX5_peek, Cond.selects RX5 yX5_peek yX5_peek, Cond.code yX5_peek cX5_peek 2 (some .int)]
def wsL_law : List Cond := (wsL_law_r1 ++ (wsL_law_r2 ++ (wsL_law_r3 ++ (wsL_law_r4 ++ (wsL_law_r5 ++ (wsL_law_r6 ++ (wsL_law_r7 ++ (wsL_law_r8 ++ (wsL_law_r9 ++ (wsL_law_r10 ++ (wsL_law_r11 ++ (wsL_law_r12 ++ (wsL_law_r13 ++ (wsL_law_r14 ++ (wsL_law_r15 ++ (wsL_law_r16 ++ (wsL_law_r17 ++ (wsL_law_r18 ++ (wsL_law_r19 ++ (wsL_law_r20 ++ (wsL_law_r21 ++ (wsL_law_r22 ++ (wsL_law_r23 ++ (wsL_law_r24 ++ (wsL_law_r25 ++ wsL_law_r26))))))))))))))))))))))))) ++ wsX40 ++ wsX50 ++ wsX10 ++ wsX20 ++ ([] : List Cond)
abbrev vwCl : List vw_C := [(RX1, TX1, 1), (RX2, TX2, 1), (RX4, TX4, 6), (RX5, TX5, 12)]
end
section
set_option maxRecDepth 20000 in
theorem ggX0_leastBroken_X0_slotsAreInRange : GoodIn wsX0_leastBroken wsX0_slotsAreInRange := goodIn_r _ [5, 6, 7, 8, 9, 10, 11, 12, 13, 4, 14, 15, 16, 17, 18, 19, 20, 21, 22, 23, 24, 25, 1, 105] (by decide +kernel) (by decide +kernel)
set_option maxRecDepth 20000 in
theorem gX0_leastBroken_X0_slotsAreInRange : GoodIn wsX0_leastBroken (va_wsS RX0 9 yX0_slotsAreInRange wsX0_slotsAreInRange) := goodIn_app (goodIn_of _ (by decide +kernel)) ggX0_leastBroken_X0_slotsAreInRange
set_option maxRecDepth 20000 in
theorem ggX0_leastBroken_X0_namesDiffer : GoodIn wsX0_leastBroken wsX0_namesDiffer := goodIn_r _ [28, 6, 7, 8, 9, 10, 11, 105] (by decide +kernel) (by decide +kernel)
set_option maxRecDepth 20000 in
theorem gX0_leastBroken_X0_namesDiffer : GoodIn wsX0_leastBroken (va_wsS RX0 15 yX0_namesDiffer wsX0_namesDiffer) := goodIn_app (goodIn_of _ (by decide +kernel)) ggX0_leastBroken_X0_namesDiffer
set_option maxRecDepth 20000 in
theorem ggX0_leastBroken_X0_extentsAreRuns : GoodIn wsX0_leastBroken wsX0_extentsAreRuns := goodIn_r _ [31, 32, 33, 34, 9, 35, 11, 36, 37, 38, 39, 40, 41, 42, 43, 44, 45, 46, 47, 48, 49, 50, 51, 105] (by decide +kernel) (by decide +kernel)
set_option maxRecDepth 20000 in
theorem gX0_leastBroken_X0_extentsAreRuns : GoodIn wsX0_leastBroken (va_wsS RX0 18 yX0_extentsAreRuns wsX0_extentsAreRuns) := goodIn_app (goodIn_of _ (by decide +kernel)) ggX0_leastBroken_X0_extentsAreRuns
set_option maxRecDepth 20000 in
theorem ggX0_leastBroken_X0_runsAreApart : GoodIn wsX0_leastBroken wsX0_runsAreApart := goodIn_r _ [54, 32, 33, 34, 9, 35, 11, 55, 56, 38, 57, 43, 44, 45, 49, 50, 51, 58, 59, 60, 105] (by decide +kernel) (by decide +kernel)
set_option maxRecDepth 20000 in
theorem gX0_leastBroken_X0_runsAreApart : GoodIn wsX0_leastBroken (va_wsS RX0 21 yX0_runsAreApart wsX0_runsAreApart) := goodIn_app (goodIn_of _ (by decide +kernel)) ggX0_leastBroken_X0_runsAreApart
set_option maxRecDepth 20000 in
theorem ggX0_leastBroken_X0_runsFitLengths : GoodIn wsX0_leastBroken wsX0_runsFitLengths := goodIn_r _ [63, 19, 20, 21, 9, 22, 11, 64, 65, 66, 67, 68, 69, 70, 71, 33, 34, 35, 72, 47, 38, 48, 49, 50, 51, 73, 74, 75, 76, 32, 77, 105] (by decide +kernel) (by decide +kernel)
set_option maxRecDepth 20000 in
theorem gX0_leastBroken_X0_runsFitLengths : GoodIn wsX0_leastBroken (va_wsS RX0 24 yX0_runsFitLengths wsX0_runsFitLengths) := goodIn_app (goodIn_of _ (by decide +kernel)) ggX0_leastBroken_X0_runsFitLengths
set_option maxRecDepth 20000 in
theorem ggX0_leastBroken_X0_bitsOfAllRuns : GoodIn wsX0_leastBroken wsX0_bitsOfAllRuns := goodIn_r _ [80, 32, 33, 34, 9, 35, 11, 55, 56, 38, 57, 43, 44, 45, 49, 50, 51, 58, 59, 60, 105] (by decide +kernel) (by decide +kernel)
set_option maxRecDepth 20000 in
theorem gX0_leastBroken_X0_bitsOfAllRuns : GoodIn wsX0_leastBroken (va_wsS RX0 33 yX0_bitsOfAllRuns wsX0_bitsOfAllRuns) := goodIn_app (goodIn_of _ (by decide +kernel)) ggX0_leastBroken_X0_bitsOfAllRuns
set_option maxRecDepth 20000 in
theorem ggX0_leastBroken_X0_quotasCoverUsage : GoodIn wsX0_leastBroken wsX0_quotasCoverUsage := goodIn_r _ [83, 84, 85, 86, 9, 87, 11, 88, 89, 90, 91, 92, 16, 17, 18, 93, 68, 69, 70, 71, 33, 34, 35, 72, 47, 38, 48, 49, 50, 51, 12, 13, 4, 14, 105] (by decide +kernel) (by decide +kernel)
set_option maxRecDepth 20000 in
theorem gX0_leastBroken_X0_quotasCoverUsage : GoodIn wsX0_leastBroken (va_wsS RX0 37 yX0_quotasCoverUsage wsX0_quotasCoverUsage) := goodIn_app (goodIn_of _ (by decide +kernel)) ggX0_leastBroken_X0_quotasCoverUsage
set_option maxRecDepth 20000 in
theorem ggX0_leastBroken_X0_looseWordsAreZero : GoodIn wsX0_leastBroken wsX0_looseWordsAreZero := goodIn_r _ [96, 1, 97, 98, 4, 99, 19, 20, 21, 9, 22, 11, 100, 101, 102, 103, 71, 33, 34, 35, 72, 47, 38, 48, 49, 50, 51, 104, 44, 45, 105] (by decide +kernel) (by decide +kernel)
set_option maxRecDepth 20000 in
theorem gX0_leastBroken_X0_looseWordsAreZero : GoodIn wsX0_leastBroken (va_wsS RX0 40 yX0_looseWordsAreZero wsX0_looseWordsAreZero) := goodIn_app (goodIn_of _ (by decide +kernel)) ggX0_leastBroken_X0_looseWordsAreZero
theorem dX0_leastBroken_0 : decode cX0_leastBroken 0 = .ok (.aload_n 0, 1) := by decide +kernel
theorem dX0_leastBroken_1 : decode cX0_leastBroken 1 = .ok (.invokestatic 9, 3) := by decide +kernel
theorem dX0_leastBroken_4 : decode cX0_leastBroken 4 = .ok (.ifCond .ne 5, 3) := by decide +kernel
theorem dX0_leastBroken_7 : decode cX0_leastBroken 7 = .ok (.iconst 1, 1) := by decide +kernel
theorem dX0_leastBroken_8 : decode cX0_leastBroken 8 = .ok (.ireturn, 1) := by decide +kernel
theorem dX0_leastBroken_9 : decode cX0_leastBroken 9 = .ok (.aload_n 0, 1) := by decide +kernel
theorem dX0_leastBroken_10 : decode cX0_leastBroken 10 = .ok (.invokestatic 15, 3) := by decide +kernel
theorem dX0_leastBroken_13 : decode cX0_leastBroken 13 = .ok (.ifCond .ne 5, 3) := by decide +kernel
theorem dX0_leastBroken_16 : decode cX0_leastBroken 16 = .ok (.iconst 2, 1) := by decide +kernel
theorem dX0_leastBroken_17 : decode cX0_leastBroken 17 = .ok (.ireturn, 1) := by decide +kernel
theorem dX0_leastBroken_18 : decode cX0_leastBroken 18 = .ok (.aload_n 0, 1) := by decide +kernel
theorem dX0_leastBroken_19 : decode cX0_leastBroken 19 = .ok (.invokestatic 18, 3) := by decide +kernel
theorem dX0_leastBroken_22 : decode cX0_leastBroken 22 = .ok (.ifCond .ne 5, 3) := by decide +kernel
theorem dX0_leastBroken_25 : decode cX0_leastBroken 25 = .ok (.iconst 3, 1) := by decide +kernel
theorem dX0_leastBroken_26 : decode cX0_leastBroken 26 = .ok (.ireturn, 1) := by decide +kernel
theorem dX0_leastBroken_27 : decode cX0_leastBroken 27 = .ok (.aload_n 0, 1) := by decide +kernel
theorem dX0_leastBroken_28 : decode cX0_leastBroken 28 = .ok (.invokestatic 21, 3) := by decide +kernel
theorem dX0_leastBroken_31 : decode cX0_leastBroken 31 = .ok (.ifCond .ne 5, 3) := by decide +kernel
theorem dX0_leastBroken_34 : decode cX0_leastBroken 34 = .ok (.iconst 4, 1) := by decide +kernel
theorem dX0_leastBroken_35 : decode cX0_leastBroken 35 = .ok (.ireturn, 1) := by decide +kernel
theorem dX0_leastBroken_36 : decode cX0_leastBroken 36 = .ok (.aload_n 0, 1) := by decide +kernel
theorem dX0_leastBroken_37 : decode cX0_leastBroken 37 = .ok (.invokestatic 24, 3) := by decide +kernel
theorem dX0_leastBroken_40 : decode cX0_leastBroken 40 = .ok (.ifCond .ne 5, 3) := by decide +kernel
theorem dX0_leastBroken_43 : decode cX0_leastBroken 43 = .ok (.iconst 5, 1) := by decide +kernel
theorem dX0_leastBroken_44 : decode cX0_leastBroken 44 = .ok (.ireturn, 1) := by decide +kernel
theorem dX0_leastBroken_45 : decode cX0_leastBroken 45 = .ok (.aload_n 0, 1) := by decide +kernel
theorem dX0_leastBroken_46 : decode cX0_leastBroken 46 = .ok (.getfield 27, 3) := by decide +kernel
theorem dX0_leastBroken_49 : decode cX0_leastBroken 49 = .ok (.bipush 45, 2) := by decide +kernel
theorem dX0_leastBroken_51 : decode cX0_leastBroken 51 = .ok (.iaload, 1) := by decide +kernel
theorem dX0_leastBroken_52 : decode cX0_leastBroken 52 = .ok (.aload_n 0, 1) := by decide +kernel
theorem dX0_leastBroken_53 : decode cX0_leastBroken 53 = .ok (.invokestatic 33, 3) := by decide +kernel
theorem dX0_leastBroken_56 : decode cX0_leastBroken 56 = .ok (.if_icmp .eq 6, 3) := by decide +kernel
theorem dX0_leastBroken_59 : decode cX0_leastBroken 59 = .ok (.bipush 6, 2) := by decide +kernel
theorem dX0_leastBroken_61 : decode cX0_leastBroken 61 = .ok (.ireturn, 1) := by decide +kernel
theorem dX0_leastBroken_62 : decode cX0_leastBroken 62 = .ok (.aload_n 0, 1) := by decide +kernel
theorem dX0_leastBroken_63 : decode cX0_leastBroken 63 = .ok (.invokestatic 37, 3) := by decide +kernel
theorem dX0_leastBroken_66 : decode cX0_leastBroken 66 = .ok (.ifCond .ne 6, 3) := by decide +kernel
theorem dX0_leastBroken_69 : decode cX0_leastBroken 69 = .ok (.bipush 7, 2) := by decide +kernel
theorem dX0_leastBroken_71 : decode cX0_leastBroken 71 = .ok (.ireturn, 1) := by decide +kernel
theorem dX0_leastBroken_72 : decode cX0_leastBroken 72 = .ok (.aload_n 0, 1) := by decide +kernel
theorem dX0_leastBroken_73 : decode cX0_leastBroken 73 = .ok (.invokestatic 40, 3) := by decide +kernel
theorem dX0_leastBroken_76 : decode cX0_leastBroken 76 = .ok (.ifCond .eq 7, 3) := by decide +kernel
theorem dX0_leastBroken_79 : decode cX0_leastBroken 79 = .ok (.iconst 0, 1) := by decide +kernel
theorem dX0_leastBroken_80 : decode cX0_leastBroken 80 = .ok (.goto 5, 3) := by decide +kernel
theorem dX0_leastBroken_83 : decode cX0_leastBroken 83 = .ok (.bipush 8, 2) := by decide +kernel
theorem dX0_leastBroken_85 : decode cX0_leastBroken 85 = .ok (.ireturn, 1) := by decide +kernel
theorem dX0_isIn_0 : decode cX0_isIn 0 = .ok (.iload_n 0, 1) := by decide +kernel
theorem dX0_isIn_1 : decode cX0_isIn 1 = .ok (.iload_n 1, 1) := by decide +kernel
theorem dX0_isIn_2 : decode cX0_isIn 2 = .ok (.if_icmp .lt 12, 3) := by decide +kernel
theorem dX0_isIn_5 : decode cX0_isIn 5 = .ok (.iload_n 0, 1) := by decide +kernel
theorem dX0_isIn_6 : decode cX0_isIn 6 = .ok (.iload_n 2, 1) := by decide +kernel
theorem dX0_isIn_7 : decode cX0_isIn 7 = .ok (.if_icmp .gt 7, 3) := by decide +kernel
theorem dX0_isIn_10 : decode cX0_isIn 10 = .ok (.iconst 1, 1) := by decide +kernel
theorem dX0_isIn_11 : decode cX0_isIn 11 = .ok (.goto 4, 3) := by decide +kernel
theorem dX0_isIn_14 : decode cX0_isIn 14 = .ok (.iconst 0, 1) := by decide +kernel
theorem dX0_isIn_15 : decode cX0_isIn 15 = .ok (.ireturn, 1) := by decide +kernel
set_option maxRecDepth 20000 in
theorem ggX0_slotsAreInRange_X2_nameOf : GoodIn wsX0_slotsAreInRange wsX2_nameOf := goodIn_r _ [5, 6, 23] (by decide +kernel) (by decide +kernel)
set_option maxRecDepth 20000 in
theorem gX0_slotsAreInRange_X2_nameOf : GoodIn wsX0_slotsAreInRange (wsV RX0 43 RX2 yX2_nameOf wsX2_nameOf) := goodIn_app (goodIn_of _ (by decide +kernel)) ggX0_slotsAreInRange_X2_nameOf
set_option maxRecDepth 20000 in
theorem ggX0_slotsAreInRange_X0_isIn : GoodIn wsX0_slotsAreInRange wsX0_isIn := goodIn_r _ [10] (by decide +kernel) (by decide +kernel)
set_option maxRecDepth 20000 in
theorem gX0_slotsAreInRange_X0_isIn : GoodIn wsX0_slotsAreInRange (va_wsS RX0 47 yX0_isIn wsX0_isIn) := goodIn_app (goodIn_of _ (by decide +kernel)) ggX0_slotsAreInRange_X0_isIn
set_option maxRecDepth 20000 in
theorem ggX0_slotsAreInRange_X2_ownerOf : GoodIn wsX0_slotsAreInRange wsX2_ownerOf := goodIn_r _ [14, 6, 23] (by decide +kernel) (by decide +kernel)
set_option maxRecDepth 20000 in
theorem gX0_slotsAreInRange_X2_ownerOf : GoodIn wsX0_slotsAreInRange (wsV RX0 51 RX2 yX2_ownerOf wsX2_ownerOf) := goodIn_app (goodIn_of _ (by decide +kernel)) ggX0_slotsAreInRange_X2_ownerOf
set_option maxRecDepth 20000 in
theorem ggX0_slotsAreInRange_X2_lengthOf : GoodIn wsX0_slotsAreInRange wsX2_lengthOf := goodIn_r _ [18, 6, 23] (by decide +kernel) (by decide +kernel)
set_option maxRecDepth 20000 in
theorem gX0_slotsAreInRange_X2_lengthOf : GoodIn wsX0_slotsAreInRange (wsV RX0 54 RX2 yX2_lengthOf wsX2_lengthOf) := goodIn_app (goodIn_of _ (by decide +kernel)) ggX0_slotsAreInRange_X2_lengthOf
set_option maxRecDepth 20000 in
theorem ggX0_slotsAreInRange_X0_isAllZero : GoodIn wsX0_slotsAreInRange wsX0_isAllZero := goodIn_r _ [21, 22, 23] (by decide +kernel) (by decide +kernel)
set_option maxRecDepth 20000 in
theorem gX0_slotsAreInRange_X0_isAllZero : GoodIn wsX0_slotsAreInRange (va_wsS RX0 57 yX0_isAllZero wsX0_isAllZero) := goodIn_app (goodIn_of _ (by decide +kernel)) ggX0_slotsAreInRange_X0_isAllZero
theorem dX0_slotsAreInRange_0 : decode cX0_slotsAreInRange 0 = .ok (.iconst 0, 1) := by decide +kernel
theorem dX0_slotsAreInRange_1 : decode cX0_slotsAreInRange 1 = .ok (.istore_n 1, 1) := by decide +kernel
theorem dX0_slotsAreInRange_2 : decode cX0_slotsAreInRange 2 = .ok (.iload_n 1, 1) := by decide +kernel
theorem dX0_slotsAreInRange_3 : decode cX0_slotsAreInRange 3 = .ok (.bipush 6, 2) := by decide +kernel
theorem dX0_slotsAreInRange_5 : decode cX0_slotsAreInRange 5 = .ok (.if_icmp .ge 70, 3) := by decide +kernel
theorem dX0_slotsAreInRange_8 : decode cX0_slotsAreInRange 8 = .ok (.aload_n 0, 1) := by decide +kernel
theorem dX0_slotsAreInRange_9 : decode cX0_slotsAreInRange 9 = .ok (.iload_n 1, 1) := by decide +kernel
theorem dX0_slotsAreInRange_10 : decode cX0_slotsAreInRange 10 = .ok (.invokevirtual 43, 3) := by decide +kernel
theorem dX0_slotsAreInRange_13 : decode cX0_slotsAreInRange 13 = .ok (.iconst 0, 1) := by decide +kernel
theorem dX0_slotsAreInRange_14 : decode cX0_slotsAreInRange 14 = .ok (.bipush 99, 2) := by decide +kernel
theorem dX0_slotsAreInRange_16 : decode cX0_slotsAreInRange 16 = .ok (.invokestatic 47, 3) := by decide +kernel
theorem dX0_slotsAreInRange_19 : decode cX0_slotsAreInRange 19 = .ok (.ifCond .eq 30, 3) := by decide +kernel
theorem dX0_slotsAreInRange_22 : decode cX0_slotsAreInRange 22 = .ok (.aload_n 0, 1) := by decide +kernel
theorem dX0_slotsAreInRange_23 : decode cX0_slotsAreInRange 23 = .ok (.iload_n 1, 1) := by decide +kernel
theorem dX0_slotsAreInRange_24 : decode cX0_slotsAreInRange 24 = .ok (.invokevirtual 51, 3) := by decide +kernel
theorem dX0_slotsAreInRange_27 : decode cX0_slotsAreInRange 27 = .ok (.iconst 0, 1) := by decide +kernel
theorem dX0_slotsAreInRange_28 : decode cX0_slotsAreInRange 28 = .ok (.iconst 2, 1) := by decide +kernel
theorem dX0_slotsAreInRange_29 : decode cX0_slotsAreInRange 29 = .ok (.invokestatic 47, 3) := by decide +kernel
theorem dX0_slotsAreInRange_32 : decode cX0_slotsAreInRange 32 = .ok (.ifCond .eq 17, 3) := by decide +kernel
theorem dX0_slotsAreInRange_35 : decode cX0_slotsAreInRange 35 = .ok (.aload_n 0, 1) := by decide +kernel
theorem dX0_slotsAreInRange_36 : decode cX0_slotsAreInRange 36 = .ok (.iload_n 1, 1) := by decide +kernel
theorem dX0_slotsAreInRange_37 : decode cX0_slotsAreInRange 37 = .ok (.invokevirtual 54, 3) := by decide +kernel
theorem dX0_slotsAreInRange_40 : decode cX0_slotsAreInRange 40 = .ok (.iconst 0, 1) := by decide +kernel
theorem dX0_slotsAreInRange_41 : decode cX0_slotsAreInRange 41 = .ok (.bipush 64, 2) := by decide +kernel
theorem dX0_slotsAreInRange_43 : decode cX0_slotsAreInRange 43 = .ok (.invokestatic 47, 3) := by decide +kernel
theorem dX0_slotsAreInRange_46 : decode cX0_slotsAreInRange 46 = .ok (.ifCond .ne 5, 3) := by decide +kernel
theorem dX0_slotsAreInRange_49 : decode cX0_slotsAreInRange 49 = .ok (.iconst 0, 1) := by decide +kernel
theorem dX0_slotsAreInRange_50 : decode cX0_slotsAreInRange 50 = .ok (.ireturn, 1) := by decide +kernel
theorem dX0_slotsAreInRange_51 : decode cX0_slotsAreInRange 51 = .ok (.aload_n 0, 1) := by decide +kernel
theorem dX0_slotsAreInRange_52 : decode cX0_slotsAreInRange 52 = .ok (.iload_n 1, 1) := by decide +kernel
theorem dX0_slotsAreInRange_53 : decode cX0_slotsAreInRange 53 = .ok (.invokevirtual 43, 3) := by decide +kernel
theorem dX0_slotsAreInRange_56 : decode cX0_slotsAreInRange 56 = .ok (.ifCond .ne 13, 3) := by decide +kernel
theorem dX0_slotsAreInRange_59 : decode cX0_slotsAreInRange 59 = .ok (.aload_n 0, 1) := by decide +kernel
theorem dX0_slotsAreInRange_60 : decode cX0_slotsAreInRange 60 = .ok (.iload_n 1, 1) := by decide +kernel
theorem dX0_slotsAreInRange_61 : decode cX0_slotsAreInRange 61 = .ok (.invokestatic 57, 3) := by decide +kernel
theorem dX0_slotsAreInRange_64 : decode cX0_slotsAreInRange 64 = .ok (.ifCond .ne 5, 3) := by decide +kernel
theorem dX0_slotsAreInRange_67 : decode cX0_slotsAreInRange 67 = .ok (.iconst 0, 1) := by decide +kernel
theorem dX0_slotsAreInRange_68 : decode cX0_slotsAreInRange 68 = .ok (.ireturn, 1) := by decide +kernel
theorem dX0_slotsAreInRange_69 : decode cX0_slotsAreInRange 69 = .ok (.iinc 1 1, 3) := by decide +kernel
theorem dX0_slotsAreInRange_72 : decode cX0_slotsAreInRange 72 = .ok (.goto (-70), 3) := by decide +kernel
theorem dX0_slotsAreInRange_75 : decode cX0_slotsAreInRange 75 = .ok (.iconst 1, 1) := by decide +kernel
theorem dX0_slotsAreInRange_76 : decode cX0_slotsAreInRange 76 = .ok (.ireturn, 1) := by decide +kernel
theorem dX0_isAllZero_0 : decode cX0_isAllZero 0 = .ok (.iconst 0, 1) := by decide +kernel
theorem dX0_isAllZero_1 : decode cX0_isAllZero 1 = .ok (.istore_n 2, 1) := by decide +kernel
theorem dX0_isAllZero_2 : decode cX0_isAllZero 2 = .ok (.iload_n 2, 1) := by decide +kernel
theorem dX0_isAllZero_3 : decode cX0_isAllZero 3 = .ok (.bipush 7, 2) := by decide +kernel
theorem dX0_isAllZero_5 : decode cX0_isAllZero 5 = .ok (.if_icmp .ge 25, 3) := by decide +kernel
theorem dX0_isAllZero_8 : decode cX0_isAllZero 8 = .ok (.aload_n 0, 1) := by decide +kernel
theorem dX0_isAllZero_9 : decode cX0_isAllZero 9 = .ok (.getfield 27, 3) := by decide +kernel
theorem dX0_isAllZero_12 : decode cX0_isAllZero 12 = .ok (.bipush 7, 2) := by decide +kernel
theorem dX0_isAllZero_14 : decode cX0_isAllZero 14 = .ok (.iload_n 1, 1) := by decide +kernel
theorem dX0_isAllZero_15 : decode cX0_isAllZero 15 = .ok (.imul, 1) := by decide +kernel
theorem dX0_isAllZero_16 : decode cX0_isAllZero 16 = .ok (.iload_n 2, 1) := by decide +kernel
theorem dX0_isAllZero_17 : decode cX0_isAllZero 17 = .ok (.iadd, 1) := by decide +kernel
theorem dX0_isAllZero_18 : decode cX0_isAllZero 18 = .ok (.iaload, 1) := by decide +kernel
theorem dX0_isAllZero_19 : decode cX0_isAllZero 19 = .ok (.ifCond .eq 5, 3) := by decide +kernel
theorem dX0_isAllZero_22 : decode cX0_isAllZero 22 = .ok (.iconst 0, 1) := by decide +kernel
theorem dX0_isAllZero_23 : decode cX0_isAllZero 23 = .ok (.ireturn, 1) := by decide +kernel
theorem dX0_isAllZero_24 : decode cX0_isAllZero 24 = .ok (.iinc 2 1, 3) := by decide +kernel
theorem dX0_isAllZero_27 : decode cX0_isAllZero 27 = .ok (.goto (-25), 3) := by decide +kernel
theorem dX0_isAllZero_30 : decode cX0_isAllZero 30 = .ok (.iconst 1, 1) := by decide +kernel
theorem dX0_isAllZero_31 : decode cX0_isAllZero 31 = .ok (.ireturn, 1) := by decide +kernel
set_option maxRecDepth 20000 in
theorem ggX0_namesDiffer_X2_nameOf : GoodIn wsX0_namesDiffer wsX2_nameOf := goodIn_r _ [5, 6, 7] (by decide +kernel) (by decide +kernel)
set_option maxRecDepth 20000 in
theorem gX0_namesDiffer_X2_nameOf : GoodIn wsX0_namesDiffer (wsV RX0 43 RX2 yX2_nameOf wsX2_nameOf) := goodIn_app (goodIn_of _ (by decide +kernel)) ggX0_namesDiffer_X2_nameOf
theorem dX0_namesDiffer_0 : decode cX0_namesDiffer 0 = .ok (.iconst 1, 1) := by decide +kernel
theorem dX0_namesDiffer_1 : decode cX0_namesDiffer 1 = .ok (.istore_n 1, 1) := by decide +kernel
theorem dX0_namesDiffer_2 : decode cX0_namesDiffer 2 = .ok (.iload_n 1, 1) := by decide +kernel
theorem dX0_namesDiffer_3 : decode cX0_namesDiffer 3 = .ok (.bipush 6, 2) := by decide +kernel
theorem dX0_namesDiffer_5 : decode cX0_namesDiffer 5 = .ok (.if_icmp .ge 45, 3) := by decide +kernel
theorem dX0_namesDiffer_8 : decode cX0_namesDiffer 8 = .ok (.iconst 0, 1) := by decide +kernel
theorem dX0_namesDiffer_9 : decode cX0_namesDiffer 9 = .ok (.istore_n 2, 1) := by decide +kernel
theorem dX0_namesDiffer_10 : decode cX0_namesDiffer 10 = .ok (.iload_n 2, 1) := by decide +kernel
theorem dX0_namesDiffer_11 : decode cX0_namesDiffer 11 = .ok (.iload_n 1, 1) := by decide +kernel
theorem dX0_namesDiffer_12 : decode cX0_namesDiffer 12 = .ok (.if_icmp .ge 32, 3) := by decide +kernel
theorem dX0_namesDiffer_15 : decode cX0_namesDiffer 15 = .ok (.aload_n 0, 1) := by decide +kernel
theorem dX0_namesDiffer_16 : decode cX0_namesDiffer 16 = .ok (.iload_n 1, 1) := by decide +kernel
theorem dX0_namesDiffer_17 : decode cX0_namesDiffer 17 = .ok (.invokevirtual 43, 3) := by decide +kernel
theorem dX0_namesDiffer_20 : decode cX0_namesDiffer 20 = .ok (.ifCond .eq 18, 3) := by decide +kernel
theorem dX0_namesDiffer_23 : decode cX0_namesDiffer 23 = .ok (.aload_n 0, 1) := by decide +kernel
theorem dX0_namesDiffer_24 : decode cX0_namesDiffer 24 = .ok (.iload_n 1, 1) := by decide +kernel
theorem dX0_namesDiffer_25 : decode cX0_namesDiffer 25 = .ok (.invokevirtual 43, 3) := by decide +kernel
theorem dX0_namesDiffer_28 : decode cX0_namesDiffer 28 = .ok (.aload_n 0, 1) := by decide +kernel
theorem dX0_namesDiffer_29 : decode cX0_namesDiffer 29 = .ok (.iload_n 2, 1) := by decide +kernel
theorem dX0_namesDiffer_30 : decode cX0_namesDiffer 30 = .ok (.invokevirtual 43, 3) := by decide +kernel
theorem dX0_namesDiffer_33 : decode cX0_namesDiffer 33 = .ok (.if_icmp .ne 5, 3) := by decide +kernel
theorem dX0_namesDiffer_36 : decode cX0_namesDiffer 36 = .ok (.iconst 0, 1) := by decide +kernel
theorem dX0_namesDiffer_37 : decode cX0_namesDiffer 37 = .ok (.ireturn, 1) := by decide +kernel
theorem dX0_namesDiffer_38 : decode cX0_namesDiffer 38 = .ok (.iinc 2 1, 3) := by decide +kernel
theorem dX0_namesDiffer_41 : decode cX0_namesDiffer 41 = .ok (.goto (-31), 3) := by decide +kernel
theorem dX0_namesDiffer_44 : decode cX0_namesDiffer 44 = .ok (.iinc 1 1, 3) := by decide +kernel
theorem dX0_namesDiffer_47 : decode cX0_namesDiffer 47 = .ok (.goto (-45), 3) := by decide +kernel
theorem dX0_namesDiffer_50 : decode cX0_namesDiffer 50 = .ok (.iconst 1, 1) := by decide +kernel
theorem dX0_namesDiffer_51 : decode cX0_namesDiffer 51 = .ok (.ireturn, 1) := by decide +kernel
set_option maxRecDepth 20000 in
theorem ggX0_extentsAreRuns_X2_extentOf : GoodIn wsX0_extentsAreRuns wsX2_extentOf := goodIn_r _ [5, 6, 23] (by decide +kernel) (by decide +kernel)
set_option maxRecDepth 20000 in
theorem gX0_extentsAreRuns_X2_extentOf : GoodIn wsX0_extentsAreRuns (wsV RX0 61 RX2 yX2_extentOf wsX2_extentOf) := goodIn_app (goodIn_of _ (by decide +kernel)) ggX0_extentsAreRuns_X2_extentOf
set_option maxRecDepth 20000 in
theorem ggX0_extentsAreRuns_X3_isRun : GoodIn wsX0_extentsAreRuns wsX3_isRun := goodIn_r _ [10, 11, 12, 9, 13, 14, 15, 16, 17, 18, 19, 20, 21, 22] (by decide +kernel) (by decide +kernel)
set_option maxRecDepth 20000 in
theorem gX0_extentsAreRuns_X3_isRun : GoodIn wsX0_extentsAreRuns (va_wsS RX0 65 yX3_isRun wsX3_isRun) := goodIn_app (goodIn_of _ (by decide +kernel)) ggX0_extentsAreRuns_X3_isRun
theorem dX0_extentsAreRuns_0 : decode cX0_extentsAreRuns 0 = .ok (.iconst 0, 1) := by decide +kernel
theorem dX0_extentsAreRuns_1 : decode cX0_extentsAreRuns 1 = .ok (.istore_n 1, 1) := by decide +kernel
theorem dX0_extentsAreRuns_2 : decode cX0_extentsAreRuns 2 = .ok (.iload_n 1, 1) := by decide +kernel
theorem dX0_extentsAreRuns_3 : decode cX0_extentsAreRuns 3 = .ok (.bipush 6, 2) := by decide +kernel
theorem dX0_extentsAreRuns_5 : decode cX0_extentsAreRuns 5 = .ok (.if_icmp .ge 56, 3) := by decide +kernel
theorem dX0_extentsAreRuns_8 : decode cX0_extentsAreRuns 8 = .ok (.iconst 0, 1) := by decide +kernel
theorem dX0_extentsAreRuns_9 : decode cX0_extentsAreRuns 9 = .ok (.istore_n 2, 1) := by decide +kernel
theorem dX0_extentsAreRuns_10 : decode cX0_extentsAreRuns 10 = .ok (.iconst 0, 1) := by decide +kernel
theorem dX0_extentsAreRuns_11 : decode cX0_extentsAreRuns 11 = .ok (.istore_n 3, 1) := by decide +kernel
theorem dX0_extentsAreRuns_12 : decode cX0_extentsAreRuns 12 = .ok (.iload_n 3, 1) := by decide +kernel
theorem dX0_extentsAreRuns_13 : decode cX0_extentsAreRuns 13 = .ok (.iconst 4, 1) := by decide +kernel
theorem dX0_extentsAreRuns_14 : decode cX0_extentsAreRuns 14 = .ok (.if_icmp .ge 41, 3) := by decide +kernel
theorem dX0_extentsAreRuns_17 : decode cX0_extentsAreRuns 17 = .ok (.aload_n 0, 1) := by decide +kernel
theorem dX0_extentsAreRuns_18 : decode cX0_extentsAreRuns 18 = .ok (.iload_n 1, 1) := by decide +kernel
theorem dX0_extentsAreRuns_19 : decode cX0_extentsAreRuns 19 = .ok (.iload_n 3, 1) := by decide +kernel
theorem dX0_extentsAreRuns_20 : decode cX0_extentsAreRuns 20 = .ok (.invokevirtual 61, 3) := by decide +kernel
theorem dX0_extentsAreRuns_23 : decode cX0_extentsAreRuns 23 = .ok (.istore 4, 2) := by decide +kernel
theorem dX0_extentsAreRuns_25 : decode cX0_extentsAreRuns 25 = .ok (.iload 4, 2) := by decide +kernel
theorem dX0_extentsAreRuns_27 : decode cX0_extentsAreRuns 27 = .ok (.ifCond .ne 8, 3) := by decide +kernel
theorem dX0_extentsAreRuns_30 : decode cX0_extentsAreRuns 30 = .ok (.iconst 1, 1) := by decide +kernel
theorem dX0_extentsAreRuns_31 : decode cX0_extentsAreRuns 31 = .ok (.istore_n 2, 1) := by decide +kernel
theorem dX0_extentsAreRuns_32 : decode cX0_extentsAreRuns 32 = .ok (.goto 17, 3) := by decide +kernel
theorem dX0_extentsAreRuns_35 : decode cX0_extentsAreRuns 35 = .ok (.iload_n 2, 1) := by decide +kernel
theorem dX0_extentsAreRuns_36 : decode cX0_extentsAreRuns 36 = .ok (.ifCond .ne 11, 3) := by decide +kernel
theorem dX0_extentsAreRuns_39 : decode cX0_extentsAreRuns 39 = .ok (.iload 4, 2) := by decide +kernel
theorem dX0_extentsAreRuns_41 : decode cX0_extentsAreRuns 41 = .ok (.invokestatic 65, 3) := by decide +kernel
theorem dX0_extentsAreRuns_44 : decode cX0_extentsAreRuns 44 = .ok (.ifCond .ne 5, 3) := by decide +kernel
theorem dX0_extentsAreRuns_47 : decode cX0_extentsAreRuns 47 = .ok (.iconst 0, 1) := by decide +kernel
theorem dX0_extentsAreRuns_48 : decode cX0_extentsAreRuns 48 = .ok (.ireturn, 1) := by decide +kernel
theorem dX0_extentsAreRuns_49 : decode cX0_extentsAreRuns 49 = .ok (.iinc 3 1, 3) := by decide +kernel
theorem dX0_extentsAreRuns_52 : decode cX0_extentsAreRuns 52 = .ok (.goto (-40), 3) := by decide +kernel
theorem dX0_extentsAreRuns_55 : decode cX0_extentsAreRuns 55 = .ok (.iinc 1 1, 3) := by decide +kernel
theorem dX0_extentsAreRuns_58 : decode cX0_extentsAreRuns 58 = .ok (.goto (-56), 3) := by decide +kernel
theorem dX0_extentsAreRuns_61 : decode cX0_extentsAreRuns 61 = .ok (.iconst 1, 1) := by decide +kernel
theorem dX0_extentsAreRuns_62 : decode cX0_extentsAreRuns 62 = .ok (.ireturn, 1) := by decide +kernel
set_option maxRecDepth 20000 in
theorem ggX0_runsAreApart_X2_extentOf : GoodIn wsX0_runsAreApart wsX2_extentOf := goodIn_r _ [5, 6, 20] (by decide +kernel) (by decide +kernel)
set_option maxRecDepth 20000 in
theorem gX0_runsAreApart_X2_extentOf : GoodIn wsX0_runsAreApart (wsV RX0 61 RX2 yX2_extentOf wsX2_extentOf) := goodIn_app (goodIn_of _ (by decide +kernel)) ggX0_runsAreApart_X2_extentOf
set_option maxRecDepth 20000 in
theorem ggX0_runsAreApart_X3_bitsOf : GoodIn wsX0_runsAreApart wsX3_bitsOf := goodIn_r _ [10, 11, 12, 9, 13, 14, 15, 16, 17, 18, 19] (by decide +kernel) (by decide +kernel)
set_option maxRecDepth 20000 in
theorem gX0_runsAreApart_X3_bitsOf : GoodIn wsX0_runsAreApart (va_wsS RX0 71 yX3_bitsOf wsX3_bitsOf) := goodIn_app (goodIn_of _ (by decide +kernel)) ggX0_runsAreApart_X3_bitsOf
theorem dX0_runsAreApart_0 : decode cX0_runsAreApart 0 = .ok (.iconst 0, 1) := by decide +kernel
theorem dX0_runsAreApart_1 : decode cX0_runsAreApart 1 = .ok (.istore_n 1, 1) := by decide +kernel
theorem dX0_runsAreApart_2 : decode cX0_runsAreApart 2 = .ok (.iconst 0, 1) := by decide +kernel
theorem dX0_runsAreApart_3 : decode cX0_runsAreApart 3 = .ok (.istore_n 2, 1) := by decide +kernel
theorem dX0_runsAreApart_4 : decode cX0_runsAreApart 4 = .ok (.iload_n 2, 1) := by decide +kernel
theorem dX0_runsAreApart_5 : decode cX0_runsAreApart 5 = .ok (.bipush 6, 2) := by decide +kernel
theorem dX0_runsAreApart_7 : decode cX0_runsAreApart 7 = .ok (.if_icmp .ge 47, 3) := by decide +kernel
theorem dX0_runsAreApart_10 : decode cX0_runsAreApart 10 = .ok (.iconst 0, 1) := by decide +kernel
theorem dX0_runsAreApart_11 : decode cX0_runsAreApart 11 = .ok (.istore_n 3, 1) := by decide +kernel
theorem dX0_runsAreApart_12 : decode cX0_runsAreApart 12 = .ok (.iload_n 3, 1) := by decide +kernel
theorem dX0_runsAreApart_13 : decode cX0_runsAreApart 13 = .ok (.iconst 4, 1) := by decide +kernel
theorem dX0_runsAreApart_14 : decode cX0_runsAreApart 14 = .ok (.if_icmp .ge 34, 3) := by decide +kernel
theorem dX0_runsAreApart_17 : decode cX0_runsAreApart 17 = .ok (.aload_n 0, 1) := by decide +kernel
theorem dX0_runsAreApart_18 : decode cX0_runsAreApart 18 = .ok (.iload_n 2, 1) := by decide +kernel
theorem dX0_runsAreApart_19 : decode cX0_runsAreApart 19 = .ok (.iload_n 3, 1) := by decide +kernel
theorem dX0_runsAreApart_20 : decode cX0_runsAreApart 20 = .ok (.invokevirtual 61, 3) := by decide +kernel
theorem dX0_runsAreApart_23 : decode cX0_runsAreApart 23 = .ok (.invokestatic 71, 3) := by decide +kernel
theorem dX0_runsAreApart_26 : decode cX0_runsAreApart 26 = .ok (.istore 4, 2) := by decide +kernel
theorem dX0_runsAreApart_28 : decode cX0_runsAreApart 28 = .ok (.iload_n 1, 1) := by decide +kernel
theorem dX0_runsAreApart_29 : decode cX0_runsAreApart 29 = .ok (.iload 4, 2) := by decide +kernel
theorem dX0_runsAreApart_31 : decode cX0_runsAreApart 31 = .ok (.iand, 1) := by decide +kernel
theorem dX0_runsAreApart_32 : decode cX0_runsAreApart 32 = .ok (.ifCond .eq 5, 3) := by decide +kernel
theorem dX0_runsAreApart_35 : decode cX0_runsAreApart 35 = .ok (.iconst 0, 1) := by decide +kernel
theorem dX0_runsAreApart_36 : decode cX0_runsAreApart 36 = .ok (.ireturn, 1) := by decide +kernel
theorem dX0_runsAreApart_37 : decode cX0_runsAreApart 37 = .ok (.iload_n 1, 1) := by decide +kernel
theorem dX0_runsAreApart_38 : decode cX0_runsAreApart 38 = .ok (.iload 4, 2) := by decide +kernel
theorem dX0_runsAreApart_40 : decode cX0_runsAreApart 40 = .ok (.ior, 1) := by decide +kernel
theorem dX0_runsAreApart_41 : decode cX0_runsAreApart 41 = .ok (.istore_n 1, 1) := by decide +kernel
theorem dX0_runsAreApart_42 : decode cX0_runsAreApart 42 = .ok (.iinc 3 1, 3) := by decide +kernel
theorem dX0_runsAreApart_45 : decode cX0_runsAreApart 45 = .ok (.goto (-33), 3) := by decide +kernel
theorem dX0_runsAreApart_48 : decode cX0_runsAreApart 48 = .ok (.iinc 2 1, 3) := by decide +kernel
theorem dX0_runsAreApart_51 : decode cX0_runsAreApart 51 = .ok (.goto (-47), 3) := by decide +kernel
theorem dX0_runsAreApart_54 : decode cX0_runsAreApart 54 = .ok (.iconst 1, 1) := by decide +kernel
theorem dX0_runsAreApart_55 : decode cX0_runsAreApart 55 = .ok (.ireturn, 1) := by decide +kernel
set_option maxRecDepth 20000 in
theorem ggX0_runsFitLengths_X2_lengthOf : GoodIn wsX0_runsFitLengths wsX2_lengthOf := goodIn_r _ [5, 6, 31] (by decide +kernel) (by decide +kernel)
set_option maxRecDepth 20000 in
theorem gX0_runsFitLengths_X2_lengthOf : GoodIn wsX0_runsFitLengths (wsV RX0 54 RX2 yX2_lengthOf wsX2_lengthOf) := goodIn_app (goodIn_of _ (by decide +kernel)) ggX0_runsFitLengths_X2_lengthOf
set_option maxRecDepth 20000 in
theorem ggX0_runsFitLengths_X2_needOf : GoodIn wsX0_runsFitLengths wsX2_needOf := goodIn_r _ [9] (by decide +kernel) (by decide +kernel)
set_option maxRecDepth 20000 in
theorem gX0_runsFitLengths_X2_needOf : GoodIn wsX0_runsFitLengths (va_wsS RX0 74 yX2_needOf wsX2_needOf) := goodIn_app (goodIn_of _ (by decide +kernel)) ggX0_runsFitLengths_X2_needOf
set_option maxRecDepth 20000 in
theorem ggX0_runsFitLengths_X2_blocksOf : GoodIn wsX0_runsFitLengths wsX2_blocksOf := goodIn_r _ [13, 14, 15, 16, 4, 17, 6, 18, 19, 20, 21, 22, 23, 24, 31] (by decide +kernel) (by decide +kernel)
set_option maxRecDepth 20000 in
theorem gX0_runsFitLengths_X2_blocksOf : GoodIn wsX0_runsFitLengths (wsV RX0 77 RX2 yX2_blocksOf wsX2_blocksOf) := goodIn_app (goodIn_of _ (by decide +kernel)) ggX0_runsFitLengths_X2_blocksOf
set_option maxRecDepth 20000 in
theorem ggX0_runsFitLengths_X2_runsOf : GoodIn wsX0_runsFitLengths wsX2_runsOf := goodIn_r _ [28, 14, 15, 16, 4, 17, 6, 31] (by decide +kernel) (by decide +kernel)
set_option maxRecDepth 20000 in
theorem gX0_runsFitLengths_X2_runsOf : GoodIn wsX0_runsFitLengths (wsV RX0 80 RX2 yX2_runsOf wsX2_runsOf) := goodIn_app (goodIn_of _ (by decide +kernel)) ggX0_runsFitLengths_X2_runsOf
set_option maxRecDepth 20000 in
theorem ggX0_runsFitLengths_X2_extentOf : GoodIn wsX0_runsFitLengths wsX2_extentOf := goodIn_r _ [17, 6, 31] (by decide +kernel) (by decide +kernel)
set_option maxRecDepth 20000 in
theorem gX0_runsFitLengths_X2_extentOf : GoodIn wsX0_runsFitLengths (wsV RX0 61 RX2 yX2_extentOf wsX2_extentOf) := goodIn_app (goodIn_of _ (by decide +kernel)) ggX0_runsFitLengths_X2_extentOf
set_option maxRecDepth 20000 in
theorem ggX0_runsFitLengths_X3_blocksOf : GoodIn wsX0_runsFitLengths wsX3_blocksOf := goodIn_r _ [21, 22, 23, 20, 24] (by decide +kernel) (by decide +kernel)
set_option maxRecDepth 20000 in
theorem gX0_runsFitLengths_X3_blocksOf : GoodIn wsX0_runsFitLengths (va_wsS RX0 83 yX3_blocksOf wsX3_blocksOf) := goodIn_app (goodIn_of _ (by decide +kernel)) ggX0_runsFitLengths_X3_blocksOf
theorem dX0_runsFitLengths_0 : decode cX0_runsFitLengths 0 = .ok (.iconst 0, 1) := by decide +kernel
theorem dX0_runsFitLengths_1 : decode cX0_runsFitLengths 1 = .ok (.istore_n 1, 1) := by decide +kernel
theorem dX0_runsFitLengths_2 : decode cX0_runsFitLengths 2 = .ok (.iload_n 1, 1) := by decide +kernel
theorem dX0_runsFitLengths_3 : decode cX0_runsFitLengths 3 = .ok (.bipush 6, 2) := by decide +kernel
theorem dX0_runsFitLengths_5 : decode cX0_runsFitLengths 5 = .ok (.if_icmp .ge 63, 3) := by decide +kernel
theorem dX0_runsFitLengths_8 : decode cX0_runsFitLengths 8 = .ok (.aload_n 0, 1) := by decide +kernel
theorem dX0_runsFitLengths_9 : decode cX0_runsFitLengths 9 = .ok (.iload_n 1, 1) := by decide +kernel
theorem dX0_runsFitLengths_10 : decode cX0_runsFitLengths 10 = .ok (.invokevirtual 54, 3) := by decide +kernel
theorem dX0_runsFitLengths_13 : decode cX0_runsFitLengths 13 = .ok (.invokestatic 74, 3) := by decide +kernel
theorem dX0_runsFitLengths_16 : decode cX0_runsFitLengths 16 = .ok (.istore_n 2, 1) := by decide +kernel
theorem dX0_runsFitLengths_17 : decode cX0_runsFitLengths 17 = .ok (.aload_n 0, 1) := by decide +kernel
theorem dX0_runsFitLengths_18 : decode cX0_runsFitLengths 18 = .ok (.iload_n 1, 1) := by decide +kernel
theorem dX0_runsFitLengths_19 : decode cX0_runsFitLengths 19 = .ok (.invokevirtual 77, 3) := by decide +kernel
theorem dX0_runsFitLengths_22 : decode cX0_runsFitLengths 22 = .ok (.istore_n 3, 1) := by decide +kernel
theorem dX0_runsFitLengths_23 : decode cX0_runsFitLengths 23 = .ok (.aload_n 0, 1) := by decide +kernel
theorem dX0_runsFitLengths_24 : decode cX0_runsFitLengths 24 = .ok (.iload_n 1, 1) := by decide +kernel
theorem dX0_runsFitLengths_25 : decode cX0_runsFitLengths 25 = .ok (.invokevirtual 80, 3) := by decide +kernel
theorem dX0_runsFitLengths_28 : decode cX0_runsFitLengths 28 = .ok (.istore 4, 2) := by decide +kernel
theorem dX0_runsFitLengths_30 : decode cX0_runsFitLengths 30 = .ok (.iload_n 3, 1) := by decide +kernel
theorem dX0_runsFitLengths_31 : decode cX0_runsFitLengths 31 = .ok (.iload_n 2, 1) := by decide +kernel
theorem dX0_runsFitLengths_32 : decode cX0_runsFitLengths 32 = .ok (.if_icmp .ge 5, 3) := by decide +kernel
theorem dX0_runsFitLengths_35 : decode cX0_runsFitLengths 35 = .ok (.iconst 0, 1) := by decide +kernel
theorem dX0_runsFitLengths_36 : decode cX0_runsFitLengths 36 = .ok (.ireturn, 1) := by decide +kernel
theorem dX0_runsFitLengths_37 : decode cX0_runsFitLengths 37 = .ok (.iload 4, 2) := by decide +kernel
theorem dX0_runsFitLengths_39 : decode cX0_runsFitLengths 39 = .ok (.ifCond .le 23, 3) := by decide +kernel
theorem dX0_runsFitLengths_42 : decode cX0_runsFitLengths 42 = .ok (.iload_n 3, 1) := by decide +kernel
theorem dX0_runsFitLengths_43 : decode cX0_runsFitLengths 43 = .ok (.aload_n 0, 1) := by decide +kernel
theorem dX0_runsFitLengths_44 : decode cX0_runsFitLengths 44 = .ok (.iload_n 1, 1) := by decide +kernel
theorem dX0_runsFitLengths_45 : decode cX0_runsFitLengths 45 = .ok (.iload 4, 2) := by decide +kernel
theorem dX0_runsFitLengths_47 : decode cX0_runsFitLengths 47 = .ok (.iconst 1, 1) := by decide +kernel
theorem dX0_runsFitLengths_48 : decode cX0_runsFitLengths 48 = .ok (.isub, 1) := by decide +kernel
theorem dX0_runsFitLengths_49 : decode cX0_runsFitLengths 49 = .ok (.invokevirtual 61, 3) := by decide +kernel
theorem dX0_runsFitLengths_52 : decode cX0_runsFitLengths 52 = .ok (.invokestatic 83, 3) := by decide +kernel
theorem dX0_runsFitLengths_55 : decode cX0_runsFitLengths 55 = .ok (.isub, 1) := by decide +kernel
theorem dX0_runsFitLengths_56 : decode cX0_runsFitLengths 56 = .ok (.iload_n 2, 1) := by decide +kernel
theorem dX0_runsFitLengths_57 : decode cX0_runsFitLengths 57 = .ok (.if_icmp .lt 5, 3) := by decide +kernel
theorem dX0_runsFitLengths_60 : decode cX0_runsFitLengths 60 = .ok (.iconst 0, 1) := by decide +kernel
theorem dX0_runsFitLengths_61 : decode cX0_runsFitLengths 61 = .ok (.ireturn, 1) := by decide +kernel
theorem dX0_runsFitLengths_62 : decode cX0_runsFitLengths 62 = .ok (.iinc 1 1, 3) := by decide +kernel
theorem dX0_runsFitLengths_65 : decode cX0_runsFitLengths 65 = .ok (.goto (-63), 3) := by decide +kernel
theorem dX0_runsFitLengths_68 : decode cX0_runsFitLengths 68 = .ok (.iconst 1, 1) := by decide +kernel
theorem dX0_runsFitLengths_69 : decode cX0_runsFitLengths 69 = .ok (.ireturn, 1) := by decide +kernel
set_option maxRecDepth 20000 in
theorem ggX0_bitsOfAllRuns_X2_extentOf : GoodIn wsX0_bitsOfAllRuns wsX2_extentOf := goodIn_r _ [5, 6, 20] (by decide +kernel) (by decide +kernel)
set_option maxRecDepth 20000 in
theorem gX0_bitsOfAllRuns_X2_extentOf : GoodIn wsX0_bitsOfAllRuns (wsV RX0 61 RX2 yX2_extentOf wsX2_extentOf) := goodIn_app (goodIn_of _ (by decide +kernel)) ggX0_bitsOfAllRuns_X2_extentOf
set_option maxRecDepth 20000 in
theorem ggX0_bitsOfAllRuns_X3_bitsOf : GoodIn wsX0_bitsOfAllRuns wsX3_bitsOf := goodIn_r _ [10, 11, 12, 9, 13, 14, 15, 16, 17, 18, 19] (by decide +kernel) (by decide +kernel)
set_option maxRecDepth 20000 in
theorem gX0_bitsOfAllRuns_X3_bitsOf : GoodIn wsX0_bitsOfAllRuns (va_wsS RX0 71 yX3_bitsOf wsX3_bitsOf) := goodIn_app (goodIn_of _ (by decide +kernel)) ggX0_bitsOfAllRuns_X3_bitsOf
theorem dX0_bitsOfAllRuns_0 : decode cX0_bitsOfAllRuns 0 = .ok (.iconst 0, 1) := by decide +kernel
theorem dX0_bitsOfAllRuns_1 : decode cX0_bitsOfAllRuns 1 = .ok (.istore_n 1, 1) := by decide +kernel
theorem dX0_bitsOfAllRuns_2 : decode cX0_bitsOfAllRuns 2 = .ok (.iconst 0, 1) := by decide +kernel
theorem dX0_bitsOfAllRuns_3 : decode cX0_bitsOfAllRuns 3 = .ok (.istore_n 2, 1) := by decide +kernel
theorem dX0_bitsOfAllRuns_4 : decode cX0_bitsOfAllRuns 4 = .ok (.iload_n 2, 1) := by decide +kernel
theorem dX0_bitsOfAllRuns_5 : decode cX0_bitsOfAllRuns 5 = .ok (.bipush 6, 2) := by decide +kernel
theorem dX0_bitsOfAllRuns_7 : decode cX0_bitsOfAllRuns 7 = .ok (.if_icmp .ge 34, 3) := by decide +kernel
theorem dX0_bitsOfAllRuns_10 : decode cX0_bitsOfAllRuns 10 = .ok (.iconst 0, 1) := by decide +kernel
theorem dX0_bitsOfAllRuns_11 : decode cX0_bitsOfAllRuns 11 = .ok (.istore_n 3, 1) := by decide +kernel
theorem dX0_bitsOfAllRuns_12 : decode cX0_bitsOfAllRuns 12 = .ok (.iload_n 3, 1) := by decide +kernel
theorem dX0_bitsOfAllRuns_13 : decode cX0_bitsOfAllRuns 13 = .ok (.iconst 4, 1) := by decide +kernel
theorem dX0_bitsOfAllRuns_14 : decode cX0_bitsOfAllRuns 14 = .ok (.if_icmp .ge 21, 3) := by decide +kernel
theorem dX0_bitsOfAllRuns_17 : decode cX0_bitsOfAllRuns 17 = .ok (.iload_n 1, 1) := by decide +kernel
theorem dX0_bitsOfAllRuns_18 : decode cX0_bitsOfAllRuns 18 = .ok (.aload_n 0, 1) := by decide +kernel
theorem dX0_bitsOfAllRuns_19 : decode cX0_bitsOfAllRuns 19 = .ok (.iload_n 2, 1) := by decide +kernel
theorem dX0_bitsOfAllRuns_20 : decode cX0_bitsOfAllRuns 20 = .ok (.iload_n 3, 1) := by decide +kernel
theorem dX0_bitsOfAllRuns_21 : decode cX0_bitsOfAllRuns 21 = .ok (.invokevirtual 61, 3) := by decide +kernel
theorem dX0_bitsOfAllRuns_24 : decode cX0_bitsOfAllRuns 24 = .ok (.invokestatic 71, 3) := by decide +kernel
theorem dX0_bitsOfAllRuns_27 : decode cX0_bitsOfAllRuns 27 = .ok (.ior, 1) := by decide +kernel
theorem dX0_bitsOfAllRuns_28 : decode cX0_bitsOfAllRuns 28 = .ok (.istore_n 1, 1) := by decide +kernel
theorem dX0_bitsOfAllRuns_29 : decode cX0_bitsOfAllRuns 29 = .ok (.iinc 3 1, 3) := by decide +kernel
theorem dX0_bitsOfAllRuns_32 : decode cX0_bitsOfAllRuns 32 = .ok (.goto (-20), 3) := by decide +kernel
theorem dX0_bitsOfAllRuns_35 : decode cX0_bitsOfAllRuns 35 = .ok (.iinc 2 1, 3) := by decide +kernel
theorem dX0_bitsOfAllRuns_38 : decode cX0_bitsOfAllRuns 38 = .ok (.goto (-34), 3) := by decide +kernel
theorem dX0_bitsOfAllRuns_41 : decode cX0_bitsOfAllRuns 41 = .ok (.iload_n 1, 1) := by decide +kernel
theorem dX0_bitsOfAllRuns_42 : decode cX0_bitsOfAllRuns 42 = .ok (.ireturn, 1) := by decide +kernel
set_option maxRecDepth 20000 in
theorem ggX0_quotasCoverUsage_X2_quotaOf : GoodIn wsX0_quotasCoverUsage wsX2_quotaOf := goodIn_r _ [5, 6, 34] (by decide +kernel) (by decide +kernel)
set_option maxRecDepth 20000 in
theorem gX0_quotasCoverUsage_X2_quotaOf : GoodIn wsX0_quotasCoverUsage (wsV RX0 84 RX2 yX2_quotaOf wsX2_quotaOf) := goodIn_app (goodIn_of _ (by decide +kernel)) ggX0_quotasCoverUsage_X2_quotaOf
set_option maxRecDepth 20000 in
theorem ggX0_quotasCoverUsage_X2_usageOf : GoodIn wsX0_quotasCoverUsage wsX2_usageOf := goodIn_r _ [10, 11, 12, 13, 4, 14, 6, 15, 16, 17, 18, 19, 20, 21, 22, 23, 24, 25, 26, 27, 28, 29, 34] (by decide +kernel) (by decide +kernel)
set_option maxRecDepth 20000 in
theorem gX0_quotasCoverUsage_X2_usageOf : GoodIn wsX0_quotasCoverUsage (wsV RX0 87 RX2 yX2_usageOf wsX2_usageOf) := goodIn_app (goodIn_of _ (by decide +kernel)) ggX0_quotasCoverUsage_X2_usageOf
set_option maxRecDepth 20000 in
theorem ggX0_quotasCoverUsage_X0_isIn : GoodIn wsX0_quotasCoverUsage wsX0_isIn := goodIn_r _ [33] (by decide +kernel) (by decide +kernel)
set_option maxRecDepth 20000 in
theorem gX0_quotasCoverUsage_X0_isIn : GoodIn wsX0_quotasCoverUsage (va_wsS RX0 47 yX0_isIn wsX0_isIn) := goodIn_app (goodIn_of _ (by decide +kernel)) ggX0_quotasCoverUsage_X0_isIn
theorem dX0_quotasCoverUsage_0 : decode cX0_quotasCoverUsage 0 = .ok (.iconst 0, 1) := by decide +kernel
theorem dX0_quotasCoverUsage_1 : decode cX0_quotasCoverUsage 1 = .ok (.istore_n 1, 1) := by decide +kernel
theorem dX0_quotasCoverUsage_2 : decode cX0_quotasCoverUsage 2 = .ok (.iload_n 1, 1) := by decide +kernel
theorem dX0_quotasCoverUsage_3 : decode cX0_quotasCoverUsage 3 = .ok (.iconst 3, 1) := by decide +kernel
theorem dX0_quotasCoverUsage_4 : decode cX0_quotasCoverUsage 4 = .ok (.if_icmp .ge 29, 3) := by decide +kernel
theorem dX0_quotasCoverUsage_7 : decode cX0_quotasCoverUsage 7 = .ok (.aload_n 0, 1) := by decide +kernel
theorem dX0_quotasCoverUsage_8 : decode cX0_quotasCoverUsage 8 = .ok (.iload_n 1, 1) := by decide +kernel
theorem dX0_quotasCoverUsage_9 : decode cX0_quotasCoverUsage 9 = .ok (.invokevirtual 84, 3) := by decide +kernel
theorem dX0_quotasCoverUsage_12 : decode cX0_quotasCoverUsage 12 = .ok (.aload_n 0, 1) := by decide +kernel
theorem dX0_quotasCoverUsage_13 : decode cX0_quotasCoverUsage 13 = .ok (.iload_n 1, 1) := by decide +kernel
theorem dX0_quotasCoverUsage_14 : decode cX0_quotasCoverUsage 14 = .ok (.invokevirtual 87, 3) := by decide +kernel
theorem dX0_quotasCoverUsage_17 : decode cX0_quotasCoverUsage 17 = .ok (.bipush 32, 2) := by decide +kernel
theorem dX0_quotasCoverUsage_19 : decode cX0_quotasCoverUsage 19 = .ok (.invokestatic 47, 3) := by decide +kernel
theorem dX0_quotasCoverUsage_22 : decode cX0_quotasCoverUsage 22 = .ok (.ifCond .ne 5, 3) := by decide +kernel
theorem dX0_quotasCoverUsage_25 : decode cX0_quotasCoverUsage 25 = .ok (.iconst 0, 1) := by decide +kernel
theorem dX0_quotasCoverUsage_26 : decode cX0_quotasCoverUsage 26 = .ok (.ireturn, 1) := by decide +kernel
theorem dX0_quotasCoverUsage_27 : decode cX0_quotasCoverUsage 27 = .ok (.iinc 1 1, 3) := by decide +kernel
theorem dX0_quotasCoverUsage_30 : decode cX0_quotasCoverUsage 30 = .ok (.goto (-28), 3) := by decide +kernel
theorem dX0_quotasCoverUsage_33 : decode cX0_quotasCoverUsage 33 = .ok (.iconst 1, 1) := by decide +kernel
theorem dX0_quotasCoverUsage_34 : decode cX0_quotasCoverUsage 34 = .ok (.ireturn, 1) := by decide +kernel
set_option maxRecDepth 20000 in
theorem ggX0_looseWordsAreZero_X0_bitsOfWords : GoodIn wsX0_looseWordsAreZero wsX0_bitsOfWords := goodIn_r _ [5, 6, 7, 8, 9, 10, 11, 12, 13, 14, 15, 16, 17, 18, 19, 20, 21, 22, 23, 24, 25, 26, 27, 28, 29, 30] (by decide +kernel) (by decide +kernel)
set_option maxRecDepth 20000 in
theorem gX0_looseWordsAreZero_X0_bitsOfWords : GoodIn wsX0_looseWordsAreZero (va_wsS RX0 90 yX0_bitsOfWords wsX0_bitsOfWords) := goodIn_app (goodIn_of _ (by decide +kernel)) ggX0_looseWordsAreZero_X0_bitsOfWords
theorem dX0_looseWordsAreZero_0 : decode cX0_looseWordsAreZero 0 = .ok (.lconst 0, 1) := by decide +kernel
theorem dX0_looseWordsAreZero_1 : decode cX0_looseWordsAreZero 1 = .ok (.lstore_n 1, 1) := by decide +kernel
theorem dX0_looseWordsAreZero_2 : decode cX0_looseWordsAreZero 2 = .ok (.iconst 0, 1) := by decide +kernel
theorem dX0_looseWordsAreZero_3 : decode cX0_looseWordsAreZero 3 = .ok (.istore_n 3, 1) := by decide +kernel
theorem dX0_looseWordsAreZero_4 : decode cX0_looseWordsAreZero 4 = .ok (.iload_n 3, 1) := by decide +kernel
theorem dX0_looseWordsAreZero_5 : decode cX0_looseWordsAreZero 5 = .ok (.bipush 6, 2) := by decide +kernel
theorem dX0_looseWordsAreZero_7 : decode cX0_looseWordsAreZero 7 = .ok (.if_icmp .ge 17, 3) := by decide +kernel
theorem dX0_looseWordsAreZero_10 : decode cX0_looseWordsAreZero 10 = .ok (.lload_n 1, 1) := by decide +kernel
theorem dX0_looseWordsAreZero_11 : decode cX0_looseWordsAreZero 11 = .ok (.aload_n 0, 1) := by decide +kernel
theorem dX0_looseWordsAreZero_12 : decode cX0_looseWordsAreZero 12 = .ok (.iload_n 3, 1) := by decide +kernel
theorem dX0_looseWordsAreZero_13 : decode cX0_looseWordsAreZero 13 = .ok (.invokestatic 90, 3) := by decide +kernel
theorem dX0_looseWordsAreZero_16 : decode cX0_looseWordsAreZero 16 = .ok (.lor, 1) := by decide +kernel
theorem dX0_looseWordsAreZero_17 : decode cX0_looseWordsAreZero 17 = .ok (.lstore_n 1, 1) := by decide +kernel
theorem dX0_looseWordsAreZero_18 : decode cX0_looseWordsAreZero 18 = .ok (.iinc 3 1, 3) := by decide +kernel
theorem dX0_looseWordsAreZero_21 : decode cX0_looseWordsAreZero 21 = .ok (.goto (-17), 3) := by decide +kernel
theorem dX0_looseWordsAreZero_24 : decode cX0_looseWordsAreZero 24 = .ok (.iconst 0, 1) := by decide +kernel
theorem dX0_looseWordsAreZero_25 : decode cX0_looseWordsAreZero 25 = .ok (.istore_n 3, 1) := by decide +kernel
theorem dX0_looseWordsAreZero_26 : decode cX0_looseWordsAreZero 26 = .ok (.iload_n 3, 1) := by decide +kernel
theorem dX0_looseWordsAreZero_27 : decode cX0_looseWordsAreZero 27 = .ok (.bipush 64, 2) := by decide +kernel
theorem dX0_looseWordsAreZero_29 : decode cX0_looseWordsAreZero 29 = .ok (.if_icmp .ge 33, 3) := by decide +kernel
theorem dX0_looseWordsAreZero_32 : decode cX0_looseWordsAreZero 32 = .ok (.lload_n 1, 1) := by decide +kernel
theorem dX0_looseWordsAreZero_33 : decode cX0_looseWordsAreZero 33 = .ok (.iload_n 3, 1) := by decide +kernel
theorem dX0_looseWordsAreZero_34 : decode cX0_looseWordsAreZero 34 = .ok (.lushr, 1) := by decide +kernel
theorem dX0_looseWordsAreZero_35 : decode cX0_looseWordsAreZero 35 = .ok (.lconst 1, 1) := by decide +kernel
theorem dX0_looseWordsAreZero_36 : decode cX0_looseWordsAreZero 36 = .ok (.land, 1) := by decide +kernel
theorem dX0_looseWordsAreZero_37 : decode cX0_looseWordsAreZero 37 = .ok (.lconst 0, 1) := by decide +kernel
theorem dX0_looseWordsAreZero_38 : decode cX0_looseWordsAreZero 38 = .ok (.lcmp, 1) := by decide +kernel
theorem dX0_looseWordsAreZero_39 : decode cX0_looseWordsAreZero 39 = .ok (.ifCond .ne 17, 3) := by decide +kernel
theorem dX0_looseWordsAreZero_42 : decode cX0_looseWordsAreZero 42 = .ok (.aload_n 0, 1) := by decide +kernel
theorem dX0_looseWordsAreZero_43 : decode cX0_looseWordsAreZero 43 = .ok (.getfield 27, 3) := by decide +kernel
theorem dX0_looseWordsAreZero_46 : decode cX0_looseWordsAreZero 46 = .ok (.bipush 46, 2) := by decide +kernel
theorem dX0_looseWordsAreZero_48 : decode cX0_looseWordsAreZero 48 = .ok (.iload_n 3, 1) := by decide +kernel
theorem dX0_looseWordsAreZero_49 : decode cX0_looseWordsAreZero 49 = .ok (.iadd, 1) := by decide +kernel
theorem dX0_looseWordsAreZero_50 : decode cX0_looseWordsAreZero 50 = .ok (.iaload, 1) := by decide +kernel
theorem dX0_looseWordsAreZero_51 : decode cX0_looseWordsAreZero 51 = .ok (.ifCond .eq 5, 3) := by decide +kernel
theorem dX0_looseWordsAreZero_54 : decode cX0_looseWordsAreZero 54 = .ok (.iconst 0, 1) := by decide +kernel
theorem dX0_looseWordsAreZero_55 : decode cX0_looseWordsAreZero 55 = .ok (.ireturn, 1) := by decide +kernel
theorem dX0_looseWordsAreZero_56 : decode cX0_looseWordsAreZero 56 = .ok (.iinc 3 1, 3) := by decide +kernel
theorem dX0_looseWordsAreZero_59 : decode cX0_looseWordsAreZero 59 = .ok (.goto (-33), 3) := by decide +kernel
theorem dX0_looseWordsAreZero_62 : decode cX0_looseWordsAreZero 62 = .ok (.iconst 1, 1) := by decide +kernel
theorem dX0_looseWordsAreZero_63 : decode cX0_looseWordsAreZero 63 = .ok (.ireturn, 1) := by decide +kernel
set_option maxRecDepth 20000 in
theorem ggX0_bitsOfWords_X2_lengthOf : GoodIn wsX0_bitsOfWords wsX2_lengthOf := goodIn_r _ [5, 6, 25] (by decide +kernel) (by decide +kernel)
set_option maxRecDepth 20000 in
theorem gX0_bitsOfWords_X2_lengthOf : GoodIn wsX0_bitsOfWords (wsV RX0 54 RX2 yX2_lengthOf wsX2_lengthOf) := goodIn_app (goodIn_of _ (by decide +kernel)) ggX0_bitsOfWords_X2_lengthOf
set_option maxRecDepth 20000 in
theorem ggX0_bitsOfWords_X2_wordIndex : GoodIn wsX0_bitsOfWords wsX2_wordIndex := goodIn_r _ [10, 11, 12, 13, 4, 14, 6, 15, 16, 17, 18, 19, 20, 21, 22, 23, 24, 25] (by decide +kernel) (by decide +kernel)
set_option maxRecDepth 20000 in
theorem gX0_bitsOfWords_X2_wordIndex : GoodIn wsX0_bitsOfWords (wsV RX0 94 RX2 yX2_wordIndex wsX2_wordIndex) := goodIn_app (goodIn_of _ (by decide +kernel)) ggX0_bitsOfWords_X2_wordIndex
theorem dX0_bitsOfWords_0 : decode cX0_bitsOfWords 0 = .ok (.lconst 0, 1) := by decide +kernel
theorem dX0_bitsOfWords_1 : decode cX0_bitsOfWords 1 = .ok (.lstore_n 2, 1) := by decide +kernel
theorem dX0_bitsOfWords_2 : decode cX0_bitsOfWords 2 = .ok (.aload_n 0, 1) := by decide +kernel
theorem dX0_bitsOfWords_3 : decode cX0_bitsOfWords 3 = .ok (.iload_n 1, 1) := by decide +kernel
theorem dX0_bitsOfWords_4 : decode cX0_bitsOfWords 4 = .ok (.invokevirtual 54, 3) := by decide +kernel
theorem dX0_bitsOfWords_7 : decode cX0_bitsOfWords 7 = .ok (.istore 4, 2) := by decide +kernel
theorem dX0_bitsOfWords_9 : decode cX0_bitsOfWords 9 = .ok (.iconst 0, 1) := by decide +kernel
theorem dX0_bitsOfWords_10 : decode cX0_bitsOfWords 10 = .ok (.istore 5, 2) := by decide +kernel
theorem dX0_bitsOfWords_12 : decode cX0_bitsOfWords 12 = .ok (.iload 5, 2) := by decide +kernel
theorem dX0_bitsOfWords_14 : decode cX0_bitsOfWords 14 = .ok (.iload 4, 2) := by decide +kernel
theorem dX0_bitsOfWords_16 : decode cX0_bitsOfWords 16 = .ok (.if_icmp .ge 31, 3) := by decide +kernel
theorem dX0_bitsOfWords_19 : decode cX0_bitsOfWords 19 = .ok (.aload_n 0, 1) := by decide +kernel
theorem dX0_bitsOfWords_20 : decode cX0_bitsOfWords 20 = .ok (.iload_n 1, 1) := by decide +kernel
theorem dX0_bitsOfWords_21 : decode cX0_bitsOfWords 21 = .ok (.iload 5, 2) := by decide +kernel
theorem dX0_bitsOfWords_23 : decode cX0_bitsOfWords 23 = .ok (.invokevirtual 94, 3) := by decide +kernel
theorem dX0_bitsOfWords_26 : decode cX0_bitsOfWords 26 = .ok (.istore 6, 2) := by decide +kernel
theorem dX0_bitsOfWords_28 : decode cX0_bitsOfWords 28 = .ok (.iload 6, 2) := by decide +kernel
theorem dX0_bitsOfWords_30 : decode cX0_bitsOfWords 30 = .ok (.iconst (-1), 1) := by decide +kernel
theorem dX0_bitsOfWords_31 : decode cX0_bitsOfWords 31 = .ok (.if_icmp .eq 10, 3) := by decide +kernel
theorem dX0_bitsOfWords_34 : decode cX0_bitsOfWords 34 = .ok (.lload_n 2, 1) := by decide +kernel
theorem dX0_bitsOfWords_35 : decode cX0_bitsOfWords 35 = .ok (.lconst 1, 1) := by decide +kernel
theorem dX0_bitsOfWords_36 : decode cX0_bitsOfWords 36 = .ok (.iload 6, 2) := by decide +kernel
theorem dX0_bitsOfWords_38 : decode cX0_bitsOfWords 38 = .ok (.lshl, 1) := by decide +kernel
theorem dX0_bitsOfWords_39 : decode cX0_bitsOfWords 39 = .ok (.lor, 1) := by decide +kernel
theorem dX0_bitsOfWords_40 : decode cX0_bitsOfWords 40 = .ok (.lstore_n 2, 1) := by decide +kernel
theorem dX0_bitsOfWords_41 : decode cX0_bitsOfWords 41 = .ok (.iinc 5 1, 3) := by decide +kernel
theorem dX0_bitsOfWords_44 : decode cX0_bitsOfWords 44 = .ok (.goto (-32), 3) := by decide +kernel
theorem dX0_bitsOfWords_47 : decode cX0_bitsOfWords 47 = .ok (.lload_n 2, 1) := by decide +kernel
theorem dX0_bitsOfWords_48 : decode cX0_bitsOfWords 48 = .ok (.lreturn, 1) := by decide +kernel
theorem dX1_init_0 : decode cX1_init 0 = .ok (.aload_n 0, 1) := by decide +kernel
theorem dX1_init_1 : decode cX1_init 1 = .ok (.invokespecial 3, 3) := by decide +kernel
theorem dX1_init_4 : decode cX1_init 4 = .ok (.aload_n 0, 1) := by decide +kernel
theorem dX1_init_5 : decode cX1_init 5 = .ok (.sipush 332, 3) := by decide +kernel
theorem dX1_init_8 : decode cX1_init 8 = .ok (.newarray .int, 2) := by decide +kernel
theorem dX1_init_10 : decode cX1_init 10 = .ok (.putfield 9, 3) := by decide +kernel
theorem dX1_init_13 : decode cX1_init 13 = .ok (.return_, 1) := by decide +kernel
theorem dX1_clear_0 : decode cX1_clear 0 = .ok (.iconst 0, 1) := by decide +kernel
theorem dX1_clear_1 : decode cX1_clear 1 = .ok (.istore_n 1, 1) := by decide +kernel
theorem dX1_clear_2 : decode cX1_clear 2 = .ok (.iload_n 1, 1) := by decide +kernel
theorem dX1_clear_3 : decode cX1_clear 3 = .ok (.sipush 332, 3) := by decide +kernel
theorem dX1_clear_6 : decode cX1_clear 6 = .ok (.if_icmp .ge 16, 3) := by decide +kernel
theorem dX1_clear_9 : decode cX1_clear 9 = .ok (.aload_n 0, 1) := by decide +kernel
theorem dX1_clear_10 : decode cX1_clear 10 = .ok (.getfield 9, 3) := by decide +kernel
theorem dX1_clear_13 : decode cX1_clear 13 = .ok (.iload_n 1, 1) := by decide +kernel
theorem dX1_clear_14 : decode cX1_clear 14 = .ok (.iconst 0, 1) := by decide +kernel
theorem dX1_clear_15 : decode cX1_clear 15 = .ok (.iastore, 1) := by decide +kernel
theorem dX1_clear_16 : decode cX1_clear 16 = .ok (.iinc 1 1, 3) := by decide +kernel
theorem dX1_clear_19 : decode cX1_clear 19 = .ok (.goto (-17), 3) := by decide +kernel
theorem dX1_clear_22 : decode cX1_clear 22 = .ok (.iconst 0, 1) := by decide +kernel
theorem dX1_clear_23 : decode cX1_clear 23 = .ok (.istore_n 1, 1) := by decide +kernel
theorem dX1_clear_24 : decode cX1_clear 24 = .ok (.iload_n 1, 1) := by decide +kernel
theorem dX1_clear_25 : decode cX1_clear 25 = .ok (.iconst 3, 1) := by decide +kernel
theorem dX1_clear_26 : decode cX1_clear 26 = .ok (.if_icmp .ge 20, 3) := by decide +kernel
theorem dX1_clear_29 : decode cX1_clear 29 = .ok (.aload_n 0, 1) := by decide +kernel
theorem dX1_clear_30 : decode cX1_clear 30 = .ok (.getfield 9, 3) := by decide +kernel
theorem dX1_clear_33 : decode cX1_clear 33 = .ok (.bipush 42, 2) := by decide +kernel
theorem dX1_clear_35 : decode cX1_clear 35 = .ok (.iload_n 1, 1) := by decide +kernel
theorem dX1_clear_36 : decode cX1_clear 36 = .ok (.iadd, 1) := by decide +kernel
theorem dX1_clear_37 : decode cX1_clear 37 = .ok (.bipush 32, 2) := by decide +kernel
theorem dX1_clear_39 : decode cX1_clear 39 = .ok (.iastore, 1) := by decide +kernel
theorem dX1_clear_40 : decode cX1_clear 40 = .ok (.iinc 1 1, 3) := by decide +kernel
theorem dX1_clear_43 : decode cX1_clear 43 = .ok (.goto (-19), 3) := by decide +kernel
theorem dX1_clear_46 : decode cX1_clear 46 = .ok (.return_, 1) := by decide +kernel
set_option maxRecDepth 20000 in
theorem ggX1_journalHolds_X1_nextCheck : GoodIn wsX1_journalHolds wsX1_nextCheck := goodIn_r _ [5] (by decide +kernel) (by decide +kernel)
set_option maxRecDepth 20000 in
theorem gX1_journalHolds_X1_nextCheck : GoodIn wsX1_journalHolds (va_wsS RX1 15 yX1_nextCheck wsX1_nextCheck) := goodIn_app (goodIn_of _ (by decide +kernel)) ggX1_journalHolds_X1_nextCheck
theorem dX1_journalHolds_0 : decode cX1_journalHolds 0 = .ok (.aload_n 0, 1) := by decide +kernel
theorem dX1_journalHolds_1 : decode cX1_journalHolds 1 = .ok (.getfield 9, 3) := by decide +kernel
theorem dX1_journalHolds_4 : decode cX1_journalHolds 4 = .ok (.bipush 110, 2) := by decide +kernel
theorem dX1_journalHolds_6 : decode cX1_journalHolds 6 = .ok (.iaload, 1) := by decide +kernel
theorem dX1_journalHolds_7 : decode cX1_journalHolds 7 = .ok (.istore_n 1, 1) := by decide +kernel
theorem dX1_journalHolds_8 : decode cX1_journalHolds 8 = .ok (.iload_n 1, 1) := by decide +kernel
theorem dX1_journalHolds_9 : decode cX1_journalHolds 9 = .ok (.iconst 1, 1) := by decide +kernel
theorem dX1_journalHolds_10 : decode cX1_journalHolds 10 = .ok (.if_icmp .lt 9, 3) := by decide +kernel
theorem dX1_journalHolds_13 : decode cX1_journalHolds 13 = .ok (.iload_n 1, 1) := by decide +kernel
theorem dX1_journalHolds_14 : decode cX1_journalHolds 14 = .ok (.bipush 110, 2) := by decide +kernel
theorem dX1_journalHolds_16 : decode cX1_journalHolds 16 = .ok (.if_icmp .le 5, 3) := by decide +kernel
theorem dX1_journalHolds_19 : decode cX1_journalHolds 19 = .ok (.iconst 0, 1) := by decide +kernel
theorem dX1_journalHolds_20 : decode cX1_journalHolds 20 = .ok (.ireturn, 1) := by decide +kernel
theorem dX1_journalHolds_21 : decode cX1_journalHolds 21 = .ok (.iload_n 1, 1) := by decide +kernel
theorem dX1_journalHolds_22 : decode cX1_journalHolds 22 = .ok (.istore_n 2, 1) := by decide +kernel
theorem dX1_journalHolds_23 : decode cX1_journalHolds 23 = .ok (.iconst (-1), 1) := by decide +kernel
theorem dX1_journalHolds_24 : decode cX1_journalHolds 24 = .ok (.istore_n 3, 1) := by decide +kernel
theorem dX1_journalHolds_25 : decode cX1_journalHolds 25 = .ok (.iconst 0, 1) := by decide +kernel
theorem dX1_journalHolds_26 : decode cX1_journalHolds 26 = .ok (.istore 4, 2) := by decide +kernel
theorem dX1_journalHolds_28 : decode cX1_journalHolds 28 = .ok (.iload 4, 2) := by decide +kernel
theorem dX1_journalHolds_30 : decode cX1_journalHolds 30 = .ok (.iload_n 1, 1) := by decide +kernel
theorem dX1_journalHolds_31 : decode cX1_journalHolds 31 = .ok (.if_icmp .ge 62, 3) := by decide +kernel
theorem dX1_journalHolds_34 : decode cX1_journalHolds 34 = .ok (.aload_n 0, 1) := by decide +kernel
theorem dX1_journalHolds_35 : decode cX1_journalHolds 35 = .ok (.getfield 9, 3) := by decide +kernel
theorem dX1_journalHolds_38 : decode cX1_journalHolds 38 = .ok (.bipush 112, 2) := by decide +kernel
theorem dX1_journalHolds_40 : decode cX1_journalHolds 40 = .ok (.iconst 2, 1) := by decide +kernel
theorem dX1_journalHolds_41 : decode cX1_journalHolds 41 = .ok (.iload 4, 2) := by decide +kernel
theorem dX1_journalHolds_43 : decode cX1_journalHolds 43 = .ok (.imul, 1) := by decide +kernel
theorem dX1_journalHolds_44 : decode cX1_journalHolds 44 = .ok (.iadd, 1) := by decide +kernel
theorem dX1_journalHolds_45 : decode cX1_journalHolds 45 = .ok (.iaload, 1) := by decide +kernel
theorem dX1_journalHolds_46 : decode cX1_journalHolds 46 = .ok (.istore 5, 2) := by decide +kernel
theorem dX1_journalHolds_48 : decode cX1_journalHolds 48 = .ok (.iload 5, 2) := by decide +kernel
theorem dX1_journalHolds_50 : decode cX1_journalHolds 50 = .ok (.iload_n 3, 1) := by decide +kernel
theorem dX1_journalHolds_51 : decode cX1_journalHolds 51 = .ok (.if_icmp .le 10, 3) := by decide +kernel
theorem dX1_journalHolds_54 : decode cX1_journalHolds 54 = .ok (.iload 5, 2) := by decide +kernel
theorem dX1_journalHolds_56 : decode cX1_journalHolds 56 = .ok (.bipush 110, 2) := by decide +kernel
theorem dX1_journalHolds_58 : decode cX1_journalHolds 58 = .ok (.if_icmp .lt 5, 3) := by decide +kernel
theorem dX1_journalHolds_61 : decode cX1_journalHolds 61 = .ok (.iconst 0, 1) := by decide +kernel
theorem dX1_journalHolds_62 : decode cX1_journalHolds 62 = .ok (.ireturn, 1) := by decide +kernel
theorem dX1_journalHolds_63 : decode cX1_journalHolds 63 = .ok (.iload_n 2, 1) := by decide +kernel
theorem dX1_journalHolds_64 : decode cX1_journalHolds 64 = .ok (.iload 5, 2) := by decide +kernel
theorem dX1_journalHolds_66 : decode cX1_journalHolds 66 = .ok (.aload_n 0, 1) := by decide +kernel
theorem dX1_journalHolds_67 : decode cX1_journalHolds 67 = .ok (.getfield 9, 3) := by decide +kernel
theorem dX1_journalHolds_70 : decode cX1_journalHolds 70 = .ok (.bipush 112, 2) := by decide +kernel
theorem dX1_journalHolds_72 : decode cX1_journalHolds 72 = .ok (.iconst 2, 1) := by decide +kernel
theorem dX1_journalHolds_73 : decode cX1_journalHolds 73 = .ok (.iload 4, 2) := by decide +kernel
theorem dX1_journalHolds_75 : decode cX1_journalHolds 75 = .ok (.imul, 1) := by decide +kernel
theorem dX1_journalHolds_76 : decode cX1_journalHolds 76 = .ok (.iadd, 1) := by decide +kernel
theorem dX1_journalHolds_77 : decode cX1_journalHolds 77 = .ok (.iconst 1, 1) := by decide +kernel
theorem dX1_journalHolds_78 : decode cX1_journalHolds 78 = .ok (.iadd, 1) := by decide +kernel
theorem dX1_journalHolds_79 : decode cX1_journalHolds 79 = .ok (.iaload, 1) := by decide +kernel
theorem dX1_journalHolds_80 : decode cX1_journalHolds 80 = .ok (.invokestatic 15, 3) := by decide +kernel
theorem dX1_journalHolds_83 : decode cX1_journalHolds 83 = .ok (.istore_n 2, 1) := by decide +kernel
theorem dX1_journalHolds_84 : decode cX1_journalHolds 84 = .ok (.iload 5, 2) := by decide +kernel
theorem dX1_journalHolds_86 : decode cX1_journalHolds 86 = .ok (.istore_n 3, 1) := by decide +kernel
theorem dX1_journalHolds_87 : decode cX1_journalHolds 87 = .ok (.iinc 4 1, 3) := by decide +kernel
theorem dX1_journalHolds_90 : decode cX1_journalHolds 90 = .ok (.goto (-62), 3) := by decide +kernel
theorem dX1_journalHolds_93 : decode cX1_journalHolds 93 = .ok (.iload_n 2, 1) := by decide +kernel
theorem dX1_journalHolds_94 : decode cX1_journalHolds 94 = .ok (.aload_n 0, 1) := by decide +kernel
theorem dX1_journalHolds_95 : decode cX1_journalHolds 95 = .ok (.getfield 9, 3) := by decide +kernel
theorem dX1_journalHolds_98 : decode cX1_journalHolds 98 = .ok (.bipush 111, 2) := by decide +kernel
theorem dX1_journalHolds_100 : decode cX1_journalHolds 100 = .ok (.iaload, 1) := by decide +kernel
theorem dX1_journalHolds_101 : decode cX1_journalHolds 101 = .ok (.if_icmp .ne 7, 3) := by decide +kernel
theorem dX1_journalHolds_104 : decode cX1_journalHolds 104 = .ok (.iconst 1, 1) := by decide +kernel
theorem dX1_journalHolds_105 : decode cX1_journalHolds 105 = .ok (.goto 4, 3) := by decide +kernel
theorem dX1_journalHolds_108 : decode cX1_journalHolds 108 = .ok (.iconst 0, 1) := by decide +kernel
theorem dX1_journalHolds_109 : decode cX1_journalHolds 109 = .ok (.ireturn, 1) := by decide +kernel
theorem dX1_nextCheck_0 : decode cX1_nextCheck 0 = .ok (.iload_n 0, 1) := by decide +kernel
theorem dX1_nextCheck_1 : decode cX1_nextCheck 1 = .ok (.bipush 31, 2) := by decide +kernel
theorem dX1_nextCheck_3 : decode cX1_nextCheck 3 = .ok (.imul, 1) := by decide +kernel
theorem dX1_nextCheck_4 : decode cX1_nextCheck 4 = .ok (.iload_n 1, 1) := by decide +kernel
theorem dX1_nextCheck_5 : decode cX1_nextCheck 5 = .ok (.iadd, 1) := by decide +kernel
theorem dX1_nextCheck_6 : decode cX1_nextCheck 6 = .ok (.bipush 31, 2) := by decide +kernel
theorem dX1_nextCheck_8 : decode cX1_nextCheck 8 = .ok (.imul, 1) := by decide +kernel
theorem dX1_nextCheck_9 : decode cX1_nextCheck 9 = .ok (.iload_n 2, 1) := by decide +kernel
theorem dX1_nextCheck_10 : decode cX1_nextCheck 10 = .ok (.iadd, 1) := by decide +kernel
theorem dX1_nextCheck_11 : decode cX1_nextCheck 11 = .ok (.ireturn, 1) := by decide +kernel
set_option maxRecDepth 20000 in
theorem ggX1_replayJournal_X1_replayInto : GoodIn wsX1_replayJournal wsX1_replayInto := goodIn_r _ [6, 1, 7] (by decide +kernel) (by decide +kernel)
set_option maxRecDepth 20000 in
theorem gX1_replayJournal_X1_replayInto : GoodIn wsX1_replayJournal (wsV RX1 19 RX1 yX1_replayInto wsX1_replayInto) := goodIn_app (goodIn_of _ (by decide +kernel)) ggX1_replayJournal_X1_replayInto
theorem dX1_replayJournal_0 : decode cX1_replayJournal 0 = .ok (.aload_n 0, 1) := by decide +kernel
theorem dX1_replayJournal_1 : decode cX1_replayJournal 1 = .ok (.aload_n 0, 1) := by decide +kernel
theorem dX1_replayJournal_2 : decode cX1_replayJournal 2 = .ok (.getfield 9, 3) := by decide +kernel
theorem dX1_replayJournal_5 : decode cX1_replayJournal 5 = .ok (.invokevirtual 19, 3) := by decide +kernel
theorem dX1_replayJournal_8 : decode cX1_replayJournal 8 = .ok (.aload_n 0, 1) := by decide +kernel
theorem dX1_replayJournal_9 : decode cX1_replayJournal 9 = .ok (.getfield 9, 3) := by decide +kernel
theorem dX1_replayJournal_12 : decode cX1_replayJournal 12 = .ok (.bipush 110, 2) := by decide +kernel
theorem dX1_replayJournal_14 : decode cX1_replayJournal 14 = .ok (.iconst 0, 1) := by decide +kernel
theorem dX1_replayJournal_15 : decode cX1_replayJournal 15 = .ok (.iastore, 1) := by decide +kernel
theorem dX1_replayJournal_16 : decode cX1_replayJournal 16 = .ok (.return_, 1) := by decide +kernel
theorem dX1_replayInto_0 : decode cX1_replayInto 0 = .ok (.aload_n 0, 1) := by decide +kernel
theorem dX1_replayInto_1 : decode cX1_replayInto 1 = .ok (.getfield 9, 3) := by decide +kernel
theorem dX1_replayInto_4 : decode cX1_replayInto 4 = .ok (.bipush 110, 2) := by decide +kernel
theorem dX1_replayInto_6 : decode cX1_replayInto 6 = .ok (.iaload, 1) := by decide +kernel
theorem dX1_replayInto_7 : decode cX1_replayInto 7 = .ok (.istore_n 2, 1) := by decide +kernel
theorem dX1_replayInto_8 : decode cX1_replayInto 8 = .ok (.iconst 0, 1) := by decide +kernel
theorem dX1_replayInto_9 : decode cX1_replayInto 9 = .ok (.istore_n 3, 1) := by decide +kernel
theorem dX1_replayInto_10 : decode cX1_replayInto 10 = .ok (.iload_n 3, 1) := by decide +kernel
theorem dX1_replayInto_11 : decode cX1_replayInto 11 = .ok (.iload_n 2, 1) := by decide +kernel
theorem dX1_replayInto_12 : decode cX1_replayInto 12 = .ok (.if_icmp .ge 35, 3) := by decide +kernel
theorem dX1_replayInto_15 : decode cX1_replayInto 15 = .ok (.aload_n 1, 1) := by decide +kernel
theorem dX1_replayInto_16 : decode cX1_replayInto 16 = .ok (.aload_n 0, 1) := by decide +kernel
theorem dX1_replayInto_17 : decode cX1_replayInto 17 = .ok (.getfield 9, 3) := by decide +kernel
theorem dX1_replayInto_20 : decode cX1_replayInto 20 = .ok (.bipush 112, 2) := by decide +kernel
theorem dX1_replayInto_22 : decode cX1_replayInto 22 = .ok (.iconst 2, 1) := by decide +kernel
theorem dX1_replayInto_23 : decode cX1_replayInto 23 = .ok (.iload_n 3, 1) := by decide +kernel
theorem dX1_replayInto_24 : decode cX1_replayInto 24 = .ok (.imul, 1) := by decide +kernel
theorem dX1_replayInto_25 : decode cX1_replayInto 25 = .ok (.iadd, 1) := by decide +kernel
theorem dX1_replayInto_26 : decode cX1_replayInto 26 = .ok (.iaload, 1) := by decide +kernel
theorem dX1_replayInto_27 : decode cX1_replayInto 27 = .ok (.aload_n 0, 1) := by decide +kernel
theorem dX1_replayInto_28 : decode cX1_replayInto 28 = .ok (.getfield 9, 3) := by decide +kernel
theorem dX1_replayInto_31 : decode cX1_replayInto 31 = .ok (.bipush 112, 2) := by decide +kernel
theorem dX1_replayInto_33 : decode cX1_replayInto 33 = .ok (.iconst 2, 1) := by decide +kernel
theorem dX1_replayInto_34 : decode cX1_replayInto 34 = .ok (.iload_n 3, 1) := by decide +kernel
theorem dX1_replayInto_35 : decode cX1_replayInto 35 = .ok (.imul, 1) := by decide +kernel
theorem dX1_replayInto_36 : decode cX1_replayInto 36 = .ok (.iadd, 1) := by decide +kernel
theorem dX1_replayInto_37 : decode cX1_replayInto 37 = .ok (.iconst 1, 1) := by decide +kernel
theorem dX1_replayInto_38 : decode cX1_replayInto 38 = .ok (.iadd, 1) := by decide +kernel
theorem dX1_replayInto_39 : decode cX1_replayInto 39 = .ok (.iaload, 1) := by decide +kernel
theorem dX1_replayInto_40 : decode cX1_replayInto 40 = .ok (.iastore, 1) := by decide +kernel
theorem dX1_replayInto_41 : decode cX1_replayInto 41 = .ok (.iinc 3 1, 3) := by decide +kernel
theorem dX1_replayInto_44 : decode cX1_replayInto 44 = .ok (.goto (-34), 3) := by decide +kernel
theorem dX1_replayInto_47 : decode cX1_replayInto 47 = .ok (.return_, 1) := by decide +kernel
theorem dX2_init_0 : decode cX2_init 0 = .ok (.aload_n 0, 1) := by decide +kernel
theorem dX2_init_1 : decode cX2_init 1 = .ok (.invokespecial 3, 3) := by decide +kernel
theorem dX2_init_4 : decode cX2_init 4 = .ok (.aload_n 0, 1) := by decide +kernel
theorem dX2_init_5 : decode cX2_init 5 = .ok (.bipush 110, 2) := by decide +kernel
theorem dX2_init_7 : decode cX2_init 7 = .ok (.newarray .int, 2) := by decide +kernel
theorem dX2_init_9 : decode cX2_init 9 = .ok (.putfield 9, 3) := by decide +kernel
theorem dX2_init_12 : decode cX2_init 12 = .ok (.return_, 1) := by decide +kernel
theorem dX2_copyFrom_0 : decode cX2_copyFrom 0 = .ok (.aload_n 1, 1) := by decide +kernel
theorem dX2_copyFrom_1 : decode cX2_copyFrom 1 = .ok (.iconst 0, 1) := by decide +kernel
theorem dX2_copyFrom_2 : decode cX2_copyFrom 2 = .ok (.aload_n 0, 1) := by decide +kernel
theorem dX2_copyFrom_3 : decode cX2_copyFrom 3 = .ok (.getfield 9, 3) := by decide +kernel
theorem dX2_copyFrom_6 : decode cX2_copyFrom 6 = .ok (.iconst 0, 1) := by decide +kernel
theorem dX2_copyFrom_7 : decode cX2_copyFrom 7 = .ok (.bipush 110, 2) := by decide +kernel
theorem dX2_copyFrom_9 : decode cX2_copyFrom 9 = .ok (.invokestatic 15, 3) := by decide +kernel
theorem dX2_copyFrom_12 : decode cX2_copyFrom 12 = .ok (.return_, 1) := by decide +kernel
theorem dX2_nameOf_0 : decode cX2_nameOf 0 = .ok (.aload_n 0, 1) := by decide +kernel
theorem dX2_nameOf_1 : decode cX2_nameOf 1 = .ok (.getfield 9, 3) := by decide +kernel
theorem dX2_nameOf_4 : decode cX2_nameOf 4 = .ok (.bipush 7, 2) := by decide +kernel
theorem dX2_nameOf_6 : decode cX2_nameOf 6 = .ok (.iload_n 1, 1) := by decide +kernel
theorem dX2_nameOf_7 : decode cX2_nameOf 7 = .ok (.imul, 1) := by decide +kernel
theorem dX2_nameOf_8 : decode cX2_nameOf 8 = .ok (.iaload, 1) := by decide +kernel
theorem dX2_nameOf_9 : decode cX2_nameOf 9 = .ok (.ireturn, 1) := by decide +kernel
theorem dX2_ownerOf_0 : decode cX2_ownerOf 0 = .ok (.aload_n 0, 1) := by decide +kernel
theorem dX2_ownerOf_1 : decode cX2_ownerOf 1 = .ok (.getfield 9, 3) := by decide +kernel
theorem dX2_ownerOf_4 : decode cX2_ownerOf 4 = .ok (.bipush 7, 2) := by decide +kernel
theorem dX2_ownerOf_6 : decode cX2_ownerOf 6 = .ok (.iload_n 1, 1) := by decide +kernel
theorem dX2_ownerOf_7 : decode cX2_ownerOf 7 = .ok (.imul, 1) := by decide +kernel
theorem dX2_ownerOf_8 : decode cX2_ownerOf 8 = .ok (.iconst 1, 1) := by decide +kernel
theorem dX2_ownerOf_9 : decode cX2_ownerOf 9 = .ok (.iadd, 1) := by decide +kernel
theorem dX2_ownerOf_10 : decode cX2_ownerOf 10 = .ok (.iaload, 1) := by decide +kernel
theorem dX2_ownerOf_11 : decode cX2_ownerOf 11 = .ok (.ireturn, 1) := by decide +kernel
theorem dX2_lengthOf_0 : decode cX2_lengthOf 0 = .ok (.aload_n 0, 1) := by decide +kernel
theorem dX2_lengthOf_1 : decode cX2_lengthOf 1 = .ok (.getfield 9, 3) := by decide +kernel
theorem dX2_lengthOf_4 : decode cX2_lengthOf 4 = .ok (.bipush 7, 2) := by decide +kernel
theorem dX2_lengthOf_6 : decode cX2_lengthOf 6 = .ok (.iload_n 1, 1) := by decide +kernel
theorem dX2_lengthOf_7 : decode cX2_lengthOf 7 = .ok (.imul, 1) := by decide +kernel
theorem dX2_lengthOf_8 : decode cX2_lengthOf 8 = .ok (.iconst 2, 1) := by decide +kernel
theorem dX2_lengthOf_9 : decode cX2_lengthOf 9 = .ok (.iadd, 1) := by decide +kernel
theorem dX2_lengthOf_10 : decode cX2_lengthOf 10 = .ok (.iaload, 1) := by decide +kernel
theorem dX2_lengthOf_11 : decode cX2_lengthOf 11 = .ok (.ireturn, 1) := by decide +kernel
theorem dX2_extentOf_0 : decode cX2_extentOf 0 = .ok (.aload_n 0, 1) := by decide +kernel
theorem dX2_extentOf_1 : decode cX2_extentOf 1 = .ok (.getfield 9, 3) := by decide +kernel
theorem dX2_extentOf_4 : decode cX2_extentOf 4 = .ok (.bipush 7, 2) := by decide +kernel
theorem dX2_extentOf_6 : decode cX2_extentOf 6 = .ok (.iload_n 1, 1) := by decide +kernel
theorem dX2_extentOf_7 : decode cX2_extentOf 7 = .ok (.imul, 1) := by decide +kernel
theorem dX2_extentOf_8 : decode cX2_extentOf 8 = .ok (.iconst 3, 1) := by decide +kernel
theorem dX2_extentOf_9 : decode cX2_extentOf 9 = .ok (.iadd, 1) := by decide +kernel
theorem dX2_extentOf_10 : decode cX2_extentOf 10 = .ok (.iload_n 2, 1) := by decide +kernel
theorem dX2_extentOf_11 : decode cX2_extentOf 11 = .ok (.iadd, 1) := by decide +kernel
theorem dX2_extentOf_12 : decode cX2_extentOf 12 = .ok (.iaload, 1) := by decide +kernel
theorem dX2_extentOf_13 : decode cX2_extentOf 13 = .ok (.ireturn, 1) := by decide +kernel
theorem dX2_quotaOf_0 : decode cX2_quotaOf 0 = .ok (.aload_n 0, 1) := by decide +kernel
theorem dX2_quotaOf_1 : decode cX2_quotaOf 1 = .ok (.getfield 9, 3) := by decide +kernel
theorem dX2_quotaOf_4 : decode cX2_quotaOf 4 = .ok (.bipush 42, 2) := by decide +kernel
theorem dX2_quotaOf_6 : decode cX2_quotaOf 6 = .ok (.iload_n 1, 1) := by decide +kernel
theorem dX2_quotaOf_7 : decode cX2_quotaOf 7 = .ok (.iadd, 1) := by decide +kernel
theorem dX2_quotaOf_8 : decode cX2_quotaOf 8 = .ok (.iaload, 1) := by decide +kernel
theorem dX2_quotaOf_9 : decode cX2_quotaOf 9 = .ok (.ireturn, 1) := by decide +kernel
theorem dX2_putLength_0 : decode cX2_putLength 0 = .ok (.aload_n 0, 1) := by decide +kernel
theorem dX2_putLength_1 : decode cX2_putLength 1 = .ok (.getfield 9, 3) := by decide +kernel
theorem dX2_putLength_4 : decode cX2_putLength 4 = .ok (.bipush 7, 2) := by decide +kernel
theorem dX2_putLength_6 : decode cX2_putLength 6 = .ok (.iload_n 1, 1) := by decide +kernel
theorem dX2_putLength_7 : decode cX2_putLength 7 = .ok (.imul, 1) := by decide +kernel
theorem dX2_putLength_8 : decode cX2_putLength 8 = .ok (.iconst 2, 1) := by decide +kernel
theorem dX2_putLength_9 : decode cX2_putLength 9 = .ok (.iadd, 1) := by decide +kernel
theorem dX2_putLength_10 : decode cX2_putLength 10 = .ok (.iload_n 2, 1) := by decide +kernel
theorem dX2_putLength_11 : decode cX2_putLength 11 = .ok (.iastore, 1) := by decide +kernel
theorem dX2_putLength_12 : decode cX2_putLength 12 = .ok (.return_, 1) := by decide +kernel
theorem dX2_putExtent_0 : decode cX2_putExtent 0 = .ok (.aload_n 0, 1) := by decide +kernel
theorem dX2_putExtent_1 : decode cX2_putExtent 1 = .ok (.getfield 9, 3) := by decide +kernel
theorem dX2_putExtent_4 : decode cX2_putExtent 4 = .ok (.bipush 7, 2) := by decide +kernel
theorem dX2_putExtent_6 : decode cX2_putExtent 6 = .ok (.iload_n 1, 1) := by decide +kernel
theorem dX2_putExtent_7 : decode cX2_putExtent 7 = .ok (.imul, 1) := by decide +kernel
theorem dX2_putExtent_8 : decode cX2_putExtent 8 = .ok (.iconst 3, 1) := by decide +kernel
theorem dX2_putExtent_9 : decode cX2_putExtent 9 = .ok (.iadd, 1) := by decide +kernel
theorem dX2_putExtent_10 : decode cX2_putExtent 10 = .ok (.iload_n 2, 1) := by decide +kernel
theorem dX2_putExtent_11 : decode cX2_putExtent 11 = .ok (.iadd, 1) := by decide +kernel
theorem dX2_putExtent_12 : decode cX2_putExtent 12 = .ok (.iload_n 3, 1) := by decide +kernel
theorem dX2_putExtent_13 : decode cX2_putExtent 13 = .ok (.iastore, 1) := by decide +kernel
theorem dX2_putExtent_14 : decode cX2_putExtent 14 = .ok (.return_, 1) := by decide +kernel
theorem dX2_putQuota_0 : decode cX2_putQuota 0 = .ok (.aload_n 0, 1) := by decide +kernel
theorem dX2_putQuota_1 : decode cX2_putQuota 1 = .ok (.getfield 9, 3) := by decide +kernel
theorem dX2_putQuota_4 : decode cX2_putQuota 4 = .ok (.bipush 42, 2) := by decide +kernel
theorem dX2_putQuota_6 : decode cX2_putQuota 6 = .ok (.iload_n 1, 1) := by decide +kernel
theorem dX2_putQuota_7 : decode cX2_putQuota 7 = .ok (.iadd, 1) := by decide +kernel
theorem dX2_putQuota_8 : decode cX2_putQuota 8 = .ok (.iload_n 2, 1) := by decide +kernel
theorem dX2_putQuota_9 : decode cX2_putQuota 9 = .ok (.iastore, 1) := by decide +kernel
theorem dX2_putQuota_10 : decode cX2_putQuota 10 = .ok (.return_, 1) := by decide +kernel
set_option maxRecDepth 20000 in
theorem ggX2_slotOf_X2_nameOf : GoodIn wsX2_slotOf wsX2_nameOf := goodIn_r _ [5, 6, 7] (by decide +kernel) (by decide +kernel)
set_option maxRecDepth 20000 in
theorem gX2_slotOf_X2_nameOf : GoodIn wsX2_slotOf (wsV RX2 21 RX2 yX2_nameOf wsX2_nameOf) := goodIn_app (goodIn_of _ (by decide +kernel)) ggX2_slotOf_X2_nameOf
theorem dX2_slotOf_0 : decode cX2_slotOf 0 = .ok (.iconst 0, 1) := by decide +kernel
theorem dX2_slotOf_1 : decode cX2_slotOf 1 = .ok (.istore_n 2, 1) := by decide +kernel
theorem dX2_slotOf_2 : decode cX2_slotOf 2 = .ok (.iload_n 2, 1) := by decide +kernel
theorem dX2_slotOf_3 : decode cX2_slotOf 3 = .ok (.bipush 6, 2) := by decide +kernel
theorem dX2_slotOf_5 : decode cX2_slotOf 5 = .ok (.if_icmp .ge 24, 3) := by decide +kernel
theorem dX2_slotOf_8 : decode cX2_slotOf 8 = .ok (.iload_n 1, 1) := by decide +kernel
theorem dX2_slotOf_9 : decode cX2_slotOf 9 = .ok (.ifCond .eq 14, 3) := by decide +kernel
theorem dX2_slotOf_12 : decode cX2_slotOf 12 = .ok (.aload_n 0, 1) := by decide +kernel
theorem dX2_slotOf_13 : decode cX2_slotOf 13 = .ok (.iload_n 2, 1) := by decide +kernel
theorem dX2_slotOf_14 : decode cX2_slotOf 14 = .ok (.invokevirtual 21, 3) := by decide +kernel
theorem dX2_slotOf_17 : decode cX2_slotOf 17 = .ok (.iload_n 1, 1) := by decide +kernel
theorem dX2_slotOf_18 : decode cX2_slotOf 18 = .ok (.if_icmp .ne 5, 3) := by decide +kernel
theorem dX2_slotOf_21 : decode cX2_slotOf 21 = .ok (.iload_n 2, 1) := by decide +kernel
theorem dX2_slotOf_22 : decode cX2_slotOf 22 = .ok (.ireturn, 1) := by decide +kernel
theorem dX2_slotOf_23 : decode cX2_slotOf 23 = .ok (.iinc 2 1, 3) := by decide +kernel
theorem dX2_slotOf_26 : decode cX2_slotOf 26 = .ok (.goto (-24), 3) := by decide +kernel
theorem dX2_slotOf_29 : decode cX2_slotOf 29 = .ok (.iconst (-1), 1) := by decide +kernel
theorem dX2_slotOf_30 : decode cX2_slotOf 30 = .ok (.ireturn, 1) := by decide +kernel
set_option maxRecDepth 20000 in
theorem ggX2_emptySlot_X2_nameOf : GoodIn wsX2_emptySlot wsX2_nameOf := goodIn_r _ [5, 6, 7] (by decide +kernel) (by decide +kernel)
set_option maxRecDepth 20000 in
theorem gX2_emptySlot_X2_nameOf : GoodIn wsX2_emptySlot (wsV RX2 21 RX2 yX2_nameOf wsX2_nameOf) := goodIn_app (goodIn_of _ (by decide +kernel)) ggX2_emptySlot_X2_nameOf
theorem dX2_emptySlot_0 : decode cX2_emptySlot 0 = .ok (.iconst 0, 1) := by decide +kernel
theorem dX2_emptySlot_1 : decode cX2_emptySlot 1 = .ok (.istore_n 1, 1) := by decide +kernel
theorem dX2_emptySlot_2 : decode cX2_emptySlot 2 = .ok (.iload_n 1, 1) := by decide +kernel
theorem dX2_emptySlot_3 : decode cX2_emptySlot 3 = .ok (.bipush 6, 2) := by decide +kernel
theorem dX2_emptySlot_5 : decode cX2_emptySlot 5 = .ok (.if_icmp .ge 19, 3) := by decide +kernel
theorem dX2_emptySlot_8 : decode cX2_emptySlot 8 = .ok (.aload_n 0, 1) := by decide +kernel
theorem dX2_emptySlot_9 : decode cX2_emptySlot 9 = .ok (.iload_n 1, 1) := by decide +kernel
theorem dX2_emptySlot_10 : decode cX2_emptySlot 10 = .ok (.invokevirtual 21, 3) := by decide +kernel
theorem dX2_emptySlot_13 : decode cX2_emptySlot 13 = .ok (.ifCond .ne 5, 3) := by decide +kernel
theorem dX2_emptySlot_16 : decode cX2_emptySlot 16 = .ok (.iload_n 1, 1) := by decide +kernel
theorem dX2_emptySlot_17 : decode cX2_emptySlot 17 = .ok (.ireturn, 1) := by decide +kernel
theorem dX2_emptySlot_18 : decode cX2_emptySlot 18 = .ok (.iinc 1 1, 3) := by decide +kernel
theorem dX2_emptySlot_21 : decode cX2_emptySlot 21 = .ok (.goto (-19), 3) := by decide +kernel
theorem dX2_emptySlot_24 : decode cX2_emptySlot 24 = .ok (.iconst (-1), 1) := by decide +kernel
theorem dX2_emptySlot_25 : decode cX2_emptySlot 25 = .ok (.ireturn, 1) := by decide +kernel
theorem dX2_nameFile_0 : decode cX2_nameFile 0 = .ok (.aload_n 0, 1) := by decide +kernel
theorem dX2_nameFile_1 : decode cX2_nameFile 1 = .ok (.getfield 9, 3) := by decide +kernel
theorem dX2_nameFile_4 : decode cX2_nameFile 4 = .ok (.bipush 7, 2) := by decide +kernel
theorem dX2_nameFile_6 : decode cX2_nameFile 6 = .ok (.iload_n 1, 1) := by decide +kernel
theorem dX2_nameFile_7 : decode cX2_nameFile 7 = .ok (.imul, 1) := by decide +kernel
theorem dX2_nameFile_8 : decode cX2_nameFile 8 = .ok (.iload_n 2, 1) := by decide +kernel
theorem dX2_nameFile_9 : decode cX2_nameFile 9 = .ok (.iastore, 1) := by decide +kernel
theorem dX2_nameFile_10 : decode cX2_nameFile 10 = .ok (.return_, 1) := by decide +kernel
theorem dX2_makeFile_0 : decode cX2_makeFile 0 = .ok (.aload_n 0, 1) := by decide +kernel
theorem dX2_makeFile_1 : decode cX2_makeFile 1 = .ok (.getfield 9, 3) := by decide +kernel
theorem dX2_makeFile_4 : decode cX2_makeFile 4 = .ok (.bipush 7, 2) := by decide +kernel
theorem dX2_makeFile_6 : decode cX2_makeFile 6 = .ok (.iload_n 1, 1) := by decide +kernel
theorem dX2_makeFile_7 : decode cX2_makeFile 7 = .ok (.imul, 1) := by decide +kernel
theorem dX2_makeFile_8 : decode cX2_makeFile 8 = .ok (.iload_n 2, 1) := by decide +kernel
theorem dX2_makeFile_9 : decode cX2_makeFile 9 = .ok (.iastore, 1) := by decide +kernel
theorem dX2_makeFile_10 : decode cX2_makeFile 10 = .ok (.aload_n 0, 1) := by decide +kernel
theorem dX2_makeFile_11 : decode cX2_makeFile 11 = .ok (.getfield 9, 3) := by decide +kernel
theorem dX2_makeFile_14 : decode cX2_makeFile 14 = .ok (.bipush 7, 2) := by decide +kernel
theorem dX2_makeFile_16 : decode cX2_makeFile 16 = .ok (.iload_n 1, 1) := by decide +kernel
theorem dX2_makeFile_17 : decode cX2_makeFile 17 = .ok (.imul, 1) := by decide +kernel
theorem dX2_makeFile_18 : decode cX2_makeFile 18 = .ok (.iconst 1, 1) := by decide +kernel
theorem dX2_makeFile_19 : decode cX2_makeFile 19 = .ok (.iadd, 1) := by decide +kernel
theorem dX2_makeFile_20 : decode cX2_makeFile 20 = .ok (.iload_n 3, 1) := by decide +kernel
theorem dX2_makeFile_21 : decode cX2_makeFile 21 = .ok (.iastore, 1) := by decide +kernel
theorem dX2_makeFile_22 : decode cX2_makeFile 22 = .ok (.return_, 1) := by decide +kernel
set_option maxRecDepth 20000 in
theorem ggX2_dropFile_X2_shrink : GoodIn wsX2_dropFile wsX2_shrink := goodIn_r _ [5, 6, 7, 8, 4, 9, 10, 11, 12, 13, 14, 15, 16, 17, 18, 19, 20, 21, 22, 23, 24, 25, 26, 27, 28, 29, 30, 31, 32, 33, 34, 35, 36, 37, 38, 39, 40, 41, 42, 43, 44, 45, 46, 47, 48, 49, 50, 51, 52, 53, 54, 55, 56, 57, 58, 59, 60, 61, 62, 67] (by decide +kernel) (by decide +kernel)
set_option maxRecDepth 20000 in
theorem gX2_dropFile_X2_shrink : GoodIn wsX2_dropFile (wsV RX2 25 RX2 yX2_shrink wsX2_shrink) := goodIn_app (goodIn_of _ (by decide +kernel)) ggX2_dropFile_X2_shrink
set_option maxRecDepth 20000 in
theorem ggX2_dropFile_X2_makeFile : GoodIn wsX2_dropFile wsX2_makeFile := goodIn_r _ [66, 10, 67] (by decide +kernel) (by decide +kernel)
set_option maxRecDepth 20000 in
theorem gX2_dropFile_X2_makeFile : GoodIn wsX2_dropFile (wsV RX2 29 RX2 yX2_makeFile wsX2_makeFile) := goodIn_app (goodIn_of _ (by decide +kernel)) ggX2_dropFile_X2_makeFile
theorem dX2_dropFile_0 : decode cX2_dropFile 0 = .ok (.aload_n 0, 1) := by decide +kernel
theorem dX2_dropFile_1 : decode cX2_dropFile 1 = .ok (.iload_n 1, 1) := by decide +kernel
theorem dX2_dropFile_2 : decode cX2_dropFile 2 = .ok (.iconst 0, 1) := by decide +kernel
theorem dX2_dropFile_3 : decode cX2_dropFile 3 = .ok (.invokevirtual 25, 3) := by decide +kernel
theorem dX2_dropFile_6 : decode cX2_dropFile 6 = .ok (.aload_n 0, 1) := by decide +kernel
theorem dX2_dropFile_7 : decode cX2_dropFile 7 = .ok (.iload_n 1, 1) := by decide +kernel
theorem dX2_dropFile_8 : decode cX2_dropFile 8 = .ok (.iconst 0, 1) := by decide +kernel
theorem dX2_dropFile_9 : decode cX2_dropFile 9 = .ok (.iconst 0, 1) := by decide +kernel
theorem dX2_dropFile_10 : decode cX2_dropFile 10 = .ok (.invokevirtual 29, 3) := by decide +kernel
theorem dX2_dropFile_13 : decode cX2_dropFile 13 = .ok (.return_, 1) := by decide +kernel
set_option maxRecDepth 20000 in
theorem ggX2_runsOf_X2_extentOf : GoodIn wsX2_runsOf wsX2_extentOf := goodIn_r _ [5, 6, 7] (by decide +kernel) (by decide +kernel)
set_option maxRecDepth 20000 in
theorem gX2_runsOf_X2_extentOf : GoodIn wsX2_runsOf (wsV RX2 33 RX2 yX2_extentOf wsX2_extentOf) := goodIn_app (goodIn_of _ (by decide +kernel)) ggX2_runsOf_X2_extentOf
theorem dX2_runsOf_0 : decode cX2_runsOf 0 = .ok (.iconst 0, 1) := by decide +kernel
theorem dX2_runsOf_1 : decode cX2_runsOf 1 = .ok (.istore_n 2, 1) := by decide +kernel
theorem dX2_runsOf_2 : decode cX2_runsOf 2 = .ok (.iconst 0, 1) := by decide +kernel
theorem dX2_runsOf_3 : decode cX2_runsOf 3 = .ok (.istore_n 3, 1) := by decide +kernel
theorem dX2_runsOf_4 : decode cX2_runsOf 4 = .ok (.iload_n 3, 1) := by decide +kernel
theorem dX2_runsOf_5 : decode cX2_runsOf 5 = .ok (.iconst 4, 1) := by decide +kernel
theorem dX2_runsOf_6 : decode cX2_runsOf 6 = .ok (.if_icmp .ge 21, 3) := by decide +kernel
theorem dX2_runsOf_9 : decode cX2_runsOf 9 = .ok (.aload_n 0, 1) := by decide +kernel
theorem dX2_runsOf_10 : decode cX2_runsOf 10 = .ok (.iload_n 1, 1) := by decide +kernel
theorem dX2_runsOf_11 : decode cX2_runsOf 11 = .ok (.iload_n 3, 1) := by decide +kernel
theorem dX2_runsOf_12 : decode cX2_runsOf 12 = .ok (.invokevirtual 33, 3) := by decide +kernel
theorem dX2_runsOf_15 : decode cX2_runsOf 15 = .ok (.ifCond .eq 6, 3) := by decide +kernel
theorem dX2_runsOf_18 : decode cX2_runsOf 18 = .ok (.iinc 2 1, 3) := by decide +kernel
theorem dX2_runsOf_21 : decode cX2_runsOf 21 = .ok (.iinc 3 1, 3) := by decide +kernel
theorem dX2_runsOf_24 : decode cX2_runsOf 24 = .ok (.goto (-20), 3) := by decide +kernel
theorem dX2_runsOf_27 : decode cX2_runsOf 27 = .ok (.iload_n 2, 1) := by decide +kernel
theorem dX2_runsOf_28 : decode cX2_runsOf 28 = .ok (.ireturn, 1) := by decide +kernel
set_option maxRecDepth 20000 in
theorem ggX2_blocksOf_X2_extentOf : GoodIn wsX2_blocksOf wsX2_extentOf := goodIn_r _ [5, 6, 14] (by decide +kernel) (by decide +kernel)
set_option maxRecDepth 20000 in
theorem gX2_blocksOf_X2_extentOf : GoodIn wsX2_blocksOf (wsV RX2 33 RX2 yX2_extentOf wsX2_extentOf) := goodIn_app (goodIn_of _ (by decide +kernel)) ggX2_blocksOf_X2_extentOf
set_option maxRecDepth 20000 in
theorem ggX2_blocksOf_X3_blocksOf : GoodIn wsX2_blocksOf wsX3_blocksOf := goodIn_r _ [10, 11, 12, 9, 13] (by decide +kernel) (by decide +kernel)
set_option maxRecDepth 20000 in
theorem gX2_blocksOf_X3_blocksOf : GoodIn wsX2_blocksOf (va_wsS RX2 37 yX3_blocksOf wsX3_blocksOf) := goodIn_app (goodIn_of _ (by decide +kernel)) ggX2_blocksOf_X3_blocksOf
theorem dX2_blocksOf_0 : decode cX2_blocksOf 0 = .ok (.iconst 0, 1) := by decide +kernel
theorem dX2_blocksOf_1 : decode cX2_blocksOf 1 = .ok (.istore_n 2, 1) := by decide +kernel
theorem dX2_blocksOf_2 : decode cX2_blocksOf 2 = .ok (.iconst 0, 1) := by decide +kernel
theorem dX2_blocksOf_3 : decode cX2_blocksOf 3 = .ok (.istore_n 3, 1) := by decide +kernel
theorem dX2_blocksOf_4 : decode cX2_blocksOf 4 = .ok (.iload_n 3, 1) := by decide +kernel
theorem dX2_blocksOf_5 : decode cX2_blocksOf 5 = .ok (.iconst 4, 1) := by decide +kernel
theorem dX2_blocksOf_6 : decode cX2_blocksOf 6 = .ok (.if_icmp .ge 21, 3) := by decide +kernel
theorem dX2_blocksOf_9 : decode cX2_blocksOf 9 = .ok (.iload_n 2, 1) := by decide +kernel
theorem dX2_blocksOf_10 : decode cX2_blocksOf 10 = .ok (.aload_n 0, 1) := by decide +kernel
theorem dX2_blocksOf_11 : decode cX2_blocksOf 11 = .ok (.iload_n 1, 1) := by decide +kernel
theorem dX2_blocksOf_12 : decode cX2_blocksOf 12 = .ok (.iload_n 3, 1) := by decide +kernel
theorem dX2_blocksOf_13 : decode cX2_blocksOf 13 = .ok (.invokevirtual 33, 3) := by decide +kernel
theorem dX2_blocksOf_16 : decode cX2_blocksOf 16 = .ok (.invokestatic 37, 3) := by decide +kernel
theorem dX2_blocksOf_19 : decode cX2_blocksOf 19 = .ok (.iadd, 1) := by decide +kernel
theorem dX2_blocksOf_20 : decode cX2_blocksOf 20 = .ok (.istore_n 2, 1) := by decide +kernel
theorem dX2_blocksOf_21 : decode cX2_blocksOf 21 = .ok (.iinc 3 1, 3) := by decide +kernel
theorem dX2_blocksOf_24 : decode cX2_blocksOf 24 = .ok (.goto (-20), 3) := by decide +kernel
theorem dX2_blocksOf_27 : decode cX2_blocksOf 27 = .ok (.iload_n 2, 1) := by decide +kernel
theorem dX2_blocksOf_28 : decode cX2_blocksOf 28 = .ok (.ireturn, 1) := by decide +kernel
set_option maxRecDepth 20000 in
theorem ggX2_usageOf_X2_ownerOf : GoodIn wsX2_usageOf wsX2_ownerOf := goodIn_r _ [5, 6, 22] (by decide +kernel) (by decide +kernel)
set_option maxRecDepth 20000 in
theorem gX2_usageOf_X2_ownerOf : GoodIn wsX2_usageOf (wsV RX2 42 RX2 yX2_ownerOf wsX2_ownerOf) := goodIn_app (goodIn_of _ (by decide +kernel)) ggX2_usageOf_X2_ownerOf
set_option maxRecDepth 20000 in
theorem ggX2_usageOf_X2_blocksOf : GoodIn wsX2_usageOf wsX2_blocksOf := goodIn_r _ [10, 11, 12, 13, 4, 14, 6, 15, 16, 17, 18, 19, 20, 21, 22] (by decide +kernel) (by decide +kernel)
set_option maxRecDepth 20000 in
theorem gX2_usageOf_X2_blocksOf : GoodIn wsX2_usageOf (wsV RX2 45 RX2 yX2_blocksOf wsX2_blocksOf) := goodIn_app (goodIn_of _ (by decide +kernel)) ggX2_usageOf_X2_blocksOf
theorem dX2_usageOf_0 : decode cX2_usageOf 0 = .ok (.iconst 0, 1) := by decide +kernel
theorem dX2_usageOf_1 : decode cX2_usageOf 1 = .ok (.istore_n 2, 1) := by decide +kernel
theorem dX2_usageOf_2 : decode cX2_usageOf 2 = .ok (.iconst 0, 1) := by decide +kernel
theorem dX2_usageOf_3 : decode cX2_usageOf 3 = .ok (.istore_n 3, 1) := by decide +kernel
theorem dX2_usageOf_4 : decode cX2_usageOf 4 = .ok (.iload_n 3, 1) := by decide +kernel
theorem dX2_usageOf_5 : decode cX2_usageOf 5 = .ok (.bipush 6, 2) := by decide +kernel
theorem dX2_usageOf_7 : decode cX2_usageOf 7 = .ok (.if_icmp .ge 26, 3) := by decide +kernel
theorem dX2_usageOf_10 : decode cX2_usageOf 10 = .ok (.aload_n 0, 1) := by decide +kernel
theorem dX2_usageOf_11 : decode cX2_usageOf 11 = .ok (.iload_n 3, 1) := by decide +kernel
theorem dX2_usageOf_12 : decode cX2_usageOf 12 = .ok (.invokevirtual 42, 3) := by decide +kernel
theorem dX2_usageOf_15 : decode cX2_usageOf 15 = .ok (.iload_n 1, 1) := by decide +kernel
theorem dX2_usageOf_16 : decode cX2_usageOf 16 = .ok (.if_icmp .ne 11, 3) := by decide +kernel
theorem dX2_usageOf_19 : decode cX2_usageOf 19 = .ok (.iload_n 2, 1) := by decide +kernel
theorem dX2_usageOf_20 : decode cX2_usageOf 20 = .ok (.aload_n 0, 1) := by decide +kernel
theorem dX2_usageOf_21 : decode cX2_usageOf 21 = .ok (.iload_n 3, 1) := by decide +kernel
theorem dX2_usageOf_22 : decode cX2_usageOf 22 = .ok (.invokevirtual 45, 3) := by decide +kernel
theorem dX2_usageOf_25 : decode cX2_usageOf 25 = .ok (.iadd, 1) := by decide +kernel
theorem dX2_usageOf_26 : decode cX2_usageOf 26 = .ok (.istore_n 2, 1) := by decide +kernel
theorem dX2_usageOf_27 : decode cX2_usageOf 27 = .ok (.iinc 3 1, 3) := by decide +kernel
theorem dX2_usageOf_30 : decode cX2_usageOf 30 = .ok (.goto (-26), 3) := by decide +kernel
theorem dX2_usageOf_33 : decode cX2_usageOf 33 = .ok (.iload_n 2, 1) := by decide +kernel
theorem dX2_usageOf_34 : decode cX2_usageOf 34 = .ok (.ireturn, 1) := by decide +kernel
set_option maxRecDepth 20000 in
theorem ggX2_wordIndex_X2_extentOf : GoodIn wsX2_wordIndex wsX2_extentOf := goodIn_r _ [5, 6, 17] (by decide +kernel) (by decide +kernel)
set_option maxRecDepth 20000 in
theorem gX2_wordIndex_X2_extentOf : GoodIn wsX2_wordIndex (wsV RX2 33 RX2 yX2_extentOf wsX2_extentOf) := goodIn_app (goodIn_of _ (by decide +kernel)) ggX2_wordIndex_X2_extentOf
set_option maxRecDepth 20000 in
theorem ggX2_wordIndex_X3_blocksOf : GoodIn wsX2_wordIndex wsX3_blocksOf := goodIn_r _ [10, 11, 12, 9, 13] (by decide +kernel) (by decide +kernel)
set_option maxRecDepth 20000 in
theorem gX2_wordIndex_X3_blocksOf : GoodIn wsX2_wordIndex (va_wsS RX2 37 yX3_blocksOf wsX3_blocksOf) := goodIn_app (goodIn_of _ (by decide +kernel)) ggX2_wordIndex_X3_blocksOf
set_option maxRecDepth 20000 in
theorem ggX2_wordIndex_X3_firstOf : GoodIn wsX2_wordIndex wsX3_firstOf := goodIn_r _ [16] (by decide +kernel) (by decide +kernel)
set_option maxRecDepth 20000 in
theorem gX2_wordIndex_X3_firstOf : GoodIn wsX2_wordIndex (va_wsS RX2 46 yX3_firstOf wsX3_firstOf) := goodIn_app (goodIn_of _ (by decide +kernel)) ggX2_wordIndex_X3_firstOf
theorem dX2_wordIndex_0 : decode cX2_wordIndex 0 = .ok (.iload_n 2, 1) := by decide +kernel
theorem dX2_wordIndex_1 : decode cX2_wordIndex 1 = .ok (.istore_n 3, 1) := by decide +kernel
theorem dX2_wordIndex_2 : decode cX2_wordIndex 2 = .ok (.iconst 0, 1) := by decide +kernel
theorem dX2_wordIndex_3 : decode cX2_wordIndex 3 = .ok (.istore 4, 2) := by decide +kernel
theorem dX2_wordIndex_5 : decode cX2_wordIndex 5 = .ok (.iload 4, 2) := by decide +kernel
theorem dX2_wordIndex_7 : decode cX2_wordIndex 7 = .ok (.iconst 4, 1) := by decide +kernel
theorem dX2_wordIndex_8 : decode cX2_wordIndex 8 = .ok (.if_icmp .ge 48, 3) := by decide +kernel
theorem dX2_wordIndex_11 : decode cX2_wordIndex 11 = .ok (.aload_n 0, 1) := by decide +kernel
theorem dX2_wordIndex_12 : decode cX2_wordIndex 12 = .ok (.iload_n 1, 1) := by decide +kernel
theorem dX2_wordIndex_13 : decode cX2_wordIndex 13 = .ok (.iload 4, 2) := by decide +kernel
theorem dX2_wordIndex_15 : decode cX2_wordIndex 15 = .ok (.invokevirtual 33, 3) := by decide +kernel
theorem dX2_wordIndex_18 : decode cX2_wordIndex 18 = .ok (.istore 5, 2) := by decide +kernel
theorem dX2_wordIndex_20 : decode cX2_wordIndex 20 = .ok (.iconst 2, 1) := by decide +kernel
theorem dX2_wordIndex_21 : decode cX2_wordIndex 21 = .ok (.iload 5, 2) := by decide +kernel
theorem dX2_wordIndex_23 : decode cX2_wordIndex 23 = .ok (.invokestatic 37, 3) := by decide +kernel
theorem dX2_wordIndex_26 : decode cX2_wordIndex 26 = .ok (.imul, 1) := by decide +kernel
theorem dX2_wordIndex_27 : decode cX2_wordIndex 27 = .ok (.istore 6, 2) := by decide +kernel
theorem dX2_wordIndex_29 : decode cX2_wordIndex 29 = .ok (.iload_n 3, 1) := by decide +kernel
theorem dX2_wordIndex_30 : decode cX2_wordIndex 30 = .ok (.iload 6, 2) := by decide +kernel
theorem dX2_wordIndex_32 : decode cX2_wordIndex 32 = .ok (.if_icmp .ge 13, 3) := by decide +kernel
theorem dX2_wordIndex_35 : decode cX2_wordIndex 35 = .ok (.iconst 2, 1) := by decide +kernel
theorem dX2_wordIndex_36 : decode cX2_wordIndex 36 = .ok (.iload 5, 2) := by decide +kernel
theorem dX2_wordIndex_38 : decode cX2_wordIndex 38 = .ok (.invokestatic 46, 3) := by decide +kernel
theorem dX2_wordIndex_41 : decode cX2_wordIndex 41 = .ok (.imul, 1) := by decide +kernel
theorem dX2_wordIndex_42 : decode cX2_wordIndex 42 = .ok (.iload_n 3, 1) := by decide +kernel
theorem dX2_wordIndex_43 : decode cX2_wordIndex 43 = .ok (.iadd, 1) := by decide +kernel
theorem dX2_wordIndex_44 : decode cX2_wordIndex 44 = .ok (.ireturn, 1) := by decide +kernel
theorem dX2_wordIndex_45 : decode cX2_wordIndex 45 = .ok (.iload_n 3, 1) := by decide +kernel
theorem dX2_wordIndex_46 : decode cX2_wordIndex 46 = .ok (.iload 6, 2) := by decide +kernel
theorem dX2_wordIndex_48 : decode cX2_wordIndex 48 = .ok (.isub, 1) := by decide +kernel
theorem dX2_wordIndex_49 : decode cX2_wordIndex 49 = .ok (.istore_n 3, 1) := by decide +kernel
theorem dX2_wordIndex_50 : decode cX2_wordIndex 50 = .ok (.iinc 4 1, 3) := by decide +kernel
theorem dX2_wordIndex_53 : decode cX2_wordIndex 53 = .ok (.goto (-48), 3) := by decide +kernel
theorem dX2_wordIndex_56 : decode cX2_wordIndex 56 = .ok (.iconst (-1), 1) := by decide +kernel
theorem dX2_wordIndex_57 : decode cX2_wordIndex 57 = .ok (.ireturn, 1) := by decide +kernel
set_option maxRecDepth 20000 in
theorem ggX2_wordAt_X2_wordIndex : GoodIn wsX2_wordAt wsX2_wordIndex := goodIn_r _ [6, 7, 8, 9, 5, 10, 1, 11, 12, 13, 14, 15, 16, 17, 18, 19, 20, 21] (by decide +kernel) (by decide +kernel)
set_option maxRecDepth 20000 in
theorem gX2_wordAt_X2_wordIndex : GoodIn wsX2_wordAt (wsV RX2 49 RX2 yX2_wordIndex wsX2_wordIndex) := goodIn_app (goodIn_of _ (by decide +kernel)) ggX2_wordAt_X2_wordIndex
theorem dX2_wordAt_0 : decode cX2_wordAt 0 = .ok (.aload_n 0, 1) := by decide +kernel
theorem dX2_wordAt_1 : decode cX2_wordAt 1 = .ok (.iload_n 1, 1) := by decide +kernel
theorem dX2_wordAt_2 : decode cX2_wordAt 2 = .ok (.iload_n 2, 1) := by decide +kernel
theorem dX2_wordAt_3 : decode cX2_wordAt 3 = .ok (.invokevirtual 49, 3) := by decide +kernel
theorem dX2_wordAt_6 : decode cX2_wordAt 6 = .ok (.istore_n 3, 1) := by decide +kernel
theorem dX2_wordAt_7 : decode cX2_wordAt 7 = .ok (.iload_n 3, 1) := by decide +kernel
theorem dX2_wordAt_8 : decode cX2_wordAt 8 = .ok (.iconst (-1), 1) := by decide +kernel
theorem dX2_wordAt_9 : decode cX2_wordAt 9 = .ok (.if_icmp .ne 7, 3) := by decide +kernel
theorem dX2_wordAt_12 : decode cX2_wordAt 12 = .ok (.iconst 0, 1) := by decide +kernel
theorem dX2_wordAt_13 : decode cX2_wordAt 13 = .ok (.goto 12, 3) := by decide +kernel
theorem dX2_wordAt_16 : decode cX2_wordAt 16 = .ok (.aload_n 0, 1) := by decide +kernel
theorem dX2_wordAt_17 : decode cX2_wordAt 17 = .ok (.getfield 9, 3) := by decide +kernel
theorem dX2_wordAt_20 : decode cX2_wordAt 20 = .ok (.bipush 46, 2) := by decide +kernel
theorem dX2_wordAt_22 : decode cX2_wordAt 22 = .ok (.iload_n 3, 1) := by decide +kernel
theorem dX2_wordAt_23 : decode cX2_wordAt 23 = .ok (.iadd, 1) := by decide +kernel
theorem dX2_wordAt_24 : decode cX2_wordAt 24 = .ok (.iaload, 1) := by decide +kernel
theorem dX2_wordAt_25 : decode cX2_wordAt 25 = .ok (.ireturn, 1) := by decide +kernel
set_option maxRecDepth 20000 in
theorem ggX2_putWord_X2_wordIndex : GoodIn wsX2_putWord wsX2_wordIndex := goodIn_r _ [6, 7, 8, 9, 5, 10, 1, 11, 12, 13, 14, 15, 16, 17, 18, 19, 20, 21] (by decide +kernel) (by decide +kernel)
set_option maxRecDepth 20000 in
theorem gX2_putWord_X2_wordIndex : GoodIn wsX2_putWord (wsV RX2 49 RX2 yX2_wordIndex wsX2_wordIndex) := goodIn_app (goodIn_of _ (by decide +kernel)) ggX2_putWord_X2_wordIndex
theorem dX2_putWord_0 : decode cX2_putWord 0 = .ok (.aload_n 0, 1) := by decide +kernel
theorem dX2_putWord_1 : decode cX2_putWord 1 = .ok (.iload_n 1, 1) := by decide +kernel
theorem dX2_putWord_2 : decode cX2_putWord 2 = .ok (.iload_n 2, 1) := by decide +kernel
theorem dX2_putWord_3 : decode cX2_putWord 3 = .ok (.invokevirtual 49, 3) := by decide +kernel
theorem dX2_putWord_6 : decode cX2_putWord 6 = .ok (.istore 4, 2) := by decide +kernel
theorem dX2_putWord_8 : decode cX2_putWord 8 = .ok (.iload 4, 2) := by decide +kernel
theorem dX2_putWord_10 : decode cX2_putWord 10 = .ok (.iconst (-1), 1) := by decide +kernel
theorem dX2_putWord_11 : decode cX2_putWord 11 = .ok (.if_icmp .eq 14, 3) := by decide +kernel
theorem dX2_putWord_14 : decode cX2_putWord 14 = .ok (.aload_n 0, 1) := by decide +kernel
theorem dX2_putWord_15 : decode cX2_putWord 15 = .ok (.getfield 9, 3) := by decide +kernel
theorem dX2_putWord_18 : decode cX2_putWord 18 = .ok (.bipush 46, 2) := by decide +kernel
theorem dX2_putWord_20 : decode cX2_putWord 20 = .ok (.iload 4, 2) := by decide +kernel
theorem dX2_putWord_22 : decode cX2_putWord 22 = .ok (.iadd, 1) := by decide +kernel
theorem dX2_putWord_23 : decode cX2_putWord 23 = .ok (.iload_n 3, 1) := by decide +kernel
theorem dX2_putWord_24 : decode cX2_putWord 24 = .ok (.iastore, 1) := by decide +kernel
theorem dX2_putWord_25 : decode cX2_putWord 25 = .ok (.return_, 1) := by decide +kernel
theorem dX2_needOf_0 : decode cX2_needOf 0 = .ok (.iload_n 0, 1) := by decide +kernel
theorem dX2_needOf_1 : decode cX2_needOf 1 = .ok (.iconst 1, 1) := by decide +kernel
theorem dX2_needOf_2 : decode cX2_needOf 2 = .ok (.iadd, 1) := by decide +kernel
theorem dX2_needOf_3 : decode cX2_needOf 3 = .ok (.iconst 2, 1) := by decide +kernel
theorem dX2_needOf_4 : decode cX2_needOf 4 = .ok (.idiv, 1) := by decide +kernel
theorem dX2_needOf_5 : decode cX2_needOf 5 = .ok (.ireturn, 1) := by decide +kernel
set_option maxRecDepth 20000 in
theorem ggX2_grow_X2_runsOf : GoodIn wsX2_grow wsX2_runsOf := goodIn_r _ [6, 7, 8, 9, 5, 10, 1, 70] (by decide +kernel) (by decide +kernel)
set_option maxRecDepth 20000 in
theorem gX2_grow_X2_runsOf : GoodIn wsX2_grow (wsV RX2 52 RX2 yX2_runsOf wsX2_runsOf) := goodIn_app (goodIn_of _ (by decide +kernel)) ggX2_grow_X2_runsOf
set_option maxRecDepth 20000 in
theorem ggX2_grow_X2_needOf : GoodIn wsX2_grow wsX2_needOf := goodIn_r _ [13] (by decide +kernel) (by decide +kernel)
set_option maxRecDepth 20000 in
theorem gX2_grow_X2_needOf : GoodIn wsX2_grow (va_wsS RX2 55 yX2_needOf wsX2_needOf) := goodIn_app (goodIn_of _ (by decide +kernel)) ggX2_grow_X2_needOf
set_option maxRecDepth 20000 in
theorem ggX2_grow_X2_takeRuns : GoodIn wsX2_grow wsX2_takeRuns := goodIn_r _ [17, 18, 19, 20, 5, 21, 7, 8, 9, 10, 1, 22, 23, 24, 25, 26, 27, 28, 29, 30, 31, 32, 33, 34, 35, 36, 37, 38, 39, 40, 41, 42, 43, 44, 45, 46, 47, 48, 49, 50, 51, 52, 53, 70] (by decide +kernel) (by decide +kernel)
set_option maxRecDepth 20000 in
theorem gX2_grow_X2_takeRuns : GoodIn wsX2_grow (wsV RX2 58 RX2 yX2_takeRuns wsX2_takeRuns) := goodIn_app (goodIn_of _ (by decide +kernel)) ggX2_grow_X2_takeRuns
set_option maxRecDepth 20000 in
theorem ggX2_grow_X2_ownerOf : GoodIn wsX2_grow wsX2_ownerOf := goodIn_r _ [57, 1, 70] (by decide +kernel) (by decide +kernel)
set_option maxRecDepth 20000 in
theorem gX2_grow_X2_ownerOf : GoodIn wsX2_grow (wsV RX2 42 RX2 yX2_ownerOf wsX2_ownerOf) := goodIn_app (goodIn_of _ (by decide +kernel)) ggX2_grow_X2_ownerOf
set_option maxRecDepth 20000 in
theorem ggX2_grow_X2_usageOf : GoodIn wsX2_grow wsX2_usageOf := goodIn_r _ [61, 54, 55, 56, 5, 57, 1, 18, 19, 20, 21, 7, 8, 9, 10, 22, 23, 24, 25, 26, 27, 28, 70] (by decide +kernel) (by decide +kernel)
set_option maxRecDepth 20000 in
theorem gX2_grow_X2_usageOf : GoodIn wsX2_grow (wsV RX2 62 RX2 yX2_usageOf wsX2_usageOf) := goodIn_app (goodIn_of _ (by decide +kernel)) ggX2_grow_X2_usageOf
set_option maxRecDepth 20000 in
theorem ggX2_grow_X2_quotaOf : GoodIn wsX2_grow wsX2_quotaOf := goodIn_r _ [65, 1, 70] (by decide +kernel) (by decide +kernel)
set_option maxRecDepth 20000 in
theorem gX2_grow_X2_quotaOf : GoodIn wsX2_grow (wsV RX2 65 RX2 yX2_quotaOf wsX2_quotaOf) := goodIn_app (goodIn_of _ (by decide +kernel)) ggX2_grow_X2_quotaOf
set_option maxRecDepth 20000 in
theorem ggX2_grow_X2_putLength : GoodIn wsX2_grow wsX2_putLength := goodIn_r _ [69, 1, 70] (by decide +kernel) (by decide +kernel)
set_option maxRecDepth 20000 in
theorem gX2_grow_X2_putLength : GoodIn wsX2_grow (wsV RX2 68 RX2 yX2_putLength wsX2_putLength) := goodIn_app (goodIn_of _ (by decide +kernel)) ggX2_grow_X2_putLength
set_option maxRecDepth 20000 in
theorem ggX2_grow_X2_putExtent : GoodIn wsX2_grow wsX2_putExtent := goodIn_r _ [53, 1, 70] (by decide +kernel) (by decide +kernel)
set_option maxRecDepth 20000 in
theorem gX2_grow_X2_putExtent : GoodIn wsX2_grow (wsV RX2 71 RX2 yX2_putExtent wsX2_putExtent) := goodIn_app (goodIn_of _ (by decide +kernel)) ggX2_grow_X2_putExtent
theorem dX2_grow_0 : decode cX2_grow 0 = .ok (.aload_n 0, 1) := by decide +kernel
theorem dX2_grow_1 : decode cX2_grow 1 = .ok (.getfield 9, 3) := by decide +kernel
theorem dX2_grow_4 : decode cX2_grow 4 = .ok (.bipush 45, 2) := by decide +kernel
theorem dX2_grow_6 : decode cX2_grow 6 = .ok (.iaload, 1) := by decide +kernel
theorem dX2_grow_7 : decode cX2_grow 7 = .ok (.istore_n 3, 1) := by decide +kernel
theorem dX2_grow_8 : decode cX2_grow 8 = .ok (.aload_n 0, 1) := by decide +kernel
theorem dX2_grow_9 : decode cX2_grow 9 = .ok (.iload_n 1, 1) := by decide +kernel
theorem dX2_grow_10 : decode cX2_grow 10 = .ok (.invokevirtual 52, 3) := by decide +kernel
theorem dX2_grow_13 : decode cX2_grow 13 = .ok (.istore 4, 2) := by decide +kernel
theorem dX2_grow_15 : decode cX2_grow 15 = .ok (.aload_n 0, 1) := by decide +kernel
theorem dX2_grow_16 : decode cX2_grow 16 = .ok (.iload_n 1, 1) := by decide +kernel
theorem dX2_grow_17 : decode cX2_grow 17 = .ok (.iload 4, 2) := by decide +kernel
theorem dX2_grow_19 : decode cX2_grow 19 = .ok (.iload_n 2, 1) := by decide +kernel
theorem dX2_grow_20 : decode cX2_grow 20 = .ok (.invokestatic 55, 3) := by decide +kernel
theorem dX2_grow_23 : decode cX2_grow 23 = .ok (.invokevirtual 58, 3) := by decide +kernel
theorem dX2_grow_26 : decode cX2_grow 26 = .ok (.istore 5, 2) := by decide +kernel
theorem dX2_grow_28 : decode cX2_grow 28 = .ok (.iload 5, 2) := by decide +kernel
theorem dX2_grow_30 : decode cX2_grow 30 = .ok (.ifCond .ne 28, 3) := by decide +kernel
theorem dX2_grow_33 : decode cX2_grow 33 = .ok (.aload_n 0, 1) := by decide +kernel
theorem dX2_grow_34 : decode cX2_grow 34 = .ok (.aload_n 0, 1) := by decide +kernel
theorem dX2_grow_35 : decode cX2_grow 35 = .ok (.iload_n 1, 1) := by decide +kernel
theorem dX2_grow_36 : decode cX2_grow 36 = .ok (.invokevirtual 42, 3) := by decide +kernel
theorem dX2_grow_39 : decode cX2_grow 39 = .ok (.invokevirtual 62, 3) := by decide +kernel
theorem dX2_grow_42 : decode cX2_grow 42 = .ok (.aload_n 0, 1) := by decide +kernel
theorem dX2_grow_43 : decode cX2_grow 43 = .ok (.aload_n 0, 1) := by decide +kernel
theorem dX2_grow_44 : decode cX2_grow 44 = .ok (.iload_n 1, 1) := by decide +kernel
theorem dX2_grow_45 : decode cX2_grow 45 = .ok (.invokevirtual 42, 3) := by decide +kernel
theorem dX2_grow_48 : decode cX2_grow 48 = .ok (.invokevirtual 65, 3) := by decide +kernel
theorem dX2_grow_51 : decode cX2_grow 51 = .ok (.if_icmp .le 7, 3) := by decide +kernel
theorem dX2_grow_54 : decode cX2_grow 54 = .ok (.bipush (-9), 2) := by decide +kernel
theorem dX2_grow_56 : decode cX2_grow 56 = .ok (.istore 5, 2) := by decide +kernel
theorem dX2_grow_58 : decode cX2_grow 58 = .ok (.iload 5, 2) := by decide +kernel
theorem dX2_grow_60 : decode cX2_grow 60 = .ok (.ifCond .ne 11, 3) := by decide +kernel
theorem dX2_grow_63 : decode cX2_grow 63 = .ok (.aload_n 0, 1) := by decide +kernel
theorem dX2_grow_64 : decode cX2_grow 64 = .ok (.iload_n 1, 1) := by decide +kernel
theorem dX2_grow_65 : decode cX2_grow 65 = .ok (.iload_n 2, 1) := by decide +kernel
theorem dX2_grow_66 : decode cX2_grow 66 = .ok (.invokevirtual 68, 3) := by decide +kernel
theorem dX2_grow_69 : decode cX2_grow 69 = .ok (.iconst 0, 1) := by decide +kernel
theorem dX2_grow_70 : decode cX2_grow 70 = .ok (.ireturn, 1) := by decide +kernel
theorem dX2_grow_71 : decode cX2_grow 71 = .ok (.aload_n 0, 1) := by decide +kernel
theorem dX2_grow_72 : decode cX2_grow 72 = .ok (.getfield 9, 3) := by decide +kernel
theorem dX2_grow_75 : decode cX2_grow 75 = .ok (.bipush 45, 2) := by decide +kernel
theorem dX2_grow_77 : decode cX2_grow 77 = .ok (.iload_n 3, 1) := by decide +kernel
theorem dX2_grow_78 : decode cX2_grow 78 = .ok (.iastore, 1) := by decide +kernel
theorem dX2_grow_79 : decode cX2_grow 79 = .ok (.iload 4, 2) := by decide +kernel
theorem dX2_grow_81 : decode cX2_grow 81 = .ok (.istore 6, 2) := by decide +kernel
theorem dX2_grow_83 : decode cX2_grow 83 = .ok (.iload 6, 2) := by decide +kernel
theorem dX2_grow_85 : decode cX2_grow 85 = .ok (.iconst 4, 1) := by decide +kernel
theorem dX2_grow_86 : decode cX2_grow 86 = .ok (.if_icmp .ge 17, 3) := by decide +kernel
theorem dX2_grow_89 : decode cX2_grow 89 = .ok (.aload_n 0, 1) := by decide +kernel
theorem dX2_grow_90 : decode cX2_grow 90 = .ok (.iload_n 1, 1) := by decide +kernel
theorem dX2_grow_91 : decode cX2_grow 91 = .ok (.iload 6, 2) := by decide +kernel
theorem dX2_grow_93 : decode cX2_grow 93 = .ok (.iconst 0, 1) := by decide +kernel
theorem dX2_grow_94 : decode cX2_grow 94 = .ok (.invokevirtual 71, 3) := by decide +kernel
theorem dX2_grow_97 : decode cX2_grow 97 = .ok (.iinc 6 1, 3) := by decide +kernel
theorem dX2_grow_100 : decode cX2_grow 100 = .ok (.goto (-17), 3) := by decide +kernel
theorem dX2_grow_103 : decode cX2_grow 103 = .ok (.iload 5, 2) := by decide +kernel
theorem dX2_grow_105 : decode cX2_grow 105 = .ok (.ireturn, 1) := by decide +kernel
set_option maxRecDepth 20000 in
theorem ggX2_takeRuns_X2_blocksOf : GoodIn wsX2_takeRuns wsX2_blocksOf := goodIn_r _ [5, 6, 7, 8, 4, 9, 10, 11, 12, 13, 14, 15, 16, 17, 43] (by decide +kernel) (by decide +kernel)
set_option maxRecDepth 20000 in
theorem gX2_takeRuns_X2_blocksOf : GoodIn wsX2_takeRuns (wsV RX2 45 RX2 yX2_blocksOf wsX2_blocksOf) := goodIn_app (goodIn_of _ (by decide +kernel)) ggX2_takeRuns_X2_blocksOf
set_option maxRecDepth 20000 in
theorem ggX2_takeRuns_X2_takeRunFor : GoodIn wsX2_takeRuns wsX2_takeRunFor := goodIn_r _ [21, 22, 23, 4, 24, 25, 26, 27, 28, 10, 29, 30, 31, 32, 33, 34, 13, 35, 36, 37, 38, 43] (by decide +kernel) (by decide +kernel)
set_option maxRecDepth 20000 in
theorem gX2_takeRuns_X2_takeRunFor : GoodIn wsX2_takeRuns (wsV RX2 74 RX2 yX2_takeRunFor wsX2_takeRunFor) := goodIn_app (goodIn_of _ (by decide +kernel)) ggX2_takeRuns_X2_takeRunFor
set_option maxRecDepth 20000 in
theorem ggX2_takeRuns_X2_putExtent : GoodIn wsX2_takeRuns wsX2_putExtent := goodIn_r _ [42, 10, 43] (by decide +kernel) (by decide +kernel)
set_option maxRecDepth 20000 in
theorem gX2_takeRuns_X2_putExtent : GoodIn wsX2_takeRuns (wsV RX2 71 RX2 yX2_putExtent wsX2_putExtent) := goodIn_app (goodIn_of _ (by decide +kernel)) ggX2_takeRuns_X2_putExtent
set_option maxRecDepth 20000 in
theorem ggX2_takeRuns_X3_blocksOf : GoodIn wsX2_takeRuns wsX3_blocksOf := goodIn_r _ [14, 15, 16, 13, 17] (by decide +kernel) (by decide +kernel)
set_option maxRecDepth 20000 in
theorem gX2_takeRuns_X3_blocksOf : GoodIn wsX2_takeRuns (va_wsS RX2 37 yX3_blocksOf wsX3_blocksOf) := goodIn_app (goodIn_of _ (by decide +kernel)) ggX2_takeRuns_X3_blocksOf
theorem dX2_takeRuns_0 : decode cX2_takeRuns 0 = .ok (.aload_n 0, 1) := by decide +kernel
theorem dX2_takeRuns_1 : decode cX2_takeRuns 1 = .ok (.iload_n 1, 1) := by decide +kernel
theorem dX2_takeRuns_2 : decode cX2_takeRuns 2 = .ok (.invokevirtual 45, 3) := by decide +kernel
theorem dX2_takeRuns_5 : decode cX2_takeRuns 5 = .ok (.istore 4, 2) := by decide +kernel
theorem dX2_takeRuns_7 : decode cX2_takeRuns 7 = .ok (.iload_n 2, 1) := by decide +kernel
theorem dX2_takeRuns_8 : decode cX2_takeRuns 8 = .ok (.istore 5, 2) := by decide +kernel
theorem dX2_takeRuns_10 : decode cX2_takeRuns 10 = .ok (.iload 5, 2) := by decide +kernel
theorem dX2_takeRuns_12 : decode cX2_takeRuns 12 = .ok (.iconst 4, 1) := by decide +kernel
theorem dX2_takeRuns_13 : decode cX2_takeRuns 13 = .ok (.if_icmp .ge 52, 3) := by decide +kernel
theorem dX2_takeRuns_16 : decode cX2_takeRuns 16 = .ok (.iload 4, 2) := by decide +kernel
theorem dX2_takeRuns_18 : decode cX2_takeRuns 18 = .ok (.iload_n 3, 1) := by decide +kernel
theorem dX2_takeRuns_19 : decode cX2_takeRuns 19 = .ok (.if_icmp .ge 46, 3) := by decide +kernel
theorem dX2_takeRuns_22 : decode cX2_takeRuns 22 = .ok (.aload_n 0, 1) := by decide +kernel
theorem dX2_takeRuns_23 : decode cX2_takeRuns 23 = .ok (.iload_n 3, 1) := by decide +kernel
theorem dX2_takeRuns_24 : decode cX2_takeRuns 24 = .ok (.iload 4, 2) := by decide +kernel
theorem dX2_takeRuns_26 : decode cX2_takeRuns 26 = .ok (.isub, 1) := by decide +kernel
theorem dX2_takeRuns_27 : decode cX2_takeRuns 27 = .ok (.invokevirtual 74, 3) := by decide +kernel
theorem dX2_takeRuns_30 : decode cX2_takeRuns 30 = .ok (.istore 6, 2) := by decide +kernel
theorem dX2_takeRuns_32 : decode cX2_takeRuns 32 = .ok (.iload 6, 2) := by decide +kernel
theorem dX2_takeRuns_34 : decode cX2_takeRuns 34 = .ok (.ifCond .ne 6, 3) := by decide +kernel
theorem dX2_takeRuns_37 : decode cX2_takeRuns 37 = .ok (.bipush (-8), 2) := by decide +kernel
theorem dX2_takeRuns_39 : decode cX2_takeRuns 39 = .ok (.ireturn, 1) := by decide +kernel
theorem dX2_takeRuns_40 : decode cX2_takeRuns 40 = .ok (.aload_n 0, 1) := by decide +kernel
theorem dX2_takeRuns_41 : decode cX2_takeRuns 41 = .ok (.iload_n 1, 1) := by decide +kernel
theorem dX2_takeRuns_42 : decode cX2_takeRuns 42 = .ok (.iload 5, 2) := by decide +kernel
theorem dX2_takeRuns_44 : decode cX2_takeRuns 44 = .ok (.iload 6, 2) := by decide +kernel
theorem dX2_takeRuns_46 : decode cX2_takeRuns 46 = .ok (.invokevirtual 71, 3) := by decide +kernel
theorem dX2_takeRuns_49 : decode cX2_takeRuns 49 = .ok (.iload 4, 2) := by decide +kernel
theorem dX2_takeRuns_51 : decode cX2_takeRuns 51 = .ok (.iload 6, 2) := by decide +kernel
theorem dX2_takeRuns_53 : decode cX2_takeRuns 53 = .ok (.invokestatic 37, 3) := by decide +kernel
theorem dX2_takeRuns_56 : decode cX2_takeRuns 56 = .ok (.iadd, 1) := by decide +kernel
theorem dX2_takeRuns_57 : decode cX2_takeRuns 57 = .ok (.istore 4, 2) := by decide +kernel
theorem dX2_takeRuns_59 : decode cX2_takeRuns 59 = .ok (.iinc 5 1, 3) := by decide +kernel
theorem dX2_takeRuns_62 : decode cX2_takeRuns 62 = .ok (.goto (-52), 3) := by decide +kernel
theorem dX2_takeRuns_65 : decode cX2_takeRuns 65 = .ok (.iload 4, 2) := by decide +kernel
theorem dX2_takeRuns_67 : decode cX2_takeRuns 67 = .ok (.iload_n 3, 1) := by decide +kernel
theorem dX2_takeRuns_68 : decode cX2_takeRuns 68 = .ok (.if_icmp .ge 8, 3) := by decide +kernel
theorem dX2_takeRuns_71 : decode cX2_takeRuns 71 = .ok (.bipush (-8), 2) := by decide +kernel
theorem dX2_takeRuns_73 : decode cX2_takeRuns 73 = .ok (.goto 4, 3) := by decide +kernel
theorem dX2_takeRuns_76 : decode cX2_takeRuns 76 = .ok (.iconst 0, 1) := by decide +kernel
theorem dX2_takeRuns_77 : decode cX2_takeRuns 77 = .ok (.ireturn, 1) := by decide +kernel
set_option maxRecDepth 20000 in
theorem ggX2_takeRunFor_X2_orderFor : GoodIn wsX2_takeRunFor wsX2_orderFor := goodIn_r _ [4] (by decide +kernel) (by decide +kernel)
set_option maxRecDepth 20000 in
theorem gX2_takeRunFor_X2_orderFor : GoodIn wsX2_takeRunFor (va_wsS RX2 77 yX2_orderFor wsX2_orderFor) := goodIn_app (goodIn_of _ (by decide +kernel)) ggX2_takeRunFor_X2_orderFor
set_option maxRecDepth 20000 in
theorem ggX2_takeRunFor_X2_takeRun : GoodIn wsX2_takeRunFor wsX2_takeRun := goodIn_r _ [8, 9, 10, 11, 12, 3, 13, 14, 15, 16, 17, 18, 19, 20, 21] (by decide +kernel) (by decide +kernel)
set_option maxRecDepth 20000 in
theorem gX2_takeRunFor_X2_takeRun : GoodIn wsX2_takeRunFor (wsV RX2 80 RX2 yX2_takeRun wsX2_takeRun) := goodIn_app (goodIn_of _ (by decide +kernel)) ggX2_takeRunFor_X2_takeRun
theorem dX2_takeRunFor_0 : decode cX2_takeRunFor 0 = .ok (.iload_n 1, 1) := by decide +kernel
theorem dX2_takeRunFor_1 : decode cX2_takeRunFor 1 = .ok (.invokestatic 77, 3) := by decide +kernel
theorem dX2_takeRunFor_4 : decode cX2_takeRunFor 4 = .ok (.istore_n 2, 1) := by decide +kernel
theorem dX2_takeRunFor_5 : decode cX2_takeRunFor 5 = .ok (.iload_n 2, 1) := by decide +kernel
theorem dX2_takeRunFor_6 : decode cX2_takeRunFor 6 = .ok (.ifCond .lt 21, 3) := by decide +kernel
theorem dX2_takeRunFor_9 : decode cX2_takeRunFor 9 = .ok (.aload_n 0, 1) := by decide +kernel
theorem dX2_takeRunFor_10 : decode cX2_takeRunFor 10 = .ok (.iload_n 2, 1) := by decide +kernel
theorem dX2_takeRunFor_11 : decode cX2_takeRunFor 11 = .ok (.invokevirtual 80, 3) := by decide +kernel
theorem dX2_takeRunFor_14 : decode cX2_takeRunFor 14 = .ok (.istore_n 3, 1) := by decide +kernel
theorem dX2_takeRunFor_15 : decode cX2_takeRunFor 15 = .ok (.iload_n 3, 1) := by decide +kernel
theorem dX2_takeRunFor_16 : decode cX2_takeRunFor 16 = .ok (.ifCond .eq 5, 3) := by decide +kernel
theorem dX2_takeRunFor_19 : decode cX2_takeRunFor 19 = .ok (.iload_n 3, 1) := by decide +kernel
theorem dX2_takeRunFor_20 : decode cX2_takeRunFor 20 = .ok (.ireturn, 1) := by decide +kernel
theorem dX2_takeRunFor_21 : decode cX2_takeRunFor 21 = .ok (.iinc 2 (-1), 3) := by decide +kernel
theorem dX2_takeRunFor_24 : decode cX2_takeRunFor 24 = .ok (.goto (-19), 3) := by decide +kernel
theorem dX2_takeRunFor_27 : decode cX2_takeRunFor 27 = .ok (.iconst 0, 1) := by decide +kernel
theorem dX2_takeRunFor_28 : decode cX2_takeRunFor 28 = .ok (.ireturn, 1) := by decide +kernel
theorem dX2_orderFor_0 : decode cX2_orderFor 0 = .ok (.iconst 0, 1) := by decide +kernel
theorem dX2_orderFor_1 : decode cX2_orderFor 1 = .ok (.istore_n 1, 1) := by decide +kernel
theorem dX2_orderFor_2 : decode cX2_orderFor 2 = .ok (.iload_n 1, 1) := by decide +kernel
theorem dX2_orderFor_3 : decode cX2_orderFor 3 = .ok (.iconst 5, 1) := by decide +kernel
theorem dX2_orderFor_4 : decode cX2_orderFor 4 = .ok (.if_icmp .ge 16, 3) := by decide +kernel
theorem dX2_orderFor_7 : decode cX2_orderFor 7 = .ok (.iconst 1, 1) := by decide +kernel
theorem dX2_orderFor_8 : decode cX2_orderFor 8 = .ok (.iload_n 1, 1) := by decide +kernel
theorem dX2_orderFor_9 : decode cX2_orderFor 9 = .ok (.ishl, 1) := by decide +kernel
theorem dX2_orderFor_10 : decode cX2_orderFor 10 = .ok (.iload_n 0, 1) := by decide +kernel
theorem dX2_orderFor_11 : decode cX2_orderFor 11 = .ok (.if_icmp .ge 9, 3) := by decide +kernel
theorem dX2_orderFor_14 : decode cX2_orderFor 14 = .ok (.iinc 1 1, 3) := by decide +kernel
theorem dX2_orderFor_17 : decode cX2_orderFor 17 = .ok (.goto (-15), 3) := by decide +kernel
theorem dX2_orderFor_20 : decode cX2_orderFor 20 = .ok (.iload_n 1, 1) := by decide +kernel
theorem dX2_orderFor_21 : decode cX2_orderFor 21 = .ok (.ireturn, 1) := by decide +kernel
set_option maxRecDepth 20000 in
theorem ggX2_takeRun_X2_isFreeRun : GoodIn wsX2_takeRun wsX2_isFreeRun := goodIn_r _ [6, 1, 7, 8, 9, 10, 14] (by decide +kernel) (by decide +kernel)
set_option maxRecDepth 20000 in
theorem gX2_takeRun_X2_isFreeRun : GoodIn wsX2_takeRun (wsV RX2 83 RX2 yX2_isFreeRun wsX2_isFreeRun) := goodIn_app (goodIn_of _ (by decide +kernel)) ggX2_takeRun_X2_isFreeRun
set_option maxRecDepth 20000 in
theorem ggX2_takeRun_X3_mapBits : GoodIn wsX2_takeRun wsX3_mapBits := goodIn_r _ [10] (by decide +kernel) (by decide +kernel)
set_option maxRecDepth 20000 in
theorem gX2_takeRun_X3_mapBits : GoodIn wsX2_takeRun (va_wsS RX2 87 yX3_mapBits wsX3_mapBits) := goodIn_app (goodIn_of _ (by decide +kernel)) ggX2_takeRun_X3_mapBits
set_option maxRecDepth 20000 in
theorem ggX2_takeRun_X3_cellOf : GoodIn wsX2_takeRun wsX3_cellOf := goodIn_r _ [13] (by decide +kernel) (by decide +kernel)
set_option maxRecDepth 20000 in
theorem gX2_takeRun_X3_cellOf : GoodIn wsX2_takeRun (va_wsS RX2 90 yX3_cellOf wsX3_cellOf) := goodIn_app (goodIn_of _ (by decide +kernel)) ggX2_takeRun_X3_cellOf
theorem dX2_takeRun_0 : decode cX2_takeRun 0 = .ok (.iload_n 1, 1) := by decide +kernel
theorem dX2_takeRun_1 : decode cX2_takeRun 1 = .ok (.istore_n 2, 1) := by decide +kernel
theorem dX2_takeRun_2 : decode cX2_takeRun 2 = .ok (.iload_n 2, 1) := by decide +kernel
theorem dX2_takeRun_3 : decode cX2_takeRun 3 = .ok (.iconst 5, 1) := by decide +kernel
theorem dX2_takeRun_4 : decode cX2_takeRun 4 = .ok (.if_icmp .gt 56, 3) := by decide +kernel
theorem dX2_takeRun_7 : decode cX2_takeRun 7 = .ok (.iconst 0, 1) := by decide +kernel
theorem dX2_takeRun_8 : decode cX2_takeRun 8 = .ok (.istore_n 3, 1) := by decide +kernel
theorem dX2_takeRun_9 : decode cX2_takeRun 9 = .ok (.iload_n 3, 1) := by decide +kernel
theorem dX2_takeRun_10 : decode cX2_takeRun 10 = .ok (.bipush 32, 2) := by decide +kernel
theorem dX2_takeRun_12 : decode cX2_takeRun 12 = .ok (.if_icmp .ge 42, 3) := by decide +kernel
theorem dX2_takeRun_15 : decode cX2_takeRun 15 = .ok (.aload_n 0, 1) := by decide +kernel
theorem dX2_takeRun_16 : decode cX2_takeRun 16 = .ok (.iload_n 3, 1) := by decide +kernel
theorem dX2_takeRun_17 : decode cX2_takeRun 17 = .ok (.iload_n 2, 1) := by decide +kernel
theorem dX2_takeRun_18 : decode cX2_takeRun 18 = .ok (.invokevirtual 83, 3) := by decide +kernel
theorem dX2_takeRun_21 : decode cX2_takeRun 21 = .ok (.ifCond .eq 24, 3) := by decide +kernel
theorem dX2_takeRun_24 : decode cX2_takeRun 24 = .ok (.aload_n 0, 1) := by decide +kernel
theorem dX2_takeRun_25 : decode cX2_takeRun 25 = .ok (.getfield 9, 3) := by decide +kernel
theorem dX2_takeRun_28 : decode cX2_takeRun 28 = .ok (.bipush 45, 2) := by decide +kernel
theorem dX2_takeRun_30 : decode cX2_takeRun 30 = .ok (.dup2, 1) := by decide +kernel
theorem dX2_takeRun_31 : decode cX2_takeRun 31 = .ok (.iaload, 1) := by decide +kernel
theorem dX2_takeRun_32 : decode cX2_takeRun 32 = .ok (.iload_n 3, 1) := by decide +kernel
theorem dX2_takeRun_33 : decode cX2_takeRun 33 = .ok (.iload_n 1, 1) := by decide +kernel
theorem dX2_takeRun_34 : decode cX2_takeRun 34 = .ok (.invokestatic 87, 3) := by decide +kernel
theorem dX2_takeRun_37 : decode cX2_takeRun 37 = .ok (.ior, 1) := by decide +kernel
theorem dX2_takeRun_38 : decode cX2_takeRun 38 = .ok (.iastore, 1) := by decide +kernel
theorem dX2_takeRun_39 : decode cX2_takeRun 39 = .ok (.iload_n 3, 1) := by decide +kernel
theorem dX2_takeRun_40 : decode cX2_takeRun 40 = .ok (.iload_n 1, 1) := by decide +kernel
theorem dX2_takeRun_41 : decode cX2_takeRun 41 = .ok (.invokestatic 90, 3) := by decide +kernel
theorem dX2_takeRun_44 : decode cX2_takeRun 44 = .ok (.ireturn, 1) := by decide +kernel
theorem dX2_takeRun_45 : decode cX2_takeRun 45 = .ok (.iload_n 3, 1) := by decide +kernel
theorem dX2_takeRun_46 : decode cX2_takeRun 46 = .ok (.iconst 1, 1) := by decide +kernel
theorem dX2_takeRun_47 : decode cX2_takeRun 47 = .ok (.iload_n 2, 1) := by decide +kernel
theorem dX2_takeRun_48 : decode cX2_takeRun 48 = .ok (.ishl, 1) := by decide +kernel
theorem dX2_takeRun_49 : decode cX2_takeRun 49 = .ok (.iadd, 1) := by decide +kernel
theorem dX2_takeRun_50 : decode cX2_takeRun 50 = .ok (.istore_n 3, 1) := by decide +kernel
theorem dX2_takeRun_51 : decode cX2_takeRun 51 = .ok (.goto (-42), 3) := by decide +kernel
theorem dX2_takeRun_54 : decode cX2_takeRun 54 = .ok (.iinc 2 1, 3) := by decide +kernel
theorem dX2_takeRun_57 : decode cX2_takeRun 57 = .ok (.goto (-55), 3) := by decide +kernel
theorem dX2_takeRun_60 : decode cX2_takeRun 60 = .ok (.iconst 0, 1) := by decide +kernel
theorem dX2_takeRun_61 : decode cX2_takeRun 61 = .ok (.ireturn, 1) := by decide +kernel
set_option maxRecDepth 20000 in
theorem ggX2_freeRunsOf_X2_isFreeRun : GoodIn wsX2_freeRunsOf wsX2_isFreeRun := goodIn_r _ [5, 6, 7, 8, 9, 10, 11] (by decide +kernel) (by decide +kernel)
set_option maxRecDepth 20000 in
theorem gX2_freeRunsOf_X2_isFreeRun : GoodIn wsX2_freeRunsOf (wsV RX2 83 RX2 yX2_isFreeRun wsX2_isFreeRun) := goodIn_app (goodIn_of _ (by decide +kernel)) ggX2_freeRunsOf_X2_isFreeRun
theorem dX2_freeRunsOf_0 : decode cX2_freeRunsOf 0 = .ok (.iconst 0, 1) := by decide +kernel
theorem dX2_freeRunsOf_1 : decode cX2_freeRunsOf 1 = .ok (.istore_n 2, 1) := by decide +kernel
theorem dX2_freeRunsOf_2 : decode cX2_freeRunsOf 2 = .ok (.iconst 0, 1) := by decide +kernel
theorem dX2_freeRunsOf_3 : decode cX2_freeRunsOf 3 = .ok (.istore_n 3, 1) := by decide +kernel
theorem dX2_freeRunsOf_4 : decode cX2_freeRunsOf 4 = .ok (.iload_n 3, 1) := by decide +kernel
theorem dX2_freeRunsOf_5 : decode cX2_freeRunsOf 5 = .ok (.bipush 32, 2) := by decide +kernel
theorem dX2_freeRunsOf_7 : decode cX2_freeRunsOf 7 = .ok (.if_icmp .ge 24, 3) := by decide +kernel
theorem dX2_freeRunsOf_10 : decode cX2_freeRunsOf 10 = .ok (.aload_n 0, 1) := by decide +kernel
theorem dX2_freeRunsOf_11 : decode cX2_freeRunsOf 11 = .ok (.iload_n 3, 1) := by decide +kernel
theorem dX2_freeRunsOf_12 : decode cX2_freeRunsOf 12 = .ok (.iload_n 1, 1) := by decide +kernel
theorem dX2_freeRunsOf_13 : decode cX2_freeRunsOf 13 = .ok (.invokevirtual 83, 3) := by decide +kernel
theorem dX2_freeRunsOf_16 : decode cX2_freeRunsOf 16 = .ok (.ifCond .eq 6, 3) := by decide +kernel
theorem dX2_freeRunsOf_19 : decode cX2_freeRunsOf 19 = .ok (.iinc 2 1, 3) := by decide +kernel
theorem dX2_freeRunsOf_22 : decode cX2_freeRunsOf 22 = .ok (.iload_n 3, 1) := by decide +kernel
theorem dX2_freeRunsOf_23 : decode cX2_freeRunsOf 23 = .ok (.iconst 1, 1) := by decide +kernel
theorem dX2_freeRunsOf_24 : decode cX2_freeRunsOf 24 = .ok (.iload_n 1, 1) := by decide +kernel
theorem dX2_freeRunsOf_25 : decode cX2_freeRunsOf 25 = .ok (.ishl, 1) := by decide +kernel
theorem dX2_freeRunsOf_26 : decode cX2_freeRunsOf 26 = .ok (.iadd, 1) := by decide +kernel
theorem dX2_freeRunsOf_27 : decode cX2_freeRunsOf 27 = .ok (.istore_n 3, 1) := by decide +kernel
theorem dX2_freeRunsOf_28 : decode cX2_freeRunsOf 28 = .ok (.goto (-24), 3) := by decide +kernel
theorem dX2_freeRunsOf_31 : decode cX2_freeRunsOf 31 = .ok (.iload_n 2, 1) := by decide +kernel
theorem dX2_freeRunsOf_32 : decode cX2_freeRunsOf 32 = .ok (.ireturn, 1) := by decide +kernel
set_option maxRecDepth 20000 in
theorem ggX2_isFreeRun_X3_mapBits : GoodIn wsX2_isFreeRun wsX3_mapBits := goodIn_r _ [5] (by decide +kernel) (by decide +kernel)
set_option maxRecDepth 20000 in
theorem gX2_isFreeRun_X3_mapBits : GoodIn wsX2_isFreeRun (va_wsS RX2 87 yX3_mapBits wsX3_mapBits) := goodIn_app (goodIn_of _ (by decide +kernel)) ggX2_isFreeRun_X3_mapBits
theorem dX2_isFreeRun_0 : decode cX2_isFreeRun 0 = .ok (.aload_n 0, 1) := by decide +kernel
theorem dX2_isFreeRun_1 : decode cX2_isFreeRun 1 = .ok (.getfield 9, 3) := by decide +kernel
theorem dX2_isFreeRun_4 : decode cX2_isFreeRun 4 = .ok (.bipush 45, 2) := by decide +kernel
theorem dX2_isFreeRun_6 : decode cX2_isFreeRun 6 = .ok (.iaload, 1) := by decide +kernel
theorem dX2_isFreeRun_7 : decode cX2_isFreeRun 7 = .ok (.istore_n 3, 1) := by decide +kernel
theorem dX2_isFreeRun_8 : decode cX2_isFreeRun 8 = .ok (.iload_n 3, 1) := by decide +kernel
theorem dX2_isFreeRun_9 : decode cX2_isFreeRun 9 = .ok (.iload_n 1, 1) := by decide +kernel
theorem dX2_isFreeRun_10 : decode cX2_isFreeRun 10 = .ok (.iload_n 2, 1) := by decide +kernel
theorem dX2_isFreeRun_11 : decode cX2_isFreeRun 11 = .ok (.invokestatic 87, 3) := by decide +kernel
theorem dX2_isFreeRun_14 : decode cX2_isFreeRun 14 = .ok (.iand, 1) := by decide +kernel
theorem dX2_isFreeRun_15 : decode cX2_isFreeRun 15 = .ok (.ifCond .eq 5, 3) := by decide +kernel
theorem dX2_isFreeRun_18 : decode cX2_isFreeRun 18 = .ok (.iconst 0, 1) := by decide +kernel
theorem dX2_isFreeRun_19 : decode cX2_isFreeRun 19 = .ok (.ireturn, 1) := by decide +kernel
theorem dX2_isFreeRun_20 : decode cX2_isFreeRun 20 = .ok (.iload_n 2, 1) := by decide +kernel
theorem dX2_isFreeRun_21 : decode cX2_isFreeRun 21 = .ok (.iconst 5, 1) := by decide +kernel
theorem dX2_isFreeRun_22 : decode cX2_isFreeRun 22 = .ok (.if_icmp .ne 5, 3) := by decide +kernel
theorem dX2_isFreeRun_25 : decode cX2_isFreeRun 25 = .ok (.iconst 1, 1) := by decide +kernel
theorem dX2_isFreeRun_26 : decode cX2_isFreeRun 26 = .ok (.ireturn, 1) := by decide +kernel
theorem dX2_isFreeRun_27 : decode cX2_isFreeRun 27 = .ok (.iload_n 1, 1) := by decide +kernel
theorem dX2_isFreeRun_28 : decode cX2_isFreeRun 28 = .ok (.iload_n 1, 1) := by decide +kernel
theorem dX2_isFreeRun_29 : decode cX2_isFreeRun 29 = .ok (.iconst 2, 1) := by decide +kernel
theorem dX2_isFreeRun_30 : decode cX2_isFreeRun 30 = .ok (.iload_n 2, 1) := by decide +kernel
theorem dX2_isFreeRun_31 : decode cX2_isFreeRun 31 = .ok (.ishl, 1) := by decide +kernel
theorem dX2_isFreeRun_32 : decode cX2_isFreeRun 32 = .ok (.irem, 1) := by decide +kernel
theorem dX2_isFreeRun_33 : decode cX2_isFreeRun 33 = .ok (.isub, 1) := by decide +kernel
theorem dX2_isFreeRun_34 : decode cX2_isFreeRun 34 = .ok (.istore 4, 2) := by decide +kernel
theorem dX2_isFreeRun_36 : decode cX2_isFreeRun 36 = .ok (.iload_n 3, 1) := by decide +kernel
theorem dX2_isFreeRun_37 : decode cX2_isFreeRun 37 = .ok (.iload 4, 2) := by decide +kernel
theorem dX2_isFreeRun_39 : decode cX2_isFreeRun 39 = .ok (.iload_n 2, 1) := by decide +kernel
theorem dX2_isFreeRun_40 : decode cX2_isFreeRun 40 = .ok (.iconst 1, 1) := by decide +kernel
theorem dX2_isFreeRun_41 : decode cX2_isFreeRun 41 = .ok (.iadd, 1) := by decide +kernel
theorem dX2_isFreeRun_42 : decode cX2_isFreeRun 42 = .ok (.invokestatic 87, 3) := by decide +kernel
theorem dX2_isFreeRun_45 : decode cX2_isFreeRun 45 = .ok (.iand, 1) := by decide +kernel
theorem dX2_isFreeRun_46 : decode cX2_isFreeRun 46 = .ok (.ifCond .eq 7, 3) := by decide +kernel
theorem dX2_isFreeRun_49 : decode cX2_isFreeRun 49 = .ok (.iconst 1, 1) := by decide +kernel
theorem dX2_isFreeRun_50 : decode cX2_isFreeRun 50 = .ok (.goto 4, 3) := by decide +kernel
theorem dX2_isFreeRun_53 : decode cX2_isFreeRun 53 = .ok (.iconst 0, 1) := by decide +kernel
theorem dX2_isFreeRun_54 : decode cX2_isFreeRun 54 = .ok (.ireturn, 1) := by decide +kernel
set_option maxRecDepth 20000 in
theorem ggX2_shrink_X2_lengthOf : GoodIn wsX2_shrink wsX2_lengthOf := goodIn_r _ [5, 6, 59] (by decide +kernel) (by decide +kernel)
set_option maxRecDepth 20000 in
theorem gX2_shrink_X2_lengthOf : GoodIn wsX2_shrink (wsV RX2 93 RX2 yX2_lengthOf wsX2_lengthOf) := goodIn_app (goodIn_of _ (by decide +kernel)) ggX2_shrink_X2_lengthOf
set_option maxRecDepth 20000 in
theorem ggX2_shrink_X2_putWord : GoodIn wsX2_shrink wsX2_putWord := goodIn_r _ [10, 6, 11, 12, 13, 4, 14, 15, 16, 17, 18, 19, 20, 21, 22, 23, 24, 25, 26, 27, 28, 59] (by decide +kernel) (by decide +kernel)
set_option maxRecDepth 20000 in
theorem gX2_shrink_X2_putWord : GoodIn wsX2_shrink (wsV RX2 96 RX2 yX2_putWord wsX2_putWord) := goodIn_app (goodIn_of _ (by decide +kernel)) ggX2_shrink_X2_putWord
set_option maxRecDepth 20000 in
theorem ggX2_shrink_X2_putLength : GoodIn wsX2_shrink wsX2_putLength := goodIn_r _ [32, 6, 59] (by decide +kernel) (by decide +kernel)
set_option maxRecDepth 20000 in
theorem gX2_shrink_X2_putLength : GoodIn wsX2_shrink (wsV RX2 68 RX2 yX2_putLength wsX2_putLength) := goodIn_app (goodIn_of _ (by decide +kernel)) ggX2_shrink_X2_putLength
set_option maxRecDepth 20000 in
theorem ggX2_shrink_X2_needOf : GoodIn wsX2_shrink wsX2_needOf := goodIn_r _ [35] (by decide +kernel) (by decide +kernel)
set_option maxRecDepth 20000 in
theorem gX2_shrink_X2_needOf : GoodIn wsX2_shrink (va_wsS RX2 55 yX2_needOf wsX2_needOf) := goodIn_app (goodIn_of _ (by decide +kernel)) ggX2_shrink_X2_needOf
set_option maxRecDepth 20000 in
theorem ggX2_shrink_X2_giveBackRuns : GoodIn wsX2_shrink wsX2_giveBackRuns := goodIn_r _ [39, 6, 40, 41, 42, 4, 43, 15, 16, 17, 18, 19, 20, 21, 22, 23, 24, 25, 44, 45, 46, 47, 48, 49, 50, 51, 27, 28, 52, 53, 54, 55, 56, 57, 58, 59] (by decide +kernel) (by decide +kernel)
set_option maxRecDepth 20000 in
theorem gX2_shrink_X2_giveBackRuns : GoodIn wsX2_shrink (wsV RX2 99 RX2 yX2_giveBackRuns wsX2_giveBackRuns) := goodIn_app (goodIn_of _ (by decide +kernel)) ggX2_shrink_X2_giveBackRuns
theorem dX2_shrink_0 : decode cX2_shrink 0 = .ok (.aload_n 0, 1) := by decide +kernel
theorem dX2_shrink_1 : decode cX2_shrink 1 = .ok (.iload_n 1, 1) := by decide +kernel
theorem dX2_shrink_2 : decode cX2_shrink 2 = .ok (.invokevirtual 93, 3) := by decide +kernel
theorem dX2_shrink_5 : decode cX2_shrink 5 = .ok (.istore_n 3, 1) := by decide +kernel
theorem dX2_shrink_6 : decode cX2_shrink 6 = .ok (.iload_n 2, 1) := by decide +kernel
theorem dX2_shrink_7 : decode cX2_shrink 7 = .ok (.istore 4, 2) := by decide +kernel
theorem dX2_shrink_9 : decode cX2_shrink 9 = .ok (.iload 4, 2) := by decide +kernel
theorem dX2_shrink_11 : decode cX2_shrink 11 = .ok (.iload_n 3, 1) := by decide +kernel
theorem dX2_shrink_12 : decode cX2_shrink 12 = .ok (.if_icmp .ge 17, 3) := by decide +kernel
theorem dX2_shrink_15 : decode cX2_shrink 15 = .ok (.aload_n 0, 1) := by decide +kernel
theorem dX2_shrink_16 : decode cX2_shrink 16 = .ok (.iload_n 1, 1) := by decide +kernel
theorem dX2_shrink_17 : decode cX2_shrink 17 = .ok (.iload 4, 2) := by decide +kernel
theorem dX2_shrink_19 : decode cX2_shrink 19 = .ok (.iconst 0, 1) := by decide +kernel
theorem dX2_shrink_20 : decode cX2_shrink 20 = .ok (.invokevirtual 96, 3) := by decide +kernel
theorem dX2_shrink_23 : decode cX2_shrink 23 = .ok (.iinc 4 1, 3) := by decide +kernel
theorem dX2_shrink_26 : decode cX2_shrink 26 = .ok (.goto (-17), 3) := by decide +kernel
theorem dX2_shrink_29 : decode cX2_shrink 29 = .ok (.aload_n 0, 1) := by decide +kernel
theorem dX2_shrink_30 : decode cX2_shrink 30 = .ok (.iload_n 1, 1) := by decide +kernel
theorem dX2_shrink_31 : decode cX2_shrink 31 = .ok (.iload_n 2, 1) := by decide +kernel
theorem dX2_shrink_32 : decode cX2_shrink 32 = .ok (.invokevirtual 68, 3) := by decide +kernel
theorem dX2_shrink_35 : decode cX2_shrink 35 = .ok (.aload_n 0, 1) := by decide +kernel
theorem dX2_shrink_36 : decode cX2_shrink 36 = .ok (.iload_n 1, 1) := by decide +kernel
theorem dX2_shrink_37 : decode cX2_shrink 37 = .ok (.iload_n 2, 1) := by decide +kernel
theorem dX2_shrink_38 : decode cX2_shrink 38 = .ok (.invokestatic 55, 3) := by decide +kernel
theorem dX2_shrink_41 : decode cX2_shrink 41 = .ok (.invokevirtual 99, 3) := by decide +kernel
theorem dX2_shrink_44 : decode cX2_shrink 44 = .ok (.return_, 1) := by decide +kernel
set_option maxRecDepth 20000 in
theorem ggX2_giveBackRuns_X2_blocksOf : GoodIn wsX2_giveBackRuns wsX2_blocksOf := goodIn_r _ [6, 7, 8, 9, 5, 10, 1, 11, 12, 13, 14, 15, 16, 17, 35] (by decide +kernel) (by decide +kernel)
set_option maxRecDepth 20000 in
theorem gX2_giveBackRuns_X2_blocksOf : GoodIn wsX2_giveBackRuns (wsV RX2 45 RX2 yX2_blocksOf wsX2_blocksOf) := goodIn_app (goodIn_of _ (by decide +kernel)) ggX2_giveBackRuns_X2_blocksOf
set_option maxRecDepth 20000 in
theorem ggX2_giveBackRuns_X2_runsOf : GoodIn wsX2_giveBackRuns wsX2_runsOf := goodIn_r _ [21, 7, 8, 9, 5, 10, 1, 35] (by decide +kernel) (by decide +kernel)
set_option maxRecDepth 20000 in
theorem gX2_giveBackRuns_X2_runsOf : GoodIn wsX2_giveBackRuns (wsV RX2 52 RX2 yX2_runsOf wsX2_runsOf) := goodIn_app (goodIn_of _ (by decide +kernel)) ggX2_giveBackRuns_X2_runsOf
set_option maxRecDepth 20000 in
theorem ggX2_giveBackRuns_X2_extentOf : GoodIn wsX2_giveBackRuns wsX2_extentOf := goodIn_r _ [10, 1, 35] (by decide +kernel) (by decide +kernel)
set_option maxRecDepth 20000 in
theorem gX2_giveBackRuns_X2_extentOf : GoodIn wsX2_giveBackRuns (wsV RX2 33 RX2 yX2_extentOf wsX2_extentOf) := goodIn_app (goodIn_of _ (by decide +kernel)) ggX2_giveBackRuns_X2_extentOf
set_option maxRecDepth 20000 in
theorem ggX2_giveBackRuns_X3_blocksOf : GoodIn wsX2_giveBackRuns wsX3_blocksOf := goodIn_r _ [14, 15, 16, 13, 17] (by decide +kernel) (by decide +kernel)
set_option maxRecDepth 20000 in
theorem gX2_giveBackRuns_X3_blocksOf : GoodIn wsX2_giveBackRuns (va_wsS RX2 37 yX3_blocksOf wsX3_blocksOf) := goodIn_app (goodIn_of _ (by decide +kernel)) ggX2_giveBackRuns_X3_blocksOf
set_option maxRecDepth 20000 in
theorem ggX2_giveBackRuns_X3_bitsOf : GoodIn wsX2_giveBackRuns wsX3_bitsOf := goodIn_r _ [24, 25, 26, 13, 27, 15, 16, 17, 28, 29, 30] (by decide +kernel) (by decide +kernel)
set_option maxRecDepth 20000 in
theorem gX2_giveBackRuns_X3_bitsOf : GoodIn wsX2_giveBackRuns (va_wsS RX2 102 yX3_bitsOf wsX3_bitsOf) := goodIn_app (goodIn_of _ (by decide +kernel)) ggX2_giveBackRuns_X3_bitsOf
set_option maxRecDepth 20000 in
theorem ggX2_giveBackRuns_X2_putExtent : GoodIn wsX2_giveBackRuns wsX2_putExtent := goodIn_r _ [34, 1, 35] (by decide +kernel) (by decide +kernel)
set_option maxRecDepth 20000 in
theorem gX2_giveBackRuns_X2_putExtent : GoodIn wsX2_giveBackRuns (wsV RX2 71 RX2 yX2_putExtent wsX2_putExtent) := goodIn_app (goodIn_of _ (by decide +kernel)) ggX2_giveBackRuns_X2_putExtent
theorem dX2_giveBackRuns_0 : decode cX2_giveBackRuns 0 = .ok (.aload_n 0, 1) := by decide +kernel
theorem dX2_giveBackRuns_1 : decode cX2_giveBackRuns 1 = .ok (.iload_n 1, 1) := by decide +kernel
theorem dX2_giveBackRuns_2 : decode cX2_giveBackRuns 2 = .ok (.invokevirtual 45, 3) := by decide +kernel
theorem dX2_giveBackRuns_5 : decode cX2_giveBackRuns 5 = .ok (.istore_n 3, 1) := by decide +kernel
theorem dX2_giveBackRuns_6 : decode cX2_giveBackRuns 6 = .ok (.aload_n 0, 1) := by decide +kernel
theorem dX2_giveBackRuns_7 : decode cX2_giveBackRuns 7 = .ok (.iload_n 1, 1) := by decide +kernel
theorem dX2_giveBackRuns_8 : decode cX2_giveBackRuns 8 = .ok (.invokevirtual 52, 3) := by decide +kernel
theorem dX2_giveBackRuns_11 : decode cX2_giveBackRuns 11 = .ok (.iconst 1, 1) := by decide +kernel
theorem dX2_giveBackRuns_12 : decode cX2_giveBackRuns 12 = .ok (.isub, 1) := by decide +kernel
theorem dX2_giveBackRuns_13 : decode cX2_giveBackRuns 13 = .ok (.istore 4, 2) := by decide +kernel
theorem dX2_giveBackRuns_15 : decode cX2_giveBackRuns 15 = .ok (.iload 4, 2) := by decide +kernel
theorem dX2_giveBackRuns_17 : decode cX2_giveBackRuns 17 = .ok (.ifCond .lt 57, 3) := by decide +kernel
theorem dX2_giveBackRuns_20 : decode cX2_giveBackRuns 20 = .ok (.aload_n 0, 1) := by decide +kernel
theorem dX2_giveBackRuns_21 : decode cX2_giveBackRuns 21 = .ok (.iload_n 1, 1) := by decide +kernel
theorem dX2_giveBackRuns_22 : decode cX2_giveBackRuns 22 = .ok (.iload 4, 2) := by decide +kernel
theorem dX2_giveBackRuns_24 : decode cX2_giveBackRuns 24 = .ok (.invokevirtual 33, 3) := by decide +kernel
theorem dX2_giveBackRuns_27 : decode cX2_giveBackRuns 27 = .ok (.istore 5, 2) := by decide +kernel
theorem dX2_giveBackRuns_29 : decode cX2_giveBackRuns 29 = .ok (.iload_n 3, 1) := by decide +kernel
theorem dX2_giveBackRuns_30 : decode cX2_giveBackRuns 30 = .ok (.iload 5, 2) := by decide +kernel
theorem dX2_giveBackRuns_32 : decode cX2_giveBackRuns 32 = .ok (.invokestatic 37, 3) := by decide +kernel
theorem dX2_giveBackRuns_35 : decode cX2_giveBackRuns 35 = .ok (.isub, 1) := by decide +kernel
theorem dX2_giveBackRuns_36 : decode cX2_giveBackRuns 36 = .ok (.istore_n 3, 1) := by decide +kernel
theorem dX2_giveBackRuns_37 : decode cX2_giveBackRuns 37 = .ok (.iload_n 3, 1) := by decide +kernel
theorem dX2_giveBackRuns_38 : decode cX2_giveBackRuns 38 = .ok (.iload_n 2, 1) := by decide +kernel
theorem dX2_giveBackRuns_39 : decode cX2_giveBackRuns 39 = .ok (.if_icmp .ge 4, 3) := by decide +kernel
theorem dX2_giveBackRuns_42 : decode cX2_giveBackRuns 42 = .ok (.return_, 1) := by decide +kernel
theorem dX2_giveBackRuns_43 : decode cX2_giveBackRuns 43 = .ok (.aload_n 0, 1) := by decide +kernel
theorem dX2_giveBackRuns_44 : decode cX2_giveBackRuns 44 = .ok (.getfield 9, 3) := by decide +kernel
theorem dX2_giveBackRuns_47 : decode cX2_giveBackRuns 47 = .ok (.bipush 45, 2) := by decide +kernel
theorem dX2_giveBackRuns_49 : decode cX2_giveBackRuns 49 = .ok (.dup2, 1) := by decide +kernel
theorem dX2_giveBackRuns_50 : decode cX2_giveBackRuns 50 = .ok (.iaload, 1) := by decide +kernel
theorem dX2_giveBackRuns_51 : decode cX2_giveBackRuns 51 = .ok (.iload 5, 2) := by decide +kernel
theorem dX2_giveBackRuns_53 : decode cX2_giveBackRuns 53 = .ok (.invokestatic 102, 3) := by decide +kernel
theorem dX2_giveBackRuns_56 : decode cX2_giveBackRuns 56 = .ok (.iconst (-1), 1) := by decide +kernel
theorem dX2_giveBackRuns_57 : decode cX2_giveBackRuns 57 = .ok (.ixor, 1) := by decide +kernel
theorem dX2_giveBackRuns_58 : decode cX2_giveBackRuns 58 = .ok (.iand, 1) := by decide +kernel
theorem dX2_giveBackRuns_59 : decode cX2_giveBackRuns 59 = .ok (.iastore, 1) := by decide +kernel
theorem dX2_giveBackRuns_60 : decode cX2_giveBackRuns 60 = .ok (.aload_n 0, 1) := by decide +kernel
theorem dX2_giveBackRuns_61 : decode cX2_giveBackRuns 61 = .ok (.iload_n 1, 1) := by decide +kernel
theorem dX2_giveBackRuns_62 : decode cX2_giveBackRuns 62 = .ok (.iload 4, 2) := by decide +kernel
theorem dX2_giveBackRuns_64 : decode cX2_giveBackRuns 64 = .ok (.iconst 0, 1) := by decide +kernel
theorem dX2_giveBackRuns_65 : decode cX2_giveBackRuns 65 = .ok (.invokevirtual 71, 3) := by decide +kernel
theorem dX2_giveBackRuns_68 : decode cX2_giveBackRuns 68 = .ok (.iinc 4 (-1), 3) := by decide +kernel
theorem dX2_giveBackRuns_71 : decode cX2_giveBackRuns 71 = .ok (.goto (-56), 3) := by decide +kernel
theorem dX2_giveBackRuns_74 : decode cX2_giveBackRuns 74 = .ok (.return_, 1) := by decide +kernel
theorem dX3_cellOf_0 : decode cX3_cellOf 0 = .ok (.iconst 1, 1) := by decide +kernel
theorem dX3_cellOf_1 : decode cX3_cellOf 1 = .ok (.iload_n 0, 1) := by decide +kernel
theorem dX3_cellOf_2 : decode cX3_cellOf 2 = .ok (.iadd, 1) := by decide +kernel
theorem dX3_cellOf_3 : decode cX3_cellOf 3 = .ok (.bipush 32, 2) := by decide +kernel
theorem dX3_cellOf_5 : decode cX3_cellOf 5 = .ok (.iload_n 1, 1) := by decide +kernel
theorem dX3_cellOf_6 : decode cX3_cellOf 6 = .ok (.imul, 1) := by decide +kernel
theorem dX3_cellOf_7 : decode cX3_cellOf 7 = .ok (.iadd, 1) := by decide +kernel
theorem dX3_cellOf_8 : decode cX3_cellOf 8 = .ok (.ireturn, 1) := by decide +kernel
theorem dX3_firstOf_0 : decode cX3_firstOf 0 = .ok (.iload_n 0, 1) := by decide +kernel
theorem dX3_firstOf_1 : decode cX3_firstOf 1 = .ok (.iconst 1, 1) := by decide +kernel
theorem dX3_firstOf_2 : decode cX3_firstOf 2 = .ok (.isub, 1) := by decide +kernel
theorem dX3_firstOf_3 : decode cX3_firstOf 3 = .ok (.bipush 32, 2) := by decide +kernel
theorem dX3_firstOf_5 : decode cX3_firstOf 5 = .ok (.irem, 1) := by decide +kernel
theorem dX3_firstOf_6 : decode cX3_firstOf 6 = .ok (.ireturn, 1) := by decide +kernel
theorem dX3_orderOf_0 : decode cX3_orderOf 0 = .ok (.iload_n 0, 1) := by decide +kernel
theorem dX3_orderOf_1 : decode cX3_orderOf 1 = .ok (.iconst 1, 1) := by decide +kernel
theorem dX3_orderOf_2 : decode cX3_orderOf 2 = .ok (.isub, 1) := by decide +kernel
theorem dX3_orderOf_3 : decode cX3_orderOf 3 = .ok (.bipush 32, 2) := by decide +kernel
theorem dX3_orderOf_5 : decode cX3_orderOf 5 = .ok (.idiv, 1) := by decide +kernel
theorem dX3_orderOf_6 : decode cX3_orderOf 6 = .ok (.ireturn, 1) := by decide +kernel
set_option maxRecDepth 20000 in
theorem ggX3_blocksOf_X3_orderOf : GoodIn wsX3_blocksOf wsX3_orderOf := goodIn_r _ [4] (by decide +kernel) (by decide +kernel)
set_option maxRecDepth 20000 in
theorem gX3_blocksOf_X3_orderOf : GoodIn wsX3_blocksOf (va_wsS RX3 9 yX3_orderOf wsX3_orderOf) := goodIn_app (goodIn_of _ (by decide +kernel)) ggX3_blocksOf_X3_orderOf
theorem dX3_blocksOf_0 : decode cX3_blocksOf 0 = .ok (.iload_n 0, 1) := by decide +kernel
theorem dX3_blocksOf_1 : decode cX3_blocksOf 1 = .ok (.ifCond .ne 7, 3) := by decide +kernel
theorem dX3_blocksOf_4 : decode cX3_blocksOf 4 = .ok (.iconst 0, 1) := by decide +kernel
theorem dX3_blocksOf_5 : decode cX3_blocksOf 5 = .ok (.goto 9, 3) := by decide +kernel
theorem dX3_blocksOf_8 : decode cX3_blocksOf 8 = .ok (.iconst 1, 1) := by decide +kernel
theorem dX3_blocksOf_9 : decode cX3_blocksOf 9 = .ok (.iload_n 0, 1) := by decide +kernel
theorem dX3_blocksOf_10 : decode cX3_blocksOf 10 = .ok (.invokestatic 9, 3) := by decide +kernel
theorem dX3_blocksOf_13 : decode cX3_blocksOf 13 = .ok (.ishl, 1) := by decide +kernel
theorem dX3_blocksOf_14 : decode cX3_blocksOf 14 = .ok (.ireturn, 1) := by decide +kernel
set_option maxRecDepth 20000 in
theorem ggX3_isRun_X3_cellOf : GoodIn wsX3_isRun wsX3_cellOf := goodIn_r _ [4] (by decide +kernel) (by decide +kernel)
set_option maxRecDepth 20000 in
theorem gX3_isRun_X3_cellOf : GoodIn wsX3_isRun (va_wsS RX3 15 yX3_cellOf wsX3_cellOf) := goodIn_app (goodIn_of _ (by decide +kernel)) ggX3_isRun_X3_cellOf
set_option maxRecDepth 20000 in
theorem ggX3_isRun_X3_firstOf : GoodIn wsX3_isRun wsX3_firstOf := goodIn_r _ [7] (by decide +kernel) (by decide +kernel)
set_option maxRecDepth 20000 in
theorem gX3_isRun_X3_firstOf : GoodIn wsX3_isRun (va_wsS RX3 19 yX3_firstOf wsX3_firstOf) := goodIn_app (goodIn_of _ (by decide +kernel)) ggX3_isRun_X3_firstOf
set_option maxRecDepth 20000 in
theorem ggX3_isRun_X3_blocksOf : GoodIn wsX3_isRun wsX3_blocksOf := goodIn_r _ [10, 11, 12, 3, 13] (by decide +kernel) (by decide +kernel)
set_option maxRecDepth 20000 in
theorem gX3_isRun_X3_blocksOf : GoodIn wsX3_isRun (va_wsS RX3 22 yX3_blocksOf wsX3_blocksOf) := goodIn_app (goodIn_of _ (by decide +kernel)) ggX3_isRun_X3_blocksOf
theorem dX3_isRun_0 : decode cX3_isRun 0 = .ok (.iload_n 0, 1) := by decide +kernel
theorem dX3_isRun_1 : decode cX3_isRun 1 = .ok (.iconst 1, 1) := by decide +kernel
theorem dX3_isRun_2 : decode cX3_isRun 2 = .ok (.if_icmp .lt 12, 3) := by decide +kernel
theorem dX3_isRun_5 : decode cX3_isRun 5 = .ok (.iload_n 0, 1) := by decide +kernel
theorem dX3_isRun_6 : decode cX3_isRun 6 = .ok (.iconst 0, 1) := by decide +kernel
theorem dX3_isRun_7 : decode cX3_isRun 7 = .ok (.iconst 5, 1) := by decide +kernel
theorem dX3_isRun_8 : decode cX3_isRun 8 = .ok (.invokestatic 15, 3) := by decide +kernel
theorem dX3_isRun_11 : decode cX3_isRun 11 = .ok (.if_icmp .le 5, 3) := by decide +kernel
theorem dX3_isRun_14 : decode cX3_isRun 14 = .ok (.iconst 0, 1) := by decide +kernel
theorem dX3_isRun_15 : decode cX3_isRun 15 = .ok (.ireturn, 1) := by decide +kernel
theorem dX3_isRun_16 : decode cX3_isRun 16 = .ok (.iload_n 0, 1) := by decide +kernel
theorem dX3_isRun_17 : decode cX3_isRun 17 = .ok (.invokestatic 19, 3) := by decide +kernel
theorem dX3_isRun_20 : decode cX3_isRun 20 = .ok (.iload_n 0, 1) := by decide +kernel
theorem dX3_isRun_21 : decode cX3_isRun 21 = .ok (.invokestatic 22, 3) := by decide +kernel
theorem dX3_isRun_24 : decode cX3_isRun 24 = .ok (.irem, 1) := by decide +kernel
theorem dX3_isRun_25 : decode cX3_isRun 25 = .ok (.ifCond .ne 7, 3) := by decide +kernel
theorem dX3_isRun_28 : decode cX3_isRun 28 = .ok (.iconst 1, 1) := by decide +kernel
theorem dX3_isRun_29 : decode cX3_isRun 29 = .ok (.goto 4, 3) := by decide +kernel
theorem dX3_isRun_32 : decode cX3_isRun 32 = .ok (.iconst 0, 1) := by decide +kernel
theorem dX3_isRun_33 : decode cX3_isRun 33 = .ok (.ireturn, 1) := by decide +kernel
set_option maxRecDepth 20000 in
theorem ggX3_bitsOf_X3_firstOf : GoodIn wsX3_bitsOf wsX3_firstOf := goodIn_r _ [4] (by decide +kernel) (by decide +kernel)
set_option maxRecDepth 20000 in
theorem gX3_bitsOf_X3_firstOf : GoodIn wsX3_bitsOf (va_wsS RX3 19 yX3_firstOf wsX3_firstOf) := goodIn_app (goodIn_of _ (by decide +kernel)) ggX3_bitsOf_X3_firstOf
set_option maxRecDepth 20000 in
theorem ggX3_bitsOf_X3_orderOf : GoodIn wsX3_bitsOf wsX3_orderOf := goodIn_r _ [7] (by decide +kernel) (by decide +kernel)
set_option maxRecDepth 20000 in
theorem gX3_bitsOf_X3_orderOf : GoodIn wsX3_bitsOf (va_wsS RX3 9 yX3_orderOf wsX3_orderOf) := goodIn_app (goodIn_of _ (by decide +kernel)) ggX3_bitsOf_X3_orderOf
set_option maxRecDepth 20000 in
theorem ggX3_bitsOf_X3_mapBits : GoodIn wsX3_bitsOf wsX3_mapBits := goodIn_r _ [10] (by decide +kernel) (by decide +kernel)
set_option maxRecDepth 20000 in
theorem gX3_bitsOf_X3_mapBits : GoodIn wsX3_bitsOf (va_wsS RX3 25 yX3_mapBits wsX3_mapBits) := goodIn_app (goodIn_of _ (by decide +kernel)) ggX3_bitsOf_X3_mapBits
theorem dX3_bitsOf_0 : decode cX3_bitsOf 0 = .ok (.iload_n 0, 1) := by decide +kernel
theorem dX3_bitsOf_1 : decode cX3_bitsOf 1 = .ok (.ifCond .ne 7, 3) := by decide +kernel
theorem dX3_bitsOf_4 : decode cX3_bitsOf 4 = .ok (.iconst 0, 1) := by decide +kernel
theorem dX3_bitsOf_5 : decode cX3_bitsOf 5 = .ok (.goto 14, 3) := by decide +kernel
theorem dX3_bitsOf_8 : decode cX3_bitsOf 8 = .ok (.iload_n 0, 1) := by decide +kernel
theorem dX3_bitsOf_9 : decode cX3_bitsOf 9 = .ok (.invokestatic 19, 3) := by decide +kernel
theorem dX3_bitsOf_12 : decode cX3_bitsOf 12 = .ok (.iload_n 0, 1) := by decide +kernel
theorem dX3_bitsOf_13 : decode cX3_bitsOf 13 = .ok (.invokestatic 9, 3) := by decide +kernel
theorem dX3_bitsOf_16 : decode cX3_bitsOf 16 = .ok (.invokestatic 25, 3) := by decide +kernel
theorem dX3_bitsOf_19 : decode cX3_bitsOf 19 = .ok (.ireturn, 1) := by decide +kernel
theorem dX3_mapBits_0 : decode cX3_mapBits 0 = .ok (.iconst (-1), 1) := by decide +kernel
theorem dX3_mapBits_1 : decode cX3_mapBits 1 = .ok (.bipush 32, 2) := by decide +kernel
theorem dX3_mapBits_3 : decode cX3_mapBits 3 = .ok (.iconst 1, 1) := by decide +kernel
theorem dX3_mapBits_4 : decode cX3_mapBits 4 = .ok (.iload_n 1, 1) := by decide +kernel
theorem dX3_mapBits_5 : decode cX3_mapBits 5 = .ok (.ishl, 1) := by decide +kernel
theorem dX3_mapBits_6 : decode cX3_mapBits 6 = .ok (.isub, 1) := by decide +kernel
theorem dX3_mapBits_7 : decode cX3_mapBits 7 = .ok (.iushr, 1) := by decide +kernel
theorem dX3_mapBits_8 : decode cX3_mapBits 8 = .ok (.iload_n 0, 1) := by decide +kernel
theorem dX3_mapBits_9 : decode cX3_mapBits 9 = .ok (.ishl, 1) := by decide +kernel
theorem dX3_mapBits_10 : decode cX3_mapBits 10 = .ok (.ireturn, 1) := by decide +kernel
end
section
set_option maxRecDepth 20000 in
theorem ggX4_init_X1_init : GoodIn wsX4_init wsX1_init := goodIn_r _ [16, 17, 2, 3, 13, 18, 47] (by decide +kernel) (by decide +kernel)
set_option maxRecDepth 20000 in
theorem gX4_init_X1_init_n9 : GoodIn wsX4_init (wsX1_init) := ggX4_init_X1_init
set_option maxRecDepth 20000 in
theorem ggX4_init_X2_init : GoodIn wsX4_init wsX2_init := goodIn_r _ [20, 21, 2, 3, 13, 22, 54] (by decide +kernel) (by decide +kernel)
set_option maxRecDepth 20000 in
theorem gX4_init_X2_init_n18 : GoodIn wsX4_init (wsX2_init) := ggX4_init_X2_init
set_option maxRecDepth 20000 in
theorem ggX4_init_X4_startAfresh : GoodIn wsX4_init wsX4_startAfresh := goodIn_r _ [27, 7, 11, 28, 29, 30, 31, 6, 32, 18, 33, 34, 35, 10, 36, 22, 37, 38, 39, 40, 41, 42, 43, 26, 44, 14, 45, 46, 48, 49, 50, 51, 52, 53, 47, 54] (by decide +kernel) (by decide +kernel)
set_option maxRecDepth 20000 in
theorem gX4_init_X4_startAfresh : GoodIn wsX4_init (wsV RX4 30 RX4 yX4_startAfresh wsX4_startAfresh) := goodIn_app (goodIn_of _ (by decide +kernel)) ggX4_init_X4_startAfresh
theorem dX4_init_0 : decode cX4_init 0 = .ok (.aload_n 0, 1) := by decide +kernel
theorem dX4_init_1 : decode cX4_init 1 = .ok (.invokespecial 1, 3) := by decide +kernel
theorem dX4_init_4 : decode cX4_init 4 = .ok (.aload_n 0, 1) := by decide +kernel
theorem dX4_init_5 : decode cX4_init 5 = .ok (.new 7, 3) := by decide +kernel
theorem dX4_init_8 : decode cX4_init 8 = .ok (.dup, 1) := by decide +kernel
theorem dX4_init_9 : decode cX4_init 9 = .ok (.invokespecial 9, 3) := by decide +kernel
theorem dX4_init_12 : decode cX4_init 12 = .ok (.putfield 10, 3) := by decide +kernel
theorem dX4_init_15 : decode cX4_init 15 = .ok (.aload_n 0, 1) := by decide +kernel
theorem dX4_init_16 : decode cX4_init 16 = .ok (.new 16, 3) := by decide +kernel
theorem dX4_init_19 : decode cX4_init 19 = .ok (.dup, 1) := by decide +kernel
theorem dX4_init_20 : decode cX4_init 20 = .ok (.invokespecial 18, 3) := by decide +kernel
theorem dX4_init_23 : decode cX4_init 23 = .ok (.putfield 19, 3) := by decide +kernel
theorem dX4_init_26 : decode cX4_init 26 = .ok (.aload_n 0, 1) := by decide +kernel
theorem dX4_init_27 : decode cX4_init 27 = .ok (.new 16, 3) := by decide +kernel
theorem dX4_init_30 : decode cX4_init 30 = .ok (.dup, 1) := by decide +kernel
theorem dX4_init_31 : decode cX4_init 31 = .ok (.invokespecial 18, 3) := by decide +kernel
theorem dX4_init_34 : decode cX4_init 34 = .ok (.putfield 23, 3) := by decide +kernel
theorem dX4_init_37 : decode cX4_init 37 = .ok (.aload_n 0, 1) := by decide +kernel
theorem dX4_init_38 : decode cX4_init 38 = .ok (.iconst 4, 1) := by decide +kernel
theorem dX4_init_39 : decode cX4_init 39 = .ok (.newarray .int, 2) := by decide +kernel
theorem dX4_init_41 : decode cX4_init 41 = .ok (.putfield 26, 3) := by decide +kernel
theorem dX4_init_44 : decode cX4_init 44 = .ok (.aload_n 0, 1) := by decide +kernel
theorem dX4_init_45 : decode cX4_init 45 = .ok (.invokevirtual 30, 3) := by decide +kernel
theorem dX4_init_48 : decode cX4_init 48 = .ok (.return_, 1) := by decide +kernel
set_option maxRecDepth 20000 in
theorem ggX4_format_X4_startAfresh : GoodIn wsX4_format wsX4_startAfresh := goodIn_r _ [5, 6, 7, 8, 9, 10, 11, 12, 13, 14, 15, 16, 17, 18, 19, 20, 21, 22, 23, 24, 25, 26, 27, 4, 28, 29, 30, 31, 32, 33, 34, 35, 36, 37, 38, 39] (by decide +kernel) (by decide +kernel)
set_option maxRecDepth 20000 in
theorem gX4_format_X4_startAfresh : GoodIn wsX4_format (wsV RX4 30 RX4 yX4_startAfresh wsX4_startAfresh) := goodIn_app (goodIn_of _ (by decide +kernel)) ggX4_format_X4_startAfresh
theorem dX4_format_0 : decode cX4_format 0 = .ok (.aload_n 0, 1) := by decide +kernel
theorem dX4_format_1 : decode cX4_format 1 = .ok (.invokevirtual 30, 3) := by decide +kernel
theorem dX4_format_4 : decode cX4_format 4 = .ok (.return_, 1) := by decide +kernel
set_option maxRecDepth 20000 in
theorem ggX4_create_X4_isName : GoodIn wsX4_create wsX4_isName := goodIn_r _ [6] (by decide +kernel) (by decide +kernel)
set_option maxRecDepth 20000 in
theorem gX4_create_X4_isName : GoodIn wsX4_create (va_wsS RX4 37 yX4_isName wsX4_isName) := goodIn_app (goodIn_of _ (by decide +kernel)) ggX4_create_X4_isName
set_option maxRecDepth 20000 in
theorem ggX4_create_X4_isOwner : GoodIn wsX4_create wsX4_isOwner := goodIn_r _ [9] (by decide +kernel) (by decide +kernel)
set_option maxRecDepth 20000 in
theorem gX4_create_X4_isOwner : GoodIn wsX4_create (va_wsS RX4 41 yX4_isOwner wsX4_isOwner) := goodIn_app (goodIn_of _ (by decide +kernel)) ggX4_create_X4_isOwner
set_option maxRecDepth 20000 in
theorem ggX4_create_X2_slotOf : GoodIn wsX4_create wsX2_slotOf := goodIn_r _ [14, 15, 16, 17, 13, 18, 19, 34] (by decide +kernel) (by decide +kernel)
set_option maxRecDepth 20000 in
theorem gX4_create_X2_slotOf : GoodIn wsX4_create (wsV RX4 44 RX2 yX2_slotOf wsX2_slotOf) := goodIn_app (goodIn_of _ (by decide +kernel)) ggX4_create_X2_slotOf
set_option maxRecDepth 20000 in
theorem ggX4_create_X2_emptySlot : GoodIn wsX4_create wsX2_emptySlot := goodIn_r _ [23, 15, 16, 17, 13, 18, 19, 34] (by decide +kernel) (by decide +kernel)
set_option maxRecDepth 20000 in
theorem gX4_create_X2_emptySlot : GoodIn wsX4_create (wsV RX4 48 RX2 yX2_emptySlot wsX2_emptySlot) := goodIn_app (goodIn_of _ (by decide +kernel)) ggX4_create_X2_emptySlot
set_option maxRecDepth 20000 in
theorem ggX4_create_X2_makeFile : GoodIn wsX4_create wsX2_makeFile := goodIn_r _ [27, 19, 34] (by decide +kernel) (by decide +kernel)
set_option maxRecDepth 20000 in
theorem gX4_create_X2_makeFile : GoodIn wsX4_create (wsV RX4 52 RX2 yX2_makeFile wsX2_makeFile) := goodIn_app (goodIn_of _ (by decide +kernel)) ggX4_create_X2_makeFile
theorem dX4_create_0 : decode cX4_create 0 = .ok (.aload_n 0, 1) := by decide +kernel
theorem dX4_create_1 : decode cX4_create 1 = .ok (.getfield 33, 3) := by decide +kernel
theorem dX4_create_4 : decode cX4_create 4 = .ok (.ifCond .ne 6, 3) := by decide +kernel
theorem dX4_create_7 : decode cX4_create 7 = .ok (.bipush (-11), 2) := by decide +kernel
theorem dX4_create_9 : decode cX4_create 9 = .ok (.ireturn, 1) := by decide +kernel
theorem dX4_create_10 : decode cX4_create 10 = .ok (.iload_n 1, 1) := by decide +kernel
theorem dX4_create_11 : decode cX4_create 11 = .ok (.invokestatic 37, 3) := by decide +kernel
theorem dX4_create_14 : decode cX4_create 14 = .ok (.ifCond .eq 10, 3) := by decide +kernel
theorem dX4_create_17 : decode cX4_create 17 = .ok (.iload_n 2, 1) := by decide +kernel
theorem dX4_create_18 : decode cX4_create 18 = .ok (.invokestatic 41, 3) := by decide +kernel
theorem dX4_create_21 : decode cX4_create 21 = .ok (.ifCond .ne 6, 3) := by decide +kernel
theorem dX4_create_24 : decode cX4_create 24 = .ok (.bipush (-12), 2) := by decide +kernel
theorem dX4_create_26 : decode cX4_create 26 = .ok (.ireturn, 1) := by decide +kernel
theorem dX4_create_27 : decode cX4_create 27 = .ok (.aload_n 0, 1) := by decide +kernel
theorem dX4_create_28 : decode cX4_create 28 = .ok (.getfield 19, 3) := by decide +kernel
theorem dX4_create_31 : decode cX4_create 31 = .ok (.iload_n 1, 1) := by decide +kernel
theorem dX4_create_32 : decode cX4_create 32 = .ok (.invokevirtual 44, 3) := by decide +kernel
theorem dX4_create_35 : decode cX4_create 35 = .ok (.iconst (-1), 1) := by decide +kernel
theorem dX4_create_36 : decode cX4_create 36 = .ok (.if_icmp .eq 5, 3) := by decide +kernel
theorem dX4_create_39 : decode cX4_create 39 = .ok (.iconst (-1), 1) := by decide +kernel
theorem dX4_create_40 : decode cX4_create 40 = .ok (.ireturn, 1) := by decide +kernel
theorem dX4_create_41 : decode cX4_create 41 = .ok (.aload_n 0, 1) := by decide +kernel
theorem dX4_create_42 : decode cX4_create 42 = .ok (.getfield 19, 3) := by decide +kernel
theorem dX4_create_45 : decode cX4_create 45 = .ok (.invokevirtual 48, 3) := by decide +kernel
theorem dX4_create_48 : decode cX4_create 48 = .ok (.istore_n 3, 1) := by decide +kernel
theorem dX4_create_49 : decode cX4_create 49 = .ok (.iload_n 3, 1) := by decide +kernel
theorem dX4_create_50 : decode cX4_create 50 = .ok (.iconst (-1), 1) := by decide +kernel
theorem dX4_create_51 : decode cX4_create 51 = .ok (.if_icmp .ne 6, 3) := by decide +kernel
theorem dX4_create_54 : decode cX4_create 54 = .ok (.bipush (-2), 2) := by decide +kernel
theorem dX4_create_56 : decode cX4_create 56 = .ok (.ireturn, 1) := by decide +kernel
theorem dX4_create_57 : decode cX4_create 57 = .ok (.aload_n 0, 1) := by decide +kernel
theorem dX4_create_58 : decode cX4_create 58 = .ok (.getfield 19, 3) := by decide +kernel
theorem dX4_create_61 : decode cX4_create 61 = .ok (.iload_n 3, 1) := by decide +kernel
theorem dX4_create_62 : decode cX4_create 62 = .ok (.iload_n 1, 1) := by decide +kernel
theorem dX4_create_63 : decode cX4_create 63 = .ok (.iload_n 2, 1) := by decide +kernel
theorem dX4_create_64 : decode cX4_create 64 = .ok (.invokevirtual 52, 3) := by decide +kernel
theorem dX4_create_67 : decode cX4_create 67 = .ok (.iload_n 3, 1) := by decide +kernel
theorem dX4_create_68 : decode cX4_create 68 = .ok (.ireturn, 1) := by decide +kernel
set_option maxRecDepth 20000 in
theorem ggX4_unlink_X2_slotOf : GoodIn wsX4_unlink wsX2_slotOf := goodIn_r _ [7, 8, 9, 10, 6, 11, 12, 93] (by decide +kernel) (by decide +kernel)
set_option maxRecDepth 20000 in
theorem gX4_unlink_X2_slotOf : GoodIn wsX4_unlink (wsV RX4 44 RX2 yX2_slotOf wsX2_slotOf) := goodIn_app (goodIn_of _ (by decide +kernel)) ggX4_unlink_X2_slotOf
set_option maxRecDepth 20000 in
theorem ggX4_unlink_X4_isInUse : GoodIn wsX4_unlink wsX4_isInUse := goodIn_r _ [17, 18, 87, 88, 89, 90, 91, 92] (by decide +kernel) (by decide +kernel)
set_option maxRecDepth 20000 in
theorem gX4_unlink_X4_isInUse : GoodIn wsX4_unlink (wsV RX4 56 RX4 yX4_isInUse wsX4_isInUse) := goodIn_app (goodIn_of _ (by decide +kernel)) ggX4_unlink_X4_isInUse
set_option maxRecDepth 20000 in
theorem ggX4_unlink_X2_dropFile : GoodIn wsX4_unlink wsX2_dropFile := goodIn_r _ [22, 23, 24, 25, 6, 26, 27, 28, 29, 30, 12, 31, 32, 33, 34, 35, 36, 37, 38, 39, 40, 41, 42, 43, 44, 45, 46, 47, 48, 49, 50, 51, 52, 53, 54, 55, 56, 57, 58, 59, 60, 61, 62, 63, 64, 65, 66, 67, 68, 69, 70, 71, 72, 73, 74, 75, 76, 77, 78, 79, 80, 81, 82, 83, 84, 85, 86, 93] (by decide +kernel) (by decide +kernel)
set_option maxRecDepth 20000 in
theorem gX4_unlink_X2_dropFile : GoodIn wsX4_unlink (wsV RX4 59 RX2 yX2_dropFile wsX2_dropFile) := goodIn_app (goodIn_of _ (by decide +kernel)) ggX4_unlink_X2_dropFile
theorem dX4_unlink_0 : decode cX4_unlink 0 = .ok (.aload_n 0, 1) := by decide +kernel
theorem dX4_unlink_1 : decode cX4_unlink 1 = .ok (.getfield 33, 3) := by decide +kernel
theorem dX4_unlink_4 : decode cX4_unlink 4 = .ok (.ifCond .ne 6, 3) := by decide +kernel
theorem dX4_unlink_7 : decode cX4_unlink 7 = .ok (.bipush (-11), 2) := by decide +kernel
theorem dX4_unlink_9 : decode cX4_unlink 9 = .ok (.ireturn, 1) := by decide +kernel
theorem dX4_unlink_10 : decode cX4_unlink 10 = .ok (.aload_n 0, 1) := by decide +kernel
theorem dX4_unlink_11 : decode cX4_unlink 11 = .ok (.getfield 19, 3) := by decide +kernel
theorem dX4_unlink_14 : decode cX4_unlink 14 = .ok (.iload_n 1, 1) := by decide +kernel
theorem dX4_unlink_15 : decode cX4_unlink 15 = .ok (.invokevirtual 44, 3) := by decide +kernel
theorem dX4_unlink_18 : decode cX4_unlink 18 = .ok (.istore_n 2, 1) := by decide +kernel
theorem dX4_unlink_19 : decode cX4_unlink 19 = .ok (.iload_n 2, 1) := by decide +kernel
theorem dX4_unlink_20 : decode cX4_unlink 20 = .ok (.iconst (-1), 1) := by decide +kernel
theorem dX4_unlink_21 : decode cX4_unlink 21 = .ok (.if_icmp .ne 6, 3) := by decide +kernel
theorem dX4_unlink_24 : decode cX4_unlink 24 = .ok (.bipush (-3), 2) := by decide +kernel
theorem dX4_unlink_26 : decode cX4_unlink 26 = .ok (.ireturn, 1) := by decide +kernel
theorem dX4_unlink_27 : decode cX4_unlink 27 = .ok (.aload_n 0, 1) := by decide +kernel
theorem dX4_unlink_28 : decode cX4_unlink 28 = .ok (.iload_n 2, 1) := by decide +kernel
theorem dX4_unlink_29 : decode cX4_unlink 29 = .ok (.invokevirtual 56, 3) := by decide +kernel
theorem dX4_unlink_32 : decode cX4_unlink 32 = .ok (.ifCond .eq 6, 3) := by decide +kernel
theorem dX4_unlink_35 : decode cX4_unlink 35 = .ok (.bipush (-4), 2) := by decide +kernel
theorem dX4_unlink_37 : decode cX4_unlink 37 = .ok (.ireturn, 1) := by decide +kernel
theorem dX4_unlink_38 : decode cX4_unlink 38 = .ok (.aload_n 0, 1) := by decide +kernel
theorem dX4_unlink_39 : decode cX4_unlink 39 = .ok (.getfield 19, 3) := by decide +kernel
theorem dX4_unlink_42 : decode cX4_unlink 42 = .ok (.iload_n 2, 1) := by decide +kernel
theorem dX4_unlink_43 : decode cX4_unlink 43 = .ok (.invokevirtual 59, 3) := by decide +kernel
theorem dX4_unlink_46 : decode cX4_unlink 46 = .ok (.iconst 0, 1) := by decide +kernel
theorem dX4_unlink_47 : decode cX4_unlink 47 = .ok (.ireturn, 1) := by decide +kernel
set_option maxRecDepth 20000 in
theorem ggX4_open_X2_slotOf : GoodIn wsX4_open wsX2_slotOf := goodIn_r _ [8, 9, 10, 11, 7, 12, 13, 25] (by decide +kernel) (by decide +kernel)
set_option maxRecDepth 20000 in
theorem gX4_open_X2_slotOf : GoodIn wsX4_open (wsV RX4 44 RX2 yX2_slotOf wsX2_slotOf) := goodIn_app (goodIn_of _ (by decide +kernel)) ggX4_open_X2_slotOf
set_option maxRecDepth 20000 in
theorem ggX4_open_X4_closedHandle : GoodIn wsX4_open wsX4_closedHandle := goodIn_r _ [18, 3, 19, 20, 21, 22, 23, 24] (by decide +kernel) (by decide +kernel)
set_option maxRecDepth 20000 in
theorem gX4_open_X4_closedHandle : GoodIn wsX4_open (wsV RX4 63 RX4 yX4_closedHandle wsX4_closedHandle) := goodIn_app (goodIn_of _ (by decide +kernel)) ggX4_open_X4_closedHandle
theorem dX4_open_0 : decode cX4_open 0 = .ok (.aload_n 0, 1) := by decide +kernel
theorem dX4_open_1 : decode cX4_open 1 = .ok (.getfield 33, 3) := by decide +kernel
theorem dX4_open_4 : decode cX4_open 4 = .ok (.ifCond .ne 6, 3) := by decide +kernel
theorem dX4_open_7 : decode cX4_open 7 = .ok (.bipush (-11), 2) := by decide +kernel
theorem dX4_open_9 : decode cX4_open 9 = .ok (.ireturn, 1) := by decide +kernel
theorem dX4_open_10 : decode cX4_open 10 = .ok (.aload_n 0, 1) := by decide +kernel
theorem dX4_open_11 : decode cX4_open 11 = .ok (.getfield 19, 3) := by decide +kernel
theorem dX4_open_14 : decode cX4_open 14 = .ok (.iload_n 1, 1) := by decide +kernel
theorem dX4_open_15 : decode cX4_open 15 = .ok (.invokevirtual 44, 3) := by decide +kernel
theorem dX4_open_18 : decode cX4_open 18 = .ok (.istore_n 2, 1) := by decide +kernel
theorem dX4_open_19 : decode cX4_open 19 = .ok (.iload_n 2, 1) := by decide +kernel
theorem dX4_open_20 : decode cX4_open 20 = .ok (.iconst (-1), 1) := by decide +kernel
theorem dX4_open_21 : decode cX4_open 21 = .ok (.if_icmp .ne 6, 3) := by decide +kernel
theorem dX4_open_24 : decode cX4_open 24 = .ok (.bipush (-3), 2) := by decide +kernel
theorem dX4_open_26 : decode cX4_open 26 = .ok (.ireturn, 1) := by decide +kernel
theorem dX4_open_27 : decode cX4_open 27 = .ok (.aload_n 0, 1) := by decide +kernel
theorem dX4_open_28 : decode cX4_open 28 = .ok (.invokevirtual 63, 3) := by decide +kernel
theorem dX4_open_31 : decode cX4_open 31 = .ok (.istore_n 3, 1) := by decide +kernel
theorem dX4_open_32 : decode cX4_open 32 = .ok (.iload_n 3, 1) := by decide +kernel
theorem dX4_open_33 : decode cX4_open 33 = .ok (.iconst (-1), 1) := by decide +kernel
theorem dX4_open_34 : decode cX4_open 34 = .ok (.if_icmp .ne 6, 3) := by decide +kernel
theorem dX4_open_37 : decode cX4_open 37 = .ok (.bipush (-5), 2) := by decide +kernel
theorem dX4_open_39 : decode cX4_open 39 = .ok (.ireturn, 1) := by decide +kernel
theorem dX4_open_40 : decode cX4_open 40 = .ok (.aload_n 0, 1) := by decide +kernel
theorem dX4_open_41 : decode cX4_open 41 = .ok (.getfield 26, 3) := by decide +kernel
theorem dX4_open_44 : decode cX4_open 44 = .ok (.iload_n 3, 1) := by decide +kernel
theorem dX4_open_45 : decode cX4_open 45 = .ok (.iload_n 2, 1) := by decide +kernel
theorem dX4_open_46 : decode cX4_open 46 = .ok (.iastore, 1) := by decide +kernel
theorem dX4_open_47 : decode cX4_open 47 = .ok (.iload_n 3, 1) := by decide +kernel
theorem dX4_open_48 : decode cX4_open 48 = .ok (.ireturn, 1) := by decide +kernel
set_option maxRecDepth 20000 in
theorem ggX4_close_X4_isOpen : GoodIn wsX4_close wsX4_isOpen := goodIn_r _ [7, 2, 8, 9, 10, 11, 12, 13] (by decide +kernel) (by decide +kernel)
set_option maxRecDepth 20000 in
theorem gX4_close_X4_isOpen : GoodIn wsX4_close (wsV RX4 66 RX4 yX4_isOpen wsX4_isOpen) := goodIn_app (goodIn_of _ (by decide +kernel)) ggX4_close_X4_isOpen
theorem dX4_close_0 : decode cX4_close 0 = .ok (.aload_n 0, 1) := by decide +kernel
theorem dX4_close_1 : decode cX4_close 1 = .ok (.getfield 33, 3) := by decide +kernel
theorem dX4_close_4 : decode cX4_close 4 = .ok (.ifCond .ne 6, 3) := by decide +kernel
theorem dX4_close_7 : decode cX4_close 7 = .ok (.bipush (-11), 2) := by decide +kernel
theorem dX4_close_9 : decode cX4_close 9 = .ok (.ireturn, 1) := by decide +kernel
theorem dX4_close_10 : decode cX4_close 10 = .ok (.aload_n 0, 1) := by decide +kernel
theorem dX4_close_11 : decode cX4_close 11 = .ok (.iload_n 1, 1) := by decide +kernel
theorem dX4_close_12 : decode cX4_close 12 = .ok (.invokevirtual 66, 3) := by decide +kernel
theorem dX4_close_15 : decode cX4_close 15 = .ok (.ifCond .ne 6, 3) := by decide +kernel
theorem dX4_close_18 : decode cX4_close 18 = .ok (.bipush (-6), 2) := by decide +kernel
theorem dX4_close_20 : decode cX4_close 20 = .ok (.ireturn, 1) := by decide +kernel
theorem dX4_close_21 : decode cX4_close 21 = .ok (.aload_n 0, 1) := by decide +kernel
theorem dX4_close_22 : decode cX4_close 22 = .ok (.getfield 26, 3) := by decide +kernel
theorem dX4_close_25 : decode cX4_close 25 = .ok (.iload_n 1, 1) := by decide +kernel
theorem dX4_close_26 : decode cX4_close 26 = .ok (.iconst (-1), 1) := by decide +kernel
theorem dX4_close_27 : decode cX4_close 27 = .ok (.iastore, 1) := by decide +kernel
theorem dX4_close_28 : decode cX4_close 28 = .ok (.iconst 0, 1) := by decide +kernel
theorem dX4_close_29 : decode cX4_close 29 = .ok (.ireturn, 1) := by decide +kernel
set_option maxRecDepth 20000 in
theorem ggX4_write_X4_isOpen : GoodIn wsX4_write wsX4_isOpen := goodIn_r _ [8, 2, 97, 98, 99, 100, 101, 102] (by decide +kernel) (by decide +kernel)
set_option maxRecDepth 20000 in
theorem gX4_write_X4_isOpen : GoodIn wsX4_write (wsV RX4 66 RX4 yX4_isOpen wsX4_isOpen) := goodIn_app (goodIn_of _ (by decide +kernel)) ggX4_write_X4_isOpen
set_option maxRecDepth 20000 in
theorem ggX4_write_X2_lengthOf : GoodIn wsX4_write wsX2_lengthOf := goodIn_r _ [13, 14, 103] (by decide +kernel) (by decide +kernel)
set_option maxRecDepth 20000 in
theorem gX4_write_X2_lengthOf : GoodIn wsX4_write (wsV RX4 69 RX2 yX2_lengthOf wsX2_lengthOf) := goodIn_app (goodIn_of _ (by decide +kernel)) ggX4_write_X2_lengthOf
set_option maxRecDepth 20000 in
theorem ggX4_write_X2_grow : GoodIn wsX4_write wsX2_grow := goodIn_r _ [18, 14, 19, 20, 21, 12, 22, 23, 24, 25, 26, 27, 28, 29, 30, 31, 32, 33, 34, 35, 36, 37, 38, 39, 40, 41, 42, 43, 44, 45, 46, 47, 48, 49, 50, 51, 52, 53, 54, 55, 56, 57, 58, 59, 60, 61, 62, 63, 64, 65, 66, 67, 68, 69, 70, 71, 72, 73, 74, 75, 76, 77, 78, 79, 80, 81, 82, 83, 84, 85, 103] (by decide +kernel) (by decide +kernel)
set_option maxRecDepth 20000 in
theorem gX4_write_X2_grow : GoodIn wsX4_write (wsV RX4 72 RX2 yX2_grow wsX2_grow) := goodIn_app (goodIn_of _ (by decide +kernel)) ggX4_write_X2_grow
set_option maxRecDepth 20000 in
theorem ggX4_write_X2_putWord : GoodIn wsX4_write wsX2_putWord := goodIn_r _ [89, 14, 90, 91, 92, 12, 93, 23, 24, 25, 26, 38, 39, 40, 41, 42, 43, 44, 94, 95, 96, 103] (by decide +kernel) (by decide +kernel)
set_option maxRecDepth 20000 in
theorem gX4_write_X2_putWord : GoodIn wsX4_write (wsV RX4 76 RX2 yX2_putWord wsX2_putWord) := goodIn_app (goodIn_of _ (by decide +kernel)) ggX4_write_X2_putWord
theorem dX4_write_0 : decode cX4_write 0 = .ok (.aload_n 0, 1) := by decide +kernel
theorem dX4_write_1 : decode cX4_write 1 = .ok (.getfield 33, 3) := by decide +kernel
theorem dX4_write_4 : decode cX4_write 4 = .ok (.ifCond .ne 6, 3) := by decide +kernel
theorem dX4_write_7 : decode cX4_write 7 = .ok (.bipush (-11), 2) := by decide +kernel
theorem dX4_write_9 : decode cX4_write 9 = .ok (.ireturn, 1) := by decide +kernel
theorem dX4_write_10 : decode cX4_write 10 = .ok (.aload_n 0, 1) := by decide +kernel
theorem dX4_write_11 : decode cX4_write 11 = .ok (.iload_n 1, 1) := by decide +kernel
theorem dX4_write_12 : decode cX4_write 12 = .ok (.invokevirtual 66, 3) := by decide +kernel
theorem dX4_write_15 : decode cX4_write 15 = .ok (.ifCond .ne 6, 3) := by decide +kernel
theorem dX4_write_18 : decode cX4_write 18 = .ok (.bipush (-6), 2) := by decide +kernel
theorem dX4_write_20 : decode cX4_write 20 = .ok (.ireturn, 1) := by decide +kernel
theorem dX4_write_21 : decode cX4_write 21 = .ok (.iload_n 2, 1) := by decide +kernel
theorem dX4_write_22 : decode cX4_write 22 = .ok (.ifCond .lt 9, 3) := by decide +kernel
theorem dX4_write_25 : decode cX4_write 25 = .ok (.iload_n 2, 1) := by decide +kernel
theorem dX4_write_26 : decode cX4_write 26 = .ok (.bipush 64, 2) := by decide +kernel
theorem dX4_write_28 : decode cX4_write 28 = .ok (.if_icmp .lt 6, 3) := by decide +kernel
theorem dX4_write_31 : decode cX4_write 31 = .ok (.bipush (-7), 2) := by decide +kernel
theorem dX4_write_33 : decode cX4_write 33 = .ok (.ireturn, 1) := by decide +kernel
theorem dX4_write_34 : decode cX4_write 34 = .ok (.aload_n 0, 1) := by decide +kernel
theorem dX4_write_35 : decode cX4_write 35 = .ok (.getfield 26, 3) := by decide +kernel
theorem dX4_write_38 : decode cX4_write 38 = .ok (.iload_n 1, 1) := by decide +kernel
theorem dX4_write_39 : decode cX4_write 39 = .ok (.iaload, 1) := by decide +kernel
theorem dX4_write_40 : decode cX4_write 40 = .ok (.istore 4, 2) := by decide +kernel
theorem dX4_write_42 : decode cX4_write 42 = .ok (.iload_n 2, 1) := by decide +kernel
theorem dX4_write_43 : decode cX4_write 43 = .ok (.aload_n 0, 1) := by decide +kernel
theorem dX4_write_44 : decode cX4_write 44 = .ok (.getfield 19, 3) := by decide +kernel
theorem dX4_write_47 : decode cX4_write 47 = .ok (.iload 4, 2) := by decide +kernel
theorem dX4_write_49 : decode cX4_write 49 = .ok (.invokevirtual 69, 3) := by decide +kernel
theorem dX4_write_52 : decode cX4_write 52 = .ok (.if_icmp .lt 25, 3) := by decide +kernel
theorem dX4_write_55 : decode cX4_write 55 = .ok (.aload_n 0, 1) := by decide +kernel
theorem dX4_write_56 : decode cX4_write 56 = .ok (.getfield 19, 3) := by decide +kernel
theorem dX4_write_59 : decode cX4_write 59 = .ok (.iload 4, 2) := by decide +kernel
theorem dX4_write_61 : decode cX4_write 61 = .ok (.iload_n 2, 1) := by decide +kernel
theorem dX4_write_62 : decode cX4_write 62 = .ok (.iconst 1, 1) := by decide +kernel
theorem dX4_write_63 : decode cX4_write 63 = .ok (.iadd, 1) := by decide +kernel
theorem dX4_write_64 : decode cX4_write 64 = .ok (.invokevirtual 72, 3) := by decide +kernel
theorem dX4_write_67 : decode cX4_write 67 = .ok (.istore 5, 2) := by decide +kernel
theorem dX4_write_69 : decode cX4_write 69 = .ok (.iload 5, 2) := by decide +kernel
theorem dX4_write_71 : decode cX4_write 71 = .ok (.ifCond .eq 6, 3) := by decide +kernel
theorem dX4_write_74 : decode cX4_write 74 = .ok (.iload 5, 2) := by decide +kernel
theorem dX4_write_76 : decode cX4_write 76 = .ok (.ireturn, 1) := by decide +kernel
theorem dX4_write_77 : decode cX4_write 77 = .ok (.aload_n 0, 1) := by decide +kernel
theorem dX4_write_78 : decode cX4_write 78 = .ok (.getfield 19, 3) := by decide +kernel
theorem dX4_write_81 : decode cX4_write 81 = .ok (.iload 4, 2) := by decide +kernel
theorem dX4_write_83 : decode cX4_write 83 = .ok (.iload_n 2, 1) := by decide +kernel
theorem dX4_write_84 : decode cX4_write 84 = .ok (.iload_n 3, 1) := by decide +kernel
theorem dX4_write_85 : decode cX4_write 85 = .ok (.invokevirtual 76, 3) := by decide +kernel
theorem dX4_write_88 : decode cX4_write 88 = .ok (.iconst 0, 1) := by decide +kernel
theorem dX4_write_89 : decode cX4_write 89 = .ok (.ireturn, 1) := by decide +kernel
set_option maxRecDepth 20000 in
theorem ggX4_read_X4_isOpen : GoodIn wsX4_read wsX4_isOpen := goodIn_r _ [8, 2, 37, 38, 39, 40, 41, 42] (by decide +kernel) (by decide +kernel)
set_option maxRecDepth 20000 in
theorem gX4_read_X4_isOpen : GoodIn wsX4_read (wsV RX4 66 RX4 yX4_isOpen wsX4_isOpen) := goodIn_app (goodIn_of _ (by decide +kernel)) ggX4_read_X4_isOpen
set_option maxRecDepth 20000 in
theorem ggX4_read_X2_lengthOf : GoodIn wsX4_read wsX2_lengthOf := goodIn_r _ [13, 14, 43] (by decide +kernel) (by decide +kernel)
set_option maxRecDepth 20000 in
theorem gX4_read_X2_lengthOf : GoodIn wsX4_read (wsV RX4 69 RX2 yX2_lengthOf wsX2_lengthOf) := goodIn_app (goodIn_of _ (by decide +kernel)) ggX4_read_X2_lengthOf
set_option maxRecDepth 20000 in
theorem ggX4_read_X2_wordAt : GoodIn wsX4_read wsX2_wordAt := goodIn_r _ [18, 14, 19, 20, 21, 12, 22, 23, 24, 25, 26, 27, 28, 29, 30, 31, 32, 33, 34, 35, 36, 43] (by decide +kernel) (by decide +kernel)
set_option maxRecDepth 20000 in
theorem gX4_read_X2_wordAt : GoodIn wsX4_read (wsV RX4 79 RX2 yX2_wordAt wsX2_wordAt) := goodIn_app (goodIn_of _ (by decide +kernel)) ggX4_read_X2_wordAt
theorem dX4_read_0 : decode cX4_read 0 = .ok (.aload_n 0, 1) := by decide +kernel
theorem dX4_read_1 : decode cX4_read 1 = .ok (.getfield 33, 3) := by decide +kernel
theorem dX4_read_4 : decode cX4_read 4 = .ok (.ifCond .eq 11, 3) := by decide +kernel
theorem dX4_read_7 : decode cX4_read 7 = .ok (.aload_n 0, 1) := by decide +kernel
theorem dX4_read_8 : decode cX4_read 8 = .ok (.iload_n 1, 1) := by decide +kernel
theorem dX4_read_9 : decode cX4_read 9 = .ok (.invokevirtual 66, 3) := by decide +kernel
theorem dX4_read_12 : decode cX4_read 12 = .ok (.ifCond .ne 5, 3) := by decide +kernel
theorem dX4_read_15 : decode cX4_read 15 = .ok (.iconst 0, 1) := by decide +kernel
theorem dX4_read_16 : decode cX4_read 16 = .ok (.ireturn, 1) := by decide +kernel
theorem dX4_read_17 : decode cX4_read 17 = .ok (.aload_n 0, 1) := by decide +kernel
theorem dX4_read_18 : decode cX4_read 18 = .ok (.getfield 26, 3) := by decide +kernel
theorem dX4_read_21 : decode cX4_read 21 = .ok (.iload_n 1, 1) := by decide +kernel
theorem dX4_read_22 : decode cX4_read 22 = .ok (.iaload, 1) := by decide +kernel
theorem dX4_read_23 : decode cX4_read 23 = .ok (.istore_n 3, 1) := by decide +kernel
theorem dX4_read_24 : decode cX4_read 24 = .ok (.iload_n 2, 1) := by decide +kernel
theorem dX4_read_25 : decode cX4_read 25 = .ok (.ifCond .lt 15, 3) := by decide +kernel
theorem dX4_read_28 : decode cX4_read 28 = .ok (.iload_n 2, 1) := by decide +kernel
theorem dX4_read_29 : decode cX4_read 29 = .ok (.aload_n 0, 1) := by decide +kernel
theorem dX4_read_30 : decode cX4_read 30 = .ok (.getfield 19, 3) := by decide +kernel
theorem dX4_read_33 : decode cX4_read 33 = .ok (.iload_n 3, 1) := by decide +kernel
theorem dX4_read_34 : decode cX4_read 34 = .ok (.invokevirtual 69, 3) := by decide +kernel
theorem dX4_read_37 : decode cX4_read 37 = .ok (.if_icmp .lt 5, 3) := by decide +kernel
theorem dX4_read_40 : decode cX4_read 40 = .ok (.iconst 0, 1) := by decide +kernel
theorem dX4_read_41 : decode cX4_read 41 = .ok (.ireturn, 1) := by decide +kernel
theorem dX4_read_42 : decode cX4_read 42 = .ok (.aload_n 0, 1) := by decide +kernel
theorem dX4_read_43 : decode cX4_read 43 = .ok (.getfield 19, 3) := by decide +kernel
theorem dX4_read_46 : decode cX4_read 46 = .ok (.iload_n 3, 1) := by decide +kernel
theorem dX4_read_47 : decode cX4_read 47 = .ok (.iload_n 2, 1) := by decide +kernel
theorem dX4_read_48 : decode cX4_read 48 = .ok (.invokevirtual 79, 3) := by decide +kernel
theorem dX4_read_51 : decode cX4_read 51 = .ok (.ireturn, 1) := by decide +kernel
set_option maxRecDepth 20000 in
theorem ggX4_truncate_X4_isOpen : GoodIn wsX4_truncate wsX4_isOpen := goodIn_r _ [8, 2, 111, 112, 113, 114, 115, 116] (by decide +kernel) (by decide +kernel)
set_option maxRecDepth 20000 in
theorem gX4_truncate_X4_isOpen : GoodIn wsX4_truncate (wsV RX4 66 RX4 yX4_isOpen wsX4_isOpen) := goodIn_app (goodIn_of _ (by decide +kernel)) ggX4_truncate_X4_isOpen
set_option maxRecDepth 20000 in
theorem ggX4_truncate_X2_lengthOf : GoodIn wsX4_truncate wsX2_lengthOf := goodIn_r _ [13, 14, 117] (by decide +kernel) (by decide +kernel)
set_option maxRecDepth 20000 in
theorem gX4_truncate_X2_lengthOf : GoodIn wsX4_truncate (wsV RX4 69 RX2 yX2_lengthOf wsX2_lengthOf) := goodIn_app (goodIn_of _ (by decide +kernel)) ggX4_truncate_X2_lengthOf
set_option maxRecDepth 20000 in
theorem ggX4_truncate_X2_grow : GoodIn wsX4_truncate wsX2_grow := goodIn_r _ [18, 14, 19, 20, 21, 12, 22, 23, 24, 25, 26, 27, 28, 29, 30, 31, 32, 33, 34, 35, 36, 37, 38, 39, 40, 41, 42, 43, 44, 45, 46, 47, 48, 49, 50, 51, 52, 53, 54, 55, 56, 57, 58, 59, 60, 61, 62, 63, 64, 65, 66, 67, 68, 69, 70, 71, 72, 73, 74, 75, 76, 77, 78, 79, 80, 81, 82, 83, 84, 85, 117] (by decide +kernel) (by decide +kernel)
set_option maxRecDepth 20000 in
theorem gX4_truncate_X2_grow : GoodIn wsX4_truncate (wsV RX4 72 RX2 yX2_grow wsX2_grow) := goodIn_app (goodIn_of _ (by decide +kernel)) ggX4_truncate_X2_grow
set_option maxRecDepth 20000 in
theorem ggX4_truncate_X2_shrink : GoodIn wsX4_truncate wsX2_shrink := goodIn_r _ [89, 90, 10, 11, 12, 13, 14, 91, 92, 93, 94, 95, 96, 97, 98, 23, 24, 25, 26, 38, 39, 40, 41, 42, 43, 44, 99, 100, 101, 82, 83, 84, 85, 27, 28, 29, 102, 103, 104, 105, 34, 35, 36, 37, 19, 20, 21, 22, 106, 107, 108, 109, 110, 61, 62, 66, 67, 68, 69, 117] (by decide +kernel) (by decide +kernel)
set_option maxRecDepth 20000 in
theorem gX4_truncate_X2_shrink : GoodIn wsX4_truncate (wsV RX4 82 RX2 yX2_shrink wsX2_shrink) := goodIn_app (goodIn_of _ (by decide +kernel)) ggX4_truncate_X2_shrink
theorem dX4_truncate_0 : decode cX4_truncate 0 = .ok (.aload_n 0, 1) := by decide +kernel
theorem dX4_truncate_1 : decode cX4_truncate 1 = .ok (.getfield 33, 3) := by decide +kernel
theorem dX4_truncate_4 : decode cX4_truncate 4 = .ok (.ifCond .ne 6, 3) := by decide +kernel
theorem dX4_truncate_7 : decode cX4_truncate 7 = .ok (.bipush (-11), 2) := by decide +kernel
theorem dX4_truncate_9 : decode cX4_truncate 9 = .ok (.ireturn, 1) := by decide +kernel
theorem dX4_truncate_10 : decode cX4_truncate 10 = .ok (.aload_n 0, 1) := by decide +kernel
theorem dX4_truncate_11 : decode cX4_truncate 11 = .ok (.iload_n 1, 1) := by decide +kernel
theorem dX4_truncate_12 : decode cX4_truncate 12 = .ok (.invokevirtual 66, 3) := by decide +kernel
theorem dX4_truncate_15 : decode cX4_truncate 15 = .ok (.ifCond .ne 6, 3) := by decide +kernel
theorem dX4_truncate_18 : decode cX4_truncate 18 = .ok (.bipush (-6), 2) := by decide +kernel
theorem dX4_truncate_20 : decode cX4_truncate 20 = .ok (.ireturn, 1) := by decide +kernel
theorem dX4_truncate_21 : decode cX4_truncate 21 = .ok (.iload_n 2, 1) := by decide +kernel
theorem dX4_truncate_22 : decode cX4_truncate 22 = .ok (.ifCond .lt 9, 3) := by decide +kernel
theorem dX4_truncate_25 : decode cX4_truncate 25 = .ok (.iload_n 2, 1) := by decide +kernel
theorem dX4_truncate_26 : decode cX4_truncate 26 = .ok (.bipush 64, 2) := by decide +kernel
theorem dX4_truncate_28 : decode cX4_truncate 28 = .ok (.if_icmp .le 6, 3) := by decide +kernel
theorem dX4_truncate_31 : decode cX4_truncate 31 = .ok (.bipush (-7), 2) := by decide +kernel
theorem dX4_truncate_33 : decode cX4_truncate 33 = .ok (.ireturn, 1) := by decide +kernel
theorem dX4_truncate_34 : decode cX4_truncate 34 = .ok (.aload_n 0, 1) := by decide +kernel
theorem dX4_truncate_35 : decode cX4_truncate 35 = .ok (.getfield 26, 3) := by decide +kernel
theorem dX4_truncate_38 : decode cX4_truncate 38 = .ok (.iload_n 1, 1) := by decide +kernel
theorem dX4_truncate_39 : decode cX4_truncate 39 = .ok (.iaload, 1) := by decide +kernel
theorem dX4_truncate_40 : decode cX4_truncate 40 = .ok (.istore_n 3, 1) := by decide +kernel
theorem dX4_truncate_41 : decode cX4_truncate 41 = .ok (.iload_n 2, 1) := by decide +kernel
theorem dX4_truncate_42 : decode cX4_truncate 42 = .ok (.aload_n 0, 1) := by decide +kernel
theorem dX4_truncate_43 : decode cX4_truncate 43 = .ok (.getfield 19, 3) := by decide +kernel
theorem dX4_truncate_46 : decode cX4_truncate 46 = .ok (.iload_n 3, 1) := by decide +kernel
theorem dX4_truncate_47 : decode cX4_truncate 47 = .ok (.invokevirtual 69, 3) := by decide +kernel
theorem dX4_truncate_50 : decode cX4_truncate 50 = .ok (.if_icmp .le 13, 3) := by decide +kernel
theorem dX4_truncate_53 : decode cX4_truncate 53 = .ok (.aload_n 0, 1) := by decide +kernel
theorem dX4_truncate_54 : decode cX4_truncate 54 = .ok (.getfield 19, 3) := by decide +kernel
theorem dX4_truncate_57 : decode cX4_truncate 57 = .ok (.iload_n 3, 1) := by decide +kernel
theorem dX4_truncate_58 : decode cX4_truncate 58 = .ok (.iload_n 2, 1) := by decide +kernel
theorem dX4_truncate_59 : decode cX4_truncate 59 = .ok (.invokevirtual 72, 3) := by decide +kernel
theorem dX4_truncate_62 : decode cX4_truncate 62 = .ok (.ireturn, 1) := by decide +kernel
theorem dX4_truncate_63 : decode cX4_truncate 63 = .ok (.aload_n 0, 1) := by decide +kernel
theorem dX4_truncate_64 : decode cX4_truncate 64 = .ok (.getfield 19, 3) := by decide +kernel
theorem dX4_truncate_67 : decode cX4_truncate 67 = .ok (.iload_n 3, 1) := by decide +kernel
theorem dX4_truncate_68 : decode cX4_truncate 68 = .ok (.iload_n 2, 1) := by decide +kernel
theorem dX4_truncate_69 : decode cX4_truncate 69 = .ok (.invokevirtual 82, 3) := by decide +kernel
theorem dX4_truncate_72 : decode cX4_truncate 72 = .ok (.iconst 0, 1) := by decide +kernel
theorem dX4_truncate_73 : decode cX4_truncate 73 = .ok (.ireturn, 1) := by decide +kernel
set_option maxRecDepth 20000 in
theorem ggX4_length_X4_isOpen : GoodIn wsX4_length wsX4_isOpen := goodIn_r _ [8, 3, 15, 16, 17, 18, 19, 20] (by decide +kernel) (by decide +kernel)
set_option maxRecDepth 20000 in
theorem gX4_length_X4_isOpen : GoodIn wsX4_length (wsV RX4 66 RX4 yX4_isOpen wsX4_isOpen) := goodIn_app (goodIn_of _ (by decide +kernel)) ggX4_length_X4_isOpen
set_option maxRecDepth 20000 in
theorem ggX4_length_X2_lengthOf : GoodIn wsX4_length wsX2_lengthOf := goodIn_r _ [13, 14, 21] (by decide +kernel) (by decide +kernel)
set_option maxRecDepth 20000 in
theorem gX4_length_X2_lengthOf : GoodIn wsX4_length (wsV RX4 69 RX2 yX2_lengthOf wsX2_lengthOf) := goodIn_app (goodIn_of _ (by decide +kernel)) ggX4_length_X2_lengthOf
theorem dX4_length_0 : decode cX4_length 0 = .ok (.aload_n 0, 1) := by decide +kernel
theorem dX4_length_1 : decode cX4_length 1 = .ok (.getfield 33, 3) := by decide +kernel
theorem dX4_length_4 : decode cX4_length 4 = .ok (.ifCond .ne 6, 3) := by decide +kernel
theorem dX4_length_7 : decode cX4_length 7 = .ok (.bipush (-11), 2) := by decide +kernel
theorem dX4_length_9 : decode cX4_length 9 = .ok (.ireturn, 1) := by decide +kernel
theorem dX4_length_10 : decode cX4_length 10 = .ok (.aload_n 0, 1) := by decide +kernel
theorem dX4_length_11 : decode cX4_length 11 = .ok (.iload_n 1, 1) := by decide +kernel
theorem dX4_length_12 : decode cX4_length 12 = .ok (.invokevirtual 66, 3) := by decide +kernel
theorem dX4_length_15 : decode cX4_length 15 = .ok (.ifCond .ne 6, 3) := by decide +kernel
theorem dX4_length_18 : decode cX4_length 18 = .ok (.bipush (-6), 2) := by decide +kernel
theorem dX4_length_20 : decode cX4_length 20 = .ok (.ireturn, 1) := by decide +kernel
theorem dX4_length_21 : decode cX4_length 21 = .ok (.aload_n 0, 1) := by decide +kernel
theorem dX4_length_22 : decode cX4_length 22 = .ok (.getfield 19, 3) := by decide +kernel
theorem dX4_length_25 : decode cX4_length 25 = .ok (.aload_n 0, 1) := by decide +kernel
theorem dX4_length_26 : decode cX4_length 26 = .ok (.getfield 26, 3) := by decide +kernel
theorem dX4_length_29 : decode cX4_length 29 = .ok (.iload_n 1, 1) := by decide +kernel
theorem dX4_length_30 : decode cX4_length 30 = .ok (.iaload, 1) := by decide +kernel
theorem dX4_length_31 : decode cX4_length 31 = .ok (.invokevirtual 69, 3) := by decide +kernel
theorem dX4_length_34 : decode cX4_length 34 = .ok (.ireturn, 1) := by decide +kernel
set_option maxRecDepth 20000 in
theorem ggX4_extent_X4_isOpen : GoodIn wsX4_extent wsX4_isOpen := goodIn_r _ [8, 3, 15, 16, 17, 18, 19, 20] (by decide +kernel) (by decide +kernel)
set_option maxRecDepth 20000 in
theorem gX4_extent_X4_isOpen : GoodIn wsX4_extent (wsV RX4 66 RX4 yX4_isOpen wsX4_isOpen) := goodIn_app (goodIn_of _ (by decide +kernel)) ggX4_extent_X4_isOpen
set_option maxRecDepth 20000 in
theorem ggX4_extent_X2_extentOf : GoodIn wsX4_extent wsX2_extentOf := goodIn_r _ [13, 14, 21] (by decide +kernel) (by decide +kernel)
set_option maxRecDepth 20000 in
theorem gX4_extent_X2_extentOf : GoodIn wsX4_extent (wsV RX4 86 RX2 yX2_extentOf wsX2_extentOf) := goodIn_app (goodIn_of _ (by decide +kernel)) ggX4_extent_X2_extentOf
theorem dX4_extent_0 : decode cX4_extent 0 = .ok (.aload_n 0, 1) := by decide +kernel
theorem dX4_extent_1 : decode cX4_extent 1 = .ok (.getfield 33, 3) := by decide +kernel
theorem dX4_extent_4 : decode cX4_extent 4 = .ok (.ifCond .ne 6, 3) := by decide +kernel
theorem dX4_extent_7 : decode cX4_extent 7 = .ok (.bipush (-11), 2) := by decide +kernel
theorem dX4_extent_9 : decode cX4_extent 9 = .ok (.ireturn, 1) := by decide +kernel
theorem dX4_extent_10 : decode cX4_extent 10 = .ok (.aload_n 0, 1) := by decide +kernel
theorem dX4_extent_11 : decode cX4_extent 11 = .ok (.iload_n 1, 1) := by decide +kernel
theorem dX4_extent_12 : decode cX4_extent 12 = .ok (.invokevirtual 66, 3) := by decide +kernel
theorem dX4_extent_15 : decode cX4_extent 15 = .ok (.ifCond .ne 6, 3) := by decide +kernel
theorem dX4_extent_18 : decode cX4_extent 18 = .ok (.bipush (-6), 2) := by decide +kernel
theorem dX4_extent_20 : decode cX4_extent 20 = .ok (.ireturn, 1) := by decide +kernel
theorem dX4_extent_21 : decode cX4_extent 21 = .ok (.iload_n 2, 1) := by decide +kernel
theorem dX4_extent_22 : decode cX4_extent 22 = .ok (.ifCond .lt 8, 3) := by decide +kernel
theorem dX4_extent_25 : decode cX4_extent 25 = .ok (.iload_n 2, 1) := by decide +kernel
theorem dX4_extent_26 : decode cX4_extent 26 = .ok (.iconst 4, 1) := by decide +kernel
theorem dX4_extent_27 : decode cX4_extent 27 = .ok (.if_icmp .lt 6, 3) := by decide +kernel
theorem dX4_extent_30 : decode cX4_extent 30 = .ok (.bipush (-12), 2) := by decide +kernel
theorem dX4_extent_32 : decode cX4_extent 32 = .ok (.ireturn, 1) := by decide +kernel
theorem dX4_extent_33 : decode cX4_extent 33 = .ok (.aload_n 0, 1) := by decide +kernel
theorem dX4_extent_34 : decode cX4_extent 34 = .ok (.getfield 19, 3) := by decide +kernel
theorem dX4_extent_37 : decode cX4_extent 37 = .ok (.aload_n 0, 1) := by decide +kernel
theorem dX4_extent_38 : decode cX4_extent 38 = .ok (.getfield 26, 3) := by decide +kernel
theorem dX4_extent_41 : decode cX4_extent 41 = .ok (.iload_n 1, 1) := by decide +kernel
theorem dX4_extent_42 : decode cX4_extent 42 = .ok (.iaload, 1) := by decide +kernel
theorem dX4_extent_43 : decode cX4_extent 43 = .ok (.iload_n 2, 1) := by decide +kernel
theorem dX4_extent_44 : decode cX4_extent 44 = .ok (.invokevirtual 86, 3) := by decide +kernel
theorem dX4_extent_47 : decode cX4_extent 47 = .ok (.ireturn, 1) := by decide +kernel
set_option maxRecDepth 20000 in
theorem ggX4_rename_X2_slotOf : GoodIn wsX4_rename wsX2_slotOf := goodIn_r _ [7, 8, 9, 10, 6, 11, 12, 100] (by decide +kernel) (by decide +kernel)
set_option maxRecDepth 20000 in
theorem gX4_rename_X2_slotOf : GoodIn wsX4_rename (wsV RX4 44 RX2 yX2_slotOf wsX2_slotOf) := goodIn_app (goodIn_of _ (by decide +kernel)) ggX4_rename_X2_slotOf
set_option maxRecDepth 20000 in
theorem ggX4_rename_X4_isName : GoodIn wsX4_rename wsX4_isName := goodIn_r _ [16] (by decide +kernel) (by decide +kernel)
set_option maxRecDepth 20000 in
theorem gX4_rename_X4_isName : GoodIn wsX4_rename (va_wsS RX4 37 yX4_isName wsX4_isName) := goodIn_app (goodIn_of _ (by decide +kernel)) ggX4_rename_X4_isName
set_option maxRecDepth 20000 in
theorem ggX4_rename_X4_isInUse : GoodIn wsX4_rename wsX4_isInUse := goodIn_r _ [20, 21, 94, 95, 96, 97, 98, 99] (by decide +kernel) (by decide +kernel)
set_option maxRecDepth 20000 in
theorem gX4_rename_X4_isInUse : GoodIn wsX4_rename (wsV RX4 56 RX4 yX4_isInUse wsX4_isInUse) := goodIn_app (goodIn_of _ (by decide +kernel)) ggX4_rename_X4_isInUse
set_option maxRecDepth 20000 in
theorem ggX4_rename_X2_dropFile : GoodIn wsX4_rename wsX2_dropFile := goodIn_r _ [25, 26, 27, 28, 6, 29, 30, 31, 32, 33, 12, 34, 35, 36, 37, 38, 39, 40, 41, 42, 43, 44, 45, 46, 47, 48, 49, 50, 51, 52, 53, 54, 55, 56, 57, 58, 59, 60, 61, 62, 63, 64, 65, 66, 67, 68, 69, 70, 71, 72, 73, 74, 75, 76, 77, 78, 79, 80, 81, 82, 83, 84, 85, 86, 87, 88, 89, 100] (by decide +kernel) (by decide +kernel)
set_option maxRecDepth 20000 in
theorem gX4_rename_X2_dropFile : GoodIn wsX4_rename (wsV RX4 59 RX2 yX2_dropFile wsX2_dropFile) := goodIn_app (goodIn_of _ (by decide +kernel)) ggX4_rename_X2_dropFile
set_option maxRecDepth 20000 in
theorem ggX4_rename_X2_nameFile : GoodIn wsX4_rename wsX2_nameFile := goodIn_r _ [93, 12, 100] (by decide +kernel) (by decide +kernel)
set_option maxRecDepth 20000 in
theorem gX4_rename_X2_nameFile : GoodIn wsX4_rename (wsV RX4 89 RX2 yX2_nameFile wsX2_nameFile) := goodIn_app (goodIn_of _ (by decide +kernel)) ggX4_rename_X2_nameFile
theorem dX4_rename_0 : decode cX4_rename 0 = .ok (.aload_n 0, 1) := by decide +kernel
theorem dX4_rename_1 : decode cX4_rename 1 = .ok (.getfield 33, 3) := by decide +kernel
theorem dX4_rename_4 : decode cX4_rename 4 = .ok (.ifCond .ne 6, 3) := by decide +kernel
theorem dX4_rename_7 : decode cX4_rename 7 = .ok (.bipush (-11), 2) := by decide +kernel
theorem dX4_rename_9 : decode cX4_rename 9 = .ok (.ireturn, 1) := by decide +kernel
theorem dX4_rename_10 : decode cX4_rename 10 = .ok (.aload_n 0, 1) := by decide +kernel
theorem dX4_rename_11 : decode cX4_rename 11 = .ok (.getfield 19, 3) := by decide +kernel
theorem dX4_rename_14 : decode cX4_rename 14 = .ok (.iload_n 1, 1) := by decide +kernel
theorem dX4_rename_15 : decode cX4_rename 15 = .ok (.invokevirtual 44, 3) := by decide +kernel
theorem dX4_rename_18 : decode cX4_rename 18 = .ok (.istore_n 3, 1) := by decide +kernel
theorem dX4_rename_19 : decode cX4_rename 19 = .ok (.iload_n 3, 1) := by decide +kernel
theorem dX4_rename_20 : decode cX4_rename 20 = .ok (.iconst (-1), 1) := by decide +kernel
theorem dX4_rename_21 : decode cX4_rename 21 = .ok (.if_icmp .ne 6, 3) := by decide +kernel
theorem dX4_rename_24 : decode cX4_rename 24 = .ok (.bipush (-3), 2) := by decide +kernel
theorem dX4_rename_26 : decode cX4_rename 26 = .ok (.ireturn, 1) := by decide +kernel
theorem dX4_rename_27 : decode cX4_rename 27 = .ok (.iload_n 2, 1) := by decide +kernel
theorem dX4_rename_28 : decode cX4_rename 28 = .ok (.invokestatic 37, 3) := by decide +kernel
theorem dX4_rename_31 : decode cX4_rename 31 = .ok (.ifCond .ne 6, 3) := by decide +kernel
theorem dX4_rename_34 : decode cX4_rename 34 = .ok (.bipush (-12), 2) := by decide +kernel
theorem dX4_rename_36 : decode cX4_rename 36 = .ok (.ireturn, 1) := by decide +kernel
theorem dX4_rename_37 : decode cX4_rename 37 = .ok (.iload_n 1, 1) := by decide +kernel
theorem dX4_rename_38 : decode cX4_rename 38 = .ok (.iload_n 2, 1) := by decide +kernel
theorem dX4_rename_39 : decode cX4_rename 39 = .ok (.if_icmp .ne 5, 3) := by decide +kernel
theorem dX4_rename_42 : decode cX4_rename 42 = .ok (.iconst 0, 1) := by decide +kernel
theorem dX4_rename_43 : decode cX4_rename 43 = .ok (.ireturn, 1) := by decide +kernel
theorem dX4_rename_44 : decode cX4_rename 44 = .ok (.aload_n 0, 1) := by decide +kernel
theorem dX4_rename_45 : decode cX4_rename 45 = .ok (.getfield 19, 3) := by decide +kernel
theorem dX4_rename_48 : decode cX4_rename 48 = .ok (.iload_n 2, 1) := by decide +kernel
theorem dX4_rename_49 : decode cX4_rename 49 = .ok (.invokevirtual 44, 3) := by decide +kernel
theorem dX4_rename_52 : decode cX4_rename 52 = .ok (.istore 4, 2) := by decide +kernel
theorem dX4_rename_54 : decode cX4_rename 54 = .ok (.iload 4, 2) := by decide +kernel
theorem dX4_rename_56 : decode cX4_rename 56 = .ok (.iconst (-1), 1) := by decide +kernel
theorem dX4_rename_57 : decode cX4_rename 57 = .ok (.if_icmp .eq 24, 3) := by decide +kernel
theorem dX4_rename_60 : decode cX4_rename 60 = .ok (.aload_n 0, 1) := by decide +kernel
theorem dX4_rename_61 : decode cX4_rename 61 = .ok (.iload 4, 2) := by decide +kernel
theorem dX4_rename_63 : decode cX4_rename 63 = .ok (.invokevirtual 56, 3) := by decide +kernel
theorem dX4_rename_66 : decode cX4_rename 66 = .ok (.ifCond .eq 6, 3) := by decide +kernel
theorem dX4_rename_69 : decode cX4_rename 69 = .ok (.bipush (-4), 2) := by decide +kernel
theorem dX4_rename_71 : decode cX4_rename 71 = .ok (.ireturn, 1) := by decide +kernel
theorem dX4_rename_72 : decode cX4_rename 72 = .ok (.aload_n 0, 1) := by decide +kernel
theorem dX4_rename_73 : decode cX4_rename 73 = .ok (.getfield 19, 3) := by decide +kernel
theorem dX4_rename_76 : decode cX4_rename 76 = .ok (.iload 4, 2) := by decide +kernel
theorem dX4_rename_78 : decode cX4_rename 78 = .ok (.invokevirtual 59, 3) := by decide +kernel
theorem dX4_rename_81 : decode cX4_rename 81 = .ok (.aload_n 0, 1) := by decide +kernel
theorem dX4_rename_82 : decode cX4_rename 82 = .ok (.getfield 19, 3) := by decide +kernel
theorem dX4_rename_85 : decode cX4_rename 85 = .ok (.iload_n 3, 1) := by decide +kernel
theorem dX4_rename_86 : decode cX4_rename 86 = .ok (.iload_n 2, 1) := by decide +kernel
theorem dX4_rename_87 : decode cX4_rename 87 = .ok (.invokevirtual 89, 3) := by decide +kernel
theorem dX4_rename_90 : decode cX4_rename 90 = .ok (.iconst 0, 1) := by decide +kernel
theorem dX4_rename_91 : decode cX4_rename 91 = .ok (.ireturn, 1) := by decide +kernel
set_option maxRecDepth 20000 in
theorem ggX4_setQuota_X4_isOwner : GoodIn wsX4_setQuota wsX4_isOwner := goodIn_r _ [6] (by decide +kernel) (by decide +kernel)
set_option maxRecDepth 20000 in
theorem gX4_setQuota_X4_isOwner : GoodIn wsX4_setQuota (va_wsS RX4 41 yX4_isOwner wsX4_isOwner) := goodIn_app (goodIn_of _ (by decide +kernel)) ggX4_setQuota_X4_isOwner
set_option maxRecDepth 20000 in
theorem ggX4_setQuota_X2_usageOf : GoodIn wsX4_setQuota wsX2_usageOf := goodIn_r _ [11, 12, 13, 14, 10, 15, 16, 17, 18, 19, 20, 21, 22, 23, 24, 25, 26, 27, 28, 29, 30, 31, 42] (by decide +kernel) (by decide +kernel)
set_option maxRecDepth 20000 in
theorem gX4_setQuota_X2_usageOf : GoodIn wsX4_setQuota (wsV RX4 92 RX2 yX2_usageOf wsX2_usageOf) := goodIn_app (goodIn_of _ (by decide +kernel)) ggX4_setQuota_X2_usageOf
set_option maxRecDepth 20000 in
theorem ggX4_setQuota_X2_putQuota : GoodIn wsX4_setQuota wsX2_putQuota := goodIn_r _ [35, 16, 42] (by decide +kernel) (by decide +kernel)
set_option maxRecDepth 20000 in
theorem gX4_setQuota_X2_putQuota : GoodIn wsX4_setQuota (wsV RX4 95 RX2 yX2_putQuota wsX2_putQuota) := goodIn_app (goodIn_of _ (by decide +kernel)) ggX4_setQuota_X2_putQuota
theorem dX4_setQuota_0 : decode cX4_setQuota 0 = .ok (.aload_n 0, 1) := by decide +kernel
theorem dX4_setQuota_1 : decode cX4_setQuota 1 = .ok (.getfield 33, 3) := by decide +kernel
theorem dX4_setQuota_4 : decode cX4_setQuota 4 = .ok (.ifCond .ne 6, 3) := by decide +kernel
theorem dX4_setQuota_7 : decode cX4_setQuota 7 = .ok (.bipush (-11), 2) := by decide +kernel
theorem dX4_setQuota_9 : decode cX4_setQuota 9 = .ok (.ireturn, 1) := by decide +kernel
theorem dX4_setQuota_10 : decode cX4_setQuota 10 = .ok (.iload_n 1, 1) := by decide +kernel
theorem dX4_setQuota_11 : decode cX4_setQuota 11 = .ok (.invokestatic 41, 3) := by decide +kernel
theorem dX4_setQuota_14 : decode cX4_setQuota 14 = .ok (.ifCond .eq 13, 3) := by decide +kernel
theorem dX4_setQuota_17 : decode cX4_setQuota 17 = .ok (.iload_n 2, 1) := by decide +kernel
theorem dX4_setQuota_18 : decode cX4_setQuota 18 = .ok (.ifCond .lt 9, 3) := by decide +kernel
theorem dX4_setQuota_21 : decode cX4_setQuota 21 = .ok (.iload_n 2, 1) := by decide +kernel
theorem dX4_setQuota_22 : decode cX4_setQuota 22 = .ok (.bipush 32, 2) := by decide +kernel
theorem dX4_setQuota_24 : decode cX4_setQuota 24 = .ok (.if_icmp .le 6, 3) := by decide +kernel
theorem dX4_setQuota_27 : decode cX4_setQuota 27 = .ok (.bipush (-12), 2) := by decide +kernel
theorem dX4_setQuota_29 : decode cX4_setQuota 29 = .ok (.ireturn, 1) := by decide +kernel
theorem dX4_setQuota_30 : decode cX4_setQuota 30 = .ok (.aload_n 0, 1) := by decide +kernel
theorem dX4_setQuota_31 : decode cX4_setQuota 31 = .ok (.getfield 19, 3) := by decide +kernel
theorem dX4_setQuota_34 : decode cX4_setQuota 34 = .ok (.iload_n 1, 1) := by decide +kernel
theorem dX4_setQuota_35 : decode cX4_setQuota 35 = .ok (.invokevirtual 92, 3) := by decide +kernel
theorem dX4_setQuota_38 : decode cX4_setQuota 38 = .ok (.iload_n 2, 1) := by decide +kernel
theorem dX4_setQuota_39 : decode cX4_setQuota 39 = .ok (.if_icmp .le 6, 3) := by decide +kernel
theorem dX4_setQuota_42 : decode cX4_setQuota 42 = .ok (.bipush (-10), 2) := by decide +kernel
theorem dX4_setQuota_44 : decode cX4_setQuota 44 = .ok (.ireturn, 1) := by decide +kernel
theorem dX4_setQuota_45 : decode cX4_setQuota 45 = .ok (.aload_n 0, 1) := by decide +kernel
theorem dX4_setQuota_46 : decode cX4_setQuota 46 = .ok (.getfield 19, 3) := by decide +kernel
theorem dX4_setQuota_49 : decode cX4_setQuota 49 = .ok (.iload_n 1, 1) := by decide +kernel
theorem dX4_setQuota_50 : decode cX4_setQuota 50 = .ok (.iload_n 2, 1) := by decide +kernel
theorem dX4_setQuota_51 : decode cX4_setQuota 51 = .ok (.invokevirtual 95, 3) := by decide +kernel
theorem dX4_setQuota_54 : decode cX4_setQuota 54 = .ok (.iconst 0, 1) := by decide +kernel
theorem dX4_setQuota_55 : decode cX4_setQuota 55 = .ok (.ireturn, 1) := by decide +kernel
set_option maxRecDepth 20000 in
theorem ggX4_usage_X4_isOwner : GoodIn wsX4_usage wsX4_isOwner := goodIn_r _ [6] (by decide +kernel) (by decide +kernel)
set_option maxRecDepth 20000 in
theorem gX4_usage_X4_isOwner : GoodIn wsX4_usage (va_wsS RX4 41 yX4_isOwner wsX4_isOwner) := goodIn_app (goodIn_of _ (by decide +kernel)) ggX4_usage_X4_isOwner
set_option maxRecDepth 20000 in
theorem ggX4_usage_X2_usageOf : GoodIn wsX4_usage wsX2_usageOf := goodIn_r _ [11, 12, 13, 14, 10, 15, 16, 17, 18, 19, 20, 21, 22, 23, 24, 25, 26, 27, 28, 29, 30, 31, 38] (by decide +kernel) (by decide +kernel)
set_option maxRecDepth 20000 in
theorem gX4_usage_X2_usageOf : GoodIn wsX4_usage (wsV RX4 92 RX2 yX2_usageOf wsX2_usageOf) := goodIn_app (goodIn_of _ (by decide +kernel)) ggX4_usage_X2_usageOf
theorem dX4_usage_0 : decode cX4_usage 0 = .ok (.aload_n 0, 1) := by decide +kernel
theorem dX4_usage_1 : decode cX4_usage 1 = .ok (.getfield 33, 3) := by decide +kernel
theorem dX4_usage_4 : decode cX4_usage 4 = .ok (.ifCond .ne 6, 3) := by decide +kernel
theorem dX4_usage_7 : decode cX4_usage 7 = .ok (.bipush (-11), 2) := by decide +kernel
theorem dX4_usage_9 : decode cX4_usage 9 = .ok (.ireturn, 1) := by decide +kernel
theorem dX4_usage_10 : decode cX4_usage 10 = .ok (.iload_n 1, 1) := by decide +kernel
theorem dX4_usage_11 : decode cX4_usage 11 = .ok (.invokestatic 41, 3) := by decide +kernel
theorem dX4_usage_14 : decode cX4_usage 14 = .ok (.ifCond .ne 6, 3) := by decide +kernel
theorem dX4_usage_17 : decode cX4_usage 17 = .ok (.bipush (-12), 2) := by decide +kernel
theorem dX4_usage_19 : decode cX4_usage 19 = .ok (.ireturn, 1) := by decide +kernel
theorem dX4_usage_20 : decode cX4_usage 20 = .ok (.aload_n 0, 1) := by decide +kernel
theorem dX4_usage_21 : decode cX4_usage 21 = .ok (.getfield 19, 3) := by decide +kernel
theorem dX4_usage_24 : decode cX4_usage 24 = .ok (.iload_n 1, 1) := by decide +kernel
theorem dX4_usage_25 : decode cX4_usage 25 = .ok (.invokevirtual 92, 3) := by decide +kernel
theorem dX4_usage_28 : decode cX4_usage 28 = .ok (.ireturn, 1) := by decide +kernel
set_option maxRecDepth 20000 in
theorem ggX4_free_X2_freeRunsOf : GoodIn wsX4_free wsX2_freeRunsOf := goodIn_r _ [7, 8, 9, 10, 6, 11, 12, 13, 14, 15, 16, 23] (by decide +kernel) (by decide +kernel)
set_option maxRecDepth 20000 in
theorem gX4_free_X2_freeRunsOf : GoodIn wsX4_free (wsV RX4 98 RX2 yX2_freeRunsOf wsX2_freeRunsOf) := goodIn_app (goodIn_of _ (by decide +kernel)) ggX4_free_X2_freeRunsOf
theorem dX4_free_0 : decode cX4_free 0 = .ok (.aload_n 0, 1) := by decide +kernel
theorem dX4_free_1 : decode cX4_free 1 = .ok (.getfield 33, 3) := by decide +kernel
theorem dX4_free_4 : decode cX4_free 4 = .ok (.ifCond .ne 6, 3) := by decide +kernel
theorem dX4_free_7 : decode cX4_free 7 = .ok (.bipush (-11), 2) := by decide +kernel
theorem dX4_free_9 : decode cX4_free 9 = .ok (.ireturn, 1) := by decide +kernel
theorem dX4_free_10 : decode cX4_free 10 = .ok (.iload_n 1, 1) := by decide +kernel
theorem dX4_free_11 : decode cX4_free 11 = .ok (.ifCond .lt 8, 3) := by decide +kernel
theorem dX4_free_14 : decode cX4_free 14 = .ok (.iload_n 1, 1) := by decide +kernel
theorem dX4_free_15 : decode cX4_free 15 = .ok (.iconst 5, 1) := by decide +kernel
theorem dX4_free_16 : decode cX4_free 16 = .ok (.if_icmp .le 6, 3) := by decide +kernel
theorem dX4_free_19 : decode cX4_free 19 = .ok (.bipush (-12), 2) := by decide +kernel
theorem dX4_free_21 : decode cX4_free 21 = .ok (.ireturn, 1) := by decide +kernel
theorem dX4_free_22 : decode cX4_free 22 = .ok (.aload_n 0, 1) := by decide +kernel
theorem dX4_free_23 : decode cX4_free 23 = .ok (.getfield 19, 3) := by decide +kernel
theorem dX4_free_26 : decode cX4_free 26 = .ok (.iload_n 1, 1) := by decide +kernel
theorem dX4_free_27 : decode cX4_free 27 = .ok (.invokevirtual 98, 3) := by decide +kernel
theorem dX4_free_30 : decode cX4_free 30 = .ok (.ireturn, 1) := by decide +kernel
set_option maxRecDepth 20000 in
theorem ggX4_sync_X4_countChanges : GoodIn wsX4_sync wsX4_countChanges := goodIn_r _ [6, 7, 8, 9, 5, 10, 11, 12, 13, 14, 32, 33, 34, 35, 36, 37, 38, 39] (by decide +kernel) (by decide +kernel)
set_option maxRecDepth 20000 in
theorem gX4_sync_X4_countChanges : GoodIn wsX4_sync (wsV RX4 101 RX4 yX4_countChanges wsX4_countChanges) := goodIn_app (goodIn_of _ (by decide +kernel)) ggX4_sync_X4_countChanges
set_option maxRecDepth 20000 in
theorem ggX4_sync_X4_writeJournal : GoodIn wsX4_sync wsX4_writeJournal := goodIn_r _ [18, 13, 14, 7, 8, 9, 5, 10, 11, 12, 19, 20, 21, 22, 23, 24, 25, 26, 27, 32, 33, 34, 35, 36, 37, 39, 38] (by decide +kernel) (by decide +kernel)
set_option maxRecDepth 20000 in
theorem gX4_sync_X4_writeJournal : GoodIn wsX4_sync (wsV RX4 104 RX4 yX4_writeJournal wsX4_writeJournal) := goodIn_app (goodIn_of _ (by decide +kernel)) ggX4_sync_X4_writeJournal
set_option maxRecDepth 20000 in
theorem ggX4_sync_X4_writeHome : GoodIn wsX4_sync wsX4_writeHome := goodIn_r _ [31, 13, 14, 7, 8, 9, 5, 10, 11, 12, 19, 20, 21, 22, 23, 32, 33, 34, 35, 36, 37, 39, 38] (by decide +kernel) (by decide +kernel)
set_option maxRecDepth 20000 in
theorem gX4_sync_X4_writeHome : GoodIn wsX4_sync (wsV RX4 107 RX4 yX4_writeHome wsX4_writeHome) := goodIn_app (goodIn_of _ (by decide +kernel)) ggX4_sync_X4_writeHome
set_option maxRecDepth 20000 in
theorem ggX4_sync_X4_writeCell : GoodIn wsX4_sync wsX4_writeCell := goodIn_r _ [22, 23, 11, 12, 32, 33, 34, 35, 36, 37, 38] (by decide +kernel) (by decide +kernel)
set_option maxRecDepth 20000 in
theorem gX4_sync_X4_writeCell : GoodIn wsX4_sync (wsV RX4 111 RX4 yX4_writeCell wsX4_writeCell) := goodIn_app (goodIn_of _ (by decide +kernel)) ggX4_sync_X4_writeCell
theorem dX4_sync_0 : decode cX4_sync 0 = .ok (.aload_n 0, 1) := by decide +kernel
theorem dX4_sync_1 : decode cX4_sync 1 = .ok (.getfield 33, 3) := by decide +kernel
theorem dX4_sync_4 : decode cX4_sync 4 = .ok (.ifCond .ne 6, 3) := by decide +kernel
theorem dX4_sync_7 : decode cX4_sync 7 = .ok (.bipush (-11), 2) := by decide +kernel
theorem dX4_sync_9 : decode cX4_sync 9 = .ok (.ireturn, 1) := by decide +kernel
theorem dX4_sync_10 : decode cX4_sync 10 = .ok (.aload_n 0, 1) := by decide +kernel
theorem dX4_sync_11 : decode cX4_sync 11 = .ok (.invokevirtual 101, 3) := by decide +kernel
theorem dX4_sync_14 : decode cX4_sync 14 = .ok (.istore_n 1, 1) := by decide +kernel
theorem dX4_sync_15 : decode cX4_sync 15 = .ok (.iload_n 1, 1) := by decide +kernel
theorem dX4_sync_16 : decode cX4_sync 16 = .ok (.ifCond .ne 5, 3) := by decide +kernel
theorem dX4_sync_19 : decode cX4_sync 19 = .ok (.iconst 0, 1) := by decide +kernel
theorem dX4_sync_20 : decode cX4_sync 20 = .ok (.ireturn, 1) := by decide +kernel
theorem dX4_sync_21 : decode cX4_sync 21 = .ok (.aload_n 0, 1) := by decide +kernel
theorem dX4_sync_22 : decode cX4_sync 22 = .ok (.iload_n 1, 1) := by decide +kernel
theorem dX4_sync_23 : decode cX4_sync 23 = .ok (.invokevirtual 104, 3) := by decide +kernel
theorem dX4_sync_26 : decode cX4_sync 26 = .ok (.ifCond .eq 22, 3) := by decide +kernel
theorem dX4_sync_29 : decode cX4_sync 29 = .ok (.aload_n 0, 1) := by decide +kernel
theorem dX4_sync_30 : decode cX4_sync 30 = .ok (.invokevirtual 107, 3) := by decide +kernel
theorem dX4_sync_33 : decode cX4_sync 33 = .ok (.ifCond .eq 15, 3) := by decide +kernel
theorem dX4_sync_36 : decode cX4_sync 36 = .ok (.aload_n 0, 1) := by decide +kernel
theorem dX4_sync_37 : decode cX4_sync 37 = .ok (.bipush 110, 2) := by decide +kernel
theorem dX4_sync_39 : decode cX4_sync 39 = .ok (.iconst 0, 1) := by decide +kernel
theorem dX4_sync_40 : decode cX4_sync 40 = .ok (.invokevirtual 111, 3) := by decide +kernel
theorem dX4_sync_43 : decode cX4_sync 43 = .ok (.ifCond .eq 5, 3) := by decide +kernel
theorem dX4_sync_46 : decode cX4_sync 46 = .ok (.iload_n 1, 1) := by decide +kernel
theorem dX4_sync_47 : decode cX4_sync 47 = .ok (.ireturn, 1) := by decide +kernel
theorem dX4_sync_48 : decode cX4_sync 48 = .ok (.aload_n 0, 1) := by decide +kernel
theorem dX4_sync_49 : decode cX4_sync 49 = .ok (.iconst 0, 1) := by decide +kernel
theorem dX4_sync_50 : decode cX4_sync 50 = .ok (.putfield 33, 3) := by decide +kernel
theorem dX4_sync_53 : decode cX4_sync 53 = .ok (.bipush (-11), 2) := by decide +kernel
theorem dX4_sync_55 : decode cX4_sync 55 = .ok (.ireturn, 1) := by decide +kernel
theorem dX4_crashAfter_0 : decode cX4_crashAfter 0 = .ok (.aload_n 0, 1) := by decide +kernel
theorem dX4_crashAfter_1 : decode cX4_crashAfter 1 = .ok (.getfield 33, 3) := by decide +kernel
theorem dX4_crashAfter_4 : decode cX4_crashAfter 4 = .ok (.ifCond .eq 8, 3) := by decide +kernel
theorem dX4_crashAfter_7 : decode cX4_crashAfter 7 = .ok (.iload_n 1, 1) := by decide +kernel
theorem dX4_crashAfter_8 : decode cX4_crashAfter 8 = .ok (.iconst (-1), 1) := by decide +kernel
theorem dX4_crashAfter_9 : decode cX4_crashAfter 9 = .ok (.if_icmp .ge 5, 3) := by decide +kernel
theorem dX4_crashAfter_12 : decode cX4_crashAfter 12 = .ok (.iconst 0, 1) := by decide +kernel
theorem dX4_crashAfter_13 : decode cX4_crashAfter 13 = .ok (.ireturn, 1) := by decide +kernel
theorem dX4_crashAfter_14 : decode cX4_crashAfter 14 = .ok (.aload_n 0, 1) := by decide +kernel
theorem dX4_crashAfter_15 : decode cX4_crashAfter 15 = .ok (.iload_n 1, 1) := by decide +kernel
theorem dX4_crashAfter_16 : decode cX4_crashAfter 16 = .ok (.putfield 115, 3) := by decide +kernel
theorem dX4_crashAfter_19 : decode cX4_crashAfter 19 = .ok (.iconst 1, 1) := by decide +kernel
theorem dX4_crashAfter_20 : decode cX4_crashAfter 20 = .ok (.ireturn, 1) := by decide +kernel
set_option maxRecDepth 20000 in
theorem ggX4_mount_X1_journalHolds : GoodIn wsX4_mount wsX1_journalHolds := goodIn_r _ [10, 11, 12, 13, 9, 14, 151] (by decide +kernel) (by decide +kernel)
set_option maxRecDepth 20000 in
theorem gX4_mount_X1_journalHolds : GoodIn wsX4_mount (wsV RX4 119 RX1 yX1_journalHolds wsX1_journalHolds) := goodIn_app (goodIn_of _ (by decide +kernel)) ggX4_mount_X1_journalHolds
set_option maxRecDepth 20000 in
theorem ggX4_mount_X1_replayJournal : GoodIn wsX4_mount wsX1_replayJournal := goodIn_r _ [18, 11, 19, 20, 21, 9, 22, 151] (by decide +kernel) (by decide +kernel)
set_option maxRecDepth 20000 in
theorem gX4_mount_X1_replayJournal : GoodIn wsX4_mount (wsV RX4 122 RX1 yX1_replayJournal wsX1_replayJournal) := goodIn_app (goodIn_of _ (by decide +kernel)) ggX4_mount_X1_replayJournal
set_option maxRecDepth 20000 in
theorem ggX4_mount_X2_copyFrom : GoodIn wsX4_mount wsX2_copyFrom := goodIn_r _ [27, 28, 29, 30, 31, 32, 152] (by decide +kernel) (by decide +kernel)
set_option maxRecDepth 20000 in
theorem gX4_mount_X2_copyFrom : GoodIn wsX4_mount (wsV RX4 128 RX2 yX2_copyFrom wsX2_copyFrom) := goodIn_app (goodIn_of _ (by decide +kernel)) ggX4_mount_X2_copyFrom
set_option maxRecDepth 20000 in
theorem ggX4_mount_X0_leastBroken : GoodIn wsX4_mount wsX0_leastBroken := goodIn_r _ [36, 37, 38, 39, 35, 40, 41, 42, 43, 26, 44, 28, 45, 46, 47, 48, 49, 50, 51, 52, 53, 54, 55, 56, 57, 58, 59, 60, 61, 62, 63, 64, 65, 66, 67, 68, 69, 70, 71, 72, 73, 74, 75, 76, 77, 78, 79, 80, 81, 82, 83, 84, 85, 86, 87, 88, 89, 90, 91, 92, 93, 94, 95, 96, 97, 98, 99, 100, 101, 102, 103, 104, 105, 106, 107, 108, 109, 110, 111, 112, 113, 114, 115, 116, 117, 118, 119, 120, 121, 122, 123, 124, 125, 126, 127, 128, 129, 130, 131, 132, 133, 134, 135, 136, 137, 152] (by decide +kernel) (by decide +kernel)
set_option maxRecDepth 20000 in
theorem gX4_mount_X0_leastBroken : GoodIn wsX4_mount (va_wsS RX4 132 yX0_leastBroken wsX0_leastBroken) := goodIn_app (goodIn_of _ (by decide +kernel)) ggX4_mount_X0_leastBroken
set_option maxRecDepth 20000 in
theorem ggX4_mount_X4_goUp : GoodIn wsX4_mount wsX4_goUp := goodIn_r _ [142, 143, 144, 1, 145, 146, 147, 148, 149, 150] (by decide +kernel) (by decide +kernel)
set_option maxRecDepth 20000 in
theorem gX4_mount_X4_goUp : GoodIn wsX4_mount (wsV RX4 138 RX4 yX4_goUp wsX4_goUp) := goodIn_app (goodIn_of _ (by decide +kernel)) ggX4_mount_X4_goUp
theorem dX4_mount_0 : decode cX4_mount 0 = .ok (.aload_n 0, 1) := by decide +kernel
theorem dX4_mount_1 : decode cX4_mount 1 = .ok (.getfield 33, 3) := by decide +kernel
theorem dX4_mount_4 : decode cX4_mount 4 = .ok (.ifCond .eq 6, 3) := by decide +kernel
theorem dX4_mount_7 : decode cX4_mount 7 = .ok (.bipush (-4), 2) := by decide +kernel
theorem dX4_mount_9 : decode cX4_mount 9 = .ok (.ireturn, 1) := by decide +kernel
theorem dX4_mount_10 : decode cX4_mount 10 = .ok (.aload_n 0, 1) := by decide +kernel
theorem dX4_mount_11 : decode cX4_mount 11 = .ok (.getfield 10, 3) := by decide +kernel
theorem dX4_mount_14 : decode cX4_mount 14 = .ok (.invokevirtual 119, 3) := by decide +kernel
theorem dX4_mount_17 : decode cX4_mount 17 = .ok (.ifCond .eq 10, 3) := by decide +kernel
theorem dX4_mount_20 : decode cX4_mount 20 = .ok (.aload_n 0, 1) := by decide +kernel
theorem dX4_mount_21 : decode cX4_mount 21 = .ok (.getfield 10, 3) := by decide +kernel
theorem dX4_mount_24 : decode cX4_mount 24 = .ok (.invokevirtual 122, 3) := by decide +kernel
theorem dX4_mount_27 : decode cX4_mount 27 = .ok (.aload_n 0, 1) := by decide +kernel
theorem dX4_mount_28 : decode cX4_mount 28 = .ok (.getfield 23, 3) := by decide +kernel
theorem dX4_mount_31 : decode cX4_mount 31 = .ok (.aload_n 0, 1) := by decide +kernel
theorem dX4_mount_32 : decode cX4_mount 32 = .ok (.getfield 10, 3) := by decide +kernel
theorem dX4_mount_35 : decode cX4_mount 35 = .ok (.getfield 125, 3) := by decide +kernel
theorem dX4_mount_38 : decode cX4_mount 38 = .ok (.invokevirtual 128, 3) := by decide +kernel
theorem dX4_mount_41 : decode cX4_mount 41 = .ok (.aload_n 0, 1) := by decide +kernel
theorem dX4_mount_42 : decode cX4_mount 42 = .ok (.getfield 23, 3) := by decide +kernel
theorem dX4_mount_45 : decode cX4_mount 45 = .ok (.invokestatic 132, 3) := by decide +kernel
theorem dX4_mount_48 : decode cX4_mount 48 = .ok (.ifCond .eq 6, 3) := by decide +kernel
theorem dX4_mount_51 : decode cX4_mount 51 = .ok (.bipush (-13), 2) := by decide +kernel
theorem dX4_mount_53 : decode cX4_mount 53 = .ok (.ireturn, 1) := by decide +kernel
theorem dX4_mount_54 : decode cX4_mount 54 = .ok (.aload_n 0, 1) := by decide +kernel
theorem dX4_mount_55 : decode cX4_mount 55 = .ok (.getfield 19, 3) := by decide +kernel
theorem dX4_mount_58 : decode cX4_mount 58 = .ok (.aload_n 0, 1) := by decide +kernel
theorem dX4_mount_59 : decode cX4_mount 59 = .ok (.getfield 10, 3) := by decide +kernel
theorem dX4_mount_62 : decode cX4_mount 62 = .ok (.getfield 125, 3) := by decide +kernel
theorem dX4_mount_65 : decode cX4_mount 65 = .ok (.invokevirtual 128, 3) := by decide +kernel
theorem dX4_mount_68 : decode cX4_mount 68 = .ok (.aload_n 0, 1) := by decide +kernel
theorem dX4_mount_69 : decode cX4_mount 69 = .ok (.invokevirtual 138, 3) := by decide +kernel
theorem dX4_mount_72 : decode cX4_mount 72 = .ok (.iconst 0, 1) := by decide +kernel
theorem dX4_mount_73 : decode cX4_mount 73 = .ok (.ireturn, 1) := by decide +kernel
theorem dX4_corrupt_0 : decode cX4_corrupt 0 = .ok (.aload_n 0, 1) := by decide +kernel
theorem dX4_corrupt_1 : decode cX4_corrupt 1 = .ok (.getfield 33, 3) := by decide +kernel
theorem dX4_corrupt_4 : decode cX4_corrupt 4 = .ok (.ifCond .ne 14, 3) := by decide +kernel
theorem dX4_corrupt_7 : decode cX4_corrupt 7 = .ok (.iload_n 1, 1) := by decide +kernel
theorem dX4_corrupt_8 : decode cX4_corrupt 8 = .ok (.ifCond .lt 10, 3) := by decide +kernel
theorem dX4_corrupt_11 : decode cX4_corrupt 11 = .ok (.iload_n 1, 1) := by decide +kernel
theorem dX4_corrupt_12 : decode cX4_corrupt 12 = .ok (.sipush 332, 3) := by decide +kernel
theorem dX4_corrupt_15 : decode cX4_corrupt 15 = .ok (.if_icmp .lt 5, 3) := by decide +kernel
theorem dX4_corrupt_18 : decode cX4_corrupt 18 = .ok (.iconst 0, 1) := by decide +kernel
theorem dX4_corrupt_19 : decode cX4_corrupt 19 = .ok (.ireturn, 1) := by decide +kernel
theorem dX4_corrupt_20 : decode cX4_corrupt 20 = .ok (.aload_n 0, 1) := by decide +kernel
theorem dX4_corrupt_21 : decode cX4_corrupt 21 = .ok (.getfield 10, 3) := by decide +kernel
theorem dX4_corrupt_24 : decode cX4_corrupt 24 = .ok (.getfield 125, 3) := by decide +kernel
theorem dX4_corrupt_27 : decode cX4_corrupt 27 = .ok (.iload_n 1, 1) := by decide +kernel
theorem dX4_corrupt_28 : decode cX4_corrupt 28 = .ok (.iload_n 2, 1) := by decide +kernel
theorem dX4_corrupt_29 : decode cX4_corrupt 29 = .ok (.iastore, 1) := by decide +kernel
theorem dX4_corrupt_30 : decode cX4_corrupt 30 = .ok (.iconst 1, 1) := by decide +kernel
theorem dX4_corrupt_31 : decode cX4_corrupt 31 = .ok (.ireturn, 1) := by decide +kernel
set_option maxRecDepth 20000 in
theorem ggX4_fsck_X2_copyFrom : GoodIn wsX4_fsck wsX2_copyFrom := goodIn_r _ [9, 10, 11, 12, 13, 14, 140] (by decide +kernel) (by decide +kernel)
set_option maxRecDepth 20000 in
theorem gX4_fsck_X2_copyFrom : GoodIn wsX4_fsck (wsV RX4 128 RX2 yX2_copyFrom wsX2_copyFrom) := goodIn_app (goodIn_of _ (by decide +kernel)) ggX4_fsck_X2_copyFrom
set_option maxRecDepth 20000 in
theorem ggX4_fsck_X1_journalHolds : GoodIn wsX4_fsck wsX1_journalHolds := goodIn_r _ [19, 20, 21, 22, 18, 23, 139] (by decide +kernel) (by decide +kernel)
set_option maxRecDepth 20000 in
theorem gX4_fsck_X1_journalHolds : GoodIn wsX4_fsck (wsV RX4 119 RX1 yX1_journalHolds wsX1_journalHolds) := goodIn_app (goodIn_of _ (by decide +kernel)) ggX4_fsck_X1_journalHolds
set_option maxRecDepth 20000 in
theorem ggX4_fsck_X1_replayInto : GoodIn wsX4_fsck wsX1_replayInto := goodIn_r _ [27, 20, 139] (by decide +kernel) (by decide +kernel)
set_option maxRecDepth 20000 in
theorem gX4_fsck_X1_replayInto : GoodIn wsX4_fsck (wsV RX4 142 RX1 yX1_replayInto wsX1_replayInto) := goodIn_app (goodIn_of _ (by decide +kernel)) ggX4_fsck_X1_replayInto
set_option maxRecDepth 20000 in
theorem ggX4_fsck_X0_leastBroken : GoodIn wsX4_fsck wsX0_leastBroken := goodIn_r _ [31, 32, 33, 34, 30, 35, 36, 37, 38, 8, 39, 10, 40, 41, 42, 43, 44, 45, 46, 47, 48, 49, 50, 51, 52, 53, 54, 55, 56, 57, 58, 59, 60, 61, 62, 63, 64, 65, 66, 67, 68, 69, 70, 71, 72, 73, 74, 75, 76, 77, 78, 79, 80, 81, 82, 83, 84, 85, 86, 87, 88, 89, 90, 91, 92, 93, 94, 95, 96, 97, 98, 99, 100, 101, 102, 103, 104, 105, 106, 107, 108, 109, 110, 111, 112, 113, 114, 115, 116, 117, 118, 119, 120, 121, 122, 123, 124, 125, 126, 127, 128, 129, 130, 131, 132, 140] (by decide +kernel) (by decide +kernel)
set_option maxRecDepth 20000 in
theorem gX4_fsck_X0_leastBroken : GoodIn wsX4_fsck (va_wsS RX4 132 yX0_leastBroken wsX0_leastBroken) := goodIn_app (goodIn_of _ (by decide +kernel)) ggX4_fsck_X0_leastBroken
theorem dX4_fsck_0 : decode cX4_fsck 0 = .ok (.aload_n 0, 1) := by decide +kernel
theorem dX4_fsck_1 : decode cX4_fsck 1 = .ok (.getfield 23, 3) := by decide +kernel
theorem dX4_fsck_4 : decode cX4_fsck 4 = .ok (.aload_n 0, 1) := by decide +kernel
theorem dX4_fsck_5 : decode cX4_fsck 5 = .ok (.getfield 10, 3) := by decide +kernel
theorem dX4_fsck_8 : decode cX4_fsck 8 = .ok (.getfield 125, 3) := by decide +kernel
theorem dX4_fsck_11 : decode cX4_fsck 11 = .ok (.invokevirtual 128, 3) := by decide +kernel
theorem dX4_fsck_14 : decode cX4_fsck 14 = .ok (.aload_n 0, 1) := by decide +kernel
theorem dX4_fsck_15 : decode cX4_fsck 15 = .ok (.getfield 10, 3) := by decide +kernel
theorem dX4_fsck_18 : decode cX4_fsck 18 = .ok (.invokevirtual 119, 3) := by decide +kernel
theorem dX4_fsck_21 : decode cX4_fsck 21 = .ok (.ifCond .eq 17, 3) := by decide +kernel
theorem dX4_fsck_24 : decode cX4_fsck 24 = .ok (.aload_n 0, 1) := by decide +kernel
theorem dX4_fsck_25 : decode cX4_fsck 25 = .ok (.getfield 10, 3) := by decide +kernel
theorem dX4_fsck_28 : decode cX4_fsck 28 = .ok (.aload_n 0, 1) := by decide +kernel
theorem dX4_fsck_29 : decode cX4_fsck 29 = .ok (.getfield 23, 3) := by decide +kernel
theorem dX4_fsck_32 : decode cX4_fsck 32 = .ok (.getfield 141, 3) := by decide +kernel
theorem dX4_fsck_35 : decode cX4_fsck 35 = .ok (.invokevirtual 142, 3) := by decide +kernel
theorem dX4_fsck_38 : decode cX4_fsck 38 = .ok (.aload_n 0, 1) := by decide +kernel
theorem dX4_fsck_39 : decode cX4_fsck 39 = .ok (.getfield 23, 3) := by decide +kernel
theorem dX4_fsck_42 : decode cX4_fsck 42 = .ok (.invokestatic 132, 3) := by decide +kernel
theorem dX4_fsck_45 : decode cX4_fsck 45 = .ok (.ireturn, 1) := by decide +kernel
theorem dX4_peek_0 : decode cX4_peek 0 = .ok (.iload_n 1, 1) := by decide +kernel
theorem dX4_peek_1 : decode cX4_peek 1 = .ok (.ifCond .lt 10, 3) := by decide +kernel
theorem dX4_peek_4 : decode cX4_peek 4 = .ok (.iload_n 1, 1) := by decide +kernel
theorem dX4_peek_5 : decode cX4_peek 5 = .ok (.sipush 332, 3) := by decide +kernel
theorem dX4_peek_8 : decode cX4_peek 8 = .ok (.if_icmp .lt 5, 3) := by decide +kernel
theorem dX4_peek_11 : decode cX4_peek 11 = .ok (.iconst 0, 1) := by decide +kernel
theorem dX4_peek_12 : decode cX4_peek 12 = .ok (.ireturn, 1) := by decide +kernel
theorem dX4_peek_13 : decode cX4_peek 13 = .ok (.aload_n 0, 1) := by decide +kernel
theorem dX4_peek_14 : decode cX4_peek 14 = .ok (.getfield 10, 3) := by decide +kernel
theorem dX4_peek_17 : decode cX4_peek 17 = .ok (.getfield 125, 3) := by decide +kernel
theorem dX4_peek_20 : decode cX4_peek 20 = .ok (.iload_n 1, 1) := by decide +kernel
theorem dX4_peek_21 : decode cX4_peek 21 = .ok (.iaload, 1) := by decide +kernel
theorem dX4_peek_22 : decode cX4_peek 22 = .ok (.ireturn, 1) := by decide +kernel
set_option maxRecDepth 20000 in
theorem ggX4_startAfresh_X1_clear : GoodIn wsX4_startAfresh wsX1_clear := goodIn_r _ [8, 9, 34] (by decide +kernel) (by decide +kernel)
set_option maxRecDepth 20000 in
theorem gX4_startAfresh_X1_clear : GoodIn wsX4_startAfresh (wsV RX4 145 RX1 yX1_clear wsX1_clear) := goodIn_app (goodIn_of _ (by decide +kernel)) ggX4_startAfresh_X1_clear
set_option maxRecDepth 20000 in
theorem ggX4_startAfresh_X2_copyFrom : GoodIn wsX4_startAfresh wsX2_copyFrom := goodIn_r _ [14, 15, 16, 17, 18, 19, 35] (by decide +kernel) (by decide +kernel)
set_option maxRecDepth 20000 in
theorem gX4_startAfresh_X2_copyFrom : GoodIn wsX4_startAfresh (wsV RX4 128 RX2 yX2_copyFrom wsX2_copyFrom) := goodIn_app (goodIn_of _ (by decide +kernel)) ggX4_startAfresh_X2_copyFrom
set_option maxRecDepth 20000 in
theorem ggX4_startAfresh_X4_goUp : GoodIn wsX4_startAfresh wsX4_goUp := goodIn_r _ [24, 25, 26, 27, 28, 29, 30, 31, 32, 33] (by decide +kernel) (by decide +kernel)
set_option maxRecDepth 20000 in
theorem gX4_startAfresh_X4_goUp : GoodIn wsX4_startAfresh (wsV RX4 138 RX4 yX4_goUp wsX4_goUp) := goodIn_app (goodIn_of _ (by decide +kernel)) ggX4_startAfresh_X4_goUp
theorem dX4_startAfresh_0 : decode cX4_startAfresh 0 = .ok (.aload_n 0, 1) := by decide +kernel
theorem dX4_startAfresh_1 : decode cX4_startAfresh 1 = .ok (.getfield 10, 3) := by decide +kernel
theorem dX4_startAfresh_4 : decode cX4_startAfresh 4 = .ok (.invokevirtual 145, 3) := by decide +kernel
theorem dX4_startAfresh_7 : decode cX4_startAfresh 7 = .ok (.aload_n 0, 1) := by decide +kernel
theorem dX4_startAfresh_8 : decode cX4_startAfresh 8 = .ok (.getfield 19, 3) := by decide +kernel
theorem dX4_startAfresh_11 : decode cX4_startAfresh 11 = .ok (.aload_n 0, 1) := by decide +kernel
theorem dX4_startAfresh_12 : decode cX4_startAfresh 12 = .ok (.getfield 10, 3) := by decide +kernel
theorem dX4_startAfresh_15 : decode cX4_startAfresh 15 = .ok (.getfield 125, 3) := by decide +kernel
theorem dX4_startAfresh_18 : decode cX4_startAfresh 18 = .ok (.invokevirtual 128, 3) := by decide +kernel
theorem dX4_startAfresh_21 : decode cX4_startAfresh 21 = .ok (.aload_n 0, 1) := by decide +kernel
theorem dX4_startAfresh_22 : decode cX4_startAfresh 22 = .ok (.invokevirtual 138, 3) := by decide +kernel
theorem dX4_startAfresh_25 : decode cX4_startAfresh 25 = .ok (.return_, 1) := by decide +kernel
theorem dX4_goUp_0 : decode cX4_goUp 0 = .ok (.iconst 0, 1) := by decide +kernel
theorem dX4_goUp_1 : decode cX4_goUp 1 = .ok (.istore_n 1, 1) := by decide +kernel
theorem dX4_goUp_2 : decode cX4_goUp 2 = .ok (.iload_n 1, 1) := by decide +kernel
theorem dX4_goUp_3 : decode cX4_goUp 3 = .ok (.iconst 4, 1) := by decide +kernel
theorem dX4_goUp_4 : decode cX4_goUp 4 = .ok (.if_icmp .ge 16, 3) := by decide +kernel
theorem dX4_goUp_7 : decode cX4_goUp 7 = .ok (.aload_n 0, 1) := by decide +kernel
theorem dX4_goUp_8 : decode cX4_goUp 8 = .ok (.getfield 26, 3) := by decide +kernel
theorem dX4_goUp_11 : decode cX4_goUp 11 = .ok (.iload_n 1, 1) := by decide +kernel
theorem dX4_goUp_12 : decode cX4_goUp 12 = .ok (.iconst (-1), 1) := by decide +kernel
theorem dX4_goUp_13 : decode cX4_goUp 13 = .ok (.iastore, 1) := by decide +kernel
theorem dX4_goUp_14 : decode cX4_goUp 14 = .ok (.iinc 1 1, 3) := by decide +kernel
theorem dX4_goUp_17 : decode cX4_goUp 17 = .ok (.goto (-15), 3) := by decide +kernel
theorem dX4_goUp_20 : decode cX4_goUp 20 = .ok (.aload_n 0, 1) := by decide +kernel
theorem dX4_goUp_21 : decode cX4_goUp 21 = .ok (.iconst (-1), 1) := by decide +kernel
theorem dX4_goUp_22 : decode cX4_goUp 22 = .ok (.putfield 115, 3) := by decide +kernel
theorem dX4_goUp_25 : decode cX4_goUp 25 = .ok (.aload_n 0, 1) := by decide +kernel
theorem dX4_goUp_26 : decode cX4_goUp 26 = .ok (.iconst 1, 1) := by decide +kernel
theorem dX4_goUp_27 : decode cX4_goUp 27 = .ok (.putfield 33, 3) := by decide +kernel
theorem dX4_goUp_30 : decode cX4_goUp 30 = .ok (.return_, 1) := by decide +kernel
theorem dX4_closedHandle_0 : decode cX4_closedHandle 0 = .ok (.iconst 0, 1) := by decide +kernel
theorem dX4_closedHandle_1 : decode cX4_closedHandle 1 = .ok (.istore_n 1, 1) := by decide +kernel
theorem dX4_closedHandle_2 : decode cX4_closedHandle 2 = .ok (.iload_n 1, 1) := by decide +kernel
theorem dX4_closedHandle_3 : decode cX4_closedHandle 3 = .ok (.iconst 4, 1) := by decide +kernel
theorem dX4_closedHandle_4 : decode cX4_closedHandle 4 = .ok (.if_icmp .ge 21, 3) := by decide +kernel
theorem dX4_closedHandle_7 : decode cX4_closedHandle 7 = .ok (.aload_n 0, 1) := by decide +kernel
theorem dX4_closedHandle_8 : decode cX4_closedHandle 8 = .ok (.getfield 26, 3) := by decide +kernel
theorem dX4_closedHandle_11 : decode cX4_closedHandle 11 = .ok (.iload_n 1, 1) := by decide +kernel
theorem dX4_closedHandle_12 : decode cX4_closedHandle 12 = .ok (.iaload, 1) := by decide +kernel
theorem dX4_closedHandle_13 : decode cX4_closedHandle 13 = .ok (.iconst (-1), 1) := by decide +kernel
theorem dX4_closedHandle_14 : decode cX4_closedHandle 14 = .ok (.if_icmp .ne 5, 3) := by decide +kernel
theorem dX4_closedHandle_17 : decode cX4_closedHandle 17 = .ok (.iload_n 1, 1) := by decide +kernel
theorem dX4_closedHandle_18 : decode cX4_closedHandle 18 = .ok (.ireturn, 1) := by decide +kernel
theorem dX4_closedHandle_19 : decode cX4_closedHandle 19 = .ok (.iinc 1 1, 3) := by decide +kernel
theorem dX4_closedHandle_22 : decode cX4_closedHandle 22 = .ok (.goto (-20), 3) := by decide +kernel
theorem dX4_closedHandle_25 : decode cX4_closedHandle 25 = .ok (.iconst (-1), 1) := by decide +kernel
theorem dX4_closedHandle_26 : decode cX4_closedHandle 26 = .ok (.ireturn, 1) := by decide +kernel
theorem dX4_isOpen_0 : decode cX4_isOpen 0 = .ok (.iload_n 1, 1) := by decide +kernel
theorem dX4_isOpen_1 : decode cX4_isOpen 1 = .ok (.ifCond .lt 22, 3) := by decide +kernel
theorem dX4_isOpen_4 : decode cX4_isOpen 4 = .ok (.iload_n 1, 1) := by decide +kernel
theorem dX4_isOpen_5 : decode cX4_isOpen 5 = .ok (.iconst 4, 1) := by decide +kernel
theorem dX4_isOpen_6 : decode cX4_isOpen 6 = .ok (.if_icmp .ge 17, 3) := by decide +kernel
theorem dX4_isOpen_9 : decode cX4_isOpen 9 = .ok (.aload_n 0, 1) := by decide +kernel
theorem dX4_isOpen_10 : decode cX4_isOpen 10 = .ok (.getfield 26, 3) := by decide +kernel
theorem dX4_isOpen_13 : decode cX4_isOpen 13 = .ok (.iload_n 1, 1) := by decide +kernel
theorem dX4_isOpen_14 : decode cX4_isOpen 14 = .ok (.iaload, 1) := by decide +kernel
theorem dX4_isOpen_15 : decode cX4_isOpen 15 = .ok (.iconst (-1), 1) := by decide +kernel
theorem dX4_isOpen_16 : decode cX4_isOpen 16 = .ok (.if_icmp .eq 7, 3) := by decide +kernel
theorem dX4_isOpen_19 : decode cX4_isOpen 19 = .ok (.iconst 1, 1) := by decide +kernel
theorem dX4_isOpen_20 : decode cX4_isOpen 20 = .ok (.goto 4, 3) := by decide +kernel
theorem dX4_isOpen_23 : decode cX4_isOpen 23 = .ok (.iconst 0, 1) := by decide +kernel
theorem dX4_isOpen_24 : decode cX4_isOpen 24 = .ok (.ireturn, 1) := by decide +kernel
theorem dX4_isInUse_0 : decode cX4_isInUse 0 = .ok (.iconst 0, 1) := by decide +kernel
theorem dX4_isInUse_1 : decode cX4_isInUse 1 = .ok (.istore_n 2, 1) := by decide +kernel
theorem dX4_isInUse_2 : decode cX4_isInUse 2 = .ok (.iload_n 2, 1) := by decide +kernel
theorem dX4_isInUse_3 : decode cX4_isInUse 3 = .ok (.iconst 4, 1) := by decide +kernel
theorem dX4_isInUse_4 : decode cX4_isInUse 4 = .ok (.if_icmp .ge 21, 3) := by decide +kernel
theorem dX4_isInUse_7 : decode cX4_isInUse 7 = .ok (.aload_n 0, 1) := by decide +kernel
theorem dX4_isInUse_8 : decode cX4_isInUse 8 = .ok (.getfield 26, 3) := by decide +kernel
theorem dX4_isInUse_11 : decode cX4_isInUse 11 = .ok (.iload_n 2, 1) := by decide +kernel
theorem dX4_isInUse_12 : decode cX4_isInUse 12 = .ok (.iaload, 1) := by decide +kernel
theorem dX4_isInUse_13 : decode cX4_isInUse 13 = .ok (.iload_n 1, 1) := by decide +kernel
theorem dX4_isInUse_14 : decode cX4_isInUse 14 = .ok (.if_icmp .ne 5, 3) := by decide +kernel
theorem dX4_isInUse_17 : decode cX4_isInUse 17 = .ok (.iconst 1, 1) := by decide +kernel
theorem dX4_isInUse_18 : decode cX4_isInUse 18 = .ok (.ireturn, 1) := by decide +kernel
theorem dX4_isInUse_19 : decode cX4_isInUse 19 = .ok (.iinc 2 1, 3) := by decide +kernel
theorem dX4_isInUse_22 : decode cX4_isInUse 22 = .ok (.goto (-20), 3) := by decide +kernel
theorem dX4_isInUse_25 : decode cX4_isInUse 25 = .ok (.iconst 0, 1) := by decide +kernel
theorem dX4_isInUse_26 : decode cX4_isInUse 26 = .ok (.ireturn, 1) := by decide +kernel
theorem dX4_isName_0 : decode cX4_isName 0 = .ok (.iload_n 0, 1) := by decide +kernel
theorem dX4_isName_1 : decode cX4_isName 1 = .ok (.iconst 1, 1) := by decide +kernel
theorem dX4_isName_2 : decode cX4_isName 2 = .ok (.if_icmp .lt 13, 3) := by decide +kernel
theorem dX4_isName_5 : decode cX4_isName 5 = .ok (.iload_n 0, 1) := by decide +kernel
theorem dX4_isName_6 : decode cX4_isName 6 = .ok (.bipush 99, 2) := by decide +kernel
theorem dX4_isName_8 : decode cX4_isName 8 = .ok (.if_icmp .gt 7, 3) := by decide +kernel
theorem dX4_isName_11 : decode cX4_isName 11 = .ok (.iconst 1, 1) := by decide +kernel
theorem dX4_isName_12 : decode cX4_isName 12 = .ok (.goto 4, 3) := by decide +kernel
theorem dX4_isName_15 : decode cX4_isName 15 = .ok (.iconst 0, 1) := by decide +kernel
theorem dX4_isName_16 : decode cX4_isName 16 = .ok (.ireturn, 1) := by decide +kernel
theorem dX4_isOwner_0 : decode cX4_isOwner 0 = .ok (.iload_n 0, 1) := by decide +kernel
theorem dX4_isOwner_1 : decode cX4_isOwner 1 = .ok (.ifCond .lt 12, 3) := by decide +kernel
theorem dX4_isOwner_4 : decode cX4_isOwner 4 = .ok (.iload_n 0, 1) := by decide +kernel
theorem dX4_isOwner_5 : decode cX4_isOwner 5 = .ok (.iconst 3, 1) := by decide +kernel
theorem dX4_isOwner_6 : decode cX4_isOwner 6 = .ok (.if_icmp .ge 7, 3) := by decide +kernel
theorem dX4_isOwner_9 : decode cX4_isOwner 9 = .ok (.iconst 1, 1) := by decide +kernel
theorem dX4_isOwner_10 : decode cX4_isOwner 10 = .ok (.goto 4, 3) := by decide +kernel
theorem dX4_isOwner_13 : decode cX4_isOwner 13 = .ok (.iconst 0, 1) := by decide +kernel
theorem dX4_isOwner_14 : decode cX4_isOwner 14 = .ok (.ireturn, 1) := by decide +kernel
theorem dX4_isChanged_0 : decode cX4_isChanged 0 = .ok (.aload_n 0, 1) := by decide +kernel
theorem dX4_isChanged_1 : decode cX4_isChanged 1 = .ok (.getfield 10, 3) := by decide +kernel
theorem dX4_isChanged_4 : decode cX4_isChanged 4 = .ok (.getfield 125, 3) := by decide +kernel
theorem dX4_isChanged_7 : decode cX4_isChanged 7 = .ok (.iload_n 1, 1) := by decide +kernel
theorem dX4_isChanged_8 : decode cX4_isChanged 8 = .ok (.iaload, 1) := by decide +kernel
theorem dX4_isChanged_9 : decode cX4_isChanged 9 = .ok (.aload_n 0, 1) := by decide +kernel
theorem dX4_isChanged_10 : decode cX4_isChanged 10 = .ok (.getfield 19, 3) := by decide +kernel
theorem dX4_isChanged_13 : decode cX4_isChanged 13 = .ok (.getfield 141, 3) := by decide +kernel
theorem dX4_isChanged_16 : decode cX4_isChanged 16 = .ok (.iload_n 1, 1) := by decide +kernel
theorem dX4_isChanged_17 : decode cX4_isChanged 17 = .ok (.iaload, 1) := by decide +kernel
theorem dX4_isChanged_18 : decode cX4_isChanged 18 = .ok (.if_icmp .eq 7, 3) := by decide +kernel
theorem dX4_isChanged_21 : decode cX4_isChanged 21 = .ok (.iconst 1, 1) := by decide +kernel
theorem dX4_isChanged_22 : decode cX4_isChanged 22 = .ok (.goto 4, 3) := by decide +kernel
theorem dX4_isChanged_25 : decode cX4_isChanged 25 = .ok (.iconst 0, 1) := by decide +kernel
theorem dX4_isChanged_26 : decode cX4_isChanged 26 = .ok (.ireturn, 1) := by decide +kernel
set_option maxRecDepth 20000 in
theorem ggX4_countChanges_X4_isChanged : GoodIn wsX4_countChanges wsX4_isChanged := goodIn_r _ [5, 6, 7, 8, 9, 10, 11, 12, 13, 14, 15, 16, 17] (by decide +kernel) (by decide +kernel)
set_option maxRecDepth 20000 in
theorem gX4_countChanges_X4_isChanged : GoodIn wsX4_countChanges (wsV RX4 148 RX4 yX4_isChanged wsX4_isChanged) := goodIn_app (goodIn_of _ (by decide +kernel)) ggX4_countChanges_X4_isChanged
theorem dX4_countChanges_0 : decode cX4_countChanges 0 = .ok (.iconst 0, 1) := by decide +kernel
theorem dX4_countChanges_1 : decode cX4_countChanges 1 = .ok (.istore_n 1, 1) := by decide +kernel
theorem dX4_countChanges_2 : decode cX4_countChanges 2 = .ok (.iconst 0, 1) := by decide +kernel
theorem dX4_countChanges_3 : decode cX4_countChanges 3 = .ok (.istore_n 2, 1) := by decide +kernel
theorem dX4_countChanges_4 : decode cX4_countChanges 4 = .ok (.iload_n 2, 1) := by decide +kernel
theorem dX4_countChanges_5 : decode cX4_countChanges 5 = .ok (.bipush 110, 2) := by decide +kernel
theorem dX4_countChanges_7 : decode cX4_countChanges 7 = .ok (.if_icmp .ge 20, 3) := by decide +kernel
theorem dX4_countChanges_10 : decode cX4_countChanges 10 = .ok (.aload_n 0, 1) := by decide +kernel
theorem dX4_countChanges_11 : decode cX4_countChanges 11 = .ok (.iload_n 2, 1) := by decide +kernel
theorem dX4_countChanges_12 : decode cX4_countChanges 12 = .ok (.invokevirtual 148, 3) := by decide +kernel
theorem dX4_countChanges_15 : decode cX4_countChanges 15 = .ok (.ifCond .eq 6, 3) := by decide +kernel
theorem dX4_countChanges_18 : decode cX4_countChanges 18 = .ok (.iinc 1 1, 3) := by decide +kernel
theorem dX4_countChanges_21 : decode cX4_countChanges 21 = .ok (.iinc 2 1, 3) := by decide +kernel
theorem dX4_countChanges_24 : decode cX4_countChanges 24 = .ok (.goto (-20), 3) := by decide +kernel
theorem dX4_countChanges_27 : decode cX4_countChanges 27 = .ok (.iload_n 1, 1) := by decide +kernel
theorem dX4_countChanges_28 : decode cX4_countChanges 28 = .ok (.ireturn, 1) := by decide +kernel
set_option maxRecDepth 20000 in
theorem ggX4_writeJournal_X4_isChanged : GoodIn wsX4_writeJournal wsX4_isChanged := goodIn_r _ [7, 8, 9, 1, 2, 19, 20, 21, 22, 23, 24, 26, 25] (by decide +kernel) (by decide +kernel)
set_option maxRecDepth 20000 in
theorem gX4_writeJournal_X4_isChanged : GoodIn wsX4_writeJournal (wsV RX4 148 RX4 yX4_isChanged wsX4_isChanged) := goodIn_app (goodIn_of _ (by decide +kernel)) ggX4_writeJournal_X4_isChanged
set_option maxRecDepth 20000 in
theorem ggX4_writeJournal_X4_writeCell : GoodIn wsX4_writeJournal wsX4_writeCell := goodIn_r _ [13, 14, 8, 9, 19, 20, 21, 22, 23, 24, 26] (by decide +kernel) (by decide +kernel)
set_option maxRecDepth 20000 in
theorem gX4_writeJournal_X4_writeCell : GoodIn wsX4_writeJournal (wsV RX4 111 RX4 yX4_writeCell wsX4_writeCell) := goodIn_app (goodIn_of _ (by decide +kernel)) ggX4_writeJournal_X4_writeCell
set_option maxRecDepth 20000 in
theorem ggX4_writeJournal_X1_nextCheck : GoodIn wsX4_writeJournal wsX1_nextCheck := goodIn_r _ [18] (by decide +kernel) (by decide +kernel)
set_option maxRecDepth 20000 in
theorem gX4_writeJournal_X1_nextCheck : GoodIn wsX4_writeJournal (va_wsS RX4 151 yX1_nextCheck wsX1_nextCheck) := goodIn_app (goodIn_of _ (by decide +kernel)) ggX4_writeJournal_X1_nextCheck
theorem dX4_writeJournal_0 : decode cX4_writeJournal 0 = .ok (.iload_n 1, 1) := by decide +kernel
theorem dX4_writeJournal_1 : decode cX4_writeJournal 1 = .ok (.istore_n 2, 1) := by decide +kernel
theorem dX4_writeJournal_2 : decode cX4_writeJournal 2 = .ok (.bipush 112, 2) := by decide +kernel
theorem dX4_writeJournal_4 : decode cX4_writeJournal 4 = .ok (.istore_n 3, 1) := by decide +kernel
theorem dX4_writeJournal_5 : decode cX4_writeJournal 5 = .ok (.iconst 0, 1) := by decide +kernel
theorem dX4_writeJournal_6 : decode cX4_writeJournal 6 = .ok (.istore 4, 2) := by decide +kernel
theorem dX4_writeJournal_8 : decode cX4_writeJournal 8 = .ok (.iload 4, 2) := by decide +kernel
theorem dX4_writeJournal_10 : decode cX4_writeJournal 10 = .ok (.bipush 110, 2) := by decide +kernel
theorem dX4_writeJournal_12 : decode cX4_writeJournal 12 = .ok (.if_icmp .ge 66, 3) := by decide +kernel
theorem dX4_writeJournal_15 : decode cX4_writeJournal 15 = .ok (.aload_n 0, 1) := by decide +kernel
theorem dX4_writeJournal_16 : decode cX4_writeJournal 16 = .ok (.iload 4, 2) := by decide +kernel
theorem dX4_writeJournal_18 : decode cX4_writeJournal 18 = .ok (.invokevirtual 148, 3) := by decide +kernel
theorem dX4_writeJournal_21 : decode cX4_writeJournal 21 = .ok (.ifCond .eq 51, 3) := by decide +kernel
theorem dX4_writeJournal_24 : decode cX4_writeJournal 24 = .ok (.aload_n 0, 1) := by decide +kernel
theorem dX4_writeJournal_25 : decode cX4_writeJournal 25 = .ok (.getfield 19, 3) := by decide +kernel
theorem dX4_writeJournal_28 : decode cX4_writeJournal 28 = .ok (.getfield 141, 3) := by decide +kernel
theorem dX4_writeJournal_31 : decode cX4_writeJournal 31 = .ok (.iload 4, 2) := by decide +kernel
theorem dX4_writeJournal_33 : decode cX4_writeJournal 33 = .ok (.iaload, 1) := by decide +kernel
theorem dX4_writeJournal_34 : decode cX4_writeJournal 34 = .ok (.istore 5, 2) := by decide +kernel
theorem dX4_writeJournal_36 : decode cX4_writeJournal 36 = .ok (.aload_n 0, 1) := by decide +kernel
theorem dX4_writeJournal_37 : decode cX4_writeJournal 37 = .ok (.iload_n 3, 1) := by decide +kernel
theorem dX4_writeJournal_38 : decode cX4_writeJournal 38 = .ok (.iload 4, 2) := by decide +kernel
theorem dX4_writeJournal_40 : decode cX4_writeJournal 40 = .ok (.invokevirtual 111, 3) := by decide +kernel
theorem dX4_writeJournal_43 : decode cX4_writeJournal 43 = .ok (.ifCond .eq 15, 3) := by decide +kernel
theorem dX4_writeJournal_46 : decode cX4_writeJournal 46 = .ok (.aload_n 0, 1) := by decide +kernel
theorem dX4_writeJournal_47 : decode cX4_writeJournal 47 = .ok (.iload_n 3, 1) := by decide +kernel
theorem dX4_writeJournal_48 : decode cX4_writeJournal 48 = .ok (.iconst 1, 1) := by decide +kernel
theorem dX4_writeJournal_49 : decode cX4_writeJournal 49 = .ok (.iadd, 1) := by decide +kernel
theorem dX4_writeJournal_50 : decode cX4_writeJournal 50 = .ok (.iload 5, 2) := by decide +kernel
theorem dX4_writeJournal_52 : decode cX4_writeJournal 52 = .ok (.invokevirtual 111, 3) := by decide +kernel
theorem dX4_writeJournal_55 : decode cX4_writeJournal 55 = .ok (.ifCond .ne 5, 3) := by decide +kernel
theorem dX4_writeJournal_58 : decode cX4_writeJournal 58 = .ok (.iconst 0, 1) := by decide +kernel
theorem dX4_writeJournal_59 : decode cX4_writeJournal 59 = .ok (.ireturn, 1) := by decide +kernel
theorem dX4_writeJournal_60 : decode cX4_writeJournal 60 = .ok (.iload_n 2, 1) := by decide +kernel
theorem dX4_writeJournal_61 : decode cX4_writeJournal 61 = .ok (.iload 4, 2) := by decide +kernel
theorem dX4_writeJournal_63 : decode cX4_writeJournal 63 = .ok (.iload 5, 2) := by decide +kernel
theorem dX4_writeJournal_65 : decode cX4_writeJournal 65 = .ok (.invokestatic 151, 3) := by decide +kernel
theorem dX4_writeJournal_68 : decode cX4_writeJournal 68 = .ok (.istore_n 2, 1) := by decide +kernel
theorem dX4_writeJournal_69 : decode cX4_writeJournal 69 = .ok (.iinc 3 2, 3) := by decide +kernel
theorem dX4_writeJournal_72 : decode cX4_writeJournal 72 = .ok (.iinc 4 1, 3) := by decide +kernel
theorem dX4_writeJournal_75 : decode cX4_writeJournal 75 = .ok (.goto (-67), 3) := by decide +kernel
theorem dX4_writeJournal_78 : decode cX4_writeJournal 78 = .ok (.aload_n 0, 1) := by decide +kernel
theorem dX4_writeJournal_79 : decode cX4_writeJournal 79 = .ok (.bipush 111, 2) := by decide +kernel
theorem dX4_writeJournal_81 : decode cX4_writeJournal 81 = .ok (.iload_n 2, 1) := by decide +kernel
theorem dX4_writeJournal_82 : decode cX4_writeJournal 82 = .ok (.invokevirtual 111, 3) := by decide +kernel
theorem dX4_writeJournal_85 : decode cX4_writeJournal 85 = .ok (.ifCond .eq 17, 3) := by decide +kernel
theorem dX4_writeJournal_88 : decode cX4_writeJournal 88 = .ok (.aload_n 0, 1) := by decide +kernel
theorem dX4_writeJournal_89 : decode cX4_writeJournal 89 = .ok (.bipush 110, 2) := by decide +kernel
theorem dX4_writeJournal_91 : decode cX4_writeJournal 91 = .ok (.iload_n 1, 1) := by decide +kernel
theorem dX4_writeJournal_92 : decode cX4_writeJournal 92 = .ok (.invokevirtual 111, 3) := by decide +kernel
theorem dX4_writeJournal_95 : decode cX4_writeJournal 95 = .ok (.ifCond .eq 7, 3) := by decide +kernel
theorem dX4_writeJournal_98 : decode cX4_writeJournal 98 = .ok (.iconst 1, 1) := by decide +kernel
theorem dX4_writeJournal_99 : decode cX4_writeJournal 99 = .ok (.goto 4, 3) := by decide +kernel
theorem dX4_writeJournal_102 : decode cX4_writeJournal 102 = .ok (.iconst 0, 1) := by decide +kernel
theorem dX4_writeJournal_103 : decode cX4_writeJournal 103 = .ok (.ireturn, 1) := by decide +kernel
set_option maxRecDepth 20000 in
theorem ggX4_writeHome_X4_isChanged : GoodIn wsX4_writeHome wsX4_isChanged := goodIn_r _ [7, 8, 9, 1, 2, 15, 16, 17, 18, 19, 20, 22, 21] (by decide +kernel) (by decide +kernel)
set_option maxRecDepth 20000 in
theorem gX4_writeHome_X4_isChanged : GoodIn wsX4_writeHome (wsV RX4 148 RX4 yX4_isChanged wsX4_isChanged) := goodIn_app (goodIn_of _ (by decide +kernel)) ggX4_writeHome_X4_isChanged
set_option maxRecDepth 20000 in
theorem ggX4_writeHome_X4_writeCell : GoodIn wsX4_writeHome wsX4_writeCell := goodIn_r _ [13, 14, 8, 9, 15, 16, 17, 18, 19, 20, 22] (by decide +kernel) (by decide +kernel)
set_option maxRecDepth 20000 in
theorem gX4_writeHome_X4_writeCell : GoodIn wsX4_writeHome (wsV RX4 111 RX4 yX4_writeCell wsX4_writeCell) := goodIn_app (goodIn_of _ (by decide +kernel)) ggX4_writeHome_X4_writeCell
theorem dX4_writeHome_0 : decode cX4_writeHome 0 = .ok (.iconst 0, 1) := by decide +kernel
theorem dX4_writeHome_1 : decode cX4_writeHome 1 = .ok (.istore_n 1, 1) := by decide +kernel
theorem dX4_writeHome_2 : decode cX4_writeHome 2 = .ok (.iload_n 1, 1) := by decide +kernel
theorem dX4_writeHome_3 : decode cX4_writeHome 3 = .ok (.bipush 110, 2) := by decide +kernel
theorem dX4_writeHome_5 : decode cX4_writeHome 5 = .ok (.if_icmp .ge 36, 3) := by decide +kernel
theorem dX4_writeHome_8 : decode cX4_writeHome 8 = .ok (.aload_n 0, 1) := by decide +kernel
theorem dX4_writeHome_9 : decode cX4_writeHome 9 = .ok (.iload_n 1, 1) := by decide +kernel
theorem dX4_writeHome_10 : decode cX4_writeHome 10 = .ok (.invokevirtual 148, 3) := by decide +kernel
theorem dX4_writeHome_13 : decode cX4_writeHome 13 = .ok (.ifCond .eq 22, 3) := by decide +kernel
theorem dX4_writeHome_16 : decode cX4_writeHome 16 = .ok (.aload_n 0, 1) := by decide +kernel
theorem dX4_writeHome_17 : decode cX4_writeHome 17 = .ok (.iload_n 1, 1) := by decide +kernel
theorem dX4_writeHome_18 : decode cX4_writeHome 18 = .ok (.aload_n 0, 1) := by decide +kernel
theorem dX4_writeHome_19 : decode cX4_writeHome 19 = .ok (.getfield 19, 3) := by decide +kernel
theorem dX4_writeHome_22 : decode cX4_writeHome 22 = .ok (.getfield 141, 3) := by decide +kernel
theorem dX4_writeHome_25 : decode cX4_writeHome 25 = .ok (.iload_n 1, 1) := by decide +kernel
theorem dX4_writeHome_26 : decode cX4_writeHome 26 = .ok (.iaload, 1) := by decide +kernel
theorem dX4_writeHome_27 : decode cX4_writeHome 27 = .ok (.invokevirtual 111, 3) := by decide +kernel
theorem dX4_writeHome_30 : decode cX4_writeHome 30 = .ok (.ifCond .ne 5, 3) := by decide +kernel
theorem dX4_writeHome_33 : decode cX4_writeHome 33 = .ok (.iconst 0, 1) := by decide +kernel
theorem dX4_writeHome_34 : decode cX4_writeHome 34 = .ok (.ireturn, 1) := by decide +kernel
theorem dX4_writeHome_35 : decode cX4_writeHome 35 = .ok (.iinc 1 1, 3) := by decide +kernel
theorem dX4_writeHome_38 : decode cX4_writeHome 38 = .ok (.goto (-36), 3) := by decide +kernel
theorem dX4_writeHome_41 : decode cX4_writeHome 41 = .ok (.iconst 1, 1) := by decide +kernel
theorem dX4_writeHome_42 : decode cX4_writeHome 42 = .ok (.ireturn, 1) := by decide +kernel
theorem dX4_writeCell_0 : decode cX4_writeCell 0 = .ok (.aload_n 0, 1) := by decide +kernel
theorem dX4_writeCell_1 : decode cX4_writeCell 1 = .ok (.getfield 115, 3) := by decide +kernel
theorem dX4_writeCell_4 : decode cX4_writeCell 4 = .ok (.ifCond .ne 5, 3) := by decide +kernel
theorem dX4_writeCell_7 : decode cX4_writeCell 7 = .ok (.iconst 0, 1) := by decide +kernel
theorem dX4_writeCell_8 : decode cX4_writeCell 8 = .ok (.ireturn, 1) := by decide +kernel
theorem dX4_writeCell_9 : decode cX4_writeCell 9 = .ok (.aload_n 0, 1) := by decide +kernel
theorem dX4_writeCell_10 : decode cX4_writeCell 10 = .ok (.getfield 115, 3) := by decide +kernel
theorem dX4_writeCell_13 : decode cX4_writeCell 13 = .ok (.ifCond .le 13, 3) := by decide +kernel
theorem dX4_writeCell_16 : decode cX4_writeCell 16 = .ok (.aload_n 0, 1) := by decide +kernel
theorem dX4_writeCell_17 : decode cX4_writeCell 17 = .ok (.dup, 1) := by decide +kernel
theorem dX4_writeCell_18 : decode cX4_writeCell 18 = .ok (.getfield 115, 3) := by decide +kernel
theorem dX4_writeCell_21 : decode cX4_writeCell 21 = .ok (.iconst 1, 1) := by decide +kernel
theorem dX4_writeCell_22 : decode cX4_writeCell 22 = .ok (.isub, 1) := by decide +kernel
theorem dX4_writeCell_23 : decode cX4_writeCell 23 = .ok (.putfield 115, 3) := by decide +kernel
theorem dX4_writeCell_26 : decode cX4_writeCell 26 = .ok (.aload_n 0, 1) := by decide +kernel
theorem dX4_writeCell_27 : decode cX4_writeCell 27 = .ok (.getfield 10, 3) := by decide +kernel
theorem dX4_writeCell_30 : decode cX4_writeCell 30 = .ok (.getfield 125, 3) := by decide +kernel
theorem dX4_writeCell_33 : decode cX4_writeCell 33 = .ok (.iload_n 1, 1) := by decide +kernel
theorem dX4_writeCell_34 : decode cX4_writeCell 34 = .ok (.iload_n 2, 1) := by decide +kernel
theorem dX4_writeCell_35 : decode cX4_writeCell 35 = .ok (.iastore, 1) := by decide +kernel
theorem dX4_writeCell_36 : decode cX4_writeCell 36 = .ok (.iconst 1, 1) := by decide +kernel
theorem dX4_writeCell_37 : decode cX4_writeCell 37 = .ok (.ireturn, 1) := by decide +kernel
end
section
set_option maxRecDepth 20000 in
theorem ggX5_init_X5_format : GoodIn wsX5_init wsX5_format := goodIn_r _ [18, 5, 6, 19, 20, 7, 21, 22, 17, 23, 24, 25, 26, 27, 28, 29, 30, 31, 32, 33, 34, 35] (by decide +kernel) (by decide +kernel)
set_option maxRecDepth 20000 in
theorem gX5_init_X5_format : GoodIn wsX5_init (wsV RX5 35 RX5 yX5_format wsX5_format) := goodIn_app (goodIn_of _ (by decide +kernel)) ggX5_init_X5_format
theorem dX5_init_0 : decode cX5_init 0 = .ok (.aload_n 0, 1) := by decide +kernel
theorem dX5_init_1 : decode cX5_init 1 = .ok (.invokespecial 1, 3) := by decide +kernel
theorem dX5_init_4 : decode cX5_init 4 = .ok (.aload_n 0, 1) := by decide +kernel
theorem dX5_init_5 : decode cX5_init 5 = .ok (.sipush 332, 3) := by decide +kernel
theorem dX5_init_8 : decode cX5_init 8 = .ok (.newarray .int, 2) := by decide +kernel
theorem dX5_init_10 : decode cX5_init 10 = .ok (.putfield 7, 3) := by decide +kernel
theorem dX5_init_13 : decode cX5_init 13 = .ok (.aload_n 0, 1) := by decide +kernel
theorem dX5_init_14 : decode cX5_init 14 = .ok (.bipush 110, 2) := by decide +kernel
theorem dX5_init_16 : decode cX5_init 16 = .ok (.newarray .int, 2) := by decide +kernel
theorem dX5_init_18 : decode cX5_init 18 = .ok (.putfield 13, 3) := by decide +kernel
theorem dX5_init_21 : decode cX5_init 21 = .ok (.aload_n 0, 1) := by decide +kernel
theorem dX5_init_22 : decode cX5_init 22 = .ok (.iconst 4, 1) := by decide +kernel
theorem dX5_init_23 : decode cX5_init 23 = .ok (.newarray .int, 2) := by decide +kernel
theorem dX5_init_25 : decode cX5_init 25 = .ok (.putfield 16, 3) := by decide +kernel
theorem dX5_init_28 : decode cX5_init 28 = .ok (.aload_n 0, 1) := by decide +kernel
theorem dX5_init_29 : decode cX5_init 29 = .ok (.bipush 110, 2) := by decide +kernel
theorem dX5_init_31 : decode cX5_init 31 = .ok (.newarray .int, 2) := by decide +kernel
theorem dX5_init_33 : decode cX5_init 33 = .ok (.putfield 19, 3) := by decide +kernel
theorem dX5_init_36 : decode cX5_init 36 = .ok (.aload_n 0, 1) := by decide +kernel
theorem dX5_init_37 : decode cX5_init 37 = .ok (.bipush 32, 2) := by decide +kernel
theorem dX5_init_39 : decode cX5_init 39 = .ok (.newarray .int, 2) := by decide +kernel
theorem dX5_init_41 : decode cX5_init 41 = .ok (.putfield 22, 3) := by decide +kernel
theorem dX5_init_44 : decode cX5_init 44 = .ok (.aload_n 0, 1) := by decide +kernel
theorem dX5_init_45 : decode cX5_init 45 = .ok (.bipush 64, 2) := by decide +kernel
theorem dX5_init_47 : decode cX5_init 47 = .ok (.newarray .boolean, 2) := by decide +kernel
theorem dX5_init_49 : decode cX5_init 49 = .ok (.putfield 25, 3) := by decide +kernel
theorem dX5_init_52 : decode cX5_init 52 = .ok (.aload_n 0, 1) := by decide +kernel
theorem dX5_init_53 : decode cX5_init 53 = .ok (.iconst 4, 1) := by decide +kernel
theorem dX5_init_54 : decode cX5_init 54 = .ok (.newarray .int, 2) := by decide +kernel
theorem dX5_init_56 : decode cX5_init 56 = .ok (.putfield 29, 3) := by decide +kernel
theorem dX5_init_59 : decode cX5_init 59 = .ok (.aload_n 0, 1) := by decide +kernel
theorem dX5_init_60 : decode cX5_init 60 = .ok (.bipush 110, 2) := by decide +kernel
theorem dX5_init_62 : decode cX5_init 62 = .ok (.newarray .int, 2) := by decide +kernel
theorem dX5_init_64 : decode cX5_init 64 = .ok (.putfield 32, 3) := by decide +kernel
theorem dX5_init_67 : decode cX5_init 67 = .ok (.aload_n 0, 1) := by decide +kernel
theorem dX5_init_68 : decode cX5_init 68 = .ok (.invokevirtual 35, 3) := by decide +kernel
theorem dX5_init_71 : decode cX5_init 71 = .ok (.return_, 1) := by decide +kernel
theorem dX5_within_0 : decode cX5_within 0 = .ok (.iload_n 0, 1) := by decide +kernel
theorem dX5_within_1 : decode cX5_within 1 = .ok (.iload_n 1, 1) := by decide +kernel
theorem dX5_within_2 : decode cX5_within 2 = .ok (.if_icmp .lt 12, 3) := by decide +kernel
theorem dX5_within_5 : decode cX5_within 5 = .ok (.iload_n 0, 1) := by decide +kernel
theorem dX5_within_6 : decode cX5_within 6 = .ok (.iload_n 2, 1) := by decide +kernel
theorem dX5_within_7 : decode cX5_within 7 = .ok (.if_icmp .gt 7, 3) := by decide +kernel
theorem dX5_within_10 : decode cX5_within 10 = .ok (.iconst 1, 1) := by decide +kernel
theorem dX5_within_11 : decode cX5_within 11 = .ok (.goto 4, 3) := by decide +kernel
theorem dX5_within_14 : decode cX5_within 14 = .ok (.iconst 0, 1) := by decide +kernel
theorem dX5_within_15 : decode cX5_within 15 = .ok (.ireturn, 1) := by decide +kernel
set_option maxRecDepth 20000 in
theorem ggX5_format_X5_within : GoodIn wsX5_format wsX5_within := goodIn_r _ [9] (by decide +kernel) (by decide +kernel)
set_option maxRecDepth 20000 in
theorem gX5_format_X5_within : GoodIn wsX5_format (va_wsS RX5 38 yX5_within wsX5_within) := goodIn_app (goodIn_of _ (by decide +kernel)) ggX5_format_X5_within
theorem dX5_format_0 : decode cX5_format 0 = .ok (.iconst 0, 1) := by decide +kernel
theorem dX5_format_1 : decode cX5_format 1 = .ok (.istore_n 1, 1) := by decide +kernel
theorem dX5_format_2 : decode cX5_format 2 = .ok (.iload_n 1, 1) := by decide +kernel
theorem dX5_format_3 : decode cX5_format 3 = .ok (.sipush 332, 3) := by decide +kernel
theorem dX5_format_6 : decode cX5_format 6 = .ok (.if_icmp .ge 32, 3) := by decide +kernel
theorem dX5_format_9 : decode cX5_format 9 = .ok (.aload_n 0, 1) := by decide +kernel
theorem dX5_format_10 : decode cX5_format 10 = .ok (.getfield 7, 3) := by decide +kernel
theorem dX5_format_13 : decode cX5_format 13 = .ok (.iload_n 1, 1) := by decide +kernel
theorem dX5_format_14 : decode cX5_format 14 = .ok (.iload_n 1, 1) := by decide +kernel
theorem dX5_format_15 : decode cX5_format 15 = .ok (.bipush 42, 2) := by decide +kernel
theorem dX5_format_17 : decode cX5_format 17 = .ok (.bipush 44, 2) := by decide +kernel
theorem dX5_format_19 : decode cX5_format 19 = .ok (.invokestatic 38, 3) := by decide +kernel
theorem dX5_format_22 : decode cX5_format 22 = .ok (.ifCond .eq 8, 3) := by decide +kernel
theorem dX5_format_25 : decode cX5_format 25 = .ok (.bipush 32, 2) := by decide +kernel
theorem dX5_format_27 : decode cX5_format 27 = .ok (.goto 4, 3) := by decide +kernel
theorem dX5_format_30 : decode cX5_format 30 = .ok (.iconst 0, 1) := by decide +kernel
theorem dX5_format_31 : decode cX5_format 31 = .ok (.iastore, 1) := by decide +kernel
theorem dX5_format_32 : decode cX5_format 32 = .ok (.iinc 1 1, 3) := by decide +kernel
theorem dX5_format_35 : decode cX5_format 35 = .ok (.goto (-33), 3) := by decide +kernel
theorem dX5_format_38 : decode cX5_format 38 = .ok (.iconst 0, 1) := by decide +kernel
theorem dX5_format_39 : decode cX5_format 39 = .ok (.istore_n 1, 1) := by decide +kernel
theorem dX5_format_40 : decode cX5_format 40 = .ok (.iload_n 1, 1) := by decide +kernel
theorem dX5_format_41 : decode cX5_format 41 = .ok (.bipush 110, 2) := by decide +kernel
theorem dX5_format_43 : decode cX5_format 43 = .ok (.if_icmp .ge 21, 3) := by decide +kernel
theorem dX5_format_46 : decode cX5_format 46 = .ok (.aload_n 0, 1) := by decide +kernel
theorem dX5_format_47 : decode cX5_format 47 = .ok (.getfield 13, 3) := by decide +kernel
theorem dX5_format_50 : decode cX5_format 50 = .ok (.iload_n 1, 1) := by decide +kernel
theorem dX5_format_51 : decode cX5_format 51 = .ok (.aload_n 0, 1) := by decide +kernel
theorem dX5_format_52 : decode cX5_format 52 = .ok (.getfield 7, 3) := by decide +kernel
theorem dX5_format_55 : decode cX5_format 55 = .ok (.iload_n 1, 1) := by decide +kernel
theorem dX5_format_56 : decode cX5_format 56 = .ok (.iaload, 1) := by decide +kernel
theorem dX5_format_57 : decode cX5_format 57 = .ok (.iastore, 1) := by decide +kernel
theorem dX5_format_58 : decode cX5_format 58 = .ok (.iinc 1 1, 3) := by decide +kernel
theorem dX5_format_61 : decode cX5_format 61 = .ok (.goto (-21), 3) := by decide +kernel
theorem dX5_format_64 : decode cX5_format 64 = .ok (.aload_n 0, 1) := by decide +kernel
theorem dX5_format_65 : decode cX5_format 65 = .ok (.iconst 1, 1) := by decide +kernel
theorem dX5_format_66 : decode cX5_format 66 = .ok (.putfield 42, 3) := by decide +kernel
theorem dX5_format_69 : decode cX5_format 69 = .ok (.aload_n 0, 1) := by decide +kernel
theorem dX5_format_70 : decode cX5_format 70 = .ok (.iconst (-1), 1) := by decide +kernel
theorem dX5_format_71 : decode cX5_format 71 = .ok (.putfield 46, 3) := by decide +kernel
theorem dX5_format_74 : decode cX5_format 74 = .ok (.iconst 0, 1) := by decide +kernel
theorem dX5_format_75 : decode cX5_format 75 = .ok (.istore_n 1, 1) := by decide +kernel
theorem dX5_format_76 : decode cX5_format 76 = .ok (.iload_n 1, 1) := by decide +kernel
theorem dX5_format_77 : decode cX5_format 77 = .ok (.iconst 4, 1) := by decide +kernel
theorem dX5_format_78 : decode cX5_format 78 = .ok (.if_icmp .ge 16, 3) := by decide +kernel
theorem dX5_format_81 : decode cX5_format 81 = .ok (.aload_n 0, 1) := by decide +kernel
theorem dX5_format_82 : decode cX5_format 82 = .ok (.getfield 16, 3) := by decide +kernel
theorem dX5_format_85 : decode cX5_format 85 = .ok (.iload_n 1, 1) := by decide +kernel
theorem dX5_format_86 : decode cX5_format 86 = .ok (.iconst 0, 1) := by decide +kernel
theorem dX5_format_87 : decode cX5_format 87 = .ok (.iastore, 1) := by decide +kernel
theorem dX5_format_88 : decode cX5_format 88 = .ok (.iinc 1 1, 3) := by decide +kernel
theorem dX5_format_91 : decode cX5_format 91 = .ok (.goto (-15), 3) := by decide +kernel
theorem dX5_format_94 : decode cX5_format 94 = .ok (.return_, 1) := by decide +kernel
theorem dX5_start_0 : decode cX5_start 0 = .ok (.iload_n 0, 1) := by decide +kernel
theorem dX5_start_1 : decode cX5_start 1 = .ok (.iconst 1, 1) := by decide +kernel
theorem dX5_start_2 : decode cX5_start 2 = .ok (.isub, 1) := by decide +kernel
theorem dX5_start_3 : decode cX5_start 3 = .ok (.bipush 32, 2) := by decide +kernel
theorem dX5_start_5 : decode cX5_start 5 = .ok (.irem, 1) := by decide +kernel
theorem dX5_start_6 : decode cX5_start 6 = .ok (.ireturn, 1) := by decide +kernel
theorem dX5_order_0 : decode cX5_order 0 = .ok (.iload_n 0, 1) := by decide +kernel
theorem dX5_order_1 : decode cX5_order 1 = .ok (.iconst 1, 1) := by decide +kernel
theorem dX5_order_2 : decode cX5_order 2 = .ok (.isub, 1) := by decide +kernel
theorem dX5_order_3 : decode cX5_order 3 = .ok (.bipush 32, 2) := by decide +kernel
theorem dX5_order_5 : decode cX5_order 5 = .ok (.idiv, 1) := by decide +kernel
theorem dX5_order_6 : decode cX5_order 6 = .ok (.ireturn, 1) := by decide +kernel
set_option maxRecDepth 20000 in
theorem ggX5_size_X5_order : GoodIn wsX5_size wsX5_order := goodIn_r _ [4] (by decide +kernel) (by decide +kernel)
set_option maxRecDepth 20000 in
theorem gX5_size_X5_order : GoodIn wsX5_size (va_wsS RX5 50 yX5_order wsX5_order) := goodIn_app (goodIn_of _ (by decide +kernel)) ggX5_size_X5_order
theorem dX5_size_0 : decode cX5_size 0 = .ok (.iload_n 0, 1) := by decide +kernel
theorem dX5_size_1 : decode cX5_size 1 = .ok (.ifCond .ne 7, 3) := by decide +kernel
theorem dX5_size_4 : decode cX5_size 4 = .ok (.iconst 0, 1) := by decide +kernel
theorem dX5_size_5 : decode cX5_size 5 = .ok (.goto 9, 3) := by decide +kernel
theorem dX5_size_8 : decode cX5_size 8 = .ok (.iconst 1, 1) := by decide +kernel
theorem dX5_size_9 : decode cX5_size 9 = .ok (.iload_n 0, 1) := by decide +kernel
theorem dX5_size_10 : decode cX5_size 10 = .ok (.invokestatic 50, 3) := by decide +kernel
theorem dX5_size_13 : decode cX5_size 13 = .ok (.ishl, 1) := by decide +kernel
theorem dX5_size_14 : decode cX5_size 14 = .ok (.ireturn, 1) := by decide +kernel
set_option maxRecDepth 20000 in
theorem ggX5_isRun_X5_within : GoodIn wsX5_isRun wsX5_within := goodIn_r _ [4] (by decide +kernel) (by decide +kernel)
set_option maxRecDepth 20000 in
theorem gX5_isRun_X5_within : GoodIn wsX5_isRun (va_wsS RX5 38 yX5_within wsX5_within) := goodIn_app (goodIn_of _ (by decide +kernel)) ggX5_isRun_X5_within
set_option maxRecDepth 20000 in
theorem ggX5_isRun_X5_start : GoodIn wsX5_isRun wsX5_start := goodIn_r _ [7] (by decide +kernel) (by decide +kernel)
set_option maxRecDepth 20000 in
theorem gX5_isRun_X5_start : GoodIn wsX5_isRun (va_wsS RX5 54 yX5_start wsX5_start) := goodIn_app (goodIn_of _ (by decide +kernel)) ggX5_isRun_X5_start
set_option maxRecDepth 20000 in
theorem ggX5_isRun_X5_order : GoodIn wsX5_isRun wsX5_order := goodIn_r _ [10] (by decide +kernel) (by decide +kernel)
set_option maxRecDepth 20000 in
theorem gX5_isRun_X5_order : GoodIn wsX5_isRun (va_wsS RX5 50 yX5_order wsX5_order) := goodIn_app (goodIn_of _ (by decide +kernel)) ggX5_isRun_X5_order
theorem dX5_isRun_0 : decode cX5_isRun 0 = .ok (.iload_n 0, 1) := by decide +kernel
theorem dX5_isRun_1 : decode cX5_isRun 1 = .ok (.iconst 1, 1) := by decide +kernel
theorem dX5_isRun_2 : decode cX5_isRun 2 = .ok (.sipush 192, 3) := by decide +kernel
theorem dX5_isRun_5 : decode cX5_isRun 5 = .ok (.invokestatic 38, 3) := by decide +kernel
theorem dX5_isRun_8 : decode cX5_isRun 8 = .ok (.ifCond .eq 37, 3) := by decide +kernel
theorem dX5_isRun_11 : decode cX5_isRun 11 = .ok (.iload_n 0, 1) := by decide +kernel
theorem dX5_isRun_12 : decode cX5_isRun 12 = .ok (.invokestatic 54, 3) := by decide +kernel
theorem dX5_isRun_15 : decode cX5_isRun 15 = .ok (.iconst 1, 1) := by decide +kernel
theorem dX5_isRun_16 : decode cX5_isRun 16 = .ok (.iload_n 0, 1) := by decide +kernel
theorem dX5_isRun_17 : decode cX5_isRun 17 = .ok (.invokestatic 50, 3) := by decide +kernel
theorem dX5_isRun_20 : decode cX5_isRun 20 = .ok (.ishl, 1) := by decide +kernel
theorem dX5_isRun_21 : decode cX5_isRun 21 = .ok (.irem, 1) := by decide +kernel
theorem dX5_isRun_22 : decode cX5_isRun 22 = .ok (.ifCond .ne 23, 3) := by decide +kernel
theorem dX5_isRun_25 : decode cX5_isRun 25 = .ok (.iload_n 0, 1) := by decide +kernel
theorem dX5_isRun_26 : decode cX5_isRun 26 = .ok (.invokestatic 54, 3) := by decide +kernel
theorem dX5_isRun_29 : decode cX5_isRun 29 = .ok (.iconst 1, 1) := by decide +kernel
theorem dX5_isRun_30 : decode cX5_isRun 30 = .ok (.iload_n 0, 1) := by decide +kernel
theorem dX5_isRun_31 : decode cX5_isRun 31 = .ok (.invokestatic 50, 3) := by decide +kernel
theorem dX5_isRun_34 : decode cX5_isRun 34 = .ok (.ishl, 1) := by decide +kernel
theorem dX5_isRun_35 : decode cX5_isRun 35 = .ok (.iadd, 1) := by decide +kernel
theorem dX5_isRun_36 : decode cX5_isRun 36 = .ok (.bipush 32, 2) := by decide +kernel
theorem dX5_isRun_38 : decode cX5_isRun 38 = .ok (.if_icmp .gt 7, 3) := by decide +kernel
theorem dX5_isRun_41 : decode cX5_isRun 41 = .ok (.iconst 1, 1) := by decide +kernel
theorem dX5_isRun_42 : decode cX5_isRun 42 = .ok (.goto 4, 3) := by decide +kernel
theorem dX5_isRun_45 : decode cX5_isRun 45 = .ok (.iconst 0, 1) := by decide +kernel
theorem dX5_isRun_46 : decode cX5_isRun 46 = .ok (.ireturn, 1) := by decide +kernel
theorem dX5_allFree_0 : decode cX5_allFree 0 = .ok (.iconst 1, 1) := by decide +kernel
theorem dX5_allFree_1 : decode cX5_allFree 1 = .ok (.istore_n 3, 1) := by decide +kernel
theorem dX5_allFree_2 : decode cX5_allFree 2 = .ok (.iload_n 1, 1) := by decide +kernel
theorem dX5_allFree_3 : decode cX5_allFree 3 = .ok (.istore 4, 2) := by decide +kernel
theorem dX5_allFree_5 : decode cX5_allFree 5 = .ok (.iload 4, 2) := by decide +kernel
theorem dX5_allFree_7 : decode cX5_allFree 7 = .ok (.iload_n 1, 1) := by decide +kernel
theorem dX5_allFree_8 : decode cX5_allFree 8 = .ok (.iconst 1, 1) := by decide +kernel
theorem dX5_allFree_9 : decode cX5_allFree 9 = .ok (.iload_n 2, 1) := by decide +kernel
theorem dX5_allFree_10 : decode cX5_allFree 10 = .ok (.ishl, 1) := by decide +kernel
theorem dX5_allFree_11 : decode cX5_allFree 11 = .ok (.iadd, 1) := by decide +kernel
theorem dX5_allFree_12 : decode cX5_allFree 12 = .ok (.if_icmp .ge 28, 3) := by decide +kernel
theorem dX5_allFree_15 : decode cX5_allFree 15 = .ok (.iload_n 3, 1) := by decide +kernel
theorem dX5_allFree_16 : decode cX5_allFree 16 = .ok (.ifCond .eq 16, 3) := by decide +kernel
theorem dX5_allFree_19 : decode cX5_allFree 19 = .ok (.iload_n 0, 1) := by decide +kernel
theorem dX5_allFree_20 : decode cX5_allFree 20 = .ok (.iload 4, 2) := by decide +kernel
theorem dX5_allFree_22 : decode cX5_allFree 22 = .ok (.iushr, 1) := by decide +kernel
theorem dX5_allFree_23 : decode cX5_allFree 23 = .ok (.iconst 1, 1) := by decide +kernel
theorem dX5_allFree_24 : decode cX5_allFree 24 = .ok (.iand, 1) := by decide +kernel
theorem dX5_allFree_25 : decode cX5_allFree 25 = .ok (.ifCond .ne 7, 3) := by decide +kernel
theorem dX5_allFree_28 : decode cX5_allFree 28 = .ok (.iconst 1, 1) := by decide +kernel
theorem dX5_allFree_29 : decode cX5_allFree 29 = .ok (.goto 4, 3) := by decide +kernel
theorem dX5_allFree_32 : decode cX5_allFree 32 = .ok (.iconst 0, 1) := by decide +kernel
theorem dX5_allFree_33 : decode cX5_allFree 33 = .ok (.istore_n 3, 1) := by decide +kernel
theorem dX5_allFree_34 : decode cX5_allFree 34 = .ok (.iinc 4 1, 3) := by decide +kernel
theorem dX5_allFree_37 : decode cX5_allFree 37 = .ok (.goto (-32), 3) := by decide +kernel
theorem dX5_allFree_40 : decode cX5_allFree 40 = .ok (.iload_n 3, 1) := by decide +kernel
theorem dX5_allFree_41 : decode cX5_allFree 41 = .ok (.ireturn, 1) := by decide +kernel
set_option maxRecDepth 20000 in
theorem ggX5_isFree_X5_allFree : GoodIn wsX5_isFree wsX5_allFree := goodIn_r _ [4] (by decide +kernel) (by decide +kernel)
set_option maxRecDepth 20000 in
theorem gX5_isFree_X5_allFree : GoodIn wsX5_isFree (va_wsS RX5 57 yX5_allFree wsX5_allFree) := goodIn_app (goodIn_of _ (by decide +kernel)) ggX5_isFree_X5_allFree
theorem dX5_isFree_0 : decode cX5_isFree 0 = .ok (.iconst 2, 1) := by decide +kernel
theorem dX5_isFree_1 : decode cX5_isFree 1 = .ok (.iload_n 2, 1) := by decide +kernel
theorem dX5_isFree_2 : decode cX5_isFree 2 = .ok (.ishl, 1) := by decide +kernel
theorem dX5_isFree_3 : decode cX5_isFree 3 = .ok (.istore_n 3, 1) := by decide +kernel
theorem dX5_isFree_4 : decode cX5_isFree 4 = .ok (.iload_n 0, 1) := by decide +kernel
theorem dX5_isFree_5 : decode cX5_isFree 5 = .ok (.iload_n 1, 1) := by decide +kernel
theorem dX5_isFree_6 : decode cX5_isFree 6 = .ok (.iload_n 2, 1) := by decide +kernel
theorem dX5_isFree_7 : decode cX5_isFree 7 = .ok (.invokestatic 57, 3) := by decide +kernel
theorem dX5_isFree_10 : decode cX5_isFree 10 = .ok (.ifCond .eq 27, 3) := by decide +kernel
theorem dX5_isFree_13 : decode cX5_isFree 13 = .ok (.iload_n 2, 1) := by decide +kernel
theorem dX5_isFree_14 : decode cX5_isFree 14 = .ok (.iconst 5, 1) := by decide +kernel
theorem dX5_isFree_15 : decode cX5_isFree 15 = .ok (.if_icmp .eq 18, 3) := by decide +kernel
theorem dX5_isFree_18 : decode cX5_isFree 18 = .ok (.iload_n 0, 1) := by decide +kernel
theorem dX5_isFree_19 : decode cX5_isFree 19 = .ok (.iload_n 1, 1) := by decide +kernel
theorem dX5_isFree_20 : decode cX5_isFree 20 = .ok (.iload_n 3, 1) := by decide +kernel
theorem dX5_isFree_21 : decode cX5_isFree 21 = .ok (.idiv, 1) := by decide +kernel
theorem dX5_isFree_22 : decode cX5_isFree 22 = .ok (.iload_n 3, 1) := by decide +kernel
theorem dX5_isFree_23 : decode cX5_isFree 23 = .ok (.imul, 1) := by decide +kernel
theorem dX5_isFree_24 : decode cX5_isFree 24 = .ok (.iload_n 2, 1) := by decide +kernel
theorem dX5_isFree_25 : decode cX5_isFree 25 = .ok (.iconst 1, 1) := by decide +kernel
theorem dX5_isFree_26 : decode cX5_isFree 26 = .ok (.iadd, 1) := by decide +kernel
theorem dX5_isFree_27 : decode cX5_isFree 27 = .ok (.invokestatic 57, 3) := by decide +kernel
theorem dX5_isFree_30 : decode cX5_isFree 30 = .ok (.ifCond .ne 7, 3) := by decide +kernel
theorem dX5_isFree_33 : decode cX5_isFree 33 = .ok (.iconst 1, 1) := by decide +kernel
theorem dX5_isFree_34 : decode cX5_isFree 34 = .ok (.goto 4, 3) := by decide +kernel
theorem dX5_isFree_37 : decode cX5_isFree 37 = .ok (.iconst 0, 1) := by decide +kernel
theorem dX5_isFree_38 : decode cX5_isFree 38 = .ok (.ireturn, 1) := by decide +kernel
set_option maxRecDepth 20000 in
theorem ggX5_countFree_X5_isFree : GoodIn wsX5_countFree wsX5_isFree := goodIn_r _ [4, 5, 6, 3, 7] (by decide +kernel) (by decide +kernel)
set_option maxRecDepth 20000 in
theorem gX5_countFree_X5_isFree : GoodIn wsX5_countFree (va_wsS RX5 60 yX5_isFree wsX5_isFree) := goodIn_app (goodIn_of _ (by decide +kernel)) ggX5_countFree_X5_isFree
theorem dX5_countFree_0 : decode cX5_countFree 0 = .ok (.iconst 0, 1) := by decide +kernel
theorem dX5_countFree_1 : decode cX5_countFree 1 = .ok (.istore_n 2, 1) := by decide +kernel
theorem dX5_countFree_2 : decode cX5_countFree 2 = .ok (.iconst 0, 1) := by decide +kernel
theorem dX5_countFree_3 : decode cX5_countFree 3 = .ok (.istore_n 3, 1) := by decide +kernel
theorem dX5_countFree_4 : decode cX5_countFree 4 = .ok (.iload_n 3, 1) := by decide +kernel
theorem dX5_countFree_5 : decode cX5_countFree 5 = .ok (.bipush 32, 2) := by decide +kernel
theorem dX5_countFree_7 : decode cX5_countFree 7 = .ok (.if_icmp .ge 29, 3) := by decide +kernel
theorem dX5_countFree_10 : decode cX5_countFree 10 = .ok (.iload_n 0, 1) := by decide +kernel
theorem dX5_countFree_11 : decode cX5_countFree 11 = .ok (.iload_n 3, 1) := by decide +kernel
theorem dX5_countFree_12 : decode cX5_countFree 12 = .ok (.iload_n 1, 1) := by decide +kernel
theorem dX5_countFree_13 : decode cX5_countFree 13 = .ok (.invokestatic 60, 3) := by decide +kernel
theorem dX5_countFree_16 : decode cX5_countFree 16 = .ok (.ifCond .eq 9, 3) := by decide +kernel
theorem dX5_countFree_19 : decode cX5_countFree 19 = .ok (.iload_n 2, 1) := by decide +kernel
theorem dX5_countFree_20 : decode cX5_countFree 20 = .ok (.iconst 1, 1) := by decide +kernel
theorem dX5_countFree_21 : decode cX5_countFree 21 = .ok (.iadd, 1) := by decide +kernel
theorem dX5_countFree_22 : decode cX5_countFree 22 = .ok (.goto 4, 3) := by decide +kernel
theorem dX5_countFree_25 : decode cX5_countFree 25 = .ok (.iload_n 2, 1) := by decide +kernel
theorem dX5_countFree_26 : decode cX5_countFree 26 = .ok (.istore_n 2, 1) := by decide +kernel
theorem dX5_countFree_27 : decode cX5_countFree 27 = .ok (.iload_n 3, 1) := by decide +kernel
theorem dX5_countFree_28 : decode cX5_countFree 28 = .ok (.iconst 1, 1) := by decide +kernel
theorem dX5_countFree_29 : decode cX5_countFree 29 = .ok (.iload_n 1, 1) := by decide +kernel
theorem dX5_countFree_30 : decode cX5_countFree 30 = .ok (.ishl, 1) := by decide +kernel
theorem dX5_countFree_31 : decode cX5_countFree 31 = .ok (.iadd, 1) := by decide +kernel
theorem dX5_countFree_32 : decode cX5_countFree 32 = .ok (.istore_n 3, 1) := by decide +kernel
theorem dX5_countFree_33 : decode cX5_countFree 33 = .ok (.goto (-29), 3) := by decide +kernel
theorem dX5_countFree_36 : decode cX5_countFree 36 = .ok (.iload_n 2, 1) := by decide +kernel
theorem dX5_countFree_37 : decode cX5_countFree 37 = .ok (.ireturn, 1) := by decide +kernel
set_option maxRecDepth 20000 in
theorem ggX5_place_X5_isFree : GoodIn wsX5_place wsX5_isFree := goodIn_r _ [4, 5, 6, 3, 7] (by decide +kernel) (by decide +kernel)
set_option maxRecDepth 20000 in
theorem gX5_place_X5_isFree : GoodIn wsX5_place (va_wsS RX5 60 yX5_isFree wsX5_isFree) := goodIn_app (goodIn_of _ (by decide +kernel)) ggX5_place_X5_isFree
theorem dX5_place_0 : decode cX5_place 0 = .ok (.iload_n 1, 1) := by decide +kernel
theorem dX5_place_1 : decode cX5_place 1 = .ok (.istore_n 2, 1) := by decide +kernel
theorem dX5_place_2 : decode cX5_place 2 = .ok (.iload_n 2, 1) := by decide +kernel
theorem dX5_place_3 : decode cX5_place 3 = .ok (.iconst 5, 1) := by decide +kernel
theorem dX5_place_4 : decode cX5_place 4 = .ok (.if_icmp .gt 37, 3) := by decide +kernel
theorem dX5_place_7 : decode cX5_place 7 = .ok (.iconst 0, 1) := by decide +kernel
theorem dX5_place_8 : decode cX5_place 8 = .ok (.istore_n 3, 1) := by decide +kernel
theorem dX5_place_9 : decode cX5_place 9 = .ok (.iload_n 3, 1) := by decide +kernel
theorem dX5_place_10 : decode cX5_place 10 = .ok (.bipush 32, 2) := by decide +kernel
theorem dX5_place_12 : decode cX5_place 12 = .ok (.if_icmp .ge 23, 3) := by decide +kernel
theorem dX5_place_15 : decode cX5_place 15 = .ok (.iload_n 0, 1) := by decide +kernel
theorem dX5_place_16 : decode cX5_place 16 = .ok (.iload_n 3, 1) := by decide +kernel
theorem dX5_place_17 : decode cX5_place 17 = .ok (.iload_n 2, 1) := by decide +kernel
theorem dX5_place_18 : decode cX5_place 18 = .ok (.invokestatic 60, 3) := by decide +kernel
theorem dX5_place_21 : decode cX5_place 21 = .ok (.ifCond .eq 5, 3) := by decide +kernel
theorem dX5_place_24 : decode cX5_place 24 = .ok (.iload_n 3, 1) := by decide +kernel
theorem dX5_place_25 : decode cX5_place 25 = .ok (.ireturn, 1) := by decide +kernel
theorem dX5_place_26 : decode cX5_place 26 = .ok (.iload_n 3, 1) := by decide +kernel
theorem dX5_place_27 : decode cX5_place 27 = .ok (.iconst 1, 1) := by decide +kernel
theorem dX5_place_28 : decode cX5_place 28 = .ok (.iload_n 2, 1) := by decide +kernel
theorem dX5_place_29 : decode cX5_place 29 = .ok (.ishl, 1) := by decide +kernel
theorem dX5_place_30 : decode cX5_place 30 = .ok (.iadd, 1) := by decide +kernel
theorem dX5_place_31 : decode cX5_place 31 = .ok (.istore_n 3, 1) := by decide +kernel
theorem dX5_place_32 : decode cX5_place 32 = .ok (.goto (-23), 3) := by decide +kernel
theorem dX5_place_35 : decode cX5_place 35 = .ok (.iinc 2 1, 3) := by decide +kernel
theorem dX5_place_38 : decode cX5_place 38 = .ok (.goto (-36), 3) := by decide +kernel
theorem dX5_place_41 : decode cX5_place 41 = .ok (.iconst (-1), 1) := by decide +kernel
theorem dX5_place_42 : decode cX5_place 42 = .ok (.ireturn, 1) := by decide +kernel
theorem dX5_bits_0 : decode cX5_bits 0 = .ok (.iconst 0, 1) := by decide +kernel
theorem dX5_bits_1 : decode cX5_bits 1 = .ok (.istore_n 2, 1) := by decide +kernel
theorem dX5_bits_2 : decode cX5_bits 2 = .ok (.iload_n 0, 1) := by decide +kernel
theorem dX5_bits_3 : decode cX5_bits 3 = .ok (.istore_n 3, 1) := by decide +kernel
theorem dX5_bits_4 : decode cX5_bits 4 = .ok (.iload_n 3, 1) := by decide +kernel
theorem dX5_bits_5 : decode cX5_bits 5 = .ok (.iload_n 0, 1) := by decide +kernel
theorem dX5_bits_6 : decode cX5_bits 6 = .ok (.iconst 1, 1) := by decide +kernel
theorem dX5_bits_7 : decode cX5_bits 7 = .ok (.iload_n 1, 1) := by decide +kernel
theorem dX5_bits_8 : decode cX5_bits 8 = .ok (.ishl, 1) := by decide +kernel
theorem dX5_bits_9 : decode cX5_bits 9 = .ok (.iadd, 1) := by decide +kernel
theorem dX5_bits_10 : decode cX5_bits 10 = .ok (.if_icmp .ge 15, 3) := by decide +kernel
theorem dX5_bits_13 : decode cX5_bits 13 = .ok (.iload_n 2, 1) := by decide +kernel
theorem dX5_bits_14 : decode cX5_bits 14 = .ok (.iconst 1, 1) := by decide +kernel
theorem dX5_bits_15 : decode cX5_bits 15 = .ok (.iload_n 3, 1) := by decide +kernel
theorem dX5_bits_16 : decode cX5_bits 16 = .ok (.ishl, 1) := by decide +kernel
theorem dX5_bits_17 : decode cX5_bits 17 = .ok (.ior, 1) := by decide +kernel
theorem dX5_bits_18 : decode cX5_bits 18 = .ok (.istore_n 2, 1) := by decide +kernel
theorem dX5_bits_19 : decode cX5_bits 19 = .ok (.iinc 3 1, 3) := by decide +kernel
theorem dX5_bits_22 : decode cX5_bits 22 = .ok (.goto (-18), 3) := by decide +kernel
theorem dX5_bits_25 : decode cX5_bits 25 = .ok (.iload_n 2, 1) := by decide +kernel
theorem dX5_bits_26 : decode cX5_bits 26 = .ok (.ireturn, 1) := by decide +kernel
theorem dX5_extentOf_0 : decode cX5_extentOf 0 = .ok (.aload_n 0, 1) := by decide +kernel
theorem dX5_extentOf_1 : decode cX5_extentOf 1 = .ok (.getfield 13, 3) := by decide +kernel
theorem dX5_extentOf_4 : decode cX5_extentOf 4 = .ok (.bipush 7, 2) := by decide +kernel
theorem dX5_extentOf_6 : decode cX5_extentOf 6 = .ok (.iload_n 1, 1) := by decide +kernel
theorem dX5_extentOf_7 : decode cX5_extentOf 7 = .ok (.imul, 1) := by decide +kernel
theorem dX5_extentOf_8 : decode cX5_extentOf 8 = .ok (.iconst 3, 1) := by decide +kernel
theorem dX5_extentOf_9 : decode cX5_extentOf 9 = .ok (.iadd, 1) := by decide +kernel
theorem dX5_extentOf_10 : decode cX5_extentOf 10 = .ok (.iload_n 2, 1) := by decide +kernel
theorem dX5_extentOf_11 : decode cX5_extentOf 11 = .ok (.iadd, 1) := by decide +kernel
theorem dX5_extentOf_12 : decode cX5_extentOf 12 = .ok (.iaload, 1) := by decide +kernel
theorem dX5_extentOf_13 : decode cX5_extentOf 13 = .ok (.ireturn, 1) := by decide +kernel
set_option maxRecDepth 20000 in
theorem ggX5_blocks_X5_extentOf : GoodIn wsX5_blocks wsX5_extentOf := goodIn_r _ [5, 6, 13, 14, 15, 16, 17, 18, 19, 20, 21, 22, 23, 24] (by decide +kernel) (by decide +kernel)
set_option maxRecDepth 20000 in
theorem gX5_blocks_X5_extentOf : GoodIn wsX5_blocks (wsV RX5 63 RX5 yX5_extentOf wsX5_extentOf) := goodIn_app (goodIn_of _ (by decide +kernel)) ggX5_blocks_X5_extentOf
set_option maxRecDepth 20000 in
theorem ggX5_blocks_X5_size : GoodIn wsX5_blocks wsX5_size := goodIn_r _ [9, 10, 11, 4, 12] (by decide +kernel) (by decide +kernel)
set_option maxRecDepth 20000 in
theorem gX5_blocks_X5_size : GoodIn wsX5_blocks (va_wsS RX5 67 yX5_size wsX5_size) := goodIn_app (goodIn_of _ (by decide +kernel)) ggX5_blocks_X5_size
theorem dX5_blocks_0 : decode cX5_blocks 0 = .ok (.iconst 0, 1) := by decide +kernel
theorem dX5_blocks_1 : decode cX5_blocks 1 = .ok (.istore_n 2, 1) := by decide +kernel
theorem dX5_blocks_2 : decode cX5_blocks 2 = .ok (.iconst 0, 1) := by decide +kernel
theorem dX5_blocks_3 : decode cX5_blocks 3 = .ok (.istore_n 3, 1) := by decide +kernel
theorem dX5_blocks_4 : decode cX5_blocks 4 = .ok (.iload_n 3, 1) := by decide +kernel
theorem dX5_blocks_5 : decode cX5_blocks 5 = .ok (.iconst 4, 1) := by decide +kernel
theorem dX5_blocks_6 : decode cX5_blocks 6 = .ok (.if_icmp .ge 21, 3) := by decide +kernel
theorem dX5_blocks_9 : decode cX5_blocks 9 = .ok (.iload_n 2, 1) := by decide +kernel
theorem dX5_blocks_10 : decode cX5_blocks 10 = .ok (.aload_n 0, 1) := by decide +kernel
theorem dX5_blocks_11 : decode cX5_blocks 11 = .ok (.iload_n 1, 1) := by decide +kernel
theorem dX5_blocks_12 : decode cX5_blocks 12 = .ok (.iload_n 3, 1) := by decide +kernel
theorem dX5_blocks_13 : decode cX5_blocks 13 = .ok (.invokevirtual 63, 3) := by decide +kernel
theorem dX5_blocks_16 : decode cX5_blocks 16 = .ok (.invokestatic 67, 3) := by decide +kernel
theorem dX5_blocks_19 : decode cX5_blocks 19 = .ok (.iadd, 1) := by decide +kernel
theorem dX5_blocks_20 : decode cX5_blocks 20 = .ok (.istore_n 2, 1) := by decide +kernel
theorem dX5_blocks_21 : decode cX5_blocks 21 = .ok (.iinc 3 1, 3) := by decide +kernel
theorem dX5_blocks_24 : decode cX5_blocks 24 = .ok (.goto (-20), 3) := by decide +kernel
theorem dX5_blocks_27 : decode cX5_blocks 27 = .ok (.iload_n 2, 1) := by decide +kernel
theorem dX5_blocks_28 : decode cX5_blocks 28 = .ok (.ireturn, 1) := by decide +kernel
set_option maxRecDepth 20000 in
theorem ggX5_runs_X5_extentOf : GoodIn wsX5_runs wsX5_extentOf := goodIn_r _ [5, 6, 7, 8, 9, 10, 11, 12, 13, 14, 15, 16, 17, 18] (by decide +kernel) (by decide +kernel)
set_option maxRecDepth 20000 in
theorem gX5_runs_X5_extentOf : GoodIn wsX5_runs (wsV RX5 63 RX5 yX5_extentOf wsX5_extentOf) := goodIn_app (goodIn_of _ (by decide +kernel)) ggX5_runs_X5_extentOf
theorem dX5_runs_0 : decode cX5_runs 0 = .ok (.iconst 0, 1) := by decide +kernel
theorem dX5_runs_1 : decode cX5_runs 1 = .ok (.istore_n 2, 1) := by decide +kernel
theorem dX5_runs_2 : decode cX5_runs 2 = .ok (.iload_n 2, 1) := by decide +kernel
theorem dX5_runs_3 : decode cX5_runs 3 = .ok (.iconst 4, 1) := by decide +kernel
theorem dX5_runs_4 : decode cX5_runs 4 = .ok (.if_icmp .ge 18, 3) := by decide +kernel
theorem dX5_runs_7 : decode cX5_runs 7 = .ok (.aload_n 0, 1) := by decide +kernel
theorem dX5_runs_8 : decode cX5_runs 8 = .ok (.iload_n 1, 1) := by decide +kernel
theorem dX5_runs_9 : decode cX5_runs 9 = .ok (.iload_n 2, 1) := by decide +kernel
theorem dX5_runs_10 : decode cX5_runs 10 = .ok (.invokevirtual 63, 3) := by decide +kernel
theorem dX5_runs_13 : decode cX5_runs 13 = .ok (.ifCond .le 9, 3) := by decide +kernel
theorem dX5_runs_16 : decode cX5_runs 16 = .ok (.iinc 2 1, 3) := by decide +kernel
theorem dX5_runs_19 : decode cX5_runs 19 = .ok (.goto (-17), 3) := by decide +kernel
theorem dX5_runs_22 : decode cX5_runs 22 = .ok (.iload_n 2, 1) := by decide +kernel
theorem dX5_runs_23 : decode cX5_runs 23 = .ok (.ireturn, 1) := by decide +kernel
set_option maxRecDepth 20000 in
theorem ggX5_used_X5_blocks : GoodIn wsX5_used wsX5_blocks := goodIn_r _ [6, 7, 8, 9, 5, 10, 1, 11, 12, 13, 14, 15, 16, 17, 18, 19, 20, 21, 22, 23, 24, 25, 26, 27, 28] (by decide +kernel) (by decide +kernel)
set_option maxRecDepth 20000 in
theorem gX5_used_X5_blocks : GoodIn wsX5_used (wsV RX5 70 RX5 yX5_blocks wsX5_blocks) := goodIn_app (goodIn_of _ (by decide +kernel)) ggX5_used_X5_blocks
theorem dX5_used_0 : decode cX5_used 0 = .ok (.iconst 0, 1) := by decide +kernel
theorem dX5_used_1 : decode cX5_used 1 = .ok (.istore_n 2, 1) := by decide +kernel
theorem dX5_used_2 : decode cX5_used 2 = .ok (.iconst 0, 1) := by decide +kernel
theorem dX5_used_3 : decode cX5_used 3 = .ok (.istore_n 3, 1) := by decide +kernel
theorem dX5_used_4 : decode cX5_used 4 = .ok (.iload_n 3, 1) := by decide +kernel
theorem dX5_used_5 : decode cX5_used 5 = .ok (.bipush 6, 2) := by decide +kernel
theorem dX5_used_7 : decode cX5_used 7 = .ok (.if_icmp .ge 48, 3) := by decide +kernel
theorem dX5_used_10 : decode cX5_used 10 = .ok (.aload_n 0, 1) := by decide +kernel
theorem dX5_used_11 : decode cX5_used 11 = .ok (.getfield 13, 3) := by decide +kernel
theorem dX5_used_14 : decode cX5_used 14 = .ok (.bipush 7, 2) := by decide +kernel
theorem dX5_used_16 : decode cX5_used 16 = .ok (.iload_n 3, 1) := by decide +kernel
theorem dX5_used_17 : decode cX5_used 17 = .ok (.imul, 1) := by decide +kernel
theorem dX5_used_18 : decode cX5_used 18 = .ok (.iaload, 1) := by decide +kernel
theorem dX5_used_19 : decode cX5_used 19 = .ok (.ifCond .le 28, 3) := by decide +kernel
theorem dX5_used_22 : decode cX5_used 22 = .ok (.aload_n 0, 1) := by decide +kernel
theorem dX5_used_23 : decode cX5_used 23 = .ok (.getfield 13, 3) := by decide +kernel
theorem dX5_used_26 : decode cX5_used 26 = .ok (.bipush 7, 2) := by decide +kernel
theorem dX5_used_28 : decode cX5_used 28 = .ok (.iload_n 3, 1) := by decide +kernel
theorem dX5_used_29 : decode cX5_used 29 = .ok (.imul, 1) := by decide +kernel
theorem dX5_used_30 : decode cX5_used 30 = .ok (.iconst 1, 1) := by decide +kernel
theorem dX5_used_31 : decode cX5_used 31 = .ok (.iadd, 1) := by decide +kernel
theorem dX5_used_32 : decode cX5_used 32 = .ok (.iaload, 1) := by decide +kernel
theorem dX5_used_33 : decode cX5_used 33 = .ok (.iload_n 1, 1) := by decide +kernel
theorem dX5_used_34 : decode cX5_used 34 = .ok (.if_icmp .ne 13, 3) := by decide +kernel
theorem dX5_used_37 : decode cX5_used 37 = .ok (.iload_n 2, 1) := by decide +kernel
theorem dX5_used_38 : decode cX5_used 38 = .ok (.aload_n 0, 1) := by decide +kernel
theorem dX5_used_39 : decode cX5_used 39 = .ok (.iload_n 3, 1) := by decide +kernel
theorem dX5_used_40 : decode cX5_used 40 = .ok (.invokevirtual 70, 3) := by decide +kernel
theorem dX5_used_43 : decode cX5_used 43 = .ok (.iadd, 1) := by decide +kernel
theorem dX5_used_44 : decode cX5_used 44 = .ok (.goto 4, 3) := by decide +kernel
theorem dX5_used_47 : decode cX5_used 47 = .ok (.iload_n 2, 1) := by decide +kernel
theorem dX5_used_48 : decode cX5_used 48 = .ok (.istore_n 2, 1) := by decide +kernel
theorem dX5_used_49 : decode cX5_used 49 = .ok (.iinc 3 1, 3) := by decide +kernel
theorem dX5_used_52 : decode cX5_used 52 = .ok (.goto (-48), 3) := by decide +kernel
theorem dX5_used_55 : decode cX5_used 55 = .ok (.iload_n 2, 1) := by decide +kernel
theorem dX5_used_56 : decode cX5_used 56 = .ok (.ireturn, 1) := by decide +kernel
theorem dX5_slotOf_0 : decode cX5_slotOf 0 = .ok (.iconst 0, 1) := by decide +kernel
theorem dX5_slotOf_1 : decode cX5_slotOf 1 = .ok (.istore_n 2, 1) := by decide +kernel
theorem dX5_slotOf_2 : decode cX5_slotOf 2 = .ok (.iload_n 2, 1) := by decide +kernel
theorem dX5_slotOf_3 : decode cX5_slotOf 3 = .ok (.bipush 6, 2) := by decide +kernel
theorem dX5_slotOf_5 : decode cX5_slotOf 5 = .ok (.if_icmp .ge 28, 3) := by decide +kernel
theorem dX5_slotOf_8 : decode cX5_slotOf 8 = .ok (.iload_n 1, 1) := by decide +kernel
theorem dX5_slotOf_9 : decode cX5_slotOf 9 = .ok (.ifCond .le 18, 3) := by decide +kernel
theorem dX5_slotOf_12 : decode cX5_slotOf 12 = .ok (.aload_n 0, 1) := by decide +kernel
theorem dX5_slotOf_13 : decode cX5_slotOf 13 = .ok (.getfield 13, 3) := by decide +kernel
theorem dX5_slotOf_16 : decode cX5_slotOf 16 = .ok (.bipush 7, 2) := by decide +kernel
theorem dX5_slotOf_18 : decode cX5_slotOf 18 = .ok (.iload_n 2, 1) := by decide +kernel
theorem dX5_slotOf_19 : decode cX5_slotOf 19 = .ok (.imul, 1) := by decide +kernel
theorem dX5_slotOf_20 : decode cX5_slotOf 20 = .ok (.iaload, 1) := by decide +kernel
theorem dX5_slotOf_21 : decode cX5_slotOf 21 = .ok (.iload_n 1, 1) := by decide +kernel
theorem dX5_slotOf_22 : decode cX5_slotOf 22 = .ok (.if_icmp .ne 5, 3) := by decide +kernel
theorem dX5_slotOf_25 : decode cX5_slotOf 25 = .ok (.iload_n 2, 1) := by decide +kernel
theorem dX5_slotOf_26 : decode cX5_slotOf 26 = .ok (.ireturn, 1) := by decide +kernel
theorem dX5_slotOf_27 : decode cX5_slotOf 27 = .ok (.iinc 2 1, 3) := by decide +kernel
theorem dX5_slotOf_30 : decode cX5_slotOf 30 = .ok (.goto (-28), 3) := by decide +kernel
theorem dX5_slotOf_33 : decode cX5_slotOf 33 = .ok (.iconst (-1), 1) := by decide +kernel
theorem dX5_slotOf_34 : decode cX5_slotOf 34 = .ok (.ireturn, 1) := by decide +kernel
set_option maxRecDepth 20000 in
theorem ggX5_wordCell_X5_extentOf : GoodIn wsX5_wordCell wsX5_extentOf := goodIn_r _ [5, 6, 16, 17, 18, 19, 20, 21, 22, 23, 24, 25, 26, 27] (by decide +kernel) (by decide +kernel)
set_option maxRecDepth 20000 in
theorem gX5_wordCell_X5_extentOf : GoodIn wsX5_wordCell (wsV RX5 63 RX5 yX5_extentOf wsX5_extentOf) := goodIn_app (goodIn_of _ (by decide +kernel)) ggX5_wordCell_X5_extentOf
set_option maxRecDepth 20000 in
theorem ggX5_wordCell_X5_size : GoodIn wsX5_wordCell wsX5_size := goodIn_r _ [9, 10, 11, 4, 12] (by decide +kernel) (by decide +kernel)
set_option maxRecDepth 20000 in
theorem gX5_wordCell_X5_size : GoodIn wsX5_wordCell (va_wsS RX5 67 yX5_size wsX5_size) := goodIn_app (goodIn_of _ (by decide +kernel)) ggX5_wordCell_X5_size
set_option maxRecDepth 20000 in
theorem ggX5_wordCell_X5_start : GoodIn wsX5_wordCell wsX5_start := goodIn_r _ [15] (by decide +kernel) (by decide +kernel)
set_option maxRecDepth 20000 in
theorem gX5_wordCell_X5_start : GoodIn wsX5_wordCell (va_wsS RX5 54 yX5_start wsX5_start) := goodIn_app (goodIn_of _ (by decide +kernel)) ggX5_wordCell_X5_start
theorem dX5_wordCell_0 : decode cX5_wordCell 0 = .ok (.iload_n 2, 1) := by decide +kernel
theorem dX5_wordCell_1 : decode cX5_wordCell 1 = .ok (.istore_n 3, 1) := by decide +kernel
theorem dX5_wordCell_2 : decode cX5_wordCell 2 = .ok (.iconst 0, 1) := by decide +kernel
theorem dX5_wordCell_3 : decode cX5_wordCell 3 = .ok (.istore 4, 2) := by decide +kernel
theorem dX5_wordCell_5 : decode cX5_wordCell 5 = .ok (.iload 4, 2) := by decide +kernel
theorem dX5_wordCell_7 : decode cX5_wordCell 7 = .ok (.iconst 4, 1) := by decide +kernel
theorem dX5_wordCell_8 : decode cX5_wordCell 8 = .ok (.if_icmp .ge 51, 3) := by decide +kernel
theorem dX5_wordCell_11 : decode cX5_wordCell 11 = .ok (.aload_n 0, 1) := by decide +kernel
theorem dX5_wordCell_12 : decode cX5_wordCell 12 = .ok (.iload_n 1, 1) := by decide +kernel
theorem dX5_wordCell_13 : decode cX5_wordCell 13 = .ok (.iload 4, 2) := by decide +kernel
theorem dX5_wordCell_15 : decode cX5_wordCell 15 = .ok (.invokevirtual 63, 3) := by decide +kernel
theorem dX5_wordCell_18 : decode cX5_wordCell 18 = .ok (.istore 5, 2) := by decide +kernel
theorem dX5_wordCell_20 : decode cX5_wordCell 20 = .ok (.iconst 2, 1) := by decide +kernel
theorem dX5_wordCell_21 : decode cX5_wordCell 21 = .ok (.iload 5, 2) := by decide +kernel
theorem dX5_wordCell_23 : decode cX5_wordCell 23 = .ok (.invokestatic 67, 3) := by decide +kernel
theorem dX5_wordCell_26 : decode cX5_wordCell 26 = .ok (.imul, 1) := by decide +kernel
theorem dX5_wordCell_27 : decode cX5_wordCell 27 = .ok (.istore 6, 2) := by decide +kernel
theorem dX5_wordCell_29 : decode cX5_wordCell 29 = .ok (.iload_n 3, 1) := by decide +kernel
theorem dX5_wordCell_30 : decode cX5_wordCell 30 = .ok (.iload 6, 2) := by decide +kernel
theorem dX5_wordCell_32 : decode cX5_wordCell 32 = .ok (.if_icmp .ge 16, 3) := by decide +kernel
theorem dX5_wordCell_35 : decode cX5_wordCell 35 = .ok (.bipush 46, 2) := by decide +kernel
theorem dX5_wordCell_37 : decode cX5_wordCell 37 = .ok (.iconst 2, 1) := by decide +kernel
theorem dX5_wordCell_38 : decode cX5_wordCell 38 = .ok (.iload 5, 2) := by decide +kernel
theorem dX5_wordCell_40 : decode cX5_wordCell 40 = .ok (.invokestatic 54, 3) := by decide +kernel
theorem dX5_wordCell_43 : decode cX5_wordCell 43 = .ok (.imul, 1) := by decide +kernel
theorem dX5_wordCell_44 : decode cX5_wordCell 44 = .ok (.iadd, 1) := by decide +kernel
theorem dX5_wordCell_45 : decode cX5_wordCell 45 = .ok (.iload_n 3, 1) := by decide +kernel
theorem dX5_wordCell_46 : decode cX5_wordCell 46 = .ok (.iadd, 1) := by decide +kernel
theorem dX5_wordCell_47 : decode cX5_wordCell 47 = .ok (.ireturn, 1) := by decide +kernel
theorem dX5_wordCell_48 : decode cX5_wordCell 48 = .ok (.iload_n 3, 1) := by decide +kernel
theorem dX5_wordCell_49 : decode cX5_wordCell 49 = .ok (.iload 6, 2) := by decide +kernel
theorem dX5_wordCell_51 : decode cX5_wordCell 51 = .ok (.isub, 1) := by decide +kernel
theorem dX5_wordCell_52 : decode cX5_wordCell 52 = .ok (.istore_n 3, 1) := by decide +kernel
theorem dX5_wordCell_53 : decode cX5_wordCell 53 = .ok (.iinc 4 1, 3) := by decide +kernel
theorem dX5_wordCell_56 : decode cX5_wordCell 56 = .ok (.goto (-51), 3) := by decide +kernel
theorem dX5_wordCell_59 : decode cX5_wordCell 59 = .ok (.bipush 46, 2) := by decide +kernel
theorem dX5_wordCell_61 : decode cX5_wordCell 61 = .ok (.ireturn, 1) := by decide +kernel
set_option maxRecDepth 20000 in
theorem ggX5_tryGrow_X5_blocks : GoodIn wsX5_tryGrow wsX5_blocks := goodIn_r _ [9, 10, 11, 12, 8, 13, 1, 14, 15, 16, 17, 18, 19, 40, 41, 42, 43, 44, 45, 46, 47, 48, 49, 50, 51] (by decide +kernel) (by decide +kernel)
set_option maxRecDepth 20000 in
theorem gX5_tryGrow_X5_blocks : GoodIn wsX5_tryGrow (wsV RX5 70 RX5 yX5_blocks wsX5_blocks) := goodIn_app (goodIn_of _ (by decide +kernel)) ggX5_tryGrow_X5_blocks
set_option maxRecDepth 20000 in
theorem ggX5_tryGrow_X5_runs : GoodIn wsX5_tryGrow wsX5_runs := goodIn_r _ [23, 10, 11, 12, 8, 13, 1, 40, 41, 42, 43, 44, 45, 46, 47, 48, 49, 50, 51] (by decide +kernel) (by decide +kernel)
set_option maxRecDepth 20000 in
theorem gX5_tryGrow_X5_runs : GoodIn wsX5_tryGrow (wsV RX5 76 RX5 yX5_runs wsX5_runs) := goodIn_app (goodIn_of _ (by decide +kernel)) ggX5_tryGrow_X5_runs
set_option maxRecDepth 20000 in
theorem ggX5_tryGrow_X5_extentOf : GoodIn wsX5_tryGrow wsX5_extentOf := goodIn_r _ [13, 1, 40, 41, 42, 43, 44, 45, 46, 47, 48, 49, 50, 51] (by decide +kernel) (by decide +kernel)
set_option maxRecDepth 20000 in
theorem gX5_tryGrow_X5_extentOf : GoodIn wsX5_tryGrow (wsV RX5 63 RX5 yX5_extentOf wsX5_extentOf) := goodIn_app (goodIn_of _ (by decide +kernel)) ggX5_tryGrow_X5_extentOf
set_option maxRecDepth 20000 in
theorem ggX5_tryGrow_X5_place : GoodIn wsX5_tryGrow wsX5_place := goodIn_r _ [26, 27, 28, 8, 29, 30, 31, 32] (by decide +kernel) (by decide +kernel)
set_option maxRecDepth 20000 in
theorem gX5_tryGrow_X5_place : GoodIn wsX5_tryGrow (va_wsS RX5 82 yX5_place wsX5_place) := goodIn_app (goodIn_of _ (by decide +kernel)) ggX5_tryGrow_X5_place
set_option maxRecDepth 20000 in
theorem ggX5_tryGrow_X5_bits : GoodIn wsX5_tryGrow wsX5_bits := goodIn_r _ [35] (by decide +kernel) (by decide +kernel)
set_option maxRecDepth 20000 in
theorem gX5_tryGrow_X5_bits : GoodIn wsX5_tryGrow (va_wsS RX5 85 yX5_bits wsX5_bits) := goodIn_app (goodIn_of _ (by decide +kernel)) ggX5_tryGrow_X5_bits
set_option maxRecDepth 20000 in
theorem ggX5_tryGrow_X5_used : GoodIn wsX5_tryGrow wsX5_used := goodIn_r _ [39, 1, 5, 6, 7, 8, 9, 10, 11, 12, 13, 14, 15, 16, 17, 18, 19, 40, 41, 42, 43, 44, 45, 46, 47, 48, 49, 50, 51] (by decide +kernel) (by decide +kernel)
set_option maxRecDepth 20000 in
theorem gX5_tryGrow_X5_used : GoodIn wsX5_tryGrow (wsV RX5 88 RX5 yX5_used wsX5_used) := goodIn_app (goodIn_of _ (by decide +kernel)) ggX5_tryGrow_X5_used
theorem dX5_tryGrow_0 : decode cX5_tryGrow 0 = .ok (.iload_n 2, 1) := by decide +kernel
theorem dX5_tryGrow_1 : decode cX5_tryGrow 1 = .ok (.iconst 1, 1) := by decide +kernel
theorem dX5_tryGrow_2 : decode cX5_tryGrow 2 = .ok (.iadd, 1) := by decide +kernel
theorem dX5_tryGrow_3 : decode cX5_tryGrow 3 = .ok (.iconst 2, 1) := by decide +kernel
theorem dX5_tryGrow_4 : decode cX5_tryGrow 4 = .ok (.idiv, 1) := by decide +kernel
theorem dX5_tryGrow_5 : decode cX5_tryGrow 5 = .ok (.istore_n 3, 1) := by decide +kernel
theorem dX5_tryGrow_6 : decode cX5_tryGrow 6 = .ok (.aload_n 0, 1) := by decide +kernel
theorem dX5_tryGrow_7 : decode cX5_tryGrow 7 = .ok (.iload_n 1, 1) := by decide +kernel
theorem dX5_tryGrow_8 : decode cX5_tryGrow 8 = .ok (.invokevirtual 70, 3) := by decide +kernel
theorem dX5_tryGrow_11 : decode cX5_tryGrow 11 = .ok (.istore 4, 2) := by decide +kernel
theorem dX5_tryGrow_13 : decode cX5_tryGrow 13 = .ok (.aload_n 0, 1) := by decide +kernel
theorem dX5_tryGrow_14 : decode cX5_tryGrow 14 = .ok (.aload_n 0, 1) := by decide +kernel
theorem dX5_tryGrow_15 : decode cX5_tryGrow 15 = .ok (.getfield 13, 3) := by decide +kernel
theorem dX5_tryGrow_18 : decode cX5_tryGrow 18 = .ok (.bipush 45, 2) := by decide +kernel
theorem dX5_tryGrow_20 : decode cX5_tryGrow 20 = .ok (.iaload, 1) := by decide +kernel
theorem dX5_tryGrow_21 : decode cX5_tryGrow 21 = .ok (.putfield 73, 3) := by decide +kernel
theorem dX5_tryGrow_24 : decode cX5_tryGrow 24 = .ok (.aload_n 0, 1) := by decide +kernel
theorem dX5_tryGrow_25 : decode cX5_tryGrow 25 = .ok (.aload_n 0, 1) := by decide +kernel
theorem dX5_tryGrow_26 : decode cX5_tryGrow 26 = .ok (.iload_n 1, 1) := by decide +kernel
theorem dX5_tryGrow_27 : decode cX5_tryGrow 27 = .ok (.invokevirtual 76, 3) := by decide +kernel
theorem dX5_tryGrow_30 : decode cX5_tryGrow 30 = .ok (.putfield 79, 3) := by decide +kernel
theorem dX5_tryGrow_33 : decode cX5_tryGrow 33 = .ok (.iconst 0, 1) := by decide +kernel
theorem dX5_tryGrow_34 : decode cX5_tryGrow 34 = .ok (.istore 5, 2) := by decide +kernel
theorem dX5_tryGrow_36 : decode cX5_tryGrow 36 = .ok (.iload 5, 2) := by decide +kernel
theorem dX5_tryGrow_38 : decode cX5_tryGrow 38 = .ok (.iconst 4, 1) := by decide +kernel
theorem dX5_tryGrow_39 : decode cX5_tryGrow 39 = .ok (.if_icmp .ge 23, 3) := by decide +kernel
theorem dX5_tryGrow_42 : decode cX5_tryGrow 42 = .ok (.aload_n 0, 1) := by decide +kernel
theorem dX5_tryGrow_43 : decode cX5_tryGrow 43 = .ok (.getfield 29, 3) := by decide +kernel
theorem dX5_tryGrow_46 : decode cX5_tryGrow 46 = .ok (.iload 5, 2) := by decide +kernel
theorem dX5_tryGrow_48 : decode cX5_tryGrow 48 = .ok (.aload_n 0, 1) := by decide +kernel
theorem dX5_tryGrow_49 : decode cX5_tryGrow 49 = .ok (.iload_n 1, 1) := by decide +kernel
theorem dX5_tryGrow_50 : decode cX5_tryGrow 50 = .ok (.iload 5, 2) := by decide +kernel
theorem dX5_tryGrow_52 : decode cX5_tryGrow 52 = .ok (.invokevirtual 63, 3) := by decide +kernel
theorem dX5_tryGrow_55 : decode cX5_tryGrow 55 = .ok (.iastore, 1) := by decide +kernel
theorem dX5_tryGrow_56 : decode cX5_tryGrow 56 = .ok (.iinc 5 1, 3) := by decide +kernel
theorem dX5_tryGrow_59 : decode cX5_tryGrow 59 = .ok (.goto (-23), 3) := by decide +kernel
theorem dX5_tryGrow_62 : decode cX5_tryGrow 62 = .ok (.iload 4, 2) := by decide +kernel
theorem dX5_tryGrow_64 : decode cX5_tryGrow 64 = .ok (.iload_n 3, 1) := by decide +kernel
theorem dX5_tryGrow_65 : decode cX5_tryGrow 65 = .ok (.if_icmp .ge 130, 3) := by decide +kernel
theorem dX5_tryGrow_68 : decode cX5_tryGrow 68 = .ok (.iconst 0, 1) := by decide +kernel
theorem dX5_tryGrow_69 : decode cX5_tryGrow 69 = .ok (.istore 5, 2) := by decide +kernel
theorem dX5_tryGrow_71 : decode cX5_tryGrow 71 = .ok (.iconst 1, 1) := by decide +kernel
theorem dX5_tryGrow_72 : decode cX5_tryGrow 72 = .ok (.iload 5, 2) := by decide +kernel
theorem dX5_tryGrow_74 : decode cX5_tryGrow 74 = .ok (.ishl, 1) := by decide +kernel
theorem dX5_tryGrow_75 : decode cX5_tryGrow 75 = .ok (.iload_n 3, 1) := by decide +kernel
theorem dX5_tryGrow_76 : decode cX5_tryGrow 76 = .ok (.iload 4, 2) := by decide +kernel
theorem dX5_tryGrow_78 : decode cX5_tryGrow 78 = .ok (.isub, 1) := by decide +kernel
theorem dX5_tryGrow_79 : decode cX5_tryGrow 79 = .ok (.if_icmp .ge 9, 3) := by decide +kernel
theorem dX5_tryGrow_82 : decode cX5_tryGrow 82 = .ok (.iinc 5 1, 3) := by decide +kernel
theorem dX5_tryGrow_85 : decode cX5_tryGrow 85 = .ok (.goto (-14), 3) := by decide +kernel
theorem dX5_tryGrow_88 : decode cX5_tryGrow 88 = .ok (.iload 5, 2) := by decide +kernel
theorem dX5_tryGrow_90 : decode cX5_tryGrow 90 = .ok (.ifCond .lt 21, 3) := by decide +kernel
theorem dX5_tryGrow_93 : decode cX5_tryGrow 93 = .ok (.aload_n 0, 1) := by decide +kernel
theorem dX5_tryGrow_94 : decode cX5_tryGrow 94 = .ok (.getfield 73, 3) := by decide +kernel
theorem dX5_tryGrow_97 : decode cX5_tryGrow 97 = .ok (.iload 5, 2) := by decide +kernel
theorem dX5_tryGrow_99 : decode cX5_tryGrow 99 = .ok (.invokestatic 82, 3) := by decide +kernel
theorem dX5_tryGrow_102 : decode cX5_tryGrow 102 = .ok (.ifCond .ge 9, 3) := by decide +kernel
theorem dX5_tryGrow_105 : decode cX5_tryGrow 105 = .ok (.iinc 5 (-1), 3) := by decide +kernel
theorem dX5_tryGrow_108 : decode cX5_tryGrow 108 = .ok (.goto (-20), 3) := by decide +kernel
theorem dX5_tryGrow_111 : decode cX5_tryGrow 111 = .ok (.aload_n 0, 1) := by decide +kernel
theorem dX5_tryGrow_112 : decode cX5_tryGrow 112 = .ok (.getfield 79, 3) := by decide +kernel
theorem dX5_tryGrow_115 : decode cX5_tryGrow 115 = .ok (.iconst 4, 1) := by decide +kernel
theorem dX5_tryGrow_116 : decode cX5_tryGrow 116 = .ok (.if_icmp .eq 8, 3) := by decide +kernel
theorem dX5_tryGrow_119 : decode cX5_tryGrow 119 = .ok (.iload 5, 2) := by decide +kernel
theorem dX5_tryGrow_121 : decode cX5_tryGrow 121 = .ok (.ifCond .ge 6, 3) := by decide +kernel
theorem dX5_tryGrow_124 : decode cX5_tryGrow 124 = .ok (.bipush (-8), 2) := by decide +kernel
theorem dX5_tryGrow_126 : decode cX5_tryGrow 126 = .ok (.ireturn, 1) := by decide +kernel
theorem dX5_tryGrow_127 : decode cX5_tryGrow 127 = .ok (.aload_n 0, 1) := by decide +kernel
theorem dX5_tryGrow_128 : decode cX5_tryGrow 128 = .ok (.getfield 73, 3) := by decide +kernel
theorem dX5_tryGrow_131 : decode cX5_tryGrow 131 = .ok (.iload 5, 2) := by decide +kernel
theorem dX5_tryGrow_133 : decode cX5_tryGrow 133 = .ok (.invokestatic 82, 3) := by decide +kernel
theorem dX5_tryGrow_136 : decode cX5_tryGrow 136 = .ok (.istore 6, 2) := by decide +kernel
theorem dX5_tryGrow_138 : decode cX5_tryGrow 138 = .ok (.aload_n 0, 1) := by decide +kernel
theorem dX5_tryGrow_139 : decode cX5_tryGrow 139 = .ok (.getfield 29, 3) := by decide +kernel
theorem dX5_tryGrow_142 : decode cX5_tryGrow 142 = .ok (.aload_n 0, 1) := by decide +kernel
theorem dX5_tryGrow_143 : decode cX5_tryGrow 143 = .ok (.getfield 79, 3) := by decide +kernel
theorem dX5_tryGrow_146 : decode cX5_tryGrow 146 = .ok (.iconst 1, 1) := by decide +kernel
theorem dX5_tryGrow_147 : decode cX5_tryGrow 147 = .ok (.iload 6, 2) := by decide +kernel
theorem dX5_tryGrow_149 : decode cX5_tryGrow 149 = .ok (.iadd, 1) := by decide +kernel
theorem dX5_tryGrow_150 : decode cX5_tryGrow 150 = .ok (.bipush 32, 2) := by decide +kernel
theorem dX5_tryGrow_152 : decode cX5_tryGrow 152 = .ok (.iload 5, 2) := by decide +kernel
theorem dX5_tryGrow_154 : decode cX5_tryGrow 154 = .ok (.imul, 1) := by decide +kernel
theorem dX5_tryGrow_155 : decode cX5_tryGrow 155 = .ok (.iadd, 1) := by decide +kernel
theorem dX5_tryGrow_156 : decode cX5_tryGrow 156 = .ok (.iastore, 1) := by decide +kernel
theorem dX5_tryGrow_157 : decode cX5_tryGrow 157 = .ok (.aload_n 0, 1) := by decide +kernel
theorem dX5_tryGrow_158 : decode cX5_tryGrow 158 = .ok (.dup, 1) := by decide +kernel
theorem dX5_tryGrow_159 : decode cX5_tryGrow 159 = .ok (.getfield 79, 3) := by decide +kernel
theorem dX5_tryGrow_162 : decode cX5_tryGrow 162 = .ok (.iconst 1, 1) := by decide +kernel
theorem dX5_tryGrow_163 : decode cX5_tryGrow 163 = .ok (.iadd, 1) := by decide +kernel
theorem dX5_tryGrow_164 : decode cX5_tryGrow 164 = .ok (.putfield 79, 3) := by decide +kernel
theorem dX5_tryGrow_167 : decode cX5_tryGrow 167 = .ok (.aload_n 0, 1) := by decide +kernel
theorem dX5_tryGrow_168 : decode cX5_tryGrow 168 = .ok (.aload_n 0, 1) := by decide +kernel
theorem dX5_tryGrow_169 : decode cX5_tryGrow 169 = .ok (.getfield 73, 3) := by decide +kernel
theorem dX5_tryGrow_172 : decode cX5_tryGrow 172 = .ok (.iload 6, 2) := by decide +kernel
theorem dX5_tryGrow_174 : decode cX5_tryGrow 174 = .ok (.iload 5, 2) := by decide +kernel
theorem dX5_tryGrow_176 : decode cX5_tryGrow 176 = .ok (.invokestatic 85, 3) := by decide +kernel
theorem dX5_tryGrow_179 : decode cX5_tryGrow 179 = .ok (.ior, 1) := by decide +kernel
theorem dX5_tryGrow_180 : decode cX5_tryGrow 180 = .ok (.putfield 73, 3) := by decide +kernel
theorem dX5_tryGrow_183 : decode cX5_tryGrow 183 = .ok (.iload 4, 2) := by decide +kernel
theorem dX5_tryGrow_185 : decode cX5_tryGrow 185 = .ok (.iconst 1, 1) := by decide +kernel
theorem dX5_tryGrow_186 : decode cX5_tryGrow 186 = .ok (.iload 5, 2) := by decide +kernel
theorem dX5_tryGrow_188 : decode cX5_tryGrow 188 = .ok (.ishl, 1) := by decide +kernel
theorem dX5_tryGrow_189 : decode cX5_tryGrow 189 = .ok (.iadd, 1) := by decide +kernel
theorem dX5_tryGrow_190 : decode cX5_tryGrow 190 = .ok (.istore 4, 2) := by decide +kernel
theorem dX5_tryGrow_192 : decode cX5_tryGrow 192 = .ok (.goto (-130), 3) := by decide +kernel
theorem dX5_tryGrow_195 : decode cX5_tryGrow 195 = .ok (.aload_n 0, 1) := by decide +kernel
theorem dX5_tryGrow_196 : decode cX5_tryGrow 196 = .ok (.getfield 13, 3) := by decide +kernel
theorem dX5_tryGrow_199 : decode cX5_tryGrow 199 = .ok (.bipush 7, 2) := by decide +kernel
theorem dX5_tryGrow_201 : decode cX5_tryGrow 201 = .ok (.iload_n 1, 1) := by decide +kernel
theorem dX5_tryGrow_202 : decode cX5_tryGrow 202 = .ok (.imul, 1) := by decide +kernel
theorem dX5_tryGrow_203 : decode cX5_tryGrow 203 = .ok (.iconst 1, 1) := by decide +kernel
theorem dX5_tryGrow_204 : decode cX5_tryGrow 204 = .ok (.iadd, 1) := by decide +kernel
theorem dX5_tryGrow_205 : decode cX5_tryGrow 205 = .ok (.iaload, 1) := by decide +kernel
theorem dX5_tryGrow_206 : decode cX5_tryGrow 206 = .ok (.istore 5, 2) := by decide +kernel
theorem dX5_tryGrow_208 : decode cX5_tryGrow 208 = .ok (.aload_n 0, 1) := by decide +kernel
theorem dX5_tryGrow_209 : decode cX5_tryGrow 209 = .ok (.iload 5, 2) := by decide +kernel
theorem dX5_tryGrow_211 : decode cX5_tryGrow 211 = .ok (.invokevirtual 88, 3) := by decide +kernel
theorem dX5_tryGrow_214 : decode cX5_tryGrow 214 = .ok (.aload_n 0, 1) := by decide +kernel
theorem dX5_tryGrow_215 : decode cX5_tryGrow 215 = .ok (.iload_n 1, 1) := by decide +kernel
theorem dX5_tryGrow_216 : decode cX5_tryGrow 216 = .ok (.invokevirtual 70, 3) := by decide +kernel
theorem dX5_tryGrow_219 : decode cX5_tryGrow 219 = .ok (.isub, 1) := by decide +kernel
theorem dX5_tryGrow_220 : decode cX5_tryGrow 220 = .ok (.iload 4, 2) := by decide +kernel
theorem dX5_tryGrow_222 : decode cX5_tryGrow 222 = .ok (.iadd, 1) := by decide +kernel
theorem dX5_tryGrow_223 : decode cX5_tryGrow 223 = .ok (.aload_n 0, 1) := by decide +kernel
theorem dX5_tryGrow_224 : decode cX5_tryGrow 224 = .ok (.getfield 13, 3) := by decide +kernel
theorem dX5_tryGrow_227 : decode cX5_tryGrow 227 = .ok (.bipush 42, 2) := by decide +kernel
theorem dX5_tryGrow_229 : decode cX5_tryGrow 229 = .ok (.iload 5, 2) := by decide +kernel
theorem dX5_tryGrow_231 : decode cX5_tryGrow 231 = .ok (.iadd, 1) := by decide +kernel
theorem dX5_tryGrow_232 : decode cX5_tryGrow 232 = .ok (.iaload, 1) := by decide +kernel
theorem dX5_tryGrow_233 : decode cX5_tryGrow 233 = .ok (.if_icmp .le 8, 3) := by decide +kernel
theorem dX5_tryGrow_236 : decode cX5_tryGrow 236 = .ok (.bipush (-9), 2) := by decide +kernel
theorem dX5_tryGrow_238 : decode cX5_tryGrow 238 = .ok (.goto 4, 3) := by decide +kernel
theorem dX5_tryGrow_241 : decode cX5_tryGrow 241 = .ok (.iconst 0, 1) := by decide +kernel
theorem dX5_tryGrow_242 : decode cX5_tryGrow 242 = .ok (.ireturn, 1) := by decide +kernel
set_option maxRecDepth 20000 in
theorem ggX5_grow_X5_tryGrow : GoodIn wsX5_grow wsX5_tryGrow := goodIn_r _ [8, 1, 3, 9, 2, 10, 11, 12, 7, 13, 14, 15, 16, 17, 18, 19, 20, 21, 22, 23, 24, 25, 26, 27, 28, 29, 30, 31, 32, 33, 34, 35, 36, 37, 38, 39, 40, 41, 42, 43, 44, 45, 46, 47, 48, 49, 50, 51, 52, 53, 54, 55] (by decide +kernel) (by decide +kernel)
set_option maxRecDepth 20000 in
theorem gX5_grow_X5_tryGrow : GoodIn wsX5_grow (wsV RX5 91 RX5 yX5_tryGrow wsX5_tryGrow) := goodIn_app (goodIn_of _ (by decide +kernel)) ggX5_grow_X5_tryGrow
theorem dX5_grow_0 : decode cX5_grow 0 = .ok (.aload_n 0, 1) := by decide +kernel
theorem dX5_grow_1 : decode cX5_grow 1 = .ok (.iload_n 1, 1) := by decide +kernel
theorem dX5_grow_2 : decode cX5_grow 2 = .ok (.iload_n 2, 1) := by decide +kernel
theorem dX5_grow_3 : decode cX5_grow 3 = .ok (.invokevirtual 91, 3) := by decide +kernel
theorem dX5_grow_6 : decode cX5_grow 6 = .ok (.istore_n 3, 1) := by decide +kernel
theorem dX5_grow_7 : decode cX5_grow 7 = .ok (.iload_n 3, 1) := by decide +kernel
theorem dX5_grow_8 : decode cX5_grow 8 = .ok (.ifCond .ne 62, 3) := by decide +kernel
theorem dX5_grow_11 : decode cX5_grow 11 = .ok (.iconst 0, 1) := by decide +kernel
theorem dX5_grow_12 : decode cX5_grow 12 = .ok (.istore 4, 2) := by decide +kernel
theorem dX5_grow_14 : decode cX5_grow 14 = .ok (.iload 4, 2) := by decide +kernel
theorem dX5_grow_16 : decode cX5_grow 16 = .ok (.iconst 4, 1) := by decide +kernel
theorem dX5_grow_17 : decode cX5_grow 17 = .ok (.if_icmp .ge 30, 3) := by decide +kernel
theorem dX5_grow_20 : decode cX5_grow 20 = .ok (.aload_n 0, 1) := by decide +kernel
theorem dX5_grow_21 : decode cX5_grow 21 = .ok (.getfield 13, 3) := by decide +kernel
theorem dX5_grow_24 : decode cX5_grow 24 = .ok (.bipush 7, 2) := by decide +kernel
theorem dX5_grow_26 : decode cX5_grow 26 = .ok (.iload_n 1, 1) := by decide +kernel
theorem dX5_grow_27 : decode cX5_grow 27 = .ok (.imul, 1) := by decide +kernel
theorem dX5_grow_28 : decode cX5_grow 28 = .ok (.iconst 3, 1) := by decide +kernel
theorem dX5_grow_29 : decode cX5_grow 29 = .ok (.iadd, 1) := by decide +kernel
theorem dX5_grow_30 : decode cX5_grow 30 = .ok (.iload 4, 2) := by decide +kernel
theorem dX5_grow_32 : decode cX5_grow 32 = .ok (.iadd, 1) := by decide +kernel
theorem dX5_grow_33 : decode cX5_grow 33 = .ok (.aload_n 0, 1) := by decide +kernel
theorem dX5_grow_34 : decode cX5_grow 34 = .ok (.getfield 29, 3) := by decide +kernel
theorem dX5_grow_37 : decode cX5_grow 37 = .ok (.iload 4, 2) := by decide +kernel
theorem dX5_grow_39 : decode cX5_grow 39 = .ok (.iaload, 1) := by decide +kernel
theorem dX5_grow_40 : decode cX5_grow 40 = .ok (.iastore, 1) := by decide +kernel
theorem dX5_grow_41 : decode cX5_grow 41 = .ok (.iinc 4 1, 3) := by decide +kernel
theorem dX5_grow_44 : decode cX5_grow 44 = .ok (.goto (-30), 3) := by decide +kernel
theorem dX5_grow_47 : decode cX5_grow 47 = .ok (.aload_n 0, 1) := by decide +kernel
theorem dX5_grow_48 : decode cX5_grow 48 = .ok (.getfield 13, 3) := by decide +kernel
theorem dX5_grow_51 : decode cX5_grow 51 = .ok (.bipush 45, 2) := by decide +kernel
theorem dX5_grow_53 : decode cX5_grow 53 = .ok (.aload_n 0, 1) := by decide +kernel
theorem dX5_grow_54 : decode cX5_grow 54 = .ok (.getfield 73, 3) := by decide +kernel
theorem dX5_grow_57 : decode cX5_grow 57 = .ok (.iastore, 1) := by decide +kernel
theorem dX5_grow_58 : decode cX5_grow 58 = .ok (.aload_n 0, 1) := by decide +kernel
theorem dX5_grow_59 : decode cX5_grow 59 = .ok (.getfield 13, 3) := by decide +kernel
theorem dX5_grow_62 : decode cX5_grow 62 = .ok (.bipush 7, 2) := by decide +kernel
theorem dX5_grow_64 : decode cX5_grow 64 = .ok (.iload_n 1, 1) := by decide +kernel
theorem dX5_grow_65 : decode cX5_grow 65 = .ok (.imul, 1) := by decide +kernel
theorem dX5_grow_66 : decode cX5_grow 66 = .ok (.iconst 2, 1) := by decide +kernel
theorem dX5_grow_67 : decode cX5_grow 67 = .ok (.iadd, 1) := by decide +kernel
theorem dX5_grow_68 : decode cX5_grow 68 = .ok (.iload_n 2, 1) := by decide +kernel
theorem dX5_grow_69 : decode cX5_grow 69 = .ok (.iastore, 1) := by decide +kernel
theorem dX5_grow_70 : decode cX5_grow 70 = .ok (.iload_n 3, 1) := by decide +kernel
theorem dX5_grow_71 : decode cX5_grow 71 = .ok (.ireturn, 1) := by decide +kernel
set_option maxRecDepth 20000 in
theorem ggX5_giveBack_X5_runs : GoodIn wsX5_giveBack wsX5_runs := goodIn_r _ [6, 7, 8, 9, 5, 10, 1, 23, 24, 25, 26, 27, 28, 29, 30, 31, 32, 33, 34] (by decide +kernel) (by decide +kernel)
set_option maxRecDepth 20000 in
theorem gX5_giveBack_X5_runs : GoodIn wsX5_giveBack (wsV RX5 76 RX5 yX5_runs wsX5_runs) := goodIn_app (goodIn_of _ (by decide +kernel)) ggX5_giveBack_X5_runs
set_option maxRecDepth 20000 in
theorem ggX5_giveBack_X5_start : GoodIn wsX5_giveBack wsX5_start := goodIn_r _ [13] (by decide +kernel) (by decide +kernel)
set_option maxRecDepth 20000 in
theorem gX5_giveBack_X5_start : GoodIn wsX5_giveBack (va_wsS RX5 54 yX5_start wsX5_start) := goodIn_app (goodIn_of _ (by decide +kernel)) ggX5_giveBack_X5_start
set_option maxRecDepth 20000 in
theorem ggX5_giveBack_X5_size : GoodIn wsX5_giveBack wsX5_size := goodIn_r _ [16, 17, 18, 5, 19] (by decide +kernel) (by decide +kernel)
set_option maxRecDepth 20000 in
theorem gX5_giveBack_X5_size : GoodIn wsX5_giveBack (va_wsS RX5 67 yX5_size wsX5_size) := goodIn_app (goodIn_of _ (by decide +kernel)) ggX5_giveBack_X5_size
set_option maxRecDepth 20000 in
theorem ggX5_giveBack_X5_order : GoodIn wsX5_giveBack wsX5_order := goodIn_r _ [19] (by decide +kernel) (by decide +kernel)
set_option maxRecDepth 20000 in
theorem gX5_giveBack_X5_order : GoodIn wsX5_giveBack (va_wsS RX5 50 yX5_order wsX5_order) := goodIn_app (goodIn_of _ (by decide +kernel)) ggX5_giveBack_X5_order
set_option maxRecDepth 20000 in
theorem ggX5_giveBack_X5_bits : GoodIn wsX5_giveBack wsX5_bits := goodIn_r _ [22] (by decide +kernel) (by decide +kernel)
set_option maxRecDepth 20000 in
theorem gX5_giveBack_X5_bits : GoodIn wsX5_giveBack (va_wsS RX5 85 yX5_bits wsX5_bits) := goodIn_app (goodIn_of _ (by decide +kernel)) ggX5_giveBack_X5_bits
theorem dX5_giveBack_0 : decode cX5_giveBack 0 = .ok (.bipush 7, 2) := by decide +kernel
theorem dX5_giveBack_2 : decode cX5_giveBack 2 = .ok (.iload_n 1, 1) := by decide +kernel
theorem dX5_giveBack_3 : decode cX5_giveBack 3 = .ok (.imul, 1) := by decide +kernel
theorem dX5_giveBack_4 : decode cX5_giveBack 4 = .ok (.iconst 2, 1) := by decide +kernel
theorem dX5_giveBack_5 : decode cX5_giveBack 5 = .ok (.iadd, 1) := by decide +kernel
theorem dX5_giveBack_6 : decode cX5_giveBack 6 = .ok (.aload_n 0, 1) := by decide +kernel
theorem dX5_giveBack_7 : decode cX5_giveBack 7 = .ok (.iload_n 1, 1) := by decide +kernel
theorem dX5_giveBack_8 : decode cX5_giveBack 8 = .ok (.invokevirtual 76, 3) := by decide +kernel
theorem dX5_giveBack_11 : decode cX5_giveBack 11 = .ok (.iadd, 1) := by decide +kernel
theorem dX5_giveBack_12 : decode cX5_giveBack 12 = .ok (.istore_n 2, 1) := by decide +kernel
theorem dX5_giveBack_13 : decode cX5_giveBack 13 = .ok (.aload_n 0, 1) := by decide +kernel
theorem dX5_giveBack_14 : decode cX5_giveBack 14 = .ok (.getfield 13, 3) := by decide +kernel
theorem dX5_giveBack_17 : decode cX5_giveBack 17 = .ok (.iload_n 2, 1) := by decide +kernel
theorem dX5_giveBack_18 : decode cX5_giveBack 18 = .ok (.iaload, 1) := by decide +kernel
theorem dX5_giveBack_19 : decode cX5_giveBack 19 = .ok (.istore_n 3, 1) := by decide +kernel
theorem dX5_giveBack_20 : decode cX5_giveBack 20 = .ok (.iconst 2, 1) := by decide +kernel
theorem dX5_giveBack_21 : decode cX5_giveBack 21 = .ok (.iload_n 3, 1) := by decide +kernel
theorem dX5_giveBack_22 : decode cX5_giveBack 22 = .ok (.invokestatic 54, 3) := by decide +kernel
theorem dX5_giveBack_25 : decode cX5_giveBack 25 = .ok (.imul, 1) := by decide +kernel
theorem dX5_giveBack_26 : decode cX5_giveBack 26 = .ok (.istore 4, 2) := by decide +kernel
theorem dX5_giveBack_28 : decode cX5_giveBack 28 = .ok (.iload 4, 2) := by decide +kernel
theorem dX5_giveBack_30 : decode cX5_giveBack 30 = .ok (.iconst 2, 1) := by decide +kernel
theorem dX5_giveBack_31 : decode cX5_giveBack 31 = .ok (.iload_n 3, 1) := by decide +kernel
theorem dX5_giveBack_32 : decode cX5_giveBack 32 = .ok (.invokestatic 54, 3) := by decide +kernel
theorem dX5_giveBack_35 : decode cX5_giveBack 35 = .ok (.iload_n 3, 1) := by decide +kernel
theorem dX5_giveBack_36 : decode cX5_giveBack 36 = .ok (.invokestatic 67, 3) := by decide +kernel
theorem dX5_giveBack_39 : decode cX5_giveBack 39 = .ok (.iadd, 1) := by decide +kernel
theorem dX5_giveBack_40 : decode cX5_giveBack 40 = .ok (.imul, 1) := by decide +kernel
theorem dX5_giveBack_41 : decode cX5_giveBack 41 = .ok (.if_icmp .ge 20, 3) := by decide +kernel
theorem dX5_giveBack_44 : decode cX5_giveBack 44 = .ok (.aload_n 0, 1) := by decide +kernel
theorem dX5_giveBack_45 : decode cX5_giveBack 45 = .ok (.getfield 13, 3) := by decide +kernel
theorem dX5_giveBack_48 : decode cX5_giveBack 48 = .ok (.bipush 46, 2) := by decide +kernel
theorem dX5_giveBack_50 : decode cX5_giveBack 50 = .ok (.iload 4, 2) := by decide +kernel
theorem dX5_giveBack_52 : decode cX5_giveBack 52 = .ok (.iadd, 1) := by decide +kernel
theorem dX5_giveBack_53 : decode cX5_giveBack 53 = .ok (.iconst 0, 1) := by decide +kernel
theorem dX5_giveBack_54 : decode cX5_giveBack 54 = .ok (.iastore, 1) := by decide +kernel
theorem dX5_giveBack_55 : decode cX5_giveBack 55 = .ok (.iinc 4 1, 3) := by decide +kernel
theorem dX5_giveBack_58 : decode cX5_giveBack 58 = .ok (.goto (-30), 3) := by decide +kernel
theorem dX5_giveBack_61 : decode cX5_giveBack 61 = .ok (.aload_n 0, 1) := by decide +kernel
theorem dX5_giveBack_62 : decode cX5_giveBack 62 = .ok (.getfield 13, 3) := by decide +kernel
theorem dX5_giveBack_65 : decode cX5_giveBack 65 = .ok (.bipush 45, 2) := by decide +kernel
theorem dX5_giveBack_67 : decode cX5_giveBack 67 = .ok (.aload_n 0, 1) := by decide +kernel
theorem dX5_giveBack_68 : decode cX5_giveBack 68 = .ok (.getfield 13, 3) := by decide +kernel
theorem dX5_giveBack_71 : decode cX5_giveBack 71 = .ok (.bipush 45, 2) := by decide +kernel
theorem dX5_giveBack_73 : decode cX5_giveBack 73 = .ok (.iaload, 1) := by decide +kernel
theorem dX5_giveBack_74 : decode cX5_giveBack 74 = .ok (.iload_n 3, 1) := by decide +kernel
theorem dX5_giveBack_75 : decode cX5_giveBack 75 = .ok (.invokestatic 54, 3) := by decide +kernel
theorem dX5_giveBack_78 : decode cX5_giveBack 78 = .ok (.iload_n 3, 1) := by decide +kernel
theorem dX5_giveBack_79 : decode cX5_giveBack 79 = .ok (.invokestatic 50, 3) := by decide +kernel
theorem dX5_giveBack_82 : decode cX5_giveBack 82 = .ok (.invokestatic 85, 3) := by decide +kernel
theorem dX5_giveBack_85 : decode cX5_giveBack 85 = .ok (.iconst (-1), 1) := by decide +kernel
theorem dX5_giveBack_86 : decode cX5_giveBack 86 = .ok (.ixor, 1) := by decide +kernel
theorem dX5_giveBack_87 : decode cX5_giveBack 87 = .ok (.iand, 1) := by decide +kernel
theorem dX5_giveBack_88 : decode cX5_giveBack 88 = .ok (.iastore, 1) := by decide +kernel
theorem dX5_giveBack_89 : decode cX5_giveBack 89 = .ok (.aload_n 0, 1) := by decide +kernel
theorem dX5_giveBack_90 : decode cX5_giveBack 90 = .ok (.getfield 13, 3) := by decide +kernel
theorem dX5_giveBack_93 : decode cX5_giveBack 93 = .ok (.iload_n 2, 1) := by decide +kernel
theorem dX5_giveBack_94 : decode cX5_giveBack 94 = .ok (.iconst 0, 1) := by decide +kernel
theorem dX5_giveBack_95 : decode cX5_giveBack 95 = .ok (.iastore, 1) := by decide +kernel
theorem dX5_giveBack_96 : decode cX5_giveBack 96 = .ok (.return_, 1) := by decide +kernel
set_option maxRecDepth 20000 in
theorem ggX5_shrink_X5_runs : GoodIn wsX5_shrink wsX5_runs := goodIn_r _ [6, 7, 8, 9, 5, 10, 1, 35, 36, 37, 38, 39, 40, 41, 42, 43, 44, 45, 46] (by decide +kernel) (by decide +kernel)
set_option maxRecDepth 20000 in
theorem gX5_shrink_X5_runs : GoodIn wsX5_shrink (wsV RX5 76 RX5 yX5_runs wsX5_runs) := goodIn_app (goodIn_of _ (by decide +kernel)) ggX5_shrink_X5_runs
set_option maxRecDepth 20000 in
theorem ggX5_shrink_X5_blocks : GoodIn wsX5_shrink wsX5_blocks := goodIn_r _ [14, 7, 8, 9, 5, 10, 1, 15, 16, 17, 18, 19, 20, 35, 36, 37, 38, 39, 40, 41, 42, 43, 44, 45, 46] (by decide +kernel) (by decide +kernel)
set_option maxRecDepth 20000 in
theorem gX5_shrink_X5_blocks : GoodIn wsX5_shrink (wsV RX5 70 RX5 yX5_blocks wsX5_blocks) := goodIn_app (goodIn_of _ (by decide +kernel)) ggX5_shrink_X5_blocks
set_option maxRecDepth 20000 in
theorem ggX5_shrink_X5_extentOf : GoodIn wsX5_shrink wsX5_extentOf := goodIn_r _ [10, 1, 35, 36, 37, 38, 39, 40, 41, 42, 43, 44, 45, 46] (by decide +kernel) (by decide +kernel)
set_option maxRecDepth 20000 in
theorem gX5_shrink_X5_extentOf : GoodIn wsX5_shrink (wsV RX5 63 RX5 yX5_extentOf wsX5_extentOf) := goodIn_app (goodIn_of _ (by decide +kernel)) ggX5_shrink_X5_extentOf
set_option maxRecDepth 20000 in
theorem ggX5_shrink_X5_size : GoodIn wsX5_shrink wsX5_size := goodIn_r _ [17, 18, 19, 5, 20] (by decide +kernel) (by decide +kernel)
set_option maxRecDepth 20000 in
theorem gX5_shrink_X5_size : GoodIn wsX5_shrink (va_wsS RX5 67 yX5_size wsX5_size) := goodIn_app (goodIn_of _ (by decide +kernel)) ggX5_shrink_X5_size
set_option maxRecDepth 20000 in
theorem ggX5_shrink_X5_giveBack : GoodIn wsX5_shrink wsX5_giveBack := goodIn_r _ [24, 1, 2, 3, 4, 5, 6, 7, 8, 9, 10, 25, 26, 27, 15, 16, 17, 18, 19, 20, 28, 29, 30, 35, 36, 37, 38, 39, 40, 41, 42, 43, 44, 45, 46] (by decide +kernel) (by decide +kernel)
set_option maxRecDepth 20000 in
theorem gX5_shrink_X5_giveBack : GoodIn wsX5_shrink (wsV RX5 94 RX5 yX5_giveBack wsX5_giveBack) := goodIn_app (goodIn_of _ (by decide +kernel)) ggX5_shrink_X5_giveBack
set_option maxRecDepth 20000 in
theorem ggX5_shrink_X5_wordCell : GoodIn wsX5_shrink wsX5_wordCell := goodIn_r _ [34, 7, 8, 9, 5, 10, 1, 15, 16, 17, 18, 19, 20, 25, 26, 27, 35, 36, 37, 38, 39, 40, 41, 42, 43, 44, 45, 46] (by decide +kernel) (by decide +kernel)
set_option maxRecDepth 20000 in
theorem gX5_shrink_X5_wordCell : GoodIn wsX5_shrink (wsV RX5 98 RX5 yX5_wordCell wsX5_wordCell) := goodIn_app (goodIn_of _ (by decide +kernel)) ggX5_shrink_X5_wordCell
theorem dX5_shrink_0 : decode cX5_shrink 0 = .ok (.iload_n 2, 1) := by decide +kernel
theorem dX5_shrink_1 : decode cX5_shrink 1 = .ok (.iconst 1, 1) := by decide +kernel
theorem dX5_shrink_2 : decode cX5_shrink 2 = .ok (.iadd, 1) := by decide +kernel
theorem dX5_shrink_3 : decode cX5_shrink 3 = .ok (.iconst 2, 1) := by decide +kernel
theorem dX5_shrink_4 : decode cX5_shrink 4 = .ok (.idiv, 1) := by decide +kernel
theorem dX5_shrink_5 : decode cX5_shrink 5 = .ok (.istore_n 3, 1) := by decide +kernel
theorem dX5_shrink_6 : decode cX5_shrink 6 = .ok (.aload_n 0, 1) := by decide +kernel
theorem dX5_shrink_7 : decode cX5_shrink 7 = .ok (.iload_n 1, 1) := by decide +kernel
theorem dX5_shrink_8 : decode cX5_shrink 8 = .ok (.invokevirtual 76, 3) := by decide +kernel
theorem dX5_shrink_11 : decode cX5_shrink 11 = .ok (.ifCond .le 36, 3) := by decide +kernel
theorem dX5_shrink_14 : decode cX5_shrink 14 = .ok (.aload_n 0, 1) := by decide +kernel
theorem dX5_shrink_15 : decode cX5_shrink 15 = .ok (.iload_n 1, 1) := by decide +kernel
theorem dX5_shrink_16 : decode cX5_shrink 16 = .ok (.invokevirtual 70, 3) := by decide +kernel
theorem dX5_shrink_19 : decode cX5_shrink 19 = .ok (.aload_n 0, 1) := by decide +kernel
theorem dX5_shrink_20 : decode cX5_shrink 20 = .ok (.iload_n 1, 1) := by decide +kernel
theorem dX5_shrink_21 : decode cX5_shrink 21 = .ok (.aload_n 0, 1) := by decide +kernel
theorem dX5_shrink_22 : decode cX5_shrink 22 = .ok (.iload_n 1, 1) := by decide +kernel
theorem dX5_shrink_23 : decode cX5_shrink 23 = .ok (.invokevirtual 76, 3) := by decide +kernel
theorem dX5_shrink_26 : decode cX5_shrink 26 = .ok (.iconst 1, 1) := by decide +kernel
theorem dX5_shrink_27 : decode cX5_shrink 27 = .ok (.isub, 1) := by decide +kernel
theorem dX5_shrink_28 : decode cX5_shrink 28 = .ok (.invokevirtual 63, 3) := by decide +kernel
theorem dX5_shrink_31 : decode cX5_shrink 31 = .ok (.invokestatic 67, 3) := by decide +kernel
theorem dX5_shrink_34 : decode cX5_shrink 34 = .ok (.isub, 1) := by decide +kernel
theorem dX5_shrink_35 : decode cX5_shrink 35 = .ok (.iload_n 3, 1) := by decide +kernel
theorem dX5_shrink_36 : decode cX5_shrink 36 = .ok (.if_icmp .lt 11, 3) := by decide +kernel
theorem dX5_shrink_39 : decode cX5_shrink 39 = .ok (.aload_n 0, 1) := by decide +kernel
theorem dX5_shrink_40 : decode cX5_shrink 40 = .ok (.iload_n 1, 1) := by decide +kernel
theorem dX5_shrink_41 : decode cX5_shrink 41 = .ok (.invokevirtual 94, 3) := by decide +kernel
theorem dX5_shrink_44 : decode cX5_shrink 44 = .ok (.goto (-38), 3) := by decide +kernel
theorem dX5_shrink_47 : decode cX5_shrink 47 = .ok (.aload_n 0, 1) := by decide +kernel
theorem dX5_shrink_48 : decode cX5_shrink 48 = .ok (.getfield 13, 3) := by decide +kernel
theorem dX5_shrink_51 : decode cX5_shrink 51 = .ok (.bipush 7, 2) := by decide +kernel
theorem dX5_shrink_53 : decode cX5_shrink 53 = .ok (.iload_n 1, 1) := by decide +kernel
theorem dX5_shrink_54 : decode cX5_shrink 54 = .ok (.imul, 1) := by decide +kernel
theorem dX5_shrink_55 : decode cX5_shrink 55 = .ok (.iconst 2, 1) := by decide +kernel
theorem dX5_shrink_56 : decode cX5_shrink 56 = .ok (.iadd, 1) := by decide +kernel
theorem dX5_shrink_57 : decode cX5_shrink 57 = .ok (.iload_n 2, 1) := by decide +kernel
theorem dX5_shrink_58 : decode cX5_shrink 58 = .ok (.iastore, 1) := by decide +kernel
theorem dX5_shrink_59 : decode cX5_shrink 59 = .ok (.iload_n 2, 1) := by decide +kernel
theorem dX5_shrink_60 : decode cX5_shrink 60 = .ok (.istore 4, 2) := by decide +kernel
theorem dX5_shrink_62 : decode cX5_shrink 62 = .ok (.iload 4, 2) := by decide +kernel
theorem dX5_shrink_64 : decode cX5_shrink 64 = .ok (.iconst 2, 1) := by decide +kernel
theorem dX5_shrink_65 : decode cX5_shrink 65 = .ok (.aload_n 0, 1) := by decide +kernel
theorem dX5_shrink_66 : decode cX5_shrink 66 = .ok (.iload_n 1, 1) := by decide +kernel
theorem dX5_shrink_67 : decode cX5_shrink 67 = .ok (.invokevirtual 70, 3) := by decide +kernel
theorem dX5_shrink_70 : decode cX5_shrink 70 = .ok (.imul, 1) := by decide +kernel
theorem dX5_shrink_71 : decode cX5_shrink 71 = .ok (.if_icmp .ge 22, 3) := by decide +kernel
theorem dX5_shrink_74 : decode cX5_shrink 74 = .ok (.aload_n 0, 1) := by decide +kernel
theorem dX5_shrink_75 : decode cX5_shrink 75 = .ok (.getfield 13, 3) := by decide +kernel
theorem dX5_shrink_78 : decode cX5_shrink 78 = .ok (.aload_n 0, 1) := by decide +kernel
theorem dX5_shrink_79 : decode cX5_shrink 79 = .ok (.iload_n 1, 1) := by decide +kernel
theorem dX5_shrink_80 : decode cX5_shrink 80 = .ok (.iload 4, 2) := by decide +kernel
theorem dX5_shrink_82 : decode cX5_shrink 82 = .ok (.invokevirtual 98, 3) := by decide +kernel
theorem dX5_shrink_85 : decode cX5_shrink 85 = .ok (.iconst 0, 1) := by decide +kernel
theorem dX5_shrink_86 : decode cX5_shrink 86 = .ok (.iastore, 1) := by decide +kernel
theorem dX5_shrink_87 : decode cX5_shrink 87 = .ok (.iinc 4 1, 3) := by decide +kernel
theorem dX5_shrink_90 : decode cX5_shrink 90 = .ok (.goto (-28), 3) := by decide +kernel
theorem dX5_shrink_93 : decode cX5_shrink 93 = .ok (.return_, 1) := by decide +kernel
set_option maxRecDepth 20000 in
theorem ggX5_takeAway_X5_runs : GoodIn wsX5_takeAway wsX5_runs := goodIn_r _ [6, 7, 8, 9, 5, 10, 1, 27, 28, 29, 30, 31, 32, 33, 34, 35, 36, 37, 38] (by decide +kernel) (by decide +kernel)
set_option maxRecDepth 20000 in
theorem gX5_takeAway_X5_runs : GoodIn wsX5_takeAway (wsV RX5 76 RX5 yX5_runs wsX5_runs) := goodIn_app (goodIn_of _ (by decide +kernel)) ggX5_takeAway_X5_runs
set_option maxRecDepth 20000 in
theorem ggX5_takeAway_X5_giveBack : GoodIn wsX5_takeAway wsX5_giveBack := goodIn_r _ [14, 1, 2, 3, 4, 5, 6, 7, 8, 9, 10, 15, 16, 17, 18, 19, 20, 21, 22, 23, 24, 25, 26, 27, 28, 29, 30, 31, 32, 33, 34, 35, 36, 37, 38] (by decide +kernel) (by decide +kernel)
set_option maxRecDepth 20000 in
theorem gX5_takeAway_X5_giveBack : GoodIn wsX5_takeAway (wsV RX5 94 RX5 yX5_giveBack wsX5_giveBack) := goodIn_app (goodIn_of _ (by decide +kernel)) ggX5_takeAway_X5_giveBack
theorem dX5_takeAway_0 : decode cX5_takeAway 0 = .ok (.aload_n 0, 1) := by decide +kernel
theorem dX5_takeAway_1 : decode cX5_takeAway 1 = .ok (.iload_n 1, 1) := by decide +kernel
theorem dX5_takeAway_2 : decode cX5_takeAway 2 = .ok (.invokevirtual 76, 3) := by decide +kernel
theorem dX5_takeAway_5 : decode cX5_takeAway 5 = .ok (.ifCond .le 11, 3) := by decide +kernel
theorem dX5_takeAway_8 : decode cX5_takeAway 8 = .ok (.aload_n 0, 1) := by decide +kernel
theorem dX5_takeAway_9 : decode cX5_takeAway 9 = .ok (.iload_n 1, 1) := by decide +kernel
theorem dX5_takeAway_10 : decode cX5_takeAway 10 = .ok (.invokevirtual 94, 3) := by decide +kernel
theorem dX5_takeAway_13 : decode cX5_takeAway 13 = .ok (.goto (-13), 3) := by decide +kernel
theorem dX5_takeAway_16 : decode cX5_takeAway 16 = .ok (.bipush 7, 2) := by decide +kernel
theorem dX5_takeAway_18 : decode cX5_takeAway 18 = .ok (.iload_n 1, 1) := by decide +kernel
theorem dX5_takeAway_19 : decode cX5_takeAway 19 = .ok (.imul, 1) := by decide +kernel
theorem dX5_takeAway_20 : decode cX5_takeAway 20 = .ok (.istore_n 2, 1) := by decide +kernel
theorem dX5_takeAway_21 : decode cX5_takeAway 21 = .ok (.iload_n 2, 1) := by decide +kernel
theorem dX5_takeAway_22 : decode cX5_takeAway 22 = .ok (.bipush 7, 2) := by decide +kernel
theorem dX5_takeAway_24 : decode cX5_takeAway 24 = .ok (.iload_n 1, 1) := by decide +kernel
theorem dX5_takeAway_25 : decode cX5_takeAway 25 = .ok (.imul, 1) := by decide +kernel
theorem dX5_takeAway_26 : decode cX5_takeAway 26 = .ok (.bipush 7, 2) := by decide +kernel
theorem dX5_takeAway_28 : decode cX5_takeAway 28 = .ok (.iadd, 1) := by decide +kernel
theorem dX5_takeAway_29 : decode cX5_takeAway 29 = .ok (.if_icmp .ge 16, 3) := by decide +kernel
theorem dX5_takeAway_32 : decode cX5_takeAway 32 = .ok (.aload_n 0, 1) := by decide +kernel
theorem dX5_takeAway_33 : decode cX5_takeAway 33 = .ok (.getfield 13, 3) := by decide +kernel
theorem dX5_takeAway_36 : decode cX5_takeAway 36 = .ok (.iload_n 2, 1) := by decide +kernel
theorem dX5_takeAway_37 : decode cX5_takeAway 37 = .ok (.iconst 0, 1) := by decide +kernel
theorem dX5_takeAway_38 : decode cX5_takeAway 38 = .ok (.iastore, 1) := by decide +kernel
theorem dX5_takeAway_39 : decode cX5_takeAway 39 = .ok (.iinc 2 1, 3) := by decide +kernel
theorem dX5_takeAway_42 : decode cX5_takeAway 42 = .ok (.goto (-21), 3) := by decide +kernel
theorem dX5_takeAway_45 : decode cX5_takeAway 45 = .ok (.return_, 1) := by decide +kernel
theorem dX5_isOpen_0 : decode cX5_isOpen 0 = .ok (.iconst 0, 1) := by decide +kernel
theorem dX5_isOpen_1 : decode cX5_isOpen 1 = .ok (.istore_n 2, 1) := by decide +kernel
theorem dX5_isOpen_2 : decode cX5_isOpen 2 = .ok (.iconst 0, 1) := by decide +kernel
theorem dX5_isOpen_3 : decode cX5_isOpen 3 = .ok (.istore_n 3, 1) := by decide +kernel
theorem dX5_isOpen_4 : decode cX5_isOpen 4 = .ok (.iload_n 3, 1) := by decide +kernel
theorem dX5_isOpen_5 : decode cX5_isOpen 5 = .ok (.iconst 4, 1) := by decide +kernel
theorem dX5_isOpen_6 : decode cX5_isOpen 6 = .ok (.if_icmp .ge 31, 3) := by decide +kernel
theorem dX5_isOpen_9 : decode cX5_isOpen 9 = .ok (.iload_n 2, 1) := by decide +kernel
theorem dX5_isOpen_10 : decode cX5_isOpen 10 = .ok (.ifCond .ne 15, 3) := by decide +kernel
theorem dX5_isOpen_13 : decode cX5_isOpen 13 = .ok (.aload_n 0, 1) := by decide +kernel
theorem dX5_isOpen_14 : decode cX5_isOpen 14 = .ok (.getfield 16, 3) := by decide +kernel
theorem dX5_isOpen_17 : decode cX5_isOpen 17 = .ok (.iload_n 3, 1) := by decide +kernel
theorem dX5_isOpen_18 : decode cX5_isOpen 18 = .ok (.iaload, 1) := by decide +kernel
theorem dX5_isOpen_19 : decode cX5_isOpen 19 = .ok (.iload_n 1, 1) := by decide +kernel
theorem dX5_isOpen_20 : decode cX5_isOpen 20 = .ok (.iconst 1, 1) := by decide +kernel
theorem dX5_isOpen_21 : decode cX5_isOpen 21 = .ok (.iadd, 1) := by decide +kernel
theorem dX5_isOpen_22 : decode cX5_isOpen 22 = .ok (.if_icmp .ne 7, 3) := by decide +kernel
theorem dX5_isOpen_25 : decode cX5_isOpen 25 = .ok (.iconst 1, 1) := by decide +kernel
theorem dX5_isOpen_26 : decode cX5_isOpen 26 = .ok (.goto 4, 3) := by decide +kernel
theorem dX5_isOpen_29 : decode cX5_isOpen 29 = .ok (.iconst 0, 1) := by decide +kernel
theorem dX5_isOpen_30 : decode cX5_isOpen 30 = .ok (.istore_n 2, 1) := by decide +kernel
theorem dX5_isOpen_31 : decode cX5_isOpen 31 = .ok (.iinc 3 1, 3) := by decide +kernel
theorem dX5_isOpen_34 : decode cX5_isOpen 34 = .ok (.goto (-30), 3) := by decide +kernel
theorem dX5_isOpen_37 : decode cX5_isOpen 37 = .ok (.iload_n 2, 1) := by decide +kernel
theorem dX5_isOpen_38 : decode cX5_isOpen 38 = .ok (.ireturn, 1) := by decide +kernel
end
section
set_option maxRecDepth 20000 in
theorem ggX5_create_X5_within : GoodIn wsX5_create wsX5_within := goodIn_r _ [6] (by decide +kernel) (by decide +kernel)
set_option maxRecDepth 20000 in
theorem gX5_create_X5_within : GoodIn wsX5_create (va_wsS RX5 38 yX5_within wsX5_within) := goodIn_app (goodIn_of _ (by decide +kernel)) ggX5_create_X5_within
set_option maxRecDepth 20000 in
theorem ggX5_create_X5_slotOf : GoodIn wsX5_create wsX5_slotOf := goodIn_r _ [10, 2, 11, 12, 13, 14, 15, 16, 17, 18, 19, 20, 21, 22] (by decide +kernel) (by decide +kernel)
set_option maxRecDepth 20000 in
theorem gX5_create_X5_slotOf : GoodIn wsX5_create (wsV RX5 101 RX5 yX5_slotOf wsX5_slotOf) := goodIn_app (goodIn_of _ (by decide +kernel)) ggX5_create_X5_slotOf
theorem dX5_create_0 : decode cX5_create 0 = .ok (.aload_n 0, 1) := by decide +kernel
theorem dX5_create_1 : decode cX5_create 1 = .ok (.getfield 42, 3) := by decide +kernel
theorem dX5_create_4 : decode cX5_create 4 = .ok (.ifCond .ne 6, 3) := by decide +kernel
theorem dX5_create_7 : decode cX5_create 7 = .ok (.bipush (-11), 2) := by decide +kernel
theorem dX5_create_9 : decode cX5_create 9 = .ok (.ireturn, 1) := by decide +kernel
theorem dX5_create_10 : decode cX5_create 10 = .ok (.iload_n 1, 1) := by decide +kernel
theorem dX5_create_11 : decode cX5_create 11 = .ok (.iconst 1, 1) := by decide +kernel
theorem dX5_create_12 : decode cX5_create 12 = .ok (.bipush 99, 2) := by decide +kernel
theorem dX5_create_14 : decode cX5_create 14 = .ok (.invokestatic 38, 3) := by decide +kernel
theorem dX5_create_17 : decode cX5_create 17 = .ok (.ifCond .eq 12, 3) := by decide +kernel
theorem dX5_create_20 : decode cX5_create 20 = .ok (.iload_n 2, 1) := by decide +kernel
theorem dX5_create_21 : decode cX5_create 21 = .ok (.iconst 0, 1) := by decide +kernel
theorem dX5_create_22 : decode cX5_create 22 = .ok (.iconst 2, 1) := by decide +kernel
theorem dX5_create_23 : decode cX5_create 23 = .ok (.invokestatic 38, 3) := by decide +kernel
theorem dX5_create_26 : decode cX5_create 26 = .ok (.ifCond .ne 6, 3) := by decide +kernel
theorem dX5_create_29 : decode cX5_create 29 = .ok (.bipush (-12), 2) := by decide +kernel
theorem dX5_create_31 : decode cX5_create 31 = .ok (.ireturn, 1) := by decide +kernel
theorem dX5_create_32 : decode cX5_create 32 = .ok (.aload_n 0, 1) := by decide +kernel
theorem dX5_create_33 : decode cX5_create 33 = .ok (.iload_n 1, 1) := by decide +kernel
theorem dX5_create_34 : decode cX5_create 34 = .ok (.invokevirtual 101, 3) := by decide +kernel
theorem dX5_create_37 : decode cX5_create 37 = .ok (.ifCond .lt 5, 3) := by decide +kernel
theorem dX5_create_40 : decode cX5_create 40 = .ok (.iconst (-1), 1) := by decide +kernel
theorem dX5_create_41 : decode cX5_create 41 = .ok (.ireturn, 1) := by decide +kernel
theorem dX5_create_42 : decode cX5_create 42 = .ok (.iconst 0, 1) := by decide +kernel
theorem dX5_create_43 : decode cX5_create 43 = .ok (.istore_n 3, 1) := by decide +kernel
theorem dX5_create_44 : decode cX5_create 44 = .ok (.iload_n 3, 1) := by decide +kernel
theorem dX5_create_45 : decode cX5_create 45 = .ok (.bipush 6, 2) := by decide +kernel
theorem dX5_create_47 : decode cX5_create 47 = .ok (.if_icmp .ge 45, 3) := by decide +kernel
theorem dX5_create_50 : decode cX5_create 50 = .ok (.aload_n 0, 1) := by decide +kernel
theorem dX5_create_51 : decode cX5_create 51 = .ok (.getfield 13, 3) := by decide +kernel
theorem dX5_create_54 : decode cX5_create 54 = .ok (.bipush 7, 2) := by decide +kernel
theorem dX5_create_56 : decode cX5_create 56 = .ok (.iload_n 3, 1) := by decide +kernel
theorem dX5_create_57 : decode cX5_create 57 = .ok (.imul, 1) := by decide +kernel
theorem dX5_create_58 : decode cX5_create 58 = .ok (.iaload, 1) := by decide +kernel
theorem dX5_create_59 : decode cX5_create 59 = .ok (.ifCond .ne 27, 3) := by decide +kernel
theorem dX5_create_62 : decode cX5_create 62 = .ok (.aload_n 0, 1) := by decide +kernel
theorem dX5_create_63 : decode cX5_create 63 = .ok (.getfield 13, 3) := by decide +kernel
theorem dX5_create_66 : decode cX5_create 66 = .ok (.bipush 7, 2) := by decide +kernel
theorem dX5_create_68 : decode cX5_create 68 = .ok (.iload_n 3, 1) := by decide +kernel
theorem dX5_create_69 : decode cX5_create 69 = .ok (.imul, 1) := by decide +kernel
theorem dX5_create_70 : decode cX5_create 70 = .ok (.iload_n 1, 1) := by decide +kernel
theorem dX5_create_71 : decode cX5_create 71 = .ok (.iastore, 1) := by decide +kernel
theorem dX5_create_72 : decode cX5_create 72 = .ok (.aload_n 0, 1) := by decide +kernel
theorem dX5_create_73 : decode cX5_create 73 = .ok (.getfield 13, 3) := by decide +kernel
theorem dX5_create_76 : decode cX5_create 76 = .ok (.bipush 7, 2) := by decide +kernel
theorem dX5_create_78 : decode cX5_create 78 = .ok (.iload_n 3, 1) := by decide +kernel
theorem dX5_create_79 : decode cX5_create 79 = .ok (.imul, 1) := by decide +kernel
theorem dX5_create_80 : decode cX5_create 80 = .ok (.iconst 1, 1) := by decide +kernel
theorem dX5_create_81 : decode cX5_create 81 = .ok (.iadd, 1) := by decide +kernel
theorem dX5_create_82 : decode cX5_create 82 = .ok (.iload_n 2, 1) := by decide +kernel
theorem dX5_create_83 : decode cX5_create 83 = .ok (.iastore, 1) := by decide +kernel
theorem dX5_create_84 : decode cX5_create 84 = .ok (.iload_n 3, 1) := by decide +kernel
theorem dX5_create_85 : decode cX5_create 85 = .ok (.ireturn, 1) := by decide +kernel
theorem dX5_create_86 : decode cX5_create 86 = .ok (.iinc 3 1, 3) := by decide +kernel
theorem dX5_create_89 : decode cX5_create 89 = .ok (.goto (-45), 3) := by decide +kernel
theorem dX5_create_92 : decode cX5_create 92 = .ok (.bipush (-2), 2) := by decide +kernel
theorem dX5_create_94 : decode cX5_create 94 = .ok (.ireturn, 1) := by decide +kernel
set_option maxRecDepth 20000 in
theorem ggX5_unlink_X5_slotOf : GoodIn wsX5_unlink wsX5_slotOf := goodIn_r _ [6, 7, 41, 42, 43, 44, 45, 46, 47, 48, 49, 50, 51, 52] (by decide +kernel) (by decide +kernel)
set_option maxRecDepth 20000 in
theorem gX5_unlink_X5_slotOf : GoodIn wsX5_unlink (wsV RX5 101 RX5 yX5_slotOf wsX5_slotOf) := goodIn_app (goodIn_of _ (by decide +kernel)) ggX5_unlink_X5_slotOf
set_option maxRecDepth 20000 in
theorem ggX5_unlink_X5_isOpen : GoodIn wsX5_unlink wsX5_isOpen := goodIn_r _ [11, 12, 41, 42, 43, 44, 45, 46, 47, 48, 49, 50, 51, 52] (by decide +kernel) (by decide +kernel)
set_option maxRecDepth 20000 in
theorem gX5_unlink_X5_isOpen : GoodIn wsX5_unlink (wsV RX5 104 RX5 yX5_isOpen wsX5_isOpen) := goodIn_app (goodIn_of _ (by decide +kernel)) ggX5_unlink_X5_isOpen
set_option maxRecDepth 20000 in
theorem ggX5_unlink_X5_takeAway : GoodIn wsX5_unlink wsX5_takeAway := goodIn_r _ [16, 7, 17, 18, 19, 5, 20, 21, 22, 23, 24, 25, 26, 27, 28, 29, 30, 31, 32, 33, 34, 35, 36, 37, 38, 39, 40, 41, 42, 43, 44, 45, 46, 47, 48, 49, 50, 51, 52] (by decide +kernel) (by decide +kernel)
set_option maxRecDepth 20000 in
theorem gX5_unlink_X5_takeAway : GoodIn wsX5_unlink (wsV RX5 108 RX5 yX5_takeAway wsX5_takeAway) := goodIn_app (goodIn_of _ (by decide +kernel)) ggX5_unlink_X5_takeAway
theorem dX5_unlink_0 : decode cX5_unlink 0 = .ok (.aload_n 0, 1) := by decide +kernel
theorem dX5_unlink_1 : decode cX5_unlink 1 = .ok (.getfield 42, 3) := by decide +kernel
theorem dX5_unlink_4 : decode cX5_unlink 4 = .ok (.ifCond .ne 6, 3) := by decide +kernel
theorem dX5_unlink_7 : decode cX5_unlink 7 = .ok (.bipush (-11), 2) := by decide +kernel
theorem dX5_unlink_9 : decode cX5_unlink 9 = .ok (.ireturn, 1) := by decide +kernel
theorem dX5_unlink_10 : decode cX5_unlink 10 = .ok (.aload_n 0, 1) := by decide +kernel
theorem dX5_unlink_11 : decode cX5_unlink 11 = .ok (.iload_n 1, 1) := by decide +kernel
theorem dX5_unlink_12 : decode cX5_unlink 12 = .ok (.invokevirtual 101, 3) := by decide +kernel
theorem dX5_unlink_15 : decode cX5_unlink 15 = .ok (.istore_n 2, 1) := by decide +kernel
theorem dX5_unlink_16 : decode cX5_unlink 16 = .ok (.iload_n 2, 1) := by decide +kernel
theorem dX5_unlink_17 : decode cX5_unlink 17 = .ok (.ifCond .ge 6, 3) := by decide +kernel
theorem dX5_unlink_20 : decode cX5_unlink 20 = .ok (.bipush (-3), 2) := by decide +kernel
theorem dX5_unlink_22 : decode cX5_unlink 22 = .ok (.ireturn, 1) := by decide +kernel
theorem dX5_unlink_23 : decode cX5_unlink 23 = .ok (.aload_n 0, 1) := by decide +kernel
theorem dX5_unlink_24 : decode cX5_unlink 24 = .ok (.iload_n 2, 1) := by decide +kernel
theorem dX5_unlink_25 : decode cX5_unlink 25 = .ok (.invokevirtual 104, 3) := by decide +kernel
theorem dX5_unlink_28 : decode cX5_unlink 28 = .ok (.ifCond .eq 6, 3) := by decide +kernel
theorem dX5_unlink_31 : decode cX5_unlink 31 = .ok (.bipush (-4), 2) := by decide +kernel
theorem dX5_unlink_33 : decode cX5_unlink 33 = .ok (.ireturn, 1) := by decide +kernel
theorem dX5_unlink_34 : decode cX5_unlink 34 = .ok (.aload_n 0, 1) := by decide +kernel
theorem dX5_unlink_35 : decode cX5_unlink 35 = .ok (.iload_n 2, 1) := by decide +kernel
theorem dX5_unlink_36 : decode cX5_unlink 36 = .ok (.invokevirtual 108, 3) := by decide +kernel
theorem dX5_unlink_39 : decode cX5_unlink 39 = .ok (.iconst 0, 1) := by decide +kernel
theorem dX5_unlink_40 : decode cX5_unlink 40 = .ok (.ireturn, 1) := by decide +kernel
set_option maxRecDepth 20000 in
theorem ggX5_rename_X5_slotOf : GoodIn wsX5_rename wsX5_slotOf := goodIn_r _ [7, 2, 44, 45, 46, 47, 48, 49, 50, 51, 52, 53, 54, 55] (by decide +kernel) (by decide +kernel)
set_option maxRecDepth 20000 in
theorem gX5_rename_X5_slotOf : GoodIn wsX5_rename (wsV RX5 101 RX5 yX5_slotOf wsX5_slotOf) := goodIn_app (goodIn_of _ (by decide +kernel)) ggX5_rename_X5_slotOf
set_option maxRecDepth 20000 in
theorem ggX5_rename_X5_within : GoodIn wsX5_rename wsX5_within := goodIn_r _ [10] (by decide +kernel) (by decide +kernel)
set_option maxRecDepth 20000 in
theorem gX5_rename_X5_within : GoodIn wsX5_rename (va_wsS RX5 38 yX5_within wsX5_within) := goodIn_app (goodIn_of _ (by decide +kernel)) ggX5_rename_X5_within
set_option maxRecDepth 20000 in
theorem ggX5_rename_X5_isOpen : GoodIn wsX5_rename wsX5_isOpen := goodIn_r _ [14, 15, 44, 45, 46, 47, 48, 49, 50, 51, 52, 53, 54, 55] (by decide +kernel) (by decide +kernel)
set_option maxRecDepth 20000 in
theorem gX5_rename_X5_isOpen : GoodIn wsX5_rename (wsV RX5 104 RX5 yX5_isOpen wsX5_isOpen) := goodIn_app (goodIn_of _ (by decide +kernel)) ggX5_rename_X5_isOpen
set_option maxRecDepth 20000 in
theorem ggX5_rename_X5_takeAway : GoodIn wsX5_rename wsX5_takeAway := goodIn_r _ [19, 2, 20, 21, 22, 6, 23, 24, 25, 26, 27, 28, 29, 30, 31, 32, 33, 34, 35, 36, 37, 38, 39, 40, 41, 42, 43, 44, 45, 46, 47, 48, 49, 50, 51, 52, 53, 54, 55] (by decide +kernel) (by decide +kernel)
set_option maxRecDepth 20000 in
theorem gX5_rename_X5_takeAway : GoodIn wsX5_rename (wsV RX5 108 RX5 yX5_takeAway wsX5_takeAway) := goodIn_app (goodIn_of _ (by decide +kernel)) ggX5_rename_X5_takeAway
theorem dX5_rename_0 : decode cX5_rename 0 = .ok (.aload_n 0, 1) := by decide +kernel
theorem dX5_rename_1 : decode cX5_rename 1 = .ok (.getfield 42, 3) := by decide +kernel
theorem dX5_rename_4 : decode cX5_rename 4 = .ok (.ifCond .ne 6, 3) := by decide +kernel
theorem dX5_rename_7 : decode cX5_rename 7 = .ok (.bipush (-11), 2) := by decide +kernel
theorem dX5_rename_9 : decode cX5_rename 9 = .ok (.ireturn, 1) := by decide +kernel
theorem dX5_rename_10 : decode cX5_rename 10 = .ok (.aload_n 0, 1) := by decide +kernel
theorem dX5_rename_11 : decode cX5_rename 11 = .ok (.iload_n 1, 1) := by decide +kernel
theorem dX5_rename_12 : decode cX5_rename 12 = .ok (.invokevirtual 101, 3) := by decide +kernel
theorem dX5_rename_15 : decode cX5_rename 15 = .ok (.istore_n 3, 1) := by decide +kernel
theorem dX5_rename_16 : decode cX5_rename 16 = .ok (.iload_n 3, 1) := by decide +kernel
theorem dX5_rename_17 : decode cX5_rename 17 = .ok (.ifCond .ge 6, 3) := by decide +kernel
theorem dX5_rename_20 : decode cX5_rename 20 = .ok (.bipush (-3), 2) := by decide +kernel
theorem dX5_rename_22 : decode cX5_rename 22 = .ok (.ireturn, 1) := by decide +kernel
theorem dX5_rename_23 : decode cX5_rename 23 = .ok (.iload_n 2, 1) := by decide +kernel
theorem dX5_rename_24 : decode cX5_rename 24 = .ok (.iconst 1, 1) := by decide +kernel
theorem dX5_rename_25 : decode cX5_rename 25 = .ok (.bipush 99, 2) := by decide +kernel
theorem dX5_rename_27 : decode cX5_rename 27 = .ok (.invokestatic 38, 3) := by decide +kernel
theorem dX5_rename_30 : decode cX5_rename 30 = .ok (.ifCond .ne 6, 3) := by decide +kernel
theorem dX5_rename_33 : decode cX5_rename 33 = .ok (.bipush (-12), 2) := by decide +kernel
theorem dX5_rename_35 : decode cX5_rename 35 = .ok (.ireturn, 1) := by decide +kernel
theorem dX5_rename_36 : decode cX5_rename 36 = .ok (.aload_n 0, 1) := by decide +kernel
theorem dX5_rename_37 : decode cX5_rename 37 = .ok (.iload_n 2, 1) := by decide +kernel
theorem dX5_rename_38 : decode cX5_rename 38 = .ok (.invokevirtual 101, 3) := by decide +kernel
theorem dX5_rename_41 : decode cX5_rename 41 = .ok (.istore 4, 2) := by decide +kernel
theorem dX5_rename_43 : decode cX5_rename 43 = .ok (.iload 4, 2) := by decide +kernel
theorem dX5_rename_45 : decode cX5_rename 45 = .ok (.ifCond .lt 27, 3) := by decide +kernel
theorem dX5_rename_48 : decode cX5_rename 48 = .ok (.iload 4, 2) := by decide +kernel
theorem dX5_rename_50 : decode cX5_rename 50 = .ok (.iload_n 3, 1) := by decide +kernel
theorem dX5_rename_51 : decode cX5_rename 51 = .ok (.if_icmp .eq 21, 3) := by decide +kernel
theorem dX5_rename_54 : decode cX5_rename 54 = .ok (.aload_n 0, 1) := by decide +kernel
theorem dX5_rename_55 : decode cX5_rename 55 = .ok (.iload 4, 2) := by decide +kernel
theorem dX5_rename_57 : decode cX5_rename 57 = .ok (.invokevirtual 104, 3) := by decide +kernel
theorem dX5_rename_60 : decode cX5_rename 60 = .ok (.ifCond .eq 6, 3) := by decide +kernel
theorem dX5_rename_63 : decode cX5_rename 63 = .ok (.bipush (-4), 2) := by decide +kernel
theorem dX5_rename_65 : decode cX5_rename 65 = .ok (.ireturn, 1) := by decide +kernel
theorem dX5_rename_66 : decode cX5_rename 66 = .ok (.aload_n 0, 1) := by decide +kernel
theorem dX5_rename_67 : decode cX5_rename 67 = .ok (.iload 4, 2) := by decide +kernel
theorem dX5_rename_69 : decode cX5_rename 69 = .ok (.invokevirtual 108, 3) := by decide +kernel
theorem dX5_rename_72 : decode cX5_rename 72 = .ok (.aload_n 0, 1) := by decide +kernel
theorem dX5_rename_73 : decode cX5_rename 73 = .ok (.getfield 13, 3) := by decide +kernel
theorem dX5_rename_76 : decode cX5_rename 76 = .ok (.bipush 7, 2) := by decide +kernel
theorem dX5_rename_78 : decode cX5_rename 78 = .ok (.iload_n 3, 1) := by decide +kernel
theorem dX5_rename_79 : decode cX5_rename 79 = .ok (.imul, 1) := by decide +kernel
theorem dX5_rename_80 : decode cX5_rename 80 = .ok (.iload_n 2, 1) := by decide +kernel
theorem dX5_rename_81 : decode cX5_rename 81 = .ok (.iastore, 1) := by decide +kernel
theorem dX5_rename_82 : decode cX5_rename 82 = .ok (.iconst 0, 1) := by decide +kernel
theorem dX5_rename_83 : decode cX5_rename 83 = .ok (.ireturn, 1) := by decide +kernel
set_option maxRecDepth 20000 in
theorem ggX5_open_X5_slotOf : GoodIn wsX5_open wsX5_slotOf := goodIn_r _ [7, 8, 9, 10, 11, 12, 13, 14, 15, 16, 17, 18, 19, 20] (by decide +kernel) (by decide +kernel)
set_option maxRecDepth 20000 in
theorem gX5_open_X5_slotOf : GoodIn wsX5_open (wsV RX5 101 RX5 yX5_slotOf wsX5_slotOf) := goodIn_app (goodIn_of _ (by decide +kernel)) ggX5_open_X5_slotOf
theorem dX5_open_0 : decode cX5_open 0 = .ok (.aload_n 0, 1) := by decide +kernel
theorem dX5_open_1 : decode cX5_open 1 = .ok (.getfield 42, 3) := by decide +kernel
theorem dX5_open_4 : decode cX5_open 4 = .ok (.ifCond .ne 6, 3) := by decide +kernel
theorem dX5_open_7 : decode cX5_open 7 = .ok (.bipush (-11), 2) := by decide +kernel
theorem dX5_open_9 : decode cX5_open 9 = .ok (.ireturn, 1) := by decide +kernel
theorem dX5_open_10 : decode cX5_open 10 = .ok (.aload_n 0, 1) := by decide +kernel
theorem dX5_open_11 : decode cX5_open 11 = .ok (.iload_n 1, 1) := by decide +kernel
theorem dX5_open_12 : decode cX5_open 12 = .ok (.invokevirtual 101, 3) := by decide +kernel
theorem dX5_open_15 : decode cX5_open 15 = .ok (.istore_n 2, 1) := by decide +kernel
theorem dX5_open_16 : decode cX5_open 16 = .ok (.iload_n 2, 1) := by decide +kernel
theorem dX5_open_17 : decode cX5_open 17 = .ok (.ifCond .ge 6, 3) := by decide +kernel
theorem dX5_open_20 : decode cX5_open 20 = .ok (.bipush (-3), 2) := by decide +kernel
theorem dX5_open_22 : decode cX5_open 22 = .ok (.ireturn, 1) := by decide +kernel
theorem dX5_open_23 : decode cX5_open 23 = .ok (.iconst 0, 1) := by decide +kernel
theorem dX5_open_24 : decode cX5_open 24 = .ok (.istore_n 3, 1) := by decide +kernel
theorem dX5_open_25 : decode cX5_open 25 = .ok (.iload_n 3, 1) := by decide +kernel
theorem dX5_open_26 : decode cX5_open 26 = .ok (.iconst 4, 1) := by decide +kernel
theorem dX5_open_27 : decode cX5_open 27 = .ok (.if_icmp .ge 29, 3) := by decide +kernel
theorem dX5_open_30 : decode cX5_open 30 = .ok (.aload_n 0, 1) := by decide +kernel
theorem dX5_open_31 : decode cX5_open 31 = .ok (.getfield 16, 3) := by decide +kernel
theorem dX5_open_34 : decode cX5_open 34 = .ok (.iload_n 3, 1) := by decide +kernel
theorem dX5_open_35 : decode cX5_open 35 = .ok (.iaload, 1) := by decide +kernel
theorem dX5_open_36 : decode cX5_open 36 = .ok (.ifCond .ne 14, 3) := by decide +kernel
theorem dX5_open_39 : decode cX5_open 39 = .ok (.aload_n 0, 1) := by decide +kernel
theorem dX5_open_40 : decode cX5_open 40 = .ok (.getfield 16, 3) := by decide +kernel
theorem dX5_open_43 : decode cX5_open 43 = .ok (.iload_n 3, 1) := by decide +kernel
theorem dX5_open_44 : decode cX5_open 44 = .ok (.iload_n 2, 1) := by decide +kernel
theorem dX5_open_45 : decode cX5_open 45 = .ok (.iconst 1, 1) := by decide +kernel
theorem dX5_open_46 : decode cX5_open 46 = .ok (.iadd, 1) := by decide +kernel
theorem dX5_open_47 : decode cX5_open 47 = .ok (.iastore, 1) := by decide +kernel
theorem dX5_open_48 : decode cX5_open 48 = .ok (.iload_n 3, 1) := by decide +kernel
theorem dX5_open_49 : decode cX5_open 49 = .ok (.ireturn, 1) := by decide +kernel
theorem dX5_open_50 : decode cX5_open 50 = .ok (.iinc 3 1, 3) := by decide +kernel
theorem dX5_open_53 : decode cX5_open 53 = .ok (.goto (-28), 3) := by decide +kernel
theorem dX5_open_56 : decode cX5_open 56 = .ok (.bipush (-5), 2) := by decide +kernel
theorem dX5_open_58 : decode cX5_open 58 = .ok (.ireturn, 1) := by decide +kernel
set_option maxRecDepth 20000 in
theorem ggX5_slotAt_X5_within : GoodIn wsX5_slotAt wsX5_within := goodIn_r _ [6] (by decide +kernel) (by decide +kernel)
set_option maxRecDepth 20000 in
theorem gX5_slotAt_X5_within : GoodIn wsX5_slotAt (va_wsS RX5 38 yX5_within wsX5_within) := goodIn_app (goodIn_of _ (by decide +kernel)) ggX5_slotAt_X5_within
theorem dX5_slotAt_0 : decode cX5_slotAt 0 = .ok (.aload_n 0, 1) := by decide +kernel
theorem dX5_slotAt_1 : decode cX5_slotAt 1 = .ok (.getfield 42, 3) := by decide +kernel
theorem dX5_slotAt_4 : decode cX5_slotAt 4 = .ok (.ifCond .ne 6, 3) := by decide +kernel
theorem dX5_slotAt_7 : decode cX5_slotAt 7 = .ok (.bipush (-11), 2) := by decide +kernel
theorem dX5_slotAt_9 : decode cX5_slotAt 9 = .ok (.ireturn, 1) := by decide +kernel
theorem dX5_slotAt_10 : decode cX5_slotAt 10 = .ok (.iload_n 1, 1) := by decide +kernel
theorem dX5_slotAt_11 : decode cX5_slotAt 11 = .ok (.iconst 0, 1) := by decide +kernel
theorem dX5_slotAt_12 : decode cX5_slotAt 12 = .ok (.iconst 3, 1) := by decide +kernel
theorem dX5_slotAt_13 : decode cX5_slotAt 13 = .ok (.invokestatic 38, 3) := by decide +kernel
theorem dX5_slotAt_16 : decode cX5_slotAt 16 = .ok (.ifCond .eq 23, 3) := by decide +kernel
theorem dX5_slotAt_19 : decode cX5_slotAt 19 = .ok (.aload_n 0, 1) := by decide +kernel
theorem dX5_slotAt_20 : decode cX5_slotAt 20 = .ok (.getfield 16, 3) := by decide +kernel
theorem dX5_slotAt_23 : decode cX5_slotAt 23 = .ok (.iload_n 1, 1) := by decide +kernel
theorem dX5_slotAt_24 : decode cX5_slotAt 24 = .ok (.iaload, 1) := by decide +kernel
theorem dX5_slotAt_25 : decode cX5_slotAt 25 = .ok (.ifCond .le 14, 3) := by decide +kernel
theorem dX5_slotAt_28 : decode cX5_slotAt 28 = .ok (.aload_n 0, 1) := by decide +kernel
theorem dX5_slotAt_29 : decode cX5_slotAt 29 = .ok (.getfield 16, 3) := by decide +kernel
theorem dX5_slotAt_32 : decode cX5_slotAt 32 = .ok (.iload_n 1, 1) := by decide +kernel
theorem dX5_slotAt_33 : decode cX5_slotAt 33 = .ok (.iaload, 1) := by decide +kernel
theorem dX5_slotAt_34 : decode cX5_slotAt 34 = .ok (.iconst 1, 1) := by decide +kernel
theorem dX5_slotAt_35 : decode cX5_slotAt 35 = .ok (.isub, 1) := by decide +kernel
theorem dX5_slotAt_36 : decode cX5_slotAt 36 = .ok (.goto 5, 3) := by decide +kernel
theorem dX5_slotAt_39 : decode cX5_slotAt 39 = .ok (.bipush (-6), 2) := by decide +kernel
theorem dX5_slotAt_41 : decode cX5_slotAt 41 = .ok (.ireturn, 1) := by decide +kernel
set_option maxRecDepth 20000 in
theorem ggX5_close_X5_slotAt : GoodIn wsX5_close wsX5_slotAt := goodIn_r _ [6, 7, 1, 8, 9, 5, 10, 11, 12, 13, 14, 15, 16, 17, 18, 19, 20, 21, 22] (by decide +kernel) (by decide +kernel)
set_option maxRecDepth 20000 in
theorem gX5_close_X5_slotAt : GoodIn wsX5_close (wsV RX5 111 RX5 yX5_slotAt wsX5_slotAt) := goodIn_app (goodIn_of _ (by decide +kernel)) ggX5_close_X5_slotAt
theorem dX5_close_0 : decode cX5_close 0 = .ok (.aload_n 0, 1) := by decide +kernel
theorem dX5_close_1 : decode cX5_close 1 = .ok (.iload_n 1, 1) := by decide +kernel
theorem dX5_close_2 : decode cX5_close 2 = .ok (.invokevirtual 111, 3) := by decide +kernel
theorem dX5_close_5 : decode cX5_close 5 = .ok (.istore_n 2, 1) := by decide +kernel
theorem dX5_close_6 : decode cX5_close 6 = .ok (.iload_n 2, 1) := by decide +kernel
theorem dX5_close_7 : decode cX5_close 7 = .ok (.ifCond .ge 5, 3) := by decide +kernel
theorem dX5_close_10 : decode cX5_close 10 = .ok (.iload_n 2, 1) := by decide +kernel
theorem dX5_close_11 : decode cX5_close 11 = .ok (.ireturn, 1) := by decide +kernel
theorem dX5_close_12 : decode cX5_close 12 = .ok (.aload_n 0, 1) := by decide +kernel
theorem dX5_close_13 : decode cX5_close 13 = .ok (.getfield 16, 3) := by decide +kernel
theorem dX5_close_16 : decode cX5_close 16 = .ok (.iload_n 1, 1) := by decide +kernel
theorem dX5_close_17 : decode cX5_close 17 = .ok (.iconst 0, 1) := by decide +kernel
theorem dX5_close_18 : decode cX5_close 18 = .ok (.iastore, 1) := by decide +kernel
theorem dX5_close_19 : decode cX5_close 19 = .ok (.iconst 0, 1) := by decide +kernel
theorem dX5_close_20 : decode cX5_close 20 = .ok (.ireturn, 1) := by decide +kernel
set_option maxRecDepth 20000 in
theorem ggX5_write_X5_slotAt : GoodIn wsX5_write wsX5_slotAt := goodIn_r _ [6, 7, 8, 9, 10, 5, 11, 64, 65, 66, 67, 68, 69, 70, 71, 72, 73, 74, 75] (by decide +kernel) (by decide +kernel)
set_option maxRecDepth 20000 in
theorem gX5_write_X5_slotAt : GoodIn wsX5_write (wsV RX5 111 RX5 yX5_slotAt wsX5_slotAt) := goodIn_app (goodIn_of _ (by decide +kernel)) ggX5_write_X5_slotAt
set_option maxRecDepth 20000 in
theorem ggX5_write_X5_within : GoodIn wsX5_write wsX5_within := goodIn_r _ [11] (by decide +kernel) (by decide +kernel)
set_option maxRecDepth 20000 in
theorem gX5_write_X5_within : GoodIn wsX5_write (va_wsS RX5 38 yX5_within wsX5_within) := goodIn_app (goodIn_of _ (by decide +kernel)) ggX5_write_X5_within
set_option maxRecDepth 20000 in
theorem ggX5_write_X5_grow : GoodIn wsX5_write wsX5_grow := goodIn_r _ [15, 1, 16, 17, 18, 19, 20, 5, 21, 22, 23, 24, 25, 26, 27, 28, 29, 30, 31, 32, 33, 34, 35, 36, 37, 38, 39, 40, 41, 42, 43, 44, 45, 46, 47, 48, 49, 50, 51, 52, 53, 54, 55, 56, 64, 65, 66, 67, 68, 69, 70, 71, 72, 73, 74, 75] (by decide +kernel) (by decide +kernel)
set_option maxRecDepth 20000 in
theorem gX5_write_X5_grow : GoodIn wsX5_write (wsV RX5 114 RX5 yX5_grow wsX5_grow) := goodIn_app (goodIn_of _ (by decide +kernel)) ggX5_write_X5_grow
set_option maxRecDepth 20000 in
theorem ggX5_write_X5_wordCell : GoodIn wsX5_write wsX5_wordCell := goodIn_r _ [60, 27, 28, 29, 5, 30, 1, 31, 32, 33, 34, 35, 36, 61, 62, 63, 64, 65, 66, 67, 68, 69, 70, 71, 72, 73, 74, 75] (by decide +kernel) (by decide +kernel)
set_option maxRecDepth 20000 in
theorem gX5_write_X5_wordCell : GoodIn wsX5_write (wsV RX5 98 RX5 yX5_wordCell wsX5_wordCell) := goodIn_app (goodIn_of _ (by decide +kernel)) ggX5_write_X5_wordCell
theorem dX5_write_0 : decode cX5_write 0 = .ok (.aload_n 0, 1) := by decide +kernel
theorem dX5_write_1 : decode cX5_write 1 = .ok (.iload_n 1, 1) := by decide +kernel
theorem dX5_write_2 : decode cX5_write 2 = .ok (.invokevirtual 111, 3) := by decide +kernel
theorem dX5_write_5 : decode cX5_write 5 = .ok (.istore 4, 2) := by decide +kernel
theorem dX5_write_7 : decode cX5_write 7 = .ok (.iload 4, 2) := by decide +kernel
theorem dX5_write_9 : decode cX5_write 9 = .ok (.ifCond .ge 6, 3) := by decide +kernel
theorem dX5_write_12 : decode cX5_write 12 = .ok (.iload 4, 2) := by decide +kernel
theorem dX5_write_14 : decode cX5_write 14 = .ok (.ireturn, 1) := by decide +kernel
theorem dX5_write_15 : decode cX5_write 15 = .ok (.iload_n 2, 1) := by decide +kernel
theorem dX5_write_16 : decode cX5_write 16 = .ok (.iconst 0, 1) := by decide +kernel
theorem dX5_write_17 : decode cX5_write 17 = .ok (.bipush 63, 2) := by decide +kernel
theorem dX5_write_19 : decode cX5_write 19 = .ok (.invokestatic 38, 3) := by decide +kernel
theorem dX5_write_22 : decode cX5_write 22 = .ok (.ifCond .ne 6, 3) := by decide +kernel
theorem dX5_write_25 : decode cX5_write 25 = .ok (.bipush (-7), 2) := by decide +kernel
theorem dX5_write_27 : decode cX5_write 27 = .ok (.ireturn, 1) := by decide +kernel
theorem dX5_write_28 : decode cX5_write 28 = .ok (.iload_n 2, 1) := by decide +kernel
theorem dX5_write_29 : decode cX5_write 29 = .ok (.aload_n 0, 1) := by decide +kernel
theorem dX5_write_30 : decode cX5_write 30 = .ok (.getfield 13, 3) := by decide +kernel
theorem dX5_write_33 : decode cX5_write 33 = .ok (.bipush 7, 2) := by decide +kernel
theorem dX5_write_35 : decode cX5_write 35 = .ok (.iload 4, 2) := by decide +kernel
theorem dX5_write_37 : decode cX5_write 37 = .ok (.imul, 1) := by decide +kernel
theorem dX5_write_38 : decode cX5_write 38 = .ok (.iconst 2, 1) := by decide +kernel
theorem dX5_write_39 : decode cX5_write 39 = .ok (.iadd, 1) := by decide +kernel
theorem dX5_write_40 : decode cX5_write 40 = .ok (.iaload, 1) := by decide +kernel
theorem dX5_write_41 : decode cX5_write 41 = .ok (.if_icmp .lt 22, 3) := by decide +kernel
theorem dX5_write_44 : decode cX5_write 44 = .ok (.aload_n 0, 1) := by decide +kernel
theorem dX5_write_45 : decode cX5_write 45 = .ok (.iload 4, 2) := by decide +kernel
theorem dX5_write_47 : decode cX5_write 47 = .ok (.iload_n 2, 1) := by decide +kernel
theorem dX5_write_48 : decode cX5_write 48 = .ok (.iconst 1, 1) := by decide +kernel
theorem dX5_write_49 : decode cX5_write 49 = .ok (.iadd, 1) := by decide +kernel
theorem dX5_write_50 : decode cX5_write 50 = .ok (.invokevirtual 114, 3) := by decide +kernel
theorem dX5_write_53 : decode cX5_write 53 = .ok (.istore 5, 2) := by decide +kernel
theorem dX5_write_55 : decode cX5_write 55 = .ok (.iload 5, 2) := by decide +kernel
theorem dX5_write_57 : decode cX5_write 57 = .ok (.ifCond .ge 6, 3) := by decide +kernel
theorem dX5_write_60 : decode cX5_write 60 = .ok (.iload 5, 2) := by decide +kernel
theorem dX5_write_62 : decode cX5_write 62 = .ok (.ireturn, 1) := by decide +kernel
theorem dX5_write_63 : decode cX5_write 63 = .ok (.aload_n 0, 1) := by decide +kernel
theorem dX5_write_64 : decode cX5_write 64 = .ok (.getfield 13, 3) := by decide +kernel
theorem dX5_write_67 : decode cX5_write 67 = .ok (.aload_n 0, 1) := by decide +kernel
theorem dX5_write_68 : decode cX5_write 68 = .ok (.iload 4, 2) := by decide +kernel
theorem dX5_write_70 : decode cX5_write 70 = .ok (.iload_n 2, 1) := by decide +kernel
theorem dX5_write_71 : decode cX5_write 71 = .ok (.invokevirtual 98, 3) := by decide +kernel
theorem dX5_write_74 : decode cX5_write 74 = .ok (.iload_n 3, 1) := by decide +kernel
theorem dX5_write_75 : decode cX5_write 75 = .ok (.iastore, 1) := by decide +kernel
theorem dX5_write_76 : decode cX5_write 76 = .ok (.iconst 0, 1) := by decide +kernel
theorem dX5_write_77 : decode cX5_write 77 = .ok (.ireturn, 1) := by decide +kernel
set_option maxRecDepth 20000 in
theorem ggX5_read_X5_slotAt : GoodIn wsX5_read wsX5_slotAt := goodIn_r _ [6, 7, 8, 9, 10, 5, 11, 29, 30, 31, 32, 33, 34, 35, 36, 37, 38, 39, 40] (by decide +kernel) (by decide +kernel)
set_option maxRecDepth 20000 in
theorem gX5_read_X5_slotAt : GoodIn wsX5_read (wsV RX5 111 RX5 yX5_slotAt wsX5_slotAt) := goodIn_app (goodIn_of _ (by decide +kernel)) ggX5_read_X5_slotAt
set_option maxRecDepth 20000 in
theorem ggX5_read_X5_wordCell : GoodIn wsX5_read wsX5_wordCell := goodIn_r _ [15, 16, 17, 18, 5, 19, 1, 20, 21, 22, 23, 24, 25, 26, 27, 28, 29, 30, 31, 32, 33, 34, 35, 36, 37, 38, 39, 40] (by decide +kernel) (by decide +kernel)
set_option maxRecDepth 20000 in
theorem gX5_read_X5_wordCell : GoodIn wsX5_read (wsV RX5 98 RX5 yX5_wordCell wsX5_wordCell) := goodIn_app (goodIn_of _ (by decide +kernel)) ggX5_read_X5_wordCell
theorem dX5_read_0 : decode cX5_read 0 = .ok (.aload_n 0, 1) := by decide +kernel
theorem dX5_read_1 : decode cX5_read 1 = .ok (.iload_n 1, 1) := by decide +kernel
theorem dX5_read_2 : decode cX5_read 2 = .ok (.invokevirtual 111, 3) := by decide +kernel
theorem dX5_read_5 : decode cX5_read 5 = .ok (.istore_n 3, 1) := by decide +kernel
theorem dX5_read_6 : decode cX5_read 6 = .ok (.iload_n 3, 1) := by decide +kernel
theorem dX5_read_7 : decode cX5_read 7 = .ok (.ifCond .lt 22, 3) := by decide +kernel
theorem dX5_read_10 : decode cX5_read 10 = .ok (.iload_n 2, 1) := by decide +kernel
theorem dX5_read_11 : decode cX5_read 11 = .ok (.ifCond .lt 18, 3) := by decide +kernel
theorem dX5_read_14 : decode cX5_read 14 = .ok (.iload_n 2, 1) := by decide +kernel
theorem dX5_read_15 : decode cX5_read 15 = .ok (.aload_n 0, 1) := by decide +kernel
theorem dX5_read_16 : decode cX5_read 16 = .ok (.getfield 13, 3) := by decide +kernel
theorem dX5_read_19 : decode cX5_read 19 = .ok (.bipush 7, 2) := by decide +kernel
theorem dX5_read_21 : decode cX5_read 21 = .ok (.iload_n 3, 1) := by decide +kernel
theorem dX5_read_22 : decode cX5_read 22 = .ok (.imul, 1) := by decide +kernel
theorem dX5_read_23 : decode cX5_read 23 = .ok (.iconst 2, 1) := by decide +kernel
theorem dX5_read_24 : decode cX5_read 24 = .ok (.iadd, 1) := by decide +kernel
theorem dX5_read_25 : decode cX5_read 25 = .ok (.iaload, 1) := by decide +kernel
theorem dX5_read_26 : decode cX5_read 26 = .ok (.if_icmp .lt 7, 3) := by decide +kernel
theorem dX5_read_29 : decode cX5_read 29 = .ok (.iconst 0, 1) := by decide +kernel
theorem dX5_read_30 : decode cX5_read 30 = .ok (.goto 14, 3) := by decide +kernel
theorem dX5_read_33 : decode cX5_read 33 = .ok (.aload_n 0, 1) := by decide +kernel
theorem dX5_read_34 : decode cX5_read 34 = .ok (.getfield 13, 3) := by decide +kernel
theorem dX5_read_37 : decode cX5_read 37 = .ok (.aload_n 0, 1) := by decide +kernel
theorem dX5_read_38 : decode cX5_read 38 = .ok (.iload_n 3, 1) := by decide +kernel
theorem dX5_read_39 : decode cX5_read 39 = .ok (.iload_n 2, 1) := by decide +kernel
theorem dX5_read_40 : decode cX5_read 40 = .ok (.invokevirtual 98, 3) := by decide +kernel
theorem dX5_read_43 : decode cX5_read 43 = .ok (.iaload, 1) := by decide +kernel
theorem dX5_read_44 : decode cX5_read 44 = .ok (.ireturn, 1) := by decide +kernel
set_option maxRecDepth 20000 in
theorem ggX5_truncate_X5_slotAt : GoodIn wsX5_truncate wsX5_slotAt := goodIn_r _ [6, 7, 8, 9, 10, 5, 11, 72, 73, 74, 75, 76, 77, 78, 79, 80, 81, 82, 83] (by decide +kernel) (by decide +kernel)
set_option maxRecDepth 20000 in
theorem gX5_truncate_X5_slotAt : GoodIn wsX5_truncate (wsV RX5 111 RX5 yX5_slotAt wsX5_slotAt) := goodIn_app (goodIn_of _ (by decide +kernel)) ggX5_truncate_X5_slotAt
set_option maxRecDepth 20000 in
theorem ggX5_truncate_X5_within : GoodIn wsX5_truncate wsX5_within := goodIn_r _ [11] (by decide +kernel) (by decide +kernel)
set_option maxRecDepth 20000 in
theorem gX5_truncate_X5_within : GoodIn wsX5_truncate (va_wsS RX5 38 yX5_within wsX5_within) := goodIn_app (goodIn_of _ (by decide +kernel)) ggX5_truncate_X5_within
set_option maxRecDepth 20000 in
theorem ggX5_truncate_X5_grow : GoodIn wsX5_truncate wsX5_grow := goodIn_r _ [15, 1, 16, 17, 18, 19, 20, 5, 21, 22, 23, 24, 25, 26, 27, 28, 29, 30, 31, 32, 33, 34, 35, 36, 37, 38, 39, 40, 41, 42, 43, 44, 45, 46, 47, 48, 49, 50, 51, 52, 53, 54, 55, 56, 72, 73, 74, 75, 76, 77, 78, 79, 80, 81, 82, 83] (by decide +kernel) (by decide +kernel)
set_option maxRecDepth 20000 in
theorem gX5_truncate_X5_grow : GoodIn wsX5_truncate (wsV RX5 114 RX5 yX5_grow wsX5_grow) := goodIn_app (goodIn_of _ (by decide +kernel)) ggX5_truncate_X5_grow
set_option maxRecDepth 20000 in
theorem ggX5_truncate_X5_shrink : GoodIn wsX5_truncate wsX5_shrink := goodIn_r _ [60, 1, 37, 38, 39, 5, 40, 27, 28, 29, 30, 23, 24, 25, 26, 31, 32, 33, 34, 35, 36, 61, 62, 63, 64, 65, 66, 67, 50, 51, 52, 68, 69, 70, 71, 72, 73, 74, 75, 76, 77, 78, 79, 80, 81, 82, 83] (by decide +kernel) (by decide +kernel)
set_option maxRecDepth 20000 in
theorem gX5_truncate_X5_shrink : GoodIn wsX5_truncate (wsV RX5 117 RX5 yX5_shrink wsX5_shrink) := goodIn_app (goodIn_of _ (by decide +kernel)) ggX5_truncate_X5_shrink
theorem dX5_truncate_0 : decode cX5_truncate 0 = .ok (.aload_n 0, 1) := by decide +kernel
theorem dX5_truncate_1 : decode cX5_truncate 1 = .ok (.iload_n 1, 1) := by decide +kernel
theorem dX5_truncate_2 : decode cX5_truncate 2 = .ok (.invokevirtual 111, 3) := by decide +kernel
theorem dX5_truncate_5 : decode cX5_truncate 5 = .ok (.istore_n 3, 1) := by decide +kernel
theorem dX5_truncate_6 : decode cX5_truncate 6 = .ok (.iload_n 3, 1) := by decide +kernel
theorem dX5_truncate_7 : decode cX5_truncate 7 = .ok (.ifCond .ge 5, 3) := by decide +kernel
theorem dX5_truncate_10 : decode cX5_truncate 10 = .ok (.iload_n 3, 1) := by decide +kernel
theorem dX5_truncate_11 : decode cX5_truncate 11 = .ok (.ireturn, 1) := by decide +kernel
theorem dX5_truncate_12 : decode cX5_truncate 12 = .ok (.iload_n 2, 1) := by decide +kernel
theorem dX5_truncate_13 : decode cX5_truncate 13 = .ok (.iconst 0, 1) := by decide +kernel
theorem dX5_truncate_14 : decode cX5_truncate 14 = .ok (.bipush 64, 2) := by decide +kernel
theorem dX5_truncate_16 : decode cX5_truncate 16 = .ok (.invokestatic 38, 3) := by decide +kernel
theorem dX5_truncate_19 : decode cX5_truncate 19 = .ok (.ifCond .ne 6, 3) := by decide +kernel
theorem dX5_truncate_22 : decode cX5_truncate 22 = .ok (.bipush (-7), 2) := by decide +kernel
theorem dX5_truncate_24 : decode cX5_truncate 24 = .ok (.ireturn, 1) := by decide +kernel
theorem dX5_truncate_25 : decode cX5_truncate 25 = .ok (.iload_n 2, 1) := by decide +kernel
theorem dX5_truncate_26 : decode cX5_truncate 26 = .ok (.aload_n 0, 1) := by decide +kernel
theorem dX5_truncate_27 : decode cX5_truncate 27 = .ok (.getfield 13, 3) := by decide +kernel
theorem dX5_truncate_30 : decode cX5_truncate 30 = .ok (.bipush 7, 2) := by decide +kernel
theorem dX5_truncate_32 : decode cX5_truncate 32 = .ok (.iload_n 3, 1) := by decide +kernel
theorem dX5_truncate_33 : decode cX5_truncate 33 = .ok (.imul, 1) := by decide +kernel
theorem dX5_truncate_34 : decode cX5_truncate 34 = .ok (.iconst 2, 1) := by decide +kernel
theorem dX5_truncate_35 : decode cX5_truncate 35 = .ok (.iadd, 1) := by decide +kernel
theorem dX5_truncate_36 : decode cX5_truncate 36 = .ok (.iaload, 1) := by decide +kernel
theorem dX5_truncate_37 : decode cX5_truncate 37 = .ok (.if_icmp .le 10, 3) := by decide +kernel
theorem dX5_truncate_40 : decode cX5_truncate 40 = .ok (.aload_n 0, 1) := by decide +kernel
theorem dX5_truncate_41 : decode cX5_truncate 41 = .ok (.iload_n 3, 1) := by decide +kernel
theorem dX5_truncate_42 : decode cX5_truncate 42 = .ok (.iload_n 2, 1) := by decide +kernel
theorem dX5_truncate_43 : decode cX5_truncate 43 = .ok (.invokevirtual 114, 3) := by decide +kernel
theorem dX5_truncate_46 : decode cX5_truncate 46 = .ok (.ireturn, 1) := by decide +kernel
theorem dX5_truncate_47 : decode cX5_truncate 47 = .ok (.aload_n 0, 1) := by decide +kernel
theorem dX5_truncate_48 : decode cX5_truncate 48 = .ok (.iload_n 3, 1) := by decide +kernel
theorem dX5_truncate_49 : decode cX5_truncate 49 = .ok (.iload_n 2, 1) := by decide +kernel
theorem dX5_truncate_50 : decode cX5_truncate 50 = .ok (.invokevirtual 117, 3) := by decide +kernel
theorem dX5_truncate_53 : decode cX5_truncate 53 = .ok (.iconst 0, 1) := by decide +kernel
theorem dX5_truncate_54 : decode cX5_truncate 54 = .ok (.ireturn, 1) := by decide +kernel
set_option maxRecDepth 20000 in
theorem ggX5_length_X5_slotAt : GoodIn wsX5_length wsX5_slotAt := goodIn_r _ [6, 7, 8, 9, 10, 5, 11, 12, 13, 14, 15, 16, 17, 18, 19, 20, 21, 22, 23] (by decide +kernel) (by decide +kernel)
set_option maxRecDepth 20000 in
theorem gX5_length_X5_slotAt : GoodIn wsX5_length (wsV RX5 111 RX5 yX5_slotAt wsX5_slotAt) := goodIn_app (goodIn_of _ (by decide +kernel)) ggX5_length_X5_slotAt
theorem dX5_length_0 : decode cX5_length 0 = .ok (.aload_n 0, 1) := by decide +kernel
theorem dX5_length_1 : decode cX5_length 1 = .ok (.iload_n 1, 1) := by decide +kernel
theorem dX5_length_2 : decode cX5_length 2 = .ok (.invokevirtual 111, 3) := by decide +kernel
theorem dX5_length_5 : decode cX5_length 5 = .ok (.istore_n 2, 1) := by decide +kernel
theorem dX5_length_6 : decode cX5_length 6 = .ok (.iload_n 2, 1) := by decide +kernel
theorem dX5_length_7 : decode cX5_length 7 = .ok (.ifCond .ge 7, 3) := by decide +kernel
theorem dX5_length_10 : decode cX5_length 10 = .ok (.iload_n 2, 1) := by decide +kernel
theorem dX5_length_11 : decode cX5_length 11 = .ok (.goto 14, 3) := by decide +kernel
theorem dX5_length_14 : decode cX5_length 14 = .ok (.aload_n 0, 1) := by decide +kernel
theorem dX5_length_15 : decode cX5_length 15 = .ok (.getfield 13, 3) := by decide +kernel
theorem dX5_length_18 : decode cX5_length 18 = .ok (.bipush 7, 2) := by decide +kernel
theorem dX5_length_20 : decode cX5_length 20 = .ok (.iload_n 2, 1) := by decide +kernel
theorem dX5_length_21 : decode cX5_length 21 = .ok (.imul, 1) := by decide +kernel
theorem dX5_length_22 : decode cX5_length 22 = .ok (.iconst 2, 1) := by decide +kernel
theorem dX5_length_23 : decode cX5_length 23 = .ok (.iadd, 1) := by decide +kernel
theorem dX5_length_24 : decode cX5_length 24 = .ok (.iaload, 1) := by decide +kernel
theorem dX5_length_25 : decode cX5_length 25 = .ok (.ireturn, 1) := by decide +kernel
set_option maxRecDepth 20000 in
theorem ggX5_extent_X5_slotAt : GoodIn wsX5_extent wsX5_slotAt := goodIn_r _ [5, 6, 7, 8, 9, 4, 10, 16, 17, 18, 19, 20, 21, 22, 23, 24, 25, 26, 27] (by decide +kernel) (by decide +kernel)
set_option maxRecDepth 20000 in
theorem gX5_extent_X5_slotAt : GoodIn wsX5_extent (wsV RX5 111 RX5 yX5_slotAt wsX5_slotAt) := goodIn_app (goodIn_of _ (by decide +kernel)) ggX5_extent_X5_slotAt
set_option maxRecDepth 20000 in
theorem ggX5_extent_X5_within : GoodIn wsX5_extent wsX5_within := goodIn_r _ [10] (by decide +kernel) (by decide +kernel)
set_option maxRecDepth 20000 in
theorem gX5_extent_X5_within : GoodIn wsX5_extent (va_wsS RX5 38 yX5_within wsX5_within) := goodIn_app (goodIn_of _ (by decide +kernel)) ggX5_extent_X5_within
set_option maxRecDepth 20000 in
theorem ggX5_extent_X5_extentOf : GoodIn wsX5_extent wsX5_extentOf := goodIn_r _ [14, 15, 16, 17, 18, 19, 20, 21, 22, 23, 24, 25, 26, 27] (by decide +kernel) (by decide +kernel)
set_option maxRecDepth 20000 in
theorem gX5_extent_X5_extentOf : GoodIn wsX5_extent (wsV RX5 63 RX5 yX5_extentOf wsX5_extentOf) := goodIn_app (goodIn_of _ (by decide +kernel)) ggX5_extent_X5_extentOf
theorem dX5_extent_0 : decode cX5_extent 0 = .ok (.aload_n 0, 1) := by decide +kernel
theorem dX5_extent_1 : decode cX5_extent 1 = .ok (.iload_n 1, 1) := by decide +kernel
theorem dX5_extent_2 : decode cX5_extent 2 = .ok (.invokevirtual 111, 3) := by decide +kernel
theorem dX5_extent_5 : decode cX5_extent 5 = .ok (.istore_n 3, 1) := by decide +kernel
theorem dX5_extent_6 : decode cX5_extent 6 = .ok (.iload_n 3, 1) := by decide +kernel
theorem dX5_extent_7 : decode cX5_extent 7 = .ok (.ifCond .ge 5, 3) := by decide +kernel
theorem dX5_extent_10 : decode cX5_extent 10 = .ok (.iload_n 3, 1) := by decide +kernel
theorem dX5_extent_11 : decode cX5_extent 11 = .ok (.ireturn, 1) := by decide +kernel
theorem dX5_extent_12 : decode cX5_extent 12 = .ok (.iload_n 2, 1) := by decide +kernel
theorem dX5_extent_13 : decode cX5_extent 13 = .ok (.iconst 0, 1) := by decide +kernel
theorem dX5_extent_14 : decode cX5_extent 14 = .ok (.iconst 3, 1) := by decide +kernel
theorem dX5_extent_15 : decode cX5_extent 15 = .ok (.invokestatic 38, 3) := by decide +kernel
theorem dX5_extent_18 : decode cX5_extent 18 = .ok (.ifCond .eq 12, 3) := by decide +kernel
theorem dX5_extent_21 : decode cX5_extent 21 = .ok (.aload_n 0, 1) := by decide +kernel
theorem dX5_extent_22 : decode cX5_extent 22 = .ok (.iload_n 3, 1) := by decide +kernel
theorem dX5_extent_23 : decode cX5_extent 23 = .ok (.iload_n 2, 1) := by decide +kernel
theorem dX5_extent_24 : decode cX5_extent 24 = .ok (.invokevirtual 63, 3) := by decide +kernel
theorem dX5_extent_27 : decode cX5_extent 27 = .ok (.goto 5, 3) := by decide +kernel
theorem dX5_extent_30 : decode cX5_extent 30 = .ok (.bipush (-12), 2) := by decide +kernel
theorem dX5_extent_32 : decode cX5_extent 32 = .ok (.ireturn, 1) := by decide +kernel
set_option maxRecDepth 20000 in
theorem ggX5_setQuota_X5_within : GoodIn wsX5_setQuota wsX5_within := goodIn_r _ [6] (by decide +kernel) (by decide +kernel)
set_option maxRecDepth 20000 in
theorem gX5_setQuota_X5_within : GoodIn wsX5_setQuota (va_wsS RX5 38 yX5_within wsX5_within) := goodIn_app (goodIn_of _ (by decide +kernel)) ggX5_setQuota_X5_within
set_option maxRecDepth 20000 in
theorem ggX5_setQuota_X5_used : GoodIn wsX5_setQuota wsX5_used := goodIn_r _ [10, 2, 11, 12, 13, 5, 14, 15, 16, 17, 18, 19, 20, 21, 22, 23, 24, 25, 26, 27, 28, 29, 30, 31, 32, 33, 34, 35, 36] (by decide +kernel) (by decide +kernel)
set_option maxRecDepth 20000 in
theorem gX5_setQuota_X5_used : GoodIn wsX5_setQuota (wsV RX5 88 RX5 yX5_used wsX5_used) := goodIn_app (goodIn_of _ (by decide +kernel)) ggX5_setQuota_X5_used
theorem dX5_setQuota_0 : decode cX5_setQuota 0 = .ok (.aload_n 0, 1) := by decide +kernel
theorem dX5_setQuota_1 : decode cX5_setQuota 1 = .ok (.getfield 42, 3) := by decide +kernel
theorem dX5_setQuota_4 : decode cX5_setQuota 4 = .ok (.ifCond .ne 6, 3) := by decide +kernel
theorem dX5_setQuota_7 : decode cX5_setQuota 7 = .ok (.bipush (-11), 2) := by decide +kernel
theorem dX5_setQuota_9 : decode cX5_setQuota 9 = .ok (.ireturn, 1) := by decide +kernel
theorem dX5_setQuota_10 : decode cX5_setQuota 10 = .ok (.iload_n 1, 1) := by decide +kernel
theorem dX5_setQuota_11 : decode cX5_setQuota 11 = .ok (.iconst 0, 1) := by decide +kernel
theorem dX5_setQuota_12 : decode cX5_setQuota 12 = .ok (.iconst 2, 1) := by decide +kernel
theorem dX5_setQuota_13 : decode cX5_setQuota 13 = .ok (.invokestatic 38, 3) := by decide +kernel
theorem dX5_setQuota_16 : decode cX5_setQuota 16 = .ok (.ifCond .eq 13, 3) := by decide +kernel
theorem dX5_setQuota_19 : decode cX5_setQuota 19 = .ok (.iload_n 2, 1) := by decide +kernel
theorem dX5_setQuota_20 : decode cX5_setQuota 20 = .ok (.iconst 0, 1) := by decide +kernel
theorem dX5_setQuota_21 : decode cX5_setQuota 21 = .ok (.bipush 32, 2) := by decide +kernel
theorem dX5_setQuota_23 : decode cX5_setQuota 23 = .ok (.invokestatic 38, 3) := by decide +kernel
theorem dX5_setQuota_26 : decode cX5_setQuota 26 = .ok (.ifCond .ne 6, 3) := by decide +kernel
theorem dX5_setQuota_29 : decode cX5_setQuota 29 = .ok (.bipush (-12), 2) := by decide +kernel
theorem dX5_setQuota_31 : decode cX5_setQuota 31 = .ok (.ireturn, 1) := by decide +kernel
theorem dX5_setQuota_32 : decode cX5_setQuota 32 = .ok (.aload_n 0, 1) := by decide +kernel
theorem dX5_setQuota_33 : decode cX5_setQuota 33 = .ok (.iload_n 1, 1) := by decide +kernel
theorem dX5_setQuota_34 : decode cX5_setQuota 34 = .ok (.invokevirtual 88, 3) := by decide +kernel
theorem dX5_setQuota_37 : decode cX5_setQuota 37 = .ok (.iload_n 2, 1) := by decide +kernel
theorem dX5_setQuota_38 : decode cX5_setQuota 38 = .ok (.if_icmp .le 6, 3) := by decide +kernel
theorem dX5_setQuota_41 : decode cX5_setQuota 41 = .ok (.bipush (-10), 2) := by decide +kernel
theorem dX5_setQuota_43 : decode cX5_setQuota 43 = .ok (.ireturn, 1) := by decide +kernel
theorem dX5_setQuota_44 : decode cX5_setQuota 44 = .ok (.aload_n 0, 1) := by decide +kernel
theorem dX5_setQuota_45 : decode cX5_setQuota 45 = .ok (.getfield 13, 3) := by decide +kernel
theorem dX5_setQuota_48 : decode cX5_setQuota 48 = .ok (.bipush 42, 2) := by decide +kernel
theorem dX5_setQuota_50 : decode cX5_setQuota 50 = .ok (.iload_n 1, 1) := by decide +kernel
theorem dX5_setQuota_51 : decode cX5_setQuota 51 = .ok (.iadd, 1) := by decide +kernel
theorem dX5_setQuota_52 : decode cX5_setQuota 52 = .ok (.iload_n 2, 1) := by decide +kernel
theorem dX5_setQuota_53 : decode cX5_setQuota 53 = .ok (.iastore, 1) := by decide +kernel
theorem dX5_setQuota_54 : decode cX5_setQuota 54 = .ok (.iconst 0, 1) := by decide +kernel
theorem dX5_setQuota_55 : decode cX5_setQuota 55 = .ok (.ireturn, 1) := by decide +kernel
set_option maxRecDepth 20000 in
theorem ggX5_usage_X5_within : GoodIn wsX5_usage wsX5_within := goodIn_r _ [5] (by decide +kernel) (by decide +kernel)
set_option maxRecDepth 20000 in
theorem gX5_usage_X5_within : GoodIn wsX5_usage (va_wsS RX5 38 yX5_within wsX5_within) := goodIn_app (goodIn_of _ (by decide +kernel)) ggX5_usage_X5_within
set_option maxRecDepth 20000 in
theorem ggX5_usage_X5_used : GoodIn wsX5_usage wsX5_used := goodIn_r _ [9, 10, 11, 12, 13, 4, 14, 15, 16, 17, 18, 19, 20, 21, 22, 23, 24, 25, 26, 27, 28, 29, 30, 31, 32, 33, 34, 35, 36] (by decide +kernel) (by decide +kernel)
set_option maxRecDepth 20000 in
theorem gX5_usage_X5_used : GoodIn wsX5_usage (wsV RX5 88 RX5 yX5_used wsX5_used) := goodIn_app (goodIn_of _ (by decide +kernel)) ggX5_usage_X5_used
theorem dX5_usage_0 : decode cX5_usage 0 = .ok (.aload_n 0, 1) := by decide +kernel
theorem dX5_usage_1 : decode cX5_usage 1 = .ok (.getfield 42, 3) := by decide +kernel
theorem dX5_usage_4 : decode cX5_usage 4 = .ok (.ifCond .ne 8, 3) := by decide +kernel
theorem dX5_usage_7 : decode cX5_usage 7 = .ok (.bipush (-11), 2) := by decide +kernel
theorem dX5_usage_9 : decode cX5_usage 9 = .ok (.goto 22, 3) := by decide +kernel
theorem dX5_usage_12 : decode cX5_usage 12 = .ok (.iload_n 1, 1) := by decide +kernel
theorem dX5_usage_13 : decode cX5_usage 13 = .ok (.iconst 0, 1) := by decide +kernel
theorem dX5_usage_14 : decode cX5_usage 14 = .ok (.iconst 2, 1) := by decide +kernel
theorem dX5_usage_15 : decode cX5_usage 15 = .ok (.invokestatic 38, 3) := by decide +kernel
theorem dX5_usage_18 : decode cX5_usage 18 = .ok (.ifCond .eq 11, 3) := by decide +kernel
theorem dX5_usage_21 : decode cX5_usage 21 = .ok (.aload_n 0, 1) := by decide +kernel
theorem dX5_usage_22 : decode cX5_usage 22 = .ok (.iload_n 1, 1) := by decide +kernel
theorem dX5_usage_23 : decode cX5_usage 23 = .ok (.invokevirtual 88, 3) := by decide +kernel
theorem dX5_usage_26 : decode cX5_usage 26 = .ok (.goto 5, 3) := by decide +kernel
theorem dX5_usage_29 : decode cX5_usage 29 = .ok (.bipush (-12), 2) := by decide +kernel
theorem dX5_usage_31 : decode cX5_usage 31 = .ok (.ireturn, 1) := by decide +kernel
set_option maxRecDepth 20000 in
theorem ggX5_free_X5_within : GoodIn wsX5_free wsX5_within := goodIn_r _ [6] (by decide +kernel) (by decide +kernel)
set_option maxRecDepth 20000 in
theorem gX5_free_X5_within : GoodIn wsX5_free (va_wsS RX5 38 yX5_within wsX5_within) := goodIn_app (goodIn_of _ (by decide +kernel)) ggX5_free_X5_within
set_option maxRecDepth 20000 in
theorem ggX5_free_X5_countFree : GoodIn wsX5_free wsX5_countFree := goodIn_r _ [9, 10, 11, 5, 12, 13, 14, 15] (by decide +kernel) (by decide +kernel)
set_option maxRecDepth 20000 in
theorem gX5_free_X5_countFree : GoodIn wsX5_free (va_wsS RX5 121 yX5_countFree wsX5_countFree) := goodIn_app (goodIn_of _ (by decide +kernel)) ggX5_free_X5_countFree
theorem dX5_free_0 : decode cX5_free 0 = .ok (.aload_n 0, 1) := by decide +kernel
theorem dX5_free_1 : decode cX5_free 1 = .ok (.getfield 42, 3) := by decide +kernel
theorem dX5_free_4 : decode cX5_free 4 = .ok (.ifCond .ne 8, 3) := by decide +kernel
theorem dX5_free_7 : decode cX5_free 7 = .ok (.bipush (-11), 2) := by decide +kernel
theorem dX5_free_9 : decode cX5_free 9 = .ok (.goto 28, 3) := by decide +kernel
theorem dX5_free_12 : decode cX5_free 12 = .ok (.iload_n 1, 1) := by decide +kernel
theorem dX5_free_13 : decode cX5_free 13 = .ok (.iconst 0, 1) := by decide +kernel
theorem dX5_free_14 : decode cX5_free 14 = .ok (.iconst 5, 1) := by decide +kernel
theorem dX5_free_15 : decode cX5_free 15 = .ok (.invokestatic 38, 3) := by decide +kernel
theorem dX5_free_18 : decode cX5_free 18 = .ok (.ifCond .eq 17, 3) := by decide +kernel
theorem dX5_free_21 : decode cX5_free 21 = .ok (.aload_n 0, 1) := by decide +kernel
theorem dX5_free_22 : decode cX5_free 22 = .ok (.getfield 13, 3) := by decide +kernel
theorem dX5_free_25 : decode cX5_free 25 = .ok (.bipush 45, 2) := by decide +kernel
theorem dX5_free_27 : decode cX5_free 27 = .ok (.iaload, 1) := by decide +kernel
theorem dX5_free_28 : decode cX5_free 28 = .ok (.iload_n 1, 1) := by decide +kernel
theorem dX5_free_29 : decode cX5_free 29 = .ok (.invokestatic 121, 3) := by decide +kernel
theorem dX5_free_32 : decode cX5_free 32 = .ok (.goto 5, 3) := by decide +kernel
theorem dX5_free_35 : decode cX5_free 35 = .ok (.bipush (-12), 2) := by decide +kernel
theorem dX5_free_37 : decode cX5_free 37 = .ok (.ireturn, 1) := by decide +kernel
theorem dX5_put_0 : decode cX5_put 0 = .ok (.aload_n 0, 1) := by decide +kernel
theorem dX5_put_1 : decode cX5_put 1 = .ok (.getfield 46, 3) := by decide +kernel
theorem dX5_put_4 : decode cX5_put 4 = .ok (.ifCond .ne 35, 3) := by decide +kernel
theorem dX5_put_7 : decode cX5_put 7 = .ok (.aload_n 0, 1) := by decide +kernel
theorem dX5_put_8 : decode cX5_put 8 = .ok (.iconst (-1), 1) := by decide +kernel
theorem dX5_put_9 : decode cX5_put 9 = .ok (.putfield 46, 3) := by decide +kernel
theorem dX5_put_12 : decode cX5_put 12 = .ok (.aload_n 0, 1) := by decide +kernel
theorem dX5_put_13 : decode cX5_put 13 = .ok (.iconst 0, 1) := by decide +kernel
theorem dX5_put_14 : decode cX5_put 14 = .ok (.putfield 42, 3) := by decide +kernel
theorem dX5_put_17 : decode cX5_put 17 = .ok (.iconst 0, 1) := by decide +kernel
theorem dX5_put_18 : decode cX5_put 18 = .ok (.istore_n 3, 1) := by decide +kernel
theorem dX5_put_19 : decode cX5_put 19 = .ok (.iload_n 3, 1) := by decide +kernel
theorem dX5_put_20 : decode cX5_put 20 = .ok (.iconst 4, 1) := by decide +kernel
theorem dX5_put_21 : decode cX5_put 21 = .ok (.if_icmp .ge 16, 3) := by decide +kernel
theorem dX5_put_24 : decode cX5_put 24 = .ok (.aload_n 0, 1) := by decide +kernel
theorem dX5_put_25 : decode cX5_put 25 = .ok (.getfield 16, 3) := by decide +kernel
theorem dX5_put_28 : decode cX5_put 28 = .ok (.iload_n 3, 1) := by decide +kernel
theorem dX5_put_29 : decode cX5_put 29 = .ok (.iconst 0, 1) := by decide +kernel
theorem dX5_put_30 : decode cX5_put 30 = .ok (.iastore, 1) := by decide +kernel
theorem dX5_put_31 : decode cX5_put 31 = .ok (.iinc 3 1, 3) := by decide +kernel
theorem dX5_put_34 : decode cX5_put 34 = .ok (.goto (-15), 3) := by decide +kernel
theorem dX5_put_37 : decode cX5_put 37 = .ok (.iconst 0, 1) := by decide +kernel
theorem dX5_put_38 : decode cX5_put 38 = .ok (.ireturn, 1) := by decide +kernel
theorem dX5_put_39 : decode cX5_put 39 = .ok (.aload_n 0, 1) := by decide +kernel
theorem dX5_put_40 : decode cX5_put 40 = .ok (.aload_n 0, 1) := by decide +kernel
theorem dX5_put_41 : decode cX5_put 41 = .ok (.getfield 46, 3) := by decide +kernel
theorem dX5_put_44 : decode cX5_put 44 = .ok (.ifCond .le 12, 3) := by decide +kernel
theorem dX5_put_47 : decode cX5_put 47 = .ok (.aload_n 0, 1) := by decide +kernel
theorem dX5_put_48 : decode cX5_put 48 = .ok (.getfield 46, 3) := by decide +kernel
theorem dX5_put_51 : decode cX5_put 51 = .ok (.iconst 1, 1) := by decide +kernel
theorem dX5_put_52 : decode cX5_put 52 = .ok (.isub, 1) := by decide +kernel
theorem dX5_put_53 : decode cX5_put 53 = .ok (.goto 7, 3) := by decide +kernel
theorem dX5_put_56 : decode cX5_put 56 = .ok (.aload_n 0, 1) := by decide +kernel
theorem dX5_put_57 : decode cX5_put 57 = .ok (.getfield 46, 3) := by decide +kernel
theorem dX5_put_60 : decode cX5_put 60 = .ok (.putfield 46, 3) := by decide +kernel
theorem dX5_put_63 : decode cX5_put 63 = .ok (.aload_n 0, 1) := by decide +kernel
theorem dX5_put_64 : decode cX5_put 64 = .ok (.getfield 7, 3) := by decide +kernel
theorem dX5_put_67 : decode cX5_put 67 = .ok (.iload_n 1, 1) := by decide +kernel
theorem dX5_put_68 : decode cX5_put 68 = .ok (.iload_n 2, 1) := by decide +kernel
theorem dX5_put_69 : decode cX5_put 69 = .ok (.iastore, 1) := by decide +kernel
theorem dX5_put_70 : decode cX5_put 70 = .ok (.iconst 1, 1) := by decide +kernel
theorem dX5_put_71 : decode cX5_put 71 = .ok (.ireturn, 1) := by decide +kernel
set_option maxRecDepth 20000 in
theorem ggX5_sync_X5_put : GoodIn wsX5_sync wsX5_put := goodIn_r _ [9, 10, 1, 11, 2, 12, 13, 14, 15, 16, 17, 18, 19, 20, 21, 22, 23] (by decide +kernel) (by decide +kernel)
set_option maxRecDepth 20000 in
theorem gX5_sync_X5_put : GoodIn wsX5_sync (wsV RX5 124 RX5 yX5_put wsX5_put) := goodIn_app (goodIn_of _ (by decide +kernel)) ggX5_sync_X5_put
theorem dX5_sync_0 : decode cX5_sync 0 = .ok (.aload_n 0, 1) := by decide +kernel
theorem dX5_sync_1 : decode cX5_sync 1 = .ok (.getfield 42, 3) := by decide +kernel
theorem dX5_sync_4 : decode cX5_sync 4 = .ok (.ifCond .ne 6, 3) := by decide +kernel
theorem dX5_sync_7 : decode cX5_sync 7 = .ok (.bipush (-11), 2) := by decide +kernel
theorem dX5_sync_9 : decode cX5_sync 9 = .ok (.ireturn, 1) := by decide +kernel
theorem dX5_sync_10 : decode cX5_sync 10 = .ok (.iconst 0, 1) := by decide +kernel
theorem dX5_sync_11 : decode cX5_sync 11 = .ok (.istore_n 1, 1) := by decide +kernel
theorem dX5_sync_12 : decode cX5_sync 12 = .ok (.iconst 0, 1) := by decide +kernel
theorem dX5_sync_13 : decode cX5_sync 13 = .ok (.istore_n 2, 1) := by decide +kernel
theorem dX5_sync_14 : decode cX5_sync 14 = .ok (.iload_n 2, 1) := by decide +kernel
theorem dX5_sync_15 : decode cX5_sync 15 = .ok (.bipush 110, 2) := by decide +kernel
theorem dX5_sync_17 : decode cX5_sync 17 = .ok (.if_icmp .ge 34, 3) := by decide +kernel
theorem dX5_sync_20 : decode cX5_sync 20 = .ok (.aload_n 0, 1) := by decide +kernel
theorem dX5_sync_21 : decode cX5_sync 21 = .ok (.getfield 7, 3) := by decide +kernel
theorem dX5_sync_24 : decode cX5_sync 24 = .ok (.iload_n 2, 1) := by decide +kernel
theorem dX5_sync_25 : decode cX5_sync 25 = .ok (.iaload, 1) := by decide +kernel
theorem dX5_sync_26 : decode cX5_sync 26 = .ok (.aload_n 0, 1) := by decide +kernel
theorem dX5_sync_27 : decode cX5_sync 27 = .ok (.getfield 13, 3) := by decide +kernel
theorem dX5_sync_30 : decode cX5_sync 30 = .ok (.iload_n 2, 1) := by decide +kernel
theorem dX5_sync_31 : decode cX5_sync 31 = .ok (.iaload, 1) := by decide +kernel
theorem dX5_sync_32 : decode cX5_sync 32 = .ok (.if_icmp .eq 13, 3) := by decide +kernel
theorem dX5_sync_35 : decode cX5_sync 35 = .ok (.aload_n 0, 1) := by decide +kernel
theorem dX5_sync_36 : decode cX5_sync 36 = .ok (.getfield 32, 3) := by decide +kernel
theorem dX5_sync_39 : decode cX5_sync 39 = .ok (.iload_n 1, 1) := by decide +kernel
theorem dX5_sync_40 : decode cX5_sync 40 = .ok (.iload_n 2, 1) := by decide +kernel
theorem dX5_sync_41 : decode cX5_sync 41 = .ok (.iastore, 1) := by decide +kernel
theorem dX5_sync_42 : decode cX5_sync 42 = .ok (.iinc 1 1, 3) := by decide +kernel
theorem dX5_sync_45 : decode cX5_sync 45 = .ok (.iinc 2 1, 3) := by decide +kernel
theorem dX5_sync_48 : decode cX5_sync 48 = .ok (.goto (-34), 3) := by decide +kernel
theorem dX5_sync_51 : decode cX5_sync 51 = .ok (.iload_n 1, 1) := by decide +kernel
theorem dX5_sync_52 : decode cX5_sync 52 = .ok (.ifCond .ne 5, 3) := by decide +kernel
theorem dX5_sync_55 : decode cX5_sync 55 = .ok (.iconst 0, 1) := by decide +kernel
theorem dX5_sync_56 : decode cX5_sync 56 = .ok (.ireturn, 1) := by decide +kernel
theorem dX5_sync_57 : decode cX5_sync 57 = .ok (.iload_n 1, 1) := by decide +kernel
theorem dX5_sync_58 : decode cX5_sync 58 = .ok (.istore_n 2, 1) := by decide +kernel
theorem dX5_sync_59 : decode cX5_sync 59 = .ok (.iconst 1, 1) := by decide +kernel
theorem dX5_sync_60 : decode cX5_sync 60 = .ok (.istore_n 3, 1) := by decide +kernel
theorem dX5_sync_61 : decode cX5_sync 61 = .ok (.iconst 0, 1) := by decide +kernel
theorem dX5_sync_62 : decode cX5_sync 62 = .ok (.istore 4, 2) := by decide +kernel
theorem dX5_sync_64 : decode cX5_sync 64 = .ok (.iload 4, 2) := by decide +kernel
theorem dX5_sync_66 : decode cX5_sync 66 = .ok (.iload_n 1, 1) := by decide +kernel
theorem dX5_sync_67 : decode cX5_sync 67 = .ok (.if_icmp .ge 84, 3) := by decide +kernel
theorem dX5_sync_70 : decode cX5_sync 70 = .ok (.iload_n 3, 1) := by decide +kernel
theorem dX5_sync_71 : decode cX5_sync 71 = .ok (.ifCond .eq 80, 3) := by decide +kernel
theorem dX5_sync_74 : decode cX5_sync 74 = .ok (.aload_n 0, 1) := by decide +kernel
theorem dX5_sync_75 : decode cX5_sync 75 = .ok (.getfield 32, 3) := by decide +kernel
theorem dX5_sync_78 : decode cX5_sync 78 = .ok (.iload 4, 2) := by decide +kernel
theorem dX5_sync_80 : decode cX5_sync 80 = .ok (.iaload, 1) := by decide +kernel
theorem dX5_sync_81 : decode cX5_sync 81 = .ok (.istore 5, 2) := by decide +kernel
theorem dX5_sync_83 : decode cX5_sync 83 = .ok (.iload_n 2, 1) := by decide +kernel
theorem dX5_sync_84 : decode cX5_sync 84 = .ok (.bipush 31, 2) := by decide +kernel
theorem dX5_sync_86 : decode cX5_sync 86 = .ok (.imul, 1) := by decide +kernel
theorem dX5_sync_87 : decode cX5_sync 87 = .ok (.iload 5, 2) := by decide +kernel
theorem dX5_sync_89 : decode cX5_sync 89 = .ok (.iadd, 1) := by decide +kernel
theorem dX5_sync_90 : decode cX5_sync 90 = .ok (.bipush 31, 2) := by decide +kernel
theorem dX5_sync_92 : decode cX5_sync 92 = .ok (.imul, 1) := by decide +kernel
theorem dX5_sync_93 : decode cX5_sync 93 = .ok (.aload_n 0, 1) := by decide +kernel
theorem dX5_sync_94 : decode cX5_sync 94 = .ok (.getfield 13, 3) := by decide +kernel
theorem dX5_sync_97 : decode cX5_sync 97 = .ok (.iload 5, 2) := by decide +kernel
theorem dX5_sync_99 : decode cX5_sync 99 = .ok (.iaload, 1) := by decide +kernel
theorem dX5_sync_100 : decode cX5_sync 100 = .ok (.iadd, 1) := by decide +kernel
theorem dX5_sync_101 : decode cX5_sync 101 = .ok (.istore_n 2, 1) := by decide +kernel
theorem dX5_sync_102 : decode cX5_sync 102 = .ok (.aload_n 0, 1) := by decide +kernel
theorem dX5_sync_103 : decode cX5_sync 103 = .ok (.bipush 112, 2) := by decide +kernel
theorem dX5_sync_105 : decode cX5_sync 105 = .ok (.iconst 2, 1) := by decide +kernel
theorem dX5_sync_106 : decode cX5_sync 106 = .ok (.iload 4, 2) := by decide +kernel
theorem dX5_sync_108 : decode cX5_sync 108 = .ok (.imul, 1) := by decide +kernel
theorem dX5_sync_109 : decode cX5_sync 109 = .ok (.iadd, 1) := by decide +kernel
theorem dX5_sync_110 : decode cX5_sync 110 = .ok (.iload 5, 2) := by decide +kernel
theorem dX5_sync_112 : decode cX5_sync 112 = .ok (.invokevirtual 124, 3) := by decide +kernel
theorem dX5_sync_115 : decode cX5_sync 115 = .ok (.ifCond .eq 28, 3) := by decide +kernel
theorem dX5_sync_118 : decode cX5_sync 118 = .ok (.aload_n 0, 1) := by decide +kernel
theorem dX5_sync_119 : decode cX5_sync 119 = .ok (.bipush 113, 2) := by decide +kernel
theorem dX5_sync_121 : decode cX5_sync 121 = .ok (.iconst 2, 1) := by decide +kernel
theorem dX5_sync_122 : decode cX5_sync 122 = .ok (.iload 4, 2) := by decide +kernel
theorem dX5_sync_124 : decode cX5_sync 124 = .ok (.imul, 1) := by decide +kernel
theorem dX5_sync_125 : decode cX5_sync 125 = .ok (.iadd, 1) := by decide +kernel
theorem dX5_sync_126 : decode cX5_sync 126 = .ok (.aload_n 0, 1) := by decide +kernel
theorem dX5_sync_127 : decode cX5_sync 127 = .ok (.getfield 13, 3) := by decide +kernel
theorem dX5_sync_130 : decode cX5_sync 130 = .ok (.iload 5, 2) := by decide +kernel
theorem dX5_sync_132 : decode cX5_sync 132 = .ok (.iaload, 1) := by decide +kernel
theorem dX5_sync_133 : decode cX5_sync 133 = .ok (.invokevirtual 124, 3) := by decide +kernel
theorem dX5_sync_136 : decode cX5_sync 136 = .ok (.ifCond .eq 7, 3) := by decide +kernel
theorem dX5_sync_139 : decode cX5_sync 139 = .ok (.iconst 1, 1) := by decide +kernel
theorem dX5_sync_140 : decode cX5_sync 140 = .ok (.goto 4, 3) := by decide +kernel
theorem dX5_sync_143 : decode cX5_sync 143 = .ok (.iconst 0, 1) := by decide +kernel
theorem dX5_sync_144 : decode cX5_sync 144 = .ok (.istore_n 3, 1) := by decide +kernel
theorem dX5_sync_145 : decode cX5_sync 145 = .ok (.iinc 4 1, 3) := by decide +kernel
theorem dX5_sync_148 : decode cX5_sync 148 = .ok (.goto (-84), 3) := by decide +kernel
theorem dX5_sync_151 : decode cX5_sync 151 = .ok (.iload_n 3, 1) := by decide +kernel
theorem dX5_sync_152 : decode cX5_sync 152 = .ok (.ifCond .eq 27, 3) := by decide +kernel
theorem dX5_sync_155 : decode cX5_sync 155 = .ok (.aload_n 0, 1) := by decide +kernel
theorem dX5_sync_156 : decode cX5_sync 156 = .ok (.bipush 111, 2) := by decide +kernel
theorem dX5_sync_158 : decode cX5_sync 158 = .ok (.iload_n 2, 1) := by decide +kernel
theorem dX5_sync_159 : decode cX5_sync 159 = .ok (.invokevirtual 124, 3) := by decide +kernel
theorem dX5_sync_162 : decode cX5_sync 162 = .ok (.ifCond .eq 17, 3) := by decide +kernel
theorem dX5_sync_165 : decode cX5_sync 165 = .ok (.aload_n 0, 1) := by decide +kernel
theorem dX5_sync_166 : decode cX5_sync 166 = .ok (.bipush 110, 2) := by decide +kernel
theorem dX5_sync_168 : decode cX5_sync 168 = .ok (.iload_n 1, 1) := by decide +kernel
theorem dX5_sync_169 : decode cX5_sync 169 = .ok (.invokevirtual 124, 3) := by decide +kernel
theorem dX5_sync_172 : decode cX5_sync 172 = .ok (.ifCond .eq 7, 3) := by decide +kernel
theorem dX5_sync_175 : decode cX5_sync 175 = .ok (.iconst 1, 1) := by decide +kernel
theorem dX5_sync_176 : decode cX5_sync 176 = .ok (.goto 4, 3) := by decide +kernel
theorem dX5_sync_179 : decode cX5_sync 179 = .ok (.iconst 0, 1) := by decide +kernel
theorem dX5_sync_180 : decode cX5_sync 180 = .ok (.istore_n 3, 1) := by decide +kernel
theorem dX5_sync_181 : decode cX5_sync 181 = .ok (.iconst 0, 1) := by decide +kernel
theorem dX5_sync_182 : decode cX5_sync 182 = .ok (.istore 4, 2) := by decide +kernel
theorem dX5_sync_184 : decode cX5_sync 184 = .ok (.iload 4, 2) := by decide +kernel
theorem dX5_sync_186 : decode cX5_sync 186 = .ok (.iload_n 1, 1) := by decide +kernel
theorem dX5_sync_187 : decode cX5_sync 187 = .ok (.if_icmp .ge 37, 3) := by decide +kernel
theorem dX5_sync_190 : decode cX5_sync 190 = .ok (.iload_n 3, 1) := by decide +kernel
theorem dX5_sync_191 : decode cX5_sync 191 = .ok (.ifCond .eq 33, 3) := by decide +kernel
theorem dX5_sync_194 : decode cX5_sync 194 = .ok (.aload_n 0, 1) := by decide +kernel
theorem dX5_sync_195 : decode cX5_sync 195 = .ok (.aload_n 0, 1) := by decide +kernel
theorem dX5_sync_196 : decode cX5_sync 196 = .ok (.getfield 32, 3) := by decide +kernel
theorem dX5_sync_199 : decode cX5_sync 199 = .ok (.iload 4, 2) := by decide +kernel
theorem dX5_sync_201 : decode cX5_sync 201 = .ok (.iaload, 1) := by decide +kernel
theorem dX5_sync_202 : decode cX5_sync 202 = .ok (.aload_n 0, 1) := by decide +kernel
theorem dX5_sync_203 : decode cX5_sync 203 = .ok (.getfield 13, 3) := by decide +kernel
theorem dX5_sync_206 : decode cX5_sync 206 = .ok (.aload_n 0, 1) := by decide +kernel
theorem dX5_sync_207 : decode cX5_sync 207 = .ok (.getfield 32, 3) := by decide +kernel
theorem dX5_sync_210 : decode cX5_sync 210 = .ok (.iload 4, 2) := by decide +kernel
theorem dX5_sync_212 : decode cX5_sync 212 = .ok (.iaload, 1) := by decide +kernel
theorem dX5_sync_213 : decode cX5_sync 213 = .ok (.iaload, 1) := by decide +kernel
theorem dX5_sync_214 : decode cX5_sync 214 = .ok (.invokevirtual 124, 3) := by decide +kernel
theorem dX5_sync_217 : decode cX5_sync 217 = .ok (.istore_n 3, 1) := by decide +kernel
theorem dX5_sync_218 : decode cX5_sync 218 = .ok (.iinc 4 1, 3) := by decide +kernel
theorem dX5_sync_221 : decode cX5_sync 221 = .ok (.goto (-37), 3) := by decide +kernel
theorem dX5_sync_224 : decode cX5_sync 224 = .ok (.iload_n 3, 1) := by decide +kernel
theorem dX5_sync_225 : decode cX5_sync 225 = .ok (.ifCond .eq 17, 3) := by decide +kernel
theorem dX5_sync_228 : decode cX5_sync 228 = .ok (.aload_n 0, 1) := by decide +kernel
theorem dX5_sync_229 : decode cX5_sync 229 = .ok (.bipush 110, 2) := by decide +kernel
theorem dX5_sync_231 : decode cX5_sync 231 = .ok (.iconst 0, 1) := by decide +kernel
theorem dX5_sync_232 : decode cX5_sync 232 = .ok (.invokevirtual 124, 3) := by decide +kernel
theorem dX5_sync_235 : decode cX5_sync 235 = .ok (.ifCond .eq 7, 3) := by decide +kernel
theorem dX5_sync_238 : decode cX5_sync 238 = .ok (.iconst 1, 1) := by decide +kernel
theorem dX5_sync_239 : decode cX5_sync 239 = .ok (.goto 4, 3) := by decide +kernel
theorem dX5_sync_242 : decode cX5_sync 242 = .ok (.iconst 0, 1) := by decide +kernel
theorem dX5_sync_243 : decode cX5_sync 243 = .ok (.istore_n 3, 1) := by decide +kernel
theorem dX5_sync_244 : decode cX5_sync 244 = .ok (.iload_n 3, 1) := by decide +kernel
theorem dX5_sync_245 : decode cX5_sync 245 = .ok (.ifCond .eq 7, 3) := by decide +kernel
theorem dX5_sync_248 : decode cX5_sync 248 = .ok (.iload_n 1, 1) := by decide +kernel
theorem dX5_sync_249 : decode cX5_sync 249 = .ok (.goto 5, 3) := by decide +kernel
theorem dX5_sync_252 : decode cX5_sync 252 = .ok (.bipush (-11), 2) := by decide +kernel
theorem dX5_sync_254 : decode cX5_sync 254 = .ok (.ireturn, 1) := by decide +kernel
theorem dX5_crashAfter_0 : decode cX5_crashAfter 0 = .ok (.aload_n 0, 1) := by decide +kernel
theorem dX5_crashAfter_1 : decode cX5_crashAfter 1 = .ok (.getfield 42, 3) := by decide +kernel
theorem dX5_crashAfter_4 : decode cX5_crashAfter 4 = .ok (.ifCond .eq 8, 3) := by decide +kernel
theorem dX5_crashAfter_7 : decode cX5_crashAfter 7 = .ok (.iload_n 1, 1) := by decide +kernel
theorem dX5_crashAfter_8 : decode cX5_crashAfter 8 = .ok (.iconst (-1), 1) := by decide +kernel
theorem dX5_crashAfter_9 : decode cX5_crashAfter 9 = .ok (.if_icmp .ge 5, 3) := by decide +kernel
theorem dX5_crashAfter_12 : decode cX5_crashAfter 12 = .ok (.iconst 0, 1) := by decide +kernel
theorem dX5_crashAfter_13 : decode cX5_crashAfter 13 = .ok (.ireturn, 1) := by decide +kernel
theorem dX5_crashAfter_14 : decode cX5_crashAfter 14 = .ok (.aload_n 0, 1) := by decide +kernel
theorem dX5_crashAfter_15 : decode cX5_crashAfter 15 = .ok (.iload_n 1, 1) := by decide +kernel
theorem dX5_crashAfter_16 : decode cX5_crashAfter 16 = .ok (.putfield 46, 3) := by decide +kernel
theorem dX5_crashAfter_19 : decode cX5_crashAfter 19 = .ok (.iconst 1, 1) := by decide +kernel
theorem dX5_crashAfter_20 : decode cX5_crashAfter 20 = .ok (.ireturn, 1) := by decide +kernel
set_option maxRecDepth 20000 in
theorem ggX5_holds_X5_within : GoodIn wsX5_holds wsX5_within := goodIn_r _ [5] (by decide +kernel) (by decide +kernel)
set_option maxRecDepth 20000 in
theorem gX5_holds_X5_within : GoodIn wsX5_holds (va_wsS RX5 38 yX5_within wsX5_within) := goodIn_app (goodIn_of _ (by decide +kernel)) ggX5_holds_X5_within
theorem dX5_holds_0 : decode cX5_holds 0 = .ok (.aload_n 0, 1) := by decide +kernel
theorem dX5_holds_1 : decode cX5_holds 1 = .ok (.getfield 7, 3) := by decide +kernel
theorem dX5_holds_4 : decode cX5_holds 4 = .ok (.bipush 110, 2) := by decide +kernel
theorem dX5_holds_6 : decode cX5_holds 6 = .ok (.iaload, 1) := by decide +kernel
theorem dX5_holds_7 : decode cX5_holds 7 = .ok (.istore_n 1, 1) := by decide +kernel
theorem dX5_holds_8 : decode cX5_holds 8 = .ok (.iload_n 1, 1) := by decide +kernel
theorem dX5_holds_9 : decode cX5_holds 9 = .ok (.iconst 1, 1) := by decide +kernel
theorem dX5_holds_10 : decode cX5_holds 10 = .ok (.bipush 110, 2) := by decide +kernel
theorem dX5_holds_12 : decode cX5_holds 12 = .ok (.invokestatic 38, 3) := by decide +kernel
theorem dX5_holds_15 : decode cX5_holds 15 = .ok (.ifCond .ne 5, 3) := by decide +kernel
theorem dX5_holds_18 : decode cX5_holds 18 = .ok (.iconst 0, 1) := by decide +kernel
theorem dX5_holds_19 : decode cX5_holds 19 = .ok (.ireturn, 1) := by decide +kernel
theorem dX5_holds_20 : decode cX5_holds 20 = .ok (.iload_n 1, 1) := by decide +kernel
theorem dX5_holds_21 : decode cX5_holds 21 = .ok (.istore_n 2, 1) := by decide +kernel
theorem dX5_holds_22 : decode cX5_holds 22 = .ok (.iconst (-1), 1) := by decide +kernel
theorem dX5_holds_23 : decode cX5_holds 23 = .ok (.istore_n 3, 1) := by decide +kernel
theorem dX5_holds_24 : decode cX5_holds 24 = .ok (.iconst 0, 1) := by decide +kernel
theorem dX5_holds_25 : decode cX5_holds 25 = .ok (.istore 4, 2) := by decide +kernel
theorem dX5_holds_27 : decode cX5_holds 27 = .ok (.iload 4, 2) := by decide +kernel
theorem dX5_holds_29 : decode cX5_holds 29 = .ok (.iload_n 1, 1) := by decide +kernel
theorem dX5_holds_30 : decode cX5_holds 30 = .ok (.if_icmp .ge 65, 3) := by decide +kernel
theorem dX5_holds_33 : decode cX5_holds 33 = .ok (.aload_n 0, 1) := by decide +kernel
theorem dX5_holds_34 : decode cX5_holds 34 = .ok (.getfield 7, 3) := by decide +kernel
theorem dX5_holds_37 : decode cX5_holds 37 = .ok (.bipush 112, 2) := by decide +kernel
theorem dX5_holds_39 : decode cX5_holds 39 = .ok (.iconst 2, 1) := by decide +kernel
theorem dX5_holds_40 : decode cX5_holds 40 = .ok (.iload 4, 2) := by decide +kernel
theorem dX5_holds_42 : decode cX5_holds 42 = .ok (.imul, 1) := by decide +kernel
theorem dX5_holds_43 : decode cX5_holds 43 = .ok (.iadd, 1) := by decide +kernel
theorem dX5_holds_44 : decode cX5_holds 44 = .ok (.iaload, 1) := by decide +kernel
theorem dX5_holds_45 : decode cX5_holds 45 = .ok (.istore 5, 2) := by decide +kernel
theorem dX5_holds_47 : decode cX5_holds 47 = .ok (.iload 5, 2) := by decide +kernel
theorem dX5_holds_49 : decode cX5_holds 49 = .ok (.iload_n 3, 1) := by decide +kernel
theorem dX5_holds_50 : decode cX5_holds 50 = .ok (.iconst 1, 1) := by decide +kernel
theorem dX5_holds_51 : decode cX5_holds 51 = .ok (.iadd, 1) := by decide +kernel
theorem dX5_holds_52 : decode cX5_holds 52 = .ok (.bipush 109, 2) := by decide +kernel
theorem dX5_holds_54 : decode cX5_holds 54 = .ok (.invokestatic 38, 3) := by decide +kernel
theorem dX5_holds_57 : decode cX5_holds 57 = .ok (.ifCond .ne 5, 3) := by decide +kernel
theorem dX5_holds_60 : decode cX5_holds 60 = .ok (.iconst 0, 1) := by decide +kernel
theorem dX5_holds_61 : decode cX5_holds 61 = .ok (.ireturn, 1) := by decide +kernel
theorem dX5_holds_62 : decode cX5_holds 62 = .ok (.iload 5, 2) := by decide +kernel
theorem dX5_holds_64 : decode cX5_holds 64 = .ok (.istore_n 3, 1) := by decide +kernel
theorem dX5_holds_65 : decode cX5_holds 65 = .ok (.iload_n 2, 1) := by decide +kernel
theorem dX5_holds_66 : decode cX5_holds 66 = .ok (.bipush 31, 2) := by decide +kernel
theorem dX5_holds_68 : decode cX5_holds 68 = .ok (.imul, 1) := by decide +kernel
theorem dX5_holds_69 : decode cX5_holds 69 = .ok (.iload 5, 2) := by decide +kernel
theorem dX5_holds_71 : decode cX5_holds 71 = .ok (.iadd, 1) := by decide +kernel
theorem dX5_holds_72 : decode cX5_holds 72 = .ok (.bipush 31, 2) := by decide +kernel
theorem dX5_holds_74 : decode cX5_holds 74 = .ok (.imul, 1) := by decide +kernel
theorem dX5_holds_75 : decode cX5_holds 75 = .ok (.aload_n 0, 1) := by decide +kernel
theorem dX5_holds_76 : decode cX5_holds 76 = .ok (.getfield 7, 3) := by decide +kernel
theorem dX5_holds_79 : decode cX5_holds 79 = .ok (.bipush 113, 2) := by decide +kernel
theorem dX5_holds_81 : decode cX5_holds 81 = .ok (.iconst 2, 1) := by decide +kernel
theorem dX5_holds_82 : decode cX5_holds 82 = .ok (.iload 4, 2) := by decide +kernel
theorem dX5_holds_84 : decode cX5_holds 84 = .ok (.imul, 1) := by decide +kernel
theorem dX5_holds_85 : decode cX5_holds 85 = .ok (.iadd, 1) := by decide +kernel
theorem dX5_holds_86 : decode cX5_holds 86 = .ok (.iaload, 1) := by decide +kernel
theorem dX5_holds_87 : decode cX5_holds 87 = .ok (.iadd, 1) := by decide +kernel
theorem dX5_holds_88 : decode cX5_holds 88 = .ok (.istore_n 2, 1) := by decide +kernel
theorem dX5_holds_89 : decode cX5_holds 89 = .ok (.iinc 4 1, 3) := by decide +kernel
theorem dX5_holds_92 : decode cX5_holds 92 = .ok (.goto (-65), 3) := by decide +kernel
theorem dX5_holds_95 : decode cX5_holds 95 = .ok (.iload_n 2, 1) := by decide +kernel
theorem dX5_holds_96 : decode cX5_holds 96 = .ok (.aload_n 0, 1) := by decide +kernel
theorem dX5_holds_97 : decode cX5_holds 97 = .ok (.getfield 7, 3) := by decide +kernel
theorem dX5_holds_100 : decode cX5_holds 100 = .ok (.bipush 111, 2) := by decide +kernel
theorem dX5_holds_102 : decode cX5_holds 102 = .ok (.iaload, 1) := by decide +kernel
theorem dX5_holds_103 : decode cX5_holds 103 = .ok (.if_icmp .ne 7, 3) := by decide +kernel
theorem dX5_holds_106 : decode cX5_holds 106 = .ok (.iconst 1, 1) := by decide +kernel
theorem dX5_holds_107 : decode cX5_holds 107 = .ok (.goto 4, 3) := by decide +kernel
theorem dX5_holds_110 : decode cX5_holds 110 = .ok (.iconst 0, 1) := by decide +kernel
theorem dX5_holds_111 : decode cX5_holds 111 = .ok (.ireturn, 1) := by decide +kernel
set_option maxRecDepth 20000 in
theorem ggX5_fetch_X5_holds : GoodIn wsX5_fetch wsX5_holds := goodIn_r _ [7, 2, 8, 9, 6, 10, 11, 12, 13, 14, 15, 16, 17, 18, 19, 20, 21, 22] (by decide +kernel) (by decide +kernel)
set_option maxRecDepth 20000 in
theorem gX5_fetch_X5_holds : GoodIn wsX5_fetch (wsV RX5 128 RX5 yX5_holds wsX5_holds) := goodIn_app (goodIn_of _ (by decide +kernel)) ggX5_fetch_X5_holds
theorem dX5_fetch_0 : decode cX5_fetch 0 = .ok (.iconst 0, 1) := by decide +kernel
theorem dX5_fetch_1 : decode cX5_fetch 1 = .ok (.istore_n 1, 1) := by decide +kernel
theorem dX5_fetch_2 : decode cX5_fetch 2 = .ok (.iload_n 1, 1) := by decide +kernel
theorem dX5_fetch_3 : decode cX5_fetch 3 = .ok (.bipush 110, 2) := by decide +kernel
theorem dX5_fetch_5 : decode cX5_fetch 5 = .ok (.if_icmp .ge 21, 3) := by decide +kernel
theorem dX5_fetch_8 : decode cX5_fetch 8 = .ok (.aload_n 0, 1) := by decide +kernel
theorem dX5_fetch_9 : decode cX5_fetch 9 = .ok (.getfield 19, 3) := by decide +kernel
theorem dX5_fetch_12 : decode cX5_fetch 12 = .ok (.iload_n 1, 1) := by decide +kernel
theorem dX5_fetch_13 : decode cX5_fetch 13 = .ok (.aload_n 0, 1) := by decide +kernel
theorem dX5_fetch_14 : decode cX5_fetch 14 = .ok (.getfield 7, 3) := by decide +kernel
theorem dX5_fetch_17 : decode cX5_fetch 17 = .ok (.iload_n 1, 1) := by decide +kernel
theorem dX5_fetch_18 : decode cX5_fetch 18 = .ok (.iaload, 1) := by decide +kernel
theorem dX5_fetch_19 : decode cX5_fetch 19 = .ok (.iastore, 1) := by decide +kernel
theorem dX5_fetch_20 : decode cX5_fetch 20 = .ok (.iinc 1 1, 3) := by decide +kernel
theorem dX5_fetch_23 : decode cX5_fetch 23 = .ok (.goto (-21), 3) := by decide +kernel
theorem dX5_fetch_26 : decode cX5_fetch 26 = .ok (.aload_n 0, 1) := by decide +kernel
theorem dX5_fetch_27 : decode cX5_fetch 27 = .ok (.invokevirtual 128, 3) := by decide +kernel
theorem dX5_fetch_30 : decode cX5_fetch 30 = .ok (.ifCond .eq 49, 3) := by decide +kernel
theorem dX5_fetch_33 : decode cX5_fetch 33 = .ok (.iconst 0, 1) := by decide +kernel
theorem dX5_fetch_34 : decode cX5_fetch 34 = .ok (.istore_n 1, 1) := by decide +kernel
theorem dX5_fetch_35 : decode cX5_fetch 35 = .ok (.iload_n 1, 1) := by decide +kernel
theorem dX5_fetch_36 : decode cX5_fetch 36 = .ok (.aload_n 0, 1) := by decide +kernel
theorem dX5_fetch_37 : decode cX5_fetch 37 = .ok (.getfield 7, 3) := by decide +kernel
theorem dX5_fetch_40 : decode cX5_fetch 40 = .ok (.bipush 110, 2) := by decide +kernel
theorem dX5_fetch_42 : decode cX5_fetch 42 = .ok (.iaload, 1) := by decide +kernel
theorem dX5_fetch_43 : decode cX5_fetch 43 = .ok (.if_icmp .ge 36, 3) := by decide +kernel
theorem dX5_fetch_46 : decode cX5_fetch 46 = .ok (.aload_n 0, 1) := by decide +kernel
theorem dX5_fetch_47 : decode cX5_fetch 47 = .ok (.getfield 19, 3) := by decide +kernel
theorem dX5_fetch_50 : decode cX5_fetch 50 = .ok (.aload_n 0, 1) := by decide +kernel
theorem dX5_fetch_51 : decode cX5_fetch 51 = .ok (.getfield 7, 3) := by decide +kernel
theorem dX5_fetch_54 : decode cX5_fetch 54 = .ok (.bipush 112, 2) := by decide +kernel
theorem dX5_fetch_56 : decode cX5_fetch 56 = .ok (.iconst 2, 1) := by decide +kernel
theorem dX5_fetch_57 : decode cX5_fetch 57 = .ok (.iload_n 1, 1) := by decide +kernel
theorem dX5_fetch_58 : decode cX5_fetch 58 = .ok (.imul, 1) := by decide +kernel
theorem dX5_fetch_59 : decode cX5_fetch 59 = .ok (.iadd, 1) := by decide +kernel
theorem dX5_fetch_60 : decode cX5_fetch 60 = .ok (.iaload, 1) := by decide +kernel
theorem dX5_fetch_61 : decode cX5_fetch 61 = .ok (.aload_n 0, 1) := by decide +kernel
theorem dX5_fetch_62 : decode cX5_fetch 62 = .ok (.getfield 7, 3) := by decide +kernel
theorem dX5_fetch_65 : decode cX5_fetch 65 = .ok (.bipush 113, 2) := by decide +kernel
theorem dX5_fetch_67 : decode cX5_fetch 67 = .ok (.iconst 2, 1) := by decide +kernel
theorem dX5_fetch_68 : decode cX5_fetch 68 = .ok (.iload_n 1, 1) := by decide +kernel
theorem dX5_fetch_69 : decode cX5_fetch 69 = .ok (.imul, 1) := by decide +kernel
theorem dX5_fetch_70 : decode cX5_fetch 70 = .ok (.iadd, 1) := by decide +kernel
theorem dX5_fetch_71 : decode cX5_fetch 71 = .ok (.iaload, 1) := by decide +kernel
theorem dX5_fetch_72 : decode cX5_fetch 72 = .ok (.iastore, 1) := by decide +kernel
theorem dX5_fetch_73 : decode cX5_fetch 73 = .ok (.iinc 1 1, 3) := by decide +kernel
theorem dX5_fetch_76 : decode cX5_fetch 76 = .ok (.goto (-41), 3) := by decide +kernel
theorem dX5_fetch_79 : decode cX5_fetch 79 = .ok (.return_, 1) := by decide +kernel
set_option maxRecDepth 20000 in
theorem ggX5_slotsRight_X5_within : GoodIn wsX5_slotsRight wsX5_within := goodIn_r _ [5] (by decide +kernel) (by decide +kernel)
set_option maxRecDepth 20000 in
theorem gX5_slotsRight_X5_within : GoodIn wsX5_slotsRight (va_wsS RX5 38 yX5_within wsX5_within) := goodIn_app (goodIn_of _ (by decide +kernel)) ggX5_slotsRight_X5_within
theorem dX5_slotsRight_0 : decode cX5_slotsRight 0 = .ok (.iconst 0, 1) := by decide +kernel
theorem dX5_slotsRight_1 : decode cX5_slotsRight 1 = .ok (.istore_n 1, 1) := by decide +kernel
theorem dX5_slotsRight_2 : decode cX5_slotsRight 2 = .ok (.iload_n 1, 1) := by decide +kernel
theorem dX5_slotsRight_3 : decode cX5_slotsRight 3 = .ok (.bipush 6, 2) := by decide +kernel
theorem dX5_slotsRight_5 : decode cX5_slotsRight 5 = .ok (.if_icmp .ge 100, 3) := by decide +kernel
theorem dX5_slotsRight_8 : decode cX5_slotsRight 8 = .ok (.bipush 7, 2) := by decide +kernel
theorem dX5_slotsRight_10 : decode cX5_slotsRight 10 = .ok (.iload_n 1, 1) := by decide +kernel
theorem dX5_slotsRight_11 : decode cX5_slotsRight 11 = .ok (.imul, 1) := by decide +kernel
theorem dX5_slotsRight_12 : decode cX5_slotsRight 12 = .ok (.istore_n 2, 1) := by decide +kernel
theorem dX5_slotsRight_13 : decode cX5_slotsRight 13 = .ok (.aload_n 0, 1) := by decide +kernel
theorem dX5_slotsRight_14 : decode cX5_slotsRight 14 = .ok (.getfield 19, 3) := by decide +kernel
theorem dX5_slotsRight_17 : decode cX5_slotsRight 17 = .ok (.iload_n 2, 1) := by decide +kernel
theorem dX5_slotsRight_18 : decode cX5_slotsRight 18 = .ok (.iaload, 1) := by decide +kernel
theorem dX5_slotsRight_19 : decode cX5_slotsRight 19 = .ok (.iconst 0, 1) := by decide +kernel
theorem dX5_slotsRight_20 : decode cX5_slotsRight 20 = .ok (.bipush 99, 2) := by decide +kernel
theorem dX5_slotsRight_22 : decode cX5_slotsRight 22 = .ok (.invokestatic 38, 3) := by decide +kernel
theorem dX5_slotsRight_25 : decode cX5_slotsRight 25 = .ok (.ifCond .eq 36, 3) := by decide +kernel
theorem dX5_slotsRight_28 : decode cX5_slotsRight 28 = .ok (.aload_n 0, 1) := by decide +kernel
theorem dX5_slotsRight_29 : decode cX5_slotsRight 29 = .ok (.getfield 19, 3) := by decide +kernel
theorem dX5_slotsRight_32 : decode cX5_slotsRight 32 = .ok (.iload_n 2, 1) := by decide +kernel
theorem dX5_slotsRight_33 : decode cX5_slotsRight 33 = .ok (.iconst 1, 1) := by decide +kernel
theorem dX5_slotsRight_34 : decode cX5_slotsRight 34 = .ok (.iadd, 1) := by decide +kernel
theorem dX5_slotsRight_35 : decode cX5_slotsRight 35 = .ok (.iaload, 1) := by decide +kernel
theorem dX5_slotsRight_36 : decode cX5_slotsRight 36 = .ok (.iconst 0, 1) := by decide +kernel
theorem dX5_slotsRight_37 : decode cX5_slotsRight 37 = .ok (.iconst 2, 1) := by decide +kernel
theorem dX5_slotsRight_38 : decode cX5_slotsRight 38 = .ok (.invokestatic 38, 3) := by decide +kernel
theorem dX5_slotsRight_41 : decode cX5_slotsRight 41 = .ok (.ifCond .eq 20, 3) := by decide +kernel
theorem dX5_slotsRight_44 : decode cX5_slotsRight 44 = .ok (.aload_n 0, 1) := by decide +kernel
theorem dX5_slotsRight_45 : decode cX5_slotsRight 45 = .ok (.getfield 19, 3) := by decide +kernel
theorem dX5_slotsRight_48 : decode cX5_slotsRight 48 = .ok (.iload_n 2, 1) := by decide +kernel
theorem dX5_slotsRight_49 : decode cX5_slotsRight 49 = .ok (.iconst 2, 1) := by decide +kernel
theorem dX5_slotsRight_50 : decode cX5_slotsRight 50 = .ok (.iadd, 1) := by decide +kernel
theorem dX5_slotsRight_51 : decode cX5_slotsRight 51 = .ok (.iaload, 1) := by decide +kernel
theorem dX5_slotsRight_52 : decode cX5_slotsRight 52 = .ok (.iconst 0, 1) := by decide +kernel
theorem dX5_slotsRight_53 : decode cX5_slotsRight 53 = .ok (.bipush 64, 2) := by decide +kernel
theorem dX5_slotsRight_55 : decode cX5_slotsRight 55 = .ok (.invokestatic 38, 3) := by decide +kernel
theorem dX5_slotsRight_58 : decode cX5_slotsRight 58 = .ok (.ifCond .ne 5, 3) := by decide +kernel
theorem dX5_slotsRight_61 : decode cX5_slotsRight 61 = .ok (.iconst 0, 1) := by decide +kernel
theorem dX5_slotsRight_62 : decode cX5_slotsRight 62 = .ok (.ireturn, 1) := by decide +kernel
theorem dX5_slotsRight_63 : decode cX5_slotsRight 63 = .ok (.iconst 1, 1) := by decide +kernel
theorem dX5_slotsRight_64 : decode cX5_slotsRight 64 = .ok (.istore_n 3, 1) := by decide +kernel
theorem dX5_slotsRight_65 : decode cX5_slotsRight 65 = .ok (.iload_n 3, 1) := by decide +kernel
theorem dX5_slotsRight_66 : decode cX5_slotsRight 66 = .ok (.bipush 7, 2) := by decide +kernel
theorem dX5_slotsRight_68 : decode cX5_slotsRight 68 = .ok (.if_icmp .ge 31, 3) := by decide +kernel
theorem dX5_slotsRight_71 : decode cX5_slotsRight 71 = .ok (.aload_n 0, 1) := by decide +kernel
theorem dX5_slotsRight_72 : decode cX5_slotsRight 72 = .ok (.getfield 19, 3) := by decide +kernel
theorem dX5_slotsRight_75 : decode cX5_slotsRight 75 = .ok (.iload_n 2, 1) := by decide +kernel
theorem dX5_slotsRight_76 : decode cX5_slotsRight 76 = .ok (.iaload, 1) := by decide +kernel
theorem dX5_slotsRight_77 : decode cX5_slotsRight 77 = .ok (.ifCond .ne 16, 3) := by decide +kernel
theorem dX5_slotsRight_80 : decode cX5_slotsRight 80 = .ok (.aload_n 0, 1) := by decide +kernel
theorem dX5_slotsRight_81 : decode cX5_slotsRight 81 = .ok (.getfield 19, 3) := by decide +kernel
theorem dX5_slotsRight_84 : decode cX5_slotsRight 84 = .ok (.iload_n 2, 1) := by decide +kernel
theorem dX5_slotsRight_85 : decode cX5_slotsRight 85 = .ok (.iload_n 3, 1) := by decide +kernel
theorem dX5_slotsRight_86 : decode cX5_slotsRight 86 = .ok (.iadd, 1) := by decide +kernel
theorem dX5_slotsRight_87 : decode cX5_slotsRight 87 = .ok (.iaload, 1) := by decide +kernel
theorem dX5_slotsRight_88 : decode cX5_slotsRight 88 = .ok (.ifCond .eq 5, 3) := by decide +kernel
theorem dX5_slotsRight_91 : decode cX5_slotsRight 91 = .ok (.iconst 0, 1) := by decide +kernel
theorem dX5_slotsRight_92 : decode cX5_slotsRight 92 = .ok (.ireturn, 1) := by decide +kernel
theorem dX5_slotsRight_93 : decode cX5_slotsRight 93 = .ok (.iinc 3 1, 3) := by decide +kernel
theorem dX5_slotsRight_96 : decode cX5_slotsRight 96 = .ok (.goto (-31), 3) := by decide +kernel
theorem dX5_slotsRight_99 : decode cX5_slotsRight 99 = .ok (.iinc 1 1, 3) := by decide +kernel
theorem dX5_slotsRight_102 : decode cX5_slotsRight 102 = .ok (.goto (-100), 3) := by decide +kernel
theorem dX5_slotsRight_105 : decode cX5_slotsRight 105 = .ok (.iconst 1, 1) := by decide +kernel
theorem dX5_slotsRight_106 : decode cX5_slotsRight 106 = .ok (.ireturn, 1) := by decide +kernel
theorem dX5_namesRight_0 : decode cX5_namesRight 0 = .ok (.iconst 0, 1) := by decide +kernel
theorem dX5_namesRight_1 : decode cX5_namesRight 1 = .ok (.istore_n 1, 1) := by decide +kernel
theorem dX5_namesRight_2 : decode cX5_namesRight 2 = .ok (.iload_n 1, 1) := by decide +kernel
theorem dX5_namesRight_3 : decode cX5_namesRight 3 = .ok (.bipush 6, 2) := by decide +kernel
theorem dX5_namesRight_5 : decode cX5_namesRight 5 = .ok (.if_icmp .ge 57, 3) := by decide +kernel
theorem dX5_namesRight_8 : decode cX5_namesRight 8 = .ok (.iconst 0, 1) := by decide +kernel
theorem dX5_namesRight_9 : decode cX5_namesRight 9 = .ok (.istore_n 2, 1) := by decide +kernel
theorem dX5_namesRight_10 : decode cX5_namesRight 10 = .ok (.iload_n 2, 1) := by decide +kernel
theorem dX5_namesRight_11 : decode cX5_namesRight 11 = .ok (.iload_n 1, 1) := by decide +kernel
theorem dX5_namesRight_12 : decode cX5_namesRight 12 = .ok (.if_icmp .ge 44, 3) := by decide +kernel
theorem dX5_namesRight_15 : decode cX5_namesRight 15 = .ok (.aload_n 0, 1) := by decide +kernel
theorem dX5_namesRight_16 : decode cX5_namesRight 16 = .ok (.getfield 19, 3) := by decide +kernel
theorem dX5_namesRight_19 : decode cX5_namesRight 19 = .ok (.bipush 7, 2) := by decide +kernel
theorem dX5_namesRight_21 : decode cX5_namesRight 21 = .ok (.iload_n 1, 1) := by decide +kernel
theorem dX5_namesRight_22 : decode cX5_namesRight 22 = .ok (.imul, 1) := by decide +kernel
theorem dX5_namesRight_23 : decode cX5_namesRight 23 = .ok (.iaload, 1) := by decide +kernel
theorem dX5_namesRight_24 : decode cX5_namesRight 24 = .ok (.ifCond .eq 26, 3) := by decide +kernel
theorem dX5_namesRight_27 : decode cX5_namesRight 27 = .ok (.aload_n 0, 1) := by decide +kernel
theorem dX5_namesRight_28 : decode cX5_namesRight 28 = .ok (.getfield 19, 3) := by decide +kernel
theorem dX5_namesRight_31 : decode cX5_namesRight 31 = .ok (.bipush 7, 2) := by decide +kernel
theorem dX5_namesRight_33 : decode cX5_namesRight 33 = .ok (.iload_n 1, 1) := by decide +kernel
theorem dX5_namesRight_34 : decode cX5_namesRight 34 = .ok (.imul, 1) := by decide +kernel
theorem dX5_namesRight_35 : decode cX5_namesRight 35 = .ok (.iaload, 1) := by decide +kernel
theorem dX5_namesRight_36 : decode cX5_namesRight 36 = .ok (.aload_n 0, 1) := by decide +kernel
theorem dX5_namesRight_37 : decode cX5_namesRight 37 = .ok (.getfield 19, 3) := by decide +kernel
theorem dX5_namesRight_40 : decode cX5_namesRight 40 = .ok (.bipush 7, 2) := by decide +kernel
theorem dX5_namesRight_42 : decode cX5_namesRight 42 = .ok (.iload_n 2, 1) := by decide +kernel
theorem dX5_namesRight_43 : decode cX5_namesRight 43 = .ok (.imul, 1) := by decide +kernel
theorem dX5_namesRight_44 : decode cX5_namesRight 44 = .ok (.iaload, 1) := by decide +kernel
theorem dX5_namesRight_45 : decode cX5_namesRight 45 = .ok (.if_icmp .ne 5, 3) := by decide +kernel
theorem dX5_namesRight_48 : decode cX5_namesRight 48 = .ok (.iconst 0, 1) := by decide +kernel
theorem dX5_namesRight_49 : decode cX5_namesRight 49 = .ok (.ireturn, 1) := by decide +kernel
theorem dX5_namesRight_50 : decode cX5_namesRight 50 = .ok (.iinc 2 1, 3) := by decide +kernel
theorem dX5_namesRight_53 : decode cX5_namesRight 53 = .ok (.goto (-43), 3) := by decide +kernel
theorem dX5_namesRight_56 : decode cX5_namesRight 56 = .ok (.iinc 1 1, 3) := by decide +kernel
theorem dX5_namesRight_59 : decode cX5_namesRight 59 = .ok (.goto (-57), 3) := by decide +kernel
theorem dX5_namesRight_62 : decode cX5_namesRight 62 = .ok (.iconst 1, 1) := by decide +kernel
theorem dX5_namesRight_63 : decode cX5_namesRight 63 = .ok (.ireturn, 1) := by decide +kernel
set_option maxRecDepth 20000 in
theorem ggX5_extentsRight_X5_isRun : GoodIn wsX5_extentsRight wsX5_isRun := goodIn_r _ [5, 6, 7, 4, 8, 9, 10, 11, 12, 13, 14] (by decide +kernel) (by decide +kernel)
set_option maxRecDepth 20000 in
theorem gX5_extentsRight_X5_isRun : GoodIn wsX5_extentsRight (va_wsS RX5 132 yX5_isRun wsX5_isRun) := goodIn_app (goodIn_of _ (by decide +kernel)) ggX5_extentsRight_X5_isRun
theorem dX5_extentsRight_0 : decode cX5_extentsRight 0 = .ok (.iconst 0, 1) := by decide +kernel
theorem dX5_extentsRight_1 : decode cX5_extentsRight 1 = .ok (.istore_n 1, 1) := by decide +kernel
theorem dX5_extentsRight_2 : decode cX5_extentsRight 2 = .ok (.iload_n 1, 1) := by decide +kernel
theorem dX5_extentsRight_3 : decode cX5_extentsRight 3 = .ok (.bipush 6, 2) := by decide +kernel
theorem dX5_extentsRight_5 : decode cX5_extentsRight 5 = .ok (.if_icmp .ge 69, 3) := by decide +kernel
theorem dX5_extentsRight_8 : decode cX5_extentsRight 8 = .ok (.iconst 0, 1) := by decide +kernel
theorem dX5_extentsRight_9 : decode cX5_extentsRight 9 = .ok (.istore_n 2, 1) := by decide +kernel
theorem dX5_extentsRight_10 : decode cX5_extentsRight 10 = .ok (.iload_n 2, 1) := by decide +kernel
theorem dX5_extentsRight_11 : decode cX5_extentsRight 11 = .ok (.iconst 4, 1) := by decide +kernel
theorem dX5_extentsRight_12 : decode cX5_extentsRight 12 = .ok (.if_icmp .ge 56, 3) := by decide +kernel
theorem dX5_extentsRight_15 : decode cX5_extentsRight 15 = .ok (.aload_n 0, 1) := by decide +kernel
theorem dX5_extentsRight_16 : decode cX5_extentsRight 16 = .ok (.getfield 19, 3) := by decide +kernel
theorem dX5_extentsRight_19 : decode cX5_extentsRight 19 = .ok (.bipush 7, 2) := by decide +kernel
theorem dX5_extentsRight_21 : decode cX5_extentsRight 21 = .ok (.iload_n 1, 1) := by decide +kernel
theorem dX5_extentsRight_22 : decode cX5_extentsRight 22 = .ok (.imul, 1) := by decide +kernel
theorem dX5_extentsRight_23 : decode cX5_extentsRight 23 = .ok (.iconst 3, 1) := by decide +kernel
theorem dX5_extentsRight_24 : decode cX5_extentsRight 24 = .ok (.iadd, 1) := by decide +kernel
theorem dX5_extentsRight_25 : decode cX5_extentsRight 25 = .ok (.iload_n 2, 1) := by decide +kernel
theorem dX5_extentsRight_26 : decode cX5_extentsRight 26 = .ok (.iadd, 1) := by decide +kernel
theorem dX5_extentsRight_27 : decode cX5_extentsRight 27 = .ok (.iaload, 1) := by decide +kernel
theorem dX5_extentsRight_28 : decode cX5_extentsRight 28 = .ok (.istore_n 3, 1) := by decide +kernel
theorem dX5_extentsRight_29 : decode cX5_extentsRight 29 = .ok (.iload_n 3, 1) := by decide +kernel
theorem dX5_extentsRight_30 : decode cX5_extentsRight 30 = .ok (.ifCond .eq 32, 3) := by decide +kernel
theorem dX5_extentsRight_33 : decode cX5_extentsRight 33 = .ok (.iload_n 3, 1) := by decide +kernel
theorem dX5_extentsRight_34 : decode cX5_extentsRight 34 = .ok (.invokestatic 132, 3) := by decide +kernel
theorem dX5_extentsRight_37 : decode cX5_extentsRight 37 = .ok (.ifCond .eq 23, 3) := by decide +kernel
theorem dX5_extentsRight_40 : decode cX5_extentsRight 40 = .ok (.iload_n 2, 1) := by decide +kernel
theorem dX5_extentsRight_41 : decode cX5_extentsRight 41 = .ok (.ifCond .le 21, 3) := by decide +kernel
theorem dX5_extentsRight_44 : decode cX5_extentsRight 44 = .ok (.aload_n 0, 1) := by decide +kernel
theorem dX5_extentsRight_45 : decode cX5_extentsRight 45 = .ok (.getfield 19, 3) := by decide +kernel
theorem dX5_extentsRight_48 : decode cX5_extentsRight 48 = .ok (.bipush 7, 2) := by decide +kernel
theorem dX5_extentsRight_50 : decode cX5_extentsRight 50 = .ok (.iload_n 1, 1) := by decide +kernel
theorem dX5_extentsRight_51 : decode cX5_extentsRight 51 = .ok (.imul, 1) := by decide +kernel
theorem dX5_extentsRight_52 : decode cX5_extentsRight 52 = .ok (.iconst 2, 1) := by decide +kernel
theorem dX5_extentsRight_53 : decode cX5_extentsRight 53 = .ok (.iadd, 1) := by decide +kernel
theorem dX5_extentsRight_54 : decode cX5_extentsRight 54 = .ok (.iload_n 2, 1) := by decide +kernel
theorem dX5_extentsRight_55 : decode cX5_extentsRight 55 = .ok (.iadd, 1) := by decide +kernel
theorem dX5_extentsRight_56 : decode cX5_extentsRight 56 = .ok (.iaload, 1) := by decide +kernel
theorem dX5_extentsRight_57 : decode cX5_extentsRight 57 = .ok (.ifCond .ne 5, 3) := by decide +kernel
theorem dX5_extentsRight_60 : decode cX5_extentsRight 60 = .ok (.iconst 0, 1) := by decide +kernel
theorem dX5_extentsRight_61 : decode cX5_extentsRight 61 = .ok (.ireturn, 1) := by decide +kernel
theorem dX5_extentsRight_62 : decode cX5_extentsRight 62 = .ok (.iinc 2 1, 3) := by decide +kernel
theorem dX5_extentsRight_65 : decode cX5_extentsRight 65 = .ok (.goto (-55), 3) := by decide +kernel
theorem dX5_extentsRight_68 : decode cX5_extentsRight 68 = .ok (.iinc 1 1, 3) := by decide +kernel
theorem dX5_extentsRight_71 : decode cX5_extentsRight 71 = .ok (.goto (-69), 3) := by decide +kernel
theorem dX5_extentsRight_74 : decode cX5_extentsRight 74 = .ok (.iconst 1, 1) := by decide +kernel
theorem dX5_extentsRight_75 : decode cX5_extentsRight 75 = .ok (.ireturn, 1) := by decide +kernel
set_option maxRecDepth 20000 in
theorem ggX5_blocksRight_X5_start : GoodIn wsX5_blocksRight wsX5_start := goodIn_r _ [6] (by decide +kernel) (by decide +kernel)
set_option maxRecDepth 20000 in
theorem gX5_blocksRight_X5_start : GoodIn wsX5_blocksRight (va_wsS RX5 54 yX5_start wsX5_start) := goodIn_app (goodIn_of _ (by decide +kernel)) ggX5_blocksRight_X5_start
set_option maxRecDepth 20000 in
theorem ggX5_blocksRight_X5_size : GoodIn wsX5_blocksRight wsX5_size := goodIn_r _ [9, 10, 11, 5, 12] (by decide +kernel) (by decide +kernel)
set_option maxRecDepth 20000 in
theorem gX5_blocksRight_X5_size : GoodIn wsX5_blocksRight (va_wsS RX5 67 yX5_size wsX5_size) := goodIn_app (goodIn_of _ (by decide +kernel)) ggX5_blocksRight_X5_size
theorem dX5_blocksRight_0 : decode cX5_blocksRight 0 = .ok (.iconst 1, 1) := by decide +kernel
theorem dX5_blocksRight_1 : decode cX5_blocksRight 1 = .ok (.istore_n 1, 1) := by decide +kernel
theorem dX5_blocksRight_2 : decode cX5_blocksRight 2 = .ok (.iconst 0, 1) := by decide +kernel
theorem dX5_blocksRight_3 : decode cX5_blocksRight 3 = .ok (.istore_n 2, 1) := by decide +kernel
theorem dX5_blocksRight_4 : decode cX5_blocksRight 4 = .ok (.iload_n 2, 1) := by decide +kernel
theorem dX5_blocksRight_5 : decode cX5_blocksRight 5 = .ok (.bipush 32, 2) := by decide +kernel
theorem dX5_blocksRight_7 : decode cX5_blocksRight 7 = .ok (.if_icmp .ge 145, 3) := by decide +kernel
theorem dX5_blocksRight_10 : decode cX5_blocksRight 10 = .ok (.aload_n 0, 1) := by decide +kernel
theorem dX5_blocksRight_11 : decode cX5_blocksRight 11 = .ok (.getfield 22, 3) := by decide +kernel
theorem dX5_blocksRight_14 : decode cX5_blocksRight 14 = .ok (.iload_n 2, 1) := by decide +kernel
theorem dX5_blocksRight_15 : decode cX5_blocksRight 15 = .ok (.iconst 0, 1) := by decide +kernel
theorem dX5_blocksRight_16 : decode cX5_blocksRight 16 = .ok (.iastore, 1) := by decide +kernel
theorem dX5_blocksRight_17 : decode cX5_blocksRight 17 = .ok (.iconst 0, 1) := by decide +kernel
theorem dX5_blocksRight_18 : decode cX5_blocksRight 18 = .ok (.istore_n 3, 1) := by decide +kernel
theorem dX5_blocksRight_19 : decode cX5_blocksRight 19 = .ok (.iload_n 3, 1) := by decide +kernel
theorem dX5_blocksRight_20 : decode cX5_blocksRight 20 = .ok (.bipush 6, 2) := by decide +kernel
theorem dX5_blocksRight_22 : decode cX5_blocksRight 22 = .ok (.if_icmp .ge 104, 3) := by decide +kernel
theorem dX5_blocksRight_25 : decode cX5_blocksRight 25 = .ok (.iconst 0, 1) := by decide +kernel
theorem dX5_blocksRight_26 : decode cX5_blocksRight 26 = .ok (.istore 4, 2) := by decide +kernel
theorem dX5_blocksRight_28 : decode cX5_blocksRight 28 = .ok (.iload 4, 2) := by decide +kernel
theorem dX5_blocksRight_30 : decode cX5_blocksRight 30 = .ok (.iconst 4, 1) := by decide +kernel
theorem dX5_blocksRight_31 : decode cX5_blocksRight 31 = .ok (.if_icmp .ge 89, 3) := by decide +kernel
theorem dX5_blocksRight_34 : decode cX5_blocksRight 34 = .ok (.aload_n 0, 1) := by decide +kernel
theorem dX5_blocksRight_35 : decode cX5_blocksRight 35 = .ok (.getfield 19, 3) := by decide +kernel
theorem dX5_blocksRight_38 : decode cX5_blocksRight 38 = .ok (.bipush 7, 2) := by decide +kernel
theorem dX5_blocksRight_40 : decode cX5_blocksRight 40 = .ok (.iload_n 3, 1) := by decide +kernel
theorem dX5_blocksRight_41 : decode cX5_blocksRight 41 = .ok (.imul, 1) := by decide +kernel
theorem dX5_blocksRight_42 : decode cX5_blocksRight 42 = .ok (.iconst 3, 1) := by decide +kernel
theorem dX5_blocksRight_43 : decode cX5_blocksRight 43 = .ok (.iadd, 1) := by decide +kernel
theorem dX5_blocksRight_44 : decode cX5_blocksRight 44 = .ok (.iload 4, 2) := by decide +kernel
theorem dX5_blocksRight_46 : decode cX5_blocksRight 46 = .ok (.iadd, 1) := by decide +kernel
theorem dX5_blocksRight_47 : decode cX5_blocksRight 47 = .ok (.iaload, 1) := by decide +kernel
theorem dX5_blocksRight_48 : decode cX5_blocksRight 48 = .ok (.istore 5, 2) := by decide +kernel
theorem dX5_blocksRight_50 : decode cX5_blocksRight 50 = .ok (.iload 5, 2) := by decide +kernel
theorem dX5_blocksRight_52 : decode cX5_blocksRight 52 = .ok (.ifCond .eq 31, 3) := by decide +kernel
theorem dX5_blocksRight_55 : decode cX5_blocksRight 55 = .ok (.iload_n 2, 1) := by decide +kernel
theorem dX5_blocksRight_56 : decode cX5_blocksRight 56 = .ok (.iload 5, 2) := by decide +kernel
theorem dX5_blocksRight_58 : decode cX5_blocksRight 58 = .ok (.invokestatic 54, 3) := by decide +kernel
theorem dX5_blocksRight_61 : decode cX5_blocksRight 61 = .ok (.if_icmp .lt 22, 3) := by decide +kernel
theorem dX5_blocksRight_64 : decode cX5_blocksRight 64 = .ok (.iload_n 2, 1) := by decide +kernel
theorem dX5_blocksRight_65 : decode cX5_blocksRight 65 = .ok (.iload 5, 2) := by decide +kernel
theorem dX5_blocksRight_67 : decode cX5_blocksRight 67 = .ok (.invokestatic 54, 3) := by decide +kernel
theorem dX5_blocksRight_70 : decode cX5_blocksRight 70 = .ok (.iload 5, 2) := by decide +kernel
theorem dX5_blocksRight_72 : decode cX5_blocksRight 72 = .ok (.invokestatic 67, 3) := by decide +kernel
theorem dX5_blocksRight_75 : decode cX5_blocksRight 75 = .ok (.iadd, 1) := by decide +kernel
theorem dX5_blocksRight_76 : decode cX5_blocksRight 76 = .ok (.if_icmp .ge 7, 3) := by decide +kernel
theorem dX5_blocksRight_79 : decode cX5_blocksRight 79 = .ok (.iconst 1, 1) := by decide +kernel
theorem dX5_blocksRight_80 : decode cX5_blocksRight 80 = .ok (.goto 4, 3) := by decide +kernel
theorem dX5_blocksRight_83 : decode cX5_blocksRight 83 = .ok (.iconst 0, 1) := by decide +kernel
theorem dX5_blocksRight_84 : decode cX5_blocksRight 84 = .ok (.istore 6, 2) := by decide +kernel
theorem dX5_blocksRight_86 : decode cX5_blocksRight 86 = .ok (.aload_n 0, 1) := by decide +kernel
theorem dX5_blocksRight_87 : decode cX5_blocksRight 87 = .ok (.getfield 22, 3) := by decide +kernel
theorem dX5_blocksRight_90 : decode cX5_blocksRight 90 = .ok (.iload_n 2, 1) := by decide +kernel
theorem dX5_blocksRight_91 : decode cX5_blocksRight 91 = .ok (.iload 6, 2) := by decide +kernel
theorem dX5_blocksRight_93 : decode cX5_blocksRight 93 = .ok (.ifCond .eq 14, 3) := by decide +kernel
theorem dX5_blocksRight_96 : decode cX5_blocksRight 96 = .ok (.aload_n 0, 1) := by decide +kernel
theorem dX5_blocksRight_97 : decode cX5_blocksRight 97 = .ok (.getfield 22, 3) := by decide +kernel
theorem dX5_blocksRight_100 : decode cX5_blocksRight 100 = .ok (.iload_n 2, 1) := by decide +kernel
theorem dX5_blocksRight_101 : decode cX5_blocksRight 101 = .ok (.iaload, 1) := by decide +kernel
theorem dX5_blocksRight_102 : decode cX5_blocksRight 102 = .ok (.iconst 1, 1) := by decide +kernel
theorem dX5_blocksRight_103 : decode cX5_blocksRight 103 = .ok (.iadd, 1) := by decide +kernel
theorem dX5_blocksRight_104 : decode cX5_blocksRight 104 = .ok (.goto 9, 3) := by decide +kernel
theorem dX5_blocksRight_107 : decode cX5_blocksRight 107 = .ok (.aload_n 0, 1) := by decide +kernel
theorem dX5_blocksRight_108 : decode cX5_blocksRight 108 = .ok (.getfield 22, 3) := by decide +kernel
theorem dX5_blocksRight_111 : decode cX5_blocksRight 111 = .ok (.iload_n 2, 1) := by decide +kernel
theorem dX5_blocksRight_112 : decode cX5_blocksRight 112 = .ok (.iaload, 1) := by decide +kernel
theorem dX5_blocksRight_113 : decode cX5_blocksRight 113 = .ok (.iastore, 1) := by decide +kernel
theorem dX5_blocksRight_114 : decode cX5_blocksRight 114 = .ok (.iinc 4 1, 3) := by decide +kernel
theorem dX5_blocksRight_117 : decode cX5_blocksRight 117 = .ok (.goto (-89), 3) := by decide +kernel
theorem dX5_blocksRight_120 : decode cX5_blocksRight 120 = .ok (.iinc 3 1, 3) := by decide +kernel
theorem dX5_blocksRight_123 : decode cX5_blocksRight 123 = .ok (.goto (-104), 3) := by decide +kernel
theorem dX5_blocksRight_126 : decode cX5_blocksRight 126 = .ok (.iload_n 1, 1) := by decide +kernel
theorem dX5_blocksRight_127 : decode cX5_blocksRight 127 = .ok (.ifCond .eq 17, 3) := by decide +kernel
theorem dX5_blocksRight_130 : decode cX5_blocksRight 130 = .ok (.aload_n 0, 1) := by decide +kernel
theorem dX5_blocksRight_131 : decode cX5_blocksRight 131 = .ok (.getfield 22, 3) := by decide +kernel
theorem dX5_blocksRight_134 : decode cX5_blocksRight 134 = .ok (.iload_n 2, 1) := by decide +kernel
theorem dX5_blocksRight_135 : decode cX5_blocksRight 135 = .ok (.iaload, 1) := by decide +kernel
theorem dX5_blocksRight_136 : decode cX5_blocksRight 136 = .ok (.iconst 2, 1) := by decide +kernel
theorem dX5_blocksRight_137 : decode cX5_blocksRight 137 = .ok (.if_icmp .ge 7, 3) := by decide +kernel
theorem dX5_blocksRight_140 : decode cX5_blocksRight 140 = .ok (.iconst 1, 1) := by decide +kernel
theorem dX5_blocksRight_141 : decode cX5_blocksRight 141 = .ok (.goto 4, 3) := by decide +kernel
theorem dX5_blocksRight_144 : decode cX5_blocksRight 144 = .ok (.iconst 0, 1) := by decide +kernel
theorem dX5_blocksRight_145 : decode cX5_blocksRight 145 = .ok (.istore_n 1, 1) := by decide +kernel
theorem dX5_blocksRight_146 : decode cX5_blocksRight 146 = .ok (.iinc 2 1, 3) := by decide +kernel
theorem dX5_blocksRight_149 : decode cX5_blocksRight 149 = .ok (.goto (-145), 3) := by decide +kernel
theorem dX5_blocksRight_152 : decode cX5_blocksRight 152 = .ok (.iload_n 1, 1) := by decide +kernel
theorem dX5_blocksRight_153 : decode cX5_blocksRight 153 = .ok (.ireturn, 1) := by decide +kernel
set_option maxRecDepth 20000 in
theorem ggX5_needsRight_X5_size : GoodIn wsX5_needsRight wsX5_size := goodIn_r _ [5, 6, 7, 4, 8] (by decide +kernel) (by decide +kernel)
set_option maxRecDepth 20000 in
theorem gX5_needsRight_X5_size : GoodIn wsX5_needsRight (va_wsS RX5 67 yX5_size wsX5_size) := goodIn_app (goodIn_of _ (by decide +kernel)) ggX5_needsRight_X5_size
theorem dX5_needsRight_0 : decode cX5_needsRight 0 = .ok (.iconst 1, 1) := by decide +kernel
theorem dX5_needsRight_1 : decode cX5_needsRight 1 = .ok (.istore_n 1, 1) := by decide +kernel
theorem dX5_needsRight_2 : decode cX5_needsRight 2 = .ok (.iconst 0, 1) := by decide +kernel
theorem dX5_needsRight_3 : decode cX5_needsRight 3 = .ok (.istore_n 2, 1) := by decide +kernel
theorem dX5_needsRight_4 : decode cX5_needsRight 4 = .ok (.iload_n 2, 1) := by decide +kernel
theorem dX5_needsRight_5 : decode cX5_needsRight 5 = .ok (.bipush 6, 2) := by decide +kernel
theorem dX5_needsRight_7 : decode cX5_needsRight 7 = .ok (.if_icmp .ge 119, 3) := by decide +kernel
theorem dX5_needsRight_10 : decode cX5_needsRight 10 = .ok (.aload_n 0, 1) := by decide +kernel
theorem dX5_needsRight_11 : decode cX5_needsRight 11 = .ok (.getfield 19, 3) := by decide +kernel
theorem dX5_needsRight_14 : decode cX5_needsRight 14 = .ok (.bipush 7, 2) := by decide +kernel
theorem dX5_needsRight_16 : decode cX5_needsRight 16 = .ok (.iload_n 2, 1) := by decide +kernel
theorem dX5_needsRight_17 : decode cX5_needsRight 17 = .ok (.imul, 1) := by decide +kernel
theorem dX5_needsRight_18 : decode cX5_needsRight 18 = .ok (.iconst 2, 1) := by decide +kernel
theorem dX5_needsRight_19 : decode cX5_needsRight 19 = .ok (.iadd, 1) := by decide +kernel
theorem dX5_needsRight_20 : decode cX5_needsRight 20 = .ok (.iaload, 1) := by decide +kernel
theorem dX5_needsRight_21 : decode cX5_needsRight 21 = .ok (.iconst 1, 1) := by decide +kernel
theorem dX5_needsRight_22 : decode cX5_needsRight 22 = .ok (.iadd, 1) := by decide +kernel
theorem dX5_needsRight_23 : decode cX5_needsRight 23 = .ok (.iconst 2, 1) := by decide +kernel
theorem dX5_needsRight_24 : decode cX5_needsRight 24 = .ok (.idiv, 1) := by decide +kernel
theorem dX5_needsRight_25 : decode cX5_needsRight 25 = .ok (.istore_n 3, 1) := by decide +kernel
theorem dX5_needsRight_26 : decode cX5_needsRight 26 = .ok (.iconst 0, 1) := by decide +kernel
theorem dX5_needsRight_27 : decode cX5_needsRight 27 = .ok (.istore 4, 2) := by decide +kernel
theorem dX5_needsRight_29 : decode cX5_needsRight 29 = .ok (.iconst 0, 1) := by decide +kernel
theorem dX5_needsRight_30 : decode cX5_needsRight 30 = .ok (.istore 5, 2) := by decide +kernel
theorem dX5_needsRight_32 : decode cX5_needsRight 32 = .ok (.iconst 0, 1) := by decide +kernel
theorem dX5_needsRight_33 : decode cX5_needsRight 33 = .ok (.istore 6, 2) := by decide +kernel
theorem dX5_needsRight_35 : decode cX5_needsRight 35 = .ok (.iload 6, 2) := by decide +kernel
theorem dX5_needsRight_37 : decode cX5_needsRight 37 = .ok (.iconst 4, 1) := by decide +kernel
theorem dX5_needsRight_38 : decode cX5_needsRight 38 = .ok (.if_icmp .ge 52, 3) := by decide +kernel
theorem dX5_needsRight_41 : decode cX5_needsRight 41 = .ok (.aload_n 0, 1) := by decide +kernel
theorem dX5_needsRight_42 : decode cX5_needsRight 42 = .ok (.getfield 19, 3) := by decide +kernel
theorem dX5_needsRight_45 : decode cX5_needsRight 45 = .ok (.bipush 7, 2) := by decide +kernel
theorem dX5_needsRight_47 : decode cX5_needsRight 47 = .ok (.iload_n 2, 1) := by decide +kernel
theorem dX5_needsRight_48 : decode cX5_needsRight 48 = .ok (.imul, 1) := by decide +kernel
theorem dX5_needsRight_49 : decode cX5_needsRight 49 = .ok (.iconst 3, 1) := by decide +kernel
theorem dX5_needsRight_50 : decode cX5_needsRight 50 = .ok (.iadd, 1) := by decide +kernel
theorem dX5_needsRight_51 : decode cX5_needsRight 51 = .ok (.iload 6, 2) := by decide +kernel
theorem dX5_needsRight_53 : decode cX5_needsRight 53 = .ok (.iadd, 1) := by decide +kernel
theorem dX5_needsRight_54 : decode cX5_needsRight 54 = .ok (.iaload, 1) := by decide +kernel
theorem dX5_needsRight_55 : decode cX5_needsRight 55 = .ok (.istore 7, 2) := by decide +kernel
theorem dX5_needsRight_57 : decode cX5_needsRight 57 = .ok (.iload 4, 2) := by decide +kernel
theorem dX5_needsRight_59 : decode cX5_needsRight 59 = .ok (.iload 7, 2) := by decide +kernel
theorem dX5_needsRight_61 : decode cX5_needsRight 61 = .ok (.invokestatic 67, 3) := by decide +kernel
theorem dX5_needsRight_64 : decode cX5_needsRight 64 = .ok (.iadd, 1) := by decide +kernel
theorem dX5_needsRight_65 : decode cX5_needsRight 65 = .ok (.istore 4, 2) := by decide +kernel
theorem dX5_needsRight_67 : decode cX5_needsRight 67 = .ok (.iload 7, 2) := by decide +kernel
theorem dX5_needsRight_69 : decode cX5_needsRight 69 = .ok (.ifCond .ne 8, 3) := by decide +kernel
theorem dX5_needsRight_72 : decode cX5_needsRight 72 = .ok (.iload 5, 2) := by decide +kernel
theorem dX5_needsRight_74 : decode cX5_needsRight 74 = .ok (.goto 8, 3) := by decide +kernel
theorem dX5_needsRight_77 : decode cX5_needsRight 77 = .ok (.iload 7, 2) := by decide +kernel
theorem dX5_needsRight_79 : decode cX5_needsRight 79 = .ok (.invokestatic 67, 3) := by decide +kernel
theorem dX5_needsRight_82 : decode cX5_needsRight 82 = .ok (.istore 5, 2) := by decide +kernel
theorem dX5_needsRight_84 : decode cX5_needsRight 84 = .ok (.iinc 6 1, 3) := by decide +kernel
theorem dX5_needsRight_87 : decode cX5_needsRight 87 = .ok (.goto (-52), 3) := by decide +kernel
theorem dX5_needsRight_90 : decode cX5_needsRight 90 = .ok (.iload_n 1, 1) := by decide +kernel
theorem dX5_needsRight_91 : decode cX5_needsRight 91 = .ok (.ifCond .eq 27, 3) := by decide +kernel
theorem dX5_needsRight_94 : decode cX5_needsRight 94 = .ok (.iload 4, 2) := by decide +kernel
theorem dX5_needsRight_96 : decode cX5_needsRight 96 = .ok (.iload_n 3, 1) := by decide +kernel
theorem dX5_needsRight_97 : decode cX5_needsRight 97 = .ok (.if_icmp .lt 21, 3) := by decide +kernel
theorem dX5_needsRight_100 : decode cX5_needsRight 100 = .ok (.iload 5, 2) := by decide +kernel
theorem dX5_needsRight_102 : decode cX5_needsRight 102 = .ok (.ifCond .eq 12, 3) := by decide +kernel
theorem dX5_needsRight_105 : decode cX5_needsRight 105 = .ok (.iload 4, 2) := by decide +kernel
theorem dX5_needsRight_107 : decode cX5_needsRight 107 = .ok (.iload 5, 2) := by decide +kernel
theorem dX5_needsRight_109 : decode cX5_needsRight 109 = .ok (.isub, 1) := by decide +kernel
theorem dX5_needsRight_110 : decode cX5_needsRight 110 = .ok (.iload_n 3, 1) := by decide +kernel
theorem dX5_needsRight_111 : decode cX5_needsRight 111 = .ok (.if_icmp .ge 7, 3) := by decide +kernel
theorem dX5_needsRight_114 : decode cX5_needsRight 114 = .ok (.iconst 1, 1) := by decide +kernel
theorem dX5_needsRight_115 : decode cX5_needsRight 115 = .ok (.goto 4, 3) := by decide +kernel
theorem dX5_needsRight_118 : decode cX5_needsRight 118 = .ok (.iconst 0, 1) := by decide +kernel
theorem dX5_needsRight_119 : decode cX5_needsRight 119 = .ok (.istore_n 1, 1) := by decide +kernel
theorem dX5_needsRight_120 : decode cX5_needsRight 120 = .ok (.iinc 2 1, 3) := by decide +kernel
theorem dX5_needsRight_123 : decode cX5_needsRight 123 = .ok (.goto (-119), 3) := by decide +kernel
theorem dX5_needsRight_126 : decode cX5_needsRight 126 = .ok (.iload_n 1, 1) := by decide +kernel
theorem dX5_needsRight_127 : decode cX5_needsRight 127 = .ok (.ireturn, 1) := by decide +kernel
theorem dX5_mapRight_0 : decode cX5_mapRight 0 = .ok (.iconst 0, 1) := by decide +kernel
theorem dX5_mapRight_1 : decode cX5_mapRight 1 = .ok (.istore_n 1, 1) := by decide +kernel
theorem dX5_mapRight_2 : decode cX5_mapRight 2 = .ok (.iconst 0, 1) := by decide +kernel
theorem dX5_mapRight_3 : decode cX5_mapRight 3 = .ok (.istore_n 2, 1) := by decide +kernel
theorem dX5_mapRight_4 : decode cX5_mapRight 4 = .ok (.iload_n 2, 1) := by decide +kernel
theorem dX5_mapRight_5 : decode cX5_mapRight 5 = .ok (.bipush 32, 2) := by decide +kernel
theorem dX5_mapRight_7 : decode cX5_mapRight 7 = .ok (.if_icmp .ge 28, 3) := by decide +kernel
theorem dX5_mapRight_10 : decode cX5_mapRight 10 = .ok (.aload_n 0, 1) := by decide +kernel
theorem dX5_mapRight_11 : decode cX5_mapRight 11 = .ok (.getfield 22, 3) := by decide +kernel
theorem dX5_mapRight_14 : decode cX5_mapRight 14 = .ok (.iload_n 2, 1) := by decide +kernel
theorem dX5_mapRight_15 : decode cX5_mapRight 15 = .ok (.iaload, 1) := by decide +kernel
theorem dX5_mapRight_16 : decode cX5_mapRight 16 = .ok (.ifCond .le 11, 3) := by decide +kernel
theorem dX5_mapRight_19 : decode cX5_mapRight 19 = .ok (.iload_n 1, 1) := by decide +kernel
theorem dX5_mapRight_20 : decode cX5_mapRight 20 = .ok (.iconst 1, 1) := by decide +kernel
theorem dX5_mapRight_21 : decode cX5_mapRight 21 = .ok (.iload_n 2, 1) := by decide +kernel
theorem dX5_mapRight_22 : decode cX5_mapRight 22 = .ok (.ishl, 1) := by decide +kernel
theorem dX5_mapRight_23 : decode cX5_mapRight 23 = .ok (.ior, 1) := by decide +kernel
theorem dX5_mapRight_24 : decode cX5_mapRight 24 = .ok (.goto 4, 3) := by decide +kernel
theorem dX5_mapRight_27 : decode cX5_mapRight 27 = .ok (.iload_n 1, 1) := by decide +kernel
theorem dX5_mapRight_28 : decode cX5_mapRight 28 = .ok (.istore_n 1, 1) := by decide +kernel
theorem dX5_mapRight_29 : decode cX5_mapRight 29 = .ok (.iinc 2 1, 3) := by decide +kernel
theorem dX5_mapRight_32 : decode cX5_mapRight 32 = .ok (.goto (-28), 3) := by decide +kernel
theorem dX5_mapRight_35 : decode cX5_mapRight 35 = .ok (.iload_n 1, 1) := by decide +kernel
theorem dX5_mapRight_36 : decode cX5_mapRight 36 = .ok (.aload_n 0, 1) := by decide +kernel
theorem dX5_mapRight_37 : decode cX5_mapRight 37 = .ok (.getfield 19, 3) := by decide +kernel
theorem dX5_mapRight_40 : decode cX5_mapRight 40 = .ok (.bipush 45, 2) := by decide +kernel
theorem dX5_mapRight_42 : decode cX5_mapRight 42 = .ok (.iaload, 1) := by decide +kernel
theorem dX5_mapRight_43 : decode cX5_mapRight 43 = .ok (.if_icmp .ne 7, 3) := by decide +kernel
theorem dX5_mapRight_46 : decode cX5_mapRight 46 = .ok (.iconst 1, 1) := by decide +kernel
theorem dX5_mapRight_47 : decode cX5_mapRight 47 = .ok (.goto 4, 3) := by decide +kernel
theorem dX5_mapRight_50 : decode cX5_mapRight 50 = .ok (.iconst 0, 1) := by decide +kernel
theorem dX5_mapRight_51 : decode cX5_mapRight 51 = .ok (.ireturn, 1) := by decide +kernel
set_option maxRecDepth 20000 in
theorem ggX5_quotasRight_X5_size : GoodIn wsX5_quotasRight wsX5_size := goodIn_r _ [5, 6, 7, 4, 8] (by decide +kernel) (by decide +kernel)
set_option maxRecDepth 20000 in
theorem gX5_quotasRight_X5_size : GoodIn wsX5_quotasRight (va_wsS RX5 67 yX5_size wsX5_size) := goodIn_app (goodIn_of _ (by decide +kernel)) ggX5_quotasRight_X5_size
set_option maxRecDepth 20000 in
theorem ggX5_quotasRight_X5_within : GoodIn wsX5_quotasRight wsX5_within := goodIn_r _ [11] (by decide +kernel) (by decide +kernel)
set_option maxRecDepth 20000 in
theorem gX5_quotasRight_X5_within : GoodIn wsX5_quotasRight (va_wsS RX5 38 yX5_within wsX5_within) := goodIn_app (goodIn_of _ (by decide +kernel)) ggX5_quotasRight_X5_within
theorem dX5_quotasRight_0 : decode cX5_quotasRight 0 = .ok (.iconst 1, 1) := by decide +kernel
theorem dX5_quotasRight_1 : decode cX5_quotasRight 1 = .ok (.istore_n 1, 1) := by decide +kernel
theorem dX5_quotasRight_2 : decode cX5_quotasRight 2 = .ok (.iconst 0, 1) := by decide +kernel
theorem dX5_quotasRight_3 : decode cX5_quotasRight 3 = .ok (.istore_n 2, 1) := by decide +kernel
theorem dX5_quotasRight_4 : decode cX5_quotasRight 4 = .ok (.iload_n 2, 1) := by decide +kernel
theorem dX5_quotasRight_5 : decode cX5_quotasRight 5 = .ok (.iconst 3, 1) := by decide +kernel
theorem dX5_quotasRight_6 : decode cX5_quotasRight 6 = .ok (.if_icmp .ge 124, 3) := by decide +kernel
theorem dX5_quotasRight_9 : decode cX5_quotasRight 9 = .ok (.iconst 0, 1) := by decide +kernel
theorem dX5_quotasRight_10 : decode cX5_quotasRight 10 = .ok (.istore_n 3, 1) := by decide +kernel
theorem dX5_quotasRight_11 : decode cX5_quotasRight 11 = .ok (.iconst 0, 1) := by decide +kernel
theorem dX5_quotasRight_12 : decode cX5_quotasRight 12 = .ok (.istore 4, 2) := by decide +kernel
theorem dX5_quotasRight_14 : decode cX5_quotasRight 14 = .ok (.iload 4, 2) := by decide +kernel
theorem dX5_quotasRight_16 : decode cX5_quotasRight 16 = .ok (.bipush 6, 2) := by decide +kernel
theorem dX5_quotasRight_18 : decode cX5_quotasRight 18 = .ok (.if_icmp .ge 78, 3) := by decide +kernel
theorem dX5_quotasRight_21 : decode cX5_quotasRight 21 = .ok (.iconst 0, 1) := by decide +kernel
theorem dX5_quotasRight_22 : decode cX5_quotasRight 22 = .ok (.istore 5, 2) := by decide +kernel
theorem dX5_quotasRight_24 : decode cX5_quotasRight 24 = .ok (.iload 5, 2) := by decide +kernel
theorem dX5_quotasRight_26 : decode cX5_quotasRight 26 = .ok (.iconst 4, 1) := by decide +kernel
theorem dX5_quotasRight_27 : decode cX5_quotasRight 27 = .ok (.if_icmp .ge 63, 3) := by decide +kernel
theorem dX5_quotasRight_30 : decode cX5_quotasRight 30 = .ok (.aload_n 0, 1) := by decide +kernel
theorem dX5_quotasRight_31 : decode cX5_quotasRight 31 = .ok (.getfield 19, 3) := by decide +kernel
theorem dX5_quotasRight_34 : decode cX5_quotasRight 34 = .ok (.bipush 7, 2) := by decide +kernel
theorem dX5_quotasRight_36 : decode cX5_quotasRight 36 = .ok (.iload 4, 2) := by decide +kernel
theorem dX5_quotasRight_38 : decode cX5_quotasRight 38 = .ok (.imul, 1) := by decide +kernel
theorem dX5_quotasRight_39 : decode cX5_quotasRight 39 = .ok (.iaload, 1) := by decide +kernel
theorem dX5_quotasRight_40 : decode cX5_quotasRight 40 = .ok (.ifCond .eq 42, 3) := by decide +kernel
theorem dX5_quotasRight_43 : decode cX5_quotasRight 43 = .ok (.aload_n 0, 1) := by decide +kernel
theorem dX5_quotasRight_44 : decode cX5_quotasRight 44 = .ok (.getfield 19, 3) := by decide +kernel
theorem dX5_quotasRight_47 : decode cX5_quotasRight 47 = .ok (.bipush 7, 2) := by decide +kernel
theorem dX5_quotasRight_49 : decode cX5_quotasRight 49 = .ok (.iload 4, 2) := by decide +kernel
theorem dX5_quotasRight_51 : decode cX5_quotasRight 51 = .ok (.imul, 1) := by decide +kernel
theorem dX5_quotasRight_52 : decode cX5_quotasRight 52 = .ok (.iconst 1, 1) := by decide +kernel
theorem dX5_quotasRight_53 : decode cX5_quotasRight 53 = .ok (.iadd, 1) := by decide +kernel
theorem dX5_quotasRight_54 : decode cX5_quotasRight 54 = .ok (.iaload, 1) := by decide +kernel
theorem dX5_quotasRight_55 : decode cX5_quotasRight 55 = .ok (.iload_n 2, 1) := by decide +kernel
theorem dX5_quotasRight_56 : decode cX5_quotasRight 56 = .ok (.if_icmp .ne 26, 3) := by decide +kernel
theorem dX5_quotasRight_59 : decode cX5_quotasRight 59 = .ok (.iload_n 3, 1) := by decide +kernel
theorem dX5_quotasRight_60 : decode cX5_quotasRight 60 = .ok (.aload_n 0, 1) := by decide +kernel
theorem dX5_quotasRight_61 : decode cX5_quotasRight 61 = .ok (.getfield 19, 3) := by decide +kernel
theorem dX5_quotasRight_64 : decode cX5_quotasRight 64 = .ok (.bipush 7, 2) := by decide +kernel
theorem dX5_quotasRight_66 : decode cX5_quotasRight 66 = .ok (.iload 4, 2) := by decide +kernel
theorem dX5_quotasRight_68 : decode cX5_quotasRight 68 = .ok (.imul, 1) := by decide +kernel
theorem dX5_quotasRight_69 : decode cX5_quotasRight 69 = .ok (.iconst 3, 1) := by decide +kernel
theorem dX5_quotasRight_70 : decode cX5_quotasRight 70 = .ok (.iadd, 1) := by decide +kernel
theorem dX5_quotasRight_71 : decode cX5_quotasRight 71 = .ok (.iload 5, 2) := by decide +kernel
theorem dX5_quotasRight_73 : decode cX5_quotasRight 73 = .ok (.iadd, 1) := by decide +kernel
theorem dX5_quotasRight_74 : decode cX5_quotasRight 74 = .ok (.iaload, 1) := by decide +kernel
theorem dX5_quotasRight_75 : decode cX5_quotasRight 75 = .ok (.invokestatic 67, 3) := by decide +kernel
theorem dX5_quotasRight_78 : decode cX5_quotasRight 78 = .ok (.iadd, 1) := by decide +kernel
theorem dX5_quotasRight_79 : decode cX5_quotasRight 79 = .ok (.goto 4, 3) := by decide +kernel
theorem dX5_quotasRight_82 : decode cX5_quotasRight 82 = .ok (.iload_n 3, 1) := by decide +kernel
theorem dX5_quotasRight_83 : decode cX5_quotasRight 83 = .ok (.istore_n 3, 1) := by decide +kernel
theorem dX5_quotasRight_84 : decode cX5_quotasRight 84 = .ok (.iinc 5 1, 3) := by decide +kernel
theorem dX5_quotasRight_87 : decode cX5_quotasRight 87 = .ok (.goto (-63), 3) := by decide +kernel
theorem dX5_quotasRight_90 : decode cX5_quotasRight 90 = .ok (.iinc 4 1, 3) := by decide +kernel
theorem dX5_quotasRight_93 : decode cX5_quotasRight 93 = .ok (.goto (-79), 3) := by decide +kernel
theorem dX5_quotasRight_96 : decode cX5_quotasRight 96 = .ok (.iload_n 1, 1) := by decide +kernel
theorem dX5_quotasRight_97 : decode cX5_quotasRight 97 = .ok (.ifCond .eq 25, 3) := by decide +kernel
theorem dX5_quotasRight_100 : decode cX5_quotasRight 100 = .ok (.aload_n 0, 1) := by decide +kernel
theorem dX5_quotasRight_101 : decode cX5_quotasRight 101 = .ok (.getfield 19, 3) := by decide +kernel
theorem dX5_quotasRight_104 : decode cX5_quotasRight 104 = .ok (.bipush 42, 2) := by decide +kernel
theorem dX5_quotasRight_106 : decode cX5_quotasRight 106 = .ok (.iload_n 2, 1) := by decide +kernel
theorem dX5_quotasRight_107 : decode cX5_quotasRight 107 = .ok (.iadd, 1) := by decide +kernel
theorem dX5_quotasRight_108 : decode cX5_quotasRight 108 = .ok (.iaload, 1) := by decide +kernel
theorem dX5_quotasRight_109 : decode cX5_quotasRight 109 = .ok (.iload_n 3, 1) := by decide +kernel
theorem dX5_quotasRight_110 : decode cX5_quotasRight 110 = .ok (.bipush 32, 2) := by decide +kernel
theorem dX5_quotasRight_112 : decode cX5_quotasRight 112 = .ok (.invokestatic 38, 3) := by decide +kernel
theorem dX5_quotasRight_115 : decode cX5_quotasRight 115 = .ok (.ifCond .eq 7, 3) := by decide +kernel
theorem dX5_quotasRight_118 : decode cX5_quotasRight 118 = .ok (.iconst 1, 1) := by decide +kernel
theorem dX5_quotasRight_119 : decode cX5_quotasRight 119 = .ok (.goto 4, 3) := by decide +kernel
theorem dX5_quotasRight_122 : decode cX5_quotasRight 122 = .ok (.iconst 0, 1) := by decide +kernel
theorem dX5_quotasRight_123 : decode cX5_quotasRight 123 = .ok (.istore_n 1, 1) := by decide +kernel
theorem dX5_quotasRight_124 : decode cX5_quotasRight 124 = .ok (.iinc 2 1, 3) := by decide +kernel
theorem dX5_quotasRight_127 : decode cX5_quotasRight 127 = .ok (.goto (-123), 3) := by decide +kernel
theorem dX5_quotasRight_130 : decode cX5_quotasRight 130 = .ok (.iload_n 1, 1) := by decide +kernel
theorem dX5_quotasRight_131 : decode cX5_quotasRight 131 = .ok (.ireturn, 1) := by decide +kernel
set_option maxRecDepth 20000 in
theorem ggX5_wordsRight_X5_size : GoodIn wsX5_wordsRight wsX5_size := goodIn_r _ [6, 7, 8, 5, 9] (by decide +kernel) (by decide +kernel)
set_option maxRecDepth 20000 in
theorem gX5_wordsRight_X5_size : GoodIn wsX5_wordsRight (va_wsS RX5 67 yX5_size wsX5_size) := goodIn_app (goodIn_of _ (by decide +kernel)) ggX5_wordsRight_X5_size
set_option maxRecDepth 20000 in
theorem ggX5_wordsRight_X5_start : GoodIn wsX5_wordsRight wsX5_start := goodIn_r _ [12] (by decide +kernel) (by decide +kernel)
set_option maxRecDepth 20000 in
theorem gX5_wordsRight_X5_start : GoodIn wsX5_wordsRight (va_wsS RX5 54 yX5_start wsX5_start) := goodIn_app (goodIn_of _ (by decide +kernel)) ggX5_wordsRight_X5_start
theorem dX5_wordsRight_0 : decode cX5_wordsRight 0 = .ok (.iconst 0, 1) := by decide +kernel
theorem dX5_wordsRight_1 : decode cX5_wordsRight 1 = .ok (.istore_n 1, 1) := by decide +kernel
theorem dX5_wordsRight_2 : decode cX5_wordsRight 2 = .ok (.iload_n 1, 1) := by decide +kernel
theorem dX5_wordsRight_3 : decode cX5_wordsRight 3 = .ok (.bipush 64, 2) := by decide +kernel
theorem dX5_wordsRight_5 : decode cX5_wordsRight 5 = .ok (.if_icmp .ge 16, 3) := by decide +kernel
theorem dX5_wordsRight_8 : decode cX5_wordsRight 8 = .ok (.aload_n 0, 1) := by decide +kernel
theorem dX5_wordsRight_9 : decode cX5_wordsRight 9 = .ok (.getfield 25, 3) := by decide +kernel
theorem dX5_wordsRight_12 : decode cX5_wordsRight 12 = .ok (.iload_n 1, 1) := by decide +kernel
theorem dX5_wordsRight_13 : decode cX5_wordsRight 13 = .ok (.iconst 0, 1) := by decide +kernel
theorem dX5_wordsRight_14 : decode cX5_wordsRight 14 = .ok (.bastore, 1) := by decide +kernel
theorem dX5_wordsRight_15 : decode cX5_wordsRight 15 = .ok (.iinc 1 1, 3) := by decide +kernel
theorem dX5_wordsRight_18 : decode cX5_wordsRight 18 = .ok (.goto (-16), 3) := by decide +kernel
theorem dX5_wordsRight_21 : decode cX5_wordsRight 21 = .ok (.iconst 0, 1) := by decide +kernel
theorem dX5_wordsRight_22 : decode cX5_wordsRight 22 = .ok (.istore_n 1, 1) := by decide +kernel
theorem dX5_wordsRight_23 : decode cX5_wordsRight 23 = .ok (.iload_n 1, 1) := by decide +kernel
theorem dX5_wordsRight_24 : decode cX5_wordsRight 24 = .ok (.bipush 6, 2) := by decide +kernel
theorem dX5_wordsRight_26 : decode cX5_wordsRight 26 = .ok (.if_icmp .ge 93, 3) := by decide +kernel
theorem dX5_wordsRight_29 : decode cX5_wordsRight 29 = .ok (.aload_n 0, 1) := by decide +kernel
theorem dX5_wordsRight_30 : decode cX5_wordsRight 30 = .ok (.getfield 19, 3) := by decide +kernel
theorem dX5_wordsRight_33 : decode cX5_wordsRight 33 = .ok (.bipush 7, 2) := by decide +kernel
theorem dX5_wordsRight_35 : decode cX5_wordsRight 35 = .ok (.iload_n 1, 1) := by decide +kernel
theorem dX5_wordsRight_36 : decode cX5_wordsRight 36 = .ok (.imul, 1) := by decide +kernel
theorem dX5_wordsRight_37 : decode cX5_wordsRight 37 = .ok (.iconst 2, 1) := by decide +kernel
theorem dX5_wordsRight_38 : decode cX5_wordsRight 38 = .ok (.iadd, 1) := by decide +kernel
theorem dX5_wordsRight_39 : decode cX5_wordsRight 39 = .ok (.iaload, 1) := by decide +kernel
theorem dX5_wordsRight_40 : decode cX5_wordsRight 40 = .ok (.istore_n 2, 1) := by decide +kernel
theorem dX5_wordsRight_41 : decode cX5_wordsRight 41 = .ok (.iconst 0, 1) := by decide +kernel
theorem dX5_wordsRight_42 : decode cX5_wordsRight 42 = .ok (.istore_n 3, 1) := by decide +kernel
theorem dX5_wordsRight_43 : decode cX5_wordsRight 43 = .ok (.iload_n 3, 1) := by decide +kernel
theorem dX5_wordsRight_44 : decode cX5_wordsRight 44 = .ok (.iconst 4, 1) := by decide +kernel
theorem dX5_wordsRight_45 : decode cX5_wordsRight 45 = .ok (.if_icmp .ge 68, 3) := by decide +kernel
theorem dX5_wordsRight_48 : decode cX5_wordsRight 48 = .ok (.aload_n 0, 1) := by decide +kernel
theorem dX5_wordsRight_49 : decode cX5_wordsRight 49 = .ok (.getfield 19, 3) := by decide +kernel
theorem dX5_wordsRight_52 : decode cX5_wordsRight 52 = .ok (.bipush 7, 2) := by decide +kernel
theorem dX5_wordsRight_54 : decode cX5_wordsRight 54 = .ok (.iload_n 1, 1) := by decide +kernel
theorem dX5_wordsRight_55 : decode cX5_wordsRight 55 = .ok (.imul, 1) := by decide +kernel
theorem dX5_wordsRight_56 : decode cX5_wordsRight 56 = .ok (.iconst 3, 1) := by decide +kernel
theorem dX5_wordsRight_57 : decode cX5_wordsRight 57 = .ok (.iadd, 1) := by decide +kernel
theorem dX5_wordsRight_58 : decode cX5_wordsRight 58 = .ok (.iload_n 3, 1) := by decide +kernel
theorem dX5_wordsRight_59 : decode cX5_wordsRight 59 = .ok (.iadd, 1) := by decide +kernel
theorem dX5_wordsRight_60 : decode cX5_wordsRight 60 = .ok (.iaload, 1) := by decide +kernel
theorem dX5_wordsRight_61 : decode cX5_wordsRight 61 = .ok (.istore 4, 2) := by decide +kernel
theorem dX5_wordsRight_63 : decode cX5_wordsRight 63 = .ok (.iconst 0, 1) := by decide +kernel
theorem dX5_wordsRight_64 : decode cX5_wordsRight 64 = .ok (.istore 5, 2) := by decide +kernel
theorem dX5_wordsRight_66 : decode cX5_wordsRight 66 = .ok (.iload 5, 2) := by decide +kernel
theorem dX5_wordsRight_68 : decode cX5_wordsRight 68 = .ok (.iconst 2, 1) := by decide +kernel
theorem dX5_wordsRight_69 : decode cX5_wordsRight 69 = .ok (.iload 4, 2) := by decide +kernel
theorem dX5_wordsRight_71 : decode cX5_wordsRight 71 = .ok (.invokestatic 67, 3) := by decide +kernel
theorem dX5_wordsRight_74 : decode cX5_wordsRight 74 = .ok (.imul, 1) := by decide +kernel
theorem dX5_wordsRight_75 : decode cX5_wordsRight 75 = .ok (.if_icmp .ge 32, 3) := by decide +kernel
theorem dX5_wordsRight_78 : decode cX5_wordsRight 78 = .ok (.iload_n 2, 1) := by decide +kernel
theorem dX5_wordsRight_79 : decode cX5_wordsRight 79 = .ok (.ifCond .le 28, 3) := by decide +kernel
theorem dX5_wordsRight_82 : decode cX5_wordsRight 82 = .ok (.aload_n 0, 1) := by decide +kernel
theorem dX5_wordsRight_83 : decode cX5_wordsRight 83 = .ok (.getfield 25, 3) := by decide +kernel
theorem dX5_wordsRight_86 : decode cX5_wordsRight 86 = .ok (.iconst 2, 1) := by decide +kernel
theorem dX5_wordsRight_87 : decode cX5_wordsRight 87 = .ok (.iload 4, 2) := by decide +kernel
theorem dX5_wordsRight_89 : decode cX5_wordsRight 89 = .ok (.invokestatic 54, 3) := by decide +kernel
theorem dX5_wordsRight_92 : decode cX5_wordsRight 92 = .ok (.imul, 1) := by decide +kernel
theorem dX5_wordsRight_93 : decode cX5_wordsRight 93 = .ok (.iload 5, 2) := by decide +kernel
theorem dX5_wordsRight_95 : decode cX5_wordsRight 95 = .ok (.iadd, 1) := by decide +kernel
theorem dX5_wordsRight_96 : decode cX5_wordsRight 96 = .ok (.iconst 1, 1) := by decide +kernel
theorem dX5_wordsRight_97 : decode cX5_wordsRight 97 = .ok (.bastore, 1) := by decide +kernel
theorem dX5_wordsRight_98 : decode cX5_wordsRight 98 = .ok (.iinc 2 (-1), 3) := by decide +kernel
theorem dX5_wordsRight_101 : decode cX5_wordsRight 101 = .ok (.iinc 5 1, 3) := by decide +kernel
theorem dX5_wordsRight_104 : decode cX5_wordsRight 104 = .ok (.goto (-38), 3) := by decide +kernel
theorem dX5_wordsRight_107 : decode cX5_wordsRight 107 = .ok (.iinc 3 1, 3) := by decide +kernel
theorem dX5_wordsRight_110 : decode cX5_wordsRight 110 = .ok (.goto (-67), 3) := by decide +kernel
theorem dX5_wordsRight_113 : decode cX5_wordsRight 113 = .ok (.iinc 1 1, 3) := by decide +kernel
theorem dX5_wordsRight_116 : decode cX5_wordsRight 116 = .ok (.goto (-93), 3) := by decide +kernel
theorem dX5_wordsRight_119 : decode cX5_wordsRight 119 = .ok (.iconst 1, 1) := by decide +kernel
theorem dX5_wordsRight_120 : decode cX5_wordsRight 120 = .ok (.istore_n 1, 1) := by decide +kernel
theorem dX5_wordsRight_121 : decode cX5_wordsRight 121 = .ok (.iconst 0, 1) := by decide +kernel
theorem dX5_wordsRight_122 : decode cX5_wordsRight 122 = .ok (.istore_n 2, 1) := by decide +kernel
theorem dX5_wordsRight_123 : decode cX5_wordsRight 123 = .ok (.iload_n 2, 1) := by decide +kernel
theorem dX5_wordsRight_124 : decode cX5_wordsRight 124 = .ok (.bipush 64, 2) := by decide +kernel
theorem dX5_wordsRight_126 : decode cX5_wordsRight 126 = .ok (.if_icmp .ge 40, 3) := by decide +kernel
theorem dX5_wordsRight_129 : decode cX5_wordsRight 129 = .ok (.iload_n 1, 1) := by decide +kernel
theorem dX5_wordsRight_130 : decode cX5_wordsRight 130 = .ok (.ifCond .eq 28, 3) := by decide +kernel
theorem dX5_wordsRight_133 : decode cX5_wordsRight 133 = .ok (.aload_n 0, 1) := by decide +kernel
theorem dX5_wordsRight_134 : decode cX5_wordsRight 134 = .ok (.getfield 25, 3) := by decide +kernel
theorem dX5_wordsRight_137 : decode cX5_wordsRight 137 = .ok (.iload_n 2, 1) := by decide +kernel
theorem dX5_wordsRight_138 : decode cX5_wordsRight 138 = .ok (.baload, 1) := by decide +kernel
theorem dX5_wordsRight_139 : decode cX5_wordsRight 139 = .ok (.ifCond .ne 15, 3) := by decide +kernel
theorem dX5_wordsRight_142 : decode cX5_wordsRight 142 = .ok (.aload_n 0, 1) := by decide +kernel
theorem dX5_wordsRight_143 : decode cX5_wordsRight 143 = .ok (.getfield 19, 3) := by decide +kernel
theorem dX5_wordsRight_146 : decode cX5_wordsRight 146 = .ok (.bipush 46, 2) := by decide +kernel
theorem dX5_wordsRight_148 : decode cX5_wordsRight 148 = .ok (.iload_n 2, 1) := by decide +kernel
theorem dX5_wordsRight_149 : decode cX5_wordsRight 149 = .ok (.iadd, 1) := by decide +kernel
theorem dX5_wordsRight_150 : decode cX5_wordsRight 150 = .ok (.iaload, 1) := by decide +kernel
theorem dX5_wordsRight_151 : decode cX5_wordsRight 151 = .ok (.ifCond .ne 7, 3) := by decide +kernel
theorem dX5_wordsRight_154 : decode cX5_wordsRight 154 = .ok (.iconst 1, 1) := by decide +kernel
theorem dX5_wordsRight_155 : decode cX5_wordsRight 155 = .ok (.goto 4, 3) := by decide +kernel
theorem dX5_wordsRight_158 : decode cX5_wordsRight 158 = .ok (.iconst 0, 1) := by decide +kernel
theorem dX5_wordsRight_159 : decode cX5_wordsRight 159 = .ok (.istore_n 1, 1) := by decide +kernel
theorem dX5_wordsRight_160 : decode cX5_wordsRight 160 = .ok (.iinc 2 1, 3) := by decide +kernel
theorem dX5_wordsRight_163 : decode cX5_wordsRight 163 = .ok (.goto (-40), 3) := by decide +kernel
theorem dX5_wordsRight_166 : decode cX5_wordsRight 166 = .ok (.iload_n 1, 1) := by decide +kernel
theorem dX5_wordsRight_167 : decode cX5_wordsRight 167 = .ok (.ireturn, 1) := by decide +kernel
set_option maxRecDepth 20000 in
theorem ggX5_judge_X5_fetch : GoodIn wsX5_judge wsX5_fetch := goodIn_r _ [5, 6, 7, 8, 9, 10, 4, 11, 12, 13, 14, 61, 62, 63, 64, 65, 66, 67, 68, 69, 70, 71, 72] (by decide +kernel) (by decide +kernel)
set_option maxRecDepth 20000 in
theorem gX5_judge_X5_fetch : GoodIn wsX5_judge (wsV RX5 135 RX5 yX5_fetch wsX5_fetch) := goodIn_app (goodIn_of _ (by decide +kernel)) ggX5_judge_X5_fetch
set_option maxRecDepth 20000 in
theorem ggX5_judge_X5_slotsRight : GoodIn wsX5_judge wsX5_slotsRight := goodIn_r _ [18, 6, 12, 13, 4, 14, 61, 62, 63, 64, 65, 66, 67, 68, 69, 70, 71, 72] (by decide +kernel) (by decide +kernel)
set_option maxRecDepth 20000 in
theorem gX5_judge_X5_slotsRight : GoodIn wsX5_judge (wsV RX5 138 RX5 yX5_slotsRight wsX5_slotsRight) := goodIn_app (goodIn_of _ (by decide +kernel)) ggX5_judge_X5_slotsRight
set_option maxRecDepth 20000 in
theorem ggX5_judge_X5_namesRight : GoodIn wsX5_judge wsX5_namesRight := goodIn_r _ [22, 6, 61, 62, 63, 64, 65, 66, 67, 68, 69, 70, 71, 72] (by decide +kernel) (by decide +kernel)
set_option maxRecDepth 20000 in
theorem gX5_judge_X5_namesRight : GoodIn wsX5_judge (wsV RX5 141 RX5 yX5_namesRight wsX5_namesRight) := goodIn_app (goodIn_of _ (by decide +kernel)) ggX5_judge_X5_namesRight
set_option maxRecDepth 20000 in
theorem ggX5_judge_X5_extentsRight : GoodIn wsX5_judge wsX5_extentsRight := goodIn_r _ [26, 6, 27, 28, 4, 29, 12, 13, 14, 30, 31, 32, 33, 34, 35, 61, 62, 63, 64, 65, 66, 67, 68, 69, 70, 71, 72] (by decide +kernel) (by decide +kernel)
set_option maxRecDepth 20000 in
theorem gX5_judge_X5_extentsRight : GoodIn wsX5_judge (wsV RX5 144 RX5 yX5_extentsRight wsX5_extentsRight) := goodIn_app (goodIn_of _ (by decide +kernel)) ggX5_judge_X5_extentsRight
set_option maxRecDepth 20000 in
theorem ggX5_judge_X5_blocksRight : GoodIn wsX5_judge wsX5_blocksRight := goodIn_r _ [39, 40, 6, 30, 31, 4, 32, 41, 42, 43, 33, 34, 35, 61, 62, 63, 64, 65, 66, 67, 68, 69, 70, 71, 72] (by decide +kernel) (by decide +kernel)
set_option maxRecDepth 20000 in
theorem gX5_judge_X5_blocksRight : GoodIn wsX5_judge (wsV RX5 147 RX5 yX5_blocksRight wsX5_blocksRight) := goodIn_app (goodIn_of _ (by decide +kernel)) ggX5_judge_X5_blocksRight
set_option maxRecDepth 20000 in
theorem ggX5_judge_X5_needsRight : GoodIn wsX5_judge wsX5_needsRight := goodIn_r _ [47, 6, 41, 42, 4, 43, 33, 34, 35, 61, 62, 63, 64, 65, 66, 67, 68, 69, 70, 71, 72] (by decide +kernel) (by decide +kernel)
set_option maxRecDepth 20000 in
theorem gX5_judge_X5_needsRight : GoodIn wsX5_judge (wsV RX5 150 RX5 yX5_needsRight wsX5_needsRight) := goodIn_app (goodIn_of _ (by decide +kernel)) ggX5_judge_X5_needsRight
set_option maxRecDepth 20000 in
theorem ggX5_judge_X5_mapRight : GoodIn wsX5_judge wsX5_mapRight := goodIn_r _ [51, 40, 6, 61, 62, 63, 64, 65, 66, 67, 68, 69, 70, 71, 72] (by decide +kernel) (by decide +kernel)
set_option maxRecDepth 20000 in
theorem gX5_judge_X5_mapRight : GoodIn wsX5_judge (wsV RX5 153 RX5 yX5_mapRight wsX5_mapRight) := goodIn_app (goodIn_of _ (by decide +kernel)) ggX5_judge_X5_mapRight
set_option maxRecDepth 20000 in
theorem ggX5_judge_X5_quotasRight : GoodIn wsX5_judge wsX5_quotasRight := goodIn_r _ [55, 6, 41, 42, 4, 43, 33, 34, 35, 12, 13, 14, 61, 62, 63, 64, 65, 66, 67, 68, 69, 70, 71, 72] (by decide +kernel) (by decide +kernel)
set_option maxRecDepth 20000 in
theorem gX5_judge_X5_quotasRight : GoodIn wsX5_judge (wsV RX5 156 RX5 yX5_quotasRight wsX5_quotasRight) := goodIn_app (goodIn_of _ (by decide +kernel)) ggX5_judge_X5_quotasRight
set_option maxRecDepth 20000 in
theorem ggX5_judge_X5_wordsRight : GoodIn wsX5_judge wsX5_wordsRight := goodIn_r _ [59, 60, 6, 41, 42, 4, 43, 33, 34, 35, 30, 31, 32, 61, 62, 63, 64, 65, 66, 67, 68, 69, 70, 71, 72] (by decide +kernel) (by decide +kernel)
set_option maxRecDepth 20000 in
theorem gX5_judge_X5_wordsRight : GoodIn wsX5_judge (wsV RX5 159 RX5 yX5_wordsRight wsX5_wordsRight) := goodIn_app (goodIn_of _ (by decide +kernel)) ggX5_judge_X5_wordsRight
theorem dX5_judge_0 : decode cX5_judge 0 = .ok (.aload_n 0, 1) := by decide +kernel
theorem dX5_judge_1 : decode cX5_judge 1 = .ok (.invokevirtual 135, 3) := by decide +kernel
theorem dX5_judge_4 : decode cX5_judge 4 = .ok (.aload_n 0, 1) := by decide +kernel
theorem dX5_judge_5 : decode cX5_judge 5 = .ok (.invokevirtual 138, 3) := by decide +kernel
theorem dX5_judge_8 : decode cX5_judge 8 = .ok (.ifCond .ne 5, 3) := by decide +kernel
theorem dX5_judge_11 : decode cX5_judge 11 = .ok (.iconst 1, 1) := by decide +kernel
theorem dX5_judge_12 : decode cX5_judge 12 = .ok (.ireturn, 1) := by decide +kernel
theorem dX5_judge_13 : decode cX5_judge 13 = .ok (.aload_n 0, 1) := by decide +kernel
theorem dX5_judge_14 : decode cX5_judge 14 = .ok (.invokevirtual 141, 3) := by decide +kernel
theorem dX5_judge_17 : decode cX5_judge 17 = .ok (.ifCond .ne 5, 3) := by decide +kernel
theorem dX5_judge_20 : decode cX5_judge 20 = .ok (.iconst 2, 1) := by decide +kernel
theorem dX5_judge_21 : decode cX5_judge 21 = .ok (.ireturn, 1) := by decide +kernel
theorem dX5_judge_22 : decode cX5_judge 22 = .ok (.aload_n 0, 1) := by decide +kernel
theorem dX5_judge_23 : decode cX5_judge 23 = .ok (.invokevirtual 144, 3) := by decide +kernel
theorem dX5_judge_26 : decode cX5_judge 26 = .ok (.ifCond .ne 5, 3) := by decide +kernel
theorem dX5_judge_29 : decode cX5_judge 29 = .ok (.iconst 3, 1) := by decide +kernel
theorem dX5_judge_30 : decode cX5_judge 30 = .ok (.ireturn, 1) := by decide +kernel
theorem dX5_judge_31 : decode cX5_judge 31 = .ok (.aload_n 0, 1) := by decide +kernel
theorem dX5_judge_32 : decode cX5_judge 32 = .ok (.invokevirtual 147, 3) := by decide +kernel
theorem dX5_judge_35 : decode cX5_judge 35 = .ok (.ifCond .ne 5, 3) := by decide +kernel
theorem dX5_judge_38 : decode cX5_judge 38 = .ok (.iconst 4, 1) := by decide +kernel
theorem dX5_judge_39 : decode cX5_judge 39 = .ok (.ireturn, 1) := by decide +kernel
theorem dX5_judge_40 : decode cX5_judge 40 = .ok (.aload_n 0, 1) := by decide +kernel
theorem dX5_judge_41 : decode cX5_judge 41 = .ok (.invokevirtual 150, 3) := by decide +kernel
theorem dX5_judge_44 : decode cX5_judge 44 = .ok (.ifCond .ne 5, 3) := by decide +kernel
theorem dX5_judge_47 : decode cX5_judge 47 = .ok (.iconst 5, 1) := by decide +kernel
theorem dX5_judge_48 : decode cX5_judge 48 = .ok (.ireturn, 1) := by decide +kernel
theorem dX5_judge_49 : decode cX5_judge 49 = .ok (.aload_n 0, 1) := by decide +kernel
theorem dX5_judge_50 : decode cX5_judge 50 = .ok (.invokevirtual 153, 3) := by decide +kernel
theorem dX5_judge_53 : decode cX5_judge 53 = .ok (.ifCond .ne 8, 3) := by decide +kernel
theorem dX5_judge_56 : decode cX5_judge 56 = .ok (.bipush 6, 2) := by decide +kernel
theorem dX5_judge_58 : decode cX5_judge 58 = .ok (.goto 28, 3) := by decide +kernel
theorem dX5_judge_61 : decode cX5_judge 61 = .ok (.aload_n 0, 1) := by decide +kernel
theorem dX5_judge_62 : decode cX5_judge 62 = .ok (.invokevirtual 156, 3) := by decide +kernel
theorem dX5_judge_65 : decode cX5_judge 65 = .ok (.ifCond .ne 8, 3) := by decide +kernel
theorem dX5_judge_68 : decode cX5_judge 68 = .ok (.bipush 7, 2) := by decide +kernel
theorem dX5_judge_70 : decode cX5_judge 70 = .ok (.goto 16, 3) := by decide +kernel
theorem dX5_judge_73 : decode cX5_judge 73 = .ok (.aload_n 0, 1) := by decide +kernel
theorem dX5_judge_74 : decode cX5_judge 74 = .ok (.invokevirtual 159, 3) := by decide +kernel
theorem dX5_judge_77 : decode cX5_judge 77 = .ok (.ifCond .ne 8, 3) := by decide +kernel
theorem dX5_judge_80 : decode cX5_judge 80 = .ok (.bipush 8, 2) := by decide +kernel
theorem dX5_judge_82 : decode cX5_judge 82 = .ok (.goto 4, 3) := by decide +kernel
theorem dX5_judge_85 : decode cX5_judge 85 = .ok (.iconst 0, 1) := by decide +kernel
theorem dX5_judge_86 : decode cX5_judge 86 = .ok (.ireturn, 1) := by decide +kernel
set_option maxRecDepth 20000 in
theorem ggX5_mount_X5_judge : GoodIn wsX5_mount wsX5_judge := goodIn_r _ [9, 10, 11, 12, 8, 13, 3, 2, 14, 15, 16, 17, 18, 19, 20, 21, 22, 23, 24, 25, 26, 27, 28, 29, 30, 31, 32, 33, 34, 35, 36, 37, 38, 39, 40, 41, 42, 43, 44, 45, 46, 47, 48, 49, 50, 51, 52, 53, 54, 55, 56, 57, 58, 59, 60, 61, 62, 63, 64, 65, 66, 67, 68, 69, 70, 71, 72, 73, 74, 75, 76, 77, 78] (by decide +kernel) (by decide +kernel)
set_option maxRecDepth 20000 in
theorem gX5_mount_X5_judge : GoodIn wsX5_mount (wsV RX5 162 RX5 yX5_judge wsX5_judge) := goodIn_app (goodIn_of _ (by decide +kernel)) ggX5_mount_X5_judge
set_option maxRecDepth 20000 in
theorem ggX5_mount_X5_holds : GoodIn wsX5_mount wsX5_holds := goodIn_r _ [17, 2, 18, 19, 8, 20, 67, 68, 69, 70, 71, 72, 73, 74, 75, 76, 77, 78] (by decide +kernel) (by decide +kernel)
set_option maxRecDepth 20000 in
theorem gX5_mount_X5_holds : GoodIn wsX5_mount (wsV RX5 128 RX5 yX5_holds wsX5_holds) := goodIn_app (goodIn_of _ (by decide +kernel)) ggX5_mount_X5_holds
theorem dX5_mount_0 : decode cX5_mount 0 = .ok (.aload_n 0, 1) := by decide +kernel
theorem dX5_mount_1 : decode cX5_mount 1 = .ok (.getfield 42, 3) := by decide +kernel
theorem dX5_mount_4 : decode cX5_mount 4 = .ok (.ifCond .eq 6, 3) := by decide +kernel
theorem dX5_mount_7 : decode cX5_mount 7 = .ok (.bipush (-4), 2) := by decide +kernel
theorem dX5_mount_9 : decode cX5_mount 9 = .ok (.ireturn, 1) := by decide +kernel
theorem dX5_mount_10 : decode cX5_mount 10 = .ok (.aload_n 0, 1) := by decide +kernel
theorem dX5_mount_11 : decode cX5_mount 11 = .ok (.invokevirtual 162, 3) := by decide +kernel
theorem dX5_mount_14 : decode cX5_mount 14 = .ok (.istore_n 1, 1) := by decide +kernel
theorem dX5_mount_15 : decode cX5_mount 15 = .ok (.aload_n 0, 1) := by decide +kernel
theorem dX5_mount_16 : decode cX5_mount 16 = .ok (.invokevirtual 128, 3) := by decide +kernel
theorem dX5_mount_19 : decode cX5_mount 19 = .ok (.ifCond .eq 37, 3) := by decide +kernel
theorem dX5_mount_22 : decode cX5_mount 22 = .ok (.iconst 0, 1) := by decide +kernel
theorem dX5_mount_23 : decode cX5_mount 23 = .ok (.istore_n 2, 1) := by decide +kernel
theorem dX5_mount_24 : decode cX5_mount 24 = .ok (.iload_n 2, 1) := by decide +kernel
theorem dX5_mount_25 : decode cX5_mount 25 = .ok (.bipush 110, 2) := by decide +kernel
theorem dX5_mount_27 : decode cX5_mount 27 = .ok (.if_icmp .ge 21, 3) := by decide +kernel
theorem dX5_mount_30 : decode cX5_mount 30 = .ok (.aload_n 0, 1) := by decide +kernel
theorem dX5_mount_31 : decode cX5_mount 31 = .ok (.getfield 7, 3) := by decide +kernel
theorem dX5_mount_34 : decode cX5_mount 34 = .ok (.iload_n 2, 1) := by decide +kernel
theorem dX5_mount_35 : decode cX5_mount 35 = .ok (.aload_n 0, 1) := by decide +kernel
theorem dX5_mount_36 : decode cX5_mount 36 = .ok (.getfield 19, 3) := by decide +kernel
theorem dX5_mount_39 : decode cX5_mount 39 = .ok (.iload_n 2, 1) := by decide +kernel
theorem dX5_mount_40 : decode cX5_mount 40 = .ok (.iaload, 1) := by decide +kernel
theorem dX5_mount_41 : decode cX5_mount 41 = .ok (.iastore, 1) := by decide +kernel
theorem dX5_mount_42 : decode cX5_mount 42 = .ok (.iinc 2 1, 3) := by decide +kernel
theorem dX5_mount_45 : decode cX5_mount 45 = .ok (.goto (-21), 3) := by decide +kernel
theorem dX5_mount_48 : decode cX5_mount 48 = .ok (.aload_n 0, 1) := by decide +kernel
theorem dX5_mount_49 : decode cX5_mount 49 = .ok (.getfield 7, 3) := by decide +kernel
theorem dX5_mount_52 : decode cX5_mount 52 = .ok (.bipush 110, 2) := by decide +kernel
theorem dX5_mount_54 : decode cX5_mount 54 = .ok (.iconst 0, 1) := by decide +kernel
theorem dX5_mount_55 : decode cX5_mount 55 = .ok (.iastore, 1) := by decide +kernel
theorem dX5_mount_56 : decode cX5_mount 56 = .ok (.iload_n 1, 1) := by decide +kernel
theorem dX5_mount_57 : decode cX5_mount 57 = .ok (.ifCond .le 6, 3) := by decide +kernel
theorem dX5_mount_60 : decode cX5_mount 60 = .ok (.bipush (-13), 2) := by decide +kernel
theorem dX5_mount_62 : decode cX5_mount 62 = .ok (.ireturn, 1) := by decide +kernel
theorem dX5_mount_63 : decode cX5_mount 63 = .ok (.iconst 0, 1) := by decide +kernel
theorem dX5_mount_64 : decode cX5_mount 64 = .ok (.istore_n 2, 1) := by decide +kernel
theorem dX5_mount_65 : decode cX5_mount 65 = .ok (.iload_n 2, 1) := by decide +kernel
theorem dX5_mount_66 : decode cX5_mount 66 = .ok (.bipush 110, 2) := by decide +kernel
theorem dX5_mount_68 : decode cX5_mount 68 = .ok (.if_icmp .ge 21, 3) := by decide +kernel
theorem dX5_mount_71 : decode cX5_mount 71 = .ok (.aload_n 0, 1) := by decide +kernel
theorem dX5_mount_72 : decode cX5_mount 72 = .ok (.getfield 13, 3) := by decide +kernel
theorem dX5_mount_75 : decode cX5_mount 75 = .ok (.iload_n 2, 1) := by decide +kernel
theorem dX5_mount_76 : decode cX5_mount 76 = .ok (.aload_n 0, 1) := by decide +kernel
theorem dX5_mount_77 : decode cX5_mount 77 = .ok (.getfield 19, 3) := by decide +kernel
theorem dX5_mount_80 : decode cX5_mount 80 = .ok (.iload_n 2, 1) := by decide +kernel
theorem dX5_mount_81 : decode cX5_mount 81 = .ok (.iaload, 1) := by decide +kernel
theorem dX5_mount_82 : decode cX5_mount 82 = .ok (.iastore, 1) := by decide +kernel
theorem dX5_mount_83 : decode cX5_mount 83 = .ok (.iinc 2 1, 3) := by decide +kernel
theorem dX5_mount_86 : decode cX5_mount 86 = .ok (.goto (-21), 3) := by decide +kernel
theorem dX5_mount_89 : decode cX5_mount 89 = .ok (.aload_n 0, 1) := by decide +kernel
theorem dX5_mount_90 : decode cX5_mount 90 = .ok (.iconst 1, 1) := by decide +kernel
theorem dX5_mount_91 : decode cX5_mount 91 = .ok (.putfield 42, 3) := by decide +kernel
theorem dX5_mount_94 : decode cX5_mount 94 = .ok (.iconst 0, 1) := by decide +kernel
theorem dX5_mount_95 : decode cX5_mount 95 = .ok (.ireturn, 1) := by decide +kernel
set_option maxRecDepth 20000 in
theorem ggX5_corrupt_X5_within : GoodIn wsX5_corrupt wsX5_within := goodIn_r _ [6] (by decide +kernel) (by decide +kernel)
set_option maxRecDepth 20000 in
theorem gX5_corrupt_X5_within : GoodIn wsX5_corrupt (va_wsS RX5 38 yX5_within wsX5_within) := goodIn_app (goodIn_of _ (by decide +kernel)) ggX5_corrupt_X5_within
theorem dX5_corrupt_0 : decode cX5_corrupt 0 = .ok (.aload_n 0, 1) := by decide +kernel
theorem dX5_corrupt_1 : decode cX5_corrupt 1 = .ok (.getfield 42, 3) := by decide +kernel
theorem dX5_corrupt_4 : decode cX5_corrupt 4 = .ok (.ifCond .ne 14, 3) := by decide +kernel
theorem dX5_corrupt_7 : decode cX5_corrupt 7 = .ok (.iload_n 1, 1) := by decide +kernel
theorem dX5_corrupt_8 : decode cX5_corrupt 8 = .ok (.iconst 0, 1) := by decide +kernel
theorem dX5_corrupt_9 : decode cX5_corrupt 9 = .ok (.sipush 331, 3) := by decide +kernel
theorem dX5_corrupt_12 : decode cX5_corrupt 12 = .ok (.invokestatic 38, 3) := by decide +kernel
theorem dX5_corrupt_15 : decode cX5_corrupt 15 = .ok (.ifCond .ne 5, 3) := by decide +kernel
theorem dX5_corrupt_18 : decode cX5_corrupt 18 = .ok (.iconst 0, 1) := by decide +kernel
theorem dX5_corrupt_19 : decode cX5_corrupt 19 = .ok (.ireturn, 1) := by decide +kernel
theorem dX5_corrupt_20 : decode cX5_corrupt 20 = .ok (.aload_n 0, 1) := by decide +kernel
theorem dX5_corrupt_21 : decode cX5_corrupt 21 = .ok (.getfield 7, 3) := by decide +kernel
theorem dX5_corrupt_24 : decode cX5_corrupt 24 = .ok (.iload_n 1, 1) := by decide +kernel
theorem dX5_corrupt_25 : decode cX5_corrupt 25 = .ok (.iload_n 2, 1) := by decide +kernel
theorem dX5_corrupt_26 : decode cX5_corrupt 26 = .ok (.iastore, 1) := by decide +kernel
theorem dX5_corrupt_27 : decode cX5_corrupt 27 = .ok (.iconst 1, 1) := by decide +kernel
theorem dX5_corrupt_28 : decode cX5_corrupt 28 = .ok (.ireturn, 1) := by decide +kernel
set_option maxRecDepth 20000 in
theorem ggX5_fsck_X5_judge : GoodIn wsX5_fsck wsX5_judge := goodIn_r _ [5, 6, 7, 8, 4, 9, 10, 11, 12, 13, 14, 15, 16, 17, 18, 19, 20, 21, 22, 23, 24, 25, 26, 27, 28, 29, 30, 31, 32, 33, 34, 35, 36, 37, 38, 39, 40, 41, 42, 43, 44, 45, 46, 47, 48, 49, 50, 51, 52, 53, 54, 55, 56, 57, 58, 59, 60, 61, 62, 63, 64, 65, 66, 67, 68, 69, 70, 71, 72, 73, 74, 75, 76] (by decide +kernel) (by decide +kernel)
set_option maxRecDepth 20000 in
theorem gX5_fsck_X5_judge : GoodIn wsX5_fsck (wsV RX5 162 RX5 yX5_judge wsX5_judge) := goodIn_app (goodIn_of _ (by decide +kernel)) ggX5_fsck_X5_judge
theorem dX5_fsck_0 : decode cX5_fsck 0 = .ok (.aload_n 0, 1) := by decide +kernel
theorem dX5_fsck_1 : decode cX5_fsck 1 = .ok (.invokevirtual 162, 3) := by decide +kernel
theorem dX5_fsck_4 : decode cX5_fsck 4 = .ok (.ireturn, 1) := by decide +kernel
set_option maxRecDepth 20000 in
theorem ggX5_peek_X5_within : GoodIn wsX5_peek wsX5_within := goodIn_r _ [5] (by decide +kernel) (by decide +kernel)
set_option maxRecDepth 20000 in
theorem gX5_peek_X5_within : GoodIn wsX5_peek (va_wsS RX5 38 yX5_within wsX5_within) := goodIn_app (goodIn_of _ (by decide +kernel)) ggX5_peek_X5_within
theorem dX5_peek_0 : decode cX5_peek 0 = .ok (.iload_n 1, 1) := by decide +kernel
theorem dX5_peek_1 : decode cX5_peek 1 = .ok (.iconst 0, 1) := by decide +kernel
theorem dX5_peek_2 : decode cX5_peek 2 = .ok (.sipush 331, 3) := by decide +kernel
theorem dX5_peek_5 : decode cX5_peek 5 = .ok (.invokestatic 38, 3) := by decide +kernel
theorem dX5_peek_8 : decode cX5_peek 8 = .ok (.ifCond .eq 12, 3) := by decide +kernel
theorem dX5_peek_11 : decode cX5_peek 11 = .ok (.aload_n 0, 1) := by decide +kernel
theorem dX5_peek_12 : decode cX5_peek 12 = .ok (.getfield 7, 3) := by decide +kernel
theorem dX5_peek_15 : decode cX5_peek 15 = .ok (.iload_n 1, 1) := by decide +kernel
theorem dX5_peek_16 : decode cX5_peek 16 = .ok (.iaload, 1) := by decide +kernel
theorem dX5_peek_17 : decode cX5_peek 17 = .ok (.goto 4, 3) := by decide +kernel
theorem dX5_peek_20 : decode cX5_peek 20 = .ok (.iconst 0, 1) := by decide +kernel
theorem dX5_peek_21 : decode cX5_peek 21 = .ok (.ireturn, 1) := by decide +kernel
end
section
set_option maxRecDepth 20000 in
theorem ggL_law_X4_init : GoodIn wsL_law wsX4_init := goodIn_r _ [8, 9, 10, 11, 12, 13, 14, 15, 16, 17, 18, 19, 20, 21, 22, 23, 24, 25, 26, 27, 28, 29, 30, 31, 32, 33, 2, 34, 35, 36, 37, 38, 39, 40, 41, 42, 43, 44, 45, 46, 47, 48, 49, 50, 51, 52, 53, 632, 614, 615, 616, 617, 618, 619, 633] (by decide +kernel) (by decide +kernel)
set_option maxRecDepth 20000 in
theorem gL_law_X4_init : GoodIn wsL_law (wsX4_init) := ggL_law_X4_init
set_option maxRecDepth 20000 in
theorem ggL_law_X5_init : GoodIn wsL_law wsX5_init := goodIn_r _ [56, 57, 10, 11, 21, 58, 59, 60, 61, 62, 63, 64, 65, 66, 67, 68, 69, 5, 70, 71, 72, 73, 74, 75, 620, 621, 622, 623, 624, 625, 626, 627, 628, 629, 630, 631] (by decide +kernel) (by decide +kernel)
set_option maxRecDepth 20000 in
theorem gL_law_X5_init : GoodIn wsL_law (wsX5_init) := ggL_law_X5_init
set_option maxRecDepth 20000 in
theorem ggL_law_X4_format : GoodIn wsL_law wsX4_format := goodIn_r _ [79, 31, 32, 33, 2, 34, 15, 19, 35, 36, 37, 38, 14, 39, 26, 40, 41, 42, 18, 43, 30, 44, 45, 46, 47, 48, 49, 50, 51, 22, 52, 53, 614, 615, 616, 617, 618, 619, 632, 633] (by decide +kernel) (by decide +kernel)
set_option maxRecDepth 20000 in
theorem gL_law_X4_format : GoodIn wsL_law (wsV RL 13 RX4 yX4_format wsX4_format) := goodIn_app (goodIn_of _ (by decide +kernel)) ggL_law_X4_format
set_option maxRecDepth 20000 in
theorem ggL_law_X5_format : GoodIn wsL_law wsX5_format := goodIn_r _ [70, 58, 59, 71, 72, 60, 73, 74, 5, 75, 620, 621, 622, 623, 624, 625, 626, 627, 628, 629, 630, 631] (by decide +kernel) (by decide +kernel)
set_option maxRecDepth 20000 in
theorem gL_law_X5_format : GoodIn wsL_law (wsV RL 16 RX5 yX5_format wsX5_format) := goodIn_app (goodIn_of _ (by decide +kernel)) ggL_law_X5_format
set_option maxRecDepth 20000 in
theorem ggL_law_X4_create : GoodIn wsL_law wsX4_create := goodIn_r _ [84, 53, 19, 85, 86, 2, 87, 88, 89, 90, 91, 92, 93, 18, 94, 95, 96, 97, 98, 30, 99, 100, 101, 102, 103, 104, 105, 106, 614, 615, 616, 617, 618, 619, 633] (by decide +kernel) (by decide +kernel)
set_option maxRecDepth 20000 in
theorem gL_law_X4_create : GoodIn wsL_law (wsV RL 17 RX4 yX4_create wsX4_create) := goodIn_app (goodIn_of _ (by decide +kernel)) ggL_law_X4_create
set_option maxRecDepth 20000 in
theorem ggL_law_X5_create : GoodIn wsL_law wsX5_create := goodIn_r _ [110, 71, 59, 73, 74, 5, 75, 111, 112, 113, 114, 620, 621, 622, 623, 624, 625, 626, 627, 628, 629, 630, 631] (by decide +kernel) (by decide +kernel)
set_option maxRecDepth 20000 in
theorem gL_law_X5_create : GoodIn wsL_law (wsV RL 21 RX5 yX5_create wsX5_create) := goodIn_app (goodIn_of _ (by decide +kernel)) ggL_law_X5_create
set_option maxRecDepth 20000 in
theorem ggL_law_X4_unlink : GoodIn wsL_law wsX4_unlink := goodIn_r _ [118, 53, 19, 91, 92, 93, 18, 94, 95, 96, 97, 98, 30, 119, 120, 121, 2, 122, 22, 123, 124, 125, 126, 127, 128, 129, 130, 131, 132, 133, 134, 135, 136, 137, 138, 139, 140, 141, 142, 143, 144, 145, 146, 147, 148, 149, 150, 151, 152, 153, 154, 155, 156, 157, 158, 159, 160, 161, 162, 163, 164, 165, 166, 167, 168, 169, 170, 171, 172, 173, 174, 175, 176, 177, 178, 179, 180, 181, 182, 183, 184, 185, 186, 187, 104, 105, 106, 614, 615, 616, 617, 618, 619, 633] (by decide +kernel) (by decide +kernel)
set_option maxRecDepth 20000 in
theorem gL_law_X4_unlink : GoodIn wsL_law (wsV RL 22 RX4 yX4_unlink wsX4_unlink) := goodIn_app (goodIn_of _ (by decide +kernel)) ggL_law_X4_unlink
set_option maxRecDepth 20000 in
theorem ggL_law_X5_unlink : GoodIn wsL_law wsX5_unlink := goodIn_r _ [191, 71, 111, 112, 113, 5, 114, 59, 192, 193, 194, 195, 60, 196, 197, 198, 199, 200, 201, 202, 203, 204, 205, 206, 207, 208, 209, 210, 211, 212, 213, 214, 215, 216, 217, 218, 219, 220, 221, 222, 223, 620, 621, 622, 623, 624, 625, 626, 627, 628, 629, 630, 631] (by decide +kernel) (by decide +kernel)
set_option maxRecDepth 20000 in
theorem gL_law_X5_unlink : GoodIn wsL_law (wsV RL 26 RX5 yX5_unlink wsX5_unlink) := goodIn_app (goodIn_of _ (by decide +kernel)) ggL_law_X5_unlink
set_option maxRecDepth 20000 in
theorem ggL_law_X4_open : GoodIn wsL_law wsX4_open := goodIn_r _ [227, 53, 19, 22, 91, 92, 93, 18, 94, 95, 96, 97, 98, 30, 228, 229, 230, 2, 231, 614, 615, 616, 617, 618, 619, 633] (by decide +kernel) (by decide +kernel)
set_option maxRecDepth 20000 in
theorem gL_law_X4_open : GoodIn wsL_law (wsV RL 27 RX4 yX4_open wsX4_open) := goodIn_app (goodIn_of _ (by decide +kernel)) ggL_law_X4_open
set_option maxRecDepth 20000 in
theorem ggL_law_X5_open : GoodIn wsL_law wsX5_open := goodIn_r _ [235, 71, 60, 111, 112, 113, 5, 114, 59, 620, 621, 622, 623, 624, 625, 626, 627, 628, 629, 630, 631] (by decide +kernel) (by decide +kernel)
set_option maxRecDepth 20000 in
theorem gL_law_X5_open : GoodIn wsL_law (wsV RL 30 RX5 yX5_open wsX5_open) := goodIn_app (goodIn_of _ (by decide +kernel)) ggL_law_X5_open
set_option maxRecDepth 20000 in
theorem ggL_law_X4_close : GoodIn wsL_law wsX4_close := goodIn_r _ [239, 53, 22, 240, 241, 242, 2, 243, 614, 615, 616, 617, 618, 619] (by decide +kernel) (by decide +kernel)
set_option maxRecDepth 20000 in
theorem gL_law_X4_close : GoodIn wsL_law (wsV RL 31 RX4 yX4_close wsX4_close) := goodIn_app (goodIn_of _ (by decide +kernel)) ggL_law_X4_close
set_option maxRecDepth 20000 in
theorem ggL_law_X5_close : GoodIn wsL_law wsX5_close := goodIn_r _ [247, 60, 248, 249, 250, 5, 251, 71, 73, 74, 75, 620, 621, 622, 623, 624, 625, 626, 627, 628, 629, 630, 631] (by decide +kernel) (by decide +kernel)
set_option maxRecDepth 20000 in
theorem gL_law_X5_close : GoodIn wsL_law (wsV RL 34 RX5 yX5_close wsX5_close) := goodIn_app (goodIn_of _ (by decide +kernel)) ggL_law_X5_close
set_option maxRecDepth 20000 in
theorem ggL_law_X4_write : GoodIn wsL_law wsX4_write := goodIn_r _ [255, 53, 22, 19, 240, 241, 242, 2, 243, 256, 132, 133, 18, 134, 30, 257, 258, 259, 260, 172, 173, 174, 175, 143, 144, 145, 146, 161, 162, 163, 261, 262, 263, 264, 168, 169, 170, 171, 147, 148, 149, 150, 151, 152, 153, 265, 266, 267, 268, 269, 270, 271, 272, 273, 274, 275, 276, 277, 278, 279, 280, 181, 182, 281, 282, 283, 183, 184, 185, 186, 284, 285, 286, 287, 288, 289, 290, 291, 292, 293, 294, 295, 157, 158, 159, 160, 296, 136, 137, 138, 139, 140, 141, 142, 154, 155, 156, 614, 615, 616, 617, 618, 619, 633] (by decide +kernel) (by decide +kernel)
set_option maxRecDepth 20000 in
theorem gL_law_X4_write : GoodIn wsL_law (wsV RL 35 RX4 yX4_write wsX4_write) := goodIn_app (goodIn_of _ (by decide +kernel)) ggL_law_X4_write
set_option maxRecDepth 20000 in
theorem ggL_law_X5_write : GoodIn wsL_law wsX5_write := goodIn_r _ [300, 59, 248, 249, 250, 5, 251, 71, 60, 73, 74, 75, 301, 302, 303, 304, 65, 305, 306, 307, 308, 309, 310, 311, 312, 313, 314, 204, 205, 206, 207, 215, 216, 217, 218, 219, 220, 200, 201, 202, 203, 315, 316, 317, 318, 319, 320, 321, 322, 323, 221, 222, 223, 324, 325, 326, 327, 328, 329, 330, 331, 212, 213, 214, 620, 621, 622, 623, 624, 625, 626, 627, 628, 629, 630, 631] (by decide +kernel) (by decide +kernel)
set_option maxRecDepth 20000 in
theorem gL_law_X5_write : GoodIn wsL_law (wsV RL 39 RX5 yX5_write wsX5_write) := goodIn_app (goodIn_of _ (by decide +kernel)) ggL_law_X5_write
set_option maxRecDepth 20000 in
theorem ggL_law_X4_read : GoodIn wsL_law wsX4_read := goodIn_r _ [335, 53, 22, 19, 240, 241, 242, 2, 243, 256, 132, 133, 18, 134, 30, 336, 337, 338, 339, 139, 140, 141, 142, 143, 144, 145, 146, 147, 148, 149, 150, 151, 152, 153, 154, 155, 156, 614, 615, 616, 617, 618, 619, 633] (by decide +kernel) (by decide +kernel)
set_option maxRecDepth 20000 in
theorem gL_law_X4_read : GoodIn wsL_law (wsV RL 40 RX4 yX4_read wsX4_read) := goodIn_app (goodIn_of _ (by decide +kernel)) ggL_law_X4_read
set_option maxRecDepth 20000 in
theorem ggL_law_X5_read : GoodIn wsL_law wsX5_read := goodIn_r _ [343, 59, 248, 249, 250, 5, 251, 71, 60, 73, 74, 75, 328, 329, 330, 331, 204, 205, 206, 207, 215, 216, 217, 218, 219, 220, 212, 213, 214, 620, 621, 622, 623, 624, 625, 626, 627, 628, 629, 630, 631] (by decide +kernel) (by decide +kernel)
set_option maxRecDepth 20000 in
theorem gL_law_X5_read : GoodIn wsL_law (wsV RL 43 RX5 yX5_read wsX5_read) := goodIn_app (goodIn_of _ (by decide +kernel)) ggL_law_X5_read
set_option maxRecDepth 20000 in
theorem ggL_law_X4_truncate : GoodIn wsL_law wsX4_truncate := goodIn_r _ [347, 53, 22, 19, 240, 241, 242, 2, 243, 256, 132, 133, 18, 134, 30, 257, 258, 259, 260, 172, 173, 174, 175, 143, 144, 145, 146, 161, 162, 163, 261, 262, 263, 264, 168, 169, 170, 171, 147, 148, 149, 150, 151, 152, 153, 265, 266, 267, 268, 269, 270, 271, 272, 273, 274, 275, 276, 277, 278, 279, 280, 181, 182, 281, 282, 283, 183, 184, 185, 186, 284, 285, 286, 287, 288, 289, 290, 291, 292, 293, 294, 295, 157, 158, 159, 160, 348, 128, 129, 130, 131, 135, 136, 137, 138, 139, 140, 141, 142, 154, 155, 156, 164, 165, 166, 167, 176, 177, 178, 179, 180, 614, 615, 616, 617, 618, 619, 633] (by decide +kernel) (by decide +kernel)
set_option maxRecDepth 20000 in
theorem gL_law_X4_truncate : GoodIn wsL_law (wsV RL 44 RX4 yX4_truncate wsX4_truncate) := goodIn_app (goodIn_of _ (by decide +kernel)) ggL_law_X4_truncate
set_option maxRecDepth 20000 in
theorem ggL_law_X5_truncate : GoodIn wsL_law wsX5_truncate := goodIn_r _ [352, 59, 248, 249, 250, 5, 251, 71, 60, 73, 74, 75, 301, 302, 303, 304, 65, 305, 306, 307, 308, 309, 310, 311, 312, 313, 314, 204, 205, 206, 207, 215, 216, 217, 218, 219, 220, 200, 201, 202, 203, 315, 316, 317, 318, 319, 320, 321, 322, 323, 221, 222, 223, 324, 325, 326, 327, 353, 354, 355, 356, 208, 209, 210, 211, 212, 213, 214, 328, 329, 330, 331, 620, 621, 622, 623, 624, 625, 626, 627, 628, 629, 630, 631] (by decide +kernel) (by decide +kernel)
set_option maxRecDepth 20000 in
theorem gL_law_X5_truncate : GoodIn wsL_law (wsV RL 47 RX5 yX5_truncate wsX5_truncate) := goodIn_app (goodIn_of _ (by decide +kernel)) ggL_law_X5_truncate
set_option maxRecDepth 20000 in
theorem ggL_law_X4_length : GoodIn wsL_law wsX4_length := goodIn_r _ [360, 53, 19, 22, 240, 241, 242, 2, 243, 256, 132, 133, 18, 134, 30, 614, 615, 616, 617, 618, 619, 633] (by decide +kernel) (by decide +kernel)
set_option maxRecDepth 20000 in
theorem gL_law_X4_length : GoodIn wsL_law (wsV RL 48 RX4 yX4_length wsX4_length) := goodIn_app (goodIn_of _ (by decide +kernel)) ggL_law_X4_length
set_option maxRecDepth 20000 in
theorem ggL_law_X5_length : GoodIn wsL_law wsX5_length := goodIn_r _ [364, 59, 248, 249, 250, 5, 251, 71, 60, 73, 74, 75, 620, 621, 622, 623, 624, 625, 626, 627, 628, 629, 630, 631] (by decide +kernel) (by decide +kernel)
set_option maxRecDepth 20000 in
theorem gL_law_X5_length : GoodIn wsL_law (wsV RL 51 RX5 yX5_length wsX5_length) := goodIn_app (goodIn_of _ (by decide +kernel)) ggL_law_X5_length
set_option maxRecDepth 20000 in
theorem ggL_law_X4_extent : GoodIn wsL_law wsX4_extent := goodIn_r _ [368, 53, 19, 22, 240, 241, 242, 2, 243, 369, 144, 145, 18, 146, 30, 614, 615, 616, 617, 618, 619, 633] (by decide +kernel) (by decide +kernel)
set_option maxRecDepth 20000 in
theorem gL_law_X4_extent : GoodIn wsL_law (wsV RL 52 RX4 yX4_extent wsX4_extent) := goodIn_app (goodIn_of _ (by decide +kernel)) ggL_law_X4_extent
set_option maxRecDepth 20000 in
theorem ggL_law_X5_extent : GoodIn wsL_law wsX5_extent := goodIn_r _ [373, 248, 249, 250, 5, 251, 71, 60, 73, 74, 75, 204, 205, 206, 207, 59, 620, 621, 622, 623, 624, 625, 626, 627, 628, 629, 630, 631] (by decide +kernel) (by decide +kernel)
set_option maxRecDepth 20000 in
theorem gL_law_X5_extent : GoodIn wsL_law (wsV RL 55 RX5 yX5_extent wsX5_extent) := goodIn_app (goodIn_of _ (by decide +kernel)) ggL_law_X5_extent
set_option maxRecDepth 20000 in
theorem ggL_law_X4_rename : GoodIn wsL_law wsX4_rename := goodIn_r _ [377, 53, 19, 91, 92, 93, 18, 94, 95, 96, 97, 98, 30, 85, 86, 2, 87, 119, 120, 121, 122, 22, 123, 124, 125, 126, 127, 128, 129, 130, 131, 132, 133, 134, 135, 136, 137, 138, 139, 140, 141, 142, 143, 144, 145, 146, 147, 148, 149, 150, 151, 152, 153, 154, 155, 156, 157, 158, 159, 160, 161, 162, 163, 164, 165, 166, 167, 168, 169, 170, 171, 172, 173, 174, 175, 176, 177, 178, 179, 180, 181, 182, 183, 184, 185, 186, 187, 104, 105, 106, 378, 379, 380, 381, 614, 615, 616, 617, 618, 619, 633] (by decide +kernel) (by decide +kernel)
set_option maxRecDepth 20000 in
theorem gL_law_X4_rename : GoodIn wsL_law (wsV RL 56 RX4 yX4_rename wsX4_rename) := goodIn_app (goodIn_of _ (by decide +kernel)) ggL_law_X4_rename
set_option maxRecDepth 20000 in
theorem ggL_law_X5_rename : GoodIn wsL_law wsX5_rename := goodIn_r _ [385, 71, 59, 111, 112, 113, 5, 114, 73, 74, 75, 192, 193, 194, 195, 60, 196, 197, 198, 199, 200, 201, 202, 203, 204, 205, 206, 207, 208, 209, 210, 211, 212, 213, 214, 215, 216, 217, 218, 219, 220, 221, 222, 223, 620, 621, 622, 623, 624, 625, 626, 627, 628, 629, 630, 631] (by decide +kernel) (by decide +kernel)
set_option maxRecDepth 20000 in
theorem gL_law_X5_rename : GoodIn wsL_law (wsV RL 59 RX5 yX5_rename wsX5_rename) := goodIn_app (goodIn_of _ (by decide +kernel)) ggL_law_X5_rename
set_option maxRecDepth 20000 in
theorem ggL_law_X4_setQuota : GoodIn wsL_law wsX4_setQuota := goodIn_r _ [389, 53, 19, 88, 89, 2, 90, 390, 289, 290, 18, 291, 284, 285, 286, 287, 30, 168, 169, 170, 171, 143, 144, 145, 146, 147, 148, 149, 150, 151, 152, 153, 391, 392, 393, 394, 614, 615, 616, 617, 618, 619, 633] (by decide +kernel) (by decide +kernel)
set_option maxRecDepth 20000 in
theorem gL_law_X4_setQuota : GoodIn wsL_law (wsV RL 60 RX4 yX4_setQuota wsX4_setQuota) := goodIn_app (goodIn_of _ (by decide +kernel)) ggL_law_X4_setQuota
set_option maxRecDepth 20000 in
theorem ggL_law_X5_setQuota : GoodIn wsL_law wsX5_setQuota := goodIn_r _ [398, 71, 59, 73, 74, 5, 75, 324, 325, 326, 327, 311, 312, 313, 314, 204, 205, 206, 207, 215, 216, 217, 218, 219, 220, 620, 621, 622, 623, 624, 625, 626, 627, 628, 629, 630, 631] (by decide +kernel) (by decide +kernel)
set_option maxRecDepth 20000 in
theorem gL_law_X5_setQuota : GoodIn wsL_law (wsV RL 63 RX5 yX5_setQuota wsX5_setQuota) := goodIn_app (goodIn_of _ (by decide +kernel)) ggL_law_X5_setQuota
set_option maxRecDepth 20000 in
theorem ggL_law_X4_usage : GoodIn wsL_law wsX4_usage := goodIn_r _ [402, 53, 19, 88, 89, 2, 90, 390, 289, 290, 18, 291, 284, 285, 286, 287, 30, 168, 169, 170, 171, 143, 144, 145, 146, 147, 148, 149, 150, 151, 152, 153, 614, 615, 616, 617, 618, 619, 633] (by decide +kernel) (by decide +kernel)
set_option maxRecDepth 20000 in
theorem gL_law_X4_usage : GoodIn wsL_law (wsV RL 64 RX4 yX4_usage wsX4_usage) := goodIn_app (goodIn_of _ (by decide +kernel)) ggL_law_X4_usage
set_option maxRecDepth 20000 in
theorem ggL_law_X5_usage : GoodIn wsL_law wsX5_usage := goodIn_r _ [406, 71, 73, 74, 5, 75, 324, 325, 326, 327, 59, 311, 312, 313, 314, 204, 205, 206, 207, 215, 216, 217, 218, 219, 220, 620, 621, 622, 623, 624, 625, 626, 627, 628, 629, 630, 631] (by decide +kernel) (by decide +kernel)
set_option maxRecDepth 20000 in
theorem gL_law_X5_usage : GoodIn wsL_law (wsV RL 67 RX5 yX5_usage wsX5_usage) := goodIn_app (goodIn_of _ (by decide +kernel)) ggL_law_X5_usage
set_option maxRecDepth 20000 in
theorem ggL_law_X4_free : GoodIn wsL_law wsX4_free := goodIn_r _ [410, 53, 19, 411, 412, 413, 18, 414, 276, 277, 278, 279, 30, 280, 181, 149, 182, 614, 615, 616, 617, 618, 619, 633] (by decide +kernel) (by decide +kernel)
set_option maxRecDepth 20000 in
theorem gL_law_X4_free : GoodIn wsL_law (wsV RL 68 RX4 yX4_free wsX4_free) := goodIn_app (goodIn_of _ (by decide +kernel)) ggL_law_X4_free
set_option maxRecDepth 20000 in
theorem ggL_law_X5_free : GoodIn wsL_law wsX5_free := goodIn_r _ [418, 71, 59, 73, 74, 5, 75, 419, 420, 421, 318, 319, 320, 321, 322, 323, 620, 621, 622, 623, 624, 625, 626, 627, 628, 629, 630, 631] (by decide +kernel) (by decide +kernel)
set_option maxRecDepth 20000 in
theorem gL_law_X5_free : GoodIn wsL_law (wsV RL 71 RX5 yX5_free wsX5_free) := goodIn_app (goodIn_of _ (by decide +kernel)) ggL_law_X5_free
set_option maxRecDepth 20000 in
theorem ggL_law_X4_sync : GoodIn wsL_law wsX4_sync := goodIn_r _ [425, 53, 426, 427, 428, 2, 429, 430, 431, 432, 433, 15, 35, 19, 434, 435, 436, 437, 438, 439, 440, 441, 442, 52, 443, 444, 14, 445, 446, 447, 448, 449, 614, 615, 616, 617, 618, 619, 632, 633] (by decide +kernel) (by decide +kernel)
set_option maxRecDepth 20000 in
theorem gL_law_X4_sync : GoodIn wsL_law (wsV RL 72 RX4 yX4_sync wsX4_sync) := goodIn_app (goodIn_of _ (by decide +kernel)) ggL_law_X4_sync
set_option maxRecDepth 20000 in
theorem ggL_law_X5_sync : GoodIn wsL_law wsX5_sync := goodIn_r _ [453, 71, 58, 59, 66, 454, 455, 456, 5, 457, 72, 60, 620, 621, 622, 623, 624, 625, 626, 627, 628, 629, 630, 631] (by decide +kernel) (by decide +kernel)
set_option maxRecDepth 20000 in
theorem gL_law_X5_sync : GoodIn wsL_law (wsV RL 76 RX5 yX5_sync wsX5_sync) := goodIn_app (goodIn_of _ (by decide +kernel)) ggL_law_X5_sync
set_option maxRecDepth 20000 in
theorem ggL_law_X4_crashAfter : GoodIn wsL_law wsX4_crashAfter := goodIn_r _ [461, 53, 52, 614, 615, 616, 617, 618, 619] (by decide +kernel) (by decide +kernel)
set_option maxRecDepth 20000 in
theorem gL_law_X4_crashAfter : GoodIn wsL_law (wsV RL 77 RX4 yX4_crashAfter wsX4_crashAfter) := goodIn_app (goodIn_of _ (by decide +kernel)) ggL_law_X4_crashAfter
set_option maxRecDepth 20000 in
theorem ggL_law_X5_crashAfter : GoodIn wsL_law wsX5_crashAfter := goodIn_r _ [465, 71, 72, 620, 621, 622, 623, 624, 625, 626, 627, 628, 629, 630, 631] (by decide +kernel) (by decide +kernel)
set_option maxRecDepth 20000 in
theorem gL_law_X5_crashAfter : GoodIn wsL_law (wsV RL 81 RX5 yX5_crashAfter wsX5_crashAfter) := goodIn_app (goodIn_of _ (by decide +kernel)) ggL_law_X5_crashAfter
set_option maxRecDepth 20000 in
theorem ggL_law_X4_mount : GoodIn wsL_law wsX4_mount := goodIn_r _ [469, 53, 15, 20, 35, 19, 470, 471, 472, 14, 473, 26, 474, 444, 445, 475, 476, 477, 478, 479, 480, 481, 482, 40, 41, 42, 18, 43, 30, 44, 45, 46, 47, 483, 484, 485, 486, 487, 488, 489, 490, 491, 96, 97, 98, 492, 493, 494, 495, 285, 286, 287, 496, 132, 133, 134, 497, 498, 499, 500, 501, 502, 503, 504, 505, 506, 144, 145, 146, 507, 508, 149, 509, 510, 282, 283, 179, 155, 156, 511, 148, 150, 151, 152, 153, 512, 513, 514, 515, 177, 178, 180, 181, 182, 516, 517, 518, 519, 162, 163, 520, 169, 170, 171, 143, 147, 521, 173, 174, 175, 522, 523, 524, 525, 526, 527, 528, 529, 293, 294, 295, 530, 289, 290, 291, 284, 168, 531, 532, 533, 534, 535, 536, 537, 140, 141, 142, 154, 48, 49, 50, 2, 51, 22, 52, 614, 615, 616, 617, 618, 619, 632, 633] (by decide +kernel) (by decide +kernel)
set_option maxRecDepth 20000 in
theorem gL_law_X4_mount : GoodIn wsL_law (wsV RL 82 RX4 yX4_mount wsX4_mount) := goodIn_app (goodIn_of _ (by decide +kernel)) ggL_law_X4_mount
set_option maxRecDepth 20000 in
theorem ggL_law_X5_mount : GoodIn wsL_law wsX5_mount := goodIn_r _ [541, 71, 58, 61, 59, 542, 543, 544, 5, 545, 546, 547, 548, 549, 550, 551, 552, 553, 73, 74, 75, 554, 555, 556, 557, 558, 559, 560, 561, 562, 563, 564, 565, 566, 567, 568, 212, 213, 214, 218, 219, 220, 569, 570, 571, 572, 62, 215, 216, 217, 573, 574, 575, 576, 577, 578, 579, 580, 581, 582, 583, 584, 585, 586, 587, 588, 64, 620, 621, 622, 623, 624, 625, 626, 627, 628, 629, 630, 631] (by decide +kernel) (by decide +kernel)
set_option maxRecDepth 20000 in
theorem gL_law_X5_mount : GoodIn wsL_law (wsV RL 85 RX5 yX5_mount wsX5_mount) := goodIn_app (goodIn_of _ (by decide +kernel)) ggL_law_X5_mount
set_option maxRecDepth 20000 in
theorem ggL_law_X4_corrupt : GoodIn wsL_law wsX4_corrupt := goodIn_r _ [592, 53, 15, 35, 614, 615, 616, 617, 618, 619, 632] (by decide +kernel) (by decide +kernel)
set_option maxRecDepth 20000 in
theorem gL_law_X4_corrupt : GoodIn wsL_law (wsV RL 86 RX4 yX4_corrupt wsX4_corrupt) := goodIn_app (goodIn_of _ (by decide +kernel)) ggL_law_X4_corrupt
set_option maxRecDepth 20000 in
theorem ggL_law_X5_corrupt : GoodIn wsL_law wsX5_corrupt := goodIn_r _ [596, 71, 58, 73, 74, 5, 75, 620, 621, 622, 623, 624, 625, 626, 627, 628, 629, 630, 631] (by decide +kernel) (by decide +kernel)
set_option maxRecDepth 20000 in
theorem gL_law_X5_corrupt : GoodIn wsL_law (wsV RL 90 RX5 yX5_corrupt wsX5_corrupt) := goodIn_app (goodIn_of _ (by decide +kernel)) ggL_law_X5_corrupt
set_option maxRecDepth 20000 in
theorem ggL_law_X4_fsck : GoodIn wsL_law wsX4_fsck := goodIn_r _ [600, 20, 15, 35, 434, 40, 41, 42, 18, 43, 30, 44, 45, 46, 47, 470, 471, 472, 14, 473, 26, 474, 444, 445, 601, 480, 481, 482, 483, 484, 485, 486, 487, 488, 489, 490, 491, 96, 97, 98, 492, 493, 494, 495, 285, 286, 287, 496, 132, 133, 134, 497, 498, 499, 500, 501, 502, 503, 504, 505, 506, 144, 145, 146, 507, 508, 149, 509, 510, 282, 283, 179, 155, 156, 511, 148, 150, 151, 152, 153, 512, 513, 514, 515, 177, 178, 180, 181, 182, 516, 517, 518, 519, 162, 163, 520, 169, 170, 171, 143, 147, 521, 173, 174, 175, 522, 523, 524, 525, 526, 527, 528, 529, 293, 294, 295, 530, 289, 290, 291, 284, 168, 531, 532, 533, 534, 535, 536, 537, 140, 141, 142, 154, 614, 615, 616, 617, 618, 619, 632, 633] (by decide +kernel) (by decide +kernel)
set_option maxRecDepth 20000 in
theorem gL_law_X4_fsck : GoodIn wsL_law (wsV RL 91 RX4 yX4_fsck wsX4_fsck) := goodIn_app (goodIn_of _ (by decide +kernel)) ggL_law_X4_fsck
set_option maxRecDepth 20000 in
theorem ggL_law_X5_fsck : GoodIn wsL_law wsX5_fsck := goodIn_r _ [605, 542, 543, 544, 5, 545, 546, 547, 548, 549, 61, 58, 550, 551, 552, 553, 73, 74, 75, 554, 555, 556, 557, 558, 559, 560, 561, 562, 563, 564, 565, 566, 567, 568, 212, 213, 214, 218, 219, 220, 569, 570, 571, 572, 62, 215, 216, 217, 573, 574, 575, 576, 577, 578, 579, 580, 581, 582, 583, 584, 585, 586, 587, 588, 64, 620, 621, 622, 623, 624, 625, 626, 627, 628, 629, 630, 631] (by decide +kernel) (by decide +kernel)
set_option maxRecDepth 20000 in
theorem gL_law_X5_fsck : GoodIn wsL_law (wsV RL 94 RX5 yX5_fsck wsX5_fsck) := goodIn_app (goodIn_of _ (by decide +kernel)) ggL_law_X5_fsck
set_option maxRecDepth 20000 in
theorem ggL_law_X4_peek : GoodIn wsL_law wsX4_peek := goodIn_r _ [609, 15, 35, 614, 615, 616, 617, 618, 619, 632] (by decide +kernel) (by decide +kernel)
set_option maxRecDepth 20000 in
theorem gL_law_X4_peek : GoodIn wsL_law (wsV RL 95 RX4 yX4_peek wsX4_peek) := goodIn_app (goodIn_of _ (by decide +kernel)) ggL_law_X4_peek
set_option maxRecDepth 20000 in
theorem ggL_law_X5_peek : GoodIn wsL_law wsX5_peek := goodIn_r _ [613, 58, 73, 74, 5, 75, 620, 621, 622, 623, 624, 625, 626, 627, 628, 629, 630, 631] (by decide +kernel) (by decide +kernel)
set_option maxRecDepth 20000 in
theorem gL_law_X5_peek : GoodIn wsL_law (wsV RL 98 RX5 yX5_peek wsX5_peek) := goodIn_app (goodIn_of _ (by decide +kernel)) ggL_law_X5_peek
theorem dL_law_0 : decode cL_law 0 = .ok (.new 7, 3) := by decide +kernel
theorem dL_law_3 : decode cL_law 3 = .ok (.dup, 1) := by decide +kernel
theorem dL_law_4 : decode cL_law 4 = .ok (.invokespecial 9, 3) := by decide +kernel
theorem dL_law_7 : decode cL_law 7 = .ok (.astore_n 1, 1) := by decide +kernel
theorem dL_law_8 : decode cL_law 8 = .ok (.new 10, 3) := by decide +kernel
theorem dL_law_11 : decode cL_law 11 = .ok (.dup, 1) := by decide +kernel
theorem dL_law_12 : decode cL_law 12 = .ok (.invokespecial 12, 3) := by decide +kernel
theorem dL_law_15 : decode cL_law 15 = .ok (.astore_n 2, 1) := by decide +kernel
theorem dL_law_16 : decode cL_law 16 = .ok (.iconst 0, 1) := by decide +kernel
theorem dL_law_17 : decode cL_law 17 = .ok (.istore_n 3, 1) := by decide +kernel
theorem dL_law_18 : decode cL_law 18 = .ok (.iload_n 3, 1) := by decide +kernel
theorem dL_law_19 : decode cL_law 19 = .ok (.aload_n 0, 1) := by decide +kernel
theorem dL_law_20 : decode cL_law 20 = .ok (.arraylength, 1) := by decide +kernel
theorem dL_law_21 : decode cL_law 21 = .ok (.iconst 4, 1) := by decide +kernel
theorem dL_law_22 : decode cL_law 22 = .ok (.isub, 1) := by decide +kernel
theorem dL_law_23 : decode cL_law 23 = .ok (.if_icmp .gt 619, 3) := by decide +kernel
theorem dL_law_26 : decode cL_law 26 = .ok (.aload_n 0, 1) := by decide +kernel
theorem dL_law_27 : decode cL_law 27 = .ok (.iload_n 3, 1) := by decide +kernel
theorem dL_law_28 : decode cL_law 28 = .ok (.iaload, 1) := by decide +kernel
theorem dL_law_29 : decode cL_law 29 = .ok (.bipush 31, 2) := by decide +kernel
theorem dL_law_31 : decode cL_law 31 = .ok (.iand, 1) := by decide +kernel
theorem dL_law_32 : decode cL_law 32 = .ok (.tableswitch 604 0 19 #[96, 107, 140, 163, 186, 209, 252, 285, 318, 341, 374, 407, 440, 463, 486, 499, 522, 535, 568, 581], 96) := by decide +kernel
theorem dL_law_128 : decode cL_law 128 = .ok (.aload_n 1, 1) := by decide +kernel
theorem dL_law_129 : decode cL_law 129 = .ok (.invokevirtual 13, 3) := by decide +kernel
theorem dL_law_132 : decode cL_law 132 = .ok (.aload_n 2, 1) := by decide +kernel
theorem dL_law_133 : decode cL_law 133 = .ok (.invokevirtual 16, 3) := by decide +kernel
theorem dL_law_136 : decode cL_law 136 = .ok (.goto 500, 3) := by decide +kernel
theorem dL_law_139 : decode cL_law 139 = .ok (.aload_n 1, 1) := by decide +kernel
theorem dL_law_140 : decode cL_law 140 = .ok (.aload_n 0, 1) := by decide +kernel
theorem dL_law_141 : decode cL_law 141 = .ok (.iload_n 3, 1) := by decide +kernel
theorem dL_law_142 : decode cL_law 142 = .ok (.iconst 1, 1) := by decide +kernel
theorem dL_law_143 : decode cL_law 143 = .ok (.iadd, 1) := by decide +kernel
theorem dL_law_144 : decode cL_law 144 = .ok (.iaload, 1) := by decide +kernel
theorem dL_law_145 : decode cL_law 145 = .ok (.aload_n 0, 1) := by decide +kernel
theorem dL_law_146 : decode cL_law 146 = .ok (.iload_n 3, 1) := by decide +kernel
theorem dL_law_147 : decode cL_law 147 = .ok (.iconst 2, 1) := by decide +kernel
theorem dL_law_148 : decode cL_law 148 = .ok (.iadd, 1) := by decide +kernel
theorem dL_law_149 : decode cL_law 149 = .ok (.iaload, 1) := by decide +kernel
theorem dL_law_150 : decode cL_law 150 = .ok (.invokevirtual 17, 3) := by decide +kernel
theorem dL_law_153 : decode cL_law 153 = .ok (.aload_n 2, 1) := by decide +kernel
theorem dL_law_154 : decode cL_law 154 = .ok (.aload_n 0, 1) := by decide +kernel
theorem dL_law_155 : decode cL_law 155 = .ok (.iload_n 3, 1) := by decide +kernel
theorem dL_law_156 : decode cL_law 156 = .ok (.iconst 1, 1) := by decide +kernel
theorem dL_law_157 : decode cL_law 157 = .ok (.iadd, 1) := by decide +kernel
theorem dL_law_158 : decode cL_law 158 = .ok (.iaload, 1) := by decide +kernel
theorem dL_law_159 : decode cL_law 159 = .ok (.aload_n 0, 1) := by decide +kernel
theorem dL_law_160 : decode cL_law 160 = .ok (.iload_n 3, 1) := by decide +kernel
theorem dL_law_161 : decode cL_law 161 = .ok (.iconst 2, 1) := by decide +kernel
theorem dL_law_162 : decode cL_law 162 = .ok (.iadd, 1) := by decide +kernel
theorem dL_law_163 : decode cL_law 163 = .ok (.iaload, 1) := by decide +kernel
theorem dL_law_164 : decode cL_law 164 = .ok (.invokevirtual 21, 3) := by decide +kernel
theorem dL_law_167 : decode cL_law 167 = .ok (.if_icmp .eq 469, 3) := by decide +kernel
theorem dL_law_170 : decode cL_law 170 = .ok (.iconst 0, 1) := by decide +kernel
theorem dL_law_171 : decode cL_law 171 = .ok (.ireturn, 1) := by decide +kernel
theorem dL_law_172 : decode cL_law 172 = .ok (.aload_n 1, 1) := by decide +kernel
theorem dL_law_173 : decode cL_law 173 = .ok (.aload_n 0, 1) := by decide +kernel
theorem dL_law_174 : decode cL_law 174 = .ok (.iload_n 3, 1) := by decide +kernel
theorem dL_law_175 : decode cL_law 175 = .ok (.iconst 1, 1) := by decide +kernel
theorem dL_law_176 : decode cL_law 176 = .ok (.iadd, 1) := by decide +kernel
theorem dL_law_177 : decode cL_law 177 = .ok (.iaload, 1) := by decide +kernel
theorem dL_law_178 : decode cL_law 178 = .ok (.invokevirtual 22, 3) := by decide +kernel
theorem dL_law_181 : decode cL_law 181 = .ok (.aload_n 2, 1) := by decide +kernel
theorem dL_law_182 : decode cL_law 182 = .ok (.aload_n 0, 1) := by decide +kernel
theorem dL_law_183 : decode cL_law 183 = .ok (.iload_n 3, 1) := by decide +kernel
theorem dL_law_184 : decode cL_law 184 = .ok (.iconst 1, 1) := by decide +kernel
theorem dL_law_185 : decode cL_law 185 = .ok (.iadd, 1) := by decide +kernel
theorem dL_law_186 : decode cL_law 186 = .ok (.iaload, 1) := by decide +kernel
theorem dL_law_187 : decode cL_law 187 = .ok (.invokevirtual 26, 3) := by decide +kernel
theorem dL_law_190 : decode cL_law 190 = .ok (.if_icmp .eq 446, 3) := by decide +kernel
theorem dL_law_193 : decode cL_law 193 = .ok (.iconst 0, 1) := by decide +kernel
theorem dL_law_194 : decode cL_law 194 = .ok (.ireturn, 1) := by decide +kernel
theorem dL_law_195 : decode cL_law 195 = .ok (.aload_n 1, 1) := by decide +kernel
theorem dL_law_196 : decode cL_law 196 = .ok (.aload_n 0, 1) := by decide +kernel
theorem dL_law_197 : decode cL_law 197 = .ok (.iload_n 3, 1) := by decide +kernel
theorem dL_law_198 : decode cL_law 198 = .ok (.iconst 1, 1) := by decide +kernel
theorem dL_law_199 : decode cL_law 199 = .ok (.iadd, 1) := by decide +kernel
theorem dL_law_200 : decode cL_law 200 = .ok (.iaload, 1) := by decide +kernel
theorem dL_law_201 : decode cL_law 201 = .ok (.invokevirtual 27, 3) := by decide +kernel
theorem dL_law_204 : decode cL_law 204 = .ok (.aload_n 2, 1) := by decide +kernel
theorem dL_law_205 : decode cL_law 205 = .ok (.aload_n 0, 1) := by decide +kernel
theorem dL_law_206 : decode cL_law 206 = .ok (.iload_n 3, 1) := by decide +kernel
theorem dL_law_207 : decode cL_law 207 = .ok (.iconst 1, 1) := by decide +kernel
theorem dL_law_208 : decode cL_law 208 = .ok (.iadd, 1) := by decide +kernel
theorem dL_law_209 : decode cL_law 209 = .ok (.iaload, 1) := by decide +kernel
theorem dL_law_210 : decode cL_law 210 = .ok (.invokevirtual 30, 3) := by decide +kernel
theorem dL_law_213 : decode cL_law 213 = .ok (.if_icmp .eq 423, 3) := by decide +kernel
theorem dL_law_216 : decode cL_law 216 = .ok (.iconst 0, 1) := by decide +kernel
theorem dL_law_217 : decode cL_law 217 = .ok (.ireturn, 1) := by decide +kernel
theorem dL_law_218 : decode cL_law 218 = .ok (.aload_n 1, 1) := by decide +kernel
theorem dL_law_219 : decode cL_law 219 = .ok (.aload_n 0, 1) := by decide +kernel
theorem dL_law_220 : decode cL_law 220 = .ok (.iload_n 3, 1) := by decide +kernel
theorem dL_law_221 : decode cL_law 221 = .ok (.iconst 1, 1) := by decide +kernel
theorem dL_law_222 : decode cL_law 222 = .ok (.iadd, 1) := by decide +kernel
theorem dL_law_223 : decode cL_law 223 = .ok (.iaload, 1) := by decide +kernel
theorem dL_law_224 : decode cL_law 224 = .ok (.invokevirtual 31, 3) := by decide +kernel
theorem dL_law_227 : decode cL_law 227 = .ok (.aload_n 2, 1) := by decide +kernel
theorem dL_law_228 : decode cL_law 228 = .ok (.aload_n 0, 1) := by decide +kernel
theorem dL_law_229 : decode cL_law 229 = .ok (.iload_n 3, 1) := by decide +kernel
theorem dL_law_230 : decode cL_law 230 = .ok (.iconst 1, 1) := by decide +kernel
theorem dL_law_231 : decode cL_law 231 = .ok (.iadd, 1) := by decide +kernel
theorem dL_law_232 : decode cL_law 232 = .ok (.iaload, 1) := by decide +kernel
theorem dL_law_233 : decode cL_law 233 = .ok (.invokevirtual 34, 3) := by decide +kernel
theorem dL_law_236 : decode cL_law 236 = .ok (.if_icmp .eq 400, 3) := by decide +kernel
theorem dL_law_239 : decode cL_law 239 = .ok (.iconst 0, 1) := by decide +kernel
theorem dL_law_240 : decode cL_law 240 = .ok (.ireturn, 1) := by decide +kernel
theorem dL_law_241 : decode cL_law 241 = .ok (.aload_n 1, 1) := by decide +kernel
theorem dL_law_242 : decode cL_law 242 = .ok (.aload_n 0, 1) := by decide +kernel
theorem dL_law_243 : decode cL_law 243 = .ok (.iload_n 3, 1) := by decide +kernel
theorem dL_law_244 : decode cL_law 244 = .ok (.iconst 1, 1) := by decide +kernel
theorem dL_law_245 : decode cL_law 245 = .ok (.iadd, 1) := by decide +kernel
theorem dL_law_246 : decode cL_law 246 = .ok (.iaload, 1) := by decide +kernel
theorem dL_law_247 : decode cL_law 247 = .ok (.aload_n 0, 1) := by decide +kernel
theorem dL_law_248 : decode cL_law 248 = .ok (.iload_n 3, 1) := by decide +kernel
theorem dL_law_249 : decode cL_law 249 = .ok (.iconst 2, 1) := by decide +kernel
theorem dL_law_250 : decode cL_law 250 = .ok (.iadd, 1) := by decide +kernel
theorem dL_law_251 : decode cL_law 251 = .ok (.iaload, 1) := by decide +kernel
theorem dL_law_252 : decode cL_law 252 = .ok (.aload_n 0, 1) := by decide +kernel
theorem dL_law_253 : decode cL_law 253 = .ok (.iload_n 3, 1) := by decide +kernel
theorem dL_law_254 : decode cL_law 254 = .ok (.iconst 3, 1) := by decide +kernel
theorem dL_law_255 : decode cL_law 255 = .ok (.iadd, 1) := by decide +kernel
theorem dL_law_256 : decode cL_law 256 = .ok (.iaload, 1) := by decide +kernel
theorem dL_law_257 : decode cL_law 257 = .ok (.invokevirtual 35, 3) := by decide +kernel
theorem dL_law_260 : decode cL_law 260 = .ok (.aload_n 2, 1) := by decide +kernel
theorem dL_law_261 : decode cL_law 261 = .ok (.aload_n 0, 1) := by decide +kernel
theorem dL_law_262 : decode cL_law 262 = .ok (.iload_n 3, 1) := by decide +kernel
theorem dL_law_263 : decode cL_law 263 = .ok (.iconst 1, 1) := by decide +kernel
theorem dL_law_264 : decode cL_law 264 = .ok (.iadd, 1) := by decide +kernel
theorem dL_law_265 : decode cL_law 265 = .ok (.iaload, 1) := by decide +kernel
theorem dL_law_266 : decode cL_law 266 = .ok (.aload_n 0, 1) := by decide +kernel
theorem dL_law_267 : decode cL_law 267 = .ok (.iload_n 3, 1) := by decide +kernel
theorem dL_law_268 : decode cL_law 268 = .ok (.iconst 2, 1) := by decide +kernel
theorem dL_law_269 : decode cL_law 269 = .ok (.iadd, 1) := by decide +kernel
theorem dL_law_270 : decode cL_law 270 = .ok (.iaload, 1) := by decide +kernel
theorem dL_law_271 : decode cL_law 271 = .ok (.aload_n 0, 1) := by decide +kernel
theorem dL_law_272 : decode cL_law 272 = .ok (.iload_n 3, 1) := by decide +kernel
theorem dL_law_273 : decode cL_law 273 = .ok (.iconst 3, 1) := by decide +kernel
theorem dL_law_274 : decode cL_law 274 = .ok (.iadd, 1) := by decide +kernel
theorem dL_law_275 : decode cL_law 275 = .ok (.iaload, 1) := by decide +kernel
theorem dL_law_276 : decode cL_law 276 = .ok (.invokevirtual 39, 3) := by decide +kernel
theorem dL_law_279 : decode cL_law 279 = .ok (.if_icmp .eq 357, 3) := by decide +kernel
theorem dL_law_282 : decode cL_law 282 = .ok (.iconst 0, 1) := by decide +kernel
theorem dL_law_283 : decode cL_law 283 = .ok (.ireturn, 1) := by decide +kernel
theorem dL_law_284 : decode cL_law 284 = .ok (.aload_n 1, 1) := by decide +kernel
theorem dL_law_285 : decode cL_law 285 = .ok (.aload_n 0, 1) := by decide +kernel
theorem dL_law_286 : decode cL_law 286 = .ok (.iload_n 3, 1) := by decide +kernel
theorem dL_law_287 : decode cL_law 287 = .ok (.iconst 1, 1) := by decide +kernel
theorem dL_law_288 : decode cL_law 288 = .ok (.iadd, 1) := by decide +kernel
theorem dL_law_289 : decode cL_law 289 = .ok (.iaload, 1) := by decide +kernel
theorem dL_law_290 : decode cL_law 290 = .ok (.aload_n 0, 1) := by decide +kernel
theorem dL_law_291 : decode cL_law 291 = .ok (.iload_n 3, 1) := by decide +kernel
theorem dL_law_292 : decode cL_law 292 = .ok (.iconst 2, 1) := by decide +kernel
theorem dL_law_293 : decode cL_law 293 = .ok (.iadd, 1) := by decide +kernel
theorem dL_law_294 : decode cL_law 294 = .ok (.iaload, 1) := by decide +kernel
theorem dL_law_295 : decode cL_law 295 = .ok (.invokevirtual 40, 3) := by decide +kernel
theorem dL_law_298 : decode cL_law 298 = .ok (.aload_n 2, 1) := by decide +kernel
theorem dL_law_299 : decode cL_law 299 = .ok (.aload_n 0, 1) := by decide +kernel
theorem dL_law_300 : decode cL_law 300 = .ok (.iload_n 3, 1) := by decide +kernel
theorem dL_law_301 : decode cL_law 301 = .ok (.iconst 1, 1) := by decide +kernel
theorem dL_law_302 : decode cL_law 302 = .ok (.iadd, 1) := by decide +kernel
theorem dL_law_303 : decode cL_law 303 = .ok (.iaload, 1) := by decide +kernel
theorem dL_law_304 : decode cL_law 304 = .ok (.aload_n 0, 1) := by decide +kernel
theorem dL_law_305 : decode cL_law 305 = .ok (.iload_n 3, 1) := by decide +kernel
theorem dL_law_306 : decode cL_law 306 = .ok (.iconst 2, 1) := by decide +kernel
theorem dL_law_307 : decode cL_law 307 = .ok (.iadd, 1) := by decide +kernel
theorem dL_law_308 : decode cL_law 308 = .ok (.iaload, 1) := by decide +kernel
theorem dL_law_309 : decode cL_law 309 = .ok (.invokevirtual 43, 3) := by decide +kernel
theorem dL_law_312 : decode cL_law 312 = .ok (.if_icmp .eq 324, 3) := by decide +kernel
theorem dL_law_315 : decode cL_law 315 = .ok (.iconst 0, 1) := by decide +kernel
theorem dL_law_316 : decode cL_law 316 = .ok (.ireturn, 1) := by decide +kernel
theorem dL_law_317 : decode cL_law 317 = .ok (.aload_n 1, 1) := by decide +kernel
theorem dL_law_318 : decode cL_law 318 = .ok (.aload_n 0, 1) := by decide +kernel
theorem dL_law_319 : decode cL_law 319 = .ok (.iload_n 3, 1) := by decide +kernel
theorem dL_law_320 : decode cL_law 320 = .ok (.iconst 1, 1) := by decide +kernel
theorem dL_law_321 : decode cL_law 321 = .ok (.iadd, 1) := by decide +kernel
theorem dL_law_322 : decode cL_law 322 = .ok (.iaload, 1) := by decide +kernel
theorem dL_law_323 : decode cL_law 323 = .ok (.aload_n 0, 1) := by decide +kernel
theorem dL_law_324 : decode cL_law 324 = .ok (.iload_n 3, 1) := by decide +kernel
theorem dL_law_325 : decode cL_law 325 = .ok (.iconst 2, 1) := by decide +kernel
theorem dL_law_326 : decode cL_law 326 = .ok (.iadd, 1) := by decide +kernel
theorem dL_law_327 : decode cL_law 327 = .ok (.iaload, 1) := by decide +kernel
theorem dL_law_328 : decode cL_law 328 = .ok (.invokevirtual 44, 3) := by decide +kernel
theorem dL_law_331 : decode cL_law 331 = .ok (.aload_n 2, 1) := by decide +kernel
theorem dL_law_332 : decode cL_law 332 = .ok (.aload_n 0, 1) := by decide +kernel
theorem dL_law_333 : decode cL_law 333 = .ok (.iload_n 3, 1) := by decide +kernel
theorem dL_law_334 : decode cL_law 334 = .ok (.iconst 1, 1) := by decide +kernel
theorem dL_law_335 : decode cL_law 335 = .ok (.iadd, 1) := by decide +kernel
theorem dL_law_336 : decode cL_law 336 = .ok (.iaload, 1) := by decide +kernel
theorem dL_law_337 : decode cL_law 337 = .ok (.aload_n 0, 1) := by decide +kernel
theorem dL_law_338 : decode cL_law 338 = .ok (.iload_n 3, 1) := by decide +kernel
theorem dL_law_339 : decode cL_law 339 = .ok (.iconst 2, 1) := by decide +kernel
theorem dL_law_340 : decode cL_law 340 = .ok (.iadd, 1) := by decide +kernel
theorem dL_law_341 : decode cL_law 341 = .ok (.iaload, 1) := by decide +kernel
theorem dL_law_342 : decode cL_law 342 = .ok (.invokevirtual 47, 3) := by decide +kernel
theorem dL_law_345 : decode cL_law 345 = .ok (.if_icmp .eq 291, 3) := by decide +kernel
theorem dL_law_348 : decode cL_law 348 = .ok (.iconst 0, 1) := by decide +kernel
theorem dL_law_349 : decode cL_law 349 = .ok (.ireturn, 1) := by decide +kernel
theorem dL_law_350 : decode cL_law 350 = .ok (.aload_n 1, 1) := by decide +kernel
theorem dL_law_351 : decode cL_law 351 = .ok (.aload_n 0, 1) := by decide +kernel
theorem dL_law_352 : decode cL_law 352 = .ok (.iload_n 3, 1) := by decide +kernel
theorem dL_law_353 : decode cL_law 353 = .ok (.iconst 1, 1) := by decide +kernel
theorem dL_law_354 : decode cL_law 354 = .ok (.iadd, 1) := by decide +kernel
theorem dL_law_355 : decode cL_law 355 = .ok (.iaload, 1) := by decide +kernel
theorem dL_law_356 : decode cL_law 356 = .ok (.invokevirtual 48, 3) := by decide +kernel
theorem dL_law_359 : decode cL_law 359 = .ok (.aload_n 2, 1) := by decide +kernel
theorem dL_law_360 : decode cL_law 360 = .ok (.aload_n 0, 1) := by decide +kernel
theorem dL_law_361 : decode cL_law 361 = .ok (.iload_n 3, 1) := by decide +kernel
theorem dL_law_362 : decode cL_law 362 = .ok (.iconst 1, 1) := by decide +kernel
theorem dL_law_363 : decode cL_law 363 = .ok (.iadd, 1) := by decide +kernel
theorem dL_law_364 : decode cL_law 364 = .ok (.iaload, 1) := by decide +kernel
theorem dL_law_365 : decode cL_law 365 = .ok (.invokevirtual 51, 3) := by decide +kernel
theorem dL_law_368 : decode cL_law 368 = .ok (.if_icmp .eq 268, 3) := by decide +kernel
theorem dL_law_371 : decode cL_law 371 = .ok (.iconst 0, 1) := by decide +kernel
theorem dL_law_372 : decode cL_law 372 = .ok (.ireturn, 1) := by decide +kernel
theorem dL_law_373 : decode cL_law 373 = .ok (.aload_n 1, 1) := by decide +kernel
theorem dL_law_374 : decode cL_law 374 = .ok (.aload_n 0, 1) := by decide +kernel
theorem dL_law_375 : decode cL_law 375 = .ok (.iload_n 3, 1) := by decide +kernel
theorem dL_law_376 : decode cL_law 376 = .ok (.iconst 1, 1) := by decide +kernel
theorem dL_law_377 : decode cL_law 377 = .ok (.iadd, 1) := by decide +kernel
theorem dL_law_378 : decode cL_law 378 = .ok (.iaload, 1) := by decide +kernel
theorem dL_law_379 : decode cL_law 379 = .ok (.aload_n 0, 1) := by decide +kernel
theorem dL_law_380 : decode cL_law 380 = .ok (.iload_n 3, 1) := by decide +kernel
theorem dL_law_381 : decode cL_law 381 = .ok (.iconst 2, 1) := by decide +kernel
theorem dL_law_382 : decode cL_law 382 = .ok (.iadd, 1) := by decide +kernel
theorem dL_law_383 : decode cL_law 383 = .ok (.iaload, 1) := by decide +kernel
theorem dL_law_384 : decode cL_law 384 = .ok (.invokevirtual 52, 3) := by decide +kernel
theorem dL_law_387 : decode cL_law 387 = .ok (.aload_n 2, 1) := by decide +kernel
theorem dL_law_388 : decode cL_law 388 = .ok (.aload_n 0, 1) := by decide +kernel
theorem dL_law_389 : decode cL_law 389 = .ok (.iload_n 3, 1) := by decide +kernel
theorem dL_law_390 : decode cL_law 390 = .ok (.iconst 1, 1) := by decide +kernel
theorem dL_law_391 : decode cL_law 391 = .ok (.iadd, 1) := by decide +kernel
theorem dL_law_392 : decode cL_law 392 = .ok (.iaload, 1) := by decide +kernel
theorem dL_law_393 : decode cL_law 393 = .ok (.aload_n 0, 1) := by decide +kernel
theorem dL_law_394 : decode cL_law 394 = .ok (.iload_n 3, 1) := by decide +kernel
theorem dL_law_395 : decode cL_law 395 = .ok (.iconst 2, 1) := by decide +kernel
theorem dL_law_396 : decode cL_law 396 = .ok (.iadd, 1) := by decide +kernel
theorem dL_law_397 : decode cL_law 397 = .ok (.iaload, 1) := by decide +kernel
theorem dL_law_398 : decode cL_law 398 = .ok (.invokevirtual 55, 3) := by decide +kernel
theorem dL_law_401 : decode cL_law 401 = .ok (.if_icmp .eq 235, 3) := by decide +kernel
theorem dL_law_404 : decode cL_law 404 = .ok (.iconst 0, 1) := by decide +kernel
theorem dL_law_405 : decode cL_law 405 = .ok (.ireturn, 1) := by decide +kernel
theorem dL_law_406 : decode cL_law 406 = .ok (.aload_n 1, 1) := by decide +kernel
theorem dL_law_407 : decode cL_law 407 = .ok (.aload_n 0, 1) := by decide +kernel
theorem dL_law_408 : decode cL_law 408 = .ok (.iload_n 3, 1) := by decide +kernel
theorem dL_law_409 : decode cL_law 409 = .ok (.iconst 1, 1) := by decide +kernel
theorem dL_law_410 : decode cL_law 410 = .ok (.iadd, 1) := by decide +kernel
theorem dL_law_411 : decode cL_law 411 = .ok (.iaload, 1) := by decide +kernel
theorem dL_law_412 : decode cL_law 412 = .ok (.aload_n 0, 1) := by decide +kernel
theorem dL_law_413 : decode cL_law 413 = .ok (.iload_n 3, 1) := by decide +kernel
theorem dL_law_414 : decode cL_law 414 = .ok (.iconst 2, 1) := by decide +kernel
theorem dL_law_415 : decode cL_law 415 = .ok (.iadd, 1) := by decide +kernel
theorem dL_law_416 : decode cL_law 416 = .ok (.iaload, 1) := by decide +kernel
theorem dL_law_417 : decode cL_law 417 = .ok (.invokevirtual 56, 3) := by decide +kernel
theorem dL_law_420 : decode cL_law 420 = .ok (.aload_n 2, 1) := by decide +kernel
theorem dL_law_421 : decode cL_law 421 = .ok (.aload_n 0, 1) := by decide +kernel
theorem dL_law_422 : decode cL_law 422 = .ok (.iload_n 3, 1) := by decide +kernel
theorem dL_law_423 : decode cL_law 423 = .ok (.iconst 1, 1) := by decide +kernel
theorem dL_law_424 : decode cL_law 424 = .ok (.iadd, 1) := by decide +kernel
theorem dL_law_425 : decode cL_law 425 = .ok (.iaload, 1) := by decide +kernel
theorem dL_law_426 : decode cL_law 426 = .ok (.aload_n 0, 1) := by decide +kernel
theorem dL_law_427 : decode cL_law 427 = .ok (.iload_n 3, 1) := by decide +kernel
theorem dL_law_428 : decode cL_law 428 = .ok (.iconst 2, 1) := by decide +kernel
theorem dL_law_429 : decode cL_law 429 = .ok (.iadd, 1) := by decide +kernel
theorem dL_law_430 : decode cL_law 430 = .ok (.iaload, 1) := by decide +kernel
theorem dL_law_431 : decode cL_law 431 = .ok (.invokevirtual 59, 3) := by decide +kernel
theorem dL_law_434 : decode cL_law 434 = .ok (.if_icmp .eq 202, 3) := by decide +kernel
theorem dL_law_437 : decode cL_law 437 = .ok (.iconst 0, 1) := by decide +kernel
theorem dL_law_438 : decode cL_law 438 = .ok (.ireturn, 1) := by decide +kernel
theorem dL_law_439 : decode cL_law 439 = .ok (.aload_n 1, 1) := by decide +kernel
theorem dL_law_440 : decode cL_law 440 = .ok (.aload_n 0, 1) := by decide +kernel
theorem dL_law_441 : decode cL_law 441 = .ok (.iload_n 3, 1) := by decide +kernel
theorem dL_law_442 : decode cL_law 442 = .ok (.iconst 1, 1) := by decide +kernel
theorem dL_law_443 : decode cL_law 443 = .ok (.iadd, 1) := by decide +kernel
theorem dL_law_444 : decode cL_law 444 = .ok (.iaload, 1) := by decide +kernel
theorem dL_law_445 : decode cL_law 445 = .ok (.aload_n 0, 1) := by decide +kernel
theorem dL_law_446 : decode cL_law 446 = .ok (.iload_n 3, 1) := by decide +kernel
theorem dL_law_447 : decode cL_law 447 = .ok (.iconst 2, 1) := by decide +kernel
theorem dL_law_448 : decode cL_law 448 = .ok (.iadd, 1) := by decide +kernel
theorem dL_law_449 : decode cL_law 449 = .ok (.iaload, 1) := by decide +kernel
theorem dL_law_450 : decode cL_law 450 = .ok (.invokevirtual 60, 3) := by decide +kernel
theorem dL_law_453 : decode cL_law 453 = .ok (.aload_n 2, 1) := by decide +kernel
theorem dL_law_454 : decode cL_law 454 = .ok (.aload_n 0, 1) := by decide +kernel
theorem dL_law_455 : decode cL_law 455 = .ok (.iload_n 3, 1) := by decide +kernel
theorem dL_law_456 : decode cL_law 456 = .ok (.iconst 1, 1) := by decide +kernel
theorem dL_law_457 : decode cL_law 457 = .ok (.iadd, 1) := by decide +kernel
theorem dL_law_458 : decode cL_law 458 = .ok (.iaload, 1) := by decide +kernel
theorem dL_law_459 : decode cL_law 459 = .ok (.aload_n 0, 1) := by decide +kernel
theorem dL_law_460 : decode cL_law 460 = .ok (.iload_n 3, 1) := by decide +kernel
theorem dL_law_461 : decode cL_law 461 = .ok (.iconst 2, 1) := by decide +kernel
theorem dL_law_462 : decode cL_law 462 = .ok (.iadd, 1) := by decide +kernel
theorem dL_law_463 : decode cL_law 463 = .ok (.iaload, 1) := by decide +kernel
theorem dL_law_464 : decode cL_law 464 = .ok (.invokevirtual 63, 3) := by decide +kernel
theorem dL_law_467 : decode cL_law 467 = .ok (.if_icmp .eq 169, 3) := by decide +kernel
theorem dL_law_470 : decode cL_law 470 = .ok (.iconst 0, 1) := by decide +kernel
theorem dL_law_471 : decode cL_law 471 = .ok (.ireturn, 1) := by decide +kernel
theorem dL_law_472 : decode cL_law 472 = .ok (.aload_n 1, 1) := by decide +kernel
theorem dL_law_473 : decode cL_law 473 = .ok (.aload_n 0, 1) := by decide +kernel
theorem dL_law_474 : decode cL_law 474 = .ok (.iload_n 3, 1) := by decide +kernel
theorem dL_law_475 : decode cL_law 475 = .ok (.iconst 1, 1) := by decide +kernel
theorem dL_law_476 : decode cL_law 476 = .ok (.iadd, 1) := by decide +kernel
theorem dL_law_477 : decode cL_law 477 = .ok (.iaload, 1) := by decide +kernel
theorem dL_law_478 : decode cL_law 478 = .ok (.invokevirtual 64, 3) := by decide +kernel
theorem dL_law_481 : decode cL_law 481 = .ok (.aload_n 2, 1) := by decide +kernel
theorem dL_law_482 : decode cL_law 482 = .ok (.aload_n 0, 1) := by decide +kernel
theorem dL_law_483 : decode cL_law 483 = .ok (.iload_n 3, 1) := by decide +kernel
theorem dL_law_484 : decode cL_law 484 = .ok (.iconst 1, 1) := by decide +kernel
theorem dL_law_485 : decode cL_law 485 = .ok (.iadd, 1) := by decide +kernel
theorem dL_law_486 : decode cL_law 486 = .ok (.iaload, 1) := by decide +kernel
theorem dL_law_487 : decode cL_law 487 = .ok (.invokevirtual 67, 3) := by decide +kernel
theorem dL_law_490 : decode cL_law 490 = .ok (.if_icmp .eq 146, 3) := by decide +kernel
theorem dL_law_493 : decode cL_law 493 = .ok (.iconst 0, 1) := by decide +kernel
theorem dL_law_494 : decode cL_law 494 = .ok (.ireturn, 1) := by decide +kernel
theorem dL_law_495 : decode cL_law 495 = .ok (.aload_n 1, 1) := by decide +kernel
theorem dL_law_496 : decode cL_law 496 = .ok (.aload_n 0, 1) := by decide +kernel
theorem dL_law_497 : decode cL_law 497 = .ok (.iload_n 3, 1) := by decide +kernel
theorem dL_law_498 : decode cL_law 498 = .ok (.iconst 1, 1) := by decide +kernel
theorem dL_law_499 : decode cL_law 499 = .ok (.iadd, 1) := by decide +kernel
theorem dL_law_500 : decode cL_law 500 = .ok (.iaload, 1) := by decide +kernel
theorem dL_law_501 : decode cL_law 501 = .ok (.invokevirtual 68, 3) := by decide +kernel
theorem dL_law_504 : decode cL_law 504 = .ok (.aload_n 2, 1) := by decide +kernel
theorem dL_law_505 : decode cL_law 505 = .ok (.aload_n 0, 1) := by decide +kernel
theorem dL_law_506 : decode cL_law 506 = .ok (.iload_n 3, 1) := by decide +kernel
theorem dL_law_507 : decode cL_law 507 = .ok (.iconst 1, 1) := by decide +kernel
theorem dL_law_508 : decode cL_law 508 = .ok (.iadd, 1) := by decide +kernel
theorem dL_law_509 : decode cL_law 509 = .ok (.iaload, 1) := by decide +kernel
theorem dL_law_510 : decode cL_law 510 = .ok (.invokevirtual 71, 3) := by decide +kernel
theorem dL_law_513 : decode cL_law 513 = .ok (.if_icmp .eq 123, 3) := by decide +kernel
theorem dL_law_516 : decode cL_law 516 = .ok (.iconst 0, 1) := by decide +kernel
theorem dL_law_517 : decode cL_law 517 = .ok (.ireturn, 1) := by decide +kernel
theorem dL_law_518 : decode cL_law 518 = .ok (.aload_n 1, 1) := by decide +kernel
theorem dL_law_519 : decode cL_law 519 = .ok (.invokevirtual 72, 3) := by decide +kernel
theorem dL_law_522 : decode cL_law 522 = .ok (.aload_n 2, 1) := by decide +kernel
theorem dL_law_523 : decode cL_law 523 = .ok (.invokevirtual 76, 3) := by decide +kernel
theorem dL_law_526 : decode cL_law 526 = .ok (.if_icmp .eq 110, 3) := by decide +kernel
theorem dL_law_529 : decode cL_law 529 = .ok (.iconst 0, 1) := by decide +kernel
theorem dL_law_530 : decode cL_law 530 = .ok (.ireturn, 1) := by decide +kernel
theorem dL_law_531 : decode cL_law 531 = .ok (.aload_n 1, 1) := by decide +kernel
theorem dL_law_532 : decode cL_law 532 = .ok (.aload_n 0, 1) := by decide +kernel
theorem dL_law_533 : decode cL_law 533 = .ok (.iload_n 3, 1) := by decide +kernel
theorem dL_law_534 : decode cL_law 534 = .ok (.iconst 1, 1) := by decide +kernel
theorem dL_law_535 : decode cL_law 535 = .ok (.iadd, 1) := by decide +kernel
theorem dL_law_536 : decode cL_law 536 = .ok (.iaload, 1) := by decide +kernel
theorem dL_law_537 : decode cL_law 537 = .ok (.invokevirtual 77, 3) := by decide +kernel
theorem dL_law_540 : decode cL_law 540 = .ok (.aload_n 2, 1) := by decide +kernel
theorem dL_law_541 : decode cL_law 541 = .ok (.aload_n 0, 1) := by decide +kernel
theorem dL_law_542 : decode cL_law 542 = .ok (.iload_n 3, 1) := by decide +kernel
theorem dL_law_543 : decode cL_law 543 = .ok (.iconst 1, 1) := by decide +kernel
theorem dL_law_544 : decode cL_law 544 = .ok (.iadd, 1) := by decide +kernel
theorem dL_law_545 : decode cL_law 545 = .ok (.iaload, 1) := by decide +kernel
theorem dL_law_546 : decode cL_law 546 = .ok (.invokevirtual 81, 3) := by decide +kernel
theorem dL_law_549 : decode cL_law 549 = .ok (.if_icmp .eq 87, 3) := by decide +kernel
theorem dL_law_552 : decode cL_law 552 = .ok (.iconst 0, 1) := by decide +kernel
theorem dL_law_553 : decode cL_law 553 = .ok (.ireturn, 1) := by decide +kernel
theorem dL_law_554 : decode cL_law 554 = .ok (.aload_n 1, 1) := by decide +kernel
theorem dL_law_555 : decode cL_law 555 = .ok (.invokevirtual 82, 3) := by decide +kernel
theorem dL_law_558 : decode cL_law 558 = .ok (.aload_n 2, 1) := by decide +kernel
theorem dL_law_559 : decode cL_law 559 = .ok (.invokevirtual 85, 3) := by decide +kernel
theorem dL_law_562 : decode cL_law 562 = .ok (.if_icmp .eq 74, 3) := by decide +kernel
theorem dL_law_565 : decode cL_law 565 = .ok (.iconst 0, 1) := by decide +kernel
theorem dL_law_566 : decode cL_law 566 = .ok (.ireturn, 1) := by decide +kernel
theorem dL_law_567 : decode cL_law 567 = .ok (.aload_n 1, 1) := by decide +kernel
theorem dL_law_568 : decode cL_law 568 = .ok (.aload_n 0, 1) := by decide +kernel
theorem dL_law_569 : decode cL_law 569 = .ok (.iload_n 3, 1) := by decide +kernel
theorem dL_law_570 : decode cL_law 570 = .ok (.iconst 1, 1) := by decide +kernel
theorem dL_law_571 : decode cL_law 571 = .ok (.iadd, 1) := by decide +kernel
theorem dL_law_572 : decode cL_law 572 = .ok (.iaload, 1) := by decide +kernel
theorem dL_law_573 : decode cL_law 573 = .ok (.aload_n 0, 1) := by decide +kernel
theorem dL_law_574 : decode cL_law 574 = .ok (.iload_n 3, 1) := by decide +kernel
theorem dL_law_575 : decode cL_law 575 = .ok (.iconst 2, 1) := by decide +kernel
theorem dL_law_576 : decode cL_law 576 = .ok (.iadd, 1) := by decide +kernel
theorem dL_law_577 : decode cL_law 577 = .ok (.iaload, 1) := by decide +kernel
theorem dL_law_578 : decode cL_law 578 = .ok (.invokevirtual 86, 3) := by decide +kernel
theorem dL_law_581 : decode cL_law 581 = .ok (.aload_n 2, 1) := by decide +kernel
theorem dL_law_582 : decode cL_law 582 = .ok (.aload_n 0, 1) := by decide +kernel
theorem dL_law_583 : decode cL_law 583 = .ok (.iload_n 3, 1) := by decide +kernel
theorem dL_law_584 : decode cL_law 584 = .ok (.iconst 1, 1) := by decide +kernel
theorem dL_law_585 : decode cL_law 585 = .ok (.iadd, 1) := by decide +kernel
theorem dL_law_586 : decode cL_law 586 = .ok (.iaload, 1) := by decide +kernel
theorem dL_law_587 : decode cL_law 587 = .ok (.aload_n 0, 1) := by decide +kernel
theorem dL_law_588 : decode cL_law 588 = .ok (.iload_n 3, 1) := by decide +kernel
theorem dL_law_589 : decode cL_law 589 = .ok (.iconst 2, 1) := by decide +kernel
theorem dL_law_590 : decode cL_law 590 = .ok (.iadd, 1) := by decide +kernel
theorem dL_law_591 : decode cL_law 591 = .ok (.iaload, 1) := by decide +kernel
theorem dL_law_592 : decode cL_law 592 = .ok (.invokevirtual 90, 3) := by decide +kernel
theorem dL_law_595 : decode cL_law 595 = .ok (.if_icmp .eq 41, 3) := by decide +kernel
theorem dL_law_598 : decode cL_law 598 = .ok (.iconst 0, 1) := by decide +kernel
theorem dL_law_599 : decode cL_law 599 = .ok (.ireturn, 1) := by decide +kernel
theorem dL_law_600 : decode cL_law 600 = .ok (.aload_n 1, 1) := by decide +kernel
theorem dL_law_601 : decode cL_law 601 = .ok (.invokevirtual 91, 3) := by decide +kernel
theorem dL_law_604 : decode cL_law 604 = .ok (.aload_n 2, 1) := by decide +kernel
theorem dL_law_605 : decode cL_law 605 = .ok (.invokevirtual 94, 3) := by decide +kernel
theorem dL_law_608 : decode cL_law 608 = .ok (.if_icmp .eq 28, 3) := by decide +kernel
theorem dL_law_611 : decode cL_law 611 = .ok (.iconst 0, 1) := by decide +kernel
theorem dL_law_612 : decode cL_law 612 = .ok (.ireturn, 1) := by decide +kernel
theorem dL_law_613 : decode cL_law 613 = .ok (.aload_n 1, 1) := by decide +kernel
theorem dL_law_614 : decode cL_law 614 = .ok (.aload_n 0, 1) := by decide +kernel
theorem dL_law_615 : decode cL_law 615 = .ok (.iload_n 3, 1) := by decide +kernel
theorem dL_law_616 : decode cL_law 616 = .ok (.iconst 1, 1) := by decide +kernel
theorem dL_law_617 : decode cL_law 617 = .ok (.iadd, 1) := by decide +kernel
theorem dL_law_618 : decode cL_law 618 = .ok (.iaload, 1) := by decide +kernel
theorem dL_law_619 : decode cL_law 619 = .ok (.invokevirtual 95, 3) := by decide +kernel
theorem dL_law_622 : decode cL_law 622 = .ok (.aload_n 2, 1) := by decide +kernel
theorem dL_law_623 : decode cL_law 623 = .ok (.aload_n 0, 1) := by decide +kernel
theorem dL_law_624 : decode cL_law 624 = .ok (.iload_n 3, 1) := by decide +kernel
theorem dL_law_625 : decode cL_law 625 = .ok (.iconst 1, 1) := by decide +kernel
theorem dL_law_626 : decode cL_law 626 = .ok (.iadd, 1) := by decide +kernel
theorem dL_law_627 : decode cL_law 627 = .ok (.iaload, 1) := by decide +kernel
theorem dL_law_628 : decode cL_law 628 = .ok (.invokevirtual 98, 3) := by decide +kernel
theorem dL_law_631 : decode cL_law 631 = .ok (.if_icmp .eq 5, 3) := by decide +kernel
theorem dL_law_634 : decode cL_law 634 = .ok (.iconst 0, 1) := by decide +kernel
theorem dL_law_635 : decode cL_law 635 = .ok (.ireturn, 1) := by decide +kernel
theorem dL_law_636 : decode cL_law 636 = .ok (.iinc 3 4, 3) := by decide +kernel
theorem dL_law_639 : decode cL_law 639 = .ok (.goto (-621), 3) := by decide +kernel
theorem dL_law_642 : decode cL_law 642 = .ok (.iconst 1, 1) := by decide +kernel
theorem dL_law_643 : decode cL_law 643 = .ok (.ireturn, 1) := by decide +kernel
end
section
theorem inlX1 : ∀ w ∈ wsX10, w ∈ wsL_law := fun _ h => List.mem_append_left _ (List.mem_append_left _ (List.mem_append_right _ h))
theorem inlX2 : ∀ w ∈ wsX20, w ∈ wsL_law := fun _ h => List.mem_append_left _ (List.mem_append_right _ h)
theorem inlX4 : ∀ w ∈ wsX40, w ∈ wsL_law := fun _ h => List.mem_append_left _ (List.mem_append_left _ (List.mem_append_left _ (List.mem_append_left _ (List.mem_append_right _ h))))
theorem inlX5 : ∀ w ∈ wsX50, w ∈ wsL_law := fun _ h => List.mem_append_left _ (List.mem_append_left _ (List.mem_append_left _ (List.mem_append_right _ h)))
set_option maxRecDepth 100000 in
theorem wsL_law_r1_in : ∀ w ∈ wsL_law_r1, w ∈ lw_tbl := fun w h => (goodIn_r (big := lw_tbl) wsL_law_r1 [48, 49, 41, 446, 447, 45, 50, 51, 52, 53, 54, 55, 56, 57, 42, 99, 68, 69, 43, 100, 101, 67, 102, 59] (by decide +kernel) (by decide +kernel) w h).1
set_option maxRecDepth 100000 in
theorem wsL_law_r2_in : ∀ w ∈ wsL_law_r2, w ∈ lw_tbl := fun w h => (goodIn_r (big := lw_tbl) wsL_law_r2 [60, 61, 62, 71, 72, 73, 74, 80, 82, 0, 83, 63, 84, 85, 86, 87, 88, 89, 90, 91, 92, 94, 93, 44] (by decide +kernel) (by decide +kernel) w h).1
set_option maxRecDepth 100000 in
theorem wsL_law_r3_in : ∀ w ∈ wsL_law_r3, w ∈ lw_tbl := fun w h => (goodIn_r (big := lw_tbl) wsL_law_r3 [95, 97, 1, 98, 104, 103, 448, 449, 450, 451, 459, 462, 463, 464, 465, 496, 466, 469, 470, 452, 453, 454, 455, 460] (by decide +kernel) (by decide +kernel) w h).1
set_option maxRecDepth 100000 in
theorem wsL_law_r4_in : ∀ w ∈ wsL_law_r4, w ∈ lw_tbl := fun w h => (goodIn_r (big := lw_tbl) wsL_law_r4 [461, 456, 457, 458, 118, 119, 120, 121, 497, 122, 123, 124, 125, 126, 127, 128, 129, 130, 131, 132, 133, 134, 135, 136] (by decide +kernel) (by decide +kernel) w h).1
set_option maxRecDepth 100000 in
theorem wsL_law_r5_in : ∀ w ∈ wsL_law_r5, w ∈ lw_tbl := fun w h => (goodIn_r (big := lw_tbl) wsL_law_r5 [137, 138, 139, 140, 141, 142, 143, 144, 145, 146, 147, 498, 499, 500, 501, 502, 504, 15, 505, 148, 149, 150, 151, 152] (by decide +kernel) (by decide +kernel) w h).1
set_option maxRecDepth 100000 in
theorem wsL_law_r6_in : ∀ w ∈ wsL_law_r6, w ∈ lw_tbl := fun w h => (goodIn_r (big := lw_tbl) wsL_law_r6 [154, 2, 155, 156, 157, 158, 159, 160, 161, 162, 163, 164, 165, 166, 167, 168, 169, 170, 171, 172, 173, 174, 175, 176] (by decide +kernel) (by decide +kernel) w h).1
set_option maxRecDepth 100000 in
theorem wsL_law_r7_in : ∀ w ∈ wsL_law_r7, w ∈ lw_tbl := fun w h => (goodIn_r (big := lw_tbl) wsL_law_r7 [177, 178, 179, 180, 181, 46, 182, 183, 184, 185, 186, 187, 188, 189, 190, 191, 192, 193, 194, 195, 196, 198, 3, 199] (by decide +kernel) (by decide +kernel) w h).1
set_option maxRecDepth 100000 in
theorem wsL_law_r8_in : ∀ w ∈ wsL_law_r8, w ∈ lw_tbl := fun w h => (goodIn_r (big := lw_tbl) wsL_law_r8 [200, 201, 202, 203, 204, 205, 206, 207, 208, 209, 210, 211, 212, 213, 214, 215, 216, 217, 218, 219, 506, 507, 508, 509] (by decide +kernel) (by decide +kernel) w h).1
set_option maxRecDepth 100000 in
theorem wsL_law_r9_in : ∀ w ∈ wsL_law_r9, w ∈ lw_tbl := fun w h => (goodIn_r (big := lw_tbl) wsL_law_r9 [510, 512, 16, 513, 514, 516, 17, 517, 518, 520, 18, 521, 522, 524, 19, 525, 526, 528, 20, 529, 530, 531, 532, 533] (by decide +kernel) (by decide +kernel) w h).1
set_option maxRecDepth 100000 in
theorem wsL_law_r10_in : ∀ w ∈ wsL_law_r10, w ∈ lw_tbl := fun w h => (goodIn_r (big := lw_tbl) wsL_law_r10 [534, 535, 536, 537, 538, 539, 540, 541, 220, 221, 222, 223, 224, 226, 4, 227, 546, 547, 548, 549, 228, 229, 230, 231] (by decide +kernel) (by decide +kernel) w h).1
set_option maxRecDepth 100000 in
theorem wsL_law_r11_in : ∀ w ∈ wsL_law_r11, w ∈ lw_tbl := fun w h => (goodIn_r (big := lw_tbl) wsL_law_r11 [232, 234, 5, 235, 550, 551, 552, 553, 554, 556, 21, 557, 236, 237, 238, 239, 240, 241, 242, 243, 244, 245, 247, 6] (by decide +kernel) (by decide +kernel) w h).1
set_option maxRecDepth 100000 in
theorem wsL_law_r12_in : ∀ w ∈ wsL_law_r12, w ∈ lw_tbl := fun w h => (goodIn_r (big := lw_tbl) wsL_law_r12 [248, 249, 251, 7, 252, 253, 254, 255, 256, 258, 8, 259, 260, 262, 9, 263, 264, 265, 266, 267, 268, 269, 270, 271] (by decide +kernel) (by decide +kernel) w h).1
set_option maxRecDepth 100000 in
theorem wsL_law_r13_in : ∀ w ∈ wsL_law_r13, w ∈ lw_tbl := fun w h => (goodIn_r (big := lw_tbl) wsL_law_r13 [272, 273, 274, 275, 276, 277, 278, 279, 280, 558, 559, 560, 561, 562, 564, 22, 565, 467, 566, 568, 23, 569, 468, 570] (by decide +kernel) (by decide +kernel) w h).1
set_option maxRecDepth 100000 in
theorem wsL_law_r14_in : ∀ w ∈ wsL_law_r14, w ∈ lw_tbl := fun w h => (goodIn_r (big := lw_tbl) wsL_law_r14 [572, 24, 573, 574, 575, 576, 577, 578, 579, 580, 581, 582, 583, 585, 25, 586, 587, 589, 26, 590, 281, 282, 283, 284] (by decide +kernel) (by decide +kernel) w h).1
set_option maxRecDepth 100000 in
theorem wsL_law_r15_in : ∀ w ∈ wsL_law_r15, w ∈ lw_tbl := fun w h => (goodIn_r (big := lw_tbl) wsL_law_r15 [285, 286, 287, 288, 591, 592, 593, 594, 289, 290, 291, 292, 293, 595, 596, 597, 598, 599, 601, 27, 602, 294, 295, 296] (by decide +kernel) (by decide +kernel) w h).1
set_option maxRecDepth 100000 in
theorem wsL_law_r16_in : ∀ w ∈ wsL_law_r16, w ∈ lw_tbl := fun w h => (goodIn_r (big := lw_tbl) wsL_law_r16 [297, 603, 604, 605, 606, 298, 299, 300, 301, 302, 607, 608, 609, 610, 303, 304, 305, 306, 307, 308, 309, 310, 542, 543] (by decide +kernel) (by decide +kernel) w h).1
set_option maxRecDepth 100000 in
theorem wsL_law_r17_in : ∀ w ∈ wsL_law_r17, w ∈ lw_tbl := fun w h => (goodIn_r (big := lw_tbl) wsL_law_r17 [544, 545, 311, 312, 313, 314, 315, 316, 317, 318, 319, 611, 612, 613, 614, 320, 321, 322, 323, 615, 616, 617, 618, 324] (by decide +kernel) (by decide +kernel) w h).1
set_option maxRecDepth 100000 in
theorem wsL_law_r18_in : ∀ w ∈ wsL_law_r18, w ∈ lw_tbl := fun w h => (goodIn_r (big := lw_tbl) wsL_law_r18 [325, 326, 327, 328, 329, 330, 331, 619, 620, 621, 622, 623, 624, 625, 332, 333, 334, 335, 336, 338, 10, 339, 340, 342] (by decide +kernel) (by decide +kernel) w h).1
set_option maxRecDepth 100000 in
theorem wsL_law_r19_in : ∀ w ∈ wsL_law_r19, w ∈ lw_tbl := fun w h => (goodIn_r (big := lw_tbl) wsL_law_r19 [11, 343, 76, 344, 346, 12, 347, 348, 350, 13, 351, 352, 353, 354, 355, 357, 14, 358, 626, 627, 628, 629, 630, 632] (by decide +kernel) (by decide +kernel) w h).1
set_option maxRecDepth 100000 in
theorem wsL_law_r20_in : ∀ w ∈ wsL_law_r20, w ∈ lw_tbl := fun w h => (goodIn_r (big := lw_tbl) wsL_law_r20 [28, 633, 359, 360, 361, 362, 634, 635, 636, 637, 363, 364, 365, 366, 367, 368, 369, 370, 371, 372, 373, 374, 375, 376] (by decide +kernel) (by decide +kernel) w h).1
set_option maxRecDepth 100000 in
theorem wsL_law_r21_in : ∀ w ∈ wsL_law_r21, w ∈ lw_tbl := fun w h => (goodIn_r (big := lw_tbl) wsL_law_r21 [377, 378, 379, 380, 381, 47, 382, 75, 383, 384, 385, 386, 387, 388, 389, 390, 391, 392, 393, 394, 395, 396, 397, 398] (by decide +kernel) (by decide +kernel) w h).1
set_option maxRecDepth 100000 in
theorem wsL_law_r22_in : ∀ w ∈ wsL_law_r22, w ∈ lw_tbl := fun w h => (goodIn_r (big := lw_tbl) wsL_law_r22 [399, 400, 401, 402, 403, 404, 405, 406, 407, 408, 409, 410, 411, 412, 413, 414, 415, 416, 417, 418, 419, 420, 421, 422] (by decide +kernel) (by decide +kernel) w h).1
set_option maxRecDepth 100000 in
theorem wsL_law_r23_in : ∀ w ∈ wsL_law_r23, w ∈ lw_tbl := fun w h => (goodIn_r (big := lw_tbl) wsL_law_r23 [423, 424, 425, 426, 427, 428, 429, 430, 431, 432, 638, 639, 640, 641, 642, 644, 29, 645, 646, 648, 30, 649, 650, 652] (by decide +kernel) (by decide +kernel) w h).1
set_option maxRecDepth 100000 in
theorem wsL_law_r24_in : ∀ w ∈ wsL_law_r24, w ∈ lw_tbl := fun w h => (goodIn_r (big := lw_tbl) wsL_law_r24 [31, 653, 654, 656, 32, 657, 658, 660, 33, 661, 662, 664, 34, 665, 666, 667, 668, 669, 671, 35, 672, 673, 675, 36] (by decide +kernel) (by decide +kernel) w h).1
set_option maxRecDepth 100000 in
theorem wsL_law_r25_in : ∀ w ∈ wsL_law_r25, w ∈ lw_tbl := fun w h => (goodIn_r (big := lw_tbl) wsL_law_r25 [676, 677, 679, 37, 680, 681, 683, 38, 684, 685, 687, 39, 688, 433, 434, 435, 436, 689, 690, 691, 692, 437, 438, 439] (by decide +kernel) (by decide +kernel) w h).1
set_option maxRecDepth 100000 in
theorem wsL_law_r26_in : ∀ w ∈ wsL_law_r26, w ∈ lw_tbl := fun w h => (goodIn_r (big := lw_tbl) wsL_law_r26 [440, 441, 693, 694, 695, 696, 442, 443, 444, 445, 697, 698, 699, 700] (by decide +kernel) (by decide +kernel) w h).1
set_option maxRecDepth 100000 in
theorem inX1 : ∀ w ∈ wsX10, w ∈ lw_tbl := fun w h => (goodIn_r (big := lw_tbl) wsX10 [64] (by decide +kernel) (by decide +kernel) w h).1
set_option maxRecDepth 100000 in
theorem inX2 : ∀ w ∈ wsX20, w ∈ lw_tbl := fun w h => (goodIn_r (big := lw_tbl) wsX20 [77] (by decide +kernel) (by decide +kernel) w h).1
set_option maxRecDepth 100000 in
theorem inX4 : ∀ w ∈ wsX40, w ∈ lw_tbl := fun w h => (goodIn_r (big := lw_tbl) wsX40 [105, 107, 109, 111, 113, 115] (by decide +kernel) (by decide +kernel) w h).1
set_option maxRecDepth 100000 in
theorem inX5 : ∀ w ∈ wsX50, w ∈ lw_tbl := fun w h => (goodIn_r (big := lw_tbl) wsX50 [471, 473, 475, 477, 479, 481, 483, 485, 487, 489, 491, 493] (by decide +kernel) (by decide +kernel) w h).1
theorem mem_app {α : Type} {P : α → Prop} {a b : List α} (ha : ∀ w ∈ a, P w) (hb : ∀ w ∈ b, P w) : ∀ w ∈ a ++ b, P w := fun w h => (List.mem_append.mp h).elim (ha w) (hb w)
theorem wsL_law_in : ∀ w ∈ wsL_law, w ∈ lw_tbl := mem_app (mem_app (mem_app (mem_app (mem_app (mem_app wsL_law_r1_in (mem_app wsL_law_r2_in (mem_app wsL_law_r3_in (mem_app wsL_law_r4_in (mem_app wsL_law_r5_in (mem_app wsL_law_r6_in (mem_app wsL_law_r7_in (mem_app wsL_law_r8_in (mem_app wsL_law_r9_in (mem_app wsL_law_r10_in (mem_app wsL_law_r11_in (mem_app wsL_law_r12_in (mem_app wsL_law_r13_in (mem_app wsL_law_r14_in (mem_app wsL_law_r15_in (mem_app wsL_law_r16_in (mem_app wsL_law_r17_in (mem_app wsL_law_r18_in (mem_app wsL_law_r19_in (mem_app wsL_law_r20_in (mem_app wsL_law_r21_in (mem_app wsL_law_r22_in (mem_app wsL_law_r23_in (mem_app wsL_law_r24_in (mem_app wsL_law_r25_in wsL_law_r26_in))))))))))))))))))))))))) inX4) inX5) inX1) inX2) (fun _ h => absurd h List.not_mem_nil)
end
