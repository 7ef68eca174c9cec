section
-- ===== PART A: goes FIRST, ahead of the names: the tables' words, and 'selects' of the private methods out of them =====
/-- a private method of a class that the tables say can be made, by its rows of tables_1 -/
def lw_okq (q : MethodName × Nat) : Prop := (q.1.cls ≠ "java/lang/invoke/MethodHandle" ∧ q.1.cls ≠ "java/lang/invoke/VarHandle") ∧ Cond.instantiable q.1.cls q.2 ∈ tables_1 ∧ Cond.privateMethod q.1 ∈ tables_1 ∧ Cond.instanceMethod q.1 ∈ tables_1
theorem lw_p0 : lw_okq (⟨"SnapRows", "look", "(LSnapRows$Transaction;I)I"⟩, 6) := ⟨⟨by decide +kernel, by decide +kernel⟩, List.mem_of_getElem? (i := 9) (by decide +kernel), List.mem_of_getElem? (i := 198) (by decide +kernel), List.mem_of_getElem? (i := 199) (by decide +kernel)⟩
theorem lw_p1 : lw_okq (⟨"SnapRows", "isForCleaning", "(LSnapRows$Cell;)Z"⟩, 6) := ⟨⟨by decide +kernel, by decide +kernel⟩, List.mem_of_getElem? (i := 9) (by decide +kernel), List.mem_of_getElem? (i := 210) (by decide +kernel), List.mem_of_getElem? (i := 211) (by decide +kernel)⟩
theorem lw_p2 : lw_okq (⟨"SnapRows", "isLate", "(LSnapRows$Cell;)Z"⟩, 6) := ⟨⟨by decide +kernel, by decide +kernel⟩, List.mem_of_getElem? (i := 9) (by decide +kernel), List.mem_of_getElem? (i := 218) (by decide +kernel), List.mem_of_getElem? (i := 219) (by decide +kernel)⟩
theorem lw_p3 : lw_okq (⟨"SnapRows$Table", "addLine", "(I)V"⟩, 6) := ⟨⟨by decide +kernel, by decide +kernel⟩, List.mem_of_getElem? (i := 17) (by decide +kernel), List.mem_of_getElem? (i := 235) (by decide +kernel), List.mem_of_getElem? (i := 236) (by decide +kernel)⟩
theorem lw_p4 : lw_okq (⟨"SnapRows", "lookFrom", "(LSnapRows$Transaction;I)I"⟩, 6) := ⟨⟨by decide +kernel, by decide +kernel⟩, List.mem_of_getElem? (i := 9) (by decide +kernel), List.mem_of_getElem? (i := 297) (by decide +kernel), List.mem_of_getElem? (i := 298) (by decide +kernel)⟩
theorem lw_p5 : lw_okq (⟨"SnapRows$Transaction", "putRow", "(I)V"⟩, 10) := ⟨⟨by decide +kernel, by decide +kernel⟩, List.mem_of_getElem? (i := 99) (by decide +kernel), List.mem_of_getElem? (i := 310) (by decide +kernel), List.mem_of_getElem? (i := 311) (by decide +kernel)⟩
theorem lw_p6 : lw_okq (⟨"SnapRows", "goOn", "(LSnapRows$Transaction;)I"⟩, 6) := ⟨⟨by decide +kernel, by decide +kernel⟩, List.mem_of_getElem? (i := 9) (by decide +kernel), List.mem_of_getElem? (i := 326) (by decide +kernel), List.mem_of_getElem? (i := 327) (by decide +kernel)⟩
theorem lw_p7 : lw_okq (⟨"SnapRows", "lockRow", "(LSnapRows$Transaction;)I"⟩, 6) := ⟨⟨by decide +kernel, by decide +kernel⟩, List.mem_of_getElem? (i := 9) (by decide +kernel), List.mem_of_getElem? (i := 330) (by decide +kernel), List.mem_of_getElem? (i := 331) (by decide +kernel)⟩
theorem lw_p8 : lw_okq (⟨"SnapRows", "lose", "(LSnapRows$Transaction;)I"⟩, 6) := ⟨⟨by decide +kernel, by decide +kernel⟩, List.mem_of_getElem? (i := 9) (by decide +kernel), List.mem_of_getElem? (i := 334) (by decide +kernel), List.mem_of_getElem? (i := 335) (by decide +kernel)⟩
theorem lw_p9 : lw_okq (⟨"SnapRows", "decide", "(LSnapRows$Transaction;)I"⟩, 6) := ⟨⟨by decide +kernel, by decide +kernel⟩, List.mem_of_getElem? (i := 9) (by decide +kernel), List.mem_of_getElem? (i := 346) (by decide +kernel), List.mem_of_getElem? (i := 347) (by decide +kernel)⟩
theorem lw_p10 : lw_okq (⟨"SnapRows", "settleCells", "(LSnapRows$Transaction;I)V"⟩, 6) := ⟨⟨by decide +kernel, by decide +kernel⟩, List.mem_of_getElem? (i := 9) (by decide +kernel), List.mem_of_getElem? (i := 350) (by decide +kernel), List.mem_of_getElem? (i := 351) (by decide +kernel)⟩
theorem lw_p11 : lw_okq (⟨"SnapRows", "settleRow", "(LSnapRows$Transaction;)I"⟩, 6) := ⟨⟨by decide +kernel, by decide +kernel⟩, List.mem_of_getElem? (i := 9) (by decide +kernel), List.mem_of_getElem? (i := 360) (by decide +kernel), List.mem_of_getElem? (i := 361) (by decide +kernel)⟩
theorem lw_p12 : lw_okq (⟨"SnapRows", "undoRow", "(LSnapRows$Transaction;)I"⟩, 6) := ⟨⟨by decide +kernel, by decide +kernel⟩, List.mem_of_getElem? (i := 9) (by decide +kernel), List.mem_of_getElem? (i := 364) (by decide +kernel), List.mem_of_getElem? (i := 365) (by decide +kernel)⟩
theorem lw_p13 : lw_okq (⟨"SnapRows", "undoCells", "(LSnapRows$Transaction;I)Z"⟩, 6) := ⟨⟨by decide +kernel, by decide +kernel⟩, List.mem_of_getElem? (i := 9) (by decide +kernel), List.mem_of_getElem? (i := 368) (by decide +kernel), List.mem_of_getElem? (i := 369) (by decide +kernel)⟩
theorem lw_p14 : lw_okq (⟨"SnapRows", "isBeginBelow", "(I)Z"⟩, 6) := ⟨⟨by decide +kernel, by decide +kernel⟩, List.mem_of_getElem? (i := 9) (by decide +kernel), List.mem_of_getElem? (i := 406) (by decide +kernel), List.mem_of_getElem? (i := 407) (by decide +kernel)⟩
theorem lw_p15 : lw_okq (⟨"SnapRows$Table", "dropUnseenOf", "(LSnapRows$Cell;I)V"⟩, 6) := ⟨⟨by decide +kernel, by decide +kernel⟩, List.mem_of_getElem? (i := 17) (by decide +kernel), List.mem_of_getElem? (i := 419) (by decide +kernel), List.mem_of_getElem? (i := 420) (by decide +kernel)⟩
def lw_privs_1 : List (MethodName × Nat) := [(⟨"SnapRows", "look", "(LSnapRows$Transaction;I)I"⟩, 6), (⟨"SnapRows", "isForCleaning", "(LSnapRows$Cell;)Z"⟩, 6), (⟨"SnapRows", "isLate", "(LSnapRows$Cell;)Z"⟩, 6), (⟨"SnapRows$Table", "addLine", "(I)V"⟩, 6), (⟨"SnapRows", "lookFrom", "(LSnapRows$Transaction;I)I"⟩, 6), (⟨"SnapRows$Transaction", "putRow", "(I)V"⟩, 10), (⟨"SnapRows", "goOn", "(LSnapRows$Transaction;)I"⟩, 6), (⟨"SnapRows", "lockRow", "(LSnapRows$Transaction;)I"⟩, 6), (⟨"SnapRows", "lose", "(LSnapRows$Transaction;)I"⟩, 6), (⟨"SnapRows", "decide", "(LSnapRows$Transaction;)I"⟩, 6), (⟨"SnapRows", "settleCells", "(LSnapRows$Transaction;I)V"⟩, 6), (⟨"SnapRows", "settleRow", "(LSnapRows$Transaction;)I"⟩, 6), (⟨"SnapRows", "undoRow", "(LSnapRows$Transaction;)I"⟩, 6), (⟨"SnapRows", "undoCells", "(LSnapRows$Transaction;I)Z"⟩, 6), (⟨"SnapRows", "isBeginBelow", "(I)Z"⟩, 6), (⟨"SnapRows$Table", "dropUnseenOf", "(LSnapRows$Cell;I)V"⟩, 6)]
theorem lw_r1 : ∀ q ∈ lw_privs_1, lw_okq q := List.forall_mem_cons.mpr ⟨lw_p0, List.forall_mem_cons.mpr ⟨lw_p1, List.forall_mem_cons.mpr ⟨lw_p2, List.forall_mem_cons.mpr ⟨lw_p3, List.forall_mem_cons.mpr ⟨lw_p4, List.forall_mem_cons.mpr ⟨lw_p5, List.forall_mem_cons.mpr ⟨lw_p6, List.forall_mem_cons.mpr ⟨lw_p7, List.forall_mem_cons.mpr ⟨lw_p8, List.forall_mem_cons.mpr ⟨lw_p9, List.forall_mem_cons.mpr ⟨lw_p10, List.forall_mem_cons.mpr ⟨lw_p11, List.forall_mem_cons.mpr ⟨lw_p12, List.forall_mem_cons.mpr ⟨lw_p13, List.forall_mem_cons.mpr ⟨lw_p14, List.forall_mem_cons.mpr ⟨lw_p15, fun _ h => absurd h List.not_mem_nil⟩⟩⟩⟩⟩⟩⟩⟩⟩⟩⟩⟩⟩⟩⟩⟩
theorem lw_p16 : lw_okq (⟨"SnapRows$Table", "dropWrite", "(LSnapRows$Cell;LSnapRows$Entry;)V"⟩, 6) := ⟨⟨by decide +kernel, by decide +kernel⟩, List.mem_of_getElem? (i := 17) (by decide +kernel), List.mem_of_getElem? (i := 423) (by decide +kernel), List.mem_of_getElem? (i := 424) (by decide +kernel)⟩
theorem lw_p17 : lw_okq (⟨"SnapRowsModel", "give", "()I"⟩, 32) := ⟨⟨by decide +kernel, by decide +kernel⟩, List.mem_of_getElem? (i := 459) (by decide +kernel), List.mem_of_getElem? (i := 573) (by decide +kernel), List.mem_of_getElem? (i := 574) (by decide +kernel)⟩
theorem lw_p18 : lw_okq (⟨"SnapRowsModel", "see", "(II)I"⟩, 32) := ⟨⟨by decide +kernel, by decide +kernel⟩, List.mem_of_getElem? (i := 459) (by decide +kernel), List.mem_of_getElem? (i := 584) (by decide +kernel), List.mem_of_getElem? (i := 585) (by decide +kernel)⟩
theorem lw_p19 : lw_okq (⟨"SnapRowsModel", "ownAt", "(II)I"⟩, 32) := ⟨⟨by decide +kernel, by decide +kernel⟩, List.mem_of_getElem? (i := 459) (by decide +kernel), List.mem_of_getElem? (i := 588) (by decide +kernel), List.mem_of_getElem? (i := 589) (by decide +kernel)⟩
theorem lw_p20 : lw_okq (⟨"SnapRowsModel", "isDecided", "(I)Z"⟩, 32) := ⟨⟨by decide +kernel, by decide +kernel⟩, List.mem_of_getElem? (i := 459) (by decide +kernel), List.mem_of_getElem? (i := 592) (by decide +kernel), List.mem_of_getElem? (i := 593) (by decide +kernel)⟩
theorem lw_p21 : lw_okq (⟨"SnapRowsModel", "isLate", "(I)Z"⟩, 32) := ⟨⟨by decide +kernel, by decide +kernel⟩, List.mem_of_getElem? (i := 459) (by decide +kernel), List.mem_of_getElem? (i := 596) (by decide +kernel), List.mem_of_getElem? (i := 597) (by decide +kernel)⟩
theorem lw_p22 : lw_okq (⟨"SnapRowsModel", "clean", "(I)V"⟩, 32) := ⟨⟨by decide +kernel, by decide +kernel⟩, List.mem_of_getElem? (i := 459) (by decide +kernel), List.mem_of_getElem? (i := 600) (by decide +kernel), List.mem_of_getElem? (i := 601) (by decide +kernel)⟩
theorem lw_p23 : lw_okq (⟨"SnapRowsModel", "dropLock", "(I)V"⟩, 32) := ⟨⟨by decide +kernel, by decide +kernel⟩, List.mem_of_getElem? (i := 459) (by decide +kernel), List.mem_of_getElem? (i := 604) (by decide +kernel), List.mem_of_getElem? (i := 605) (by decide +kernel)⟩
theorem lw_p24 : lw_okq (⟨"SnapRowsModel", "dropData", "(II)V"⟩, 32) := ⟨⟨by decide +kernel, by decide +kernel⟩, List.mem_of_getElem? (i := 459) (by decide +kernel), List.mem_of_getElem? (i := 608) (by decide +kernel), List.mem_of_getElem? (i := 609) (by decide +kernel)⟩
theorem lw_p25 : lw_okq (⟨"SnapRowsModel", "dataAt", "(II)I"⟩, 32) := ⟨⟨by decide +kernel, by decide +kernel⟩, List.mem_of_getElem? (i := 459) (by decide +kernel), List.mem_of_getElem? (i := 612) (by decide +kernel), List.mem_of_getElem? (i := 613) (by decide +kernel)⟩
theorem lw_p26 : lw_okq (⟨"SnapRowsModel", "addWrite", "(IIIZ)V"⟩, 32) := ⟨⟨by decide +kernel, by decide +kernel⟩, List.mem_of_getElem? (i := 459) (by decide +kernel), List.mem_of_getElem? (i := 616) (by decide +kernel), List.mem_of_getElem? (i := 617) (by decide +kernel)⟩
theorem lw_p27 : lw_okq (⟨"SnapRowsModel", "end", "(I)I"⟩, 32) := ⟨⟨by decide +kernel, by decide +kernel⟩, List.mem_of_getElem? (i := 459) (by decide +kernel), List.mem_of_getElem? (i := 620) (by decide +kernel), List.mem_of_getElem? (i := 621) (by decide +kernel)⟩
theorem lw_p28 : lw_okq (⟨"SnapRowsModel", "lockRow", "(I)I"⟩, 32) := ⟨⟨by decide +kernel, by decide +kernel⟩, List.mem_of_getElem? (i := 459) (by decide +kernel), List.mem_of_getElem? (i := 640) (by decide +kernel), List.mem_of_getElem? (i := 641) (by decide +kernel)⟩
theorem lw_p29 : lw_okq (⟨"SnapRowsModel", "rowOf", "(II)I"⟩, 32) := ⟨⟨by decide +kernel, by decide +kernel⟩, List.mem_of_getElem? (i := 459) (by decide +kernel), List.mem_of_getElem? (i := 644) (by decide +kernel), List.mem_of_getElem? (i := 645) (by decide +kernel)⟩
theorem lw_p30 : lw_okq (⟨"SnapRowsModel", "decide", "(I)I"⟩, 32) := ⟨⟨by decide +kernel, by decide +kernel⟩, List.mem_of_getElem? (i := 459) (by decide +kernel), List.mem_of_getElem? (i := 648) (by decide +kernel), List.mem_of_getElem? (i := 649) (by decide +kernel)⟩
theorem lw_p31 : lw_okq (⟨"SnapRowsModel", "undoing", "(I)I"⟩, 32) := ⟨⟨by decide +kernel, by decide +kernel⟩, List.mem_of_getElem? (i := 459) (by decide +kernel), List.mem_of_getElem? (i := 652) (by decide +kernel), List.mem_of_getElem? (i := 653) (by decide +kernel)⟩
def lw_privs_2 : List (MethodName × Nat) := [(⟨"SnapRows$Table", "dropWrite", "(LSnapRows$Cell;LSnapRows$Entry;)V"⟩, 6), (⟨"SnapRowsModel", "give", "()I"⟩, 32), (⟨"SnapRowsModel", "see", "(II)I"⟩, 32), (⟨"SnapRowsModel", "ownAt", "(II)I"⟩, 32), (⟨"SnapRowsModel", "isDecided", "(I)Z"⟩, 32), (⟨"SnapRowsModel", "isLate", "(I)Z"⟩, 32), (⟨"SnapRowsModel", "clean", "(I)V"⟩, 32), (⟨"SnapRowsModel", "dropLock", "(I)V"⟩, 32), (⟨"SnapRowsModel", "dropData", "(II)V"⟩, 32), (⟨"SnapRowsModel", "dataAt", "(II)I"⟩, 32), (⟨"SnapRowsModel", "addWrite", "(IIIZ)V"⟩, 32), (⟨"SnapRowsModel", "end", "(I)I"⟩, 32), (⟨"SnapRowsModel", "lockRow", "(I)I"⟩, 32), (⟨"SnapRowsModel", "rowOf", "(II)I"⟩, 32), (⟨"SnapRowsModel", "decide", "(I)I"⟩, 32), (⟨"SnapRowsModel", "undoing", "(I)I"⟩, 32)]
theorem lw_r2 : ∀ q ∈ lw_privs_2, lw_okq q := List.forall_mem_cons.mpr ⟨lw_p16, List.forall_mem_cons.mpr ⟨lw_p17, List.forall_mem_cons.mpr ⟨lw_p18, List.forall_mem_cons.mpr ⟨lw_p19, List.forall_mem_cons.mpr ⟨lw_p20, List.forall_mem_cons.mpr ⟨lw_p21, List.forall_mem_cons.mpr ⟨lw_p22, List.forall_mem_cons.mpr ⟨lw_p23, List.forall_mem_cons.mpr ⟨lw_p24, List.forall_mem_cons.mpr ⟨lw_p25, List.forall_mem_cons.mpr ⟨lw_p26, List.forall_mem_cons.mpr ⟨lw_p27, List.forall_mem_cons.mpr ⟨lw_p28, List.forall_mem_cons.mpr ⟨lw_p29, List.forall_mem_cons.mpr ⟨lw_p30, List.forall_mem_cons.mpr ⟨lw_p31, fun _ h => absurd h List.not_mem_nil⟩⟩⟩⟩⟩⟩⟩⟩⟩⟩⟩⟩⟩⟩⟩⟩
theorem lw_p32 : lw_okq (⟨"SnapRowsModel", "settleRow", "(III)V"⟩, 32) := ⟨⟨by decide +kernel, by decide +kernel⟩, List.mem_of_getElem? (i := 459) (by decide +kernel), List.mem_of_getElem? (i := 656) (by decide +kernel), List.mem_of_getElem? (i := 657) (by decide +kernel)⟩
theorem lw_p33 : lw_okq (⟨"SnapRowsModel", "records", "()I"⟩, 32) := ⟨⟨by decide +kernel, by decide +kernel⟩, List.mem_of_getElem? (i := 459) (by decide +kernel), List.mem_of_getElem? (i := 660) (by decide +kernel), List.mem_of_getElem? (i := 661) (by decide +kernel)⟩
theorem lw_p34 : lw_okq (⟨"SnapRowsModel", "addData", "(III)V"⟩, 32) := ⟨⟨by decide +kernel, by decide +kernel⟩, List.mem_of_getElem? (i := 459) (by decide +kernel), List.mem_of_getElem? (i := 664) (by decide +kernel), List.mem_of_getElem? (i := 665) (by decide +kernel)⟩
theorem lw_p35 : lw_okq (⟨"SnapRowsModel", "addLock", "(III)V"⟩, 32) := ⟨⟨by decide +kernel, by decide +kernel⟩, List.mem_of_getElem? (i := 459) (by decide +kernel), List.mem_of_getElem? (i := 668) (by decide +kernel), List.mem_of_getElem? (i := 669) (by decide +kernel)⟩
theorem lw_p36 : lw_okq (⟨"SnapRowsModel", "settle", "(I)I"⟩, 32) := ⟨⟨by decide +kernel, by decide +kernel⟩, List.mem_of_getElem? (i := 459) (by decide +kernel), List.mem_of_getElem? (i := 672) (by decide +kernel), List.mem_of_getElem? (i := 673) (by decide +kernel)⟩
theorem lw_p37 : lw_okq (⟨"SnapRowsModel", "undo", "(I)I"⟩, 32) := ⟨⟨by decide +kernel, by decide +kernel⟩, List.mem_of_getElem? (i := 459) (by decide +kernel), List.mem_of_getElem? (i := 676) (by decide +kernel), List.mem_of_getElem? (i := 677) (by decide +kernel)⟩
theorem lw_p38 : lw_okq (⟨"SnapRowsModel", "sweepCell", "(II)V"⟩, 32) := ⟨⟨by decide +kernel, by decide +kernel⟩, List.mem_of_getElem? (i := 459) (by decide +kernel), List.mem_of_getElem? (i := 706) (by decide +kernel), List.mem_of_getElem? (i := 707) (by decide +kernel)⟩
theorem lw_p39 : lw_okq (⟨"SnapRowsModel", "dropWrite", "(I)V"⟩, 32) := ⟨⟨by decide +kernel, by decide +kernel⟩, List.mem_of_getElem? (i := 459) (by decide +kernel), List.mem_of_getElem? (i := 710) (by decide +kernel), List.mem_of_getElem? (i := 711) (by decide +kernel)⟩
def lw_privs_3 : List (MethodName × Nat) := [(⟨"SnapRowsModel", "settleRow", "(III)V"⟩, 32), (⟨"SnapRowsModel", "records", "()I"⟩, 32), (⟨"SnapRowsModel", "addData", "(III)V"⟩, 32), (⟨"SnapRowsModel", "addLock", "(III)V"⟩, 32), (⟨"SnapRowsModel", "settle", "(I)I"⟩, 32), (⟨"SnapRowsModel", "undo", "(I)I"⟩, 32), (⟨"SnapRowsModel", "sweepCell", "(II)V"⟩, 32), (⟨"SnapRowsModel", "dropWrite", "(I)V"⟩, 32)]
theorem lw_r3 : ∀ q ∈ lw_privs_3, lw_okq q := List.forall_mem_cons.mpr ⟨lw_p32, List.forall_mem_cons.mpr ⟨lw_p33, List.forall_mem_cons.mpr ⟨lw_p34, List.forall_mem_cons.mpr ⟨lw_p35, List.forall_mem_cons.mpr ⟨lw_p36, List.forall_mem_cons.mpr ⟨lw_p37, List.forall_mem_cons.mpr ⟨lw_p38, List.forall_mem_cons.mpr ⟨lw_p39, fun _ h => absurd h List.not_mem_nil⟩⟩⟩⟩⟩⟩⟩⟩
def lw_privs : List (MethodName × Nat) := lw_privs_1 ++ (lw_privs_2 ++ (lw_privs_3))
def lw_tbl : List Cond := k2_sels lw_privs ++ tables_1
theorem lw_privs_ok : ∀ q ∈ lw_privs, lw_okq q := by
  show ∀ q ∈ lw_privs_1 ++ (lw_privs_2 ++ (lw_privs_3)), lw_okq q
  exact List.forall_mem_append.mpr ⟨lw_r1, List.forall_mem_append.mpr ⟨lw_r2, lw_r3⟩⟩
end
section
def RX0 : String := "SnapRows$Cell"
def TX0 : u_T := fun k => match k with
  | 0 => ("SnapRows$Cell", "values", "LSnapRows$Entry;", false)
  | 1 => ("SnapRows$Cell", "writes", "LSnapRows$Entry;", false)
  | 2 => ("SnapRows$Cell", "lockStart", "I", false)
  | 3 => ("SnapRows$Cell", "lockPrimary", "I", false)
  | _ => ("SnapRows$Cell", "lockTime", "I", false)
def tyX0 : Nat → FieldType := fun k => match k with
  | 0 => .object "SnapRows$Entry"
  | 1 => .object "SnapRows$Entry"
  | 2 => .int
  | 3 => .int
  | _ => .int
abbrev wsX00 : List Cond := u_ws RX0 TX0 5
theorem nmX0 : ∀ a, a < 5 → ∀ b, b < 5 → a ≠ b → (TX0 a).2.1 ≠ (TX0 b).2.1 := by decide +kernel
theorem tyX0_ok : ∀ k, k < 5 → parseFieldDescriptor (TX0 k).2.2.1 = some (tyX0 k) := by decide +kernel
abbrev cX0_init : ByteArray := prog_2_method_1_code
def yX0_init : MethodName := ⟨RX0, "<init>", "()V"⟩
abbrev cX0_isLocked : ByteArray := prog_2_method_2_code
def yX0_isLocked : MethodName := ⟨RX0, "isLocked", "()Z"⟩
abbrev cX0_valueOf : ByteArray := prog_2_method_3_code
def yX0_valueOf : MethodName := ⟨RX0, "valueOf", "(I)I"⟩
abbrev cX0_valueAt : ByteArray := prog_2_method_4_code
def yX0_valueAt : MethodName := ⟨RX0, "valueAt", "(I)I"⟩
def RX1 : String := "SnapRows$Entry"
def TX1 : u_T := fun k => match k with
  | 0 => ("SnapRows$Entry", "key", "I", true)
  | 1 => ("SnapRows$Entry", "info", "I", true)
  | _ => ("SnapRows$Entry", "below", "LSnapRows$Entry;", false)
def tyX1 : Nat → FieldType := fun k => match k with
  | 0 => .int
  | 1 => .int
  | _ => .object "SnapRows$Entry"
abbrev wsX10 : List Cond := u_ws RX1 TX1 3
theorem nmX1 : ∀ a, a < 3 → ∀ b, b < 3 → a ≠ b → (TX1 a).2.1 ≠ (TX1 b).2.1 := by decide +kernel
theorem tyX1_ok : ∀ k, k < 3 → parseFieldDescriptor (TX1 k).2.2.1 = some (tyX1 k) := by decide +kernel
abbrev cX1_init : ByteArray := prog_3_method_1_code
def yX1_init : MethodName := ⟨RX1, "<init>", "(IILSnapRows$Entry;)V"⟩
abbrev cX1_without : ByteArray := prog_3_method_2_code
def yX1_without : MethodName := ⟨RX1, "without", "(LSnapRows$Entry;LSnapRows$Entry;)LSnapRows$Entry;"⟩
abbrev cX1_withKey : ByteArray := prog_3_method_3_code
def yX1_withKey : MethodName := ⟨RX1, "withKey", "(LSnapRows$Entry;I)LSnapRows$Entry;"⟩
abbrev cX1_withInfo : ByteArray := prog_3_method_4_code
def yX1_withInfo : MethodName := ⟨RX1, "withInfo", "(LSnapRows$Entry;I)LSnapRows$Entry;"⟩
abbrev cX1_atPlace : ByteArray := prog_3_method_5_code
def yX1_atPlace : MethodName := ⟨RX1, "atPlace", "(LSnapRows$Entry;I)LSnapRows$Entry;"⟩
abbrev cX1_count : ByteArray := prog_3_method_6_code
def yX1_count : MethodName := ⟨RX1, "count", "(LSnapRows$Entry;)I"⟩
def RX2 : String := "SnapRows$Oracle"
def TX2 : u_T := fun k => match k with
  | 0 => ("SnapRows$Oracle", "given", "I", false)
  | 1 => ("SnapRows$Oracle", "coming", "I", false)
  | _ => ("SnapRows$Oracle", "limit", "I", false)
def tyX2 : Nat → FieldType := fun k => match k with
  | 0 => .int
  | 1 => .int
  | _ => .int
abbrev wsX20 : List Cond := u_ws RX2 TX2 3
theorem nmX2 : ∀ a, a < 3 → ∀ b, b < 3 → a ≠ b → (TX2 a).2.1 ≠ (TX2 b).2.1 := by decide +kernel
theorem tyX2_ok : ∀ k, k < 3 → parseFieldDescriptor (TX2 k).2.2.1 = some (tyX2 k) := by decide +kernel
abbrev cX2_init : ByteArray := prog_4_method_1_code
def yX2_init : MethodName := ⟨RX2, "<init>", "()V"⟩
abbrev cX2_give : ByteArray := prog_4_method_2_code
def yX2_give : MethodName := ⟨RX2, "give", "()I"⟩
abbrev cX2_restart : ByteArray := prog_4_method_3_code
def yX2_restart : MethodName := ⟨RX2, "restart", "()I"⟩
def RX3 : String := "SnapRows$Table"
def TX3 : u_T := fun k => match k with
  | 0 => ("SnapRows$Table", "cells", "[LSnapRows$Cell;", true)
  | 1 => ("SnapRows$Table", "records", "I", false)
  | 2 => ("SnapRows$Table", "lines", "I", false)
  | 3 => ("SnapRows$Table", "runs", "I", false)
  | 4 => ("SnapRows$Table", "merges", "I", false)
  | _ => ("SnapRows$Table", "cleanings", "I", false)
def tyX3 : Nat → FieldType := fun k => match k with
  | 0 => .array (.object "SnapRows$Cell")
  | 1 => .int
  | 2 => .int
  | 3 => .int
  | 4 => .int
  | _ => .int
abbrev wsX30 : List Cond := u_ws RX3 TX3 6
theorem nmX3 : ∀ a, a < 6 → ∀ b, b < 6 → a ≠ b → (TX3 a).2.1 ≠ (TX3 b).2.1 := by decide +kernel
theorem tyX3_ok : ∀ k, k < 6 → parseFieldDescriptor (TX3 k).2.2.1 = some (tyX3 k) := by decide +kernel
abbrev cX3_init : ByteArray := prog_5_method_1_code
def yX3_init : MethodName := ⟨RX3, "<init>", "()V"⟩
abbrev cX3_addData : ByteArray := prog_5_method_2_code
def yX3_addData : MethodName := ⟨RX3, "addData", "(LSnapRows$Cell;II)V"⟩
abbrev cX3_dropData : ByteArray := prog_5_method_3_code
def yX3_dropData : MethodName := ⟨RX3, "dropData", "(LSnapRows$Cell;I)V"⟩
abbrev cX3_addWrite : ByteArray := prog_5_method_4_code
def yX3_addWrite : MethodName := ⟨RX3, "addWrite", "(LSnapRows$Cell;II)V"⟩
abbrev cX3_dropWrite : ByteArray := prog_5_method_5_code
def yX3_dropWrite : MethodName := ⟨RX3, "dropWrite", "(LSnapRows$Cell;LSnapRows$Entry;)V"⟩
abbrev cX3_addLock : ByteArray := prog_5_method_6_code
def yX3_addLock : MethodName := ⟨RX3, "addLock", "(LSnapRows$Cell;III)V"⟩
abbrev cX3_dropLock : ByteArray := prog_5_method_7_code
def yX3_dropLock : MethodName := ⟨RX3, "dropLock", "(LSnapRows$Cell;)V"⟩
abbrev cX3_addLine : ByteArray := prog_5_method_8_code
def yX3_addLine : MethodName := ⟨RX3, "addLine", "(I)V"⟩
abbrev cX3_putDownLog : ByteArray := prog_5_method_9_code
def yX3_putDownLog : MethodName := ⟨RX3, "putDownLog", "()V"⟩
abbrev cX3_isDecided : ByteArray := prog_5_method_10_code
def yX3_isDecided : MethodName := ⟨RX3, "isDecided", "(LSnapRows$Cell;)Z"⟩
abbrev cX3_clean : ByteArray := prog_5_method_11_code
def yX3_clean : MethodName := ⟨RX3, "clean", "(LSnapRows$Cell;)V"⟩
abbrev cX3_undo : ByteArray := prog_5_method_12_code
def yX3_undo : MethodName := ⟨RX3, "undo", "(LSnapRows$Cell;Z)V"⟩
abbrev cX3_hasLockNotAbove : ByteArray := prog_5_method_13_code
def yX3_hasLockNotAbove : MethodName := ⟨RX3, "hasLockNotAbove", "(I)Z"⟩
abbrev cX3_dropUnseen : ByteArray := prog_5_method_14_code
def yX3_dropUnseen : MethodName := ⟨RX3, "dropUnseen", "(I)I"⟩
abbrev cX3_dropUnseenOf : ByteArray := prog_5_method_15_code
def yX3_dropUnseenOf : MethodName := ⟨RX3, "dropUnseenOf", "(LSnapRows$Cell;I)V"⟩
def RX4 : String := "SnapRows$Transaction"
def TX4 : u_T := fun k => match k with
  | 0 => ("SnapRows$Transaction", "phase", "I", false)
  | 1 => ("SnapRows$Transaction", "start", "I", false)
  | 2 => ("SnapRows$Transaction", "last", "I", false)
  | 3 => ("SnapRows$Transaction", "ticket", "I", false)
  | 4 => ("SnapRows$Transaction", "size", "I", false)
  | 5 => ("SnapRows$Transaction", "cells", "[I", true)
  | 6 => ("SnapRows$Transaction", "values", "[I", true)
  | 7 => ("SnapRows$Transaction", "rowCount", "I", false)
  | 8 => ("SnapRows$Transaction", "rows", "[I", true)
  | _ => ("SnapRows$Transaction", "rowsDone", "I", false)
def tyX4 : Nat → FieldType := fun k => match k with
  | 0 => .int
  | 1 => .int
  | 2 => .int
  | 3 => .int
  | 4 => .int
  | 5 => .array .int
  | 6 => .array .int
  | 7 => .int
  | 8 => .array .int
  | _ => .int
abbrev wsX40 : List Cond := u_ws RX4 TX4 10
theorem nmX4 : ∀ a, a < 10 → ∀ b, b < 10 → a ≠ b → (TX4 a).2.1 ≠ (TX4 b).2.1 := by decide +kernel
theorem tyX4_ok : ∀ k, k < 10 → parseFieldDescriptor (TX4 k).2.2.1 = some (tyX4 k) := by decide +kernel
abbrev cX4_init : ByteArray := prog_6_method_1_code
def yX4_init : MethodName := ⟨RX4, "<init>", "()V"⟩
abbrev cX4_open : ByteArray := prog_6_method_2_code
def yX4_open : MethodName := ⟨RX4, "open", "(II)V"⟩
abbrev cX4_end : ByteArray := prog_6_method_3_code
def yX4_end : MethodName := ⟨RX4, "end", "()V"⟩
abbrev cX4_touch : ByteArray := prog_6_method_4_code
def yX4_touch : MethodName := ⟨RX4, "touch", "(I)V"⟩
abbrev cX4_placeOf : ByteArray := prog_6_method_5_code
def yX4_placeOf : MethodName := ⟨RX4, "placeOf", "(I)I"⟩
abbrev cX4_put : ByteArray := prog_6_method_6_code
def yX4_put : MethodName := ⟨RX4, "put", "(II)Z"⟩
abbrev cX4_putRow : ByteArray := prog_6_method_7_code
def yX4_putRow : MethodName := ⟨RX4, "putRow", "(I)V"⟩
abbrev cX4_hasLockIn : ByteArray := prog_6_method_8_code
def yX4_hasLockIn : MethodName := ⟨RX4, "hasLockIn", "(LSnapRows$Cell;)Z"⟩
def RX5 : String := "SnapRows"
def TX5 : u_T := fun k => match k with
  | 0 => ("SnapRows", "table", "LSnapRows$Table;", true)
  | 1 => ("SnapRows", "oracle", "LSnapRows$Oracle;", true)
  | 2 => ("SnapRows", "transactions", "[LSnapRows$Transaction;", true)
  | 3 => ("SnapRows", "clock", "I", false)
  | 4 => ("SnapRows", "patience", "I", false)
  | _ => ("SnapRows", "commits", "I", false)
def tyX5 : Nat → FieldType := fun k => match k with
  | 0 => .object "SnapRows$Table"
  | 1 => .object "SnapRows$Oracle"
  | 2 => .array (.object "SnapRows$Transaction")
  | 3 => .int
  | 4 => .int
  | _ => .int
abbrev wsX50 : List Cond := u_ws RX5 TX5 6
theorem nmX5 : ∀ a, a < 6 → ∀ b, b < 6 → a ≠ b → (TX5 a).2.1 ≠ (TX5 b).2.1 := by decide +kernel
theorem tyX5_ok : ∀ k, k < 6 → parseFieldDescriptor (TX5 k).2.2.1 = some (tyX5 k) := by decide +kernel
abbrev cX5_init : ByteArray := prog_1_method_1_code
def yX5_init : MethodName := ⟨RX5, "<init>", "()V"⟩
abbrev cX5_begin : ByteArray := prog_1_method_2_code
def yX5_begin : MethodName := ⟨RX5, "begin", "(I)I"⟩
abbrev cX5_read : ByteArray := prog_1_method_3_code
def yX5_read : MethodName := ⟨RX5, "read", "(III)I"⟩
abbrev cX5_next : ByteArray := prog_1_method_4_code
def yX5_next : MethodName := ⟨RX5, "next", "(II)I"⟩
abbrev cX5_write : ByteArray := prog_1_method_5_code
def yX5_write : MethodName := ⟨RX5, "write", "(IIII)I"⟩
abbrev cX5_commit : ByteArray := prog_1_method_6_code
def yX5_commit : MethodName := ⟨RX5, "commit", "(I)I"⟩
abbrev cX5_step : ByteArray := prog_1_method_7_code
def yX5_step : MethodName := ⟨RX5, "step", "(I)I"⟩
abbrev cX5_crash : ByteArray := prog_1_method_8_code
def yX5_crash : MethodName := ⟨RX5, "crash", "(I)I"⟩
abbrev cX5_tick : ByteArray := prog_1_method_9_code
def yX5_tick : MethodName := ⟨RX5, "tick", "(I)I"⟩
abbrev cX5_timeout : ByteArray := prog_1_method_10_code
def yX5_timeout : MethodName := ⟨RX5, "timeout", "(I)I"⟩
abbrev cX5_fallOracle : ByteArray := prog_1_method_11_code
def yX5_fallOracle : MethodName := ⟨RX5, "fallOracle", "()I"⟩
abbrev cX5_fall : ByteArray := prog_1_method_12_code
def yX5_fall : MethodName := ⟨RX5, "fall", "()I"⟩
abbrev cX5_sweep : ByteArray := prog_1_method_13_code
def yX5_sweep : MethodName := ⟨RX5, "sweep", "(I)I"⟩
abbrev cX5_state : ByteArray := prog_1_method_14_code
def yX5_state : MethodName := ⟨RX5, "state", "(II)I"⟩
abbrev cX5_lock : ByteArray := prog_1_method_15_code
def yX5_lock : MethodName := ⟨RX5, "lock", "(III)I"⟩
abbrev cX5_versions : ByteArray := prog_1_method_16_code
def yX5_versions : MethodName := ⟨RX5, "versions", "(II)I"⟩
abbrev cX5_version : ByteArray := prog_1_method_17_code
def yX5_version : MethodName := ⟨RX5, "version", "(IIII)I"⟩
abbrev cX5_data : ByteArray := prog_1_method_18_code
def yX5_data : MethodName := ⟨RX5, "data", "(III)I"⟩
abbrev cX5_told : ByteArray := prog_1_method_19_code
def yX5_told : MethodName := ⟨RX5, "told", "(I)I"⟩
abbrev cX5_isClient : ByteArray := prog_1_method_20_code
def yX5_isClient : MethodName := ⟨RX5, "isClient", "(I)Z"⟩
abbrev cX5_isRow : ByteArray := prog_1_method_21_code
def yX5_isRow : MethodName := ⟨RX5, "isRow", "(I)Z"⟩
abbrev cX5_isCell : ByteArray := prog_1_method_22_code
def yX5_isCell : MethodName := ⟨RX5, "isCell", "(II)Z"⟩
abbrev cX5_isTime : ByteArray := prog_1_method_23_code
def yX5_isTime : MethodName := ⟨RX5, "isTime", "(I)Z"⟩
abbrev cX5_cellIndex : ByteArray := prog_1_method_24_code
def yX5_cellIndex : MethodName := ⟨RX5, "cellIndex", "(II)I"⟩
abbrev cX5_look : ByteArray := prog_1_method_25_code
def yX5_look : MethodName := ⟨RX5, "look", "(LSnapRows$Transaction;I)I"⟩
abbrev cX5_lookFrom : ByteArray := prog_1_method_26_code
def yX5_lookFrom : MethodName := ⟨RX5, "lookFrom", "(LSnapRows$Transaction;I)I"⟩
abbrev cX5_isForCleaning : ByteArray := prog_1_method_27_code
def yX5_isForCleaning : MethodName := ⟨RX5, "isForCleaning", "(LSnapRows$Cell;)Z"⟩
abbrev cX5_isLate : ByteArray := prog_1_method_28_code
def yX5_isLate : MethodName := ⟨RX5, "isLate", "(LSnapRows$Cell;)Z"⟩
abbrev cX5_isBeginBelow : ByteArray := prog_1_method_29_code
def yX5_isBeginBelow : MethodName := ⟨RX5, "isBeginBelow", "(I)Z"⟩
abbrev cX5_goOn : ByteArray := prog_1_method_30_code
def yX5_goOn : MethodName := ⟨RX5, "goOn", "(LSnapRows$Transaction;)I"⟩
abbrev cX5_lockRow : ByteArray := prog_1_method_31_code
def yX5_lockRow : MethodName := ⟨RX5, "lockRow", "(LSnapRows$Transaction;)I"⟩
abbrev cX5_lose : ByteArray := prog_1_method_32_code
def yX5_lose : MethodName := ⟨RX5, "lose", "(LSnapRows$Transaction;)I"⟩
abbrev cX5_decide : ByteArray := prog_1_method_33_code
def yX5_decide : MethodName := ⟨RX5, "decide", "(LSnapRows$Transaction;)I"⟩
abbrev cX5_settleRow : ByteArray := prog_1_method_34_code
def yX5_settleRow : MethodName := ⟨RX5, "settleRow", "(LSnapRows$Transaction;)I"⟩
abbrev cX5_settleCells : ByteArray := prog_1_method_35_code
def yX5_settleCells : MethodName := ⟨RX5, "settleCells", "(LSnapRows$Transaction;I)V"⟩
abbrev cX5_undoRow : ByteArray := prog_1_method_36_code
def yX5_undoRow : MethodName := ⟨RX5, "undoRow", "(LSnapRows$Transaction;)I"⟩
abbrev cX5_undoCells : ByteArray := prog_1_method_37_code
def yX5_undoCells : MethodName := ⟨RX5, "undoCells", "(LSnapRows$Transaction;I)Z"⟩
def RX6 : String := "SnapRowsModel"
def TX6 : u_T := fun k => match k with
  | 0 => ("SnapRowsModel", "code", "I", false)
  | 1 => ("SnapRowsModel", "clock", "I", false)
  | 2 => ("SnapRowsModel", "timeout", "I", false)
  | 3 => ("SnapRowsModel", "next", "I", false)
  | 4 => ("SnapRowsModel", "given", "I", false)
  | 5 => ("SnapRowsModel", "limit", "I", false)
  | 6 => ("SnapRowsModel", "datas", "I", false)
  | 7 => ("SnapRowsModel", "dCell", "[I", true)
  | 8 => ("SnapRowsModel", "dStart", "[I", true)
  | 9 => ("SnapRowsModel", "dValue", "[I", true)
  | 10 => ("SnapRowsModel", "writes", "I", false)
  | 11 => ("SnapRowsModel", "wCell", "[I", true)
  | 12 => ("SnapRowsModel", "wTicket", "[I", true)
  | 13 => ("SnapRowsModel", "wStart", "[I", true)
  | 14 => ("SnapRowsModel", "wRolled", "[Z", true)
  | 15 => ("SnapRowsModel", "locks", "I", false)
  | 16 => ("SnapRowsModel", "lStart", "[I", true)
  | 17 => ("SnapRowsModel", "lPrimary", "[I", true)
  | 18 => ("SnapRowsModel", "lTime", "[I", true)
  | 19 => ("SnapRowsModel", "state", "[I", true)
  | 20 => ("SnapRowsModel", "start", "[I", true)
  | 21 => ("SnapRowsModel", "last", "[I", true)
  | 22 => ("SnapRowsModel", "own", "[I", true)
  | 23 => ("SnapRowsModel", "oCell", "[I", true)
  | 24 => ("SnapRowsModel", "oValue", "[I", true)
  | 25 => ("SnapRowsModel", "done", "[I", true)
  | 26 => ("SnapRowsModel", "ticket", "[I", true)
  | 27 => ("SnapRowsModel", "lines", "I", false)
  | 28 => ("SnapRowsModel", "runs", "I", false)
  | 29 => ("SnapRowsModel", "joined", "I", false)
  | 30 => ("SnapRowsModel", "committed", "I", false)
  | _ => ("SnapRowsModel", "cleaned", "I", false)
def tyX6 : Nat → FieldType := fun k => match k with
  | 0 => .int
  | 1 => .int
  | 2 => .int
  | 3 => .int
  | 4 => .int
  | 5 => .int
  | 6 => .int
  | 7 => .array .int
  | 8 => .array .int
  | 9 => .array .int
  | 10 => .int
  | 11 => .array .int
  | 12 => .array .int
  | 13 => .array .int
  | 14 => .array .boolean
  | 15 => .int
  | 16 => .array .int
  | 17 => .array .int
  | 18 => .array .int
  | 19 => .array .int
  | 20 => .array .int
  | 21 => .array .int
  | 22 => .array .int
  | 23 => .array .int
  | 24 => .array .int
  | 25 => .array .int
  | 26 => .array .int
  | 27 => .int
  | 28 => .int
  | 29 => .int
  | 30 => .int
  | _ => .int
abbrev wsX60 : List Cond := u_ws RX6 TX6 32
theorem nmX6 : ∀ a, a < 32 → ∀ b, b < 32 → a ≠ b → (TX6 a).2.1 ≠ (TX6 b).2.1 := by decide +kernel
theorem tyX6_ok : ∀ k, k < 32 → parseFieldDescriptor (TX6 k).2.2.1 = some (tyX6 k) := by decide +kernel
abbrev cX6_init : ByteArray := prog_8_method_1_code
def yX6_init : MethodName := ⟨RX6, "<init>", "()V"⟩
abbrev cX6_in : ByteArray := prog_8_method_3_code
def yX6_in : MethodName := ⟨RX6, "in", "(III)Z"⟩
abbrev cX6_records : ByteArray := prog_8_method_4_code
def yX6_records : MethodName := ⟨RX6, "records", "()I"⟩
abbrev cX6_end : ByteArray := prog_8_method_5_code
def yX6_end : MethodName := ⟨RX6, "end", "(I)I"⟩
abbrev cX6_give : ByteArray := prog_8_method_6_code
def yX6_give : MethodName := ⟨RX6, "give", "()I"⟩
abbrev cX6_dataAt : ByteArray := prog_8_method_7_code
def yX6_dataAt : MethodName := ⟨RX6, "dataAt", "(II)I"⟩
abbrev cX6_addData : ByteArray := prog_8_method_8_code
def yX6_addData : MethodName := ⟨RX6, "addData", "(III)V"⟩
abbrev cX6_dropData : ByteArray := prog_8_method_9_code
def yX6_dropData : MethodName := ⟨RX6, "dropData", "(II)V"⟩
abbrev cX6_addWrite : ByteArray := prog_8_method_10_code
def yX6_addWrite : MethodName := ⟨RX6, "addWrite", "(IIIZ)V"⟩
abbrev cX6_dropWrite : ByteArray := prog_8_method_11_code
def yX6_dropWrite : MethodName := ⟨RX6, "dropWrite", "(I)V"⟩
abbrev cX6_addLock : ByteArray := prog_8_method_12_code
def yX6_addLock : MethodName := ⟨RX6, "addLock", "(III)V"⟩
abbrev cX6_dropLock : ByteArray := prog_8_method_13_code
def yX6_dropLock : MethodName := ⟨RX6, "dropLock", "(I)V"⟩
abbrev cX6_isLate : ByteArray := prog_8_method_14_code
def yX6_isLate : MethodName := ⟨RX6, "isLate", "(I)Z"⟩
abbrev cX6_isDecided : ByteArray := prog_8_method_15_code
def yX6_isDecided : MethodName := ⟨RX6, "isDecided", "(I)Z"⟩
abbrev cX6_clean : ByteArray := prog_8_method_16_code
def yX6_clean : MethodName := ⟨RX6, "clean", "(I)V"⟩
abbrev cX6_ownAt : ByteArray := prog_8_method_17_code
def yX6_ownAt : MethodName := ⟨RX6, "ownAt", "(II)I"⟩
abbrev cX6_see : ByteArray := prog_8_method_18_code
def yX6_see : MethodName := ⟨RX6, "see", "(II)I"⟩
abbrev cX6_noClient : ByteArray := prog_8_method_19_code
def yX6_noClient : MethodName := ⟨RX6, "noClient", "(I)Z"⟩
abbrev cX6_noCell : ByteArray := prog_8_method_20_code
def yX6_noCell : MethodName := ⟨RX6, "noCell", "(II)Z"⟩
abbrev cX6_begin : ByteArray := prog_8_method_21_code
def yX6_begin : MethodName := ⟨RX6, "begin", "(I)I"⟩
abbrev cX6_read : ByteArray := prog_8_method_22_code
def yX6_read : MethodName := ⟨RX6, "read", "(III)I"⟩
abbrev cX6_next : ByteArray := prog_8_method_23_code
def yX6_next : MethodName := ⟨RX6, "next", "(II)I"⟩
abbrev cX6_write : ByteArray := prog_8_method_24_code
def yX6_write : MethodName := ⟨RX6, "write", "(IIII)I"⟩
abbrev cX6_commit : ByteArray := prog_8_method_25_code
def yX6_commit : MethodName := ⟨RX6, "commit", "(I)I"⟩
abbrev cX6_rowOf : ByteArray := prog_8_method_26_code
def yX6_rowOf : MethodName := ⟨RX6, "rowOf", "(II)I"⟩
abbrev cX6_step : ByteArray := prog_8_method_27_code
def yX6_step : MethodName := ⟨RX6, "step", "(I)I"⟩
abbrev cX6_undoing : ByteArray := prog_8_method_28_code
def yX6_undoing : MethodName := ⟨RX6, "undoing", "(I)I"⟩
abbrev cX6_lockRow : ByteArray := prog_8_method_29_code
def yX6_lockRow : MethodName := ⟨RX6, "lockRow", "(I)I"⟩
abbrev cX6_decide : ByteArray := prog_8_method_30_code
def yX6_decide : MethodName := ⟨RX6, "decide", "(I)I"⟩
abbrev cX6_settleRow : ByteArray := prog_8_method_31_code
def yX6_settleRow : MethodName := ⟨RX6, "settleRow", "(III)V"⟩
abbrev cX6_settle : ByteArray := prog_8_method_32_code
def yX6_settle : MethodName := ⟨RX6, "settle", "(I)I"⟩
abbrev cX6_undo : ByteArray := prog_8_method_33_code
def yX6_undo : MethodName := ⟨RX6, "undo", "(I)I"⟩
abbrev cX6_crash : ByteArray := prog_8_method_34_code
def yX6_crash : MethodName := ⟨RX6, "crash", "(I)I"⟩
abbrev cX6_tick : ByteArray := prog_8_method_35_code
def yX6_tick : MethodName := ⟨RX6, "tick", "(I)I"⟩
abbrev cX6_timeout : ByteArray := prog_8_method_36_code
def yX6_timeout : MethodName := ⟨RX6, "timeout", "(I)I"⟩
abbrev cX6_fallOracle : ByteArray := prog_8_method_37_code
def yX6_fallOracle : MethodName := ⟨RX6, "fallOracle", "()I"⟩
abbrev cX6_fall : ByteArray := prog_8_method_38_code
def yX6_fall : MethodName := ⟨RX6, "fall", "()I"⟩
abbrev cX6_sweep : ByteArray := prog_8_method_39_code
def yX6_sweep : MethodName := ⟨RX6, "sweep", "(I)I"⟩
abbrev cX6_sweepCell : ByteArray := prog_8_method_40_code
def yX6_sweepCell : MethodName := ⟨RX6, "sweepCell", "(II)V"⟩
abbrev cX6_state : ByteArray := prog_8_method_41_code
def yX6_state : MethodName := ⟨RX6, "state", "(II)I"⟩
abbrev cX6_lock : ByteArray := prog_8_method_42_code
def yX6_lock : MethodName := ⟨RX6, "lock", "(III)I"⟩
abbrev cX6_versions : ByteArray := prog_8_method_43_code
def yX6_versions : MethodName := ⟨RX6, "versions", "(II)I"⟩
abbrev cX6_version : ByteArray := prog_8_method_44_code
def yX6_version : MethodName := ⟨RX6, "version", "(IIII)I"⟩
abbrev cX6_data : ByteArray := prog_8_method_45_code
def yX6_data : MethodName := ⟨RX6, "data", "(III)I"⟩
abbrev cX6_told : ByteArray := prog_8_method_46_code
def yX6_told : MethodName := ⟨RX6, "told", "(I)I"⟩
def RL : String := "SnapRowsLaw"
abbrev cL_law : ByteArray := code
def yL_law : MethodName := ⟨RL, "law", "([I)Z"⟩
abbrev vwCl : List vw_C := [(RX0, TX0, 5), (RX1, TX1, 3), (RX2, TX2, 3), (RX3, TX3, 6), (RX4, TX4, 10), (RX5, TX5, 6), (RX6, TX6, 32)]
end
section
theorem dX0_init_0 : decode cX0_init 0 = .ok (.aload_n 0, 1) := by decide +kernel
theorem dX0_init_1 : decode cX0_init 1 = .ok (.invokespecial 3, 3) := by decide +kernel
theorem dX0_init_4 : decode cX0_init 4 = .ok (.return_, 1) := by decide +kernel
theorem dX0_isLocked_0 : decode cX0_isLocked 0 = .ok (.aload_n 0, 1) := by decide +kernel
theorem dX0_isLocked_1 : decode cX0_isLocked 1 = .ok (.getfield 9, 3) := by decide +kernel
theorem dX0_isLocked_4 : decode cX0_isLocked 4 = .ok (.ifCond .eq 7, 3) := by decide +kernel
theorem dX0_isLocked_7 : decode cX0_isLocked 7 = .ok (.iconst 1, 1) := by decide +kernel
theorem dX0_isLocked_8 : decode cX0_isLocked 8 = .ok (.goto 4, 3) := by decide +kernel
theorem dX0_isLocked_11 : decode cX0_isLocked 11 = .ok (.iconst 0, 1) := by decide +kernel
theorem dX0_isLocked_12 : decode cX0_isLocked 12 = .ok (.ireturn, 1) := by decide +kernel
theorem dX0_valueOf_0 : decode cX0_valueOf 0 = .ok (.aload_n 0, 1) := by decide +kernel
theorem dX0_valueOf_1 : decode cX0_valueOf 1 = .ok (.getfield 15, 3) := by decide +kernel
theorem dX0_valueOf_4 : decode cX0_valueOf 4 = .ok (.iload_n 1, 1) := by decide +kernel
theorem dX0_valueOf_5 : decode cX0_valueOf 5 = .ok (.invokestatic 19, 3) := by decide +kernel
theorem dX0_valueOf_8 : decode cX0_valueOf 8 = .ok (.astore_n 2, 1) := by decide +kernel
theorem dX0_valueOf_9 : decode cX0_valueOf 9 = .ok (.aload_n 2, 1) := by decide +kernel
theorem dX0_valueOf_10 : decode cX0_valueOf 10 = .ok (.ifnonnull 7, 3) := by decide +kernel
theorem dX0_valueOf_13 : decode cX0_valueOf 13 = .ok (.iconst (-1), 1) := by decide +kernel
theorem dX0_valueOf_14 : decode cX0_valueOf 14 = .ok (.goto 7, 3) := by decide +kernel
theorem dX0_valueOf_17 : decode cX0_valueOf 17 = .ok (.aload_n 2, 1) := by decide +kernel
theorem dX0_valueOf_18 : decode cX0_valueOf 18 = .ok (.getfield 25, 3) := by decide +kernel
theorem dX0_valueOf_21 : decode cX0_valueOf 21 = .ok (.ireturn, 1) := by decide +kernel
theorem dX0_valueAt_0 : decode cX0_valueAt 0 = .ok (.aload_n 0, 1) := by decide +kernel
theorem dX0_valueAt_1 : decode cX0_valueAt 1 = .ok (.getfield 28, 3) := by decide +kernel
theorem dX0_valueAt_4 : decode cX0_valueAt 4 = .ok (.astore_n 2, 1) := by decide +kernel
theorem dX0_valueAt_5 : decode cX0_valueAt 5 = .ok (.aload_n 2, 1) := by decide +kernel
theorem dX0_valueAt_6 : decode cX0_valueAt 6 = .ok (.ifnull 35, 3) := by decide +kernel
theorem dX0_valueAt_9 : decode cX0_valueAt 9 = .ok (.aload_n 2, 1) := by decide +kernel
theorem dX0_valueAt_10 : decode cX0_valueAt 10 = .ok (.getfield 31, 3) := by decide +kernel
theorem dX0_valueAt_13 : decode cX0_valueAt 13 = .ok (.iload_n 1, 1) := by decide +kernel
theorem dX0_valueAt_14 : decode cX0_valueAt 14 = .ok (.if_icmp .gt 19, 3) := by decide +kernel
theorem dX0_valueAt_17 : decode cX0_valueAt 17 = .ok (.aload_n 2, 1) := by decide +kernel
theorem dX0_valueAt_18 : decode cX0_valueAt 18 = .ok (.getfield 25, 3) := by decide +kernel
theorem dX0_valueAt_21 : decode cX0_valueAt 21 = .ok (.ifCond .eq 12, 3) := by decide +kernel
theorem dX0_valueAt_24 : decode cX0_valueAt 24 = .ok (.aload_n 0, 1) := by decide +kernel
theorem dX0_valueAt_25 : decode cX0_valueAt 25 = .ok (.aload_n 2, 1) := by decide +kernel
theorem dX0_valueAt_26 : decode cX0_valueAt 26 = .ok (.getfield 25, 3) := by decide +kernel
theorem dX0_valueAt_29 : decode cX0_valueAt 29 = .ok (.invokevirtual 34, 3) := by decide +kernel
theorem dX0_valueAt_32 : decode cX0_valueAt 32 = .ok (.ireturn, 1) := by decide +kernel
theorem dX0_valueAt_33 : decode cX0_valueAt 33 = .ok (.aload_n 2, 1) := by decide +kernel
theorem dX0_valueAt_34 : decode cX0_valueAt 34 = .ok (.getfield 38, 3) := by decide +kernel
theorem dX0_valueAt_37 : decode cX0_valueAt 37 = .ok (.astore_n 2, 1) := by decide +kernel
theorem dX0_valueAt_38 : decode cX0_valueAt 38 = .ok (.goto (-33), 3) := by decide +kernel
theorem dX0_valueAt_41 : decode cX0_valueAt 41 = .ok (.iconst (-1), 1) := by decide +kernel
theorem dX0_valueAt_42 : decode cX0_valueAt 42 = .ok (.ireturn, 1) := by decide +kernel
theorem dX1_init_0 : decode cX1_init 0 = .ok (.aload_n 0, 1) := by decide +kernel
theorem dX1_init_1 : decode cX1_init 1 = .ok (.invokespecial 1, 3) := by decide +kernel
theorem dX1_init_4 : decode cX1_init 4 = .ok (.aload_n 0, 1) := by decide +kernel
theorem dX1_init_5 : decode cX1_init 5 = .ok (.iload_n 1, 1) := by decide +kernel
theorem dX1_init_6 : decode cX1_init 6 = .ok (.putfield 7, 3) := by decide +kernel
theorem dX1_init_9 : decode cX1_init 9 = .ok (.aload_n 0, 1) := by decide +kernel
theorem dX1_init_10 : decode cX1_init 10 = .ok (.iload_n 2, 1) := by decide +kernel
theorem dX1_init_11 : decode cX1_init 11 = .ok (.putfield 13, 3) := by decide +kernel
theorem dX1_init_14 : decode cX1_init 14 = .ok (.aload_n 0, 1) := by decide +kernel
theorem dX1_init_15 : decode cX1_init 15 = .ok (.aload_n 3, 1) := by decide +kernel
theorem dX1_init_16 : decode cX1_init 16 = .ok (.putfield 16, 3) := by decide +kernel
theorem dX1_init_19 : decode cX1_init 19 = .ok (.return_, 1) := by decide +kernel
theorem dX1_without_0 : decode cX1_without 0 = .ok (.aload_n 0, 1) := by decide +kernel
theorem dX1_without_1 : decode cX1_without 1 = .ok (.aload_n 1, 1) := by decide +kernel
theorem dX1_without_2 : decode cX1_without 2 = .ok (.if_acmp .ne 8, 3) := by decide +kernel
theorem dX1_without_5 : decode cX1_without 5 = .ok (.aload_n 1, 1) := by decide +kernel
theorem dX1_without_6 : decode cX1_without 6 = .ok (.getfield 16, 3) := by decide +kernel
theorem dX1_without_9 : decode cX1_without 9 = .ok (.areturn, 1) := by decide +kernel
theorem dX1_without_10 : decode cX1_without 10 = .ok (.aload_n 0, 1) := by decide +kernel
theorem dX1_without_11 : decode cX1_without 11 = .ok (.astore_n 2, 1) := by decide +kernel
theorem dX1_without_12 : decode cX1_without 12 = .ok (.aload_n 2, 1) := by decide +kernel
theorem dX1_without_13 : decode cX1_without 13 = .ok (.ifnull 29, 3) := by decide +kernel
theorem dX1_without_16 : decode cX1_without 16 = .ok (.aload_n 2, 1) := by decide +kernel
theorem dX1_without_17 : decode cX1_without 17 = .ok (.getfield 16, 3) := by decide +kernel
theorem dX1_without_20 : decode cX1_without 20 = .ok (.aload_n 1, 1) := by decide +kernel
theorem dX1_without_21 : decode cX1_without 21 = .ok (.if_acmp .ne 13, 3) := by decide +kernel
theorem dX1_without_24 : decode cX1_without 24 = .ok (.aload_n 2, 1) := by decide +kernel
theorem dX1_without_25 : decode cX1_without 25 = .ok (.aload_n 1, 1) := by decide +kernel
theorem dX1_without_26 : decode cX1_without 26 = .ok (.getfield 16, 3) := by decide +kernel
theorem dX1_without_29 : decode cX1_without 29 = .ok (.putfield 16, 3) := by decide +kernel
theorem dX1_without_32 : decode cX1_without 32 = .ok (.aload_n 0, 1) := by decide +kernel
theorem dX1_without_33 : decode cX1_without 33 = .ok (.areturn, 1) := by decide +kernel
theorem dX1_without_34 : decode cX1_without 34 = .ok (.aload_n 2, 1) := by decide +kernel
theorem dX1_without_35 : decode cX1_without 35 = .ok (.getfield 16, 3) := by decide +kernel
theorem dX1_without_38 : decode cX1_without 38 = .ok (.astore_n 2, 1) := by decide +kernel
theorem dX1_without_39 : decode cX1_without 39 = .ok (.goto (-27), 3) := by decide +kernel
theorem dX1_without_42 : decode cX1_without 42 = .ok (.aload_n 0, 1) := by decide +kernel
theorem dX1_without_43 : decode cX1_without 43 = .ok (.areturn, 1) := by decide +kernel
theorem dX1_withKey_0 : decode cX1_withKey 0 = .ok (.aload_n 0, 1) := by decide +kernel
theorem dX1_withKey_1 : decode cX1_withKey 1 = .ok (.astore_n 2, 1) := by decide +kernel
theorem dX1_withKey_2 : decode cX1_withKey 2 = .ok (.aload_n 2, 1) := by decide +kernel
theorem dX1_withKey_3 : decode cX1_withKey 3 = .ok (.ifnull 21, 3) := by decide +kernel
theorem dX1_withKey_6 : decode cX1_withKey 6 = .ok (.aload_n 2, 1) := by decide +kernel
theorem dX1_withKey_7 : decode cX1_withKey 7 = .ok (.getfield 7, 3) := by decide +kernel
theorem dX1_withKey_10 : decode cX1_withKey 10 = .ok (.iload_n 1, 1) := by decide +kernel
theorem dX1_withKey_11 : decode cX1_withKey 11 = .ok (.if_icmp .ne 5, 3) := by decide +kernel
theorem dX1_withKey_14 : decode cX1_withKey 14 = .ok (.aload_n 2, 1) := by decide +kernel
theorem dX1_withKey_15 : decode cX1_withKey 15 = .ok (.areturn, 1) := by decide +kernel
theorem dX1_withKey_16 : decode cX1_withKey 16 = .ok (.aload_n 2, 1) := by decide +kernel
theorem dX1_withKey_17 : decode cX1_withKey 17 = .ok (.getfield 16, 3) := by decide +kernel
theorem dX1_withKey_20 : decode cX1_withKey 20 = .ok (.astore_n 2, 1) := by decide +kernel
theorem dX1_withKey_21 : decode cX1_withKey 21 = .ok (.goto (-19), 3) := by decide +kernel
theorem dX1_withKey_24 : decode cX1_withKey 24 = .ok (.aconst_null, 1) := by decide +kernel
theorem dX1_withKey_25 : decode cX1_withKey 25 = .ok (.areturn, 1) := by decide +kernel
theorem dX1_withInfo_0 : decode cX1_withInfo 0 = .ok (.aload_n 0, 1) := by decide +kernel
theorem dX1_withInfo_1 : decode cX1_withInfo 1 = .ok (.astore_n 2, 1) := by decide +kernel
theorem dX1_withInfo_2 : decode cX1_withInfo 2 = .ok (.aload_n 2, 1) := by decide +kernel
theorem dX1_withInfo_3 : decode cX1_withInfo 3 = .ok (.ifnull 21, 3) := by decide +kernel
theorem dX1_withInfo_6 : decode cX1_withInfo 6 = .ok (.aload_n 2, 1) := by decide +kernel
theorem dX1_withInfo_7 : decode cX1_withInfo 7 = .ok (.getfield 13, 3) := by decide +kernel
theorem dX1_withInfo_10 : decode cX1_withInfo 10 = .ok (.iload_n 1, 1) := by decide +kernel
theorem dX1_withInfo_11 : decode cX1_withInfo 11 = .ok (.if_icmp .ne 5, 3) := by decide +kernel
theorem dX1_withInfo_14 : decode cX1_withInfo 14 = .ok (.aload_n 2, 1) := by decide +kernel
theorem dX1_withInfo_15 : decode cX1_withInfo 15 = .ok (.areturn, 1) := by decide +kernel
theorem dX1_withInfo_16 : decode cX1_withInfo 16 = .ok (.aload_n 2, 1) := by decide +kernel
theorem dX1_withInfo_17 : decode cX1_withInfo 17 = .ok (.getfield 16, 3) := by decide +kernel
theorem dX1_withInfo_20 : decode cX1_withInfo 20 = .ok (.astore_n 2, 1) := by decide +kernel
theorem dX1_withInfo_21 : decode cX1_withInfo 21 = .ok (.goto (-19), 3) := by decide +kernel
theorem dX1_withInfo_24 : decode cX1_withInfo 24 = .ok (.aconst_null, 1) := by decide +kernel
theorem dX1_withInfo_25 : decode cX1_withInfo 25 = .ok (.areturn, 1) := by decide +kernel
theorem dX1_atPlace_0 : decode cX1_atPlace 0 = .ok (.iconst 0, 1) := by decide +kernel
theorem dX1_atPlace_1 : decode cX1_atPlace 1 = .ok (.istore_n 2, 1) := by decide +kernel
theorem dX1_atPlace_2 : decode cX1_atPlace 2 = .ok (.aload_n 0, 1) := by decide +kernel
theorem dX1_atPlace_3 : decode cX1_atPlace 3 = .ok (.astore_n 3, 1) := by decide +kernel
theorem dX1_atPlace_4 : decode cX1_atPlace 4 = .ok (.aload_n 3, 1) := by decide +kernel
theorem dX1_atPlace_5 : decode cX1_atPlace 5 = .ok (.ifnull 21, 3) := by decide +kernel
theorem dX1_atPlace_8 : decode cX1_atPlace 8 = .ok (.iload_n 2, 1) := by decide +kernel
theorem dX1_atPlace_9 : decode cX1_atPlace 9 = .ok (.iload_n 1, 1) := by decide +kernel
theorem dX1_atPlace_10 : decode cX1_atPlace 10 = .ok (.if_icmp .ne 5, 3) := by decide +kernel
theorem dX1_atPlace_13 : decode cX1_atPlace 13 = .ok (.aload_n 3, 1) := by decide +kernel
theorem dX1_atPlace_14 : decode cX1_atPlace 14 = .ok (.areturn, 1) := by decide +kernel
theorem dX1_atPlace_15 : decode cX1_atPlace 15 = .ok (.iinc 2 1, 3) := by decide +kernel
theorem dX1_atPlace_18 : decode cX1_atPlace 18 = .ok (.aload_n 3, 1) := by decide +kernel
theorem dX1_atPlace_19 : decode cX1_atPlace 19 = .ok (.getfield 16, 3) := by decide +kernel
theorem dX1_atPlace_22 : decode cX1_atPlace 22 = .ok (.astore_n 3, 1) := by decide +kernel
theorem dX1_atPlace_23 : decode cX1_atPlace 23 = .ok (.goto (-19), 3) := by decide +kernel
theorem dX1_atPlace_26 : decode cX1_atPlace 26 = .ok (.aconst_null, 1) := by decide +kernel
theorem dX1_atPlace_27 : decode cX1_atPlace 27 = .ok (.areturn, 1) := by decide +kernel
theorem dX1_count_0 : decode cX1_count 0 = .ok (.iconst 0, 1) := by decide +kernel
theorem dX1_count_1 : decode cX1_count 1 = .ok (.istore_n 1, 1) := by decide +kernel
theorem dX1_count_2 : decode cX1_count 2 = .ok (.aload_n 0, 1) := by decide +kernel
theorem dX1_count_3 : decode cX1_count 3 = .ok (.astore_n 2, 1) := by decide +kernel
theorem dX1_count_4 : decode cX1_count 4 = .ok (.aload_n 2, 1) := by decide +kernel
theorem dX1_count_5 : decode cX1_count 5 = .ok (.ifnull 14, 3) := by decide +kernel
theorem dX1_count_8 : decode cX1_count 8 = .ok (.iinc 1 1, 3) := by decide +kernel
theorem dX1_count_11 : decode cX1_count 11 = .ok (.aload_n 2, 1) := by decide +kernel
theorem dX1_count_12 : decode cX1_count 12 = .ok (.getfield 16, 3) := by decide +kernel
theorem dX1_count_15 : decode cX1_count 15 = .ok (.astore_n 2, 1) := by decide +kernel
theorem dX1_count_16 : decode cX1_count 16 = .ok (.goto (-12), 3) := by decide +kernel
theorem dX1_count_19 : decode cX1_count 19 = .ok (.iload_n 1, 1) := by decide +kernel
theorem dX1_count_20 : decode cX1_count 20 = .ok (.ireturn, 1) := by decide +kernel
theorem dX2_init_0 : decode cX2_init 0 = .ok (.aload_n 0, 1) := by decide +kernel
theorem dX2_init_1 : decode cX2_init 1 = .ok (.invokespecial 3, 3) := by decide +kernel
theorem dX2_init_4 : decode cX2_init 4 = .ok (.aload_n 0, 1) := by decide +kernel
theorem dX2_init_5 : decode cX2_init 5 = .ok (.iconst 1, 1) := by decide +kernel
theorem dX2_init_6 : decode cX2_init 6 = .ok (.putfield 9, 3) := by decide +kernel
theorem dX2_init_9 : decode cX2_init 9 = .ok (.return_, 1) := by decide +kernel
theorem dX2_give_0 : decode cX2_give 0 = .ok (.aload_n 0, 1) := by decide +kernel
theorem dX2_give_1 : decode cX2_give 1 = .ok (.getfield 9, 3) := by decide +kernel
theorem dX2_give_4 : decode cX2_give 4 = .ok (.aload_n 0, 1) := by decide +kernel
theorem dX2_give_5 : decode cX2_give 5 = .ok (.getfield 15, 3) := by decide +kernel
theorem dX2_give_8 : decode cX2_give 8 = .ok (.if_icmp .le 14, 3) := by decide +kernel
theorem dX2_give_11 : decode cX2_give 11 = .ok (.aload_n 0, 1) := by decide +kernel
theorem dX2_give_12 : decode cX2_give 12 = .ok (.dup, 1) := by decide +kernel
theorem dX2_give_13 : decode cX2_give 13 = .ok (.getfield 15, 3) := by decide +kernel
theorem dX2_give_16 : decode cX2_give 16 = .ok (.bipush 16, 2) := by decide +kernel
theorem dX2_give_18 : decode cX2_give 18 = .ok (.iadd, 1) := by decide +kernel
theorem dX2_give_19 : decode cX2_give 19 = .ok (.putfield 15, 3) := by decide +kernel
theorem dX2_give_22 : decode cX2_give 22 = .ok (.aload_n 0, 1) := by decide +kernel
theorem dX2_give_23 : decode cX2_give 23 = .ok (.aload_n 0, 1) := by decide +kernel
theorem dX2_give_24 : decode cX2_give 24 = .ok (.getfield 9, 3) := by decide +kernel
theorem dX2_give_27 : decode cX2_give 27 = .ok (.putfield 18, 3) := by decide +kernel
theorem dX2_give_30 : decode cX2_give 30 = .ok (.aload_n 0, 1) := by decide +kernel
theorem dX2_give_31 : decode cX2_give 31 = .ok (.dup, 1) := by decide +kernel
theorem dX2_give_32 : decode cX2_give 32 = .ok (.getfield 9, 3) := by decide +kernel
theorem dX2_give_35 : decode cX2_give 35 = .ok (.iconst 1, 1) := by decide +kernel
theorem dX2_give_36 : decode cX2_give 36 = .ok (.iadd, 1) := by decide +kernel
theorem dX2_give_37 : decode cX2_give 37 = .ok (.putfield 9, 3) := by decide +kernel
theorem dX2_give_40 : decode cX2_give 40 = .ok (.aload_n 0, 1) := by decide +kernel
theorem dX2_give_41 : decode cX2_give 41 = .ok (.getfield 18, 3) := by decide +kernel
theorem dX2_give_44 : decode cX2_give 44 = .ok (.ireturn, 1) := by decide +kernel
theorem dX2_restart_0 : decode cX2_restart 0 = .ok (.aload_n 0, 1) := by decide +kernel
theorem dX2_restart_1 : decode cX2_restart 1 = .ok (.aload_n 0, 1) := by decide +kernel
theorem dX2_restart_2 : decode cX2_restart 2 = .ok (.getfield 15, 3) := by decide +kernel
theorem dX2_restart_5 : decode cX2_restart 5 = .ok (.iconst 1, 1) := by decide +kernel
theorem dX2_restart_6 : decode cX2_restart 6 = .ok (.iadd, 1) := by decide +kernel
theorem dX2_restart_7 : decode cX2_restart 7 = .ok (.putfield 9, 3) := by decide +kernel
theorem dX2_restart_10 : decode cX2_restart 10 = .ok (.aload_n 0, 1) := by decide +kernel
theorem dX2_restart_11 : decode cX2_restart 11 = .ok (.getfield 9, 3) := by decide +kernel
theorem dX2_restart_14 : decode cX2_restart 14 = .ok (.ireturn, 1) := by decide +kernel
theorem dX3_init_0 : decode cX3_init 0 = .ok (.aload_n 0, 1) := by decide +kernel
theorem dX3_init_1 : decode cX3_init 1 = .ok (.invokespecial 3, 3) := by decide +kernel
theorem dX3_init_4 : decode cX3_init 4 = .ok (.aload_n 0, 1) := by decide +kernel
theorem dX3_init_5 : decode cX3_init 5 = .ok (.sipush 256, 3) := by decide +kernel
theorem dX3_init_8 : decode cX3_init 8 = .ok (.anewarray 9, 3) := by decide +kernel
theorem dX3_init_11 : decode cX3_init 11 = .ok (.putfield 11, 3) := by decide +kernel
theorem dX3_init_14 : decode cX3_init 14 = .ok (.iconst 0, 1) := by decide +kernel
theorem dX3_init_15 : decode cX3_init 15 = .ok (.istore_n 1, 1) := by decide +kernel
theorem dX3_init_16 : decode cX3_init 16 = .ok (.iload_n 1, 1) := by decide +kernel
theorem dX3_init_17 : decode cX3_init 17 = .ok (.sipush 256, 3) := by decide +kernel
theorem dX3_init_20 : decode cX3_init 20 = .ok (.if_icmp .ge 22, 3) := by decide +kernel
theorem dX3_init_23 : decode cX3_init 23 = .ok (.aload_n 0, 1) := by decide +kernel
theorem dX3_init_24 : decode cX3_init 24 = .ok (.getfield 11, 3) := by decide +kernel
theorem dX3_init_27 : decode cX3_init 27 = .ok (.iload_n 1, 1) := by decide +kernel
theorem dX3_init_28 : decode cX3_init 28 = .ok (.new 9, 3) := by decide +kernel
theorem dX3_init_31 : decode cX3_init 31 = .ok (.dup, 1) := by decide +kernel
theorem dX3_init_32 : decode cX3_init 32 = .ok (.invokespecial 17, 3) := by decide +kernel
theorem dX3_init_35 : decode cX3_init 35 = .ok (.aastore, 1) := by decide +kernel
theorem dX3_init_36 : decode cX3_init 36 = .ok (.iinc 1 1, 3) := by decide +kernel
theorem dX3_init_39 : decode cX3_init 39 = .ok (.goto (-23), 3) := by decide +kernel
theorem dX3_init_42 : decode cX3_init 42 = .ok (.return_, 1) := by decide +kernel
theorem dX3_addData_0 : decode cX3_addData 0 = .ok (.aload_n 1, 1) := by decide +kernel
theorem dX3_addData_1 : decode cX3_addData 1 = .ok (.new 18, 3) := by decide +kernel
theorem dX3_addData_4 : decode cX3_addData 4 = .ok (.dup, 1) := by decide +kernel
theorem dX3_addData_5 : decode cX3_addData 5 = .ok (.iload_n 2, 1) := by decide +kernel
theorem dX3_addData_6 : decode cX3_addData 6 = .ok (.iload_n 3, 1) := by decide +kernel
theorem dX3_addData_7 : decode cX3_addData 7 = .ok (.aload_n 1, 1) := by decide +kernel
theorem dX3_addData_8 : decode cX3_addData 8 = .ok (.getfield 20, 3) := by decide +kernel
theorem dX3_addData_11 : decode cX3_addData 11 = .ok (.invokespecial 24, 3) := by decide +kernel
theorem dX3_addData_14 : decode cX3_addData 14 = .ok (.putfield 20, 3) := by decide +kernel
theorem dX3_addData_17 : decode cX3_addData 17 = .ok (.aload_n 0, 1) := by decide +kernel
theorem dX3_addData_18 : decode cX3_addData 18 = .ok (.iconst 1, 1) := by decide +kernel
theorem dX3_addData_19 : decode cX3_addData 19 = .ok (.invokevirtual 27, 3) := by decide +kernel
theorem dX3_addData_22 : decode cX3_addData 22 = .ok (.return_, 1) := by decide +kernel
theorem dX3_dropData_0 : decode cX3_dropData 0 = .ok (.aload_n 1, 1) := by decide +kernel
theorem dX3_dropData_1 : decode cX3_dropData 1 = .ok (.getfield 20, 3) := by decide +kernel
theorem dX3_dropData_4 : decode cX3_dropData 4 = .ok (.iload_n 2, 1) := by decide +kernel
theorem dX3_dropData_5 : decode cX3_dropData 5 = .ok (.invokestatic 31, 3) := by decide +kernel
theorem dX3_dropData_8 : decode cX3_dropData 8 = .ok (.astore_n 3, 1) := by decide +kernel
theorem dX3_dropData_9 : decode cX3_dropData 9 = .ok (.aload_n 3, 1) := by decide +kernel
theorem dX3_dropData_10 : decode cX3_dropData 10 = .ok (.ifnull 20, 3) := by decide +kernel
theorem dX3_dropData_13 : decode cX3_dropData 13 = .ok (.aload_n 1, 1) := by decide +kernel
theorem dX3_dropData_14 : decode cX3_dropData 14 = .ok (.aload_n 1, 1) := by decide +kernel
theorem dX3_dropData_15 : decode cX3_dropData 15 = .ok (.getfield 20, 3) := by decide +kernel
theorem dX3_dropData_18 : decode cX3_dropData 18 = .ok (.aload_n 3, 1) := by decide +kernel
theorem dX3_dropData_19 : decode cX3_dropData 19 = .ok (.invokestatic 35, 3) := by decide +kernel
theorem dX3_dropData_22 : decode cX3_dropData 22 = .ok (.putfield 20, 3) := by decide +kernel
theorem dX3_dropData_25 : decode cX3_dropData 25 = .ok (.aload_n 0, 1) := by decide +kernel
theorem dX3_dropData_26 : decode cX3_dropData 26 = .ok (.iconst (-1), 1) := by decide +kernel
theorem dX3_dropData_27 : decode cX3_dropData 27 = .ok (.invokevirtual 27, 3) := by decide +kernel
theorem dX3_dropData_30 : decode cX3_dropData 30 = .ok (.return_, 1) := by decide +kernel
theorem dX3_addWrite_0 : decode cX3_addWrite 0 = .ok (.aload_n 1, 1) := by decide +kernel
theorem dX3_addWrite_1 : decode cX3_addWrite 1 = .ok (.new 18, 3) := by decide +kernel
theorem dX3_addWrite_4 : decode cX3_addWrite 4 = .ok (.dup, 1) := by decide +kernel
theorem dX3_addWrite_5 : decode cX3_addWrite 5 = .ok (.iload_n 2, 1) := by decide +kernel
theorem dX3_addWrite_6 : decode cX3_addWrite 6 = .ok (.iload_n 3, 1) := by decide +kernel
theorem dX3_addWrite_7 : decode cX3_addWrite 7 = .ok (.aload_n 1, 1) := by decide +kernel
theorem dX3_addWrite_8 : decode cX3_addWrite 8 = .ok (.getfield 39, 3) := by decide +kernel
theorem dX3_addWrite_11 : decode cX3_addWrite 11 = .ok (.invokespecial 24, 3) := by decide +kernel
theorem dX3_addWrite_14 : decode cX3_addWrite 14 = .ok (.putfield 39, 3) := by decide +kernel
theorem dX3_addWrite_17 : decode cX3_addWrite 17 = .ok (.aload_n 0, 1) := by decide +kernel
theorem dX3_addWrite_18 : decode cX3_addWrite 18 = .ok (.iconst 1, 1) := by decide +kernel
theorem dX3_addWrite_19 : decode cX3_addWrite 19 = .ok (.invokevirtual 27, 3) := by decide +kernel
theorem dX3_addWrite_22 : decode cX3_addWrite 22 = .ok (.return_, 1) := by decide +kernel
theorem dX3_dropWrite_0 : decode cX3_dropWrite 0 = .ok (.aload_n 1, 1) := by decide +kernel
theorem dX3_dropWrite_1 : decode cX3_dropWrite 1 = .ok (.aload_n 1, 1) := by decide +kernel
theorem dX3_dropWrite_2 : decode cX3_dropWrite 2 = .ok (.getfield 39, 3) := by decide +kernel
theorem dX3_dropWrite_5 : decode cX3_dropWrite 5 = .ok (.aload_n 2, 1) := by decide +kernel
theorem dX3_dropWrite_6 : decode cX3_dropWrite 6 = .ok (.invokestatic 35, 3) := by decide +kernel
theorem dX3_dropWrite_9 : decode cX3_dropWrite 9 = .ok (.putfield 39, 3) := by decide +kernel
theorem dX3_dropWrite_12 : decode cX3_dropWrite 12 = .ok (.aload_n 0, 1) := by decide +kernel
theorem dX3_dropWrite_13 : decode cX3_dropWrite 13 = .ok (.iconst (-1), 1) := by decide +kernel
theorem dX3_dropWrite_14 : decode cX3_dropWrite 14 = .ok (.invokevirtual 27, 3) := by decide +kernel
theorem dX3_dropWrite_17 : decode cX3_dropWrite 17 = .ok (.return_, 1) := by decide +kernel
theorem dX3_addLock_0 : decode cX3_addLock 0 = .ok (.aload_n 1, 1) := by decide +kernel
theorem dX3_addLock_1 : decode cX3_addLock 1 = .ok (.iload_n 2, 1) := by decide +kernel
theorem dX3_addLock_2 : decode cX3_addLock 2 = .ok (.putfield 42, 3) := by decide +kernel
theorem dX3_addLock_5 : decode cX3_addLock 5 = .ok (.aload_n 1, 1) := by decide +kernel
theorem dX3_addLock_6 : decode cX3_addLock 6 = .ok (.iload_n 3, 1) := by decide +kernel
theorem dX3_addLock_7 : decode cX3_addLock 7 = .ok (.putfield 46, 3) := by decide +kernel
theorem dX3_addLock_10 : decode cX3_addLock 10 = .ok (.aload_n 1, 1) := by decide +kernel
theorem dX3_addLock_11 : decode cX3_addLock 11 = .ok (.iload 4, 2) := by decide +kernel
theorem dX3_addLock_13 : decode cX3_addLock 13 = .ok (.putfield 49, 3) := by decide +kernel
theorem dX3_addLock_16 : decode cX3_addLock 16 = .ok (.aload_n 0, 1) := by decide +kernel
theorem dX3_addLock_17 : decode cX3_addLock 17 = .ok (.iconst 2, 1) := by decide +kernel
theorem dX3_addLock_18 : decode cX3_addLock 18 = .ok (.invokevirtual 27, 3) := by decide +kernel
theorem dX3_addLock_21 : decode cX3_addLock 21 = .ok (.return_, 1) := by decide +kernel
theorem dX3_dropLock_0 : decode cX3_dropLock 0 = .ok (.aload_n 1, 1) := by decide +kernel
theorem dX3_dropLock_1 : decode cX3_dropLock 1 = .ok (.iconst 0, 1) := by decide +kernel
theorem dX3_dropLock_2 : decode cX3_dropLock 2 = .ok (.putfield 42, 3) := by decide +kernel
theorem dX3_dropLock_5 : decode cX3_dropLock 5 = .ok (.aload_n 1, 1) := by decide +kernel
theorem dX3_dropLock_6 : decode cX3_dropLock 6 = .ok (.iconst 0, 1) := by decide +kernel
theorem dX3_dropLock_7 : decode cX3_dropLock 7 = .ok (.putfield 46, 3) := by decide +kernel
theorem dX3_dropLock_10 : decode cX3_dropLock 10 = .ok (.aload_n 1, 1) := by decide +kernel
theorem dX3_dropLock_11 : decode cX3_dropLock 11 = .ok (.iconst 0, 1) := by decide +kernel
theorem dX3_dropLock_12 : decode cX3_dropLock 12 = .ok (.putfield 49, 3) := by decide +kernel
theorem dX3_dropLock_15 : decode cX3_dropLock 15 = .ok (.aload_n 0, 1) := by decide +kernel
theorem dX3_dropLock_16 : decode cX3_dropLock 16 = .ok (.bipush (-2), 2) := by decide +kernel
theorem dX3_dropLock_18 : decode cX3_dropLock 18 = .ok (.invokevirtual 27, 3) := by decide +kernel
theorem dX3_dropLock_21 : decode cX3_dropLock 21 = .ok (.return_, 1) := by decide +kernel
theorem dX3_addLine_0 : decode cX3_addLine 0 = .ok (.aload_n 0, 1) := by decide +kernel
theorem dX3_addLine_1 : decode cX3_addLine 1 = .ok (.dup, 1) := by decide +kernel
theorem dX3_addLine_2 : decode cX3_addLine 2 = .ok (.getfield 52, 3) := by decide +kernel
theorem dX3_addLine_5 : decode cX3_addLine 5 = .ok (.iload_n 1, 1) := by decide +kernel
theorem dX3_addLine_6 : decode cX3_addLine 6 = .ok (.iadd, 1) := by decide +kernel
theorem dX3_addLine_7 : decode cX3_addLine 7 = .ok (.putfield 52, 3) := by decide +kernel
theorem dX3_addLine_10 : decode cX3_addLine 10 = .ok (.aload_n 0, 1) := by decide +kernel
theorem dX3_addLine_11 : decode cX3_addLine 11 = .ok (.dup, 1) := by decide +kernel
theorem dX3_addLine_12 : decode cX3_addLine 12 = .ok (.getfield 55, 3) := by decide +kernel
theorem dX3_addLine_15 : decode cX3_addLine 15 = .ok (.iconst 1, 1) := by decide +kernel
theorem dX3_addLine_16 : decode cX3_addLine 16 = .ok (.iadd, 1) := by decide +kernel
theorem dX3_addLine_17 : decode cX3_addLine 17 = .ok (.putfield 55, 3) := by decide +kernel
theorem dX3_addLine_20 : decode cX3_addLine 20 = .ok (.return_, 1) := by decide +kernel
theorem dX3_putDownLog_0 : decode cX3_putDownLog 0 = .ok (.aload_n 0, 1) := by decide +kernel
theorem dX3_putDownLog_1 : decode cX3_putDownLog 1 = .ok (.getfield 55, 3) := by decide +kernel
theorem dX3_putDownLog_4 : decode cX3_putDownLog 4 = .ok (.bipush 64, 2) := by decide +kernel
theorem dX3_putDownLog_6 : decode cX3_putDownLog 6 = .ok (.if_icmp .ge 4, 3) := by decide +kernel
theorem dX3_putDownLog_9 : decode cX3_putDownLog 9 = .ok (.return_, 1) := by decide +kernel
theorem dX3_putDownLog_10 : decode cX3_putDownLog 10 = .ok (.aload_n 0, 1) := by decide +kernel
theorem dX3_putDownLog_11 : decode cX3_putDownLog 11 = .ok (.iconst 0, 1) := by decide +kernel
theorem dX3_putDownLog_12 : decode cX3_putDownLog 12 = .ok (.putfield 55, 3) := by decide +kernel
theorem dX3_putDownLog_15 : decode cX3_putDownLog 15 = .ok (.aload_n 0, 1) := by decide +kernel
theorem dX3_putDownLog_16 : decode cX3_putDownLog 16 = .ok (.dup, 1) := by decide +kernel
theorem dX3_putDownLog_17 : decode cX3_putDownLog 17 = .ok (.getfield 58, 3) := by decide +kernel
theorem dX3_putDownLog_20 : decode cX3_putDownLog 20 = .ok (.iconst 1, 1) := by decide +kernel
theorem dX3_putDownLog_21 : decode cX3_putDownLog 21 = .ok (.iadd, 1) := by decide +kernel
theorem dX3_putDownLog_22 : decode cX3_putDownLog 22 = .ok (.putfield 58, 3) := by decide +kernel
theorem dX3_putDownLog_25 : decode cX3_putDownLog 25 = .ok (.aload_n 0, 1) := by decide +kernel
theorem dX3_putDownLog_26 : decode cX3_putDownLog 26 = .ok (.getfield 58, 3) := by decide +kernel
theorem dX3_putDownLog_29 : decode cX3_putDownLog 29 = .ok (.iconst 4, 1) := by decide +kernel
theorem dX3_putDownLog_30 : decode cX3_putDownLog 30 = .ok (.if_icmp .ne 18, 3) := by decide +kernel
theorem dX3_putDownLog_33 : decode cX3_putDownLog 33 = .ok (.aload_n 0, 1) := by decide +kernel
theorem dX3_putDownLog_34 : decode cX3_putDownLog 34 = .ok (.iconst 1, 1) := by decide +kernel
theorem dX3_putDownLog_35 : decode cX3_putDownLog 35 = .ok (.putfield 58, 3) := by decide +kernel
theorem dX3_putDownLog_38 : decode cX3_putDownLog 38 = .ok (.aload_n 0, 1) := by decide +kernel
theorem dX3_putDownLog_39 : decode cX3_putDownLog 39 = .ok (.dup, 1) := by decide +kernel
theorem dX3_putDownLog_40 : decode cX3_putDownLog 40 = .ok (.getfield 61, 3) := by decide +kernel
theorem dX3_putDownLog_43 : decode cX3_putDownLog 43 = .ok (.iconst 1, 1) := by decide +kernel
theorem dX3_putDownLog_44 : decode cX3_putDownLog 44 = .ok (.iadd, 1) := by decide +kernel
theorem dX3_putDownLog_45 : decode cX3_putDownLog 45 = .ok (.putfield 61, 3) := by decide +kernel
theorem dX3_putDownLog_48 : decode cX3_putDownLog 48 = .ok (.return_, 1) := by decide +kernel
theorem dX3_isDecided_0 : decode cX3_isDecided 0 = .ok (.aload_n 0, 1) := by decide +kernel
theorem dX3_isDecided_1 : decode cX3_isDecided 1 = .ok (.getfield 11, 3) := by decide +kernel
theorem dX3_isDecided_4 : decode cX3_isDecided 4 = .ok (.aload_n 1, 1) := by decide +kernel
theorem dX3_isDecided_5 : decode cX3_isDecided 5 = .ok (.getfield 46, 3) := by decide +kernel
theorem dX3_isDecided_8 : decode cX3_isDecided 8 = .ok (.aaload, 1) := by decide +kernel
theorem dX3_isDecided_9 : decode cX3_isDecided 9 = .ok (.getfield 42, 3) := by decide +kernel
theorem dX3_isDecided_12 : decode cX3_isDecided 12 = .ok (.aload_n 1, 1) := by decide +kernel
theorem dX3_isDecided_13 : decode cX3_isDecided 13 = .ok (.getfield 42, 3) := by decide +kernel
theorem dX3_isDecided_16 : decode cX3_isDecided 16 = .ok (.if_icmp .eq 7, 3) := by decide +kernel
theorem dX3_isDecided_19 : decode cX3_isDecided 19 = .ok (.iconst 1, 1) := by decide +kernel
theorem dX3_isDecided_20 : decode cX3_isDecided 20 = .ok (.goto 4, 3) := by decide +kernel
theorem dX3_isDecided_23 : decode cX3_isDecided 23 = .ok (.iconst 0, 1) := by decide +kernel
theorem dX3_isDecided_24 : decode cX3_isDecided 24 = .ok (.ireturn, 1) := by decide +kernel
theorem dX3_clean_0 : decode cX3_clean 0 = .ok (.aload_n 0, 1) := by decide +kernel
theorem dX3_clean_1 : decode cX3_clean 1 = .ok (.dup, 1) := by decide +kernel
theorem dX3_clean_2 : decode cX3_clean 2 = .ok (.getfield 64, 3) := by decide +kernel
theorem dX3_clean_5 : decode cX3_clean 5 = .ok (.iconst 1, 1) := by decide +kernel
theorem dX3_clean_6 : decode cX3_clean 6 = .ok (.iadd, 1) := by decide +kernel
theorem dX3_clean_7 : decode cX3_clean 7 = .ok (.putfield 64, 3) := by decide +kernel
theorem dX3_clean_10 : decode cX3_clean 10 = .ok (.aload_n 0, 1) := by decide +kernel
theorem dX3_clean_11 : decode cX3_clean 11 = .ok (.getfield 11, 3) := by decide +kernel
theorem dX3_clean_14 : decode cX3_clean 14 = .ok (.aload_n 1, 1) := by decide +kernel
theorem dX3_clean_15 : decode cX3_clean 15 = .ok (.getfield 46, 3) := by decide +kernel
theorem dX3_clean_18 : decode cX3_clean 18 = .ok (.aaload, 1) := by decide +kernel
theorem dX3_clean_19 : decode cX3_clean 19 = .ok (.astore_n 2, 1) := by decide +kernel
theorem dX3_clean_20 : decode cX3_clean 20 = .ok (.aload_n 0, 1) := by decide +kernel
theorem dX3_clean_21 : decode cX3_clean 21 = .ok (.aload_n 1, 1) := by decide +kernel
theorem dX3_clean_22 : decode cX3_clean 22 = .ok (.invokevirtual 67, 3) := by decide +kernel
theorem dX3_clean_25 : decode cX3_clean 25 = .ok (.ifCond .ne 10, 3) := by decide +kernel
theorem dX3_clean_28 : decode cX3_clean 28 = .ok (.aload_n 0, 1) := by decide +kernel
theorem dX3_clean_29 : decode cX3_clean 29 = .ok (.aload_n 2, 1) := by decide +kernel
theorem dX3_clean_30 : decode cX3_clean 30 = .ok (.iconst 1, 1) := by decide +kernel
theorem dX3_clean_31 : decode cX3_clean 31 = .ok (.invokevirtual 71, 3) := by decide +kernel
theorem dX3_clean_34 : decode cX3_clean 34 = .ok (.return_, 1) := by decide +kernel
theorem dX3_clean_35 : decode cX3_clean 35 = .ok (.aload_n 2, 1) := by decide +kernel
theorem dX3_clean_36 : decode cX3_clean 36 = .ok (.getfield 39, 3) := by decide +kernel
theorem dX3_clean_39 : decode cX3_clean 39 = .ok (.aload_n 1, 1) := by decide +kernel
theorem dX3_clean_40 : decode cX3_clean 40 = .ok (.getfield 42, 3) := by decide +kernel
theorem dX3_clean_43 : decode cX3_clean 43 = .ok (.invokestatic 75, 3) := by decide +kernel
theorem dX3_clean_46 : decode cX3_clean 46 = .ok (.astore_n 3, 1) := by decide +kernel
theorem dX3_clean_47 : decode cX3_clean 47 = .ok (.aload_n 3, 1) := by decide +kernel
theorem dX3_clean_48 : decode cX3_clean 48 = .ok (.ifnonnull 10, 3) := by decide +kernel
theorem dX3_clean_51 : decode cX3_clean 51 = .ok (.aload_n 0, 1) := by decide +kernel
theorem dX3_clean_52 : decode cX3_clean 52 = .ok (.aload_n 1, 1) := by decide +kernel
theorem dX3_clean_53 : decode cX3_clean 53 = .ok (.iconst 0, 1) := by decide +kernel
theorem dX3_clean_54 : decode cX3_clean 54 = .ok (.invokevirtual 71, 3) := by decide +kernel
theorem dX3_clean_57 : decode cX3_clean 57 = .ok (.return_, 1) := by decide +kernel
theorem dX3_clean_58 : decode cX3_clean 58 = .ok (.aload_n 0, 1) := by decide +kernel
theorem dX3_clean_59 : decode cX3_clean 59 = .ok (.aload_n 1, 1) := by decide +kernel
theorem dX3_clean_60 : decode cX3_clean 60 = .ok (.aload_n 3, 1) := by decide +kernel
theorem dX3_clean_61 : decode cX3_clean 61 = .ok (.getfield 78, 3) := by decide +kernel
theorem dX3_clean_64 : decode cX3_clean 64 = .ok (.aload_n 1, 1) := by decide +kernel
theorem dX3_clean_65 : decode cX3_clean 65 = .ok (.getfield 42, 3) := by decide +kernel
theorem dX3_clean_68 : decode cX3_clean 68 = .ok (.invokevirtual 81, 3) := by decide +kernel
theorem dX3_clean_71 : decode cX3_clean 71 = .ok (.aload_n 0, 1) := by decide +kernel
theorem dX3_clean_72 : decode cX3_clean 72 = .ok (.aload_n 1, 1) := by decide +kernel
theorem dX3_clean_73 : decode cX3_clean 73 = .ok (.invokevirtual 85, 3) := by decide +kernel
theorem dX3_clean_76 : decode cX3_clean 76 = .ok (.return_, 1) := by decide +kernel
theorem dX3_undo_0 : decode cX3_undo 0 = .ok (.aload_n 1, 1) := by decide +kernel
theorem dX3_undo_1 : decode cX3_undo 1 = .ok (.getfield 42, 3) := by decide +kernel
theorem dX3_undo_4 : decode cX3_undo 4 = .ok (.istore_n 3, 1) := by decide +kernel
theorem dX3_undo_5 : decode cX3_undo 5 = .ok (.aload_n 0, 1) := by decide +kernel
theorem dX3_undo_6 : decode cX3_undo 6 = .ok (.aload_n 1, 1) := by decide +kernel
theorem dX3_undo_7 : decode cX3_undo 7 = .ok (.invokevirtual 85, 3) := by decide +kernel
theorem dX3_undo_10 : decode cX3_undo 10 = .ok (.aload_n 0, 1) := by decide +kernel
theorem dX3_undo_11 : decode cX3_undo 11 = .ok (.aload_n 1, 1) := by decide +kernel
theorem dX3_undo_12 : decode cX3_undo 12 = .ok (.iload_n 3, 1) := by decide +kernel
theorem dX3_undo_13 : decode cX3_undo 13 = .ok (.invokevirtual 89, 3) := by decide +kernel
theorem dX3_undo_16 : decode cX3_undo 16 = .ok (.iload_n 2, 1) := by decide +kernel
theorem dX3_undo_17 : decode cX3_undo 17 = .ok (.ifCond .eq 10, 3) := by decide +kernel
theorem dX3_undo_20 : decode cX3_undo 20 = .ok (.aload_n 0, 1) := by decide +kernel
theorem dX3_undo_21 : decode cX3_undo 21 = .ok (.aload_n 1, 1) := by decide +kernel
theorem dX3_undo_22 : decode cX3_undo 22 = .ok (.iload_n 3, 1) := by decide +kernel
theorem dX3_undo_23 : decode cX3_undo 23 = .ok (.iconst 0, 1) := by decide +kernel
theorem dX3_undo_24 : decode cX3_undo 24 = .ok (.invokevirtual 81, 3) := by decide +kernel
theorem dX3_undo_27 : decode cX3_undo 27 = .ok (.return_, 1) := by decide +kernel
theorem dX3_hasLockNotAbove_0 : decode cX3_hasLockNotAbove 0 = .ok (.iconst 0, 1) := by decide +kernel
theorem dX3_hasLockNotAbove_1 : decode cX3_hasLockNotAbove 1 = .ok (.istore_n 2, 1) := by decide +kernel
theorem dX3_hasLockNotAbove_2 : decode cX3_hasLockNotAbove 2 = .ok (.iload_n 2, 1) := by decide +kernel
theorem dX3_hasLockNotAbove_3 : decode cX3_hasLockNotAbove 3 = .ok (.sipush 256, 3) := by decide +kernel
theorem dX3_hasLockNotAbove_6 : decode cX3_hasLockNotAbove 6 = .ok (.if_icmp .ge 36, 3) := by decide +kernel
theorem dX3_hasLockNotAbove_9 : decode cX3_hasLockNotAbove 9 = .ok (.aload_n 0, 1) := by decide +kernel
theorem dX3_hasLockNotAbove_10 : decode cX3_hasLockNotAbove 10 = .ok (.getfield 11, 3) := by decide +kernel
theorem dX3_hasLockNotAbove_13 : decode cX3_hasLockNotAbove 13 = .ok (.iload_n 2, 1) := by decide +kernel
theorem dX3_hasLockNotAbove_14 : decode cX3_hasLockNotAbove 14 = .ok (.aaload, 1) := by decide +kernel
theorem dX3_hasLockNotAbove_15 : decode cX3_hasLockNotAbove 15 = .ok (.invokevirtual 93, 3) := by decide +kernel
theorem dX3_hasLockNotAbove_18 : decode cX3_hasLockNotAbove 18 = .ok (.ifCond .eq 18, 3) := by decide +kernel
theorem dX3_hasLockNotAbove_21 : decode cX3_hasLockNotAbove 21 = .ok (.aload_n 0, 1) := by decide +kernel
theorem dX3_hasLockNotAbove_22 : decode cX3_hasLockNotAbove 22 = .ok (.getfield 11, 3) := by decide +kernel
theorem dX3_hasLockNotAbove_25 : decode cX3_hasLockNotAbove 25 = .ok (.iload_n 2, 1) := by decide +kernel
theorem dX3_hasLockNotAbove_26 : decode cX3_hasLockNotAbove 26 = .ok (.aaload, 1) := by decide +kernel
theorem dX3_hasLockNotAbove_27 : decode cX3_hasLockNotAbove 27 = .ok (.getfield 42, 3) := by decide +kernel
theorem dX3_hasLockNotAbove_30 : decode cX3_hasLockNotAbove 30 = .ok (.iload_n 1, 1) := by decide +kernel
theorem dX3_hasLockNotAbove_31 : decode cX3_hasLockNotAbove 31 = .ok (.if_icmp .gt 5, 3) := by decide +kernel
theorem dX3_hasLockNotAbove_34 : decode cX3_hasLockNotAbove 34 = .ok (.iconst 1, 1) := by decide +kernel
theorem dX3_hasLockNotAbove_35 : decode cX3_hasLockNotAbove 35 = .ok (.ireturn, 1) := by decide +kernel
theorem dX3_hasLockNotAbove_36 : decode cX3_hasLockNotAbove 36 = .ok (.iinc 2 1, 3) := by decide +kernel
theorem dX3_hasLockNotAbove_39 : decode cX3_hasLockNotAbove 39 = .ok (.goto (-37), 3) := by decide +kernel
theorem dX3_hasLockNotAbove_42 : decode cX3_hasLockNotAbove 42 = .ok (.iconst 0, 1) := by decide +kernel
theorem dX3_hasLockNotAbove_43 : decode cX3_hasLockNotAbove 43 = .ok (.ireturn, 1) := by decide +kernel
theorem dX3_dropUnseen_0 : decode cX3_dropUnseen 0 = .ok (.aload_n 0, 1) := by decide +kernel
theorem dX3_dropUnseen_1 : decode cX3_dropUnseen 1 = .ok (.getfield 52, 3) := by decide +kernel
theorem dX3_dropUnseen_4 : decode cX3_dropUnseen 4 = .ok (.istore_n 2, 1) := by decide +kernel
theorem dX3_dropUnseen_5 : decode cX3_dropUnseen 5 = .ok (.iconst 0, 1) := by decide +kernel
theorem dX3_dropUnseen_6 : decode cX3_dropUnseen 6 = .ok (.istore_n 3, 1) := by decide +kernel
theorem dX3_dropUnseen_7 : decode cX3_dropUnseen 7 = .ok (.iload_n 3, 1) := by decide +kernel
theorem dX3_dropUnseen_8 : decode cX3_dropUnseen 8 = .ok (.sipush 256, 3) := by decide +kernel
theorem dX3_dropUnseen_11 : decode cX3_dropUnseen 11 = .ok (.if_icmp .ge 20, 3) := by decide +kernel
theorem dX3_dropUnseen_14 : decode cX3_dropUnseen 14 = .ok (.aload_n 0, 1) := by decide +kernel
theorem dX3_dropUnseen_15 : decode cX3_dropUnseen 15 = .ok (.aload_n 0, 1) := by decide +kernel
theorem dX3_dropUnseen_16 : decode cX3_dropUnseen 16 = .ok (.getfield 11, 3) := by decide +kernel
theorem dX3_dropUnseen_19 : decode cX3_dropUnseen 19 = .ok (.iload_n 3, 1) := by decide +kernel
theorem dX3_dropUnseen_20 : decode cX3_dropUnseen 20 = .ok (.aaload, 1) := by decide +kernel
theorem dX3_dropUnseen_21 : decode cX3_dropUnseen 21 = .ok (.iload_n 1, 1) := by decide +kernel
theorem dX3_dropUnseen_22 : decode cX3_dropUnseen 22 = .ok (.invokevirtual 97, 3) := by decide +kernel
theorem dX3_dropUnseen_25 : decode cX3_dropUnseen 25 = .ok (.iinc 3 1, 3) := by decide +kernel
theorem dX3_dropUnseen_28 : decode cX3_dropUnseen 28 = .ok (.goto (-21), 3) := by decide +kernel
theorem dX3_dropUnseen_31 : decode cX3_dropUnseen 31 = .ok (.iload_n 2, 1) := by decide +kernel
theorem dX3_dropUnseen_32 : decode cX3_dropUnseen 32 = .ok (.aload_n 0, 1) := by decide +kernel
theorem dX3_dropUnseen_33 : decode cX3_dropUnseen 33 = .ok (.getfield 52, 3) := by decide +kernel
theorem dX3_dropUnseen_36 : decode cX3_dropUnseen 36 = .ok (.isub, 1) := by decide +kernel
theorem dX3_dropUnseen_37 : decode cX3_dropUnseen 37 = .ok (.ireturn, 1) := by decide +kernel
theorem dX3_dropUnseenOf_0 : decode cX3_dropUnseenOf 0 = .ok (.iconst 0, 1) := by decide +kernel
theorem dX3_dropUnseenOf_1 : decode cX3_dropUnseenOf 1 = .ok (.istore_n 3, 1) := by decide +kernel
theorem dX3_dropUnseenOf_2 : decode cX3_dropUnseenOf 2 = .ok (.aload_n 1, 1) := by decide +kernel
theorem dX3_dropUnseenOf_3 : decode cX3_dropUnseenOf 3 = .ok (.getfield 39, 3) := by decide +kernel
theorem dX3_dropUnseenOf_6 : decode cX3_dropUnseenOf 6 = .ok (.astore 4, 2) := by decide +kernel
theorem dX3_dropUnseenOf_8 : decode cX3_dropUnseenOf 8 = .ok (.aload 4, 2) := by decide +kernel
theorem dX3_dropUnseenOf_10 : decode cX3_dropUnseenOf 10 = .ok (.ifnull 84, 3) := by decide +kernel
theorem dX3_dropUnseenOf_13 : decode cX3_dropUnseenOf 13 = .ok (.aload 4, 2) := by decide +kernel
theorem dX3_dropUnseenOf_15 : decode cX3_dropUnseenOf 15 = .ok (.getfield 78, 3) := by decide +kernel
theorem dX3_dropUnseenOf_18 : decode cX3_dropUnseenOf 18 = .ok (.iload_n 2, 1) := by decide +kernel
theorem dX3_dropUnseenOf_19 : decode cX3_dropUnseenOf 19 = .ok (.if_icmp .le 6, 3) := by decide +kernel
theorem dX3_dropUnseenOf_22 : decode cX3_dropUnseenOf 22 = .ok (.goto 62, 3) := by decide +kernel
theorem dX3_dropUnseenOf_25 : decode cX3_dropUnseenOf 25 = .ok (.aload 4, 2) := by decide +kernel
theorem dX3_dropUnseenOf_27 : decode cX3_dropUnseenOf 27 = .ok (.getfield 100, 3) := by decide +kernel
theorem dX3_dropUnseenOf_30 : decode cX3_dropUnseenOf 30 = .ok (.ifCond .ne 13, 3) := by decide +kernel
theorem dX3_dropUnseenOf_33 : decode cX3_dropUnseenOf 33 = .ok (.aload_n 0, 1) := by decide +kernel
theorem dX3_dropUnseenOf_34 : decode cX3_dropUnseenOf 34 = .ok (.aload_n 1, 1) := by decide +kernel
theorem dX3_dropUnseenOf_35 : decode cX3_dropUnseenOf 35 = .ok (.aload 4, 2) := by decide +kernel
theorem dX3_dropUnseenOf_37 : decode cX3_dropUnseenOf 37 = .ok (.invokevirtual 103, 3) := by decide +kernel
theorem dX3_dropUnseenOf_40 : decode cX3_dropUnseenOf 40 = .ok (.goto 44, 3) := by decide +kernel
theorem dX3_dropUnseenOf_43 : decode cX3_dropUnseenOf 43 = .ok (.iload_n 3, 1) := by decide +kernel
theorem dX3_dropUnseenOf_44 : decode cX3_dropUnseenOf 44 = .ok (.ifCond .ne 16, 3) := by decide +kernel
theorem dX3_dropUnseenOf_47 : decode cX3_dropUnseenOf 47 = .ok (.aload_n 1, 1) := by decide +kernel
theorem dX3_dropUnseenOf_48 : decode cX3_dropUnseenOf 48 = .ok (.aload 4, 2) := by decide +kernel
theorem dX3_dropUnseenOf_50 : decode cX3_dropUnseenOf 50 = .ok (.getfield 100, 3) := by decide +kernel
theorem dX3_dropUnseenOf_53 : decode cX3_dropUnseenOf 53 = .ok (.invokevirtual 107, 3) := by decide +kernel
theorem dX3_dropUnseenOf_56 : decode cX3_dropUnseenOf 56 = .ok (.iconst (-1), 1) := by decide +kernel
theorem dX3_dropUnseenOf_57 : decode cX3_dropUnseenOf 57 = .ok (.if_icmp .ne 25, 3) := by decide +kernel
theorem dX3_dropUnseenOf_60 : decode cX3_dropUnseenOf 60 = .ok (.iconst 1, 1) := by decide +kernel
theorem dX3_dropUnseenOf_61 : decode cX3_dropUnseenOf 61 = .ok (.istore_n 3, 1) := by decide +kernel
theorem dX3_dropUnseenOf_62 : decode cX3_dropUnseenOf 62 = .ok (.aload_n 0, 1) := by decide +kernel
theorem dX3_dropUnseenOf_63 : decode cX3_dropUnseenOf 63 = .ok (.aload_n 1, 1) := by decide +kernel
theorem dX3_dropUnseenOf_64 : decode cX3_dropUnseenOf 64 = .ok (.aload 4, 2) := by decide +kernel
theorem dX3_dropUnseenOf_66 : decode cX3_dropUnseenOf 66 = .ok (.invokevirtual 103, 3) := by decide +kernel
theorem dX3_dropUnseenOf_69 : decode cX3_dropUnseenOf 69 = .ok (.aload_n 0, 1) := by decide +kernel
theorem dX3_dropUnseenOf_70 : decode cX3_dropUnseenOf 70 = .ok (.aload_n 1, 1) := by decide +kernel
theorem dX3_dropUnseenOf_71 : decode cX3_dropUnseenOf 71 = .ok (.aload 4, 2) := by decide +kernel
theorem dX3_dropUnseenOf_73 : decode cX3_dropUnseenOf 73 = .ok (.getfield 100, 3) := by decide +kernel
theorem dX3_dropUnseenOf_76 : decode cX3_dropUnseenOf 76 = .ok (.invokevirtual 89, 3) := by decide +kernel
theorem dX3_dropUnseenOf_79 : decode cX3_dropUnseenOf 79 = .ok (.goto 5, 3) := by decide +kernel
theorem dX3_dropUnseenOf_82 : decode cX3_dropUnseenOf 82 = .ok (.iconst 1, 1) := by decide +kernel
theorem dX3_dropUnseenOf_83 : decode cX3_dropUnseenOf 83 = .ok (.istore_n 3, 1) := by decide +kernel
theorem dX3_dropUnseenOf_84 : decode cX3_dropUnseenOf 84 = .ok (.aload 4, 2) := by decide +kernel
theorem dX3_dropUnseenOf_86 : decode cX3_dropUnseenOf 86 = .ok (.getfield 111, 3) := by decide +kernel
theorem dX3_dropUnseenOf_89 : decode cX3_dropUnseenOf 89 = .ok (.astore 4, 2) := by decide +kernel
theorem dX3_dropUnseenOf_91 : decode cX3_dropUnseenOf 91 = .ok (.goto (-83), 3) := by decide +kernel
theorem dX3_dropUnseenOf_94 : decode cX3_dropUnseenOf 94 = .ok (.return_, 1) := by decide +kernel
theorem dX4_init_0 : decode cX4_init 0 = .ok (.aload_n 0, 1) := by decide +kernel
theorem dX4_init_1 : decode cX4_init 1 = .ok (.invokespecial 3, 3) := by decide +kernel
theorem dX4_init_4 : decode cX4_init 4 = .ok (.aload_n 0, 1) := by decide +kernel
theorem dX4_init_5 : decode cX4_init 5 = .ok (.bipush 16, 2) := by decide +kernel
theorem dX4_init_7 : decode cX4_init 7 = .ok (.newarray .int, 2) := by decide +kernel
theorem dX4_init_9 : decode cX4_init 9 = .ok (.putfield 9, 3) := by decide +kernel
theorem dX4_init_12 : decode cX4_init 12 = .ok (.aload_n 0, 1) := by decide +kernel
theorem dX4_init_13 : decode cX4_init 13 = .ok (.bipush 16, 2) := by decide +kernel
theorem dX4_init_15 : decode cX4_init 15 = .ok (.newarray .int, 2) := by decide +kernel
theorem dX4_init_17 : decode cX4_init 17 = .ok (.putfield 15, 3) := by decide +kernel
theorem dX4_init_20 : decode cX4_init 20 = .ok (.aload_n 0, 1) := by decide +kernel
theorem dX4_init_21 : decode cX4_init 21 = .ok (.bipush 16, 2) := by decide +kernel
theorem dX4_init_23 : decode cX4_init 23 = .ok (.newarray .int, 2) := by decide +kernel
theorem dX4_init_25 : decode cX4_init 25 = .ok (.putfield 18, 3) := by decide +kernel
theorem dX4_init_28 : decode cX4_init 28 = .ok (.return_, 1) := by decide +kernel
theorem dX4_open_0 : decode cX4_open 0 = .ok (.aload_n 0, 1) := by decide +kernel
theorem dX4_open_1 : decode cX4_open 1 = .ok (.iconst 1, 1) := by decide +kernel
theorem dX4_open_2 : decode cX4_open 2 = .ok (.putfield 21, 3) := by decide +kernel
theorem dX4_open_5 : decode cX4_open 5 = .ok (.aload_n 0, 1) := by decide +kernel
theorem dX4_open_6 : decode cX4_open 6 = .ok (.iload_n 1, 1) := by decide +kernel
theorem dX4_open_7 : decode cX4_open 7 = .ok (.putfield 25, 3) := by decide +kernel
theorem dX4_open_10 : decode cX4_open 10 = .ok (.aload_n 0, 1) := by decide +kernel
theorem dX4_open_11 : decode cX4_open 11 = .ok (.iload_n 2, 1) := by decide +kernel
theorem dX4_open_12 : decode cX4_open 12 = .ok (.putfield 28, 3) := by decide +kernel
theorem dX4_open_15 : decode cX4_open 15 = .ok (.return_, 1) := by decide +kernel
theorem dX4_end_0 : decode cX4_end 0 = .ok (.aload_n 0, 1) := by decide +kernel
theorem dX4_end_1 : decode cX4_end 1 = .ok (.iconst 0, 1) := by decide +kernel
theorem dX4_end_2 : decode cX4_end 2 = .ok (.putfield 21, 3) := by decide +kernel
theorem dX4_end_5 : decode cX4_end 5 = .ok (.aload_n 0, 1) := by decide +kernel
theorem dX4_end_6 : decode cX4_end 6 = .ok (.iconst 0, 1) := by decide +kernel
theorem dX4_end_7 : decode cX4_end 7 = .ok (.putfield 25, 3) := by decide +kernel
theorem dX4_end_10 : decode cX4_end 10 = .ok (.aload_n 0, 1) := by decide +kernel
theorem dX4_end_11 : decode cX4_end 11 = .ok (.iconst 0, 1) := by decide +kernel
theorem dX4_end_12 : decode cX4_end 12 = .ok (.putfield 28, 3) := by decide +kernel
theorem dX4_end_15 : decode cX4_end 15 = .ok (.aload_n 0, 1) := by decide +kernel
theorem dX4_end_16 : decode cX4_end 16 = .ok (.iconst 0, 1) := by decide +kernel
theorem dX4_end_17 : decode cX4_end 17 = .ok (.putfield 31, 3) := by decide +kernel
theorem dX4_end_20 : decode cX4_end 20 = .ok (.aload_n 0, 1) := by decide +kernel
theorem dX4_end_21 : decode cX4_end 21 = .ok (.iconst 0, 1) := by decide +kernel
theorem dX4_end_22 : decode cX4_end 22 = .ok (.putfield 34, 3) := by decide +kernel
theorem dX4_end_25 : decode cX4_end 25 = .ok (.aload_n 0, 1) := by decide +kernel
theorem dX4_end_26 : decode cX4_end 26 = .ok (.iconst 0, 1) := by decide +kernel
theorem dX4_end_27 : decode cX4_end 27 = .ok (.putfield 37, 3) := by decide +kernel
theorem dX4_end_30 : decode cX4_end 30 = .ok (.aload_n 0, 1) := by decide +kernel
theorem dX4_end_31 : decode cX4_end 31 = .ok (.iconst 0, 1) := by decide +kernel
theorem dX4_end_32 : decode cX4_end 32 = .ok (.putfield 40, 3) := by decide +kernel
theorem dX4_end_35 : decode cX4_end 35 = .ok (.return_, 1) := by decide +kernel
theorem dX4_touch_0 : decode cX4_touch 0 = .ok (.aload_n 0, 1) := by decide +kernel
theorem dX4_touch_1 : decode cX4_touch 1 = .ok (.getfield 21, 3) := by decide +kernel
theorem dX4_touch_4 : decode cX4_touch 4 = .ok (.ifCond .eq 8, 3) := by decide +kernel
theorem dX4_touch_7 : decode cX4_touch 7 = .ok (.aload_n 0, 1) := by decide +kernel
theorem dX4_touch_8 : decode cX4_touch 8 = .ok (.iload_n 1, 1) := by decide +kernel
theorem dX4_touch_9 : decode cX4_touch 9 = .ok (.putfield 28, 3) := by decide +kernel
theorem dX4_touch_12 : decode cX4_touch 12 = .ok (.return_, 1) := by decide +kernel
theorem dX4_placeOf_0 : decode cX4_placeOf 0 = .ok (.iconst 0, 1) := by decide +kernel
theorem dX4_placeOf_1 : decode cX4_placeOf 1 = .ok (.istore_n 2, 1) := by decide +kernel
theorem dX4_placeOf_2 : decode cX4_placeOf 2 = .ok (.iload_n 2, 1) := by decide +kernel
theorem dX4_placeOf_3 : decode cX4_placeOf 3 = .ok (.aload_n 0, 1) := by decide +kernel
theorem dX4_placeOf_4 : decode cX4_placeOf 4 = .ok (.getfield 34, 3) := by decide +kernel
theorem dX4_placeOf_7 : decode cX4_placeOf 7 = .ok (.if_icmp .ge 21, 3) := by decide +kernel
theorem dX4_placeOf_10 : decode cX4_placeOf 10 = .ok (.aload_n 0, 1) := by decide +kernel
theorem dX4_placeOf_11 : decode cX4_placeOf 11 = .ok (.getfield 9, 3) := by decide +kernel
theorem dX4_placeOf_14 : decode cX4_placeOf 14 = .ok (.iload_n 2, 1) := by decide +kernel
theorem dX4_placeOf_15 : decode cX4_placeOf 15 = .ok (.iaload, 1) := by decide +kernel
theorem dX4_placeOf_16 : decode cX4_placeOf 16 = .ok (.iload_n 1, 1) := by decide +kernel
theorem dX4_placeOf_17 : decode cX4_placeOf 17 = .ok (.if_icmp .ne 5, 3) := by decide +kernel
theorem dX4_placeOf_20 : decode cX4_placeOf 20 = .ok (.iload_n 2, 1) := by decide +kernel
theorem dX4_placeOf_21 : decode cX4_placeOf 21 = .ok (.ireturn, 1) := by decide +kernel
theorem dX4_placeOf_22 : decode cX4_placeOf 22 = .ok (.iinc 2 1, 3) := by decide +kernel
theorem dX4_placeOf_25 : decode cX4_placeOf 25 = .ok (.goto (-23), 3) := by decide +kernel
theorem dX4_placeOf_28 : decode cX4_placeOf 28 = .ok (.iconst (-1), 1) := by decide +kernel
theorem dX4_placeOf_29 : decode cX4_placeOf 29 = .ok (.ireturn, 1) := by decide +kernel
theorem dX4_put_0 : decode cX4_put 0 = .ok (.aload_n 0, 1) := by decide +kernel
theorem dX4_put_1 : decode cX4_put 1 = .ok (.iload_n 1, 1) := by decide +kernel
theorem dX4_put_2 : decode cX4_put 2 = .ok (.invokevirtual 43, 3) := by decide +kernel
theorem dX4_put_5 : decode cX4_put 5 = .ok (.istore_n 3, 1) := by decide +kernel
theorem dX4_put_6 : decode cX4_put 6 = .ok (.iload_n 3, 1) := by decide +kernel
theorem dX4_put_7 : decode cX4_put 7 = .ok (.ifCond .lt 12, 3) := by decide +kernel
theorem dX4_put_10 : decode cX4_put 10 = .ok (.aload_n 0, 1) := by decide +kernel
theorem dX4_put_11 : decode cX4_put 11 = .ok (.getfield 15, 3) := by decide +kernel
theorem dX4_put_14 : decode cX4_put 14 = .ok (.iload_n 3, 1) := by decide +kernel
theorem dX4_put_15 : decode cX4_put 15 = .ok (.iload_n 2, 1) := by decide +kernel
theorem dX4_put_16 : decode cX4_put 16 = .ok (.iastore, 1) := by decide +kernel
theorem dX4_put_17 : decode cX4_put 17 = .ok (.iconst 1, 1) := by decide +kernel
theorem dX4_put_18 : decode cX4_put 18 = .ok (.ireturn, 1) := by decide +kernel
theorem dX4_put_19 : decode cX4_put 19 = .ok (.aload_n 0, 1) := by decide +kernel
theorem dX4_put_20 : decode cX4_put 20 = .ok (.getfield 34, 3) := by decide +kernel
theorem dX4_put_23 : decode cX4_put 23 = .ok (.bipush 16, 2) := by decide +kernel
theorem dX4_put_25 : decode cX4_put 25 = .ok (.if_icmp .lt 5, 3) := by decide +kernel
theorem dX4_put_28 : decode cX4_put 28 = .ok (.iconst 0, 1) := by decide +kernel
theorem dX4_put_29 : decode cX4_put 29 = .ok (.ireturn, 1) := by decide +kernel
theorem dX4_put_30 : decode cX4_put 30 = .ok (.aload_n 0, 1) := by decide +kernel
theorem dX4_put_31 : decode cX4_put 31 = .ok (.getfield 9, 3) := by decide +kernel
theorem dX4_put_34 : decode cX4_put 34 = .ok (.aload_n 0, 1) := by decide +kernel
theorem dX4_put_35 : decode cX4_put 35 = .ok (.getfield 34, 3) := by decide +kernel
theorem dX4_put_38 : decode cX4_put 38 = .ok (.iload_n 1, 1) := by decide +kernel
theorem dX4_put_39 : decode cX4_put 39 = .ok (.iastore, 1) := by decide +kernel
theorem dX4_put_40 : decode cX4_put 40 = .ok (.aload_n 0, 1) := by decide +kernel
theorem dX4_put_41 : decode cX4_put 41 = .ok (.getfield 15, 3) := by decide +kernel
theorem dX4_put_44 : decode cX4_put 44 = .ok (.aload_n 0, 1) := by decide +kernel
theorem dX4_put_45 : decode cX4_put 45 = .ok (.getfield 34, 3) := by decide +kernel
theorem dX4_put_48 : decode cX4_put 48 = .ok (.iload_n 2, 1) := by decide +kernel
theorem dX4_put_49 : decode cX4_put 49 = .ok (.iastore, 1) := by decide +kernel
theorem dX4_put_50 : decode cX4_put 50 = .ok (.aload_n 0, 1) := by decide +kernel
theorem dX4_put_51 : decode cX4_put 51 = .ok (.dup, 1) := by decide +kernel
theorem dX4_put_52 : decode cX4_put 52 = .ok (.getfield 34, 3) := by decide +kernel
theorem dX4_put_55 : decode cX4_put 55 = .ok (.iconst 1, 1) := by decide +kernel
theorem dX4_put_56 : decode cX4_put 56 = .ok (.iadd, 1) := by decide +kernel
theorem dX4_put_57 : decode cX4_put 57 = .ok (.putfield 34, 3) := by decide +kernel
theorem dX4_put_60 : decode cX4_put 60 = .ok (.aload_n 0, 1) := by decide +kernel
theorem dX4_put_61 : decode cX4_put 61 = .ok (.iload_n 1, 1) := by decide +kernel
theorem dX4_put_62 : decode cX4_put 62 = .ok (.iconst 4, 1) := by decide +kernel
theorem dX4_put_63 : decode cX4_put 63 = .ok (.idiv, 1) := by decide +kernel
theorem dX4_put_64 : decode cX4_put 64 = .ok (.invokevirtual 47, 3) := by decide +kernel
theorem dX4_put_67 : decode cX4_put 67 = .ok (.iconst 1, 1) := by decide +kernel
theorem dX4_put_68 : decode cX4_put 68 = .ok (.ireturn, 1) := by decide +kernel
theorem dX4_putRow_0 : decode cX4_putRow 0 = .ok (.iconst 0, 1) := by decide +kernel
theorem dX4_putRow_1 : decode cX4_putRow 1 = .ok (.istore_n 2, 1) := by decide +kernel
theorem dX4_putRow_2 : decode cX4_putRow 2 = .ok (.iload_n 2, 1) := by decide +kernel
theorem dX4_putRow_3 : decode cX4_putRow 3 = .ok (.aload_n 0, 1) := by decide +kernel
theorem dX4_putRow_4 : decode cX4_putRow 4 = .ok (.getfield 37, 3) := by decide +kernel
theorem dX4_putRow_7 : decode cX4_putRow 7 = .ok (.if_icmp .ge 20, 3) := by decide +kernel
theorem dX4_putRow_10 : decode cX4_putRow 10 = .ok (.aload_n 0, 1) := by decide +kernel
theorem dX4_putRow_11 : decode cX4_putRow 11 = .ok (.getfield 18, 3) := by decide +kernel
theorem dX4_putRow_14 : decode cX4_putRow 14 = .ok (.iload_n 2, 1) := by decide +kernel
theorem dX4_putRow_15 : decode cX4_putRow 15 = .ok (.iaload, 1) := by decide +kernel
theorem dX4_putRow_16 : decode cX4_putRow 16 = .ok (.iload_n 1, 1) := by decide +kernel
theorem dX4_putRow_17 : decode cX4_putRow 17 = .ok (.if_icmp .ne 4, 3) := by decide +kernel
theorem dX4_putRow_20 : decode cX4_putRow 20 = .ok (.return_, 1) := by decide +kernel
theorem dX4_putRow_21 : decode cX4_putRow 21 = .ok (.iinc 2 1, 3) := by decide +kernel
theorem dX4_putRow_24 : decode cX4_putRow 24 = .ok (.goto (-22), 3) := by decide +kernel
theorem dX4_putRow_27 : decode cX4_putRow 27 = .ok (.aload_n 0, 1) := by decide +kernel
theorem dX4_putRow_28 : decode cX4_putRow 28 = .ok (.getfield 37, 3) := by decide +kernel
theorem dX4_putRow_31 : decode cX4_putRow 31 = .ok (.bipush 16, 2) := by decide +kernel
theorem dX4_putRow_33 : decode cX4_putRow 33 = .ok (.if_icmp .ge 23, 3) := by decide +kernel
theorem dX4_putRow_36 : decode cX4_putRow 36 = .ok (.aload_n 0, 1) := by decide +kernel
theorem dX4_putRow_37 : decode cX4_putRow 37 = .ok (.getfield 18, 3) := by decide +kernel
theorem dX4_putRow_40 : decode cX4_putRow 40 = .ok (.aload_n 0, 1) := by decide +kernel
theorem dX4_putRow_41 : decode cX4_putRow 41 = .ok (.getfield 37, 3) := by decide +kernel
theorem dX4_putRow_44 : decode cX4_putRow 44 = .ok (.iload_n 1, 1) := by decide +kernel
theorem dX4_putRow_45 : decode cX4_putRow 45 = .ok (.iastore, 1) := by decide +kernel
theorem dX4_putRow_46 : decode cX4_putRow 46 = .ok (.aload_n 0, 1) := by decide +kernel
theorem dX4_putRow_47 : decode cX4_putRow 47 = .ok (.dup, 1) := by decide +kernel
theorem dX4_putRow_48 : decode cX4_putRow 48 = .ok (.getfield 37, 3) := by decide +kernel
theorem dX4_putRow_51 : decode cX4_putRow 51 = .ok (.iconst 1, 1) := by decide +kernel
theorem dX4_putRow_52 : decode cX4_putRow 52 = .ok (.iadd, 1) := by decide +kernel
theorem dX4_putRow_53 : decode cX4_putRow 53 = .ok (.putfield 37, 3) := by decide +kernel
theorem dX4_putRow_56 : decode cX4_putRow 56 = .ok (.return_, 1) := by decide +kernel
theorem dX4_hasLockIn_0 : decode cX4_hasLockIn 0 = .ok (.aload_n 1, 1) := by decide +kernel
theorem dX4_hasLockIn_1 : decode cX4_hasLockIn 1 = .ok (.getfield 51, 3) := by decide +kernel
theorem dX4_hasLockIn_4 : decode cX4_hasLockIn 4 = .ok (.aload_n 0, 1) := by decide +kernel
theorem dX4_hasLockIn_5 : decode cX4_hasLockIn 5 = .ok (.getfield 25, 3) := by decide +kernel
theorem dX4_hasLockIn_8 : decode cX4_hasLockIn 8 = .ok (.if_icmp .ne 7, 3) := by decide +kernel
theorem dX4_hasLockIn_11 : decode cX4_hasLockIn 11 = .ok (.iconst 1, 1) := by decide +kernel
theorem dX4_hasLockIn_12 : decode cX4_hasLockIn 12 = .ok (.goto 4, 3) := by decide +kernel
theorem dX4_hasLockIn_15 : decode cX4_hasLockIn 15 = .ok (.iconst 0, 1) := by decide +kernel
theorem dX4_hasLockIn_16 : decode cX4_hasLockIn 16 = .ok (.ireturn, 1) := by decide +kernel
theorem dX5_init_0 : decode cX5_init 0 = .ok (.aload_n 0, 1) := by decide +kernel
theorem dX5_init_1 : decode cX5_init 1 = .ok (.invokespecial 1, 3) := by decide +kernel
theorem dX5_init_4 : decode cX5_init 4 = .ok (.aload_n 0, 1) := by decide +kernel
theorem dX5_init_5 : decode cX5_init 5 = .ok (.new 7, 3) := by decide +kernel
theorem dX5_init_8 : decode cX5_init 8 = .ok (.dup, 1) := by decide +kernel
theorem dX5_init_9 : decode cX5_init 9 = .ok (.invokespecial 9, 3) := by decide +kernel
theorem dX5_init_12 : decode cX5_init 12 = .ok (.putfield 10, 3) := by decide +kernel
theorem dX5_init_15 : decode cX5_init 15 = .ok (.aload_n 0, 1) := by decide +kernel
theorem dX5_init_16 : decode cX5_init 16 = .ok (.new 16, 3) := by decide +kernel
theorem dX5_init_19 : decode cX5_init 19 = .ok (.dup, 1) := by decide +kernel
theorem dX5_init_20 : decode cX5_init 20 = .ok (.invokespecial 18, 3) := by decide +kernel
theorem dX5_init_23 : decode cX5_init 23 = .ok (.putfield 19, 3) := by decide +kernel
theorem dX5_init_26 : decode cX5_init 26 = .ok (.aload_n 0, 1) := by decide +kernel
theorem dX5_init_27 : decode cX5_init 27 = .ok (.bipush 8, 2) := by decide +kernel
theorem dX5_init_29 : decode cX5_init 29 = .ok (.anewarray 23, 3) := by decide +kernel
theorem dX5_init_32 : decode cX5_init 32 = .ok (.putfield 25, 3) := by decide +kernel
theorem dX5_init_35 : decode cX5_init 35 = .ok (.iconst 0, 1) := by decide +kernel
theorem dX5_init_36 : decode cX5_init 36 = .ok (.istore_n 1, 1) := by decide +kernel
theorem dX5_init_37 : decode cX5_init 37 = .ok (.iload_n 1, 1) := by decide +kernel
theorem dX5_init_38 : decode cX5_init 38 = .ok (.bipush 8, 2) := by decide +kernel
theorem dX5_init_40 : decode cX5_init 40 = .ok (.if_icmp .ge 22, 3) := by decide +kernel
theorem dX5_init_43 : decode cX5_init 43 = .ok (.aload_n 0, 1) := by decide +kernel
theorem dX5_init_44 : decode cX5_init 44 = .ok (.getfield 25, 3) := by decide +kernel
theorem dX5_init_47 : decode cX5_init 47 = .ok (.iload_n 1, 1) := by decide +kernel
theorem dX5_init_48 : decode cX5_init 48 = .ok (.new 23, 3) := by decide +kernel
theorem dX5_init_51 : decode cX5_init 51 = .ok (.dup, 1) := by decide +kernel
theorem dX5_init_52 : decode cX5_init 52 = .ok (.invokespecial 29, 3) := by decide +kernel
theorem dX5_init_55 : decode cX5_init 55 = .ok (.aastore, 1) := by decide +kernel
theorem dX5_init_56 : decode cX5_init 56 = .ok (.iinc 1 1, 3) := by decide +kernel
theorem dX5_init_59 : decode cX5_init 59 = .ok (.goto (-22), 3) := by decide +kernel
theorem dX5_init_62 : decode cX5_init 62 = .ok (.aload_n 0, 1) := by decide +kernel
theorem dX5_init_63 : decode cX5_init 63 = .ok (.bipush 10, 2) := by decide +kernel
theorem dX5_init_65 : decode cX5_init 65 = .ok (.putfield 30, 3) := by decide +kernel
theorem dX5_init_68 : decode cX5_init 68 = .ok (.return_, 1) := by decide +kernel
theorem dX5_begin_0 : decode cX5_begin 0 = .ok (.iload_n 1, 1) := by decide +kernel
theorem dX5_begin_1 : decode cX5_begin 1 = .ok (.invokestatic 34, 3) := by decide +kernel
theorem dX5_begin_4 : decode cX5_begin 4 = .ok (.ifCond .ne 5, 3) := by decide +kernel
theorem dX5_begin_7 : decode cX5_begin 7 = .ok (.iconst (-1), 1) := by decide +kernel
theorem dX5_begin_8 : decode cX5_begin 8 = .ok (.ireturn, 1) := by decide +kernel
theorem dX5_begin_9 : decode cX5_begin 9 = .ok (.aload_n 0, 1) := by decide +kernel
theorem dX5_begin_10 : decode cX5_begin 10 = .ok (.getfield 25, 3) := by decide +kernel
theorem dX5_begin_13 : decode cX5_begin 13 = .ok (.iload_n 1, 1) := by decide +kernel
theorem dX5_begin_14 : decode cX5_begin 14 = .ok (.aaload, 1) := by decide +kernel
theorem dX5_begin_15 : decode cX5_begin 15 = .ok (.astore_n 2, 1) := by decide +kernel
theorem dX5_begin_16 : decode cX5_begin 16 = .ok (.aload_n 2, 1) := by decide +kernel
theorem dX5_begin_17 : decode cX5_begin 17 = .ok (.getfield 38, 3) := by decide +kernel
theorem dX5_begin_20 : decode cX5_begin 20 = .ok (.ifCond .eq 14, 3) := by decide +kernel
theorem dX5_begin_23 : decode cX5_begin 23 = .ok (.aload_n 2, 1) := by decide +kernel
theorem dX5_begin_24 : decode cX5_begin 24 = .ok (.aload_n 0, 1) := by decide +kernel
theorem dX5_begin_25 : decode cX5_begin 25 = .ok (.getfield 41, 3) := by decide +kernel
theorem dX5_begin_28 : decode cX5_begin 28 = .ok (.invokevirtual 44, 3) := by decide +kernel
theorem dX5_begin_31 : decode cX5_begin 31 = .ok (.bipush (-3), 2) := by decide +kernel
theorem dX5_begin_33 : decode cX5_begin 33 = .ok (.ireturn, 1) := by decide +kernel
theorem dX5_begin_34 : decode cX5_begin 34 = .ok (.aload_n 2, 1) := by decide +kernel
theorem dX5_begin_35 : decode cX5_begin 35 = .ok (.aload_n 0, 1) := by decide +kernel
theorem dX5_begin_36 : decode cX5_begin 36 = .ok (.getfield 19, 3) := by decide +kernel
theorem dX5_begin_39 : decode cX5_begin 39 = .ok (.invokevirtual 48, 3) := by decide +kernel
theorem dX5_begin_42 : decode cX5_begin 42 = .ok (.aload_n 0, 1) := by decide +kernel
theorem dX5_begin_43 : decode cX5_begin 43 = .ok (.getfield 41, 3) := by decide +kernel
theorem dX5_begin_46 : decode cX5_begin 46 = .ok (.invokevirtual 52, 3) := by decide +kernel
theorem dX5_begin_49 : decode cX5_begin 49 = .ok (.aload_n 2, 1) := by decide +kernel
theorem dX5_begin_50 : decode cX5_begin 50 = .ok (.getfield 56, 3) := by decide +kernel
theorem dX5_begin_53 : decode cX5_begin 53 = .ok (.ireturn, 1) := by decide +kernel
theorem dX5_read_0 : decode cX5_read 0 = .ok (.iload_n 1, 1) := by decide +kernel
theorem dX5_read_1 : decode cX5_read 1 = .ok (.invokestatic 34, 3) := by decide +kernel
theorem dX5_read_4 : decode cX5_read 4 = .ok (.ifCond .eq 11, 3) := by decide +kernel
theorem dX5_read_7 : decode cX5_read 7 = .ok (.iload_n 2, 1) := by decide +kernel
theorem dX5_read_8 : decode cX5_read 8 = .ok (.iload_n 3, 1) := by decide +kernel
theorem dX5_read_9 : decode cX5_read 9 = .ok (.invokestatic 59, 3) := by decide +kernel
theorem dX5_read_12 : decode cX5_read 12 = .ok (.ifCond .ne 5, 3) := by decide +kernel
theorem dX5_read_15 : decode cX5_read 15 = .ok (.iconst (-1), 1) := by decide +kernel
theorem dX5_read_16 : decode cX5_read 16 = .ok (.ireturn, 1) := by decide +kernel
theorem dX5_read_17 : decode cX5_read 17 = .ok (.aload_n 0, 1) := by decide +kernel
theorem dX5_read_18 : decode cX5_read 18 = .ok (.getfield 25, 3) := by decide +kernel
theorem dX5_read_21 : decode cX5_read 21 = .ok (.iload_n 1, 1) := by decide +kernel
theorem dX5_read_22 : decode cX5_read 22 = .ok (.aaload, 1) := by decide +kernel
theorem dX5_read_23 : decode cX5_read 23 = .ok (.astore 4, 2) := by decide +kernel
theorem dX5_read_25 : decode cX5_read 25 = .ok (.aload 4, 2) := by decide +kernel
theorem dX5_read_27 : decode cX5_read 27 = .ok (.aload_n 0, 1) := by decide +kernel
theorem dX5_read_28 : decode cX5_read 28 = .ok (.getfield 41, 3) := by decide +kernel
theorem dX5_read_31 : decode cX5_read 31 = .ok (.invokevirtual 44, 3) := by decide +kernel
theorem dX5_read_34 : decode cX5_read 34 = .ok (.aload 4, 2) := by decide +kernel
theorem dX5_read_36 : decode cX5_read 36 = .ok (.getfield 38, 3) := by decide +kernel
theorem dX5_read_39 : decode cX5_read 39 = .ok (.iconst 1, 1) := by decide +kernel
theorem dX5_read_40 : decode cX5_read 40 = .ok (.if_icmp .eq 6, 3) := by decide +kernel
theorem dX5_read_43 : decode cX5_read 43 = .ok (.bipush (-3), 2) := by decide +kernel
theorem dX5_read_45 : decode cX5_read 45 = .ok (.ireturn, 1) := by decide +kernel
theorem dX5_read_46 : decode cX5_read 46 = .ok (.aload_n 0, 1) := by decide +kernel
theorem dX5_read_47 : decode cX5_read 47 = .ok (.aload 4, 2) := by decide +kernel
theorem dX5_read_49 : decode cX5_read 49 = .ok (.iload_n 2, 1) := by decide +kernel
theorem dX5_read_50 : decode cX5_read 50 = .ok (.iload_n 3, 1) := by decide +kernel
theorem dX5_read_51 : decode cX5_read 51 = .ok (.invokestatic 63, 3) := by decide +kernel
theorem dX5_read_54 : decode cX5_read 54 = .ok (.invokevirtual 67, 3) := by decide +kernel
theorem dX5_read_57 : decode cX5_read 57 = .ok (.istore 5, 2) := by decide +kernel
theorem dX5_read_59 : decode cX5_read 59 = .ok (.aload_n 0, 1) := by decide +kernel
theorem dX5_read_60 : decode cX5_read 60 = .ok (.getfield 10, 3) := by decide +kernel
theorem dX5_read_63 : decode cX5_read 63 = .ok (.invokevirtual 71, 3) := by decide +kernel
theorem dX5_read_66 : decode cX5_read 66 = .ok (.iload 5, 2) := by decide +kernel
theorem dX5_read_68 : decode cX5_read 68 = .ok (.ireturn, 1) := by decide +kernel
theorem dX5_next_0 : decode cX5_next 0 = .ok (.iload_n 1, 1) := by decide +kernel
theorem dX5_next_1 : decode cX5_next 1 = .ok (.invokestatic 34, 3) := by decide +kernel
theorem dX5_next_4 : decode cX5_next 4 = .ok (.ifCond .eq 10, 3) := by decide +kernel
theorem dX5_next_7 : decode cX5_next 7 = .ok (.iload_n 2, 1) := by decide +kernel
theorem dX5_next_8 : decode cX5_next 8 = .ok (.invokestatic 74, 3) := by decide +kernel
theorem dX5_next_11 : decode cX5_next 11 = .ok (.ifCond .ne 5, 3) := by decide +kernel
theorem dX5_next_14 : decode cX5_next 14 = .ok (.iconst (-1), 1) := by decide +kernel
theorem dX5_next_15 : decode cX5_next 15 = .ok (.ireturn, 1) := by decide +kernel
theorem dX5_next_16 : decode cX5_next 16 = .ok (.aload_n 0, 1) := by decide +kernel
theorem dX5_next_17 : decode cX5_next 17 = .ok (.getfield 25, 3) := by decide +kernel
theorem dX5_next_20 : decode cX5_next 20 = .ok (.iload_n 1, 1) := by decide +kernel
theorem dX5_next_21 : decode cX5_next 21 = .ok (.aaload, 1) := by decide +kernel
theorem dX5_next_22 : decode cX5_next 22 = .ok (.astore_n 3, 1) := by decide +kernel
theorem dX5_next_23 : decode cX5_next 23 = .ok (.aload_n 3, 1) := by decide +kernel
theorem dX5_next_24 : decode cX5_next 24 = .ok (.aload_n 0, 1) := by decide +kernel
theorem dX5_next_25 : decode cX5_next 25 = .ok (.getfield 41, 3) := by decide +kernel
theorem dX5_next_28 : decode cX5_next 28 = .ok (.invokevirtual 44, 3) := by decide +kernel
theorem dX5_next_31 : decode cX5_next 31 = .ok (.aload_n 3, 1) := by decide +kernel
theorem dX5_next_32 : decode cX5_next 32 = .ok (.getfield 38, 3) := by decide +kernel
theorem dX5_next_35 : decode cX5_next 35 = .ok (.iconst 1, 1) := by decide +kernel
theorem dX5_next_36 : decode cX5_next 36 = .ok (.if_icmp .eq 6, 3) := by decide +kernel
theorem dX5_next_39 : decode cX5_next 39 = .ok (.bipush (-3), 2) := by decide +kernel
theorem dX5_next_41 : decode cX5_next 41 = .ok (.ireturn, 1) := by decide +kernel
theorem dX5_next_42 : decode cX5_next 42 = .ok (.aload_n 0, 1) := by decide +kernel
theorem dX5_next_43 : decode cX5_next 43 = .ok (.aload_n 3, 1) := by decide +kernel
theorem dX5_next_44 : decode cX5_next 44 = .ok (.iload_n 2, 1) := by decide +kernel
theorem dX5_next_45 : decode cX5_next 45 = .ok (.invokevirtual 77, 3) := by decide +kernel
theorem dX5_next_48 : decode cX5_next 48 = .ok (.istore 4, 2) := by decide +kernel
theorem dX5_next_50 : decode cX5_next 50 = .ok (.aload_n 0, 1) := by decide +kernel
theorem dX5_next_51 : decode cX5_next 51 = .ok (.getfield 10, 3) := by decide +kernel
theorem dX5_next_54 : decode cX5_next 54 = .ok (.invokevirtual 71, 3) := by decide +kernel
theorem dX5_next_57 : decode cX5_next 57 = .ok (.iload 4, 2) := by decide +kernel
theorem dX5_next_59 : decode cX5_next 59 = .ok (.ireturn, 1) := by decide +kernel
theorem dX5_write_0 : decode cX5_write 0 = .ok (.iload_n 1, 1) := by decide +kernel
theorem dX5_write_1 : decode cX5_write 1 = .ok (.invokestatic 34, 3) := by decide +kernel
theorem dX5_write_4 : decode cX5_write 4 = .ok (.ifCond .eq 11, 3) := by decide +kernel
theorem dX5_write_7 : decode cX5_write 7 = .ok (.iload_n 2, 1) := by decide +kernel
theorem dX5_write_8 : decode cX5_write 8 = .ok (.iload_n 3, 1) := by decide +kernel
theorem dX5_write_9 : decode cX5_write 9 = .ok (.invokestatic 59, 3) := by decide +kernel
theorem dX5_write_12 : decode cX5_write 12 = .ok (.ifCond .ne 5, 3) := by decide +kernel
theorem dX5_write_15 : decode cX5_write 15 = .ok (.iconst (-1), 1) := by decide +kernel
theorem dX5_write_16 : decode cX5_write 16 = .ok (.ireturn, 1) := by decide +kernel
theorem dX5_write_17 : decode cX5_write 17 = .ok (.aload_n 0, 1) := by decide +kernel
theorem dX5_write_18 : decode cX5_write 18 = .ok (.getfield 25, 3) := by decide +kernel
theorem dX5_write_21 : decode cX5_write 21 = .ok (.iload_n 1, 1) := by decide +kernel
theorem dX5_write_22 : decode cX5_write 22 = .ok (.aaload, 1) := by decide +kernel
theorem dX5_write_23 : decode cX5_write 23 = .ok (.astore 5, 2) := by decide +kernel
theorem dX5_write_25 : decode cX5_write 25 = .ok (.aload 5, 2) := by decide +kernel
theorem dX5_write_27 : decode cX5_write 27 = .ok (.aload_n 0, 1) := by decide +kernel
theorem dX5_write_28 : decode cX5_write 28 = .ok (.getfield 41, 3) := by decide +kernel
theorem dX5_write_31 : decode cX5_write 31 = .ok (.invokevirtual 44, 3) := by decide +kernel
theorem dX5_write_34 : decode cX5_write 34 = .ok (.iload 4, 2) := by decide +kernel
theorem dX5_write_36 : decode cX5_write 36 = .ok (.iconst (-1), 1) := by decide +kernel
theorem dX5_write_37 : decode cX5_write 37 = .ok (.if_icmp .ge 6, 3) := by decide +kernel
theorem dX5_write_40 : decode cX5_write 40 = .ok (.bipush (-2), 2) := by decide +kernel
theorem dX5_write_42 : decode cX5_write 42 = .ok (.ireturn, 1) := by decide +kernel
theorem dX5_write_43 : decode cX5_write 43 = .ok (.aload 5, 2) := by decide +kernel
theorem dX5_write_45 : decode cX5_write 45 = .ok (.getfield 38, 3) := by decide +kernel
theorem dX5_write_48 : decode cX5_write 48 = .ok (.iconst 1, 1) := by decide +kernel
theorem dX5_write_49 : decode cX5_write 49 = .ok (.if_icmp .eq 6, 3) := by decide +kernel
theorem dX5_write_52 : decode cX5_write 52 = .ok (.bipush (-3), 2) := by decide +kernel
theorem dX5_write_54 : decode cX5_write 54 = .ok (.ireturn, 1) := by decide +kernel
theorem dX5_write_55 : decode cX5_write 55 = .ok (.aload 5, 2) := by decide +kernel
theorem dX5_write_57 : decode cX5_write 57 = .ok (.iload_n 2, 1) := by decide +kernel
theorem dX5_write_58 : decode cX5_write 58 = .ok (.iload_n 3, 1) := by decide +kernel
theorem dX5_write_59 : decode cX5_write 59 = .ok (.invokestatic 63, 3) := by decide +kernel
theorem dX5_write_62 : decode cX5_write 62 = .ok (.iload 4, 2) := by decide +kernel
theorem dX5_write_64 : decode cX5_write 64 = .ok (.invokevirtual 80, 3) := by decide +kernel
theorem dX5_write_67 : decode cX5_write 67 = .ok (.ifCond .eq 11, 3) := by decide +kernel
theorem dX5_write_70 : decode cX5_write 70 = .ok (.aload 5, 2) := by decide +kernel
theorem dX5_write_72 : decode cX5_write 72 = .ok (.getfield 83, 3) := by decide +kernel
theorem dX5_write_75 : decode cX5_write 75 = .ok (.goto 5, 3) := by decide +kernel
theorem dX5_write_78 : decode cX5_write 78 = .ok (.bipush (-4), 2) := by decide +kernel
theorem dX5_write_80 : decode cX5_write 80 = .ok (.ireturn, 1) := by decide +kernel
theorem dX5_commit_0 : decode cX5_commit 0 = .ok (.iload_n 1, 1) := by decide +kernel
theorem dX5_commit_1 : decode cX5_commit 1 = .ok (.invokestatic 34, 3) := by decide +kernel
theorem dX5_commit_4 : decode cX5_commit 4 = .ok (.ifCond .ne 5, 3) := by decide +kernel
theorem dX5_commit_7 : decode cX5_commit 7 = .ok (.iconst (-1), 1) := by decide +kernel
theorem dX5_commit_8 : decode cX5_commit 8 = .ok (.ireturn, 1) := by decide +kernel
theorem dX5_commit_9 : decode cX5_commit 9 = .ok (.aload_n 0, 1) := by decide +kernel
theorem dX5_commit_10 : decode cX5_commit 10 = .ok (.getfield 25, 3) := by decide +kernel
theorem dX5_commit_13 : decode cX5_commit 13 = .ok (.iload_n 1, 1) := by decide +kernel
theorem dX5_commit_14 : decode cX5_commit 14 = .ok (.aaload, 1) := by decide +kernel
theorem dX5_commit_15 : decode cX5_commit 15 = .ok (.astore_n 2, 1) := by decide +kernel
theorem dX5_commit_16 : decode cX5_commit 16 = .ok (.aload_n 2, 1) := by decide +kernel
theorem dX5_commit_17 : decode cX5_commit 17 = .ok (.aload_n 0, 1) := by decide +kernel
theorem dX5_commit_18 : decode cX5_commit 18 = .ok (.getfield 41, 3) := by decide +kernel
theorem dX5_commit_21 : decode cX5_commit 21 = .ok (.invokevirtual 44, 3) := by decide +kernel
theorem dX5_commit_24 : decode cX5_commit 24 = .ok (.aload_n 2, 1) := by decide +kernel
theorem dX5_commit_25 : decode cX5_commit 25 = .ok (.getfield 38, 3) := by decide +kernel
theorem dX5_commit_28 : decode cX5_commit 28 = .ok (.iconst 1, 1) := by decide +kernel
theorem dX5_commit_29 : decode cX5_commit 29 = .ok (.if_icmp .eq 6, 3) := by decide +kernel
theorem dX5_commit_32 : decode cX5_commit 32 = .ok (.bipush (-3), 2) := by decide +kernel
theorem dX5_commit_34 : decode cX5_commit 34 = .ok (.ireturn, 1) := by decide +kernel
theorem dX5_commit_35 : decode cX5_commit 35 = .ok (.aload_n 2, 1) := by decide +kernel
theorem dX5_commit_36 : decode cX5_commit 36 = .ok (.getfield 83, 3) := by decide +kernel
theorem dX5_commit_39 : decode cX5_commit 39 = .ok (.ifCond .ne 9, 3) := by decide +kernel
theorem dX5_commit_42 : decode cX5_commit 42 = .ok (.aload_n 2, 1) := by decide +kernel
theorem dX5_commit_43 : decode cX5_commit 43 = .ok (.invokevirtual 86, 3) := by decide +kernel
theorem dX5_commit_46 : decode cX5_commit 46 = .ok (.iconst 3, 1) := by decide +kernel
theorem dX5_commit_47 : decode cX5_commit 47 = .ok (.ireturn, 1) := by decide +kernel
theorem dX5_commit_48 : decode cX5_commit 48 = .ok (.aload_n 2, 1) := by decide +kernel
theorem dX5_commit_49 : decode cX5_commit 49 = .ok (.iconst 2, 1) := by decide +kernel
theorem dX5_commit_50 : decode cX5_commit 50 = .ok (.putfield 38, 3) := by decide +kernel
theorem dX5_commit_53 : decode cX5_commit 53 = .ok (.iconst 1, 1) := by decide +kernel
theorem dX5_commit_54 : decode cX5_commit 54 = .ok (.ireturn, 1) := by decide +kernel
theorem dX5_step_0 : decode cX5_step 0 = .ok (.iload_n 1, 1) := by decide +kernel
theorem dX5_step_1 : decode cX5_step 1 = .ok (.invokestatic 34, 3) := by decide +kernel
theorem dX5_step_4 : decode cX5_step 4 = .ok (.ifCond .ne 5, 3) := by decide +kernel
theorem dX5_step_7 : decode cX5_step 7 = .ok (.iconst (-1), 1) := by decide +kernel
theorem dX5_step_8 : decode cX5_step 8 = .ok (.ireturn, 1) := by decide +kernel
theorem dX5_step_9 : decode cX5_step 9 = .ok (.aload_n 0, 1) := by decide +kernel
theorem dX5_step_10 : decode cX5_step 10 = .ok (.getfield 25, 3) := by decide +kernel
theorem dX5_step_13 : decode cX5_step 13 = .ok (.iload_n 1, 1) := by decide +kernel
theorem dX5_step_14 : decode cX5_step 14 = .ok (.aaload, 1) := by decide +kernel
theorem dX5_step_15 : decode cX5_step 15 = .ok (.astore_n 2, 1) := by decide +kernel
theorem dX5_step_16 : decode cX5_step 16 = .ok (.aload_n 2, 1) := by decide +kernel
theorem dX5_step_17 : decode cX5_step 17 = .ok (.aload_n 0, 1) := by decide +kernel
theorem dX5_step_18 : decode cX5_step 18 = .ok (.getfield 41, 3) := by decide +kernel
theorem dX5_step_21 : decode cX5_step 21 = .ok (.invokevirtual 44, 3) := by decide +kernel
theorem dX5_step_24 : decode cX5_step 24 = .ok (.aload_n 0, 1) := by decide +kernel
theorem dX5_step_25 : decode cX5_step 25 = .ok (.aload_n 2, 1) := by decide +kernel
theorem dX5_step_26 : decode cX5_step 26 = .ok (.invokevirtual 89, 3) := by decide +kernel
theorem dX5_step_29 : decode cX5_step 29 = .ok (.istore_n 3, 1) := by decide +kernel
theorem dX5_step_30 : decode cX5_step 30 = .ok (.aload_n 0, 1) := by decide +kernel
theorem dX5_step_31 : decode cX5_step 31 = .ok (.getfield 10, 3) := by decide +kernel
theorem dX5_step_34 : decode cX5_step 34 = .ok (.invokevirtual 71, 3) := by decide +kernel
theorem dX5_step_37 : decode cX5_step 37 = .ok (.iload_n 3, 1) := by decide +kernel
theorem dX5_step_38 : decode cX5_step 38 = .ok (.ireturn, 1) := by decide +kernel
theorem dX5_crash_0 : decode cX5_crash 0 = .ok (.iload_n 1, 1) := by decide +kernel
theorem dX5_crash_1 : decode cX5_crash 1 = .ok (.invokestatic 34, 3) := by decide +kernel
theorem dX5_crash_4 : decode cX5_crash 4 = .ok (.ifCond .ne 5, 3) := by decide +kernel
theorem dX5_crash_7 : decode cX5_crash 7 = .ok (.iconst (-1), 1) := by decide +kernel
theorem dX5_crash_8 : decode cX5_crash 8 = .ok (.ireturn, 1) := by decide +kernel
theorem dX5_crash_9 : decode cX5_crash 9 = .ok (.aload_n 0, 1) := by decide +kernel
theorem dX5_crash_10 : decode cX5_crash 10 = .ok (.getfield 25, 3) := by decide +kernel
theorem dX5_crash_13 : decode cX5_crash 13 = .ok (.iload_n 1, 1) := by decide +kernel
theorem dX5_crash_14 : decode cX5_crash 14 = .ok (.aaload, 1) := by decide +kernel
theorem dX5_crash_15 : decode cX5_crash 15 = .ok (.astore_n 2, 1) := by decide +kernel
theorem dX5_crash_16 : decode cX5_crash 16 = .ok (.aload_n 2, 1) := by decide +kernel
theorem dX5_crash_17 : decode cX5_crash 17 = .ok (.getfield 38, 3) := by decide +kernel
theorem dX5_crash_20 : decode cX5_crash 20 = .ok (.ifCond .ne 7, 3) := by decide +kernel
theorem dX5_crash_23 : decode cX5_crash 23 = .ok (.iconst 0, 1) := by decide +kernel
theorem dX5_crash_24 : decode cX5_crash 24 = .ok (.goto 4, 3) := by decide +kernel
theorem dX5_crash_27 : decode cX5_crash 27 = .ok (.iconst 1, 1) := by decide +kernel
theorem dX5_crash_28 : decode cX5_crash 28 = .ok (.istore_n 3, 1) := by decide +kernel
theorem dX5_crash_29 : decode cX5_crash 29 = .ok (.aload_n 2, 1) := by decide +kernel
theorem dX5_crash_30 : decode cX5_crash 30 = .ok (.invokevirtual 86, 3) := by decide +kernel
theorem dX5_crash_33 : decode cX5_crash 33 = .ok (.iload_n 3, 1) := by decide +kernel
end
section
theorem dX5_crash_34 : decode cX5_crash 34 = .ok (.ireturn, 1) := by decide +kernel
theorem dX5_tick_0 : decode cX5_tick 0 = .ok (.iload_n 1, 1) := by decide +kernel
theorem dX5_tick_1 : decode cX5_tick 1 = .ok (.invokestatic 93, 3) := by decide +kernel
theorem dX5_tick_4 : decode cX5_tick 4 = .ok (.ifCond .eq 14, 3) := by decide +kernel
theorem dX5_tick_7 : decode cX5_tick 7 = .ok (.iload_n 1, 1) := by decide +kernel
theorem dX5_tick_8 : decode cX5_tick 8 = .ok (.ldc 98, 2) := by decide +kernel
theorem dX5_tick_10 : decode cX5_tick 10 = .ok (.aload_n 0, 1) := by decide +kernel
theorem dX5_tick_11 : decode cX5_tick 11 = .ok (.getfield 41, 3) := by decide +kernel
theorem dX5_tick_14 : decode cX5_tick 14 = .ok (.isub, 1) := by decide +kernel
theorem dX5_tick_15 : decode cX5_tick 15 = .ok (.if_icmp .le 6, 3) := by decide +kernel
theorem dX5_tick_18 : decode cX5_tick 18 = .ok (.bipush (-2), 2) := by decide +kernel
theorem dX5_tick_20 : decode cX5_tick 20 = .ok (.ireturn, 1) := by decide +kernel
theorem dX5_tick_21 : decode cX5_tick 21 = .ok (.aload_n 0, 1) := by decide +kernel
theorem dX5_tick_22 : decode cX5_tick 22 = .ok (.dup, 1) := by decide +kernel
theorem dX5_tick_23 : decode cX5_tick 23 = .ok (.getfield 41, 3) := by decide +kernel
theorem dX5_tick_26 : decode cX5_tick 26 = .ok (.iload_n 1, 1) := by decide +kernel
theorem dX5_tick_27 : decode cX5_tick 27 = .ok (.iadd, 1) := by decide +kernel
theorem dX5_tick_28 : decode cX5_tick 28 = .ok (.putfield 41, 3) := by decide +kernel
theorem dX5_tick_31 : decode cX5_tick 31 = .ok (.aload_n 0, 1) := by decide +kernel
theorem dX5_tick_32 : decode cX5_tick 32 = .ok (.getfield 41, 3) := by decide +kernel
theorem dX5_tick_35 : decode cX5_tick 35 = .ok (.ireturn, 1) := by decide +kernel
theorem dX5_timeout_0 : decode cX5_timeout 0 = .ok (.iload_n 1, 1) := by decide +kernel
theorem dX5_timeout_1 : decode cX5_timeout 1 = .ok (.invokestatic 93, 3) := by decide +kernel
theorem dX5_timeout_4 : decode cX5_timeout 4 = .ok (.ifCond .ne 6, 3) := by decide +kernel
theorem dX5_timeout_7 : decode cX5_timeout 7 = .ok (.bipush (-2), 2) := by decide +kernel
theorem dX5_timeout_9 : decode cX5_timeout 9 = .ok (.ireturn, 1) := by decide +kernel
theorem dX5_timeout_10 : decode cX5_timeout 10 = .ok (.aload_n 0, 1) := by decide +kernel
theorem dX5_timeout_11 : decode cX5_timeout 11 = .ok (.getfield 30, 3) := by decide +kernel
theorem dX5_timeout_14 : decode cX5_timeout 14 = .ok (.istore_n 2, 1) := by decide +kernel
theorem dX5_timeout_15 : decode cX5_timeout 15 = .ok (.aload_n 0, 1) := by decide +kernel
theorem dX5_timeout_16 : decode cX5_timeout 16 = .ok (.iload_n 1, 1) := by decide +kernel
theorem dX5_timeout_17 : decode cX5_timeout 17 = .ok (.putfield 30, 3) := by decide +kernel
theorem dX5_timeout_20 : decode cX5_timeout 20 = .ok (.iload_n 2, 1) := by decide +kernel
theorem dX5_timeout_21 : decode cX5_timeout 21 = .ok (.ireturn, 1) := by decide +kernel
theorem dX5_fallOracle_0 : decode cX5_fallOracle 0 = .ok (.aload_n 0, 1) := by decide +kernel
theorem dX5_fallOracle_1 : decode cX5_fallOracle 1 = .ok (.getfield 19, 3) := by decide +kernel
theorem dX5_fallOracle_4 : decode cX5_fallOracle 4 = .ok (.invokevirtual 99, 3) := by decide +kernel
theorem dX5_fallOracle_7 : decode cX5_fallOracle 7 = .ok (.ireturn, 1) := by decide +kernel
theorem dX5_fall_0 : decode cX5_fall 0 = .ok (.aload_n 0, 1) := by decide +kernel
theorem dX5_fall_1 : decode cX5_fall 1 = .ok (.getfield 10, 3) := by decide +kernel
theorem dX5_fall_4 : decode cX5_fall 4 = .ok (.getfield 102, 3) := by decide +kernel
theorem dX5_fall_7 : decode cX5_fall 7 = .ok (.ireturn, 1) := by decide +kernel
theorem dX5_sweep_0 : decode cX5_sweep 0 = .ok (.iload_n 1, 1) := by decide +kernel
theorem dX5_sweep_1 : decode cX5_sweep 1 = .ok (.ifCond .lt 14, 3) := by decide +kernel
theorem dX5_sweep_4 : decode cX5_sweep 4 = .ok (.iload_n 1, 1) := by decide +kernel
theorem dX5_sweep_5 : decode cX5_sweep 5 = .ok (.aload_n 0, 1) := by decide +kernel
theorem dX5_sweep_6 : decode cX5_sweep 6 = .ok (.getfield 19, 3) := by decide +kernel
theorem dX5_sweep_9 : decode cX5_sweep 9 = .ok (.getfield 105, 3) := by decide +kernel
theorem dX5_sweep_12 : decode cX5_sweep 12 = .ok (.if_icmp .le 6, 3) := by decide +kernel
theorem dX5_sweep_15 : decode cX5_sweep 15 = .ok (.bipush (-2), 2) := by decide +kernel
theorem dX5_sweep_17 : decode cX5_sweep 17 = .ok (.ireturn, 1) := by decide +kernel
theorem dX5_sweep_18 : decode cX5_sweep 18 = .ok (.aload_n 0, 1) := by decide +kernel
theorem dX5_sweep_19 : decode cX5_sweep 19 = .ok (.iload_n 1, 1) := by decide +kernel
theorem dX5_sweep_20 : decode cX5_sweep 20 = .ok (.invokevirtual 108, 3) := by decide +kernel
theorem dX5_sweep_23 : decode cX5_sweep 23 = .ok (.ifCond .ne 14, 3) := by decide +kernel
theorem dX5_sweep_26 : decode cX5_sweep 26 = .ok (.aload_n 0, 1) := by decide +kernel
theorem dX5_sweep_27 : decode cX5_sweep 27 = .ok (.getfield 10, 3) := by decide +kernel
theorem dX5_sweep_30 : decode cX5_sweep 30 = .ok (.iload_n 1, 1) := by decide +kernel
theorem dX5_sweep_31 : decode cX5_sweep 31 = .ok (.invokevirtual 111, 3) := by decide +kernel
theorem dX5_sweep_34 : decode cX5_sweep 34 = .ok (.ifCond .eq 6, 3) := by decide +kernel
theorem dX5_sweep_37 : decode cX5_sweep 37 = .ok (.bipush (-3), 2) := by decide +kernel
theorem dX5_sweep_39 : decode cX5_sweep 39 = .ok (.ireturn, 1) := by decide +kernel
theorem dX5_sweep_40 : decode cX5_sweep 40 = .ok (.aload_n 0, 1) := by decide +kernel
theorem dX5_sweep_41 : decode cX5_sweep 41 = .ok (.getfield 10, 3) := by decide +kernel
theorem dX5_sweep_44 : decode cX5_sweep 44 = .ok (.iload_n 1, 1) := by decide +kernel
theorem dX5_sweep_45 : decode cX5_sweep 45 = .ok (.invokevirtual 114, 3) := by decide +kernel
theorem dX5_sweep_48 : decode cX5_sweep 48 = .ok (.istore_n 2, 1) := by decide +kernel
theorem dX5_sweep_49 : decode cX5_sweep 49 = .ok (.aload_n 0, 1) := by decide +kernel
theorem dX5_sweep_50 : decode cX5_sweep 50 = .ok (.getfield 10, 3) := by decide +kernel
theorem dX5_sweep_53 : decode cX5_sweep 53 = .ok (.invokevirtual 71, 3) := by decide +kernel
theorem dX5_sweep_56 : decode cX5_sweep 56 = .ok (.iload_n 2, 1) := by decide +kernel
theorem dX5_sweep_57 : decode cX5_sweep 57 = .ok (.ireturn, 1) := by decide +kernel
theorem dX5_state_0 : decode cX5_state 0 = .ok (.iload_n 1, 1) := by decide +kernel
theorem dX5_state_1 : decode cX5_state 1 = .ok (.invokestatic 34, 3) := by decide +kernel
theorem dX5_state_4 : decode cX5_state 4 = .ok (.ifCond .ne 5, 3) := by decide +kernel
theorem dX5_state_7 : decode cX5_state 7 = .ok (.iconst (-1), 1) := by decide +kernel
theorem dX5_state_8 : decode cX5_state 8 = .ok (.ireturn, 1) := by decide +kernel
theorem dX5_state_9 : decode cX5_state 9 = .ok (.aload_n 0, 1) := by decide +kernel
theorem dX5_state_10 : decode cX5_state 10 = .ok (.getfield 25, 3) := by decide +kernel
theorem dX5_state_13 : decode cX5_state 13 = .ok (.iload_n 1, 1) := by decide +kernel
theorem dX5_state_14 : decode cX5_state 14 = .ok (.aaload, 1) := by decide +kernel
theorem dX5_state_15 : decode cX5_state 15 = .ok (.astore_n 3, 1) := by decide +kernel
theorem dX5_state_16 : decode cX5_state 16 = .ok (.iload_n 2, 1) := by decide +kernel
theorem dX5_state_17 : decode cX5_state 17 = .ok (.tableswitch 69 0 5 #[39, 44, 49, 54, 59, 64], 39) := by decide +kernel
theorem dX5_state_56 : decode cX5_state 56 = .ok (.aload_n 3, 1) := by decide +kernel
theorem dX5_state_57 : decode cX5_state 57 = .ok (.getfield 38, 3) := by decide +kernel
theorem dX5_state_60 : decode cX5_state 60 = .ok (.ireturn, 1) := by decide +kernel
theorem dX5_state_61 : decode cX5_state 61 = .ok (.aload_n 3, 1) := by decide +kernel
theorem dX5_state_62 : decode cX5_state 62 = .ok (.getfield 56, 3) := by decide +kernel
theorem dX5_state_65 : decode cX5_state 65 = .ok (.ireturn, 1) := by decide +kernel
theorem dX5_state_66 : decode cX5_state 66 = .ok (.aload_n 3, 1) := by decide +kernel
theorem dX5_state_67 : decode cX5_state 67 = .ok (.getfield 118, 3) := by decide +kernel
theorem dX5_state_70 : decode cX5_state 70 = .ok (.ireturn, 1) := by decide +kernel
theorem dX5_state_71 : decode cX5_state 71 = .ok (.aload_n 3, 1) := by decide +kernel
theorem dX5_state_72 : decode cX5_state 72 = .ok (.getfield 83, 3) := by decide +kernel
theorem dX5_state_75 : decode cX5_state 75 = .ok (.ireturn, 1) := by decide +kernel
theorem dX5_state_76 : decode cX5_state 76 = .ok (.aload_n 3, 1) := by decide +kernel
theorem dX5_state_77 : decode cX5_state 77 = .ok (.getfield 121, 3) := by decide +kernel
theorem dX5_state_80 : decode cX5_state 80 = .ok (.ireturn, 1) := by decide +kernel
theorem dX5_state_81 : decode cX5_state 81 = .ok (.aload_n 3, 1) := by decide +kernel
theorem dX5_state_82 : decode cX5_state 82 = .ok (.getfield 124, 3) := by decide +kernel
theorem dX5_state_85 : decode cX5_state 85 = .ok (.ireturn, 1) := by decide +kernel
theorem dX5_state_86 : decode cX5_state 86 = .ok (.bipush (-2), 2) := by decide +kernel
theorem dX5_state_88 : decode cX5_state 88 = .ok (.ireturn, 1) := by decide +kernel
theorem dX5_lock_0 : decode cX5_lock 0 = .ok (.iload_n 1, 1) := by decide +kernel
theorem dX5_lock_1 : decode cX5_lock 1 = .ok (.iload_n 2, 1) := by decide +kernel
theorem dX5_lock_2 : decode cX5_lock 2 = .ok (.invokestatic 59, 3) := by decide +kernel
theorem dX5_lock_5 : decode cX5_lock 5 = .ok (.ifCond .ne 5, 3) := by decide +kernel
theorem dX5_lock_8 : decode cX5_lock 8 = .ok (.iconst (-1), 1) := by decide +kernel
theorem dX5_lock_9 : decode cX5_lock 9 = .ok (.ireturn, 1) := by decide +kernel
theorem dX5_lock_10 : decode cX5_lock 10 = .ok (.aload_n 0, 1) := by decide +kernel
theorem dX5_lock_11 : decode cX5_lock 11 = .ok (.getfield 10, 3) := by decide +kernel
theorem dX5_lock_14 : decode cX5_lock 14 = .ok (.getfield 127, 3) := by decide +kernel
theorem dX5_lock_17 : decode cX5_lock 17 = .ok (.iload_n 1, 1) := by decide +kernel
theorem dX5_lock_18 : decode cX5_lock 18 = .ok (.iload_n 2, 1) := by decide +kernel
theorem dX5_lock_19 : decode cX5_lock 19 = .ok (.invokestatic 63, 3) := by decide +kernel
theorem dX5_lock_22 : decode cX5_lock 22 = .ok (.aaload, 1) := by decide +kernel
theorem dX5_lock_23 : decode cX5_lock 23 = .ok (.astore 4, 2) := by decide +kernel
theorem dX5_lock_25 : decode cX5_lock 25 = .ok (.iload_n 3, 1) := by decide +kernel
theorem dX5_lock_26 : decode cX5_lock 26 = .ok (.tableswitch 101 0 4 #[34, 40, 46, 52, 75], 34) := by decide +kernel
theorem dX5_lock_60 : decode cX5_lock 60 = .ok (.aload 4, 2) := by decide +kernel
theorem dX5_lock_62 : decode cX5_lock 62 = .ok (.getfield 131, 3) := by decide +kernel
theorem dX5_lock_65 : decode cX5_lock 65 = .ok (.ireturn, 1) := by decide +kernel
theorem dX5_lock_66 : decode cX5_lock 66 = .ok (.aload 4, 2) := by decide +kernel
theorem dX5_lock_68 : decode cX5_lock 68 = .ok (.getfield 136, 3) := by decide +kernel
theorem dX5_lock_71 : decode cX5_lock 71 = .ok (.ireturn, 1) := by decide +kernel
theorem dX5_lock_72 : decode cX5_lock 72 = .ok (.aload 4, 2) := by decide +kernel
theorem dX5_lock_74 : decode cX5_lock 74 = .ok (.getfield 139, 3) := by decide +kernel
theorem dX5_lock_77 : decode cX5_lock 77 = .ok (.ireturn, 1) := by decide +kernel
theorem dX5_lock_78 : decode cX5_lock 78 = .ok (.aload 4, 2) := by decide +kernel
theorem dX5_lock_80 : decode cX5_lock 80 = .ok (.invokevirtual 142, 3) := by decide +kernel
theorem dX5_lock_83 : decode cX5_lock 83 = .ok (.ifCond .eq 16, 3) := by decide +kernel
theorem dX5_lock_86 : decode cX5_lock 86 = .ok (.aload_n 0, 1) := by decide +kernel
theorem dX5_lock_87 : decode cX5_lock 87 = .ok (.aload 4, 2) := by decide +kernel
theorem dX5_lock_89 : decode cX5_lock 89 = .ok (.invokevirtual 146, 3) := by decide +kernel
theorem dX5_lock_92 : decode cX5_lock 92 = .ok (.ifCond .eq 7, 3) := by decide +kernel
theorem dX5_lock_95 : decode cX5_lock 95 = .ok (.iconst 1, 1) := by decide +kernel
theorem dX5_lock_96 : decode cX5_lock 96 = .ok (.goto 4, 3) := by decide +kernel
theorem dX5_lock_99 : decode cX5_lock 99 = .ok (.iconst 0, 1) := by decide +kernel
theorem dX5_lock_100 : decode cX5_lock 100 = .ok (.ireturn, 1) := by decide +kernel
theorem dX5_lock_101 : decode cX5_lock 101 = .ok (.aload 4, 2) := by decide +kernel
theorem dX5_lock_103 : decode cX5_lock 103 = .ok (.invokevirtual 142, 3) := by decide +kernel
theorem dX5_lock_106 : decode cX5_lock 106 = .ok (.ifCond .eq 19, 3) := by decide +kernel
theorem dX5_lock_109 : decode cX5_lock 109 = .ok (.aload_n 0, 1) := by decide +kernel
theorem dX5_lock_110 : decode cX5_lock 110 = .ok (.getfield 10, 3) := by decide +kernel
theorem dX5_lock_113 : decode cX5_lock 113 = .ok (.aload 4, 2) := by decide +kernel
theorem dX5_lock_115 : decode cX5_lock 115 = .ok (.invokevirtual 150, 3) := by decide +kernel
theorem dX5_lock_118 : decode cX5_lock 118 = .ok (.ifCond .eq 7, 3) := by decide +kernel
theorem dX5_lock_121 : decode cX5_lock 121 = .ok (.iconst 1, 1) := by decide +kernel
theorem dX5_lock_122 : decode cX5_lock 122 = .ok (.goto 4, 3) := by decide +kernel
theorem dX5_lock_125 : decode cX5_lock 125 = .ok (.iconst 0, 1) := by decide +kernel
theorem dX5_lock_126 : decode cX5_lock 126 = .ok (.ireturn, 1) := by decide +kernel
theorem dX5_lock_127 : decode cX5_lock 127 = .ok (.bipush (-2), 2) := by decide +kernel
theorem dX5_lock_129 : decode cX5_lock 129 = .ok (.ireturn, 1) := by decide +kernel
theorem dX5_versions_0 : decode cX5_versions 0 = .ok (.iload_n 1, 1) := by decide +kernel
theorem dX5_versions_1 : decode cX5_versions 1 = .ok (.iload_n 2, 1) := by decide +kernel
theorem dX5_versions_2 : decode cX5_versions 2 = .ok (.invokestatic 59, 3) := by decide +kernel
theorem dX5_versions_5 : decode cX5_versions 5 = .ok (.ifCond .ne 5, 3) := by decide +kernel
theorem dX5_versions_8 : decode cX5_versions 8 = .ok (.iconst (-1), 1) := by decide +kernel
theorem dX5_versions_9 : decode cX5_versions 9 = .ok (.ireturn, 1) := by decide +kernel
theorem dX5_versions_10 : decode cX5_versions 10 = .ok (.aload_n 0, 1) := by decide +kernel
theorem dX5_versions_11 : decode cX5_versions 11 = .ok (.getfield 10, 3) := by decide +kernel
theorem dX5_versions_14 : decode cX5_versions 14 = .ok (.getfield 127, 3) := by decide +kernel
theorem dX5_versions_17 : decode cX5_versions 17 = .ok (.iload_n 1, 1) := by decide +kernel
theorem dX5_versions_18 : decode cX5_versions 18 = .ok (.iload_n 2, 1) := by decide +kernel
theorem dX5_versions_19 : decode cX5_versions 19 = .ok (.invokestatic 63, 3) := by decide +kernel
theorem dX5_versions_22 : decode cX5_versions 22 = .ok (.aaload, 1) := by decide +kernel
theorem dX5_versions_23 : decode cX5_versions 23 = .ok (.getfield 153, 3) := by decide +kernel
theorem dX5_versions_26 : decode cX5_versions 26 = .ok (.invokestatic 157, 3) := by decide +kernel
theorem dX5_versions_29 : decode cX5_versions 29 = .ok (.ireturn, 1) := by decide +kernel
theorem dX5_version_0 : decode cX5_version 0 = .ok (.iload_n 1, 1) := by decide +kernel
theorem dX5_version_1 : decode cX5_version 1 = .ok (.iload_n 2, 1) := by decide +kernel
theorem dX5_version_2 : decode cX5_version 2 = .ok (.invokestatic 59, 3) := by decide +kernel
theorem dX5_version_5 : decode cX5_version 5 = .ok (.ifCond .ne 5, 3) := by decide +kernel
theorem dX5_version_8 : decode cX5_version 8 = .ok (.iconst (-1), 1) := by decide +kernel
theorem dX5_version_9 : decode cX5_version 9 = .ok (.ireturn, 1) := by decide +kernel
theorem dX5_version_10 : decode cX5_version 10 = .ok (.aload_n 0, 1) := by decide +kernel
theorem dX5_version_11 : decode cX5_version 11 = .ok (.getfield 10, 3) := by decide +kernel
theorem dX5_version_14 : decode cX5_version 14 = .ok (.getfield 127, 3) := by decide +kernel
theorem dX5_version_17 : decode cX5_version 17 = .ok (.iload_n 1, 1) := by decide +kernel
theorem dX5_version_18 : decode cX5_version 18 = .ok (.iload_n 2, 1) := by decide +kernel
theorem dX5_version_19 : decode cX5_version 19 = .ok (.invokestatic 63, 3) := by decide +kernel
theorem dX5_version_22 : decode cX5_version 22 = .ok (.aaload, 1) := by decide +kernel
theorem dX5_version_23 : decode cX5_version 23 = .ok (.astore 5, 2) := by decide +kernel
theorem dX5_version_25 : decode cX5_version 25 = .ok (.aload 5, 2) := by decide +kernel
theorem dX5_version_27 : decode cX5_version 27 = .ok (.getfield 153, 3) := by decide +kernel
theorem dX5_version_30 : decode cX5_version 30 = .ok (.iload_n 3, 1) := by decide +kernel
theorem dX5_version_31 : decode cX5_version 31 = .ok (.invokestatic 163, 3) := by decide +kernel
theorem dX5_version_34 : decode cX5_version 34 = .ok (.astore 6, 2) := by decide +kernel
theorem dX5_version_36 : decode cX5_version 36 = .ok (.aload 6, 2) := by decide +kernel
theorem dX5_version_38 : decode cX5_version 38 = .ok (.ifnonnull 5, 3) := by decide +kernel
theorem dX5_version_41 : decode cX5_version 41 = .ok (.iconst (-1), 1) := by decide +kernel
theorem dX5_version_42 : decode cX5_version 42 = .ok (.ireturn, 1) := by decide +kernel
theorem dX5_version_43 : decode cX5_version 43 = .ok (.iload 4, 2) := by decide +kernel
theorem dX5_version_45 : decode cX5_version 45 = .ok (.tableswitch 62 0 2 #[27, 33, 39], 27) := by decide +kernel
theorem dX5_version_72 : decode cX5_version 72 = .ok (.aload 6, 2) := by decide +kernel
theorem dX5_version_74 : decode cX5_version 74 = .ok (.getfield 167, 3) := by decide +kernel
theorem dX5_version_77 : decode cX5_version 77 = .ok (.ireturn, 1) := by decide +kernel
theorem dX5_version_78 : decode cX5_version 78 = .ok (.aload 6, 2) := by decide +kernel
theorem dX5_version_80 : decode cX5_version 80 = .ok (.getfield 170, 3) := by decide +kernel
theorem dX5_version_83 : decode cX5_version 83 = .ok (.ireturn, 1) := by decide +kernel
theorem dX5_version_84 : decode cX5_version 84 = .ok (.aload 6, 2) := by decide +kernel
theorem dX5_version_86 : decode cX5_version 86 = .ok (.getfield 170, 3) := by decide +kernel
theorem dX5_version_89 : decode cX5_version 89 = .ok (.ifCond .ne 7, 3) := by decide +kernel
theorem dX5_version_92 : decode cX5_version 92 = .ok (.iconst 0, 1) := by decide +kernel
theorem dX5_version_93 : decode cX5_version 93 = .ok (.goto 13, 3) := by decide +kernel
theorem dX5_version_96 : decode cX5_version 96 = .ok (.aload 5, 2) := by decide +kernel
theorem dX5_version_98 : decode cX5_version 98 = .ok (.aload 6, 2) := by decide +kernel
theorem dX5_version_100 : decode cX5_version 100 = .ok (.getfield 170, 3) := by decide +kernel
theorem dX5_version_103 : decode cX5_version 103 = .ok (.invokevirtual 173, 3) := by decide +kernel
theorem dX5_version_106 : decode cX5_version 106 = .ok (.ireturn, 1) := by decide +kernel
theorem dX5_version_107 : decode cX5_version 107 = .ok (.bipush (-2), 2) := by decide +kernel
theorem dX5_version_109 : decode cX5_version 109 = .ok (.ireturn, 1) := by decide +kernel
theorem dX5_data_0 : decode cX5_data 0 = .ok (.iload_n 1, 1) := by decide +kernel
theorem dX5_data_1 : decode cX5_data 1 = .ok (.iload_n 2, 1) := by decide +kernel
theorem dX5_data_2 : decode cX5_data 2 = .ok (.invokestatic 59, 3) := by decide +kernel
theorem dX5_data_5 : decode cX5_data 5 = .ok (.ifCond .ne 5, 3) := by decide +kernel
theorem dX5_data_8 : decode cX5_data 8 = .ok (.iconst (-1), 1) := by decide +kernel
theorem dX5_data_9 : decode cX5_data 9 = .ok (.ireturn, 1) := by decide +kernel
theorem dX5_data_10 : decode cX5_data 10 = .ok (.aload_n 0, 1) := by decide +kernel
theorem dX5_data_11 : decode cX5_data 11 = .ok (.getfield 10, 3) := by decide +kernel
theorem dX5_data_14 : decode cX5_data 14 = .ok (.getfield 127, 3) := by decide +kernel
theorem dX5_data_17 : decode cX5_data 17 = .ok (.iload_n 1, 1) := by decide +kernel
theorem dX5_data_18 : decode cX5_data 18 = .ok (.iload_n 2, 1) := by decide +kernel
theorem dX5_data_19 : decode cX5_data 19 = .ok (.invokestatic 63, 3) := by decide +kernel
theorem dX5_data_22 : decode cX5_data 22 = .ok (.aaload, 1) := by decide +kernel
theorem dX5_data_23 : decode cX5_data 23 = .ok (.getfield 176, 3) := by decide +kernel
theorem dX5_data_26 : decode cX5_data 26 = .ok (.astore 4, 2) := by decide +kernel
theorem dX5_data_28 : decode cX5_data 28 = .ok (.iload_n 3, 1) := by decide +kernel
theorem dX5_data_29 : decode cX5_data 29 = .ok (.lookupswitch 48 #[(0, 27), (1, 33)], 27) := by decide +kernel
theorem dX5_data_56 : decode cX5_data 56 = .ok (.aload 4, 2) := by decide +kernel
theorem dX5_data_58 : decode cX5_data 58 = .ok (.invokestatic 157, 3) := by decide +kernel
theorem dX5_data_61 : decode cX5_data 61 = .ok (.ireturn, 1) := by decide +kernel
theorem dX5_data_62 : decode cX5_data 62 = .ok (.aload 4, 2) := by decide +kernel
theorem dX5_data_64 : decode cX5_data 64 = .ok (.ifnonnull 7, 3) := by decide +kernel
theorem dX5_data_67 : decode cX5_data 67 = .ok (.iconst 0, 1) := by decide +kernel
theorem dX5_data_68 : decode cX5_data 68 = .ok (.goto 8, 3) := by decide +kernel
theorem dX5_data_71 : decode cX5_data 71 = .ok (.aload 4, 2) := by decide +kernel
theorem dX5_data_73 : decode cX5_data 73 = .ok (.getfield 167, 3) := by decide +kernel
theorem dX5_data_76 : decode cX5_data 76 = .ok (.ireturn, 1) := by decide +kernel
theorem dX5_data_77 : decode cX5_data 77 = .ok (.bipush (-2), 2) := by decide +kernel
theorem dX5_data_79 : decode cX5_data 79 = .ok (.ireturn, 1) := by decide +kernel
theorem dX5_told_0 : decode cX5_told 0 = .ok (.iload_n 1, 1) := by decide +kernel
theorem dX5_told_1 : decode cX5_told 1 = .ok (.tableswitch 117 0 8 #[51, 59, 67, 75, 83, 91, 99, 104, 109], 51) := by decide +kernel
theorem dX5_told_52 : decode cX5_told 52 = .ok (.aload_n 0, 1) := by decide +kernel
theorem dX5_told_53 : decode cX5_told 53 = .ok (.getfield 19, 3) := by decide +kernel
theorem dX5_told_56 : decode cX5_told 56 = .ok (.getfield 105, 3) := by decide +kernel
theorem dX5_told_59 : decode cX5_told 59 = .ok (.ireturn, 1) := by decide +kernel
theorem dX5_told_60 : decode cX5_told 60 = .ok (.aload_n 0, 1) := by decide +kernel
theorem dX5_told_61 : decode cX5_told 61 = .ok (.getfield 19, 3) := by decide +kernel
theorem dX5_told_64 : decode cX5_told 64 = .ok (.getfield 179, 3) := by decide +kernel
theorem dX5_told_67 : decode cX5_told 67 = .ok (.ireturn, 1) := by decide +kernel
theorem dX5_told_68 : decode cX5_told 68 = .ok (.aload_n 0, 1) := by decide +kernel
theorem dX5_told_69 : decode cX5_told 69 = .ok (.getfield 10, 3) := by decide +kernel
theorem dX5_told_72 : decode cX5_told 72 = .ok (.getfield 182, 3) := by decide +kernel
theorem dX5_told_75 : decode cX5_told 75 = .ok (.ireturn, 1) := by decide +kernel
theorem dX5_told_76 : decode cX5_told 76 = .ok (.aload_n 0, 1) := by decide +kernel
theorem dX5_told_77 : decode cX5_told 77 = .ok (.getfield 10, 3) := by decide +kernel
theorem dX5_told_80 : decode cX5_told 80 = .ok (.getfield 102, 3) := by decide +kernel
theorem dX5_told_83 : decode cX5_told 83 = .ok (.ireturn, 1) := by decide +kernel
theorem dX5_told_84 : decode cX5_told 84 = .ok (.aload_n 0, 1) := by decide +kernel
theorem dX5_told_85 : decode cX5_told 85 = .ok (.getfield 10, 3) := by decide +kernel
theorem dX5_told_88 : decode cX5_told 88 = .ok (.getfield 185, 3) := by decide +kernel
theorem dX5_told_91 : decode cX5_told 91 = .ok (.ireturn, 1) := by decide +kernel
theorem dX5_told_92 : decode cX5_told 92 = .ok (.aload_n 0, 1) := by decide +kernel
theorem dX5_told_93 : decode cX5_told 93 = .ok (.getfield 10, 3) := by decide +kernel
theorem dX5_told_96 : decode cX5_told 96 = .ok (.getfield 188, 3) := by decide +kernel
theorem dX5_told_99 : decode cX5_told 99 = .ok (.ireturn, 1) := by decide +kernel
theorem dX5_told_100 : decode cX5_told 100 = .ok (.aload_n 0, 1) := by decide +kernel
theorem dX5_told_101 : decode cX5_told 101 = .ok (.getfield 41, 3) := by decide +kernel
theorem dX5_told_104 : decode cX5_told 104 = .ok (.ireturn, 1) := by decide +kernel
theorem dX5_told_105 : decode cX5_told 105 = .ok (.aload_n 0, 1) := by decide +kernel
theorem dX5_told_106 : decode cX5_told 106 = .ok (.getfield 191, 3) := by decide +kernel
theorem dX5_told_109 : decode cX5_told 109 = .ok (.ireturn, 1) := by decide +kernel
theorem dX5_told_110 : decode cX5_told 110 = .ok (.aload_n 0, 1) := by decide +kernel
theorem dX5_told_111 : decode cX5_told 111 = .ok (.getfield 10, 3) := by decide +kernel
theorem dX5_told_114 : decode cX5_told 114 = .ok (.getfield 194, 3) := by decide +kernel
theorem dX5_told_117 : decode cX5_told 117 = .ok (.ireturn, 1) := by decide +kernel
theorem dX5_told_118 : decode cX5_told 118 = .ok (.bipush (-2), 2) := by decide +kernel
theorem dX5_told_120 : decode cX5_told 120 = .ok (.ireturn, 1) := by decide +kernel
theorem dX5_isClient_0 : decode cX5_isClient 0 = .ok (.iload_n 0, 1) := by decide +kernel
theorem dX5_isClient_1 : decode cX5_isClient 1 = .ok (.ifCond .lt 13, 3) := by decide +kernel
theorem dX5_isClient_4 : decode cX5_isClient 4 = .ok (.iload_n 0, 1) := by decide +kernel
theorem dX5_isClient_5 : decode cX5_isClient 5 = .ok (.bipush 8, 2) := by decide +kernel
theorem dX5_isClient_7 : decode cX5_isClient 7 = .ok (.if_icmp .ge 7, 3) := by decide +kernel
theorem dX5_isClient_10 : decode cX5_isClient 10 = .ok (.iconst 1, 1) := by decide +kernel
theorem dX5_isClient_11 : decode cX5_isClient 11 = .ok (.goto 4, 3) := by decide +kernel
theorem dX5_isClient_14 : decode cX5_isClient 14 = .ok (.iconst 0, 1) := by decide +kernel
theorem dX5_isClient_15 : decode cX5_isClient 15 = .ok (.ireturn, 1) := by decide +kernel
theorem dX5_isRow_0 : decode cX5_isRow 0 = .ok (.iload_n 0, 1) := by decide +kernel
theorem dX5_isRow_1 : decode cX5_isRow 1 = .ok (.ifCond .lt 13, 3) := by decide +kernel
theorem dX5_isRow_4 : decode cX5_isRow 4 = .ok (.iload_n 0, 1) := by decide +kernel
theorem dX5_isRow_5 : decode cX5_isRow 5 = .ok (.bipush 64, 2) := by decide +kernel
theorem dX5_isRow_7 : decode cX5_isRow 7 = .ok (.if_icmp .ge 7, 3) := by decide +kernel
theorem dX5_isRow_10 : decode cX5_isRow 10 = .ok (.iconst 1, 1) := by decide +kernel
theorem dX5_isRow_11 : decode cX5_isRow 11 = .ok (.goto 4, 3) := by decide +kernel
theorem dX5_isRow_14 : decode cX5_isRow 14 = .ok (.iconst 0, 1) := by decide +kernel
theorem dX5_isRow_15 : decode cX5_isRow 15 = .ok (.ireturn, 1) := by decide +kernel
theorem dX5_isCell_0 : decode cX5_isCell 0 = .ok (.iload_n 0, 1) := by decide +kernel
theorem dX5_isCell_1 : decode cX5_isCell 1 = .ok (.invokestatic 74, 3) := by decide +kernel
theorem dX5_isCell_4 : decode cX5_isCell 4 = .ok (.ifCond .eq 16, 3) := by decide +kernel
theorem dX5_isCell_7 : decode cX5_isCell 7 = .ok (.iload_n 1, 1) := by decide +kernel
theorem dX5_isCell_8 : decode cX5_isCell 8 = .ok (.ifCond .lt 12, 3) := by decide +kernel
theorem dX5_isCell_11 : decode cX5_isCell 11 = .ok (.iload_n 1, 1) := by decide +kernel
theorem dX5_isCell_12 : decode cX5_isCell 12 = .ok (.iconst 4, 1) := by decide +kernel
theorem dX5_isCell_13 : decode cX5_isCell 13 = .ok (.if_icmp .ge 7, 3) := by decide +kernel
theorem dX5_isCell_16 : decode cX5_isCell 16 = .ok (.iconst 1, 1) := by decide +kernel
theorem dX5_isCell_17 : decode cX5_isCell 17 = .ok (.goto 4, 3) := by decide +kernel
theorem dX5_isCell_20 : decode cX5_isCell 20 = .ok (.iconst 0, 1) := by decide +kernel
theorem dX5_isCell_21 : decode cX5_isCell 21 = .ok (.ireturn, 1) := by decide +kernel
theorem dX5_isTime_0 : decode cX5_isTime 0 = .ok (.iload_n 0, 1) := by decide +kernel
theorem dX5_isTime_1 : decode cX5_isTime 1 = .ok (.ifCond .lt 13, 3) := by decide +kernel
theorem dX5_isTime_4 : decode cX5_isTime 4 = .ok (.iload_n 0, 1) := by decide +kernel
theorem dX5_isTime_5 : decode cX5_isTime 5 = .ok (.ldc 197, 2) := by decide +kernel
theorem dX5_isTime_7 : decode cX5_isTime 7 = .ok (.if_icmp .gt 7, 3) := by decide +kernel
theorem dX5_isTime_10 : decode cX5_isTime 10 = .ok (.iconst 1, 1) := by decide +kernel
theorem dX5_isTime_11 : decode cX5_isTime 11 = .ok (.goto 4, 3) := by decide +kernel
theorem dX5_isTime_14 : decode cX5_isTime 14 = .ok (.iconst 0, 1) := by decide +kernel
theorem dX5_isTime_15 : decode cX5_isTime 15 = .ok (.ireturn, 1) := by decide +kernel
theorem dX5_cellIndex_0 : decode cX5_cellIndex 0 = .ok (.iconst 4, 1) := by decide +kernel
theorem dX5_cellIndex_1 : decode cX5_cellIndex 1 = .ok (.iload_n 0, 1) := by decide +kernel
theorem dX5_cellIndex_2 : decode cX5_cellIndex 2 = .ok (.imul, 1) := by decide +kernel
theorem dX5_cellIndex_3 : decode cX5_cellIndex 3 = .ok (.iload_n 1, 1) := by decide +kernel
theorem dX5_cellIndex_4 : decode cX5_cellIndex 4 = .ok (.iadd, 1) := by decide +kernel
theorem dX5_cellIndex_5 : decode cX5_cellIndex 5 = .ok (.ireturn, 1) := by decide +kernel
theorem dX5_look_0 : decode cX5_look 0 = .ok (.aload_n 1, 1) := by decide +kernel
theorem dX5_look_1 : decode cX5_look 1 = .ok (.iload_n 2, 1) := by decide +kernel
theorem dX5_look_2 : decode cX5_look 2 = .ok (.invokevirtual 198, 3) := by decide +kernel
theorem dX5_look_5 : decode cX5_look 5 = .ok (.istore_n 3, 1) := by decide +kernel
theorem dX5_look_6 : decode cX5_look 6 = .ok (.iload_n 3, 1) := by decide +kernel
theorem dX5_look_7 : decode cX5_look 7 = .ok (.ifCond .lt 25, 3) := by decide +kernel
theorem dX5_look_10 : decode cX5_look 10 = .ok (.aload_n 1, 1) := by decide +kernel
theorem dX5_look_11 : decode cX5_look 11 = .ok (.getfield 201, 3) := by decide +kernel
theorem dX5_look_14 : decode cX5_look 14 = .ok (.iload_n 3, 1) := by decide +kernel
theorem dX5_look_15 : decode cX5_look 15 = .ok (.iaload, 1) := by decide +kernel
theorem dX5_look_16 : decode cX5_look 16 = .ok (.iconst (-1), 1) := by decide +kernel
theorem dX5_look_17 : decode cX5_look 17 = .ok (.if_icmp .ne 8, 3) := by decide +kernel
theorem dX5_look_20 : decode cX5_look 20 = .ok (.bipush (-7), 2) := by decide +kernel
theorem dX5_look_22 : decode cX5_look 22 = .ok (.goto 9, 3) := by decide +kernel
theorem dX5_look_25 : decode cX5_look 25 = .ok (.aload_n 1, 1) := by decide +kernel
theorem dX5_look_26 : decode cX5_look 26 = .ok (.getfield 201, 3) := by decide +kernel
theorem dX5_look_29 : decode cX5_look 29 = .ok (.iload_n 3, 1) := by decide +kernel
theorem dX5_look_30 : decode cX5_look 30 = .ok (.iaload, 1) := by decide +kernel
theorem dX5_look_31 : decode cX5_look 31 = .ok (.ireturn, 1) := by decide +kernel
theorem dX5_look_32 : decode cX5_look 32 = .ok (.aload_n 0, 1) := by decide +kernel
theorem dX5_look_33 : decode cX5_look 33 = .ok (.getfield 10, 3) := by decide +kernel
theorem dX5_look_36 : decode cX5_look 36 = .ok (.getfield 127, 3) := by decide +kernel
theorem dX5_look_39 : decode cX5_look 39 = .ok (.iload_n 2, 1) := by decide +kernel
theorem dX5_look_40 : decode cX5_look 40 = .ok (.aaload, 1) := by decide +kernel
theorem dX5_look_41 : decode cX5_look 41 = .ok (.astore 4, 2) := by decide +kernel
theorem dX5_look_43 : decode cX5_look 43 = .ok (.aload 4, 2) := by decide +kernel
theorem dX5_look_45 : decode cX5_look 45 = .ok (.invokevirtual 142, 3) := by decide +kernel
theorem dX5_look_48 : decode cX5_look 48 = .ok (.ifCond .eq 39, 3) := by decide +kernel
theorem dX5_look_51 : decode cX5_look 51 = .ok (.aload 4, 2) := by decide +kernel
theorem dX5_look_53 : decode cX5_look 53 = .ok (.getfield 131, 3) := by decide +kernel
theorem dX5_look_56 : decode cX5_look 56 = .ok (.aload_n 1, 1) := by decide +kernel
theorem dX5_look_57 : decode cX5_look 57 = .ok (.getfield 56, 3) := by decide +kernel
theorem dX5_look_60 : decode cX5_look 60 = .ok (.if_icmp .ge 27, 3) := by decide +kernel
theorem dX5_look_63 : decode cX5_look 63 = .ok (.aload_n 0, 1) := by decide +kernel
theorem dX5_look_64 : decode cX5_look 64 = .ok (.aload 4, 2) := by decide +kernel
theorem dX5_look_66 : decode cX5_look 66 = .ok (.invokevirtual 204, 3) := by decide +kernel
theorem dX5_look_69 : decode cX5_look 69 = .ok (.ifCond .ne 6, 3) := by decide +kernel
theorem dX5_look_72 : decode cX5_look 72 = .ok (.bipush (-6), 2) := by decide +kernel
theorem dX5_look_74 : decode cX5_look 74 = .ok (.ireturn, 1) := by decide +kernel
theorem dX5_look_75 : decode cX5_look 75 = .ok (.aload_n 0, 1) := by decide +kernel
theorem dX5_look_76 : decode cX5_look 76 = .ok (.getfield 10, 3) := by decide +kernel
theorem dX5_look_79 : decode cX5_look 79 = .ok (.aload 4, 2) := by decide +kernel
theorem dX5_look_81 : decode cX5_look 81 = .ok (.invokevirtual 207, 3) := by decide +kernel
theorem dX5_look_84 : decode cX5_look 84 = .ok (.bipush (-5), 2) := by decide +kernel
theorem dX5_look_86 : decode cX5_look 86 = .ok (.ireturn, 1) := by decide +kernel
theorem dX5_look_87 : decode cX5_look 87 = .ok (.aload 4, 2) := by decide +kernel
theorem dX5_look_89 : decode cX5_look 89 = .ok (.aload_n 1, 1) := by decide +kernel
theorem dX5_look_90 : decode cX5_look 90 = .ok (.getfield 56, 3) := by decide +kernel
theorem dX5_look_93 : decode cX5_look 93 = .ok (.invokevirtual 211, 3) := by decide +kernel
theorem dX5_look_96 : decode cX5_look 96 = .ok (.istore 5, 2) := by decide +kernel
theorem dX5_look_98 : decode cX5_look 98 = .ok (.iload 5, 2) := by decide +kernel
theorem dX5_look_100 : decode cX5_look 100 = .ok (.iconst (-1), 1) := by decide +kernel
theorem dX5_look_101 : decode cX5_look 101 = .ok (.if_icmp .ne 8, 3) := by decide +kernel
theorem dX5_look_104 : decode cX5_look 104 = .ok (.bipush (-7), 2) := by decide +kernel
theorem dX5_look_106 : decode cX5_look 106 = .ok (.goto 5, 3) := by decide +kernel
theorem dX5_look_109 : decode cX5_look 109 = .ok (.iload 5, 2) := by decide +kernel
theorem dX5_look_111 : decode cX5_look 111 = .ok (.ireturn, 1) := by decide +kernel
theorem dX5_lookFrom_0 : decode cX5_lookFrom 0 = .ok (.iload_n 2, 1) := by decide +kernel
theorem dX5_lookFrom_1 : decode cX5_lookFrom 1 = .ok (.iconst 0, 1) := by decide +kernel
theorem dX5_lookFrom_2 : decode cX5_lookFrom 2 = .ok (.invokestatic 63, 3) := by decide +kernel
theorem dX5_lookFrom_5 : decode cX5_lookFrom 5 = .ok (.istore_n 3, 1) := by decide +kernel
theorem dX5_lookFrom_6 : decode cX5_lookFrom 6 = .ok (.iload_n 3, 1) := by decide +kernel
theorem dX5_lookFrom_7 : decode cX5_lookFrom 7 = .ok (.sipush 256, 3) := by decide +kernel
theorem dX5_lookFrom_10 : decode cX5_lookFrom 10 = .ok (.if_icmp .ge 36, 3) := by decide +kernel
theorem dX5_lookFrom_13 : decode cX5_lookFrom 13 = .ok (.aload_n 0, 1) := by decide +kernel
theorem dX5_lookFrom_14 : decode cX5_lookFrom 14 = .ok (.aload_n 1, 1) := by decide +kernel
theorem dX5_lookFrom_15 : decode cX5_lookFrom 15 = .ok (.iload_n 3, 1) := by decide +kernel
theorem dX5_lookFrom_16 : decode cX5_lookFrom 16 = .ok (.invokevirtual 67, 3) := by decide +kernel
theorem dX5_lookFrom_19 : decode cX5_lookFrom 19 = .ok (.istore 4, 2) := by decide +kernel
theorem dX5_lookFrom_21 : decode cX5_lookFrom 21 = .ok (.iload 4, 2) := by decide +kernel
theorem dX5_lookFrom_23 : decode cX5_lookFrom 23 = .ok (.ifCond .lt 7, 3) := by decide +kernel
theorem dX5_lookFrom_26 : decode cX5_lookFrom 26 = .ok (.iload_n 3, 1) := by decide +kernel
theorem dX5_lookFrom_27 : decode cX5_lookFrom 27 = .ok (.iconst 4, 1) := by decide +kernel
theorem dX5_lookFrom_28 : decode cX5_lookFrom 28 = .ok (.idiv, 1) := by decide +kernel
theorem dX5_lookFrom_29 : decode cX5_lookFrom 29 = .ok (.ireturn, 1) := by decide +kernel
theorem dX5_lookFrom_30 : decode cX5_lookFrom 30 = .ok (.iload 4, 2) := by decide +kernel
theorem dX5_lookFrom_32 : decode cX5_lookFrom 32 = .ok (.bipush (-7), 2) := by decide +kernel
theorem dX5_lookFrom_34 : decode cX5_lookFrom 34 = .ok (.if_icmp .eq 6, 3) := by decide +kernel
theorem dX5_lookFrom_37 : decode cX5_lookFrom 37 = .ok (.iload 4, 2) := by decide +kernel
theorem dX5_lookFrom_39 : decode cX5_lookFrom 39 = .ok (.ireturn, 1) := by decide +kernel
theorem dX5_lookFrom_40 : decode cX5_lookFrom 40 = .ok (.iinc 3 1, 3) := by decide +kernel
theorem dX5_lookFrom_43 : decode cX5_lookFrom 43 = .ok (.goto (-37), 3) := by decide +kernel
theorem dX5_lookFrom_46 : decode cX5_lookFrom 46 = .ok (.bipush (-7), 2) := by decide +kernel
theorem dX5_lookFrom_48 : decode cX5_lookFrom 48 = .ok (.ireturn, 1) := by decide +kernel
theorem dX5_isForCleaning_0 : decode cX5_isForCleaning 0 = .ok (.aload_n 0, 1) := by decide +kernel
theorem dX5_isForCleaning_1 : decode cX5_isForCleaning 1 = .ok (.getfield 10, 3) := by decide +kernel
theorem dX5_isForCleaning_4 : decode cX5_isForCleaning 4 = .ok (.aload_n 1, 1) := by decide +kernel
theorem dX5_isForCleaning_5 : decode cX5_isForCleaning 5 = .ok (.invokevirtual 150, 3) := by decide +kernel
theorem dX5_isForCleaning_8 : decode cX5_isForCleaning 8 = .ok (.ifCond .ne 11, 3) := by decide +kernel
theorem dX5_isForCleaning_11 : decode cX5_isForCleaning 11 = .ok (.aload_n 0, 1) := by decide +kernel
theorem dX5_isForCleaning_12 : decode cX5_isForCleaning 12 = .ok (.aload_n 1, 1) := by decide +kernel
theorem dX5_isForCleaning_13 : decode cX5_isForCleaning 13 = .ok (.invokevirtual 146, 3) := by decide +kernel
theorem dX5_isForCleaning_16 : decode cX5_isForCleaning 16 = .ok (.ifCond .eq 7, 3) := by decide +kernel
theorem dX5_isForCleaning_19 : decode cX5_isForCleaning 19 = .ok (.iconst 1, 1) := by decide +kernel
theorem dX5_isForCleaning_20 : decode cX5_isForCleaning 20 = .ok (.goto 4, 3) := by decide +kernel
theorem dX5_isForCleaning_23 : decode cX5_isForCleaning 23 = .ok (.iconst 0, 1) := by decide +kernel
theorem dX5_isForCleaning_24 : decode cX5_isForCleaning 24 = .ok (.ireturn, 1) := by decide +kernel
theorem dX5_isLate_0 : decode cX5_isLate 0 = .ok (.iconst 0, 1) := by decide +kernel
theorem dX5_isLate_1 : decode cX5_isLate 1 = .ok (.istore_n 2, 1) := by decide +kernel
theorem dX5_isLate_2 : decode cX5_isLate 2 = .ok (.iload_n 2, 1) := by decide +kernel
theorem dX5_isLate_3 : decode cX5_isLate 3 = .ok (.bipush 8, 2) := by decide +kernel
theorem dX5_isLate_5 : decode cX5_isLate 5 = .ok (.if_icmp .ge 56, 3) := by decide +kernel
theorem dX5_isLate_8 : decode cX5_isLate 8 = .ok (.aload_n 0, 1) := by decide +kernel
theorem dX5_isLate_9 : decode cX5_isLate 9 = .ok (.getfield 25, 3) := by decide +kernel
theorem dX5_isLate_12 : decode cX5_isLate 12 = .ok (.iload_n 2, 1) := by decide +kernel
theorem dX5_isLate_13 : decode cX5_isLate 13 = .ok (.aaload, 1) := by decide +kernel
theorem dX5_isLate_14 : decode cX5_isLate 14 = .ok (.astore_n 3, 1) := by decide +kernel
theorem dX5_isLate_15 : decode cX5_isLate 15 = .ok (.aload_n 3, 1) := by decide +kernel
theorem dX5_isLate_16 : decode cX5_isLate 16 = .ok (.getfield 38, 3) := by decide +kernel
theorem dX5_isLate_19 : decode cX5_isLate 19 = .ok (.ifCond .eq 36, 3) := by decide +kernel
theorem dX5_isLate_22 : decode cX5_isLate 22 = .ok (.aload_n 3, 1) := by decide +kernel
theorem dX5_isLate_23 : decode cX5_isLate 23 = .ok (.getfield 56, 3) := by decide +kernel
theorem dX5_isLate_26 : decode cX5_isLate 26 = .ok (.aload_n 1, 1) := by decide +kernel
theorem dX5_isLate_27 : decode cX5_isLate 27 = .ok (.getfield 131, 3) := by decide +kernel
theorem dX5_isLate_30 : decode cX5_isLate 30 = .ok (.if_icmp .ne 25, 3) := by decide +kernel
theorem dX5_isLate_33 : decode cX5_isLate 33 = .ok (.aload_n 0, 1) := by decide +kernel
theorem dX5_isLate_34 : decode cX5_isLate 34 = .ok (.getfield 41, 3) := by decide +kernel
theorem dX5_isLate_37 : decode cX5_isLate 37 = .ok (.aload_n 3, 1) := by decide +kernel
theorem dX5_isLate_38 : decode cX5_isLate 38 = .ok (.getfield 118, 3) := by decide +kernel
theorem dX5_isLate_41 : decode cX5_isLate 41 = .ok (.isub, 1) := by decide +kernel
theorem dX5_isLate_42 : decode cX5_isLate 42 = .ok (.aload_n 0, 1) := by decide +kernel
theorem dX5_isLate_43 : decode cX5_isLate 43 = .ok (.getfield 30, 3) := by decide +kernel
theorem dX5_isLate_46 : decode cX5_isLate 46 = .ok (.if_icmp .le 7, 3) := by decide +kernel
theorem dX5_isLate_49 : decode cX5_isLate 49 = .ok (.iconst 1, 1) := by decide +kernel
theorem dX5_isLate_50 : decode cX5_isLate 50 = .ok (.goto 4, 3) := by decide +kernel
theorem dX5_isLate_53 : decode cX5_isLate 53 = .ok (.iconst 0, 1) := by decide +kernel
theorem dX5_isLate_54 : decode cX5_isLate 54 = .ok (.ireturn, 1) := by decide +kernel
theorem dX5_isLate_55 : decode cX5_isLate 55 = .ok (.iinc 2 1, 3) := by decide +kernel
theorem dX5_isLate_58 : decode cX5_isLate 58 = .ok (.goto (-56), 3) := by decide +kernel
theorem dX5_isLate_61 : decode cX5_isLate 61 = .ok (.aload_n 0, 1) := by decide +kernel
theorem dX5_isLate_62 : decode cX5_isLate 62 = .ok (.getfield 41, 3) := by decide +kernel
theorem dX5_isLate_65 : decode cX5_isLate 65 = .ok (.aload_n 1, 1) := by decide +kernel
theorem dX5_isLate_66 : decode cX5_isLate 66 = .ok (.getfield 139, 3) := by decide +kernel
theorem dX5_isLate_69 : decode cX5_isLate 69 = .ok (.isub, 1) := by decide +kernel
theorem dX5_isLate_70 : decode cX5_isLate 70 = .ok (.aload_n 0, 1) := by decide +kernel
theorem dX5_isLate_71 : decode cX5_isLate 71 = .ok (.getfield 30, 3) := by decide +kernel
theorem dX5_isLate_74 : decode cX5_isLate 74 = .ok (.if_icmp .le 7, 3) := by decide +kernel
theorem dX5_isLate_77 : decode cX5_isLate 77 = .ok (.iconst 1, 1) := by decide +kernel
theorem dX5_isLate_78 : decode cX5_isLate 78 = .ok (.goto 4, 3) := by decide +kernel
theorem dX5_isLate_81 : decode cX5_isLate 81 = .ok (.iconst 0, 1) := by decide +kernel
theorem dX5_isLate_82 : decode cX5_isLate 82 = .ok (.ireturn, 1) := by decide +kernel
theorem dX5_isBeginBelow_0 : decode cX5_isBeginBelow 0 = .ok (.iconst 0, 1) := by decide +kernel
theorem dX5_isBeginBelow_1 : decode cX5_isBeginBelow 1 = .ok (.istore_n 2, 1) := by decide +kernel
theorem dX5_isBeginBelow_2 : decode cX5_isBeginBelow 2 = .ok (.iload_n 2, 1) := by decide +kernel
theorem dX5_isBeginBelow_3 : decode cX5_isBeginBelow 3 = .ok (.bipush 8, 2) := by decide +kernel
theorem dX5_isBeginBelow_5 : decode cX5_isBeginBelow 5 = .ok (.if_icmp .ge 36, 3) := by decide +kernel
theorem dX5_isBeginBelow_8 : decode cX5_isBeginBelow 8 = .ok (.aload_n 0, 1) := by decide +kernel
theorem dX5_isBeginBelow_9 : decode cX5_isBeginBelow 9 = .ok (.getfield 25, 3) := by decide +kernel
theorem dX5_isBeginBelow_12 : decode cX5_isBeginBelow 12 = .ok (.iload_n 2, 1) := by decide +kernel
theorem dX5_isBeginBelow_13 : decode cX5_isBeginBelow 13 = .ok (.aaload, 1) := by decide +kernel
theorem dX5_isBeginBelow_14 : decode cX5_isBeginBelow 14 = .ok (.getfield 38, 3) := by decide +kernel
theorem dX5_isBeginBelow_17 : decode cX5_isBeginBelow 17 = .ok (.ifCond .eq 18, 3) := by decide +kernel
theorem dX5_isBeginBelow_20 : decode cX5_isBeginBelow 20 = .ok (.aload_n 0, 1) := by decide +kernel
theorem dX5_isBeginBelow_21 : decode cX5_isBeginBelow 21 = .ok (.getfield 25, 3) := by decide +kernel
theorem dX5_isBeginBelow_24 : decode cX5_isBeginBelow 24 = .ok (.iload_n 2, 1) := by decide +kernel
theorem dX5_isBeginBelow_25 : decode cX5_isBeginBelow 25 = .ok (.aaload, 1) := by decide +kernel
theorem dX5_isBeginBelow_26 : decode cX5_isBeginBelow 26 = .ok (.getfield 56, 3) := by decide +kernel
theorem dX5_isBeginBelow_29 : decode cX5_isBeginBelow 29 = .ok (.iload_n 1, 1) := by decide +kernel
theorem dX5_isBeginBelow_30 : decode cX5_isBeginBelow 30 = .ok (.if_icmp .ge 5, 3) := by decide +kernel
theorem dX5_isBeginBelow_33 : decode cX5_isBeginBelow 33 = .ok (.iconst 1, 1) := by decide +kernel
theorem dX5_isBeginBelow_34 : decode cX5_isBeginBelow 34 = .ok (.ireturn, 1) := by decide +kernel
theorem dX5_isBeginBelow_35 : decode cX5_isBeginBelow 35 = .ok (.iinc 2 1, 3) := by decide +kernel
theorem dX5_isBeginBelow_38 : decode cX5_isBeginBelow 38 = .ok (.goto (-36), 3) := by decide +kernel
theorem dX5_isBeginBelow_41 : decode cX5_isBeginBelow 41 = .ok (.iconst 0, 1) := by decide +kernel
theorem dX5_isBeginBelow_42 : decode cX5_isBeginBelow 42 = .ok (.ireturn, 1) := by decide +kernel
theorem dX5_goOn_0 : decode cX5_goOn 0 = .ok (.aload_n 1, 1) := by decide +kernel
theorem dX5_goOn_1 : decode cX5_goOn 1 = .ok (.getfield 38, 3) := by decide +kernel
theorem dX5_goOn_4 : decode cX5_goOn 4 = .ok (.tableswitch 65 2 4 #[28, 53, 59], 28) := by decide +kernel
theorem dX5_goOn_32 : decode cX5_goOn 32 = .ok (.aload_n 1, 1) := by decide +kernel
theorem dX5_goOn_33 : decode cX5_goOn 33 = .ok (.getfield 121, 3) := by decide +kernel
theorem dX5_goOn_36 : decode cX5_goOn 36 = .ok (.aload_n 1, 1) := by decide +kernel
theorem dX5_goOn_37 : decode cX5_goOn 37 = .ok (.getfield 214, 3) := by decide +kernel
theorem dX5_goOn_40 : decode cX5_goOn 40 = .ok (.if_icmp .ge 11, 3) := by decide +kernel
theorem dX5_goOn_43 : decode cX5_goOn 43 = .ok (.aload_n 0, 1) := by decide +kernel
theorem dX5_goOn_44 : decode cX5_goOn 44 = .ok (.aload_n 1, 1) := by decide +kernel
theorem dX5_goOn_45 : decode cX5_goOn 45 = .ok (.invokevirtual 217, 3) := by decide +kernel
theorem dX5_goOn_48 : decode cX5_goOn 48 = .ok (.goto 8, 3) := by decide +kernel
theorem dX5_goOn_51 : decode cX5_goOn 51 = .ok (.aload_n 0, 1) := by decide +kernel
theorem dX5_goOn_52 : decode cX5_goOn 52 = .ok (.aload_n 1, 1) := by decide +kernel
theorem dX5_goOn_53 : decode cX5_goOn 53 = .ok (.invokevirtual 220, 3) := by decide +kernel
theorem dX5_goOn_56 : decode cX5_goOn 56 = .ok (.ireturn, 1) := by decide +kernel
theorem dX5_goOn_57 : decode cX5_goOn 57 = .ok (.aload_n 0, 1) := by decide +kernel
theorem dX5_goOn_58 : decode cX5_goOn 58 = .ok (.aload_n 1, 1) := by decide +kernel
theorem dX5_goOn_59 : decode cX5_goOn 59 = .ok (.invokevirtual 223, 3) := by decide +kernel
theorem dX5_goOn_62 : decode cX5_goOn 62 = .ok (.ireturn, 1) := by decide +kernel
theorem dX5_goOn_63 : decode cX5_goOn 63 = .ok (.aload_n 0, 1) := by decide +kernel
theorem dX5_goOn_64 : decode cX5_goOn 64 = .ok (.aload_n 1, 1) := by decide +kernel
theorem dX5_goOn_65 : decode cX5_goOn 65 = .ok (.invokevirtual 226, 3) := by decide +kernel
theorem dX5_goOn_68 : decode cX5_goOn 68 = .ok (.ireturn, 1) := by decide +kernel
theorem dX5_goOn_69 : decode cX5_goOn 69 = .ok (.bipush (-3), 2) := by decide +kernel
theorem dX5_goOn_71 : decode cX5_goOn 71 = .ok (.ireturn, 1) := by decide +kernel
theorem dX5_lockRow_0 : decode cX5_lockRow 0 = .ok (.aload_n 1, 1) := by decide +kernel
theorem dX5_lockRow_1 : decode cX5_lockRow 1 = .ok (.getfield 229, 3) := by decide +kernel
theorem dX5_lockRow_4 : decode cX5_lockRow 4 = .ok (.aload_n 1, 1) := by decide +kernel
theorem dX5_lockRow_5 : decode cX5_lockRow 5 = .ok (.getfield 121, 3) := by decide +kernel
theorem dX5_lockRow_8 : decode cX5_lockRow 8 = .ok (.iaload, 1) := by decide +kernel
theorem dX5_lockRow_9 : decode cX5_lockRow 9 = .ok (.iconst 0, 1) := by decide +kernel
theorem dX5_lockRow_10 : decode cX5_lockRow 10 = .ok (.invokestatic 63, 3) := by decide +kernel
theorem dX5_lockRow_13 : decode cX5_lockRow 13 = .ok (.istore_n 2, 1) := by decide +kernel
theorem dX5_lockRow_14 : decode cX5_lockRow 14 = .ok (.iconst 0, 1) := by decide +kernel
theorem dX5_lockRow_15 : decode cX5_lockRow 15 = .ok (.istore_n 3, 1) := by decide +kernel
theorem dX5_lockRow_16 : decode cX5_lockRow 16 = .ok (.iload_n 2, 1) := by decide +kernel
theorem dX5_lockRow_17 : decode cX5_lockRow 17 = .ok (.istore 4, 2) := by decide +kernel
theorem dX5_lockRow_19 : decode cX5_lockRow 19 = .ok (.iload 4, 2) := by decide +kernel
theorem dX5_lockRow_21 : decode cX5_lockRow 21 = .ok (.iload_n 2, 1) := by decide +kernel
theorem dX5_lockRow_22 : decode cX5_lockRow 22 = .ok (.iconst 4, 1) := by decide +kernel
theorem dX5_lockRow_23 : decode cX5_lockRow 23 = .ok (.iadd, 1) := by decide +kernel
theorem dX5_lockRow_24 : decode cX5_lockRow 24 = .ok (.if_icmp .ge 99, 3) := by decide +kernel
theorem dX5_lockRow_27 : decode cX5_lockRow 27 = .ok (.aload_n 1, 1) := by decide +kernel
theorem dX5_lockRow_28 : decode cX5_lockRow 28 = .ok (.iload 4, 2) := by decide +kernel
theorem dX5_lockRow_30 : decode cX5_lockRow 30 = .ok (.invokevirtual 198, 3) := by decide +kernel
theorem dX5_lockRow_33 : decode cX5_lockRow 33 = .ok (.ifCond .ge 6, 3) := by decide +kernel
theorem dX5_lockRow_36 : decode cX5_lockRow 36 = .ok (.goto 81, 3) := by decide +kernel
theorem dX5_lockRow_39 : decode cX5_lockRow 39 = .ok (.iinc 3 1, 3) := by decide +kernel
theorem dX5_lockRow_42 : decode cX5_lockRow 42 = .ok (.aload_n 0, 1) := by decide +kernel
theorem dX5_lockRow_43 : decode cX5_lockRow 43 = .ok (.getfield 10, 3) := by decide +kernel
theorem dX5_lockRow_46 : decode cX5_lockRow 46 = .ok (.getfield 127, 3) := by decide +kernel
theorem dX5_lockRow_49 : decode cX5_lockRow 49 = .ok (.iload 4, 2) := by decide +kernel
theorem dX5_lockRow_51 : decode cX5_lockRow 51 = .ok (.aaload, 1) := by decide +kernel
theorem dX5_lockRow_52 : decode cX5_lockRow 52 = .ok (.astore 5, 2) := by decide +kernel
theorem dX5_lockRow_54 : decode cX5_lockRow 54 = .ok (.aload 5, 2) := by decide +kernel
theorem dX5_lockRow_56 : decode cX5_lockRow 56 = .ok (.getfield 153, 3) := by decide +kernel
theorem dX5_lockRow_59 : decode cX5_lockRow 59 = .ok (.ifnull 24, 3) := by decide +kernel
theorem dX5_lockRow_62 : decode cX5_lockRow 62 = .ok (.aload 5, 2) := by decide +kernel
theorem dX5_lockRow_64 : decode cX5_lockRow 64 = .ok (.getfield 153, 3) := by decide +kernel
theorem dX5_lockRow_67 : decode cX5_lockRow 67 = .ok (.getfield 167, 3) := by decide +kernel
theorem dX5_lockRow_70 : decode cX5_lockRow 70 = .ok (.aload_n 1, 1) := by decide +kernel
theorem dX5_lockRow_71 : decode cX5_lockRow 71 = .ok (.getfield 56, 3) := by decide +kernel
theorem dX5_lockRow_74 : decode cX5_lockRow 74 = .ok (.if_icmp .lt 9, 3) := by decide +kernel
theorem dX5_lockRow_77 : decode cX5_lockRow 77 = .ok (.aload_n 0, 1) := by decide +kernel
theorem dX5_lockRow_78 : decode cX5_lockRow 78 = .ok (.aload_n 1, 1) := by decide +kernel
theorem dX5_lockRow_79 : decode cX5_lockRow 79 = .ok (.invokevirtual 232, 3) := by decide +kernel
theorem dX5_lockRow_82 : decode cX5_lockRow 82 = .ok (.ireturn, 1) := by decide +kernel
theorem dX5_lockRow_83 : decode cX5_lockRow 83 = .ok (.aload 5, 2) := by decide +kernel
theorem dX5_lockRow_85 : decode cX5_lockRow 85 = .ok (.invokevirtual 142, 3) := by decide +kernel
theorem dX5_lockRow_88 : decode cX5_lockRow 88 = .ok (.ifCond .eq 29, 3) := by decide +kernel
theorem dX5_lockRow_91 : decode cX5_lockRow 91 = .ok (.aload_n 0, 1) := by decide +kernel
theorem dX5_lockRow_92 : decode cX5_lockRow 92 = .ok (.aload 5, 2) := by decide +kernel
theorem dX5_lockRow_94 : decode cX5_lockRow 94 = .ok (.invokevirtual 204, 3) := by decide +kernel
theorem dX5_lockRow_97 : decode cX5_lockRow 97 = .ok (.ifCond .ne 9, 3) := by decide +kernel
theorem dX5_lockRow_100 : decode cX5_lockRow 100 = .ok (.aload_n 0, 1) := by decide +kernel
theorem dX5_lockRow_101 : decode cX5_lockRow 101 = .ok (.aload_n 1, 1) := by decide +kernel
theorem dX5_lockRow_102 : decode cX5_lockRow 102 = .ok (.invokevirtual 232, 3) := by decide +kernel
theorem dX5_lockRow_105 : decode cX5_lockRow 105 = .ok (.ireturn, 1) := by decide +kernel
theorem dX5_lockRow_106 : decode cX5_lockRow 106 = .ok (.aload_n 0, 1) := by decide +kernel
theorem dX5_lockRow_107 : decode cX5_lockRow 107 = .ok (.getfield 10, 3) := by decide +kernel
theorem dX5_lockRow_110 : decode cX5_lockRow 110 = .ok (.aload 5, 2) := by decide +kernel
theorem dX5_lockRow_112 : decode cX5_lockRow 112 = .ok (.invokevirtual 207, 3) := by decide +kernel
theorem dX5_lockRow_115 : decode cX5_lockRow 115 = .ok (.iconst 5, 1) := by decide +kernel
theorem dX5_lockRow_116 : decode cX5_lockRow 116 = .ok (.ireturn, 1) := by decide +kernel
theorem dX5_lockRow_117 : decode cX5_lockRow 117 = .ok (.iinc 4 1, 3) := by decide +kernel
theorem dX5_lockRow_120 : decode cX5_lockRow 120 = .ok (.goto (-101), 3) := by decide +kernel
theorem dX5_lockRow_123 : decode cX5_lockRow 123 = .ok (.aload_n 0, 1) := by decide +kernel
theorem dX5_lockRow_124 : decode cX5_lockRow 124 = .ok (.getfield 10, 3) := by decide +kernel
theorem dX5_lockRow_127 : decode cX5_lockRow 127 = .ok (.getfield 182, 3) := by decide +kernel
theorem dX5_lockRow_130 : decode cX5_lockRow 130 = .ok (.iload_n 3, 1) := by decide +kernel
theorem dX5_lockRow_131 : decode cX5_lockRow 131 = .ok (.iconst 3, 1) := by decide +kernel
theorem dX5_lockRow_132 : decode cX5_lockRow 132 = .ok (.imul, 1) := by decide +kernel
theorem dX5_lockRow_133 : decode cX5_lockRow 133 = .ok (.iadd, 1) := by decide +kernel
theorem dX5_lockRow_134 : decode cX5_lockRow 134 = .ok (.sipush 3000, 3) := by decide +kernel
theorem dX5_lockRow_137 : decode cX5_lockRow 137 = .ok (.if_icmp .le 6, 3) := by decide +kernel
theorem dX5_lockRow_140 : decode cX5_lockRow 140 = .ok (.bipush (-4), 2) := by decide +kernel
theorem dX5_lockRow_142 : decode cX5_lockRow 142 = .ok (.ireturn, 1) := by decide +kernel
theorem dX5_lockRow_143 : decode cX5_lockRow 143 = .ok (.iload_n 2, 1) := by decide +kernel
theorem dX5_lockRow_144 : decode cX5_lockRow 144 = .ok (.istore 4, 2) := by decide +kernel
theorem dX5_lockRow_146 : decode cX5_lockRow 146 = .ok (.iload 4, 2) := by decide +kernel
theorem dX5_lockRow_148 : decode cX5_lockRow 148 = .ok (.iload_n 2, 1) := by decide +kernel
theorem dX5_lockRow_149 : decode cX5_lockRow 149 = .ok (.iconst 4, 1) := by decide +kernel
theorem dX5_lockRow_150 : decode cX5_lockRow 150 = .ok (.iadd, 1) := by decide +kernel
theorem dX5_lockRow_151 : decode cX5_lockRow 151 = .ok (.if_icmp .ge 81, 3) := by decide +kernel
theorem dX5_lockRow_154 : decode cX5_lockRow 154 = .ok (.aload_n 1, 1) := by decide +kernel
theorem dX5_lockRow_155 : decode cX5_lockRow 155 = .ok (.iload 4, 2) := by decide +kernel
theorem dX5_lockRow_157 : decode cX5_lockRow 157 = .ok (.invokevirtual 198, 3) := by decide +kernel
theorem dX5_lockRow_160 : decode cX5_lockRow 160 = .ok (.istore 5, 2) := by decide +kernel
theorem dX5_lockRow_162 : decode cX5_lockRow 162 = .ok (.iload 5, 2) := by decide +kernel
theorem dX5_lockRow_164 : decode cX5_lockRow 164 = .ok (.ifCond .lt 62, 3) := by decide +kernel
theorem dX5_lockRow_167 : decode cX5_lockRow 167 = .ok (.aload_n 0, 1) := by decide +kernel
theorem dX5_lockRow_168 : decode cX5_lockRow 168 = .ok (.getfield 10, 3) := by decide +kernel
theorem dX5_lockRow_171 : decode cX5_lockRow 171 = .ok (.aload_n 0, 1) := by decide +kernel
theorem dX5_lockRow_172 : decode cX5_lockRow 172 = .ok (.getfield 10, 3) := by decide +kernel
theorem dX5_lockRow_175 : decode cX5_lockRow 175 = .ok (.getfield 127, 3) := by decide +kernel
theorem dX5_lockRow_178 : decode cX5_lockRow 178 = .ok (.iload 4, 2) := by decide +kernel
theorem dX5_lockRow_180 : decode cX5_lockRow 180 = .ok (.aaload, 1) := by decide +kernel
theorem dX5_lockRow_181 : decode cX5_lockRow 181 = .ok (.aload_n 1, 1) := by decide +kernel
theorem dX5_lockRow_182 : decode cX5_lockRow 182 = .ok (.getfield 56, 3) := by decide +kernel
theorem dX5_lockRow_185 : decode cX5_lockRow 185 = .ok (.aload_n 1, 1) := by decide +kernel
theorem dX5_lockRow_186 : decode cX5_lockRow 186 = .ok (.getfield 201, 3) := by decide +kernel
theorem dX5_lockRow_189 : decode cX5_lockRow 189 = .ok (.iload 5, 2) := by decide +kernel
theorem dX5_lockRow_191 : decode cX5_lockRow 191 = .ok (.iaload, 1) := by decide +kernel
theorem dX5_lockRow_192 : decode cX5_lockRow 192 = .ok (.invokevirtual 235, 3) := by decide +kernel
theorem dX5_lockRow_195 : decode cX5_lockRow 195 = .ok (.aload_n 0, 1) := by decide +kernel
theorem dX5_lockRow_196 : decode cX5_lockRow 196 = .ok (.getfield 10, 3) := by decide +kernel
theorem dX5_lockRow_199 : decode cX5_lockRow 199 = .ok (.aload_n 0, 1) := by decide +kernel
theorem dX5_lockRow_200 : decode cX5_lockRow 200 = .ok (.getfield 10, 3) := by decide +kernel
theorem dX5_lockRow_203 : decode cX5_lockRow 203 = .ok (.getfield 127, 3) := by decide +kernel
theorem dX5_lockRow_206 : decode cX5_lockRow 206 = .ok (.iload 4, 2) := by decide +kernel
theorem dX5_lockRow_208 : decode cX5_lockRow 208 = .ok (.aaload, 1) := by decide +kernel
theorem dX5_lockRow_209 : decode cX5_lockRow 209 = .ok (.aload_n 1, 1) := by decide +kernel
theorem dX5_lockRow_210 : decode cX5_lockRow 210 = .ok (.getfield 56, 3) := by decide +kernel
theorem dX5_lockRow_213 : decode cX5_lockRow 213 = .ok (.aload_n 1, 1) := by decide +kernel
theorem dX5_lockRow_214 : decode cX5_lockRow 214 = .ok (.getfield 239, 3) := by decide +kernel
theorem dX5_lockRow_217 : decode cX5_lockRow 217 = .ok (.iconst 0, 1) := by decide +kernel
theorem dX5_lockRow_218 : decode cX5_lockRow 218 = .ok (.iaload, 1) := by decide +kernel
theorem dX5_lockRow_219 : decode cX5_lockRow 219 = .ok (.aload_n 0, 1) := by decide +kernel
theorem dX5_lockRow_220 : decode cX5_lockRow 220 = .ok (.getfield 41, 3) := by decide +kernel
theorem dX5_lockRow_223 : decode cX5_lockRow 223 = .ok (.invokevirtual 241, 3) := by decide +kernel
theorem dX5_lockRow_226 : decode cX5_lockRow 226 = .ok (.iinc 4 1, 3) := by decide +kernel
theorem dX5_lockRow_229 : decode cX5_lockRow 229 = .ok (.goto (-83), 3) := by decide +kernel
theorem dX5_lockRow_232 : decode cX5_lockRow 232 = .ok (.aload_n 1, 1) := by decide +kernel
theorem dX5_lockRow_233 : decode cX5_lockRow 233 = .ok (.dup, 1) := by decide +kernel
theorem dX5_lockRow_234 : decode cX5_lockRow 234 = .ok (.getfield 121, 3) := by decide +kernel
theorem dX5_lockRow_237 : decode cX5_lockRow 237 = .ok (.iconst 1, 1) := by decide +kernel
theorem dX5_lockRow_238 : decode cX5_lockRow 238 = .ok (.iadd, 1) := by decide +kernel
theorem dX5_lockRow_239 : decode cX5_lockRow 239 = .ok (.putfield 121, 3) := by decide +kernel
theorem dX5_lockRow_242 : decode cX5_lockRow 242 = .ok (.iconst 1, 1) := by decide +kernel
theorem dX5_lockRow_243 : decode cX5_lockRow 243 = .ok (.ireturn, 1) := by decide +kernel
theorem dX5_lose_0 : decode cX5_lose 0 = .ok (.aload_n 1, 1) := by decide +kernel
theorem dX5_lose_1 : decode cX5_lose 1 = .ok (.iconst 4, 1) := by decide +kernel
theorem dX5_lose_2 : decode cX5_lose 2 = .ok (.putfield 38, 3) := by decide +kernel
theorem dX5_lose_5 : decode cX5_lose 5 = .ok (.aload_n 1, 1) := by decide +kernel
theorem dX5_lose_6 : decode cX5_lose 6 = .ok (.iconst 0, 1) := by decide +kernel
theorem dX5_lose_7 : decode cX5_lose 7 = .ok (.putfield 121, 3) := by decide +kernel
theorem dX5_lose_10 : decode cX5_lose 10 = .ok (.iconst 4, 1) := by decide +kernel
theorem dX5_lose_11 : decode cX5_lose 11 = .ok (.ireturn, 1) := by decide +kernel
theorem dX5_decide_0 : decode cX5_decide 0 = .ok (.aload_n 0, 1) := by decide +kernel
theorem dX5_decide_1 : decode cX5_decide 1 = .ok (.getfield 19, 3) := by decide +kernel
theorem dX5_decide_4 : decode cX5_decide 4 = .ok (.invokevirtual 48, 3) := by decide +kernel
theorem dX5_decide_7 : decode cX5_decide 7 = .ok (.istore_n 2, 1) := by decide +kernel
theorem dX5_decide_8 : decode cX5_decide 8 = .ok (.aload_n 0, 1) := by decide +kernel
theorem dX5_decide_9 : decode cX5_decide 9 = .ok (.getfield 10, 3) := by decide +kernel
theorem dX5_decide_12 : decode cX5_decide 12 = .ok (.getfield 127, 3) := by decide +kernel
theorem dX5_decide_15 : decode cX5_decide 15 = .ok (.aload_n 1, 1) := by decide +kernel
theorem dX5_decide_16 : decode cX5_decide 16 = .ok (.getfield 239, 3) := by decide +kernel
theorem dX5_decide_19 : decode cX5_decide 19 = .ok (.iconst 0, 1) := by decide +kernel
theorem dX5_decide_20 : decode cX5_decide 20 = .ok (.iaload, 1) := by decide +kernel
theorem dX5_decide_21 : decode cX5_decide 21 = .ok (.aaload, 1) := by decide +kernel
theorem dX5_decide_22 : decode cX5_decide 22 = .ok (.getfield 131, 3) := by decide +kernel
theorem dX5_decide_25 : decode cX5_decide 25 = .ok (.aload_n 1, 1) := by decide +kernel
theorem dX5_decide_26 : decode cX5_decide 26 = .ok (.getfield 56, 3) := by decide +kernel
theorem dX5_decide_29 : decode cX5_decide 29 = .ok (.if_icmp .eq 9, 3) := by decide +kernel
theorem dX5_decide_32 : decode cX5_decide 32 = .ok (.aload_n 0, 1) := by decide +kernel
theorem dX5_decide_33 : decode cX5_decide 33 = .ok (.aload_n 1, 1) := by decide +kernel
theorem dX5_decide_34 : decode cX5_decide 34 = .ok (.invokevirtual 232, 3) := by decide +kernel
theorem dX5_decide_37 : decode cX5_decide 37 = .ok (.ireturn, 1) := by decide +kernel
theorem dX5_decide_38 : decode cX5_decide 38 = .ok (.aload_n 1, 1) := by decide +kernel
theorem dX5_decide_39 : decode cX5_decide 39 = .ok (.iload_n 2, 1) := by decide +kernel
theorem dX5_decide_40 : decode cX5_decide 40 = .ok (.putfield 124, 3) := by decide +kernel
theorem dX5_decide_43 : decode cX5_decide 43 = .ok (.aload_n 0, 1) := by decide +kernel
theorem dX5_decide_44 : decode cX5_decide 44 = .ok (.dup, 1) := by decide +kernel
theorem dX5_decide_45 : decode cX5_decide 45 = .ok (.getfield 191, 3) := by decide +kernel
theorem dX5_decide_48 : decode cX5_decide 48 = .ok (.iconst 1, 1) := by decide +kernel
theorem dX5_decide_49 : decode cX5_decide 49 = .ok (.iadd, 1) := by decide +kernel
theorem dX5_decide_50 : decode cX5_decide 50 = .ok (.putfield 191, 3) := by decide +kernel
theorem dX5_decide_53 : decode cX5_decide 53 = .ok (.aload_n 1, 1) := by decide +kernel
theorem dX5_decide_54 : decode cX5_decide 54 = .ok (.iconst 3, 1) := by decide +kernel
theorem dX5_decide_55 : decode cX5_decide 55 = .ok (.putfield 38, 3) := by decide +kernel
theorem dX5_decide_58 : decode cX5_decide 58 = .ok (.aload_n 0, 1) := by decide +kernel
theorem dX5_decide_59 : decode cX5_decide 59 = .ok (.aload_n 1, 1) := by decide +kernel
theorem dX5_decide_60 : decode cX5_decide 60 = .ok (.aload_n 1, 1) := by decide +kernel
theorem dX5_decide_61 : decode cX5_decide 61 = .ok (.getfield 229, 3) := by decide +kernel
theorem dX5_decide_64 : decode cX5_decide 64 = .ok (.iconst 0, 1) := by decide +kernel
theorem dX5_decide_65 : decode cX5_decide 65 = .ok (.iaload, 1) := by decide +kernel
theorem dX5_decide_66 : decode cX5_decide 66 = .ok (.invokevirtual 245, 3) := by decide +kernel
theorem dX5_decide_69 : decode cX5_decide 69 = .ok (.aload_n 1, 1) := by decide +kernel
theorem dX5_decide_70 : decode cX5_decide 70 = .ok (.iconst 1, 1) := by decide +kernel
theorem dX5_decide_71 : decode cX5_decide 71 = .ok (.putfield 121, 3) := by decide +kernel
theorem dX5_decide_74 : decode cX5_decide 74 = .ok (.aload_n 1, 1) := by decide +kernel
theorem dX5_decide_75 : decode cX5_decide 75 = .ok (.getfield 214, 3) := by decide +kernel
theorem dX5_decide_78 : decode cX5_decide 78 = .ok (.iconst 1, 1) := by decide +kernel
theorem dX5_decide_79 : decode cX5_decide 79 = .ok (.if_icmp .ne 7, 3) := by decide +kernel
theorem dX5_decide_82 : decode cX5_decide 82 = .ok (.aload_n 1, 1) := by decide +kernel
theorem dX5_decide_83 : decode cX5_decide 83 = .ok (.invokevirtual 86, 3) := by decide +kernel
theorem dX5_decide_86 : decode cX5_decide 86 = .ok (.iconst 2, 1) := by decide +kernel
theorem dX5_decide_87 : decode cX5_decide 87 = .ok (.ireturn, 1) := by decide +kernel
theorem dX5_settleRow_0 : decode cX5_settleRow 0 = .ok (.aload_n 1, 1) := by decide +kernel
theorem dX5_settleRow_1 : decode cX5_settleRow 1 = .ok (.getfield 121, 3) := by decide +kernel
theorem dX5_settleRow_4 : decode cX5_settleRow 4 = .ok (.aload_n 1, 1) := by decide +kernel
theorem dX5_settleRow_5 : decode cX5_settleRow 5 = .ok (.getfield 214, 3) := by decide +kernel
theorem dX5_settleRow_8 : decode cX5_settleRow 8 = .ok (.if_icmp .ge 27, 3) := by decide +kernel
theorem dX5_settleRow_11 : decode cX5_settleRow 11 = .ok (.aload_n 0, 1) := by decide +kernel
theorem dX5_settleRow_12 : decode cX5_settleRow 12 = .ok (.aload_n 1, 1) := by decide +kernel
theorem dX5_settleRow_13 : decode cX5_settleRow 13 = .ok (.aload_n 1, 1) := by decide +kernel
theorem dX5_settleRow_14 : decode cX5_settleRow 14 = .ok (.getfield 229, 3) := by decide +kernel
theorem dX5_settleRow_17 : decode cX5_settleRow 17 = .ok (.aload_n 1, 1) := by decide +kernel
theorem dX5_settleRow_18 : decode cX5_settleRow 18 = .ok (.getfield 121, 3) := by decide +kernel
theorem dX5_settleRow_21 : decode cX5_settleRow 21 = .ok (.iaload, 1) := by decide +kernel
theorem dX5_settleRow_22 : decode cX5_settleRow 22 = .ok (.invokevirtual 245, 3) := by decide +kernel
theorem dX5_settleRow_25 : decode cX5_settleRow 25 = .ok (.aload_n 1, 1) := by decide +kernel
theorem dX5_settleRow_26 : decode cX5_settleRow 26 = .ok (.dup, 1) := by decide +kernel
theorem dX5_settleRow_27 : decode cX5_settleRow 27 = .ok (.getfield 121, 3) := by decide +kernel
theorem dX5_settleRow_30 : decode cX5_settleRow 30 = .ok (.iconst 1, 1) := by decide +kernel
theorem dX5_settleRow_31 : decode cX5_settleRow 31 = .ok (.iadd, 1) := by decide +kernel
theorem dX5_settleRow_32 : decode cX5_settleRow 32 = .ok (.putfield 121, 3) := by decide +kernel
theorem dX5_settleRow_35 : decode cX5_settleRow 35 = .ok (.aload_n 1, 1) := by decide +kernel
theorem dX5_settleRow_36 : decode cX5_settleRow 36 = .ok (.getfield 121, 3) := by decide +kernel
theorem dX5_settleRow_39 : decode cX5_settleRow 39 = .ok (.aload_n 1, 1) := by decide +kernel
theorem dX5_settleRow_40 : decode cX5_settleRow 40 = .ok (.getfield 214, 3) := by decide +kernel
theorem dX5_settleRow_43 : decode cX5_settleRow 43 = .ok (.if_icmp .ge 5, 3) := by decide +kernel
theorem dX5_settleRow_46 : decode cX5_settleRow 46 = .ok (.iconst 1, 1) := by decide +kernel
theorem dX5_settleRow_47 : decode cX5_settleRow 47 = .ok (.ireturn, 1) := by decide +kernel
theorem dX5_settleRow_48 : decode cX5_settleRow 48 = .ok (.aload_n 1, 1) := by decide +kernel
theorem dX5_settleRow_49 : decode cX5_settleRow 49 = .ok (.invokevirtual 86, 3) := by decide +kernel
theorem dX5_settleRow_52 : decode cX5_settleRow 52 = .ok (.iconst 3, 1) := by decide +kernel
theorem dX5_settleRow_53 : decode cX5_settleRow 53 = .ok (.ireturn, 1) := by decide +kernel
theorem dX5_settleCells_0 : decode cX5_settleCells 0 = .ok (.iconst 0, 1) := by decide +kernel
theorem dX5_settleCells_1 : decode cX5_settleCells 1 = .ok (.istore_n 3, 1) := by decide +kernel
theorem dX5_settleCells_2 : decode cX5_settleCells 2 = .ok (.iload_n 3, 1) := by decide +kernel
theorem dX5_settleCells_3 : decode cX5_settleCells 3 = .ok (.iconst 4, 1) := by decide +kernel
theorem dX5_settleCells_4 : decode cX5_settleCells 4 = .ok (.if_icmp .ge 59, 3) := by decide +kernel
theorem dX5_settleCells_7 : decode cX5_settleCells 7 = .ok (.aload_n 0, 1) := by decide +kernel
theorem dX5_settleCells_8 : decode cX5_settleCells 8 = .ok (.getfield 10, 3) := by decide +kernel
theorem dX5_settleCells_11 : decode cX5_settleCells 11 = .ok (.getfield 127, 3) := by decide +kernel
theorem dX5_settleCells_14 : decode cX5_settleCells 14 = .ok (.iload_n 2, 1) := by decide +kernel
theorem dX5_settleCells_15 : decode cX5_settleCells 15 = .ok (.iload_n 3, 1) := by decide +kernel
theorem dX5_settleCells_16 : decode cX5_settleCells 16 = .ok (.invokestatic 63, 3) := by decide +kernel
theorem dX5_settleCells_19 : decode cX5_settleCells 19 = .ok (.aaload, 1) := by decide +kernel
theorem dX5_settleCells_20 : decode cX5_settleCells 20 = .ok (.astore 4, 2) := by decide +kernel
theorem dX5_settleCells_22 : decode cX5_settleCells 22 = .ok (.aload_n 1, 1) := by decide +kernel
theorem dX5_settleCells_23 : decode cX5_settleCells 23 = .ok (.aload 4, 2) := by decide +kernel
theorem dX5_settleCells_25 : decode cX5_settleCells 25 = .ok (.invokevirtual 249, 3) := by decide +kernel
theorem dX5_settleCells_28 : decode cX5_settleCells 28 = .ok (.ifCond .eq 29, 3) := by decide +kernel
theorem dX5_settleCells_31 : decode cX5_settleCells 31 = .ok (.aload_n 0, 1) := by decide +kernel
theorem dX5_settleCells_32 : decode cX5_settleCells 32 = .ok (.getfield 10, 3) := by decide +kernel
theorem dX5_settleCells_35 : decode cX5_settleCells 35 = .ok (.aload 4, 2) := by decide +kernel
theorem dX5_settleCells_37 : decode cX5_settleCells 37 = .ok (.aload_n 1, 1) := by decide +kernel
theorem dX5_settleCells_38 : decode cX5_settleCells 38 = .ok (.getfield 124, 3) := by decide +kernel
theorem dX5_settleCells_41 : decode cX5_settleCells 41 = .ok (.aload_n 1, 1) := by decide +kernel
theorem dX5_settleCells_42 : decode cX5_settleCells 42 = .ok (.getfield 56, 3) := by decide +kernel
theorem dX5_settleCells_45 : decode cX5_settleCells 45 = .ok (.invokevirtual 252, 3) := by decide +kernel
theorem dX5_settleCells_48 : decode cX5_settleCells 48 = .ok (.aload_n 0, 1) := by decide +kernel
theorem dX5_settleCells_49 : decode cX5_settleCells 49 = .ok (.getfield 10, 3) := by decide +kernel
theorem dX5_settleCells_52 : decode cX5_settleCells 52 = .ok (.aload 4, 2) := by decide +kernel
theorem dX5_settleCells_54 : decode cX5_settleCells 54 = .ok (.invokevirtual 255, 3) := by decide +kernel
theorem dX5_settleCells_57 : decode cX5_settleCells 57 = .ok (.iinc 3 1, 3) := by decide +kernel
theorem dX5_settleCells_60 : decode cX5_settleCells 60 = .ok (.goto (-58), 3) := by decide +kernel
theorem dX5_settleCells_63 : decode cX5_settleCells 63 = .ok (.return_, 1) := by decide +kernel
theorem dX5_undoRow_0 : decode cX5_undoRow 0 = .ok (.iconst 0, 1) := by decide +kernel
theorem dX5_undoRow_1 : decode cX5_undoRow 1 = .ok (.istore_n 2, 1) := by decide +kernel
theorem dX5_undoRow_2 : decode cX5_undoRow 2 = .ok (.iload_n 2, 1) := by decide +kernel
theorem dX5_undoRow_3 : decode cX5_undoRow 3 = .ok (.aload_n 1, 1) := by decide +kernel
theorem dX5_undoRow_4 : decode cX5_undoRow 4 = .ok (.getfield 214, 3) := by decide +kernel
theorem dX5_undoRow_7 : decode cX5_undoRow 7 = .ok (.if_icmp .ge 25, 3) := by decide +kernel
theorem dX5_undoRow_10 : decode cX5_undoRow 10 = .ok (.aload_n 0, 1) := by decide +kernel
theorem dX5_undoRow_11 : decode cX5_undoRow 11 = .ok (.aload_n 1, 1) := by decide +kernel
theorem dX5_undoRow_12 : decode cX5_undoRow 12 = .ok (.aload_n 1, 1) := by decide +kernel
theorem dX5_undoRow_13 : decode cX5_undoRow 13 = .ok (.getfield 229, 3) := by decide +kernel
theorem dX5_undoRow_16 : decode cX5_undoRow 16 = .ok (.iload_n 2, 1) := by decide +kernel
theorem dX5_undoRow_17 : decode cX5_undoRow 17 = .ok (.iaload, 1) := by decide +kernel
theorem dX5_undoRow_18 : decode cX5_undoRow 18 = .ok (.invokevirtual 258, 3) := by decide +kernel
theorem dX5_undoRow_21 : decode cX5_undoRow 21 = .ok (.ifCond .eq 5, 3) := by decide +kernel
theorem dX5_undoRow_24 : decode cX5_undoRow 24 = .ok (.iconst 1, 1) := by decide +kernel
theorem dX5_undoRow_25 : decode cX5_undoRow 25 = .ok (.ireturn, 1) := by decide +kernel
theorem dX5_undoRow_26 : decode cX5_undoRow 26 = .ok (.iinc 2 1, 3) := by decide +kernel
theorem dX5_undoRow_29 : decode cX5_undoRow 29 = .ok (.goto (-27), 3) := by decide +kernel
theorem dX5_undoRow_32 : decode cX5_undoRow 32 = .ok (.aload_n 1, 1) := by decide +kernel
theorem dX5_undoRow_33 : decode cX5_undoRow 33 = .ok (.invokevirtual 86, 3) := by decide +kernel
theorem dX5_undoRow_36 : decode cX5_undoRow 36 = .ok (.iconst 0, 1) := by decide +kernel
theorem dX5_undoRow_37 : decode cX5_undoRow 37 = .ok (.ireturn, 1) := by decide +kernel
theorem dX5_undoCells_0 : decode cX5_undoCells 0 = .ok (.iconst 0, 1) := by decide +kernel
theorem dX5_undoCells_1 : decode cX5_undoCells 1 = .ok (.istore_n 3, 1) := by decide +kernel
theorem dX5_undoCells_2 : decode cX5_undoCells 2 = .ok (.iconst 0, 1) := by decide +kernel
theorem dX5_undoCells_3 : decode cX5_undoCells 3 = .ok (.istore 4, 2) := by decide +kernel
theorem dX5_undoCells_5 : decode cX5_undoCells 5 = .ok (.iload 4, 2) := by decide +kernel
theorem dX5_undoCells_7 : decode cX5_undoCells 7 = .ok (.iconst 4, 1) := by decide +kernel
theorem dX5_undoCells_8 : decode cX5_undoCells 8 = .ok (.if_icmp .ge 65, 3) := by decide +kernel
theorem dX5_undoCells_11 : decode cX5_undoCells 11 = .ok (.iload_n 2, 1) := by decide +kernel
theorem dX5_undoCells_12 : decode cX5_undoCells 12 = .ok (.iload 4, 2) := by decide +kernel
theorem dX5_undoCells_14 : decode cX5_undoCells 14 = .ok (.invokestatic 63, 3) := by decide +kernel
theorem dX5_undoCells_17 : decode cX5_undoCells 17 = .ok (.istore 5, 2) := by decide +kernel
theorem dX5_undoCells_19 : decode cX5_undoCells 19 = .ok (.aload_n 0, 1) := by decide +kernel
theorem dX5_undoCells_20 : decode cX5_undoCells 20 = .ok (.getfield 10, 3) := by decide +kernel
theorem dX5_undoCells_23 : decode cX5_undoCells 23 = .ok (.getfield 127, 3) := by decide +kernel
theorem dX5_undoCells_26 : decode cX5_undoCells 26 = .ok (.iload 5, 2) := by decide +kernel
theorem dX5_undoCells_28 : decode cX5_undoCells 28 = .ok (.aaload, 1) := by decide +kernel
theorem dX5_undoCells_29 : decode cX5_undoCells 29 = .ok (.astore 6, 2) := by decide +kernel
theorem dX5_undoCells_31 : decode cX5_undoCells 31 = .ok (.aload_n 1, 1) := by decide +kernel
theorem dX5_undoCells_32 : decode cX5_undoCells 32 = .ok (.aload 6, 2) := by decide +kernel
theorem dX5_undoCells_34 : decode cX5_undoCells 34 = .ok (.invokevirtual 249, 3) := by decide +kernel
theorem dX5_undoCells_37 : decode cX5_undoCells 37 = .ok (.ifCond .eq 30, 3) := by decide +kernel
theorem dX5_undoCells_40 : decode cX5_undoCells 40 = .ok (.aload_n 0, 1) := by decide +kernel
theorem dX5_undoCells_41 : decode cX5_undoCells 41 = .ok (.getfield 10, 3) := by decide +kernel
theorem dX5_undoCells_44 : decode cX5_undoCells 44 = .ok (.aload 6, 2) := by decide +kernel
theorem dX5_undoCells_46 : decode cX5_undoCells 46 = .ok (.iload 5, 2) := by decide +kernel
theorem dX5_undoCells_48 : decode cX5_undoCells 48 = .ok (.aload_n 1, 1) := by decide +kernel
theorem dX5_undoCells_49 : decode cX5_undoCells 49 = .ok (.getfield 239, 3) := by decide +kernel
theorem dX5_undoCells_52 : decode cX5_undoCells 52 = .ok (.iconst 0, 1) := by decide +kernel
theorem dX5_undoCells_53 : decode cX5_undoCells 53 = .ok (.iaload, 1) := by decide +kernel
theorem dX5_undoCells_54 : decode cX5_undoCells 54 = .ok (.if_icmp .ne 7, 3) := by decide +kernel
theorem dX5_undoCells_57 : decode cX5_undoCells 57 = .ok (.iconst 1, 1) := by decide +kernel
theorem dX5_undoCells_58 : decode cX5_undoCells 58 = .ok (.goto 4, 3) := by decide +kernel
theorem dX5_undoCells_61 : decode cX5_undoCells 61 = .ok (.iconst 0, 1) := by decide +kernel
theorem dX5_undoCells_62 : decode cX5_undoCells 62 = .ok (.invokevirtual 262, 3) := by decide +kernel
theorem dX5_undoCells_65 : decode cX5_undoCells 65 = .ok (.iconst 1, 1) := by decide +kernel
theorem dX5_undoCells_66 : decode cX5_undoCells 66 = .ok (.istore_n 3, 1) := by decide +kernel
theorem dX5_undoCells_67 : decode cX5_undoCells 67 = .ok (.iinc 4 1, 3) := by decide +kernel
theorem dX5_undoCells_70 : decode cX5_undoCells 70 = .ok (.goto (-65), 3) := by decide +kernel
theorem dX5_undoCells_73 : decode cX5_undoCells 73 = .ok (.iload_n 3, 1) := by decide +kernel
theorem dX5_undoCells_74 : decode cX5_undoCells 74 = .ok (.ireturn, 1) := by decide +kernel
theorem dX6_init_0 : decode cX6_init 0 = .ok (.aload_n 0, 1) := by decide +kernel
theorem dX6_init_1 : decode cX6_init 1 = .ok (.invokespecial 1, 3) := by decide +kernel
theorem dX6_init_4 : decode cX6_init 4 = .ok (.aload_n 0, 1) := by decide +kernel
theorem dX6_init_5 : decode cX6_init 5 = .ok (.bipush 10, 2) := by decide +kernel
theorem dX6_init_7 : decode cX6_init 7 = .ok (.putfield 7, 3) := by decide +kernel
theorem dX6_init_10 : decode cX6_init 10 = .ok (.aload_n 0, 1) := by decide +kernel
theorem dX6_init_11 : decode cX6_init 11 = .ok (.iconst 1, 1) := by decide +kernel
theorem dX6_init_12 : decode cX6_init 12 = .ok (.putfield 13, 3) := by decide +kernel
theorem dX6_init_15 : decode cX6_init 15 = .ok (.aload_n 0, 1) := by decide +kernel
theorem dX6_init_16 : decode cX6_init 16 = .ok (.sipush 3000, 3) := by decide +kernel
theorem dX6_init_19 : decode cX6_init 19 = .ok (.newarray .int, 2) := by decide +kernel
theorem dX6_init_21 : decode cX6_init 21 = .ok (.putfield 16, 3) := by decide +kernel
theorem dX6_init_24 : decode cX6_init 24 = .ok (.aload_n 0, 1) := by decide +kernel
theorem dX6_init_25 : decode cX6_init 25 = .ok (.sipush 3000, 3) := by decide +kernel
theorem dX6_init_28 : decode cX6_init 28 = .ok (.newarray .int, 2) := by decide +kernel
theorem dX6_init_30 : decode cX6_init 30 = .ok (.putfield 20, 3) := by decide +kernel
theorem dX6_init_33 : decode cX6_init 33 = .ok (.aload_n 0, 1) := by decide +kernel
theorem dX6_init_34 : decode cX6_init 34 = .ok (.sipush 3000, 3) := by decide +kernel
theorem dX6_init_37 : decode cX6_init 37 = .ok (.newarray .int, 2) := by decide +kernel
theorem dX6_init_39 : decode cX6_init 39 = .ok (.putfield 23, 3) := by decide +kernel
theorem dX6_init_42 : decode cX6_init 42 = .ok (.aload_n 0, 1) := by decide +kernel
theorem dX6_init_43 : decode cX6_init 43 = .ok (.sipush 3000, 3) := by decide +kernel
theorem dX6_init_46 : decode cX6_init 46 = .ok (.newarray .int, 2) := by decide +kernel
theorem dX6_init_48 : decode cX6_init 48 = .ok (.putfield 26, 3) := by decide +kernel
theorem dX6_init_51 : decode cX6_init 51 = .ok (.aload_n 0, 1) := by decide +kernel
theorem dX6_init_52 : decode cX6_init 52 = .ok (.sipush 3000, 3) := by decide +kernel
theorem dX6_init_55 : decode cX6_init 55 = .ok (.newarray .int, 2) := by decide +kernel
theorem dX6_init_57 : decode cX6_init 57 = .ok (.putfield 29, 3) := by decide +kernel
theorem dX6_init_60 : decode cX6_init 60 = .ok (.aload_n 0, 1) := by decide +kernel
theorem dX6_init_61 : decode cX6_init 61 = .ok (.sipush 3000, 3) := by decide +kernel
theorem dX6_init_64 : decode cX6_init 64 = .ok (.newarray .int, 2) := by decide +kernel
theorem dX6_init_66 : decode cX6_init 66 = .ok (.putfield 32, 3) := by decide +kernel
theorem dX6_init_69 : decode cX6_init 69 = .ok (.aload_n 0, 1) := by decide +kernel
theorem dX6_init_70 : decode cX6_init 70 = .ok (.sipush 3000, 3) := by decide +kernel
theorem dX6_init_73 : decode cX6_init 73 = .ok (.newarray .boolean, 2) := by decide +kernel
theorem dX6_init_75 : decode cX6_init 75 = .ok (.putfield 35, 3) := by decide +kernel
theorem dX6_init_78 : decode cX6_init 78 = .ok (.aload_n 0, 1) := by decide +kernel
theorem dX6_init_79 : decode cX6_init 79 = .ok (.sipush 256, 3) := by decide +kernel
theorem dX6_init_82 : decode cX6_init 82 = .ok (.newarray .int, 2) := by decide +kernel
theorem dX6_init_84 : decode cX6_init 84 = .ok (.putfield 39, 3) := by decide +kernel
theorem dX6_init_87 : decode cX6_init 87 = .ok (.aload_n 0, 1) := by decide +kernel
theorem dX6_init_88 : decode cX6_init 88 = .ok (.sipush 256, 3) := by decide +kernel
theorem dX6_init_91 : decode cX6_init 91 = .ok (.newarray .int, 2) := by decide +kernel
theorem dX6_init_93 : decode cX6_init 93 = .ok (.putfield 42, 3) := by decide +kernel
theorem dX6_init_96 : decode cX6_init 96 = .ok (.aload_n 0, 1) := by decide +kernel
theorem dX6_init_97 : decode cX6_init 97 = .ok (.sipush 256, 3) := by decide +kernel
theorem dX6_init_100 : decode cX6_init 100 = .ok (.newarray .int, 2) := by decide +kernel
theorem dX6_init_102 : decode cX6_init 102 = .ok (.putfield 45, 3) := by decide +kernel
theorem dX6_init_105 : decode cX6_init 105 = .ok (.aload_n 0, 1) := by decide +kernel
theorem dX6_init_106 : decode cX6_init 106 = .ok (.bipush 8, 2) := by decide +kernel
theorem dX6_init_108 : decode cX6_init 108 = .ok (.newarray .int, 2) := by decide +kernel
theorem dX6_init_110 : decode cX6_init 110 = .ok (.putfield 48, 3) := by decide +kernel
theorem dX6_init_113 : decode cX6_init 113 = .ok (.aload_n 0, 1) := by decide +kernel
theorem dX6_init_114 : decode cX6_init 114 = .ok (.bipush 8, 2) := by decide +kernel
theorem dX6_init_116 : decode cX6_init 116 = .ok (.newarray .int, 2) := by decide +kernel
theorem dX6_init_118 : decode cX6_init 118 = .ok (.putfield 51, 3) := by decide +kernel
theorem dX6_init_121 : decode cX6_init 121 = .ok (.aload_n 0, 1) := by decide +kernel
theorem dX6_init_122 : decode cX6_init 122 = .ok (.bipush 8, 2) := by decide +kernel
theorem dX6_init_124 : decode cX6_init 124 = .ok (.newarray .int, 2) := by decide +kernel
theorem dX6_init_126 : decode cX6_init 126 = .ok (.putfield 54, 3) := by decide +kernel
theorem dX6_init_129 : decode cX6_init 129 = .ok (.aload_n 0, 1) := by decide +kernel
theorem dX6_init_130 : decode cX6_init 130 = .ok (.bipush 8, 2) := by decide +kernel
theorem dX6_init_132 : decode cX6_init 132 = .ok (.newarray .int, 2) := by decide +kernel
theorem dX6_init_134 : decode cX6_init 134 = .ok (.putfield 57, 3) := by decide +kernel
theorem dX6_init_137 : decode cX6_init 137 = .ok (.aload_n 0, 1) := by decide +kernel
theorem dX6_init_138 : decode cX6_init 138 = .ok (.sipush 128, 3) := by decide +kernel
theorem dX6_init_141 : decode cX6_init 141 = .ok (.newarray .int, 2) := by decide +kernel
theorem dX6_init_143 : decode cX6_init 143 = .ok (.putfield 60, 3) := by decide +kernel
theorem dX6_init_146 : decode cX6_init 146 = .ok (.aload_n 0, 1) := by decide +kernel
theorem dX6_init_147 : decode cX6_init 147 = .ok (.sipush 128, 3) := by decide +kernel
theorem dX6_init_150 : decode cX6_init 150 = .ok (.newarray .int, 2) := by decide +kernel
theorem dX6_init_152 : decode cX6_init 152 = .ok (.putfield 63, 3) := by decide +kernel
theorem dX6_init_155 : decode cX6_init 155 = .ok (.aload_n 0, 1) := by decide +kernel
theorem dX6_init_156 : decode cX6_init 156 = .ok (.bipush 8, 2) := by decide +kernel
theorem dX6_init_158 : decode cX6_init 158 = .ok (.newarray .int, 2) := by decide +kernel
theorem dX6_init_160 : decode cX6_init 160 = .ok (.putfield 66, 3) := by decide +kernel
theorem dX6_init_163 : decode cX6_init 163 = .ok (.aload_n 0, 1) := by decide +kernel
end
section
theorem dX6_init_164 : decode cX6_init 164 = .ok (.bipush 8, 2) := by decide +kernel
theorem dX6_init_166 : decode cX6_init 166 = .ok (.newarray .int, 2) := by decide +kernel
theorem dX6_init_168 : decode cX6_init 168 = .ok (.putfield 69, 3) := by decide +kernel
theorem dX6_init_171 : decode cX6_init 171 = .ok (.aload_n 0, 1) := by decide +kernel
theorem dX6_init_172 : decode cX6_init 172 = .ok (.iconst 0, 1) := by decide +kernel
theorem dX6_init_173 : decode cX6_init 173 = .ok (.putfield 72, 3) := by decide +kernel
theorem dX6_init_176 : decode cX6_init 176 = .ok (.return_, 1) := by decide +kernel
theorem dX6_in_0 : decode cX6_in 0 = .ok (.iload_n 0, 1) := by decide +kernel
theorem dX6_in_1 : decode cX6_in 1 = .ok (.iload_n 1, 1) := by decide +kernel
theorem dX6_in_2 : decode cX6_in 2 = .ok (.if_icmp .lt 12, 3) := by decide +kernel
theorem dX6_in_5 : decode cX6_in 5 = .ok (.iload_n 0, 1) := by decide +kernel
theorem dX6_in_6 : decode cX6_in 6 = .ok (.iload_n 2, 1) := by decide +kernel
theorem dX6_in_7 : decode cX6_in 7 = .ok (.if_icmp .gt 7, 3) := by decide +kernel
theorem dX6_in_10 : decode cX6_in 10 = .ok (.iconst 1, 1) := by decide +kernel
theorem dX6_in_11 : decode cX6_in 11 = .ok (.goto 4, 3) := by decide +kernel
theorem dX6_in_14 : decode cX6_in 14 = .ok (.iconst 0, 1) := by decide +kernel
theorem dX6_in_15 : decode cX6_in 15 = .ok (.ireturn, 1) := by decide +kernel
theorem dX6_records_0 : decode cX6_records 0 = .ok (.aload_n 0, 1) := by decide +kernel
theorem dX6_records_1 : decode cX6_records 1 = .ok (.getfield 78, 3) := by decide +kernel
theorem dX6_records_4 : decode cX6_records 4 = .ok (.aload_n 0, 1) := by decide +kernel
theorem dX6_records_5 : decode cX6_records 5 = .ok (.getfield 81, 3) := by decide +kernel
theorem dX6_records_8 : decode cX6_records 8 = .ok (.iadd, 1) := by decide +kernel
theorem dX6_records_9 : decode cX6_records 9 = .ok (.iconst 2, 1) := by decide +kernel
theorem dX6_records_10 : decode cX6_records 10 = .ok (.aload_n 0, 1) := by decide +kernel
theorem dX6_records_11 : decode cX6_records 11 = .ok (.getfield 84, 3) := by decide +kernel
theorem dX6_records_14 : decode cX6_records 14 = .ok (.imul, 1) := by decide +kernel
theorem dX6_records_15 : decode cX6_records 15 = .ok (.iadd, 1) := by decide +kernel
theorem dX6_records_16 : decode cX6_records 16 = .ok (.ireturn, 1) := by decide +kernel
theorem dX6_end_0 : decode cX6_end 0 = .ok (.aload_n 0, 1) := by decide +kernel
theorem dX6_end_1 : decode cX6_end 1 = .ok (.getfield 72, 3) := by decide +kernel
theorem dX6_end_4 : decode cX6_end 4 = .ok (.bipush 64, 2) := by decide +kernel
theorem dX6_end_6 : decode cX6_end 6 = .ok (.if_icmp .lt 41, 3) := by decide +kernel
theorem dX6_end_9 : decode cX6_end 9 = .ok (.aload_n 0, 1) := by decide +kernel
theorem dX6_end_10 : decode cX6_end 10 = .ok (.iconst 0, 1) := by decide +kernel
theorem dX6_end_11 : decode cX6_end 11 = .ok (.putfield 72, 3) := by decide +kernel
theorem dX6_end_14 : decode cX6_end 14 = .ok (.aload_n 0, 1) := by decide +kernel
theorem dX6_end_15 : decode cX6_end 15 = .ok (.dup, 1) := by decide +kernel
theorem dX6_end_16 : decode cX6_end 16 = .ok (.getfield 87, 3) := by decide +kernel
theorem dX6_end_19 : decode cX6_end 19 = .ok (.iconst 1, 1) := by decide +kernel
theorem dX6_end_20 : decode cX6_end 20 = .ok (.iadd, 1) := by decide +kernel
theorem dX6_end_21 : decode cX6_end 21 = .ok (.putfield 87, 3) := by decide +kernel
theorem dX6_end_24 : decode cX6_end 24 = .ok (.aload_n 0, 1) := by decide +kernel
theorem dX6_end_25 : decode cX6_end 25 = .ok (.getfield 87, 3) := by decide +kernel
theorem dX6_end_28 : decode cX6_end 28 = .ok (.iconst 4, 1) := by decide +kernel
theorem dX6_end_29 : decode cX6_end 29 = .ok (.if_icmp .ne 18, 3) := by decide +kernel
theorem dX6_end_32 : decode cX6_end 32 = .ok (.aload_n 0, 1) := by decide +kernel
theorem dX6_end_33 : decode cX6_end 33 = .ok (.iconst 1, 1) := by decide +kernel
theorem dX6_end_34 : decode cX6_end 34 = .ok (.putfield 87, 3) := by decide +kernel
theorem dX6_end_37 : decode cX6_end 37 = .ok (.aload_n 0, 1) := by decide +kernel
theorem dX6_end_38 : decode cX6_end 38 = .ok (.dup, 1) := by decide +kernel
theorem dX6_end_39 : decode cX6_end 39 = .ok (.getfield 90, 3) := by decide +kernel
theorem dX6_end_42 : decode cX6_end 42 = .ok (.iconst 1, 1) := by decide +kernel
theorem dX6_end_43 : decode cX6_end 43 = .ok (.iadd, 1) := by decide +kernel
theorem dX6_end_44 : decode cX6_end 44 = .ok (.putfield 90, 3) := by decide +kernel
theorem dX6_end_47 : decode cX6_end 47 = .ok (.iload_n 1, 1) := by decide +kernel
theorem dX6_end_48 : decode cX6_end 48 = .ok (.ireturn, 1) := by decide +kernel
theorem dX6_give_0 : decode cX6_give 0 = .ok (.aload_n 0, 1) := by decide +kernel
theorem dX6_give_1 : decode cX6_give 1 = .ok (.getfield 13, 3) := by decide +kernel
theorem dX6_give_4 : decode cX6_give 4 = .ok (.istore_n 1, 1) := by decide +kernel
theorem dX6_give_5 : decode cX6_give 5 = .ok (.iload_n 1, 1) := by decide +kernel
theorem dX6_give_6 : decode cX6_give 6 = .ok (.aload_n 0, 1) := by decide +kernel
theorem dX6_give_7 : decode cX6_give 7 = .ok (.getfield 93, 3) := by decide +kernel
theorem dX6_give_10 : decode cX6_give 10 = .ok (.if_icmp .le 14, 3) := by decide +kernel
theorem dX6_give_13 : decode cX6_give 13 = .ok (.aload_n 0, 1) := by decide +kernel
theorem dX6_give_14 : decode cX6_give 14 = .ok (.dup, 1) := by decide +kernel
theorem dX6_give_15 : decode cX6_give 15 = .ok (.getfield 93, 3) := by decide +kernel
theorem dX6_give_18 : decode cX6_give 18 = .ok (.bipush 16, 2) := by decide +kernel
theorem dX6_give_20 : decode cX6_give 20 = .ok (.iadd, 1) := by decide +kernel
theorem dX6_give_21 : decode cX6_give 21 = .ok (.putfield 93, 3) := by decide +kernel
theorem dX6_give_24 : decode cX6_give 24 = .ok (.aload_n 0, 1) := by decide +kernel
theorem dX6_give_25 : decode cX6_give 25 = .ok (.dup, 1) := by decide +kernel
theorem dX6_give_26 : decode cX6_give 26 = .ok (.getfield 13, 3) := by decide +kernel
theorem dX6_give_29 : decode cX6_give 29 = .ok (.iconst 1, 1) := by decide +kernel
theorem dX6_give_30 : decode cX6_give 30 = .ok (.iadd, 1) := by decide +kernel
theorem dX6_give_31 : decode cX6_give 31 = .ok (.putfield 13, 3) := by decide +kernel
theorem dX6_give_34 : decode cX6_give 34 = .ok (.aload_n 0, 1) := by decide +kernel
theorem dX6_give_35 : decode cX6_give 35 = .ok (.iload_n 1, 1) := by decide +kernel
theorem dX6_give_36 : decode cX6_give 36 = .ok (.putfield 96, 3) := by decide +kernel
theorem dX6_give_39 : decode cX6_give 39 = .ok (.iload_n 1, 1) := by decide +kernel
theorem dX6_give_40 : decode cX6_give 40 = .ok (.ireturn, 1) := by decide +kernel
theorem dX6_dataAt_0 : decode cX6_dataAt 0 = .ok (.iconst 0, 1) := by decide +kernel
theorem dX6_dataAt_1 : decode cX6_dataAt 1 = .ok (.istore_n 3, 1) := by decide +kernel
theorem dX6_dataAt_2 : decode cX6_dataAt 2 = .ok (.iload_n 3, 1) := by decide +kernel
theorem dX6_dataAt_3 : decode cX6_dataAt 3 = .ok (.aload_n 0, 1) := by decide +kernel
theorem dX6_dataAt_4 : decode cX6_dataAt 4 = .ok (.getfield 78, 3) := by decide +kernel
theorem dX6_dataAt_7 : decode cX6_dataAt 7 = .ok (.if_icmp .ge 31, 3) := by decide +kernel
theorem dX6_dataAt_10 : decode cX6_dataAt 10 = .ok (.aload_n 0, 1) := by decide +kernel
theorem dX6_dataAt_11 : decode cX6_dataAt 11 = .ok (.getfield 16, 3) := by decide +kernel
theorem dX6_dataAt_14 : decode cX6_dataAt 14 = .ok (.iload_n 3, 1) := by decide +kernel
theorem dX6_dataAt_15 : decode cX6_dataAt 15 = .ok (.iaload, 1) := by decide +kernel
theorem dX6_dataAt_16 : decode cX6_dataAt 16 = .ok (.iload_n 1, 1) := by decide +kernel
theorem dX6_dataAt_17 : decode cX6_dataAt 17 = .ok (.if_icmp .ne 15, 3) := by decide +kernel
theorem dX6_dataAt_20 : decode cX6_dataAt 20 = .ok (.aload_n 0, 1) := by decide +kernel
theorem dX6_dataAt_21 : decode cX6_dataAt 21 = .ok (.getfield 20, 3) := by decide +kernel
theorem dX6_dataAt_24 : decode cX6_dataAt 24 = .ok (.iload_n 3, 1) := by decide +kernel
theorem dX6_dataAt_25 : decode cX6_dataAt 25 = .ok (.iaload, 1) := by decide +kernel
theorem dX6_dataAt_26 : decode cX6_dataAt 26 = .ok (.iload_n 2, 1) := by decide +kernel
theorem dX6_dataAt_27 : decode cX6_dataAt 27 = .ok (.if_icmp .ne 5, 3) := by decide +kernel
theorem dX6_dataAt_30 : decode cX6_dataAt 30 = .ok (.iload_n 3, 1) := by decide +kernel
theorem dX6_dataAt_31 : decode cX6_dataAt 31 = .ok (.ireturn, 1) := by decide +kernel
theorem dX6_dataAt_32 : decode cX6_dataAt 32 = .ok (.iinc 3 1, 3) := by decide +kernel
theorem dX6_dataAt_35 : decode cX6_dataAt 35 = .ok (.goto (-33), 3) := by decide +kernel
theorem dX6_dataAt_38 : decode cX6_dataAt 38 = .ok (.iconst (-1), 1) := by decide +kernel
theorem dX6_dataAt_39 : decode cX6_dataAt 39 = .ok (.ireturn, 1) := by decide +kernel
theorem dX6_addData_0 : decode cX6_addData 0 = .ok (.aload_n 0, 1) := by decide +kernel
theorem dX6_addData_1 : decode cX6_addData 1 = .ok (.getfield 16, 3) := by decide +kernel
theorem dX6_addData_4 : decode cX6_addData 4 = .ok (.aload_n 0, 1) := by decide +kernel
theorem dX6_addData_5 : decode cX6_addData 5 = .ok (.getfield 78, 3) := by decide +kernel
theorem dX6_addData_8 : decode cX6_addData 8 = .ok (.iload_n 1, 1) := by decide +kernel
theorem dX6_addData_9 : decode cX6_addData 9 = .ok (.iastore, 1) := by decide +kernel
theorem dX6_addData_10 : decode cX6_addData 10 = .ok (.aload_n 0, 1) := by decide +kernel
theorem dX6_addData_11 : decode cX6_addData 11 = .ok (.getfield 20, 3) := by decide +kernel
theorem dX6_addData_14 : decode cX6_addData 14 = .ok (.aload_n 0, 1) := by decide +kernel
theorem dX6_addData_15 : decode cX6_addData 15 = .ok (.getfield 78, 3) := by decide +kernel
theorem dX6_addData_18 : decode cX6_addData 18 = .ok (.iload_n 2, 1) := by decide +kernel
theorem dX6_addData_19 : decode cX6_addData 19 = .ok (.iastore, 1) := by decide +kernel
theorem dX6_addData_20 : decode cX6_addData 20 = .ok (.aload_n 0, 1) := by decide +kernel
theorem dX6_addData_21 : decode cX6_addData 21 = .ok (.getfield 23, 3) := by decide +kernel
theorem dX6_addData_24 : decode cX6_addData 24 = .ok (.aload_n 0, 1) := by decide +kernel
theorem dX6_addData_25 : decode cX6_addData 25 = .ok (.getfield 78, 3) := by decide +kernel
theorem dX6_addData_28 : decode cX6_addData 28 = .ok (.iload_n 3, 1) := by decide +kernel
theorem dX6_addData_29 : decode cX6_addData 29 = .ok (.iastore, 1) := by decide +kernel
theorem dX6_addData_30 : decode cX6_addData 30 = .ok (.aload_n 0, 1) := by decide +kernel
theorem dX6_addData_31 : decode cX6_addData 31 = .ok (.dup, 1) := by decide +kernel
theorem dX6_addData_32 : decode cX6_addData 32 = .ok (.getfield 78, 3) := by decide +kernel
theorem dX6_addData_35 : decode cX6_addData 35 = .ok (.iconst 1, 1) := by decide +kernel
theorem dX6_addData_36 : decode cX6_addData 36 = .ok (.iadd, 1) := by decide +kernel
theorem dX6_addData_37 : decode cX6_addData 37 = .ok (.putfield 78, 3) := by decide +kernel
theorem dX6_addData_40 : decode cX6_addData 40 = .ok (.aload_n 0, 1) := by decide +kernel
theorem dX6_addData_41 : decode cX6_addData 41 = .ok (.dup, 1) := by decide +kernel
theorem dX6_addData_42 : decode cX6_addData 42 = .ok (.getfield 72, 3) := by decide +kernel
theorem dX6_addData_45 : decode cX6_addData 45 = .ok (.iconst 1, 1) := by decide +kernel
theorem dX6_addData_46 : decode cX6_addData 46 = .ok (.iadd, 1) := by decide +kernel
theorem dX6_addData_47 : decode cX6_addData 47 = .ok (.putfield 72, 3) := by decide +kernel
theorem dX6_addData_50 : decode cX6_addData 50 = .ok (.return_, 1) := by decide +kernel
theorem dX6_dropData_0 : decode cX6_dropData 0 = .ok (.aload_n 0, 1) := by decide +kernel
theorem dX6_dropData_1 : decode cX6_dropData 1 = .ok (.iload_n 1, 1) := by decide +kernel
theorem dX6_dropData_2 : decode cX6_dropData 2 = .ok (.iload_n 2, 1) := by decide +kernel
theorem dX6_dropData_3 : decode cX6_dropData 3 = .ok (.invokevirtual 99, 3) := by decide +kernel
theorem dX6_dropData_6 : decode cX6_dropData 6 = .ok (.istore_n 3, 1) := by decide +kernel
theorem dX6_dropData_7 : decode cX6_dropData 7 = .ok (.iload_n 3, 1) := by decide +kernel
theorem dX6_dropData_8 : decode cX6_dropData 8 = .ok (.ifCond .ge 4, 3) := by decide +kernel
theorem dX6_dropData_11 : decode cX6_dropData 11 = .ok (.return_, 1) := by decide +kernel
theorem dX6_dropData_12 : decode cX6_dropData 12 = .ok (.aload_n 0, 1) := by decide +kernel
theorem dX6_dropData_13 : decode cX6_dropData 13 = .ok (.dup, 1) := by decide +kernel
theorem dX6_dropData_14 : decode cX6_dropData 14 = .ok (.getfield 78, 3) := by decide +kernel
theorem dX6_dropData_17 : decode cX6_dropData 17 = .ok (.iconst 1, 1) := by decide +kernel
theorem dX6_dropData_18 : decode cX6_dropData 18 = .ok (.isub, 1) := by decide +kernel
theorem dX6_dropData_19 : decode cX6_dropData 19 = .ok (.putfield 78, 3) := by decide +kernel
theorem dX6_dropData_22 : decode cX6_dropData 22 = .ok (.aload_n 0, 1) := by decide +kernel
theorem dX6_dropData_23 : decode cX6_dropData 23 = .ok (.getfield 16, 3) := by decide +kernel
theorem dX6_dropData_26 : decode cX6_dropData 26 = .ok (.iload_n 3, 1) := by decide +kernel
theorem dX6_dropData_27 : decode cX6_dropData 27 = .ok (.aload_n 0, 1) := by decide +kernel
theorem dX6_dropData_28 : decode cX6_dropData 28 = .ok (.getfield 16, 3) := by decide +kernel
theorem dX6_dropData_31 : decode cX6_dropData 31 = .ok (.aload_n 0, 1) := by decide +kernel
theorem dX6_dropData_32 : decode cX6_dropData 32 = .ok (.getfield 78, 3) := by decide +kernel
theorem dX6_dropData_35 : decode cX6_dropData 35 = .ok (.iaload, 1) := by decide +kernel
theorem dX6_dropData_36 : decode cX6_dropData 36 = .ok (.iastore, 1) := by decide +kernel
theorem dX6_dropData_37 : decode cX6_dropData 37 = .ok (.aload_n 0, 1) := by decide +kernel
theorem dX6_dropData_38 : decode cX6_dropData 38 = .ok (.getfield 20, 3) := by decide +kernel
theorem dX6_dropData_41 : decode cX6_dropData 41 = .ok (.iload_n 3, 1) := by decide +kernel
theorem dX6_dropData_42 : decode cX6_dropData 42 = .ok (.aload_n 0, 1) := by decide +kernel
theorem dX6_dropData_43 : decode cX6_dropData 43 = .ok (.getfield 20, 3) := by decide +kernel
theorem dX6_dropData_46 : decode cX6_dropData 46 = .ok (.aload_n 0, 1) := by decide +kernel
theorem dX6_dropData_47 : decode cX6_dropData 47 = .ok (.getfield 78, 3) := by decide +kernel
theorem dX6_dropData_50 : decode cX6_dropData 50 = .ok (.iaload, 1) := by decide +kernel
theorem dX6_dropData_51 : decode cX6_dropData 51 = .ok (.iastore, 1) := by decide +kernel
theorem dX6_dropData_52 : decode cX6_dropData 52 = .ok (.aload_n 0, 1) := by decide +kernel
theorem dX6_dropData_53 : decode cX6_dropData 53 = .ok (.getfield 23, 3) := by decide +kernel
theorem dX6_dropData_56 : decode cX6_dropData 56 = .ok (.iload_n 3, 1) := by decide +kernel
theorem dX6_dropData_57 : decode cX6_dropData 57 = .ok (.aload_n 0, 1) := by decide +kernel
theorem dX6_dropData_58 : decode cX6_dropData 58 = .ok (.getfield 23, 3) := by decide +kernel
theorem dX6_dropData_61 : decode cX6_dropData 61 = .ok (.aload_n 0, 1) := by decide +kernel
theorem dX6_dropData_62 : decode cX6_dropData 62 = .ok (.getfield 78, 3) := by decide +kernel
theorem dX6_dropData_65 : decode cX6_dropData 65 = .ok (.iaload, 1) := by decide +kernel
theorem dX6_dropData_66 : decode cX6_dropData 66 = .ok (.iastore, 1) := by decide +kernel
theorem dX6_dropData_67 : decode cX6_dropData 67 = .ok (.aload_n 0, 1) := by decide +kernel
theorem dX6_dropData_68 : decode cX6_dropData 68 = .ok (.dup, 1) := by decide +kernel
theorem dX6_dropData_69 : decode cX6_dropData 69 = .ok (.getfield 72, 3) := by decide +kernel
theorem dX6_dropData_72 : decode cX6_dropData 72 = .ok (.iconst 1, 1) := by decide +kernel
theorem dX6_dropData_73 : decode cX6_dropData 73 = .ok (.iadd, 1) := by decide +kernel
theorem dX6_dropData_74 : decode cX6_dropData 74 = .ok (.putfield 72, 3) := by decide +kernel
theorem dX6_dropData_77 : decode cX6_dropData 77 = .ok (.return_, 1) := by decide +kernel
theorem dX6_addWrite_0 : decode cX6_addWrite 0 = .ok (.aload_n 0, 1) := by decide +kernel
theorem dX6_addWrite_1 : decode cX6_addWrite 1 = .ok (.getfield 26, 3) := by decide +kernel
theorem dX6_addWrite_4 : decode cX6_addWrite 4 = .ok (.aload_n 0, 1) := by decide +kernel
theorem dX6_addWrite_5 : decode cX6_addWrite 5 = .ok (.getfield 81, 3) := by decide +kernel
theorem dX6_addWrite_8 : decode cX6_addWrite 8 = .ok (.iload_n 1, 1) := by decide +kernel
theorem dX6_addWrite_9 : decode cX6_addWrite 9 = .ok (.iastore, 1) := by decide +kernel
theorem dX6_addWrite_10 : decode cX6_addWrite 10 = .ok (.aload_n 0, 1) := by decide +kernel
theorem dX6_addWrite_11 : decode cX6_addWrite 11 = .ok (.getfield 29, 3) := by decide +kernel
theorem dX6_addWrite_14 : decode cX6_addWrite 14 = .ok (.aload_n 0, 1) := by decide +kernel
theorem dX6_addWrite_15 : decode cX6_addWrite 15 = .ok (.getfield 81, 3) := by decide +kernel
theorem dX6_addWrite_18 : decode cX6_addWrite 18 = .ok (.iload_n 2, 1) := by decide +kernel
theorem dX6_addWrite_19 : decode cX6_addWrite 19 = .ok (.iastore, 1) := by decide +kernel
theorem dX6_addWrite_20 : decode cX6_addWrite 20 = .ok (.aload_n 0, 1) := by decide +kernel
theorem dX6_addWrite_21 : decode cX6_addWrite 21 = .ok (.getfield 32, 3) := by decide +kernel
theorem dX6_addWrite_24 : decode cX6_addWrite 24 = .ok (.aload_n 0, 1) := by decide +kernel
theorem dX6_addWrite_25 : decode cX6_addWrite 25 = .ok (.getfield 81, 3) := by decide +kernel
theorem dX6_addWrite_28 : decode cX6_addWrite 28 = .ok (.iload_n 3, 1) := by decide +kernel
theorem dX6_addWrite_29 : decode cX6_addWrite 29 = .ok (.iastore, 1) := by decide +kernel
theorem dX6_addWrite_30 : decode cX6_addWrite 30 = .ok (.aload_n 0, 1) := by decide +kernel
theorem dX6_addWrite_31 : decode cX6_addWrite 31 = .ok (.getfield 35, 3) := by decide +kernel
theorem dX6_addWrite_34 : decode cX6_addWrite 34 = .ok (.aload_n 0, 1) := by decide +kernel
theorem dX6_addWrite_35 : decode cX6_addWrite 35 = .ok (.getfield 81, 3) := by decide +kernel
theorem dX6_addWrite_38 : decode cX6_addWrite 38 = .ok (.iload 4, 2) := by decide +kernel
theorem dX6_addWrite_40 : decode cX6_addWrite 40 = .ok (.bastore, 1) := by decide +kernel
theorem dX6_addWrite_41 : decode cX6_addWrite 41 = .ok (.aload_n 0, 1) := by decide +kernel
theorem dX6_addWrite_42 : decode cX6_addWrite 42 = .ok (.dup, 1) := by decide +kernel
theorem dX6_addWrite_43 : decode cX6_addWrite 43 = .ok (.getfield 81, 3) := by decide +kernel
theorem dX6_addWrite_46 : decode cX6_addWrite 46 = .ok (.iconst 1, 1) := by decide +kernel
theorem dX6_addWrite_47 : decode cX6_addWrite 47 = .ok (.iadd, 1) := by decide +kernel
theorem dX6_addWrite_48 : decode cX6_addWrite 48 = .ok (.putfield 81, 3) := by decide +kernel
theorem dX6_addWrite_51 : decode cX6_addWrite 51 = .ok (.aload_n 0, 1) := by decide +kernel
theorem dX6_addWrite_52 : decode cX6_addWrite 52 = .ok (.dup, 1) := by decide +kernel
theorem dX6_addWrite_53 : decode cX6_addWrite 53 = .ok (.getfield 72, 3) := by decide +kernel
theorem dX6_addWrite_56 : decode cX6_addWrite 56 = .ok (.iconst 1, 1) := by decide +kernel
theorem dX6_addWrite_57 : decode cX6_addWrite 57 = .ok (.iadd, 1) := by decide +kernel
theorem dX6_addWrite_58 : decode cX6_addWrite 58 = .ok (.putfield 72, 3) := by decide +kernel
theorem dX6_addWrite_61 : decode cX6_addWrite 61 = .ok (.return_, 1) := by decide +kernel
theorem dX6_dropWrite_0 : decode cX6_dropWrite 0 = .ok (.aload_n 0, 1) := by decide +kernel
theorem dX6_dropWrite_1 : decode cX6_dropWrite 1 = .ok (.dup, 1) := by decide +kernel
theorem dX6_dropWrite_2 : decode cX6_dropWrite 2 = .ok (.getfield 81, 3) := by decide +kernel
theorem dX6_dropWrite_5 : decode cX6_dropWrite 5 = .ok (.iconst 1, 1) := by decide +kernel
theorem dX6_dropWrite_6 : decode cX6_dropWrite 6 = .ok (.isub, 1) := by decide +kernel
theorem dX6_dropWrite_7 : decode cX6_dropWrite 7 = .ok (.putfield 81, 3) := by decide +kernel
theorem dX6_dropWrite_10 : decode cX6_dropWrite 10 = .ok (.aload_n 0, 1) := by decide +kernel
theorem dX6_dropWrite_11 : decode cX6_dropWrite 11 = .ok (.getfield 26, 3) := by decide +kernel
theorem dX6_dropWrite_14 : decode cX6_dropWrite 14 = .ok (.iload_n 1, 1) := by decide +kernel
theorem dX6_dropWrite_15 : decode cX6_dropWrite 15 = .ok (.aload_n 0, 1) := by decide +kernel
theorem dX6_dropWrite_16 : decode cX6_dropWrite 16 = .ok (.getfield 26, 3) := by decide +kernel
theorem dX6_dropWrite_19 : decode cX6_dropWrite 19 = .ok (.aload_n 0, 1) := by decide +kernel
theorem dX6_dropWrite_20 : decode cX6_dropWrite 20 = .ok (.getfield 81, 3) := by decide +kernel
theorem dX6_dropWrite_23 : decode cX6_dropWrite 23 = .ok (.iaload, 1) := by decide +kernel
theorem dX6_dropWrite_24 : decode cX6_dropWrite 24 = .ok (.iastore, 1) := by decide +kernel
theorem dX6_dropWrite_25 : decode cX6_dropWrite 25 = .ok (.aload_n 0, 1) := by decide +kernel
theorem dX6_dropWrite_26 : decode cX6_dropWrite 26 = .ok (.getfield 29, 3) := by decide +kernel
theorem dX6_dropWrite_29 : decode cX6_dropWrite 29 = .ok (.iload_n 1, 1) := by decide +kernel
theorem dX6_dropWrite_30 : decode cX6_dropWrite 30 = .ok (.aload_n 0, 1) := by decide +kernel
theorem dX6_dropWrite_31 : decode cX6_dropWrite 31 = .ok (.getfield 29, 3) := by decide +kernel
theorem dX6_dropWrite_34 : decode cX6_dropWrite 34 = .ok (.aload_n 0, 1) := by decide +kernel
theorem dX6_dropWrite_35 : decode cX6_dropWrite 35 = .ok (.getfield 81, 3) := by decide +kernel
theorem dX6_dropWrite_38 : decode cX6_dropWrite 38 = .ok (.iaload, 1) := by decide +kernel
theorem dX6_dropWrite_39 : decode cX6_dropWrite 39 = .ok (.iastore, 1) := by decide +kernel
theorem dX6_dropWrite_40 : decode cX6_dropWrite 40 = .ok (.aload_n 0, 1) := by decide +kernel
theorem dX6_dropWrite_41 : decode cX6_dropWrite 41 = .ok (.getfield 32, 3) := by decide +kernel
theorem dX6_dropWrite_44 : decode cX6_dropWrite 44 = .ok (.iload_n 1, 1) := by decide +kernel
theorem dX6_dropWrite_45 : decode cX6_dropWrite 45 = .ok (.aload_n 0, 1) := by decide +kernel
theorem dX6_dropWrite_46 : decode cX6_dropWrite 46 = .ok (.getfield 32, 3) := by decide +kernel
theorem dX6_dropWrite_49 : decode cX6_dropWrite 49 = .ok (.aload_n 0, 1) := by decide +kernel
theorem dX6_dropWrite_50 : decode cX6_dropWrite 50 = .ok (.getfield 81, 3) := by decide +kernel
theorem dX6_dropWrite_53 : decode cX6_dropWrite 53 = .ok (.iaload, 1) := by decide +kernel
theorem dX6_dropWrite_54 : decode cX6_dropWrite 54 = .ok (.iastore, 1) := by decide +kernel
theorem dX6_dropWrite_55 : decode cX6_dropWrite 55 = .ok (.aload_n 0, 1) := by decide +kernel
theorem dX6_dropWrite_56 : decode cX6_dropWrite 56 = .ok (.getfield 35, 3) := by decide +kernel
theorem dX6_dropWrite_59 : decode cX6_dropWrite 59 = .ok (.iload_n 1, 1) := by decide +kernel
theorem dX6_dropWrite_60 : decode cX6_dropWrite 60 = .ok (.aload_n 0, 1) := by decide +kernel
theorem dX6_dropWrite_61 : decode cX6_dropWrite 61 = .ok (.getfield 35, 3) := by decide +kernel
theorem dX6_dropWrite_64 : decode cX6_dropWrite 64 = .ok (.aload_n 0, 1) := by decide +kernel
theorem dX6_dropWrite_65 : decode cX6_dropWrite 65 = .ok (.getfield 81, 3) := by decide +kernel
theorem dX6_dropWrite_68 : decode cX6_dropWrite 68 = .ok (.baload, 1) := by decide +kernel
theorem dX6_dropWrite_69 : decode cX6_dropWrite 69 = .ok (.bastore, 1) := by decide +kernel
theorem dX6_dropWrite_70 : decode cX6_dropWrite 70 = .ok (.aload_n 0, 1) := by decide +kernel
theorem dX6_dropWrite_71 : decode cX6_dropWrite 71 = .ok (.dup, 1) := by decide +kernel
theorem dX6_dropWrite_72 : decode cX6_dropWrite 72 = .ok (.getfield 72, 3) := by decide +kernel
theorem dX6_dropWrite_75 : decode cX6_dropWrite 75 = .ok (.iconst 1, 1) := by decide +kernel
theorem dX6_dropWrite_76 : decode cX6_dropWrite 76 = .ok (.iadd, 1) := by decide +kernel
theorem dX6_dropWrite_77 : decode cX6_dropWrite 77 = .ok (.putfield 72, 3) := by decide +kernel
theorem dX6_dropWrite_80 : decode cX6_dropWrite 80 = .ok (.return_, 1) := by decide +kernel
theorem dX6_addLock_0 : decode cX6_addLock 0 = .ok (.aload_n 0, 1) := by decide +kernel
theorem dX6_addLock_1 : decode cX6_addLock 1 = .ok (.getfield 39, 3) := by decide +kernel
theorem dX6_addLock_4 : decode cX6_addLock 4 = .ok (.iload_n 1, 1) := by decide +kernel
theorem dX6_addLock_5 : decode cX6_addLock 5 = .ok (.iload_n 2, 1) := by decide +kernel
theorem dX6_addLock_6 : decode cX6_addLock 6 = .ok (.iastore, 1) := by decide +kernel
theorem dX6_addLock_7 : decode cX6_addLock 7 = .ok (.aload_n 0, 1) := by decide +kernel
theorem dX6_addLock_8 : decode cX6_addLock 8 = .ok (.getfield 42, 3) := by decide +kernel
theorem dX6_addLock_11 : decode cX6_addLock 11 = .ok (.iload_n 1, 1) := by decide +kernel
theorem dX6_addLock_12 : decode cX6_addLock 12 = .ok (.iload_n 3, 1) := by decide +kernel
theorem dX6_addLock_13 : decode cX6_addLock 13 = .ok (.iastore, 1) := by decide +kernel
theorem dX6_addLock_14 : decode cX6_addLock 14 = .ok (.aload_n 0, 1) := by decide +kernel
theorem dX6_addLock_15 : decode cX6_addLock 15 = .ok (.getfield 45, 3) := by decide +kernel
theorem dX6_addLock_18 : decode cX6_addLock 18 = .ok (.iload_n 1, 1) := by decide +kernel
theorem dX6_addLock_19 : decode cX6_addLock 19 = .ok (.aload_n 0, 1) := by decide +kernel
theorem dX6_addLock_20 : decode cX6_addLock 20 = .ok (.getfield 103, 3) := by decide +kernel
theorem dX6_addLock_23 : decode cX6_addLock 23 = .ok (.iastore, 1) := by decide +kernel
theorem dX6_addLock_24 : decode cX6_addLock 24 = .ok (.aload_n 0, 1) := by decide +kernel
theorem dX6_addLock_25 : decode cX6_addLock 25 = .ok (.dup, 1) := by decide +kernel
theorem dX6_addLock_26 : decode cX6_addLock 26 = .ok (.getfield 84, 3) := by decide +kernel
theorem dX6_addLock_29 : decode cX6_addLock 29 = .ok (.iconst 1, 1) := by decide +kernel
theorem dX6_addLock_30 : decode cX6_addLock 30 = .ok (.iadd, 1) := by decide +kernel
theorem dX6_addLock_31 : decode cX6_addLock 31 = .ok (.putfield 84, 3) := by decide +kernel
theorem dX6_addLock_34 : decode cX6_addLock 34 = .ok (.aload_n 0, 1) := by decide +kernel
theorem dX6_addLock_35 : decode cX6_addLock 35 = .ok (.dup, 1) := by decide +kernel
theorem dX6_addLock_36 : decode cX6_addLock 36 = .ok (.getfield 72, 3) := by decide +kernel
theorem dX6_addLock_39 : decode cX6_addLock 39 = .ok (.iconst 1, 1) := by decide +kernel
theorem dX6_addLock_40 : decode cX6_addLock 40 = .ok (.iadd, 1) := by decide +kernel
theorem dX6_addLock_41 : decode cX6_addLock 41 = .ok (.putfield 72, 3) := by decide +kernel
theorem dX6_addLock_44 : decode cX6_addLock 44 = .ok (.return_, 1) := by decide +kernel
theorem dX6_dropLock_0 : decode cX6_dropLock 0 = .ok (.aload_n 0, 1) := by decide +kernel
theorem dX6_dropLock_1 : decode cX6_dropLock 1 = .ok (.getfield 39, 3) := by decide +kernel
theorem dX6_dropLock_4 : decode cX6_dropLock 4 = .ok (.iload_n 1, 1) := by decide +kernel
theorem dX6_dropLock_5 : decode cX6_dropLock 5 = .ok (.iconst 0, 1) := by decide +kernel
theorem dX6_dropLock_6 : decode cX6_dropLock 6 = .ok (.iastore, 1) := by decide +kernel
theorem dX6_dropLock_7 : decode cX6_dropLock 7 = .ok (.aload_n 0, 1) := by decide +kernel
theorem dX6_dropLock_8 : decode cX6_dropLock 8 = .ok (.dup, 1) := by decide +kernel
theorem dX6_dropLock_9 : decode cX6_dropLock 9 = .ok (.getfield 84, 3) := by decide +kernel
theorem dX6_dropLock_12 : decode cX6_dropLock 12 = .ok (.iconst 1, 1) := by decide +kernel
theorem dX6_dropLock_13 : decode cX6_dropLock 13 = .ok (.isub, 1) := by decide +kernel
theorem dX6_dropLock_14 : decode cX6_dropLock 14 = .ok (.putfield 84, 3) := by decide +kernel
theorem dX6_dropLock_17 : decode cX6_dropLock 17 = .ok (.aload_n 0, 1) := by decide +kernel
theorem dX6_dropLock_18 : decode cX6_dropLock 18 = .ok (.dup, 1) := by decide +kernel
theorem dX6_dropLock_19 : decode cX6_dropLock 19 = .ok (.getfield 72, 3) := by decide +kernel
theorem dX6_dropLock_22 : decode cX6_dropLock 22 = .ok (.iconst 1, 1) := by decide +kernel
theorem dX6_dropLock_23 : decode cX6_dropLock 23 = .ok (.iadd, 1) := by decide +kernel
theorem dX6_dropLock_24 : decode cX6_dropLock 24 = .ok (.putfield 72, 3) := by decide +kernel
theorem dX6_dropLock_27 : decode cX6_dropLock 27 = .ok (.return_, 1) := by decide +kernel
theorem dX6_isLate_0 : decode cX6_isLate 0 = .ok (.iconst 0, 1) := by decide +kernel
theorem dX6_isLate_1 : decode cX6_isLate 1 = .ok (.istore_n 2, 1) := by decide +kernel
theorem dX6_isLate_2 : decode cX6_isLate 2 = .ok (.iload_n 2, 1) := by decide +kernel
theorem dX6_isLate_3 : decode cX6_isLate 3 = .ok (.bipush 8, 2) := by decide +kernel
theorem dX6_isLate_5 : decode cX6_isLate 5 = .ok (.if_icmp .ge 57, 3) := by decide +kernel
theorem dX6_isLate_8 : decode cX6_isLate 8 = .ok (.aload_n 0, 1) := by decide +kernel
theorem dX6_isLate_9 : decode cX6_isLate 9 = .ok (.getfield 48, 3) := by decide +kernel
theorem dX6_isLate_12 : decode cX6_isLate 12 = .ok (.iload_n 2, 1) := by decide +kernel
theorem dX6_isLate_13 : decode cX6_isLate 13 = .ok (.iaload, 1) := by decide +kernel
theorem dX6_isLate_14 : decode cX6_isLate 14 = .ok (.ifCond .le 42, 3) := by decide +kernel
theorem dX6_isLate_17 : decode cX6_isLate 17 = .ok (.aload_n 0, 1) := by decide +kernel
theorem dX6_isLate_18 : decode cX6_isLate 18 = .ok (.getfield 51, 3) := by decide +kernel
theorem dX6_isLate_21 : decode cX6_isLate 21 = .ok (.iload_n 2, 1) := by decide +kernel
theorem dX6_isLate_22 : decode cX6_isLate 22 = .ok (.iaload, 1) := by decide +kernel
theorem dX6_isLate_23 : decode cX6_isLate 23 = .ok (.aload_n 0, 1) := by decide +kernel
theorem dX6_isLate_24 : decode cX6_isLate 24 = .ok (.getfield 39, 3) := by decide +kernel
theorem dX6_isLate_27 : decode cX6_isLate 27 = .ok (.iload_n 1, 1) := by decide +kernel
theorem dX6_isLate_28 : decode cX6_isLate 28 = .ok (.iaload, 1) := by decide +kernel
theorem dX6_isLate_29 : decode cX6_isLate 29 = .ok (.if_icmp .ne 27, 3) := by decide +kernel
theorem dX6_isLate_32 : decode cX6_isLate 32 = .ok (.aload_n 0, 1) := by decide +kernel
theorem dX6_isLate_33 : decode cX6_isLate 33 = .ok (.getfield 103, 3) := by decide +kernel
theorem dX6_isLate_36 : decode cX6_isLate 36 = .ok (.aload_n 0, 1) := by decide +kernel
theorem dX6_isLate_37 : decode cX6_isLate 37 = .ok (.getfield 54, 3) := by decide +kernel
theorem dX6_isLate_40 : decode cX6_isLate 40 = .ok (.iload_n 2, 1) := by decide +kernel
theorem dX6_isLate_41 : decode cX6_isLate 41 = .ok (.iaload, 1) := by decide +kernel
theorem dX6_isLate_42 : decode cX6_isLate 42 = .ok (.isub, 1) := by decide +kernel
theorem dX6_isLate_43 : decode cX6_isLate 43 = .ok (.aload_n 0, 1) := by decide +kernel
theorem dX6_isLate_44 : decode cX6_isLate 44 = .ok (.getfield 7, 3) := by decide +kernel
theorem dX6_isLate_47 : decode cX6_isLate 47 = .ok (.if_icmp .le 7, 3) := by decide +kernel
theorem dX6_isLate_50 : decode cX6_isLate 50 = .ok (.iconst 1, 1) := by decide +kernel
theorem dX6_isLate_51 : decode cX6_isLate 51 = .ok (.goto 4, 3) := by decide +kernel
theorem dX6_isLate_54 : decode cX6_isLate 54 = .ok (.iconst 0, 1) := by decide +kernel
theorem dX6_isLate_55 : decode cX6_isLate 55 = .ok (.ireturn, 1) := by decide +kernel
theorem dX6_isLate_56 : decode cX6_isLate 56 = .ok (.iinc 2 1, 3) := by decide +kernel
theorem dX6_isLate_59 : decode cX6_isLate 59 = .ok (.goto (-57), 3) := by decide +kernel
theorem dX6_isLate_62 : decode cX6_isLate 62 = .ok (.aload_n 0, 1) := by decide +kernel
theorem dX6_isLate_63 : decode cX6_isLate 63 = .ok (.getfield 103, 3) := by decide +kernel
theorem dX6_isLate_66 : decode cX6_isLate 66 = .ok (.aload_n 0, 1) := by decide +kernel
theorem dX6_isLate_67 : decode cX6_isLate 67 = .ok (.getfield 45, 3) := by decide +kernel
theorem dX6_isLate_70 : decode cX6_isLate 70 = .ok (.iload_n 1, 1) := by decide +kernel
theorem dX6_isLate_71 : decode cX6_isLate 71 = .ok (.iaload, 1) := by decide +kernel
theorem dX6_isLate_72 : decode cX6_isLate 72 = .ok (.isub, 1) := by decide +kernel
theorem dX6_isLate_73 : decode cX6_isLate 73 = .ok (.aload_n 0, 1) := by decide +kernel
theorem dX6_isLate_74 : decode cX6_isLate 74 = .ok (.getfield 7, 3) := by decide +kernel
theorem dX6_isLate_77 : decode cX6_isLate 77 = .ok (.if_icmp .le 7, 3) := by decide +kernel
theorem dX6_isLate_80 : decode cX6_isLate 80 = .ok (.iconst 1, 1) := by decide +kernel
theorem dX6_isLate_81 : decode cX6_isLate 81 = .ok (.goto 4, 3) := by decide +kernel
theorem dX6_isLate_84 : decode cX6_isLate 84 = .ok (.iconst 0, 1) := by decide +kernel
theorem dX6_isLate_85 : decode cX6_isLate 85 = .ok (.ireturn, 1) := by decide +kernel
theorem dX6_isDecided_0 : decode cX6_isDecided 0 = .ok (.aload_n 0, 1) := by decide +kernel
theorem dX6_isDecided_1 : decode cX6_isDecided 1 = .ok (.getfield 39, 3) := by decide +kernel
theorem dX6_isDecided_4 : decode cX6_isDecided 4 = .ok (.aload_n 0, 1) := by decide +kernel
theorem dX6_isDecided_5 : decode cX6_isDecided 5 = .ok (.getfield 42, 3) := by decide +kernel
theorem dX6_isDecided_8 : decode cX6_isDecided 8 = .ok (.iload_n 1, 1) := by decide +kernel
theorem dX6_isDecided_9 : decode cX6_isDecided 9 = .ok (.iaload, 1) := by decide +kernel
theorem dX6_isDecided_10 : decode cX6_isDecided 10 = .ok (.iaload, 1) := by decide +kernel
theorem dX6_isDecided_11 : decode cX6_isDecided 11 = .ok (.aload_n 0, 1) := by decide +kernel
theorem dX6_isDecided_12 : decode cX6_isDecided 12 = .ok (.getfield 39, 3) := by decide +kernel
theorem dX6_isDecided_15 : decode cX6_isDecided 15 = .ok (.iload_n 1, 1) := by decide +kernel
theorem dX6_isDecided_16 : decode cX6_isDecided 16 = .ok (.iaload, 1) := by decide +kernel
theorem dX6_isDecided_17 : decode cX6_isDecided 17 = .ok (.if_icmp .eq 7, 3) := by decide +kernel
theorem dX6_isDecided_20 : decode cX6_isDecided 20 = .ok (.iconst 1, 1) := by decide +kernel
theorem dX6_isDecided_21 : decode cX6_isDecided 21 = .ok (.goto 4, 3) := by decide +kernel
theorem dX6_isDecided_24 : decode cX6_isDecided 24 = .ok (.iconst 0, 1) := by decide +kernel
theorem dX6_isDecided_25 : decode cX6_isDecided 25 = .ok (.ireturn, 1) := by decide +kernel
theorem dX6_clean_0 : decode cX6_clean 0 = .ok (.aload_n 0, 1) := by decide +kernel
theorem dX6_clean_1 : decode cX6_clean 1 = .ok (.getfield 39, 3) := by decide +kernel
theorem dX6_clean_4 : decode cX6_clean 4 = .ok (.iload_n 1, 1) := by decide +kernel
theorem dX6_clean_5 : decode cX6_clean 5 = .ok (.iaload, 1) := by decide +kernel
theorem dX6_clean_6 : decode cX6_clean 6 = .ok (.istore_n 2, 1) := by decide +kernel
theorem dX6_clean_7 : decode cX6_clean 7 = .ok (.aload_n 0, 1) := by decide +kernel
theorem dX6_clean_8 : decode cX6_clean 8 = .ok (.getfield 42, 3) := by decide +kernel
theorem dX6_clean_11 : decode cX6_clean 11 = .ok (.iload_n 1, 1) := by decide +kernel
theorem dX6_clean_12 : decode cX6_clean 12 = .ok (.iaload, 1) := by decide +kernel
theorem dX6_clean_13 : decode cX6_clean 13 = .ok (.istore_n 3, 1) := by decide +kernel
theorem dX6_clean_14 : decode cX6_clean 14 = .ok (.aload_n 0, 1) := by decide +kernel
theorem dX6_clean_15 : decode cX6_clean 15 = .ok (.dup, 1) := by decide +kernel
theorem dX6_clean_16 : decode cX6_clean 16 = .ok (.getfield 106, 3) := by decide +kernel
theorem dX6_clean_19 : decode cX6_clean 19 = .ok (.iconst 1, 1) := by decide +kernel
theorem dX6_clean_20 : decode cX6_clean 20 = .ok (.iadd, 1) := by decide +kernel
theorem dX6_clean_21 : decode cX6_clean 21 = .ok (.putfield 106, 3) := by decide +kernel
theorem dX6_clean_24 : decode cX6_clean 24 = .ok (.aload_n 0, 1) := by decide +kernel
theorem dX6_clean_25 : decode cX6_clean 25 = .ok (.getfield 39, 3) := by decide +kernel
theorem dX6_clean_28 : decode cX6_clean 28 = .ok (.iload_n 3, 1) := by decide +kernel
theorem dX6_clean_29 : decode cX6_clean 29 = .ok (.iaload, 1) := by decide +kernel
theorem dX6_clean_30 : decode cX6_clean 30 = .ok (.iload_n 2, 1) := by decide +kernel
theorem dX6_clean_31 : decode cX6_clean 31 = .ok (.if_icmp .ne 23, 3) := by decide +kernel
theorem dX6_clean_34 : decode cX6_clean 34 = .ok (.aload_n 0, 1) := by decide +kernel
theorem dX6_clean_35 : decode cX6_clean 35 = .ok (.iload_n 3, 1) := by decide +kernel
theorem dX6_clean_36 : decode cX6_clean 36 = .ok (.invokevirtual 109, 3) := by decide +kernel
theorem dX6_clean_39 : decode cX6_clean 39 = .ok (.aload_n 0, 1) := by decide +kernel
theorem dX6_clean_40 : decode cX6_clean 40 = .ok (.iload_n 3, 1) := by decide +kernel
theorem dX6_clean_41 : decode cX6_clean 41 = .ok (.iload_n 2, 1) := by decide +kernel
theorem dX6_clean_42 : decode cX6_clean 42 = .ok (.invokevirtual 113, 3) := by decide +kernel
theorem dX6_clean_45 : decode cX6_clean 45 = .ok (.aload_n 0, 1) := by decide +kernel
theorem dX6_clean_46 : decode cX6_clean 46 = .ok (.iload_n 3, 1) := by decide +kernel
theorem dX6_clean_47 : decode cX6_clean 47 = .ok (.iload_n 2, 1) := by decide +kernel
theorem dX6_clean_48 : decode cX6_clean 48 = .ok (.iload_n 2, 1) := by decide +kernel
theorem dX6_clean_49 : decode cX6_clean 49 = .ok (.iconst 1, 1) := by decide +kernel
theorem dX6_clean_50 : decode cX6_clean 50 = .ok (.invokevirtual 117, 3) := by decide +kernel
theorem dX6_clean_53 : decode cX6_clean 53 = .ok (.return_, 1) := by decide +kernel
theorem dX6_clean_54 : decode cX6_clean 54 = .ok (.iconst 0, 1) := by decide +kernel
theorem dX6_clean_55 : decode cX6_clean 55 = .ok (.istore 4, 2) := by decide +kernel
theorem dX6_clean_57 : decode cX6_clean 57 = .ok (.iload 4, 2) := by decide +kernel
theorem dX6_clean_59 : decode cX6_clean 59 = .ok (.aload_n 0, 1) := by decide +kernel
theorem dX6_clean_60 : decode cX6_clean 60 = .ok (.getfield 81, 3) := by decide +kernel
theorem dX6_clean_63 : decode cX6_clean 63 = .ok (.if_icmp .ge 61, 3) := by decide +kernel
theorem dX6_clean_66 : decode cX6_clean 66 = .ok (.aload_n 0, 1) := by decide +kernel
theorem dX6_clean_67 : decode cX6_clean 67 = .ok (.getfield 26, 3) := by decide +kernel
theorem dX6_clean_70 : decode cX6_clean 70 = .ok (.iload 4, 2) := by decide +kernel
theorem dX6_clean_72 : decode cX6_clean 72 = .ok (.iaload, 1) := by decide +kernel
theorem dX6_clean_73 : decode cX6_clean 73 = .ok (.iload_n 3, 1) := by decide +kernel
theorem dX6_clean_74 : decode cX6_clean 74 = .ok (.if_icmp .ne 44, 3) := by decide +kernel
theorem dX6_clean_77 : decode cX6_clean 77 = .ok (.aload_n 0, 1) := by decide +kernel
theorem dX6_clean_78 : decode cX6_clean 78 = .ok (.getfield 35, 3) := by decide +kernel
theorem dX6_clean_81 : decode cX6_clean 81 = .ok (.iload 4, 2) := by decide +kernel
theorem dX6_clean_83 : decode cX6_clean 83 = .ok (.baload, 1) := by decide +kernel
theorem dX6_clean_84 : decode cX6_clean 84 = .ok (.ifCond .ne 34, 3) := by decide +kernel
theorem dX6_clean_87 : decode cX6_clean 87 = .ok (.aload_n 0, 1) := by decide +kernel
theorem dX6_clean_88 : decode cX6_clean 88 = .ok (.getfield 32, 3) := by decide +kernel
theorem dX6_clean_91 : decode cX6_clean 91 = .ok (.iload 4, 2) := by decide +kernel
theorem dX6_clean_93 : decode cX6_clean 93 = .ok (.iaload, 1) := by decide +kernel
theorem dX6_clean_94 : decode cX6_clean 94 = .ok (.iload_n 2, 1) := by decide +kernel
theorem dX6_clean_95 : decode cX6_clean 95 = .ok (.if_icmp .ne 23, 3) := by decide +kernel
theorem dX6_clean_98 : decode cX6_clean 98 = .ok (.aload_n 0, 1) := by decide +kernel
theorem dX6_clean_99 : decode cX6_clean 99 = .ok (.iload_n 1, 1) := by decide +kernel
theorem dX6_clean_100 : decode cX6_clean 100 = .ok (.aload_n 0, 1) := by decide +kernel
theorem dX6_clean_101 : decode cX6_clean 101 = .ok (.getfield 29, 3) := by decide +kernel
theorem dX6_clean_104 : decode cX6_clean 104 = .ok (.iload 4, 2) := by decide +kernel
theorem dX6_clean_106 : decode cX6_clean 106 = .ok (.iaload, 1) := by decide +kernel
theorem dX6_clean_107 : decode cX6_clean 107 = .ok (.iload_n 2, 1) := by decide +kernel
theorem dX6_clean_108 : decode cX6_clean 108 = .ok (.iconst 0, 1) := by decide +kernel
theorem dX6_clean_109 : decode cX6_clean 109 = .ok (.invokevirtual 117, 3) := by decide +kernel
theorem dX6_clean_112 : decode cX6_clean 112 = .ok (.aload_n 0, 1) := by decide +kernel
theorem dX6_clean_113 : decode cX6_clean 113 = .ok (.iload_n 1, 1) := by decide +kernel
theorem dX6_clean_114 : decode cX6_clean 114 = .ok (.invokevirtual 109, 3) := by decide +kernel
theorem dX6_clean_117 : decode cX6_clean 117 = .ok (.return_, 1) := by decide +kernel
theorem dX6_clean_118 : decode cX6_clean 118 = .ok (.iinc 4 1, 3) := by decide +kernel
theorem dX6_clean_121 : decode cX6_clean 121 = .ok (.goto (-64), 3) := by decide +kernel
theorem dX6_clean_124 : decode cX6_clean 124 = .ok (.aload_n 0, 1) := by decide +kernel
theorem dX6_clean_125 : decode cX6_clean 125 = .ok (.iload_n 1, 1) := by decide +kernel
theorem dX6_clean_126 : decode cX6_clean 126 = .ok (.invokevirtual 109, 3) := by decide +kernel
theorem dX6_clean_129 : decode cX6_clean 129 = .ok (.aload_n 0, 1) := by decide +kernel
theorem dX6_clean_130 : decode cX6_clean 130 = .ok (.iload_n 1, 1) := by decide +kernel
theorem dX6_clean_131 : decode cX6_clean 131 = .ok (.iload_n 2, 1) := by decide +kernel
theorem dX6_clean_132 : decode cX6_clean 132 = .ok (.invokevirtual 113, 3) := by decide +kernel
theorem dX6_clean_135 : decode cX6_clean 135 = .ok (.return_, 1) := by decide +kernel
theorem dX6_ownAt_0 : decode cX6_ownAt 0 = .ok (.iconst 0, 1) := by decide +kernel
theorem dX6_ownAt_1 : decode cX6_ownAt 1 = .ok (.istore_n 3, 1) := by decide +kernel
theorem dX6_ownAt_2 : decode cX6_ownAt 2 = .ok (.iload_n 3, 1) := by decide +kernel
theorem dX6_ownAt_3 : decode cX6_ownAt 3 = .ok (.aload_n 0, 1) := by decide +kernel
theorem dX6_ownAt_4 : decode cX6_ownAt 4 = .ok (.getfield 57, 3) := by decide +kernel
theorem dX6_ownAt_7 : decode cX6_ownAt 7 = .ok (.iload_n 1, 1) := by decide +kernel
theorem dX6_ownAt_8 : decode cX6_ownAt 8 = .ok (.iaload, 1) := by decide +kernel
theorem dX6_ownAt_9 : decode cX6_ownAt 9 = .ok (.if_icmp .ge 26, 3) := by decide +kernel
theorem dX6_ownAt_12 : decode cX6_ownAt 12 = .ok (.aload_n 0, 1) := by decide +kernel
theorem dX6_ownAt_13 : decode cX6_ownAt 13 = .ok (.getfield 60, 3) := by decide +kernel
theorem dX6_ownAt_16 : decode cX6_ownAt 16 = .ok (.bipush 16, 2) := by decide +kernel
theorem dX6_ownAt_18 : decode cX6_ownAt 18 = .ok (.iload_n 1, 1) := by decide +kernel
theorem dX6_ownAt_19 : decode cX6_ownAt 19 = .ok (.imul, 1) := by decide +kernel
theorem dX6_ownAt_20 : decode cX6_ownAt 20 = .ok (.iload_n 3, 1) := by decide +kernel
theorem dX6_ownAt_21 : decode cX6_ownAt 21 = .ok (.iadd, 1) := by decide +kernel
theorem dX6_ownAt_22 : decode cX6_ownAt 22 = .ok (.iaload, 1) := by decide +kernel
theorem dX6_ownAt_23 : decode cX6_ownAt 23 = .ok (.iload_n 2, 1) := by decide +kernel
theorem dX6_ownAt_24 : decode cX6_ownAt 24 = .ok (.if_icmp .ne 5, 3) := by decide +kernel
theorem dX6_ownAt_27 : decode cX6_ownAt 27 = .ok (.iload_n 3, 1) := by decide +kernel
theorem dX6_ownAt_28 : decode cX6_ownAt 28 = .ok (.ireturn, 1) := by decide +kernel
theorem dX6_ownAt_29 : decode cX6_ownAt 29 = .ok (.iinc 3 1, 3) := by decide +kernel
theorem dX6_ownAt_32 : decode cX6_ownAt 32 = .ok (.goto (-30), 3) := by decide +kernel
theorem dX6_ownAt_35 : decode cX6_ownAt 35 = .ok (.iconst (-1), 1) := by decide +kernel
theorem dX6_ownAt_36 : decode cX6_ownAt 36 = .ok (.ireturn, 1) := by decide +kernel
theorem dX6_see_0 : decode cX6_see 0 = .ok (.aload_n 0, 1) := by decide +kernel
theorem dX6_see_1 : decode cX6_see 1 = .ok (.iload_n 1, 1) := by decide +kernel
theorem dX6_see_2 : decode cX6_see 2 = .ok (.iload_n 2, 1) := by decide +kernel
theorem dX6_see_3 : decode cX6_see 3 = .ok (.invokevirtual 121, 3) := by decide +kernel
theorem dX6_see_6 : decode cX6_see 6 = .ok (.istore_n 3, 1) := by decide +kernel
theorem dX6_see_7 : decode cX6_see 7 = .ok (.iload_n 3, 1) := by decide +kernel
theorem dX6_see_8 : decode cX6_see 8 = .ok (.ifCond .lt 34, 3) := by decide +kernel
theorem dX6_see_11 : decode cX6_see 11 = .ok (.aload_n 0, 1) := by decide +kernel
theorem dX6_see_12 : decode cX6_see 12 = .ok (.getfield 63, 3) := by decide +kernel
theorem dX6_see_15 : decode cX6_see 15 = .ok (.bipush 16, 2) := by decide +kernel
theorem dX6_see_17 : decode cX6_see 17 = .ok (.iload_n 1, 1) := by decide +kernel
theorem dX6_see_18 : decode cX6_see 18 = .ok (.imul, 1) := by decide +kernel
theorem dX6_see_19 : decode cX6_see 19 = .ok (.iload_n 3, 1) := by decide +kernel
theorem dX6_see_20 : decode cX6_see 20 = .ok (.iadd, 1) := by decide +kernel
theorem dX6_see_21 : decode cX6_see 21 = .ok (.iaload, 1) := by decide +kernel
theorem dX6_see_22 : decode cX6_see 22 = .ok (.ifCond .ge 8, 3) := by decide +kernel
theorem dX6_see_25 : decode cX6_see 25 = .ok (.bipush (-7), 2) := by decide +kernel
theorem dX6_see_27 : decode cX6_see 27 = .ok (.goto 14, 3) := by decide +kernel
theorem dX6_see_30 : decode cX6_see 30 = .ok (.aload_n 0, 1) := by decide +kernel
theorem dX6_see_31 : decode cX6_see 31 = .ok (.getfield 63, 3) := by decide +kernel
theorem dX6_see_34 : decode cX6_see 34 = .ok (.bipush 16, 2) := by decide +kernel
theorem dX6_see_36 : decode cX6_see 36 = .ok (.iload_n 1, 1) := by decide +kernel
theorem dX6_see_37 : decode cX6_see 37 = .ok (.imul, 1) := by decide +kernel
theorem dX6_see_38 : decode cX6_see 38 = .ok (.iload_n 3, 1) := by decide +kernel
theorem dX6_see_39 : decode cX6_see 39 = .ok (.iadd, 1) := by decide +kernel
theorem dX6_see_40 : decode cX6_see 40 = .ok (.iaload, 1) := by decide +kernel
theorem dX6_see_41 : decode cX6_see 41 = .ok (.ireturn, 1) := by decide +kernel
theorem dX6_see_42 : decode cX6_see 42 = .ok (.aload_n 0, 1) := by decide +kernel
theorem dX6_see_43 : decode cX6_see 43 = .ok (.getfield 39, 3) := by decide +kernel
theorem dX6_see_46 : decode cX6_see 46 = .ok (.iload_n 2, 1) := by decide +kernel
theorem dX6_see_47 : decode cX6_see 47 = .ok (.iaload, 1) := by decide +kernel
theorem dX6_see_48 : decode cX6_see 48 = .ok (.ifCond .le 45, 3) := by decide +kernel
theorem dX6_see_51 : decode cX6_see 51 = .ok (.aload_n 0, 1) := by decide +kernel
theorem dX6_see_52 : decode cX6_see 52 = .ok (.getfield 39, 3) := by decide +kernel
theorem dX6_see_55 : decode cX6_see 55 = .ok (.iload_n 2, 1) := by decide +kernel
theorem dX6_see_56 : decode cX6_see 56 = .ok (.iaload, 1) := by decide +kernel
theorem dX6_see_57 : decode cX6_see 57 = .ok (.aload_n 0, 1) := by decide +kernel
theorem dX6_see_58 : decode cX6_see 58 = .ok (.getfield 51, 3) := by decide +kernel
theorem dX6_see_61 : decode cX6_see 61 = .ok (.iload_n 1, 1) := by decide +kernel
theorem dX6_see_62 : decode cX6_see 62 = .ok (.iaload, 1) := by decide +kernel
theorem dX6_see_63 : decode cX6_see 63 = .ok (.if_icmp .ge 30, 3) := by decide +kernel
theorem dX6_see_66 : decode cX6_see 66 = .ok (.aload_n 0, 1) := by decide +kernel
theorem dX6_see_67 : decode cX6_see 67 = .ok (.iload_n 2, 1) := by decide +kernel
theorem dX6_see_68 : decode cX6_see 68 = .ok (.invokevirtual 124, 3) := by decide +kernel
theorem dX6_see_71 : decode cX6_see 71 = .ok (.ifCond .ne 11, 3) := by decide +kernel
theorem dX6_see_74 : decode cX6_see 74 = .ok (.aload_n 0, 1) := by decide +kernel
theorem dX6_see_75 : decode cX6_see 75 = .ok (.iload_n 2, 1) := by decide +kernel
theorem dX6_see_76 : decode cX6_see 76 = .ok (.invokevirtual 128, 3) := by decide +kernel
theorem dX6_see_79 : decode cX6_see 79 = .ok (.ifCond .eq 11, 3) := by decide +kernel
theorem dX6_see_82 : decode cX6_see 82 = .ok (.aload_n 0, 1) := by decide +kernel
theorem dX6_see_83 : decode cX6_see 83 = .ok (.iload_n 2, 1) := by decide +kernel
theorem dX6_see_84 : decode cX6_see 84 = .ok (.invokevirtual 131, 3) := by decide +kernel
theorem dX6_see_87 : decode cX6_see 87 = .ok (.bipush (-5), 2) := by decide +kernel
theorem dX6_see_89 : decode cX6_see 89 = .ok (.ireturn, 1) := by decide +kernel
theorem dX6_see_90 : decode cX6_see 90 = .ok (.bipush (-6), 2) := by decide +kernel
theorem dX6_see_92 : decode cX6_see 92 = .ok (.ireturn, 1) := by decide +kernel
theorem dX6_see_93 : decode cX6_see 93 = .ok (.iconst (-1), 1) := by decide +kernel
theorem dX6_see_94 : decode cX6_see 94 = .ok (.istore 4, 2) := by decide +kernel
theorem dX6_see_96 : decode cX6_see 96 = .ok (.iconst 0, 1) := by decide +kernel
theorem dX6_see_97 : decode cX6_see 97 = .ok (.istore 5, 2) := by decide +kernel
theorem dX6_see_99 : decode cX6_see 99 = .ok (.iload 5, 2) := by decide +kernel
theorem dX6_see_101 : decode cX6_see 101 = .ok (.aload_n 0, 1) := by decide +kernel
theorem dX6_see_102 : decode cX6_see 102 = .ok (.getfield 81, 3) := by decide +kernel
theorem dX6_see_105 : decode cX6_see 105 = .ok (.if_icmp .ge 89, 3) := by decide +kernel
theorem dX6_see_108 : decode cX6_see 108 = .ok (.aload_n 0, 1) := by decide +kernel
theorem dX6_see_109 : decode cX6_see 109 = .ok (.getfield 26, 3) := by decide +kernel
theorem dX6_see_112 : decode cX6_see 112 = .ok (.iload 5, 2) := by decide +kernel
theorem dX6_see_114 : decode cX6_see 114 = .ok (.iaload, 1) := by decide +kernel
theorem dX6_see_115 : decode cX6_see 115 = .ok (.iload_n 2, 1) := by decide +kernel
theorem dX6_see_116 : decode cX6_see 116 = .ok (.if_icmp .ne 33, 3) := by decide +kernel
theorem dX6_see_119 : decode cX6_see 119 = .ok (.aload_n 0, 1) := by decide +kernel
theorem dX6_see_120 : decode cX6_see 120 = .ok (.getfield 35, 3) := by decide +kernel
theorem dX6_see_123 : decode cX6_see 123 = .ok (.iload 5, 2) := by decide +kernel
theorem dX6_see_125 : decode cX6_see 125 = .ok (.baload, 1) := by decide +kernel
theorem dX6_see_126 : decode cX6_see 126 = .ok (.ifCond .ne 23, 3) := by decide +kernel
theorem dX6_see_129 : decode cX6_see 129 = .ok (.aload_n 0, 1) := by decide +kernel
theorem dX6_see_130 : decode cX6_see 130 = .ok (.getfield 29, 3) := by decide +kernel
theorem dX6_see_133 : decode cX6_see 133 = .ok (.iload 5, 2) := by decide +kernel
theorem dX6_see_135 : decode cX6_see 135 = .ok (.iaload, 1) := by decide +kernel
theorem dX6_see_136 : decode cX6_see 136 = .ok (.aload_n 0, 1) := by decide +kernel
theorem dX6_see_137 : decode cX6_see 137 = .ok (.getfield 51, 3) := by decide +kernel
theorem dX6_see_140 : decode cX6_see 140 = .ok (.iload_n 1, 1) := by decide +kernel
theorem dX6_see_141 : decode cX6_see 141 = .ok (.iaload, 1) := by decide +kernel
theorem dX6_see_142 : decode cX6_see 142 = .ok (.if_icmp .gt 7, 3) := by decide +kernel
theorem dX6_see_145 : decode cX6_see 145 = .ok (.iconst 1, 1) := by decide +kernel
theorem dX6_see_146 : decode cX6_see 146 = .ok (.goto 4, 3) := by decide +kernel
theorem dX6_see_149 : decode cX6_see 149 = .ok (.iconst 0, 1) := by decide +kernel
theorem dX6_see_150 : decode cX6_see 150 = .ok (.istore 6, 2) := by decide +kernel
theorem dX6_see_152 : decode cX6_see 152 = .ok (.iload 6, 2) := by decide +kernel
theorem dX6_see_154 : decode cX6_see 154 = .ok (.ifCond .eq 30, 3) := by decide +kernel
theorem dX6_see_157 : decode cX6_see 157 = .ok (.iload 4, 2) := by decide +kernel
theorem dX6_see_159 : decode cX6_see 159 = .ok (.ifCond .lt 20, 3) := by decide +kernel
theorem dX6_see_162 : decode cX6_see 162 = .ok (.aload_n 0, 1) := by decide +kernel
theorem dX6_see_163 : decode cX6_see 163 = .ok (.getfield 29, 3) := by decide +kernel
theorem dX6_see_166 : decode cX6_see 166 = .ok (.iload 5, 2) := by decide +kernel
theorem dX6_see_168 : decode cX6_see 168 = .ok (.iaload, 1) := by decide +kernel
theorem dX6_see_169 : decode cX6_see 169 = .ok (.aload_n 0, 1) := by decide +kernel
theorem dX6_see_170 : decode cX6_see 170 = .ok (.getfield 29, 3) := by decide +kernel
theorem dX6_see_173 : decode cX6_see 173 = .ok (.iload 4, 2) := by decide +kernel
theorem dX6_see_175 : decode cX6_see 175 = .ok (.iaload, 1) := by decide +kernel
theorem dX6_see_176 : decode cX6_see 176 = .ok (.if_icmp .le 8, 3) := by decide +kernel
theorem dX6_see_179 : decode cX6_see 179 = .ok (.iload 5, 2) := by decide +kernel
theorem dX6_see_181 : decode cX6_see 181 = .ok (.goto 5, 3) := by decide +kernel
theorem dX6_see_184 : decode cX6_see 184 = .ok (.iload 4, 2) := by decide +kernel
theorem dX6_see_186 : decode cX6_see 186 = .ok (.istore 4, 2) := by decide +kernel
theorem dX6_see_188 : decode cX6_see 188 = .ok (.iinc 5 1, 3) := by decide +kernel
theorem dX6_see_191 : decode cX6_see 191 = .ok (.goto (-92), 3) := by decide +kernel
theorem dX6_see_194 : decode cX6_see 194 = .ok (.iload 4, 2) := by decide +kernel
theorem dX6_see_196 : decode cX6_see 196 = .ok (.ifCond .ge 6, 3) := by decide +kernel
theorem dX6_see_199 : decode cX6_see 199 = .ok (.bipush (-7), 2) := by decide +kernel
theorem dX6_see_201 : decode cX6_see 201 = .ok (.ireturn, 1) := by decide +kernel
theorem dX6_see_202 : decode cX6_see 202 = .ok (.aload_n 0, 1) := by decide +kernel
theorem dX6_see_203 : decode cX6_see 203 = .ok (.iload_n 2, 1) := by decide +kernel
theorem dX6_see_204 : decode cX6_see 204 = .ok (.aload_n 0, 1) := by decide +kernel
theorem dX6_see_205 : decode cX6_see 205 = .ok (.getfield 32, 3) := by decide +kernel
theorem dX6_see_208 : decode cX6_see 208 = .ok (.iload 4, 2) := by decide +kernel
theorem dX6_see_210 : decode cX6_see 210 = .ok (.iaload, 1) := by decide +kernel
theorem dX6_see_211 : decode cX6_see 211 = .ok (.invokevirtual 99, 3) := by decide +kernel
theorem dX6_see_214 : decode cX6_see 214 = .ok (.istore 5, 2) := by decide +kernel
theorem dX6_see_216 : decode cX6_see 216 = .ok (.iload 5, 2) := by decide +kernel
theorem dX6_see_218 : decode cX6_see 218 = .ok (.ifCond .lt 13, 3) := by decide +kernel
theorem dX6_see_221 : decode cX6_see 221 = .ok (.aload_n 0, 1) := by decide +kernel
theorem dX6_see_222 : decode cX6_see 222 = .ok (.getfield 23, 3) := by decide +kernel
theorem dX6_see_225 : decode cX6_see 225 = .ok (.iload 5, 2) := by decide +kernel
theorem dX6_see_227 : decode cX6_see 227 = .ok (.iaload, 1) := by decide +kernel
theorem dX6_see_228 : decode cX6_see 228 = .ok (.ifCond .ge 8, 3) := by decide +kernel
theorem dX6_see_231 : decode cX6_see 231 = .ok (.bipush (-7), 2) := by decide +kernel
theorem dX6_see_233 : decode cX6_see 233 = .ok (.goto 10, 3) := by decide +kernel
theorem dX6_see_236 : decode cX6_see 236 = .ok (.aload_n 0, 1) := by decide +kernel
theorem dX6_see_237 : decode cX6_see 237 = .ok (.getfield 23, 3) := by decide +kernel
theorem dX6_see_240 : decode cX6_see 240 = .ok (.iload 5, 2) := by decide +kernel
theorem dX6_see_242 : decode cX6_see 242 = .ok (.iaload, 1) := by decide +kernel
theorem dX6_see_243 : decode cX6_see 243 = .ok (.ireturn, 1) := by decide +kernel
theorem dX6_noClient_0 : decode cX6_noClient 0 = .ok (.iload_n 0, 1) := by decide +kernel
theorem dX6_noClient_1 : decode cX6_noClient 1 = .ok (.iconst 0, 1) := by decide +kernel
theorem dX6_noClient_2 : decode cX6_noClient 2 = .ok (.bipush 7, 2) := by decide +kernel
theorem dX6_noClient_4 : decode cX6_noClient 4 = .ok (.invokestatic 134, 3) := by decide +kernel
theorem dX6_noClient_7 : decode cX6_noClient 7 = .ok (.ifCond .ne 7, 3) := by decide +kernel
theorem dX6_noClient_10 : decode cX6_noClient 10 = .ok (.iconst 1, 1) := by decide +kernel
theorem dX6_noClient_11 : decode cX6_noClient 11 = .ok (.goto 4, 3) := by decide +kernel
theorem dX6_noClient_14 : decode cX6_noClient 14 = .ok (.iconst 0, 1) := by decide +kernel
theorem dX6_noClient_15 : decode cX6_noClient 15 = .ok (.ireturn, 1) := by decide +kernel
theorem dX6_noCell_0 : decode cX6_noCell 0 = .ok (.iload_n 0, 1) := by decide +kernel
theorem dX6_noCell_1 : decode cX6_noCell 1 = .ok (.iconst 0, 1) := by decide +kernel
theorem dX6_noCell_2 : decode cX6_noCell 2 = .ok (.bipush 63, 2) := by decide +kernel
theorem dX6_noCell_4 : decode cX6_noCell 4 = .ok (.invokestatic 134, 3) := by decide +kernel
theorem dX6_noCell_7 : decode cX6_noCell 7 = .ok (.ifCond .eq 12, 3) := by decide +kernel
theorem dX6_noCell_10 : decode cX6_noCell 10 = .ok (.iload_n 1, 1) := by decide +kernel
theorem dX6_noCell_11 : decode cX6_noCell 11 = .ok (.iconst 0, 1) := by decide +kernel
theorem dX6_noCell_12 : decode cX6_noCell 12 = .ok (.iconst 3, 1) := by decide +kernel
theorem dX6_noCell_13 : decode cX6_noCell 13 = .ok (.invokestatic 134, 3) := by decide +kernel
theorem dX6_noCell_16 : decode cX6_noCell 16 = .ok (.ifCond .ne 7, 3) := by decide +kernel
theorem dX6_noCell_19 : decode cX6_noCell 19 = .ok (.iconst 1, 1) := by decide +kernel
theorem dX6_noCell_20 : decode cX6_noCell 20 = .ok (.goto 4, 3) := by decide +kernel
theorem dX6_noCell_23 : decode cX6_noCell 23 = .ok (.iconst 0, 1) := by decide +kernel
theorem dX6_noCell_24 : decode cX6_noCell 24 = .ok (.ireturn, 1) := by decide +kernel
theorem dX6_begin_0 : decode cX6_begin 0 = .ok (.aload_n 0, 1) := by decide +kernel
theorem dX6_begin_1 : decode cX6_begin 1 = .ok (.iconst 0, 1) := by decide +kernel
theorem dX6_begin_2 : decode cX6_begin 2 = .ok (.putfield 75, 3) := by decide +kernel
theorem dX6_begin_5 : decode cX6_begin 5 = .ok (.iload_n 1, 1) := by decide +kernel
theorem dX6_begin_6 : decode cX6_begin 6 = .ok (.invokestatic 138, 3) := by decide +kernel
theorem dX6_begin_9 : decode cX6_begin 9 = .ok (.ifCond .eq 5, 3) := by decide +kernel
theorem dX6_begin_12 : decode cX6_begin 12 = .ok (.iconst (-1), 1) := by decide +kernel
theorem dX6_begin_13 : decode cX6_begin 13 = .ok (.ireturn, 1) := by decide +kernel
theorem dX6_begin_14 : decode cX6_begin 14 = .ok (.aload_n 0, 1) := by decide +kernel
theorem dX6_begin_15 : decode cX6_begin 15 = .ok (.getfield 54, 3) := by decide +kernel
theorem dX6_begin_18 : decode cX6_begin 18 = .ok (.iload_n 1, 1) := by decide +kernel
theorem dX6_begin_19 : decode cX6_begin 19 = .ok (.aload_n 0, 1) := by decide +kernel
theorem dX6_begin_20 : decode cX6_begin 20 = .ok (.getfield 103, 3) := by decide +kernel
theorem dX6_begin_23 : decode cX6_begin 23 = .ok (.iastore, 1) := by decide +kernel
theorem dX6_begin_24 : decode cX6_begin 24 = .ok (.aload_n 0, 1) := by decide +kernel
theorem dX6_begin_25 : decode cX6_begin 25 = .ok (.getfield 48, 3) := by decide +kernel
theorem dX6_begin_28 : decode cX6_begin 28 = .ok (.iload_n 1, 1) := by decide +kernel
theorem dX6_begin_29 : decode cX6_begin 29 = .ok (.iaload, 1) := by decide +kernel
theorem dX6_begin_30 : decode cX6_begin 30 = .ok (.ifCond .le 6, 3) := by decide +kernel
theorem dX6_begin_33 : decode cX6_begin 33 = .ok (.bipush (-3), 2) := by decide +kernel
theorem dX6_begin_35 : decode cX6_begin 35 = .ok (.ireturn, 1) := by decide +kernel
theorem dX6_begin_36 : decode cX6_begin 36 = .ok (.aload_n 0, 1) := by decide +kernel
theorem dX6_begin_37 : decode cX6_begin 37 = .ok (.getfield 48, 3) := by decide +kernel
theorem dX6_begin_40 : decode cX6_begin 40 = .ok (.iload_n 1, 1) := by decide +kernel
theorem dX6_begin_41 : decode cX6_begin 41 = .ok (.iconst 1, 1) := by decide +kernel
theorem dX6_begin_42 : decode cX6_begin 42 = .ok (.iastore, 1) := by decide +kernel
theorem dX6_begin_43 : decode cX6_begin 43 = .ok (.aload_n 0, 1) := by decide +kernel
theorem dX6_begin_44 : decode cX6_begin 44 = .ok (.getfield 51, 3) := by decide +kernel
theorem dX6_begin_47 : decode cX6_begin 47 = .ok (.iload_n 1, 1) := by decide +kernel
theorem dX6_begin_48 : decode cX6_begin 48 = .ok (.aload_n 0, 1) := by decide +kernel
theorem dX6_begin_49 : decode cX6_begin 49 = .ok (.invokevirtual 141, 3) := by decide +kernel
theorem dX6_begin_52 : decode cX6_begin 52 = .ok (.iastore, 1) := by decide +kernel
theorem dX6_begin_53 : decode cX6_begin 53 = .ok (.aload_n 0, 1) := by decide +kernel
theorem dX6_begin_54 : decode cX6_begin 54 = .ok (.getfield 57, 3) := by decide +kernel
theorem dX6_begin_57 : decode cX6_begin 57 = .ok (.iload_n 1, 1) := by decide +kernel
theorem dX6_begin_58 : decode cX6_begin 58 = .ok (.iconst 0, 1) := by decide +kernel
theorem dX6_begin_59 : decode cX6_begin 59 = .ok (.iastore, 1) := by decide +kernel
theorem dX6_begin_60 : decode cX6_begin 60 = .ok (.aload_n 0, 1) := by decide +kernel
theorem dX6_begin_61 : decode cX6_begin 61 = .ok (.getfield 66, 3) := by decide +kernel
theorem dX6_begin_64 : decode cX6_begin 64 = .ok (.iload_n 1, 1) := by decide +kernel
theorem dX6_begin_65 : decode cX6_begin 65 = .ok (.iconst 0, 1) := by decide +kernel
theorem dX6_begin_66 : decode cX6_begin 66 = .ok (.iastore, 1) := by decide +kernel
theorem dX6_begin_67 : decode cX6_begin 67 = .ok (.aload_n 0, 1) := by decide +kernel
theorem dX6_begin_68 : decode cX6_begin 68 = .ok (.getfield 69, 3) := by decide +kernel
theorem dX6_begin_71 : decode cX6_begin 71 = .ok (.iload_n 1, 1) := by decide +kernel
theorem dX6_begin_72 : decode cX6_begin 72 = .ok (.iconst 0, 1) := by decide +kernel
theorem dX6_begin_73 : decode cX6_begin 73 = .ok (.iastore, 1) := by decide +kernel
theorem dX6_begin_74 : decode cX6_begin 74 = .ok (.aload_n 0, 1) := by decide +kernel
theorem dX6_begin_75 : decode cX6_begin 75 = .ok (.getfield 51, 3) := by decide +kernel
theorem dX6_begin_78 : decode cX6_begin 78 = .ok (.iload_n 1, 1) := by decide +kernel
theorem dX6_begin_79 : decode cX6_begin 79 = .ok (.iaload, 1) := by decide +kernel
theorem dX6_begin_80 : decode cX6_begin 80 = .ok (.ireturn, 1) := by decide +kernel
theorem dX6_read_0 : decode cX6_read 0 = .ok (.aload_n 0, 1) := by decide +kernel
theorem dX6_read_1 : decode cX6_read 1 = .ok (.iconst 0, 1) := by decide +kernel
theorem dX6_read_2 : decode cX6_read 2 = .ok (.putfield 75, 3) := by decide +kernel
theorem dX6_read_5 : decode cX6_read 5 = .ok (.iload_n 1, 1) := by decide +kernel
theorem dX6_read_6 : decode cX6_read 6 = .ok (.invokestatic 138, 3) := by decide +kernel
theorem dX6_read_9 : decode cX6_read 9 = .ok (.ifCond .ne 11, 3) := by decide +kernel
theorem dX6_read_12 : decode cX6_read 12 = .ok (.iload_n 2, 1) := by decide +kernel
theorem dX6_read_13 : decode cX6_read 13 = .ok (.iload_n 3, 1) := by decide +kernel
theorem dX6_read_14 : decode cX6_read 14 = .ok (.invokestatic 145, 3) := by decide +kernel
theorem dX6_read_17 : decode cX6_read 17 = .ok (.ifCond .eq 5, 3) := by decide +kernel
theorem dX6_read_20 : decode cX6_read 20 = .ok (.iconst (-1), 1) := by decide +kernel
theorem dX6_read_21 : decode cX6_read 21 = .ok (.ireturn, 1) := by decide +kernel
theorem dX6_read_22 : decode cX6_read 22 = .ok (.aload_n 0, 1) := by decide +kernel
theorem dX6_read_23 : decode cX6_read 23 = .ok (.getfield 54, 3) := by decide +kernel
theorem dX6_read_26 : decode cX6_read 26 = .ok (.iload_n 1, 1) := by decide +kernel
theorem dX6_read_27 : decode cX6_read 27 = .ok (.aload_n 0, 1) := by decide +kernel
theorem dX6_read_28 : decode cX6_read 28 = .ok (.getfield 103, 3) := by decide +kernel
theorem dX6_read_31 : decode cX6_read 31 = .ok (.iastore, 1) := by decide +kernel
theorem dX6_read_32 : decode cX6_read 32 = .ok (.aload_n 0, 1) := by decide +kernel
theorem dX6_read_33 : decode cX6_read 33 = .ok (.getfield 48, 3) := by decide +kernel
theorem dX6_read_36 : decode cX6_read 36 = .ok (.iload_n 1, 1) := by decide +kernel
theorem dX6_read_37 : decode cX6_read 37 = .ok (.iaload, 1) := by decide +kernel
theorem dX6_read_38 : decode cX6_read 38 = .ok (.iconst 1, 1) := by decide +kernel
theorem dX6_read_39 : decode cX6_read 39 = .ok (.if_icmp .eq 8, 3) := by decide +kernel
theorem dX6_read_42 : decode cX6_read 42 = .ok (.bipush (-3), 2) := by decide +kernel
theorem dX6_read_44 : decode cX6_read 44 = .ok (.goto 17, 3) := by decide +kernel
theorem dX6_read_47 : decode cX6_read 47 = .ok (.aload_n 0, 1) := by decide +kernel
theorem dX6_read_48 : decode cX6_read 48 = .ok (.aload_n 0, 1) := by decide +kernel
theorem dX6_read_49 : decode cX6_read 49 = .ok (.iload_n 1, 1) := by decide +kernel
theorem dX6_read_50 : decode cX6_read 50 = .ok (.iconst 4, 1) := by decide +kernel
theorem dX6_read_51 : decode cX6_read 51 = .ok (.iload_n 2, 1) := by decide +kernel
theorem dX6_read_52 : decode cX6_read 52 = .ok (.imul, 1) := by decide +kernel
theorem dX6_read_53 : decode cX6_read 53 = .ok (.iload_n 3, 1) := by decide +kernel
theorem dX6_read_54 : decode cX6_read 54 = .ok (.iadd, 1) := by decide +kernel
theorem dX6_read_55 : decode cX6_read 55 = .ok (.invokevirtual 149, 3) := by decide +kernel
theorem dX6_read_58 : decode cX6_read 58 = .ok (.invokevirtual 152, 3) := by decide +kernel
theorem dX6_read_61 : decode cX6_read 61 = .ok (.ireturn, 1) := by decide +kernel
theorem dX6_next_0 : decode cX6_next 0 = .ok (.aload_n 0, 1) := by decide +kernel
theorem dX6_next_1 : decode cX6_next 1 = .ok (.iconst 0, 1) := by decide +kernel
theorem dX6_next_2 : decode cX6_next 2 = .ok (.putfield 75, 3) := by decide +kernel
theorem dX6_next_5 : decode cX6_next 5 = .ok (.iload_n 1, 1) := by decide +kernel
theorem dX6_next_6 : decode cX6_next 6 = .ok (.invokestatic 138, 3) := by decide +kernel
theorem dX6_next_9 : decode cX6_next 9 = .ok (.ifCond .ne 13, 3) := by decide +kernel
theorem dX6_next_12 : decode cX6_next 12 = .ok (.iload_n 2, 1) := by decide +kernel
theorem dX6_next_13 : decode cX6_next 13 = .ok (.iconst 0, 1) := by decide +kernel
theorem dX6_next_14 : decode cX6_next 14 = .ok (.bipush 63, 2) := by decide +kernel
theorem dX6_next_16 : decode cX6_next 16 = .ok (.invokestatic 134, 3) := by decide +kernel
theorem dX6_next_19 : decode cX6_next 19 = .ok (.ifCond .ne 5, 3) := by decide +kernel
theorem dX6_next_22 : decode cX6_next 22 = .ok (.iconst (-1), 1) := by decide +kernel
theorem dX6_next_23 : decode cX6_next 23 = .ok (.ireturn, 1) := by decide +kernel
theorem dX6_next_24 : decode cX6_next 24 = .ok (.aload_n 0, 1) := by decide +kernel
theorem dX6_next_25 : decode cX6_next 25 = .ok (.getfield 54, 3) := by decide +kernel
theorem dX6_next_28 : decode cX6_next 28 = .ok (.iload_n 1, 1) := by decide +kernel
theorem dX6_next_29 : decode cX6_next 29 = .ok (.aload_n 0, 1) := by decide +kernel
theorem dX6_next_30 : decode cX6_next 30 = .ok (.getfield 103, 3) := by decide +kernel
theorem dX6_next_33 : decode cX6_next 33 = .ok (.iastore, 1) := by decide +kernel
theorem dX6_next_34 : decode cX6_next 34 = .ok (.aload_n 0, 1) := by decide +kernel
theorem dX6_next_35 : decode cX6_next 35 = .ok (.getfield 48, 3) := by decide +kernel
theorem dX6_next_38 : decode cX6_next 38 = .ok (.iload_n 1, 1) := by decide +kernel
theorem dX6_next_39 : decode cX6_next 39 = .ok (.iaload, 1) := by decide +kernel
theorem dX6_next_40 : decode cX6_next 40 = .ok (.iconst 1, 1) := by decide +kernel
theorem dX6_next_41 : decode cX6_next 41 = .ok (.if_icmp .eq 6, 3) := by decide +kernel
theorem dX6_next_44 : decode cX6_next 44 = .ok (.bipush (-3), 2) := by decide +kernel
theorem dX6_next_46 : decode cX6_next 46 = .ok (.ireturn, 1) := by decide +kernel
theorem dX6_next_47 : decode cX6_next 47 = .ok (.iconst 4, 1) := by decide +kernel
theorem dX6_next_48 : decode cX6_next 48 = .ok (.iload_n 2, 1) := by decide +kernel
theorem dX6_next_49 : decode cX6_next 49 = .ok (.imul, 1) := by decide +kernel
theorem dX6_next_50 : decode cX6_next 50 = .ok (.istore_n 3, 1) := by decide +kernel
theorem dX6_next_51 : decode cX6_next 51 = .ok (.iload_n 3, 1) := by decide +kernel
theorem dX6_next_52 : decode cX6_next 52 = .ok (.sipush 256, 3) := by decide +kernel
theorem dX6_next_55 : decode cX6_next 55 = .ok (.if_icmp .ge 42, 3) := by decide +kernel
theorem dX6_next_58 : decode cX6_next 58 = .ok (.aload_n 0, 1) := by decide +kernel
theorem dX6_next_59 : decode cX6_next 59 = .ok (.iload_n 1, 1) := by decide +kernel
theorem dX6_next_60 : decode cX6_next 60 = .ok (.iload_n 3, 1) := by decide +kernel
theorem dX6_next_61 : decode cX6_next 61 = .ok (.invokevirtual 149, 3) := by decide +kernel
theorem dX6_next_64 : decode cX6_next 64 = .ok (.istore 4, 2) := by decide +kernel
theorem dX6_next_66 : decode cX6_next 66 = .ok (.iload 4, 2) := by decide +kernel
theorem dX6_next_68 : decode cX6_next 68 = .ok (.bipush (-7), 2) := by decide +kernel
theorem dX6_next_70 : decode cX6_next 70 = .ok (.if_icmp .eq 21, 3) := by decide +kernel
theorem dX6_next_73 : decode cX6_next 73 = .ok (.aload_n 0, 1) := by decide +kernel
theorem dX6_next_74 : decode cX6_next 74 = .ok (.iload 4, 2) := by decide +kernel
theorem dX6_next_76 : decode cX6_next 76 = .ok (.ifCond .ge 8, 3) := by decide +kernel
theorem dX6_next_79 : decode cX6_next 79 = .ok (.iload 4, 2) := by decide +kernel
theorem dX6_next_81 : decode cX6_next 81 = .ok (.goto 6, 3) := by decide +kernel
theorem dX6_next_84 : decode cX6_next 84 = .ok (.iload_n 3, 1) := by decide +kernel
theorem dX6_next_85 : decode cX6_next 85 = .ok (.iconst 4, 1) := by decide +kernel
theorem dX6_next_86 : decode cX6_next 86 = .ok (.idiv, 1) := by decide +kernel
theorem dX6_next_87 : decode cX6_next 87 = .ok (.invokevirtual 152, 3) := by decide +kernel
theorem dX6_next_90 : decode cX6_next 90 = .ok (.ireturn, 1) := by decide +kernel
theorem dX6_next_91 : decode cX6_next 91 = .ok (.iinc 3 1, 3) := by decide +kernel
theorem dX6_next_94 : decode cX6_next 94 = .ok (.goto (-43), 3) := by decide +kernel
theorem dX6_next_97 : decode cX6_next 97 = .ok (.bipush (-7), 2) := by decide +kernel
theorem dX6_next_99 : decode cX6_next 99 = .ok (.ireturn, 1) := by decide +kernel
theorem dX6_write_0 : decode cX6_write 0 = .ok (.aload_n 0, 1) := by decide +kernel
theorem dX6_write_1 : decode cX6_write 1 = .ok (.iconst 0, 1) := by decide +kernel
theorem dX6_write_2 : decode cX6_write 2 = .ok (.putfield 75, 3) := by decide +kernel
theorem dX6_write_5 : decode cX6_write 5 = .ok (.iload_n 1, 1) := by decide +kernel
theorem dX6_write_6 : decode cX6_write 6 = .ok (.invokestatic 138, 3) := by decide +kernel
theorem dX6_write_9 : decode cX6_write 9 = .ok (.ifCond .ne 11, 3) := by decide +kernel
theorem dX6_write_12 : decode cX6_write 12 = .ok (.iload_n 2, 1) := by decide +kernel
theorem dX6_write_13 : decode cX6_write 13 = .ok (.iload_n 3, 1) := by decide +kernel
theorem dX6_write_14 : decode cX6_write 14 = .ok (.invokestatic 145, 3) := by decide +kernel
theorem dX6_write_17 : decode cX6_write 17 = .ok (.ifCond .eq 5, 3) := by decide +kernel
theorem dX6_write_20 : decode cX6_write 20 = .ok (.iconst (-1), 1) := by decide +kernel
theorem dX6_write_21 : decode cX6_write 21 = .ok (.ireturn, 1) := by decide +kernel
theorem dX6_write_22 : decode cX6_write 22 = .ok (.aload_n 0, 1) := by decide +kernel
theorem dX6_write_23 : decode cX6_write 23 = .ok (.getfield 54, 3) := by decide +kernel
theorem dX6_write_26 : decode cX6_write 26 = .ok (.iload_n 1, 1) := by decide +kernel
theorem dX6_write_27 : decode cX6_write 27 = .ok (.aload_n 0, 1) := by decide +kernel
theorem dX6_write_28 : decode cX6_write 28 = .ok (.getfield 103, 3) := by decide +kernel
theorem dX6_write_31 : decode cX6_write 31 = .ok (.iastore, 1) := by decide +kernel
theorem dX6_write_32 : decode cX6_write 32 = .ok (.iload 4, 2) := by decide +kernel
theorem dX6_write_34 : decode cX6_write 34 = .ok (.iconst (-1), 1) := by decide +kernel
theorem dX6_write_35 : decode cX6_write 35 = .ok (.if_icmp .ge 6, 3) := by decide +kernel
theorem dX6_write_38 : decode cX6_write 38 = .ok (.bipush (-2), 2) := by decide +kernel
theorem dX6_write_40 : decode cX6_write 40 = .ok (.ireturn, 1) := by decide +kernel
theorem dX6_write_41 : decode cX6_write 41 = .ok (.aload_n 0, 1) := by decide +kernel
theorem dX6_write_42 : decode cX6_write 42 = .ok (.getfield 48, 3) := by decide +kernel
theorem dX6_write_45 : decode cX6_write 45 = .ok (.iload_n 1, 1) := by decide +kernel
theorem dX6_write_46 : decode cX6_write 46 = .ok (.iaload, 1) := by decide +kernel
theorem dX6_write_47 : decode cX6_write 47 = .ok (.iconst 1, 1) := by decide +kernel
theorem dX6_write_48 : decode cX6_write 48 = .ok (.if_icmp .eq 6, 3) := by decide +kernel
theorem dX6_write_51 : decode cX6_write 51 = .ok (.bipush (-3), 2) := by decide +kernel
theorem dX6_write_53 : decode cX6_write 53 = .ok (.ireturn, 1) := by decide +kernel
theorem dX6_write_54 : decode cX6_write 54 = .ok (.aload_n 0, 1) := by decide +kernel
theorem dX6_write_55 : decode cX6_write 55 = .ok (.iload_n 1, 1) := by decide +kernel
theorem dX6_write_56 : decode cX6_write 56 = .ok (.iconst 4, 1) := by decide +kernel
theorem dX6_write_57 : decode cX6_write 57 = .ok (.iload_n 2, 1) := by decide +kernel
theorem dX6_write_58 : decode cX6_write 58 = .ok (.imul, 1) := by decide +kernel
theorem dX6_write_59 : decode cX6_write 59 = .ok (.iload_n 3, 1) := by decide +kernel
theorem dX6_write_60 : decode cX6_write 60 = .ok (.iadd, 1) := by decide +kernel
theorem dX6_write_61 : decode cX6_write 61 = .ok (.invokevirtual 121, 3) := by decide +kernel
theorem dX6_write_64 : decode cX6_write 64 = .ok (.istore 5, 2) := by decide +kernel
theorem dX6_write_66 : decode cX6_write 66 = .ok (.iload 5, 2) := by decide +kernel
theorem dX6_write_68 : decode cX6_write 68 = .ok (.ifCond .ge 17, 3) := by decide +kernel
theorem dX6_write_71 : decode cX6_write 71 = .ok (.aload_n 0, 1) := by decide +kernel
theorem dX6_write_72 : decode cX6_write 72 = .ok (.getfield 57, 3) := by decide +kernel
theorem dX6_write_75 : decode cX6_write 75 = .ok (.iload_n 1, 1) := by decide +kernel
theorem dX6_write_76 : decode cX6_write 76 = .ok (.iaload, 1) := by decide +kernel
theorem dX6_write_77 : decode cX6_write 77 = .ok (.bipush 16, 2) := by decide +kernel
theorem dX6_write_79 : decode cX6_write 79 = .ok (.if_icmp .ne 6, 3) := by decide +kernel
theorem dX6_write_82 : decode cX6_write 82 = .ok (.bipush (-4), 2) := by decide +kernel
theorem dX6_write_84 : decode cX6_write 84 = .ok (.ireturn, 1) := by decide +kernel
theorem dX6_write_85 : decode cX6_write 85 = .ok (.iload 5, 2) := by decide +kernel
theorem dX6_write_87 : decode cX6_write 87 = .ok (.ifCond .ge 21, 3) := by decide +kernel
theorem dX6_write_90 : decode cX6_write 90 = .ok (.aload_n 0, 1) := by decide +kernel
theorem dX6_write_91 : decode cX6_write 91 = .ok (.getfield 57, 3) := by decide +kernel
theorem dX6_write_94 : decode cX6_write 94 = .ok (.iload_n 1, 1) := by decide +kernel
theorem dX6_write_95 : decode cX6_write 95 = .ok (.iaload, 1) := by decide +kernel
theorem dX6_write_96 : decode cX6_write 96 = .ok (.istore 5, 2) := by decide +kernel
theorem dX6_write_98 : decode cX6_write 98 = .ok (.aload_n 0, 1) := by decide +kernel
theorem dX6_write_99 : decode cX6_write 99 = .ok (.getfield 57, 3) := by decide +kernel
theorem dX6_write_102 : decode cX6_write 102 = .ok (.iload_n 1, 1) := by decide +kernel
theorem dX6_write_103 : decode cX6_write 103 = .ok (.dup2, 1) := by decide +kernel
theorem dX6_write_104 : decode cX6_write 104 = .ok (.iaload, 1) := by decide +kernel
theorem dX6_write_105 : decode cX6_write 105 = .ok (.iconst 1, 1) := by decide +kernel
theorem dX6_write_106 : decode cX6_write 106 = .ok (.iadd, 1) := by decide +kernel
theorem dX6_write_107 : decode cX6_write 107 = .ok (.iastore, 1) := by decide +kernel
theorem dX6_write_108 : decode cX6_write 108 = .ok (.aload_n 0, 1) := by decide +kernel
theorem dX6_write_109 : decode cX6_write 109 = .ok (.getfield 60, 3) := by decide +kernel
theorem dX6_write_112 : decode cX6_write 112 = .ok (.bipush 16, 2) := by decide +kernel
theorem dX6_write_114 : decode cX6_write 114 = .ok (.iload_n 1, 1) := by decide +kernel
theorem dX6_write_115 : decode cX6_write 115 = .ok (.imul, 1) := by decide +kernel
theorem dX6_write_116 : decode cX6_write 116 = .ok (.iload 5, 2) := by decide +kernel
theorem dX6_write_118 : decode cX6_write 118 = .ok (.iadd, 1) := by decide +kernel
theorem dX6_write_119 : decode cX6_write 119 = .ok (.iconst 4, 1) := by decide +kernel
theorem dX6_write_120 : decode cX6_write 120 = .ok (.iload_n 2, 1) := by decide +kernel
theorem dX6_write_121 : decode cX6_write 121 = .ok (.imul, 1) := by decide +kernel
theorem dX6_write_122 : decode cX6_write 122 = .ok (.iload_n 3, 1) := by decide +kernel
theorem dX6_write_123 : decode cX6_write 123 = .ok (.iadd, 1) := by decide +kernel
theorem dX6_write_124 : decode cX6_write 124 = .ok (.iastore, 1) := by decide +kernel
theorem dX6_write_125 : decode cX6_write 125 = .ok (.aload_n 0, 1) := by decide +kernel
theorem dX6_write_126 : decode cX6_write 126 = .ok (.getfield 63, 3) := by decide +kernel
theorem dX6_write_129 : decode cX6_write 129 = .ok (.bipush 16, 2) := by decide +kernel
theorem dX6_write_131 : decode cX6_write 131 = .ok (.iload_n 1, 1) := by decide +kernel
theorem dX6_write_132 : decode cX6_write 132 = .ok (.imul, 1) := by decide +kernel
theorem dX6_write_133 : decode cX6_write 133 = .ok (.iload 5, 2) := by decide +kernel
theorem dX6_write_135 : decode cX6_write 135 = .ok (.iadd, 1) := by decide +kernel
theorem dX6_write_136 : decode cX6_write 136 = .ok (.iload 4, 2) := by decide +kernel
theorem dX6_write_138 : decode cX6_write 138 = .ok (.iastore, 1) := by decide +kernel
theorem dX6_write_139 : decode cX6_write 139 = .ok (.aload_n 0, 1) := by decide +kernel
theorem dX6_write_140 : decode cX6_write 140 = .ok (.getfield 57, 3) := by decide +kernel
theorem dX6_write_143 : decode cX6_write 143 = .ok (.iload_n 1, 1) := by decide +kernel
theorem dX6_write_144 : decode cX6_write 144 = .ok (.iaload, 1) := by decide +kernel
theorem dX6_write_145 : decode cX6_write 145 = .ok (.ireturn, 1) := by decide +kernel
theorem dX6_commit_0 : decode cX6_commit 0 = .ok (.aload_n 0, 1) := by decide +kernel
theorem dX6_commit_1 : decode cX6_commit 1 = .ok (.iconst 0, 1) := by decide +kernel
theorem dX6_commit_2 : decode cX6_commit 2 = .ok (.putfield 75, 3) := by decide +kernel
theorem dX6_commit_5 : decode cX6_commit 5 = .ok (.iload_n 1, 1) := by decide +kernel
theorem dX6_commit_6 : decode cX6_commit 6 = .ok (.invokestatic 138, 3) := by decide +kernel
theorem dX6_commit_9 : decode cX6_commit 9 = .ok (.ifCond .eq 5, 3) := by decide +kernel
theorem dX6_commit_12 : decode cX6_commit 12 = .ok (.iconst (-1), 1) := by decide +kernel
theorem dX6_commit_13 : decode cX6_commit 13 = .ok (.ireturn, 1) := by decide +kernel
theorem dX6_commit_14 : decode cX6_commit 14 = .ok (.aload_n 0, 1) := by decide +kernel
theorem dX6_commit_15 : decode cX6_commit 15 = .ok (.getfield 54, 3) := by decide +kernel
theorem dX6_commit_18 : decode cX6_commit 18 = .ok (.iload_n 1, 1) := by decide +kernel
theorem dX6_commit_19 : decode cX6_commit 19 = .ok (.aload_n 0, 1) := by decide +kernel
theorem dX6_commit_20 : decode cX6_commit 20 = .ok (.getfield 103, 3) := by decide +kernel
theorem dX6_commit_23 : decode cX6_commit 23 = .ok (.iastore, 1) := by decide +kernel
theorem dX6_commit_24 : decode cX6_commit 24 = .ok (.aload_n 0, 1) := by decide +kernel
theorem dX6_commit_25 : decode cX6_commit 25 = .ok (.getfield 48, 3) := by decide +kernel
theorem dX6_commit_28 : decode cX6_commit 28 = .ok (.iload_n 1, 1) := by decide +kernel
theorem dX6_commit_29 : decode cX6_commit 29 = .ok (.iaload, 1) := by decide +kernel
theorem dX6_commit_30 : decode cX6_commit 30 = .ok (.iconst 1, 1) := by decide +kernel
theorem dX6_commit_31 : decode cX6_commit 31 = .ok (.if_icmp .eq 6, 3) := by decide +kernel
end
section
theorem dX6_commit_34 : decode cX6_commit 34 = .ok (.bipush (-3), 2) := by decide +kernel
theorem dX6_commit_36 : decode cX6_commit 36 = .ok (.ireturn, 1) := by decide +kernel
theorem dX6_commit_37 : decode cX6_commit 37 = .ok (.aload_n 0, 1) := by decide +kernel
theorem dX6_commit_38 : decode cX6_commit 38 = .ok (.getfield 57, 3) := by decide +kernel
theorem dX6_commit_41 : decode cX6_commit 41 = .ok (.iload_n 1, 1) := by decide +kernel
theorem dX6_commit_42 : decode cX6_commit 42 = .ok (.iaload, 1) := by decide +kernel
theorem dX6_commit_43 : decode cX6_commit 43 = .ok (.ifCond .ne 12, 3) := by decide +kernel
theorem dX6_commit_46 : decode cX6_commit 46 = .ok (.aload_n 0, 1) := by decide +kernel
theorem dX6_commit_47 : decode cX6_commit 47 = .ok (.getfield 48, 3) := by decide +kernel
theorem dX6_commit_50 : decode cX6_commit 50 = .ok (.iload_n 1, 1) := by decide +kernel
theorem dX6_commit_51 : decode cX6_commit 51 = .ok (.iconst 0, 1) := by decide +kernel
theorem dX6_commit_52 : decode cX6_commit 52 = .ok (.iastore, 1) := by decide +kernel
theorem dX6_commit_53 : decode cX6_commit 53 = .ok (.iconst 3, 1) := by decide +kernel
theorem dX6_commit_54 : decode cX6_commit 54 = .ok (.ireturn, 1) := by decide +kernel
theorem dX6_commit_55 : decode cX6_commit 55 = .ok (.aload_n 0, 1) := by decide +kernel
theorem dX6_commit_56 : decode cX6_commit 56 = .ok (.getfield 48, 3) := by decide +kernel
theorem dX6_commit_59 : decode cX6_commit 59 = .ok (.iload_n 1, 1) := by decide +kernel
theorem dX6_commit_60 : decode cX6_commit 60 = .ok (.iconst 2, 1) := by decide +kernel
theorem dX6_commit_61 : decode cX6_commit 61 = .ok (.iastore, 1) := by decide +kernel
theorem dX6_commit_62 : decode cX6_commit 62 = .ok (.iconst 1, 1) := by decide +kernel
theorem dX6_commit_63 : decode cX6_commit 63 = .ok (.ireturn, 1) := by decide +kernel
theorem dX6_rowOf_0 : decode cX6_rowOf 0 = .ok (.iload_n 2, 1) := by decide +kernel
theorem dX6_rowOf_1 : decode cX6_rowOf 1 = .ok (.istore_n 3, 1) := by decide +kernel
theorem dX6_rowOf_2 : decode cX6_rowOf 2 = .ok (.iconst 0, 1) := by decide +kernel
theorem dX6_rowOf_3 : decode cX6_rowOf 3 = .ok (.istore 4, 2) := by decide +kernel
theorem dX6_rowOf_5 : decode cX6_rowOf 5 = .ok (.iload 4, 2) := by decide +kernel
theorem dX6_rowOf_7 : decode cX6_rowOf 7 = .ok (.aload_n 0, 1) := by decide +kernel
theorem dX6_rowOf_8 : decode cX6_rowOf 8 = .ok (.getfield 57, 3) := by decide +kernel
theorem dX6_rowOf_11 : decode cX6_rowOf 11 = .ok (.iload_n 1, 1) := by decide +kernel
theorem dX6_rowOf_12 : decode cX6_rowOf 12 = .ok (.iaload, 1) := by decide +kernel
theorem dX6_rowOf_13 : decode cX6_rowOf 13 = .ok (.if_icmp .ge 100, 3) := by decide +kernel
theorem dX6_rowOf_16 : decode cX6_rowOf 16 = .ok (.aload_n 0, 1) := by decide +kernel
theorem dX6_rowOf_17 : decode cX6_rowOf 17 = .ok (.getfield 60, 3) := by decide +kernel
theorem dX6_rowOf_20 : decode cX6_rowOf 20 = .ok (.bipush 16, 2) := by decide +kernel
theorem dX6_rowOf_22 : decode cX6_rowOf 22 = .ok (.iload_n 1, 1) := by decide +kernel
theorem dX6_rowOf_23 : decode cX6_rowOf 23 = .ok (.imul, 1) := by decide +kernel
theorem dX6_rowOf_24 : decode cX6_rowOf 24 = .ok (.iload 4, 2) := by decide +kernel
theorem dX6_rowOf_26 : decode cX6_rowOf 26 = .ok (.iadd, 1) := by decide +kernel
theorem dX6_rowOf_27 : decode cX6_rowOf 27 = .ok (.iaload, 1) := by decide +kernel
theorem dX6_rowOf_28 : decode cX6_rowOf 28 = .ok (.iconst 4, 1) := by decide +kernel
theorem dX6_rowOf_29 : decode cX6_rowOf 29 = .ok (.idiv, 1) := by decide +kernel
theorem dX6_rowOf_30 : decode cX6_rowOf 30 = .ok (.istore 5, 2) := by decide +kernel
theorem dX6_rowOf_32 : decode cX6_rowOf 32 = .ok (.iconst 1, 1) := by decide +kernel
theorem dX6_rowOf_33 : decode cX6_rowOf 33 = .ok (.istore 6, 2) := by decide +kernel
theorem dX6_rowOf_35 : decode cX6_rowOf 35 = .ok (.iconst 0, 1) := by decide +kernel
theorem dX6_rowOf_36 : decode cX6_rowOf 36 = .ok (.istore 7, 2) := by decide +kernel
theorem dX6_rowOf_38 : decode cX6_rowOf 38 = .ok (.iload 7, 2) := by decide +kernel
theorem dX6_rowOf_40 : decode cX6_rowOf 40 = .ok (.iload 4, 2) := by decide +kernel
theorem dX6_rowOf_42 : decode cX6_rowOf 42 = .ok (.if_icmp .ge 40, 3) := by decide +kernel
theorem dX6_rowOf_45 : decode cX6_rowOf 45 = .ok (.iload 6, 2) := by decide +kernel
theorem dX6_rowOf_47 : decode cX6_rowOf 47 = .ok (.ifCond .eq 26, 3) := by decide +kernel
theorem dX6_rowOf_50 : decode cX6_rowOf 50 = .ok (.aload_n 0, 1) := by decide +kernel
theorem dX6_rowOf_51 : decode cX6_rowOf 51 = .ok (.getfield 60, 3) := by decide +kernel
theorem dX6_rowOf_54 : decode cX6_rowOf 54 = .ok (.bipush 16, 2) := by decide +kernel
theorem dX6_rowOf_56 : decode cX6_rowOf 56 = .ok (.iload_n 1, 1) := by decide +kernel
theorem dX6_rowOf_57 : decode cX6_rowOf 57 = .ok (.imul, 1) := by decide +kernel
theorem dX6_rowOf_58 : decode cX6_rowOf 58 = .ok (.iload 7, 2) := by decide +kernel
theorem dX6_rowOf_60 : decode cX6_rowOf 60 = .ok (.iadd, 1) := by decide +kernel
theorem dX6_rowOf_61 : decode cX6_rowOf 61 = .ok (.iaload, 1) := by decide +kernel
theorem dX6_rowOf_62 : decode cX6_rowOf 62 = .ok (.iconst 4, 1) := by decide +kernel
theorem dX6_rowOf_63 : decode cX6_rowOf 63 = .ok (.idiv, 1) := by decide +kernel
theorem dX6_rowOf_64 : decode cX6_rowOf 64 = .ok (.iload 5, 2) := by decide +kernel
theorem dX6_rowOf_66 : decode cX6_rowOf 66 = .ok (.if_icmp .eq 7, 3) := by decide +kernel
theorem dX6_rowOf_69 : decode cX6_rowOf 69 = .ok (.iconst 1, 1) := by decide +kernel
theorem dX6_rowOf_70 : decode cX6_rowOf 70 = .ok (.goto 4, 3) := by decide +kernel
theorem dX6_rowOf_73 : decode cX6_rowOf 73 = .ok (.iconst 0, 1) := by decide +kernel
theorem dX6_rowOf_74 : decode cX6_rowOf 74 = .ok (.istore 6, 2) := by decide +kernel
theorem dX6_rowOf_76 : decode cX6_rowOf 76 = .ok (.iinc 7 1, 3) := by decide +kernel
theorem dX6_rowOf_79 : decode cX6_rowOf 79 = .ok (.goto (-41), 3) := by decide +kernel
theorem dX6_rowOf_82 : decode cX6_rowOf 82 = .ok (.iload 6, 2) := by decide +kernel
theorem dX6_rowOf_84 : decode cX6_rowOf 84 = .ok (.ifCond .eq 10, 3) := by decide +kernel
theorem dX6_rowOf_87 : decode cX6_rowOf 87 = .ok (.iload_n 3, 1) := by decide +kernel
theorem dX6_rowOf_88 : decode cX6_rowOf 88 = .ok (.ifCond .ne 6, 3) := by decide +kernel
theorem dX6_rowOf_91 : decode cX6_rowOf 91 = .ok (.iload 5, 2) := by decide +kernel
theorem dX6_rowOf_93 : decode cX6_rowOf 93 = .ok (.ireturn, 1) := by decide +kernel
theorem dX6_rowOf_94 : decode cX6_rowOf 94 = .ok (.iload_n 3, 1) := by decide +kernel
theorem dX6_rowOf_95 : decode cX6_rowOf 95 = .ok (.iload 6, 2) := by decide +kernel
theorem dX6_rowOf_97 : decode cX6_rowOf 97 = .ok (.ifCond .eq 7, 3) := by decide +kernel
theorem dX6_rowOf_100 : decode cX6_rowOf 100 = .ok (.iconst 1, 1) := by decide +kernel
theorem dX6_rowOf_101 : decode cX6_rowOf 101 = .ok (.goto 4, 3) := by decide +kernel
theorem dX6_rowOf_104 : decode cX6_rowOf 104 = .ok (.iconst 0, 1) := by decide +kernel
theorem dX6_rowOf_105 : decode cX6_rowOf 105 = .ok (.isub, 1) := by decide +kernel
theorem dX6_rowOf_106 : decode cX6_rowOf 106 = .ok (.istore_n 3, 1) := by decide +kernel
theorem dX6_rowOf_107 : decode cX6_rowOf 107 = .ok (.iinc 4 1, 3) := by decide +kernel
theorem dX6_rowOf_110 : decode cX6_rowOf 110 = .ok (.goto (-105), 3) := by decide +kernel
theorem dX6_rowOf_113 : decode cX6_rowOf 113 = .ok (.iconst (-1), 1) := by decide +kernel
theorem dX6_rowOf_114 : decode cX6_rowOf 114 = .ok (.ireturn, 1) := by decide +kernel
theorem dX6_step_0 : decode cX6_step 0 = .ok (.aload_n 0, 1) := by decide +kernel
theorem dX6_step_1 : decode cX6_step 1 = .ok (.iconst 0, 1) := by decide +kernel
theorem dX6_step_2 : decode cX6_step 2 = .ok (.putfield 75, 3) := by decide +kernel
theorem dX6_step_5 : decode cX6_step 5 = .ok (.iload_n 1, 1) := by decide +kernel
theorem dX6_step_6 : decode cX6_step 6 = .ok (.invokestatic 138, 3) := by decide +kernel
theorem dX6_step_9 : decode cX6_step 9 = .ok (.ifCond .eq 5, 3) := by decide +kernel
theorem dX6_step_12 : decode cX6_step 12 = .ok (.iconst (-1), 1) := by decide +kernel
theorem dX6_step_13 : decode cX6_step 13 = .ok (.ireturn, 1) := by decide +kernel
theorem dX6_step_14 : decode cX6_step 14 = .ok (.aload_n 0, 1) := by decide +kernel
theorem dX6_step_15 : decode cX6_step 15 = .ok (.getfield 54, 3) := by decide +kernel
theorem dX6_step_18 : decode cX6_step 18 = .ok (.iload_n 1, 1) := by decide +kernel
theorem dX6_step_19 : decode cX6_step 19 = .ok (.aload_n 0, 1) := by decide +kernel
theorem dX6_step_20 : decode cX6_step 20 = .ok (.getfield 103, 3) := by decide +kernel
theorem dX6_step_23 : decode cX6_step 23 = .ok (.iastore, 1) := by decide +kernel
theorem dX6_step_24 : decode cX6_step 24 = .ok (.aload_n 0, 1) := by decide +kernel
theorem dX6_step_25 : decode cX6_step 25 = .ok (.getfield 48, 3) := by decide +kernel
theorem dX6_step_28 : decode cX6_step 28 = .ok (.iload_n 1, 1) := by decide +kernel
theorem dX6_step_29 : decode cX6_step 29 = .ok (.iaload, 1) := by decide +kernel
theorem dX6_step_30 : decode cX6_step 30 = .ok (.tableswitch 56 2 4 #[26, 36, 46], 26) := by decide +kernel
theorem dX6_step_56 : decode cX6_step 56 = .ok (.aload_n 0, 1) := by decide +kernel
theorem dX6_step_57 : decode cX6_step 57 = .ok (.aload_n 0, 1) := by decide +kernel
theorem dX6_step_58 : decode cX6_step 58 = .ok (.iload_n 1, 1) := by decide +kernel
theorem dX6_step_59 : decode cX6_step 59 = .ok (.invokevirtual 156, 3) := by decide +kernel
theorem dX6_step_62 : decode cX6_step 62 = .ok (.invokevirtual 152, 3) := by decide +kernel
theorem dX6_step_65 : decode cX6_step 65 = .ok (.ireturn, 1) := by decide +kernel
theorem dX6_step_66 : decode cX6_step 66 = .ok (.aload_n 0, 1) := by decide +kernel
theorem dX6_step_67 : decode cX6_step 67 = .ok (.aload_n 0, 1) := by decide +kernel
theorem dX6_step_68 : decode cX6_step 68 = .ok (.iload_n 1, 1) := by decide +kernel
theorem dX6_step_69 : decode cX6_step 69 = .ok (.invokevirtual 159, 3) := by decide +kernel
theorem dX6_step_72 : decode cX6_step 72 = .ok (.invokevirtual 152, 3) := by decide +kernel
theorem dX6_step_75 : decode cX6_step 75 = .ok (.ireturn, 1) := by decide +kernel
theorem dX6_step_76 : decode cX6_step 76 = .ok (.aload_n 0, 1) := by decide +kernel
theorem dX6_step_77 : decode cX6_step 77 = .ok (.aload_n 0, 1) := by decide +kernel
theorem dX6_step_78 : decode cX6_step 78 = .ok (.iload_n 1, 1) := by decide +kernel
theorem dX6_step_79 : decode cX6_step 79 = .ok (.invokevirtual 162, 3) := by decide +kernel
theorem dX6_step_82 : decode cX6_step 82 = .ok (.invokevirtual 152, 3) := by decide +kernel
theorem dX6_step_85 : decode cX6_step 85 = .ok (.ireturn, 1) := by decide +kernel
theorem dX6_step_86 : decode cX6_step 86 = .ok (.bipush (-3), 2) := by decide +kernel
theorem dX6_step_88 : decode cX6_step 88 = .ok (.ireturn, 1) := by decide +kernel
theorem dX6_undoing_0 : decode cX6_undoing 0 = .ok (.aload_n 0, 1) := by decide +kernel
theorem dX6_undoing_1 : decode cX6_undoing 1 = .ok (.getfield 48, 3) := by decide +kernel
theorem dX6_undoing_4 : decode cX6_undoing 4 = .ok (.iload_n 1, 1) := by decide +kernel
theorem dX6_undoing_5 : decode cX6_undoing 5 = .ok (.iconst 4, 1) := by decide +kernel
theorem dX6_undoing_6 : decode cX6_undoing 6 = .ok (.iastore, 1) := by decide +kernel
theorem dX6_undoing_7 : decode cX6_undoing 7 = .ok (.iconst 4, 1) := by decide +kernel
theorem dX6_undoing_8 : decode cX6_undoing 8 = .ok (.ireturn, 1) := by decide +kernel
theorem dX6_lockRow_0 : decode cX6_lockRow 0 = .ok (.aload_n 0, 1) := by decide +kernel
theorem dX6_lockRow_1 : decode cX6_lockRow 1 = .ok (.iload_n 1, 1) := by decide +kernel
theorem dX6_lockRow_2 : decode cX6_lockRow 2 = .ok (.aload_n 0, 1) := by decide +kernel
theorem dX6_lockRow_3 : decode cX6_lockRow 3 = .ok (.getfield 66, 3) := by decide +kernel
theorem dX6_lockRow_6 : decode cX6_lockRow 6 = .ok (.iload_n 1, 1) := by decide +kernel
theorem dX6_lockRow_7 : decode cX6_lockRow 7 = .ok (.iaload, 1) := by decide +kernel
theorem dX6_lockRow_8 : decode cX6_lockRow 8 = .ok (.invokevirtual 165, 3) := by decide +kernel
theorem dX6_lockRow_11 : decode cX6_lockRow 11 = .ok (.istore_n 2, 1) := by decide +kernel
theorem dX6_lockRow_12 : decode cX6_lockRow 12 = .ok (.iload_n 2, 1) := by decide +kernel
theorem dX6_lockRow_13 : decode cX6_lockRow 13 = .ok (.ifCond .ge 9, 3) := by decide +kernel
theorem dX6_lockRow_16 : decode cX6_lockRow 16 = .ok (.aload_n 0, 1) := by decide +kernel
theorem dX6_lockRow_17 : decode cX6_lockRow 17 = .ok (.iload_n 1, 1) := by decide +kernel
theorem dX6_lockRow_18 : decode cX6_lockRow 18 = .ok (.invokevirtual 168, 3) := by decide +kernel
theorem dX6_lockRow_21 : decode cX6_lockRow 21 = .ok (.ireturn, 1) := by decide +kernel
theorem dX6_lockRow_22 : decode cX6_lockRow 22 = .ok (.iconst 0, 1) := by decide +kernel
theorem dX6_lockRow_23 : decode cX6_lockRow 23 = .ok (.istore_n 3, 1) := by decide +kernel
theorem dX6_lockRow_24 : decode cX6_lockRow 24 = .ok (.iconst 4, 1) := by decide +kernel
theorem dX6_lockRow_25 : decode cX6_lockRow 25 = .ok (.iload_n 2, 1) := by decide +kernel
theorem dX6_lockRow_26 : decode cX6_lockRow 26 = .ok (.imul, 1) := by decide +kernel
theorem dX6_lockRow_27 : decode cX6_lockRow 27 = .ok (.istore 4, 2) := by decide +kernel
theorem dX6_lockRow_29 : decode cX6_lockRow 29 = .ok (.iload 4, 2) := by decide +kernel
theorem dX6_lockRow_31 : decode cX6_lockRow 31 = .ok (.iconst 4, 1) := by decide +kernel
theorem dX6_lockRow_32 : decode cX6_lockRow 32 = .ok (.iload_n 2, 1) := by decide +kernel
theorem dX6_lockRow_33 : decode cX6_lockRow 33 = .ok (.imul, 1) := by decide +kernel
theorem dX6_lockRow_34 : decode cX6_lockRow 34 = .ok (.iconst 4, 1) := by decide +kernel
theorem dX6_lockRow_35 : decode cX6_lockRow 35 = .ok (.iadd, 1) := by decide +kernel
theorem dX6_lockRow_36 : decode cX6_lockRow 36 = .ok (.if_icmp .ge 119, 3) := by decide +kernel
theorem dX6_lockRow_39 : decode cX6_lockRow 39 = .ok (.aload_n 0, 1) := by decide +kernel
theorem dX6_lockRow_40 : decode cX6_lockRow 40 = .ok (.iload_n 1, 1) := by decide +kernel
theorem dX6_lockRow_41 : decode cX6_lockRow 41 = .ok (.iload 4, 2) := by decide +kernel
theorem dX6_lockRow_43 : decode cX6_lockRow 43 = .ok (.invokevirtual 121, 3) := by decide +kernel
theorem dX6_lockRow_46 : decode cX6_lockRow 46 = .ok (.ifCond .ge 6, 3) := by decide +kernel
theorem dX6_lockRow_49 : decode cX6_lockRow 49 = .ok (.goto 100, 3) := by decide +kernel
theorem dX6_lockRow_52 : decode cX6_lockRow 52 = .ok (.iinc 3 1, 3) := by decide +kernel
theorem dX6_lockRow_55 : decode cX6_lockRow 55 = .ok (.iconst 0, 1) := by decide +kernel
theorem dX6_lockRow_56 : decode cX6_lockRow 56 = .ok (.istore 5, 2) := by decide +kernel
theorem dX6_lockRow_58 : decode cX6_lockRow 58 = .ok (.iload 5, 2) := by decide +kernel
theorem dX6_lockRow_60 : decode cX6_lockRow 60 = .ok (.aload_n 0, 1) := by decide +kernel
theorem dX6_lockRow_61 : decode cX6_lockRow 61 = .ok (.getfield 81, 3) := by decide +kernel
theorem dX6_lockRow_64 : decode cX6_lockRow 64 = .ok (.if_icmp .ge 43, 3) := by decide +kernel
theorem dX6_lockRow_67 : decode cX6_lockRow 67 = .ok (.aload_n 0, 1) := by decide +kernel
theorem dX6_lockRow_68 : decode cX6_lockRow 68 = .ok (.getfield 26, 3) := by decide +kernel
theorem dX6_lockRow_71 : decode cX6_lockRow 71 = .ok (.iload 5, 2) := by decide +kernel
theorem dX6_lockRow_73 : decode cX6_lockRow 73 = .ok (.iaload, 1) := by decide +kernel
theorem dX6_lockRow_74 : decode cX6_lockRow 74 = .ok (.iload 4, 2) := by decide +kernel
theorem dX6_lockRow_76 : decode cX6_lockRow 76 = .ok (.if_icmp .ne 25, 3) := by decide +kernel
theorem dX6_lockRow_79 : decode cX6_lockRow 79 = .ok (.aload_n 0, 1) := by decide +kernel
theorem dX6_lockRow_80 : decode cX6_lockRow 80 = .ok (.getfield 29, 3) := by decide +kernel
theorem dX6_lockRow_83 : decode cX6_lockRow 83 = .ok (.iload 5, 2) := by decide +kernel
theorem dX6_lockRow_85 : decode cX6_lockRow 85 = .ok (.iaload, 1) := by decide +kernel
theorem dX6_lockRow_86 : decode cX6_lockRow 86 = .ok (.aload_n 0, 1) := by decide +kernel
theorem dX6_lockRow_87 : decode cX6_lockRow 87 = .ok (.getfield 51, 3) := by decide +kernel
theorem dX6_lockRow_90 : decode cX6_lockRow 90 = .ok (.iload_n 1, 1) := by decide +kernel
theorem dX6_lockRow_91 : decode cX6_lockRow 91 = .ok (.iaload, 1) := by decide +kernel
theorem dX6_lockRow_92 : decode cX6_lockRow 92 = .ok (.if_icmp .lt 9, 3) := by decide +kernel
theorem dX6_lockRow_95 : decode cX6_lockRow 95 = .ok (.aload_n 0, 1) := by decide +kernel
theorem dX6_lockRow_96 : decode cX6_lockRow 96 = .ok (.iload_n 1, 1) := by decide +kernel
theorem dX6_lockRow_97 : decode cX6_lockRow 97 = .ok (.invokevirtual 171, 3) := by decide +kernel
theorem dX6_lockRow_100 : decode cX6_lockRow 100 = .ok (.ireturn, 1) := by decide +kernel
theorem dX6_lockRow_101 : decode cX6_lockRow 101 = .ok (.iinc 5 1, 3) := by decide +kernel
theorem dX6_lockRow_104 : decode cX6_lockRow 104 = .ok (.goto (-46), 3) := by decide +kernel
theorem dX6_lockRow_107 : decode cX6_lockRow 107 = .ok (.aload_n 0, 1) := by decide +kernel
theorem dX6_lockRow_108 : decode cX6_lockRow 108 = .ok (.getfield 39, 3) := by decide +kernel
theorem dX6_lockRow_111 : decode cX6_lockRow 111 = .ok (.iload 4, 2) := by decide +kernel
theorem dX6_lockRow_113 : decode cX6_lockRow 113 = .ok (.iaload, 1) := by decide +kernel
theorem dX6_lockRow_114 : decode cX6_lockRow 114 = .ok (.ifCond .le 35, 3) := by decide +kernel
theorem dX6_lockRow_117 : decode cX6_lockRow 117 = .ok (.aload_n 0, 1) := by decide +kernel
theorem dX6_lockRow_118 : decode cX6_lockRow 118 = .ok (.iload 4, 2) := by decide +kernel
theorem dX6_lockRow_120 : decode cX6_lockRow 120 = .ok (.invokevirtual 124, 3) := by decide +kernel
theorem dX6_lockRow_123 : decode cX6_lockRow 123 = .ok (.ifCond .ne 18, 3) := by decide +kernel
theorem dX6_lockRow_126 : decode cX6_lockRow 126 = .ok (.aload_n 0, 1) := by decide +kernel
theorem dX6_lockRow_127 : decode cX6_lockRow 127 = .ok (.iload 4, 2) := by decide +kernel
theorem dX6_lockRow_129 : decode cX6_lockRow 129 = .ok (.invokevirtual 128, 3) := by decide +kernel
theorem dX6_lockRow_132 : decode cX6_lockRow 132 = .ok (.ifCond .ne 9, 3) := by decide +kernel
theorem dX6_lockRow_135 : decode cX6_lockRow 135 = .ok (.aload_n 0, 1) := by decide +kernel
theorem dX6_lockRow_136 : decode cX6_lockRow 136 = .ok (.iload_n 1, 1) := by decide +kernel
theorem dX6_lockRow_137 : decode cX6_lockRow 137 = .ok (.invokevirtual 171, 3) := by decide +kernel
theorem dX6_lockRow_140 : decode cX6_lockRow 140 = .ok (.ireturn, 1) := by decide +kernel
theorem dX6_lockRow_141 : decode cX6_lockRow 141 = .ok (.aload_n 0, 1) := by decide +kernel
theorem dX6_lockRow_142 : decode cX6_lockRow 142 = .ok (.iload 4, 2) := by decide +kernel
theorem dX6_lockRow_144 : decode cX6_lockRow 144 = .ok (.invokevirtual 131, 3) := by decide +kernel
theorem dX6_lockRow_147 : decode cX6_lockRow 147 = .ok (.iconst 5, 1) := by decide +kernel
theorem dX6_lockRow_148 : decode cX6_lockRow 148 = .ok (.ireturn, 1) := by decide +kernel
theorem dX6_lockRow_149 : decode cX6_lockRow 149 = .ok (.iinc 4 1, 3) := by decide +kernel
theorem dX6_lockRow_152 : decode cX6_lockRow 152 = .ok (.goto (-123), 3) := by decide +kernel
theorem dX6_lockRow_155 : decode cX6_lockRow 155 = .ok (.aload_n 0, 1) := by decide +kernel
theorem dX6_lockRow_156 : decode cX6_lockRow 156 = .ok (.invokevirtual 174, 3) := by decide +kernel
theorem dX6_lockRow_159 : decode cX6_lockRow 159 = .ok (.iconst 3, 1) := by decide +kernel
theorem dX6_lockRow_160 : decode cX6_lockRow 160 = .ok (.iload_n 3, 1) := by decide +kernel
theorem dX6_lockRow_161 : decode cX6_lockRow 161 = .ok (.imul, 1) := by decide +kernel
theorem dX6_lockRow_162 : decode cX6_lockRow 162 = .ok (.iadd, 1) := by decide +kernel
theorem dX6_lockRow_163 : decode cX6_lockRow 163 = .ok (.sipush 3000, 3) := by decide +kernel
theorem dX6_lockRow_166 : decode cX6_lockRow 166 = .ok (.if_icmp .le 6, 3) := by decide +kernel
theorem dX6_lockRow_169 : decode cX6_lockRow 169 = .ok (.bipush (-4), 2) := by decide +kernel
theorem dX6_lockRow_171 : decode cX6_lockRow 171 = .ok (.ireturn, 1) := by decide +kernel
theorem dX6_lockRow_172 : decode cX6_lockRow 172 = .ok (.iconst 4, 1) := by decide +kernel
theorem dX6_lockRow_173 : decode cX6_lockRow 173 = .ok (.iload_n 2, 1) := by decide +kernel
theorem dX6_lockRow_174 : decode cX6_lockRow 174 = .ok (.imul, 1) := by decide +kernel
theorem dX6_lockRow_175 : decode cX6_lockRow 175 = .ok (.istore 4, 2) := by decide +kernel
theorem dX6_lockRow_177 : decode cX6_lockRow 177 = .ok (.iload 4, 2) := by decide +kernel
theorem dX6_lockRow_179 : decode cX6_lockRow 179 = .ok (.iconst 4, 1) := by decide +kernel
theorem dX6_lockRow_180 : decode cX6_lockRow 180 = .ok (.iload_n 2, 1) := by decide +kernel
theorem dX6_lockRow_181 : decode cX6_lockRow 181 = .ok (.imul, 1) := by decide +kernel
theorem dX6_lockRow_182 : decode cX6_lockRow 182 = .ok (.iconst 4, 1) := by decide +kernel
theorem dX6_lockRow_183 : decode cX6_lockRow 183 = .ok (.iadd, 1) := by decide +kernel
theorem dX6_lockRow_184 : decode cX6_lockRow 184 = .ok (.if_icmp .ge 68, 3) := by decide +kernel
theorem dX6_lockRow_187 : decode cX6_lockRow 187 = .ok (.aload_n 0, 1) := by decide +kernel
theorem dX6_lockRow_188 : decode cX6_lockRow 188 = .ok (.iload_n 1, 1) := by decide +kernel
theorem dX6_lockRow_189 : decode cX6_lockRow 189 = .ok (.iload 4, 2) := by decide +kernel
theorem dX6_lockRow_191 : decode cX6_lockRow 191 = .ok (.invokevirtual 121, 3) := by decide +kernel
theorem dX6_lockRow_194 : decode cX6_lockRow 194 = .ok (.istore 5, 2) := by decide +kernel
theorem dX6_lockRow_196 : decode cX6_lockRow 196 = .ok (.iload 5, 2) := by decide +kernel
theorem dX6_lockRow_198 : decode cX6_lockRow 198 = .ok (.ifCond .lt 48, 3) := by decide +kernel
theorem dX6_lockRow_201 : decode cX6_lockRow 201 = .ok (.aload_n 0, 1) := by decide +kernel
theorem dX6_lockRow_202 : decode cX6_lockRow 202 = .ok (.iload 4, 2) := by decide +kernel
theorem dX6_lockRow_204 : decode cX6_lockRow 204 = .ok (.aload_n 0, 1) := by decide +kernel
theorem dX6_lockRow_205 : decode cX6_lockRow 205 = .ok (.getfield 51, 3) := by decide +kernel
theorem dX6_lockRow_208 : decode cX6_lockRow 208 = .ok (.iload_n 1, 1) := by decide +kernel
theorem dX6_lockRow_209 : decode cX6_lockRow 209 = .ok (.iaload, 1) := by decide +kernel
theorem dX6_lockRow_210 : decode cX6_lockRow 210 = .ok (.aload_n 0, 1) := by decide +kernel
theorem dX6_lockRow_211 : decode cX6_lockRow 211 = .ok (.getfield 63, 3) := by decide +kernel
theorem dX6_lockRow_214 : decode cX6_lockRow 214 = .ok (.bipush 16, 2) := by decide +kernel
theorem dX6_lockRow_216 : decode cX6_lockRow 216 = .ok (.iload_n 1, 1) := by decide +kernel
theorem dX6_lockRow_217 : decode cX6_lockRow 217 = .ok (.imul, 1) := by decide +kernel
theorem dX6_lockRow_218 : decode cX6_lockRow 218 = .ok (.iload 5, 2) := by decide +kernel
theorem dX6_lockRow_220 : decode cX6_lockRow 220 = .ok (.iadd, 1) := by decide +kernel
theorem dX6_lockRow_221 : decode cX6_lockRow 221 = .ok (.iaload, 1) := by decide +kernel
theorem dX6_lockRow_222 : decode cX6_lockRow 222 = .ok (.invokevirtual 177, 3) := by decide +kernel
theorem dX6_lockRow_225 : decode cX6_lockRow 225 = .ok (.aload_n 0, 1) := by decide +kernel
theorem dX6_lockRow_226 : decode cX6_lockRow 226 = .ok (.iload 4, 2) := by decide +kernel
theorem dX6_lockRow_228 : decode cX6_lockRow 228 = .ok (.aload_n 0, 1) := by decide +kernel
theorem dX6_lockRow_229 : decode cX6_lockRow 229 = .ok (.getfield 51, 3) := by decide +kernel
theorem dX6_lockRow_232 : decode cX6_lockRow 232 = .ok (.iload_n 1, 1) := by decide +kernel
theorem dX6_lockRow_233 : decode cX6_lockRow 233 = .ok (.iaload, 1) := by decide +kernel
theorem dX6_lockRow_234 : decode cX6_lockRow 234 = .ok (.aload_n 0, 1) := by decide +kernel
theorem dX6_lockRow_235 : decode cX6_lockRow 235 = .ok (.getfield 60, 3) := by decide +kernel
theorem dX6_lockRow_238 : decode cX6_lockRow 238 = .ok (.bipush 16, 2) := by decide +kernel
theorem dX6_lockRow_240 : decode cX6_lockRow 240 = .ok (.iload_n 1, 1) := by decide +kernel
theorem dX6_lockRow_241 : decode cX6_lockRow 241 = .ok (.imul, 1) := by decide +kernel
theorem dX6_lockRow_242 : decode cX6_lockRow 242 = .ok (.iaload, 1) := by decide +kernel
theorem dX6_lockRow_243 : decode cX6_lockRow 243 = .ok (.invokevirtual 181, 3) := by decide +kernel
theorem dX6_lockRow_246 : decode cX6_lockRow 246 = .ok (.iinc 4 1, 3) := by decide +kernel
theorem dX6_lockRow_249 : decode cX6_lockRow 249 = .ok (.goto (-72), 3) := by decide +kernel
theorem dX6_lockRow_252 : decode cX6_lockRow 252 = .ok (.aload_n 0, 1) := by decide +kernel
theorem dX6_lockRow_253 : decode cX6_lockRow 253 = .ok (.getfield 66, 3) := by decide +kernel
theorem dX6_lockRow_256 : decode cX6_lockRow 256 = .ok (.iload_n 1, 1) := by decide +kernel
theorem dX6_lockRow_257 : decode cX6_lockRow 257 = .ok (.dup2, 1) := by decide +kernel
theorem dX6_lockRow_258 : decode cX6_lockRow 258 = .ok (.iaload, 1) := by decide +kernel
theorem dX6_lockRow_259 : decode cX6_lockRow 259 = .ok (.iconst 1, 1) := by decide +kernel
theorem dX6_lockRow_260 : decode cX6_lockRow 260 = .ok (.iadd, 1) := by decide +kernel
theorem dX6_lockRow_261 : decode cX6_lockRow 261 = .ok (.iastore, 1) := by decide +kernel
theorem dX6_lockRow_262 : decode cX6_lockRow 262 = .ok (.iconst 1, 1) := by decide +kernel
theorem dX6_lockRow_263 : decode cX6_lockRow 263 = .ok (.ireturn, 1) := by decide +kernel
theorem dX6_decide_0 : decode cX6_decide 0 = .ok (.aload_n 0, 1) := by decide +kernel
theorem dX6_decide_1 : decode cX6_decide 1 = .ok (.invokevirtual 141, 3) := by decide +kernel
theorem dX6_decide_4 : decode cX6_decide 4 = .ok (.istore_n 2, 1) := by decide +kernel
theorem dX6_decide_5 : decode cX6_decide 5 = .ok (.aload_n 0, 1) := by decide +kernel
theorem dX6_decide_6 : decode cX6_decide 6 = .ok (.getfield 60, 3) := by decide +kernel
theorem dX6_decide_9 : decode cX6_decide 9 = .ok (.bipush 16, 2) := by decide +kernel
theorem dX6_decide_11 : decode cX6_decide 11 = .ok (.iload_n 1, 1) := by decide +kernel
theorem dX6_decide_12 : decode cX6_decide 12 = .ok (.imul, 1) := by decide +kernel
theorem dX6_decide_13 : decode cX6_decide 13 = .ok (.iaload, 1) := by decide +kernel
theorem dX6_decide_14 : decode cX6_decide 14 = .ok (.istore_n 3, 1) := by decide +kernel
theorem dX6_decide_15 : decode cX6_decide 15 = .ok (.aload_n 0, 1) := by decide +kernel
theorem dX6_decide_16 : decode cX6_decide 16 = .ok (.getfield 39, 3) := by decide +kernel
theorem dX6_decide_19 : decode cX6_decide 19 = .ok (.iload_n 3, 1) := by decide +kernel
theorem dX6_decide_20 : decode cX6_decide 20 = .ok (.iaload, 1) := by decide +kernel
theorem dX6_decide_21 : decode cX6_decide 21 = .ok (.aload_n 0, 1) := by decide +kernel
theorem dX6_decide_22 : decode cX6_decide 22 = .ok (.getfield 51, 3) := by decide +kernel
theorem dX6_decide_25 : decode cX6_decide 25 = .ok (.iload_n 1, 1) := by decide +kernel
theorem dX6_decide_26 : decode cX6_decide 26 = .ok (.iaload, 1) := by decide +kernel
theorem dX6_decide_27 : decode cX6_decide 27 = .ok (.if_icmp .eq 9, 3) := by decide +kernel
theorem dX6_decide_30 : decode cX6_decide 30 = .ok (.aload_n 0, 1) := by decide +kernel
theorem dX6_decide_31 : decode cX6_decide 31 = .ok (.iload_n 1, 1) := by decide +kernel
theorem dX6_decide_32 : decode cX6_decide 32 = .ok (.invokevirtual 171, 3) := by decide +kernel
theorem dX6_decide_35 : decode cX6_decide 35 = .ok (.ireturn, 1) := by decide +kernel
theorem dX6_decide_36 : decode cX6_decide 36 = .ok (.aload_n 0, 1) := by decide +kernel
theorem dX6_decide_37 : decode cX6_decide 37 = .ok (.iload_n 1, 1) := by decide +kernel
theorem dX6_decide_38 : decode cX6_decide 38 = .ok (.iload_n 3, 1) := by decide +kernel
theorem dX6_decide_39 : decode cX6_decide 39 = .ok (.iconst 4, 1) := by decide +kernel
theorem dX6_decide_40 : decode cX6_decide 40 = .ok (.idiv, 1) := by decide +kernel
theorem dX6_decide_41 : decode cX6_decide 41 = .ok (.iload_n 2, 1) := by decide +kernel
theorem dX6_decide_42 : decode cX6_decide 42 = .ok (.invokevirtual 184, 3) := by decide +kernel
theorem dX6_decide_45 : decode cX6_decide 45 = .ok (.aload_n 0, 1) := by decide +kernel
theorem dX6_decide_46 : decode cX6_decide 46 = .ok (.getfield 69, 3) := by decide +kernel
theorem dX6_decide_49 : decode cX6_decide 49 = .ok (.iload_n 1, 1) := by decide +kernel
theorem dX6_decide_50 : decode cX6_decide 50 = .ok (.iload_n 2, 1) := by decide +kernel
theorem dX6_decide_51 : decode cX6_decide 51 = .ok (.iastore, 1) := by decide +kernel
theorem dX6_decide_52 : decode cX6_decide 52 = .ok (.aload_n 0, 1) := by decide +kernel
theorem dX6_decide_53 : decode cX6_decide 53 = .ok (.dup, 1) := by decide +kernel
theorem dX6_decide_54 : decode cX6_decide 54 = .ok (.getfield 187, 3) := by decide +kernel
theorem dX6_decide_57 : decode cX6_decide 57 = .ok (.iconst 1, 1) := by decide +kernel
theorem dX6_decide_58 : decode cX6_decide 58 = .ok (.iadd, 1) := by decide +kernel
theorem dX6_decide_59 : decode cX6_decide 59 = .ok (.putfield 187, 3) := by decide +kernel
theorem dX6_decide_62 : decode cX6_decide 62 = .ok (.aload_n 0, 1) := by decide +kernel
theorem dX6_decide_63 : decode cX6_decide 63 = .ok (.getfield 66, 3) := by decide +kernel
theorem dX6_decide_66 : decode cX6_decide 66 = .ok (.iload_n 1, 1) := by decide +kernel
theorem dX6_decide_67 : decode cX6_decide 67 = .ok (.iconst 1, 1) := by decide +kernel
theorem dX6_decide_68 : decode cX6_decide 68 = .ok (.iastore, 1) := by decide +kernel
theorem dX6_decide_69 : decode cX6_decide 69 = .ok (.aload_n 0, 1) := by decide +kernel
theorem dX6_decide_70 : decode cX6_decide 70 = .ok (.getfield 48, 3) := by decide +kernel
theorem dX6_decide_73 : decode cX6_decide 73 = .ok (.iload_n 1, 1) := by decide +kernel
theorem dX6_decide_74 : decode cX6_decide 74 = .ok (.aload_n 0, 1) := by decide +kernel
theorem dX6_decide_75 : decode cX6_decide 75 = .ok (.iload_n 1, 1) := by decide +kernel
theorem dX6_decide_76 : decode cX6_decide 76 = .ok (.iconst 1, 1) := by decide +kernel
theorem dX6_decide_77 : decode cX6_decide 77 = .ok (.invokevirtual 165, 3) := by decide +kernel
theorem dX6_decide_80 : decode cX6_decide 80 = .ok (.ifCond .ge 7, 3) := by decide +kernel
theorem dX6_decide_83 : decode cX6_decide 83 = .ok (.iconst 0, 1) := by decide +kernel
theorem dX6_decide_84 : decode cX6_decide 84 = .ok (.goto 4, 3) := by decide +kernel
theorem dX6_decide_87 : decode cX6_decide 87 = .ok (.iconst 3, 1) := by decide +kernel
theorem dX6_decide_88 : decode cX6_decide 88 = .ok (.iastore, 1) := by decide +kernel
theorem dX6_decide_89 : decode cX6_decide 89 = .ok (.iconst 2, 1) := by decide +kernel
theorem dX6_decide_90 : decode cX6_decide 90 = .ok (.ireturn, 1) := by decide +kernel
theorem dX6_settleRow_0 : decode cX6_settleRow 0 = .ok (.iconst 4, 1) := by decide +kernel
theorem dX6_settleRow_1 : decode cX6_settleRow 1 = .ok (.iload_n 2, 1) := by decide +kernel
theorem dX6_settleRow_2 : decode cX6_settleRow 2 = .ok (.imul, 1) := by decide +kernel
theorem dX6_settleRow_3 : decode cX6_settleRow 3 = .ok (.istore 4, 2) := by decide +kernel
theorem dX6_settleRow_5 : decode cX6_settleRow 5 = .ok (.iload 4, 2) := by decide +kernel
theorem dX6_settleRow_7 : decode cX6_settleRow 7 = .ok (.iconst 4, 1) := by decide +kernel
theorem dX6_settleRow_8 : decode cX6_settleRow 8 = .ok (.iload_n 2, 1) := by decide +kernel
theorem dX6_settleRow_9 : decode cX6_settleRow 9 = .ok (.imul, 1) := by decide +kernel
theorem dX6_settleRow_10 : decode cX6_settleRow 10 = .ok (.iconst 4, 1) := by decide +kernel
theorem dX6_settleRow_11 : decode cX6_settleRow 11 = .ok (.iadd, 1) := by decide +kernel
theorem dX6_settleRow_12 : decode cX6_settleRow 12 = .ok (.if_icmp .ge 55, 3) := by decide +kernel
theorem dX6_settleRow_15 : decode cX6_settleRow 15 = .ok (.aload_n 0, 1) := by decide +kernel
theorem dX6_settleRow_16 : decode cX6_settleRow 16 = .ok (.iload_n 1, 1) := by decide +kernel
theorem dX6_settleRow_17 : decode cX6_settleRow 17 = .ok (.iload 4, 2) := by decide +kernel
theorem dX6_settleRow_19 : decode cX6_settleRow 19 = .ok (.invokevirtual 121, 3) := by decide +kernel
theorem dX6_settleRow_22 : decode cX6_settleRow 22 = .ok (.ifCond .lt 39, 3) := by decide +kernel
theorem dX6_settleRow_25 : decode cX6_settleRow 25 = .ok (.aload_n 0, 1) := by decide +kernel
theorem dX6_settleRow_26 : decode cX6_settleRow 26 = .ok (.getfield 39, 3) := by decide +kernel
theorem dX6_settleRow_29 : decode cX6_settleRow 29 = .ok (.iload 4, 2) := by decide +kernel
theorem dX6_settleRow_31 : decode cX6_settleRow 31 = .ok (.iaload, 1) := by decide +kernel
theorem dX6_settleRow_32 : decode cX6_settleRow 32 = .ok (.aload_n 0, 1) := by decide +kernel
theorem dX6_settleRow_33 : decode cX6_settleRow 33 = .ok (.getfield 51, 3) := by decide +kernel
theorem dX6_settleRow_36 : decode cX6_settleRow 36 = .ok (.iload_n 1, 1) := by decide +kernel
theorem dX6_settleRow_37 : decode cX6_settleRow 37 = .ok (.iaload, 1) := by decide +kernel
theorem dX6_settleRow_38 : decode cX6_settleRow 38 = .ok (.if_icmp .ne 23, 3) := by decide +kernel
theorem dX6_settleRow_41 : decode cX6_settleRow 41 = .ok (.aload_n 0, 1) := by decide +kernel
theorem dX6_settleRow_42 : decode cX6_settleRow 42 = .ok (.iload 4, 2) := by decide +kernel
theorem dX6_settleRow_44 : decode cX6_settleRow 44 = .ok (.iload_n 3, 1) := by decide +kernel
theorem dX6_settleRow_45 : decode cX6_settleRow 45 = .ok (.aload_n 0, 1) := by decide +kernel
theorem dX6_settleRow_46 : decode cX6_settleRow 46 = .ok (.getfield 51, 3) := by decide +kernel
theorem dX6_settleRow_49 : decode cX6_settleRow 49 = .ok (.iload_n 1, 1) := by decide +kernel
theorem dX6_settleRow_50 : decode cX6_settleRow 50 = .ok (.iaload, 1) := by decide +kernel
theorem dX6_settleRow_51 : decode cX6_settleRow 51 = .ok (.iconst 0, 1) := by decide +kernel
theorem dX6_settleRow_52 : decode cX6_settleRow 52 = .ok (.invokevirtual 117, 3) := by decide +kernel
theorem dX6_settleRow_55 : decode cX6_settleRow 55 = .ok (.aload_n 0, 1) := by decide +kernel
theorem dX6_settleRow_56 : decode cX6_settleRow 56 = .ok (.iload 4, 2) := by decide +kernel
theorem dX6_settleRow_58 : decode cX6_settleRow 58 = .ok (.invokevirtual 109, 3) := by decide +kernel
theorem dX6_settleRow_61 : decode cX6_settleRow 61 = .ok (.iinc 4 1, 3) := by decide +kernel
theorem dX6_settleRow_64 : decode cX6_settleRow 64 = .ok (.goto (-59), 3) := by decide +kernel
theorem dX6_settleRow_67 : decode cX6_settleRow 67 = .ok (.return_, 1) := by decide +kernel
theorem dX6_settle_0 : decode cX6_settle 0 = .ok (.aload_n 0, 1) := by decide +kernel
theorem dX6_settle_1 : decode cX6_settle 1 = .ok (.iload_n 1, 1) := by decide +kernel
theorem dX6_settle_2 : decode cX6_settle 2 = .ok (.aload_n 0, 1) := by decide +kernel
theorem dX6_settle_3 : decode cX6_settle 3 = .ok (.iload_n 1, 1) := by decide +kernel
theorem dX6_settle_4 : decode cX6_settle 4 = .ok (.aload_n 0, 1) := by decide +kernel
theorem dX6_settle_5 : decode cX6_settle 5 = .ok (.getfield 66, 3) := by decide +kernel
theorem dX6_settle_8 : decode cX6_settle 8 = .ok (.iload_n 1, 1) := by decide +kernel
theorem dX6_settle_9 : decode cX6_settle 9 = .ok (.iaload, 1) := by decide +kernel
theorem dX6_settle_10 : decode cX6_settle 10 = .ok (.invokevirtual 165, 3) := by decide +kernel
theorem dX6_settle_13 : decode cX6_settle 13 = .ok (.aload_n 0, 1) := by decide +kernel
theorem dX6_settle_14 : decode cX6_settle 14 = .ok (.getfield 69, 3) := by decide +kernel
theorem dX6_settle_17 : decode cX6_settle 17 = .ok (.iload_n 1, 1) := by decide +kernel
theorem dX6_settle_18 : decode cX6_settle 18 = .ok (.iaload, 1) := by decide +kernel
theorem dX6_settle_19 : decode cX6_settle 19 = .ok (.invokevirtual 184, 3) := by decide +kernel
theorem dX6_settle_22 : decode cX6_settle 22 = .ok (.aload_n 0, 1) := by decide +kernel
theorem dX6_settle_23 : decode cX6_settle 23 = .ok (.getfield 66, 3) := by decide +kernel
theorem dX6_settle_26 : decode cX6_settle 26 = .ok (.iload_n 1, 1) := by decide +kernel
theorem dX6_settle_27 : decode cX6_settle 27 = .ok (.dup2, 1) := by decide +kernel
theorem dX6_settle_28 : decode cX6_settle 28 = .ok (.iaload, 1) := by decide +kernel
theorem dX6_settle_29 : decode cX6_settle 29 = .ok (.iconst 1, 1) := by decide +kernel
theorem dX6_settle_30 : decode cX6_settle 30 = .ok (.iadd, 1) := by decide +kernel
theorem dX6_settle_31 : decode cX6_settle 31 = .ok (.iastore, 1) := by decide +kernel
theorem dX6_settle_32 : decode cX6_settle 32 = .ok (.aload_n 0, 1) := by decide +kernel
theorem dX6_settle_33 : decode cX6_settle 33 = .ok (.iload_n 1, 1) := by decide +kernel
theorem dX6_settle_34 : decode cX6_settle 34 = .ok (.aload_n 0, 1) := by decide +kernel
theorem dX6_settle_35 : decode cX6_settle 35 = .ok (.getfield 66, 3) := by decide +kernel
theorem dX6_settle_38 : decode cX6_settle 38 = .ok (.iload_n 1, 1) := by decide +kernel
theorem dX6_settle_39 : decode cX6_settle 39 = .ok (.iaload, 1) := by decide +kernel
theorem dX6_settle_40 : decode cX6_settle 40 = .ok (.invokevirtual 165, 3) := by decide +kernel
theorem dX6_settle_43 : decode cX6_settle 43 = .ok (.ifCond .lt 5, 3) := by decide +kernel
theorem dX6_settle_46 : decode cX6_settle 46 = .ok (.iconst 1, 1) := by decide +kernel
theorem dX6_settle_47 : decode cX6_settle 47 = .ok (.ireturn, 1) := by decide +kernel
theorem dX6_settle_48 : decode cX6_settle 48 = .ok (.aload_n 0, 1) := by decide +kernel
theorem dX6_settle_49 : decode cX6_settle 49 = .ok (.getfield 48, 3) := by decide +kernel
theorem dX6_settle_52 : decode cX6_settle 52 = .ok (.iload_n 1, 1) := by decide +kernel
theorem dX6_settle_53 : decode cX6_settle 53 = .ok (.iconst 0, 1) := by decide +kernel
theorem dX6_settle_54 : decode cX6_settle 54 = .ok (.iastore, 1) := by decide +kernel
theorem dX6_settle_55 : decode cX6_settle 55 = .ok (.iconst 3, 1) := by decide +kernel
theorem dX6_settle_56 : decode cX6_settle 56 = .ok (.ireturn, 1) := by decide +kernel
theorem dX6_undo_0 : decode cX6_undo 0 = .ok (.iconst 0, 1) := by decide +kernel
theorem dX6_undo_1 : decode cX6_undo 1 = .ok (.istore_n 2, 1) := by decide +kernel
theorem dX6_undo_2 : decode cX6_undo 2 = .ok (.aload_n 0, 1) := by decide +kernel
theorem dX6_undo_3 : decode cX6_undo 3 = .ok (.iload_n 1, 1) := by decide +kernel
theorem dX6_undo_4 : decode cX6_undo 4 = .ok (.iload_n 2, 1) := by decide +kernel
theorem dX6_undo_5 : decode cX6_undo 5 = .ok (.invokevirtual 165, 3) := by decide +kernel
theorem dX6_undo_8 : decode cX6_undo 8 = .ok (.ifCond .lt 189, 3) := by decide +kernel
theorem dX6_undo_11 : decode cX6_undo 11 = .ok (.aload_n 0, 1) := by decide +kernel
theorem dX6_undo_12 : decode cX6_undo 12 = .ok (.iload_n 1, 1) := by decide +kernel
theorem dX6_undo_13 : decode cX6_undo 13 = .ok (.iload_n 2, 1) := by decide +kernel
theorem dX6_undo_14 : decode cX6_undo 14 = .ok (.invokevirtual 165, 3) := by decide +kernel
theorem dX6_undo_17 : decode cX6_undo 17 = .ok (.istore_n 3, 1) := by decide +kernel
theorem dX6_undo_18 : decode cX6_undo 18 = .ok (.iconst 0, 1) := by decide +kernel
theorem dX6_undo_19 : decode cX6_undo 19 = .ok (.istore 4, 2) := by decide +kernel
theorem dX6_undo_21 : decode cX6_undo 21 = .ok (.iconst 4, 1) := by decide +kernel
theorem dX6_undo_22 : decode cX6_undo 22 = .ok (.iload_n 3, 1) := by decide +kernel
theorem dX6_undo_23 : decode cX6_undo 23 = .ok (.imul, 1) := by decide +kernel
theorem dX6_undo_24 : decode cX6_undo 24 = .ok (.istore 5, 2) := by decide +kernel
theorem dX6_undo_26 : decode cX6_undo 26 = .ok (.iload 5, 2) := by decide +kernel
theorem dX6_undo_28 : decode cX6_undo 28 = .ok (.iconst 4, 1) := by decide +kernel
theorem dX6_undo_29 : decode cX6_undo 29 = .ok (.iload_n 3, 1) := by decide +kernel
theorem dX6_undo_30 : decode cX6_undo 30 = .ok (.imul, 1) := by decide +kernel
theorem dX6_undo_31 : decode cX6_undo 31 = .ok (.iconst 4, 1) := by decide +kernel
theorem dX6_undo_32 : decode cX6_undo 32 = .ok (.iadd, 1) := by decide +kernel
theorem dX6_undo_33 : decode cX6_undo 33 = .ok (.if_icmp .ge 47, 3) := by decide +kernel
theorem dX6_undo_36 : decode cX6_undo 36 = .ok (.iload 4, 2) := by decide +kernel
theorem dX6_undo_38 : decode cX6_undo 38 = .ok (.ifCond .ne 29, 3) := by decide +kernel
theorem dX6_undo_41 : decode cX6_undo 41 = .ok (.aload_n 0, 1) := by decide +kernel
theorem dX6_undo_42 : decode cX6_undo 42 = .ok (.iload_n 1, 1) := by decide +kernel
theorem dX6_undo_43 : decode cX6_undo 43 = .ok (.iload 5, 2) := by decide +kernel
theorem dX6_undo_45 : decode cX6_undo 45 = .ok (.invokevirtual 121, 3) := by decide +kernel
theorem dX6_undo_48 : decode cX6_undo 48 = .ok (.ifCond .lt 23, 3) := by decide +kernel
theorem dX6_undo_51 : decode cX6_undo 51 = .ok (.aload_n 0, 1) := by decide +kernel
theorem dX6_undo_52 : decode cX6_undo 52 = .ok (.getfield 39, 3) := by decide +kernel
theorem dX6_undo_55 : decode cX6_undo 55 = .ok (.iload 5, 2) := by decide +kernel
theorem dX6_undo_57 : decode cX6_undo 57 = .ok (.iaload, 1) := by decide +kernel
theorem dX6_undo_58 : decode cX6_undo 58 = .ok (.aload_n 0, 1) := by decide +kernel
theorem dX6_undo_59 : decode cX6_undo 59 = .ok (.getfield 51, 3) := by decide +kernel
theorem dX6_undo_62 : decode cX6_undo 62 = .ok (.iload_n 1, 1) := by decide +kernel
theorem dX6_undo_63 : decode cX6_undo 63 = .ok (.iaload, 1) := by decide +kernel
theorem dX6_undo_64 : decode cX6_undo 64 = .ok (.if_icmp .ne 7, 3) := by decide +kernel
theorem dX6_undo_67 : decode cX6_undo 67 = .ok (.iconst 1, 1) := by decide +kernel
theorem dX6_undo_68 : decode cX6_undo 68 = .ok (.goto 4, 3) := by decide +kernel
theorem dX6_undo_71 : decode cX6_undo 71 = .ok (.iconst 0, 1) := by decide +kernel
theorem dX6_undo_72 : decode cX6_undo 72 = .ok (.istore 4, 2) := by decide +kernel
theorem dX6_undo_74 : decode cX6_undo 74 = .ok (.iinc 5 1, 3) := by decide +kernel
theorem dX6_undo_77 : decode cX6_undo 77 = .ok (.goto (-51), 3) := by decide +kernel
theorem dX6_undo_80 : decode cX6_undo 80 = .ok (.iload 4, 2) := by decide +kernel
theorem dX6_undo_82 : decode cX6_undo 82 = .ok (.ifCond .ne 6, 3) := by decide +kernel
theorem dX6_undo_85 : decode cX6_undo 85 = .ok (.goto 106, 3) := by decide +kernel
theorem dX6_undo_88 : decode cX6_undo 88 = .ok (.iconst 4, 1) := by decide +kernel
theorem dX6_undo_89 : decode cX6_undo 89 = .ok (.iload_n 3, 1) := by decide +kernel
theorem dX6_undo_90 : decode cX6_undo 90 = .ok (.imul, 1) := by decide +kernel
theorem dX6_undo_91 : decode cX6_undo 91 = .ok (.istore 5, 2) := by decide +kernel
theorem dX6_undo_93 : decode cX6_undo 93 = .ok (.iload 5, 2) := by decide +kernel
theorem dX6_undo_95 : decode cX6_undo 95 = .ok (.iconst 4, 1) := by decide +kernel
theorem dX6_undo_96 : decode cX6_undo 96 = .ok (.iload_n 3, 1) := by decide +kernel
theorem dX6_undo_97 : decode cX6_undo 97 = .ok (.imul, 1) := by decide +kernel
theorem dX6_undo_98 : decode cX6_undo 98 = .ok (.iconst 4, 1) := by decide +kernel
theorem dX6_undo_99 : decode cX6_undo 99 = .ok (.iadd, 1) := by decide +kernel
theorem dX6_undo_100 : decode cX6_undo 100 = .ok (.if_icmp .ge 89, 3) := by decide +kernel
theorem dX6_undo_103 : decode cX6_undo 103 = .ok (.aload_n 0, 1) := by decide +kernel
theorem dX6_undo_104 : decode cX6_undo 104 = .ok (.iload_n 1, 1) := by decide +kernel
theorem dX6_undo_105 : decode cX6_undo 105 = .ok (.iload 5, 2) := by decide +kernel
theorem dX6_undo_107 : decode cX6_undo 107 = .ok (.invokevirtual 121, 3) := by decide +kernel
theorem dX6_undo_110 : decode cX6_undo 110 = .ok (.ifCond .lt 73, 3) := by decide +kernel
theorem dX6_undo_113 : decode cX6_undo 113 = .ok (.aload_n 0, 1) := by decide +kernel
theorem dX6_undo_114 : decode cX6_undo 114 = .ok (.getfield 39, 3) := by decide +kernel
theorem dX6_undo_117 : decode cX6_undo 117 = .ok (.iload 5, 2) := by decide +kernel
theorem dX6_undo_119 : decode cX6_undo 119 = .ok (.iaload, 1) := by decide +kernel
theorem dX6_undo_120 : decode cX6_undo 120 = .ok (.aload_n 0, 1) := by decide +kernel
theorem dX6_undo_121 : decode cX6_undo 121 = .ok (.getfield 51, 3) := by decide +kernel
theorem dX6_undo_124 : decode cX6_undo 124 = .ok (.iload_n 1, 1) := by decide +kernel
theorem dX6_undo_125 : decode cX6_undo 125 = .ok (.iaload, 1) := by decide +kernel
theorem dX6_undo_126 : decode cX6_undo 126 = .ok (.if_icmp .eq 6, 3) := by decide +kernel
theorem dX6_undo_129 : decode cX6_undo 129 = .ok (.goto 54, 3) := by decide +kernel
theorem dX6_undo_132 : decode cX6_undo 132 = .ok (.aload_n 0, 1) := by decide +kernel
theorem dX6_undo_133 : decode cX6_undo 133 = .ok (.iload 5, 2) := by decide +kernel
theorem dX6_undo_135 : decode cX6_undo 135 = .ok (.invokevirtual 109, 3) := by decide +kernel
theorem dX6_undo_138 : decode cX6_undo 138 = .ok (.aload_n 0, 1) := by decide +kernel
theorem dX6_undo_139 : decode cX6_undo 139 = .ok (.iload 5, 2) := by decide +kernel
theorem dX6_undo_141 : decode cX6_undo 141 = .ok (.aload_n 0, 1) := by decide +kernel
theorem dX6_undo_142 : decode cX6_undo 142 = .ok (.getfield 51, 3) := by decide +kernel
theorem dX6_undo_145 : decode cX6_undo 145 = .ok (.iload_n 1, 1) := by decide +kernel
theorem dX6_undo_146 : decode cX6_undo 146 = .ok (.iaload, 1) := by decide +kernel
theorem dX6_undo_147 : decode cX6_undo 147 = .ok (.invokevirtual 113, 3) := by decide +kernel
theorem dX6_undo_150 : decode cX6_undo 150 = .ok (.iload 5, 2) := by decide +kernel
theorem dX6_undo_152 : decode cX6_undo 152 = .ok (.aload_n 0, 1) := by decide +kernel
theorem dX6_undo_153 : decode cX6_undo 153 = .ok (.getfield 60, 3) := by decide +kernel
theorem dX6_undo_156 : decode cX6_undo 156 = .ok (.bipush 16, 2) := by decide +kernel
theorem dX6_undo_158 : decode cX6_undo 158 = .ok (.iload_n 1, 1) := by decide +kernel
theorem dX6_undo_159 : decode cX6_undo 159 = .ok (.imul, 1) := by decide +kernel
theorem dX6_undo_160 : decode cX6_undo 160 = .ok (.iaload, 1) := by decide +kernel
theorem dX6_undo_161 : decode cX6_undo 161 = .ok (.if_icmp .ne 22, 3) := by decide +kernel
theorem dX6_undo_164 : decode cX6_undo 164 = .ok (.aload_n 0, 1) := by decide +kernel
theorem dX6_undo_165 : decode cX6_undo 165 = .ok (.iload 5, 2) := by decide +kernel
theorem dX6_undo_167 : decode cX6_undo 167 = .ok (.aload_n 0, 1) := by decide +kernel
theorem dX6_undo_168 : decode cX6_undo 168 = .ok (.getfield 51, 3) := by decide +kernel
theorem dX6_undo_171 : decode cX6_undo 171 = .ok (.iload_n 1, 1) := by decide +kernel
theorem dX6_undo_172 : decode cX6_undo 172 = .ok (.iaload, 1) := by decide +kernel
theorem dX6_undo_173 : decode cX6_undo 173 = .ok (.aload_n 0, 1) := by decide +kernel
theorem dX6_undo_174 : decode cX6_undo 174 = .ok (.getfield 51, 3) := by decide +kernel
theorem dX6_undo_177 : decode cX6_undo 177 = .ok (.iload_n 1, 1) := by decide +kernel
theorem dX6_undo_178 : decode cX6_undo 178 = .ok (.iaload, 1) := by decide +kernel
theorem dX6_undo_179 : decode cX6_undo 179 = .ok (.iconst 1, 1) := by decide +kernel
theorem dX6_undo_180 : decode cX6_undo 180 = .ok (.invokevirtual 117, 3) := by decide +kernel
theorem dX6_undo_183 : decode cX6_undo 183 = .ok (.iinc 5 1, 3) := by decide +kernel
theorem dX6_undo_186 : decode cX6_undo 186 = .ok (.goto (-93), 3) := by decide +kernel
theorem dX6_undo_189 : decode cX6_undo 189 = .ok (.iconst 1, 1) := by decide +kernel
theorem dX6_undo_190 : decode cX6_undo 190 = .ok (.ireturn, 1) := by decide +kernel
theorem dX6_undo_191 : decode cX6_undo 191 = .ok (.iinc 2 1, 3) := by decide +kernel
theorem dX6_undo_194 : decode cX6_undo 194 = .ok (.goto (-192), 3) := by decide +kernel
theorem dX6_undo_197 : decode cX6_undo 197 = .ok (.aload_n 0, 1) := by decide +kernel
theorem dX6_undo_198 : decode cX6_undo 198 = .ok (.getfield 48, 3) := by decide +kernel
theorem dX6_undo_201 : decode cX6_undo 201 = .ok (.iload_n 1, 1) := by decide +kernel
theorem dX6_undo_202 : decode cX6_undo 202 = .ok (.iconst 0, 1) := by decide +kernel
theorem dX6_undo_203 : decode cX6_undo 203 = .ok (.iastore, 1) := by decide +kernel
theorem dX6_undo_204 : decode cX6_undo 204 = .ok (.iconst 0, 1) := by decide +kernel
theorem dX6_undo_205 : decode cX6_undo 205 = .ok (.ireturn, 1) := by decide +kernel
theorem dX6_crash_0 : decode cX6_crash 0 = .ok (.aload_n 0, 1) := by decide +kernel
theorem dX6_crash_1 : decode cX6_crash 1 = .ok (.iconst 0, 1) := by decide +kernel
theorem dX6_crash_2 : decode cX6_crash 2 = .ok (.putfield 75, 3) := by decide +kernel
theorem dX6_crash_5 : decode cX6_crash 5 = .ok (.iload_n 1, 1) := by decide +kernel
theorem dX6_crash_6 : decode cX6_crash 6 = .ok (.invokestatic 138, 3) := by decide +kernel
theorem dX6_crash_9 : decode cX6_crash 9 = .ok (.ifCond .eq 5, 3) := by decide +kernel
theorem dX6_crash_12 : decode cX6_crash 12 = .ok (.iconst (-1), 1) := by decide +kernel
theorem dX6_crash_13 : decode cX6_crash 13 = .ok (.ireturn, 1) := by decide +kernel
theorem dX6_crash_14 : decode cX6_crash 14 = .ok (.aload_n 0, 1) := by decide +kernel
theorem dX6_crash_15 : decode cX6_crash 15 = .ok (.getfield 48, 3) := by decide +kernel
theorem dX6_crash_18 : decode cX6_crash 18 = .ok (.iload_n 1, 1) := by decide +kernel
theorem dX6_crash_19 : decode cX6_crash 19 = .ok (.iaload, 1) := by decide +kernel
theorem dX6_crash_20 : decode cX6_crash 20 = .ok (.ifCond .le 7, 3) := by decide +kernel
theorem dX6_crash_23 : decode cX6_crash 23 = .ok (.iconst 1, 1) := by decide +kernel
theorem dX6_crash_24 : decode cX6_crash 24 = .ok (.goto 4, 3) := by decide +kernel
theorem dX6_crash_27 : decode cX6_crash 27 = .ok (.iconst 0, 1) := by decide +kernel
theorem dX6_crash_28 : decode cX6_crash 28 = .ok (.istore_n 2, 1) := by decide +kernel
theorem dX6_crash_29 : decode cX6_crash 29 = .ok (.aload_n 0, 1) := by decide +kernel
theorem dX6_crash_30 : decode cX6_crash 30 = .ok (.getfield 48, 3) := by decide +kernel
theorem dX6_crash_33 : decode cX6_crash 33 = .ok (.iload_n 1, 1) := by decide +kernel
theorem dX6_crash_34 : decode cX6_crash 34 = .ok (.iconst 0, 1) := by decide +kernel
theorem dX6_crash_35 : decode cX6_crash 35 = .ok (.iastore, 1) := by decide +kernel
theorem dX6_crash_36 : decode cX6_crash 36 = .ok (.iload_n 2, 1) := by decide +kernel
theorem dX6_crash_37 : decode cX6_crash 37 = .ok (.ireturn, 1) := by decide +kernel
theorem dX6_tick_0 : decode cX6_tick 0 = .ok (.aload_n 0, 1) := by decide +kernel
theorem dX6_tick_1 : decode cX6_tick 1 = .ok (.iconst 0, 1) := by decide +kernel
theorem dX6_tick_2 : decode cX6_tick 2 = .ok (.putfield 75, 3) := by decide +kernel
theorem dX6_tick_5 : decode cX6_tick 5 = .ok (.iload_n 1, 1) := by decide +kernel
theorem dX6_tick_6 : decode cX6_tick 6 = .ok (.iconst 0, 1) := by decide +kernel
theorem dX6_tick_7 : decode cX6_tick 7 = .ok (.ldc 190, 2) := by decide +kernel
theorem dX6_tick_9 : decode cX6_tick 9 = .ok (.invokestatic 134, 3) := by decide +kernel
theorem dX6_tick_12 : decode cX6_tick 12 = .ok (.ifCond .eq 14, 3) := by decide +kernel
theorem dX6_tick_15 : decode cX6_tick 15 = .ok (.iload_n 1, 1) := by decide +kernel
theorem dX6_tick_16 : decode cX6_tick 16 = .ok (.ldc 191, 2) := by decide +kernel
theorem dX6_tick_18 : decode cX6_tick 18 = .ok (.aload_n 0, 1) := by decide +kernel
theorem dX6_tick_19 : decode cX6_tick 19 = .ok (.getfield 103, 3) := by decide +kernel
theorem dX6_tick_22 : decode cX6_tick 22 = .ok (.isub, 1) := by decide +kernel
theorem dX6_tick_23 : decode cX6_tick 23 = .ok (.if_icmp .le 6, 3) := by decide +kernel
theorem dX6_tick_26 : decode cX6_tick 26 = .ok (.bipush (-2), 2) := by decide +kernel
theorem dX6_tick_28 : decode cX6_tick 28 = .ok (.ireturn, 1) := by decide +kernel
theorem dX6_tick_29 : decode cX6_tick 29 = .ok (.aload_n 0, 1) := by decide +kernel
theorem dX6_tick_30 : decode cX6_tick 30 = .ok (.dup, 1) := by decide +kernel
theorem dX6_tick_31 : decode cX6_tick 31 = .ok (.getfield 103, 3) := by decide +kernel
theorem dX6_tick_34 : decode cX6_tick 34 = .ok (.iload_n 1, 1) := by decide +kernel
theorem dX6_tick_35 : decode cX6_tick 35 = .ok (.iadd, 1) := by decide +kernel
theorem dX6_tick_36 : decode cX6_tick 36 = .ok (.putfield 103, 3) := by decide +kernel
theorem dX6_tick_39 : decode cX6_tick 39 = .ok (.aload_n 0, 1) := by decide +kernel
theorem dX6_tick_40 : decode cX6_tick 40 = .ok (.getfield 103, 3) := by decide +kernel
theorem dX6_tick_43 : decode cX6_tick 43 = .ok (.ireturn, 1) := by decide +kernel
theorem dX6_timeout_0 : decode cX6_timeout 0 = .ok (.aload_n 0, 1) := by decide +kernel
theorem dX6_timeout_1 : decode cX6_timeout 1 = .ok (.iconst 0, 1) := by decide +kernel
theorem dX6_timeout_2 : decode cX6_timeout 2 = .ok (.putfield 75, 3) := by decide +kernel
theorem dX6_timeout_5 : decode cX6_timeout 5 = .ok (.iload_n 1, 1) := by decide +kernel
theorem dX6_timeout_6 : decode cX6_timeout 6 = .ok (.iconst 0, 1) := by decide +kernel
theorem dX6_timeout_7 : decode cX6_timeout 7 = .ok (.ldc 190, 2) := by decide +kernel
theorem dX6_timeout_9 : decode cX6_timeout 9 = .ok (.invokestatic 134, 3) := by decide +kernel
theorem dX6_timeout_12 : decode cX6_timeout 12 = .ok (.ifCond .ne 6, 3) := by decide +kernel
theorem dX6_timeout_15 : decode cX6_timeout 15 = .ok (.bipush (-2), 2) := by decide +kernel
theorem dX6_timeout_17 : decode cX6_timeout 17 = .ok (.ireturn, 1) := by decide +kernel
theorem dX6_timeout_18 : decode cX6_timeout 18 = .ok (.aload_n 0, 1) := by decide +kernel
theorem dX6_timeout_19 : decode cX6_timeout 19 = .ok (.getfield 7, 3) := by decide +kernel
theorem dX6_timeout_22 : decode cX6_timeout 22 = .ok (.istore_n 2, 1) := by decide +kernel
theorem dX6_timeout_23 : decode cX6_timeout 23 = .ok (.aload_n 0, 1) := by decide +kernel
theorem dX6_timeout_24 : decode cX6_timeout 24 = .ok (.iload_n 1, 1) := by decide +kernel
theorem dX6_timeout_25 : decode cX6_timeout 25 = .ok (.putfield 7, 3) := by decide +kernel
theorem dX6_timeout_28 : decode cX6_timeout 28 = .ok (.iload_n 2, 1) := by decide +kernel
theorem dX6_timeout_29 : decode cX6_timeout 29 = .ok (.ireturn, 1) := by decide +kernel
theorem dX6_fallOracle_0 : decode cX6_fallOracle 0 = .ok (.aload_n 0, 1) := by decide +kernel
theorem dX6_fallOracle_1 : decode cX6_fallOracle 1 = .ok (.iconst 0, 1) := by decide +kernel
theorem dX6_fallOracle_2 : decode cX6_fallOracle 2 = .ok (.putfield 75, 3) := by decide +kernel
theorem dX6_fallOracle_5 : decode cX6_fallOracle 5 = .ok (.aload_n 0, 1) := by decide +kernel
theorem dX6_fallOracle_6 : decode cX6_fallOracle 6 = .ok (.aload_n 0, 1) := by decide +kernel
theorem dX6_fallOracle_7 : decode cX6_fallOracle 7 = .ok (.getfield 93, 3) := by decide +kernel
theorem dX6_fallOracle_10 : decode cX6_fallOracle 10 = .ok (.iconst 1, 1) := by decide +kernel
theorem dX6_fallOracle_11 : decode cX6_fallOracle 11 = .ok (.iadd, 1) := by decide +kernel
theorem dX6_fallOracle_12 : decode cX6_fallOracle 12 = .ok (.putfield 13, 3) := by decide +kernel
theorem dX6_fallOracle_15 : decode cX6_fallOracle 15 = .ok (.aload_n 0, 1) := by decide +kernel
theorem dX6_fallOracle_16 : decode cX6_fallOracle 16 = .ok (.getfield 13, 3) := by decide +kernel
theorem dX6_fallOracle_19 : decode cX6_fallOracle 19 = .ok (.ireturn, 1) := by decide +kernel
theorem dX6_fall_0 : decode cX6_fall 0 = .ok (.aload_n 0, 1) := by decide +kernel
theorem dX6_fall_1 : decode cX6_fall 1 = .ok (.iconst 0, 1) := by decide +kernel
theorem dX6_fall_2 : decode cX6_fall 2 = .ok (.putfield 75, 3) := by decide +kernel
theorem dX6_fall_5 : decode cX6_fall 5 = .ok (.aload_n 0, 1) := by decide +kernel
theorem dX6_fall_6 : decode cX6_fall 6 = .ok (.getfield 72, 3) := by decide +kernel
theorem dX6_fall_9 : decode cX6_fall 9 = .ok (.ireturn, 1) := by decide +kernel
theorem dX6_sweep_0 : decode cX6_sweep 0 = .ok (.aload_n 0, 1) := by decide +kernel
theorem dX6_sweep_1 : decode cX6_sweep 1 = .ok (.iconst 0, 1) := by decide +kernel
theorem dX6_sweep_2 : decode cX6_sweep 2 = .ok (.putfield 75, 3) := by decide +kernel
theorem dX6_sweep_5 : decode cX6_sweep 5 = .ok (.iload_n 1, 1) := by decide +kernel
theorem dX6_sweep_6 : decode cX6_sweep 6 = .ok (.ifCond .lt 11, 3) := by decide +kernel
theorem dX6_sweep_9 : decode cX6_sweep 9 = .ok (.iload_n 1, 1) := by decide +kernel
theorem dX6_sweep_10 : decode cX6_sweep 10 = .ok (.aload_n 0, 1) := by decide +kernel
theorem dX6_sweep_11 : decode cX6_sweep 11 = .ok (.getfield 96, 3) := by decide +kernel
theorem dX6_sweep_14 : decode cX6_sweep 14 = .ok (.if_icmp .le 6, 3) := by decide +kernel
theorem dX6_sweep_17 : decode cX6_sweep 17 = .ok (.bipush (-2), 2) := by decide +kernel
theorem dX6_sweep_19 : decode cX6_sweep 19 = .ok (.ireturn, 1) := by decide +kernel
theorem dX6_sweep_20 : decode cX6_sweep 20 = .ok (.iconst 0, 1) := by decide +kernel
theorem dX6_sweep_21 : decode cX6_sweep 21 = .ok (.istore_n 2, 1) := by decide +kernel
theorem dX6_sweep_22 : decode cX6_sweep 22 = .ok (.iload_n 2, 1) := by decide +kernel
theorem dX6_sweep_23 : decode cX6_sweep 23 = .ok (.bipush 8, 2) := by decide +kernel
theorem dX6_sweep_25 : decode cX6_sweep 25 = .ok (.if_icmp .ge 31, 3) := by decide +kernel
theorem dX6_sweep_28 : decode cX6_sweep 28 = .ok (.aload_n 0, 1) := by decide +kernel
theorem dX6_sweep_29 : decode cX6_sweep 29 = .ok (.getfield 48, 3) := by decide +kernel
theorem dX6_sweep_32 : decode cX6_sweep 32 = .ok (.iload_n 2, 1) := by decide +kernel
theorem dX6_sweep_33 : decode cX6_sweep 33 = .ok (.iaload, 1) := by decide +kernel
theorem dX6_sweep_34 : decode cX6_sweep 34 = .ok (.ifCond .le 16, 3) := by decide +kernel
theorem dX6_sweep_37 : decode cX6_sweep 37 = .ok (.aload_n 0, 1) := by decide +kernel
theorem dX6_sweep_38 : decode cX6_sweep 38 = .ok (.getfield 51, 3) := by decide +kernel
theorem dX6_sweep_41 : decode cX6_sweep 41 = .ok (.iload_n 2, 1) := by decide +kernel
theorem dX6_sweep_42 : decode cX6_sweep 42 = .ok (.iaload, 1) := by decide +kernel
theorem dX6_sweep_43 : decode cX6_sweep 43 = .ok (.iload_n 1, 1) := by decide +kernel
theorem dX6_sweep_44 : decode cX6_sweep 44 = .ok (.if_icmp .ge 6, 3) := by decide +kernel
theorem dX6_sweep_47 : decode cX6_sweep 47 = .ok (.bipush (-3), 2) := by decide +kernel
theorem dX6_sweep_49 : decode cX6_sweep 49 = .ok (.ireturn, 1) := by decide +kernel
theorem dX6_sweep_50 : decode cX6_sweep 50 = .ok (.iinc 2 1, 3) := by decide +kernel
theorem dX6_sweep_53 : decode cX6_sweep 53 = .ok (.goto (-31), 3) := by decide +kernel
theorem dX6_sweep_56 : decode cX6_sweep 56 = .ok (.iconst 0, 1) := by decide +kernel
theorem dX6_sweep_57 : decode cX6_sweep 57 = .ok (.istore_n 2, 1) := by decide +kernel
theorem dX6_sweep_58 : decode cX6_sweep 58 = .ok (.iload_n 2, 1) := by decide +kernel
theorem dX6_sweep_59 : decode cX6_sweep 59 = .ok (.sipush 256, 3) := by decide +kernel
theorem dX6_sweep_62 : decode cX6_sweep 62 = .ok (.if_icmp .ge 31, 3) := by decide +kernel
theorem dX6_sweep_65 : decode cX6_sweep 65 = .ok (.aload_n 0, 1) := by decide +kernel
theorem dX6_sweep_66 : decode cX6_sweep 66 = .ok (.getfield 39, 3) := by decide +kernel
theorem dX6_sweep_69 : decode cX6_sweep 69 = .ok (.iload_n 2, 1) := by decide +kernel
theorem dX6_sweep_70 : decode cX6_sweep 70 = .ok (.iaload, 1) := by decide +kernel
theorem dX6_sweep_71 : decode cX6_sweep 71 = .ok (.ifCond .le 16, 3) := by decide +kernel
theorem dX6_sweep_74 : decode cX6_sweep 74 = .ok (.aload_n 0, 1) := by decide +kernel
theorem dX6_sweep_75 : decode cX6_sweep 75 = .ok (.getfield 39, 3) := by decide +kernel
theorem dX6_sweep_78 : decode cX6_sweep 78 = .ok (.iload_n 2, 1) := by decide +kernel
theorem dX6_sweep_79 : decode cX6_sweep 79 = .ok (.iaload, 1) := by decide +kernel
theorem dX6_sweep_80 : decode cX6_sweep 80 = .ok (.iload_n 1, 1) := by decide +kernel
theorem dX6_sweep_81 : decode cX6_sweep 81 = .ok (.if_icmp .gt 6, 3) := by decide +kernel
theorem dX6_sweep_84 : decode cX6_sweep 84 = .ok (.bipush (-3), 2) := by decide +kernel
theorem dX6_sweep_86 : decode cX6_sweep 86 = .ok (.ireturn, 1) := by decide +kernel
theorem dX6_sweep_87 : decode cX6_sweep 87 = .ok (.iinc 2 1, 3) := by decide +kernel
theorem dX6_sweep_90 : decode cX6_sweep 90 = .ok (.goto (-32), 3) := by decide +kernel
theorem dX6_sweep_93 : decode cX6_sweep 93 = .ok (.aload_n 0, 1) := by decide +kernel
theorem dX6_sweep_94 : decode cX6_sweep 94 = .ok (.invokevirtual 174, 3) := by decide +kernel
theorem dX6_sweep_97 : decode cX6_sweep 97 = .ok (.istore_n 2, 1) := by decide +kernel
theorem dX6_sweep_98 : decode cX6_sweep 98 = .ok (.iconst 0, 1) := by decide +kernel
theorem dX6_sweep_99 : decode cX6_sweep 99 = .ok (.istore_n 3, 1) := by decide +kernel
theorem dX6_sweep_100 : decode cX6_sweep 100 = .ok (.iload_n 3, 1) := by decide +kernel
theorem dX6_sweep_101 : decode cX6_sweep 101 = .ok (.sipush 256, 3) := by decide +kernel
theorem dX6_sweep_104 : decode cX6_sweep 104 = .ok (.if_icmp .ge 15, 3) := by decide +kernel
theorem dX6_sweep_107 : decode cX6_sweep 107 = .ok (.aload_n 0, 1) := by decide +kernel
theorem dX6_sweep_108 : decode cX6_sweep 108 = .ok (.iload_n 3, 1) := by decide +kernel
theorem dX6_sweep_109 : decode cX6_sweep 109 = .ok (.iload_n 1, 1) := by decide +kernel
theorem dX6_sweep_110 : decode cX6_sweep 110 = .ok (.invokevirtual 192, 3) := by decide +kernel
theorem dX6_sweep_113 : decode cX6_sweep 113 = .ok (.iinc 3 1, 3) := by decide +kernel
theorem dX6_sweep_116 : decode cX6_sweep 116 = .ok (.goto (-16), 3) := by decide +kernel
theorem dX6_sweep_119 : decode cX6_sweep 119 = .ok (.aload_n 0, 1) := by decide +kernel
theorem dX6_sweep_120 : decode cX6_sweep 120 = .ok (.iload_n 2, 1) := by decide +kernel
theorem dX6_sweep_121 : decode cX6_sweep 121 = .ok (.aload_n 0, 1) := by decide +kernel
theorem dX6_sweep_122 : decode cX6_sweep 122 = .ok (.invokevirtual 174, 3) := by decide +kernel
theorem dX6_sweep_125 : decode cX6_sweep 125 = .ok (.isub, 1) := by decide +kernel
theorem dX6_sweep_126 : decode cX6_sweep 126 = .ok (.invokevirtual 152, 3) := by decide +kernel
theorem dX6_sweep_129 : decode cX6_sweep 129 = .ok (.ireturn, 1) := by decide +kernel
theorem dX6_sweepCell_0 : decode cX6_sweepCell 0 = .ok (.iconst (-1), 1) := by decide +kernel
theorem dX6_sweepCell_1 : decode cX6_sweepCell 1 = .ok (.istore_n 3, 1) := by decide +kernel
theorem dX6_sweepCell_2 : decode cX6_sweepCell 2 = .ok (.iconst 0, 1) := by decide +kernel
theorem dX6_sweepCell_3 : decode cX6_sweepCell 3 = .ok (.istore 4, 2) := by decide +kernel
theorem dX6_sweepCell_5 : decode cX6_sweepCell 5 = .ok (.iload 4, 2) := by decide +kernel
theorem dX6_sweepCell_7 : decode cX6_sweepCell 7 = .ok (.aload_n 0, 1) := by decide +kernel
theorem dX6_sweepCell_8 : decode cX6_sweepCell 8 = .ok (.getfield 81, 3) := by decide +kernel
theorem dX6_sweepCell_11 : decode cX6_sweepCell 11 = .ok (.if_icmp .ge 76, 3) := by decide +kernel
theorem dX6_sweepCell_14 : decode cX6_sweepCell 14 = .ok (.aload_n 0, 1) := by decide +kernel
theorem dX6_sweepCell_15 : decode cX6_sweepCell 15 = .ok (.getfield 26, 3) := by decide +kernel
theorem dX6_sweepCell_18 : decode cX6_sweepCell 18 = .ok (.iload 4, 2) := by decide +kernel
theorem dX6_sweepCell_20 : decode cX6_sweepCell 20 = .ok (.iaload, 1) := by decide +kernel
theorem dX6_sweepCell_21 : decode cX6_sweepCell 21 = .ok (.iload_n 1, 1) := by decide +kernel
theorem dX6_sweepCell_22 : decode cX6_sweepCell 22 = .ok (.if_icmp .ne 28, 3) := by decide +kernel
theorem dX6_sweepCell_25 : decode cX6_sweepCell 25 = .ok (.aload_n 0, 1) := by decide +kernel
theorem dX6_sweepCell_26 : decode cX6_sweepCell 26 = .ok (.getfield 35, 3) := by decide +kernel
theorem dX6_sweepCell_29 : decode cX6_sweepCell 29 = .ok (.iload 4, 2) := by decide +kernel
theorem dX6_sweepCell_31 : decode cX6_sweepCell 31 = .ok (.baload, 1) := by decide +kernel
theorem dX6_sweepCell_32 : decode cX6_sweepCell 32 = .ok (.ifCond .ne 18, 3) := by decide +kernel
theorem dX6_sweepCell_35 : decode cX6_sweepCell 35 = .ok (.aload_n 0, 1) := by decide +kernel
theorem dX6_sweepCell_36 : decode cX6_sweepCell 36 = .ok (.getfield 29, 3) := by decide +kernel
theorem dX6_sweepCell_39 : decode cX6_sweepCell 39 = .ok (.iload 4, 2) := by decide +kernel
theorem dX6_sweepCell_41 : decode cX6_sweepCell 41 = .ok (.iaload, 1) := by decide +kernel
theorem dX6_sweepCell_42 : decode cX6_sweepCell 42 = .ok (.iload_n 2, 1) := by decide +kernel
theorem dX6_sweepCell_43 : decode cX6_sweepCell 43 = .ok (.if_icmp .gt 7, 3) := by decide +kernel
theorem dX6_sweepCell_46 : decode cX6_sweepCell 46 = .ok (.iconst 1, 1) := by decide +kernel
theorem dX6_sweepCell_47 : decode cX6_sweepCell 47 = .ok (.goto 4, 3) := by decide +kernel
theorem dX6_sweepCell_50 : decode cX6_sweepCell 50 = .ok (.iconst 0, 1) := by decide +kernel
theorem dX6_sweepCell_51 : decode cX6_sweepCell 51 = .ok (.istore 5, 2) := by decide +kernel
theorem dX6_sweepCell_53 : decode cX6_sweepCell 53 = .ok (.iload 5, 2) := by decide +kernel
theorem dX6_sweepCell_55 : decode cX6_sweepCell 55 = .ok (.ifCond .eq 24, 3) := by decide +kernel
theorem dX6_sweepCell_58 : decode cX6_sweepCell 58 = .ok (.aload_n 0, 1) := by decide +kernel
theorem dX6_sweepCell_59 : decode cX6_sweepCell 59 = .ok (.getfield 29, 3) := by decide +kernel
theorem dX6_sweepCell_62 : decode cX6_sweepCell 62 = .ok (.iload 4, 2) := by decide +kernel
theorem dX6_sweepCell_64 : decode cX6_sweepCell 64 = .ok (.iaload, 1) := by decide +kernel
theorem dX6_sweepCell_65 : decode cX6_sweepCell 65 = .ok (.iload_n 3, 1) := by decide +kernel
theorem dX6_sweepCell_66 : decode cX6_sweepCell 66 = .ok (.if_icmp .le 13, 3) := by decide +kernel
theorem dX6_sweepCell_69 : decode cX6_sweepCell 69 = .ok (.aload_n 0, 1) := by decide +kernel
theorem dX6_sweepCell_70 : decode cX6_sweepCell 70 = .ok (.getfield 29, 3) := by decide +kernel
theorem dX6_sweepCell_73 : decode cX6_sweepCell 73 = .ok (.iload 4, 2) := by decide +kernel
theorem dX6_sweepCell_75 : decode cX6_sweepCell 75 = .ok (.iaload, 1) := by decide +kernel
theorem dX6_sweepCell_76 : decode cX6_sweepCell 76 = .ok (.goto 4, 3) := by decide +kernel
theorem dX6_sweepCell_79 : decode cX6_sweepCell 79 = .ok (.iload_n 3, 1) := by decide +kernel
theorem dX6_sweepCell_80 : decode cX6_sweepCell 80 = .ok (.istore_n 3, 1) := by decide +kernel
theorem dX6_sweepCell_81 : decode cX6_sweepCell 81 = .ok (.iinc 4 1, 3) := by decide +kernel
theorem dX6_sweepCell_84 : decode cX6_sweepCell 84 = .ok (.goto (-79), 3) := by decide +kernel
theorem dX6_sweepCell_87 : decode cX6_sweepCell 87 = .ok (.iconst 0, 1) := by decide +kernel
theorem dX6_sweepCell_88 : decode cX6_sweepCell 88 = .ok (.istore 4, 2) := by decide +kernel
theorem dX6_sweepCell_90 : decode cX6_sweepCell 90 = .ok (.iload 4, 2) := by decide +kernel
theorem dX6_sweepCell_92 : decode cX6_sweepCell 92 = .ok (.aload_n 0, 1) := by decide +kernel
theorem dX6_sweepCell_93 : decode cX6_sweepCell 93 = .ok (.getfield 81, 3) := by decide +kernel
theorem dX6_sweepCell_96 : decode cX6_sweepCell 96 = .ok (.if_icmp .ge 131, 3) := by decide +kernel
theorem dX6_sweepCell_99 : decode cX6_sweepCell 99 = .ok (.aload_n 0, 1) := by decide +kernel
theorem dX6_sweepCell_100 : decode cX6_sweepCell 100 = .ok (.getfield 26, 3) := by decide +kernel
theorem dX6_sweepCell_103 : decode cX6_sweepCell 103 = .ok (.iload 4, 2) := by decide +kernel
theorem dX6_sweepCell_105 : decode cX6_sweepCell 105 = .ok (.iaload, 1) := by decide +kernel
theorem dX6_sweepCell_106 : decode cX6_sweepCell 106 = .ok (.iload_n 1, 1) := by decide +kernel
theorem dX6_sweepCell_107 : decode cX6_sweepCell 107 = .ok (.if_icmp .ne 18, 3) := by decide +kernel
theorem dX6_sweepCell_110 : decode cX6_sweepCell 110 = .ok (.aload_n 0, 1) := by decide +kernel
theorem dX6_sweepCell_111 : decode cX6_sweepCell 111 = .ok (.getfield 29, 3) := by decide +kernel
theorem dX6_sweepCell_114 : decode cX6_sweepCell 114 = .ok (.iload 4, 2) := by decide +kernel
theorem dX6_sweepCell_116 : decode cX6_sweepCell 116 = .ok (.iaload, 1) := by decide +kernel
theorem dX6_sweepCell_117 : decode cX6_sweepCell 117 = .ok (.iload_n 2, 1) := by decide +kernel
theorem dX6_sweepCell_118 : decode cX6_sweepCell 118 = .ok (.if_icmp .gt 7, 3) := by decide +kernel
theorem dX6_sweepCell_121 : decode cX6_sweepCell 121 = .ok (.iconst 1, 1) := by decide +kernel
theorem dX6_sweepCell_122 : decode cX6_sweepCell 122 = .ok (.goto 4, 3) := by decide +kernel
theorem dX6_sweepCell_125 : decode cX6_sweepCell 125 = .ok (.iconst 0, 1) := by decide +kernel
theorem dX6_sweepCell_126 : decode cX6_sweepCell 126 = .ok (.istore 5, 2) := by decide +kernel
theorem dX6_sweepCell_128 : decode cX6_sweepCell 128 = .ok (.iload 5, 2) := by decide +kernel
theorem dX6_sweepCell_130 : decode cX6_sweepCell 130 = .ok (.ifCond .eq 77, 3) := by decide +kernel
theorem dX6_sweepCell_133 : decode cX6_sweepCell 133 = .ok (.aload_n 0, 1) := by decide +kernel
theorem dX6_sweepCell_134 : decode cX6_sweepCell 134 = .ok (.getfield 35, 3) := by decide +kernel
theorem dX6_sweepCell_137 : decode cX6_sweepCell 137 = .ok (.iload 4, 2) := by decide +kernel
theorem dX6_sweepCell_139 : decode cX6_sweepCell 139 = .ok (.baload, 1) := by decide +kernel
theorem dX6_sweepCell_140 : decode cX6_sweepCell 140 = .ok (.ifCond .ne 67, 3) := by decide +kernel
theorem dX6_sweepCell_143 : decode cX6_sweepCell 143 = .ok (.aload_n 0, 1) := by decide +kernel
theorem dX6_sweepCell_144 : decode cX6_sweepCell 144 = .ok (.iload_n 1, 1) := by decide +kernel
theorem dX6_sweepCell_145 : decode cX6_sweepCell 145 = .ok (.aload_n 0, 1) := by decide +kernel
theorem dX6_sweepCell_146 : decode cX6_sweepCell 146 = .ok (.getfield 32, 3) := by decide +kernel
theorem dX6_sweepCell_149 : decode cX6_sweepCell 149 = .ok (.iload 4, 2) := by decide +kernel
theorem dX6_sweepCell_151 : decode cX6_sweepCell 151 = .ok (.iaload, 1) := by decide +kernel
theorem dX6_sweepCell_152 : decode cX6_sweepCell 152 = .ok (.invokevirtual 99, 3) := by decide +kernel
theorem dX6_sweepCell_155 : decode cX6_sweepCell 155 = .ok (.istore 6, 2) := by decide +kernel
theorem dX6_sweepCell_157 : decode cX6_sweepCell 157 = .ok (.aload_n 0, 1) := by decide +kernel
theorem dX6_sweepCell_158 : decode cX6_sweepCell 158 = .ok (.getfield 29, 3) := by decide +kernel
theorem dX6_sweepCell_161 : decode cX6_sweepCell 161 = .ok (.iload 4, 2) := by decide +kernel
theorem dX6_sweepCell_163 : decode cX6_sweepCell 163 = .ok (.iaload, 1) := by decide +kernel
theorem dX6_sweepCell_164 : decode cX6_sweepCell 164 = .ok (.iload_n 3, 1) := by decide +kernel
theorem dX6_sweepCell_165 : decode cX6_sweepCell 165 = .ok (.if_icmp .ne 18, 3) := by decide +kernel
theorem dX6_sweepCell_168 : decode cX6_sweepCell 168 = .ok (.iload 6, 2) := by decide +kernel
theorem dX6_sweepCell_170 : decode cX6_sweepCell 170 = .ok (.ifCond .lt 17, 3) := by decide +kernel
theorem dX6_sweepCell_173 : decode cX6_sweepCell 173 = .ok (.aload_n 0, 1) := by decide +kernel
theorem dX6_sweepCell_174 : decode cX6_sweepCell 174 = .ok (.getfield 23, 3) := by decide +kernel
theorem dX6_sweepCell_177 : decode cX6_sweepCell 177 = .ok (.iload 6, 2) := by decide +kernel
theorem dX6_sweepCell_179 : decode cX6_sweepCell 179 = .ok (.iaload, 1) := by decide +kernel
theorem dX6_sweepCell_180 : decode cX6_sweepCell 180 = .ok (.ifCond .ge 7, 3) := by decide +kernel
theorem dX6_sweepCell_183 : decode cX6_sweepCell 183 = .ok (.iconst 1, 1) := by decide +kernel
theorem dX6_sweepCell_184 : decode cX6_sweepCell 184 = .ok (.goto 4, 3) := by decide +kernel
theorem dX6_sweepCell_187 : decode cX6_sweepCell 187 = .ok (.iconst 0, 1) := by decide +kernel
theorem dX6_sweepCell_188 : decode cX6_sweepCell 188 = .ok (.istore 5, 2) := by decide +kernel
theorem dX6_sweepCell_190 : decode cX6_sweepCell 190 = .ok (.iload 5, 2) := by decide +kernel
theorem dX6_sweepCell_192 : decode cX6_sweepCell 192 = .ok (.ifCond .eq 15, 3) := by decide +kernel
theorem dX6_sweepCell_195 : decode cX6_sweepCell 195 = .ok (.aload_n 0, 1) := by decide +kernel
theorem dX6_sweepCell_196 : decode cX6_sweepCell 196 = .ok (.iload_n 1, 1) := by decide +kernel
theorem dX6_sweepCell_197 : decode cX6_sweepCell 197 = .ok (.aload_n 0, 1) := by decide +kernel
theorem dX6_sweepCell_198 : decode cX6_sweepCell 198 = .ok (.getfield 32, 3) := by decide +kernel
theorem dX6_sweepCell_201 : decode cX6_sweepCell 201 = .ok (.iload 4, 2) := by decide +kernel
theorem dX6_sweepCell_203 : decode cX6_sweepCell 203 = .ok (.iaload, 1) := by decide +kernel
theorem dX6_sweepCell_204 : decode cX6_sweepCell 204 = .ok (.invokevirtual 113, 3) := by decide +kernel
theorem dX6_sweepCell_207 : decode cX6_sweepCell 207 = .ok (.iload 5, 2) := by decide +kernel
theorem dX6_sweepCell_209 : decode cX6_sweepCell 209 = .ok (.ifCond .eq 12, 3) := by decide +kernel
theorem dX6_sweepCell_212 : decode cX6_sweepCell 212 = .ok (.aload_n 0, 1) := by decide +kernel
theorem dX6_sweepCell_213 : decode cX6_sweepCell 213 = .ok (.iload 4, 2) := by decide +kernel
theorem dX6_sweepCell_215 : decode cX6_sweepCell 215 = .ok (.invokevirtual 195, 3) := by decide +kernel
theorem dX6_sweepCell_218 : decode cX6_sweepCell 218 = .ok (.goto 6, 3) := by decide +kernel
theorem dX6_sweepCell_221 : decode cX6_sweepCell 221 = .ok (.iinc 4 1, 3) := by decide +kernel
theorem dX6_sweepCell_224 : decode cX6_sweepCell 224 = .ok (.goto (-134), 3) := by decide +kernel
theorem dX6_sweepCell_227 : decode cX6_sweepCell 227 = .ok (.return_, 1) := by decide +kernel
theorem dX6_state_0 : decode cX6_state 0 = .ok (.aload_n 0, 1) := by decide +kernel
theorem dX6_state_1 : decode cX6_state 1 = .ok (.iconst 0, 1) := by decide +kernel
theorem dX6_state_2 : decode cX6_state 2 = .ok (.putfield 75, 3) := by decide +kernel
theorem dX6_state_5 : decode cX6_state 5 = .ok (.iload_n 1, 1) := by decide +kernel
theorem dX6_state_6 : decode cX6_state 6 = .ok (.invokestatic 138, 3) := by decide +kernel
theorem dX6_state_9 : decode cX6_state 9 = .ok (.ifCond .eq 5, 3) := by decide +kernel
theorem dX6_state_12 : decode cX6_state 12 = .ok (.iconst (-1), 1) := by decide +kernel
theorem dX6_state_13 : decode cX6_state 13 = .ok (.ireturn, 1) := by decide +kernel
theorem dX6_state_14 : decode cX6_state 14 = .ok (.iload_n 2, 1) := by decide +kernel
theorem dX6_state_15 : decode cX6_state 15 = .ok (.iconst 0, 1) := by decide +kernel
theorem dX6_state_16 : decode cX6_state 16 = .ok (.iconst 5, 1) := by decide +kernel
theorem dX6_state_17 : decode cX6_state 17 = .ok (.invokestatic 134, 3) := by decide +kernel
theorem dX6_state_20 : decode cX6_state 20 = .ok (.ifCond .ne 6, 3) := by decide +kernel
theorem dX6_state_23 : decode cX6_state 23 = .ok (.bipush (-2), 2) := by decide +kernel
theorem dX6_state_25 : decode cX6_state 25 = .ok (.ireturn, 1) := by decide +kernel
theorem dX6_state_26 : decode cX6_state 26 = .ok (.aload_n 0, 1) := by decide +kernel
theorem dX6_state_27 : decode cX6_state 27 = .ok (.getfield 48, 3) := by decide +kernel
theorem dX6_state_30 : decode cX6_state 30 = .ok (.iload_n 1, 1) := by decide +kernel
theorem dX6_state_31 : decode cX6_state 31 = .ok (.iaload, 1) := by decide +kernel
theorem dX6_state_32 : decode cX6_state 32 = .ok (.ifCond .ne 5, 3) := by decide +kernel
theorem dX6_state_35 : decode cX6_state 35 = .ok (.iconst 0, 1) := by decide +kernel
theorem dX6_state_36 : decode cX6_state 36 = .ok (.ireturn, 1) := by decide +kernel
theorem dX6_state_37 : decode cX6_state 37 = .ok (.iload_n 2, 1) := by decide +kernel
theorem dX6_state_38 : decode cX6_state 38 = .ok (.tableswitch 93 0 4 #[34, 41, 48, 55, 62], 34) := by decide +kernel
theorem dX6_state_72 : decode cX6_state 72 = .ok (.aload_n 0, 1) := by decide +kernel
theorem dX6_state_73 : decode cX6_state 73 = .ok (.getfield 48, 3) := by decide +kernel
theorem dX6_state_76 : decode cX6_state 76 = .ok (.iload_n 1, 1) := by decide +kernel
theorem dX6_state_77 : decode cX6_state 77 = .ok (.iaload, 1) := by decide +kernel
theorem dX6_state_78 : decode cX6_state 78 = .ok (.ireturn, 1) := by decide +kernel
theorem dX6_state_79 : decode cX6_state 79 = .ok (.aload_n 0, 1) := by decide +kernel
theorem dX6_state_80 : decode cX6_state 80 = .ok (.getfield 51, 3) := by decide +kernel
theorem dX6_state_83 : decode cX6_state 83 = .ok (.iload_n 1, 1) := by decide +kernel
theorem dX6_state_84 : decode cX6_state 84 = .ok (.iaload, 1) := by decide +kernel
theorem dX6_state_85 : decode cX6_state 85 = .ok (.ireturn, 1) := by decide +kernel
theorem dX6_state_86 : decode cX6_state 86 = .ok (.aload_n 0, 1) := by decide +kernel
theorem dX6_state_87 : decode cX6_state 87 = .ok (.getfield 54, 3) := by decide +kernel
theorem dX6_state_90 : decode cX6_state 90 = .ok (.iload_n 1, 1) := by decide +kernel
theorem dX6_state_91 : decode cX6_state 91 = .ok (.iaload, 1) := by decide +kernel
theorem dX6_state_92 : decode cX6_state 92 = .ok (.ireturn, 1) := by decide +kernel
theorem dX6_state_93 : decode cX6_state 93 = .ok (.aload_n 0, 1) := by decide +kernel
theorem dX6_state_94 : decode cX6_state 94 = .ok (.getfield 57, 3) := by decide +kernel
theorem dX6_state_97 : decode cX6_state 97 = .ok (.iload_n 1, 1) := by decide +kernel
theorem dX6_state_98 : decode cX6_state 98 = .ok (.iaload, 1) := by decide +kernel
theorem dX6_state_99 : decode cX6_state 99 = .ok (.ireturn, 1) := by decide +kernel
theorem dX6_state_100 : decode cX6_state 100 = .ok (.aload_n 0, 1) := by decide +kernel
theorem dX6_state_101 : decode cX6_state 101 = .ok (.getfield 48, 3) := by decide +kernel
theorem dX6_state_104 : decode cX6_state 104 = .ok (.iload_n 1, 1) := by decide +kernel
theorem dX6_state_105 : decode cX6_state 105 = .ok (.iaload, 1) := by decide +kernel
theorem dX6_state_106 : decode cX6_state 106 = .ok (.iconst 2, 1) := by decide +kernel
theorem dX6_state_107 : decode cX6_state 107 = .ok (.if_icmp .eq 13, 3) := by decide +kernel
theorem dX6_state_110 : decode cX6_state 110 = .ok (.aload_n 0, 1) := by decide +kernel
theorem dX6_state_111 : decode cX6_state 111 = .ok (.getfield 48, 3) := by decide +kernel
theorem dX6_state_114 : decode cX6_state 114 = .ok (.iload_n 1, 1) := by decide +kernel
theorem dX6_state_115 : decode cX6_state 115 = .ok (.iaload, 1) := by decide +kernel
theorem dX6_state_116 : decode cX6_state 116 = .ok (.iconst 3, 1) := by decide +kernel
theorem dX6_state_117 : decode cX6_state 117 = .ok (.if_icmp .ne 12, 3) := by decide +kernel
theorem dX6_state_120 : decode cX6_state 120 = .ok (.aload_n 0, 1) := by decide +kernel
theorem dX6_state_121 : decode cX6_state 121 = .ok (.getfield 66, 3) := by decide +kernel
theorem dX6_state_124 : decode cX6_state 124 = .ok (.iload_n 1, 1) := by decide +kernel
theorem dX6_state_125 : decode cX6_state 125 = .ok (.iaload, 1) := by decide +kernel
theorem dX6_state_126 : decode cX6_state 126 = .ok (.goto 4, 3) := by decide +kernel
theorem dX6_state_129 : decode cX6_state 129 = .ok (.iconst 0, 1) := by decide +kernel
theorem dX6_state_130 : decode cX6_state 130 = .ok (.ireturn, 1) := by decide +kernel
theorem dX6_state_131 : decode cX6_state 131 = .ok (.aload_n 0, 1) := by decide +kernel
theorem dX6_state_132 : decode cX6_state 132 = .ok (.getfield 48, 3) := by decide +kernel
theorem dX6_state_135 : decode cX6_state 135 = .ok (.iload_n 1, 1) := by decide +kernel
theorem dX6_state_136 : decode cX6_state 136 = .ok (.iaload, 1) := by decide +kernel
theorem dX6_state_137 : decode cX6_state 137 = .ok (.iconst 3, 1) := by decide +kernel
theorem dX6_state_138 : decode cX6_state 138 = .ok (.if_icmp .ne 12, 3) := by decide +kernel
theorem dX6_state_141 : decode cX6_state 141 = .ok (.aload_n 0, 1) := by decide +kernel
theorem dX6_state_142 : decode cX6_state 142 = .ok (.getfield 69, 3) := by decide +kernel
theorem dX6_state_145 : decode cX6_state 145 = .ok (.iload_n 1, 1) := by decide +kernel
theorem dX6_state_146 : decode cX6_state 146 = .ok (.iaload, 1) := by decide +kernel
theorem dX6_state_147 : decode cX6_state 147 = .ok (.goto 4, 3) := by decide +kernel
theorem dX6_state_150 : decode cX6_state 150 = .ok (.iconst 0, 1) := by decide +kernel
theorem dX6_state_151 : decode cX6_state 151 = .ok (.ireturn, 1) := by decide +kernel
theorem dX6_lock_0 : decode cX6_lock 0 = .ok (.aload_n 0, 1) := by decide +kernel
theorem dX6_lock_1 : decode cX6_lock 1 = .ok (.iconst 0, 1) := by decide +kernel
theorem dX6_lock_2 : decode cX6_lock 2 = .ok (.putfield 75, 3) := by decide +kernel
theorem dX6_lock_5 : decode cX6_lock 5 = .ok (.iload_n 1, 1) := by decide +kernel
theorem dX6_lock_6 : decode cX6_lock 6 = .ok (.iload_n 2, 1) := by decide +kernel
end
section
theorem dX6_lock_7 : decode cX6_lock 7 = .ok (.invokestatic 145, 3) := by decide +kernel
theorem dX6_lock_10 : decode cX6_lock 10 = .ok (.ifCond .eq 5, 3) := by decide +kernel
theorem dX6_lock_13 : decode cX6_lock 13 = .ok (.iconst (-1), 1) := by decide +kernel
theorem dX6_lock_14 : decode cX6_lock 14 = .ok (.ireturn, 1) := by decide +kernel
theorem dX6_lock_15 : decode cX6_lock 15 = .ok (.iload_n 3, 1) := by decide +kernel
theorem dX6_lock_16 : decode cX6_lock 16 = .ok (.iconst 0, 1) := by decide +kernel
theorem dX6_lock_17 : decode cX6_lock 17 = .ok (.iconst 4, 1) := by decide +kernel
theorem dX6_lock_18 : decode cX6_lock 18 = .ok (.invokestatic 134, 3) := by decide +kernel
theorem dX6_lock_21 : decode cX6_lock 21 = .ok (.ifCond .ne 6, 3) := by decide +kernel
theorem dX6_lock_24 : decode cX6_lock 24 = .ok (.bipush (-2), 2) := by decide +kernel
theorem dX6_lock_26 : decode cX6_lock 26 = .ok (.ireturn, 1) := by decide +kernel
theorem dX6_lock_27 : decode cX6_lock 27 = .ok (.iconst 4, 1) := by decide +kernel
theorem dX6_lock_28 : decode cX6_lock 28 = .ok (.iload_n 1, 1) := by decide +kernel
theorem dX6_lock_29 : decode cX6_lock 29 = .ok (.imul, 1) := by decide +kernel
theorem dX6_lock_30 : decode cX6_lock 30 = .ok (.iload_n 2, 1) := by decide +kernel
theorem dX6_lock_31 : decode cX6_lock 31 = .ok (.iadd, 1) := by decide +kernel
theorem dX6_lock_32 : decode cX6_lock 32 = .ok (.istore 4, 2) := by decide +kernel
theorem dX6_lock_34 : decode cX6_lock 34 = .ok (.aload_n 0, 1) := by decide +kernel
theorem dX6_lock_35 : decode cX6_lock 35 = .ok (.getfield 39, 3) := by decide +kernel
theorem dX6_lock_38 : decode cX6_lock 38 = .ok (.iload 4, 2) := by decide +kernel
theorem dX6_lock_40 : decode cX6_lock 40 = .ok (.iaload, 1) := by decide +kernel
theorem dX6_lock_41 : decode cX6_lock 41 = .ok (.ifCond .ne 5, 3) := by decide +kernel
theorem dX6_lock_44 : decode cX6_lock 44 = .ok (.iconst 0, 1) := by decide +kernel
theorem dX6_lock_45 : decode cX6_lock 45 = .ok (.ireturn, 1) := by decide +kernel
theorem dX6_lock_46 : decode cX6_lock 46 = .ok (.iload_n 3, 1) := by decide +kernel
theorem dX6_lock_47 : decode cX6_lock 47 = .ok (.tableswitch 68 0 3 #[29, 37, 45, 53], 29) := by decide +kernel
theorem dX6_lock_76 : decode cX6_lock 76 = .ok (.aload_n 0, 1) := by decide +kernel
theorem dX6_lock_77 : decode cX6_lock 77 = .ok (.getfield 39, 3) := by decide +kernel
theorem dX6_lock_80 : decode cX6_lock 80 = .ok (.iload 4, 2) := by decide +kernel
theorem dX6_lock_82 : decode cX6_lock 82 = .ok (.iaload, 1) := by decide +kernel
theorem dX6_lock_83 : decode cX6_lock 83 = .ok (.ireturn, 1) := by decide +kernel
theorem dX6_lock_84 : decode cX6_lock 84 = .ok (.aload_n 0, 1) := by decide +kernel
theorem dX6_lock_85 : decode cX6_lock 85 = .ok (.getfield 42, 3) := by decide +kernel
theorem dX6_lock_88 : decode cX6_lock 88 = .ok (.iload 4, 2) := by decide +kernel
theorem dX6_lock_90 : decode cX6_lock 90 = .ok (.iaload, 1) := by decide +kernel
theorem dX6_lock_91 : decode cX6_lock 91 = .ok (.ireturn, 1) := by decide +kernel
theorem dX6_lock_92 : decode cX6_lock 92 = .ok (.aload_n 0, 1) := by decide +kernel
theorem dX6_lock_93 : decode cX6_lock 93 = .ok (.getfield 45, 3) := by decide +kernel
theorem dX6_lock_96 : decode cX6_lock 96 = .ok (.iload 4, 2) := by decide +kernel
theorem dX6_lock_98 : decode cX6_lock 98 = .ok (.iaload, 1) := by decide +kernel
theorem dX6_lock_99 : decode cX6_lock 99 = .ok (.ireturn, 1) := by decide +kernel
theorem dX6_lock_100 : decode cX6_lock 100 = .ok (.aload_n 0, 1) := by decide +kernel
theorem dX6_lock_101 : decode cX6_lock 101 = .ok (.iload 4, 2) := by decide +kernel
theorem dX6_lock_103 : decode cX6_lock 103 = .ok (.invokevirtual 128, 3) := by decide +kernel
theorem dX6_lock_106 : decode cX6_lock 106 = .ok (.ifCond .eq 7, 3) := by decide +kernel
theorem dX6_lock_109 : decode cX6_lock 109 = .ok (.iconst 1, 1) := by decide +kernel
theorem dX6_lock_110 : decode cX6_lock 110 = .ok (.goto 4, 3) := by decide +kernel
theorem dX6_lock_113 : decode cX6_lock 113 = .ok (.iconst 0, 1) := by decide +kernel
theorem dX6_lock_114 : decode cX6_lock 114 = .ok (.ireturn, 1) := by decide +kernel
theorem dX6_lock_115 : decode cX6_lock 115 = .ok (.aload_n 0, 1) := by decide +kernel
theorem dX6_lock_116 : decode cX6_lock 116 = .ok (.iload 4, 2) := by decide +kernel
theorem dX6_lock_118 : decode cX6_lock 118 = .ok (.invokevirtual 124, 3) := by decide +kernel
theorem dX6_lock_121 : decode cX6_lock 121 = .ok (.ifCond .eq 7, 3) := by decide +kernel
theorem dX6_lock_124 : decode cX6_lock 124 = .ok (.iconst 1, 1) := by decide +kernel
theorem dX6_lock_125 : decode cX6_lock 125 = .ok (.goto 4, 3) := by decide +kernel
theorem dX6_lock_128 : decode cX6_lock 128 = .ok (.iconst 0, 1) := by decide +kernel
theorem dX6_lock_129 : decode cX6_lock 129 = .ok (.ireturn, 1) := by decide +kernel
theorem dX6_versions_0 : decode cX6_versions 0 = .ok (.aload_n 0, 1) := by decide +kernel
theorem dX6_versions_1 : decode cX6_versions 1 = .ok (.iconst 0, 1) := by decide +kernel
theorem dX6_versions_2 : decode cX6_versions 2 = .ok (.putfield 75, 3) := by decide +kernel
theorem dX6_versions_5 : decode cX6_versions 5 = .ok (.iload_n 1, 1) := by decide +kernel
theorem dX6_versions_6 : decode cX6_versions 6 = .ok (.iload_n 2, 1) := by decide +kernel
theorem dX6_versions_7 : decode cX6_versions 7 = .ok (.invokestatic 145, 3) := by decide +kernel
theorem dX6_versions_10 : decode cX6_versions 10 = .ok (.ifCond .eq 5, 3) := by decide +kernel
theorem dX6_versions_13 : decode cX6_versions 13 = .ok (.iconst (-1), 1) := by decide +kernel
theorem dX6_versions_14 : decode cX6_versions 14 = .ok (.ireturn, 1) := by decide +kernel
theorem dX6_versions_15 : decode cX6_versions 15 = .ok (.iconst 0, 1) := by decide +kernel
theorem dX6_versions_16 : decode cX6_versions 16 = .ok (.istore_n 3, 1) := by decide +kernel
theorem dX6_versions_17 : decode cX6_versions 17 = .ok (.iconst 0, 1) := by decide +kernel
theorem dX6_versions_18 : decode cX6_versions 18 = .ok (.istore 4, 2) := by decide +kernel
theorem dX6_versions_20 : decode cX6_versions 20 = .ok (.iload 4, 2) := by decide +kernel
theorem dX6_versions_22 : decode cX6_versions 22 = .ok (.aload_n 0, 1) := by decide +kernel
theorem dX6_versions_23 : decode cX6_versions 23 = .ok (.getfield 81, 3) := by decide +kernel
theorem dX6_versions_26 : decode cX6_versions 26 = .ok (.if_icmp .ge 32, 3) := by decide +kernel
theorem dX6_versions_29 : decode cX6_versions 29 = .ok (.iload_n 3, 1) := by decide +kernel
theorem dX6_versions_30 : decode cX6_versions 30 = .ok (.aload_n 0, 1) := by decide +kernel
theorem dX6_versions_31 : decode cX6_versions 31 = .ok (.getfield 26, 3) := by decide +kernel
theorem dX6_versions_34 : decode cX6_versions 34 = .ok (.iload 4, 2) := by decide +kernel
theorem dX6_versions_36 : decode cX6_versions 36 = .ok (.iaload, 1) := by decide +kernel
theorem dX6_versions_37 : decode cX6_versions 37 = .ok (.iconst 4, 1) := by decide +kernel
theorem dX6_versions_38 : decode cX6_versions 38 = .ok (.iload_n 1, 1) := by decide +kernel
theorem dX6_versions_39 : decode cX6_versions 39 = .ok (.imul, 1) := by decide +kernel
theorem dX6_versions_40 : decode cX6_versions 40 = .ok (.iload_n 2, 1) := by decide +kernel
theorem dX6_versions_41 : decode cX6_versions 41 = .ok (.iadd, 1) := by decide +kernel
theorem dX6_versions_42 : decode cX6_versions 42 = .ok (.if_icmp .ne 7, 3) := by decide +kernel
theorem dX6_versions_45 : decode cX6_versions 45 = .ok (.iconst 1, 1) := by decide +kernel
theorem dX6_versions_46 : decode cX6_versions 46 = .ok (.goto 4, 3) := by decide +kernel
theorem dX6_versions_49 : decode cX6_versions 49 = .ok (.iconst 0, 1) := by decide +kernel
theorem dX6_versions_50 : decode cX6_versions 50 = .ok (.iadd, 1) := by decide +kernel
theorem dX6_versions_51 : decode cX6_versions 51 = .ok (.istore_n 3, 1) := by decide +kernel
theorem dX6_versions_52 : decode cX6_versions 52 = .ok (.iinc 4 1, 3) := by decide +kernel
theorem dX6_versions_55 : decode cX6_versions 55 = .ok (.goto (-35), 3) := by decide +kernel
theorem dX6_versions_58 : decode cX6_versions 58 = .ok (.iload_n 3, 1) := by decide +kernel
theorem dX6_versions_59 : decode cX6_versions 59 = .ok (.ireturn, 1) := by decide +kernel
theorem dX6_version_0 : decode cX6_version 0 = .ok (.aload_n 0, 1) := by decide +kernel
theorem dX6_version_1 : decode cX6_version 1 = .ok (.iconst 0, 1) := by decide +kernel
theorem dX6_version_2 : decode cX6_version 2 = .ok (.putfield 75, 3) := by decide +kernel
theorem dX6_version_5 : decode cX6_version 5 = .ok (.iload_n 1, 1) := by decide +kernel
theorem dX6_version_6 : decode cX6_version 6 = .ok (.iload_n 2, 1) := by decide +kernel
theorem dX6_version_7 : decode cX6_version 7 = .ok (.invokestatic 145, 3) := by decide +kernel
theorem dX6_version_10 : decode cX6_version 10 = .ok (.ifCond .ne 7, 3) := by decide +kernel
theorem dX6_version_13 : decode cX6_version 13 = .ok (.iload_n 3, 1) := by decide +kernel
theorem dX6_version_14 : decode cX6_version 14 = .ok (.ifCond .ge 5, 3) := by decide +kernel
theorem dX6_version_17 : decode cX6_version 17 = .ok (.iconst (-1), 1) := by decide +kernel
theorem dX6_version_18 : decode cX6_version 18 = .ok (.ireturn, 1) := by decide +kernel
theorem dX6_version_19 : decode cX6_version 19 = .ok (.iconst 4, 1) := by decide +kernel
theorem dX6_version_20 : decode cX6_version 20 = .ok (.iload_n 1, 1) := by decide +kernel
theorem dX6_version_21 : decode cX6_version 21 = .ok (.imul, 1) := by decide +kernel
theorem dX6_version_22 : decode cX6_version 22 = .ok (.iload_n 2, 1) := by decide +kernel
theorem dX6_version_23 : decode cX6_version 23 = .ok (.iadd, 1) := by decide +kernel
theorem dX6_version_24 : decode cX6_version 24 = .ok (.istore 5, 2) := by decide +kernel
theorem dX6_version_26 : decode cX6_version 26 = .ok (.ldc 191, 2) := by decide +kernel
theorem dX6_version_28 : decode cX6_version 28 = .ok (.istore 6, 2) := by decide +kernel
theorem dX6_version_30 : decode cX6_version 30 = .ok (.iconst (-1), 1) := by decide +kernel
theorem dX6_version_31 : decode cX6_version 31 = .ok (.istore 7, 2) := by decide +kernel
theorem dX6_version_33 : decode cX6_version 33 = .ok (.iconst 0, 1) := by decide +kernel
theorem dX6_version_34 : decode cX6_version 34 = .ok (.istore 8, 2) := by decide +kernel
theorem dX6_version_36 : decode cX6_version 36 = .ok (.iload 8, 2) := by decide +kernel
theorem dX6_version_38 : decode cX6_version 38 = .ok (.iload_n 3, 1) := by decide +kernel
theorem dX6_version_39 : decode cX6_version 39 = .ok (.if_icmp .gt 113, 3) := by decide +kernel
theorem dX6_version_42 : decode cX6_version 42 = .ok (.iconst (-1), 1) := by decide +kernel
theorem dX6_version_43 : decode cX6_version 43 = .ok (.istore 7, 2) := by decide +kernel
theorem dX6_version_45 : decode cX6_version 45 = .ok (.iconst 0, 1) := by decide +kernel
theorem dX6_version_46 : decode cX6_version 46 = .ok (.istore 9, 2) := by decide +kernel
theorem dX6_version_48 : decode cX6_version 48 = .ok (.iload 9, 2) := by decide +kernel
theorem dX6_version_50 : decode cX6_version 50 = .ok (.aload_n 0, 1) := by decide +kernel
theorem dX6_version_51 : decode cX6_version 51 = .ok (.getfield 81, 3) := by decide +kernel
theorem dX6_version_54 : decode cX6_version 54 = .ok (.if_icmp .ge 76, 3) := by decide +kernel
theorem dX6_version_57 : decode cX6_version 57 = .ok (.aload_n 0, 1) := by decide +kernel
theorem dX6_version_58 : decode cX6_version 58 = .ok (.getfield 26, 3) := by decide +kernel
theorem dX6_version_61 : decode cX6_version 61 = .ok (.iload 9, 2) := by decide +kernel
theorem dX6_version_63 : decode cX6_version 63 = .ok (.iaload, 1) := by decide +kernel
theorem dX6_version_64 : decode cX6_version 64 = .ok (.iload 5, 2) := by decide +kernel
theorem dX6_version_66 : decode cX6_version 66 = .ok (.if_icmp .ne 19, 3) := by decide +kernel
theorem dX6_version_69 : decode cX6_version 69 = .ok (.aload_n 0, 1) := by decide +kernel
theorem dX6_version_70 : decode cX6_version 70 = .ok (.getfield 29, 3) := by decide +kernel
theorem dX6_version_73 : decode cX6_version 73 = .ok (.iload 9, 2) := by decide +kernel
theorem dX6_version_75 : decode cX6_version 75 = .ok (.iaload, 1) := by decide +kernel
theorem dX6_version_76 : decode cX6_version 76 = .ok (.iload 6, 2) := by decide +kernel
theorem dX6_version_78 : decode cX6_version 78 = .ok (.if_icmp .ge 7, 3) := by decide +kernel
theorem dX6_version_81 : decode cX6_version 81 = .ok (.iconst 1, 1) := by decide +kernel
theorem dX6_version_82 : decode cX6_version 82 = .ok (.goto 4, 3) := by decide +kernel
theorem dX6_version_85 : decode cX6_version 85 = .ok (.iconst 0, 1) := by decide +kernel
theorem dX6_version_86 : decode cX6_version 86 = .ok (.istore 10, 2) := by decide +kernel
theorem dX6_version_88 : decode cX6_version 88 = .ok (.iload 10, 2) := by decide +kernel
theorem dX6_version_90 : decode cX6_version 90 = .ok (.ifCond .eq 30, 3) := by decide +kernel
theorem dX6_version_93 : decode cX6_version 93 = .ok (.iload 7, 2) := by decide +kernel
theorem dX6_version_95 : decode cX6_version 95 = .ok (.ifCond .lt 20, 3) := by decide +kernel
theorem dX6_version_98 : decode cX6_version 98 = .ok (.aload_n 0, 1) := by decide +kernel
theorem dX6_version_99 : decode cX6_version 99 = .ok (.getfield 29, 3) := by decide +kernel
theorem dX6_version_102 : decode cX6_version 102 = .ok (.iload 9, 2) := by decide +kernel
theorem dX6_version_104 : decode cX6_version 104 = .ok (.iaload, 1) := by decide +kernel
theorem dX6_version_105 : decode cX6_version 105 = .ok (.aload_n 0, 1) := by decide +kernel
theorem dX6_version_106 : decode cX6_version 106 = .ok (.getfield 29, 3) := by decide +kernel
theorem dX6_version_109 : decode cX6_version 109 = .ok (.iload 7, 2) := by decide +kernel
theorem dX6_version_111 : decode cX6_version 111 = .ok (.iaload, 1) := by decide +kernel
theorem dX6_version_112 : decode cX6_version 112 = .ok (.if_icmp .le 8, 3) := by decide +kernel
theorem dX6_version_115 : decode cX6_version 115 = .ok (.iload 9, 2) := by decide +kernel
theorem dX6_version_117 : decode cX6_version 117 = .ok (.goto 5, 3) := by decide +kernel
theorem dX6_version_120 : decode cX6_version 120 = .ok (.iload 7, 2) := by decide +kernel
theorem dX6_version_122 : decode cX6_version 122 = .ok (.istore 7, 2) := by decide +kernel
theorem dX6_version_124 : decode cX6_version 124 = .ok (.iinc 9 1, 3) := by decide +kernel
theorem dX6_version_127 : decode cX6_version 127 = .ok (.goto (-79), 3) := by decide +kernel
theorem dX6_version_130 : decode cX6_version 130 = .ok (.iload 7, 2) := by decide +kernel
theorem dX6_version_132 : decode cX6_version 132 = .ok (.ifCond .ge 5, 3) := by decide +kernel
theorem dX6_version_135 : decode cX6_version 135 = .ok (.iconst (-1), 1) := by decide +kernel
theorem dX6_version_136 : decode cX6_version 136 = .ok (.ireturn, 1) := by decide +kernel
theorem dX6_version_137 : decode cX6_version 137 = .ok (.aload_n 0, 1) := by decide +kernel
theorem dX6_version_138 : decode cX6_version 138 = .ok (.getfield 29, 3) := by decide +kernel
theorem dX6_version_141 : decode cX6_version 141 = .ok (.iload 7, 2) := by decide +kernel
theorem dX6_version_143 : decode cX6_version 143 = .ok (.iaload, 1) := by decide +kernel
theorem dX6_version_144 : decode cX6_version 144 = .ok (.istore 6, 2) := by decide +kernel
theorem dX6_version_146 : decode cX6_version 146 = .ok (.iinc 8 1, 3) := by decide +kernel
theorem dX6_version_149 : decode cX6_version 149 = .ok (.goto (-113), 3) := by decide +kernel
theorem dX6_version_152 : decode cX6_version 152 = .ok (.iload 4, 2) := by decide +kernel
theorem dX6_version_154 : decode cX6_version 154 = .ok (.iconst 0, 1) := by decide +kernel
theorem dX6_version_155 : decode cX6_version 155 = .ok (.iconst 2, 1) := by decide +kernel
theorem dX6_version_156 : decode cX6_version 156 = .ok (.invokestatic 134, 3) := by decide +kernel
theorem dX6_version_159 : decode cX6_version 159 = .ok (.ifCond .ne 6, 3) := by decide +kernel
theorem dX6_version_162 : decode cX6_version 162 = .ok (.bipush (-2), 2) := by decide +kernel
theorem dX6_version_164 : decode cX6_version 164 = .ok (.ireturn, 1) := by decide +kernel
theorem dX6_version_165 : decode cX6_version 165 = .ok (.aload_n 0, 1) := by decide +kernel
theorem dX6_version_166 : decode cX6_version 166 = .ok (.iload 5, 2) := by decide +kernel
theorem dX6_version_168 : decode cX6_version 168 = .ok (.aload_n 0, 1) := by decide +kernel
theorem dX6_version_169 : decode cX6_version 169 = .ok (.getfield 32, 3) := by decide +kernel
theorem dX6_version_172 : decode cX6_version 172 = .ok (.iload 7, 2) := by decide +kernel
theorem dX6_version_174 : decode cX6_version 174 = .ok (.iaload, 1) := by decide +kernel
theorem dX6_version_175 : decode cX6_version 175 = .ok (.invokevirtual 99, 3) := by decide +kernel
theorem dX6_version_178 : decode cX6_version 178 = .ok (.istore 8, 2) := by decide +kernel
theorem dX6_version_180 : decode cX6_version 180 = .ok (.iload 4, 2) := by decide +kernel
theorem dX6_version_182 : decode cX6_version 182 = .ok (.ifCond .ne 13, 3) := by decide +kernel
theorem dX6_version_185 : decode cX6_version 185 = .ok (.aload_n 0, 1) := by decide +kernel
theorem dX6_version_186 : decode cX6_version 186 = .ok (.getfield 29, 3) := by decide +kernel
theorem dX6_version_189 : decode cX6_version 189 = .ok (.iload 7, 2) := by decide +kernel
theorem dX6_version_191 : decode cX6_version 191 = .ok (.iaload, 1) := by decide +kernel
theorem dX6_version_192 : decode cX6_version 192 = .ok (.goto 49, 3) := by decide +kernel
theorem dX6_version_195 : decode cX6_version 195 = .ok (.aload_n 0, 1) := by decide +kernel
theorem dX6_version_196 : decode cX6_version 196 = .ok (.getfield 35, 3) := by decide +kernel
theorem dX6_version_199 : decode cX6_version 199 = .ok (.iload 7, 2) := by decide +kernel
theorem dX6_version_201 : decode cX6_version 201 = .ok (.baload, 1) := by decide +kernel
theorem dX6_version_202 : decode cX6_version 202 = .ok (.ifCond .eq 7, 3) := by decide +kernel
theorem dX6_version_205 : decode cX6_version 205 = .ok (.iconst 0, 1) := by decide +kernel
theorem dX6_version_206 : decode cX6_version 206 = .ok (.goto 35, 3) := by decide +kernel
theorem dX6_version_209 : decode cX6_version 209 = .ok (.iload 4, 2) := by decide +kernel
theorem dX6_version_211 : decode cX6_version 211 = .ok (.iconst 1, 1) := by decide +kernel
theorem dX6_version_212 : decode cX6_version 212 = .ok (.if_icmp .ne 13, 3) := by decide +kernel
theorem dX6_version_215 : decode cX6_version 215 = .ok (.aload_n 0, 1) := by decide +kernel
theorem dX6_version_216 : decode cX6_version 216 = .ok (.getfield 32, 3) := by decide +kernel
theorem dX6_version_219 : decode cX6_version 219 = .ok (.iload 7, 2) := by decide +kernel
theorem dX6_version_221 : decode cX6_version 221 = .ok (.iaload, 1) := by decide +kernel
theorem dX6_version_222 : decode cX6_version 222 = .ok (.goto 19, 3) := by decide +kernel
theorem dX6_version_225 : decode cX6_version 225 = .ok (.iload 8, 2) := by decide +kernel
theorem dX6_version_227 : decode cX6_version 227 = .ok (.ifCond .ge 7, 3) := by decide +kernel
theorem dX6_version_230 : decode cX6_version 230 = .ok (.iconst 0, 1) := by decide +kernel
theorem dX6_version_231 : decode cX6_version 231 = .ok (.goto 10, 3) := by decide +kernel
theorem dX6_version_234 : decode cX6_version 234 = .ok (.aload_n 0, 1) := by decide +kernel
theorem dX6_version_235 : decode cX6_version 235 = .ok (.getfield 23, 3) := by decide +kernel
theorem dX6_version_238 : decode cX6_version 238 = .ok (.iload 8, 2) := by decide +kernel
theorem dX6_version_240 : decode cX6_version 240 = .ok (.iaload, 1) := by decide +kernel
theorem dX6_version_241 : decode cX6_version 241 = .ok (.ireturn, 1) := by decide +kernel
theorem dX6_data_0 : decode cX6_data 0 = .ok (.aload_n 0, 1) := by decide +kernel
theorem dX6_data_1 : decode cX6_data 1 = .ok (.iconst 0, 1) := by decide +kernel
theorem dX6_data_2 : decode cX6_data 2 = .ok (.putfield 75, 3) := by decide +kernel
theorem dX6_data_5 : decode cX6_data 5 = .ok (.iload_n 1, 1) := by decide +kernel
theorem dX6_data_6 : decode cX6_data 6 = .ok (.iload_n 2, 1) := by decide +kernel
theorem dX6_data_7 : decode cX6_data 7 = .ok (.invokestatic 145, 3) := by decide +kernel
theorem dX6_data_10 : decode cX6_data 10 = .ok (.ifCond .eq 5, 3) := by decide +kernel
theorem dX6_data_13 : decode cX6_data 13 = .ok (.iconst (-1), 1) := by decide +kernel
theorem dX6_data_14 : decode cX6_data 14 = .ok (.ireturn, 1) := by decide +kernel
theorem dX6_data_15 : decode cX6_data 15 = .ok (.iload_n 3, 1) := by decide +kernel
theorem dX6_data_16 : decode cX6_data 16 = .ok (.iconst 0, 1) := by decide +kernel
theorem dX6_data_17 : decode cX6_data 17 = .ok (.iconst 1, 1) := by decide +kernel
theorem dX6_data_18 : decode cX6_data 18 = .ok (.invokestatic 134, 3) := by decide +kernel
theorem dX6_data_21 : decode cX6_data 21 = .ok (.ifCond .ne 6, 3) := by decide +kernel
theorem dX6_data_24 : decode cX6_data 24 = .ok (.bipush (-2), 2) := by decide +kernel
theorem dX6_data_26 : decode cX6_data 26 = .ok (.ireturn, 1) := by decide +kernel
theorem dX6_data_27 : decode cX6_data 27 = .ok (.iconst 0, 1) := by decide +kernel
theorem dX6_data_28 : decode cX6_data 28 = .ok (.istore 4, 2) := by decide +kernel
theorem dX6_data_30 : decode cX6_data 30 = .ok (.iconst 0, 1) := by decide +kernel
theorem dX6_data_31 : decode cX6_data 31 = .ok (.istore 5, 2) := by decide +kernel
theorem dX6_data_33 : decode cX6_data 33 = .ok (.iconst 0, 1) := by decide +kernel
theorem dX6_data_34 : decode cX6_data 34 = .ok (.istore 6, 2) := by decide +kernel
theorem dX6_data_36 : decode cX6_data 36 = .ok (.iload 6, 2) := by decide +kernel
theorem dX6_data_38 : decode cX6_data 38 = .ok (.aload_n 0, 1) := by decide +kernel
theorem dX6_data_39 : decode cX6_data 39 = .ok (.getfield 78, 3) := by decide +kernel
theorem dX6_data_42 : decode cX6_data 42 = .ok (.if_icmp .ge 53, 3) := by decide +kernel
theorem dX6_data_45 : decode cX6_data 45 = .ok (.aload_n 0, 1) := by decide +kernel
theorem dX6_data_46 : decode cX6_data 46 = .ok (.getfield 16, 3) := by decide +kernel
theorem dX6_data_49 : decode cX6_data 49 = .ok (.iload 6, 2) := by decide +kernel
theorem dX6_data_51 : decode cX6_data 51 = .ok (.iaload, 1) := by decide +kernel
theorem dX6_data_52 : decode cX6_data 52 = .ok (.iconst 4, 1) := by decide +kernel
theorem dX6_data_53 : decode cX6_data 53 = .ok (.iload_n 1, 1) := by decide +kernel
theorem dX6_data_54 : decode cX6_data 54 = .ok (.imul, 1) := by decide +kernel
theorem dX6_data_55 : decode cX6_data 55 = .ok (.iload_n 2, 1) := by decide +kernel
theorem dX6_data_56 : decode cX6_data 56 = .ok (.iadd, 1) := by decide +kernel
theorem dX6_data_57 : decode cX6_data 57 = .ok (.if_icmp .ne 32, 3) := by decide +kernel
theorem dX6_data_60 : decode cX6_data 60 = .ok (.iinc 4 1, 3) := by decide +kernel
theorem dX6_data_63 : decode cX6_data 63 = .ok (.aload_n 0, 1) := by decide +kernel
theorem dX6_data_64 : decode cX6_data 64 = .ok (.getfield 20, 3) := by decide +kernel
theorem dX6_data_67 : decode cX6_data 67 = .ok (.iload 6, 2) := by decide +kernel
theorem dX6_data_69 : decode cX6_data 69 = .ok (.iaload, 1) := by decide +kernel
theorem dX6_data_70 : decode cX6_data 70 = .ok (.iload 5, 2) := by decide +kernel
theorem dX6_data_72 : decode cX6_data 72 = .ok (.if_icmp .le 13, 3) := by decide +kernel
theorem dX6_data_75 : decode cX6_data 75 = .ok (.aload_n 0, 1) := by decide +kernel
theorem dX6_data_76 : decode cX6_data 76 = .ok (.getfield 20, 3) := by decide +kernel
theorem dX6_data_79 : decode cX6_data 79 = .ok (.iload 6, 2) := by decide +kernel
theorem dX6_data_81 : decode cX6_data 81 = .ok (.iaload, 1) := by decide +kernel
theorem dX6_data_82 : decode cX6_data 82 = .ok (.goto 5, 3) := by decide +kernel
theorem dX6_data_85 : decode cX6_data 85 = .ok (.iload 5, 2) := by decide +kernel
theorem dX6_data_87 : decode cX6_data 87 = .ok (.istore 5, 2) := by decide +kernel
theorem dX6_data_89 : decode cX6_data 89 = .ok (.iinc 6 1, 3) := by decide +kernel
theorem dX6_data_92 : decode cX6_data 92 = .ok (.goto (-56), 3) := by decide +kernel
theorem dX6_data_95 : decode cX6_data 95 = .ok (.iload_n 3, 1) := by decide +kernel
theorem dX6_data_96 : decode cX6_data 96 = .ok (.ifCond .ne 8, 3) := by decide +kernel
theorem dX6_data_99 : decode cX6_data 99 = .ok (.iload 4, 2) := by decide +kernel
theorem dX6_data_101 : decode cX6_data 101 = .ok (.goto 5, 3) := by decide +kernel
theorem dX6_data_104 : decode cX6_data 104 = .ok (.iload 5, 2) := by decide +kernel
theorem dX6_data_106 : decode cX6_data 106 = .ok (.ireturn, 1) := by decide +kernel
theorem dX6_told_0 : decode cX6_told 0 = .ok (.aload_n 0, 1) := by decide +kernel
theorem dX6_told_1 : decode cX6_told 1 = .ok (.iconst 0, 1) := by decide +kernel
theorem dX6_told_2 : decode cX6_told 2 = .ok (.putfield 75, 3) := by decide +kernel
theorem dX6_told_5 : decode cX6_told 5 = .ok (.iload_n 1, 1) := by decide +kernel
theorem dX6_told_6 : decode cX6_told 6 = .ok (.tableswitch 95 0 8 #[50, 55, 60, 65, 70, 75, 80, 85, 90], 50) := by decide +kernel
theorem dX6_told_56 : decode cX6_told 56 = .ok (.aload_n 0, 1) := by decide +kernel
theorem dX6_told_57 : decode cX6_told 57 = .ok (.getfield 96, 3) := by decide +kernel
theorem dX6_told_60 : decode cX6_told 60 = .ok (.ireturn, 1) := by decide +kernel
theorem dX6_told_61 : decode cX6_told 61 = .ok (.aload_n 0, 1) := by decide +kernel
theorem dX6_told_62 : decode cX6_told 62 = .ok (.getfield 93, 3) := by decide +kernel
theorem dX6_told_65 : decode cX6_told 65 = .ok (.ireturn, 1) := by decide +kernel
theorem dX6_told_66 : decode cX6_told 66 = .ok (.aload_n 0, 1) := by decide +kernel
theorem dX6_told_67 : decode cX6_told 67 = .ok (.invokevirtual 174, 3) := by decide +kernel
theorem dX6_told_70 : decode cX6_told 70 = .ok (.ireturn, 1) := by decide +kernel
theorem dX6_told_71 : decode cX6_told 71 = .ok (.aload_n 0, 1) := by decide +kernel
theorem dX6_told_72 : decode cX6_told 72 = .ok (.getfield 72, 3) := by decide +kernel
theorem dX6_told_75 : decode cX6_told 75 = .ok (.ireturn, 1) := by decide +kernel
theorem dX6_told_76 : decode cX6_told 76 = .ok (.aload_n 0, 1) := by decide +kernel
theorem dX6_told_77 : decode cX6_told 77 = .ok (.getfield 87, 3) := by decide +kernel
theorem dX6_told_80 : decode cX6_told 80 = .ok (.ireturn, 1) := by decide +kernel
theorem dX6_told_81 : decode cX6_told 81 = .ok (.aload_n 0, 1) := by decide +kernel
theorem dX6_told_82 : decode cX6_told 82 = .ok (.getfield 90, 3) := by decide +kernel
theorem dX6_told_85 : decode cX6_told 85 = .ok (.ireturn, 1) := by decide +kernel
theorem dX6_told_86 : decode cX6_told 86 = .ok (.aload_n 0, 1) := by decide +kernel
theorem dX6_told_87 : decode cX6_told 87 = .ok (.getfield 103, 3) := by decide +kernel
theorem dX6_told_90 : decode cX6_told 90 = .ok (.ireturn, 1) := by decide +kernel
theorem dX6_told_91 : decode cX6_told 91 = .ok (.aload_n 0, 1) := by decide +kernel
theorem dX6_told_92 : decode cX6_told 92 = .ok (.getfield 187, 3) := by decide +kernel
theorem dX6_told_95 : decode cX6_told 95 = .ok (.ireturn, 1) := by decide +kernel
theorem dX6_told_96 : decode cX6_told 96 = .ok (.aload_n 0, 1) := by decide +kernel
theorem dX6_told_97 : decode cX6_told 97 = .ok (.getfield 106, 3) := by decide +kernel
theorem dX6_told_100 : decode cX6_told 100 = .ok (.ireturn, 1) := by decide +kernel
theorem dX6_told_101 : decode cX6_told 101 = .ok (.bipush (-2), 2) := by decide +kernel
theorem dX6_told_103 : decode cX6_told 103 = .ok (.ireturn, 1) := by decide +kernel
theorem dL_law_0 : decode cL_law 0 = .ok (.new 7, 3) := by decide +kernel
theorem dL_law_3 : decode cL_law 3 = .ok (.dup, 1) := by decide +kernel
theorem dL_law_4 : decode cL_law 4 = .ok (.invokespecial 9, 3) := by decide +kernel
theorem dL_law_7 : decode cL_law 7 = .ok (.astore_n 1, 1) := by decide +kernel
theorem dL_law_8 : decode cL_law 8 = .ok (.new 10, 3) := by decide +kernel
theorem dL_law_11 : decode cL_law 11 = .ok (.dup, 1) := by decide +kernel
theorem dL_law_12 : decode cL_law 12 = .ok (.invokespecial 12, 3) := by decide +kernel
theorem dL_law_15 : decode cL_law 15 = .ok (.astore_n 2, 1) := by decide +kernel
theorem dL_law_16 : decode cL_law 16 = .ok (.iconst 0, 1) := by decide +kernel
theorem dL_law_17 : decode cL_law 17 = .ok (.istore_n 3, 1) := by decide +kernel
theorem dL_law_18 : decode cL_law 18 = .ok (.iload_n 3, 1) := by decide +kernel
theorem dL_law_19 : decode cL_law 19 = .ok (.aload_n 0, 1) := by decide +kernel
theorem dL_law_20 : decode cL_law 20 = .ok (.arraylength, 1) := by decide +kernel
theorem dL_law_21 : decode cL_law 21 = .ok (.iconst 5, 1) := by decide +kernel
theorem dL_law_22 : decode cL_law 22 = .ok (.isub, 1) := by decide +kernel
theorem dL_law_23 : decode cL_law 23 = .ok (.if_icmp .gt 647, 3) := by decide +kernel
theorem dL_law_26 : decode cL_law 26 = .ok (.aload_n 0, 1) := by decide +kernel
theorem dL_law_27 : decode cL_law 27 = .ok (.iload_n 3, 1) := by decide +kernel
theorem dL_law_28 : decode cL_law 28 = .ok (.iaload, 1) := by decide +kernel
theorem dL_law_29 : decode cL_law 29 = .ok (.bipush 31, 2) := by decide +kernel
theorem dL_law_31 : decode cL_law 31 = .ok (.iand, 1) := by decide +kernel
theorem dL_law_32 : decode cL_law 32 = .ok (.tableswitch 632 0 17 #[88, 111, 154, 187, 240, 263, 286, 309, 332, 355, 368, 381, 404, 437, 480, 513, 566, 609], 88) := by decide +kernel
theorem dL_law_120 : decode cL_law 120 = .ok (.aload_n 1, 1) := by decide +kernel
theorem dL_law_121 : decode cL_law 121 = .ok (.aload_n 0, 1) := by decide +kernel
theorem dL_law_122 : decode cL_law 122 = .ok (.iload_n 3, 1) := by decide +kernel
theorem dL_law_123 : decode cL_law 123 = .ok (.iconst 1, 1) := by decide +kernel
theorem dL_law_124 : decode cL_law 124 = .ok (.iadd, 1) := by decide +kernel
theorem dL_law_125 : decode cL_law 125 = .ok (.iaload, 1) := by decide +kernel
theorem dL_law_126 : decode cL_law 126 = .ok (.invokevirtual 13, 3) := by decide +kernel
theorem dL_law_129 : decode cL_law 129 = .ok (.aload_n 2, 1) := by decide +kernel
theorem dL_law_130 : decode cL_law 130 = .ok (.aload_n 0, 1) := by decide +kernel
theorem dL_law_131 : decode cL_law 131 = .ok (.iload_n 3, 1) := by decide +kernel
theorem dL_law_132 : decode cL_law 132 = .ok (.iconst 1, 1) := by decide +kernel
theorem dL_law_133 : decode cL_law 133 = .ok (.iadd, 1) := by decide +kernel
theorem dL_law_134 : decode cL_law 134 = .ok (.iaload, 1) := by decide +kernel
theorem dL_law_135 : decode cL_law 135 = .ok (.invokevirtual 17, 3) := by decide +kernel
theorem dL_law_138 : decode cL_law 138 = .ok (.if_icmp .eq 526, 3) := by decide +kernel
theorem dL_law_141 : decode cL_law 141 = .ok (.iconst 0, 1) := by decide +kernel
theorem dL_law_142 : decode cL_law 142 = .ok (.ireturn, 1) := by decide +kernel
theorem dL_law_143 : decode cL_law 143 = .ok (.aload_n 1, 1) := by decide +kernel
theorem dL_law_144 : decode cL_law 144 = .ok (.aload_n 0, 1) := by decide +kernel
theorem dL_law_145 : decode cL_law 145 = .ok (.iload_n 3, 1) := by decide +kernel
theorem dL_law_146 : decode cL_law 146 = .ok (.iconst 1, 1) := by decide +kernel
theorem dL_law_147 : decode cL_law 147 = .ok (.iadd, 1) := by decide +kernel
theorem dL_law_148 : decode cL_law 148 = .ok (.iaload, 1) := by decide +kernel
theorem dL_law_149 : decode cL_law 149 = .ok (.aload_n 0, 1) := by decide +kernel
theorem dL_law_150 : decode cL_law 150 = .ok (.iload_n 3, 1) := by decide +kernel
theorem dL_law_151 : decode cL_law 151 = .ok (.iconst 2, 1) := by decide +kernel
theorem dL_law_152 : decode cL_law 152 = .ok (.iadd, 1) := by decide +kernel
theorem dL_law_153 : decode cL_law 153 = .ok (.iaload, 1) := by decide +kernel
theorem dL_law_154 : decode cL_law 154 = .ok (.aload_n 0, 1) := by decide +kernel
theorem dL_law_155 : decode cL_law 155 = .ok (.iload_n 3, 1) := by decide +kernel
theorem dL_law_156 : decode cL_law 156 = .ok (.iconst 3, 1) := by decide +kernel
theorem dL_law_157 : decode cL_law 157 = .ok (.iadd, 1) := by decide +kernel
theorem dL_law_158 : decode cL_law 158 = .ok (.iaload, 1) := by decide +kernel
theorem dL_law_159 : decode cL_law 159 = .ok (.invokevirtual 18, 3) := by decide +kernel
theorem dL_law_162 : decode cL_law 162 = .ok (.aload_n 2, 1) := by decide +kernel
theorem dL_law_163 : decode cL_law 163 = .ok (.aload_n 0, 1) := by decide +kernel
theorem dL_law_164 : decode cL_law 164 = .ok (.iload_n 3, 1) := by decide +kernel
theorem dL_law_165 : decode cL_law 165 = .ok (.iconst 1, 1) := by decide +kernel
theorem dL_law_166 : decode cL_law 166 = .ok (.iadd, 1) := by decide +kernel
theorem dL_law_167 : decode cL_law 167 = .ok (.iaload, 1) := by decide +kernel
theorem dL_law_168 : decode cL_law 168 = .ok (.aload_n 0, 1) := by decide +kernel
theorem dL_law_169 : decode cL_law 169 = .ok (.iload_n 3, 1) := by decide +kernel
theorem dL_law_170 : decode cL_law 170 = .ok (.iconst 2, 1) := by decide +kernel
theorem dL_law_171 : decode cL_law 171 = .ok (.iadd, 1) := by decide +kernel
theorem dL_law_172 : decode cL_law 172 = .ok (.iaload, 1) := by decide +kernel
theorem dL_law_173 : decode cL_law 173 = .ok (.aload_n 0, 1) := by decide +kernel
theorem dL_law_174 : decode cL_law 174 = .ok (.iload_n 3, 1) := by decide +kernel
theorem dL_law_175 : decode cL_law 175 = .ok (.iconst 3, 1) := by decide +kernel
theorem dL_law_176 : decode cL_law 176 = .ok (.iadd, 1) := by decide +kernel
theorem dL_law_177 : decode cL_law 177 = .ok (.iaload, 1) := by decide +kernel
theorem dL_law_178 : decode cL_law 178 = .ok (.invokevirtual 22, 3) := by decide +kernel
theorem dL_law_181 : decode cL_law 181 = .ok (.if_icmp .eq 483, 3) := by decide +kernel
theorem dL_law_184 : decode cL_law 184 = .ok (.iconst 0, 1) := by decide +kernel
theorem dL_law_185 : decode cL_law 185 = .ok (.ireturn, 1) := by decide +kernel
theorem dL_law_186 : decode cL_law 186 = .ok (.aload_n 1, 1) := by decide +kernel
theorem dL_law_187 : decode cL_law 187 = .ok (.aload_n 0, 1) := by decide +kernel
theorem dL_law_188 : decode cL_law 188 = .ok (.iload_n 3, 1) := by decide +kernel
theorem dL_law_189 : decode cL_law 189 = .ok (.iconst 1, 1) := by decide +kernel
theorem dL_law_190 : decode cL_law 190 = .ok (.iadd, 1) := by decide +kernel
theorem dL_law_191 : decode cL_law 191 = .ok (.iaload, 1) := by decide +kernel
theorem dL_law_192 : decode cL_law 192 = .ok (.aload_n 0, 1) := by decide +kernel
theorem dL_law_193 : decode cL_law 193 = .ok (.iload_n 3, 1) := by decide +kernel
theorem dL_law_194 : decode cL_law 194 = .ok (.iconst 2, 1) := by decide +kernel
theorem dL_law_195 : decode cL_law 195 = .ok (.iadd, 1) := by decide +kernel
theorem dL_law_196 : decode cL_law 196 = .ok (.iaload, 1) := by decide +kernel
theorem dL_law_197 : decode cL_law 197 = .ok (.invokevirtual 23, 3) := by decide +kernel
theorem dL_law_200 : decode cL_law 200 = .ok (.aload_n 2, 1) := by decide +kernel
theorem dL_law_201 : decode cL_law 201 = .ok (.aload_n 0, 1) := by decide +kernel
theorem dL_law_202 : decode cL_law 202 = .ok (.iload_n 3, 1) := by decide +kernel
theorem dL_law_203 : decode cL_law 203 = .ok (.iconst 1, 1) := by decide +kernel
theorem dL_law_204 : decode cL_law 204 = .ok (.iadd, 1) := by decide +kernel
theorem dL_law_205 : decode cL_law 205 = .ok (.iaload, 1) := by decide +kernel
theorem dL_law_206 : decode cL_law 206 = .ok (.aload_n 0, 1) := by decide +kernel
theorem dL_law_207 : decode cL_law 207 = .ok (.iload_n 3, 1) := by decide +kernel
theorem dL_law_208 : decode cL_law 208 = .ok (.iconst 2, 1) := by decide +kernel
theorem dL_law_209 : decode cL_law 209 = .ok (.iadd, 1) := by decide +kernel
theorem dL_law_210 : decode cL_law 210 = .ok (.iaload, 1) := by decide +kernel
theorem dL_law_211 : decode cL_law 211 = .ok (.invokevirtual 27, 3) := by decide +kernel
theorem dL_law_214 : decode cL_law 214 = .ok (.if_icmp .eq 450, 3) := by decide +kernel
theorem dL_law_217 : decode cL_law 217 = .ok (.iconst 0, 1) := by decide +kernel
theorem dL_law_218 : decode cL_law 218 = .ok (.ireturn, 1) := by decide +kernel
theorem dL_law_219 : decode cL_law 219 = .ok (.aload_n 1, 1) := by decide +kernel
theorem dL_law_220 : decode cL_law 220 = .ok (.aload_n 0, 1) := by decide +kernel
theorem dL_law_221 : decode cL_law 221 = .ok (.iload_n 3, 1) := by decide +kernel
theorem dL_law_222 : decode cL_law 222 = .ok (.iconst 1, 1) := by decide +kernel
theorem dL_law_223 : decode cL_law 223 = .ok (.iadd, 1) := by decide +kernel
theorem dL_law_224 : decode cL_law 224 = .ok (.iaload, 1) := by decide +kernel
theorem dL_law_225 : decode cL_law 225 = .ok (.aload_n 0, 1) := by decide +kernel
theorem dL_law_226 : decode cL_law 226 = .ok (.iload_n 3, 1) := by decide +kernel
theorem dL_law_227 : decode cL_law 227 = .ok (.iconst 2, 1) := by decide +kernel
theorem dL_law_228 : decode cL_law 228 = .ok (.iadd, 1) := by decide +kernel
theorem dL_law_229 : decode cL_law 229 = .ok (.iaload, 1) := by decide +kernel
theorem dL_law_230 : decode cL_law 230 = .ok (.aload_n 0, 1) := by decide +kernel
theorem dL_law_231 : decode cL_law 231 = .ok (.iload_n 3, 1) := by decide +kernel
theorem dL_law_232 : decode cL_law 232 = .ok (.iconst 3, 1) := by decide +kernel
theorem dL_law_233 : decode cL_law 233 = .ok (.iadd, 1) := by decide +kernel
theorem dL_law_234 : decode cL_law 234 = .ok (.iaload, 1) := by decide +kernel
theorem dL_law_235 : decode cL_law 235 = .ok (.aload_n 0, 1) := by decide +kernel
theorem dL_law_236 : decode cL_law 236 = .ok (.iload_n 3, 1) := by decide +kernel
theorem dL_law_237 : decode cL_law 237 = .ok (.iconst 4, 1) := by decide +kernel
theorem dL_law_238 : decode cL_law 238 = .ok (.iadd, 1) := by decide +kernel
theorem dL_law_239 : decode cL_law 239 = .ok (.iaload, 1) := by decide +kernel
theorem dL_law_240 : decode cL_law 240 = .ok (.invokevirtual 28, 3) := by decide +kernel
theorem dL_law_243 : decode cL_law 243 = .ok (.aload_n 2, 1) := by decide +kernel
theorem dL_law_244 : decode cL_law 244 = .ok (.aload_n 0, 1) := by decide +kernel
theorem dL_law_245 : decode cL_law 245 = .ok (.iload_n 3, 1) := by decide +kernel
theorem dL_law_246 : decode cL_law 246 = .ok (.iconst 1, 1) := by decide +kernel
theorem dL_law_247 : decode cL_law 247 = .ok (.iadd, 1) := by decide +kernel
theorem dL_law_248 : decode cL_law 248 = .ok (.iaload, 1) := by decide +kernel
theorem dL_law_249 : decode cL_law 249 = .ok (.aload_n 0, 1) := by decide +kernel
theorem dL_law_250 : decode cL_law 250 = .ok (.iload_n 3, 1) := by decide +kernel
theorem dL_law_251 : decode cL_law 251 = .ok (.iconst 2, 1) := by decide +kernel
theorem dL_law_252 : decode cL_law 252 = .ok (.iadd, 1) := by decide +kernel
theorem dL_law_253 : decode cL_law 253 = .ok (.iaload, 1) := by decide +kernel
theorem dL_law_254 : decode cL_law 254 = .ok (.aload_n 0, 1) := by decide +kernel
theorem dL_law_255 : decode cL_law 255 = .ok (.iload_n 3, 1) := by decide +kernel
theorem dL_law_256 : decode cL_law 256 = .ok (.iconst 3, 1) := by decide +kernel
theorem dL_law_257 : decode cL_law 257 = .ok (.iadd, 1) := by decide +kernel
theorem dL_law_258 : decode cL_law 258 = .ok (.iaload, 1) := by decide +kernel
theorem dL_law_259 : decode cL_law 259 = .ok (.aload_n 0, 1) := by decide +kernel
theorem dL_law_260 : decode cL_law 260 = .ok (.iload_n 3, 1) := by decide +kernel
theorem dL_law_261 : decode cL_law 261 = .ok (.iconst 4, 1) := by decide +kernel
theorem dL_law_262 : decode cL_law 262 = .ok (.iadd, 1) := by decide +kernel
theorem dL_law_263 : decode cL_law 263 = .ok (.iaload, 1) := by decide +kernel
theorem dL_law_264 : decode cL_law 264 = .ok (.invokevirtual 32, 3) := by decide +kernel
theorem dL_law_267 : decode cL_law 267 = .ok (.if_icmp .eq 397, 3) := by decide +kernel
theorem dL_law_270 : decode cL_law 270 = .ok (.iconst 0, 1) := by decide +kernel
theorem dL_law_271 : decode cL_law 271 = .ok (.ireturn, 1) := by decide +kernel
theorem dL_law_272 : decode cL_law 272 = .ok (.aload_n 1, 1) := by decide +kernel
theorem dL_law_273 : decode cL_law 273 = .ok (.aload_n 0, 1) := by decide +kernel
theorem dL_law_274 : decode cL_law 274 = .ok (.iload_n 3, 1) := by decide +kernel
theorem dL_law_275 : decode cL_law 275 = .ok (.iconst 1, 1) := by decide +kernel
theorem dL_law_276 : decode cL_law 276 = .ok (.iadd, 1) := by decide +kernel
theorem dL_law_277 : decode cL_law 277 = .ok (.iaload, 1) := by decide +kernel
theorem dL_law_278 : decode cL_law 278 = .ok (.invokevirtual 33, 3) := by decide +kernel
theorem dL_law_281 : decode cL_law 281 = .ok (.aload_n 2, 1) := by decide +kernel
theorem dL_law_282 : decode cL_law 282 = .ok (.aload_n 0, 1) := by decide +kernel
theorem dL_law_283 : decode cL_law 283 = .ok (.iload_n 3, 1) := by decide +kernel
theorem dL_law_284 : decode cL_law 284 = .ok (.iconst 1, 1) := by decide +kernel
theorem dL_law_285 : decode cL_law 285 = .ok (.iadd, 1) := by decide +kernel
theorem dL_law_286 : decode cL_law 286 = .ok (.iaload, 1) := by decide +kernel
theorem dL_law_287 : decode cL_law 287 = .ok (.invokevirtual 36, 3) := by decide +kernel
theorem dL_law_290 : decode cL_law 290 = .ok (.if_icmp .eq 374, 3) := by decide +kernel
theorem dL_law_293 : decode cL_law 293 = .ok (.iconst 0, 1) := by decide +kernel
theorem dL_law_294 : decode cL_law 294 = .ok (.ireturn, 1) := by decide +kernel
theorem dL_law_295 : decode cL_law 295 = .ok (.aload_n 1, 1) := by decide +kernel
theorem dL_law_296 : decode cL_law 296 = .ok (.aload_n 0, 1) := by decide +kernel
theorem dL_law_297 : decode cL_law 297 = .ok (.iload_n 3, 1) := by decide +kernel
theorem dL_law_298 : decode cL_law 298 = .ok (.iconst 1, 1) := by decide +kernel
theorem dL_law_299 : decode cL_law 299 = .ok (.iadd, 1) := by decide +kernel
theorem dL_law_300 : decode cL_law 300 = .ok (.iaload, 1) := by decide +kernel
theorem dL_law_301 : decode cL_law 301 = .ok (.invokevirtual 37, 3) := by decide +kernel
theorem dL_law_304 : decode cL_law 304 = .ok (.aload_n 2, 1) := by decide +kernel
theorem dL_law_305 : decode cL_law 305 = .ok (.aload_n 0, 1) := by decide +kernel
theorem dL_law_306 : decode cL_law 306 = .ok (.iload_n 3, 1) := by decide +kernel
theorem dL_law_307 : decode cL_law 307 = .ok (.iconst 1, 1) := by decide +kernel
theorem dL_law_308 : decode cL_law 308 = .ok (.iadd, 1) := by decide +kernel
theorem dL_law_309 : decode cL_law 309 = .ok (.iaload, 1) := by decide +kernel
theorem dL_law_310 : decode cL_law 310 = .ok (.invokevirtual 40, 3) := by decide +kernel
theorem dL_law_313 : decode cL_law 313 = .ok (.if_icmp .eq 351, 3) := by decide +kernel
theorem dL_law_316 : decode cL_law 316 = .ok (.iconst 0, 1) := by decide +kernel
theorem dL_law_317 : decode cL_law 317 = .ok (.ireturn, 1) := by decide +kernel
theorem dL_law_318 : decode cL_law 318 = .ok (.aload_n 1, 1) := by decide +kernel
theorem dL_law_319 : decode cL_law 319 = .ok (.aload_n 0, 1) := by decide +kernel
theorem dL_law_320 : decode cL_law 320 = .ok (.iload_n 3, 1) := by decide +kernel
theorem dL_law_321 : decode cL_law 321 = .ok (.iconst 1, 1) := by decide +kernel
theorem dL_law_322 : decode cL_law 322 = .ok (.iadd, 1) := by decide +kernel
theorem dL_law_323 : decode cL_law 323 = .ok (.iaload, 1) := by decide +kernel
theorem dL_law_324 : decode cL_law 324 = .ok (.invokevirtual 41, 3) := by decide +kernel
theorem dL_law_327 : decode cL_law 327 = .ok (.aload_n 2, 1) := by decide +kernel
theorem dL_law_328 : decode cL_law 328 = .ok (.aload_n 0, 1) := by decide +kernel
theorem dL_law_329 : decode cL_law 329 = .ok (.iload_n 3, 1) := by decide +kernel
theorem dL_law_330 : decode cL_law 330 = .ok (.iconst 1, 1) := by decide +kernel
theorem dL_law_331 : decode cL_law 331 = .ok (.iadd, 1) := by decide +kernel
theorem dL_law_332 : decode cL_law 332 = .ok (.iaload, 1) := by decide +kernel
theorem dL_law_333 : decode cL_law 333 = .ok (.invokevirtual 44, 3) := by decide +kernel
theorem dL_law_336 : decode cL_law 336 = .ok (.if_icmp .eq 328, 3) := by decide +kernel
theorem dL_law_339 : decode cL_law 339 = .ok (.iconst 0, 1) := by decide +kernel
theorem dL_law_340 : decode cL_law 340 = .ok (.ireturn, 1) := by decide +kernel
theorem dL_law_341 : decode cL_law 341 = .ok (.aload_n 1, 1) := by decide +kernel
theorem dL_law_342 : decode cL_law 342 = .ok (.aload_n 0, 1) := by decide +kernel
theorem dL_law_343 : decode cL_law 343 = .ok (.iload_n 3, 1) := by decide +kernel
theorem dL_law_344 : decode cL_law 344 = .ok (.iconst 1, 1) := by decide +kernel
theorem dL_law_345 : decode cL_law 345 = .ok (.iadd, 1) := by decide +kernel
theorem dL_law_346 : decode cL_law 346 = .ok (.iaload, 1) := by decide +kernel
theorem dL_law_347 : decode cL_law 347 = .ok (.invokevirtual 45, 3) := by decide +kernel
theorem dL_law_350 : decode cL_law 350 = .ok (.aload_n 2, 1) := by decide +kernel
theorem dL_law_351 : decode cL_law 351 = .ok (.aload_n 0, 1) := by decide +kernel
theorem dL_law_352 : decode cL_law 352 = .ok (.iload_n 3, 1) := by decide +kernel
theorem dL_law_353 : decode cL_law 353 = .ok (.iconst 1, 1) := by decide +kernel
theorem dL_law_354 : decode cL_law 354 = .ok (.iadd, 1) := by decide +kernel
theorem dL_law_355 : decode cL_law 355 = .ok (.iaload, 1) := by decide +kernel
theorem dL_law_356 : decode cL_law 356 = .ok (.invokevirtual 48, 3) := by decide +kernel
theorem dL_law_359 : decode cL_law 359 = .ok (.if_icmp .eq 305, 3) := by decide +kernel
theorem dL_law_362 : decode cL_law 362 = .ok (.iconst 0, 1) := by decide +kernel
theorem dL_law_363 : decode cL_law 363 = .ok (.ireturn, 1) := by decide +kernel
theorem dL_law_364 : decode cL_law 364 = .ok (.aload_n 1, 1) := by decide +kernel
theorem dL_law_365 : decode cL_law 365 = .ok (.aload_n 0, 1) := by decide +kernel
theorem dL_law_366 : decode cL_law 366 = .ok (.iload_n 3, 1) := by decide +kernel
theorem dL_law_367 : decode cL_law 367 = .ok (.iconst 1, 1) := by decide +kernel
theorem dL_law_368 : decode cL_law 368 = .ok (.iadd, 1) := by decide +kernel
theorem dL_law_369 : decode cL_law 369 = .ok (.iaload, 1) := by decide +kernel
theorem dL_law_370 : decode cL_law 370 = .ok (.invokevirtual 49, 3) := by decide +kernel
theorem dL_law_373 : decode cL_law 373 = .ok (.aload_n 2, 1) := by decide +kernel
theorem dL_law_374 : decode cL_law 374 = .ok (.aload_n 0, 1) := by decide +kernel
theorem dL_law_375 : decode cL_law 375 = .ok (.iload_n 3, 1) := by decide +kernel
theorem dL_law_376 : decode cL_law 376 = .ok (.iconst 1, 1) := by decide +kernel
theorem dL_law_377 : decode cL_law 377 = .ok (.iadd, 1) := by decide +kernel
theorem dL_law_378 : decode cL_law 378 = .ok (.iaload, 1) := by decide +kernel
theorem dL_law_379 : decode cL_law 379 = .ok (.invokevirtual 52, 3) := by decide +kernel
theorem dL_law_382 : decode cL_law 382 = .ok (.if_icmp .eq 282, 3) := by decide +kernel
theorem dL_law_385 : decode cL_law 385 = .ok (.iconst 0, 1) := by decide +kernel
theorem dL_law_386 : decode cL_law 386 = .ok (.ireturn, 1) := by decide +kernel
theorem dL_law_387 : decode cL_law 387 = .ok (.aload_n 1, 1) := by decide +kernel
theorem dL_law_388 : decode cL_law 388 = .ok (.invokevirtual 53, 3) := by decide +kernel
theorem dL_law_391 : decode cL_law 391 = .ok (.aload_n 2, 1) := by decide +kernel
theorem dL_law_392 : decode cL_law 392 = .ok (.invokevirtual 57, 3) := by decide +kernel
theorem dL_law_395 : decode cL_law 395 = .ok (.if_icmp .eq 269, 3) := by decide +kernel
theorem dL_law_398 : decode cL_law 398 = .ok (.iconst 0, 1) := by decide +kernel
theorem dL_law_399 : decode cL_law 399 = .ok (.ireturn, 1) := by decide +kernel
theorem dL_law_400 : decode cL_law 400 = .ok (.aload_n 1, 1) := by decide +kernel
theorem dL_law_401 : decode cL_law 401 = .ok (.invokevirtual 58, 3) := by decide +kernel
theorem dL_law_404 : decode cL_law 404 = .ok (.aload_n 2, 1) := by decide +kernel
theorem dL_law_405 : decode cL_law 405 = .ok (.invokevirtual 61, 3) := by decide +kernel
theorem dL_law_408 : decode cL_law 408 = .ok (.if_icmp .eq 256, 3) := by decide +kernel
theorem dL_law_411 : decode cL_law 411 = .ok (.iconst 0, 1) := by decide +kernel
theorem dL_law_412 : decode cL_law 412 = .ok (.ireturn, 1) := by decide +kernel
theorem dL_law_413 : decode cL_law 413 = .ok (.aload_n 1, 1) := by decide +kernel
theorem dL_law_414 : decode cL_law 414 = .ok (.aload_n 0, 1) := by decide +kernel
theorem dL_law_415 : decode cL_law 415 = .ok (.iload_n 3, 1) := by decide +kernel
theorem dL_law_416 : decode cL_law 416 = .ok (.iconst 1, 1) := by decide +kernel
theorem dL_law_417 : decode cL_law 417 = .ok (.iadd, 1) := by decide +kernel
theorem dL_law_418 : decode cL_law 418 = .ok (.iaload, 1) := by decide +kernel
theorem dL_law_419 : decode cL_law 419 = .ok (.invokevirtual 62, 3) := by decide +kernel
theorem dL_law_422 : decode cL_law 422 = .ok (.aload_n 2, 1) := by decide +kernel
theorem dL_law_423 : decode cL_law 423 = .ok (.aload_n 0, 1) := by decide +kernel
theorem dL_law_424 : decode cL_law 424 = .ok (.iload_n 3, 1) := by decide +kernel
theorem dL_law_425 : decode cL_law 425 = .ok (.iconst 1, 1) := by decide +kernel
theorem dL_law_426 : decode cL_law 426 = .ok (.iadd, 1) := by decide +kernel
theorem dL_law_427 : decode cL_law 427 = .ok (.iaload, 1) := by decide +kernel
theorem dL_law_428 : decode cL_law 428 = .ok (.invokevirtual 65, 3) := by decide +kernel
theorem dL_law_431 : decode cL_law 431 = .ok (.if_icmp .eq 233, 3) := by decide +kernel
theorem dL_law_434 : decode cL_law 434 = .ok (.iconst 0, 1) := by decide +kernel
theorem dL_law_435 : decode cL_law 435 = .ok (.ireturn, 1) := by decide +kernel
theorem dL_law_436 : decode cL_law 436 = .ok (.aload_n 1, 1) := by decide +kernel
theorem dL_law_437 : decode cL_law 437 = .ok (.aload_n 0, 1) := by decide +kernel
theorem dL_law_438 : decode cL_law 438 = .ok (.iload_n 3, 1) := by decide +kernel
theorem dL_law_439 : decode cL_law 439 = .ok (.iconst 1, 1) := by decide +kernel
theorem dL_law_440 : decode cL_law 440 = .ok (.iadd, 1) := by decide +kernel
theorem dL_law_441 : decode cL_law 441 = .ok (.iaload, 1) := by decide +kernel
theorem dL_law_442 : decode cL_law 442 = .ok (.aload_n 0, 1) := by decide +kernel
theorem dL_law_443 : decode cL_law 443 = .ok (.iload_n 3, 1) := by decide +kernel
theorem dL_law_444 : decode cL_law 444 = .ok (.iconst 2, 1) := by decide +kernel
theorem dL_law_445 : decode cL_law 445 = .ok (.iadd, 1) := by decide +kernel
theorem dL_law_446 : decode cL_law 446 = .ok (.iaload, 1) := by decide +kernel
theorem dL_law_447 : decode cL_law 447 = .ok (.invokevirtual 66, 3) := by decide +kernel
theorem dL_law_450 : decode cL_law 450 = .ok (.aload_n 2, 1) := by decide +kernel
theorem dL_law_451 : decode cL_law 451 = .ok (.aload_n 0, 1) := by decide +kernel
theorem dL_law_452 : decode cL_law 452 = .ok (.iload_n 3, 1) := by decide +kernel
theorem dL_law_453 : decode cL_law 453 = .ok (.iconst 1, 1) := by decide +kernel
theorem dL_law_454 : decode cL_law 454 = .ok (.iadd, 1) := by decide +kernel
theorem dL_law_455 : decode cL_law 455 = .ok (.iaload, 1) := by decide +kernel
theorem dL_law_456 : decode cL_law 456 = .ok (.aload_n 0, 1) := by decide +kernel
theorem dL_law_457 : decode cL_law 457 = .ok (.iload_n 3, 1) := by decide +kernel
theorem dL_law_458 : decode cL_law 458 = .ok (.iconst 2, 1) := by decide +kernel
theorem dL_law_459 : decode cL_law 459 = .ok (.iadd, 1) := by decide +kernel
theorem dL_law_460 : decode cL_law 460 = .ok (.iaload, 1) := by decide +kernel
theorem dL_law_461 : decode cL_law 461 = .ok (.invokevirtual 69, 3) := by decide +kernel
theorem dL_law_464 : decode cL_law 464 = .ok (.if_icmp .eq 200, 3) := by decide +kernel
theorem dL_law_467 : decode cL_law 467 = .ok (.iconst 0, 1) := by decide +kernel
theorem dL_law_468 : decode cL_law 468 = .ok (.ireturn, 1) := by decide +kernel
theorem dL_law_469 : decode cL_law 469 = .ok (.aload_n 1, 1) := by decide +kernel
theorem dL_law_470 : decode cL_law 470 = .ok (.aload_n 0, 1) := by decide +kernel
theorem dL_law_471 : decode cL_law 471 = .ok (.iload_n 3, 1) := by decide +kernel
theorem dL_law_472 : decode cL_law 472 = .ok (.iconst 1, 1) := by decide +kernel
theorem dL_law_473 : decode cL_law 473 = .ok (.iadd, 1) := by decide +kernel
theorem dL_law_474 : decode cL_law 474 = .ok (.iaload, 1) := by decide +kernel
theorem dL_law_475 : decode cL_law 475 = .ok (.aload_n 0, 1) := by decide +kernel
theorem dL_law_476 : decode cL_law 476 = .ok (.iload_n 3, 1) := by decide +kernel
theorem dL_law_477 : decode cL_law 477 = .ok (.iconst 2, 1) := by decide +kernel
theorem dL_law_478 : decode cL_law 478 = .ok (.iadd, 1) := by decide +kernel
theorem dL_law_479 : decode cL_law 479 = .ok (.iaload, 1) := by decide +kernel
theorem dL_law_480 : decode cL_law 480 = .ok (.aload_n 0, 1) := by decide +kernel
theorem dL_law_481 : decode cL_law 481 = .ok (.iload_n 3, 1) := by decide +kernel
theorem dL_law_482 : decode cL_law 482 = .ok (.iconst 3, 1) := by decide +kernel
theorem dL_law_483 : decode cL_law 483 = .ok (.iadd, 1) := by decide +kernel
theorem dL_law_484 : decode cL_law 484 = .ok (.iaload, 1) := by decide +kernel
theorem dL_law_485 : decode cL_law 485 = .ok (.invokevirtual 70, 3) := by decide +kernel
theorem dL_law_488 : decode cL_law 488 = .ok (.aload_n 2, 1) := by decide +kernel
theorem dL_law_489 : decode cL_law 489 = .ok (.aload_n 0, 1) := by decide +kernel
theorem dL_law_490 : decode cL_law 490 = .ok (.iload_n 3, 1) := by decide +kernel
theorem dL_law_491 : decode cL_law 491 = .ok (.iconst 1, 1) := by decide +kernel
theorem dL_law_492 : decode cL_law 492 = .ok (.iadd, 1) := by decide +kernel
theorem dL_law_493 : decode cL_law 493 = .ok (.iaload, 1) := by decide +kernel
theorem dL_law_494 : decode cL_law 494 = .ok (.aload_n 0, 1) := by decide +kernel
theorem dL_law_495 : decode cL_law 495 = .ok (.iload_n 3, 1) := by decide +kernel
theorem dL_law_496 : decode cL_law 496 = .ok (.iconst 2, 1) := by decide +kernel
theorem dL_law_497 : decode cL_law 497 = .ok (.iadd, 1) := by decide +kernel
theorem dL_law_498 : decode cL_law 498 = .ok (.iaload, 1) := by decide +kernel
theorem dL_law_499 : decode cL_law 499 = .ok (.aload_n 0, 1) := by decide +kernel
theorem dL_law_500 : decode cL_law 500 = .ok (.iload_n 3, 1) := by decide +kernel
theorem dL_law_501 : decode cL_law 501 = .ok (.iconst 3, 1) := by decide +kernel
theorem dL_law_502 : decode cL_law 502 = .ok (.iadd, 1) := by decide +kernel
theorem dL_law_503 : decode cL_law 503 = .ok (.iaload, 1) := by decide +kernel
theorem dL_law_504 : decode cL_law 504 = .ok (.invokevirtual 73, 3) := by decide +kernel
theorem dL_law_507 : decode cL_law 507 = .ok (.if_icmp .eq 157, 3) := by decide +kernel
theorem dL_law_510 : decode cL_law 510 = .ok (.iconst 0, 1) := by decide +kernel
theorem dL_law_511 : decode cL_law 511 = .ok (.ireturn, 1) := by decide +kernel
theorem dL_law_512 : decode cL_law 512 = .ok (.aload_n 1, 1) := by decide +kernel
theorem dL_law_513 : decode cL_law 513 = .ok (.aload_n 0, 1) := by decide +kernel
theorem dL_law_514 : decode cL_law 514 = .ok (.iload_n 3, 1) := by decide +kernel
theorem dL_law_515 : decode cL_law 515 = .ok (.iconst 1, 1) := by decide +kernel
theorem dL_law_516 : decode cL_law 516 = .ok (.iadd, 1) := by decide +kernel
theorem dL_law_517 : decode cL_law 517 = .ok (.iaload, 1) := by decide +kernel
theorem dL_law_518 : decode cL_law 518 = .ok (.aload_n 0, 1) := by decide +kernel
theorem dL_law_519 : decode cL_law 519 = .ok (.iload_n 3, 1) := by decide +kernel
theorem dL_law_520 : decode cL_law 520 = .ok (.iconst 2, 1) := by decide +kernel
theorem dL_law_521 : decode cL_law 521 = .ok (.iadd, 1) := by decide +kernel
theorem dL_law_522 : decode cL_law 522 = .ok (.iaload, 1) := by decide +kernel
theorem dL_law_523 : decode cL_law 523 = .ok (.invokevirtual 74, 3) := by decide +kernel
theorem dL_law_526 : decode cL_law 526 = .ok (.aload_n 2, 1) := by decide +kernel
theorem dL_law_527 : decode cL_law 527 = .ok (.aload_n 0, 1) := by decide +kernel
theorem dL_law_528 : decode cL_law 528 = .ok (.iload_n 3, 1) := by decide +kernel
theorem dL_law_529 : decode cL_law 529 = .ok (.iconst 1, 1) := by decide +kernel
theorem dL_law_530 : decode cL_law 530 = .ok (.iadd, 1) := by decide +kernel
theorem dL_law_531 : decode cL_law 531 = .ok (.iaload, 1) := by decide +kernel
theorem dL_law_532 : decode cL_law 532 = .ok (.aload_n 0, 1) := by decide +kernel
theorem dL_law_533 : decode cL_law 533 = .ok (.iload_n 3, 1) := by decide +kernel
theorem dL_law_534 : decode cL_law 534 = .ok (.iconst 2, 1) := by decide +kernel
theorem dL_law_535 : decode cL_law 535 = .ok (.iadd, 1) := by decide +kernel
theorem dL_law_536 : decode cL_law 536 = .ok (.iaload, 1) := by decide +kernel
theorem dL_law_537 : decode cL_law 537 = .ok (.invokevirtual 77, 3) := by decide +kernel
theorem dL_law_540 : decode cL_law 540 = .ok (.if_icmp .eq 124, 3) := by decide +kernel
theorem dL_law_543 : decode cL_law 543 = .ok (.iconst 0, 1) := by decide +kernel
theorem dL_law_544 : decode cL_law 544 = .ok (.ireturn, 1) := by decide +kernel
theorem dL_law_545 : decode cL_law 545 = .ok (.aload_n 1, 1) := by decide +kernel
theorem dL_law_546 : decode cL_law 546 = .ok (.aload_n 0, 1) := by decide +kernel
theorem dL_law_547 : decode cL_law 547 = .ok (.iload_n 3, 1) := by decide +kernel
theorem dL_law_548 : decode cL_law 548 = .ok (.iconst 1, 1) := by decide +kernel
theorem dL_law_549 : decode cL_law 549 = .ok (.iadd, 1) := by decide +kernel
theorem dL_law_550 : decode cL_law 550 = .ok (.iaload, 1) := by decide +kernel
theorem dL_law_551 : decode cL_law 551 = .ok (.aload_n 0, 1) := by decide +kernel
theorem dL_law_552 : decode cL_law 552 = .ok (.iload_n 3, 1) := by decide +kernel
theorem dL_law_553 : decode cL_law 553 = .ok (.iconst 2, 1) := by decide +kernel
theorem dL_law_554 : decode cL_law 554 = .ok (.iadd, 1) := by decide +kernel
theorem dL_law_555 : decode cL_law 555 = .ok (.iaload, 1) := by decide +kernel
theorem dL_law_556 : decode cL_law 556 = .ok (.aload_n 0, 1) := by decide +kernel
theorem dL_law_557 : decode cL_law 557 = .ok (.iload_n 3, 1) := by decide +kernel
theorem dL_law_558 : decode cL_law 558 = .ok (.iconst 3, 1) := by decide +kernel
theorem dL_law_559 : decode cL_law 559 = .ok (.iadd, 1) := by decide +kernel
theorem dL_law_560 : decode cL_law 560 = .ok (.iaload, 1) := by decide +kernel
theorem dL_law_561 : decode cL_law 561 = .ok (.aload_n 0, 1) := by decide +kernel
theorem dL_law_562 : decode cL_law 562 = .ok (.iload_n 3, 1) := by decide +kernel
theorem dL_law_563 : decode cL_law 563 = .ok (.iconst 4, 1) := by decide +kernel
theorem dL_law_564 : decode cL_law 564 = .ok (.iadd, 1) := by decide +kernel
theorem dL_law_565 : decode cL_law 565 = .ok (.iaload, 1) := by decide +kernel
theorem dL_law_566 : decode cL_law 566 = .ok (.invokevirtual 78, 3) := by decide +kernel
theorem dL_law_569 : decode cL_law 569 = .ok (.aload_n 2, 1) := by decide +kernel
theorem dL_law_570 : decode cL_law 570 = .ok (.aload_n 0, 1) := by decide +kernel
theorem dL_law_571 : decode cL_law 571 = .ok (.iload_n 3, 1) := by decide +kernel
theorem dL_law_572 : decode cL_law 572 = .ok (.iconst 1, 1) := by decide +kernel
theorem dL_law_573 : decode cL_law 573 = .ok (.iadd, 1) := by decide +kernel
theorem dL_law_574 : decode cL_law 574 = .ok (.iaload, 1) := by decide +kernel
theorem dL_law_575 : decode cL_law 575 = .ok (.aload_n 0, 1) := by decide +kernel
theorem dL_law_576 : decode cL_law 576 = .ok (.iload_n 3, 1) := by decide +kernel
theorem dL_law_577 : decode cL_law 577 = .ok (.iconst 2, 1) := by decide +kernel
theorem dL_law_578 : decode cL_law 578 = .ok (.iadd, 1) := by decide +kernel
theorem dL_law_579 : decode cL_law 579 = .ok (.iaload, 1) := by decide +kernel
theorem dL_law_580 : decode cL_law 580 = .ok (.aload_n 0, 1) := by decide +kernel
theorem dL_law_581 : decode cL_law 581 = .ok (.iload_n 3, 1) := by decide +kernel
theorem dL_law_582 : decode cL_law 582 = .ok (.iconst 3, 1) := by decide +kernel
theorem dL_law_583 : decode cL_law 583 = .ok (.iadd, 1) := by decide +kernel
theorem dL_law_584 : decode cL_law 584 = .ok (.iaload, 1) := by decide +kernel
theorem dL_law_585 : decode cL_law 585 = .ok (.aload_n 0, 1) := by decide +kernel
theorem dL_law_586 : decode cL_law 586 = .ok (.iload_n 3, 1) := by decide +kernel
theorem dL_law_587 : decode cL_law 587 = .ok (.iconst 4, 1) := by decide +kernel
theorem dL_law_588 : decode cL_law 588 = .ok (.iadd, 1) := by decide +kernel
theorem dL_law_589 : decode cL_law 589 = .ok (.iaload, 1) := by decide +kernel
theorem dL_law_590 : decode cL_law 590 = .ok (.invokevirtual 81, 3) := by decide +kernel
theorem dL_law_593 : decode cL_law 593 = .ok (.if_icmp .eq 71, 3) := by decide +kernel
theorem dL_law_596 : decode cL_law 596 = .ok (.iconst 0, 1) := by decide +kernel
theorem dL_law_597 : decode cL_law 597 = .ok (.ireturn, 1) := by decide +kernel
theorem dL_law_598 : decode cL_law 598 = .ok (.aload_n 1, 1) := by decide +kernel
theorem dL_law_599 : decode cL_law 599 = .ok (.aload_n 0, 1) := by decide +kernel
theorem dL_law_600 : decode cL_law 600 = .ok (.iload_n 3, 1) := by decide +kernel
theorem dL_law_601 : decode cL_law 601 = .ok (.iconst 1, 1) := by decide +kernel
theorem dL_law_602 : decode cL_law 602 = .ok (.iadd, 1) := by decide +kernel
theorem dL_law_603 : decode cL_law 603 = .ok (.iaload, 1) := by decide +kernel
theorem dL_law_604 : decode cL_law 604 = .ok (.aload_n 0, 1) := by decide +kernel
theorem dL_law_605 : decode cL_law 605 = .ok (.iload_n 3, 1) := by decide +kernel
theorem dL_law_606 : decode cL_law 606 = .ok (.iconst 2, 1) := by decide +kernel
theorem dL_law_607 : decode cL_law 607 = .ok (.iadd, 1) := by decide +kernel
theorem dL_law_608 : decode cL_law 608 = .ok (.iaload, 1) := by decide +kernel
theorem dL_law_609 : decode cL_law 609 = .ok (.aload_n 0, 1) := by decide +kernel
theorem dL_law_610 : decode cL_law 610 = .ok (.iload_n 3, 1) := by decide +kernel
theorem dL_law_611 : decode cL_law 611 = .ok (.iconst 3, 1) := by decide +kernel
theorem dL_law_612 : decode cL_law 612 = .ok (.iadd, 1) := by decide +kernel
theorem dL_law_613 : decode cL_law 613 = .ok (.iaload, 1) := by decide +kernel
theorem dL_law_614 : decode cL_law 614 = .ok (.invokevirtual 82, 3) := by decide +kernel
theorem dL_law_617 : decode cL_law 617 = .ok (.aload_n 2, 1) := by decide +kernel
theorem dL_law_618 : decode cL_law 618 = .ok (.aload_n 0, 1) := by decide +kernel
theorem dL_law_619 : decode cL_law 619 = .ok (.iload_n 3, 1) := by decide +kernel
theorem dL_law_620 : decode cL_law 620 = .ok (.iconst 1, 1) := by decide +kernel
theorem dL_law_621 : decode cL_law 621 = .ok (.iadd, 1) := by decide +kernel
theorem dL_law_622 : decode cL_law 622 = .ok (.iaload, 1) := by decide +kernel
theorem dL_law_623 : decode cL_law 623 = .ok (.aload_n 0, 1) := by decide +kernel
theorem dL_law_624 : decode cL_law 624 = .ok (.iload_n 3, 1) := by decide +kernel
theorem dL_law_625 : decode cL_law 625 = .ok (.iconst 2, 1) := by decide +kernel
theorem dL_law_626 : decode cL_law 626 = .ok (.iadd, 1) := by decide +kernel
theorem dL_law_627 : decode cL_law 627 = .ok (.iaload, 1) := by decide +kernel
theorem dL_law_628 : decode cL_law 628 = .ok (.aload_n 0, 1) := by decide +kernel
theorem dL_law_629 : decode cL_law 629 = .ok (.iload_n 3, 1) := by decide +kernel
theorem dL_law_630 : decode cL_law 630 = .ok (.iconst 3, 1) := by decide +kernel
theorem dL_law_631 : decode cL_law 631 = .ok (.iadd, 1) := by decide +kernel
theorem dL_law_632 : decode cL_law 632 = .ok (.iaload, 1) := by decide +kernel
theorem dL_law_633 : decode cL_law 633 = .ok (.invokevirtual 85, 3) := by decide +kernel
theorem dL_law_636 : decode cL_law 636 = .ok (.if_icmp .eq 28, 3) := by decide +kernel
theorem dL_law_639 : decode cL_law 639 = .ok (.iconst 0, 1) := by decide +kernel
theorem dL_law_640 : decode cL_law 640 = .ok (.ireturn, 1) := by decide +kernel
theorem dL_law_641 : decode cL_law 641 = .ok (.aload_n 1, 1) := by decide +kernel
theorem dL_law_642 : decode cL_law 642 = .ok (.aload_n 0, 1) := by decide +kernel
theorem dL_law_643 : decode cL_law 643 = .ok (.iload_n 3, 1) := by decide +kernel
theorem dL_law_644 : decode cL_law 644 = .ok (.iconst 1, 1) := by decide +kernel
theorem dL_law_645 : decode cL_law 645 = .ok (.iadd, 1) := by decide +kernel
theorem dL_law_646 : decode cL_law 646 = .ok (.iaload, 1) := by decide +kernel
theorem dL_law_647 : decode cL_law 647 = .ok (.invokevirtual 86, 3) := by decide +kernel
theorem dL_law_650 : decode cL_law 650 = .ok (.aload_n 2, 1) := by decide +kernel
theorem dL_law_651 : decode cL_law 651 = .ok (.aload_n 0, 1) := by decide +kernel
theorem dL_law_652 : decode cL_law 652 = .ok (.iload_n 3, 1) := by decide +kernel
theorem dL_law_653 : decode cL_law 653 = .ok (.iconst 1, 1) := by decide +kernel
theorem dL_law_654 : decode cL_law 654 = .ok (.iadd, 1) := by decide +kernel
theorem dL_law_655 : decode cL_law 655 = .ok (.iaload, 1) := by decide +kernel
theorem dL_law_656 : decode cL_law 656 = .ok (.invokevirtual 89, 3) := by decide +kernel
theorem dL_law_659 : decode cL_law 659 = .ok (.if_icmp .eq 5, 3) := by decide +kernel
theorem dL_law_662 : decode cL_law 662 = .ok (.iconst 0, 1) := by decide +kernel
theorem dL_law_663 : decode cL_law 663 = .ok (.ireturn, 1) := by decide +kernel
theorem dL_law_664 : decode cL_law 664 = .ok (.iinc 3 5, 3) := by decide +kernel
theorem dL_law_667 : decode cL_law 667 = .ok (.goto (-649), 3) := by decide +kernel
theorem dL_law_670 : decode cL_law 670 = .ok (.iconst 1, 1) := by decide +kernel
theorem dL_law_671 : decode cL_law 671 = .ok (.ireturn, 1) := by decide +kernel
end
section
/-! THE HEAP BY FIELDS. References: 0 is null, a + 1 is the cell a. Every method is a function F_.. on HS that answers 'none' where the machine would throw or run out of the function's own fuel; its contract: where F_.. answers, the machine does the same. -/
def vr (n : Nat) : Value := match n with
  | 0 => .null
  | a + 1 => .ref a
def ro (n : Nat) : Option Nat := match n with
  | 0 => none
  | a + 1 => some a
theorem vr_ro (n : Nat) : va_rf (ro n) = vr n := by cases n <;> rfl
theorem ro_inj {a b : Nat} (h : ro a = ro b) : a = b := by cases a <;> cases b <;> simp_all [ro]
theorem ro_iff {a b : Nat} : ro a = ro b ↔ a = b := ⟨ro_inj, fun h => by rw [h]⟩
theorem vr_cat (n : Nat) : (vr n).category = 1 := by cases n <;> rfl
theorem vr_or (n : Nat) : vr n = .null ∨ ∃ a, vr n = .ref a := by
  cases n with
  | zero => exact Or.inl rfl
  | succ a => exact Or.inr ⟨a, rfl⟩
abbrev HS : Type := (Nat → Nat) × (Nat → Nat) × (Nat → Nat → Int32) × (Nat → Nat → Nat) × (Nat → Nat → Int32) × (Nat → Nat → Nat) × Nat × Nat
def kd (σ : HS) : Nat → Nat := σ.1
def ln (σ : HS) : Nat → Nat := σ.2.1
def gi (σ : HS) : Nat → Nat → Int32 := σ.2.2.1
def gr (σ : HS) : Nat → Nat → Nat := σ.2.2.2.1
def ai (σ : HS) : Nat → Nat → Int32 := σ.2.2.2.2.1
def ar (σ : HS) : Nat → Nat → Nat := σ.2.2.2.2.2.1
def hs (σ : HS) : Nat := σ.2.2.2.2.2.2.1
def ns (σ : HS) : Nat := σ.2.2.2.2.2.2.2
def up2 {α : Type} (f : Nat → Nat → α) (k n : Nat) (v : α) : Nat → Nat → α := fun g m => if g = k ∧ m = n then v else f g m
def si (σ : HS) (f n : Nat) (v : Int32) : HS := (kd σ, ln σ, up2 (gi σ) f n v, gr σ, ai σ, ar σ, hs σ, ns σ)
def sr (σ : HS) (f n : Nat) (v : Nat) : HS := (kd σ, ln σ, gi σ, up2 (gr σ) f n v, ai σ, ar σ, hs σ, ns σ)
def sai (σ : HS) (n i : Nat) (v : Int32) : HS := (kd σ, ln σ, gi σ, gr σ, up2 (ai σ) n i v, ar σ, hs σ, ns σ)
def sar (σ : HS) (n i : Nat) (v : Nat) : HS := (kd σ, ln σ, gi σ, gr σ, ai σ, up2 (ar σ) n i v, hs σ, ns σ)
/-- a new cell of kind k, of L slots: all its fields and elements are 0; its reference is hs σ + 1 -/
def nw (σ : HS) (k L : Nat) : HS :=
  (fun n => if n = hs σ + 1 then k else kd σ n, fun n => if n = hs σ + 1 then L else ln σ n,
   fun f n => if n = hs σ + 1 then 0 else gi σ f n, fun f n => if n = hs σ + 1 then 0 else gr σ f n,
   fun n i => if n = hs σ + 1 then 0 else ai σ n i, fun n i => if n = hs σ + 1 then 0 else ar σ n i, hs σ + 1, ns σ + L)
theorem kd_nw_self (σ : HS) (k L : Nat) : kd (nw σ k L) (hs σ + 1) = k := if_pos rfl
/-- which fields of a class are references -/
def FB (c : Nat) : List Bool := match c with
  | 0 => [true, true, false, false, false]
  | 1 => [false, false, true]
  | 2 => [false, false, false]
  | 3 => [true, false, false, false, false, false]
  | 4 => [false, false, false, false, false, true, true, false, true, false]
  | 5 => [true, true, true, false, false, false]
  | 6 => [false, false, false, false, false, false, false, true, true, true, false, true, true, true, true, false, true, true, true, true, true, true, true, true, true, true, true, false, false, false, false, false]
  | _ => []
def mkf (σ : HS) (c n k : Nat) (b : Bool) : Value := if b = true then vr (gr σ (40 * c + k) n) else .int (gi σ (40 * c + k) n)
/-- what a cell holds, by its kind: c + 1 an object of class c; 100 an array of ints, 101 of booleans, 100 + j of references -/
def mk (dA : Nat → ClassId) (σ : HS) (n : Nat) : va_E :=
  if kd σ n < 100 then .inr (kd σ n - 1, (FB (kd σ n - 1)).mapIdx (mkf σ (kd σ n - 1) n))
  else if kd σ n < 102 then .inl (dA (kd σ n - 100), (ln σ n, .inl (fun i => ai σ n i)))
  else .inl (dA (kd σ n - 100), (ln σ n, .inr (.inr (.inr (.inr (fun i => ro (ar σ n i)))))))
/-- the heap H holds σ: every cell of a kind lies at or behind base -/
def WP (D : va_G) (dA : Nat → ClassId) (base : Nat) (σ : HS) (H : Heap) : Prop :=
  H.size = hs σ ∧ base ≤ hs σ ∧ ∀ n, kd σ n ≠ 0 → base < n ∧ va_at D vwCl (n - 1, mk dA σ n) H
def Wd (D : va_G) (dA : Nat → ClassId) (base : Nat) (σ : HS) (s : State) (H : Heap) (locs : List Loc) : Prop := WP D dA base σ H ∧ va_S (fun q => base ≤ q) s.heap H locs
theorem WP.ref {D : va_G} {dA : Nat → ClassId} {base : Nat} {σ : HS} {H : Heap} (h : WP D dA base σ H) {n k : Nat} (hk : kd σ n = k) (h0 : k ≠ 0) : ∃ a, n = a + 1 ∧ base ≤ a ∧ a < H.size ∧ va_at D vwCl (a, mk dA σ n) H := by
  obtain ⟨h1, h2⟩ := h.2.2 n (by rw [hk]; exact h0)
  cases n with
  | zero => omega
  | succ a => exact ⟨a, rfl, by omega, h2.lt, h2⟩
theorem mk_obj {dA : Nat → ClassId} {σ : HS} {n c : Nat} (h : kd σ n = c + 1) (hc : c < 99) : mk dA σ n = .inr (c, (FB c).mapIdx (mkf σ c n)) := by
  unfold mk; rw [h, if_pos (by omega)]; rfl
theorem mk_ia {dA : Nat → ClassId} {σ : HS} {n j : Nat} (h : kd σ n = 100 + j) (hj : j < 2) : mk dA σ n = .inl (dA j, (ln σ n, .inl (fun i => ai σ n i))) := by
  unfold mk; rw [h, if_neg (by omega), if_pos (by omega), show 100 + j - 100 = j by omega]
theorem mk_ra {dA : Nat → ClassId} {σ : HS} {n j : Nat} (h : kd σ n = 100 + j) (hj : 2 ≤ j) : mk dA σ n = .inl (dA j, (ln σ n, .inr (.inr (.inr (.inr (fun i => ro (ar σ n i))))))) := by
  unfold mk; rw [h, if_neg (by omega), if_neg (by omega), show 100 + j - 100 = j by omega]
theorem mk_si_ne {dA : Nat → ClassId} {σ : HS} {f n m : Nat} {v : Int32} (h : m ≠ n) : mk dA (si σ f n v) m = mk dA σ m := by
  have e : ∀ g, gi (si σ f n v) g m = gi σ g m := fun g => if_neg (fun q => h q.2)
  have hm : ∀ c, mkf (si σ f n v) c m = mkf σ c m := fun c => by
    funext k b; unfold mkf; rw [e]; rfl
  unfold mk; rw [hm]; rfl
theorem mk_sr_ne {dA : Nat → ClassId} {σ : HS} {f n m : Nat} {v : Nat} (h : m ≠ n) : mk dA (sr σ f n v) m = mk dA σ m := by
  have e : ∀ g, gr (sr σ f n v) g m = gr σ g m := fun g => if_neg (fun q => h q.2)
  have hm : ∀ c, mkf (sr σ f n v) c m = mkf σ c m := fun c => by
    funext k b; unfold mkf; rw [e]; rfl
  unfold mk; rw [hm]; rfl
theorem mk_sai_ne {dA : Nat → ClassId} {σ : HS} {i n m : Nat} {v : Int32} (h : m ≠ n) : mk dA (sai σ n i v) m = mk dA σ m := by
  have e : ∀ j, ai (sai σ n i v) m j = ai σ m j := fun j => if_neg (fun q => h q.1)
  unfold mk
  simp only [e]; rfl
theorem mk_sar_ne {dA : Nat → ClassId} {σ : HS} {i n m : Nat} {v : Nat} (h : m ≠ n) : mk dA (sar σ n i v) m = mk dA σ m := by
  have e : ∀ j, ar (sar σ n i v) m j = ar σ m j := fun j => if_neg (fun q => h q.1)
  unfold mk
  simp only [e]; rfl
theorem mk_nw_ne {dA : Nat → ClassId} {σ : HS} {k L m : Nat} (h : m ≠ hs σ + 1) : mk dA (nw σ k L) m = mk dA σ m := by
  have e1 : kd (nw σ k L) m = kd σ m := if_neg h
  have e2 : ln (nw σ k L) m = ln σ m := if_neg h
  have e3 : ∀ g, gi (nw σ k L) g m = gi σ g m := fun g => if_neg h
  have e4 : ∀ g, gr (nw σ k L) g m = gr σ g m := fun g => if_neg h
  have e5 : ∀ g, ai (nw σ k L) m g = ai σ m g := fun g => if_neg h
  have e6 : ∀ g, ar (nw σ k L) m g = ar σ m g := fun g => if_neg h
  have hm : ∀ c, mkf (nw σ k L) c m = mkf σ c m := fun c => by
    funext k b; unfold mkf; rw [e3, e4]
  unfold mk
  simp only [e1, e2, e5, e6, hm]
theorem mk_si_set {σ : HS} {c k n : Nat} {v : Int32} (hk : (FB c)[k]? = some false) : (FB c).mapIdx (mkf (si σ (40 * c + k) n v) c n) = ((FB c).mapIdx (mkf σ c n)).set k (.int v) := by
  apply List.ext_getElem?
  intro j
  rw [List.getElem?_set, List.getElem?_mapIdx, List.getElem?_mapIdx]
  by_cases hj : k = j
  · subst hj
    rw [if_pos rfl, if_pos (by rw [List.length_mapIdx]; exact (List.getElem?_eq_some_iff.mp hk).1), hk]
    simp [mkf, gi, si, up2]
  · rw [if_neg hj]
    congr 1
    funext b
    unfold mkf
    have e : gi (si σ (40 * c + k) n v) (40 * c + j) n = gi σ (40 * c + j) n := if_neg (fun q => hj (by omega))
    rw [e]; rfl
theorem mk_sr_set {σ : HS} {c k n : Nat} {v : Nat} (hk : (FB c)[k]? = some true) : (FB c).mapIdx (mkf (sr σ (40 * c + k) n v) c n) = ((FB c).mapIdx (mkf σ c n)).set k (vr v) := by
  apply List.ext_getElem?
  intro j
  rw [List.getElem?_set, List.getElem?_mapIdx, List.getElem?_mapIdx]
  by_cases hj : k = j
  · subst hj
    rw [if_pos rfl, if_pos (by rw [List.length_mapIdx]; exact (List.getElem?_eq_some_iff.mp hk).1), hk]
    simp [mkf, gr, sr, up2]
  · rw [if_neg hj]
    congr 1
    funext b
    unfold mkf
    have e : gr (sr σ (40 * c + k) n v) (40 * c + j) n = gr σ (40 * c + j) n := if_neg (fun q => hj (by omega))
    rw [e]; rfl
/-- one cell has changed -/
theorem WP.set {D : va_G} {dA : Nat → ClassId} {base : Nat} {σ σ' : HS} {H H1 : Heap} (h : WP D dA base σ H) {a : Nat} (hkd : kd σ' = kd σ) (hhs : hs σ' = hs σ) (hz : H1.size = H.size) (oq : ∀ q : Nat, q ≠ a → H1[q]? = H[q]?)
    (ho : ∀ n, n ≠ a + 1 → mk dA σ' n = mk dA σ n) (hat : va_at D vwCl (a, mk dA σ' (a + 1)) H1) : WP D dA base σ' H1 := by
  refine ⟨by rw [hz, hhs]; exact h.1, by rw [hhs]; exact h.2.1, fun n hn => ?_⟩
  rw [hkd] at hn
  obtain ⟨h1, h2⟩ := h.2.2 n hn
  refine ⟨h1, ?_⟩
  by_cases e : n = a + 1
  · subst e; exact hat
  · rw [ho n e]
    exact h2.kept (oq _ (by show n - 1 ≠ a; omega))
/-- one cell has come -/
theorem WP.push {D : va_G} {dA : Nat → ClassId} {base : Nat} {σ : HS} {H H1 : Heap} {k L : Nat} (h : WP D dA base σ H) (hz : H1.size = H.size + 1) (oq : ∀ q : Nat, q < H.size → H1[q]? = H[q]?)
    (hat : va_at D vwCl (H.size, mk dA (nw σ k L) (hs σ + 1)) H1) : WP D dA base (nw σ k L) H1 := by
  refine ⟨by rw [hz, h.1]; rfl, Nat.le_succ_of_le h.2.1, fun n hn => ?_⟩
  by_cases e : n = hs σ + 1
  · subst e
    refine ⟨by have := h.2.1; omega, ?_⟩
    rw [show hs σ + 1 - 1 = H.size from by rw [h.1]; rfl]
    exact hat
  · rw [show kd (nw σ k L) n = kd σ n from if_neg e] at hn
    obtain ⟨h1, h2⟩ := h.2.2 n hn
    rw [mk_nw_ne e]
    exact ⟨h1, h2.kept (oq _ h2.lt)⟩
end
section
/-! THE ROWS OF THE MACHINE over HS. -/
theorem ifs {α : Type} {c : Prop} [Decidable c] {a : Option α} {y : α} (e : (if c then a else none) = some y) : c ∧ a = some y := by
  by_cases h : c
  · rw [if_pos h] at e; exact ⟨h, e⟩
  · rw [if_neg h] at e; cases e
theorem ifp {α : Type} {c : Prop} [Decidable c] {a b : Option α} {y : α} (h : c) (e : (if c then a else b) = some y) : a = some y := by rw [if_pos h] at e; exact e
theorem ifn {α : Type} {c : Prop} [Decidable c] {a b : Option α} {y : α} (h : ¬ c) (e : (if c then a else b) = some y) : b = some y := by rw [if_neg h] at e; exact e
/-- a call inside a function on HS -/
def bd {α β : Type} (x : Option (α × HS)) (f : α → HS → Option β) : Option β := match x with
  | none => none
  | some (a, s) => f a s
theorem bds {α β : Type} {x : Option (α × HS)} {f : α → HS → Option β} {y : β} (e : bd x f = some y) : ∃ (a : α) (s : HS), x = some (a, s) ∧ f a s = some y := by
  cases x with
  | none => cases e
  | some q => exact ⟨q.1, q.2, rfl, e⟩
theorem bd_eq {α β : Type} {x : Option (α × HS)} {f : α → HS → Option β} {a : α} {s : HS} (e : x = some (a, s)) : bd x f = f a s := by rw [e]; rfl
theorem rts {α : Type} {a b : α} {s t : HS} (e : some (a, s) = some (b, t)) : a = b ∧ s = t := by cases e; exact ⟨rfl, rfl⟩
/-- cells and slots only come -/
def LE (σ τ : HS) : Prop := hs σ ≤ hs τ ∧ ns σ ≤ ns τ
def Mo {α : Type} (σ : HS) (x : Option (α × HS)) : Prop := ∀ (r : α) (τ : HS), x = some (r, τ) → LE σ τ
theorem LE.rf {σ : HS} : LE σ σ := ⟨Nat.le_refl _, Nat.le_refl _⟩
theorem LE.tr {σ τ υ : HS} (a : LE σ τ) (b : LE τ υ) : LE σ υ := ⟨Nat.le_trans a.1 b.1, Nat.le_trans a.2 b.2⟩
theorem LE.nw {σ : HS} {k L : Nat} : LE σ (nw σ k L) := ⟨Nat.le_succ _, Nat.le_add_right _ _⟩
theorem mo_none {α : Type} {σ : HS} : Mo σ (none : Option (α × HS)) := fun _ _ h => by cases h
theorem mo_ite {α : Type} {σ : HS} {c : Prop} [Decidable c] {a b : Option (α × HS)} (ha : Mo σ a) (hb : Mo σ b) : Mo σ (if c then a else b) := by
  by_cases h : c
  · rw [if_pos h]; exact ha
  · rw [if_neg h]; exact hb
theorem mo_ret {α : Type} {σ : HS} {r : α} : Mo σ (some (r, σ)) := fun _ _ h => by cases h; exact LE.rf
theorem mo_bd {α β : Type} {σ : HS} {x : Option (α × HS)} {f : α → HS → Option (β × HS)} (hx : Mo σ x) (hf : ∀ a s, Mo s (f a s)) : Mo σ (bd x f) := by
  intro r τ h
  obtain ⟨a, s, e1, e2⟩ := bds h
  exact (hx a s e1).tr (hf a s r τ e2)
theorem mo_le {α : Type} {σ τ : HS} {x : Option (α × HS)} (h : LE σ τ) (hx : Mo τ x) : Mo σ x := fun r υ e => h.tr (hx r υ e)
-- words
def lw_good : List Cond := lw_tbl.filter goodWord
theorem lg_mem {w : Cond} (i : Nat) (h : lw_tbl[i]? = some w) (hg : goodWord w = true) : w ∈ lw_good := List.mem_filter.mpr ⟨List.mem_of_getElem? h, hg⟩
theorem lg_good {w0 : Cond} (h0 : w0 ∈ lw_good) : GoodIn lw_good (w0 :: lw_good) := by
  intro w hw
  rcases List.mem_cons.mp hw with rfl | h
  · exact ⟨h0, good_of_word (List.mem_filter.mp h0).2⟩
  · exact ⟨h, good_of_word (List.mem_filter.mp h).2⟩
def isNest (w : Cond) : Bool := match w with
  | .fieldLinkNest _ _ _ _ _ _ => true
  | .methodLinkNest _ _ _ _ => true
  | _ => false
def nestW : List Cond := lw_tbl.filter isNest
theorem nk_mem {w : Cond} (i : Nat) (h : lw_tbl[i]? = some w) (hg : isNest w = true) : w ∈ nestW := List.mem_filter.mpr ⟨List.mem_of_getElem? h, hg⟩
def NK (U : State) : Prop := ∀ w ∈ nestW, va_Nw w U
theorem NK.warm {s U : State} (hW : s.WarmedH U.vm) (h : NK s) : NK U := by
  intro w hw
  have h1 := h w hw
  have hn := (List.mem_filter.mp hw).2
  cases w <;> first | (cases hn; done) | exact va_Nw.warmF hW h1 | exact va_Nw.warmM hW h1
theorem NK.same {u U : State} (e : u.vm = U.vm) (h : NK u) : NK U := by
  intro w hw
  have h1 := h w hw
  have hn := (List.mem_filter.mp hw).2
  cases w <;> first | (cases hn; done) | exact va_Nw.same rfl e h1
abbrev tysA (dA : Nat → ClassId) : List (ClassId × FieldType) := [(dA 0, .int), (dA 1, .boolean), (dA 2, .object "SnapRows$Cell"), (dA 3, .object "SnapRows$Transaction")]
def KK (D : va_G) (dA : Nat → ClassId) (U : State) : Prop := va_K D vwCl (tysA dA) U ∧ NK U ∧ va_AO "SnapRows$Cell" U ∧ va_AO "SnapRows$Transaction" U
theorem KK.warm {D : va_G} {dA : Nat → ClassId} {s U : State} (hW : s.WarmedH U.vm) (h : KK D dA s) : KK D dA U := ⟨va_K.moved hW.alike h.1, NK.warm hW h.2.1, va_AO.moved hW.alike h.2.2.1, va_AO.moved hW.alike h.2.2.2⟩
theorem KK.same {D : va_G} {dA : Nat → ClassId} {u U : State} (e : u.vm = U.vm) (h : KK D dA u) : KK D dA U := by
  have ha : u.vm.Alike U.vm := by rw [e]; exact Vm.Alike.refl _
  exact ⟨va_K.moved ha h.1, NK.same e h.2.1, va_AO.moved ha h.2.2.1, va_AO.moved ha h.2.2.2⟩
-- contracts
def PC (D : va_G) (dA : Nat → ClassId) (base : Nat) (σ : HS) (av : List Value) : Array Value → State → Prop := va_Pc av (fun U => WP D dA base σ U.heap ∧ KK D dA U)
def QC (D : va_G) (dA : Nat → ClassId) (base : Nat) (v : Option Value) (τ : HS) : Array Value → State → Outcome → State → Prop := fun _ st oc t => oc = .returned v ∧ WP D dA base τ t.heap ∧ va_F (fun q => base ≤ q) st t
abbrev RM (fr lo : Nat) (σ τ : HS) : Room := { frames := fr, cells := hs τ - hs σ, slots := ns τ - ns σ, locals := lo }
def CT (l : Launch) (y : MethodName) (cc : ByteArray) (nL : Nat) (rt : Option FieldType) (fr lo : Nat) (D : va_G) (dA : Nat → ClassId) (base : Nat) (av : List Value) (v : Option Value) (σ τ : HS) : Prop :=
  Met l y (Cond.code y cc nL rt :: lw_good) (RM fr lo σ τ) (PC D dA base σ av) (QC D dA base v τ) (hs τ - hs σ) (ns τ - ns σ) (fun q => base ≤ q)
theorem pc_blind {D : va_G} {dA : Nat → ClassId} {base : Nat} {σ : HS} {av : List Value} : FrameBlind (PC D dA base σ av) := fun a U g mk h => ⟨h.1, h.2.1, KK.same (u := U) (U := U.calling g mk a) rfl h.2.2⟩
theorem pc_at {D : va_G} {dA : Nat → ClassId} {base : Nat} {σ : HS} {av : List Value} {s : State} {H : Heap} {locs : List Loc} (h : Wd D dA base σ s H locs) (hK : KK D dA s) : PreS s H (PC D dA base σ av) av :=
  ⟨pc_blind, fun U hU hW => ⟨rfl, by show WP D dA base σ U.heap; rw [hU]; exact h.1, KK.warm hW hK⟩⟩
/-- what holds in a method's body -/
def CX (p : Program) (s : State) (m : MethodId) (args : Array Value) (meth : Method) (c : Code) (cc : ByteArray) (nL : Nat) (rt : Option FieldType) (own nm : String) (D : va_G) (dA : Nat → ClassId) (base : Nat) : Prop :=
  p.tables.exec = Jvm.exec ∧ c.code = cc ∧ c.maxLocals = nL ∧ s.vm.findClass own = some m.cls ∧ (∀ w ∈ lw_good, w.before args s = true) ∧ meth.sig.returnType = rt ∧ meth.locks = false ∧ meth.name = nm ∧ KK D dA s ∧ base ≤ s.heap.size
theorem all_cat1 {av : List Value} (h : ∀ v ∈ av, v.category = 1) : ∀ i, lv_args i av = av.mapIdx (fun k v => (i + k, v)) := by
  induction av with
  | nil => intro i; rfl
  | cons v t ih =>
    intro i
    have hv := h v List.mem_cons_self
    rw [List.mapIdx_cons]
    show (i, v) :: lv_args (if v.category = 2 then i + 2 else i + 1) t = _
    rw [if_neg (by omega), ih (fun w hw => h w (List.mem_cons_of_mem _ hw))]
    congr 2
    funext k w
    rw [show i + 1 + k = i + (k + 1) by omega]
theorem sl_cat1 {av : List Value} (h : ∀ v ∈ av, v.category = 1) : (lg_sl av).length = av.length := by
  induction av with
  | nil => rfl
  | cons v t ih =>
    have hv := h v List.mem_cons_self
    have e : lg_sl (v :: t) = (if v.category = 2 then [.val v, .second] else [.val v]) ++ lg_sl t := by simp [lg_sl]
    rw [e, if_neg (by omega), List.length_append, ih (fun w hw => h w (List.mem_cons_of_mem _ hw))]
    simp; omega
theorem CT.of {l : Launch} {y : MethodName} {cc : ByteArray} {nL : Nat} {rt : Option FieldType} {fr lo : Nat} {D : va_G} {dA : Nat → ClassId} {base : Nat} {av : List Value} {v : Option Value} {σ τ : HS}
    (hy : plainName y.cls = true) (hc : ∀ v ∈ av, v.category = 1) (hn : av.length ≤ nL) {lv : List (Nat × Value)} (hlv : av.mapIdx (fun k v => (0 + k, v)) = lv)
    (body : ∀ (p : Program) (e : Env) (s : State) (m : MethodId) (args : Array Value) (below : List Frame) (meth : Method) (c : Code) (ls : Array Slot), CX p s m args meth c cc nL rt y.cls y.name D dA base → lv_has ls nL lv → Wd D dA base σ s s.heap [] →
      W p l e (RM fr lo σ τ) s m args below meth c s.heap [] (hs σ - hs σ) (ns σ - ns σ) (MQ below (QC D dA base v τ) args s (hs τ - hs σ) (ns τ - ns σ) (fun q => base ≤ q)) (F0 m 0 ls [])) : CT l y cc nL rt fr lo D dA base av v σ τ := by
  refine Met.ofW (cc := cc) (maxL := nL) (ret := rt) hy rfl ?_
  intro p e s m args below meth c s₁ B hml hv
  obtain ⟨rfl, hP, hK⟩ := hv
  have hts := atoms_spec (ws := Cond.code y cc nL rt :: lw_good) B.pre
  have hl := lv_entry av (n := nL) (by rw [sl_cat1 hc]; exact hn)
  rw [all_cat1 hc, hlv] at hl
  rw [lg_entry_eq]
  generalize (lg_sl av ++ List.replicate (nL - (lg_sl av).length) Slot.unset).toArray = ls at hl ⊢
  have hz : hs σ - hs σ = 0 := Nat.sub_self _
  have hz2 : ns σ - ns σ = 0 := Nat.sub_self _
  have K := body p e s m av.toArray below meth c ls ⟨B.exec, B.bytes, hml, findClass_of_methodNamed B.named, fun w h => hts w (List.mem_cons_of_mem _ h), B.returns, B.notSynchronized, (name_of_methodNamed B.named B.method).1, hK, by rw [hP.1]; exact hP.2.1⟩ hl ⟨hP, va_S.rf⟩
  rw [hz, hz2] at K
  exact K
end
section
section XR
variable {p : Program} {l : Launch} {e : Env} {R : Room} {s : State} {m : MethodId} {args : Array Value} {below : List Frame} {meth : Method} {c : Code} {H : Heap} {locs : List Loc} {cells slots : Nat} {Q : State → Prop}
variable {cc : ByteArray} {nL : Nat} {rt : Option FieldType} {own nm : String} {D : va_G} {dA : Nat → ClassId} {base : Nat} {pc : Nat} {ls : Array Slot} {rest : List Value} {σ τ : HS}
theorem x_aload_n (hx : p.tables.exec = Jvm.exec) (hb : c.code = cc) {k : Fin 4} {i : Nat} {x : Nat} (hdg : decode cc pc = .ok (.aload_n k, 1)) (hi : (k : Nat) = i) (hl : ls[i]? = some (.val (vr x)))
    (kk : W p l e R s m args below meth c H locs cells slots Q (F0 m (pc + 1) ls (vr x :: rest))) : W p l e R s m args below meth c H locs cells slots Q (F0 m pc ls rest) := by
  cases x with
  | zero => exact lv_aload_nN hx hb hdg hi hl kk
  | succ a => exact lv_aload_n hx hb hdg hi hl kk
theorem x_aload (hx : p.tables.exec = Jvm.exec) (hb : c.code = cc) {i : Nat} {x : Nat} (hdg : decode cc pc = .ok (.aload i, 2)) (hl : ls[i]? = some (.val (vr x)))
    (kk : W p l e R s m args below meth c H locs cells slots Q (F0 m (pc + 2) ls (vr x :: rest))) : W p l e R s m args below meth c H locs cells slots Q (F0 m pc ls rest) := by
  cases x with
  | zero => exact lv_aloadN hx hb hdg hl kk
  | succ a => exact lv_aload hx hb hdg hl kk
theorem x_null (hx : p.tables.exec = Jvm.exec) (hb : c.code = cc) (hdg : decode cc pc = .ok (.aconst_null, 1)) (kk : W p l e R s m args below meth c H locs cells slots Q (F0 m (pc + 1) ls (vr 0 :: rest))) : W p l e R s m args below meth c H locs cells slots Q (F0 m pc ls rest) := lv_null hx hb hdg kk
/-- the locals behind a store into i: all others stay (all are of one slot) -/
theorem st_filter {lv : List (Nat × Value)} {i : Nat} (h : ∀ q ∈ lv, q.2.category = 1) : lv.filter (fun q => !(q.1 == i) && !(q.1 + 1 == i && q.2.category == 2)) = lv.filter (fun q => !(q.1 == i)) := by
  apply List.filter_congr
  intro q hq
  rw [h q hq]
  simp
theorem x_istore_n (hx : p.tables.exec = Jvm.exec) (hb : c.code = cc) {k : Fin 4} {i nL : Nat} {x : Int32} {lv lv' : List (Nat × Value)} (hdg : decode cc pc = .ok (.istore_n k, 1)) (hi : (k : Nat) = i) (h : lv_has ls nL lv) (hn : i < nL) (hc : ∀ q ∈ lv, q.2.category = 1) (hl : (i, Value.int x) :: lv.filter (fun q => !(q.1 == i)) = lv')
    (kk : ∀ ls' : Array Slot, lv_has ls' nL lv' → W p l e R s m args below meth c H locs cells slots Q (F0 m (pc + 1) ls' rest)) : W p l e R s m args below meth c H locs cells slots Q (F0 m pc ls (.int x :: rest)) := lv_istore_n hx hb hdg hi h hn (by rw [st_filter hc]; exact hl) kk
theorem x_istore (hx : p.tables.exec = Jvm.exec) (hb : c.code = cc) {i nL : Nat} {x : Int32} {lv lv' : List (Nat × Value)} (hdg : decode cc pc = .ok (.istore i, 2)) (h : lv_has ls nL lv) (hn : i < nL) (hc : ∀ q ∈ lv, q.2.category = 1) (hl : (i, Value.int x) :: lv.filter (fun q => !(q.1 == i)) = lv')
    (kk : ∀ ls' : Array Slot, lv_has ls' nL lv' → W p l e R s m args below meth c H locs cells slots Q (F0 m (pc + 2) ls' rest)) : W p l e R s m args below meth c H locs cells slots Q (F0 m pc ls (.int x :: rest)) := lv_istore hx hb hdg h hn (by rw [st_filter hc]; exact hl) kk
theorem x_astore_n (hx : p.tables.exec = Jvm.exec) (hb : c.code = cc) {k : Fin 4} {i nL : Nat} {x : Nat} {lv lv' : List (Nat × Value)} (hdg : decode cc pc = .ok (.astore_n k, 1)) (hi : (k : Nat) = i) (h : lv_has ls nL lv) (hn : i < nL) (hc : ∀ q ∈ lv, q.2.category = 1) (hl : (i, vr x) :: lv.filter (fun q => !(q.1 == i)) = lv')
    (kk : ∀ ls' : Array Slot, lv_has ls' nL lv' → W p l e R s m args below meth c H locs cells slots Q (F0 m (pc + 1) ls' rest)) : W p l e R s m args below meth c H locs cells slots Q (F0 m pc ls (vr x :: rest)) := by
  cases x with
  | zero => exact lv_astore_nN hx hb hdg hi h hn (by rw [st_filter hc]; exact hl) kk
  | succ a => exact lv_astore_n hx hb hdg hi h hn (by rw [st_filter hc]; exact hl) kk
theorem x_astore (hx : p.tables.exec = Jvm.exec) (hb : c.code = cc) {i nL : Nat} {x : Nat} {lv lv' : List (Nat × Value)} (hdg : decode cc pc = .ok (.astore i, 2)) (h : lv_has ls nL lv) (hn : i < nL) (hc : ∀ q ∈ lv, q.2.category = 1) (hl : (i, vr x) :: lv.filter (fun q => !(q.1 == i)) = lv')
    (kk : ∀ ls' : Array Slot, lv_has ls' nL lv' → W p l e R s m args below meth c H locs cells slots Q (F0 m (pc + 2) ls' rest)) : W p l e R s m args below meth c H locs cells slots Q (F0 m pc ls (vr x :: rest)) := by
  cases x with
  | zero => exact lv_astoreN hx hb hdg h hn (by rw [st_filter hc]; exact hl) kk
  | succ a => exact lv_astore hx hb hdg h hn (by rw [st_filter hc]; exact hl) kk
theorem x_iinc (hx : p.tables.exec = Jvm.exec) (hb : c.code = cc) {i nL k : Nat} {n : Int} {x v : Int32} {lv lv' : List (Nat × Value)} (hdg : decode cc pc = .ok (.iinc i n, 3)) (h : lv_has ls nL lv) (hk : lv[k]? = some (i, .int x)) (hv : Int32.ofInt n = v) (hn : i < nL) (hc : ∀ q ∈ lv, q.2.category = 1) (hl : (i, Value.int (x + v)) :: lv.filter (fun q => !(q.1 == i)) = lv')
    (kk : ∀ ls' : Array Slot, lv_has ls' nL lv' → W p l e R s m args below meth c H locs cells slots Q (F0 m (pc + 3) ls' rest)) : W p l e R s m args below meth c H locs cells slots Q (F0 m pc ls rest) := lv_iinc hx hb hdg h hk (by rw [hv]) hn (by rw [st_filter hc]; exact hl) kk
theorem x_ifnull (hx : p.tables.exec = Jvm.exec) (hb : c.code = cc) {x : Nat} {off : Int} {tgt : Nat} (hdg : decode cc pc = .ok (.ifnull off, 3)) (ht : (pc : Int) + off = (tgt : Int))
    (kt : x = 0 → W p l e R s m args below meth c H locs cells slots Q (F0 m tgt ls rest)) (kf : ¬ x = 0 → W p l e R s m args below meth c H locs cells slots Q (F0 m (pc + 3) ls rest)) : W p l e R s m args below meth c H locs cells slots Q (F0 m pc ls (vr x :: rest)) := by
  cases x with
  | zero => exact lv_ifnullN hx hb hdg ht (kt rfl)
  | succ a => exact lv_ifnull hx hb hdg (kf (Nat.succ_ne_zero a))
theorem x_ifnonnull (hx : p.tables.exec = Jvm.exec) (hb : c.code = cc) {x : Nat} {off : Int} {tgt : Nat} (hdg : decode cc pc = .ok (.ifnonnull off, 3)) (ht : (pc : Int) + off = (tgt : Int))
    (kt : ¬ x = 0 → W p l e R s m args below meth c H locs cells slots Q (F0 m tgt ls rest)) (kf : x = 0 → W p l e R s m args below meth c H locs cells slots Q (F0 m (pc + 3) ls rest)) : W p l e R s m args below meth c H locs cells slots Q (F0 m pc ls (vr x :: rest)) := by
  cases x with
  | zero => exact lv_ifnonnullN hx hb hdg (kf rfl)
  | succ a => exact lv_ifnonnull hx hb hdg ht (kt (Nat.succ_ne_zero a))
theorem x_acmp_ne (hx : p.tables.exec = Jvm.exec) (hb : c.code = cc) {x y : Nat} {off : Int} {tgt : Nat} (hdg : decode cc pc = .ok (.if_acmp .ne off, 3)) (ht : (pc : Int) + off = (tgt : Int))
    (kt : ¬ x = y → W p l e R s m args below meth c H locs cells slots Q (F0 m tgt ls rest)) (kf : x = y → W p l e R s m args below meth c H locs cells slots Q (F0 m (pc + 3) ls rest)) : W p l e R s m args below meth c H locs cells slots Q (F0 m pc ls (vr y :: vr x :: rest)) := by
  rw [← vr_ro, ← vr_ro]
  exact lv_acmp_ne hx hb hdg ht (fun h => kt (fun q => h (by rw [q]))) (fun h => kf (ro_inj h))
/-- a field of a class, as a place of a method's class links it -/
def FL (nest : Bool) (own : String) (index ci k : Nat) (b fin : Bool) : Prop :=
  ∃ (C : String) (T : u_T) (N : Nat) (ty : Nat → FieldType),
    vwCl[ci]? = some (C, T, N) ∧ ci < 99 ∧ k < N ∧ (FB ci)[k]? = some b ∧ (∀ w ∈ u_ws C T N, w ∈ lw_good) ∧
    (∀ j, j < N → parseFieldDescriptor (T j).2.2.1 = some (ty j)) ∧ (∀ a, a < N → ∀ b, b < N → a ≠ b → (T a).2.1 ≠ (T b).2.1) ∧
    (T k).2.2.2 = fin ∧ (T k).1 = C ∧ (if b = true then ((∃ n, ty k = .object n) ∨ ∃ t, ty k = .array t) else ty k = .int) ∧
    (if nest = true then Cond.fieldLinkNest own index (T k).1 (T k).2.1 (T k).2.2.1 "SnapRows" ∈ nestW else Cond.fieldLink own index (T k).1 (T k).2.1 (T k).2.2.1 ∈ lw_good)
theorem fl_get {ci k n : Nat} {b : Bool} (hb : (FB ci)[k]? = some b) : ((FB ci).mapIdx (mkf σ ci n))[k]? = some (mkf σ ci n k b) := by
  rw [List.getElem?_mapIdx, hb]; rfl
theorem x_get (cx : CX p s m args meth c cc nL rt own nm D dA base) (h : Wd D dA base σ s H locs) {index ci k n : Nat} {b fin : Bool} (hF : FL false own index ci k b fin) (hk : kd σ n = ci + 1) (hdg : decode cc pc = .ok (.getfield index, 3))
    (kk : W p l e R s m args below meth c H locs cells slots Q (F0 m (pc + 3) ls (mkf σ ci n k b :: rest))) : W p l e R s m args below meth c H locs cells slots Q (F0 m pc ls (vr n :: rest)) := by
  obtain ⟨hx, hb, hml, hown, hts, -, -, -, hK, -⟩ := cx
  obtain ⟨C, T, N, ty, f1, f2, f3, f4, f5, f6, f7, f8, f9, f10, f11⟩ := hF
  obtain ⟨a, rfl, -, -, hat⟩ := h.1.ref hk (Nat.succ_ne_zero _)
  rw [mk_obj hk f2] at hat
  exact va_get (D := D) (ws := [(a, .inr (ci, (FB ci).mapIdx (mkf σ ci (a + 1))))]) hx hb hts f5 hown hK.1 (fun j q hq => by
    cases j with
    | zero => cases hq; exact hat
    | succ j => simp at hq) 0 rfl f1 k f3 (hts _ f11) (fun _ h9 => h9) (fl_get f4) hdg kk
theorem x_getN (cx : CX p s m args meth c cc nL rt own nm D dA base) (h : Wd D dA base σ s H locs) {index ci k n : Nat} {b fin : Bool} (hF : FL true own index ci k b fin) (hk : kd σ n = ci + 1) (hdg : decode cc pc = .ok (.getfield index, 3))
    (kk : W p l e R s m args below meth c H locs cells slots Q (F0 m (pc + 3) ls (mkf σ ci n k b :: rest))) : W p l e R s m args below meth c H locs cells slots Q (F0 m pc ls (vr n :: rest)) := by
  obtain ⟨hx, hb, hml, hown, hts, -, -, -, hK, -⟩ := cx
  obtain ⟨C, T, N, ty, f1, f2, f3, f4, f5, f6, f7, f8, f9, f10, f11⟩ := hF
  obtain ⟨a, rfl, -, -, hat⟩ := h.1.ref hk (Nat.succ_ne_zero _)
  rw [mk_obj hk f2] at hat
  exact va_getN (D := D) (ws := [(a, .inr (ci, (FB ci).mapIdx (mkf σ ci (a + 1))))]) hx hb hts f5 hown hK.1 (fun j q hq => by
    cases j with
    | zero => cases hq; exact hat
    | succ j => simp at hq) 0 rfl f1 k f3 (va_Nw.use rfl (hK.2.1 _ f11)) (fun _ h9 => h9) (fl_get f4) hdg kk
theorem Wd.put {D : va_G} {dA : Nat → ClassId} {base : Nat} {σ σ' : HS} {s : State} {H H1 : Heap} {locs : List Loc} (h : Wd D dA base σ s H locs) {a i : Nat} (ha : base ≤ a) (hkd : kd σ' = kd σ) (hhs : hs σ' = hs σ) (hz : H1.size = H.size) (oq : ∀ q : Nat, q ≠ a → H1[q]? = H[q]?)
    (ho : ∀ n, n ≠ a + 1 → mk dA σ' n = mk dA σ n) (hat : va_at D vwCl (a, mk dA σ' (a + 1)) H1) : Wd D dA base σ' s H1 (locs ++ [⟨a, i⟩]) := ⟨h.1.set hkd hhs hz oq ho hat, h.2.put hz oq ha⟩
theorem fit_int (v : Int32) : narrow .int (.int v) = .int v ∧ fits .int (.int v) = true := ⟨rfl, rfl⟩
theorem fit_ref {ty : FieldType} (h : (∃ n, ty = .object n) ∨ ∃ t, ty = .array t) (n : Nat) : narrow ty (vr n) = vr n ∧ fits ty (vr n) = true := by
  rcases h with ⟨x, rfl⟩ | ⟨x, rfl⟩ <;> cases n <;> exact ⟨rfl, rfl⟩
/-- a field is put: the machine's side, for both kinds of value -/
theorem x_put0 (cx : CX p s m args meth c cc nL rt own nm D dA base) (h : Wd D dA base σ s H locs) {nest : Bool} {index ci k n : Nat} {b fin : Bool} {v : Value} {σ' : HS} (hF : FL nest own index ci k b fin) (hfin : fin = false ∨ (nest = false ∧ nm = "<init>" ∧ ∃ T N, vwCl[ci]? = some (own, T, N))) (hk : kd σ n = ci + 1) (hdg : decode cc pc = .ok (.putfield index, 3))
    (hv : ∀ ty, (if b = true then ((∃ n, ty = .object n) ∨ ∃ t, ty = .array t) else ty = .int) → narrow ty v = v ∧ fits ty v = true)
    (hkd : kd σ' = kd σ) (hhs : hs σ' = hs σ) (ho : ∀ x, x ≠ n → mk dA σ' x = mk dA σ x) (hset : (FB ci).mapIdx (mkf σ' ci n) = ((FB ci).mapIdx (mkf σ ci n)).set k v)
    (kk : ∀ (H1 : Heap) (locs1 : List Loc), Wd D dA base σ' s H1 locs1 → W p l e R s m args below meth c H1 locs1 cells slots Q (F0 m (pc + 3) ls rest)) : W p l e R s m args below meth c H locs cells slots Q (F0 m pc ls (v :: vr n :: rest)) := by
  obtain ⟨hx, hb, hml, hown, hts, -, -, hnm, hK, -⟩ := cx
  obtain ⟨C, T, N, ty, f1, f2, f3, f4, f5, f6, f7, f8, f9, f10, f11⟩ := hF
  obtain ⟨a, rfl, hab, -, hat⟩ := h.1.ref hk (Nat.succ_ne_zero _)
  rw [mk_obj hk f2] at hat
  obtain ⟨r, h1, cell, q1, q2, q3, q4⟩ := hat
  have hr : r = (C, T, N) := Option.some.inj (h1.symm.trans f1)
  subst hr
  have hap := va_apart (own := own) hts f5 ty f6 f7 hK.1 f1
  obtain ⟨hS, hfc, kC, hkC, hkind⟩ := hK.1.1 ci _ f1
  obtain ⟨cf, kf, fi, f, hi, hsl⟩ := hS k f3
  have hst := (u_facts hfc hkC (u_lays hts f5 f3) hi).1
  obtain ⟨hn, hfit⟩ := hv _ f10
  have hl : k < ((FB ci).mapIdx (mkf σ ci (a + 1))).length := by rw [List.length_mapIdx]; exact (List.getElem?_eq_some_iff.mp f4).1
  have hat' : ∀ H' : Heap, H'[a]? = some (cell.setSlot f.slot v) → va_at D vwCl (a, mk dA σ' (a + 1)) H' := by
    intro H' e1
    rw [hsl] at e1
    rw [mk_obj (by rw [hkd]; exact hk) f2, hset]
    exact ⟨_, f1, t_OB.to (V := updV (vp_V ((FB ci).mapIdx (mkf σ ci (a + 1)))) k v) ⟨_, e1, q2, q3, t_set q4 hap f3 v⟩ (fun j _ => vp_updV_set hl v j)⟩
  have hlay := hts _ (f5 _ (u_in_lay f3))
  unfold u_lay at hlay
  rcases hfin with hfin | ⟨hne, hnm', T', N', hown'⟩
  · rw [if_neg (by rw [f8, hfin]; decide)] at hlay
    have h6 := u_store hfc hkC hkind hlay hi (f6 k f3) hn hfit
    cases nest with
    | false => exact W.putK hx hb (f := f) ⟨hown, hts _ f11, ⟨_, _, _, hi⟩, hst⟩ (by rw [q2]; exact h6) q1 q3 (by rw [hsl]; exact k2_hasslot (q4 k f3)) rfl rfl hdg fun H' e1 e2 e3 => kk H' _ (h.put hab hkd hhs e2 e3 ho (hat' H' e1))
    | true => exact va_WputK hx hb (f := f) hown (va_Nw.use rfl (hK.2.1 _ f11)) hi hst (by rw [q2]; exact h6) q1 q3 (by rw [hsl]; exact k2_hasslot (q4 k f3)) rfl rfl hdg fun H' e1 e2 e3 => kk H' _ (h.put hab hkd hhs e2 e3 ho (hat' H' e1))
  · subst hne
    have hC : C = own := by have := f1.symm.trans hown'; simp at this; exact this.1
    cases fin with
    | false =>
      rw [if_neg (by rw [f8]; decide)] at hlay
      have h6 := u_store hfc hkC hkind hlay hi (f6 k f3) hn hfit
      exact W.putK hx hb (f := f) ⟨hown, hts _ f11, ⟨_, _, _, hi⟩, hst⟩ (by rw [q2]; exact h6) q1 q3 (by rw [hsl]; exact k2_hasslot (q4 k f3)) rfl rfl hdg fun H' e1 e2 e3 => kk H' _ (h.put hab hkd hhs e2 e3 ho (hat' H' e1))
    | true =>
      rw [if_pos f8] at hlay
      have hcf : m.cls = cf := by
        obtain ⟨_, _, c', _, _, _, -, -, hf', -, -, -, hown2, -⟩ := Cond.laysFinal_spec hlay
        have e1 : c' = cf := by have := hi.symm.trans hf'; simp at this; exact this.1.symm
        rw [f9, hC] at hown2
        rw [← e1]; exact Option.some.inj (hown.symm.trans hown2)
      have h6 := u_fits hfc hkC hkind (Or.inr hlay) hi (f6 k f3) hn hfit
      exact W.putFinK hx hb hown (hts _ f11) hi hst hcf (hnm.trans hnm') (by rw [q2]; exact h6) q1 q3 (by rw [hsl]; exact k2_hasslot (q4 k f3)) rfl rfl hdg fun H' e1 e2 e3 => kk H' _ (h.put hab hkd hhs e2 e3 ho (hat' H' e1))
theorem x_puti (cx : CX p s m args meth c cc nL rt own nm D dA base) (h : Wd D dA base σ s H locs) {nest : Bool} {index ci k n : Nat} {fin : Bool} {v : Int32} (hF : FL nest own index ci k false fin) (hfin : fin = false ∨ (nest = false ∧ nm = "<init>" ∧ ∃ T N, vwCl[ci]? = some (own, T, N))) (hk : kd σ n = ci + 1) (hdg : decode cc pc = .ok (.putfield index, 3))
    (kk : ∀ (H1 : Heap) (locs1 : List Loc), Wd D dA base (si σ (40 * ci + k) n v) s H1 locs1 → W p l e R s m args below meth c H1 locs1 cells slots Q (F0 m (pc + 3) ls rest)) : W p l e R s m args below meth c H locs cells slots Q (F0 m pc ls (.int v :: vr n :: rest)) :=
  x_put0 (σ' := si σ (40 * ci + k) n v) cx h hF hfin hk hdg (fun ty ht => by rw [if_neg (by decide)] at ht; subst ht; exact fit_int v) rfl rfl (fun x hx => mk_si_ne hx) (mk_si_set (by obtain ⟨C, T, N, ty, f1, f2, f3, f4, f5⟩ := hF; exact f4)) kk
theorem x_putr (cx : CX p s m args meth c cc nL rt own nm D dA base) (h : Wd D dA base σ s H locs) {nest : Bool} {index ci k n : Nat} {fin : Bool} {v : Nat} (hF : FL nest own index ci k true fin) (hfin : fin = false ∨ (nest = false ∧ nm = "<init>" ∧ ∃ T N, vwCl[ci]? = some (own, T, N))) (hk : kd σ n = ci + 1) (hdg : decode cc pc = .ok (.putfield index, 3))
    (kk : ∀ (H1 : Heap) (locs1 : List Loc), Wd D dA base (sr σ (40 * ci + k) n v) s H1 locs1 → W p l e R s m args below meth c H1 locs1 cells slots Q (F0 m (pc + 3) ls rest)) : W p l e R s m args below meth c H locs cells slots Q (F0 m pc ls (vr v :: vr n :: rest)) :=
  x_put0 (σ' := sr σ (40 * ci + k) n v) cx h hF hfin hk hdg (fun ty ht => by rw [if_pos rfl] at ht; exact fit_ref ht v) rfl rfl (fun x hx => mk_sr_ne hx) (mk_sr_set (by obtain ⟨C, T, N, ty, f1, f2, f3, f4, f5⟩ := hF; exact f4)) kk
end XR
end
section
section XA
variable {p : Program} {l : Launch} {e : Env} {R : Room} {s : State} {m : MethodId} {args : Array Value} {below : List Frame} {meth : Method} {c : Code} {H : Heap} {locs : List Loc} {cells slots : Nat} {Q : State → Prop}
variable {cc : ByteArray} {nL : Nat} {rt : Option FieldType} {own nm : String} {D : va_G} {dA : Nat → ClassId} {base : Nat} {pc : Nat} {ls : Array Slot} {rest : List Value} {σ τ : HS}
theorem x_iald (cx : CX p s m args meth c cc nL rt own nm D dA base) (h : Wd D dA base σ s H locs) {n : Nat} {i : Int32} (hk : kd σ n = 100) (hin : vp_in i (ln σ n)) (hdg : decode cc pc = .ok (.iaload, 1))
    (kk : W p l e R s m args below meth c H locs cells slots Q (F0 m (pc + 1) ls (.int (ai σ n i.toNatClampNeg) :: rest))) : W p l e R s m args below meth c H locs cells slots Q (F0 m pc ls (.int i :: vr n :: rest)) := by
  obtain ⟨hx, hb, hml, hown, hts, -, -, -, hK, -⟩ := cx
  obtain ⟨a, rfl, -, -, hat⟩ := h.1.ref hk (by decide)
  rw [mk_ia (j := 0) hk (by decide)] at hat
  exact va_iald (D := D) (cl := vwCl) (ws := [(a, .inl (dA 0, (ln σ (a + 1), .inl (fun i => ai σ (a + 1) i))))]) hx hb hK.1 (fun j q hq => by
    cases j with
    | zero => cases hq; exact hat
    | succ j => simp at hq) 0 0 rfl rfl hin hdg kk
theorem x_zald (cx : CX p s m args meth c cc nL rt own nm D dA base) (h : Wd D dA base σ s H locs) {n : Nat} {i : Int32} (hk : kd σ n = 101) (hin : vp_in i (ln σ n)) (hdg : decode cc pc = .ok (.baload, 1))
    (kk : W p l e R s m args below meth c H locs cells slots Q (F0 m (pc + 1) ls (.int (ai σ n i.toNatClampNeg) :: rest))) : W p l e R s m args below meth c H locs cells slots Q (F0 m pc ls (.int i :: vr n :: rest)) := by
  obtain ⟨hx, hb, hml, hown, hts, -, -, -, hK, -⟩ := cx
  obtain ⟨a, rfl, -, -, hat⟩ := h.1.ref hk (by decide)
  rw [mk_ia (j := 1) hk (by decide)] at hat
  exact va_zald (D := D) (cl := vwCl) (ws := [(a, .inl (dA 1, (ln σ (a + 1), .inl (fun i => ai σ (a + 1) i))))]) hx hb hK.1 (fun j q hq => by
    cases j with
    | zero => cases hq; exact hat
    | succ j => simp at hq) 0 1 rfl rfl hin hdg kk
/-- the class of an array of references of kind 100 + j -/
def RA (j ci : Nat) : Prop := ∃ (C : String) (T : u_T) (N : Nat), 2 ≤ j ∧ vwCl[ci]? = some (C, T, N) ∧ ∀ dA, (tysA dA)[j]? = some (dA j, .object C)
theorem RA2 : RA 2 0 := ⟨RX0, TX0, 5, by decide, rfl, fun _ => rfl⟩
theorem RA3 : RA 3 4 := ⟨RX4, TX4, 10, by decide, rfl, fun _ => rfl⟩
theorem x_aald (cx : CX p s m args meth c cc nL rt own nm D dA base) (h : Wd D dA base σ s H locs) {n j ci : Nat} {i : Int32} (hj : RA j ci) (hk : kd σ n = 100 + j) (hin : vp_in i (ln σ n)) (hdg : decode cc pc = .ok (.aaload, 1))
    (kk : W p l e R s m args below meth c H locs cells slots Q (F0 m (pc + 1) ls (vr (ar σ n i.toNatClampNeg) :: rest))) : W p l e R s m args below meth c H locs cells slots Q (F0 m pc ls (.int i :: vr n :: rest)) := by
  obtain ⟨hx, hb, hml, hown, hts, -, -, -, hK, -⟩ := cx
  obtain ⟨C, T, N, j2, j3, j4⟩ := hj
  obtain ⟨a, rfl, -, -, hat⟩ := h.1.ref hk (by omega)
  rw [mk_ra hk j2] at hat
  refine va_aldq (D := D) (cl := vwCl) (C := C) (ws := [(a, .inl (dA j, (ln σ (a + 1), .inr (.inr (.inr (.inr (fun i => ro (ar σ (a + 1) i))))))))]) hx hb hK.1 (fun j q hq => by
    cases j with
    | zero => cases hq; exact hat
    | succ j => simp at hq) 0 j rfl (j4 dA) hin hdg ?_
  rw [vr_ro]
  exact kk
theorem x_iast (cx : CX p s m args meth c cc nL rt own nm D dA base) (h : Wd D dA base σ s H locs) {n : Nat} {i x : Int32} (hk : kd σ n = 100) (hin : vp_in i (ln σ n)) (hdg : decode cc pc = .ok (.iastore, 1))
    (kk : ∀ (H1 : Heap) (locs1 : List Loc), Wd D dA base (sai σ n i.toNatClampNeg x) s H1 locs1 → W p l e R s m args below meth c H1 locs1 cells slots Q (F0 m (pc + 1) ls rest)) : W p l e R s m args below meth c H locs cells slots Q (F0 m pc ls (.int x :: .int i :: vr n :: rest)) := by
  obtain ⟨hx, hb, hml, hown, hts, -, -, -, hK, -⟩ := cx
  obtain ⟨a, rfl, hab, -, hat⟩ := h.1.ref hk (by decide)
  rw [mk_ia (j := 0) hk (by decide)] at hat
  refine W.iast hx hb hat ((hK.1.2 0 _ rfl).1 _ (fun j => .int (ai σ (a + 1) j))) (fun q => by cases q) (by show ¬ (i < 0 ∨ (arrV _ _ _).slots.size ≤ _); rw [arrV_size]; exact hin) rfl rfl hdg fun H1 e1 z oq => kk H1 _ (h.put hab rfl rfl z oq (fun x hx => mk_sai_ne hx) ?_)
  rw [mk_ia (j := 0) (σ := sai σ (a + 1) i.toNatClampNeg x) hk (by decide)]
  show H1[a]? = some (vp_cell _ _)
  rw [e1, vp_cell_i, vp_cell_i, arrV_store]
  show some (arrV _ _ _) = some (arrV _ (ln σ (a + 1)) _)
  congr 2
  funext q
  by_cases hq : q = i.toNatClampNeg
  · subst hq; simp [updV, ai, sai, up2]
  · simp [updV, ai, sai, up2, hq]
theorem x_zast (cx : CX p s m args meth c cc nL rt own nm D dA base) (h : Wd D dA base σ s H locs) {n : Nat} {i x : Int32} (hk : kd σ n = 101) (hin : vp_in i (ln σ n)) (hz : x = 0 ∨ x = 1) (hdg : decode cc pc = .ok (.bastore, 1))
    (kk : ∀ (H1 : Heap) (locs1 : List Loc), Wd D dA base (sai σ n i.toNatClampNeg x) s H1 locs1 → W p l e R s m args below meth c H1 locs1 cells slots Q (F0 m (pc + 1) ls rest)) : W p l e R s m args below meth c H locs cells slots Q (F0 m pc ls (.int x :: .int i :: vr n :: rest)) := by
  obtain ⟨hx, hb, hml, hown, hts, -, -, -, hK, -⟩ := cx
  obtain ⟨a, rfl, hab, -, hat⟩ := h.1.ref hk (by decide)
  rw [mk_ia (j := 1) hk (by decide)] at hat
  refine W.zast hx hb hat ((hK.1.2 1 _ rfl).1 _ (fun j => .int (ai σ (a + 1) j))) (fun q => by cases q) (by show ¬ (i < 0 ∨ (arrV _ _ _).slots.size ≤ _); rw [arrV_size]; exact hin) rfl rfl hdg fun H1 e1 z oq => kk H1 _ (h.put hab rfl rfl z oq (fun x hx => mk_sai_ne hx) ?_)
  rw [mk_ia (j := 1) (σ := sai σ (a + 1) i.toNatClampNeg x) hk (by decide)]
  show H1[a]? = some (vp_cell _ _)
  rw [e1, vp_cell_i, vp_cell_i, arrV_store]
  show some (arrV _ _ _) = some (arrV _ (ln σ (a + 1)) _)
  congr 2
  funext q
  have hn : narrow .boolean (.int x) = .int x := by rcases hz with rfl | rfl <;> rfl
  by_cases hq : q = i.toNatClampNeg
  · subst hq
    simp only [updV, ai, sai, up2, if_true, and_self]
    exact hn
  · simp [updV, ai, sai, up2, hq]
theorem x_aast (cx : CX p s m args meth c cc nL rt own nm D dA base) (h : Wd D dA base σ s H locs) {n j ci x : Nat} {i : Int32} (hj : RA j ci) (hci : ci < 99) (hk : kd σ n = 100 + j) (hin : vp_in i (ln σ n)) (hxk : kd σ x = ci + 1) (hdg : decode cc pc = .ok (.aastore, 1))
    (kk : ∀ (H1 : Heap) (locs1 : List Loc), Wd D dA base (sar σ n i.toNatClampNeg x) s H1 locs1 → W p l e R s m args below meth c H1 locs1 cells slots Q (F0 m (pc + 1) ls rest)) : W p l e R s m args below meth c H locs cells slots Q (F0 m pc ls (vr x :: .int i :: vr n :: rest)) := by
  obtain ⟨hx, hb, hml, hown, hts, -, -, -, hK, -⟩ := cx
  obtain ⟨C, T, N, j2, j3, j4⟩ := hj
  obtain ⟨a, rfl, hab, -, hat⟩ := h.1.ref hk (by omega)
  obtain ⟨v, rfl, -, -, hav⟩ := h.1.ref hxk (Nat.succ_ne_zero _)
  rw [mk_ra hk j2] at hat
  rw [mk_obj hxk hci] at hav
  have hlt : i.toNatClampNeg < ln σ (a + 1) := Nat.not_le.mp fun q => hin (Or.inr q)
  have h0 : ¬ i < 0 := fun q => hin (Or.inl q)
  obtain ⟨r', hr', cellV, g1, g2, g3, -⟩ := hav
  have hcls := (hK.1.1 ci _ j3).2
  obtain ⟨kA, comp, k1, k2, k3, -⟩ := (hK.1.2 j _ (j4 dA)).2
  have hcomp : comp = D.1 ci := Option.some.inj (k3.symm.trans hcls.1)
  subst hcomp
  obtain ⟨kC, hkC, -⟩ := hcls.2
  refine W.aast hx hb hat (fun q h => by cases h) (fun h => by cases h) k1 k2 rfl hkC ⟨h0, by show _ < (arrV _ _ _).slots.size; rw [arrV_size]; exact hlt⟩ g1 (fun q h => by rw [g3] at h; cases h) (by rw [g2]; exact hkC) (by rw [g2]; exact va_assign hcls) rfl rfl hdg fun H1 e1 z oq => kk H1 _ (h.put hab rfl rfl z oq (fun x hx => mk_sar_ne hx) ?_)
  rw [mk_ra (σ := sar σ (a + 1) i.toNatClampNeg (v + 1)) hk j2]
  show H1[a]? = some (vp_cell _ _)
  rw [e1, vp_cell_q, vp_cell_q, arrV_store]
  show some (arrV _ _ _) = some (arrV _ (ln σ (a + 1)) _)
  congr 2
  funext q
  by_cases hq : q = i.toNatClampNeg
  · subst hq; simp [updV, ar, sar, up2, va_rf, ro]
  · simp [updV, ar, sar, up2, hq]
/-- a class whose objects a place makes -/
def NL (own : String) (index ci N : Nat) : Prop :=
  ∃ (C : String) (T : u_T) (ty : Nat → FieldType), vwCl[ci]? = some (C, T, N) ∧ ci < 99 ∧ (FB ci).length = N ∧ (∀ w ∈ u_ws C T N, w ∈ lw_good) ∧ (∀ j, j < N → parseFieldDescriptor (T j).2.2.1 = some (ty j)) ∧
    (∀ j, j < N → defaultValue (ty j) = (if (FB ci)[j]? = some true then .null else .int 0)) ∧ Cond.classLink own index C ∈ lw_good ∧ Cond.instantiable C N ∈ lw_good ∧ Cond.initialized C ∈ lw_good
theorem Wd.push {D : va_G} {dA : Nat → ClassId} {base : Nat} {σ : HS} {s : State} {H H1 : Heap} {locs : List Loc} {k L : Nat} (h : Wd D dA base σ s H locs) (hz : H1.size = H.size + 1) (oq : ∀ q : Nat, q < H.size → H1[q]? = H[q]?)
    (hat : va_at D vwCl (H.size, mk dA (nw σ k L) (hs σ + 1)) H1) : Wd D dA base (nw σ k L) s H1 locs := by
  refine ⟨h.1.push hz oq hat, ?_, fun q h1 h2 => ?_, h.2.2.2⟩
  · have := h.2.1; omega
  · rw [oq q (Nat.lt_of_lt_of_le h1 h.2.1)]; exact h.2.2.1 q h1 h2
theorem x_new (cx : CX p s m args meth c cc nL rt own nm D dA base) (h : Wd D dA base σ s H locs) {index ci N : Nat} (hN : NL own index ci N) (hcells : cells + 1 ≤ R.cells) (hslots : slots + N ≤ R.slots) (hdg : decode cc pc = .ok (.new index, 3))
    (kk : ∀ (H1 : Heap), Wd D dA base (nw σ (ci + 1) N) s H1 locs → W p l e R s m args below meth c H1 locs (cells + 1) (slots + N) Q (F0 m (pc + 3) ls (vr (hs σ + 1) :: rest))) : W p l e R s m args below meth c H locs cells slots Q (F0 m pc ls rest) := by
  obtain ⟨hx, hb, hml, hown, hts, -, -, -, hK, -⟩ := cx
  obtain ⟨C, T, ty, n1, n2, n3, n4, n5, n6, n7, n8, n9⟩ := hN
  have hKn := hK.1.1 ci _ n1
  refine W.newcK hx hb hown (hts _ n7) (hts _ n8) (hts _ n9) rfl hdg hcells hslots hKn.2.1 h.1.1 fun H1 kC hkC e1 z1 o1 => kk H1 (h.push (by rw [z1, h.1.1]) (by rw [h.1.1]; exact o1) ?_)
  rw [mk_obj (c := ci) (kd_nw_self σ (ci + 1) N) n2, h.1.1]
  refine ⟨_, n1, (u_born ty hts n4 hKn hkC e1 n5).to (fun j hj => ?_)⟩
  rw [n6 j hj]
  have hj' : j < (FB ci).length := by rw [n3]; exact hj
  have e2 : (FB ci)[j]? = some (FB ci)[j] := List.getElem?_eq_getElem hj'
  unfold vp_V
  rw [List.getD_eq_getElem?_getD, fl_get e2, e2]
  cases (FB ci)[j] with
  | false => rw [if_neg (by simp)]; simp [mkf, gi, nw]
  | true => rw [if_pos rfl]; simp [mkf, gr, nw, vr]
theorem x_newa (cx : CX p s m args meth c cc nL rt own nm D dA base) (h : Wd D dA base σ s H locs) {j : Nat} {n : Int32} {N : Nat} {aty : ArrayType} {ty : FieldType} (hty : newarray.typeOf aty = ty) (hj : (j = 0 ∧ ty = .int) ∨ (j = 1 ∧ ty = .boolean)) (hw : Cond.arrayClass ty ∈ lw_good) (hn : ¬ n < 0) (hN : n.toNatClampNeg = N) (hb4 : N ≤ 100000) (hcells : cells + 1 ≤ R.cells) (hslots : slots + N ≤ R.slots) (hdg : decode cc pc = .ok (.newarray aty, 2))
    (kk : ∀ (H1 : Heap), Wd D dA base (nw σ (100 + j) N) s H1 locs → W p l e R s m args below meth c H1 locs (cells + 1) (slots + N) Q (F0 m (pc + 2) ls (vr (hs σ + 1) :: rest))) : W p l e R s m args below meth c H locs cells slots Q (F0 m pc ls (.int n :: rest)) := by
  obtain ⟨hx, hb, hml, hown, hts, -, -, -, hK, -⟩ := cx
  subst hty
  have hbytes : N * componentBytes (newarray.typeOf aty) ≤ 536870912 := by
    rcases hj with ⟨-, e⟩ | ⟨-, e⟩ <;> rw [e] <;> simp [componentBytes] <;> omega
  refine va_newaK hx hb (hts _ hw) rfl hdg rfl hn hN hbytes hcells hslots h.1.1 fun H1 cA e1 z1 o1 hAr hNm => kk H1 (h.push (by rw [z1, h.1.1]) (by rw [h.1.1]; exact o1) ?_)
  have hcA : cA = dA j := by
    rcases hj with ⟨rfl, e⟩ | ⟨rfl, e⟩
    · have := (hK.1.2 0 _ rfl).2
      rw [e] at hNm
      exact Option.some.inj (hNm.symm.trans this)
    · have := (hK.1.2 1 _ rfl).2
      rw [e] at hNm
      exact Option.some.inj (hNm.symm.trans this)
  subst hcA
  rw [mk_ia (kd_nw_self σ (100 + j) N) (by omega), h.1.1]
  show H1[hs σ]? = some (vp_cell _ _)
  rw [e1, vp_cell_i]
  congr 1
  have e2 : ln (nw σ (100 + j) N) (hs σ + 1) = N := if_pos rfl
  rw [e2]
  congr 1
  funext q
  have e3 : ai (nw σ (100 + j) N) (hs σ + 1) q = 0 := if_pos rfl
  rw [e3]
  rcases hj with ⟨-, e⟩ | ⟨-, e⟩ <;> rw [e] <;> rfl
theorem x_newq (cx : CX p s m args meth c cc nL rt own nm D dA base) (h : Wd D dA base σ s H locs) {j ci index : Nat} {n : Int32} {N : Nat} {C : String} (hj : 2 ≤ j) (hC : ∀ dA, (tysA dA)[j]? = some (dA j, .object C)) (hov : ∀ U, KK D dA U → va_AO C U) (hw : Cond.classLink own index C ∈ lw_good) (hn : ¬ n < 0) (hN : n.toNatClampNeg = N) (hb4 : N ≤ 100000) (hcells : cells + 1 ≤ R.cells) (hslots : slots + N ≤ R.slots) (hdg : decode cc pc = .ok (.anewarray index, 3))
    (kk : ∀ (H1 : Heap), Wd D dA base (nw σ (100 + j) N) s H1 locs → W p l e R s m args below meth c H1 locs (cells + 1) (slots + N) Q (F0 m (pc + 3) ls (vr (hs σ + 1) :: rest))) : W p l e R s m args below meth c H locs cells slots Q (F0 m pc ls (.int n :: rest)) := by
  obtain ⟨hx, hb, hml, hown, hts, -, -, -, hK, -⟩ := cx
  subst hN
  refine W.anew hx hb hown (hts _ hw) (va_AO.use (hov s hK)) rfl hdg rfl hn (by omega) hcells hslots fun cA kA comp f1 f2 f3 f4 => ?_
  generalize hH1 : H.push ({ cls := cA, slots := Array.replicate n.toNatClampNeg .null, vm := .none } : Cell) = H1
  have z1 : H1.size = H.size + 1 := by rw [← hH1, Array.size_push]
  have e1 : H1[H.size]? = some (arrV cA n.toNatClampNeg (fun _ => .null)) := by rw [← hH1, Array.getElem?_push_size, ← arrV_new]
  have o1 : ∀ q : Nat, q < H.size → H1[q]? = H[q]? := fun q hq => by rw [← hH1, Array.getElem?_push, if_neg (Nat.ne_of_lt hq)]
  have hcA : cA = dA j := by
    obtain ⟨_, _, _, _, _, g4⟩ := (hK.1.2 j _ (hC dA)).2
    exact Option.some.inj (f1.symm.trans g4)
  subst hcA
  have K := kk H1 (h.push z1 o1 (by
    rw [mk_ra (kd_nw_self σ (100 + j) n.toNatClampNeg) hj]
    show H1[H.size]? = some (vp_cell _ _)
    rw [e1, vp_cell_q]
    congr 1
    have e2 : ln (nw σ (100 + j) n.toNatClampNeg) (hs σ + 1) = n.toNatClampNeg := if_pos rfl
    rw [e2]
    congr 1
    funext q
    have e3 : ar (nw σ (100 + j) n.toNatClampNeg) (hs σ + 1) q = 0 := if_pos rfl
    rw [e3]; rfl))
  have e9 : Value.ref H.size = vr (hs σ + 1) := by rw [h.1.1]; rfl
  rw [e9]
  exact K
end XA
end
section
section XC
variable {p : Program} {l : Launch} {e : Env} {R : Room} {s : State} {m : MethodId} {args : Array Value} {below : List Frame} {meth : Method} {c : Code} {H : Heap} {locs : List Loc} {cells slots : Nat} {Q : State → Prop}
variable {cc : ByteArray} {nL : Nat} {rt : Option FieldType} {own nm : String} {D : va_G} {dA : Nat → ClassId} {base : Nat} {pc : Nat} {ls : Array Slot} {rest st0 : List Value} {σ τ : HS} {mc ms : Nat} {a : Array Value}
/-- behind a call -/
theorem x_call {v : Option Value} (hr : va_Run p l e R s m args below meth c H locs cells slots mc ms (F0 m pc ls st0) rest (QC D dA base v τ a) (fun q => base ≤ q)) (h : Wd D dA base σ s H locs)
    (kk : ∀ (H1 : Heap) (locs1 : List Loc), Wd D dA base τ s H1 locs1 → W p l e R s m args below meth c H1 locs1 (cells + mc) (slots + ms) Q (F0 m (pc + 3) ls (v.toList ++ rest))) : W p l e R s m args below meth c H locs cells slots Q (F0 m pc ls st0) := by
  intro T hT X
  obtain ⟨v', st₀, t, T', L, h0, X', hL, e1, e2, ⟨hv, hP, hz, hk⟩, st⟩ := hr T hT X
  cases hv
  rw [h0] at hz hk
  obtain ⟨t2, a1, b1⟩ := kk T'.heap (locs ++ L) ⟨by rw [e1]; exact hP, Nat.le_trans h.2.1 (by rw [e1]; exact hz), fun q h1 h2 => by rw [e1, hk q (Nat.lt_of_lt_of_le h1 h.2.1) h2]; exact h.2.2.1 q h1 h2, fun q hq => by
      rcases List.mem_append.mp hq with h3 | h3
      · exact h.2.2.2 q h3
      · exact hL q h3⟩ T' rfl X'
  exact ⟨t2, st t2 a1, b1⟩
/-- a method that a place calls: its own words, and how it is linked -/
def ML (own : String) (index : Nat) (y : MethodName) (cc : ByteArray) (nL : Nat) (rt : Option FieldType) (n : Nat) : Prop :=
  Cond.methodLink own index y ∈ lw_good ∧ Cond.code y cc nL rt ∈ lw_good ∧ Cond.initialized y.cls ∈ lw_good ∧ (y.cls ≠ "java/lang/invoke/MethodHandle" ∧ y.cls ≠ "java/lang/invoke/VarHandle" ∧ (parseMethodDescriptor y.desc).map (fun d => d.parameters.length) = some n)
def MLN (own : String) (index : Nat) (y : MethodName) (cc : ByteArray) (nL : Nat) (rt : Option FieldType) (n : Nat) : Prop :=
  Cond.methodLinkNest own index y "SnapRows" ∈ nestW ∧ Cond.code y cc nL rt ∈ lw_good ∧ Cond.initialized y.cls ∈ lw_good ∧ (y.cls ≠ "java/lang/invoke/MethodHandle" ∧ y.cls ≠ "java/lang/invoke/VarHandle" ∧ (parseMethodDescriptor y.desc).map (fun d => d.parameters.length) = some n)
theorem ml_B (cx : CX p s m args meth c cc nL rt own nm D dA base) {index : Nat} {y : MethodName} {cy : ByteArray} {ny : Nat} {ry : Option FieldType} {n fr lo : Nat} (hM : ML own index y cy ny ry n) (hR : fr + 1 ≤ R.frames ∧ 8 + (ny + 11) + lo ≤ R.locals) :
    CallB R s args own index y cy ny ry (Cond.code y cy ny ry :: lw_good) (RM fr lo σ τ) (hs τ - hs σ) (ns τ - ns σ) n := by
  obtain ⟨hx, hb, hml, hown, hts, -, -, -, hK, -⟩ := cx
  exact callB_of n hts (lg_good hM.2.1) rfl rfl rfl (hts _ hM.2.2.1) (hts _ hM.1) hM.2.2.2 hR
theorem x_runV (cx : CX p s m args meth c cc nL rt own nm D dA base) (h : Wd D dA base σ s H locs) {index ci b : Nat} {y : MethodName} {cy : ByteArray} {ny : Nat} {ry : Option FieldType} {n fr lo : Nat} {As : List Value} {v : Option Value}
    (hC : CT l y cy ny ry fr lo D dA base (vr b :: As) v σ τ) (hM : ML own index y cy ny ry n) (hi : Cond.instanceMethod y ∈ lw_good ∧ Cond.selects y.cls y y ∈ lw_good ∧ ci < 99 ∧ ∃ T N, vwCl[ci]? = some (y.cls, T, N)) (hk : kd σ b = ci + 1) (hn : As.length = n) (hR : fr + 1 ≤ R.frames ∧ 8 + (ny + 11) + lo ≤ R.locals)
    (hls : ls.size = nL) (hst : st0 = As.reverse ++ vr b :: rest) (hW : (rest.map fun v => v.category).sum ≤ 8) (hdg : decode cc pc = .ok (.invokevirtual index, 3)) (hf : cells + (hs τ - hs σ) ≤ R.cells ∧ slots + (ns τ - ns σ) ≤ R.slots) :
    va_Run p l e R s m args below meth c H locs cells slots (hs τ - hs σ) (ns τ - ns σ) (F0 m pc ls st0) rest (QC D dA base v τ (vr b :: As).toArray) (fun q => base ≤ q) := by
  have cx' := cx
  obtain ⟨hx, hb, hml, hown, hts, -, -, -, hK, -⟩ := cx
  obtain ⟨i1, i2, i3, T, N, i4⟩ := hi
  obtain ⟨a, rfl, -, -, hat⟩ := h.1.ref hk (Nat.succ_ne_zero _)
  rw [mk_obj hk i3] at hat
  obtain ⟨r, h1, cell, q1, q2, q3, q4⟩ := hat
  have hr : r = (y.cls, T, N) := Option.some.inj (h1.symm.trans i4)
  subst hr
  exact va_runV ⟨hx, hb, hml, hown, hts⟩ hC ⟨ml_B cx' hM hR, hts _ i1, hts _ i2⟩ ⟨pc_blind, ⟨cell, q1, by rw [q3]; rfl, by rw [q2]; exact (hK.1.1 ci _ i4).2.1⟩, (pc_at h hK).2⟩ rfl hn hls hst (lv_room (m := m) (pc := pc) (ls := ls) (rest := st0) hW) hdg hf
theorem x_runS (cx : CX p s m args meth c cc nL rt own nm D dA base) (h : Wd D dA base σ s H locs) {index : Nat} {y : MethodName} {cy : ByteArray} {ny : Nat} {ry : Option FieldType} {n fr lo : Nat} {As : List Value} {v : Option Value}
    (hC : CT l y cy ny ry fr lo D dA base As v σ τ) (hM : ML own index y cy ny ry n) (hi : Cond.static y ∈ lw_good) (hn : As.length = n) (hR : fr + 1 ≤ R.frames ∧ 8 + (ny + 11) + lo ≤ R.locals)
    (hls : ls.size = nL) (hst : st0 = As.reverse ++ rest) (hW : (rest.map fun v => v.category).sum ≤ 8) (hdg : decode cc pc = .ok (.invokestatic index, 3)) (hf : cells + (hs τ - hs σ) ≤ R.cells ∧ slots + (ns τ - ns σ) ≤ R.slots) :
    va_Run p l e R s m args below meth c H locs cells slots (hs τ - hs σ) (ns τ - ns σ) (F0 m pc ls st0) rest (QC D dA base v τ As.toArray) (fun q => base ≤ q) := by
  have cx' := cx
  obtain ⟨hx, hb, hml, hown, hts, -, -, -, hK, -⟩ := cx
  exact va_runS ⟨hx, hb, hml, hown, hts⟩ hC ⟨ml_B cx' hM hR, hts _ hi⟩ (pc_at h hK) rfl hn hls hst (lv_room (m := m) (pc := pc) (ls := ls) (rest := st0) hW) hdg hf
theorem x_runI (cx : CX p s m args meth c cc nL rt own nm D dA base) (h : Wd D dA base σ s H locs) {index b k : Nat} {y : MethodName} {cy : ByteArray} {ny : Nat} {n fr lo : Nat} {As : List Value} {v : Option Value}
    (hC : CT l y cy ny none fr lo D dA base (vr b :: As) v σ τ) (hM : ML own index y cy ny none n) (hi : Cond.instanceMethod y ∈ lw_good ∧ y.name = "<init>") (hk : kd σ b = k + 1) (hn : As.length = n) (hR : fr + 1 ≤ R.frames ∧ 8 + (ny + 11) + lo ≤ R.locals)
    (hls : ls.size = nL) (hst : st0 = As.reverse ++ vr b :: rest) (hW : (rest.map fun v => v.category).sum ≤ 8) (hdg : decode cc pc = .ok (.invokespecial index, 3)) (hf : cells + (hs τ - hs σ) ≤ R.cells ∧ slots + (ns τ - ns σ) ≤ R.slots) :
    va_Run p l e R s m args below meth c H locs cells slots (hs τ - hs σ) (ns τ - ns σ) (F0 m pc ls st0) rest (QC D dA base v τ (vr b :: As).toArray) (fun q => base ≤ q) := by
  have cx' := cx
  obtain ⟨hx, hb, hml, hown, hts, -, -, -, hK, -⟩ := cx
  obtain ⟨a, rfl, -, -, -⟩ := h.1.ref hk (Nat.succ_ne_zero _)
  exact va_runI ⟨hx, hb, hml, hown, hts⟩ hC ⟨ml_B cx' hM hR, hi.2, hts _ hi.1⟩ (pc_at h hK) rfl hn hls hst (lv_room (m := m) (pc := pc) (ls := ls) (rest := st0) hW) hdg hf
theorem x_runIN (cx : CX p s m args meth c cc nL rt own nm D dA base) (h : Wd D dA base σ s H locs) {index b k : Nat} {y : MethodName} {cy : ByteArray} {ny : Nat} {n fr lo : Nat} {As : List Value} {v : Option Value}
    (hC : CT l y cy ny none fr lo D dA base (vr b :: As) v σ τ) (hM : MLN own index y cy ny none n) (hi : Cond.instanceMethod y ∈ lw_good ∧ y.name = "<init>") (hk : kd σ b = k + 1) (hn : As.length = n) (hR : fr + 1 ≤ R.frames ∧ 8 + (ny + 11) + lo ≤ R.locals)
    (hls : ls.size = nL) (hst : st0 = As.reverse ++ vr b :: rest) (hW : (rest.map fun v => v.category).sum ≤ 8) (hdg : decode cc pc = .ok (.invokespecial index, 3)) (hf : cells + (hs τ - hs σ) ≤ R.cells ∧ slots + (ns τ - ns σ) ≤ R.slots) :
    va_Run p l e R s m args below meth c H locs cells slots (hs τ - hs σ) (ns τ - ns σ) (F0 m pc ls st0) rest (QC D dA base v τ (vr b :: As).toArray) (fun q => base ≤ q) := by
  have cx' := cx
  obtain ⟨hx, hb, hml, hown, hts, -, -, -, hK, -⟩ := cx
  obtain ⟨a, rfl, -, -, -⟩ := h.1.ref hk (Nat.succ_ne_zero _)
  exact va_runIN ⟨hx, hb, hml, hown, hts⟩ hC ⟨va_cnB n hts (lg_good hM.2.1) rfl rfl rfl (hK.2.1 _ hM.1) (hts _ hM.2.2.1) hM.2.2.2 hR, hi.2, hts _ hi.1⟩ (pc_at h hK) rfl hn hls hst (lv_room (m := m) (pc := pc) (ls := ls) (rest := st0) hW) hdg hf
/-- the constructor of Object -/
theorem x_obj (cx : CX p s m args meth c cc nL rt own nm D dA base) (h : Wd D dA base σ s H locs) {index b k : Nat} (hM : Cond.methodLink own index Lib.objectInit ∈ lw_good ∧ Cond.instanceMethod Lib.objectInit ∈ lw_good ∧ Cond.code Lib.objectInit ⟨#[0xb1]⟩ 1 none ∈ lw_good) (hk : kd σ b = k + 1) (hls : ls.size = nL) (hR : 1 ≤ R.frames ∧ 20 ≤ R.locals) (hW : (rest.map fun v => v.category).sum ≤ 8) (hdg : decode cc pc = .ok (.invokespecial index, 3))
    (kk : W p l e R s m args below meth c H locs cells slots Q (F0 m (pc + 3) ls rest)) : W p l e R s m args below meth c H locs cells slots Q (F0 m pc ls (vr b :: rest)) := by
  obtain ⟨hx, hb, hml, hown, hts, -, -, -, hK, -⟩ := cx
  obtain ⟨a, rfl, -, -, -⟩ := h.1.ref hk (Nat.succ_ne_zero _)
  have hr := lv_room (m := m) (pc := pc) (ls := ls) (rest := vr (a + 1) :: rest) hW
  exact W.objInit hx hb hown (hts _ hM.1) (hts _ hM.2.1) (hts _ hM.2.2) rfl (by rw [hml]; exact hls) rfl hdg hR.1 (by omega) kk
-- ends
variable {σ0 : HS} {fr lo : Nat}
theorem x_iret {v : Int32} (cx : CX p s m args meth c cc nL (some .int) own nm D dA base) (h : Wd D dA base τ s H locs) (hdg : decode cc pc = .ok (.ireturn, 1)) :
    W p l e R s m args below meth c H locs (hs τ - hs σ0) (ns τ - ns σ0) (MQ below (QC D dA base (some (.int v)) τ) args s (hs τ - hs σ0) (ns τ - ns σ0) (fun q => base ≤ q)) (F0 m pc ls [.int v]) := by
  obtain ⟨hx, hb, hml, hown, hts, hr, hlocks, -, hK, -⟩ := cx
  exact W.iret hx hb hr (fun t ht hW => ⟨rfl, by rw [ht]; exact h.1, h.2.F ht⟩) h.2.2.2 hdg
theorem x_zret {v : Int32} (cx : CX p s m args meth c cc nL (some .boolean) own nm D dA base) (h : Wd D dA base τ s H locs) (hz : v = 0 ∨ v = 1) (hdg : decode cc pc = .ok (.ireturn, 1)) :
    W p l e R s m args below meth c H locs (hs τ - hs σ0) (ns τ - ns σ0) (MQ below (QC D dA base (some (.int v)) τ) args s (hs τ - hs σ0) (ns τ - ns σ0) (fun q => base ≤ q)) (F0 m pc ls [.int v]) := by
  obtain ⟨hx, hb, hml, hown, hts, hr, hlocks, -, hK, -⟩ := cx
  exact W.zret hx hb hr (by rcases hz with rfl | rfl <;> rfl) (fun t ht hW => ⟨rfl, by rw [ht]; exact h.1, h.2.F ht⟩) h.2.2.2 hdg
theorem x_vret (cx : CX p s m args meth c cc nL none own nm D dA base) (h : Wd D dA base τ s H locs) (hdg : decode cc pc = .ok (.return_, 1)) :
    W p l e R s m args below meth c H locs (hs τ - hs σ0) (ns τ - ns σ0) (MQ below (QC D dA base none τ) args s (hs τ - hs σ0) (ns τ - ns σ0) (fun q => base ≤ q)) (F0 m pc ls []) := by
  obtain ⟨hx, hb, hml, hown, hts, hr, hlocks, -, hK, -⟩ := cx
  exact W.vret hx hb hr (fun t ht hW => ⟨rfl, by rw [ht]; exact h.1, h.2.F ht⟩) h.2.2.2 hdg
theorem x_aret {v : Nat} {C : String} (cx : CX p s m args meth c cc nL (some (.object C)) own nm D dA base) (h : Wd D dA base τ s H locs) (hdg : decode cc pc = .ok (.areturn, 1)) :
    W p l e R s m args below meth c H locs (hs τ - hs σ0) (ns τ - ns σ0) (MQ below (QC D dA base (some (vr v)) τ) args s (hs τ - hs σ0) (ns τ - ns σ0) (fun q => base ≤ q)) (F0 m pc ls [vr v]) := by
  obtain ⟨hx, hb, hml, hown, hts, hr, hlocks, -, hK, -⟩ := cx
  exact W.aret hx hb hr (Or.inl ⟨C, rfl⟩) (vr_or v) (fun t ht hW => ⟨rfl, by rw [ht]; exact h.1, h.2.F ht⟩) h.2.2.2 hdg
end XC
end
section
section XG
variable {p : Program} {l : Launch} {e : Env} {R : Room} {s : State} {m : MethodId} {args : Array Value} {below : List Frame} {meth : Method} {c : Code} {H : Heap} {locs : List Loc} {cells slots : Nat} {Q : State → Prop}
variable {cc : ByteArray} {nL : Nat} {rt : Option FieldType} {own nm : String} {D : va_G} {dA : Nat → ClassId} {base : Nat} {pc : Nat} {ls : Array Slot} {rest st0 : List Value} {σ σ0 σ1 τ : HS} {fr lo : Nat} {a : Array Value}
abbrev inb (i : Int32) (n : Nat) : Prop := 0 ≤ i ∧ i.toNatClampNeg < n
theorem inb.vp {i : Int32} {n : Nat} (h : inb i n) : vp_in i n := fun q => by
  rcases q with q | q
  · exact absurd q (Int32.not_lt.mpr h.1)
  · exact absurd h.2 (Nat.not_lt.mpr q)
theorem x_geti (cx : CX p s m args meth c cc nL rt own nm D dA base) (h : Wd D dA base σ s H locs) {nest : Bool} {index ci k n f : Nat} {fin : Bool} (hF : FL nest own index ci k false fin) (hf : 40 * ci + k = f) (hk : kd σ n = ci + 1) (hdg : decode cc pc = .ok (.getfield index, 3))
    (kk : W p l e R s m args below meth c H locs cells slots Q (F0 m (pc + 3) ls (.int (gi σ f n) :: rest))) : W p l e R s m args below meth c H locs cells slots Q (F0 m pc ls (vr n :: rest)) := by
  subst hf
  cases nest with
  | false => exact x_get cx h hF hk hdg kk
  | true => exact x_getN cx h hF hk hdg kk
theorem x_getr (cx : CX p s m args meth c cc nL rt own nm D dA base) (h : Wd D dA base σ s H locs) {nest : Bool} {index ci k n f : Nat} {fin : Bool} (hF : FL nest own index ci k true fin) (hf : 40 * ci + k = f) (hk : kd σ n = ci + 1) (hdg : decode cc pc = .ok (.getfield index, 3))
    (kk : W p l e R s m args below meth c H locs cells slots Q (F0 m (pc + 3) ls (vr (gr σ f n) :: rest))) : W p l e R s m args below meth c H locs cells slots Q (F0 m pc ls (vr n :: rest)) := by
  subst hf
  cases nest with
  | false => exact x_get cx h hF hk hdg kk
  | true => exact x_getN cx h hF hk hdg kk
theorem x_sti (cx : CX p s m args meth c cc nL rt own nm D dA base) (h : Wd D dA base σ s H locs) {nest : Bool} {index ci k n f : Nat} {fin : Bool} {v : Int32} (hF : FL nest own index ci k false fin) (hf : 40 * ci + k = f) (hfin : fin = false ∨ (nest = false ∧ nm = "<init>" ∧ ∃ T N, vwCl[ci]? = some (own, T, N))) (hk : kd σ n = ci + 1) (hdg : decode cc pc = .ok (.putfield index, 3))
    (kk : ∀ (H1 : Heap) (locs1 : List Loc), Wd D dA base (si σ f n v) s H1 locs1 → W p l e R s m args below meth c H1 locs1 cells slots Q (F0 m (pc + 3) ls rest)) : W p l e R s m args below meth c H locs cells slots Q (F0 m pc ls (.int v :: vr n :: rest)) := by
  subst hf; exact x_puti cx h hF hfin hk hdg kk
theorem x_str (cx : CX p s m args meth c cc nL rt own nm D dA base) (h : Wd D dA base σ s H locs) {nest : Bool} {index ci k n f : Nat} {fin : Bool} {v : Nat} (hF : FL nest own index ci k true fin) (hf : 40 * ci + k = f) (hfin : fin = false ∨ (nest = false ∧ nm = "<init>" ∧ ∃ T N, vwCl[ci]? = some (own, T, N))) (hk : kd σ n = ci + 1) (hdg : decode cc pc = .ok (.putfield index, 3))
    (kk : ∀ (H1 : Heap) (locs1 : List Loc), Wd D dA base (sr σ f n v) s H1 locs1 → W p l e R s m args below meth c H1 locs1 cells slots Q (F0 m (pc + 3) ls rest)) : W p l e R s m args below meth c H locs cells slots Q (F0 m pc ls (vr v :: vr n :: rest)) := by
  subst hf; exact x_putr cx h hF hfin hk hdg kk
abbrev WG (p : Program) (l : Launch) (e : Env) (s : State) (m : MethodId) (args : Array Value) (below : List Frame) (meth : Method) (c : Code) (D : va_G) (dA : Nat → ClassId) (base fr lo : Nat) (v : Option Value) (σ0 τ σ : HS) (H : Heap) (locs : List Loc) (pc : Nat) (ls : Array Slot) (st : List Value) : Prop :=
  W p l e (RM fr lo σ0 τ) s m args below meth c H locs (hs σ - hs σ0) (ns σ - ns σ0) (MQ below (QC D dA base v τ) args s (hs τ - hs σ0) (ns τ - ns σ0) (fun q => base ≤ q)) (F0 m pc ls st)
theorem le_room (g0 : LE σ0 σ) (g1 : LE σ σ1) (g2 : LE σ1 τ) : (hs σ - hs σ0) + (hs σ1 - hs σ) ≤ (RM fr lo σ0 τ).cells ∧ (ns σ - ns σ0) + (ns σ1 - ns σ) ≤ (RM fr lo σ0 τ).slots := by
  obtain ⟨a1, a2⟩ := g0; obtain ⟨b1, b2⟩ := g1; obtain ⟨c1, c2⟩ := g2
  show _ ≤ hs τ - hs σ0 ∧ _ ≤ ns τ - ns σ0
  omega
theorem x_calli {r : Int32} (g0 : LE σ0 σ) (g1 : LE σ σ1) (hr : va_Run p l e R s m args below meth c H locs (hs σ - hs σ0) (ns σ - ns σ0) (hs σ1 - hs σ) (ns σ1 - ns σ) (F0 m pc ls st0) rest (QC D dA base (some (.int r)) σ1 a) (fun q => base ≤ q)) (h : Wd D dA base σ s H locs)
    (kk : ∀ (H1 : Heap) (locs1 : List Loc), Wd D dA base σ1 s H1 locs1 → LE σ0 σ1 → W p l e R s m args below meth c H1 locs1 (hs σ1 - hs σ0) (ns σ1 - ns σ0) Q (F0 m (pc + 3) ls (.int r :: rest))) : W p l e R s m args below meth c H locs (hs σ - hs σ0) (ns σ - ns σ0) Q (F0 m pc ls st0) := by
  refine x_call hr h fun H1 locs1 h1 => W.cs (cells' := hs σ1 - hs σ0) (slots' := ns σ1 - ns σ0) ?_ ?_ (kk H1 locs1 h1 (g0.tr g1))
  · have := g0.1; have := g1.1; omega
  · have := g0.2; have := g1.2; omega
theorem x_callr {r : Nat} (g0 : LE σ0 σ) (g1 : LE σ σ1) (hr : va_Run p l e R s m args below meth c H locs (hs σ - hs σ0) (ns σ - ns σ0) (hs σ1 - hs σ) (ns σ1 - ns σ) (F0 m pc ls st0) rest (QC D dA base (some (vr r)) σ1 a) (fun q => base ≤ q)) (h : Wd D dA base σ s H locs)
    (kk : ∀ (H1 : Heap) (locs1 : List Loc), Wd D dA base σ1 s H1 locs1 → LE σ0 σ1 → W p l e R s m args below meth c H1 locs1 (hs σ1 - hs σ0) (ns σ1 - ns σ0) Q (F0 m (pc + 3) ls (vr r :: rest))) : W p l e R s m args below meth c H locs (hs σ - hs σ0) (ns σ - ns σ0) Q (F0 m pc ls st0) := by
  refine x_call hr h fun H1 locs1 h1 => W.cs (cells' := hs σ1 - hs σ0) (slots' := ns σ1 - ns σ0) ?_ ?_ (kk H1 locs1 h1 (g0.tr g1))
  · have := g0.1; have := g1.1; omega
  · have := g0.2; have := g1.2; omega
theorem x_callv (g0 : LE σ0 σ) (g1 : LE σ σ1) (hr : va_Run p l e R s m args below meth c H locs (hs σ - hs σ0) (ns σ - ns σ0) (hs σ1 - hs σ) (ns σ1 - ns σ) (F0 m pc ls st0) rest (QC D dA base none σ1 a) (fun q => base ≤ q)) (h : Wd D dA base σ s H locs)
    (kk : ∀ (H1 : Heap) (locs1 : List Loc), Wd D dA base σ1 s H1 locs1 → LE σ0 σ1 → W p l e R s m args below meth c H1 locs1 (hs σ1 - hs σ0) (ns σ1 - ns σ0) Q (F0 m (pc + 3) ls rest)) : W p l e R s m args below meth c H locs (hs σ - hs σ0) (ns σ - ns σ0) Q (F0 m pc ls st0) := by
  refine x_call hr h fun H1 locs1 h1 => W.cs (cells' := hs σ1 - hs σ0) (slots' := ns σ1 - ns σ0) ?_ ?_ (kk H1 locs1 h1 (g0.tr g1))
  · have := g0.1; have := g1.1; omega
  · have := g0.2; have := g1.2; omega
theorem x_newG (cx : CX p s m args meth c cc nL rt own nm D dA base) (h : Wd D dA base σ s H locs) {index ci N : Nat} (g0 : LE σ0 σ) (g2 : LE (nw σ (ci + 1) N) τ) (hN : NL own index ci N) (hdg : decode cc pc = .ok (.new index, 3))
    (kk : ∀ (H1 : Heap), Wd D dA base (nw σ (ci + 1) N) s H1 locs → LE σ0 (nw σ (ci + 1) N) → W p l e (RM fr lo σ0 τ) s m args below meth c H1 locs (hs (nw σ (ci + 1) N) - hs σ0) (ns (nw σ (ci + 1) N) - ns σ0) Q (F0 m (pc + 3) ls (vr (hs σ + 1) :: rest))) : W p l e (RM fr lo σ0 τ) s m args below meth c H locs (hs σ - hs σ0) (ns σ - ns σ0) Q (F0 m pc ls rest) := by
  obtain ⟨b1, b2⟩ := g2
  have e1 : hs (nw σ (ci + 1) N) = hs σ + 1 := rfl
  have e2 : ns (nw σ (ci + 1) N) = ns σ + N := rfl
  have a1 := g0.1; have a2 := g0.2
  refine x_new cx h hN (by show _ ≤ hs τ - hs σ0; omega) (by show _ ≤ ns τ - ns σ0; omega) hdg fun H1 h1 => W.cs ?_ ?_ (kk H1 h1 (g0.tr LE.nw))
  · omega
  · omega
theorem x_newaG (cx : CX p s m args meth c cc nL rt own nm D dA base) (h : Wd D dA base σ s H locs) {j : Nat} {n : Int32} {N : Nat} {aty : ArrayType} {ty : FieldType} (g0 : LE σ0 σ) (g2 : LE (nw σ (100 + j) N) τ) (hty : newarray.typeOf aty = ty) (hj : (j = 0 ∧ ty = .int) ∨ (j = 1 ∧ ty = .boolean)) (hw : Cond.arrayClass ty ∈ lw_good) (hn : ¬ n < 0) (hN : n.toNatClampNeg = N) (hb4 : N ≤ 100000) (hdg : decode cc pc = .ok (.newarray aty, 2))
    (kk : ∀ (H1 : Heap), Wd D dA base (nw σ (100 + j) N) s H1 locs → LE σ0 (nw σ (100 + j) N) → W p l e (RM fr lo σ0 τ) s m args below meth c H1 locs (hs (nw σ (100 + j) N) - hs σ0) (ns (nw σ (100 + j) N) - ns σ0) Q (F0 m (pc + 2) ls (vr (hs σ + 1) :: rest))) : W p l e (RM fr lo σ0 τ) s m args below meth c H locs (hs σ - hs σ0) (ns σ - ns σ0) Q (F0 m pc ls (.int n :: rest)) := by
  obtain ⟨b1, b2⟩ := g2
  have e1 : hs (nw σ (100 + j) N) = hs σ + 1 := rfl
  have e2 : ns (nw σ (100 + j) N) = ns σ + N := rfl
  have a1 := g0.1; have a2 := g0.2
  refine x_newa cx h hty hj hw hn hN hb4 (by show _ ≤ hs τ - hs σ0; omega) (by show _ ≤ ns τ - ns σ0; omega) hdg fun H1 h1 => W.cs ?_ ?_ (kk H1 h1 (g0.tr LE.nw))
  · omega
  · omega
theorem x_newqG (cx : CX p s m args meth c cc nL rt own nm D dA base) (h : Wd D dA base σ s H locs) {j index : Nat} {n : Int32} {N : Nat} {C : String} (g0 : LE σ0 σ) (g2 : LE (nw σ (100 + j) N) τ) (hj : 2 ≤ j) (hC : ∀ dA, (tysA dA)[j]? = some (dA j, .object C)) (hov : ∀ U, KK D dA U → va_AO C U) (hw : Cond.classLink own index C ∈ lw_good) (hn : ¬ n < 0) (hN : n.toNatClampNeg = N) (hb4 : N ≤ 100000) (hdg : decode cc pc = .ok (.anewarray index, 3))
    (kk : ∀ (H1 : Heap), Wd D dA base (nw σ (100 + j) N) s H1 locs → LE σ0 (nw σ (100 + j) N) → W p l e (RM fr lo σ0 τ) s m args below meth c H1 locs (hs (nw σ (100 + j) N) - hs σ0) (ns (nw σ (100 + j) N) - ns σ0) Q (F0 m (pc + 3) ls (vr (hs σ + 1) :: rest))) : W p l e (RM fr lo σ0 τ) s m args below meth c H locs (hs σ - hs σ0) (ns σ - ns σ0) Q (F0 m pc ls (.int n :: rest)) := by
  obtain ⟨b1, b2⟩ := g2
  have e1 : hs (nw σ (100 + j) N) = hs σ + 1 := rfl
  have e2 : ns (nw σ (100 + j) N) = ns σ + N := rfl
  have a1 := g0.1; have a2 := g0.2
  refine x_newq (ci := 0) cx h hj hC hov hw hn hN hb4 (by show _ ≤ hs τ - hs σ0; omega) (by show _ ≤ ns τ - ns σ0; omega) hdg fun H1 h1 => W.cs ?_ ?_ (kk H1 h1 (g0.tr LE.nw))
  · omega
  · omega
end XG
-- categories of values, of locals, of the stack
theorem vN : ∀ v ∈ ([] : List Value), v.category = 1 := fun _ h => by cases h
theorem vI {x : Int32} {t : List Value} (h : ∀ v ∈ t, v.category = 1) : ∀ v ∈ (Value.int x :: t), v.category = 1 := fun v hv => by
  rcases List.mem_cons.mp hv with rfl | hv
  · rfl
  · exact h v hv
theorem vR {x : Nat} {t : List Value} (h : ∀ v ∈ t, v.category = 1) : ∀ v ∈ (vr x :: t), v.category = 1 := fun v hv => by
  rcases List.mem_cons.mp hv with rfl | hv
  · exact vr_cat x
  · exact h v hv
theorem cN : ∀ q ∈ ([] : List (Nat × Value)), q.2.category = 1 := fun _ h => by cases h
theorem cI {i : Nat} {x : Int32} {t : List (Nat × Value)} (h : ∀ q ∈ t, q.2.category = 1) : ∀ q ∈ ((i, Value.int x) :: t), q.2.category = 1 := fun v hv => by
  rcases List.mem_cons.mp hv with rfl | hv
  · rfl
  · exact h v hv
theorem cR {i : Nat} {x : Nat} {t : List (Nat × Value)} (h : ∀ q ∈ t, q.2.category = 1) : ∀ q ∈ ((i, vr x) :: t), q.2.category = 1 := fun v hv => by
  rcases List.mem_cons.mp hv with rfl | hv
  · exact vr_cat x
  · exact h v hv
def SC (t : List Value) (n : Nat) : Prop := (t.map fun v => v.category).sum = n
theorem sN : SC [] 0 := rfl
theorem sI {x : Int32} {t : List Value} {n : Nat} (h : SC t n) : SC (Value.int x :: t) (n + 1) := by
  have h : (t.map fun v => v.category).sum = n := h
  show ((Value.int x :: t).map fun v => v.category).sum = n + 1
  rw [List.map_cons, List.sum_cons, h]; exact Nat.add_comm 1 n
theorem sR {x : Nat} {t : List Value} {n : Nat} (h : SC t n) : SC (vr x :: t) (n + 1) := by
  have h : (t.map fun v => v.category).sum = n := h
  show ((vr x :: t).map fun v => v.category).sum = n + 1
  rw [List.map_cons, List.sum_cons, h, vr_cat]; exact Nat.add_comm 1 n
theorem s8 {t : List Value} {n : Nat} (h : SC t n) (hn : n ≤ 8) : (t.map fun v => v.category).sum ≤ 8 := by
  have h : (t.map fun v => v.category).sum = n := h
  rw [h]; exact hn
theorem lg_list {ws : List Cond} (ps : List Nat) (hp : ws = ps.filterMap (fun i => lw_tbl[i]?)) (h : ws.all goodWord = true) : ∀ w ∈ ws, w ∈ lw_good := by
  intro w hw
  have h1 := List.all_eq_true.mp h w hw
  rw [hp] at hw
  obtain ⟨i, -, hi⟩ := List.mem_filterMap.mp hw
  exact lg_mem i hi h1
def NF : Nat := 100000
end
section
theorem inG0 : ∀ w ∈ wsX00, w ∈ lw_good := lg_list [83, 85, 87, 89, 91] (by decide +kernel) (by decide +kernel)
theorem inG1 : ∀ w ∈ wsX10, w ∈ lw_good := lg_list [309, 311, 313] (by decide +kernel) (by decide +kernel)
theorem inG2 : ∀ w ∈ wsX20, w ∈ lw_good := lg_list [130, 132, 134] (by decide +kernel) (by decide +kernel)
theorem inG3 : ∀ w ∈ wsX30, w ∈ lw_good := lg_list [106, 108, 110, 112, 114, 116] (by decide +kernel) (by decide +kernel)
theorem inG4 : ∀ w ∈ wsX40, w ∈ lw_good := lg_list [164, 166, 168, 170, 172, 174, 176, 178, 180, 182] (by decide +kernel) (by decide +kernel)
theorem inG5 : ∀ w ∈ wsX50, w ∈ lw_good := lg_list [192, 194, 196, 198, 200, 202] (by decide +kernel) (by decide +kernel)
theorem inG6 : ∀ w ∈ wsX60, w ∈ lw_good := lg_list [536, 538, 540, 542, 544, 546, 548, 550, 552, 554, 556, 558, 560, 562, 564, 566, 568, 570, 572, 574, 576, 578, 580, 582, 584, 586, 588, 590, 592, 594, 596, 598] (by decide +kernel) (by decide +kernel)
theorem fa_X3_20 : FL true RX3 20 0 0 true false := ⟨RX0, TX0, 5, tyX0, rfl, by decide, by decide, rfl, inG0, tyX0_ok, nmX0, rfl, rfl, (by rw [if_pos rfl]; exact Or.inl ⟨_, rfl⟩), (by rw [if_pos rfl]; exact nk_mem 69 (by decide +kernel) (by decide))⟩
theorem fa_X0_15 : FL false RX0 15 0 0 true false := ⟨RX0, TX0, 5, tyX0, rfl, by decide, by decide, rfl, inG0, tyX0_ok, nmX0, rfl, rfl, (by rw [if_pos rfl]; exact Or.inl ⟨_, rfl⟩), (by rw [if_neg (by decide)]; exact lg_mem 70 (by decide +kernel) (by decide))⟩
theorem fa_X5_176 : FL true RX5 176 0 0 true false := ⟨RX0, TX0, 5, tyX0, rfl, by decide, by decide, rfl, inG0, tyX0_ok, nmX0, rfl, rfl, (by rw [if_pos rfl]; exact Or.inl ⟨_, rfl⟩), (by rw [if_pos rfl]; exact nk_mem 71 (by decide +kernel) (by decide))⟩
theorem fa_X0_28 : FL false RX0 28 0 1 true false := ⟨RX0, TX0, 5, tyX0, rfl, by decide, by decide, rfl, inG0, tyX0_ok, nmX0, rfl, rfl, (by rw [if_pos rfl]; exact Or.inl ⟨_, rfl⟩), (by rw [if_neg (by decide)]; exact lg_mem 72 (by decide +kernel) (by decide))⟩
theorem fa_X3_39 : FL true RX3 39 0 1 true false := ⟨RX0, TX0, 5, tyX0, rfl, by decide, by decide, rfl, inG0, tyX0_ok, nmX0, rfl, rfl, (by rw [if_pos rfl]; exact Or.inl ⟨_, rfl⟩), (by rw [if_pos rfl]; exact nk_mem 73 (by decide +kernel) (by decide))⟩
theorem fa_X5_153 : FL true RX5 153 0 1 true false := ⟨RX0, TX0, 5, tyX0, rfl, by decide, by decide, rfl, inG0, tyX0_ok, nmX0, rfl, rfl, (by rw [if_pos rfl]; exact Or.inl ⟨_, rfl⟩), (by rw [if_pos rfl]; exact nk_mem 74 (by decide +kernel) (by decide))⟩
theorem fa_X0_9 : FL false RX0 9 0 2 false false := ⟨RX0, TX0, 5, tyX0, rfl, by decide, by decide, rfl, inG0, tyX0_ok, nmX0, rfl, rfl, (by rw [if_neg (by decide)]; rfl), (by rw [if_neg (by decide)]; exact lg_mem 75 (by decide +kernel) (by decide))⟩
theorem fa_X3_42 : FL true RX3 42 0 2 false false := ⟨RX0, TX0, 5, tyX0, rfl, by decide, by decide, rfl, inG0, tyX0_ok, nmX0, rfl, rfl, (by rw [if_neg (by decide)]; rfl), (by rw [if_pos rfl]; exact nk_mem 76 (by decide +kernel) (by decide))⟩
theorem fa_X4_51 : FL true RX4 51 0 2 false false := ⟨RX0, TX0, 5, tyX0, rfl, by decide, by decide, rfl, inG0, tyX0_ok, nmX0, rfl, rfl, (by rw [if_neg (by decide)]; rfl), (by rw [if_pos rfl]; exact nk_mem 77 (by decide +kernel) (by decide))⟩
theorem fa_X5_131 : FL true RX5 131 0 2 false false := ⟨RX0, TX0, 5, tyX0, rfl, by decide, by decide, rfl, inG0, tyX0_ok, nmX0, rfl, rfl, (by rw [if_neg (by decide)]; rfl), (by rw [if_pos rfl]; exact nk_mem 78 (by decide +kernel) (by decide))⟩
theorem fa_X3_46 : FL true RX3 46 0 3 false false := ⟨RX0, TX0, 5, tyX0, rfl, by decide, by decide, rfl, inG0, tyX0_ok, nmX0, rfl, rfl, (by rw [if_neg (by decide)]; rfl), (by rw [if_pos rfl]; exact nk_mem 79 (by decide +kernel) (by decide))⟩
theorem fa_X5_136 : FL true RX5 136 0 3 false false := ⟨RX0, TX0, 5, tyX0, rfl, by decide, by decide, rfl, inG0, tyX0_ok, nmX0, rfl, rfl, (by rw [if_neg (by decide)]; rfl), (by rw [if_pos rfl]; exact nk_mem 80 (by decide +kernel) (by decide))⟩
theorem fa_X3_49 : FL true RX3 49 0 4 false false := ⟨RX0, TX0, 5, tyX0, rfl, by decide, by decide, rfl, inG0, tyX0_ok, nmX0, rfl, rfl, (by rw [if_neg (by decide)]; rfl), (by rw [if_pos rfl]; exact nk_mem 81 (by decide +kernel) (by decide))⟩
theorem fa_X5_139 : FL true RX5 139 0 4 false false := ⟨RX0, TX0, 5, tyX0, rfl, by decide, by decide, rfl, inG0, tyX0_ok, nmX0, rfl, rfl, (by rw [if_neg (by decide)]; rfl), (by rw [if_pos rfl]; exact nk_mem 82 (by decide +kernel) (by decide))⟩
theorem fa_X3_11 : FL false RX3 11 3 0 true true := ⟨RX3, TX3, 6, tyX3, rfl, by decide, by decide, rfl, inG3, tyX3_ok, nmX3, rfl, rfl, (by rw [if_pos rfl]; exact Or.inr ⟨_, rfl⟩), (by rw [if_neg (by decide)]; exact lg_mem 94 (by decide +kernel) (by decide))⟩
theorem fa_X5_127 : FL true RX5 127 3 0 true true := ⟨RX3, TX3, 6, tyX3, rfl, by decide, by decide, rfl, inG3, tyX3_ok, nmX3, rfl, rfl, (by rw [if_pos rfl]; exact Or.inr ⟨_, rfl⟩), (by rw [if_pos rfl]; exact nk_mem 95 (by decide +kernel) (by decide))⟩
theorem fa_X3_52 : FL false RX3 52 3 1 false false := ⟨RX3, TX3, 6, tyX3, rfl, by decide, by decide, rfl, inG3, tyX3_ok, nmX3, rfl, rfl, (by rw [if_neg (by decide)]; rfl), (by rw [if_neg (by decide)]; exact lg_mem 96 (by decide +kernel) (by decide))⟩
theorem fa_X5_182 : FL true RX5 182 3 1 false false := ⟨RX3, TX3, 6, tyX3, rfl, by decide, by decide, rfl, inG3, tyX3_ok, nmX3, rfl, rfl, (by rw [if_neg (by decide)]; rfl), (by rw [if_pos rfl]; exact nk_mem 97 (by decide +kernel) (by decide))⟩
theorem fa_X3_55 : FL false RX3 55 3 2 false false := ⟨RX3, TX3, 6, tyX3, rfl, by decide, by decide, rfl, inG3, tyX3_ok, nmX3, rfl, rfl, (by rw [if_neg (by decide)]; rfl), (by rw [if_neg (by decide)]; exact lg_mem 98 (by decide +kernel) (by decide))⟩
theorem fa_X5_102 : FL true RX5 102 3 2 false false := ⟨RX3, TX3, 6, tyX3, rfl, by decide, by decide, rfl, inG3, tyX3_ok, nmX3, rfl, rfl, (by rw [if_neg (by decide)]; rfl), (by rw [if_pos rfl]; exact nk_mem 99 (by decide +kernel) (by decide))⟩
theorem fa_X3_58 : FL false RX3 58 3 3 false false := ⟨RX3, TX3, 6, tyX3, rfl, by decide, by decide, rfl, inG3, tyX3_ok, nmX3, rfl, rfl, (by rw [if_neg (by decide)]; rfl), (by rw [if_neg (by decide)]; exact lg_mem 100 (by decide +kernel) (by decide))⟩
theorem fa_X5_185 : FL true RX5 185 3 3 false false := ⟨RX3, TX3, 6, tyX3, rfl, by decide, by decide, rfl, inG3, tyX3_ok, nmX3, rfl, rfl, (by rw [if_neg (by decide)]; rfl), (by rw [if_pos rfl]; exact nk_mem 101 (by decide +kernel) (by decide))⟩
theorem fa_X3_61 : FL false RX3 61 3 4 false false := ⟨RX3, TX3, 6, tyX3, rfl, by decide, by decide, rfl, inG3, tyX3_ok, nmX3, rfl, rfl, (by rw [if_neg (by decide)]; rfl), (by rw [if_neg (by decide)]; exact lg_mem 102 (by decide +kernel) (by decide))⟩
theorem fa_X5_188 : FL true RX5 188 3 4 false false := ⟨RX3, TX3, 6, tyX3, rfl, by decide, by decide, rfl, inG3, tyX3_ok, nmX3, rfl, rfl, (by rw [if_neg (by decide)]; rfl), (by rw [if_pos rfl]; exact nk_mem 103 (by decide +kernel) (by decide))⟩
theorem fa_X3_64 : FL false RX3 64 3 5 false false := ⟨RX3, TX3, 6, tyX3, rfl, by decide, by decide, rfl, inG3, tyX3_ok, nmX3, rfl, rfl, (by rw [if_neg (by decide)]; rfl), (by rw [if_neg (by decide)]; exact lg_mem 104 (by decide +kernel) (by decide))⟩
theorem fa_X5_194 : FL true RX5 194 3 5 false false := ⟨RX3, TX3, 6, tyX3, rfl, by decide, by decide, rfl, inG3, tyX3_ok, nmX3, rfl, rfl, (by rw [if_neg (by decide)]; rfl), (by rw [if_pos rfl]; exact nk_mem 105 (by decide +kernel) (by decide))⟩
theorem fa_X2_18 : FL false RX2 18 2 0 false false := ⟨RX2, TX2, 3, tyX2, rfl, by decide, by decide, rfl, inG2, tyX2_ok, nmX2, rfl, rfl, (by rw [if_neg (by decide)]; rfl), (by rw [if_neg (by decide)]; exact lg_mem 125 (by decide +kernel) (by decide))⟩
theorem fa_X5_105 : FL true RX5 105 2 0 false false := ⟨RX2, TX2, 3, tyX2, rfl, by decide, by decide, rfl, inG2, tyX2_ok, nmX2, rfl, rfl, (by rw [if_neg (by decide)]; rfl), (by rw [if_pos rfl]; exact nk_mem 126 (by decide +kernel) (by decide))⟩
theorem fa_X2_9 : FL false RX2 9 2 1 false false := ⟨RX2, TX2, 3, tyX2, rfl, by decide, by decide, rfl, inG2, tyX2_ok, nmX2, rfl, rfl, (by rw [if_neg (by decide)]; rfl), (by rw [if_neg (by decide)]; exact lg_mem 127 (by decide +kernel) (by decide))⟩
theorem fa_X2_15 : FL false RX2 15 2 2 false false := ⟨RX2, TX2, 3, tyX2, rfl, by decide, by decide, rfl, inG2, tyX2_ok, nmX2, rfl, rfl, (by rw [if_neg (by decide)]; rfl), (by rw [if_neg (by decide)]; exact lg_mem 128 (by decide +kernel) (by decide))⟩
theorem fa_X5_179 : FL true RX5 179 2 2 false false := ⟨RX2, TX2, 3, tyX2, rfl, by decide, by decide, rfl, inG2, tyX2_ok, nmX2, rfl, rfl, (by rw [if_neg (by decide)]; rfl), (by rw [if_pos rfl]; exact nk_mem 129 (by decide +kernel) (by decide))⟩
theorem fa_X4_21 : FL false RX4 21 4 0 false false := ⟨RX4, TX4, 10, tyX4, rfl, by decide, by decide, rfl, inG4, tyX4_ok, nmX4, rfl, rfl, (by rw [if_neg (by decide)]; rfl), (by rw [if_neg (by decide)]; exact lg_mem 144 (by decide +kernel) (by decide))⟩
theorem fa_X5_38 : FL true RX5 38 4 0 false false := ⟨RX4, TX4, 10, tyX4, rfl, by decide, by decide, rfl, inG4, tyX4_ok, nmX4, rfl, rfl, (by rw [if_neg (by decide)]; rfl), (by rw [if_pos rfl]; exact nk_mem 145 (by decide +kernel) (by decide))⟩
theorem fa_X4_25 : FL false RX4 25 4 1 false false := ⟨RX4, TX4, 10, tyX4, rfl, by decide, by decide, rfl, inG4, tyX4_ok, nmX4, rfl, rfl, (by rw [if_neg (by decide)]; rfl), (by rw [if_neg (by decide)]; exact lg_mem 146 (by decide +kernel) (by decide))⟩
theorem fa_X5_56 : FL true RX5 56 4 1 false false := ⟨RX4, TX4, 10, tyX4, rfl, by decide, by decide, rfl, inG4, tyX4_ok, nmX4, rfl, rfl, (by rw [if_neg (by decide)]; rfl), (by rw [if_pos rfl]; exact nk_mem 147 (by decide +kernel) (by decide))⟩
theorem fa_X4_28 : FL false RX4 28 4 2 false false := ⟨RX4, TX4, 10, tyX4, rfl, by decide, by decide, rfl, inG4, tyX4_ok, nmX4, rfl, rfl, (by rw [if_neg (by decide)]; rfl), (by rw [if_neg (by decide)]; exact lg_mem 148 (by decide +kernel) (by decide))⟩
theorem fa_X5_118 : FL true RX5 118 4 2 false false := ⟨RX4, TX4, 10, tyX4, rfl, by decide, by decide, rfl, inG4, tyX4_ok, nmX4, rfl, rfl, (by rw [if_neg (by decide)]; rfl), (by rw [if_pos rfl]; exact nk_mem 149 (by decide +kernel) (by decide))⟩
theorem fa_X4_31 : FL false RX4 31 4 3 false false := ⟨RX4, TX4, 10, tyX4, rfl, by decide, by decide, rfl, inG4, tyX4_ok, nmX4, rfl, rfl, (by rw [if_neg (by decide)]; rfl), (by rw [if_neg (by decide)]; exact lg_mem 150 (by decide +kernel) (by decide))⟩
theorem fa_X5_124 : FL true RX5 124 4 3 false false := ⟨RX4, TX4, 10, tyX4, rfl, by decide, by decide, rfl, inG4, tyX4_ok, nmX4, rfl, rfl, (by rw [if_neg (by decide)]; rfl), (by rw [if_pos rfl]; exact nk_mem 151 (by decide +kernel) (by decide))⟩
theorem fa_X4_34 : FL false RX4 34 4 4 false false := ⟨RX4, TX4, 10, tyX4, rfl, by decide, by decide, rfl, inG4, tyX4_ok, nmX4, rfl, rfl, (by rw [if_neg (by decide)]; rfl), (by rw [if_neg (by decide)]; exact lg_mem 152 (by decide +kernel) (by decide))⟩
theorem fa_X5_83 : FL true RX5 83 4 4 false false := ⟨RX4, TX4, 10, tyX4, rfl, by decide, by decide, rfl, inG4, tyX4_ok, nmX4, rfl, rfl, (by rw [if_neg (by decide)]; rfl), (by rw [if_pos rfl]; exact nk_mem 153 (by decide +kernel) (by decide))⟩
theorem fa_X4_9 : FL false RX4 9 4 5 true true := ⟨RX4, TX4, 10, tyX4, rfl, by decide, by decide, rfl, inG4, tyX4_ok, nmX4, rfl, rfl, (by rw [if_pos rfl]; exact Or.inr ⟨_, rfl⟩), (by rw [if_neg (by decide)]; exact lg_mem 154 (by decide +kernel) (by decide))⟩
theorem fa_X5_239 : FL true RX5 239 4 5 true true := ⟨RX4, TX4, 10, tyX4, rfl, by decide, by decide, rfl, inG4, tyX4_ok, nmX4, rfl, rfl, (by rw [if_pos rfl]; exact Or.inr ⟨_, rfl⟩), (by rw [if_pos rfl]; exact nk_mem 155 (by decide +kernel) (by decide))⟩
theorem fa_X4_15 : FL false RX4 15 4 6 true true := ⟨RX4, TX4, 10, tyX4, rfl, by decide, by decide, rfl, inG4, tyX4_ok, nmX4, rfl, rfl, (by rw [if_pos rfl]; exact Or.inr ⟨_, rfl⟩), (by rw [if_neg (by decide)]; exact lg_mem 156 (by decide +kernel) (by decide))⟩
theorem fa_X5_201 : FL true RX5 201 4 6 true true := ⟨RX4, TX4, 10, tyX4, rfl, by decide, by decide, rfl, inG4, tyX4_ok, nmX4, rfl, rfl, (by rw [if_pos rfl]; exact Or.inr ⟨_, rfl⟩), (by rw [if_pos rfl]; exact nk_mem 157 (by decide +kernel) (by decide))⟩
theorem fa_X4_37 : FL false RX4 37 4 7 false false := ⟨RX4, TX4, 10, tyX4, rfl, by decide, by decide, rfl, inG4, tyX4_ok, nmX4, rfl, rfl, (by rw [if_neg (by decide)]; rfl), (by rw [if_neg (by decide)]; exact lg_mem 158 (by decide +kernel) (by decide))⟩
theorem fa_X5_214 : FL true RX5 214 4 7 false false := ⟨RX4, TX4, 10, tyX4, rfl, by decide, by decide, rfl, inG4, tyX4_ok, nmX4, rfl, rfl, (by rw [if_neg (by decide)]; rfl), (by rw [if_pos rfl]; exact nk_mem 159 (by decide +kernel) (by decide))⟩
theorem fa_X4_18 : FL false RX4 18 4 8 true true := ⟨RX4, TX4, 10, tyX4, rfl, by decide, by decide, rfl, inG4, tyX4_ok, nmX4, rfl, rfl, (by rw [if_pos rfl]; exact Or.inr ⟨_, rfl⟩), (by rw [if_neg (by decide)]; exact lg_mem 160 (by decide +kernel) (by decide))⟩
theorem fa_X5_229 : FL true RX5 229 4 8 true true := ⟨RX4, TX4, 10, tyX4, rfl, by decide, by decide, rfl, inG4, tyX4_ok, nmX4, rfl, rfl, (by rw [if_pos rfl]; exact Or.inr ⟨_, rfl⟩), (by rw [if_pos rfl]; exact nk_mem 161 (by decide +kernel) (by decide))⟩
theorem fa_X4_40 : FL false RX4 40 4 9 false false := ⟨RX4, TX4, 10, tyX4, rfl, by decide, by decide, rfl, inG4, tyX4_ok, nmX4, rfl, rfl, (by rw [if_neg (by decide)]; rfl), (by rw [if_neg (by decide)]; exact lg_mem 162 (by decide +kernel) (by decide))⟩
theorem fa_X5_121 : FL true RX5 121 4 9 false false := ⟨RX4, TX4, 10, tyX4, rfl, by decide, by decide, rfl, inG4, tyX4_ok, nmX4, rfl, rfl, (by rw [if_neg (by decide)]; rfl), (by rw [if_pos rfl]; exact nk_mem 163 (by decide +kernel) (by decide))⟩
theorem fa_X5_10 : FL false RX5 10 5 0 true true := ⟨RX5, TX5, 6, tyX5, rfl, by decide, by decide, rfl, inG5, tyX5_ok, nmX5, rfl, rfl, (by rw [if_pos rfl]; exact Or.inl ⟨_, rfl⟩), (by rw [if_neg (by decide)]; exact lg_mem 186 (by decide +kernel) (by decide))⟩
theorem fa_X5_19 : FL false RX5 19 5 1 true true := ⟨RX5, TX5, 6, tyX5, rfl, by decide, by decide, rfl, inG5, tyX5_ok, nmX5, rfl, rfl, (by rw [if_pos rfl]; exact Or.inl ⟨_, rfl⟩), (by rw [if_neg (by decide)]; exact lg_mem 187 (by decide +kernel) (by decide))⟩
theorem fa_X5_25 : FL false RX5 25 5 2 true true := ⟨RX5, TX5, 6, tyX5, rfl, by decide, by decide, rfl, inG5, tyX5_ok, nmX5, rfl, rfl, (by rw [if_pos rfl]; exact Or.inr ⟨_, rfl⟩), (by rw [if_neg (by decide)]; exact lg_mem 188 (by decide +kernel) (by decide))⟩
theorem fa_X5_41 : FL false RX5 41 5 3 false false := ⟨RX5, TX5, 6, tyX5, rfl, by decide, by decide, rfl, inG5, tyX5_ok, nmX5, rfl, rfl, (by rw [if_neg (by decide)]; rfl), (by rw [if_neg (by decide)]; exact lg_mem 189 (by decide +kernel) (by decide))⟩
theorem fa_X5_30 : FL false RX5 30 5 4 false false := ⟨RX5, TX5, 6, tyX5, rfl, by decide, by decide, rfl, inG5, tyX5_ok, nmX5, rfl, rfl, (by rw [if_neg (by decide)]; rfl), (by rw [if_neg (by decide)]; exact lg_mem 190 (by decide +kernel) (by decide))⟩
theorem fa_X5_191 : FL false RX5 191 5 5 false false := ⟨RX5, TX5, 6, tyX5, rfl, by decide, by decide, rfl, inG5, tyX5_ok, nmX5, rfl, rfl, (by rw [if_neg (by decide)]; rfl), (by rw [if_neg (by decide)]; exact lg_mem 191 (by decide +kernel) (by decide))⟩
theorem fa_X1_7 : FL false RX1 7 1 0 false true := ⟨RX1, TX1, 3, tyX1, rfl, by decide, by decide, rfl, inG1, tyX1_ok, nmX1, rfl, rfl, (by rw [if_neg (by decide)]; rfl), (by rw [if_neg (by decide)]; exact lg_mem 298 (by decide +kernel) (by decide))⟩
theorem fa_X0_31 : FL true RX0 31 1 0 false true := ⟨RX1, TX1, 3, tyX1, rfl, by decide, by decide, rfl, inG1, tyX1_ok, nmX1, rfl, rfl, (by rw [if_neg (by decide)]; rfl), (by rw [if_pos rfl]; exact nk_mem 299 (by decide +kernel) (by decide))⟩
theorem fa_X3_78 : FL true RX3 78 1 0 false true := ⟨RX1, TX1, 3, tyX1, rfl, by decide, by decide, rfl, inG1, tyX1_ok, nmX1, rfl, rfl, (by rw [if_neg (by decide)]; rfl), (by rw [if_pos rfl]; exact nk_mem 300 (by decide +kernel) (by decide))⟩
theorem fa_X5_167 : FL true RX5 167 1 0 false true := ⟨RX1, TX1, 3, tyX1, rfl, by decide, by decide, rfl, inG1, tyX1_ok, nmX1, rfl, rfl, (by rw [if_neg (by decide)]; rfl), (by rw [if_pos rfl]; exact nk_mem 301 (by decide +kernel) (by decide))⟩
theorem fa_X1_13 : FL false RX1 13 1 1 false true := ⟨RX1, TX1, 3, tyX1, rfl, by decide, by decide, rfl, inG1, tyX1_ok, nmX1, rfl, rfl, (by rw [if_neg (by decide)]; rfl), (by rw [if_neg (by decide)]; exact lg_mem 302 (by decide +kernel) (by decide))⟩
theorem fa_X0_25 : FL true RX0 25 1 1 false true := ⟨RX1, TX1, 3, tyX1, rfl, by decide, by decide, rfl, inG1, tyX1_ok, nmX1, rfl, rfl, (by rw [if_neg (by decide)]; rfl), (by rw [if_pos rfl]; exact nk_mem 303 (by decide +kernel) (by decide))⟩
theorem fa_X3_100 : FL true RX3 100 1 1 false true := ⟨RX1, TX1, 3, tyX1, rfl, by decide, by decide, rfl, inG1, tyX1_ok, nmX1, rfl, rfl, (by rw [if_neg (by decide)]; rfl), (by rw [if_pos rfl]; exact nk_mem 304 (by decide +kernel) (by decide))⟩
theorem fa_X5_170 : FL true RX5 170 1 1 false true := ⟨RX1, TX1, 3, tyX1, rfl, by decide, by decide, rfl, inG1, tyX1_ok, nmX1, rfl, rfl, (by rw [if_neg (by decide)]; rfl), (by rw [if_pos rfl]; exact nk_mem 305 (by decide +kernel) (by decide))⟩
theorem fa_X1_16 : FL false RX1 16 1 2 true false := ⟨RX1, TX1, 3, tyX1, rfl, by decide, by decide, rfl, inG1, tyX1_ok, nmX1, rfl, rfl, (by rw [if_pos rfl]; exact Or.inl ⟨_, rfl⟩), (by rw [if_neg (by decide)]; exact lg_mem 306 (by decide +kernel) (by decide))⟩
theorem fa_X0_38 : FL true RX0 38 1 2 true false := ⟨RX1, TX1, 3, tyX1, rfl, by decide, by decide, rfl, inG1, tyX1_ok, nmX1, rfl, rfl, (by rw [if_pos rfl]; exact Or.inl ⟨_, rfl⟩), (by rw [if_pos rfl]; exact nk_mem 307 (by decide +kernel) (by decide))⟩
theorem fa_X3_111 : FL true RX3 111 1 2 true false := ⟨RX1, TX1, 3, tyX1, rfl, by decide, by decide, rfl, inG1, tyX1_ok, nmX1, rfl, rfl, (by rw [if_pos rfl]; exact Or.inl ⟨_, rfl⟩), (by rw [if_pos rfl]; exact nk_mem 308 (by decide +kernel) (by decide))⟩
theorem fa_X6_75 : FL false RX6 75 6 0 false false := ⟨RX6, TX6, 32, tyX6, rfl, by decide, by decide, rfl, inG6, tyX6_ok, nmX6, rfl, rfl, (by rw [if_neg (by decide)]; rfl), (by rw [if_neg (by decide)]; exact lg_mem 504 (by decide +kernel) (by decide))⟩
theorem fa_X6_103 : FL false RX6 103 6 1 false false := ⟨RX6, TX6, 32, tyX6, rfl, by decide, by decide, rfl, inG6, tyX6_ok, nmX6, rfl, rfl, (by rw [if_neg (by decide)]; rfl), (by rw [if_neg (by decide)]; exact lg_mem 505 (by decide +kernel) (by decide))⟩
theorem fa_X6_7 : FL false RX6 7 6 2 false false := ⟨RX6, TX6, 32, tyX6, rfl, by decide, by decide, rfl, inG6, tyX6_ok, nmX6, rfl, rfl, (by rw [if_neg (by decide)]; rfl), (by rw [if_neg (by decide)]; exact lg_mem 506 (by decide +kernel) (by decide))⟩
theorem fa_X6_13 : FL false RX6 13 6 3 false false := ⟨RX6, TX6, 32, tyX6, rfl, by decide, by decide, rfl, inG6, tyX6_ok, nmX6, rfl, rfl, (by rw [if_neg (by decide)]; rfl), (by rw [if_neg (by decide)]; exact lg_mem 507 (by decide +kernel) (by decide))⟩
theorem fa_X6_96 : FL false RX6 96 6 4 false false := ⟨RX6, TX6, 32, tyX6, rfl, by decide, by decide, rfl, inG6, tyX6_ok, nmX6, rfl, rfl, (by rw [if_neg (by decide)]; rfl), (by rw [if_neg (by decide)]; exact lg_mem 508 (by decide +kernel) (by decide))⟩
theorem fa_X6_93 : FL false RX6 93 6 5 false false := ⟨RX6, TX6, 32, tyX6, rfl, by decide, by decide, rfl, inG6, tyX6_ok, nmX6, rfl, rfl, (by rw [if_neg (by decide)]; rfl), (by rw [if_neg (by decide)]; exact lg_mem 509 (by decide +kernel) (by decide))⟩
theorem fa_X6_78 : FL false RX6 78 6 6 false false := ⟨RX6, TX6, 32, tyX6, rfl, by decide, by decide, rfl, inG6, tyX6_ok, nmX6, rfl, rfl, (by rw [if_neg (by decide)]; rfl), (by rw [if_neg (by decide)]; exact lg_mem 510 (by decide +kernel) (by decide))⟩
theorem fa_X6_16 : FL false RX6 16 6 7 true true := ⟨RX6, TX6, 32, tyX6, rfl, by decide, by decide, rfl, inG6, tyX6_ok, nmX6, rfl, rfl, (by rw [if_pos rfl]; exact Or.inr ⟨_, rfl⟩), (by rw [if_neg (by decide)]; exact lg_mem 511 (by decide +kernel) (by decide))⟩
theorem fa_X6_20 : FL false RX6 20 6 8 true true := ⟨RX6, TX6, 32, tyX6, rfl, by decide, by decide, rfl, inG6, tyX6_ok, nmX6, rfl, rfl, (by rw [if_pos rfl]; exact Or.inr ⟨_, rfl⟩), (by rw [if_neg (by decide)]; exact lg_mem 512 (by decide +kernel) (by decide))⟩
theorem fa_X6_23 : FL false RX6 23 6 9 true true := ⟨RX6, TX6, 32, tyX6, rfl, by decide, by decide, rfl, inG6, tyX6_ok, nmX6, rfl, rfl, (by rw [if_pos rfl]; exact Or.inr ⟨_, rfl⟩), (by rw [if_neg (by decide)]; exact lg_mem 513 (by decide +kernel) (by decide))⟩
theorem fa_X6_81 : FL false RX6 81 6 10 false false := ⟨RX6, TX6, 32, tyX6, rfl, by decide, by decide, rfl, inG6, tyX6_ok, nmX6, rfl, rfl, (by rw [if_neg (by decide)]; rfl), (by rw [if_neg (by decide)]; exact lg_mem 514 (by decide +kernel) (by decide))⟩
theorem fa_X6_26 : FL false RX6 26 6 11 true true := ⟨RX6, TX6, 32, tyX6, rfl, by decide, by decide, rfl, inG6, tyX6_ok, nmX6, rfl, rfl, (by rw [if_pos rfl]; exact Or.inr ⟨_, rfl⟩), (by rw [if_neg (by decide)]; exact lg_mem 515 (by decide +kernel) (by decide))⟩
theorem fa_X6_29 : FL false RX6 29 6 12 true true := ⟨RX6, TX6, 32, tyX6, rfl, by decide, by decide, rfl, inG6, tyX6_ok, nmX6, rfl, rfl, (by rw [if_pos rfl]; exact Or.inr ⟨_, rfl⟩), (by rw [if_neg (by decide)]; exact lg_mem 516 (by decide +kernel) (by decide))⟩
theorem fa_X6_32 : FL false RX6 32 6 13 true true := ⟨RX6, TX6, 32, tyX6, rfl, by decide, by decide, rfl, inG6, tyX6_ok, nmX6, rfl, rfl, (by rw [if_pos rfl]; exact Or.inr ⟨_, rfl⟩), (by rw [if_neg (by decide)]; exact lg_mem 517 (by decide +kernel) (by decide))⟩
theorem fa_X6_35 : FL false RX6 35 6 14 true true := ⟨RX6, TX6, 32, tyX6, rfl, by decide, by decide, rfl, inG6, tyX6_ok, nmX6, rfl, rfl, (by rw [if_pos rfl]; exact Or.inr ⟨_, rfl⟩), (by rw [if_neg (by decide)]; exact lg_mem 518 (by decide +kernel) (by decide))⟩
theorem fa_X6_84 : FL false RX6 84 6 15 false false := ⟨RX6, TX6, 32, tyX6, rfl, by decide, by decide, rfl, inG6, tyX6_ok, nmX6, rfl, rfl, (by rw [if_neg (by decide)]; rfl), (by rw [if_neg (by decide)]; exact lg_mem 519 (by decide +kernel) (by decide))⟩
theorem fa_X6_39 : FL false RX6 39 6 16 true true := ⟨RX6, TX6, 32, tyX6, rfl, by decide, by decide, rfl, inG6, tyX6_ok, nmX6, rfl, rfl, (by rw [if_pos rfl]; exact Or.inr ⟨_, rfl⟩), (by rw [if_neg (by decide)]; exact lg_mem 520 (by decide +kernel) (by decide))⟩
theorem fa_X6_42 : FL false RX6 42 6 17 true true := ⟨RX6, TX6, 32, tyX6, rfl, by decide, by decide, rfl, inG6, tyX6_ok, nmX6, rfl, rfl, (by rw [if_pos rfl]; exact Or.inr ⟨_, rfl⟩), (by rw [if_neg (by decide)]; exact lg_mem 521 (by decide +kernel) (by decide))⟩
theorem fa_X6_45 : FL false RX6 45 6 18 true true := ⟨RX6, TX6, 32, tyX6, rfl, by decide, by decide, rfl, inG6, tyX6_ok, nmX6, rfl, rfl, (by rw [if_pos rfl]; exact Or.inr ⟨_, rfl⟩), (by rw [if_neg (by decide)]; exact lg_mem 522 (by decide +kernel) (by decide))⟩
theorem fa_X6_48 : FL false RX6 48 6 19 true true := ⟨RX6, TX6, 32, tyX6, rfl, by decide, by decide, rfl, inG6, tyX6_ok, nmX6, rfl, rfl, (by rw [if_pos rfl]; exact Or.inr ⟨_, rfl⟩), (by rw [if_neg (by decide)]; exact lg_mem 523 (by decide +kernel) (by decide))⟩
theorem fa_X6_51 : FL false RX6 51 6 20 true true := ⟨RX6, TX6, 32, tyX6, rfl, by decide, by decide, rfl, inG6, tyX6_ok, nmX6, rfl, rfl, (by rw [if_pos rfl]; exact Or.inr ⟨_, rfl⟩), (by rw [if_neg (by decide)]; exact lg_mem 524 (by decide +kernel) (by decide))⟩
theorem fa_X6_54 : FL false RX6 54 6 21 true true := ⟨RX6, TX6, 32, tyX6, rfl, by decide, by decide, rfl, inG6, tyX6_ok, nmX6, rfl, rfl, (by rw [if_pos rfl]; exact Or.inr ⟨_, rfl⟩), (by rw [if_neg (by decide)]; exact lg_mem 525 (by decide +kernel) (by decide))⟩
theorem fa_X6_57 : FL false RX6 57 6 22 true true := ⟨RX6, TX6, 32, tyX6, rfl, by decide, by decide, rfl, inG6, tyX6_ok, nmX6, rfl, rfl, (by rw [if_pos rfl]; exact Or.inr ⟨_, rfl⟩), (by rw [if_neg (by decide)]; exact lg_mem 526 (by decide +kernel) (by decide))⟩
theorem fa_X6_60 : FL false RX6 60 6 23 true true := ⟨RX6, TX6, 32, tyX6, rfl, by decide, by decide, rfl, inG6, tyX6_ok, nmX6, rfl, rfl, (by rw [if_pos rfl]; exact Or.inr ⟨_, rfl⟩), (by rw [if_neg (by decide)]; exact lg_mem 527 (by decide +kernel) (by decide))⟩
theorem fa_X6_63 : FL false RX6 63 6 24 true true := ⟨RX6, TX6, 32, tyX6, rfl, by decide, by decide, rfl, inG6, tyX6_ok, nmX6, rfl, rfl, (by rw [if_pos rfl]; exact Or.inr ⟨_, rfl⟩), (by rw [if_neg (by decide)]; exact lg_mem 528 (by decide +kernel) (by decide))⟩
theorem fa_X6_66 : FL false RX6 66 6 25 true true := ⟨RX6, TX6, 32, tyX6, rfl, by decide, by decide, rfl, inG6, tyX6_ok, nmX6, rfl, rfl, (by rw [if_pos rfl]; exact Or.inr ⟨_, rfl⟩), (by rw [if_neg (by decide)]; exact lg_mem 529 (by decide +kernel) (by decide))⟩
theorem fa_X6_69 : FL false RX6 69 6 26 true true := ⟨RX6, TX6, 32, tyX6, rfl, by decide, by decide, rfl, inG6, tyX6_ok, nmX6, rfl, rfl, (by rw [if_pos rfl]; exact Or.inr ⟨_, rfl⟩), (by rw [if_neg (by decide)]; exact lg_mem 530 (by decide +kernel) (by decide))⟩
theorem fa_X6_72 : FL false RX6 72 6 27 false false := ⟨RX6, TX6, 32, tyX6, rfl, by decide, by decide, rfl, inG6, tyX6_ok, nmX6, rfl, rfl, (by rw [if_neg (by decide)]; rfl), (by rw [if_neg (by decide)]; exact lg_mem 531 (by decide +kernel) (by decide))⟩
theorem fa_X6_87 : FL false RX6 87 6 28 false false := ⟨RX6, TX6, 32, tyX6, rfl, by decide, by decide, rfl, inG6, tyX6_ok, nmX6, rfl, rfl, (by rw [if_neg (by decide)]; rfl), (by rw [if_neg (by decide)]; exact lg_mem 532 (by decide +kernel) (by decide))⟩
theorem fa_X6_90 : FL false RX6 90 6 29 false false := ⟨RX6, TX6, 32, tyX6, rfl, by decide, by decide, rfl, inG6, tyX6_ok, nmX6, rfl, rfl, (by rw [if_neg (by decide)]; rfl), (by rw [if_neg (by decide)]; exact lg_mem 533 (by decide +kernel) (by decide))⟩
theorem fa_X6_187 : FL false RX6 187 6 30 false false := ⟨RX6, TX6, 32, tyX6, rfl, by decide, by decide, rfl, inG6, tyX6_ok, nmX6, rfl, rfl, (by rw [if_neg (by decide)]; rfl), (by rw [if_neg (by decide)]; exact lg_mem 534 (by decide +kernel) (by decide))⟩
theorem fa_X6_106 : FL false RX6 106 6 31 false false := ⟨RX6, TX6, 32, tyX6, rfl, by decide, by decide, rfl, inG6, tyX6_ok, nmX6, rfl, rfl, (by rw [if_neg (by decide)]; rfl), (by rw [if_neg (by decide)]; exact lg_mem 535 (by decide +kernel) (by decide))⟩
theorem mc_X5_init : Cond.code yX5_init cX5_init 2 none ∈ lw_good := (lg_mem 52 (by decide +kernel) (by decide))
theorem mi_X5_init : Cond.instanceMethod yX5_init ∈ lw_good ∧ yX5_init.name = "<init>" := ⟨(lg_mem 51 (by decide +kernel) (by decide)), rfl⟩
theorem mc_X3_init : Cond.code yX3_init cX3_init 2 none ∈ lw_good := (lg_mem 60 (by decide +kernel) (by decide))
theorem mi_X3_init : Cond.instanceMethod yX3_init ∈ lw_good ∧ yX3_init.name = "<init>" := ⟨(lg_mem 59 (by decide +kernel) (by decide)), rfl⟩
theorem mc_X0_init : Cond.code yX0_init cX0_init 1 none ∈ lw_good := (lg_mem 67 (by decide +kernel) (by decide))
theorem mi_X0_init : Cond.instanceMethod yX0_init ∈ lw_good ∧ yX0_init.name = "<init>" := ⟨(lg_mem 66 (by decide +kernel) (by decide)), rfl⟩
theorem mc_X2_init : Cond.code yX2_init cX2_init 1 none ∈ lw_good := (lg_mem 123 (by decide +kernel) (by decide))
theorem mi_X2_init : Cond.instanceMethod yX2_init ∈ lw_good ∧ yX2_init.name = "<init>" := ⟨(lg_mem 122 (by decide +kernel) (by decide)), rfl⟩
theorem mc_X4_init : Cond.code yX4_init cX4_init 1 none ∈ lw_good := (lg_mem 142 (by decide +kernel) (by decide))
theorem mi_X4_init : Cond.instanceMethod yX4_init ∈ lw_good ∧ yX4_init.name = "<init>" := ⟨(lg_mem 141 (by decide +kernel) (by decide)), rfl⟩
theorem mc_X5_begin : Cond.code yX5_begin cX5_begin 3 (some .int) ∈ lw_good := (lg_mem 208 (by decide +kernel) (by decide))
theorem mi_X5_begin : Cond.instanceMethod yX5_begin ∈ lw_good ∧ Cond.selects yX5_begin.cls yX5_begin yX5_begin ∈ lw_good ∧ 5 < 99 ∧ ∃ T N, vwCl[5]? = some (yX5_begin.cls, T, N) := ⟨(lg_mem 206 (by decide +kernel) (by decide)), (lg_mem 207 (by decide +kernel) (by decide)), by decide, TX5, 6, rfl⟩
theorem mc_X5_isClient : Cond.code yX5_isClient cX5_isClient 1 (some .boolean) ∈ lw_good := (lg_mem 211 (by decide +kernel) (by decide))
theorem mi_X5_isClient : Cond.static yX5_isClient ∈ lw_good := (lg_mem 210 (by decide +kernel) (by decide))
theorem mc_X4_touch : Cond.code yX4_touch cX4_touch 2 none ∈ lw_good := (lg_mem 215 (by decide +kernel) (by decide))
theorem mi_X4_touch : Cond.instanceMethod yX4_touch ∈ lw_good ∧ Cond.selects yX4_touch.cls yX4_touch yX4_touch ∈ lw_good ∧ 4 < 99 ∧ ∃ T N, vwCl[4]? = some (yX4_touch.cls, T, N) := ⟨(lg_mem 213 (by decide +kernel) (by decide)), (lg_mem 214 (by decide +kernel) (by decide)), by decide, TX4, 10, rfl⟩
theorem mc_X2_give : Cond.code yX2_give cX2_give 1 (some .int) ∈ lw_good := (lg_mem 219 (by decide +kernel) (by decide))
theorem mi_X2_give : Cond.instanceMethod yX2_give ∈ lw_good ∧ Cond.selects yX2_give.cls yX2_give yX2_give ∈ lw_good ∧ 2 < 99 ∧ ∃ T N, vwCl[2]? = some (yX2_give.cls, T, N) := ⟨(lg_mem 217 (by decide +kernel) (by decide)), (lg_mem 218 (by decide +kernel) (by decide)), by decide, TX2, 3, rfl⟩
theorem mc_X4_open : Cond.code yX4_open cX4_open 3 none ∈ lw_good := (lg_mem 223 (by decide +kernel) (by decide))
theorem mi_X4_open : Cond.instanceMethod yX4_open ∈ lw_good ∧ Cond.selects yX4_open.cls yX4_open yX4_open ∈ lw_good ∧ 4 < 99 ∧ ∃ T N, vwCl[4]? = some (yX4_open.cls, T, N) := ⟨(lg_mem 221 (by decide +kernel) (by decide)), (lg_mem 222 (by decide +kernel) (by decide)), by decide, TX4, 10, rfl⟩
theorem mc_X5_read : Cond.code yX5_read cX5_read 6 (some .int) ∈ lw_good := (lg_mem 227 (by decide +kernel) (by decide))
theorem mi_X5_read : Cond.instanceMethod yX5_read ∈ lw_good ∧ Cond.selects yX5_read.cls yX5_read yX5_read ∈ lw_good ∧ 5 < 99 ∧ ∃ T N, vwCl[5]? = some (yX5_read.cls, T, N) := ⟨(lg_mem 225 (by decide +kernel) (by decide)), (lg_mem 226 (by decide +kernel) (by decide)), by decide, TX5, 6, rfl⟩
theorem mc_X5_isCell : Cond.code yX5_isCell cX5_isCell 2 (some .boolean) ∈ lw_good := (lg_mem 230 (by decide +kernel) (by decide))
theorem mi_X5_isCell : Cond.static yX5_isCell ∈ lw_good := (lg_mem 229 (by decide +kernel) (by decide))
theorem mc_X5_isRow : Cond.code yX5_isRow cX5_isRow 1 (some .boolean) ∈ lw_good := (lg_mem 233 (by decide +kernel) (by decide))
theorem mi_X5_isRow : Cond.static yX5_isRow ∈ lw_good := (lg_mem 232 (by decide +kernel) (by decide))
theorem mc_X5_cellIndex : Cond.code yX5_cellIndex cX5_cellIndex 2 (some .int) ∈ lw_good := (lg_mem 236 (by decide +kernel) (by decide))
theorem mi_X5_cellIndex : Cond.static yX5_cellIndex ∈ lw_good := (lg_mem 235 (by decide +kernel) (by decide))
theorem mc_X5_look : Cond.code yX5_look cX5_look 6 (some .int) ∈ lw_good := (lg_mem 240 (by decide +kernel) (by decide))
theorem mi_X5_look : Cond.instanceMethod yX5_look ∈ lw_good ∧ Cond.selects yX5_look.cls yX5_look yX5_look ∈ lw_good ∧ 5 < 99 ∧ ∃ T N, vwCl[5]? = some (yX5_look.cls, T, N) := ⟨(lg_mem 239 (by decide +kernel) (by decide)), (lg_mem 0 (by decide +kernel) (by decide)), by decide, TX5, 6, rfl⟩
theorem mc_X4_placeOf : Cond.code yX4_placeOf cX4_placeOf 3 (some .int) ∈ lw_good := (lg_mem 244 (by decide +kernel) (by decide))
theorem mi_X4_placeOf : Cond.instanceMethod yX4_placeOf ∈ lw_good ∧ Cond.selects yX4_placeOf.cls yX4_placeOf yX4_placeOf ∈ lw_good ∧ 4 < 99 ∧ ∃ T N, vwCl[4]? = some (yX4_placeOf.cls, T, N) := ⟨(lg_mem 242 (by decide +kernel) (by decide)), (lg_mem 243 (by decide +kernel) (by decide)), by decide, TX4, 10, rfl⟩
theorem mc_X0_isLocked : Cond.code yX0_isLocked cX0_isLocked 1 (some .boolean) ∈ lw_good := (lg_mem 248 (by decide +kernel) (by decide))
theorem mi_X0_isLocked : Cond.instanceMethod yX0_isLocked ∈ lw_good ∧ Cond.selects yX0_isLocked.cls yX0_isLocked yX0_isLocked ∈ lw_good ∧ 0 < 99 ∧ ∃ T N, vwCl[0]? = some (yX0_isLocked.cls, T, N) := ⟨(lg_mem 246 (by decide +kernel) (by decide)), (lg_mem 247 (by decide +kernel) (by decide)), by decide, TX0, 5, rfl⟩
theorem mc_X5_isForCleaning : Cond.code yX5_isForCleaning cX5_isForCleaning 2 (some .boolean) ∈ lw_good := (lg_mem 252 (by decide +kernel) (by decide))
theorem mi_X5_isForCleaning : Cond.instanceMethod yX5_isForCleaning ∈ lw_good ∧ Cond.selects yX5_isForCleaning.cls yX5_isForCleaning yX5_isForCleaning ∈ lw_good ∧ 5 < 99 ∧ ∃ T N, vwCl[5]? = some (yX5_isForCleaning.cls, T, N) := ⟨(lg_mem 251 (by decide +kernel) (by decide)), (lg_mem 1 (by decide +kernel) (by decide)), by decide, TX5, 6, rfl⟩
theorem mc_X3_isDecided : Cond.code yX3_isDecided cX3_isDecided 2 (some .boolean) ∈ lw_good := (lg_mem 256 (by decide +kernel) (by decide))
theorem mi_X3_isDecided : Cond.instanceMethod yX3_isDecided ∈ lw_good ∧ Cond.selects yX3_isDecided.cls yX3_isDecided yX3_isDecided ∈ lw_good ∧ 3 < 99 ∧ ∃ T N, vwCl[3]? = some (yX3_isDecided.cls, T, N) := ⟨(lg_mem 254 (by decide +kernel) (by decide)), (lg_mem 255 (by decide +kernel) (by decide)), by decide, TX3, 6, rfl⟩
theorem mc_X5_isLate : Cond.code yX5_isLate cX5_isLate 4 (some .boolean) ∈ lw_good := (lg_mem 260 (by decide +kernel) (by decide))
theorem mi_X5_isLate : Cond.instanceMethod yX5_isLate ∈ lw_good ∧ Cond.selects yX5_isLate.cls yX5_isLate yX5_isLate ∈ lw_good ∧ 5 < 99 ∧ ∃ T N, vwCl[5]? = some (yX5_isLate.cls, T, N) := ⟨(lg_mem 259 (by decide +kernel) (by decide)), (lg_mem 2 (by decide +kernel) (by decide)), by decide, TX5, 6, rfl⟩
theorem mc_X3_clean : Cond.code yX3_clean cX3_clean 4 none ∈ lw_good := (lg_mem 264 (by decide +kernel) (by decide))
theorem mi_X3_clean : Cond.instanceMethod yX3_clean ∈ lw_good ∧ Cond.selects yX3_clean.cls yX3_clean yX3_clean ∈ lw_good ∧ 3 < 99 ∧ ∃ T N, vwCl[3]? = some (yX3_clean.cls, T, N) := ⟨(lg_mem 262 (by decide +kernel) (by decide)), (lg_mem 263 (by decide +kernel) (by decide)), by decide, TX3, 6, rfl⟩
theorem mc_X3_undo : Cond.code yX3_undo cX3_undo 4 none ∈ lw_good := (lg_mem 269 (by decide +kernel) (by decide))
theorem mi_X3_undo : Cond.instanceMethod yX3_undo ∈ lw_good ∧ Cond.selects yX3_undo.cls yX3_undo yX3_undo ∈ lw_good ∧ 3 < 99 ∧ ∃ T N, vwCl[3]? = some (yX3_undo.cls, T, N) := ⟨(lg_mem 267 (by decide +kernel) (by decide)), (lg_mem 268 (by decide +kernel) (by decide)), by decide, TX3, 6, rfl⟩
theorem mc_X3_dropLock : Cond.code yX3_dropLock cX3_dropLock 2 none ∈ lw_good := (lg_mem 273 (by decide +kernel) (by decide))
theorem mi_X3_dropLock : Cond.instanceMethod yX3_dropLock ∈ lw_good ∧ Cond.selects yX3_dropLock.cls yX3_dropLock yX3_dropLock ∈ lw_good ∧ 3 < 99 ∧ ∃ T N, vwCl[3]? = some (yX3_dropLock.cls, T, N) := ⟨(lg_mem 271 (by decide +kernel) (by decide)), (lg_mem 272 (by decide +kernel) (by decide)), by decide, TX3, 6, rfl⟩
theorem mc_X3_addLine : Cond.code yX3_addLine cX3_addLine 2 none ∈ lw_good := (lg_mem 277 (by decide +kernel) (by decide))
theorem mi_X3_addLine : Cond.instanceMethod yX3_addLine ∈ lw_good ∧ Cond.selects yX3_addLine.cls yX3_addLine yX3_addLine ∈ lw_good ∧ 3 < 99 ∧ ∃ T N, vwCl[3]? = some (yX3_addLine.cls, T, N) := ⟨(lg_mem 276 (by decide +kernel) (by decide)), (lg_mem 3 (by decide +kernel) (by decide)), by decide, TX3, 6, rfl⟩
theorem mc_X3_dropData : Cond.code yX3_dropData cX3_dropData 4 none ∈ lw_good := (lg_mem 281 (by decide +kernel) (by decide))
theorem mi_X3_dropData : Cond.instanceMethod yX3_dropData ∈ lw_good ∧ Cond.selects yX3_dropData.cls yX3_dropData yX3_dropData ∈ lw_good ∧ 3 < 99 ∧ ∃ T N, vwCl[3]? = some (yX3_dropData.cls, T, N) := ⟨(lg_mem 279 (by decide +kernel) (by decide)), (lg_mem 280 (by decide +kernel) (by decide)), by decide, TX3, 6, rfl⟩
theorem mc_X1_withKey : Cond.code yX1_withKey cX1_withKey 3 (some (.object "SnapRows$Entry")) ∈ lw_good := (lg_mem 284 (by decide +kernel) (by decide))
theorem mi_X1_withKey : Cond.static yX1_withKey ∈ lw_good := (lg_mem 283 (by decide +kernel) (by decide))
theorem mc_X1_without : Cond.code yX1_without cX1_without 3 (some (.object "SnapRows$Entry")) ∈ lw_good := (lg_mem 287 (by decide +kernel) (by decide))
theorem mi_X1_without : Cond.static yX1_without ∈ lw_good := (lg_mem 286 (by decide +kernel) (by decide))
theorem mc_X3_addWrite : Cond.code yX3_addWrite cX3_addWrite 4 none ∈ lw_good := (lg_mem 291 (by decide +kernel) (by decide))
theorem mi_X3_addWrite : Cond.instanceMethod yX3_addWrite ∈ lw_good ∧ Cond.selects yX3_addWrite.cls yX3_addWrite yX3_addWrite ∈ lw_good ∧ 3 < 99 ∧ ∃ T N, vwCl[3]? = some (yX3_addWrite.cls, T, N) := ⟨(lg_mem 289 (by decide +kernel) (by decide)), (lg_mem 290 (by decide +kernel) (by decide)), by decide, TX3, 6, rfl⟩
theorem mc_X1_init : Cond.code yX1_init cX1_init 4 none ∈ lw_good := (lg_mem 296 (by decide +kernel) (by decide))
theorem mi_X1_init : Cond.instanceMethod yX1_init ∈ lw_good ∧ yX1_init.name = "<init>" := ⟨(lg_mem 295 (by decide +kernel) (by decide)), rfl⟩
theorem mc_X1_withInfo : Cond.code yX1_withInfo cX1_withInfo 3 (some (.object "SnapRows$Entry")) ∈ lw_good := (lg_mem 318 (by decide +kernel) (by decide))
theorem mi_X1_withInfo : Cond.static yX1_withInfo ∈ lw_good := (lg_mem 317 (by decide +kernel) (by decide))
theorem mc_X0_valueAt : Cond.code yX0_valueAt cX0_valueAt 3 (some .int) ∈ lw_good := (lg_mem 322 (by decide +kernel) (by decide))
theorem mi_X0_valueAt : Cond.instanceMethod yX0_valueAt ∈ lw_good ∧ Cond.selects yX0_valueAt.cls yX0_valueAt yX0_valueAt ∈ lw_good ∧ 0 < 99 ∧ ∃ T N, vwCl[0]? = some (yX0_valueAt.cls, T, N) := ⟨(lg_mem 320 (by decide +kernel) (by decide)), (lg_mem 321 (by decide +kernel) (by decide)), by decide, TX0, 5, rfl⟩
theorem mc_X0_valueOf : Cond.code yX0_valueOf cX0_valueOf 3 (some .int) ∈ lw_good := (lg_mem 326 (by decide +kernel) (by decide))
theorem mi_X0_valueOf : Cond.instanceMethod yX0_valueOf ∈ lw_good ∧ Cond.selects yX0_valueOf.cls yX0_valueOf yX0_valueOf ∈ lw_good ∧ 0 < 99 ∧ ∃ T N, vwCl[0]? = some (yX0_valueOf.cls, T, N) := ⟨(lg_mem 324 (by decide +kernel) (by decide)), (lg_mem 325 (by decide +kernel) (by decide)), by decide, TX0, 5, rfl⟩
theorem mc_X3_putDownLog : Cond.code yX3_putDownLog cX3_putDownLog 1 none ∈ lw_good := (lg_mem 331 (by decide +kernel) (by decide))
theorem mi_X3_putDownLog : Cond.instanceMethod yX3_putDownLog ∈ lw_good ∧ Cond.selects yX3_putDownLog.cls yX3_putDownLog yX3_putDownLog ∈ lw_good ∧ 3 < 99 ∧ ∃ T N, vwCl[3]? = some (yX3_putDownLog.cls, T, N) := ⟨(lg_mem 329 (by decide +kernel) (by decide)), (lg_mem 330 (by decide +kernel) (by decide)), by decide, TX3, 6, rfl⟩
theorem mc_X5_next : Cond.code yX5_next cX5_next 5 (some .int) ∈ lw_good := (lg_mem 335 (by decide +kernel) (by decide))
theorem mi_X5_next : Cond.instanceMethod yX5_next ∈ lw_good ∧ Cond.selects yX5_next.cls yX5_next yX5_next ∈ lw_good ∧ 5 < 99 ∧ ∃ T N, vwCl[5]? = some (yX5_next.cls, T, N) := ⟨(lg_mem 333 (by decide +kernel) (by decide)), (lg_mem 334 (by decide +kernel) (by decide)), by decide, TX5, 6, rfl⟩
theorem mc_X5_lookFrom : Cond.code yX5_lookFrom cX5_lookFrom 5 (some .int) ∈ lw_good := (lg_mem 339 (by decide +kernel) (by decide))
theorem mi_X5_lookFrom : Cond.instanceMethod yX5_lookFrom ∈ lw_good ∧ Cond.selects yX5_lookFrom.cls yX5_lookFrom yX5_lookFrom ∈ lw_good ∧ 5 < 99 ∧ ∃ T N, vwCl[5]? = some (yX5_lookFrom.cls, T, N) := ⟨(lg_mem 338 (by decide +kernel) (by decide)), (lg_mem 4 (by decide +kernel) (by decide)), by decide, TX5, 6, rfl⟩
theorem mc_X5_write : Cond.code yX5_write cX5_write 6 (some .int) ∈ lw_good := (lg_mem 343 (by decide +kernel) (by decide))
theorem mi_X5_write : Cond.instanceMethod yX5_write ∈ lw_good ∧ Cond.selects yX5_write.cls yX5_write yX5_write ∈ lw_good ∧ 5 < 99 ∧ ∃ T N, vwCl[5]? = some (yX5_write.cls, T, N) := ⟨(lg_mem 341 (by decide +kernel) (by decide)), (lg_mem 342 (by decide +kernel) (by decide)), by decide, TX5, 6, rfl⟩
theorem mc_X4_put : Cond.code yX4_put cX4_put 4 (some .boolean) ∈ lw_good := (lg_mem 347 (by decide +kernel) (by decide))
theorem mi_X4_put : Cond.instanceMethod yX4_put ∈ lw_good ∧ Cond.selects yX4_put.cls yX4_put yX4_put ∈ lw_good ∧ 4 < 99 ∧ ∃ T N, vwCl[4]? = some (yX4_put.cls, T, N) := ⟨(lg_mem 345 (by decide +kernel) (by decide)), (lg_mem 346 (by decide +kernel) (by decide)), by decide, TX4, 10, rfl⟩
theorem mc_X4_putRow : Cond.code yX4_putRow cX4_putRow 3 none ∈ lw_good := (lg_mem 352 (by decide +kernel) (by decide))
theorem mi_X4_putRow : Cond.instanceMethod yX4_putRow ∈ lw_good ∧ Cond.selects yX4_putRow.cls yX4_putRow yX4_putRow ∈ lw_good ∧ 4 < 99 ∧ ∃ T N, vwCl[4]? = some (yX4_putRow.cls, T, N) := ⟨(lg_mem 351 (by decide +kernel) (by decide)), (lg_mem 5 (by decide +kernel) (by decide)), by decide, TX4, 10, rfl⟩
theorem mc_X5_commit : Cond.code yX5_commit cX5_commit 3 (some .int) ∈ lw_good := (lg_mem 356 (by decide +kernel) (by decide))
theorem mi_X5_commit : Cond.instanceMethod yX5_commit ∈ lw_good ∧ Cond.selects yX5_commit.cls yX5_commit yX5_commit ∈ lw_good ∧ 5 < 99 ∧ ∃ T N, vwCl[5]? = some (yX5_commit.cls, T, N) := ⟨(lg_mem 354 (by decide +kernel) (by decide)), (lg_mem 355 (by decide +kernel) (by decide)), by decide, TX5, 6, rfl⟩
theorem mc_X4_end : Cond.code yX4_end cX4_end 1 none ∈ lw_good := (lg_mem 360 (by decide +kernel) (by decide))
theorem mi_X4_end : Cond.instanceMethod yX4_end ∈ lw_good ∧ Cond.selects yX4_end.cls yX4_end yX4_end ∈ lw_good ∧ 4 < 99 ∧ ∃ T N, vwCl[4]? = some (yX4_end.cls, T, N) := ⟨(lg_mem 358 (by decide +kernel) (by decide)), (lg_mem 359 (by decide +kernel) (by decide)), by decide, TX4, 10, rfl⟩
theorem mc_X5_step : Cond.code yX5_step cX5_step 4 (some .int) ∈ lw_good := (lg_mem 364 (by decide +kernel) (by decide))
theorem mi_X5_step : Cond.instanceMethod yX5_step ∈ lw_good ∧ Cond.selects yX5_step.cls yX5_step yX5_step ∈ lw_good ∧ 5 < 99 ∧ ∃ T N, vwCl[5]? = some (yX5_step.cls, T, N) := ⟨(lg_mem 362 (by decide +kernel) (by decide)), (lg_mem 363 (by decide +kernel) (by decide)), by decide, TX5, 6, rfl⟩
theorem mc_X5_goOn : Cond.code yX5_goOn cX5_goOn 2 (some .int) ∈ lw_good := (lg_mem 368 (by decide +kernel) (by decide))
theorem mi_X5_goOn : Cond.instanceMethod yX5_goOn ∈ lw_good ∧ Cond.selects yX5_goOn.cls yX5_goOn yX5_goOn ∈ lw_good ∧ 5 < 99 ∧ ∃ T N, vwCl[5]? = some (yX5_goOn.cls, T, N) := ⟨(lg_mem 367 (by decide +kernel) (by decide)), (lg_mem 6 (by decide +kernel) (by decide)), by decide, TX5, 6, rfl⟩
theorem mc_X5_lockRow : Cond.code yX5_lockRow cX5_lockRow 6 (some .int) ∈ lw_good := (lg_mem 372 (by decide +kernel) (by decide))
theorem mi_X5_lockRow : Cond.instanceMethod yX5_lockRow ∈ lw_good ∧ Cond.selects yX5_lockRow.cls yX5_lockRow yX5_lockRow ∈ lw_good ∧ 5 < 99 ∧ ∃ T N, vwCl[5]? = some (yX5_lockRow.cls, T, N) := ⟨(lg_mem 371 (by decide +kernel) (by decide)), (lg_mem 7 (by decide +kernel) (by decide)), by decide, TX5, 6, rfl⟩
theorem mc_X5_lose : Cond.code yX5_lose cX5_lose 2 (some .int) ∈ lw_good := (lg_mem 376 (by decide +kernel) (by decide))
theorem mi_X5_lose : Cond.instanceMethod yX5_lose ∈ lw_good ∧ Cond.selects yX5_lose.cls yX5_lose yX5_lose ∈ lw_good ∧ 5 < 99 ∧ ∃ T N, vwCl[5]? = some (yX5_lose.cls, T, N) := ⟨(lg_mem 375 (by decide +kernel) (by decide)), (lg_mem 8 (by decide +kernel) (by decide)), by decide, TX5, 6, rfl⟩
theorem mc_X3_addData : Cond.code yX3_addData cX3_addData 4 none ∈ lw_good := (lg_mem 380 (by decide +kernel) (by decide))
theorem mi_X3_addData : Cond.instanceMethod yX3_addData ∈ lw_good ∧ Cond.selects yX3_addData.cls yX3_addData yX3_addData ∈ lw_good ∧ 3 < 99 ∧ ∃ T N, vwCl[3]? = some (yX3_addData.cls, T, N) := ⟨(lg_mem 378 (by decide +kernel) (by decide)), (lg_mem 379 (by decide +kernel) (by decide)), by decide, TX3, 6, rfl⟩
theorem mc_X3_addLock : Cond.code yX3_addLock cX3_addLock 5 none ∈ lw_good := (lg_mem 384 (by decide +kernel) (by decide))
theorem mi_X3_addLock : Cond.instanceMethod yX3_addLock ∈ lw_good ∧ Cond.selects yX3_addLock.cls yX3_addLock yX3_addLock ∈ lw_good ∧ 3 < 99 ∧ ∃ T N, vwCl[3]? = some (yX3_addLock.cls, T, N) := ⟨(lg_mem 382 (by decide +kernel) (by decide)), (lg_mem 383 (by decide +kernel) (by decide)), by decide, TX3, 6, rfl⟩
theorem mc_X5_decide : Cond.code yX5_decide cX5_decide 3 (some .int) ∈ lw_good := (lg_mem 388 (by decide +kernel) (by decide))
theorem mi_X5_decide : Cond.instanceMethod yX5_decide ∈ lw_good ∧ Cond.selects yX5_decide.cls yX5_decide yX5_decide ∈ lw_good ∧ 5 < 99 ∧ ∃ T N, vwCl[5]? = some (yX5_decide.cls, T, N) := ⟨(lg_mem 387 (by decide +kernel) (by decide)), (lg_mem 9 (by decide +kernel) (by decide)), by decide, TX5, 6, rfl⟩
theorem mc_X5_settleCells : Cond.code yX5_settleCells cX5_settleCells 5 none ∈ lw_good := (lg_mem 392 (by decide +kernel) (by decide))
theorem mi_X5_settleCells : Cond.instanceMethod yX5_settleCells ∈ lw_good ∧ Cond.selects yX5_settleCells.cls yX5_settleCells yX5_settleCells ∈ lw_good ∧ 5 < 99 ∧ ∃ T N, vwCl[5]? = some (yX5_settleCells.cls, T, N) := ⟨(lg_mem 391 (by decide +kernel) (by decide)), (lg_mem 10 (by decide +kernel) (by decide)), by decide, TX5, 6, rfl⟩
theorem mc_X4_hasLockIn : Cond.code yX4_hasLockIn cX4_hasLockIn 2 (some .boolean) ∈ lw_good := (lg_mem 396 (by decide +kernel) (by decide))
theorem mi_X4_hasLockIn : Cond.instanceMethod yX4_hasLockIn ∈ lw_good ∧ Cond.selects yX4_hasLockIn.cls yX4_hasLockIn yX4_hasLockIn ∈ lw_good ∧ 4 < 99 ∧ ∃ T N, vwCl[4]? = some (yX4_hasLockIn.cls, T, N) := ⟨(lg_mem 394 (by decide +kernel) (by decide)), (lg_mem 395 (by decide +kernel) (by decide)), by decide, TX4, 10, rfl⟩
theorem mc_X5_settleRow : Cond.code yX5_settleRow cX5_settleRow 2 (some .int) ∈ lw_good := (lg_mem 402 (by decide +kernel) (by decide))
theorem mi_X5_settleRow : Cond.instanceMethod yX5_settleRow ∈ lw_good ∧ Cond.selects yX5_settleRow.cls yX5_settleRow yX5_settleRow ∈ lw_good ∧ 5 < 99 ∧ ∃ T N, vwCl[5]? = some (yX5_settleRow.cls, T, N) := ⟨(lg_mem 401 (by decide +kernel) (by decide)), (lg_mem 11 (by decide +kernel) (by decide)), by decide, TX5, 6, rfl⟩
theorem mc_X5_undoRow : Cond.code yX5_undoRow cX5_undoRow 3 (some .int) ∈ lw_good := (lg_mem 406 (by decide +kernel) (by decide))
theorem mi_X5_undoRow : Cond.instanceMethod yX5_undoRow ∈ lw_good ∧ Cond.selects yX5_undoRow.cls yX5_undoRow yX5_undoRow ∈ lw_good ∧ 5 < 99 ∧ ∃ T N, vwCl[5]? = some (yX5_undoRow.cls, T, N) := ⟨(lg_mem 405 (by decide +kernel) (by decide)), (lg_mem 12 (by decide +kernel) (by decide)), by decide, TX5, 6, rfl⟩
theorem mc_X5_undoCells : Cond.code yX5_undoCells cX5_undoCells 7 (some .boolean) ∈ lw_good := (lg_mem 410 (by decide +kernel) (by decide))
theorem mi_X5_undoCells : Cond.instanceMethod yX5_undoCells ∈ lw_good ∧ Cond.selects yX5_undoCells.cls yX5_undoCells yX5_undoCells ∈ lw_good ∧ 5 < 99 ∧ ∃ T N, vwCl[5]? = some (yX5_undoCells.cls, T, N) := ⟨(lg_mem 409 (by decide +kernel) (by decide)), (lg_mem 13 (by decide +kernel) (by decide)), by decide, TX5, 6, rfl⟩
theorem mc_X5_crash : Cond.code yX5_crash cX5_crash 4 (some .int) ∈ lw_good := (lg_mem 415 (by decide +kernel) (by decide))
theorem mi_X5_crash : Cond.instanceMethod yX5_crash ∈ lw_good ∧ Cond.selects yX5_crash.cls yX5_crash yX5_crash ∈ lw_good ∧ 5 < 99 ∧ ∃ T N, vwCl[5]? = some (yX5_crash.cls, T, N) := ⟨(lg_mem 413 (by decide +kernel) (by decide)), (lg_mem 414 (by decide +kernel) (by decide)), by decide, TX5, 6, rfl⟩
theorem mc_X5_tick : Cond.code yX5_tick cX5_tick 2 (some .int) ∈ lw_good := (lg_mem 419 (by decide +kernel) (by decide))
theorem mi_X5_tick : Cond.instanceMethod yX5_tick ∈ lw_good ∧ Cond.selects yX5_tick.cls yX5_tick yX5_tick ∈ lw_good ∧ 5 < 99 ∧ ∃ T N, vwCl[5]? = some (yX5_tick.cls, T, N) := ⟨(lg_mem 417 (by decide +kernel) (by decide)), (lg_mem 418 (by decide +kernel) (by decide)), by decide, TX5, 6, rfl⟩
theorem mc_X5_isTime : Cond.code yX5_isTime cX5_isTime 1 (some .boolean) ∈ lw_good := (lg_mem 422 (by decide +kernel) (by decide))
theorem mi_X5_isTime : Cond.static yX5_isTime ∈ lw_good := (lg_mem 421 (by decide +kernel) (by decide))
theorem mc_X5_timeout : Cond.code yX5_timeout cX5_timeout 3 (some .int) ∈ lw_good := (lg_mem 428 (by decide +kernel) (by decide))
theorem mi_X5_timeout : Cond.instanceMethod yX5_timeout ∈ lw_good ∧ Cond.selects yX5_timeout.cls yX5_timeout yX5_timeout ∈ lw_good ∧ 5 < 99 ∧ ∃ T N, vwCl[5]? = some (yX5_timeout.cls, T, N) := ⟨(lg_mem 426 (by decide +kernel) (by decide)), (lg_mem 427 (by decide +kernel) (by decide)), by decide, TX5, 6, rfl⟩
theorem mc_X5_fallOracle : Cond.code yX5_fallOracle cX5_fallOracle 1 (some .int) ∈ lw_good := (lg_mem 432 (by decide +kernel) (by decide))
theorem mi_X5_fallOracle : Cond.instanceMethod yX5_fallOracle ∈ lw_good ∧ Cond.selects yX5_fallOracle.cls yX5_fallOracle yX5_fallOracle ∈ lw_good ∧ 5 < 99 ∧ ∃ T N, vwCl[5]? = some (yX5_fallOracle.cls, T, N) := ⟨(lg_mem 430 (by decide +kernel) (by decide)), (lg_mem 431 (by decide +kernel) (by decide)), by decide, TX5, 6, rfl⟩
theorem mc_X2_restart : Cond.code yX2_restart cX2_restart 1 (some .int) ∈ lw_good := (lg_mem 436 (by decide +kernel) (by decide))
theorem mi_X2_restart : Cond.instanceMethod yX2_restart ∈ lw_good ∧ Cond.selects yX2_restart.cls yX2_restart yX2_restart ∈ lw_good ∧ 2 < 99 ∧ ∃ T N, vwCl[2]? = some (yX2_restart.cls, T, N) := ⟨(lg_mem 434 (by decide +kernel) (by decide)), (lg_mem 435 (by decide +kernel) (by decide)), by decide, TX2, 3, rfl⟩
theorem mc_X5_fall : Cond.code yX5_fall cX5_fall 1 (some .int) ∈ lw_good := (lg_mem 440 (by decide +kernel) (by decide))
theorem mi_X5_fall : Cond.instanceMethod yX5_fall ∈ lw_good ∧ Cond.selects yX5_fall.cls yX5_fall yX5_fall ∈ lw_good ∧ 5 < 99 ∧ ∃ T N, vwCl[5]? = some (yX5_fall.cls, T, N) := ⟨(lg_mem 438 (by decide +kernel) (by decide)), (lg_mem 439 (by decide +kernel) (by decide)), by decide, TX5, 6, rfl⟩
theorem mc_X5_sweep : Cond.code yX5_sweep cX5_sweep 3 (some .int) ∈ lw_good := (lg_mem 444 (by decide +kernel) (by decide))
theorem mi_X5_sweep : Cond.instanceMethod yX5_sweep ∈ lw_good ∧ Cond.selects yX5_sweep.cls yX5_sweep yX5_sweep ∈ lw_good ∧ 5 < 99 ∧ ∃ T N, vwCl[5]? = some (yX5_sweep.cls, T, N) := ⟨(lg_mem 442 (by decide +kernel) (by decide)), (lg_mem 443 (by decide +kernel) (by decide)), by decide, TX5, 6, rfl⟩
theorem mc_X5_isBeginBelow : Cond.code yX5_isBeginBelow cX5_isBeginBelow 3 (some .boolean) ∈ lw_good := (lg_mem 448 (by decide +kernel) (by decide))
theorem mi_X5_isBeginBelow : Cond.instanceMethod yX5_isBeginBelow ∈ lw_good ∧ Cond.selects yX5_isBeginBelow.cls yX5_isBeginBelow yX5_isBeginBelow ∈ lw_good ∧ 5 < 99 ∧ ∃ T N, vwCl[5]? = some (yX5_isBeginBelow.cls, T, N) := ⟨(lg_mem 447 (by decide +kernel) (by decide)), (lg_mem 14 (by decide +kernel) (by decide)), by decide, TX5, 6, rfl⟩
theorem mc_X3_hasLockNotAbove : Cond.code yX3_hasLockNotAbove cX3_hasLockNotAbove 3 (some .boolean) ∈ lw_good := (lg_mem 452 (by decide +kernel) (by decide))
theorem mi_X3_hasLockNotAbove : Cond.instanceMethod yX3_hasLockNotAbove ∈ lw_good ∧ Cond.selects yX3_hasLockNotAbove.cls yX3_hasLockNotAbove yX3_hasLockNotAbove ∈ lw_good ∧ 3 < 99 ∧ ∃ T N, vwCl[3]? = some (yX3_hasLockNotAbove.cls, T, N) := ⟨(lg_mem 450 (by decide +kernel) (by decide)), (lg_mem 451 (by decide +kernel) (by decide)), by decide, TX3, 6, rfl⟩
theorem mc_X3_dropUnseen : Cond.code yX3_dropUnseen cX3_dropUnseen 4 (some .int) ∈ lw_good := (lg_mem 457 (by decide +kernel) (by decide))
theorem mi_X3_dropUnseen : Cond.instanceMethod yX3_dropUnseen ∈ lw_good ∧ Cond.selects yX3_dropUnseen.cls yX3_dropUnseen yX3_dropUnseen ∈ lw_good ∧ 3 < 99 ∧ ∃ T N, vwCl[3]? = some (yX3_dropUnseen.cls, T, N) := ⟨(lg_mem 455 (by decide +kernel) (by decide)), (lg_mem 456 (by decide +kernel) (by decide)), by decide, TX3, 6, rfl⟩
theorem mc_X3_dropUnseenOf : Cond.code yX3_dropUnseenOf cX3_dropUnseenOf 5 none ∈ lw_good := (lg_mem 461 (by decide +kernel) (by decide))
theorem mi_X3_dropUnseenOf : Cond.instanceMethod yX3_dropUnseenOf ∈ lw_good ∧ Cond.selects yX3_dropUnseenOf.cls yX3_dropUnseenOf yX3_dropUnseenOf ∈ lw_good ∧ 3 < 99 ∧ ∃ T N, vwCl[3]? = some (yX3_dropUnseenOf.cls, T, N) := ⟨(lg_mem 460 (by decide +kernel) (by decide)), (lg_mem 15 (by decide +kernel) (by decide)), by decide, TX3, 6, rfl⟩
theorem mc_X3_dropWrite : Cond.code yX3_dropWrite cX3_dropWrite 3 none ∈ lw_good := (lg_mem 465 (by decide +kernel) (by decide))
theorem mi_X3_dropWrite : Cond.instanceMethod yX3_dropWrite ∈ lw_good ∧ Cond.selects yX3_dropWrite.cls yX3_dropWrite yX3_dropWrite ∈ lw_good ∧ 3 < 99 ∧ ∃ T N, vwCl[3]? = some (yX3_dropWrite.cls, T, N) := ⟨(lg_mem 464 (by decide +kernel) (by decide)), (lg_mem 16 (by decide +kernel) (by decide)), by decide, TX3, 6, rfl⟩
theorem mc_X5_state : Cond.code yX5_state cX5_state 4 (some .int) ∈ lw_good := (lg_mem 470 (by decide +kernel) (by decide))
theorem mi_X5_state : Cond.instanceMethod yX5_state ∈ lw_good ∧ Cond.selects yX5_state.cls yX5_state yX5_state ∈ lw_good ∧ 5 < 99 ∧ ∃ T N, vwCl[5]? = some (yX5_state.cls, T, N) := ⟨(lg_mem 468 (by decide +kernel) (by decide)), (lg_mem 469 (by decide +kernel) (by decide)), by decide, TX5, 6, rfl⟩
theorem mc_X5_lock : Cond.code yX5_lock cX5_lock 5 (some .int) ∈ lw_good := (lg_mem 474 (by decide +kernel) (by decide))
theorem mi_X5_lock : Cond.instanceMethod yX5_lock ∈ lw_good ∧ Cond.selects yX5_lock.cls yX5_lock yX5_lock ∈ lw_good ∧ 5 < 99 ∧ ∃ T N, vwCl[5]? = some (yX5_lock.cls, T, N) := ⟨(lg_mem 472 (by decide +kernel) (by decide)), (lg_mem 473 (by decide +kernel) (by decide)), by decide, TX5, 6, rfl⟩
theorem mc_X5_versions : Cond.code yX5_versions cX5_versions 3 (some .int) ∈ lw_good := (lg_mem 478 (by decide +kernel) (by decide))
theorem mi_X5_versions : Cond.instanceMethod yX5_versions ∈ lw_good ∧ Cond.selects yX5_versions.cls yX5_versions yX5_versions ∈ lw_good ∧ 5 < 99 ∧ ∃ T N, vwCl[5]? = some (yX5_versions.cls, T, N) := ⟨(lg_mem 476 (by decide +kernel) (by decide)), (lg_mem 477 (by decide +kernel) (by decide)), by decide, TX5, 6, rfl⟩
theorem mc_X1_count : Cond.code yX1_count cX1_count 3 (some .int) ∈ lw_good := (lg_mem 481 (by decide +kernel) (by decide))
theorem mi_X1_count : Cond.static yX1_count ∈ lw_good := (lg_mem 480 (by decide +kernel) (by decide))
theorem mc_X5_version : Cond.code yX5_version cX5_version 7 (some .int) ∈ lw_good := (lg_mem 485 (by decide +kernel) (by decide))
theorem mi_X5_version : Cond.instanceMethod yX5_version ∈ lw_good ∧ Cond.selects yX5_version.cls yX5_version yX5_version ∈ lw_good ∧ 5 < 99 ∧ ∃ T N, vwCl[5]? = some (yX5_version.cls, T, N) := ⟨(lg_mem 483 (by decide +kernel) (by decide)), (lg_mem 484 (by decide +kernel) (by decide)), by decide, TX5, 6, rfl⟩
theorem mc_X1_atPlace : Cond.code yX1_atPlace cX1_atPlace 4 (some (.object "SnapRows$Entry")) ∈ lw_good := (lg_mem 488 (by decide +kernel) (by decide))
theorem mi_X1_atPlace : Cond.static yX1_atPlace ∈ lw_good := (lg_mem 487 (by decide +kernel) (by decide))
theorem mc_X5_data : Cond.code yX5_data cX5_data 5 (some .int) ∈ lw_good := (lg_mem 493 (by decide +kernel) (by decide))
theorem mi_X5_data : Cond.instanceMethod yX5_data ∈ lw_good ∧ Cond.selects yX5_data.cls yX5_data yX5_data ∈ lw_good ∧ 5 < 99 ∧ ∃ T N, vwCl[5]? = some (yX5_data.cls, T, N) := ⟨(lg_mem 491 (by decide +kernel) (by decide)), (lg_mem 492 (by decide +kernel) (by decide)), by decide, TX5, 6, rfl⟩
theorem mc_X5_told : Cond.code yX5_told cX5_told 2 (some .int) ∈ lw_good := (lg_mem 497 (by decide +kernel) (by decide))
theorem mi_X5_told : Cond.instanceMethod yX5_told ∈ lw_good ∧ Cond.selects yX5_told.cls yX5_told yX5_told ∈ lw_good ∧ 5 < 99 ∧ ∃ T N, vwCl[5]? = some (yX5_told.cls, T, N) := ⟨(lg_mem 495 (by decide +kernel) (by decide)), (lg_mem 496 (by decide +kernel) (by decide)), by decide, TX5, 6, rfl⟩
theorem mc_X6_init : Cond.code yX6_init cX6_init 1 none ∈ lw_good := (lg_mem 502 (by decide +kernel) (by decide))
theorem mi_X6_init : Cond.instanceMethod yX6_init ∈ lw_good ∧ yX6_init.name = "<init>" := ⟨(lg_mem 501 (by decide +kernel) (by decide)), rfl⟩
theorem mc_X6_begin : Cond.code yX6_begin cX6_begin 2 (some .int) ∈ lw_good := (lg_mem 605 (by decide +kernel) (by decide))
theorem mi_X6_begin : Cond.instanceMethod yX6_begin ∈ lw_good ∧ Cond.selects yX6_begin.cls yX6_begin yX6_begin ∈ lw_good ∧ 6 < 99 ∧ ∃ T N, vwCl[6]? = some (yX6_begin.cls, T, N) := ⟨(lg_mem 603 (by decide +kernel) (by decide)), (lg_mem 604 (by decide +kernel) (by decide)), by decide, TX6, 32, rfl⟩
theorem mc_X6_noClient : Cond.code yX6_noClient cX6_noClient 1 (some .boolean) ∈ lw_good := (lg_mem 608 (by decide +kernel) (by decide))
theorem mi_X6_noClient : Cond.static yX6_noClient ∈ lw_good := (lg_mem 607 (by decide +kernel) (by decide))
theorem mc_X6_in : Cond.code yX6_in cX6_in 3 (some .boolean) ∈ lw_good := (lg_mem 611 (by decide +kernel) (by decide))
theorem mi_X6_in : Cond.static yX6_in ∈ lw_good := (lg_mem 610 (by decide +kernel) (by decide))
theorem mc_X6_give : Cond.code yX6_give cX6_give 2 (some .int) ∈ lw_good := (lg_mem 615 (by decide +kernel) (by decide))
theorem mi_X6_give : Cond.instanceMethod yX6_give ∈ lw_good ∧ Cond.selects yX6_give.cls yX6_give yX6_give ∈ lw_good ∧ 6 < 99 ∧ ∃ T N, vwCl[6]? = some (yX6_give.cls, T, N) := ⟨(lg_mem 614 (by decide +kernel) (by decide)), (lg_mem 17 (by decide +kernel) (by decide)), by decide, TX6, 32, rfl⟩
theorem mc_X6_read : Cond.code yX6_read cX6_read 4 (some .int) ∈ lw_good := (lg_mem 619 (by decide +kernel) (by decide))
theorem mi_X6_read : Cond.instanceMethod yX6_read ∈ lw_good ∧ Cond.selects yX6_read.cls yX6_read yX6_read ∈ lw_good ∧ 6 < 99 ∧ ∃ T N, vwCl[6]? = some (yX6_read.cls, T, N) := ⟨(lg_mem 617 (by decide +kernel) (by decide)), (lg_mem 618 (by decide +kernel) (by decide)), by decide, TX6, 32, rfl⟩
theorem mc_X6_noCell : Cond.code yX6_noCell cX6_noCell 2 (some .boolean) ∈ lw_good := (lg_mem 622 (by decide +kernel) (by decide))
theorem mi_X6_noCell : Cond.static yX6_noCell ∈ lw_good := (lg_mem 621 (by decide +kernel) (by decide))
theorem mc_X6_see : Cond.code yX6_see cX6_see 7 (some .int) ∈ lw_good := (lg_mem 626 (by decide +kernel) (by decide))
theorem mi_X6_see : Cond.instanceMethod yX6_see ∈ lw_good ∧ Cond.selects yX6_see.cls yX6_see yX6_see ∈ lw_good ∧ 6 < 99 ∧ ∃ T N, vwCl[6]? = some (yX6_see.cls, T, N) := ⟨(lg_mem 625 (by decide +kernel) (by decide)), (lg_mem 18 (by decide +kernel) (by decide)), by decide, TX6, 32, rfl⟩
theorem mc_X6_ownAt : Cond.code yX6_ownAt cX6_ownAt 4 (some .int) ∈ lw_good := (lg_mem 630 (by decide +kernel) (by decide))
theorem mi_X6_ownAt : Cond.instanceMethod yX6_ownAt ∈ lw_good ∧ Cond.selects yX6_ownAt.cls yX6_ownAt yX6_ownAt ∈ lw_good ∧ 6 < 99 ∧ ∃ T N, vwCl[6]? = some (yX6_ownAt.cls, T, N) := ⟨(lg_mem 629 (by decide +kernel) (by decide)), (lg_mem 19 (by decide +kernel) (by decide)), by decide, TX6, 32, rfl⟩
theorem mc_X6_isDecided : Cond.code yX6_isDecided cX6_isDecided 2 (some .boolean) ∈ lw_good := (lg_mem 634 (by decide +kernel) (by decide))
theorem mi_X6_isDecided : Cond.instanceMethod yX6_isDecided ∈ lw_good ∧ Cond.selects yX6_isDecided.cls yX6_isDecided yX6_isDecided ∈ lw_good ∧ 6 < 99 ∧ ∃ T N, vwCl[6]? = some (yX6_isDecided.cls, T, N) := ⟨(lg_mem 633 (by decide +kernel) (by decide)), (lg_mem 20 (by decide +kernel) (by decide)), by decide, TX6, 32, rfl⟩
theorem mc_X6_isLate : Cond.code yX6_isLate cX6_isLate 3 (some .boolean) ∈ lw_good := (lg_mem 638 (by decide +kernel) (by decide))
theorem mi_X6_isLate : Cond.instanceMethod yX6_isLate ∈ lw_good ∧ Cond.selects yX6_isLate.cls yX6_isLate yX6_isLate ∈ lw_good ∧ 6 < 99 ∧ ∃ T N, vwCl[6]? = some (yX6_isLate.cls, T, N) := ⟨(lg_mem 637 (by decide +kernel) (by decide)), (lg_mem 21 (by decide +kernel) (by decide)), by decide, TX6, 32, rfl⟩
theorem mc_X6_clean : Cond.code yX6_clean cX6_clean 5 none ∈ lw_good := (lg_mem 642 (by decide +kernel) (by decide))
theorem mi_X6_clean : Cond.instanceMethod yX6_clean ∈ lw_good ∧ Cond.selects yX6_clean.cls yX6_clean yX6_clean ∈ lw_good ∧ 6 < 99 ∧ ∃ T N, vwCl[6]? = some (yX6_clean.cls, T, N) := ⟨(lg_mem 641 (by decide +kernel) (by decide)), (lg_mem 22 (by decide +kernel) (by decide)), by decide, TX6, 32, rfl⟩
theorem mc_X6_dropLock : Cond.code yX6_dropLock cX6_dropLock 2 none ∈ lw_good := (lg_mem 646 (by decide +kernel) (by decide))
theorem mi_X6_dropLock : Cond.instanceMethod yX6_dropLock ∈ lw_good ∧ Cond.selects yX6_dropLock.cls yX6_dropLock yX6_dropLock ∈ lw_good ∧ 6 < 99 ∧ ∃ T N, vwCl[6]? = some (yX6_dropLock.cls, T, N) := ⟨(lg_mem 645 (by decide +kernel) (by decide)), (lg_mem 23 (by decide +kernel) (by decide)), by decide, TX6, 32, rfl⟩
theorem mc_X6_dropData : Cond.code yX6_dropData cX6_dropData 4 none ∈ lw_good := (lg_mem 650 (by decide +kernel) (by decide))
theorem mi_X6_dropData : Cond.instanceMethod yX6_dropData ∈ lw_good ∧ Cond.selects yX6_dropData.cls yX6_dropData yX6_dropData ∈ lw_good ∧ 6 < 99 ∧ ∃ T N, vwCl[6]? = some (yX6_dropData.cls, T, N) := ⟨(lg_mem 649 (by decide +kernel) (by decide)), (lg_mem 24 (by decide +kernel) (by decide)), by decide, TX6, 32, rfl⟩
theorem mc_X6_dataAt : Cond.code yX6_dataAt cX6_dataAt 4 (some .int) ∈ lw_good := (lg_mem 654 (by decide +kernel) (by decide))
theorem mi_X6_dataAt : Cond.instanceMethod yX6_dataAt ∈ lw_good ∧ Cond.selects yX6_dataAt.cls yX6_dataAt yX6_dataAt ∈ lw_good ∧ 6 < 99 ∧ ∃ T N, vwCl[6]? = some (yX6_dataAt.cls, T, N) := ⟨(lg_mem 653 (by decide +kernel) (by decide)), (lg_mem 25 (by decide +kernel) (by decide)), by decide, TX6, 32, rfl⟩
theorem mc_X6_addWrite : Cond.code yX6_addWrite cX6_addWrite 5 none ∈ lw_good := (lg_mem 658 (by decide +kernel) (by decide))
theorem mi_X6_addWrite : Cond.instanceMethod yX6_addWrite ∈ lw_good ∧ Cond.selects yX6_addWrite.cls yX6_addWrite yX6_addWrite ∈ lw_good ∧ 6 < 99 ∧ ∃ T N, vwCl[6]? = some (yX6_addWrite.cls, T, N) := ⟨(lg_mem 657 (by decide +kernel) (by decide)), (lg_mem 26 (by decide +kernel) (by decide)), by decide, TX6, 32, rfl⟩
theorem mc_X6_end : Cond.code yX6_end cX6_end 2 (some .int) ∈ lw_good := (lg_mem 662 (by decide +kernel) (by decide))
theorem mi_X6_end : Cond.instanceMethod yX6_end ∈ lw_good ∧ Cond.selects yX6_end.cls yX6_end yX6_end ∈ lw_good ∧ 6 < 99 ∧ ∃ T N, vwCl[6]? = some (yX6_end.cls, T, N) := ⟨(lg_mem 661 (by decide +kernel) (by decide)), (lg_mem 27 (by decide +kernel) (by decide)), by decide, TX6, 32, rfl⟩
theorem mc_X6_next : Cond.code yX6_next cX6_next 5 (some .int) ∈ lw_good := (lg_mem 666 (by decide +kernel) (by decide))
theorem mi_X6_next : Cond.instanceMethod yX6_next ∈ lw_good ∧ Cond.selects yX6_next.cls yX6_next yX6_next ∈ lw_good ∧ 6 < 99 ∧ ∃ T N, vwCl[6]? = some (yX6_next.cls, T, N) := ⟨(lg_mem 664 (by decide +kernel) (by decide)), (lg_mem 665 (by decide +kernel) (by decide)), by decide, TX6, 32, rfl⟩
theorem mc_X6_write : Cond.code yX6_write cX6_write 6 (some .int) ∈ lw_good := (lg_mem 670 (by decide +kernel) (by decide))
theorem mi_X6_write : Cond.instanceMethod yX6_write ∈ lw_good ∧ Cond.selects yX6_write.cls yX6_write yX6_write ∈ lw_good ∧ 6 < 99 ∧ ∃ T N, vwCl[6]? = some (yX6_write.cls, T, N) := ⟨(lg_mem 668 (by decide +kernel) (by decide)), (lg_mem 669 (by decide +kernel) (by decide)), by decide, TX6, 32, rfl⟩
theorem mc_X6_commit : Cond.code yX6_commit cX6_commit 2 (some .int) ∈ lw_good := (lg_mem 674 (by decide +kernel) (by decide))
theorem mi_X6_commit : Cond.instanceMethod yX6_commit ∈ lw_good ∧ Cond.selects yX6_commit.cls yX6_commit yX6_commit ∈ lw_good ∧ 6 < 99 ∧ ∃ T N, vwCl[6]? = some (yX6_commit.cls, T, N) := ⟨(lg_mem 672 (by decide +kernel) (by decide)), (lg_mem 673 (by decide +kernel) (by decide)), by decide, TX6, 32, rfl⟩
theorem mc_X6_step : Cond.code yX6_step cX6_step 2 (some .int) ∈ lw_good := (lg_mem 678 (by decide +kernel) (by decide))
theorem mi_X6_step : Cond.instanceMethod yX6_step ∈ lw_good ∧ Cond.selects yX6_step.cls yX6_step yX6_step ∈ lw_good ∧ 6 < 99 ∧ ∃ T N, vwCl[6]? = some (yX6_step.cls, T, N) := ⟨(lg_mem 676 (by decide +kernel) (by decide)), (lg_mem 677 (by decide +kernel) (by decide)), by decide, TX6, 32, rfl⟩
theorem mc_X6_lockRow : Cond.code yX6_lockRow cX6_lockRow 6 (some .int) ∈ lw_good := (lg_mem 682 (by decide +kernel) (by decide))
theorem mi_X6_lockRow : Cond.instanceMethod yX6_lockRow ∈ lw_good ∧ Cond.selects yX6_lockRow.cls yX6_lockRow yX6_lockRow ∈ lw_good ∧ 6 < 99 ∧ ∃ T N, vwCl[6]? = some (yX6_lockRow.cls, T, N) := ⟨(lg_mem 681 (by decide +kernel) (by decide)), (lg_mem 28 (by decide +kernel) (by decide)), by decide, TX6, 32, rfl⟩
theorem mc_X6_rowOf : Cond.code yX6_rowOf cX6_rowOf 8 (some .int) ∈ lw_good := (lg_mem 686 (by decide +kernel) (by decide))
theorem mi_X6_rowOf : Cond.instanceMethod yX6_rowOf ∈ lw_good ∧ Cond.selects yX6_rowOf.cls yX6_rowOf yX6_rowOf ∈ lw_good ∧ 6 < 99 ∧ ∃ T N, vwCl[6]? = some (yX6_rowOf.cls, T, N) := ⟨(lg_mem 685 (by decide +kernel) (by decide)), (lg_mem 29 (by decide +kernel) (by decide)), by decide, TX6, 32, rfl⟩
theorem mc_X6_decide : Cond.code yX6_decide cX6_decide 4 (some .int) ∈ lw_good := (lg_mem 690 (by decide +kernel) (by decide))
theorem mi_X6_decide : Cond.instanceMethod yX6_decide ∈ lw_good ∧ Cond.selects yX6_decide.cls yX6_decide yX6_decide ∈ lw_good ∧ 6 < 99 ∧ ∃ T N, vwCl[6]? = some (yX6_decide.cls, T, N) := ⟨(lg_mem 689 (by decide +kernel) (by decide)), (lg_mem 30 (by decide +kernel) (by decide)), by decide, TX6, 32, rfl⟩
theorem mc_X6_undoing : Cond.code yX6_undoing cX6_undoing 2 (some .int) ∈ lw_good := (lg_mem 694 (by decide +kernel) (by decide))
theorem mi_X6_undoing : Cond.instanceMethod yX6_undoing ∈ lw_good ∧ Cond.selects yX6_undoing.cls yX6_undoing yX6_undoing ∈ lw_good ∧ 6 < 99 ∧ ∃ T N, vwCl[6]? = some (yX6_undoing.cls, T, N) := ⟨(lg_mem 693 (by decide +kernel) (by decide)), (lg_mem 31 (by decide +kernel) (by decide)), by decide, TX6, 32, rfl⟩
theorem mc_X6_settleRow : Cond.code yX6_settleRow cX6_settleRow 5 none ∈ lw_good := (lg_mem 698 (by decide +kernel) (by decide))
theorem mi_X6_settleRow : Cond.instanceMethod yX6_settleRow ∈ lw_good ∧ Cond.selects yX6_settleRow.cls yX6_settleRow yX6_settleRow ∈ lw_good ∧ 6 < 99 ∧ ∃ T N, vwCl[6]? = some (yX6_settleRow.cls, T, N) := ⟨(lg_mem 697 (by decide +kernel) (by decide)), (lg_mem 32 (by decide +kernel) (by decide)), by decide, TX6, 32, rfl⟩
theorem mc_X6_records : Cond.code yX6_records cX6_records 1 (some .int) ∈ lw_good := (lg_mem 702 (by decide +kernel) (by decide))
theorem mi_X6_records : Cond.instanceMethod yX6_records ∈ lw_good ∧ Cond.selects yX6_records.cls yX6_records yX6_records ∈ lw_good ∧ 6 < 99 ∧ ∃ T N, vwCl[6]? = some (yX6_records.cls, T, N) := ⟨(lg_mem 701 (by decide +kernel) (by decide)), (lg_mem 33 (by decide +kernel) (by decide)), by decide, TX6, 32, rfl⟩
theorem mc_X6_addData : Cond.code yX6_addData cX6_addData 4 none ∈ lw_good := (lg_mem 706 (by decide +kernel) (by decide))
theorem mi_X6_addData : Cond.instanceMethod yX6_addData ∈ lw_good ∧ Cond.selects yX6_addData.cls yX6_addData yX6_addData ∈ lw_good ∧ 6 < 99 ∧ ∃ T N, vwCl[6]? = some (yX6_addData.cls, T, N) := ⟨(lg_mem 705 (by decide +kernel) (by decide)), (lg_mem 34 (by decide +kernel) (by decide)), by decide, TX6, 32, rfl⟩
theorem mc_X6_addLock : Cond.code yX6_addLock cX6_addLock 4 none ∈ lw_good := (lg_mem 710 (by decide +kernel) (by decide))
theorem mi_X6_addLock : Cond.instanceMethod yX6_addLock ∈ lw_good ∧ Cond.selects yX6_addLock.cls yX6_addLock yX6_addLock ∈ lw_good ∧ 6 < 99 ∧ ∃ T N, vwCl[6]? = some (yX6_addLock.cls, T, N) := ⟨(lg_mem 709 (by decide +kernel) (by decide)), (lg_mem 35 (by decide +kernel) (by decide)), by decide, TX6, 32, rfl⟩
theorem mc_X6_settle : Cond.code yX6_settle cX6_settle 2 (some .int) ∈ lw_good := (lg_mem 714 (by decide +kernel) (by decide))
theorem mi_X6_settle : Cond.instanceMethod yX6_settle ∈ lw_good ∧ Cond.selects yX6_settle.cls yX6_settle yX6_settle ∈ lw_good ∧ 6 < 99 ∧ ∃ T N, vwCl[6]? = some (yX6_settle.cls, T, N) := ⟨(lg_mem 713 (by decide +kernel) (by decide)), (lg_mem 36 (by decide +kernel) (by decide)), by decide, TX6, 32, rfl⟩
theorem mc_X6_undo : Cond.code yX6_undo cX6_undo 6 (some .int) ∈ lw_good := (lg_mem 718 (by decide +kernel) (by decide))
theorem mi_X6_undo : Cond.instanceMethod yX6_undo ∈ lw_good ∧ Cond.selects yX6_undo.cls yX6_undo yX6_undo ∈ lw_good ∧ 6 < 99 ∧ ∃ T N, vwCl[6]? = some (yX6_undo.cls, T, N) := ⟨(lg_mem 717 (by decide +kernel) (by decide)), (lg_mem 37 (by decide +kernel) (by decide)), by decide, TX6, 32, rfl⟩
theorem mc_X6_crash : Cond.code yX6_crash cX6_crash 3 (some .int) ∈ lw_good := (lg_mem 722 (by decide +kernel) (by decide))
theorem mi_X6_crash : Cond.instanceMethod yX6_crash ∈ lw_good ∧ Cond.selects yX6_crash.cls yX6_crash yX6_crash ∈ lw_good ∧ 6 < 99 ∧ ∃ T N, vwCl[6]? = some (yX6_crash.cls, T, N) := ⟨(lg_mem 720 (by decide +kernel) (by decide)), (lg_mem 721 (by decide +kernel) (by decide)), by decide, TX6, 32, rfl⟩
theorem mc_X6_tick : Cond.code yX6_tick cX6_tick 2 (some .int) ∈ lw_good := (lg_mem 726 (by decide +kernel) (by decide))
theorem mi_X6_tick : Cond.instanceMethod yX6_tick ∈ lw_good ∧ Cond.selects yX6_tick.cls yX6_tick yX6_tick ∈ lw_good ∧ 6 < 99 ∧ ∃ T N, vwCl[6]? = some (yX6_tick.cls, T, N) := ⟨(lg_mem 724 (by decide +kernel) (by decide)), (lg_mem 725 (by decide +kernel) (by decide)), by decide, TX6, 32, rfl⟩
theorem mc_X6_timeout : Cond.code yX6_timeout cX6_timeout 3 (some .int) ∈ lw_good := (lg_mem 732 (by decide +kernel) (by decide))
theorem mi_X6_timeout : Cond.instanceMethod yX6_timeout ∈ lw_good ∧ Cond.selects yX6_timeout.cls yX6_timeout yX6_timeout ∈ lw_good ∧ 6 < 99 ∧ ∃ T N, vwCl[6]? = some (yX6_timeout.cls, T, N) := ⟨(lg_mem 730 (by decide +kernel) (by decide)), (lg_mem 731 (by decide +kernel) (by decide)), by decide, TX6, 32, rfl⟩
theorem mc_X6_fallOracle : Cond.code yX6_fallOracle cX6_fallOracle 1 (some .int) ∈ lw_good := (lg_mem 736 (by decide +kernel) (by decide))
theorem mi_X6_fallOracle : Cond.instanceMethod yX6_fallOracle ∈ lw_good ∧ Cond.selects yX6_fallOracle.cls yX6_fallOracle yX6_fallOracle ∈ lw_good ∧ 6 < 99 ∧ ∃ T N, vwCl[6]? = some (yX6_fallOracle.cls, T, N) := ⟨(lg_mem 734 (by decide +kernel) (by decide)), (lg_mem 735 (by decide +kernel) (by decide)), by decide, TX6, 32, rfl⟩
theorem mc_X6_fall : Cond.code yX6_fall cX6_fall 1 (some .int) ∈ lw_good := (lg_mem 740 (by decide +kernel) (by decide))
theorem mi_X6_fall : Cond.instanceMethod yX6_fall ∈ lw_good ∧ Cond.selects yX6_fall.cls yX6_fall yX6_fall ∈ lw_good ∧ 6 < 99 ∧ ∃ T N, vwCl[6]? = some (yX6_fall.cls, T, N) := ⟨(lg_mem 738 (by decide +kernel) (by decide)), (lg_mem 739 (by decide +kernel) (by decide)), by decide, TX6, 32, rfl⟩
theorem mc_X6_sweep : Cond.code yX6_sweep cX6_sweep 4 (some .int) ∈ lw_good := (lg_mem 744 (by decide +kernel) (by decide))
theorem mi_X6_sweep : Cond.instanceMethod yX6_sweep ∈ lw_good ∧ Cond.selects yX6_sweep.cls yX6_sweep yX6_sweep ∈ lw_good ∧ 6 < 99 ∧ ∃ T N, vwCl[6]? = some (yX6_sweep.cls, T, N) := ⟨(lg_mem 742 (by decide +kernel) (by decide)), (lg_mem 743 (by decide +kernel) (by decide)), by decide, TX6, 32, rfl⟩
theorem mc_X6_sweepCell : Cond.code yX6_sweepCell cX6_sweepCell 7 none ∈ lw_good := (lg_mem 748 (by decide +kernel) (by decide))
theorem mi_X6_sweepCell : Cond.instanceMethod yX6_sweepCell ∈ lw_good ∧ Cond.selects yX6_sweepCell.cls yX6_sweepCell yX6_sweepCell ∈ lw_good ∧ 6 < 99 ∧ ∃ T N, vwCl[6]? = some (yX6_sweepCell.cls, T, N) := ⟨(lg_mem 747 (by decide +kernel) (by decide)), (lg_mem 38 (by decide +kernel) (by decide)), by decide, TX6, 32, rfl⟩
theorem mc_X6_dropWrite : Cond.code yX6_dropWrite cX6_dropWrite 2 none ∈ lw_good := (lg_mem 752 (by decide +kernel) (by decide))
theorem mi_X6_dropWrite : Cond.instanceMethod yX6_dropWrite ∈ lw_good ∧ Cond.selects yX6_dropWrite.cls yX6_dropWrite yX6_dropWrite ∈ lw_good ∧ 6 < 99 ∧ ∃ T N, vwCl[6]? = some (yX6_dropWrite.cls, T, N) := ⟨(lg_mem 751 (by decide +kernel) (by decide)), (lg_mem 39 (by decide +kernel) (by decide)), by decide, TX6, 32, rfl⟩
theorem mc_X6_state : Cond.code yX6_state cX6_state 3 (some .int) ∈ lw_good := (lg_mem 756 (by decide +kernel) (by decide))
theorem mi_X6_state : Cond.instanceMethod yX6_state ∈ lw_good ∧ Cond.selects yX6_state.cls yX6_state yX6_state ∈ lw_good ∧ 6 < 99 ∧ ∃ T N, vwCl[6]? = some (yX6_state.cls, T, N) := ⟨(lg_mem 754 (by decide +kernel) (by decide)), (lg_mem 755 (by decide +kernel) (by decide)), by decide, TX6, 32, rfl⟩
theorem mc_X6_lock : Cond.code yX6_lock cX6_lock 5 (some .int) ∈ lw_good := (lg_mem 760 (by decide +kernel) (by decide))
theorem mi_X6_lock : Cond.instanceMethod yX6_lock ∈ lw_good ∧ Cond.selects yX6_lock.cls yX6_lock yX6_lock ∈ lw_good ∧ 6 < 99 ∧ ∃ T N, vwCl[6]? = some (yX6_lock.cls, T, N) := ⟨(lg_mem 758 (by decide +kernel) (by decide)), (lg_mem 759 (by decide +kernel) (by decide)), by decide, TX6, 32, rfl⟩
theorem mc_X6_versions : Cond.code yX6_versions cX6_versions 5 (some .int) ∈ lw_good := (lg_mem 764 (by decide +kernel) (by decide))
theorem mi_X6_versions : Cond.instanceMethod yX6_versions ∈ lw_good ∧ Cond.selects yX6_versions.cls yX6_versions yX6_versions ∈ lw_good ∧ 6 < 99 ∧ ∃ T N, vwCl[6]? = some (yX6_versions.cls, T, N) := ⟨(lg_mem 762 (by decide +kernel) (by decide)), (lg_mem 763 (by decide +kernel) (by decide)), by decide, TX6, 32, rfl⟩
theorem mc_X6_version : Cond.code yX6_version cX6_version 11 (some .int) ∈ lw_good := (lg_mem 768 (by decide +kernel) (by decide))
theorem mi_X6_version : Cond.instanceMethod yX6_version ∈ lw_good ∧ Cond.selects yX6_version.cls yX6_version yX6_version ∈ lw_good ∧ 6 < 99 ∧ ∃ T N, vwCl[6]? = some (yX6_version.cls, T, N) := ⟨(lg_mem 766 (by decide +kernel) (by decide)), (lg_mem 767 (by decide +kernel) (by decide)), by decide, TX6, 32, rfl⟩
theorem mc_X6_data : Cond.code yX6_data cX6_data 7 (some .int) ∈ lw_good := (lg_mem 772 (by decide +kernel) (by decide))
theorem mi_X6_data : Cond.instanceMethod yX6_data ∈ lw_good ∧ Cond.selects yX6_data.cls yX6_data yX6_data ∈ lw_good ∧ 6 < 99 ∧ ∃ T N, vwCl[6]? = some (yX6_data.cls, T, N) := ⟨(lg_mem 770 (by decide +kernel) (by decide)), (lg_mem 771 (by decide +kernel) (by decide)), by decide, TX6, 32, rfl⟩
theorem mc_X6_told : Cond.code yX6_told cX6_told 2 (some .int) ∈ lw_good := (lg_mem 776 (by decide +kernel) (by decide))
theorem mi_X6_told : Cond.instanceMethod yX6_told ∈ lw_good ∧ Cond.selects yX6_told.cls yX6_told yX6_told ∈ lw_good ∧ 6 < 99 ∧ ∃ T N, vwCl[6]? = some (yX6_told.cls, T, N) := ⟨(lg_mem 774 (by decide +kernel) (by decide)), (lg_mem 775 (by decide +kernel) (by decide)), by decide, TX6, 32, rfl⟩
theorem ml_L_9 : ML RL 9 yX5_init cX5_init 2 none 0 := ⟨(lg_mem 50 (by decide +kernel) (by decide)), mc_X5_init, (lg_mem 41 (by decide +kernel) (by decide)), by decide +kernel⟩
theorem ml_X5_1 : Cond.methodLink RX5 1 Lib.objectInit ∈ lw_good ∧ Cond.instanceMethod Lib.objectInit ∈ lw_good ∧ Cond.code Lib.objectInit ⟨#[0xb1]⟩ 1 none ∈ lw_good := ⟨(lg_mem 53 (by decide +kernel) (by decide)), (lg_mem 54 (by decide +kernel) (by decide)), (lg_mem 55 (by decide +kernel) (by decide))⟩
theorem ml_X5_9 : ML RX5 9 yX3_init cX3_init 2 none 0 := ⟨(lg_mem 58 (by decide +kernel) (by decide)), mc_X3_init, (lg_mem 42 (by decide +kernel) (by decide)), by decide +kernel⟩
theorem ml_X3_3 : Cond.methodLink RX3 3 Lib.objectInit ∈ lw_good ∧ Cond.instanceMethod Lib.objectInit ∈ lw_good ∧ Cond.code Lib.objectInit ⟨#[0xb1]⟩ 1 none ∈ lw_good := ⟨(lg_mem 61 (by decide +kernel) (by decide)), (lg_mem 54 (by decide +kernel) (by decide)), (lg_mem 55 (by decide +kernel) (by decide))⟩
theorem ml_X3_17 : MLN RX3 17 yX0_init cX0_init 1 none 0 := ⟨nk_mem 65 (by decide +kernel) (by decide), mc_X0_init, (lg_mem 43 (by decide +kernel) (by decide)), by decide +kernel⟩
theorem ml_X0_3 : Cond.methodLink RX0 3 Lib.objectInit ∈ lw_good ∧ Cond.instanceMethod Lib.objectInit ∈ lw_good ∧ Cond.code Lib.objectInit ⟨#[0xb1]⟩ 1 none ∈ lw_good := ⟨(lg_mem 68 (by decide +kernel) (by decide)), (lg_mem 54 (by decide +kernel) (by decide)), (lg_mem 55 (by decide +kernel) (by decide))⟩
theorem ml_X5_18 : MLN RX5 18 yX2_init cX2_init 1 none 0 := ⟨nk_mem 121 (by decide +kernel) (by decide), mc_X2_init, (lg_mem 44 (by decide +kernel) (by decide)), by decide +kernel⟩
theorem ml_X2_3 : Cond.methodLink RX2 3 Lib.objectInit ∈ lw_good ∧ Cond.instanceMethod Lib.objectInit ∈ lw_good ∧ Cond.code Lib.objectInit ⟨#[0xb1]⟩ 1 none ∈ lw_good := ⟨(lg_mem 124 (by decide +kernel) (by decide)), (lg_mem 54 (by decide +kernel) (by decide)), (lg_mem 55 (by decide +kernel) (by decide))⟩
theorem ml_X5_29 : MLN RX5 29 yX4_init cX4_init 1 none 0 := ⟨nk_mem 140 (by decide +kernel) (by decide), mc_X4_init, (lg_mem 45 (by decide +kernel) (by decide)), by decide +kernel⟩
theorem ml_X4_3 : Cond.methodLink RX4 3 Lib.objectInit ∈ lw_good ∧ Cond.instanceMethod Lib.objectInit ∈ lw_good ∧ Cond.code Lib.objectInit ⟨#[0xb1]⟩ 1 none ∈ lw_good := ⟨(lg_mem 143 (by decide +kernel) (by decide)), (lg_mem 54 (by decide +kernel) (by decide)), (lg_mem 55 (by decide +kernel) (by decide))⟩
theorem ml_L_13 : ML RL 13 yX5_begin cX5_begin 3 (some .int) 1 := ⟨(lg_mem 205 (by decide +kernel) (by decide)), mc_X5_begin, (lg_mem 41 (by decide +kernel) (by decide)), by decide +kernel⟩
theorem ml_X5_34 : ML RX5 34 yX5_isClient cX5_isClient 1 (some .boolean) 1 := ⟨(lg_mem 209 (by decide +kernel) (by decide)), mc_X5_isClient, (lg_mem 41 (by decide +kernel) (by decide)), by decide +kernel⟩
theorem ml_X5_44 : ML RX5 44 yX4_touch cX4_touch 2 none 1 := ⟨(lg_mem 212 (by decide +kernel) (by decide)), mc_X4_touch, (lg_mem 45 (by decide +kernel) (by decide)), by decide +kernel⟩
theorem ml_X5_48 : ML RX5 48 yX2_give cX2_give 1 (some .int) 0 := ⟨(lg_mem 216 (by decide +kernel) (by decide)), mc_X2_give, (lg_mem 44 (by decide +kernel) (by decide)), by decide +kernel⟩
theorem ml_X5_52 : ML RX5 52 yX4_open cX4_open 3 none 2 := ⟨(lg_mem 220 (by decide +kernel) (by decide)), mc_X4_open, (lg_mem 45 (by decide +kernel) (by decide)), by decide +kernel⟩
theorem ml_L_18 : ML RL 18 yX5_read cX5_read 6 (some .int) 3 := ⟨(lg_mem 224 (by decide +kernel) (by decide)), mc_X5_read, (lg_mem 41 (by decide +kernel) (by decide)), by decide +kernel⟩
theorem ml_X5_59 : ML RX5 59 yX5_isCell cX5_isCell 2 (some .boolean) 2 := ⟨(lg_mem 228 (by decide +kernel) (by decide)), mc_X5_isCell, (lg_mem 41 (by decide +kernel) (by decide)), by decide +kernel⟩
theorem ml_X5_74 : ML RX5 74 yX5_isRow cX5_isRow 1 (some .boolean) 1 := ⟨(lg_mem 231 (by decide +kernel) (by decide)), mc_X5_isRow, (lg_mem 41 (by decide +kernel) (by decide)), by decide +kernel⟩
theorem ml_X5_63 : ML RX5 63 yX5_cellIndex cX5_cellIndex 2 (some .int) 2 := ⟨(lg_mem 234 (by decide +kernel) (by decide)), mc_X5_cellIndex, (lg_mem 41 (by decide +kernel) (by decide)), by decide +kernel⟩
theorem ml_X5_67 : ML RX5 67 yX5_look cX5_look 6 (some .int) 2 := ⟨(lg_mem 237 (by decide +kernel) (by decide)), mc_X5_look, (lg_mem 41 (by decide +kernel) (by decide)), by decide +kernel⟩
theorem ml_X5_198 : ML RX5 198 yX4_placeOf cX4_placeOf 3 (some .int) 1 := ⟨(lg_mem 241 (by decide +kernel) (by decide)), mc_X4_placeOf, (lg_mem 45 (by decide +kernel) (by decide)), by decide +kernel⟩
theorem ml_X5_142 : ML RX5 142 yX0_isLocked cX0_isLocked 1 (some .boolean) 0 := ⟨(lg_mem 245 (by decide +kernel) (by decide)), mc_X0_isLocked, (lg_mem 43 (by decide +kernel) (by decide)), by decide +kernel⟩
theorem ml_X5_204 : ML RX5 204 yX5_isForCleaning cX5_isForCleaning 2 (some .boolean) 1 := ⟨(lg_mem 249 (by decide +kernel) (by decide)), mc_X5_isForCleaning, (lg_mem 41 (by decide +kernel) (by decide)), by decide +kernel⟩
theorem ml_X5_150 : ML RX5 150 yX3_isDecided cX3_isDecided 2 (some .boolean) 1 := ⟨(lg_mem 253 (by decide +kernel) (by decide)), mc_X3_isDecided, (lg_mem 42 (by decide +kernel) (by decide)), by decide +kernel⟩
theorem ml_X5_146 : ML RX5 146 yX5_isLate cX5_isLate 4 (some .boolean) 1 := ⟨(lg_mem 257 (by decide +kernel) (by decide)), mc_X5_isLate, (lg_mem 41 (by decide +kernel) (by decide)), by decide +kernel⟩
theorem ml_X5_207 : ML RX5 207 yX3_clean cX3_clean 4 none 1 := ⟨(lg_mem 261 (by decide +kernel) (by decide)), mc_X3_clean, (lg_mem 42 (by decide +kernel) (by decide)), by decide +kernel⟩
theorem ml_X3_67 : ML RX3 67 yX3_isDecided cX3_isDecided 2 (some .boolean) 1 := ⟨(lg_mem 265 (by decide +kernel) (by decide)), mc_X3_isDecided, (lg_mem 42 (by decide +kernel) (by decide)), by decide +kernel⟩
theorem ml_X3_71 : ML RX3 71 yX3_undo cX3_undo 4 none 2 := ⟨(lg_mem 266 (by decide +kernel) (by decide)), mc_X3_undo, (lg_mem 42 (by decide +kernel) (by decide)), by decide +kernel⟩
theorem ml_X3_85 : ML RX3 85 yX3_dropLock cX3_dropLock 2 none 1 := ⟨(lg_mem 270 (by decide +kernel) (by decide)), mc_X3_dropLock, (lg_mem 42 (by decide +kernel) (by decide)), by decide +kernel⟩
theorem ml_X3_27 : ML RX3 27 yX3_addLine cX3_addLine 2 none 1 := ⟨(lg_mem 274 (by decide +kernel) (by decide)), mc_X3_addLine, (lg_mem 42 (by decide +kernel) (by decide)), by decide +kernel⟩
theorem ml_X3_89 : ML RX3 89 yX3_dropData cX3_dropData 4 none 2 := ⟨(lg_mem 278 (by decide +kernel) (by decide)), mc_X3_dropData, (lg_mem 42 (by decide +kernel) (by decide)), by decide +kernel⟩
theorem ml_X3_31 : ML RX3 31 yX1_withKey cX1_withKey 3 (some (.object "SnapRows$Entry")) 2 := ⟨(lg_mem 282 (by decide +kernel) (by decide)), mc_X1_withKey, (lg_mem 47 (by decide +kernel) (by decide)), by decide +kernel⟩
theorem ml_X3_35 : ML RX3 35 yX1_without cX1_without 3 (some (.object "SnapRows$Entry")) 2 := ⟨(lg_mem 285 (by decide +kernel) (by decide)), mc_X1_without, (lg_mem 47 (by decide +kernel) (by decide)), by decide +kernel⟩
theorem ml_X3_81 : ML RX3 81 yX3_addWrite cX3_addWrite 4 none 3 := ⟨(lg_mem 288 (by decide +kernel) (by decide)), mc_X3_addWrite, (lg_mem 42 (by decide +kernel) (by decide)), by decide +kernel⟩
theorem ml_X3_24 : ML RX3 24 yX1_init cX1_init 4 none 3 := ⟨(lg_mem 294 (by decide +kernel) (by decide)), mc_X1_init, (lg_mem 47 (by decide +kernel) (by decide)), by decide +kernel⟩
theorem ml_X1_1 : Cond.methodLink RX1 1 Lib.objectInit ∈ lw_good ∧ Cond.instanceMethod Lib.objectInit ∈ lw_good ∧ Cond.code Lib.objectInit ⟨#[0xb1]⟩ 1 none ∈ lw_good := ⟨(lg_mem 297 (by decide +kernel) (by decide)), (lg_mem 54 (by decide +kernel) (by decide)), (lg_mem 55 (by decide +kernel) (by decide))⟩
theorem ml_X3_75 : ML RX3 75 yX1_withInfo cX1_withInfo 3 (some (.object "SnapRows$Entry")) 2 := ⟨(lg_mem 316 (by decide +kernel) (by decide)), mc_X1_withInfo, (lg_mem 47 (by decide +kernel) (by decide)), by decide +kernel⟩
theorem ml_X5_211 : ML RX5 211 yX0_valueAt cX0_valueAt 3 (some .int) 1 := ⟨(lg_mem 319 (by decide +kernel) (by decide)), mc_X0_valueAt, (lg_mem 43 (by decide +kernel) (by decide)), by decide +kernel⟩
theorem ml_X0_34 : ML RX0 34 yX0_valueOf cX0_valueOf 3 (some .int) 1 := ⟨(lg_mem 323 (by decide +kernel) (by decide)), mc_X0_valueOf, (lg_mem 43 (by decide +kernel) (by decide)), by decide +kernel⟩
theorem ml_X0_19 : ML RX0 19 yX1_withKey cX1_withKey 3 (some (.object "SnapRows$Entry")) 2 := ⟨(lg_mem 327 (by decide +kernel) (by decide)), mc_X1_withKey, (lg_mem 47 (by decide +kernel) (by decide)), by decide +kernel⟩
theorem ml_X5_71 : ML RX5 71 yX3_putDownLog cX3_putDownLog 1 none 0 := ⟨(lg_mem 328 (by decide +kernel) (by decide)), mc_X3_putDownLog, (lg_mem 42 (by decide +kernel) (by decide)), by decide +kernel⟩
theorem ml_L_23 : ML RL 23 yX5_next cX5_next 5 (some .int) 2 := ⟨(lg_mem 332 (by decide +kernel) (by decide)), mc_X5_next, (lg_mem 41 (by decide +kernel) (by decide)), by decide +kernel⟩
theorem ml_X5_77 : ML RX5 77 yX5_lookFrom cX5_lookFrom 5 (some .int) 2 := ⟨(lg_mem 336 (by decide +kernel) (by decide)), mc_X5_lookFrom, (lg_mem 41 (by decide +kernel) (by decide)), by decide +kernel⟩
theorem ml_L_28 : ML RL 28 yX5_write cX5_write 6 (some .int) 4 := ⟨(lg_mem 340 (by decide +kernel) (by decide)), mc_X5_write, (lg_mem 41 (by decide +kernel) (by decide)), by decide +kernel⟩
theorem ml_X5_80 : ML RX5 80 yX4_put cX4_put 4 (some .boolean) 2 := ⟨(lg_mem 344 (by decide +kernel) (by decide)), mc_X4_put, (lg_mem 45 (by decide +kernel) (by decide)), by decide +kernel⟩
theorem ml_X4_43 : ML RX4 43 yX4_placeOf cX4_placeOf 3 (some .int) 1 := ⟨(lg_mem 348 (by decide +kernel) (by decide)), mc_X4_placeOf, (lg_mem 45 (by decide +kernel) (by decide)), by decide +kernel⟩
theorem ml_X4_47 : ML RX4 47 yX4_putRow cX4_putRow 3 none 1 := ⟨(lg_mem 349 (by decide +kernel) (by decide)), mc_X4_putRow, (lg_mem 45 (by decide +kernel) (by decide)), by decide +kernel⟩
theorem ml_L_33 : ML RL 33 yX5_commit cX5_commit 3 (some .int) 1 := ⟨(lg_mem 353 (by decide +kernel) (by decide)), mc_X5_commit, (lg_mem 41 (by decide +kernel) (by decide)), by decide +kernel⟩
theorem ml_X5_86 : ML RX5 86 yX4_end cX4_end 1 none 0 := ⟨(lg_mem 357 (by decide +kernel) (by decide)), mc_X4_end, (lg_mem 45 (by decide +kernel) (by decide)), by decide +kernel⟩
theorem ml_L_37 : ML RL 37 yX5_step cX5_step 4 (some .int) 1 := ⟨(lg_mem 361 (by decide +kernel) (by decide)), mc_X5_step, (lg_mem 41 (by decide +kernel) (by decide)), by decide +kernel⟩
theorem ml_X5_89 : ML RX5 89 yX5_goOn cX5_goOn 2 (some .int) 1 := ⟨(lg_mem 365 (by decide +kernel) (by decide)), mc_X5_goOn, (lg_mem 41 (by decide +kernel) (by decide)), by decide +kernel⟩
theorem ml_X5_217 : ML RX5 217 yX5_lockRow cX5_lockRow 6 (some .int) 1 := ⟨(lg_mem 369 (by decide +kernel) (by decide)), mc_X5_lockRow, (lg_mem 41 (by decide +kernel) (by decide)), by decide +kernel⟩
theorem ml_X5_232 : ML RX5 232 yX5_lose cX5_lose 2 (some .int) 1 := ⟨(lg_mem 373 (by decide +kernel) (by decide)), mc_X5_lose, (lg_mem 41 (by decide +kernel) (by decide)), by decide +kernel⟩
theorem ml_X5_235 : ML RX5 235 yX3_addData cX3_addData 4 none 3 := ⟨(lg_mem 377 (by decide +kernel) (by decide)), mc_X3_addData, (lg_mem 42 (by decide +kernel) (by decide)), by decide +kernel⟩
theorem ml_X5_241 : ML RX5 241 yX3_addLock cX3_addLock 5 none 4 := ⟨(lg_mem 381 (by decide +kernel) (by decide)), mc_X3_addLock, (lg_mem 42 (by decide +kernel) (by decide)), by decide +kernel⟩
theorem ml_X5_220 : ML RX5 220 yX5_decide cX5_decide 3 (some .int) 1 := ⟨(lg_mem 385 (by decide +kernel) (by decide)), mc_X5_decide, (lg_mem 41 (by decide +kernel) (by decide)), by decide +kernel⟩
theorem ml_X5_245 : ML RX5 245 yX5_settleCells cX5_settleCells 5 none 2 := ⟨(lg_mem 389 (by decide +kernel) (by decide)), mc_X5_settleCells, (lg_mem 41 (by decide +kernel) (by decide)), by decide +kernel⟩
theorem ml_X5_249 : ML RX5 249 yX4_hasLockIn cX4_hasLockIn 2 (some .boolean) 1 := ⟨(lg_mem 393 (by decide +kernel) (by decide)), mc_X4_hasLockIn, (lg_mem 45 (by decide +kernel) (by decide)), by decide +kernel⟩
theorem ml_X5_252 : ML RX5 252 yX3_addWrite cX3_addWrite 4 none 3 := ⟨(lg_mem 397 (by decide +kernel) (by decide)), mc_X3_addWrite, (lg_mem 42 (by decide +kernel) (by decide)), by decide +kernel⟩
theorem ml_X5_255 : ML RX5 255 yX3_dropLock cX3_dropLock 2 none 1 := ⟨(lg_mem 398 (by decide +kernel) (by decide)), mc_X3_dropLock, (lg_mem 42 (by decide +kernel) (by decide)), by decide +kernel⟩
theorem ml_X5_223 : ML RX5 223 yX5_settleRow cX5_settleRow 2 (some .int) 1 := ⟨(lg_mem 399 (by decide +kernel) (by decide)), mc_X5_settleRow, (lg_mem 41 (by decide +kernel) (by decide)), by decide +kernel⟩
theorem ml_X5_226 : ML RX5 226 yX5_undoRow cX5_undoRow 3 (some .int) 1 := ⟨(lg_mem 403 (by decide +kernel) (by decide)), mc_X5_undoRow, (lg_mem 41 (by decide +kernel) (by decide)), by decide +kernel⟩
theorem ml_X5_258 : ML RX5 258 yX5_undoCells cX5_undoCells 7 (some .boolean) 2 := ⟨(lg_mem 407 (by decide +kernel) (by decide)), mc_X5_undoCells, (lg_mem 41 (by decide +kernel) (by decide)), by decide +kernel⟩
theorem ml_X5_262 : ML RX5 262 yX3_undo cX3_undo 4 none 2 := ⟨(lg_mem 411 (by decide +kernel) (by decide)), mc_X3_undo, (lg_mem 42 (by decide +kernel) (by decide)), by decide +kernel⟩
theorem ml_L_41 : ML RL 41 yX5_crash cX5_crash 4 (some .int) 1 := ⟨(lg_mem 412 (by decide +kernel) (by decide)), mc_X5_crash, (lg_mem 41 (by decide +kernel) (by decide)), by decide +kernel⟩
theorem ml_L_45 : ML RL 45 yX5_tick cX5_tick 2 (some .int) 1 := ⟨(lg_mem 416 (by decide +kernel) (by decide)), mc_X5_tick, (lg_mem 41 (by decide +kernel) (by decide)), by decide +kernel⟩
theorem ml_X5_93 : ML RX5 93 yX5_isTime cX5_isTime 1 (some .boolean) 1 := ⟨(lg_mem 420 (by decide +kernel) (by decide)), mc_X5_isTime, (lg_mem 41 (by decide +kernel) (by decide)), by decide +kernel⟩
theorem ml_L_49 : ML RL 49 yX5_timeout cX5_timeout 3 (some .int) 1 := ⟨(lg_mem 425 (by decide +kernel) (by decide)), mc_X5_timeout, (lg_mem 41 (by decide +kernel) (by decide)), by decide +kernel⟩
theorem ml_L_53 : ML RL 53 yX5_fallOracle cX5_fallOracle 1 (some .int) 0 := ⟨(lg_mem 429 (by decide +kernel) (by decide)), mc_X5_fallOracle, (lg_mem 41 (by decide +kernel) (by decide)), by decide +kernel⟩
theorem ml_X5_99 : ML RX5 99 yX2_restart cX2_restart 1 (some .int) 0 := ⟨(lg_mem 433 (by decide +kernel) (by decide)), mc_X2_restart, (lg_mem 44 (by decide +kernel) (by decide)), by decide +kernel⟩
theorem ml_L_58 : ML RL 58 yX5_fall cX5_fall 1 (some .int) 0 := ⟨(lg_mem 437 (by decide +kernel) (by decide)), mc_X5_fall, (lg_mem 41 (by decide +kernel) (by decide)), by decide +kernel⟩
theorem ml_L_62 : ML RL 62 yX5_sweep cX5_sweep 3 (some .int) 1 := ⟨(lg_mem 441 (by decide +kernel) (by decide)), mc_X5_sweep, (lg_mem 41 (by decide +kernel) (by decide)), by decide +kernel⟩
theorem ml_X5_108 : ML RX5 108 yX5_isBeginBelow cX5_isBeginBelow 3 (some .boolean) 1 := ⟨(lg_mem 445 (by decide +kernel) (by decide)), mc_X5_isBeginBelow, (lg_mem 41 (by decide +kernel) (by decide)), by decide +kernel⟩
theorem ml_X5_111 : ML RX5 111 yX3_hasLockNotAbove cX3_hasLockNotAbove 3 (some .boolean) 1 := ⟨(lg_mem 449 (by decide +kernel) (by decide)), mc_X3_hasLockNotAbove, (lg_mem 42 (by decide +kernel) (by decide)), by decide +kernel⟩
theorem ml_X3_93 : ML RX3 93 yX0_isLocked cX0_isLocked 1 (some .boolean) 0 := ⟨(lg_mem 453 (by decide +kernel) (by decide)), mc_X0_isLocked, (lg_mem 43 (by decide +kernel) (by decide)), by decide +kernel⟩
theorem ml_X5_114 : ML RX5 114 yX3_dropUnseen cX3_dropUnseen 4 (some .int) 1 := ⟨(lg_mem 454 (by decide +kernel) (by decide)), mc_X3_dropUnseen, (lg_mem 42 (by decide +kernel) (by decide)), by decide +kernel⟩
theorem ml_X3_97 : ML RX3 97 yX3_dropUnseenOf cX3_dropUnseenOf 5 none 2 := ⟨(lg_mem 458 (by decide +kernel) (by decide)), mc_X3_dropUnseenOf, (lg_mem 42 (by decide +kernel) (by decide)), by decide +kernel⟩
theorem ml_X3_103 : ML RX3 103 yX3_dropWrite cX3_dropWrite 3 none 2 := ⟨(lg_mem 462 (by decide +kernel) (by decide)), mc_X3_dropWrite, (lg_mem 42 (by decide +kernel) (by decide)), by decide +kernel⟩
theorem ml_X3_107 : ML RX3 107 yX0_valueOf cX0_valueOf 3 (some .int) 1 := ⟨(lg_mem 466 (by decide +kernel) (by decide)), mc_X0_valueOf, (lg_mem 43 (by decide +kernel) (by decide)), by decide +kernel⟩
theorem ml_L_66 : ML RL 66 yX5_state cX5_state 4 (some .int) 2 := ⟨(lg_mem 467 (by decide +kernel) (by decide)), mc_X5_state, (lg_mem 41 (by decide +kernel) (by decide)), by decide +kernel⟩
theorem ml_L_70 : ML RL 70 yX5_lock cX5_lock 5 (some .int) 3 := ⟨(lg_mem 471 (by decide +kernel) (by decide)), mc_X5_lock, (lg_mem 41 (by decide +kernel) (by decide)), by decide +kernel⟩
theorem ml_L_74 : ML RL 74 yX5_versions cX5_versions 3 (some .int) 2 := ⟨(lg_mem 475 (by decide +kernel) (by decide)), mc_X5_versions, (lg_mem 41 (by decide +kernel) (by decide)), by decide +kernel⟩
theorem ml_X5_157 : ML RX5 157 yX1_count cX1_count 3 (some .int) 1 := ⟨(lg_mem 479 (by decide +kernel) (by decide)), mc_X1_count, (lg_mem 47 (by decide +kernel) (by decide)), by decide +kernel⟩
theorem ml_L_78 : ML RL 78 yX5_version cX5_version 7 (some .int) 4 := ⟨(lg_mem 482 (by decide +kernel) (by decide)), mc_X5_version, (lg_mem 41 (by decide +kernel) (by decide)), by decide +kernel⟩
theorem ml_X5_163 : ML RX5 163 yX1_atPlace cX1_atPlace 4 (some (.object "SnapRows$Entry")) 2 := ⟨(lg_mem 486 (by decide +kernel) (by decide)), mc_X1_atPlace, (lg_mem 47 (by decide +kernel) (by decide)), by decide +kernel⟩
theorem ml_X5_173 : ML RX5 173 yX0_valueOf cX0_valueOf 3 (some .int) 1 := ⟨(lg_mem 489 (by decide +kernel) (by decide)), mc_X0_valueOf, (lg_mem 43 (by decide +kernel) (by decide)), by decide +kernel⟩
theorem ml_L_82 : ML RL 82 yX5_data cX5_data 5 (some .int) 3 := ⟨(lg_mem 490 (by decide +kernel) (by decide)), mc_X5_data, (lg_mem 41 (by decide +kernel) (by decide)), by decide +kernel⟩
theorem ml_L_86 : ML RL 86 yX5_told cX5_told 2 (some .int) 1 := ⟨(lg_mem 494 (by decide +kernel) (by decide)), mc_X5_told, (lg_mem 41 (by decide +kernel) (by decide)), by decide +kernel⟩
theorem ml_L_12 : ML RL 12 yX6_init cX6_init 1 none 0 := ⟨(lg_mem 500 (by decide +kernel) (by decide)), mc_X6_init, (lg_mem 46 (by decide +kernel) (by decide)), by decide +kernel⟩
theorem ml_X6_1 : Cond.methodLink RX6 1 Lib.objectInit ∈ lw_good ∧ Cond.instanceMethod Lib.objectInit ∈ lw_good ∧ Cond.code Lib.objectInit ⟨#[0xb1]⟩ 1 none ∈ lw_good := ⟨(lg_mem 503 (by decide +kernel) (by decide)), (lg_mem 54 (by decide +kernel) (by decide)), (lg_mem 55 (by decide +kernel) (by decide))⟩
theorem ml_L_17 : ML RL 17 yX6_begin cX6_begin 2 (some .int) 1 := ⟨(lg_mem 602 (by decide +kernel) (by decide)), mc_X6_begin, (lg_mem 46 (by decide +kernel) (by decide)), by decide +kernel⟩
theorem ml_X6_138 : ML RX6 138 yX6_noClient cX6_noClient 1 (some .boolean) 1 := ⟨(lg_mem 606 (by decide +kernel) (by decide)), mc_X6_noClient, (lg_mem 46 (by decide +kernel) (by decide)), by decide +kernel⟩
theorem ml_X6_134 : ML RX6 134 yX6_in cX6_in 3 (some .boolean) 3 := ⟨(lg_mem 609 (by decide +kernel) (by decide)), mc_X6_in, (lg_mem 46 (by decide +kernel) (by decide)), by decide +kernel⟩
theorem ml_X6_141 : ML RX6 141 yX6_give cX6_give 2 (some .int) 0 := ⟨(lg_mem 612 (by decide +kernel) (by decide)), mc_X6_give, (lg_mem 46 (by decide +kernel) (by decide)), by decide +kernel⟩
theorem ml_L_22 : ML RL 22 yX6_read cX6_read 4 (some .int) 3 := ⟨(lg_mem 616 (by decide +kernel) (by decide)), mc_X6_read, (lg_mem 46 (by decide +kernel) (by decide)), by decide +kernel⟩
theorem ml_X6_145 : ML RX6 145 yX6_noCell cX6_noCell 2 (some .boolean) 2 := ⟨(lg_mem 620 (by decide +kernel) (by decide)), mc_X6_noCell, (lg_mem 46 (by decide +kernel) (by decide)), by decide +kernel⟩
theorem ml_X6_149 : ML RX6 149 yX6_see cX6_see 7 (some .int) 2 := ⟨(lg_mem 623 (by decide +kernel) (by decide)), mc_X6_see, (lg_mem 46 (by decide +kernel) (by decide)), by decide +kernel⟩
theorem ml_X6_121 : ML RX6 121 yX6_ownAt cX6_ownAt 4 (some .int) 2 := ⟨(lg_mem 627 (by decide +kernel) (by decide)), mc_X6_ownAt, (lg_mem 46 (by decide +kernel) (by decide)), by decide +kernel⟩
theorem ml_X6_124 : ML RX6 124 yX6_isDecided cX6_isDecided 2 (some .boolean) 1 := ⟨(lg_mem 631 (by decide +kernel) (by decide)), mc_X6_isDecided, (lg_mem 46 (by decide +kernel) (by decide)), by decide +kernel⟩
theorem ml_X6_128 : ML RX6 128 yX6_isLate cX6_isLate 3 (some .boolean) 1 := ⟨(lg_mem 635 (by decide +kernel) (by decide)), mc_X6_isLate, (lg_mem 46 (by decide +kernel) (by decide)), by decide +kernel⟩
theorem ml_X6_131 : ML RX6 131 yX6_clean cX6_clean 5 none 1 := ⟨(lg_mem 639 (by decide +kernel) (by decide)), mc_X6_clean, (lg_mem 46 (by decide +kernel) (by decide)), by decide +kernel⟩
theorem ml_X6_109 : ML RX6 109 yX6_dropLock cX6_dropLock 2 none 1 := ⟨(lg_mem 643 (by decide +kernel) (by decide)), mc_X6_dropLock, (lg_mem 46 (by decide +kernel) (by decide)), by decide +kernel⟩
theorem ml_X6_113 : ML RX6 113 yX6_dropData cX6_dropData 4 none 2 := ⟨(lg_mem 647 (by decide +kernel) (by decide)), mc_X6_dropData, (lg_mem 46 (by decide +kernel) (by decide)), by decide +kernel⟩
theorem ml_X6_99 : ML RX6 99 yX6_dataAt cX6_dataAt 4 (some .int) 2 := ⟨(lg_mem 651 (by decide +kernel) (by decide)), mc_X6_dataAt, (lg_mem 46 (by decide +kernel) (by decide)), by decide +kernel⟩
theorem ml_X6_117 : ML RX6 117 yX6_addWrite cX6_addWrite 5 none 4 := ⟨(lg_mem 655 (by decide +kernel) (by decide)), mc_X6_addWrite, (lg_mem 46 (by decide +kernel) (by decide)), by decide +kernel⟩
theorem ml_X6_152 : ML RX6 152 yX6_end cX6_end 2 (some .int) 1 := ⟨(lg_mem 659 (by decide +kernel) (by decide)), mc_X6_end, (lg_mem 46 (by decide +kernel) (by decide)), by decide +kernel⟩
theorem ml_L_27 : ML RL 27 yX6_next cX6_next 5 (some .int) 2 := ⟨(lg_mem 663 (by decide +kernel) (by decide)), mc_X6_next, (lg_mem 46 (by decide +kernel) (by decide)), by decide +kernel⟩
theorem ml_L_32 : ML RL 32 yX6_write cX6_write 6 (some .int) 4 := ⟨(lg_mem 667 (by decide +kernel) (by decide)), mc_X6_write, (lg_mem 46 (by decide +kernel) (by decide)), by decide +kernel⟩
theorem ml_L_36 : ML RL 36 yX6_commit cX6_commit 2 (some .int) 1 := ⟨(lg_mem 671 (by decide +kernel) (by decide)), mc_X6_commit, (lg_mem 46 (by decide +kernel) (by decide)), by decide +kernel⟩
theorem ml_L_40 : ML RL 40 yX6_step cX6_step 2 (some .int) 1 := ⟨(lg_mem 675 (by decide +kernel) (by decide)), mc_X6_step, (lg_mem 46 (by decide +kernel) (by decide)), by decide +kernel⟩
theorem ml_X6_156 : ML RX6 156 yX6_lockRow cX6_lockRow 6 (some .int) 1 := ⟨(lg_mem 679 (by decide +kernel) (by decide)), mc_X6_lockRow, (lg_mem 46 (by decide +kernel) (by decide)), by decide +kernel⟩
theorem ml_X6_165 : ML RX6 165 yX6_rowOf cX6_rowOf 8 (some .int) 2 := ⟨(lg_mem 683 (by decide +kernel) (by decide)), mc_X6_rowOf, (lg_mem 46 (by decide +kernel) (by decide)), by decide +kernel⟩
theorem ml_X6_168 : ML RX6 168 yX6_decide cX6_decide 4 (some .int) 1 := ⟨(lg_mem 687 (by decide +kernel) (by decide)), mc_X6_decide, (lg_mem 46 (by decide +kernel) (by decide)), by decide +kernel⟩
theorem ml_X6_171 : ML RX6 171 yX6_undoing cX6_undoing 2 (some .int) 1 := ⟨(lg_mem 691 (by decide +kernel) (by decide)), mc_X6_undoing, (lg_mem 46 (by decide +kernel) (by decide)), by decide +kernel⟩
theorem ml_X6_184 : ML RX6 184 yX6_settleRow cX6_settleRow 5 none 3 := ⟨(lg_mem 695 (by decide +kernel) (by decide)), mc_X6_settleRow, (lg_mem 46 (by decide +kernel) (by decide)), by decide +kernel⟩
theorem ml_X6_174 : ML RX6 174 yX6_records cX6_records 1 (some .int) 0 := ⟨(lg_mem 699 (by decide +kernel) (by decide)), mc_X6_records, (lg_mem 46 (by decide +kernel) (by decide)), by decide +kernel⟩
theorem ml_X6_177 : ML RX6 177 yX6_addData cX6_addData 4 none 3 := ⟨(lg_mem 703 (by decide +kernel) (by decide)), mc_X6_addData, (lg_mem 46 (by decide +kernel) (by decide)), by decide +kernel⟩
theorem ml_X6_181 : ML RX6 181 yX6_addLock cX6_addLock 4 none 3 := ⟨(lg_mem 707 (by decide +kernel) (by decide)), mc_X6_addLock, (lg_mem 46 (by decide +kernel) (by decide)), by decide +kernel⟩
theorem ml_X6_159 : ML RX6 159 yX6_settle cX6_settle 2 (some .int) 1 := ⟨(lg_mem 711 (by decide +kernel) (by decide)), mc_X6_settle, (lg_mem 46 (by decide +kernel) (by decide)), by decide +kernel⟩
theorem ml_X6_162 : ML RX6 162 yX6_undo cX6_undo 6 (some .int) 1 := ⟨(lg_mem 715 (by decide +kernel) (by decide)), mc_X6_undo, (lg_mem 46 (by decide +kernel) (by decide)), by decide +kernel⟩
theorem ml_L_44 : ML RL 44 yX6_crash cX6_crash 3 (some .int) 1 := ⟨(lg_mem 719 (by decide +kernel) (by decide)), mc_X6_crash, (lg_mem 46 (by decide +kernel) (by decide)), by decide +kernel⟩
theorem ml_L_48 : ML RL 48 yX6_tick cX6_tick 2 (some .int) 1 := ⟨(lg_mem 723 (by decide +kernel) (by decide)), mc_X6_tick, (lg_mem 46 (by decide +kernel) (by decide)), by decide +kernel⟩
theorem ml_L_52 : ML RL 52 yX6_timeout cX6_timeout 3 (some .int) 1 := ⟨(lg_mem 729 (by decide +kernel) (by decide)), mc_X6_timeout, (lg_mem 46 (by decide +kernel) (by decide)), by decide +kernel⟩
theorem ml_L_57 : ML RL 57 yX6_fallOracle cX6_fallOracle 1 (some .int) 0 := ⟨(lg_mem 733 (by decide +kernel) (by decide)), mc_X6_fallOracle, (lg_mem 46 (by decide +kernel) (by decide)), by decide +kernel⟩
theorem ml_L_61 : ML RL 61 yX6_fall cX6_fall 1 (some .int) 0 := ⟨(lg_mem 737 (by decide +kernel) (by decide)), mc_X6_fall, (lg_mem 46 (by decide +kernel) (by decide)), by decide +kernel⟩
theorem ml_L_65 : ML RL 65 yX6_sweep cX6_sweep 4 (some .int) 1 := ⟨(lg_mem 741 (by decide +kernel) (by decide)), mc_X6_sweep, (lg_mem 46 (by decide +kernel) (by decide)), by decide +kernel⟩
theorem ml_X6_192 : ML RX6 192 yX6_sweepCell cX6_sweepCell 7 none 2 := ⟨(lg_mem 745 (by decide +kernel) (by decide)), mc_X6_sweepCell, (lg_mem 46 (by decide +kernel) (by decide)), by decide +kernel⟩
theorem ml_X6_195 : ML RX6 195 yX6_dropWrite cX6_dropWrite 2 none 1 := ⟨(lg_mem 749 (by decide +kernel) (by decide)), mc_X6_dropWrite, (lg_mem 46 (by decide +kernel) (by decide)), by decide +kernel⟩
theorem ml_L_69 : ML RL 69 yX6_state cX6_state 3 (some .int) 2 := ⟨(lg_mem 753 (by decide +kernel) (by decide)), mc_X6_state, (lg_mem 46 (by decide +kernel) (by decide)), by decide +kernel⟩
theorem ml_L_73 : ML RL 73 yX6_lock cX6_lock 5 (some .int) 3 := ⟨(lg_mem 757 (by decide +kernel) (by decide)), mc_X6_lock, (lg_mem 46 (by decide +kernel) (by decide)), by decide +kernel⟩
theorem ml_L_77 : ML RL 77 yX6_versions cX6_versions 5 (some .int) 2 := ⟨(lg_mem 761 (by decide +kernel) (by decide)), mc_X6_versions, (lg_mem 46 (by decide +kernel) (by decide)), by decide +kernel⟩
theorem ml_L_81 : ML RL 81 yX6_version cX6_version 11 (some .int) 4 := ⟨(lg_mem 765 (by decide +kernel) (by decide)), mc_X6_version, (lg_mem 46 (by decide +kernel) (by decide)), by decide +kernel⟩
theorem ml_L_85 : ML RL 85 yX6_data cX6_data 7 (some .int) 3 := ⟨(lg_mem 769 (by decide +kernel) (by decide)), mc_X6_data, (lg_mem 46 (by decide +kernel) (by decide)), by decide +kernel⟩
theorem ml_L_89 : ML RL 89 yX6_told cX6_told 2 (some .int) 1 := ⟨(lg_mem 773 (by decide +kernel) (by decide)), mc_X6_told, (lg_mem 46 (by decide +kernel) (by decide)), by decide +kernel⟩
theorem cl_L_7 : Cond.classLink RL 7 RX5 ∈ lw_good := (lg_mem 48 (by decide +kernel) (by decide))
theorem nl_L_7 : NL RL 7 5 6 := ⟨RX5, TX5, tyX5, rfl, by decide, rfl, inG5, tyX5_ok, (fun j hj => by rcases (show j = 0 ∨ j = 1 ∨ j = 2 ∨ j = 3 ∨ j = 4 ∨ j = 5 by omega) with rfl | rfl | rfl | rfl | rfl | rfl <;> rfl), cl_L_7, (lg_mem 49 (by decide +kernel) (by decide)), (lg_mem 41 (by decide +kernel) (by decide))⟩
theorem cl_X5_7 : Cond.classLink RX5 7 RX3 ∈ lw_good := (lg_mem 56 (by decide +kernel) (by decide))
theorem nl_X5_7 : NL RX5 7 3 6 := ⟨RX3, TX3, tyX3, rfl, by decide, rfl, inG3, tyX3_ok, (fun j hj => by rcases (show j = 0 ∨ j = 1 ∨ j = 2 ∨ j = 3 ∨ j = 4 ∨ j = 5 by omega) with rfl | rfl | rfl | rfl | rfl | rfl <;> rfl), cl_X5_7, (lg_mem 57 (by decide +kernel) (by decide)), (lg_mem 42 (by decide +kernel) (by decide))⟩
theorem cl_X3_9 : Cond.classLink RX3 9 RX0 ∈ lw_good := (lg_mem 62 (by decide +kernel) (by decide))
theorem nl_X3_9 : NL RX3 9 0 5 := ⟨RX0, TX0, tyX0, rfl, by decide, rfl, inG0, tyX0_ok, (fun j hj => by rcases (show j = 0 ∨ j = 1 ∨ j = 2 ∨ j = 3 ∨ j = 4 by omega) with rfl | rfl | rfl | rfl | rfl <;> rfl), cl_X3_9, (lg_mem 64 (by decide +kernel) (by decide)), (lg_mem 43 (by decide +kernel) (by decide))⟩
theorem cl_X5_16 : Cond.classLink RX5 16 RX2 ∈ lw_good := (lg_mem 119 (by decide +kernel) (by decide))
theorem nl_X5_16 : NL RX5 16 2 3 := ⟨RX2, TX2, tyX2, rfl, by decide, rfl, inG2, tyX2_ok, (fun j hj => by rcases (show j = 0 ∨ j = 1 ∨ j = 2 by omega) with rfl | rfl | rfl <;> rfl), cl_X5_16, (lg_mem 120 (by decide +kernel) (by decide)), (lg_mem 44 (by decide +kernel) (by decide))⟩
theorem cl_X5_23 : Cond.classLink RX5 23 RX4 ∈ lw_good := (lg_mem 137 (by decide +kernel) (by decide))
theorem nl_X5_23 : NL RX5 23 4 10 := ⟨RX4, TX4, tyX4, rfl, by decide, rfl, inG4, tyX4_ok, (fun j hj => by rcases (show j = 0 ∨ j = 1 ∨ j = 2 ∨ j = 3 ∨ j = 4 ∨ j = 5 ∨ j = 6 ∨ j = 7 ∨ j = 8 ∨ j = 9 by omega) with rfl | rfl | rfl | rfl | rfl | rfl | rfl | rfl | rfl | rfl <;> rfl), cl_X5_23, (lg_mem 139 (by decide +kernel) (by decide)), (lg_mem 45 (by decide +kernel) (by decide))⟩
theorem ac_int : Cond.arrayClass .int ∈ lw_good := (lg_mem 185 (by decide +kernel) (by decide))
theorem cl_X3_18 : Cond.classLink RX3 18 RX1 ∈ lw_good := (lg_mem 292 (by decide +kernel) (by decide))
theorem nl_X3_18 : NL RX3 18 1 3 := ⟨RX1, TX1, tyX1, rfl, by decide, rfl, inG1, tyX1_ok, (fun j hj => by rcases (show j = 0 ∨ j = 1 ∨ j = 2 by omega) with rfl | rfl | rfl <;> rfl), cl_X3_18, (lg_mem 293 (by decide +kernel) (by decide)), (lg_mem 47 (by decide +kernel) (by decide))⟩
theorem wc_X5_197 : Cond.constant RX5 197 (100000) ∈ lw_good := (lg_mem 423 (by decide +kernel) (by decide))
theorem wc_X5_98 : Cond.constant RX5 98 (2147483647) ∈ lw_good := (lg_mem 424 (by decide +kernel) (by decide))
theorem cl_L_10 : Cond.classLink RL 10 RX6 ∈ lw_good := (lg_mem 498 (by decide +kernel) (by decide))
theorem nl_L_10 : NL RL 10 6 32 := ⟨RX6, TX6, tyX6, rfl, by decide, rfl, inG6, tyX6_ok, (fun j hj => by rcases (show j = 0 ∨ j = 1 ∨ j = 2 ∨ j = 3 ∨ j = 4 ∨ j = 5 ∨ j = 6 ∨ j = 7 ∨ j = 8 ∨ j = 9 ∨ j = 10 ∨ j = 11 ∨ j = 12 ∨ j = 13 ∨ j = 14 ∨ j = 15 ∨ j = 16 ∨ j = 17 ∨ j = 18 ∨ j = 19 ∨ j = 20 ∨ j = 21 ∨ j = 22 ∨ j = 23 ∨ j = 24 ∨ j = 25 ∨ j = 26 ∨ j = 27 ∨ j = 28 ∨ j = 29 ∨ j = 30 ∨ j = 31 by omega) with rfl | rfl | rfl | rfl | rfl | rfl | rfl | rfl | rfl | rfl | rfl | rfl | rfl | rfl | rfl | rfl | rfl | rfl | rfl | rfl | rfl | rfl | rfl | rfl | rfl | rfl | rfl | rfl | rfl | rfl | rfl | rfl <;> rfl), cl_L_10, (lg_mem 499 (by decide +kernel) (by decide)), (lg_mem 46 (by decide +kernel) (by decide))⟩
theorem ac_boolean : Cond.arrayClass .boolean ∈ lw_good := (lg_mem 601 (by decide +kernel) (by decide))
theorem wc_X6_190 : Cond.constant RX6 190 (100000) ∈ lw_good := (lg_mem 727 (by decide +kernel) (by decide))
theorem wc_X6_191 : Cond.constant RX6 191 (2147483647) ∈ lw_good := (lg_mem 728 (by decide +kernel) (by decide))
end
section
def F_X0_init (a0 : Nat) (σ : HS) : Option (Unit × HS) :=
  if kd σ a0 = 1 then (some ((), σ)) else none
theorem mo_F_X0_init (a0 : Nat) (σ : HS) : Mo σ (F_X0_init a0 σ) := by
  unfold F_X0_init
  exact (mo_ite mo_ret mo_none)
set_option maxHeartbeats 4000000 in
set_option maxRecDepth 100000 in
theorem c_X0_init (l : Launch) (D : va_G) (dA : Nat → ClassId) (base : Nat) (a0 : Nat) {σ τ : HS} {r : Unit} (hF : F_X0_init a0 σ = some (r, τ)) : CT l yX0_init cX0_init 1 none 1 20 D dA base [vr a0] none σ τ := by
  refine CT.of (lv := [(0, vr a0)]) (by decide) (vR vN) (Nat.le_of_ble_eq_true rfl) rfl ?_
  intro p e s m args below meth c ls cx hl h
  have cx : CX p s m args meth c cX0_init 1 none RX0 "<init>" D dA base := cx
  have g : LE σ σ := LE.rf
  obtain ⟨hx, hb, -⟩ := id cx
  unfold F_X0_init at hF
  refine x_aload_n hx hb dX0_init_0 rfl (lv_at hl 0 rfl) ?_
  obtain ⟨hq1, hF⟩ := ifs hF
  refine x_obj cx h ml_X0_3 hq1 hl.1 ⟨Nat.le_of_ble_eq_true rfl, Nat.le_of_ble_eq_true rfl⟩ (s8 sN (by decide)) dX0_init_1 ?_
  obtain ⟨rfl, rfl⟩ := rts hF
  exact x_vret cx h dX0_init_4
def B_X0_isLocked_12  (y0 : Int32) (σ : HS) : Option (Int32 × HS) :=
  if y0 = 0 ∨ y0 = 1 then (some (y0, σ)) else none
theorem mo_B_X0_isLocked_12  (y0 : Int32) (σ : HS) : Mo σ (B_X0_isLocked_12  y0 σ) := by
  unfold B_X0_isLocked_12
  exact (mo_ite mo_ret mo_none)
set_option maxHeartbeats 4000000 in
set_option maxRecDepth 100000 in
theorem w_X0_isLocked_12 {p : Program} {l : Launch} {e : Env} {s : State} {m : MethodId} {args : Array Value} {below : List Frame} {meth : Method} {c : Code} {D : va_G} {dA : Nat → ClassId} {base : Nat} {σ0 τ : HS} {r : Int32} (cx : CX p s m args meth c cX0_isLocked 1 (some .boolean) RX0 "isLocked" D dA base)  (y0 : Int32) {σ : HS} {H : Heap} {locs : List Loc} {ls : Array Slot} (h : Wd D dA base σ s H locs) (g : LE σ0 σ) (hl : lv_has ls 1 []) (hF : B_X0_isLocked_12  y0 σ = some (r, τ)) : WG p l e s m args below meth c D dA base 0 0 (some (.int r)) σ0 τ σ H locs 12 ls [.int y0] := by
  obtain ⟨hx, hb, -⟩ := id cx
  unfold B_X0_isLocked_12 at hF
  obtain ⟨hz1, hF⟩ := ifs hF
  obtain ⟨rfl, rfl⟩ := rts hF
  exact x_zret cx h hz1 dX0_isLocked_12
def F_X0_isLocked (a0 : Nat) (σ : HS) : Option (Int32 × HS) :=
  if kd σ a0 = 1 then (if (gi σ 2 a0) = 0 then (B_X0_isLocked_12  (0 : Int32) σ) else (B_X0_isLocked_12  (1 : Int32) σ)) else none
theorem mo_F_X0_isLocked (a0 : Nat) (σ : HS) : Mo σ (F_X0_isLocked a0 σ) := by
  unfold F_X0_isLocked
  exact (mo_ite (mo_ite (mo_B_X0_isLocked_12  (0 : Int32) _) (mo_B_X0_isLocked_12  (1 : Int32) _)) mo_none)
set_option maxHeartbeats 4000000 in
set_option maxRecDepth 100000 in
theorem c_X0_isLocked (l : Launch) (D : va_G) (dA : Nat → ClassId) (base : Nat) (a0 : Nat) {σ τ : HS} {r : Int32} (hF : F_X0_isLocked a0 σ = some (r, τ)) : CT l yX0_isLocked cX0_isLocked 1 (some .boolean) 0 0 D dA base [vr a0] (some (.int r)) σ τ := by
  refine CT.of (lv := [(0, vr a0)]) (by decide) (vR vN) (Nat.le_of_ble_eq_true rfl) rfl ?_
  intro p e s m args below meth c ls cx hl h
  have cx : CX p s m args meth c cX0_isLocked 1 (some .boolean) RX0 "isLocked" D dA base := cx
  have g : LE σ σ := LE.rf
  obtain ⟨hx, hb, -⟩ := id cx
  unfold F_X0_isLocked at hF
  refine x_aload_n hx hb dX0_isLocked_0 rfl (lv_at hl 0 rfl) ?_
  obtain ⟨hq1, hF⟩ := ifs hF
  refine x_geti cx h fa_X0_9 (f := 2) rfl hq1 dX0_isLocked_1 ?_
  refine lv_if_eq (tgt := 11) hx hb dX0_isLocked_4 (by decide) (fun c2 => ?_) (fun c2 => ?_)
  · replace hF := ifp c2 hF
    refine lv_iconst (v := (0 : Int32)) hx hb dX0_isLocked_11 (by decide) ?_
    exact w_X0_isLocked_12 (σ := σ) cx   (0 : Int32) h g (lv_sub hl [] rfl) hF
  · replace hF := ifn c2 hF
    refine lv_iconst (v := (1 : Int32)) hx hb dX0_isLocked_7 (by decide) ?_
    refine lv_goto (tgt := 12) hx hb dX0_isLocked_8 (by decide) ?_
    exact w_X0_isLocked_12 (σ := σ) cx   (1 : Int32) h g (lv_sub hl [] rfl) hF
def B_X1_withKey_2 (k2 : Int32 → Nat → HS → Option (Nat × HS)) (x1 : Int32) (x2 : Nat) (σ : HS) : Option (Nat × HS) :=
  if x2 = 0 then (some (0, σ)) else (if kd σ x2 = 2 then (if (gi σ 40 x2) = x1 then (some (x2, σ)) else (k2 x1 (gr σ 42 x2) σ)) else none)
theorem mo_B_X1_withKey_2 {k2 : Int32 → Nat → HS → Option (Nat × HS)} (mk2 : ∀ x1 x2 σ, Mo σ (k2 x1 x2 σ)) (x1 : Int32) (x2 : Nat) (σ : HS) : Mo σ (B_X1_withKey_2 k2 x1 x2 σ) := by
  unfold B_X1_withKey_2
  exact (mo_ite mo_ret (mo_ite (mo_ite mo_ret (mk2 x1 (gr σ 42 x2) _)) mo_none))
set_option maxHeartbeats 4000000 in
set_option maxRecDepth 100000 in
theorem w_X1_withKey_2 {p : Program} {l : Launch} {e : Env} {s : State} {m : MethodId} {args : Array Value} {below : List Frame} {meth : Method} {c : Code} {D : va_G} {dA : Nat → ClassId} {base : Nat} {σ0 τ : HS} {r : Nat} (cx : CX p s m args meth c cX1_withKey 3 (some (.object "SnapRows$Entry")) RX1 "withKey" D dA base) {k2 : Int32 → Nat → HS → Option (Nat × HS)} (mk2 : ∀ x1 x2 σ, Mo σ (k2 x1 x2 σ)) (hk2 : ∀ x1 x2 σ H locs ls, Wd D dA base σ s H locs → LE σ0 σ → lv_has ls 3 [(1, .int x1), (2, vr x2)] → k2 x1 x2 σ = some (r, τ) → WG p l e s m args below meth c D dA base 0 0 (some (vr r)) σ0 τ σ H locs 2 ls []) (x1 : Int32) (x2 : Nat) {σ : HS} {H : Heap} {locs : List Loc} {ls : Array Slot} (h : Wd D dA base σ s H locs) (g : LE σ0 σ) (hl : lv_has ls 3 [(1, .int x1), (2, vr x2)]) (hF : B_X1_withKey_2 k2 x1 x2 σ = some (r, τ)) : WG p l e s m args below meth c D dA base 0 0 (some (vr r)) σ0 τ σ H locs 2 ls [] := by
  obtain ⟨hx, hb, -⟩ := id cx
  unfold B_X1_withKey_2 at hF
  refine x_aload_n hx hb dX1_withKey_2 rfl (lv_at hl 1 rfl) ?_
  refine x_ifnull (tgt := 24) hx hb dX1_withKey_3 (by decide) (fun c1 => ?_) (fun c1 => ?_)
  · replace hF := ifp c1 hF
    refine x_null hx hb dX1_withKey_24 ?_
    obtain ⟨rfl, rfl⟩ := rts hF
    exact x_aret cx h dX1_withKey_25
  · replace hF := ifn c1 hF
    refine x_aload_n hx hb dX1_withKey_6 rfl (lv_at hl 1 rfl) ?_
    obtain ⟨hq2, hF⟩ := ifs hF
    refine x_geti cx h fa_X1_7 (f := 40) rfl hq2 dX1_withKey_7 ?_
    refine lv_iload_n hx hb dX1_withKey_10 rfl (lv_at hl 0 rfl) ?_
    refine lv_icmp_ne (tgt := 16) hx hb dX1_withKey_11 (by decide) (fun c3 => ?_) (fun c3 => ?_)
    · replace hF := ifn c3 hF
      refine x_aload_n hx hb dX1_withKey_16 rfl (lv_at hl 1 rfl) ?_
      refine x_getr cx h fa_X1_16 (f := 42) rfl hq2 dX1_withKey_17 ?_
      refine x_astore_n (lv' := [(2, vr (gr σ 42 x2)), (1, .int x1)]) hx hb dX1_withKey_20 rfl hl (by decide) (cI (cR cN)) rfl (fun ls hl => ?_)
      refine lv_goto (tgt := 2) hx hb dX1_withKey_21 (by decide) ?_
      exact hk2 x1 (gr σ 42 x2) σ _ _ _ h g (lv_sub hl [1, 0] rfl) hF
    · replace hF := ifp c3 hF
      refine x_aload_n hx hb dX1_withKey_14 rfl (lv_at hl 1 rfl) ?_
      obtain ⟨rfl, rfl⟩ := rts hF
      exact x_aret cx h dX1_withKey_15
def L_X1_withKey_2  : Nat → Int32 → Nat → HS → Option (Nat × HS)
  | 0, _, _, _ => none
  | N + 1, x1, x2, σ => B_X1_withKey_2 (L_X1_withKey_2  N) x1 x2 σ
theorem mo_L_X1_withKey_2  : ∀ (N : Nat) (x1 : Int32) (x2 : Nat) (σ : HS), Mo σ (L_X1_withKey_2  N x1 x2 σ) := by
  intro N
  induction N with
  | zero => intro x1 x2 σ; exact mo_none
  | succ N ih => intro x1 x2 σ; exact mo_B_X1_withKey_2 ih x1 x2 σ
theorem wl_X1_withKey_2 {p : Program} {l : Launch} {e : Env} {s : State} {m : MethodId} {args : Array Value} {below : List Frame} {meth : Method} {c : Code} {D : va_G} {dA : Nat → ClassId} {base : Nat} {σ0 τ : HS} {r : Nat} (cx : CX p s m args meth c cX1_withKey 3 (some (.object "SnapRows$Entry")) RX1 "withKey" D dA base)  : ∀ (N : Nat) (x1 : Int32) (x2 : Nat) (σ : HS) (H : Heap) (locs : List Loc) (ls : Array Slot), Wd D dA base σ s H locs → LE σ0 σ → lv_has ls 3 [(1, .int x1), (2, vr x2)] → L_X1_withKey_2  N x1 x2 σ = some (r, τ) → WG p l e s m args below meth c D dA base 0 0 (some (vr r)) σ0 τ σ H locs 2 ls [] := by
  intro N
  induction N with
  | zero => intro x1 x2 σ H locs ls h g hl hF; cases hF
  | succ N ih => intro x1 x2 σ H locs ls h g hl hF; exact w_X1_withKey_2 cx (mo_L_X1_withKey_2  N) ih x1 x2 h g hl hF
def F_X1_withKey (a0 : Nat) (a1 : Int32) (σ : HS) : Option (Nat × HS) :=
  L_X1_withKey_2  NF a1 a0 σ
theorem mo_F_X1_withKey (a0 : Nat) (a1 : Int32) (σ : HS) : Mo σ (F_X1_withKey a0 a1 σ) := by
  unfold F_X1_withKey
  exact (mo_L_X1_withKey_2  NF a1 a0 _)
set_option maxHeartbeats 4000000 in
set_option maxRecDepth 100000 in
theorem c_X1_withKey (l : Launch) (D : va_G) (dA : Nat → ClassId) (base : Nat) (a0 : Nat) (a1 : Int32) {σ τ : HS} {r : Nat} (hF : F_X1_withKey a0 a1 σ = some (r, τ)) : CT l yX1_withKey cX1_withKey 3 (some (.object "SnapRows$Entry")) 0 0 D dA base [vr a0, .int a1] (some (vr r)) σ τ := by
  refine CT.of (lv := [(0, vr a0), (1, .int a1)]) (by decide) (vR (vI vN)) (Nat.le_of_ble_eq_true rfl) rfl ?_
  intro p e s m args below meth c ls cx hl h
  have cx : CX p s m args meth c cX1_withKey 3 (some (.object "SnapRows$Entry")) RX1 "withKey" D dA base := cx
  have g : LE σ σ := LE.rf
  obtain ⟨hx, hb, -⟩ := id cx
  unfold F_X1_withKey at hF
  refine x_aload_n hx hb dX1_withKey_0 rfl (lv_at hl 0 rfl) ?_
  refine x_astore_n (lv' := [(2, vr a0), (0, vr a0), (1, .int a1)]) hx hb dX1_withKey_1 rfl hl (by decide) (cR (cI cN)) rfl (fun ls hl => ?_)
  exact wl_X1_withKey_2 cx   NF a1 a0 σ _ _ _ h g (lv_sub hl [2, 0] rfl) hF
def B_X0_valueOf_21  (y0 : Int32) (σ : HS) : Option (Int32 × HS) :=
  some (y0, σ)
theorem mo_B_X0_valueOf_21  (y0 : Int32) (σ : HS) : Mo σ (B_X0_valueOf_21  y0 σ) := by
  unfold B_X0_valueOf_21
  exact mo_ret
set_option maxHeartbeats 4000000 in
set_option maxRecDepth 100000 in
theorem w_X0_valueOf_21 {p : Program} {l : Launch} {e : Env} {s : State} {m : MethodId} {args : Array Value} {below : List Frame} {meth : Method} {c : Code} {D : va_G} {dA : Nat → ClassId} {base : Nat} {σ0 τ : HS} {r : Int32} (cx : CX p s m args meth c cX0_valueOf 3 (some .int) RX0 "valueOf" D dA base)  (y0 : Int32) {σ : HS} {H : Heap} {locs : List Loc} {ls : Array Slot} (h : Wd D dA base σ s H locs) (g : LE σ0 σ) (hl : lv_has ls 3 []) (hF : B_X0_valueOf_21  y0 σ = some (r, τ)) : WG p l e s m args below meth c D dA base 1 22 (some (.int r)) σ0 τ σ H locs 21 ls [.int y0] := by
  obtain ⟨hx, hb, -⟩ := id cx
  unfold B_X0_valueOf_21 at hF
  obtain ⟨rfl, rfl⟩ := rts hF
  exact x_iret cx h dX0_valueOf_21
def F_X0_valueOf (a0 : Nat) (a1 : Int32) (σ : HS) : Option (Int32 × HS) :=
  if kd σ a0 = 1 then (bd (F_X1_withKey (gr σ 0 a0) a1 σ) (fun r2 σ2 => if r2 = 0 then (B_X0_valueOf_21  (-1 : Int32) σ2) else (if kd σ2 r2 = 2 then (B_X0_valueOf_21  (gi σ2 41 r2) σ2) else none))) else none
theorem mo_F_X0_valueOf (a0 : Nat) (a1 : Int32) (σ : HS) : Mo σ (F_X0_valueOf a0 a1 σ) := by
  unfold F_X0_valueOf
  exact (mo_ite (mo_bd (mo_F_X1_withKey (gr σ 0 a0) a1 _) (fun r2 σ2 => (mo_ite (mo_B_X0_valueOf_21  (-1 : Int32) _) (mo_ite (mo_B_X0_valueOf_21  (gi σ2 41 r2) _) mo_none)))) mo_none)
set_option maxHeartbeats 4000000 in
set_option maxRecDepth 100000 in
theorem c_X0_valueOf (l : Launch) (D : va_G) (dA : Nat → ClassId) (base : Nat) (a0 : Nat) (a1 : Int32) {σ τ : HS} {r : Int32} (hF : F_X0_valueOf a0 a1 σ = some (r, τ)) : CT l yX0_valueOf cX0_valueOf 3 (some .int) 1 22 D dA base [vr a0, .int a1] (some (.int r)) σ τ := by
  refine CT.of (lv := [(0, vr a0), (1, .int a1)]) (by decide) (vR (vI vN)) (Nat.le_of_ble_eq_true rfl) rfl ?_
  intro p e s m args below meth c ls cx hl h
  have cx : CX p s m args meth c cX0_valueOf 3 (some .int) RX0 "valueOf" D dA base := cx
  have g : LE σ σ := LE.rf
  obtain ⟨hx, hb, -⟩ := id cx
  unfold F_X0_valueOf at hF
  refine x_aload_n hx hb dX0_valueOf_0 rfl (lv_at hl 0 rfl) ?_
  obtain ⟨hq1, hF⟩ := ifs hF
  refine x_getr cx h fa_X0_15 (f := 0) rfl hq1 dX0_valueOf_1 ?_
  refine lv_iload_n hx hb dX0_valueOf_4 rfl (lv_at hl 1 rfl) ?_
  obtain ⟨r2, σ2, hc2, hF⟩ := bds hF
  refine x_callr (σ := σ) g (mo_F_X1_withKey (gr σ 0 a0) a1 _ _ _ hc2) (x_runS (As := [vr (gr σ 0 a0), .int a1]) (rest := []) cx h (c_X1_withKey l D dA base (gr σ 0 a0) a1 hc2) ml_X0_19 mi_X1_withKey rfl ⟨Nat.le_of_ble_eq_true rfl, Nat.le_of_ble_eq_true rfl⟩ hl.1 rfl (s8 sN (by decide)) dX0_valueOf_5 (le_room g (mo_F_X1_withKey (gr σ 0 a0) a1 _ _ _ hc2) ((mo_ite (mo_B_X0_valueOf_21  (-1 : Int32) _) (mo_ite (mo_B_X0_valueOf_21  (gi σ2 41 r2) _) mo_none)) _ _ hF))) h (fun H locs h g => ?_)
  refine x_astore_n (lv' := [(2, vr r2), (0, vr a0), (1, .int a1)]) hx hb dX0_valueOf_8 rfl hl (by decide) (cR (cI cN)) rfl (fun ls hl => ?_)
  refine x_aload_n hx hb dX0_valueOf_9 rfl (lv_at hl 0 rfl) ?_
  refine x_ifnonnull (tgt := 17) hx hb dX0_valueOf_10 (by decide) (fun c3 => ?_) (fun c3 => ?_)
  · replace hF := ifn c3 hF
    refine x_aload_n hx hb dX0_valueOf_17 rfl (lv_at hl 0 rfl) ?_
    obtain ⟨hq4, hF⟩ := ifs hF
    refine x_geti cx h fa_X0_25 (f := 41) rfl hq4 dX0_valueOf_18 ?_
    exact w_X0_valueOf_21 (σ := σ2) cx   (gi σ2 41 r2) h g (lv_sub hl [] rfl) hF
  · replace hF := ifp c3 hF
    refine lv_iconst (v := (-1 : Int32)) hx hb dX0_valueOf_13 (by decide) ?_
    refine lv_goto (tgt := 21) hx hb dX0_valueOf_14 (by decide) ?_
    exact w_X0_valueOf_21 (σ := σ2) cx   (-1 : Int32) h g (lv_sub hl [] rfl) hF
def B_X0_valueAt_33 (k5 : Nat → Int32 → Nat → HS → Option (Int32 × HS)) (x0 : Nat) (x1 : Int32) (x2 : Nat) (σ : HS) : Option (Int32 × HS) :=
  if kd σ x2 = 2 then (k5 x0 x1 (gr σ 42 x2) σ) else none
theorem mo_B_X0_valueAt_33 {k5 : Nat → Int32 → Nat → HS → Option (Int32 × HS)} (mk5 : ∀ x0 x1 x2 σ, Mo σ (k5 x0 x1 x2 σ)) (x0 : Nat) (x1 : Int32) (x2 : Nat) (σ : HS) : Mo σ (B_X0_valueAt_33 k5 x0 x1 x2 σ) := by
  unfold B_X0_valueAt_33
  exact (mo_ite (mk5 x0 x1 (gr σ 42 x2) _) mo_none)
set_option maxHeartbeats 4000000 in
set_option maxRecDepth 100000 in
theorem w_X0_valueAt_33 {p : Program} {l : Launch} {e : Env} {s : State} {m : MethodId} {args : Array Value} {below : List Frame} {meth : Method} {c : Code} {D : va_G} {dA : Nat → ClassId} {base : Nat} {σ0 τ : HS} {r : Int32} (cx : CX p s m args meth c cX0_valueAt 3 (some .int) RX0 "valueAt" D dA base) {k5 : Nat → Int32 → Nat → HS → Option (Int32 × HS)} (mk5 : ∀ x0 x1 x2 σ, Mo σ (k5 x0 x1 x2 σ)) (hk5 : ∀ x0 x1 x2 σ H locs ls, Wd D dA base σ s H locs → LE σ0 σ → lv_has ls 3 [(0, vr x0), (1, .int x1), (2, vr x2)] → k5 x0 x1 x2 σ = some (r, τ) → WG p l e s m args below meth c D dA base 2 44 (some (.int r)) σ0 τ σ H locs 5 ls []) (x0 : Nat) (x1 : Int32) (x2 : Nat) {σ : HS} {H : Heap} {locs : List Loc} {ls : Array Slot} (h : Wd D dA base σ s H locs) (g : LE σ0 σ) (hl : lv_has ls 3 [(0, vr x0), (1, .int x1), (2, vr x2)]) (hF : B_X0_valueAt_33 k5 x0 x1 x2 σ = some (r, τ)) : WG p l e s m args below meth c D dA base 2 44 (some (.int r)) σ0 τ σ H locs 33 ls [] := by
  obtain ⟨hx, hb, -⟩ := id cx
  unfold B_X0_valueAt_33 at hF
  refine x_aload_n hx hb dX0_valueAt_33 rfl (lv_at hl 2 rfl) ?_
  obtain ⟨hq1, hF⟩ := ifs hF
  refine x_getr cx h fa_X0_38 (f := 42) rfl hq1 dX0_valueAt_34 ?_
  refine x_astore_n (lv' := [(2, vr (gr σ 42 x2)), (0, vr x0), (1, .int x1)]) hx hb dX0_valueAt_37 rfl hl (by decide) (cR (cI (cR cN))) rfl (fun ls hl => ?_)
  refine lv_goto (tgt := 5) hx hb dX0_valueAt_38 (by decide) ?_
  exact hk5 x0 x1 (gr σ 42 x2) σ _ _ _ h g (lv_sub hl [1, 2, 0] rfl) hF
def B_X0_valueAt_5 (k5 : Nat → Int32 → Nat → HS → Option (Int32 × HS)) (x0 : Nat) (x1 : Int32) (x2 : Nat) (σ : HS) : Option (Int32 × HS) :=
  if x2 = 0 then (some ((-1 : Int32), σ)) else (if kd σ x2 = 2 then (if x1 < (gi σ 40 x2) then (B_X0_valueAt_33 k5 x0 x1 x2 σ) else (if (gi σ 41 x2) = 0 then (B_X0_valueAt_33 k5 x0 x1 x2 σ) else (if kd σ x0 = 1 then (bd (F_X0_valueOf x0 (gi σ 41 x2) σ) (fun r6 σ6 => some (r6, σ6))) else none))) else none)
theorem mo_B_X0_valueAt_5 {k5 : Nat → Int32 → Nat → HS → Option (Int32 × HS)} (mk5 : ∀ x0 x1 x2 σ, Mo σ (k5 x0 x1 x2 σ)) (x0 : Nat) (x1 : Int32) (x2 : Nat) (σ : HS) : Mo σ (B_X0_valueAt_5 k5 x0 x1 x2 σ) := by
  unfold B_X0_valueAt_5
  exact (mo_ite mo_ret (mo_ite (mo_ite (mo_B_X0_valueAt_33 mk5 x0 x1 x2 _) (mo_ite (mo_B_X0_valueAt_33 mk5 x0 x1 x2 _) (mo_ite (mo_bd (mo_F_X0_valueOf x0 (gi σ 41 x2) _) (fun r6 σ6 => mo_ret)) mo_none))) mo_none))
set_option maxHeartbeats 4000000 in
set_option maxRecDepth 100000 in
theorem w_X0_valueAt_5 {p : Program} {l : Launch} {e : Env} {s : State} {m : MethodId} {args : Array Value} {below : List Frame} {meth : Method} {c : Code} {D : va_G} {dA : Nat → ClassId} {base : Nat} {σ0 τ : HS} {r : Int32} (cx : CX p s m args meth c cX0_valueAt 3 (some .int) RX0 "valueAt" D dA base) {k5 : Nat → Int32 → Nat → HS → Option (Int32 × HS)} (mk5 : ∀ x0 x1 x2 σ, Mo σ (k5 x0 x1 x2 σ)) (hk5 : ∀ x0 x1 x2 σ H locs ls, Wd D dA base σ s H locs → LE σ0 σ → lv_has ls 3 [(0, vr x0), (1, .int x1), (2, vr x2)] → k5 x0 x1 x2 σ = some (r, τ) → WG p l e s m args below meth c D dA base 2 44 (some (.int r)) σ0 τ σ H locs 5 ls []) (x0 : Nat) (x1 : Int32) (x2 : Nat) {σ : HS} {H : Heap} {locs : List Loc} {ls : Array Slot} (h : Wd D dA base σ s H locs) (g : LE σ0 σ) (hl : lv_has ls 3 [(0, vr x0), (1, .int x1), (2, vr x2)]) (hF : B_X0_valueAt_5 k5 x0 x1 x2 σ = some (r, τ)) : WG p l e s m args below meth c D dA base 2 44 (some (.int r)) σ0 τ σ H locs 5 ls [] := by
  obtain ⟨hx, hb, -⟩ := id cx
  unfold B_X0_valueAt_5 at hF
  refine x_aload_n hx hb dX0_valueAt_5 rfl (lv_at hl 2 rfl) ?_
  refine x_ifnull (tgt := 41) hx hb dX0_valueAt_6 (by decide) (fun c1 => ?_) (fun c1 => ?_)
  · replace hF := ifp c1 hF
    refine lv_iconst (v := (-1 : Int32)) hx hb dX0_valueAt_41 (by decide) ?_
    obtain ⟨rfl, rfl⟩ := rts hF
    exact x_iret cx h dX0_valueAt_42
  · replace hF := ifn c1 hF
    refine x_aload_n hx hb dX0_valueAt_9 rfl (lv_at hl 2 rfl) ?_
    obtain ⟨hq2, hF⟩ := ifs hF
    refine x_geti cx h fa_X0_31 (f := 40) rfl hq2 dX0_valueAt_10 ?_
    refine lv_iload_n hx hb dX0_valueAt_13 rfl (lv_at hl 1 rfl) ?_
    refine lv_icmp_gt (tgt := 33) hx hb dX0_valueAt_14 (by decide) (fun c3 => ?_) (fun c3 => ?_)
    · replace hF := ifp c3 hF
      exact w_X0_valueAt_33 (σ := σ) cx mk5 hk5 x0 x1 x2 h g (lv_sub hl [0, 1, 2] rfl) hF
    · replace hF := ifn c3 hF
      refine x_aload_n hx hb dX0_valueAt_17 rfl (lv_at hl 2 rfl) ?_
      refine x_geti cx h fa_X0_25 (f := 41) rfl hq2 dX0_valueAt_18 ?_
      refine lv_if_eq (tgt := 33) hx hb dX0_valueAt_21 (by decide) (fun c4 => ?_) (fun c4 => ?_)
      · replace hF := ifp c4 hF
        exact w_X0_valueAt_33 (σ := σ) cx mk5 hk5 x0 x1 x2 h g (lv_sub hl [0, 1, 2] rfl) hF
      · replace hF := ifn c4 hF
        refine x_aload_n hx hb dX0_valueAt_24 rfl (lv_at hl 0 rfl) ?_
        refine x_aload_n hx hb dX0_valueAt_25 rfl (lv_at hl 2 rfl) ?_
        refine x_geti cx h fa_X0_25 (f := 41) rfl hq2 dX0_valueAt_26 ?_
        obtain ⟨hq5, hF⟩ := ifs hF
        obtain ⟨r6, σ6, hc6, hF⟩ := bds hF
        refine x_calli (σ := σ) g (mo_F_X0_valueOf x0 (gi σ 41 x2) _ _ _ hc6) (x_runV (As := [.int (gi σ 41 x2)]) (rest := []) cx h (c_X0_valueOf l D dA base x0 (gi σ 41 x2) hc6) ml_X0_34 mi_X0_valueOf hq5 rfl ⟨Nat.le_of_ble_eq_true rfl, Nat.le_of_ble_eq_true rfl⟩ hl.1 rfl (s8 sN (by decide)) dX0_valueAt_29 (le_room g (mo_F_X0_valueOf x0 (gi σ 41 x2) _ _ _ hc6) (mo_ret _ _ hF))) h (fun H locs h g => ?_)
        obtain ⟨rfl, rfl⟩ := rts hF
        exact x_iret cx h dX0_valueAt_32
def L_X0_valueAt_5  : Nat → Nat → Int32 → Nat → HS → Option (Int32 × HS)
  | 0, _, _, _, _ => none
  | N + 1, x0, x1, x2, σ => B_X0_valueAt_5 (L_X0_valueAt_5  N) x0 x1 x2 σ
theorem mo_L_X0_valueAt_5  : ∀ (N : Nat) (x0 : Nat) (x1 : Int32) (x2 : Nat) (σ : HS), Mo σ (L_X0_valueAt_5  N x0 x1 x2 σ) := by
  intro N
  induction N with
  | zero => intro x0 x1 x2 σ; exact mo_none
  | succ N ih => intro x0 x1 x2 σ; exact mo_B_X0_valueAt_5 ih x0 x1 x2 σ
theorem wl_X0_valueAt_5 {p : Program} {l : Launch} {e : Env} {s : State} {m : MethodId} {args : Array Value} {below : List Frame} {meth : Method} {c : Code} {D : va_G} {dA : Nat → ClassId} {base : Nat} {σ0 τ : HS} {r : Int32} (cx : CX p s m args meth c cX0_valueAt 3 (some .int) RX0 "valueAt" D dA base)  : ∀ (N : Nat) (x0 : Nat) (x1 : Int32) (x2 : Nat) (σ : HS) (H : Heap) (locs : List Loc) (ls : Array Slot), Wd D dA base σ s H locs → LE σ0 σ → lv_has ls 3 [(0, vr x0), (1, .int x1), (2, vr x2)] → L_X0_valueAt_5  N x0 x1 x2 σ = some (r, τ) → WG p l e s m args below meth c D dA base 2 44 (some (.int r)) σ0 τ σ H locs 5 ls [] := by
  intro N
  induction N with
  | zero => intro x0 x1 x2 σ H locs ls h g hl hF; cases hF
  | succ N ih => intro x0 x1 x2 σ H locs ls h g hl hF; exact w_X0_valueAt_5 cx (mo_L_X0_valueAt_5  N) ih x0 x1 x2 h g hl hF
def F_X0_valueAt (a0 : Nat) (a1 : Int32) (σ : HS) : Option (Int32 × HS) :=
  if kd σ a0 = 1 then (L_X0_valueAt_5  NF a0 a1 (gr σ 1 a0) σ) else none
theorem mo_F_X0_valueAt (a0 : Nat) (a1 : Int32) (σ : HS) : Mo σ (F_X0_valueAt a0 a1 σ) := by
  unfold F_X0_valueAt
  exact (mo_ite (mo_L_X0_valueAt_5  NF a0 a1 (gr σ 1 a0) _) mo_none)
set_option maxHeartbeats 4000000 in
set_option maxRecDepth 100000 in
theorem c_X0_valueAt (l : Launch) (D : va_G) (dA : Nat → ClassId) (base : Nat) (a0 : Nat) (a1 : Int32) {σ τ : HS} {r : Int32} (hF : F_X0_valueAt a0 a1 σ = some (r, τ)) : CT l yX0_valueAt cX0_valueAt 3 (some .int) 2 44 D dA base [vr a0, .int a1] (some (.int r)) σ τ := by
  refine CT.of (lv := [(0, vr a0), (1, .int a1)]) (by decide) (vR (vI vN)) (Nat.le_of_ble_eq_true rfl) rfl ?_
  intro p e s m args below meth c ls cx hl h
  have cx : CX p s m args meth c cX0_valueAt 3 (some .int) RX0 "valueAt" D dA base := cx
  have g : LE σ σ := LE.rf
  obtain ⟨hx, hb, -⟩ := id cx
  unfold F_X0_valueAt at hF
  refine x_aload_n hx hb dX0_valueAt_0 rfl (lv_at hl 0 rfl) ?_
  obtain ⟨hq1, hF⟩ := ifs hF
  refine x_getr cx h fa_X0_28 (f := 1) rfl hq1 dX0_valueAt_1 ?_
  refine x_astore_n (lv' := [(2, vr (gr σ 1 a0)), (0, vr a0), (1, .int a1)]) hx hb dX0_valueAt_4 rfl hl (by decide) (cR (cI cN)) rfl (fun ls hl => ?_)
  exact wl_X0_valueAt_5 cx   NF a0 a1 (gr σ 1 a0) σ _ _ _ h g (lv_sub hl [1, 2, 0] rfl) hF
def F_X1_init (a0 : Nat) (a1 : Int32) (a2 : Int32) (a3 : Nat) (σ : HS) : Option (Unit × HS) :=
  if kd σ a0 = 2 then (some ((), (sr (si (si σ 40 a0 a1) 41 a0 a2) 42 a0 a3))) else none
theorem mo_F_X1_init (a0 : Nat) (a1 : Int32) (a2 : Int32) (a3 : Nat) (σ : HS) : Mo σ (F_X1_init a0 a1 a2 a3 σ) := by
  unfold F_X1_init
  exact (mo_ite (mo_le (τ := (sr (si (si σ 40 a0 a1) 41 a0 a2) 42 a0 a3)) ⟨Nat.le_refl _, Nat.le_refl _⟩ mo_ret) mo_none)
set_option maxHeartbeats 4000000 in
set_option maxRecDepth 100000 in
theorem c_X1_init (l : Launch) (D : va_G) (dA : Nat → ClassId) (base : Nat) (a0 : Nat) (a1 : Int32) (a2 : Int32) (a3 : Nat) {σ τ : HS} {r : Unit} (hF : F_X1_init a0 a1 a2 a3 σ = some (r, τ)) : CT l yX1_init cX1_init 4 none 1 20 D dA base [vr a0, .int a1, .int a2, vr a3] none σ τ := by
  refine CT.of (lv := [(0, vr a0), (1, .int a1), (2, .int a2), (3, vr a3)]) (by decide) (vR (vI (vI (vR vN)))) (Nat.le_of_ble_eq_true rfl) rfl ?_
  intro p e s m args below meth c ls cx hl h
  have cx : CX p s m args meth c cX1_init 4 none RX1 "<init>" D dA base := cx
  have g : LE σ σ := LE.rf
  obtain ⟨hx, hb, -⟩ := id cx
  unfold F_X1_init at hF
  refine x_aload_n hx hb dX1_init_0 rfl (lv_at hl 0 rfl) ?_
  obtain ⟨hq1, hF⟩ := ifs hF
  refine x_obj cx h ml_X1_1 hq1 hl.1 ⟨Nat.le_of_ble_eq_true rfl, Nat.le_of_ble_eq_true rfl⟩ (s8 sN (by decide)) dX1_init_1 ?_
  refine x_aload_n hx hb dX1_init_4 rfl (lv_at hl 0 rfl) ?_
  refine lv_iload_n hx hb dX1_init_5 rfl (lv_at hl 1 rfl) ?_
  refine x_sti cx h fa_X1_7 (f := 40) rfl (Or.inr ⟨rfl, rfl, _, _, rfl⟩) hq1 dX1_init_6 (fun H locs h => ?_)
  refine x_aload_n hx hb dX1_init_9 rfl (lv_at hl 0 rfl) ?_
  refine lv_iload_n hx hb dX1_init_10 rfl (lv_at hl 2 rfl) ?_
  refine x_sti cx h fa_X1_13 (f := 41) rfl (Or.inr ⟨rfl, rfl, _, _, rfl⟩) hq1 dX1_init_11 (fun H locs h => ?_)
  refine x_aload_n hx hb dX1_init_14 rfl (lv_at hl 0 rfl) ?_
  refine x_aload_n hx hb dX1_init_15 rfl (lv_at hl 3 rfl) ?_
  refine x_str cx h fa_X1_16 (f := 42) rfl (Or.inl rfl) hq1 dX1_init_16 (fun H locs h => ?_)
  obtain ⟨rfl, rfl⟩ := rts hF
  exact x_vret cx h dX1_init_19
def B_X1_without_12 (k12 : Nat → Nat → Nat → HS → Option (Nat × HS)) (x0 : Nat) (x1 : Nat) (x2 : Nat) (σ : HS) : Option (Nat × HS) :=
  if x2 = 0 then (some (x0, σ)) else (if kd σ x2 = 2 then (if (gr σ 42 x2) = x1 then (if kd σ x1 = 2 then (some (x0, (sr σ 42 x2 (gr σ 42 x1)))) else none) else (k12 x0 x1 (gr σ 42 x2) σ)) else none)
theorem mo_B_X1_without_12 {k12 : Nat → Nat → Nat → HS → Option (Nat × HS)} (mk12 : ∀ x0 x1 x2 σ, Mo σ (k12 x0 x1 x2 σ)) (x0 : Nat) (x1 : Nat) (x2 : Nat) (σ : HS) : Mo σ (B_X1_without_12 k12 x0 x1 x2 σ) := by
  unfold B_X1_without_12
  exact (mo_ite mo_ret (mo_ite (mo_ite (mo_ite (mo_le (τ := (sr σ 42 x2 (gr σ 42 x1))) ⟨Nat.le_refl _, Nat.le_refl _⟩ mo_ret) mo_none) (mk12 x0 x1 (gr σ 42 x2) _)) mo_none))
set_option maxHeartbeats 4000000 in
set_option maxRecDepth 100000 in
theorem w_X1_without_12 {p : Program} {l : Launch} {e : Env} {s : State} {m : MethodId} {args : Array Value} {below : List Frame} {meth : Method} {c : Code} {D : va_G} {dA : Nat → ClassId} {base : Nat} {σ0 τ : HS} {r : Nat} (cx : CX p s m args meth c cX1_without 3 (some (.object "SnapRows$Entry")) RX1 "without" D dA base) {k12 : Nat → Nat → Nat → HS → Option (Nat × HS)} (mk12 : ∀ x0 x1 x2 σ, Mo σ (k12 x0 x1 x2 σ)) (hk12 : ∀ x0 x1 x2 σ H locs ls, Wd D dA base σ s H locs → LE σ0 σ → lv_has ls 3 [(0, vr x0), (1, vr x1), (2, vr x2)] → k12 x0 x1 x2 σ = some (r, τ) → WG p l e s m args below meth c D dA base 0 0 (some (vr r)) σ0 τ σ H locs 12 ls []) (x0 : Nat) (x1 : Nat) (x2 : Nat) {σ : HS} {H : Heap} {locs : List Loc} {ls : Array Slot} (h : Wd D dA base σ s H locs) (g : LE σ0 σ) (hl : lv_has ls 3 [(0, vr x0), (1, vr x1), (2, vr x2)]) (hF : B_X1_without_12 k12 x0 x1 x2 σ = some (r, τ)) : WG p l e s m args below meth c D dA base 0 0 (some (vr r)) σ0 τ σ H locs 12 ls [] := by
  obtain ⟨hx, hb, -⟩ := id cx
  unfold B_X1_without_12 at hF
  refine x_aload_n hx hb dX1_without_12 rfl (lv_at hl 2 rfl) ?_
  refine x_ifnull (tgt := 42) hx hb dX1_without_13 (by decide) (fun c1 => ?_) (fun c1 => ?_)
  · replace hF := ifp c1 hF
    refine x_aload_n hx hb dX1_without_42 rfl (lv_at hl 0 rfl) ?_
    obtain ⟨rfl, rfl⟩ := rts hF
    exact x_aret cx h dX1_without_43
  · replace hF := ifn c1 hF
    refine x_aload_n hx hb dX1_without_16 rfl (lv_at hl 2 rfl) ?_
    obtain ⟨hq2, hF⟩ := ifs hF
    refine x_getr cx h fa_X1_16 (f := 42) rfl hq2 dX1_without_17 ?_
    refine x_aload_n hx hb dX1_without_20 rfl (lv_at hl 1 rfl) ?_
    refine x_acmp_ne (tgt := 34) hx hb dX1_without_21 (by decide) (fun c3 => ?_) (fun c3 => ?_)
    · replace hF := ifn c3 hF
      refine x_aload_n hx hb dX1_without_34 rfl (lv_at hl 2 rfl) ?_
      refine x_getr cx h fa_X1_16 (f := 42) rfl hq2 dX1_without_35 ?_
      refine x_astore_n (lv' := [(2, vr (gr σ 42 x2)), (0, vr x0), (1, vr x1)]) hx hb dX1_without_38 rfl hl (by decide) (cR (cR (cR cN))) rfl (fun ls hl => ?_)
      refine lv_goto (tgt := 12) hx hb dX1_without_39 (by decide) ?_
      exact hk12 x0 x1 (gr σ 42 x2) σ _ _ _ h g (lv_sub hl [1, 2, 0] rfl) hF
    · replace hF := ifp c3 hF
      refine x_aload_n hx hb dX1_without_24 rfl (lv_at hl 2 rfl) ?_
      refine x_aload_n hx hb dX1_without_25 rfl (lv_at hl 1 rfl) ?_
      obtain ⟨hq4, hF⟩ := ifs hF
      refine x_getr cx h fa_X1_16 (f := 42) rfl hq4 dX1_without_26 ?_
      refine x_str cx h fa_X1_16 (f := 42) rfl (Or.inl rfl) hq2 dX1_without_29 (fun H locs h => ?_)
      refine x_aload_n hx hb dX1_without_32 rfl (lv_at hl 0 rfl) ?_
      obtain ⟨rfl, rfl⟩ := rts hF
      exact x_aret cx h dX1_without_33
def L_X1_without_12  : Nat → Nat → Nat → Nat → HS → Option (Nat × HS)
  | 0, _, _, _, _ => none
  | N + 1, x0, x1, x2, σ => B_X1_without_12 (L_X1_without_12  N) x0 x1 x2 σ
theorem mo_L_X1_without_12  : ∀ (N : Nat) (x0 : Nat) (x1 : Nat) (x2 : Nat) (σ : HS), Mo σ (L_X1_without_12  N x0 x1 x2 σ) := by
  intro N
  induction N with
  | zero => intro x0 x1 x2 σ; exact mo_none
  | succ N ih => intro x0 x1 x2 σ; exact mo_B_X1_without_12 ih x0 x1 x2 σ
theorem wl_X1_without_12 {p : Program} {l : Launch} {e : Env} {s : State} {m : MethodId} {args : Array Value} {below : List Frame} {meth : Method} {c : Code} {D : va_G} {dA : Nat → ClassId} {base : Nat} {σ0 τ : HS} {r : Nat} (cx : CX p s m args meth c cX1_without 3 (some (.object "SnapRows$Entry")) RX1 "without" D dA base)  : ∀ (N : Nat) (x0 : Nat) (x1 : Nat) (x2 : Nat) (σ : HS) (H : Heap) (locs : List Loc) (ls : Array Slot), Wd D dA base σ s H locs → LE σ0 σ → lv_has ls 3 [(0, vr x0), (1, vr x1), (2, vr x2)] → L_X1_without_12  N x0 x1 x2 σ = some (r, τ) → WG p l e s m args below meth c D dA base 0 0 (some (vr r)) σ0 τ σ H locs 12 ls [] := by
  intro N
  induction N with
  | zero => intro x0 x1 x2 σ H locs ls h g hl hF; cases hF
  | succ N ih => intro x0 x1 x2 σ H locs ls h g hl hF; exact w_X1_without_12 cx (mo_L_X1_without_12  N) ih x0 x1 x2 h g hl hF
def F_X1_without (a0 : Nat) (a1 : Nat) (σ : HS) : Option (Nat × HS) :=
  if a0 = a1 then (if kd σ a1 = 2 then (some ((gr σ 42 a1), σ)) else none) else (L_X1_without_12  NF a0 a1 a0 σ)
theorem mo_F_X1_without (a0 : Nat) (a1 : Nat) (σ : HS) : Mo σ (F_X1_without a0 a1 σ) := by
  unfold F_X1_without
  exact (mo_ite (mo_ite mo_ret mo_none) (mo_L_X1_without_12  NF a0 a1 a0 _))
set_option maxHeartbeats 4000000 in
set_option maxRecDepth 100000 in
theorem c_X1_without (l : Launch) (D : va_G) (dA : Nat → ClassId) (base : Nat) (a0 : Nat) (a1 : Nat) {σ τ : HS} {r : Nat} (hF : F_X1_without a0 a1 σ = some (r, τ)) : CT l yX1_without cX1_without 3 (some (.object "SnapRows$Entry")) 0 0 D dA base [vr a0, vr a1] (some (vr r)) σ τ := by
  refine CT.of (lv := [(0, vr a0), (1, vr a1)]) (by decide) (vR (vR vN)) (Nat.le_of_ble_eq_true rfl) rfl ?_
  intro p e s m args below meth c ls cx hl h
  have cx : CX p s m args meth c cX1_without 3 (some (.object "SnapRows$Entry")) RX1 "without" D dA base := cx
  have g : LE σ σ := LE.rf
  obtain ⟨hx, hb, -⟩ := id cx
  unfold F_X1_without at hF
  refine x_aload_n hx hb dX1_without_0 rfl (lv_at hl 0 rfl) ?_
  refine x_aload_n hx hb dX1_without_1 rfl (lv_at hl 1 rfl) ?_
  refine x_acmp_ne (tgt := 10) hx hb dX1_without_2 (by decide) (fun c1 => ?_) (fun c1 => ?_)
  · replace hF := ifn c1 hF
    refine x_aload_n hx hb dX1_without_10 rfl (lv_at hl 0 rfl) ?_
    refine x_astore_n (lv' := [(2, vr a0), (0, vr a0), (1, vr a1)]) hx hb dX1_without_11 rfl hl (by decide) (cR (cR cN)) rfl (fun ls hl => ?_)
    exact wl_X1_without_12 cx   NF a0 a1 a0 σ _ _ _ h g (lv_sub hl [1, 2, 0] rfl) hF
  · replace hF := ifp c1 hF
    refine x_aload_n hx hb dX1_without_5 rfl (lv_at hl 1 rfl) ?_
    obtain ⟨hq2, hF⟩ := ifs hF
    refine x_getr cx h fa_X1_16 (f := 42) rfl hq2 dX1_without_6 ?_
    obtain ⟨rfl, rfl⟩ := rts hF
    exact x_aret cx h dX1_without_9
def B_X1_withInfo_2 (k2 : Int32 → Nat → HS → Option (Nat × HS)) (x1 : Int32) (x2 : Nat) (σ : HS) : Option (Nat × HS) :=
  if x2 = 0 then (some (0, σ)) else (if kd σ x2 = 2 then (if (gi σ 41 x2) = x1 then (some (x2, σ)) else (k2 x1 (gr σ 42 x2) σ)) else none)
theorem mo_B_X1_withInfo_2 {k2 : Int32 → Nat → HS → Option (Nat × HS)} (mk2 : ∀ x1 x2 σ, Mo σ (k2 x1 x2 σ)) (x1 : Int32) (x2 : Nat) (σ : HS) : Mo σ (B_X1_withInfo_2 k2 x1 x2 σ) := by
  unfold B_X1_withInfo_2
  exact (mo_ite mo_ret (mo_ite (mo_ite mo_ret (mk2 x1 (gr σ 42 x2) _)) mo_none))
set_option maxHeartbeats 4000000 in
set_option maxRecDepth 100000 in
theorem w_X1_withInfo_2 {p : Program} {l : Launch} {e : Env} {s : State} {m : MethodId} {args : Array Value} {below : List Frame} {meth : Method} {c : Code} {D : va_G} {dA : Nat → ClassId} {base : Nat} {σ0 τ : HS} {r : Nat} (cx : CX p s m args meth c cX1_withInfo 3 (some (.object "SnapRows$Entry")) RX1 "withInfo" D dA base) {k2 : Int32 → Nat → HS → Option (Nat × HS)} (mk2 : ∀ x1 x2 σ, Mo σ (k2 x1 x2 σ)) (hk2 : ∀ x1 x2 σ H locs ls, Wd D dA base σ s H locs → LE σ0 σ → lv_has ls 3 [(1, .int x1), (2, vr x2)] → k2 x1 x2 σ = some (r, τ) → WG p l e s m args below meth c D dA base 0 0 (some (vr r)) σ0 τ σ H locs 2 ls []) (x1 : Int32) (x2 : Nat) {σ : HS} {H : Heap} {locs : List Loc} {ls : Array Slot} (h : Wd D dA base σ s H locs) (g : LE σ0 σ) (hl : lv_has ls 3 [(1, .int x1), (2, vr x2)]) (hF : B_X1_withInfo_2 k2 x1 x2 σ = some (r, τ)) : WG p l e s m args below meth c D dA base 0 0 (some (vr r)) σ0 τ σ H locs 2 ls [] := by
  obtain ⟨hx, hb, -⟩ := id cx
  unfold B_X1_withInfo_2 at hF
  refine x_aload_n hx hb dX1_withInfo_2 rfl (lv_at hl 1 rfl) ?_
  refine x_ifnull (tgt := 24) hx hb dX1_withInfo_3 (by decide) (fun c1 => ?_) (fun c1 => ?_)
  · replace hF := ifp c1 hF
    refine x_null hx hb dX1_withInfo_24 ?_
    obtain ⟨rfl, rfl⟩ := rts hF
    exact x_aret cx h dX1_withInfo_25
  · replace hF := ifn c1 hF
    refine x_aload_n hx hb dX1_withInfo_6 rfl (lv_at hl 1 rfl) ?_
    obtain ⟨hq2, hF⟩ := ifs hF
    refine x_geti cx h fa_X1_13 (f := 41) rfl hq2 dX1_withInfo_7 ?_
    refine lv_iload_n hx hb dX1_withInfo_10 rfl (lv_at hl 0 rfl) ?_
    refine lv_icmp_ne (tgt := 16) hx hb dX1_withInfo_11 (by decide) (fun c3 => ?_) (fun c3 => ?_)
    · replace hF := ifn c3 hF
      refine x_aload_n hx hb dX1_withInfo_16 rfl (lv_at hl 1 rfl) ?_
      refine x_getr cx h fa_X1_16 (f := 42) rfl hq2 dX1_withInfo_17 ?_
      refine x_astore_n (lv' := [(2, vr (gr σ 42 x2)), (1, .int x1)]) hx hb dX1_withInfo_20 rfl hl (by decide) (cI (cR cN)) rfl (fun ls hl => ?_)
      refine lv_goto (tgt := 2) hx hb dX1_withInfo_21 (by decide) ?_
      exact hk2 x1 (gr σ 42 x2) σ _ _ _ h g (lv_sub hl [1, 0] rfl) hF
    · replace hF := ifp c3 hF
      refine x_aload_n hx hb dX1_withInfo_14 rfl (lv_at hl 1 rfl) ?_
      obtain ⟨rfl, rfl⟩ := rts hF
      exact x_aret cx h dX1_withInfo_15
def L_X1_withInfo_2  : Nat → Int32 → Nat → HS → Option (Nat × HS)
  | 0, _, _, _ => none
  | N + 1, x1, x2, σ => B_X1_withInfo_2 (L_X1_withInfo_2  N) x1 x2 σ
theorem mo_L_X1_withInfo_2  : ∀ (N : Nat) (x1 : Int32) (x2 : Nat) (σ : HS), Mo σ (L_X1_withInfo_2  N x1 x2 σ) := by
  intro N
  induction N with
  | zero => intro x1 x2 σ; exact mo_none
  | succ N ih => intro x1 x2 σ; exact mo_B_X1_withInfo_2 ih x1 x2 σ
theorem wl_X1_withInfo_2 {p : Program} {l : Launch} {e : Env} {s : State} {m : MethodId} {args : Array Value} {below : List Frame} {meth : Method} {c : Code} {D : va_G} {dA : Nat → ClassId} {base : Nat} {σ0 τ : HS} {r : Nat} (cx : CX p s m args meth c cX1_withInfo 3 (some (.object "SnapRows$Entry")) RX1 "withInfo" D dA base)  : ∀ (N : Nat) (x1 : Int32) (x2 : Nat) (σ : HS) (H : Heap) (locs : List Loc) (ls : Array Slot), Wd D dA base σ s H locs → LE σ0 σ → lv_has ls 3 [(1, .int x1), (2, vr x2)] → L_X1_withInfo_2  N x1 x2 σ = some (r, τ) → WG p l e s m args below meth c D dA base 0 0 (some (vr r)) σ0 τ σ H locs 2 ls [] := by
  intro N
  induction N with
  | zero => intro x1 x2 σ H locs ls h g hl hF; cases hF
  | succ N ih => intro x1 x2 σ H locs ls h g hl hF; exact w_X1_withInfo_2 cx (mo_L_X1_withInfo_2  N) ih x1 x2 h g hl hF
def F_X1_withInfo (a0 : Nat) (a1 : Int32) (σ : HS) : Option (Nat × HS) :=
  L_X1_withInfo_2  NF a1 a0 σ
theorem mo_F_X1_withInfo (a0 : Nat) (a1 : Int32) (σ : HS) : Mo σ (F_X1_withInfo a0 a1 σ) := by
  unfold F_X1_withInfo
  exact (mo_L_X1_withInfo_2  NF a1 a0 _)
set_option maxHeartbeats 4000000 in
set_option maxRecDepth 100000 in
theorem c_X1_withInfo (l : Launch) (D : va_G) (dA : Nat → ClassId) (base : Nat) (a0 : Nat) (a1 : Int32) {σ τ : HS} {r : Nat} (hF : F_X1_withInfo a0 a1 σ = some (r, τ)) : CT l yX1_withInfo cX1_withInfo 3 (some (.object "SnapRows$Entry")) 0 0 D dA base [vr a0, .int a1] (some (vr r)) σ τ := by
  refine CT.of (lv := [(0, vr a0), (1, .int a1)]) (by decide) (vR (vI vN)) (Nat.le_of_ble_eq_true rfl) rfl ?_
  intro p e s m args below meth c ls cx hl h
  have cx : CX p s m args meth c cX1_withInfo 3 (some (.object "SnapRows$Entry")) RX1 "withInfo" D dA base := cx
  have g : LE σ σ := LE.rf
  obtain ⟨hx, hb, -⟩ := id cx
  unfold F_X1_withInfo at hF
  refine x_aload_n hx hb dX1_withInfo_0 rfl (lv_at hl 0 rfl) ?_
  refine x_astore_n (lv' := [(2, vr a0), (0, vr a0), (1, .int a1)]) hx hb dX1_withInfo_1 rfl hl (by decide) (cR (cI cN)) rfl (fun ls hl => ?_)
  exact wl_X1_withInfo_2 cx   NF a1 a0 σ _ _ _ h g (lv_sub hl [2, 0] rfl) hF
def B_X1_atPlace_4 (k4 : Int32 → Int32 → Nat → HS → Option (Nat × HS)) (x1 : Int32) (x2 : Int32) (x3 : Nat) (σ : HS) : Option (Nat × HS) :=
  if x3 = 0 then (some (0, σ)) else (if x2 = x1 then (some (x3, σ)) else (if kd σ x3 = 2 then (k4 x1 (x2 + (1 : Int32)) (gr σ 42 x3) σ) else none))
theorem mo_B_X1_atPlace_4 {k4 : Int32 → Int32 → Nat → HS → Option (Nat × HS)} (mk4 : ∀ x1 x2 x3 σ, Mo σ (k4 x1 x2 x3 σ)) (x1 : Int32) (x2 : Int32) (x3 : Nat) (σ : HS) : Mo σ (B_X1_atPlace_4 k4 x1 x2 x3 σ) := by
  unfold B_X1_atPlace_4
  exact (mo_ite mo_ret (mo_ite mo_ret (mo_ite (mk4 x1 (x2 + (1 : Int32)) (gr σ 42 x3) _) mo_none)))
set_option maxHeartbeats 4000000 in
set_option maxRecDepth 100000 in
theorem w_X1_atPlace_4 {p : Program} {l : Launch} {e : Env} {s : State} {m : MethodId} {args : Array Value} {below : List Frame} {meth : Method} {c : Code} {D : va_G} {dA : Nat → ClassId} {base : Nat} {σ0 τ : HS} {r : Nat} (cx : CX p s m args meth c cX1_atPlace 4 (some (.object "SnapRows$Entry")) RX1 "atPlace" D dA base) {k4 : Int32 → Int32 → Nat → HS → Option (Nat × HS)} (mk4 : ∀ x1 x2 x3 σ, Mo σ (k4 x1 x2 x3 σ)) (hk4 : ∀ x1 x2 x3 σ H locs ls, Wd D dA base σ s H locs → LE σ0 σ → lv_has ls 4 [(1, .int x1), (2, .int x2), (3, vr x3)] → k4 x1 x2 x3 σ = some (r, τ) → WG p l e s m args below meth c D dA base 0 0 (some (vr r)) σ0 τ σ H locs 4 ls []) (x1 : Int32) (x2 : Int32) (x3 : Nat) {σ : HS} {H : Heap} {locs : List Loc} {ls : Array Slot} (h : Wd D dA base σ s H locs) (g : LE σ0 σ) (hl : lv_has ls 4 [(1, .int x1), (2, .int x2), (3, vr x3)]) (hF : B_X1_atPlace_4 k4 x1 x2 x3 σ = some (r, τ)) : WG p l e s m args below meth c D dA base 0 0 (some (vr r)) σ0 τ σ H locs 4 ls [] := by
  obtain ⟨hx, hb, -⟩ := id cx
  unfold B_X1_atPlace_4 at hF
  refine x_aload_n hx hb dX1_atPlace_4 rfl (lv_at hl 2 rfl) ?_
  refine x_ifnull (tgt := 26) hx hb dX1_atPlace_5 (by decide) (fun c1 => ?_) (fun c1 => ?_)
  · replace hF := ifp c1 hF
    refine x_null hx hb dX1_atPlace_26 ?_
    obtain ⟨rfl, rfl⟩ := rts hF
    exact x_aret cx h dX1_atPlace_27
  · replace hF := ifn c1 hF
    refine lv_iload_n hx hb dX1_atPlace_8 rfl (lv_at hl 1 rfl) ?_
    refine lv_iload_n hx hb dX1_atPlace_9 rfl (lv_at hl 0 rfl) ?_
    refine lv_icmp_ne (tgt := 15) hx hb dX1_atPlace_10 (by decide) (fun c2 => ?_) (fun c2 => ?_)
    · replace hF := ifn c2 hF
      refine x_iinc (k := 1) (v := (1 : Int32)) (lv' := [(2, .int (x2 + (1 : Int32))), (1, .int x1), (3, vr x3)]) hx hb dX1_atPlace_15 hl rfl (by decide) (by decide) (cI (cI (cR cN))) rfl (fun ls hl => ?_)
      refine x_aload_n hx hb dX1_atPlace_18 rfl (lv_at hl 2 rfl) ?_
      obtain ⟨hq3, hF⟩ := ifs hF
      refine x_getr cx h fa_X1_16 (f := 42) rfl hq3 dX1_atPlace_19 ?_
      refine x_astore_n (lv' := [(3, vr (gr σ 42 x3)), (2, .int (x2 + (1 : Int32))), (1, .int x1)]) hx hb dX1_atPlace_22 rfl hl (by decide) (cI (cI (cR cN))) rfl (fun ls hl => ?_)
      refine lv_goto (tgt := 4) hx hb dX1_atPlace_23 (by decide) ?_
      exact hk4 x1 (x2 + (1 : Int32)) (gr σ 42 x3) σ _ _ _ h g (lv_sub hl [2, 1, 0] rfl) hF
    · replace hF := ifp c2 hF
      refine x_aload_n hx hb dX1_atPlace_13 rfl (lv_at hl 2 rfl) ?_
      obtain ⟨rfl, rfl⟩ := rts hF
      exact x_aret cx h dX1_atPlace_14
def L_X1_atPlace_4  : Nat → Int32 → Int32 → Nat → HS → Option (Nat × HS)
  | 0, _, _, _, _ => none
  | N + 1, x1, x2, x3, σ => B_X1_atPlace_4 (L_X1_atPlace_4  N) x1 x2 x3 σ
theorem mo_L_X1_atPlace_4  : ∀ (N : Nat) (x1 : Int32) (x2 : Int32) (x3 : Nat) (σ : HS), Mo σ (L_X1_atPlace_4  N x1 x2 x3 σ) := by
  intro N
  induction N with
  | zero => intro x1 x2 x3 σ; exact mo_none
  | succ N ih => intro x1 x2 x3 σ; exact mo_B_X1_atPlace_4 ih x1 x2 x3 σ
theorem wl_X1_atPlace_4 {p : Program} {l : Launch} {e : Env} {s : State} {m : MethodId} {args : Array Value} {below : List Frame} {meth : Method} {c : Code} {D : va_G} {dA : Nat → ClassId} {base : Nat} {σ0 τ : HS} {r : Nat} (cx : CX p s m args meth c cX1_atPlace 4 (some (.object "SnapRows$Entry")) RX1 "atPlace" D dA base)  : ∀ (N : Nat) (x1 : Int32) (x2 : Int32) (x3 : Nat) (σ : HS) (H : Heap) (locs : List Loc) (ls : Array Slot), Wd D dA base σ s H locs → LE σ0 σ → lv_has ls 4 [(1, .int x1), (2, .int x2), (3, vr x3)] → L_X1_atPlace_4  N x1 x2 x3 σ = some (r, τ) → WG p l e s m args below meth c D dA base 0 0 (some (vr r)) σ0 τ σ H locs 4 ls [] := by
  intro N
  induction N with
  | zero => intro x1 x2 x3 σ H locs ls h g hl hF; cases hF
  | succ N ih => intro x1 x2 x3 σ H locs ls h g hl hF; exact w_X1_atPlace_4 cx (mo_L_X1_atPlace_4  N) ih x1 x2 x3 h g hl hF
def F_X1_atPlace (a0 : Nat) (a1 : Int32) (σ : HS) : Option (Nat × HS) :=
  L_X1_atPlace_4  NF a1 (0 : Int32) a0 σ
theorem mo_F_X1_atPlace (a0 : Nat) (a1 : Int32) (σ : HS) : Mo σ (F_X1_atPlace a0 a1 σ) := by
  unfold F_X1_atPlace
  exact (mo_L_X1_atPlace_4  NF a1 (0 : Int32) a0 _)
set_option maxHeartbeats 4000000 in
set_option maxRecDepth 100000 in
theorem c_X1_atPlace (l : Launch) (D : va_G) (dA : Nat → ClassId) (base : Nat) (a0 : Nat) (a1 : Int32) {σ τ : HS} {r : Nat} (hF : F_X1_atPlace a0 a1 σ = some (r, τ)) : CT l yX1_atPlace cX1_atPlace 4 (some (.object "SnapRows$Entry")) 0 0 D dA base [vr a0, .int a1] (some (vr r)) σ τ := by
  refine CT.of (lv := [(0, vr a0), (1, .int a1)]) (by decide) (vR (vI vN)) (Nat.le_of_ble_eq_true rfl) rfl ?_
  intro p e s m args below meth c ls cx hl h
  have cx : CX p s m args meth c cX1_atPlace 4 (some (.object "SnapRows$Entry")) RX1 "atPlace" D dA base := cx
  have g : LE σ σ := LE.rf
  obtain ⟨hx, hb, -⟩ := id cx
  unfold F_X1_atPlace at hF
  refine lv_iconst (v := (0 : Int32)) hx hb dX1_atPlace_0 (by decide) ?_
  refine x_istore_n (lv' := [(2, .int (0 : Int32)), (0, vr a0), (1, .int a1)]) hx hb dX1_atPlace_1 rfl hl (by decide) (cR (cI cN)) rfl (fun ls hl => ?_)
  refine x_aload_n hx hb dX1_atPlace_2 rfl (lv_at hl 1 rfl) ?_
  refine x_astore_n (lv' := [(3, vr a0), (2, .int (0 : Int32)), (0, vr a0), (1, .int a1)]) hx hb dX1_atPlace_3 rfl hl (by decide) (cI (cR (cI cN))) rfl (fun ls hl => ?_)
  exact wl_X1_atPlace_4 cx   NF a1 (0 : Int32) a0 σ _ _ _ h g (lv_sub hl [3, 1, 0] rfl) hF
def B_X1_count_4 (k4 : Int32 → Nat → HS → Option (Int32 × HS)) (x1 : Int32) (x2 : Nat) (σ : HS) : Option (Int32 × HS) :=
  if x2 = 0 then (some (x1, σ)) else (if kd σ x2 = 2 then (k4 (x1 + (1 : Int32)) (gr σ 42 x2) σ) else none)
theorem mo_B_X1_count_4 {k4 : Int32 → Nat → HS → Option (Int32 × HS)} (mk4 : ∀ x1 x2 σ, Mo σ (k4 x1 x2 σ)) (x1 : Int32) (x2 : Nat) (σ : HS) : Mo σ (B_X1_count_4 k4 x1 x2 σ) := by
  unfold B_X1_count_4
  exact (mo_ite mo_ret (mo_ite (mk4 (x1 + (1 : Int32)) (gr σ 42 x2) _) mo_none))
set_option maxHeartbeats 4000000 in
set_option maxRecDepth 100000 in
theorem w_X1_count_4 {p : Program} {l : Launch} {e : Env} {s : State} {m : MethodId} {args : Array Value} {below : List Frame} {meth : Method} {c : Code} {D : va_G} {dA : Nat → ClassId} {base : Nat} {σ0 τ : HS} {r : Int32} (cx : CX p s m args meth c cX1_count 3 (some .int) RX1 "count" D dA base) {k4 : Int32 → Nat → HS → Option (Int32 × HS)} (mk4 : ∀ x1 x2 σ, Mo σ (k4 x1 x2 σ)) (hk4 : ∀ x1 x2 σ H locs ls, Wd D dA base σ s H locs → LE σ0 σ → lv_has ls 3 [(1, .int x1), (2, vr x2)] → k4 x1 x2 σ = some (r, τ) → WG p l e s m args below meth c D dA base 0 0 (some (.int r)) σ0 τ σ H locs 4 ls []) (x1 : Int32) (x2 : Nat) {σ : HS} {H : Heap} {locs : List Loc} {ls : Array Slot} (h : Wd D dA base σ s H locs) (g : LE σ0 σ) (hl : lv_has ls 3 [(1, .int x1), (2, vr x2)]) (hF : B_X1_count_4 k4 x1 x2 σ = some (r, τ)) : WG p l e s m args below meth c D dA base 0 0 (some (.int r)) σ0 τ σ H locs 4 ls [] := by
  obtain ⟨hx, hb, -⟩ := id cx
  unfold B_X1_count_4 at hF
  refine x_aload_n hx hb dX1_count_4 rfl (lv_at hl 1 rfl) ?_
  refine x_ifnull (tgt := 19) hx hb dX1_count_5 (by decide) (fun c1 => ?_) (fun c1 => ?_)
  · replace hF := ifp c1 hF
    refine lv_iload_n hx hb dX1_count_19 rfl (lv_at hl 0 rfl) ?_
    obtain ⟨rfl, rfl⟩ := rts hF
    exact x_iret cx h dX1_count_20
  · replace hF := ifn c1 hF
    refine x_iinc (k := 0) (v := (1 : Int32)) (lv' := [(1, .int (x1 + (1 : Int32))), (2, vr x2)]) hx hb dX1_count_8 hl rfl (by decide) (by decide) (cI (cR cN)) rfl (fun ls hl => ?_)
    refine x_aload_n hx hb dX1_count_11 rfl (lv_at hl 1 rfl) ?_
    obtain ⟨hq2, hF⟩ := ifs hF
    refine x_getr cx h fa_X1_16 (f := 42) rfl hq2 dX1_count_12 ?_
    refine x_astore_n (lv' := [(2, vr (gr σ 42 x2)), (1, .int (x1 + (1 : Int32)))]) hx hb dX1_count_15 rfl hl (by decide) (cI (cR cN)) rfl (fun ls hl => ?_)
    refine lv_goto (tgt := 4) hx hb dX1_count_16 (by decide) ?_
    exact hk4 (x1 + (1 : Int32)) (gr σ 42 x2) σ _ _ _ h g (lv_sub hl [1, 0] rfl) hF
def L_X1_count_4  : Nat → Int32 → Nat → HS → Option (Int32 × HS)
  | 0, _, _, _ => none
  | N + 1, x1, x2, σ => B_X1_count_4 (L_X1_count_4  N) x1 x2 σ
theorem mo_L_X1_count_4  : ∀ (N : Nat) (x1 : Int32) (x2 : Nat) (σ : HS), Mo σ (L_X1_count_4  N x1 x2 σ) := by
  intro N
  induction N with
  | zero => intro x1 x2 σ; exact mo_none
  | succ N ih => intro x1 x2 σ; exact mo_B_X1_count_4 ih x1 x2 σ
theorem wl_X1_count_4 {p : Program} {l : Launch} {e : Env} {s : State} {m : MethodId} {args : Array Value} {below : List Frame} {meth : Method} {c : Code} {D : va_G} {dA : Nat → ClassId} {base : Nat} {σ0 τ : HS} {r : Int32} (cx : CX p s m args meth c cX1_count 3 (some .int) RX1 "count" D dA base)  : ∀ (N : Nat) (x1 : Int32) (x2 : Nat) (σ : HS) (H : Heap) (locs : List Loc) (ls : Array Slot), Wd D dA base σ s H locs → LE σ0 σ → lv_has ls 3 [(1, .int x1), (2, vr x2)] → L_X1_count_4  N x1 x2 σ = some (r, τ) → WG p l e s m args below meth c D dA base 0 0 (some (.int r)) σ0 τ σ H locs 4 ls [] := by
  intro N
  induction N with
  | zero => intro x1 x2 σ H locs ls h g hl hF; cases hF
  | succ N ih => intro x1 x2 σ H locs ls h g hl hF; exact w_X1_count_4 cx (mo_L_X1_count_4  N) ih x1 x2 h g hl hF
def F_X1_count (a0 : Nat) (σ : HS) : Option (Int32 × HS) :=
  L_X1_count_4  NF (0 : Int32) a0 σ
theorem mo_F_X1_count (a0 : Nat) (σ : HS) : Mo σ (F_X1_count a0 σ) := by
  unfold F_X1_count
  exact (mo_L_X1_count_4  NF (0 : Int32) a0 _)
set_option maxHeartbeats 4000000 in
set_option maxRecDepth 100000 in
theorem c_X1_count (l : Launch) (D : va_G) (dA : Nat → ClassId) (base : Nat) (a0 : Nat) {σ τ : HS} {r : Int32} (hF : F_X1_count a0 σ = some (r, τ)) : CT l yX1_count cX1_count 3 (some .int) 0 0 D dA base [vr a0] (some (.int r)) σ τ := by
  refine CT.of (lv := [(0, vr a0)]) (by decide) (vR vN) (Nat.le_of_ble_eq_true rfl) rfl ?_
  intro p e s m args below meth c ls cx hl h
  have cx : CX p s m args meth c cX1_count 3 (some .int) RX1 "count" D dA base := cx
  have g : LE σ σ := LE.rf
  obtain ⟨hx, hb, -⟩ := id cx
  unfold F_X1_count at hF
  refine lv_iconst (v := (0 : Int32)) hx hb dX1_count_0 (by decide) ?_
  refine x_istore_n (lv' := [(1, .int (0 : Int32)), (0, vr a0)]) hx hb dX1_count_1 rfl hl (by decide) (cR cN) rfl (fun ls hl => ?_)
  refine x_aload_n hx hb dX1_count_2 rfl (lv_at hl 1 rfl) ?_
  refine x_astore_n (lv' := [(2, vr a0), (1, .int (0 : Int32)), (0, vr a0)]) hx hb dX1_count_3 rfl hl (by decide) (cI (cR cN)) rfl (fun ls hl => ?_)
  exact wl_X1_count_4 cx   NF (0 : Int32) a0 σ _ _ _ h g (lv_sub hl [1, 0] rfl) hF
def F_X2_init (a0 : Nat) (σ : HS) : Option (Unit × HS) :=
  if kd σ a0 = 3 then (some ((), (si σ 81 a0 (1 : Int32)))) else none
theorem mo_F_X2_init (a0 : Nat) (σ : HS) : Mo σ (F_X2_init a0 σ) := by
  unfold F_X2_init
  exact (mo_ite (mo_le (τ := (si σ 81 a0 (1 : Int32))) ⟨Nat.le_refl _, Nat.le_refl _⟩ mo_ret) mo_none)
set_option maxHeartbeats 4000000 in
set_option maxRecDepth 100000 in
theorem c_X2_init (l : Launch) (D : va_G) (dA : Nat → ClassId) (base : Nat) (a0 : Nat) {σ τ : HS} {r : Unit} (hF : F_X2_init a0 σ = some (r, τ)) : CT l yX2_init cX2_init 1 none 1 20 D dA base [vr a0] none σ τ := by
  refine CT.of (lv := [(0, vr a0)]) (by decide) (vR vN) (Nat.le_of_ble_eq_true rfl) rfl ?_
  intro p e s m args below meth c ls cx hl h
  have cx : CX p s m args meth c cX2_init 1 none RX2 "<init>" D dA base := cx
  have g : LE σ σ := LE.rf
  obtain ⟨hx, hb, -⟩ := id cx
  unfold F_X2_init at hF
  refine x_aload_n hx hb dX2_init_0 rfl (lv_at hl 0 rfl) ?_
  obtain ⟨hq1, hF⟩ := ifs hF
  refine x_obj cx h ml_X2_3 hq1 hl.1 ⟨Nat.le_of_ble_eq_true rfl, Nat.le_of_ble_eq_true rfl⟩ (s8 sN (by decide)) dX2_init_1 ?_
  refine x_aload_n hx hb dX2_init_4 rfl (lv_at hl 0 rfl) ?_
  refine lv_iconst (v := (1 : Int32)) hx hb dX2_init_5 (by decide) ?_
  refine x_sti cx h fa_X2_9 (f := 81) rfl (Or.inl rfl) hq1 dX2_init_6 (fun H locs h => ?_)
  obtain ⟨rfl, rfl⟩ := rts hF
  exact x_vret cx h dX2_init_9
def B_X2_give_22  (x0 : Nat) (σ : HS) : Option (Int32 × HS) :=
  if kd σ x0 = 3 then (some ((gi (si (si σ 80 x0 (gi σ 81 x0)) 81 x0 ((gi (si σ 80 x0 (gi σ 81 x0)) 81 x0) + (1 : Int32))) 80 x0), (si (si σ 80 x0 (gi σ 81 x0)) 81 x0 ((gi (si σ 80 x0 (gi σ 81 x0)) 81 x0) + (1 : Int32))))) else none
theorem mo_B_X2_give_22  (x0 : Nat) (σ : HS) : Mo σ (B_X2_give_22  x0 σ) := by
  unfold B_X2_give_22
  exact (mo_ite (mo_le (τ := (si (si σ 80 x0 (gi σ 81 x0)) 81 x0 ((gi (si σ 80 x0 (gi σ 81 x0)) 81 x0) + (1 : Int32)))) ⟨Nat.le_refl _, Nat.le_refl _⟩ mo_ret) mo_none)
set_option maxHeartbeats 4000000 in
set_option maxRecDepth 100000 in
theorem w_X2_give_22 {p : Program} {l : Launch} {e : Env} {s : State} {m : MethodId} {args : Array Value} {below : List Frame} {meth : Method} {c : Code} {D : va_G} {dA : Nat → ClassId} {base : Nat} {σ0 τ : HS} {r : Int32} (cx : CX p s m args meth c cX2_give 1 (some .int) RX2 "give" D dA base)  (x0 : Nat) {σ : HS} {H : Heap} {locs : List Loc} {ls : Array Slot} (h : Wd D dA base σ s H locs) (g : LE σ0 σ) (hl : lv_has ls 1 [(0, vr x0)]) (hF : B_X2_give_22  x0 σ = some (r, τ)) : WG p l e s m args below meth c D dA base 0 0 (some (.int r)) σ0 τ σ H locs 22 ls [] := by
  obtain ⟨hx, hb, -⟩ := id cx
  unfold B_X2_give_22 at hF
  refine x_aload_n hx hb dX2_give_22 rfl (lv_at hl 0 rfl) ?_
  refine x_aload_n hx hb dX2_give_23 rfl (lv_at hl 0 rfl) ?_
  obtain ⟨hq1, hF⟩ := ifs hF
  refine x_geti cx h fa_X2_9 (f := 81) rfl hq1 dX2_give_24 ?_
  refine x_sti cx h fa_X2_18 (f := 80) rfl (Or.inl rfl) hq1 dX2_give_27 (fun H locs h => ?_)
  refine x_aload_n hx hb dX2_give_30 rfl (lv_at hl 0 rfl) ?_
  refine lv_dup hx hb dX2_give_31 (vr_cat _) ?_
  refine x_geti cx h fa_X2_9 (f := 81) rfl hq1 dX2_give_32 ?_
  refine lv_iconst (v := (1 : Int32)) hx hb dX2_give_35 (by decide) ?_
  refine lv_iadd hx hb dX2_give_36 ?_
  refine x_sti cx h fa_X2_9 (f := 81) rfl (Or.inl rfl) hq1 dX2_give_37 (fun H locs h => ?_)
  refine x_aload_n hx hb dX2_give_40 rfl (lv_at hl 0 rfl) ?_
  refine x_geti cx h fa_X2_18 (f := 80) rfl hq1 dX2_give_41 ?_
  obtain ⟨rfl, rfl⟩ := rts hF
  exact x_iret cx h dX2_give_44
def F_X2_give (a0 : Nat) (σ : HS) : Option (Int32 × HS) :=
  if kd σ a0 = 3 then (if (gi σ 81 a0) ≤ (gi σ 82 a0) then (B_X2_give_22  a0 σ) else (B_X2_give_22  a0 (si σ 82 a0 ((gi σ 82 a0) + (16 : Int32))))) else none
theorem mo_F_X2_give (a0 : Nat) (σ : HS) : Mo σ (F_X2_give a0 σ) := by
  unfold F_X2_give
  exact (mo_ite (mo_ite (mo_B_X2_give_22  a0 _) (mo_le (τ := (si σ 82 a0 ((gi σ 82 a0) + (16 : Int32)))) ⟨Nat.le_refl _, Nat.le_refl _⟩ (mo_B_X2_give_22  a0 _))) mo_none)
set_option maxHeartbeats 4000000 in
set_option maxRecDepth 100000 in
theorem c_X2_give (l : Launch) (D : va_G) (dA : Nat → ClassId) (base : Nat) (a0 : Nat) {σ τ : HS} {r : Int32} (hF : F_X2_give a0 σ = some (r, τ)) : CT l yX2_give cX2_give 1 (some .int) 0 0 D dA base [vr a0] (some (.int r)) σ τ := by
  refine CT.of (lv := [(0, vr a0)]) (by decide) (vR vN) (Nat.le_of_ble_eq_true rfl) rfl ?_
  intro p e s m args below meth c ls cx hl h
  have cx : CX p s m args meth c cX2_give 1 (some .int) RX2 "give" D dA base := cx
  have g : LE σ σ := LE.rf
  obtain ⟨hx, hb, -⟩ := id cx
  unfold F_X2_give at hF
  refine x_aload_n hx hb dX2_give_0 rfl (lv_at hl 0 rfl) ?_
  obtain ⟨hq1, hF⟩ := ifs hF
  refine x_geti cx h fa_X2_9 (f := 81) rfl hq1 dX2_give_1 ?_
  refine x_aload_n hx hb dX2_give_4 rfl (lv_at hl 0 rfl) ?_
  refine x_geti cx h fa_X2_15 (f := 82) rfl hq1 dX2_give_5 ?_
  refine lv_icmp_le (tgt := 22) hx hb dX2_give_8 (by decide) (fun c2 => ?_) (fun c2 => ?_)
  · replace hF := ifp c2 hF
    exact w_X2_give_22 (σ := σ) cx   a0 h g (lv_sub hl [0] rfl) hF
  · replace hF := ifn c2 hF
    refine x_aload_n hx hb dX2_give_11 rfl (lv_at hl 0 rfl) ?_
    refine lv_dup hx hb dX2_give_12 (vr_cat _) ?_
    refine x_geti cx h fa_X2_15 (f := 82) rfl hq1 dX2_give_13 ?_
    refine lv_bipush (v := (16 : Int32)) hx hb dX2_give_16 (by decide) ?_
    refine lv_iadd hx hb dX2_give_18 ?_
    refine x_sti cx h fa_X2_15 (f := 82) rfl (Or.inl rfl) hq1 dX2_give_19 (fun H locs h => ?_)
    exact w_X2_give_22 (σ := (si σ 82 a0 ((gi σ 82 a0) + (16 : Int32)))) cx   a0 h g (lv_sub hl [0] rfl) hF
def F_X2_restart (a0 : Nat) (σ : HS) : Option (Int32 × HS) :=
  if kd σ a0 = 3 then (some ((gi (si σ 81 a0 ((gi σ 82 a0) + (1 : Int32))) 81 a0), (si σ 81 a0 ((gi σ 82 a0) + (1 : Int32))))) else none
theorem mo_F_X2_restart (a0 : Nat) (σ : HS) : Mo σ (F_X2_restart a0 σ) := by
  unfold F_X2_restart
  exact (mo_ite (mo_le (τ := (si σ 81 a0 ((gi σ 82 a0) + (1 : Int32)))) ⟨Nat.le_refl _, Nat.le_refl _⟩ mo_ret) mo_none)
set_option maxHeartbeats 4000000 in
set_option maxRecDepth 100000 in
theorem c_X2_restart (l : Launch) (D : va_G) (dA : Nat → ClassId) (base : Nat) (a0 : Nat) {σ τ : HS} {r : Int32} (hF : F_X2_restart a0 σ = some (r, τ)) : CT l yX2_restart cX2_restart 1 (some .int) 0 0 D dA base [vr a0] (some (.int r)) σ τ := by
  refine CT.of (lv := [(0, vr a0)]) (by decide) (vR vN) (Nat.le_of_ble_eq_true rfl) rfl ?_
  intro p e s m args below meth c ls cx hl h
  have cx : CX p s m args meth c cX2_restart 1 (some .int) RX2 "restart" D dA base := cx
  have g : LE σ σ := LE.rf
  obtain ⟨hx, hb, -⟩ := id cx
  unfold F_X2_restart at hF
  refine x_aload_n hx hb dX2_restart_0 rfl (lv_at hl 0 rfl) ?_
  refine x_aload_n hx hb dX2_restart_1 rfl (lv_at hl 0 rfl) ?_
  obtain ⟨hq1, hF⟩ := ifs hF
  refine x_geti cx h fa_X2_15 (f := 82) rfl hq1 dX2_restart_2 ?_
  refine lv_iconst (v := (1 : Int32)) hx hb dX2_restart_5 (by decide) ?_
  refine lv_iadd hx hb dX2_restart_6 ?_
  refine x_sti cx h fa_X2_9 (f := 81) rfl (Or.inl rfl) hq1 dX2_restart_7 (fun H locs h => ?_)
  refine x_aload_n hx hb dX2_restart_10 rfl (lv_at hl 0 rfl) ?_
  refine x_geti cx h fa_X2_9 (f := 81) rfl hq1 dX2_restart_11 ?_
  obtain ⟨rfl, rfl⟩ := rts hF
  exact x_iret cx h dX2_restart_14
def B_X3_init_16 (k16 : Nat → Int32 → HS → Option (Unit × HS)) (x0 : Nat) (x1 : Int32) (σ : HS) : Option (Unit × HS) :=
  if (256 : Int32) ≤ x1 then (some ((), σ)) else (if kd σ x0 = 4 then (bd (F_X0_init (hs σ + 1) (nw σ 1 5)) (fun r3 σ3 => if kd σ3 (gr σ 120 x0) = 102 ∧ inb x1 (ln σ3 (gr σ 120 x0)) then (if kd σ3 (hs σ + 1) = 1 then (k16 x0 (x1 + (1 : Int32)) (sar σ3 (gr σ 120 x0) x1.toNatClampNeg (hs σ + 1))) else none) else none)) else none)
theorem mo_B_X3_init_16 {k16 : Nat → Int32 → HS → Option (Unit × HS)} (mk16 : ∀ x0 x1 σ, Mo σ (k16 x0 x1 σ)) (x0 : Nat) (x1 : Int32) (σ : HS) : Mo σ (B_X3_init_16 k16 x0 x1 σ) := by
  unfold B_X3_init_16
  exact (mo_ite mo_ret (mo_ite (mo_le (τ := (nw σ 1 5)) LE.nw (mo_bd (mo_F_X0_init (hs σ + 1) _) (fun r3 σ3 => (mo_ite (mo_ite (mo_le (τ := (sar σ3 (gr σ 120 x0) x1.toNatClampNeg (hs σ + 1))) ⟨Nat.le_refl _, Nat.le_refl _⟩ (mk16 x0 (x1 + (1 : Int32)) _)) mo_none) mo_none)))) mo_none))
set_option maxHeartbeats 4000000 in
set_option maxRecDepth 100000 in
theorem w_X3_init_16 {p : Program} {l : Launch} {e : Env} {s : State} {m : MethodId} {args : Array Value} {below : List Frame} {meth : Method} {c : Code} {D : va_G} {dA : Nat → ClassId} {base : Nat} {σ0 τ : HS} {r : Unit} (cx : CX p s m args meth c cX3_init 2 none RX3 "<init>" D dA base) {k16 : Nat → Int32 → HS → Option (Unit × HS)} (mk16 : ∀ x0 x1 σ, Mo σ (k16 x0 x1 σ)) (hk16 : ∀ x0 x1 σ H locs ls, Wd D dA base σ s H locs → LE σ0 σ → lv_has ls 2 [(0, vr x0), (1, .int x1)] → k16 x0 x1 σ = some (r, τ) → WG p l e s m args below meth c D dA base 2 40 none σ0 τ σ H locs 16 ls []) (x0 : Nat) (x1 : Int32) {σ : HS} {H : Heap} {locs : List Loc} {ls : Array Slot} (h : Wd D dA base σ s H locs) (g : LE σ0 σ) (hl : lv_has ls 2 [(0, vr x0), (1, .int x1)]) (hF : B_X3_init_16 k16 x0 x1 σ = some (r, τ)) : WG p l e s m args below meth c D dA base 2 40 none σ0 τ σ H locs 16 ls [] := by
  obtain ⟨hx, hb, -⟩ := id cx
  unfold B_X3_init_16 at hF
  refine lv_iload_n hx hb dX3_init_16 rfl (lv_at hl 1 rfl) ?_
  refine lv_sipush (v := (256 : Int32)) hx hb dX3_init_17 (by decide) ?_
  refine lv_icmp_ge (tgt := 42) hx hb dX3_init_20 (by decide) (fun c1 => ?_) (fun c1 => ?_)
  · replace hF := ifp c1 hF
    obtain ⟨rfl, rfl⟩ := rts hF
    exact x_vret cx h dX3_init_42
  · replace hF := ifn c1 hF
    refine x_aload_n hx hb dX3_init_23 rfl (lv_at hl 0 rfl) ?_
    obtain ⟨hq2, hF⟩ := ifs hF
    refine x_getr cx h fa_X3_11 (f := 120) rfl hq2 dX3_init_24 ?_
    refine lv_iload_n hx hb dX3_init_27 rfl (lv_at hl 1 rfl) ?_
    refine x_newG cx h g ((mo_bd (mo_F_X0_init (hs σ + 1) _) (fun r3 σ3 => (mo_ite (mo_ite (mo_le (τ := (sar σ3 (gr σ 120 x0) x1.toNatClampNeg (hs σ + 1))) ⟨Nat.le_refl _, Nat.le_refl _⟩ (mk16 x0 (x1 + (1 : Int32)) _)) mo_none) mo_none))) _ _ hF) nl_X3_9 dX3_init_28 (fun H h g => ?_)
    refine lv_dup hx hb dX3_init_31 (vr_cat _) ?_
    obtain ⟨r3, σ3, hc3, hF⟩ := bds hF
    refine x_callv (σ := (nw σ 1 5)) g (mo_F_X0_init (hs σ + 1) _ _ _ hc3) (x_runIN (As := []) (rest := [vr (hs σ + 1), .int x1, vr (gr σ 120 x0)]) cx h (c_X0_init l D dA base (hs σ + 1) hc3) ml_X3_17 mi_X0_init (kd_nw_self σ 1 5) rfl ⟨Nat.le_of_ble_eq_true rfl, Nat.le_of_ble_eq_true rfl⟩ hl.1 rfl (s8 (sR (sI (sR sN))) (by decide)) dX3_init_32 (le_room g (mo_F_X0_init (hs σ + 1) _ _ _ hc3) ((mo_ite (mo_ite (mo_le (τ := (sar σ3 (gr σ 120 x0) x1.toNatClampNeg (hs σ + 1))) ⟨Nat.le_refl _, Nat.le_refl _⟩ (mk16 x0 (x1 + (1 : Int32)) _)) mo_none) mo_none) _ _ hF))) h (fun H locs h g => ?_)
    obtain ⟨hq4, hF⟩ := ifs hF
    obtain ⟨hq5, hF⟩ := ifs hF
    refine x_aast cx h RA2 (by decide) hq4.1 (inb.vp hq4.2) hq5 dX3_init_35 (fun H locs h => ?_)
    refine x_iinc (k := 1) (v := (1 : Int32)) (lv' := [(1, .int (x1 + (1 : Int32))), (0, vr x0)]) hx hb dX3_init_36 hl rfl (by decide) (by decide) (cR (cI cN)) rfl (fun ls hl => ?_)
    refine lv_goto (tgt := 16) hx hb dX3_init_39 (by decide) ?_
    exact hk16 x0 (x1 + (1 : Int32)) (sar σ3 (gr σ 120 x0) x1.toNatClampNeg (hs σ + 1)) _ _ _ h g (lv_sub hl [1, 0] rfl) hF
def L_X3_init_16  : Nat → Nat → Int32 → HS → Option (Unit × HS)
  | 0, _, _, _ => none
  | N + 1, x0, x1, σ => B_X3_init_16 (L_X3_init_16  N) x0 x1 σ
theorem mo_L_X3_init_16  : ∀ (N : Nat) (x0 : Nat) (x1 : Int32) (σ : HS), Mo σ (L_X3_init_16  N x0 x1 σ) := by
  intro N
  induction N with
  | zero => intro x0 x1 σ; exact mo_none
  | succ N ih => intro x0 x1 σ; exact mo_B_X3_init_16 ih x0 x1 σ
theorem wl_X3_init_16 {p : Program} {l : Launch} {e : Env} {s : State} {m : MethodId} {args : Array Value} {below : List Frame} {meth : Method} {c : Code} {D : va_G} {dA : Nat → ClassId} {base : Nat} {σ0 τ : HS} {r : Unit} (cx : CX p s m args meth c cX3_init 2 none RX3 "<init>" D dA base)  : ∀ (N : Nat) (x0 : Nat) (x1 : Int32) (σ : HS) (H : Heap) (locs : List Loc) (ls : Array Slot), Wd D dA base σ s H locs → LE σ0 σ → lv_has ls 2 [(0, vr x0), (1, .int x1)] → L_X3_init_16  N x0 x1 σ = some (r, τ) → WG p l e s m args below meth c D dA base 2 40 none σ0 τ σ H locs 16 ls [] := by
  intro N
  induction N with
  | zero => intro x0 x1 σ H locs ls h g hl hF; cases hF
  | succ N ih => intro x0 x1 σ H locs ls h g hl hF; exact w_X3_init_16 cx (mo_L_X3_init_16  N) ih x0 x1 h g hl hF
def F_X3_init (a0 : Nat) (σ : HS) : Option (Unit × HS) :=
  if kd σ a0 = 4 then (if kd (nw σ 102 256) a0 = 4 then (L_X3_init_16  NF a0 (0 : Int32) (sr (nw σ 102 256) 120 a0 (hs σ + 1))) else none) else none
theorem mo_F_X3_init (a0 : Nat) (σ : HS) : Mo σ (F_X3_init a0 σ) := by
  unfold F_X3_init
  exact (mo_ite (mo_le (τ := (nw σ 102 256)) LE.nw (mo_ite (mo_le (τ := (sr (nw σ 102 256) 120 a0 (hs σ + 1))) ⟨Nat.le_refl _, Nat.le_refl _⟩ (mo_L_X3_init_16  NF a0 (0 : Int32) _)) mo_none)) mo_none)
set_option maxHeartbeats 4000000 in
set_option maxRecDepth 100000 in
theorem c_X3_init (l : Launch) (D : va_G) (dA : Nat → ClassId) (base : Nat) (a0 : Nat) {σ τ : HS} {r : Unit} (hF : F_X3_init a0 σ = some (r, τ)) : CT l yX3_init cX3_init 2 none 2 40 D dA base [vr a0] none σ τ := by
  refine CT.of (lv := [(0, vr a0)]) (by decide) (vR vN) (Nat.le_of_ble_eq_true rfl) rfl ?_
  intro p e s m args below meth c ls cx hl h
  have cx : CX p s m args meth c cX3_init 2 none RX3 "<init>" D dA base := cx
  have g : LE σ σ := LE.rf
  obtain ⟨hx, hb, -⟩ := id cx
  unfold F_X3_init at hF
  refine x_aload_n hx hb dX3_init_0 rfl (lv_at hl 0 rfl) ?_
  obtain ⟨hq1, hF⟩ := ifs hF
  refine x_obj cx h ml_X3_3 hq1 hl.1 ⟨Nat.le_of_ble_eq_true rfl, Nat.le_of_ble_eq_true rfl⟩ (s8 sN (by decide)) dX3_init_1 ?_
  refine x_aload_n hx hb dX3_init_4 rfl (lv_at hl 0 rfl) ?_
  refine lv_sipush (v := (256 : Int32)) hx hb dX3_init_5 (by decide) ?_
  refine x_newqG (j := 2) (N := 256) cx h g ((mo_ite (mo_le (τ := (sr (nw σ 102 256) 120 a0 (hs σ + 1))) ⟨Nat.le_refl _, Nat.le_refl _⟩ (mo_L_X3_init_16  NF a0 (0 : Int32) _)) mo_none) _ _ hF) (by decide) (fun _ => rfl) (fun _ hU => hU.2.2.1) cl_X3_9 (by decide) (by decide) (by decide) dX3_init_8 (fun H h g => ?_)
  obtain ⟨hq2, hF⟩ := ifs hF
  refine x_str cx h fa_X3_11 (f := 120) rfl (Or.inr ⟨rfl, rfl, _, _, rfl⟩) hq2 dX3_init_11 (fun H locs h => ?_)
  refine lv_iconst (v := (0 : Int32)) hx hb dX3_init_14 (by decide) ?_
  refine x_istore_n (lv' := [(1, .int (0 : Int32)), (0, vr a0)]) hx hb dX3_init_15 rfl hl (by decide) (cR cN) rfl (fun ls hl => ?_)
  exact wl_X3_init_16 cx   NF a0 (0 : Int32) (sr (nw σ 102 256) 120 a0 (hs σ + 1)) _ _ _ h g (lv_sub hl [1, 0] rfl) hF
def F_X3_addLine (a0 : Nat) (a1 : Int32) (σ : HS) : Option (Unit × HS) :=
  if kd σ a0 = 4 then (some ((), (si (si σ 121 a0 ((gi σ 121 a0) + a1)) 122 a0 ((gi (si σ 121 a0 ((gi σ 121 a0) + a1)) 122 a0) + (1 : Int32))))) else none
theorem mo_F_X3_addLine (a0 : Nat) (a1 : Int32) (σ : HS) : Mo σ (F_X3_addLine a0 a1 σ) := by
  unfold F_X3_addLine
  exact (mo_ite (mo_le (τ := (si (si σ 121 a0 ((gi σ 121 a0) + a1)) 122 a0 ((gi (si σ 121 a0 ((gi σ 121 a0) + a1)) 122 a0) + (1 : Int32)))) ⟨Nat.le_refl _, Nat.le_refl _⟩ mo_ret) mo_none)
set_option maxHeartbeats 4000000 in
set_option maxRecDepth 100000 in
theorem c_X3_addLine (l : Launch) (D : va_G) (dA : Nat → ClassId) (base : Nat) (a0 : Nat) (a1 : Int32) {σ τ : HS} {r : Unit} (hF : F_X3_addLine a0 a1 σ = some (r, τ)) : CT l yX3_addLine cX3_addLine 2 none 0 0 D dA base [vr a0, .int a1] none σ τ := by
  refine CT.of (lv := [(0, vr a0), (1, .int a1)]) (by decide) (vR (vI vN)) (Nat.le_of_ble_eq_true rfl) rfl ?_
  intro p e s m args below meth c ls cx hl h
  have cx : CX p s m args meth c cX3_addLine 2 none RX3 "addLine" D dA base := cx
  have g : LE σ σ := LE.rf
  obtain ⟨hx, hb, -⟩ := id cx
  unfold F_X3_addLine at hF
  refine x_aload_n hx hb dX3_addLine_0 rfl (lv_at hl 0 rfl) ?_
  refine lv_dup hx hb dX3_addLine_1 (vr_cat _) ?_
  obtain ⟨hq1, hF⟩ := ifs hF
  refine x_geti cx h fa_X3_52 (f := 121) rfl hq1 dX3_addLine_2 ?_
  refine lv_iload_n hx hb dX3_addLine_5 rfl (lv_at hl 1 rfl) ?_
  refine lv_iadd hx hb dX3_addLine_6 ?_
  refine x_sti cx h fa_X3_52 (f := 121) rfl (Or.inl rfl) hq1 dX3_addLine_7 (fun H locs h => ?_)
  refine x_aload_n hx hb dX3_addLine_10 rfl (lv_at hl 0 rfl) ?_
  refine lv_dup hx hb dX3_addLine_11 (vr_cat _) ?_
  refine x_geti cx h fa_X3_55 (f := 122) rfl hq1 dX3_addLine_12 ?_
  refine lv_iconst (v := (1 : Int32)) hx hb dX3_addLine_15 (by decide) ?_
  refine lv_iadd hx hb dX3_addLine_16 ?_
  refine x_sti cx h fa_X3_55 (f := 122) rfl (Or.inl rfl) hq1 dX3_addLine_17 (fun H locs h => ?_)
  obtain ⟨rfl, rfl⟩ := rts hF
  exact x_vret cx h dX3_addLine_20
def F_X3_addData (a0 : Nat) (a1 : Nat) (a2 : Int32) (a3 : Int32) (σ : HS) : Option (Unit × HS) :=
  if kd (nw σ 2 3) a1 = 1 then (bd (F_X1_init (hs σ + 1) a2 a3 (gr (nw σ 2 3) 0 a1) (nw σ 2 3)) (fun r2 σ2 => if kd σ2 a1 = 1 then (if kd (sr σ2 0 a1 (hs σ + 1)) a0 = 4 then (bd (F_X3_addLine a0 (1 : Int32) (sr σ2 0 a1 (hs σ + 1))) (fun r5 σ5 => some ((), σ5))) else none) else none)) else none
theorem mo_F_X3_addData (a0 : Nat) (a1 : Nat) (a2 : Int32) (a3 : Int32) (σ : HS) : Mo σ (F_X3_addData a0 a1 a2 a3 σ) := by
  unfold F_X3_addData
  exact (mo_le (τ := (nw σ 2 3)) LE.nw (mo_ite (mo_bd (mo_F_X1_init (hs σ + 1) a2 a3 (gr (nw σ 2 3) 0 a1) _) (fun r2 σ2 => (mo_ite (mo_ite (mo_le (τ := (sr σ2 0 a1 (hs σ + 1))) ⟨Nat.le_refl _, Nat.le_refl _⟩ (mo_bd (mo_F_X3_addLine a0 (1 : Int32) _) (fun r5 σ5 => mo_ret))) mo_none) mo_none))) mo_none))
set_option maxHeartbeats 4000000 in
set_option maxRecDepth 100000 in
theorem c_X3_addData (l : Launch) (D : va_G) (dA : Nat → ClassId) (base : Nat) (a0 : Nat) (a1 : Nat) (a2 : Int32) (a3 : Int32) {σ τ : HS} {r : Unit} (hF : F_X3_addData a0 a1 a2 a3 σ = some (r, τ)) : CT l yX3_addData cX3_addData 4 none 2 43 D dA base [vr a0, vr a1, .int a2, .int a3] none σ τ := by
  refine CT.of (lv := [(0, vr a0), (1, vr a1), (2, .int a2), (3, .int a3)]) (by decide) (vR (vR (vI (vI vN)))) (Nat.le_of_ble_eq_true rfl) rfl ?_
  intro p e s m args below meth c ls cx hl h
  have cx : CX p s m args meth c cX3_addData 4 none RX3 "addData" D dA base := cx
  have g : LE σ σ := LE.rf
  obtain ⟨hx, hb, -⟩ := id cx
  unfold F_X3_addData at hF
  refine x_aload_n hx hb dX3_addData_0 rfl (lv_at hl 1 rfl) ?_
  refine x_newG cx h g ((mo_ite (mo_bd (mo_F_X1_init (hs σ + 1) a2 a3 (gr (nw σ 2 3) 0 a1) _) (fun r2 σ2 => (mo_ite (mo_ite (mo_le (τ := (sr σ2 0 a1 (hs σ + 1))) ⟨Nat.le_refl _, Nat.le_refl _⟩ (mo_bd (mo_F_X3_addLine a0 (1 : Int32) _) (fun r5 σ5 => mo_ret))) mo_none) mo_none))) mo_none) _ _ hF) nl_X3_18 dX3_addData_1 (fun H h g => ?_)
  refine lv_dup hx hb dX3_addData_4 (vr_cat _) ?_
  refine lv_iload_n hx hb dX3_addData_5 rfl (lv_at hl 2 rfl) ?_
  refine lv_iload_n hx hb dX3_addData_6 rfl (lv_at hl 3 rfl) ?_
  refine x_aload_n hx hb dX3_addData_7 rfl (lv_at hl 1 rfl) ?_
  obtain ⟨hq1, hF⟩ := ifs hF
  refine x_getr cx h fa_X3_20 (f := 0) rfl hq1 dX3_addData_8 ?_
  obtain ⟨r2, σ2, hc2, hF⟩ := bds hF
  refine x_callv (σ := (nw σ 2 3)) g (mo_F_X1_init (hs σ + 1) a2 a3 (gr (nw σ 2 3) 0 a1) _ _ _ hc2) (x_runI (As := [.int a2, .int a3, vr (gr (nw σ 2 3) 0 a1)]) (rest := [vr (hs σ + 1), vr a1]) cx h (c_X1_init l D dA base (hs σ + 1) a2 a3 (gr (nw σ 2 3) 0 a1) hc2) ml_X3_24 mi_X1_init (kd_nw_self σ 2 3) rfl ⟨Nat.le_of_ble_eq_true rfl, Nat.le_of_ble_eq_true rfl⟩ hl.1 rfl (s8 (sR (sR sN)) (by decide)) dX3_addData_11 (le_room g (mo_F_X1_init (hs σ + 1) a2 a3 (gr (nw σ 2 3) 0 a1) _ _ _ hc2) ((mo_ite (mo_ite (mo_le (τ := (sr σ2 0 a1 (hs σ + 1))) ⟨Nat.le_refl _, Nat.le_refl _⟩ (mo_bd (mo_F_X3_addLine a0 (1 : Int32) _) (fun r5 σ5 => mo_ret))) mo_none) mo_none) _ _ hF))) h (fun H locs h g => ?_)
  obtain ⟨hq3, hF⟩ := ifs hF
  refine x_str cx h fa_X3_20 (f := 0) rfl (Or.inl rfl) hq3 dX3_addData_14 (fun H locs h => ?_)
  refine x_aload_n hx hb dX3_addData_17 rfl (lv_at hl 0 rfl) ?_
  refine lv_iconst (v := (1 : Int32)) hx hb dX3_addData_18 (by decide) ?_
  obtain ⟨hq4, hF⟩ := ifs hF
  obtain ⟨r5, σ5, hc5, hF⟩ := bds hF
  refine x_callv (σ := (sr σ2 0 a1 (hs σ + 1))) g (mo_F_X3_addLine a0 (1 : Int32) _ _ _ hc5) (x_runV (As := [.int (1 : Int32)]) (rest := []) cx h (c_X3_addLine l D dA base a0 (1 : Int32) hc5) ml_X3_27 mi_X3_addLine hq4 rfl ⟨Nat.le_of_ble_eq_true rfl, Nat.le_of_ble_eq_true rfl⟩ hl.1 rfl (s8 sN (by decide)) dX3_addData_19 (le_room g (mo_F_X3_addLine a0 (1 : Int32) _ _ _ hc5) (mo_ret _ _ hF))) h (fun H locs h g => ?_)
  obtain ⟨rfl, rfl⟩ := rts hF
  exact x_vret cx h dX3_addData_22
def B_X3_dropData_30   (σ : HS) : Option (Unit × HS) :=
  some ((), σ)
theorem mo_B_X3_dropData_30   (σ : HS) : Mo σ (B_X3_dropData_30   σ) := by
  unfold B_X3_dropData_30
  exact mo_ret
set_option maxHeartbeats 4000000 in
set_option maxRecDepth 100000 in
theorem w_X3_dropData_30 {p : Program} {l : Launch} {e : Env} {s : State} {m : MethodId} {args : Array Value} {below : List Frame} {meth : Method} {c : Code} {D : va_G} {dA : Nat → ClassId} {base : Nat} {σ0 τ : HS} {r : Unit} (cx : CX p s m args meth c cX3_dropData 4 none RX3 "dropData" D dA base)   {σ : HS} {H : Heap} {locs : List Loc} {ls : Array Slot} (h : Wd D dA base σ s H locs) (g : LE σ0 σ) (hl : lv_has ls 4 []) (hF : B_X3_dropData_30   σ = some (r, τ)) : WG p l e s m args below meth c D dA base 1 22 none σ0 τ σ H locs 30 ls [] := by
  obtain ⟨hx, hb, -⟩ := id cx
  unfold B_X3_dropData_30 at hF
  obtain ⟨rfl, rfl⟩ := rts hF
  exact x_vret cx h dX3_dropData_30
def F_X3_dropData (a0 : Nat) (a1 : Nat) (a2 : Int32) (σ : HS) : Option (Unit × HS) :=
  if kd σ a1 = 1 then (bd (F_X1_withKey (gr σ 0 a1) a2 σ) (fun r2 σ2 => if r2 = 0 then (B_X3_dropData_30   σ2) else (if kd σ2 a1 = 1 then (bd (F_X1_without (gr σ2 0 a1) r2 σ2) (fun r5 σ5 => if kd σ5 a1 = 1 then (if kd (sr σ5 0 a1 r5) a0 = 4 then (bd (F_X3_addLine a0 (-1 : Int32) (sr σ5 0 a1 r5)) (fun r8 σ8 => B_X3_dropData_30   σ8)) else none) else none)) else none))) else none
theorem mo_F_X3_dropData (a0 : Nat) (a1 : Nat) (a2 : Int32) (σ : HS) : Mo σ (F_X3_dropData a0 a1 a2 σ) := by
  unfold F_X3_dropData
  exact (mo_ite (mo_bd (mo_F_X1_withKey (gr σ 0 a1) a2 _) (fun r2 σ2 => (mo_ite (mo_B_X3_dropData_30   _) (mo_ite (mo_bd (mo_F_X1_without (gr σ2 0 a1) r2 _) (fun r5 σ5 => (mo_ite (mo_ite (mo_le (τ := (sr σ5 0 a1 r5)) ⟨Nat.le_refl _, Nat.le_refl _⟩ (mo_bd (mo_F_X3_addLine a0 (-1 : Int32) _) (fun r8 σ8 => (mo_B_X3_dropData_30   _)))) mo_none) mo_none))) mo_none)))) mo_none)
set_option maxHeartbeats 4000000 in
set_option maxRecDepth 100000 in
theorem c_X3_dropData (l : Launch) (D : va_G) (dA : Nat → ClassId) (base : Nat) (a0 : Nat) (a1 : Nat) (a2 : Int32) {σ τ : HS} {r : Unit} (hF : F_X3_dropData a0 a1 a2 σ = some (r, τ)) : CT l yX3_dropData cX3_dropData 4 none 1 22 D dA base [vr a0, vr a1, .int a2] none σ τ := by
  refine CT.of (lv := [(0, vr a0), (1, vr a1), (2, .int a2)]) (by decide) (vR (vR (vI vN))) (Nat.le_of_ble_eq_true rfl) rfl ?_
  intro p e s m args below meth c ls cx hl h
  have cx : CX p s m args meth c cX3_dropData 4 none RX3 "dropData" D dA base := cx
  have g : LE σ σ := LE.rf
  obtain ⟨hx, hb, -⟩ := id cx
  unfold F_X3_dropData at hF
  refine x_aload_n hx hb dX3_dropData_0 rfl (lv_at hl 1 rfl) ?_
  obtain ⟨hq1, hF⟩ := ifs hF
  refine x_getr cx h fa_X3_20 (f := 0) rfl hq1 dX3_dropData_1 ?_
  refine lv_iload_n hx hb dX3_dropData_4 rfl (lv_at hl 2 rfl) ?_
  obtain ⟨r2, σ2, hc2, hF⟩ := bds hF
  refine x_callr (σ := σ) g (mo_F_X1_withKey (gr σ 0 a1) a2 _ _ _ hc2) (x_runS (As := [vr (gr σ 0 a1), .int a2]) (rest := []) cx h (c_X1_withKey l D dA base (gr σ 0 a1) a2 hc2) ml_X3_31 mi_X1_withKey rfl ⟨Nat.le_of_ble_eq_true rfl, Nat.le_of_ble_eq_true rfl⟩ hl.1 rfl (s8 sN (by decide)) dX3_dropData_5 (le_room g (mo_F_X1_withKey (gr σ 0 a1) a2 _ _ _ hc2) ((mo_ite (mo_B_X3_dropData_30   _) (mo_ite (mo_bd (mo_F_X1_without (gr σ2 0 a1) r2 _) (fun r5 σ5 => (mo_ite (mo_ite (mo_le (τ := (sr σ5 0 a1 r5)) ⟨Nat.le_refl _, Nat.le_refl _⟩ (mo_bd (mo_F_X3_addLine a0 (-1 : Int32) _) (fun r8 σ8 => (mo_B_X3_dropData_30   _)))) mo_none) mo_none))) mo_none)) _ _ hF))) h (fun H locs h g => ?_)
  refine x_astore_n (lv' := [(3, vr r2), (0, vr a0), (1, vr a1), (2, .int a2)]) hx hb dX3_dropData_8 rfl hl (by decide) (cR (cR (cI cN))) rfl (fun ls hl => ?_)
  refine x_aload_n hx hb dX3_dropData_9 rfl (lv_at hl 0 rfl) ?_
  refine x_ifnull (tgt := 30) hx hb dX3_dropData_10 (by decide) (fun c3 => ?_) (fun c3 => ?_)
  · replace hF := ifp c3 hF
    exact w_X3_dropData_30 (σ := σ2) cx    h g (lv_sub hl [] rfl) hF
  · replace hF := ifn c3 hF
    refine x_aload_n hx hb dX3_dropData_13 rfl (lv_at hl 2 rfl) ?_
    refine x_aload_n hx hb dX3_dropData_14 rfl (lv_at hl 2 rfl) ?_
    obtain ⟨hq4, hF⟩ := ifs hF
    refine x_getr cx h fa_X3_20 (f := 0) rfl hq4 dX3_dropData_15 ?_
    refine x_aload_n hx hb dX3_dropData_18 rfl (lv_at hl 0 rfl) ?_
    obtain ⟨r5, σ5, hc5, hF⟩ := bds hF
    refine x_callr (σ := σ2) g (mo_F_X1_without (gr σ2 0 a1) r2 _ _ _ hc5) (x_runS (As := [vr (gr σ2 0 a1), vr r2]) (rest := [vr a1]) cx h (c_X1_without l D dA base (gr σ2 0 a1) r2 hc5) ml_X3_35 mi_X1_without rfl ⟨Nat.le_of_ble_eq_true rfl, Nat.le_of_ble_eq_true rfl⟩ hl.1 rfl (s8 (sR sN) (by decide)) dX3_dropData_19 (le_room g (mo_F_X1_without (gr σ2 0 a1) r2 _ _ _ hc5) ((mo_ite (mo_ite (mo_le (τ := (sr σ5 0 a1 r5)) ⟨Nat.le_refl _, Nat.le_refl _⟩ (mo_bd (mo_F_X3_addLine a0 (-1 : Int32) _) (fun r8 σ8 => (mo_B_X3_dropData_30   _)))) mo_none) mo_none) _ _ hF))) h (fun H locs h g => ?_)
    obtain ⟨hq6, hF⟩ := ifs hF
    refine x_str cx h fa_X3_20 (f := 0) rfl (Or.inl rfl) hq6 dX3_dropData_22 (fun H locs h => ?_)
    refine x_aload_n hx hb dX3_dropData_25 rfl (lv_at hl 1 rfl) ?_
    refine lv_iconst (v := (-1 : Int32)) hx hb dX3_dropData_26 (by decide) ?_
    obtain ⟨hq7, hF⟩ := ifs hF
    obtain ⟨r8, σ8, hc8, hF⟩ := bds hF
    refine x_callv (σ := (sr σ5 0 a1 r5)) g (mo_F_X3_addLine a0 (-1 : Int32) _ _ _ hc8) (x_runV (As := [.int (-1 : Int32)]) (rest := []) cx h (c_X3_addLine l D dA base a0 (-1 : Int32) hc8) ml_X3_27 mi_X3_addLine hq7 rfl ⟨Nat.le_of_ble_eq_true rfl, Nat.le_of_ble_eq_true rfl⟩ hl.1 rfl (s8 sN (by decide)) dX3_dropData_27 (le_room g (mo_F_X3_addLine a0 (-1 : Int32) _ _ _ hc8) ((mo_B_X3_dropData_30   _) _ _ hF))) h (fun H locs h g => ?_)
    exact w_X3_dropData_30 (σ := σ8) cx    h g (lv_sub hl [] rfl) hF
def F_X3_addWrite (a0 : Nat) (a1 : Nat) (a2 : Int32) (a3 : Int32) (σ : HS) : Option (Unit × HS) :=
  if kd (nw σ 2 3) a1 = 1 then (bd (F_X1_init (hs σ + 1) a2 a3 (gr (nw σ 2 3) 1 a1) (nw σ 2 3)) (fun r2 σ2 => if kd σ2 a1 = 1 then (if kd (sr σ2 1 a1 (hs σ + 1)) a0 = 4 then (bd (F_X3_addLine a0 (1 : Int32) (sr σ2 1 a1 (hs σ + 1))) (fun r5 σ5 => some ((), σ5))) else none) else none)) else none
theorem mo_F_X3_addWrite (a0 : Nat) (a1 : Nat) (a2 : Int32) (a3 : Int32) (σ : HS) : Mo σ (F_X3_addWrite a0 a1 a2 a3 σ) := by
  unfold F_X3_addWrite
  exact (mo_le (τ := (nw σ 2 3)) LE.nw (mo_ite (mo_bd (mo_F_X1_init (hs σ + 1) a2 a3 (gr (nw σ 2 3) 1 a1) _) (fun r2 σ2 => (mo_ite (mo_ite (mo_le (τ := (sr σ2 1 a1 (hs σ + 1))) ⟨Nat.le_refl _, Nat.le_refl _⟩ (mo_bd (mo_F_X3_addLine a0 (1 : Int32) _) (fun r5 σ5 => mo_ret))) mo_none) mo_none))) mo_none))
set_option maxHeartbeats 4000000 in
set_option maxRecDepth 100000 in
theorem c_X3_addWrite (l : Launch) (D : va_G) (dA : Nat → ClassId) (base : Nat) (a0 : Nat) (a1 : Nat) (a2 : Int32) (a3 : Int32) {σ τ : HS} {r : Unit} (hF : F_X3_addWrite a0 a1 a2 a3 σ = some (r, τ)) : CT l yX3_addWrite cX3_addWrite 4 none 2 43 D dA base [vr a0, vr a1, .int a2, .int a3] none σ τ := by
  refine CT.of (lv := [(0, vr a0), (1, vr a1), (2, .int a2), (3, .int a3)]) (by decide) (vR (vR (vI (vI vN)))) (Nat.le_of_ble_eq_true rfl) rfl ?_
  intro p e s m args below meth c ls cx hl h
  have cx : CX p s m args meth c cX3_addWrite 4 none RX3 "addWrite" D dA base := cx
  have g : LE σ σ := LE.rf
  obtain ⟨hx, hb, -⟩ := id cx
  unfold F_X3_addWrite at hF
  refine x_aload_n hx hb dX3_addWrite_0 rfl (lv_at hl 1 rfl) ?_
  refine x_newG cx h g ((mo_ite (mo_bd (mo_F_X1_init (hs σ + 1) a2 a3 (gr (nw σ 2 3) 1 a1) _) (fun r2 σ2 => (mo_ite (mo_ite (mo_le (τ := (sr σ2 1 a1 (hs σ + 1))) ⟨Nat.le_refl _, Nat.le_refl _⟩ (mo_bd (mo_F_X3_addLine a0 (1 : Int32) _) (fun r5 σ5 => mo_ret))) mo_none) mo_none))) mo_none) _ _ hF) nl_X3_18 dX3_addWrite_1 (fun H h g => ?_)
  refine lv_dup hx hb dX3_addWrite_4 (vr_cat _) ?_
  refine lv_iload_n hx hb dX3_addWrite_5 rfl (lv_at hl 2 rfl) ?_
  refine lv_iload_n hx hb dX3_addWrite_6 rfl (lv_at hl 3 rfl) ?_
  refine x_aload_n hx hb dX3_addWrite_7 rfl (lv_at hl 1 rfl) ?_
  obtain ⟨hq1, hF⟩ := ifs hF
  refine x_getr cx h fa_X3_39 (f := 1) rfl hq1 dX3_addWrite_8 ?_
  obtain ⟨r2, σ2, hc2, hF⟩ := bds hF
  refine x_callv (σ := (nw σ 2 3)) g (mo_F_X1_init (hs σ + 1) a2 a3 (gr (nw σ 2 3) 1 a1) _ _ _ hc2) (x_runI (As := [.int a2, .int a3, vr (gr (nw σ 2 3) 1 a1)]) (rest := [vr (hs σ + 1), vr a1]) cx h (c_X1_init l D dA base (hs σ + 1) a2 a3 (gr (nw σ 2 3) 1 a1) hc2) ml_X3_24 mi_X1_init (kd_nw_self σ 2 3) rfl ⟨Nat.le_of_ble_eq_true rfl, Nat.le_of_ble_eq_true rfl⟩ hl.1 rfl (s8 (sR (sR sN)) (by decide)) dX3_addWrite_11 (le_room g (mo_F_X1_init (hs σ + 1) a2 a3 (gr (nw σ 2 3) 1 a1) _ _ _ hc2) ((mo_ite (mo_ite (mo_le (τ := (sr σ2 1 a1 (hs σ + 1))) ⟨Nat.le_refl _, Nat.le_refl _⟩ (mo_bd (mo_F_X3_addLine a0 (1 : Int32) _) (fun r5 σ5 => mo_ret))) mo_none) mo_none) _ _ hF))) h (fun H locs h g => ?_)
  obtain ⟨hq3, hF⟩ := ifs hF
  refine x_str cx h fa_X3_39 (f := 1) rfl (Or.inl rfl) hq3 dX3_addWrite_14 (fun H locs h => ?_)
  refine x_aload_n hx hb dX3_addWrite_17 rfl (lv_at hl 0 rfl) ?_
  refine lv_iconst (v := (1 : Int32)) hx hb dX3_addWrite_18 (by decide) ?_
  obtain ⟨hq4, hF⟩ := ifs hF
  obtain ⟨r5, σ5, hc5, hF⟩ := bds hF
  refine x_callv (σ := (sr σ2 1 a1 (hs σ + 1))) g (mo_F_X3_addLine a0 (1 : Int32) _ _ _ hc5) (x_runV (As := [.int (1 : Int32)]) (rest := []) cx h (c_X3_addLine l D dA base a0 (1 : Int32) hc5) ml_X3_27 mi_X3_addLine hq4 rfl ⟨Nat.le_of_ble_eq_true rfl, Nat.le_of_ble_eq_true rfl⟩ hl.1 rfl (s8 sN (by decide)) dX3_addWrite_19 (le_room g (mo_F_X3_addLine a0 (1 : Int32) _ _ _ hc5) (mo_ret _ _ hF))) h (fun H locs h g => ?_)
  obtain ⟨rfl, rfl⟩ := rts hF
  exact x_vret cx h dX3_addWrite_22
def F_X3_dropWrite (a0 : Nat) (a1 : Nat) (a2 : Nat) (σ : HS) : Option (Unit × HS) :=
  if kd σ a1 = 1 then (bd (F_X1_without (gr σ 1 a1) a2 σ) (fun r2 σ2 => if kd σ2 a1 = 1 then (if kd (sr σ2 1 a1 r2) a0 = 4 then (bd (F_X3_addLine a0 (-1 : Int32) (sr σ2 1 a1 r2)) (fun r5 σ5 => some ((), σ5))) else none) else none)) else none
theorem mo_F_X3_dropWrite (a0 : Nat) (a1 : Nat) (a2 : Nat) (σ : HS) : Mo σ (F_X3_dropWrite a0 a1 a2 σ) := by
  unfold F_X3_dropWrite
  exact (mo_ite (mo_bd (mo_F_X1_without (gr σ 1 a1) a2 _) (fun r2 σ2 => (mo_ite (mo_ite (mo_le (τ := (sr σ2 1 a1 r2)) ⟨Nat.le_refl _, Nat.le_refl _⟩ (mo_bd (mo_F_X3_addLine a0 (-1 : Int32) _) (fun r5 σ5 => mo_ret))) mo_none) mo_none))) mo_none)
set_option maxHeartbeats 4000000 in
set_option maxRecDepth 100000 in
theorem c_X3_dropWrite (l : Launch) (D : va_G) (dA : Nat → ClassId) (base : Nat) (a0 : Nat) (a1 : Nat) (a2 : Nat) {σ τ : HS} {r : Unit} (hF : F_X3_dropWrite a0 a1 a2 σ = some (r, τ)) : CT l yX3_dropWrite cX3_dropWrite 3 none 1 22 D dA base [vr a0, vr a1, vr a2] none σ τ := by
  refine CT.of (lv := [(0, vr a0), (1, vr a1), (2, vr a2)]) (by decide) (vR (vR (vR vN))) (Nat.le_of_ble_eq_true rfl) rfl ?_
  intro p e s m args below meth c ls cx hl h
  have cx : CX p s m args meth c cX3_dropWrite 3 none RX3 "dropWrite" D dA base := cx
  have g : LE σ σ := LE.rf
  obtain ⟨hx, hb, -⟩ := id cx
  unfold F_X3_dropWrite at hF
  refine x_aload_n hx hb dX3_dropWrite_0 rfl (lv_at hl 1 rfl) ?_
  refine x_aload_n hx hb dX3_dropWrite_1 rfl (lv_at hl 1 rfl) ?_
  obtain ⟨hq1, hF⟩ := ifs hF
  refine x_getr cx h fa_X3_39 (f := 1) rfl hq1 dX3_dropWrite_2 ?_
  refine x_aload_n hx hb dX3_dropWrite_5 rfl (lv_at hl 2 rfl) ?_
  obtain ⟨r2, σ2, hc2, hF⟩ := bds hF
  refine x_callr (σ := σ) g (mo_F_X1_without (gr σ 1 a1) a2 _ _ _ hc2) (x_runS (As := [vr (gr σ 1 a1), vr a2]) (rest := [vr a1]) cx h (c_X1_without l D dA base (gr σ 1 a1) a2 hc2) ml_X3_35 mi_X1_without rfl ⟨Nat.le_of_ble_eq_true rfl, Nat.le_of_ble_eq_true rfl⟩ hl.1 rfl (s8 (sR sN) (by decide)) dX3_dropWrite_6 (le_room g (mo_F_X1_without (gr σ 1 a1) a2 _ _ _ hc2) ((mo_ite (mo_ite (mo_le (τ := (sr σ2 1 a1 r2)) ⟨Nat.le_refl _, Nat.le_refl _⟩ (mo_bd (mo_F_X3_addLine a0 (-1 : Int32) _) (fun r5 σ5 => mo_ret))) mo_none) mo_none) _ _ hF))) h (fun H locs h g => ?_)
  obtain ⟨hq3, hF⟩ := ifs hF
  refine x_str cx h fa_X3_39 (f := 1) rfl (Or.inl rfl) hq3 dX3_dropWrite_9 (fun H locs h => ?_)
  refine x_aload_n hx hb dX3_dropWrite_12 rfl (lv_at hl 0 rfl) ?_
  refine lv_iconst (v := (-1 : Int32)) hx hb dX3_dropWrite_13 (by decide) ?_
  obtain ⟨hq4, hF⟩ := ifs hF
  obtain ⟨r5, σ5, hc5, hF⟩ := bds hF
  refine x_callv (σ := (sr σ2 1 a1 r2)) g (mo_F_X3_addLine a0 (-1 : Int32) _ _ _ hc5) (x_runV (As := [.int (-1 : Int32)]) (rest := []) cx h (c_X3_addLine l D dA base a0 (-1 : Int32) hc5) ml_X3_27 mi_X3_addLine hq4 rfl ⟨Nat.le_of_ble_eq_true rfl, Nat.le_of_ble_eq_true rfl⟩ hl.1 rfl (s8 sN (by decide)) dX3_dropWrite_14 (le_room g (mo_F_X3_addLine a0 (-1 : Int32) _ _ _ hc5) (mo_ret _ _ hF))) h (fun H locs h g => ?_)
  obtain ⟨rfl, rfl⟩ := rts hF
  exact x_vret cx h dX3_dropWrite_17
def F_X3_addLock (a0 : Nat) (a1 : Nat) (a2 : Int32) (a3 : Int32) (a4 : Int32) (σ : HS) : Option (Unit × HS) :=
  if kd σ a1 = 1 then (if kd (si (si (si σ 2 a1 a2) 3 a1 a3) 4 a1 a4) a0 = 4 then (bd (F_X3_addLine a0 (2 : Int32) (si (si (si σ 2 a1 a2) 3 a1 a3) 4 a1 a4)) (fun r3 σ3 => some ((), σ3))) else none) else none
theorem mo_F_X3_addLock (a0 : Nat) (a1 : Nat) (a2 : Int32) (a3 : Int32) (a4 : Int32) (σ : HS) : Mo σ (F_X3_addLock a0 a1 a2 a3 a4 σ) := by
  unfold F_X3_addLock
  exact (mo_ite (mo_ite (mo_le (τ := (si (si (si σ 2 a1 a2) 3 a1 a3) 4 a1 a4)) ⟨Nat.le_refl _, Nat.le_refl _⟩ (mo_bd (mo_F_X3_addLine a0 (2 : Int32) _) (fun r3 σ3 => mo_ret))) mo_none) mo_none)
set_option maxHeartbeats 4000000 in
set_option maxRecDepth 100000 in
theorem c_X3_addLock (l : Launch) (D : va_G) (dA : Nat → ClassId) (base : Nat) (a0 : Nat) (a1 : Nat) (a2 : Int32) (a3 : Int32) (a4 : Int32) {σ τ : HS} {r : Unit} (hF : F_X3_addLock a0 a1 a2 a3 a4 σ = some (r, τ)) : CT l yX3_addLock cX3_addLock 5 none 1 21 D dA base [vr a0, vr a1, .int a2, .int a3, .int a4] none σ τ := by
  refine CT.of (lv := [(0, vr a0), (1, vr a1), (2, .int a2), (3, .int a3), (4, .int a4)]) (by decide) (vR (vR (vI (vI (vI vN))))) (Nat.le_of_ble_eq_true rfl) rfl ?_
  intro p e s m args below meth c ls cx hl h
  have cx : CX p s m args meth c cX3_addLock 5 none RX3 "addLock" D dA base := cx
  have g : LE σ σ := LE.rf
  obtain ⟨hx, hb, -⟩ := id cx
  unfold F_X3_addLock at hF
  refine x_aload_n hx hb dX3_addLock_0 rfl (lv_at hl 1 rfl) ?_
  refine lv_iload_n hx hb dX3_addLock_1 rfl (lv_at hl 2 rfl) ?_
  obtain ⟨hq1, hF⟩ := ifs hF
  refine x_sti cx h fa_X3_42 (f := 2) rfl (Or.inl rfl) hq1 dX3_addLock_2 (fun H locs h => ?_)
  refine x_aload_n hx hb dX3_addLock_5 rfl (lv_at hl 1 rfl) ?_
  refine lv_iload_n hx hb dX3_addLock_6 rfl (lv_at hl 3 rfl) ?_
  refine x_sti cx h fa_X3_46 (f := 3) rfl (Or.inl rfl) hq1 dX3_addLock_7 (fun H locs h => ?_)
  refine x_aload_n hx hb dX3_addLock_10 rfl (lv_at hl 1 rfl) ?_
  refine lv_iload hx hb dX3_addLock_11 (lv_at hl 4 rfl) ?_
  refine x_sti cx h fa_X3_49 (f := 4) rfl (Or.inl rfl) hq1 dX3_addLock_13 (fun H locs h => ?_)
  refine x_aload_n hx hb dX3_addLock_16 rfl (lv_at hl 0 rfl) ?_
  refine lv_iconst (v := (2 : Int32)) hx hb dX3_addLock_17 (by decide) ?_
  obtain ⟨hq2, hF⟩ := ifs hF
  obtain ⟨r3, σ3, hc3, hF⟩ := bds hF
  refine x_callv (σ := (si (si (si σ 2 a1 a2) 3 a1 a3) 4 a1 a4)) g (mo_F_X3_addLine a0 (2 : Int32) _ _ _ hc3) (x_runV (As := [.int (2 : Int32)]) (rest := []) cx h (c_X3_addLine l D dA base a0 (2 : Int32) hc3) ml_X3_27 mi_X3_addLine hq2 rfl ⟨Nat.le_of_ble_eq_true rfl, Nat.le_of_ble_eq_true rfl⟩ hl.1 rfl (s8 sN (by decide)) dX3_addLock_18 (le_room g (mo_F_X3_addLine a0 (2 : Int32) _ _ _ hc3) (mo_ret _ _ hF))) h (fun H locs h g => ?_)
  obtain ⟨rfl, rfl⟩ := rts hF
  exact x_vret cx h dX3_addLock_21
def F_X3_dropLock (a0 : Nat) (a1 : Nat) (σ : HS) : Option (Unit × HS) :=
  if kd σ a1 = 1 then (if kd (si (si (si σ 2 a1 (0 : Int32)) 3 a1 (0 : Int32)) 4 a1 (0 : Int32)) a0 = 4 then (bd (F_X3_addLine a0 (-2 : Int32) (si (si (si σ 2 a1 (0 : Int32)) 3 a1 (0 : Int32)) 4 a1 (0 : Int32))) (fun r3 σ3 => some ((), σ3))) else none) else none
theorem mo_F_X3_dropLock (a0 : Nat) (a1 : Nat) (σ : HS) : Mo σ (F_X3_dropLock a0 a1 σ) := by
  unfold F_X3_dropLock
  exact (mo_ite (mo_ite (mo_le (τ := (si (si (si σ 2 a1 (0 : Int32)) 3 a1 (0 : Int32)) 4 a1 (0 : Int32))) ⟨Nat.le_refl _, Nat.le_refl _⟩ (mo_bd (mo_F_X3_addLine a0 (-2 : Int32) _) (fun r3 σ3 => mo_ret))) mo_none) mo_none)
set_option maxHeartbeats 4000000 in
set_option maxRecDepth 100000 in
theorem c_X3_dropLock (l : Launch) (D : va_G) (dA : Nat → ClassId) (base : Nat) (a0 : Nat) (a1 : Nat) {σ τ : HS} {r : Unit} (hF : F_X3_dropLock a0 a1 σ = some (r, τ)) : CT l yX3_dropLock cX3_dropLock 2 none 1 21 D dA base [vr a0, vr a1] none σ τ := by
  refine CT.of (lv := [(0, vr a0), (1, vr a1)]) (by decide) (vR (vR vN)) (Nat.le_of_ble_eq_true rfl) rfl ?_
  intro p e s m args below meth c ls cx hl h
  have cx : CX p s m args meth c cX3_dropLock 2 none RX3 "dropLock" D dA base := cx
  have g : LE σ σ := LE.rf
  obtain ⟨hx, hb, -⟩ := id cx
  unfold F_X3_dropLock at hF
  refine x_aload_n hx hb dX3_dropLock_0 rfl (lv_at hl 1 rfl) ?_
  refine lv_iconst (v := (0 : Int32)) hx hb dX3_dropLock_1 (by decide) ?_
  obtain ⟨hq1, hF⟩ := ifs hF
  refine x_sti cx h fa_X3_42 (f := 2) rfl (Or.inl rfl) hq1 dX3_dropLock_2 (fun H locs h => ?_)
  refine x_aload_n hx hb dX3_dropLock_5 rfl (lv_at hl 1 rfl) ?_
  refine lv_iconst (v := (0 : Int32)) hx hb dX3_dropLock_6 (by decide) ?_
  refine x_sti cx h fa_X3_46 (f := 3) rfl (Or.inl rfl) hq1 dX3_dropLock_7 (fun H locs h => ?_)
  refine x_aload_n hx hb dX3_dropLock_10 rfl (lv_at hl 1 rfl) ?_
  refine lv_iconst (v := (0 : Int32)) hx hb dX3_dropLock_11 (by decide) ?_
  refine x_sti cx h fa_X3_49 (f := 4) rfl (Or.inl rfl) hq1 dX3_dropLock_12 (fun H locs h => ?_)
  refine x_aload_n hx hb dX3_dropLock_15 rfl (lv_at hl 0 rfl) ?_
  refine lv_bipush (v := (-2 : Int32)) hx hb dX3_dropLock_16 (by decide) ?_
  obtain ⟨hq2, hF⟩ := ifs hF
  obtain ⟨r3, σ3, hc3, hF⟩ := bds hF
  refine x_callv (σ := (si (si (si σ 2 a1 (0 : Int32)) 3 a1 (0 : Int32)) 4 a1 (0 : Int32))) g (mo_F_X3_addLine a0 (-2 : Int32) _ _ _ hc3) (x_runV (As := [.int (-2 : Int32)]) (rest := []) cx h (c_X3_addLine l D dA base a0 (-2 : Int32) hc3) ml_X3_27 mi_X3_addLine hq2 rfl ⟨Nat.le_of_ble_eq_true rfl, Nat.le_of_ble_eq_true rfl⟩ hl.1 rfl (s8 sN (by decide)) dX3_dropLock_18 (le_room g (mo_F_X3_addLine a0 (-2 : Int32) _ _ _ hc3) (mo_ret _ _ hF))) h (fun H locs h g => ?_)
  obtain ⟨rfl, rfl⟩ := rts hF
  exact x_vret cx h dX3_dropLock_21
end
