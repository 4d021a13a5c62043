section
-- ===== PART A: goes FIRST, ahead of the names: the tables' words, and 'selects' of the private methods out of them =====
/-- a private method of a class that the tables say can be made, by its rows of tables_1 -/
def lw_okq (q : MethodName × Nat) : Prop := (q.1.cls ≠ "java/lang/invoke/MethodHandle" ∧ q.1.cls ≠ "java/lang/invoke/VarHandle") ∧ Cond.instantiable q.1.cls q.2 ∈ tables_1 ∧ Cond.privateMethod q.1 ∈ tables_1 ∧ Cond.instanceMethod q.1 ∈ tables_1
theorem lw_p0 : lw_okq (⟨"SixWayGas$Grid", "rowOf", "(I)I"⟩, 4) := ⟨⟨by decide +kernel, by decide +kernel⟩, List.mem_of_getElem? (i := 27) (by decide +kernel), List.mem_of_getElem? (i := 160) (by decide +kernel), List.mem_of_getElem? (i := 161) (by decide +kernel)⟩
theorem lw_p1 : lw_okq (⟨"SixWayGas$Grid", "columnOf", "(I)I"⟩, 4) := ⟨⟨by decide +kernel, by decide +kernel⟩, List.mem_of_getElem? (i := 27) (by decide +kernel), List.mem_of_getElem? (i := 164) (by decide +kernel), List.mem_of_getElem? (i := 165) (by decide +kernel)⟩
theorem lw_p2 : lw_okq (⟨"SixWayGas", "cellAt", "(II)I"⟩, 12) := ⟨⟨by decide +kernel, by decide +kernel⟩, List.mem_of_getElem? (i := 19) (by decide +kernel), List.mem_of_getElem? (i := 180) (by decide +kernel), List.mem_of_getElem? (i := 181) (by decide +kernel)⟩
theorem lw_p3 : lw_okq (⟨"java/lang/Throwable", "fillInStackTrace", "(I)Ljava/lang/Throwable;"⟩, 6) := ⟨⟨by decide +kernel, by decide +kernel⟩, List.mem_of_getElem? (i := 224) (by decide +kernel), List.mem_of_getElem? (i := 222) (by decide +kernel), List.mem_of_getElem? (i := 223) (by decide +kernel)⟩
theorem lw_p4 : lw_okq (⟨"SixWayGas$Marks", "loseAt", "(I)V"⟩, 3) := ⟨⟨by decide +kernel, by decide +kernel⟩, List.mem_of_getElem? (i := 96) (by decide +kernel), List.mem_of_getElem? (i := 276) (by decide +kernel), List.mem_of_getElem? (i := 277) (by decide +kernel)⟩
theorem lw_p5 : lw_okq (⟨"SixWayGas", "putEdge", "(IIZ)Z"⟩, 12) := ⟨⟨by decide +kernel, by decide +kernel⟩, List.mem_of_getElem? (i := 19) (by decide +kernel), List.mem_of_getElem? (i := 314) (by decide +kernel), List.mem_of_getElem? (i := 315) (by decide +kernel)⟩
theorem lw_p6 : lw_okq (⟨"SixWayGas", "stepForth", "()V"⟩, 12) := ⟨⟨by decide +kernel, by decide +kernel⟩, List.mem_of_getElem? (i := 19) (by decide +kernel), List.mem_of_getElem? (i := 383) (by decide +kernel), List.mem_of_getElem? (i := 384) (by decide +kernel)⟩
theorem lw_p7 : lw_okq (⟨"SixWayGas", "meet", "(I)V"⟩, 12) := ⟨⟨by decide +kernel, by decide +kernel⟩, List.mem_of_getElem? (i := 19) (by decide +kernel), List.mem_of_getElem? (i := 387) (by decide +kernel), List.mem_of_getElem? (i := 388) (by decide +kernel)⟩
theorem lw_p8 : lw_okq (⟨"SixWayGas", "metBits", "(II)I"⟩, 12) := ⟨⟨by decide +kernel, by decide +kernel⟩, List.mem_of_getElem? (i := 19) (by decide +kernel), List.mem_of_getElem? (i := 391) (by decide +kernel), List.mem_of_getElem? (i := 392) (by decide +kernel)⟩
theorem lw_p9 : lw_okq (⟨"SixWayGas$Marks", "turn", "(III)V"⟩, 3) := ⟨⟨by decide +kernel, by decide +kernel⟩, List.mem_of_getElem? (i := 96) (by decide +kernel), List.mem_of_getElem? (i := 395) (by decide +kernel), List.mem_of_getElem? (i := 396) (by decide +kernel)⟩
theorem lw_p10 : lw_okq (⟨"SixWayGas", "fly", "(I)V"⟩, 12) := ⟨⟨by decide +kernel, by decide +kernel⟩, List.mem_of_getElem? (i := 19) (by decide +kernel), List.mem_of_getElem? (i := 403) (by decide +kernel), List.mem_of_getElem? (i := 404) (by decide +kernel)⟩
theorem lw_p11 : lw_okq (⟨"SixWayGas", "sendOff", "(III)V"⟩, 12) := ⟨⟨by decide +kernel, by decide +kernel⟩, List.mem_of_getElem? (i := 19) (by decide +kernel), List.mem_of_getElem? (i := 410) (by decide +kernel), List.mem_of_getElem? (i := 411) (by decide +kernel)⟩
theorem lw_p12 : lw_okq (⟨"SixWayGas$Grid", "neighbour", "(II)I"⟩, 4) := ⟨⟨by decide +kernel, by decide +kernel⟩, List.mem_of_getElem? (i := 27) (by decide +kernel), List.mem_of_getElem? (i := 415) (by decide +kernel), List.mem_of_getElem? (i := 416) (by decide +kernel)⟩
theorem lw_p13 : lw_okq (⟨"SixWayGas$Marks", "fly", "(LSixWayGas$Grid;I)V"⟩, 3) := ⟨⟨by decide +kernel, by decide +kernel⟩, List.mem_of_getElem? (i := 96) (by decide +kernel), List.mem_of_getElem? (i := 419) (by decide +kernel), List.mem_of_getElem? (i := 420) (by decide +kernel)⟩
theorem lw_p14 : lw_okq (⟨"SixWayGas", "passEdges", "()V"⟩, 12) := ⟨⟨by decide +kernel, by decide +kernel⟩, List.mem_of_getElem? (i := 19) (by decide +kernel), List.mem_of_getElem? (i := 424) (by decide +kernel), List.mem_of_getElem? (i := 425) (by decide +kernel)⟩
theorem lw_p15 : lw_okq (⟨"SixWayGas", "edgeBits", "(III)I"⟩, 12) := ⟨⟨by decide +kernel, by decide +kernel⟩, List.mem_of_getElem? (i := 19) (by decide +kernel), List.mem_of_getElem? (i := 428) (by decide +kernel), List.mem_of_getElem? (i := 429) (by decide +kernel)⟩
def lw_privs_1 : List (MethodName × Nat) := [(⟨"SixWayGas$Grid", "rowOf", "(I)I"⟩, 4), (⟨"SixWayGas$Grid", "columnOf", "(I)I"⟩, 4), (⟨"SixWayGas", "cellAt", "(II)I"⟩, 12), (⟨"java/lang/Throwable", "fillInStackTrace", "(I)Ljava/lang/Throwable;"⟩, 6), (⟨"SixWayGas$Marks", "loseAt", "(I)V"⟩, 3), (⟨"SixWayGas", "putEdge", "(IIZ)Z"⟩, 12), (⟨"SixWayGas", "stepForth", "()V"⟩, 12), (⟨"SixWayGas", "meet", "(I)V"⟩, 12), (⟨"SixWayGas", "metBits", "(II)I"⟩, 12), (⟨"SixWayGas$Marks", "turn", "(III)V"⟩, 3), (⟨"SixWayGas", "fly", "(I)V"⟩, 12), (⟨"SixWayGas", "sendOff", "(III)V"⟩, 12), (⟨"SixWayGas$Grid", "neighbour", "(II)I"⟩, 4), (⟨"SixWayGas$Marks", "fly", "(LSixWayGas$Grid;I)V"⟩, 3), (⟨"SixWayGas", "passEdges", "()V"⟩, 12), (⟨"SixWayGas", "edgeBits", "(III)I"⟩, 12)]
theorem lw_r1 : ∀ q ∈ lw_privs_1, lw_okq q := List.forall_mem_cons.mpr ⟨lw_p0, List.forall_mem_cons.mpr ⟨lw_p1, List.forall_mem_cons.mpr ⟨lw_p2, List.forall_mem_cons.mpr ⟨lw_p3, List.forall_mem_cons.mpr ⟨lw_p4, List.forall_mem_cons.mpr ⟨lw_p5, List.forall_mem_cons.mpr ⟨lw_p6, List.forall_mem_cons.mpr ⟨lw_p7, List.forall_mem_cons.mpr ⟨lw_p8, List.forall_mem_cons.mpr ⟨lw_p9, List.forall_mem_cons.mpr ⟨lw_p10, List.forall_mem_cons.mpr ⟨lw_p11, List.forall_mem_cons.mpr ⟨lw_p12, List.forall_mem_cons.mpr ⟨lw_p13, List.forall_mem_cons.mpr ⟨lw_p14, List.forall_mem_cons.mpr ⟨lw_p15, fun _ h => absurd h List.not_mem_nil⟩⟩⟩⟩⟩⟩⟩⟩⟩⟩⟩⟩⟩⟩⟩⟩
theorem lw_p16 : lw_okq (⟨"SixWayGas", "fedBits", "(II)I"⟩, 12) := ⟨⟨by decide +kernel, by decide +kernel⟩, List.mem_of_getElem? (i := 19) (by decide +kernel), List.mem_of_getElem? (i := 432) (by decide +kernel), List.mem_of_getElem? (i := 433) (by decide +kernel)⟩
theorem lw_p17 : lw_okq (⟨"SixWayGas$Books", "enter", "(III)V"⟩, 1) := ⟨⟨by decide +kernel, by decide +kernel⟩, List.mem_of_getElem? (i := 62) (by decide +kernel), List.mem_of_getElem? (i := 440) (by decide +kernel), List.mem_of_getElem? (i := 441) (by decide +kernel)⟩
theorem lw_p18 : lw_okq (⟨"SixWayGas$BodyAccount", "receive", "(II)V"⟩, 4) := ⟨⟨by decide +kernel, by decide +kernel⟩, List.mem_of_getElem? (i := 73) (by decide +kernel), List.mem_of_getElem? (i := 451) (by decide +kernel), List.mem_of_getElem? (i := 452) (by decide +kernel)⟩
theorem lw_p19 : lw_okq (⟨"SixWayGas$Marks", "passEdges", "([I)V"⟩, 3) := ⟨⟨by decide +kernel, by decide +kernel⟩, List.mem_of_getElem? (i := 96) (by decide +kernel), List.mem_of_getElem? (i := 456) (by decide +kernel), List.mem_of_getElem? (i := 457) (by decide +kernel)⟩
theorem lw_p20 : lw_okq (⟨"SixWayGas", "moveBody", "()V"⟩, 12) := ⟨⟨by decide +kernel, by decide +kernel⟩, List.mem_of_getElem? (i := 19) (by decide +kernel), List.mem_of_getElem? (i := 460) (by decide +kernel), List.mem_of_getElem? (i := 461) (by decide +kernel)⟩
theorem lw_p21 : lw_okq (⟨"SixWayGas$BodyAccount", "heading", "()I"⟩, 4) := ⟨⟨by decide +kernel, by decide +kernel⟩, List.mem_of_getElem? (i := 73) (by decide +kernel), List.mem_of_getElem? (i := 464) (by decide +kernel), List.mem_of_getElem? (i := 465) (by decide +kernel)⟩
theorem lw_p22 : lw_okq (⟨"SixWayGas", "bodyCanMove", "(I)Z"⟩, 12) := ⟨⟨by decide +kernel, by decide +kernel⟩, List.mem_of_getElem? (i := 19) (by decide +kernel), List.mem_of_getElem? (i := 472) (by decide +kernel), List.mem_of_getElem? (i := 473) (by decide +kernel)⟩
theorem lw_p23 : lw_okq (⟨"SixWayGas", "shiftBody", "(I)V"⟩, 12) := ⟨⟨by decide +kernel, by decide +kernel⟩, List.mem_of_getElem? (i := 19) (by decide +kernel), List.mem_of_getElem? (i := 476) (by decide +kernel), List.mem_of_getElem? (i := 477) (by decide +kernel)⟩
theorem lw_p24 : lw_okq (⟨"SixWayGas", "exchange", "(II)V"⟩, 12) := ⟨⟨by decide +kernel, by decide +kernel⟩, List.mem_of_getElem? (i := 19) (by decide +kernel), List.mem_of_getElem? (i := 480) (by decide +kernel), List.mem_of_getElem? (i := 481) (by decide +kernel)⟩
theorem lw_p25 : lw_okq (⟨"SixWayGas$Marks", "exchange", "(II)V"⟩, 3) := ⟨⟨by decide +kernel, by decide +kernel⟩, List.mem_of_getElem? (i := 96) (by decide +kernel), List.mem_of_getElem? (i := 484) (by decide +kernel), List.mem_of_getElem? (i := 485) (by decide +kernel)⟩
theorem lw_p26 : lw_okq (⟨"SixWayGas$BodyAccount", "spend", "(I)V"⟩, 4) := ⟨⟨by decide +kernel, by decide +kernel⟩, List.mem_of_getElem? (i := 73) (by decide +kernel), List.mem_of_getElem? (i := 488) (by decide +kernel), List.mem_of_getElem? (i := 489) (by decide +kernel)⟩
theorem lw_p27 : lw_okq (⟨"SixWayGas", "hasOnlyWalls", "()Z"⟩, 12) := ⟨⟨by decide +kernel, by decide +kernel⟩, List.mem_of_getElem? (i := 19) (by decide +kernel), List.mem_of_getElem? (i := 502) (by decide +kernel), List.mem_of_getElem? (i := 503) (by decide +kernel)⟩
theorem lw_p28 : lw_okq (⟨"SixWayGas", "stepBack", "()V"⟩, 12) := ⟨⟨by decide +kernel, by decide +kernel⟩, List.mem_of_getElem? (i := 19) (by decide +kernel), List.mem_of_getElem? (i := 522) (by decide +kernel), List.mem_of_getElem? (i := 523) (by decide +kernel)⟩
theorem lw_p29 : lw_okq (⟨"SixWayGas$Marks", "isOn", "(II)Z"⟩, 3) := ⟨⟨by decide +kernel, by decide +kernel⟩, List.mem_of_getElem? (i := 96) (by decide +kernel), List.mem_of_getElem? (i := 566) (by decide +kernel), List.mem_of_getElem? (i := 567) (by decide +kernel)⟩
theorem lw_p30 : lw_okq (⟨"SixWayGas$Marks", "put", "(II)I"⟩, 3) := ⟨⟨by decide +kernel, by decide +kernel⟩, List.mem_of_getElem? (i := 96) (by decide +kernel), List.mem_of_getElem? (i := 572) (by decide +kernel), List.mem_of_getElem? (i := 573) (by decide +kernel)⟩
theorem lw_p31 : lw_okq (⟨"SixWayGasModel", "isCell", "(II)Z"⟩, 17) := ⟨⟨by decide +kernel, by decide +kernel⟩, List.mem_of_getElem? (i := 584) (by decide +kernel), List.mem_of_getElem? (i := 664) (by decide +kernel), List.mem_of_getElem? (i := 665) (by decide +kernel)⟩
def lw_privs_2 : List (MethodName × Nat) := [(⟨"SixWayGas", "fedBits", "(II)I"⟩, 12), (⟨"SixWayGas$Books", "enter", "(III)V"⟩, 1), (⟨"SixWayGas$BodyAccount", "receive", "(II)V"⟩, 4), (⟨"SixWayGas$Marks", "passEdges", "([I)V"⟩, 3), (⟨"SixWayGas", "moveBody", "()V"⟩, 12), (⟨"SixWayGas$BodyAccount", "heading", "()I"⟩, 4), (⟨"SixWayGas", "bodyCanMove", "(I)Z"⟩, 12), (⟨"SixWayGas", "shiftBody", "(I)V"⟩, 12), (⟨"SixWayGas", "exchange", "(II)V"⟩, 12), (⟨"SixWayGas$Marks", "exchange", "(II)V"⟩, 3), (⟨"SixWayGas$BodyAccount", "spend", "(I)V"⟩, 4), (⟨"SixWayGas", "hasOnlyWalls", "()Z"⟩, 12), (⟨"SixWayGas", "stepBack", "()V"⟩, 12), (⟨"SixWayGas$Marks", "isOn", "(II)Z"⟩, 3), (⟨"SixWayGas$Marks", "put", "(II)I"⟩, 3), (⟨"SixWayGasModel", "isCell", "(II)Z"⟩, 17)]
theorem lw_r2 : ∀ q ∈ lw_privs_2, lw_okq q := List.forall_mem_cons.mpr ⟨lw_p16, List.forall_mem_cons.mpr ⟨lw_p17, List.forall_mem_cons.mpr ⟨lw_p18, List.forall_mem_cons.mpr ⟨lw_p19, List.forall_mem_cons.mpr ⟨lw_p20, List.forall_mem_cons.mpr ⟨lw_p21, List.forall_mem_cons.mpr ⟨lw_p22, List.forall_mem_cons.mpr ⟨lw_p23, List.forall_mem_cons.mpr ⟨lw_p24, List.forall_mem_cons.mpr ⟨lw_p25, List.forall_mem_cons.mpr ⟨lw_p26, List.forall_mem_cons.mpr ⟨lw_p27, List.forall_mem_cons.mpr ⟨lw_p28, List.forall_mem_cons.mpr ⟨lw_p29, List.forall_mem_cons.mpr ⟨lw_p30, List.forall_mem_cons.mpr ⟨lw_p31, fun _ h => absurd h List.not_mem_nil⟩⟩⟩⟩⟩⟩⟩⟩⟩⟩⟩⟩⟩⟩⟩⟩
theorem lw_p32 : lw_okq (⟨"SixWayGasModel", "edgeCall", "(IIIZ)Z"⟩, 17) := ⟨⟨by decide +kernel, by decide +kernel⟩, List.mem_of_getElem? (i := 584) (by decide +kernel), List.mem_of_getElem? (i := 676) (by decide +kernel), List.mem_of_getElem? (i := 677) (by decide +kernel)⟩
theorem lw_p33 : lw_okq (⟨"SixWayGasModel", "isOther", "(II)Z"⟩, 17) := ⟨⟨by decide +kernel, by decide +kernel⟩, List.mem_of_getElem? (i := 584) (by decide +kernel), List.mem_of_getElem? (i := 680) (by decide +kernel), List.mem_of_getElem? (i := 681) (by decide +kernel)⟩
theorem lw_p34 : lw_okq (⟨"SixWayGasModel", "make", "(IIZ)Z"⟩, 17) := ⟨⟨by decide +kernel, by decide +kernel⟩, List.mem_of_getElem? (i := 584) (by decide +kernel), List.mem_of_getElem? (i := 684) (by decide +kernel), List.mem_of_getElem? (i := 685) (by decide +kernel)⟩
theorem lw_p35 : lw_okq (⟨"SixWayGasModel", "meet", "(Z)V"⟩, 17) := ⟨⟨by decide +kernel, by decide +kernel⟩, List.mem_of_getElem? (i := 584) (by decide +kernel), List.mem_of_getElem? (i := 720) (by decide +kernel), List.mem_of_getElem? (i := 721) (by decide +kernel)⟩
theorem lw_p36 : lw_okq (⟨"SixWayGasModel", "meetAt", "(IZ)V"⟩, 17) := ⟨⟨by decide +kernel, by decide +kernel⟩, List.mem_of_getElem? (i := 584) (by decide +kernel), List.mem_of_getElem? (i := 724) (by decide +kernel), List.mem_of_getElem? (i := 725) (by decide +kernel)⟩
theorem lw_p37 : lw_okq (⟨"SixWayGasModel", "fly", "(Z)V"⟩, 17) := ⟨⟨by decide +kernel, by decide +kernel⟩, List.mem_of_getElem? (i := 584) (by decide +kernel), List.mem_of_getElem? (i := 737) (by decide +kernel), List.mem_of_getElem? (i := 738) (by decide +kernel)⟩
theorem lw_p38 : lw_okq (⟨"SixWayGasModel", "neighbour", "(II)I"⟩, 17) := ⟨⟨by decide +kernel, by decide +kernel⟩, List.mem_of_getElem? (i := 584) (by decide +kernel), List.mem_of_getElem? (i := 741) (by decide +kernel), List.mem_of_getElem? (i := 742) (by decide +kernel)⟩
theorem lw_p39 : lw_okq (⟨"SixWayGasModel", "edges", "()V"⟩, 17) := ⟨⟨by decide +kernel, by decide +kernel⟩, List.mem_of_getElem? (i := 584) (by decide +kernel), List.mem_of_getElem? (i := 745) (by decide +kernel), List.mem_of_getElem? (i := 746) (by decide +kernel)⟩
theorem lw_p40 : lw_okq (⟨"SixWayGasModel", "mirror", "(I)V"⟩, 17) := ⟨⟨by decide +kernel, by decide +kernel⟩, List.mem_of_getElem? (i := 584) (by decide +kernel), List.mem_of_getElem? (i := 749) (by decide +kernel), List.mem_of_getElem? (i := 750) (by decide +kernel)⟩
theorem lw_p41 : lw_okq (⟨"SixWayGasModel", "note", "(III)V"⟩, 17) := ⟨⟨by decide +kernel, by decide +kernel⟩, List.mem_of_getElem? (i := 584) (by decide +kernel), List.mem_of_getElem? (i := 753) (by decide +kernel), List.mem_of_getElem? (i := 754) (by decide +kernel)⟩
theorem lw_p42 : lw_okq (⟨"SixWayGasModel", "pour", "(I)V"⟩, 17) := ⟨⟨by decide +kernel, by decide +kernel⟩, List.mem_of_getElem? (i := 584) (by decide +kernel), List.mem_of_getElem? (i := 760) (by decide +kernel), List.mem_of_getElem? (i := 761) (by decide +kernel)⟩
theorem lw_p43 : lw_okq (⟨"SixWayGasModel", "drain", "(I)V"⟩, 17) := ⟨⟨by decide +kernel, by decide +kernel⟩, List.mem_of_getElem? (i := 584) (by decide +kernel), List.mem_of_getElem? (i := 765) (by decide +kernel), List.mem_of_getElem? (i := 766) (by decide +kernel)⟩
theorem lw_p44 : lw_okq (⟨"SixWayGasModel", "move", "()V"⟩, 17) := ⟨⟨by decide +kernel, by decide +kernel⟩, List.mem_of_getElem? (i := 584) (by decide +kernel), List.mem_of_getElem? (i := 769) (by decide +kernel), List.mem_of_getElem? (i := 770) (by decide +kernel)⟩
theorem lw_p45 : lw_okq (⟨"SixWayGasModel", "along", "(I)I"⟩, 17) := ⟨⟨by decide +kernel, by decide +kernel⟩, List.mem_of_getElem? (i := 584) (by decide +kernel), List.mem_of_getElem? (i := 773) (by decide +kernel), List.mem_of_getElem? (i := 774) (by decide +kernel)⟩
theorem lw_p46 : lw_okq (⟨"SixWayGasModel", "countOf", "(I)I"⟩, 17) := ⟨⟨by decide +kernel, by decide +kernel⟩, List.mem_of_getElem? (i := 584) (by decide +kernel), List.mem_of_getElem? (i := 777) (by decide +kernel), List.mem_of_getElem? (i := 778) (by decide +kernel)⟩
theorem lw_p47 : lw_okq (⟨"SixWayGasModel", "nextCell", "(IZ)I"⟩, 17) := ⟨⟨by decide +kernel, by decide +kernel⟩, List.mem_of_getElem? (i := 584) (by decide +kernel), List.mem_of_getElem? (i := 781) (by decide +kernel), List.mem_of_getElem? (i := 782) (by decide +kernel)⟩
def lw_privs_3 : List (MethodName × Nat) := [(⟨"SixWayGasModel", "edgeCall", "(IIIZ)Z"⟩, 17), (⟨"SixWayGasModel", "isOther", "(II)Z"⟩, 17), (⟨"SixWayGasModel", "make", "(IIZ)Z"⟩, 17), (⟨"SixWayGasModel", "meet", "(Z)V"⟩, 17), (⟨"SixWayGasModel", "meetAt", "(IZ)V"⟩, 17), (⟨"SixWayGasModel", "fly", "(Z)V"⟩, 17), (⟨"SixWayGasModel", "neighbour", "(II)I"⟩, 17), (⟨"SixWayGasModel", "edges", "()V"⟩, 17), (⟨"SixWayGasModel", "mirror", "(I)V"⟩, 17), (⟨"SixWayGasModel", "note", "(III)V"⟩, 17), (⟨"SixWayGasModel", "pour", "(I)V"⟩, 17), (⟨"SixWayGasModel", "drain", "(I)V"⟩, 17), (⟨"SixWayGasModel", "move", "()V"⟩, 17), (⟨"SixWayGasModel", "along", "(I)I"⟩, 17), (⟨"SixWayGasModel", "countOf", "(I)I"⟩, 17), (⟨"SixWayGasModel", "nextCell", "(IZ)I"⟩, 17)]
theorem lw_r3 : ∀ q ∈ lw_privs_3, lw_okq q := List.forall_mem_cons.mpr ⟨lw_p32, List.forall_mem_cons.mpr ⟨lw_p33, List.forall_mem_cons.mpr ⟨lw_p34, List.forall_mem_cons.mpr ⟨lw_p35, List.forall_mem_cons.mpr ⟨lw_p36, List.forall_mem_cons.mpr ⟨lw_p37, List.forall_mem_cons.mpr ⟨lw_p38, List.forall_mem_cons.mpr ⟨lw_p39, List.forall_mem_cons.mpr ⟨lw_p40, List.forall_mem_cons.mpr ⟨lw_p41, List.forall_mem_cons.mpr ⟨lw_p42, List.forall_mem_cons.mpr ⟨lw_p43, List.forall_mem_cons.mpr ⟨lw_p44, List.forall_mem_cons.mpr ⟨lw_p45, List.forall_mem_cons.mpr ⟨lw_p46, List.forall_mem_cons.mpr ⟨lw_p47, fun _ h => absurd h List.not_mem_nil⟩⟩⟩⟩⟩⟩⟩⟩⟩⟩⟩⟩⟩⟩⟩⟩
theorem lw_p48 : lw_okq (⟨"SixWayGasModel", "swap", "(II)V"⟩, 17) := ⟨⟨by decide +kernel, by decide +kernel⟩, List.mem_of_getElem? (i := 584) (by decide +kernel), List.mem_of_getElem? (i := 785) (by decide +kernel), List.mem_of_getElem? (i := 786) (by decide +kernel)⟩
def lw_privs_4 : List (MethodName × Nat) := [(⟨"SixWayGasModel", "swap", "(II)V"⟩, 17)]
theorem lw_r4 : ∀ q ∈ lw_privs_4, lw_okq q := List.forall_mem_cons.mpr ⟨lw_p48, fun _ h => absurd h List.not_mem_nil⟩
def lw_privs : List (MethodName × Nat) := lw_privs_1 ++ (lw_privs_2 ++ (lw_privs_3 ++ (lw_privs_4)))
def lw_tbl : List Cond := k2_sels lw_privs ++ tables_1
theorem lw_privs_ok : ∀ q ∈ lw_privs, lw_okq q := by
  show ∀ q ∈ lw_privs_1 ++ (lw_privs_2 ++ (lw_privs_3 ++ (lw_privs_4))), lw_okq q
  exact List.forall_mem_append.mpr ⟨lw_r1, List.forall_mem_append.mpr ⟨lw_r2, List.forall_mem_append.mpr ⟨lw_r3, lw_r4⟩⟩⟩
-- ===== end of PART A; then your names; then what follows =====
/-! THE CLAIM OUT OF ONE WALK OF THE LAW'S BODY. Your part is whole_start (and what it stands on); all else here is the same for every law, but numbers. -/
def R_law : String := "SixWayGasLaw"
def lw_P (b : Addr) (xs : List Int32) (args : Array Value) (s : State) : Prop := args = #[.ref b] ∧ s.IntsAt b xs ∧ xs.length ≤ 386 ∧ (Jvm.Cond.and given_1 narrow_1).before args s = true
def lw_Q (_ : Array Value) (s : State) (o : Outcome) (t : State) : Prop := o = .returned (some (.int 1)) ∧ Framed s o t [] 600128 7301064
def lw_Z (below : List Frame) (a : Array Value) (s : State) : State → Prop := fun t => ∃ o, t.status = .running ∧ Ended t below o ∧ lw_Q a s o t
/-- the law's own end, with 1 on the stack, nothing written that was there before, its room as the claim has it -/
theorem lw_ret {p : Program} {l : Launch} {e : Env} {s : State} {m : MethodId} {below : List Frame} {meth : Method} {c : Code} {b : Nat} (hx : p.tables.exec = Jvm.exec) (hb : c.code = code) (hr : meth.sig.returnType = ret) (hlocks : meth.locks = false) {pc : Nat} {H : Heap} {ls : Array Slot} (hdg : decode code pc = .ok (.ireturn, 1)) : W p l e room_1 s m #[Value.ref b] below meth c H [] 600128 7301064 (lw_Z below #[Value.ref b] s) (F0 m pc ls [.int 1]) := by
  intro T hT X
  obtain ⟨fs, hret, hrun, hended, hW, hframe⟩ := X.leave (v := some (.int 1)) (hlocks := hlocks) (fun h => by rw [hr] at h; cases h)
  have hmeth' : T.vm.method? m = some meth := X.method'
  refine ⟨T.setFrames fs, ?_, .returned (some (.int 1)), hrun, hended, rfl, ⟨_, rfl⟩, hW, hframe⟩
  jvm_step X.here [X.here.top, hx, hb, hdg, hmeth', hr, ret, narrow_b1]
  (try refine ⟨rfl, ?_⟩); (try refine ⟨rfl, ?_⟩)
  first | (intro acts; rw [hret _ acts rfl rfl rfl]) | rw [hret _ _ rfl rfl rfl]
  exact Steps.refl _
/-- what holds at the law's entry: the machine, the code, the tables' words (any of lw_tbl by 'hts w (by decide +kernel)'), the script of L ints xs at the cell b, what the Statement gives of the start (any of its parts by flat_of_before) -/
def lw_At (p : Program) (s : State) (m : MethodId) (meth : Method) (c : Code) (b L : Nat) (xs : Nat → Int32) : Prop :=
  p.tables.exec = Jvm.exec ∧ c.code = code ∧ meth.sig.returnType = ret ∧ c.maxLocals = 7 ∧ s.vm.findClass R_law = some m.cls ∧ (∀ w ∈ lw_tbl, w.before #[Value.ref b] s = true) ∧ va_X b L xs s s.heap ∧ b < s.heap.size ∧ meth.locks = false ∧ (Jvm.Cond.and given_1 narrow_1).before #[Value.ref b] s = true
end
section
/-! ===== BEGIN words of one list among another's, by their places ===== -/
theorem goodIn_r {big : List Cond} (ws : List Cond) (ps : List Nat) (hp : ws = ps.filterMap (fun i => big[i]?)) (h : ws.all goodWord = true) : GoodIn big ws := by
  intro w hw
  have h1 := List.all_eq_true.mp h w hw
  rw [hp] at hw
  obtain ⟨i, -, hi⟩ := List.mem_filterMap.mp hw
  have hm : w ∈ big := by first | exact List.mem_of_getElem? hi | exact List.getElem?_mem hi
  exact ⟨hm, good_of_word h1⟩
theorem goodIn_app {big a b : List Cond} (ha : GoodIn big a) (hb : GoodIn big b) : GoodIn big (a ++ b) := fun w h => (List.mem_append.mp h).elim (ha w) (hb w)
theorem goodIn_ca {big a b : List Cond} {c : Cond} (ha : GoodIn big (c :: a)) (hb : GoodIn big b) : GoodIn big (c :: (a ++ b)) := fun w h => (List.mem_cons.mp h).elim (fun e => ha w (List.mem_cons.mpr (Or.inl e))) (fun h => (List.mem_append.mp h).elim (fun h => ha w (List.mem_cons.mpr (Or.inr h))) (hb w))
theorem goodIn_sub {big ws : List Cond} (hm : ∀ w ∈ ws, w ∈ big) (h : ws.all goodWord = true) : GoodIn big ws := fun w hw => ⟨hm w hw, good_of_word (List.all_eq_true.mp h w hw)⟩
/-! ===== END ===== -/

/-! ===== BEGIN exceptions that leave a method, and their catching by the caller (launches without stack traces) ===== -/
section VXA
/-! The laws vx_back, vx_callV, vx_callS, vx_callSW, vx_throw0, vx_throwS follow proofs of the library, with one case more: JvmDerived/Free/Laws.lean (Back.of_free), Shelf42/LK1.lean (callV, callS), Shelf/KitTraced.lean (throwNew0V, throwNewS). -/
/-- where a method has thrown q: the class by its name, the cell, what was written, the world -/
def vx_T (XC : String → State → State → Prop) (st : State) (q : Addr) (t : State) (mc ms : Nat) (free : Addr → Prop) : Prop :=
  ∃ (E : String) (ce : Cell) (L : List Loc), XC E st t ∧ t.heap[q]? = some ce ∧ ce.vm = .none ∧ st.vm.findClass E = some ce.cls ∧ st.WarmedH t.vm ∧ st.sameButNew ({ t with vm := st.vm } : State) L mc ms ∧ ∀ z ∈ L, free z.base
def vx_Q (Qc : Array Value → State → Outcome → State → Prop) (XC : String → State → State → Prop) (mc ms : Nat) (free : Addr → Prop) : Array Value → State → Outcome → State → Prop := fun a st o t =>
  (Qc a st o t ∧ ∃ L, FrameEnd st o t L mc ms ∧ ∀ q ∈ L, free q.base) ∨ ∃ q, o = .threw q ∧ vx_T XC st q t mc ms free
/-- a callee that returns or throws -/
def vx_Met (l : Launch) (y : MethodName) (ws : List Cond) (rm : Room) (Pc : Array Value → State → Prop) (Qc : Array Value → State → Outcome → State → Prop) (XC : String → State → State → Prop) (mc ms : Nat) (free : Addr → Prop) : Prop :=
  MetFree l y (headSpec ws rm) Pc (fun _ _ _ _ _ => True) (vx_Q Qc XC mc ms free)
def vx_Post (XC : String → State → State → Prop) (mc ms : Nat) (free : Addr → Prop) : Pt → Array Value → Addr → Pt → Prop := fun A a q B =>
  ∃ (g : JFrame) (mk : MethodId) (t : State) (L : List Loc) (E : String) (ce : Cell), B.U.heap = t.heap ∧ B.U.vm = t.vm ∧ XC E (A.U.calling g mk a) t ∧ t.heap[q]? = some ce ∧ ce.vm = .none ∧ A.U.vm.findClass E = some ce.cls ∧ B.locs = A.locs ++ L ∧ (∀ z ∈ L, free z.base) ∧ B.cells = A.cells + mc ∧ B.slots = A.slots + ms
def vx_Back (l : Launch) (R : Room) (p : Program) (e : Env) (below : List Frame) (s : State) (sargs : Array Value) (y : MethodName) (len W9 : Nat)
    (Pre : Pt → Array Value → Prop) (Post : Pt → Array Value → Option Value → Pt → Prop) (PostX : Pt → Array Value → Addr → Pt → Prop) : Prop :=
  ∀ (m : MethodId) (meth : Method) (c : Code) (A : Pt) (g : JFrame) (ig : Instr) (mk : MethodId) (a : Array Value),
    Stand p l e R s m sargs below meth c A.U A.locs A.cells A.slots → g.method = m → g.locals.size = c.maxLocals → decode c.code g.pc = .ok (ig, len) →
    2 * g.monitorRoom + (g.stack.map fun v => v.category).sum ≤ W9 → A.U.methodNamed? y = some mk → Pre A a →
    (∃ (v : Option Value) (B : Pt), Stand p l e R s m sargs below meth c B.U B.locs B.cells B.slots ∧ Post A a v B ∧
      Steps p.tables e below (doInvoke e (A.U.setTop g) [] mk a).1 (B.U.setTop { g with pc := g.pc + len, stack := v.toList ++ g.stack })) ∨
    (∃ (q : Addr) (B : Pt), Stand p l e R s m sargs below meth c B.U B.locs B.cells B.slots ∧ PostX A a q B ∧
      Steps p.tables e below (doInvoke e (A.U.setTop g) [] mk a).1 ((B.U.setTop g).pushFrame (.throwing q)))
section Payer
variable {l : Launch} {R : Room} {p : Program} {e : Env} {below : List Frame} {s : State} {sargs : Array Value} {y : MethodName} {len W9 : Nat}
theorem vx_back {ws : List Cond} {rm : Room} {Pc : Array Value → State → Prop} {Qc : Array Value → State → Outcome → State → Prop} {XC : String → State → State → Prop} {mc ms : Nat} {free : Addr → Prop} {bytes : ByteArray} {maxL : Nat} {ret : Option FieldType}
    (hM : vx_Met l y ws rm Pc Qc XC mc ms free) (hblind : FrameBlind Pc) (hrc : rm.cells = mc) (hrs : rm.slots = ms)
    (hframes : rm.frames + 1 ≤ R.frames) (hlocals : W9 + (maxL + 11) + rm.locals ≤ R.locals)
    (hws : ∀ w ∈ ws, ∀ a' U, s.WarmedH U.vm → w.before a' U = true) (hcode : Cond.code y bytes maxL ret ∈ ws) (hinit : ∀ a' U, s.WarmedH U.vm → (Cond.initialized y.cls).before a' U = true) :
    vx_Back l R p e below s sargs y len W9 (PreOf R mc ms Pc) (PostOf Qc mc ms free) (vx_Post XC mc ms free) := by
  intro m meth c A g ig mk a X hg hsize hdg hW hn hp
  have h1 : (headSpec ws rm).pre.before a A.U = true := atoms_intro fun w hw => hws w hw _ _ X.warmed
  have h2 : (Cond.code y bytes maxL ret).before a A.U = true := hws _ hcode _ _ X.warmed
  have h3 : (Cond.initialized y.cls).before a A.U = true := hinit _ _ X.warmed
  have h4 : A.cells + (headSpec ws rm).room.cells ≤ R.cells := by rw [show (headSpec ws rm).room.cells = mc from hrc]; exact hp.1
  have h5 : A.slots + (headSpec ws rm).room.slots ≤ R.slots := by rw [show (headSpec ws rm).room.slots = ms from hrs]; exact hp.2.1
  have hPc : Pc a (A.U.calling g mk a) := hblind _ _ _ _ hp.2.2
  obtain ⟨U, Ls, c0, s0⟩ := A
  dsimp only [Pt.U, Pt.locs, Pt.cells, Pt.slots] at h1 h2 h3 h4 h5 X hn hPc ⊢
  obtain ⟨methY, cY, hmY, hcY, -, hlY, -, -, -, -⟩ := Cond.code_spec hn h2
  obtain ⟨kY, hkY, -⟩ := className_of_methodNamed hn
  have hinitY : kY.init = .initialized := Cond.initialized_spec (findClass_of_methodNamed hn) hkY h3
  have h : At U g.method c below := by rw [hg]; exact X.here
  have hlocals9 : W9 + (maxL + 11) + (headSpec ws rm).room.locals ≤ R.locals := hlocals
  have happ : (headSpec ws rm).appliesLoose y e.platform (U.calling g mk a) = true :=
    Spec.appliesLoose_calling (g := g) h hdg hn hkY hinitY
      (X.room_calling (g := g) (R' := (headSpec ws rm).room) hsize hmY hcY hframes (by rw [hlY]; omega) h4 h5) h1
  obtain ⟨mid, hmid⟩ := h.above
  have hfr : (U.setTop g).frames = (.java g :: mid) ++ below := by rw [State.frames_setTop' g h.top, hmid]; rfl
  obtain ⟨o, s₂, hsteps, -, hend, hq⟩ := Steps.callFree hM p X.admits X.cas X.clock (acts := []) hfr happ hPc trivial
  have hq' : vx_Q Qc XC mc ms free a (U.calling g mk a) o s₂ := hq
  rw [State.frames_setTop' g h.top] at hend
  obtain ⟨g₀, hg0⟩ := Option.isSome_iff_exists.mp h.top
  obtain ⟨r, hr⟩ := State.topJava?_eq_some.mp hg0
  have hr' : (({ U with heap := s₂.heap, slotsUsed := s₂.slotsUsed } : State).setVm s₂.vm).frames = .java g₀ :: r := hr
  rcases hq' with ⟨hqc, L, hfe, hL⟩ | ⟨q, rfl, E, ce, L, hx, hce, hcv, hcl, hW₂, hsm, hL⟩
  · obtain ⟨⟨v, rfl⟩, hW₂, e2, q2, q3, q4, q5, q6⟩ := id hfe
    have e3 : s₂ = ({ (U.calling g mk a).setFrames s₂.frames with heap := s₂.heap, slotsUsed := s₂.slotsUsed } : State).setVm s₂.vm := by
      have : s₂ = ({ s₂ with vm := (U.calling g mk a).vm } : State).setVm s₂.vm := rfl
      rw [e2] at this
      exact this
    obtain ⟨c₂, i₂, len₂, hc₂, hd₂, hf₂⟩ := hend
    have hW' : U.WarmedH s₂.vm := hW₂
    have hcc : c₂ = c := by
      have h1 : s₂.code? g.method = U.code? g.method := by
        rw [State.code?_eq, State.code?_eq, hW'.alike.method?]
      exact Option.some.inj (hc₂.symm.trans (h1.trans h.code))
    subst hcc
    have hlen : len₂ = len := by rw [hdg] at hd₂; cases hd₂; rfl
    subst hlen
    have hs₂ : s₂ = (({ U with heap := s₂.heap, slotsUsed := s₂.slotsUsed } : State).setVm s₂.vm).setTop { g with pc := g.pc + len₂, stack := v.toList ++ g.stack } := by
      refine e3.trans ?_
      rw [hf₂, State.calling_eq h.top, State.setFrames_setFrames, State.setTop_of_frames _ hr', hr]
      rfl
    have hsame : U.sameButNew ({ U with heap := s₂.heap, slotsUsed := s₂.slotsUsed } : State) L mc ms := by
      refine ⟨?_, q2, q3, q4, q5, q6⟩
      obtain ⟨t, ht, -⟩ := State.frames_cons hr
      show ({ U with heap := s₂.heap, slotsUsed := s₂.slotsUsed } : State) = { U.setFrames U.frames with heap := s₂.heap, slotsUsed := s₂.slotsUsed }
      rw [State.setFrames_self ht]
    subst hg
    refine Or.inl ⟨v, ⟨(({ U with heap := s₂.heap, slotsUsed := s₂.slotsUsed } : State).setVm s₂.vm), Ls ++ L, c0 + mc, s0 + ms⟩,
      ⟨X.admits, X.cas, X.clock, X.frames, X.room, X.hears, X.method, X.code, (X.here.setHeapUsed s₂.heap s₂.slotsUsed).setVm hW'.alike, X.tail, State.WarmedH.trans X.warmed hW', X.limits, X.bytes, X.same.trans (hsame.setVm s.vm)⟩,
      ⟨g, mk, s₂, L, rfl, rfl, hqc, rfl, hL, rfl, rfl⟩, ?_⟩
    show Steps p.tables e below _ ((({ U with heap := s₂.heap, slotsUsed := s₂.slotsUsed } : State).setVm s₂.vm).setTop { g with pc := g.pc + len₂, stack := v.toList ++ g.stack })
    rw [← hs₂]
    exact hsteps
  · obtain ⟨e2, q2, q3, q4, q5, q6⟩ := id hsm
    have e3 : s₂ = ({ (U.calling g mk a).setFrames s₂.frames with heap := s₂.heap, slotsUsed := s₂.slotsUsed } : State).setVm s₂.vm := by
      have : s₂ = ({ s₂ with vm := (U.calling g mk a).vm } : State).setVm s₂.vm := rfl
      rw [e2] at this
      exact this
    have hf₂ : s₂.frames = .throwing q :: .java g :: U.frames.tail := hend
    have hW' : U.WarmedH s₂.vm := hW₂
    have hs₂ : s₂ = ((({ U with heap := s₂.heap, slotsUsed := s₂.slotsUsed } : State).setVm s₂.vm).setTop g).pushFrame (.throwing q) := by
      refine e3.trans ?_
      rw [hf₂, State.calling_eq h.top, State.setFrames_setFrames, State.pushFrame, State.frames_setTop _ hr', State.setTop_of_frames _ hr', State.setFrames_setFrames, hr]
      rfl
    have hsame : U.sameButNew ({ U with heap := s₂.heap, slotsUsed := s₂.slotsUsed } : State) L mc ms := by
      refine ⟨?_, q2, q3, q4, q5, q6⟩
      obtain ⟨t, ht, -⟩ := State.frames_cons hr
      show ({ U with heap := s₂.heap, slotsUsed := s₂.slotsUsed } : State) = { U.setFrames U.frames with heap := s₂.heap, slotsUsed := s₂.slotsUsed }
      rw [State.setFrames_self ht]
    subst hg
    refine Or.inr ⟨q, ⟨(({ U with heap := s₂.heap, slotsUsed := s₂.slotsUsed } : State).setVm s₂.vm), Ls ++ L, c0 + mc, s0 + ms⟩,
      ⟨X.admits, X.cas, X.clock, X.frames, X.room, X.hears, X.method, X.code, (X.here.setHeapUsed s₂.heap s₂.slotsUsed).setVm hW'.alike, X.tail, State.WarmedH.trans X.warmed hW', X.limits, X.bytes, X.same.trans (hsame.setVm s.vm)⟩,
      ⟨g, mk, s₂, L, E, ce, rfl, rfl, hx, hce, hcv, hcl, rfl, hL, rfl, rfl⟩, ?_⟩
    show Steps p.tables e below _ (((({ U with heap := s₂.heap, slotsUsed := s₂.slotsUsed } : State).setVm s₂.vm).setTop g).pushFrame (.throwing q))
    rw [← hs₂]
    exact hsteps
end Payer
section Calls
variable {p : Program} {l : Launch} {e : Env} {R : Room} {s : State} {m : MethodId} {args : Array Value} {below : List Frame} {meth : Method} {c : Code} {T : State} {locs : List Loc} {cells slots : Nat}
theorem vx_callV (X : Stand p l e R s m args below meth c T locs cells slots) (hexec : p.tables.exec = Jvm.exec) {own C : String} {index : Nat} {y : MethodName} {bytes : ByteArray} {maxL : Nat} {ret : Option FieldType}
    (hown : s.vm.findClass own = some m.cls) (hlink : (Cond.methodLink own index y).before args s = true) (hinst : (Cond.instanceMethod y).before args s = true) (hsel : (Cond.selects C y y).before args s = true)
    (hcode : (Cond.code y bytes maxL ret).before args s = true) (hy : y.cls ≠ "java/lang/invoke/MethodHandle" ∧ y.cls ≠ "java/lang/invoke/VarHandle")
    {W9 : Nat} {Pre : Pt → Array Value → Prop} {Post : Pt → Array Value → Option Value → Pt → Prop} {PostX : Pt → Array Value → Addr → Pt → Prop} (hK : vx_Back l R p e below s args y 3 W9 Pre Post PostX)
    {b : Addr} {cellB : Cell} (hcell : T.heap[b]? = some cellB) (hobj : cellB.vm.isStatics = false) (hcls : s.vm.findClass C = some cellB.cls)
    {g : JFrame} (hg : g.method = m) (hsize : g.locals.size = c.maxLocals) {argsL rest : List Value} (hlen : ∀ sig, parseMethodDescriptor y.desc = some sig → argsL.length = sig.parameters.length)
    (hstack : g.stack = argsL.reverse ++ .ref b :: rest) (hW : 2 * g.monitorRoom + (rest.map fun v => v.category).sum ≤ W9) (hdg : decode c.code g.pc = .ok (.invokevirtual index, 3))
    (hpre : ∀ vm₁, s.WarmedH vm₁ → Pre ⟨T.setVm vm₁, locs, cells, slots⟩ (Value.ref b :: argsL).toArray) :
    (∃ (v : Option Value) (vm₁ : Vm) (B : Pt), s.WarmedH vm₁ ∧ Stand p l e R s m args below meth c B.U B.locs B.cells B.slots ∧ Post ⟨T.setVm vm₁, locs, cells, slots⟩ (Value.ref b :: argsL).toArray v B ∧
      ∀ target, Steps p.tables e below (B.U.setTop { g with pc := g.pc + 3, stack := v.toList ++ rest }) target → Steps p.tables e below (T.setTop g) target) ∨
    (∃ (q : Addr) (vm₁ : Vm) (B : Pt), s.WarmedH vm₁ ∧ Stand p l e R s m args below meth c B.U B.locs B.cells B.slots ∧ PostX ⟨T.setVm vm₁, locs, cells, slots⟩ (Value.ref b :: argsL).toArray q B ∧
      Steps p.tables e below (T.setTop g) ((B.U.setTop { g with stack := rest }).pushFrame (.throwing q))) := by
  obtain ⟨mk, methM, hnamed, hmethM, hstM, habM⟩ := Cond.instanceMethod_spec hinst
  obtain ⟨methM', cM, hmethM', -, -, -, -, -, -, hsigM⟩ := Cond.code_spec hnamed hcode
  cases hmethM.symm.trans hmethM'
  obtain ⟨c2, r2, m2, q1, q2, q3, q4, kP, hkP, hkPi⟩ := Cond.selects_spec hsel
  cases hcls.symm.trans q1
  cases (State.methodFound?_of_named hnamed hy).symm.trans q2
  cases hnamed.symm.trans q3
  have hselP : selectMethod e.platform s.vm cellB.cls mk = .method mk := by rw [Launch.admits_selectMethod X.admits]; exact q4
  obtain ⟨vm₁, X₁, hstep₁⟩ := X.invokevirtual hexec hown hlink hnamed hmethM hstM hkP hkPi hy (a := b) (cell := cellB) hcell
    (fun z h => by rw [h] at hobj; cases hobj) hselP hmethM habM hkP hkPi (g := g) hg (argsL := argsL) (rest := rest) (hlen _ hsigM) hstack hdg
  rcases hK m meth c ⟨T.setVm vm₁, locs, cells, slots⟩ { g with stack := rest } (.invokevirtual index) mk (Value.ref b :: argsL).toArray X₁ hg hsize hdg hW (X₁.named hnamed) (hpre vm₁ X₁.warmed) with ⟨v, B, X', hpost, hsteps⟩ | ⟨q, B, X', hpost, hsteps⟩
  · exact Or.inl ⟨v, vm₁, B, X₁.warmed, X', hpost, fun target h => hstep₁ _ fun acts => by rw [doInvoke_state]; exact hsteps.trans h⟩
  · exact Or.inr ⟨q, vm₁, B, X₁.warmed, X', hpost, hstep₁ _ fun acts => by rw [doInvoke_state]; exact hsteps⟩
theorem vx_callS (X : Stand p l e R s m args below meth c T locs cells slots) (hexec : p.tables.exec = Jvm.exec) {own : String} {index : Nat} {y : MethodName} {bytes : ByteArray} {maxL : Nat} {ret : Option FieldType}
    (hown : s.vm.findClass own = some m.cls) (hlink : (Cond.methodLink own index y).before args s = true) (hstat : (Cond.static y).before args s = true) (hinit : (Cond.initialized y.cls).before args s = true)
    (hcode : (Cond.code y bytes maxL ret).before args s = true) (hy : y.cls ≠ "java/lang/invoke/MethodHandle" ∧ y.cls ≠ "java/lang/invoke/VarHandle")
    {W9 : Nat} {Pre : Pt → Array Value → Prop} {Post : Pt → Array Value → Option Value → Pt → Prop} {PostX : Pt → Array Value → Addr → Pt → Prop} (hK : vx_Back l R p e below s args y 3 W9 Pre Post PostX)
    {g : JFrame} (hg : g.method = m) (hsize : g.locals.size = c.maxLocals) {argsL rest : List Value} (hlen : ∀ sig, parseMethodDescriptor y.desc = some sig → argsL.length = sig.parameters.length)
    (hstack : g.stack = argsL.reverse ++ rest) (hW : 2 * g.monitorRoom + (rest.map fun v => v.category).sum ≤ W9) (hdg : decode c.code g.pc = .ok (.invokestatic index, 3))
    (hpre : ∀ vm₁, s.WarmedH vm₁ → Pre ⟨T.setVm vm₁, locs, cells, slots⟩ argsL.toArray) :
    (∃ (v : Option Value) (vm₁ : Vm) (B : Pt), s.WarmedH vm₁ ∧ Stand p l e R s m args below meth c B.U B.locs B.cells B.slots ∧ Post ⟨T.setVm vm₁, locs, cells, slots⟩ argsL.toArray v B ∧
      ∀ target, Steps p.tables e below (B.U.setTop { g with pc := g.pc + 3, stack := v.toList ++ rest }) target → Steps p.tables e below (T.setTop g) target) ∨
    (∃ (q : Addr) (vm₁ : Vm) (B : Pt), s.WarmedH vm₁ ∧ Stand p l e R s m args below meth c B.U B.locs B.cells B.slots ∧ PostX ⟨T.setVm vm₁, locs, cells, slots⟩ argsL.toArray q B ∧
      Steps p.tables e below (T.setTop g) ((B.U.setTop { g with stack := rest }).pushFrame (.throwing q))) := by
  obtain ⟨mk, hnamed⟩ := Cond.code_named hcode
  obtain ⟨methM, cM, hmethM, -, -, -, -, -, -, hsigM⟩ := Cond.code_spec hnamed hcode
  have hstatic : methM.isStatic = true := Cond.static_spec hnamed hmethM hstat
  obtain ⟨kP, hkP, -⟩ := className_of_methodNamed hnamed
  have hinitP : kP.init = .initialized := Cond.initialized_spec (findClass_of_methodNamed hnamed) hkP hinit
  obtain ⟨vm₁, X₁, hstep₁⟩ := X.invokestatic hexec hown hlink hnamed hmethM hstatic hkP hinitP hy (g := g) hg (argsL := argsL) (rest := rest) (hlen _ hsigM) hstack hdg
  rcases hK m meth c ⟨T.setVm vm₁, locs, cells, slots⟩ { g with stack := rest } (.invokestatic index) mk argsL.toArray X₁ hg hsize hdg hW (X₁.named hnamed) (hpre vm₁ X₁.warmed) with ⟨v, B, X', hpost, hsteps⟩ | ⟨q, B, X', hpost, hsteps⟩
  · exact Or.inl ⟨v, vm₁, B, X₁.warmed, X', hpost, fun target h => hstep₁ _ fun acts => by rw [doInvoke_state]; exact hsteps.trans h⟩
  · exact Or.inr ⟨q, vm₁, B, X₁.warmed, X', hpost, hstep₁ _ fun acts => by rw [doInvoke_state]; exact hsteps⟩
end Calls
theorem vx_cls {s : State} {T : State} {vm₁ : Vm} {E : String} {k : ClassId} (hW : s.WarmedH vm₁) (h : (T.setVm vm₁).vm.findClass E = some k) : s.vm.findClass E = some k := by
  have h1 : vm₁.findClass E = some k := h
  rw [hW.alike.findClass] at h1
  exact h1
/-- the method's frame g, with q thrown over it -/
def vx_W (p : Program) (l : Launch) (e : Env) (R : Room) (s : State) (m : MethodId) (args : Array Value) (below : List Frame) (meth : Method) (c : Code) (H : Heap) (locs : List Loc) (cells slots : Nat) (Q : State → Prop) (g : JFrame) (q : Addr) : Prop :=
  ∀ T : State, T.heap = H → Stand p l e R s m args below meth c T locs cells slots → ∃ t, Steps p.tables e below ((T.setTop g).pushFrame (.throwing q)) t ∧ Q t
def vx_Run (p : Program) (l : Launch) (e : Env) (R : Room) (s : State) (m : MethodId) (args : Array Value) (below : List Frame) (meth : Method) (c : Code) (H : Heap) (locs : List Loc) (cells slots mc ms : Nat) (g : JFrame) (rest : List Value) (Qa : State → Outcome → State → Prop) (XC : String → State → State → Prop) (free : Addr → Prop) : Prop :=
  ∀ T : State, T.heap = H → Stand p l e R s m args below meth c T locs cells slots →
    (∃ (v : Option Value) (st₀ t T' : State) (L : List Loc), st₀.heap = H ∧ Stand p l e R s m args below meth c T' (locs ++ L) (cells + mc) (slots + ms) ∧ (∀ q ∈ L, free q.base) ∧ T'.heap = t.heap ∧ T'.vm = t.vm ∧ Qa st₀ (.returned v) t ∧
      Goes p e below T g T' { g with pc := g.pc + 3, stack := v.toList ++ rest }) ∨
    (∃ (q : Addr) (st₀ t T' : State) (L : List Loc) (E : String) (ce : Cell), st₀.heap = H ∧ Stand p l e R s m args below meth c T' (locs ++ L) (cells + mc) (slots + ms) ∧ (∀ z ∈ L, free z.base) ∧ T'.heap = t.heap ∧ T'.vm = t.vm ∧ XC E st₀ t ∧ t.heap[q]? = some ce ∧ ce.vm = .none ∧ s.vm.findClass E = some ce.cls ∧
      Steps p.tables e below (T.setTop g) ((T'.setTop { g with stack := rest }).pushFrame (.throwing q)))
def vx_X {S : Type} (px : S → Prop) (B : String → S → State → Prop) (A : Nat → Prop) : String → State → State → Prop := fun E st t => ∃ u : S, px u ∧ B E u t ∧ va_F A st t
section Runs
variable {p : Program} {l : Launch} {e : Env} {R : Room} {s : State} {m : MethodId} {args : Array Value} {below : List Frame} {meth : Method} {c : Code} {H : Heap} {locs : List Loc} {cells slots : Nat}
variable {y : MethodName} {bytes cc : ByteArray} {maxL nL mc ms n index : Nat} {ret : Option FieldType} {ws : List Cond} {rm : Room} {Pc : Array Value → State → Prop} {Qc : Array Value → State → Outcome → State → Prop} {XC : String → State → State → Prop} {free : Addr → Prop} {Ts : List Cond} {own C : String} {b : Addr} {As rest : List Value} {g : JFrame}
theorem vx_callBack (cb : CallB R s args own index y bytes maxL ret ws rm mc ms n) (hM : vx_Met l y ws rm Pc Qc XC mc ms free) (hbl : FrameBlind Pc) : vx_Back l R p e below s args y 3 8 (PreOf R mc ms Pc) (PostOf Qc mc ms free) (vx_Post XC mc ms free) := by
  obtain ⟨hrc, hrs, hfr, hlo, hws, hcw, -, hini, -⟩ := cb
  exact vx_back (bytes := bytes) (maxL := maxL) (ret := ret) hM hbl hrc hrs hfr hlo hws hcw (fun a' U hW => word_at hW (Or.inl (by first | rfl | simp [Cond.onTables, Cond.keeps, Cond.steady])) hini)
theorem vx_runV (S : CallFix p m c cc nL s args Ts own) (hM : vx_Met l y ws rm Pc Qc XC mc ms free) (cw : CallW R s args own C index y bytes maxL ret ws rm mc ms n) (hp : PreV s H C b Pc As)
    (hg : g.method = m) (hn : As.length = n) (hsize : g.locals.size = nL) (hstack : g.stack = As.reverse ++ .ref b :: rest) (hW : 2 * g.monitorRoom + (rest.map fun v => v.category).sum ≤ 8) (hdg : decode cc g.pc = .ok (.invokevirtual index, 3)) (hf : cells + mc ≤ R.cells ∧ slots + ms ≤ R.slots) :
    vx_Run p l e R s m args below meth c H locs cells slots mc ms g rest (Qc (Value.ref b :: As).toArray) XC free := by
  have hK : vx_Back l R p e below s args y 3 8 (PreOf R mc ms Pc) (PostOf Qc mc ms free) (vx_Post XC mc ms free) := vx_callBack cw.1 hM hp.1
  obtain ⟨⟨-, -, -, -, -, -, hcode, -, hy, hlen, hl⟩, hin, hse⟩ := cw
  obtain ⟨hx, hb, hml, ho, -⟩ := S
  obtain ⟨-, ⟨cellB, hcB, hoB, hclB⟩, hPc⟩ := hp
  intro T hT X
  rcases vx_callV X hx (C := C) (bytes := bytes) (maxL := maxL) (ret := ret) ho hl hin hse hcode hy hK (by rw [hT]; exact hcB) hoB hclB hg (hsize.trans hml.symm) (argsL := As) (rest := rest) (fun sig h => hn.trans (hlen sig h)) hstack hW (by rw [hb]; exact hdg)
    (fun vm₁ hW₁ => ⟨hf.1, hf.2, hPc (T.setVm vm₁) hT hW₁⟩) with ⟨v, vm₁, ⟨U', l2, c2, s2⟩, hW₁, X', ⟨g', mk, t, L, e1, e2, hq, h1, hL, h2, h3⟩, st⟩ | ⟨q, vm₁, ⟨U', l2, c2, s2⟩, hW₁, X', ⟨g', mk, t, L, E, ce, e1, e2, hq, hce, hcv, hcl, h1, hL, h2, h3⟩, st⟩
  · dsimp only [Pt.U, Pt.locs, Pt.cells, Pt.slots] at X' e1 e2 h1 h2 h3 st
    subst h1; subst h2; subst h3
    exact Or.inl ⟨v, (T.setVm vm₁).calling g' mk (Value.ref b :: As).toArray, t, U', L, hT, X', hL, e1, e2, hq, st⟩
  · dsimp only [Pt.U, Pt.locs, Pt.cells, Pt.slots] at X' e1 e2 h1 h2 h3 st hcl
    subst h1; subst h2; subst h3
    exact Or.inr ⟨q, (T.setVm vm₁).calling g' mk (Value.ref b :: As).toArray, t, U', L, E, ce, hT, X', hL, e1, e2, hq, hce, hcv, vx_cls hW₁ hcl, st⟩
theorem vx_runS (S : CallFix p m c cc nL s args Ts own) (hM : vx_Met l y ws rm Pc Qc XC mc ms free) (cw : CallB R s args own index y bytes maxL ret ws rm mc ms n ∧ (Cond.static y).before args s = true) (hp : PreS s H Pc As)
    (hg : g.method = m) (hn : As.length = n) (hsize : g.locals.size = nL) (hstack : g.stack = As.reverse ++ rest) (hW : 2 * g.monitorRoom + (rest.map fun v => v.category).sum ≤ 8) (hdg : decode cc g.pc = .ok (.invokestatic index, 3)) (hf : cells + mc ≤ R.cells ∧ slots + ms ≤ R.slots) :
    vx_Run p l e R s m args below meth c H locs cells slots mc ms g rest (Qc As.toArray) XC free := by
  have hK : vx_Back l R p e below s args y 3 8 (PreOf R mc ms Pc) (PostOf Qc mc ms free) (vx_Post XC mc ms free) := vx_callBack cw.1 hM hp.1
  obtain ⟨⟨-, -, -, -, -, -, hcode, hini, hy, hlen, hl⟩, hstt⟩ := cw
  obtain ⟨hx, hb, hml, ho, -⟩ := S
  intro T hT X
  rcases vx_callS X hx (bytes := bytes) (maxL := maxL) (ret := ret) ho hl hstt hini hcode hy hK hg (hsize.trans hml.symm) (argsL := As) (rest := rest) (fun sig h => hn.trans (hlen sig h)) hstack hW (by rw [hb]; exact hdg)
    (fun vm₁ hW₁ => ⟨hf.1, hf.2, hp.2 (T.setVm vm₁) hT hW₁⟩) with ⟨v, vm₁, ⟨U', l2, c2, s2⟩, hW₁, X', ⟨g', mk, t, L, e1, e2, hq, h1, hL, h2, h3⟩, st⟩ | ⟨q, vm₁, ⟨U', l2, c2, s2⟩, hW₁, X', ⟨g', mk, t, L, E, ce, e1, e2, hq, hce, hcv, hcl, h1, hL, h2, h3⟩, st⟩
  · dsimp only [Pt.U, Pt.locs, Pt.cells, Pt.slots] at X' e1 e2 h1 h2 h3 st
    subst h1; subst h2; subst h3
    exact Or.inl ⟨v, (T.setVm vm₁).calling g' mk As.toArray, t, U', L, hT, X', hL, e1, e2, hq, st⟩
  · dsimp only [Pt.U, Pt.locs, Pt.cells, Pt.slots] at X' e1 e2 h1 h2 h3 st hcl
    subst h1; subst h2; subst h3
    exact Or.inr ⟨q, (T.setVm vm₁).calling g' mk As.toArray, t, U', L, E, ce, hT, X', hL, e1, e2, hq, hce, hcv, vx_cls hW₁ hcl, st⟩
end Runs
section Rows
variable {p : Program} {l : Launch} {e : Env} {R : Room} {s : State} {m : MethodId} {args : Array Value} {below : List Frame} {meth : Method} {c : Code} {H : Heap} {locs : List Loc} {cells slots : Nat} {Q : State → Prop}
variable {mc ms : Nat} {free : Addr → Prop} {A0 A1 : Nat → Prop} {H0 : Heap} {a : Array Value} {pc : Nat} {ls : Array Slot} {st0 rest : List Value}
theorem vx_keep {st₀ t T' : State} {L : List Loc} (h0 : st₀.heap = H) (e1 : T'.heap = t.heap) (hS : va_S A0 H0 H locs) (hA : ∀ q, q < H.size → A1 q → A0 q) (hf : ∀ q, free q → A0 q) (hL : ∀ q ∈ L, free q.base) (hF : va_F A1 st₀ t) :
    H.size ≤ T'.heap.size ∧ (∀ q : Nat, q < H.size → ¬ A1 q → T'.heap[q]? = H[q]?) ∧ va_S A0 H0 T'.heap (locs ++ L) := by
  obtain ⟨hz, hk⟩ := hF
  rw [h0] at hz hk
  exact ⟨by rw [e1]; exact hz, fun q h1 h2 => by rw [e1]; exact hk q h1 h2,
    ⟨Nat.le_trans hS.1 (by rw [e1]; exact hz), fun q h1 h2 => by rw [e1, hk q (Nat.lt_of_lt_of_le h1 hS.1) (fun z => h2 (hA q (Nat.lt_of_lt_of_le h1 hS.1) z))]; exact hS.2.1 q h1 h2, fun q hq => by
      rcases List.mem_append.mp hq with h | h
      · exact hS.2.2 q h
      · exact hf _ (hL q h)⟩⟩
theorem vx_calli {S SX : Type} {post : Int32 → S → Prop} {px : SX → Prop} {B : S → State → Prop} {BX : String → SX → State → Prop} {AX : Nat → Prop} (hr : vx_Run p l e R s m args below meth c H locs cells slots mc ms (F0 m pc ls st0) rest (va_Qi post B A1 a) (vx_X px BX AX) free) (hS : va_S A0 H0 H locs) (hA : ∀ q, q < H.size → A1 q → A0 q) (hf : ∀ q, free q → A0 q) (hAX : ∀ q, q < H.size → AX q → A0 q)
    (kx : ∀ (E : String) (ce : Cell) (q9 : Addr) (u : SX) (t : State) (H1 : Heap) (locs1 : List Loc), t.heap = H1 → s.vm.Alike t.vm → px u → BX E u t → H.size ≤ H1.size → (∀ q : Nat, q < H.size → ¬ AX q → H1[q]? = H[q]?) → va_S A0 H0 H1 locs1 → H1[q9]? = some ce → ce.vm = .none → s.vm.findClass E = some ce.cls → vx_W p l e R s m args below meth c H1 locs1 (cells + mc) (slots + ms) Q (F0 m pc ls rest) q9)
    (kk : ∀ (r : Int32) (u : S) (t : State) (H1 : Heap) (locs1 : List Loc), t.heap = H1 → s.vm.Alike t.vm → post r u → B u t → H.size ≤ H1.size → (∀ q : Nat, q < H.size → ¬ A1 q → H1[q]? = H[q]?) → va_S A0 H0 H1 locs1 → W p l e R s m args below meth c H1 locs1 (cells + mc) (slots + ms) Q (F0 m (pc + 3) ls (.int r :: rest))) : W p l e R s m args below meth c H locs cells slots Q (F0 m pc ls st0) := by
  intro T hT X
  rcases hr T hT X with ⟨v, st₀, t, T', L, h0, X', hL, e1, e2, ⟨⟨r, u, hv, hp, hb⟩, hF⟩, st⟩ | ⟨q, st₀, t, T', L, E, ce, h0, X', hL, e1, e2, ⟨u, hp, hb, hF⟩, hce, hcv, hcl, st⟩
  · cases hv
    obtain ⟨k1, k2, k3⟩ := vx_keep h0 e1 hS hA hf hL hF
    obtain ⟨t2, a1, b1⟩ := kk r u t T'.heap (locs ++ L) e1.symm (by rw [← e2]; exact X'.warmed.alike) hp hb k1 k2 k3 T' rfl X'
    exact ⟨t2, st t2 a1, b1⟩
  · obtain ⟨k1, k2, k3⟩ := vx_keep h0 e1 hS hAX hf hL hF
    obtain ⟨t2, a1, b1⟩ := kx E ce q u t T'.heap (locs ++ L) e1.symm (by rw [← e2]; exact X'.warmed.alike) hp hb k1 k2 k3 (by rw [e1]; exact hce) hcv hcl T' rfl X'
    exact ⟨t2, st.trans a1, b1⟩
theorem vx_calll {S SX : Type} {post : Int64 → S → Prop} {px : SX → Prop} {B : S → State → Prop} {BX : String → SX → State → Prop} {AX : Nat → Prop} (hr : vx_Run p l e R s m args below meth c H locs cells slots mc ms (F0 m pc ls st0) rest (va_Ql post B A1 a) (vx_X px BX AX) free) (hS : va_S A0 H0 H locs) (hA : ∀ q, q < H.size → A1 q → A0 q) (hf : ∀ q, free q → A0 q) (hAX : ∀ q, q < H.size → AX q → A0 q)
    (kx : ∀ (E : String) (ce : Cell) (q9 : Addr) (u : SX) (t : State) (H1 : Heap) (locs1 : List Loc), t.heap = H1 → s.vm.Alike t.vm → px u → BX E u t → H.size ≤ H1.size → (∀ q : Nat, q < H.size → ¬ AX q → H1[q]? = H[q]?) → va_S A0 H0 H1 locs1 → H1[q9]? = some ce → ce.vm = .none → s.vm.findClass E = some ce.cls → vx_W p l e R s m args below meth c H1 locs1 (cells + mc) (slots + ms) Q (F0 m pc ls rest) q9)
    (kk : ∀ (r : Int64) (u : S) (t : State) (H1 : Heap) (locs1 : List Loc), t.heap = H1 → s.vm.Alike t.vm → post r u → B u t → H.size ≤ H1.size → (∀ q : Nat, q < H.size → ¬ A1 q → H1[q]? = H[q]?) → va_S A0 H0 H1 locs1 → W p l e R s m args below meth c H1 locs1 (cells + mc) (slots + ms) Q (F0 m (pc + 3) ls (.long r :: rest))) : W p l e R s m args below meth c H locs cells slots Q (F0 m pc ls st0) := by
  intro T hT X
  rcases hr T hT X with ⟨v, st₀, t, T', L, h0, X', hL, e1, e2, ⟨⟨r, u, hv, hp, hb⟩, hF⟩, st⟩ | ⟨q, st₀, t, T', L, E, ce, h0, X', hL, e1, e2, ⟨u, hp, hb, hF⟩, hce, hcv, hcl, st⟩
  · cases hv
    obtain ⟨k1, k2, k3⟩ := vx_keep h0 e1 hS hA hf hL hF
    obtain ⟨t2, a1, b1⟩ := kk r u t T'.heap (locs ++ L) e1.symm (by rw [← e2]; exact X'.warmed.alike) hp hb k1 k2 k3 T' rfl X'
    exact ⟨t2, st t2 a1, b1⟩
  · obtain ⟨k1, k2, k3⟩ := vx_keep h0 e1 hS hAX hf hL hF
    obtain ⟨t2, a1, b1⟩ := kx E ce q u t T'.heap (locs ++ L) e1.symm (by rw [← e2]; exact X'.warmed.alike) hp hb k1 k2 k3 (by rw [e1]; exact hce) hcv hcl T' rfl X'
    exact ⟨t2, st.trans a1, b1⟩
theorem vx_callf {S SX : Type} {post : UInt32 → S → Prop} {px : SX → Prop} {B : S → State → Prop} {BX : String → SX → State → Prop} {AX : Nat → Prop} (hr : vx_Run p l e R s m args below meth c H locs cells slots mc ms (F0 m pc ls st0) rest (va_Qf post B A1 a) (vx_X px BX AX) free) (hS : va_S A0 H0 H locs) (hA : ∀ q, q < H.size → A1 q → A0 q) (hf : ∀ q, free q → A0 q) (hAX : ∀ q, q < H.size → AX q → A0 q)
    (kx : ∀ (E : String) (ce : Cell) (q9 : Addr) (u : SX) (t : State) (H1 : Heap) (locs1 : List Loc), t.heap = H1 → s.vm.Alike t.vm → px u → BX E u t → H.size ≤ H1.size → (∀ q : Nat, q < H.size → ¬ AX q → H1[q]? = H[q]?) → va_S A0 H0 H1 locs1 → H1[q9]? = some ce → ce.vm = .none → s.vm.findClass E = some ce.cls → vx_W p l e R s m args below meth c H1 locs1 (cells + mc) (slots + ms) Q (F0 m pc ls rest) q9)
    (kk : ∀ (r : UInt32) (u : S) (t : State) (H1 : Heap) (locs1 : List Loc), t.heap = H1 → s.vm.Alike t.vm → post r u → B u t → H.size ≤ H1.size → (∀ q : Nat, q < H.size → ¬ A1 q → H1[q]? = H[q]?) → va_S A0 H0 H1 locs1 → W p l e R s m args below meth c H1 locs1 (cells + mc) (slots + ms) Q (F0 m (pc + 3) ls (.float r :: rest))) : W p l e R s m args below meth c H locs cells slots Q (F0 m pc ls st0) := by
  intro T hT X
  rcases hr T hT X with ⟨v, st₀, t, T', L, h0, X', hL, e1, e2, ⟨⟨r, u, hv, hp, hb⟩, hF⟩, st⟩ | ⟨q, st₀, t, T', L, E, ce, h0, X', hL, e1, e2, ⟨u, hp, hb, hF⟩, hce, hcv, hcl, st⟩
  · cases hv
    obtain ⟨k1, k2, k3⟩ := vx_keep h0 e1 hS hA hf hL hF
    obtain ⟨t2, a1, b1⟩ := kk r u t T'.heap (locs ++ L) e1.symm (by rw [← e2]; exact X'.warmed.alike) hp hb k1 k2 k3 T' rfl X'
    exact ⟨t2, st t2 a1, b1⟩
  · obtain ⟨k1, k2, k3⟩ := vx_keep h0 e1 hS hAX hf hL hF
    obtain ⟨t2, a1, b1⟩ := kx E ce q u t T'.heap (locs ++ L) e1.symm (by rw [← e2]; exact X'.warmed.alike) hp hb k1 k2 k3 (by rw [e1]; exact hce) hcv hcl T' rfl X'
    exact ⟨t2, st.trans a1, b1⟩
theorem vx_calld {S SX : Type} {post : UInt64 → S → Prop} {px : SX → Prop} {B : S → State → Prop} {BX : String → SX → State → Prop} {AX : Nat → Prop} (hr : vx_Run p l e R s m args below meth c H locs cells slots mc ms (F0 m pc ls st0) rest (va_Qd post B A1 a) (vx_X px BX AX) free) (hS : va_S A0 H0 H locs) (hA : ∀ q, q < H.size → A1 q → A0 q) (hf : ∀ q, free q → A0 q) (hAX : ∀ q, q < H.size → AX q → A0 q)
    (kx : ∀ (E : String) (ce : Cell) (q9 : Addr) (u : SX) (t : State) (H1 : Heap) (locs1 : List Loc), t.heap = H1 → s.vm.Alike t.vm → px u → BX E u t → H.size ≤ H1.size → (∀ q : Nat, q < H.size → ¬ AX q → H1[q]? = H[q]?) → va_S A0 H0 H1 locs1 → H1[q9]? = some ce → ce.vm = .none → s.vm.findClass E = some ce.cls → vx_W p l e R s m args below meth c H1 locs1 (cells + mc) (slots + ms) Q (F0 m pc ls rest) q9)
    (kk : ∀ (r : UInt64) (u : S) (t : State) (H1 : Heap) (locs1 : List Loc), t.heap = H1 → s.vm.Alike t.vm → post r u → B u t → H.size ≤ H1.size → (∀ q : Nat, q < H.size → ¬ A1 q → H1[q]? = H[q]?) → va_S A0 H0 H1 locs1 → W p l e R s m args below meth c H1 locs1 (cells + mc) (slots + ms) Q (F0 m (pc + 3) ls (.double r :: rest))) : W p l e R s m args below meth c H locs cells slots Q (F0 m pc ls st0) := by
  intro T hT X
  rcases hr T hT X with ⟨v, st₀, t, T', L, h0, X', hL, e1, e2, ⟨⟨r, u, hv, hp, hb⟩, hF⟩, st⟩ | ⟨q, st₀, t, T', L, E, ce, h0, X', hL, e1, e2, ⟨u, hp, hb, hF⟩, hce, hcv, hcl, st⟩
  · cases hv
    obtain ⟨k1, k2, k3⟩ := vx_keep h0 e1 hS hA hf hL hF
    obtain ⟨t2, a1, b1⟩ := kk r u t T'.heap (locs ++ L) e1.symm (by rw [← e2]; exact X'.warmed.alike) hp hb k1 k2 k3 T' rfl X'
    exact ⟨t2, st t2 a1, b1⟩
  · obtain ⟨k1, k2, k3⟩ := vx_keep h0 e1 hS hAX hf hL hF
    obtain ⟨t2, a1, b1⟩ := kx E ce q u t T'.heap (locs ++ L) e1.symm (by rw [← e2]; exact X'.warmed.alike) hp hb k1 k2 k3 (by rw [e1]; exact hce) hcv hcl T' rfl X'
    exact ⟨t2, st.trans a1, b1⟩
theorem vx_callv {S SX : Type} {post : S → Prop} {px : SX → Prop} {B : S → State → Prop} {BX : String → SX → State → Prop} {AX : Nat → Prop} (hr : vx_Run p l e R s m args below meth c H locs cells slots mc ms (F0 m pc ls st0) rest (va_Qv post B A1 a) (vx_X px BX AX) free) (hS : va_S A0 H0 H locs) (hA : ∀ q, q < H.size → A1 q → A0 q) (hf : ∀ q, free q → A0 q) (hAX : ∀ q, q < H.size → AX q → A0 q)
    (kx : ∀ (E : String) (ce : Cell) (q9 : Addr) (u : SX) (t : State) (H1 : Heap) (locs1 : List Loc), t.heap = H1 → s.vm.Alike t.vm → px u → BX E u t → H.size ≤ H1.size → (∀ q : Nat, q < H.size → ¬ AX q → H1[q]? = H[q]?) → va_S A0 H0 H1 locs1 → H1[q9]? = some ce → ce.vm = .none → s.vm.findClass E = some ce.cls → vx_W p l e R s m args below meth c H1 locs1 (cells + mc) (slots + ms) Q (F0 m pc ls rest) q9)
    (kk : ∀ (u : S) (t : State) (H1 : Heap) (locs1 : List Loc), t.heap = H1 → s.vm.Alike t.vm → post u → B u t → H.size ≤ H1.size → (∀ q : Nat, q < H.size → ¬ A1 q → H1[q]? = H[q]?) → va_S A0 H0 H1 locs1 → W p l e R s m args below meth c H1 locs1 (cells + mc) (slots + ms) Q (F0 m (pc + 3) ls (rest))) : W p l e R s m args below meth c H locs cells slots Q (F0 m pc ls st0) := by
  intro T hT X
  rcases hr T hT X with ⟨v, st₀, t, T', L, h0, X', hL, e1, e2, ⟨⟨u, hv, hp, hb⟩, hF⟩, st⟩ | ⟨q, st₀, t, T', L, E, ce, h0, X', hL, e1, e2, ⟨u, hp, hb, hF⟩, hce, hcv, hcl, st⟩
  · cases hv
    obtain ⟨k1, k2, k3⟩ := vx_keep h0 e1 hS hA hf hL hF
    obtain ⟨t2, a1, b1⟩ := kk u t T'.heap (locs ++ L) e1.symm (by rw [← e2]; exact X'.warmed.alike) hp hb k1 k2 k3 T' rfl X'
    exact ⟨t2, st t2 a1, b1⟩
  · obtain ⟨k1, k2, k3⟩ := vx_keep h0 e1 hS hAX hf hL hF
    obtain ⟨t2, a1, b1⟩ := kx E ce q u t T'.heap (locs ++ L) e1.symm (by rw [← e2]; exact X'.warmed.alike) hp hb k1 k2 k3 (by rw [e1]; exact hce) hcv hcl T' rfl X'
    exact ⟨t2, st.trans a1, b1⟩
/-- caught by the row x of this method's table; the rows ahead don't take it -/
theorem vx_catch {own name : String} {E : String} {ce : Cell} {q : Addr} (hown : s.vm.findClass own = some m.cls) (pre : List ExceptionTableEntry) (x : ExceptionTableEntry) (suf : List ExceptionTableEntry) (hsplit : c.exceptionTable.toList = pre ++ x :: suf)
    (hpass : ∀ z ∈ pre, covers z pc = false ∨ (z.catchType ≠ 0 ∧ ∃ nm : String, (Cond.classLink own z.catchType nm).before args s = true ∧ va_Nc E nm s)) (hx : covers x pc = true) (h0 : x.catchType ≠ 0)
    (hlink : (Cond.classLink own x.catchType name).before args s = true) (hcast : (Cond.castable E name).before args s = true) (hcell : H[q]? = some ce) (hv : ce.vm = .none) (hcl : s.vm.findClass E = some ce.cls)
    (kk : W p l e R s m args below meth c H locs cells slots Q (F0 m x.handlerPc ls [.ref q])) : vx_W p l e R s m args below meth c H locs cells slots Q (F0 m pc ls rest) q := by
  intro T hT X
  have hpl : e.platform.magicAccessors = ({} : Platform).magicAccessors := by rw [X.admits.platform]
  obtain ⟨c3, c4, hc3, hc4, hasg⟩ := Cond.castable_spec hcast
  cases Option.some.inj (hc3.symm.trans hcl)
  obtain ⟨c5, hc5, hcl5⟩ := Cond.classLink_spec hown hlink e.platform hpl
  cases Option.some.inj (hc4.symm.trans hc5)
  obtain ⟨vm', X', st⟩ := Stand.thenCaughtThrough X q (g := F0 m pc ls rest) rfl (Steps.refl _) (by rw [hT]; exact hcell) (by rw [hv]; rfl) (by obtain ⟨k9, h9, -⟩ := Vm.findClass_spec hcl; exact ⟨k9, h9⟩) pre x suf hsplit
    (fun z hz => by
      rcases hpass z hz with h | ⟨hz0, nm, hl1, hn1⟩
      · exact Or.inl h
      · obtain ⟨c6, hc6, hcl6⟩ := Cond.classLink_spec hown hl1 e.platform hpl
        obtain ⟨a8, b8, h1, h2, h3⟩ := hn1
        cases Option.some.inj (h1.symm.trans hcl)
        cases Option.some.inj (h2.symm.trans hc6)
        exact Or.inr ⟨hz0, _, hcl6, h3⟩) hx (Or.inr ⟨h0, c4, hcl5, hasg⟩)
  obtain ⟨t, a1, b1⟩ := kk (T.setVm vm') hT X'
  exact ⟨t, st.trans a1, b1⟩
end Rows
section Ends
variable {p : Program} {l : Launch} {e : Env} {R : Room} {s : State} {m : MethodId} {args : Array Value} {below : List Frame} {meth : Method} {c : Code} {H : Heap} {locs : List Loc} {cells slots : Nat} {Q : State → Prop}
variable {mc ms : Nat} {free : Addr → Prop} {A0 A1 : Nat → Prop} {H0 : Heap} {a : Array Value} {ls : Array Slot} {st0 rest : List Value}
variable {Qc : Array Value → State → Outcome → State → Prop} {XC : String → State → State → Prop}
/-- what a body that may throw owes at its end -/
def vx_MQ (below : List Frame) (Qc : Array Value → State → Outcome → State → Prop) (XC : String → State → State → Prop) (a : Array Value) (s : State) (mc ms : Nat) (free : Addr → Prop) : State → Prop := fun t =>
  ∃ o, t.status = .running ∧ Ended t below o ∧ vx_Q Qc XC mc ms free a s o t
theorem vx_ret {g : JFrame} {mc ms : Nat} (k : W p l e R s m args below meth c H locs cells slots (MQ below Qc args s mc ms free) g) : W p l e R s m args below meth c H locs cells slots (vx_MQ below Qc XC args s mc ms free) g := by
  intro T hT X
  obtain ⟨t, a1, o, b1, b2, b3, b4⟩ := k T hT X
  exact ⟨t, a1, o, b1, b2, Or.inl ⟨b3, b4⟩⟩
/-- not caught here: it goes on to the caller -/
theorem vx_widen {g : JFrame} {q : Addr} {k n : Nat} (h1 : cells ≤ k) (h2 : slots ≤ n) (kk : vx_W p l e R s m args below meth c H locs k n Q g q) : vx_W p l e R s m args below meth c H locs cells slots Q g q := fun T hT X => kk T hT (stand_widen X h1 h2)
theorem vx_out {pc : Nat} {E : String} {ce : Cell} {q : Addr} {mc ms : Nat} (hout : ∀ x ∈ c.exceptionTable.toList, covers x pc = false) (hlocks : meth.locks = false) (hcell : H[q]? = some ce) (hv : ce.vm = .none) (hcl : s.vm.findClass E = some ce.cls)
    (hx : ∀ t : State, t.heap = H → s.vm.Alike t.vm → XC E s t) (hf : ∀ z ∈ locs, free z.base) (hc : cells ≤ mc) (hs : slots ≤ ms) :
    vx_W p l e R s m args below meth c H locs cells slots (vx_MQ below Qc XC args s mc ms free) (F0 m pc ls rest) q := by
  intro T hT X
  obtain ⟨st1, hrun, hend, hW, hsm⟩ := X.leaveThrown q (g := F0 m pc ls rest) rfl rfl rfl hout hlocks
  have hcell9 : (T.setFrames (.throwing q :: below)).heap[q]? = some ce := by
    show T.heap[q]? = some ce
    rw [hT]; exact hcell
  exact ⟨_, st1, .threw q, hrun, hend, Or.inr ⟨q, rfl, E, ce, locs, hx _ hT hW.alike, hcell9, hv, hcl, hW, hsm.mono hc hs, hf⟩⟩
theorem vx_frame {U : State} {k n : Nat} (h : s.sameButNew ({ U with vm := s.vm } : State) locs k n) : s.heap.size ≤ U.heap.size ∧ ∀ q : Nat, q < s.heap.size → (∀ z ∈ locs, z.base ≠ q) → U.heap[q]? = s.heap[q]? := by
  obtain ⟨-, h2, -, -, -, h6⟩ := h
  refine ⟨h2, fun q hq hz => ?_⟩
  obtain ⟨c9, e1, e2, e3, e4⟩ := h6 q _ (Array.getElem?_eq_getElem hq)
  have hs : c9.slots = (s.heap[q]).slots := Array.ext_getElem? fun i => e4 i fun hm => hz _ hm rfl
  have h9 : c9 = s.heap[q] := by
    rw [hs] at e2
    exact e2
  have e5 : U.heap[q]? = some c9 := e1
  rw [e5, h9, Array.getElem?_eq_getElem hq]
/-- the words of a throw but the four that speak of the heap -/
def vx_no (w : Cond) : Bool := decide (w ≠ .isRef (.static Bundle.tN "UNASSIGNED_STACK" Bundle.steD)) && decide (w ≠ .isRef (.static Bundle.tN "SUPPRESSED_SENTINEL" Bundle.listD)) && decide (w ≠ .laysStatic Bundle.tN "UNASSIGNED_STACK" Bundle.steD) && decide (w ≠ .laysStatic Bundle.tN "SUPPRESSED_SENTINEL" Bundle.listD)
def vx_at0 (own : String) (ic : Nat) (X : String) (names : List String) : List Cond := (Bundle.ownAtoms0 own ic X names).filter vx_no
def vx_atS (own : String) (ic : Nat) (X : String) (names : List String) : List Cond := (Bundle.ownAtoms own ic X names).filter vx_no
/-- a word that the tables alone decide, or a good one -/
def vx_ot (w : Cond) : Bool := w.onTables || goodWord w
theorem vx_ot_at {args a' : Array Value} {s U : State} {w : Cond} (hW : s.WarmedH U.vm) (hvm : s.vm = U.vm) (hg : vx_ot w = true) (h : w.before args s = true) : w.before a' U = true := by
  simp only [vx_ot, Bool.or_eq_true] at hg
  rcases hg with hg | hg
  · exact va_tabs hg hvm h
  · exact word_at hW (good_of_word hg) h
/-- a list's words: the good ones out of the method's own list, the others by premises of their own -/
theorem vx_hat {args : Array Value} {s : State} {L B : List Cond} (h1 : ∀ w ∈ L.filter goodWord, w.before args s = true) (h2 : ∀ w ∈ L.filter (fun w => !goodWord w), w ∈ B) (h3 : ∀ w ∈ B, w.before args s = true) : ∀ w ∈ L, w.before args s = true := by
  intro w hw
  by_cases g : goodWord w = true
  · exact h1 w (List.mem_filter.mpr ⟨hw, g⟩)
  · refine h3 w (h2 w (List.mem_filter.mpr ⟨hw, ?_⟩))
    show (!goodWord w) = true
    cases hgw : goodWord w
    · rfl
    · exact absurd hgw g
theorem vx_c {args : Array Value} {s : State} {w : Cond} {B : List Cond} (h : w.before args s = true) (t : ∀ w ∈ B, w.before args s = true) : ∀ w' ∈ w :: B, w'.before args s = true := fun w' h' => (List.mem_cons.mp h').elim (fun e => by rw [e]; exact h) (t w')
theorem vx_n {args : Array Value} {s : State} : ∀ w ∈ ([] : List Cond), w.before args s = true := fun _ h => nomatch h
theorem vx_own {args : Array Value} {s : State} {L : List Cond} (h1 : ∀ w ∈ L.filter vx_no, w.before args s = true)
    (hU : (Cond.isRef (.static Bundle.tN "UNASSIGNED_STACK" Bundle.steD)).before args s = true) (hN : (Cond.isRef (.static Bundle.tN "SUPPRESSED_SENTINEL" Bundle.listD)).before args s = true)
    (lU : (Cond.laysStatic Bundle.tN "UNASSIGNED_STACK" Bundle.steD).before args s = true) (lN : (Cond.laysStatic Bundle.tN "SUPPRESSED_SENTINEL" Bundle.listD).before args s = true) : ∀ w ∈ L, w.before args s = true := by
  intro w hw
  by_cases e1 : w = .isRef (.static Bundle.tN "UNASSIGNED_STACK" Bundle.steD)
  · rw [e1]; exact hU
  · by_cases e2 : w = .isRef (.static Bundle.tN "SUPPRESSED_SENTINEL" Bundle.listD)
    · rw [e2]; exact hN
    · by_cases e3 : w = .laysStatic Bundle.tN "UNASSIGNED_STACK" Bundle.steD
      · rw [e3]; exact lU
      · by_cases e4 : w = .laysStatic Bundle.tN "SUPPRESSED_SENTINEL" Bundle.listD
        · rw [e4]; exact lN
        · exact h1 w (List.mem_filter.mpr ⟨hw, by unfold vx_no; rw [decide_eq_true e1, decide_eq_true e2, decide_eq_true e3, decide_eq_true e4]; rfl⟩)
/-- where a static field lies, its class's statics cell in H -/
def vx_L (C n d : String) (A : Nat → Prop) (U : State) (H : Heap) : Prop := ∃ (c : ClassId) (k : Class) (i : Nat) (f : Field) (a : Nat) (cell : Cell), U.vm.findClass C = some c ∧ U.fieldFound? C n d = some (c, k, i, f) ∧ f.isStatic = true ∧ k.statics = some a ∧ H[a]? = some cell ∧ cell.vm.isStatics = true ∧ cell.cls = c ∧ f.slot < cell.slots.size ∧ k.staticTypes[f.slot]? = some f.type ∧ ¬ A a
theorem vx_L.moved {C n d : String} {A : Nat → Prop} {u U : State} {H : Heap} (hvm : u.vm.Alike U.vm) (h : vx_L C n d A u H) : vx_L C n d A U H := by
  obtain ⟨c, k, i, f, a, cell, h1, h2, h3, h4, h5, h6, h7, h8, h9, h10⟩ := h
  obtain ⟨k', hi', he⟩ := State.fieldFound?_setVm hvm h2
  exact ⟨c, k', i, f, a, cell, by rw [hvm.findClass]; exact h1, hi', h3, by rw [he]; exact h4, h5, h6, h7, h8, by rw [he]; exact h9, h10⟩
theorem vx_L.kept {C n d : String} {A : Nat → Prop} {U : State} {H H1 : Heap} (h : vx_L C n d A U H) (hq : ∀ a : Nat, a < H.size → ¬ A a → H1[a]? = H[a]?) : vx_L C n d A U H1 := by
  obtain ⟨c, k, i, f, a, cell, h1, h2, h3, h4, h5, h6, h7, h8, h9, h10⟩ := h
  exact ⟨c, k, i, f, a, cell, h1, h2, h3, h4, by rw [hq a (Array.getElem?_eq_some_iff.mp h5).1 h10]; exact h5, h6, h7, h8, h9, h10⟩
theorem vx_L.narrow {C n d : String} {A B : Nat → Prop} {U : State} {H : Heap} (h : vx_L C n d A U H) (hAB : ∀ q, B q → A q) : vx_L C n d B U H := by
  obtain ⟨c, k, i, f, a, cell, h1, h2, h3, h4, h5, h6, h7, h8, h9, h10⟩ := h
  exact ⟨c, k, i, f, a, cell, h1, h2, h3, h4, h5, h6, h7, h8, h9, fun z => h10 (hAB _ z)⟩
theorem vx_L.word {C n d : String} {A : Nat → Prop} {s : State} {args : Array Value} (h : vx_L C n d A s s.heap) : (Cond.laysStatic C n d).before args s = true := by
  obtain ⟨c, k, i, f, a, cell, h1, h2, h3, h4, h5, h6, h7, h8, h9, -⟩ := h
  show (Cond.laysStatic C n d).holds args s none s [] = true
  exact Cond.laysStatic_of h1 h2 h3 h4 h5 h6 h7 h8 h9
/-- .. and what it holds: null or some reference -/
def vx_Zq (C n d : String) (A : Nat → Prop) (U : State) (H : Heap) : Prop := va_Zq C n d A U H ∧ vx_L C n d A U H
theorem vx_Zq.moved {C n d : String} {A : Nat → Prop} {u U : State} {H : Heap} (hvm : u.vm.Alike U.vm) (h : vx_Zq C n d A u H) : vx_Zq C n d A U H := ⟨va_Zq.moved hvm h.1, vx_L.moved hvm h.2⟩
theorem vx_Zq.kept {C n d : String} {A : Nat → Prop} {U : State} {H H1 : Heap} (h : vx_Zq C n d A U H) (hq : ∀ a : Nat, a < H.size → ¬ A a → H1[a]? = H[a]?) : vx_Zq C n d A U H1 := ⟨va_Zq.kept h.1 hq, vx_L.kept h.2 hq⟩
theorem vx_Zq.narrow {C n d : String} {A B : Nat → Prop} {U : State} {H : Heap} (h : vx_Zq C n d A U H) (hAB : ∀ q, B q → A q) : vx_Zq C n d B U H := ⟨va_Zq.narrow h.1 hAB, vx_L.narrow h.2 hAB⟩
theorem vx_Zqof {args : Array Value} {s : State} {C n d : String} {A : Nat → Prop} (hl : (Cond.laysStatic C n d).before args s = true) (hini : (Cond.initialized C).before args s = true) (h : (Cond.isRef (.static C n d)).before args s = true) (hA : ∀ a : Nat, a < s.heap.size → ¬ A a) : vx_Zq C n d A s s.heap := by
  refine ⟨va_Zqof hl hini h hA, ?_⟩
  obtain ⟨c, k, i, f, a, cell, h1, h2, h3, h4, h5, h6, h7, h8, h9⟩ := Cond.laysStatic_spec hl
  exact ⟨c, k, i, f, a, cell, h1, h2, h3, h4, h5, h6, h7, h8, h9, hA a (Array.getElem?_eq_some_iff.mp h5).1⟩
theorem vx_isRef {C n d : String} {v : Value} {A : Nat → Prop} {s : State} {args : Array Value} (h : va_Z C n d v A s s.heap) (hv : v.isRef = true) : (Cond.isRef (.static C n d)).before args s = true := by
  obtain ⟨cf, kf, fi, f, a, cell, h1, h2, h3, h4, h5, h6, h7, -⟩ := h
  have he : (Term.static C n d).eval args s none [] s = some v := by
    simp [Term.eval, State.fieldNamed?, h1, h2, h4, h5, h6, h7]
  simp only [Cond.before, Cond.holds, Cond.value, he]
  cases v <;> simp_all [Value.isRef]
theorem vx_isRefq {C n d : String} {A : Nat → Prop} {s : State} {args : Array Value} (h : va_Zq C n d A s s.heap) : (Cond.isRef (.static C n d)).before args s = true := by
  rcases h with h | ⟨t, h⟩
  · exact vx_isRef h rfl
  · exact vx_isRef h rfl
/-- the same frame, seen from here: as if the method were called anew in this heap -/
theorem vx_rebase {T : State} (X : Stand p l e R s m args below meth c T locs cells slots) {R' : Room} (hf : R'.frames ≤ R.frames) (hl : R'.locals ≤ R.locals) (hc : cells + R'.cells ≤ R.cells) (hs : slots + R'.slots ≤ R.slots) :
    Stand p l e R' ((T.setVm s.vm).setFrames (.invoking m args :: below)) m args below meth c T [] 0 0 := by
  have htop : (T.setVm s.vm).topJava?.isSome := X.here.top
  have hF : ((T.setVm s.vm).setFrames (.invoking m args :: below)).frames = .invoking m args :: below := State.frames_setFrames _ (State.cur_lt_of_top htop)
  obtain ⟨g₀, hg0⟩ := Option.isSome_iff_exists.mp htop
  obtain ⟨r, hr⟩ := State.topJava?_eq_some.mp hg0
  have hl9 : e.platform.stackLimits (T.setVm s.vm).me = e.platform.stackLimits s.me := X.limits
  have hb9 : (T.setVm s.vm).me.stackBytes = s.me.stackBytes := X.bytes
  refine ⟨X.admits, X.cas, X.clock, hF, ?_, X.hears, X.method, X.code, X.here, X.tail, X.warmed, ?_, ?_, ?_⟩
  · have h := X.room
    have hU : ((T.setVm s.vm).setFrames (.invoking m args :: below)).localsInUse = s.localsInUse := by
      rw [State.localsInUse_invoking hF (meth := meth) (c := c) X.method X.code, State.localsInUse_invoking X.frames X.method X.code]
    simp only [State.hasRoom, Bool.and_eq_true, decide_eq_true_eq] at h ⊢
    obtain ⟨⟨⟨⟨h1, h2, h3, h4, h5, h6⟩, h7⟩, h8⟩, h9⟩ := h
    rw [X.frames, List.length_cons] at h2 h3
    have q1 := X.heapSize
    have q2 := X.used
    simp only [hF, hU, List.length_cons, State.stackLimits_setFrames, State.stackBytes_setFrames, hl9, hb9]
    refine ⟨⟨⟨⟨by omega, by omega, by omega, by omega, by omega, h6⟩, ?_⟩, ?_⟩, X.book⟩
    · show T.heap.size + R'.cells ≤ e.platform.maxCells
      omega
    · show T.slotsUsed + R'.slots ≤ e.platform.maxSlots
      omega
  · rw [State.stackLimits_setFrames]; rfl
  · rw [State.stackBytes_setFrames]; rfl
  · refine ⟨?_, Nat.le_refl _, Nat.le_refl _, ?_, ?_, fun a c9 h9 => ⟨c9, h9, rfl, rfl, fun _ _ => rfl⟩⟩
    · obtain ⟨t, ht, -⟩ := State.frames_cons hr
      show T.setVm s.vm = { ((T.setVm s.vm).setFrames (.invoking m args :: below)).setFrames (T.setVm s.vm).frames with heap := T.heap, slotsUsed := T.slotsUsed }
      rw [State.setFrames_setFrames, State.setFrames_self ht]
      rfl
    · show T.slotsUsed = T.slotsUsed + ((T.heap.toList.drop T.heap.size).map (·.slots.size)).sum
      rw [List.drop_eq_nil_of_le (Nat.le_of_eq Array.length_toList)]
      rfl
    · show ((T.heap.toList.drop T.heap.size).map (·.slots.size)).sum ≤ 0
      rw [List.drop_eq_nil_of_le (Nat.le_of_eq Array.length_toList)]
      exact Nat.le_refl _
/-- 'throw new E()': new; dup; invokespecial; athrow -/
theorem vx_throw0 {cc : ByteArray} {pc : Nat} (hexec : p.tables.exec = Jvm.exec) (hb : c.code = cc) (hl : l.stackTraces = false) {own cls : String} {names : List String} {ik ic mc ms : Nat} {A : Nat → Prop}
    (hown : s.vm.findClass own = some m.cls) (hcls : Bundle.fit cls = true) (hnames : ∀ n ∈ names, Bundle.fit n = true)
    (hk : (Cond.classLink own ik cls).before args s = true) (hini : (Cond.initialized cls).before args s = true) (hat : ∀ w ∈ vx_at0 own ic cls names, w.before args s = true)
    (hgood : ∀ w ∈ Cond.classLink own ik cls :: Cond.initialized cls :: vx_at0 own ic cls names, vx_ot w = true)
    (hU : vx_Zq Bundle.tN "UNASSIGNED_STACK" Bundle.steD A s s.heap) (hN : vx_Zq Bundle.tN "SUPPRESSED_SENTINEL" Bundle.listD A s s.heap) (hS : va_S A s.heap H locs) (hsize : ls.size = c.maxLocals)
    (d0 : decode cc pc = .ok (.new ik, 3)) (d3 : decode cc (pc + 3) = .ok (.dup, 1)) (d4 : decode cc (pc + 4) = .ok (.invokespecial ic, 3)) (d7 : decode cc (pc + 7) = .ok (.athrow, 1))
    (hout : ∀ x ∈ c.exceptionTable.toList, covers x (pc + 7) = false)
    (hRframes : names.length + 3 < R.frames) (hRlocals : (rest.map fun v => v.category).sum + (13 * (names.length + 1) + 42) ≤ R.locals) (hRcells : cells + 1 ≤ R.cells) (hRslots : slots + 6 ≤ R.slots) (hlocks : meth.locks = false)
    (hx : ∀ t : State, s.vm.Alike t.vm → H.size ≤ t.heap.size → (∀ q : Nat, q < H.size → t.heap[q]? = H[q]?) → XC cls s t)
    (hf : ∀ z ∈ locs, free z.base) (hc : cells + 1 ≤ mc) (hs : slots + 6 ≤ ms) :
    W p l e R s m args below meth c H locs cells slots (vx_MQ below Qc XC args s mc ms free) (F0 m pc ls rest) := by
  intro T hT X
  have htr : e.platform.stackTraces = false := (show e.platform.stackTraces = l.stackTraces by rw [X.admits.platform]).trans hl
  have Y := vx_rebase X (R' := { frames := R.frames, locals := R.locals, cells := 1, slots := 6 }) (Nat.le_refl _) (Nat.le_refl _) hRcells hRslots
  obtain ⟨s', hA⟩ : ∃ z, z = (T.setVm s.vm).setFrames (.invoking m args :: below) := ⟨_, rfl⟩
  rw [← hA] at Y
  have hvm : s'.vm = s.vm := by rw [hA]; rfl
  have hhp : s'.heap = H := by rw [hA]; exact hT
  have hW0 : s.WarmedH s'.vm := by rw [hvm]; exact State.WarmedH.refl s
  have hat' : ∀ w ∈ vx_at0 own ic cls names, w.before args s' = true := fun w hw => vx_ot_at hW0 hvm.symm (hgood w (List.mem_cons_of_mem _ (List.mem_cons_of_mem _ hw))) (hat w hw)
  have hk' : (Cond.classLink own ik cls).before args s' = true := vx_ot_at hW0 hvm.symm (hgood _ List.mem_cons_self) hk
  have hini' : (Cond.initialized cls).before args s' = true := vx_ot_at hW0 hvm.symm (hgood _ (List.mem_cons_of_mem _ List.mem_cons_self)) hini
  have hU' : vx_Zq Bundle.tN "UNASSIGNED_STACK" Bundle.steD A s' s'.heap := by rw [hhp]; exact vx_Zq.moved hW0.alike (hU.kept hS.2.1)
  have hN' : vx_Zq Bundle.tN "SUPPRESSED_SENTINEL" Bundle.listD A s' s'.heap := by rw [hhp]; exact vx_Zq.moved hW0.alike (hN.kept hS.2.1)
  have h : ∀ w ∈ Bundle.ownAtoms0 own ic cls names, w.before args s' = true := vx_own hat' (vx_isRefq hU'.1) (vx_isRefq hN'.1) hU'.2.word hN'.2.word
  have hown' : s'.vm.findClass own = some m.cls := by rw [hvm]; exact hown
  have hins : (Cond.instantiable cls 6).before args s' = true := h _ (by simp [Bundle.ownAtoms0])
  obtain ⟨vm₁, cX, kX, hfX, hkX, -, -, X₁, st1⟩ := Y.newCold hexec (own := own) (C := cls) (index := ik) (n := 6) hown' hk' hins hini'
    (g := F0 m pc ls rest) rfl (by rw [hb]; exact d0) (Nat.le_refl _) (Nat.le_refl _)
  generalize hT1 : (T.setVm vm₁).pushCell { cls := cX, slots := kX.instanceTypes.map defaultValue, vm := .none } = T1 at X₁ st1
  have hcat : (Value.ref T.heap.size).category = 1 := rfl
  have hcellA : T1.heap[T.heap.size]? = some (freshCell cX kX) := by rw [← hT1]; exact State.heap_pushCell_size _ _
  have d3' : decode c.code (pc + 3) = .ok (.dup, 1) := by rw [hb]; exact d3
  obtain ⟨U, hsteps, hrun, hend, hW, hsame, ce, hce, hO⟩ := X₁.ctorThrow0 hexec htr (own := own) (cls := cls) (names := names) (ic := ic) hown' hcls hnames h (fun x hx => nomatch hx) hfX hkX hcellA (by rw [hhp, hT]; exact Nat.le_refl _)
    (g := { method := m, pc := pc + 4, locals := ls, stack := .ref T.heap.size :: .ref T.heap.size :: rest, locked := none }) rfl hsize rfl rfl (rest := rest) rfl
    (by rw [hb]; exact d4) (by rw [hb]; exact d7) hout hRframes (by simp only [List.map_cons, List.sum_cons, hcat]; omega) hlocks
  obtain ⟨f1, f2⟩ := vx_frame hsame
  rw [hhp] at f1 f2
  have hWs : s.WarmedH U.vm := State.WarmedH.trans hW0 hW
  have hcl : s.vm.findClass cls = some ce.cls := by
    have h9 := hO.cls
    rw [hvm] at h9
    exact h9
  have hall : s.sameButNew ({ U with vm := s.vm } : State) locs mc ms := by
    subst hA
    obtain ⟨e1, e2⟩ := hsame
    rw [State.setFrames_setFrames] at e1
    have h2 : (T.setVm s.vm).sameButNew ({ U with vm := s.vm } : State) [] (0 + 1) (0 + 6) := ⟨e1, e2⟩
    have h3 := X.same.trans h2
    rw [List.append_nil] at h3
    exact h3.mono hc hs
  refine ⟨U, ?_, .threw T.heap.size, hrun, hend, Or.inr ⟨T.heap.size, rfl, cls, ce, locs, hx U hWs.alike f1 (fun q hq => f2 q hq (fun z hz => nomatch hz)), hce, hO.vm, hcl, hWs, hall, hf⟩⟩
  refine st1 _ ?_
  show Steps p.tables e below (T1.setTop { method := m, pc := pc + 3, locals := ls, stack := .ref T.heap.size :: rest, locked := none }) _
  jvm_step X₁.here [X₁.here.top, hexec, d3', Value.category]
  exact hsteps
/-- 'throw new E("text")': new; dup; ldc; invokespecial; athrow -/
theorem vx_throwS {cc : ByteArray} {pc : Nat} (hexec : p.tables.exec = Jvm.exec) (hb : c.code = cc) (hl : l.stackTraces = false) {own cls text : String} {names : List String} {ik is ic mc ms sa : Nat} {A : Nat → Prop}
    (hown : s.vm.findClass own = some m.cls) (hcls : Bundle.fit cls = true) (hnames : ∀ n ∈ names, Bundle.fit n = true)
    (hk : (Cond.classLink own ik cls).before args s = true) (hini : (Cond.initialized cls).before args s = true) (hstr : vk_R own is text sa s) (hat : ∀ w ∈ vx_atS own ic cls names, w.before args s = true)
    (hgood : ∀ w ∈ Cond.classLink own ik cls :: Cond.initialized cls :: vx_atS own ic cls names, vx_ot w = true)
    (hU : vx_Zq Bundle.tN "UNASSIGNED_STACK" Bundle.steD A s s.heap) (hN : vx_Zq Bundle.tN "SUPPRESSED_SENTINEL" Bundle.listD A s s.heap) (hS : va_S A s.heap H locs) (hsize : ls.size = c.maxLocals)
    (d0 : decode cc pc = .ok (.new ik, 3)) (d3 : decode cc (pc + 3) = .ok (.dup, 1)) (d4 : decode cc (pc + 4) = .ok (.ldc is, 2)) (d6 : decode cc (pc + 6) = .ok (.invokespecial ic, 3)) (d9 : decode cc (pc + 9) = .ok (.athrow, 1))
    (hout : ∀ x ∈ c.exceptionTable.toList, covers x (pc + 9) = false)
    (hRframes : names.length + 3 < R.frames) (hRlocals : (rest.map fun v => v.category).sum + (13 * (names.length + 1) + 43) ≤ R.locals) (hRcells : cells + 1 ≤ R.cells) (hRslots : slots + 6 ≤ R.slots) (hlocks : meth.locks = false)
    (hx : ∀ t : State, s.vm.Alike t.vm → t.heap.size = H.size + 1 → (∀ q : Nat, q < H.size → t.heap[q]? = H[q]?) → XC cls s t)
    (hf : ∀ z ∈ locs, free z.base) (hc : cells + 1 ≤ mc) (hs : slots + 6 ≤ ms) :
    W p l e R s m args below meth c H locs cells slots (vx_MQ below Qc XC args s mc ms free) (F0 m pc ls rest) := by
  intro T hT X
  have htr : e.platform.stackTraces = false := (show e.platform.stackTraces = l.stackTraces by rw [X.admits.platform]).trans hl
  have Y := vx_rebase X (R' := { frames := R.frames, locals := R.locals, cells := 1, slots := 6 }) (Nat.le_refl _) (Nat.le_refl _) hRcells hRslots
  obtain ⟨s', hA⟩ : ∃ z, z = (T.setVm s.vm).setFrames (.invoking m args :: below) := ⟨_, rfl⟩
  rw [← hA] at Y
  have hvm : s'.vm = s.vm := by rw [hA]; rfl
  have hhp : s'.heap = H := by rw [hA]; exact hT
  have hW0 : s.WarmedH s'.vm := by rw [hvm]; exact State.WarmedH.refl s
  have hat' : ∀ w ∈ vx_atS own ic cls names, w.before args s' = true := fun w hw => vx_ot_at hW0 hvm.symm (hgood w (List.mem_cons_of_mem _ (List.mem_cons_of_mem _ hw))) (hat w hw)
  have hk' : (Cond.classLink own ik cls).before args s' = true := vx_ot_at hW0 hvm.symm (hgood _ List.mem_cons_self) hk
  have hini' : (Cond.initialized cls).before args s' = true := vx_ot_at hW0 hvm.symm (hgood _ (List.mem_cons_of_mem _ List.mem_cons_self)) hini
  have hU' : vx_Zq Bundle.tN "UNASSIGNED_STACK" Bundle.steD A s' s'.heap := by rw [hhp]; exact vx_Zq.moved hW0.alike (hU.kept hS.2.1)
  have hN' : vx_Zq Bundle.tN "SUPPRESSED_SENTINEL" Bundle.listD A s' s'.heap := by rw [hhp]; exact vx_Zq.moved hW0.alike (hN.kept hS.2.1)
  have h : ∀ w ∈ Bundle.ownAtoms own ic cls names, w.before args s' = true := vx_own hat' (vx_isRefq hU'.1) (vx_isRefq hN'.1) hU'.2.word hN'.2.word
  have hown' : s'.vm.findClass own = some m.cls := by rw [hvm]; exact hown
  have hins : (Cond.instantiable cls 6).before args s' = true := h _ (by simp [Bundle.ownAtoms])
  obtain ⟨vm₁, cX, kX, hfX, hkX, -, -, X₁, st1⟩ := Y.newCold hexec (own := own) (C := cls) (index := ik) (n := 6) hown' hk' hins hini'
    (g := F0 m pc ls rest) rfl (by rw [hb]; exact d0) (Nat.le_refl _) (Nat.le_refl _)
  generalize hT1 : (T.setVm vm₁).pushCell { cls := cX, slots := kX.instanceTypes.map defaultValue, vm := .none } = T1 at X₁ st1
  have hcat : (Value.ref T.heap.size).category = 1 := rfl
  have hcellA : T1.heap[T.heap.size]? = some (freshCell cX kX) := by rw [← hT1]; exact State.heap_pushCell_size _ _
  have d3' : decode c.code (pc + 3) = .ok (.dup, 1) := by rw [hb]; exact d3
  have d4' : decode c.code (pc + 4) = .ok (.ldc is, 2) := by rw [hb]; exact d4
  have hstr' : vk_R own is text sa s' := vk_R.warm hW0 hstr
  obtain ⟨U, hsteps, hrun, hend, hW, hsame, ce, hce, hO⟩ := X₁.ctorThrowS hexec htr (own := own) (cls := cls) (names := names) (ic := ic) hown' hcls hnames h (fun x hx => nomatch hx) hfX hkX hcellA (by rw [hhp, hT]; exact Nat.le_refl _) (msg := .ref sa) rfl
    (g := { method := m, pc := pc + 6, locals := ls, stack := .ref sa :: .ref T.heap.size :: .ref T.heap.size :: rest, locked := none }) rfl hsize rfl rfl (rest := rest) rfl
    (by rw [hb]; exact d6) (by rw [hb]; exact d9) hout hRframes (by simp only [List.map_cons, List.sum_cons, hcat]; omega) hlocks
  obtain ⟨f1, f2⟩ := vx_frame hsame
  rw [hhp] at f1 f2
  have hWs : s.WarmedH U.vm := State.WarmedH.trans hW0 hW
  have hcl : s.vm.findClass cls = some ce.cls := by
    have h9 := hO.cls
    rw [hvm] at h9
    exact h9
  have hall : s.sameButNew ({ U with vm := s.vm } : State) locs mc ms := by
    subst hA
    obtain ⟨e1, e2⟩ := hsame
    rw [State.setFrames_setFrames] at e1
    have h2 : (T.setVm s.vm).sameButNew ({ U with vm := s.vm } : State) [] (0 + 1) (0 + 6) := ⟨e1, e2⟩
    have h3 := X.same.trans h2
    rw [List.append_nil] at h3
    exact h3.mono hc hs
  refine ⟨U, ?_, .threw T.heap.size, hrun, hend, Or.inr ⟨T.heap.size, rfl, cls, ce, locs, hx U hWs.alike (by have h8 := hsame.2.2.1; have h9 := (Array.getElem?_eq_some_iff.mp hce).1; rw [hT] at h9; rw [hhp] at h8; have h8 : U.heap.size ≤ H.size + (0 + 1) := h8; omega) (fun q hq => f2 q hq (fun z hz => nomatch hz)), hce, hO.vm, hcl, hWs, hall, hf⟩⟩
  refine st1 _ ?_
  show Steps p.tables e below (T1.setTop { method := m, pc := pc + 3, locals := ls, stack := .ref T.heap.size :: rest, locked := none }) _
  jvm_step X₁.here [X₁.here.top, hexec, d3', Value.category]
  exact X₁.ldcString hexec (own := own) (text := text) (index := is) (a := sa) hown' hstr'.1 hstr'.2
    (g := { method := m, pc := pc + 4, locals := ls, stack := .ref T.heap.size :: .ref T.heap.size :: rest, locked := none }) rfl d4' _ hsteps
/-- 'throw new E("text")', the text by a wide index -/
theorem vx_throwSW {cc : ByteArray} {pc : Nat} (hexec : p.tables.exec = Jvm.exec) (hb : c.code = cc) (hl : l.stackTraces = false) {own cls text : String} {names : List String} {ik is ic mc ms sa : Nat} {A : Nat → Prop}
    (hown : s.vm.findClass own = some m.cls) (hcls : Bundle.fit cls = true) (hnames : ∀ n ∈ names, Bundle.fit n = true)
    (hk : (Cond.classLink own ik cls).before args s = true) (hini : (Cond.initialized cls).before args s = true) (hstr : vk_R own is text sa s) (hat : ∀ w ∈ vx_atS own ic cls names, w.before args s = true)
    (hgood : ∀ w ∈ Cond.classLink own ik cls :: Cond.initialized cls :: vx_atS own ic cls names, vx_ot w = true)
    (hU : vx_Zq Bundle.tN "UNASSIGNED_STACK" Bundle.steD A s s.heap) (hN : vx_Zq Bundle.tN "SUPPRESSED_SENTINEL" Bundle.listD A s s.heap) (hS : va_S A s.heap H locs) (hsize : ls.size = c.maxLocals)
    (d0 : decode cc pc = .ok (.new ik, 3)) (d3 : decode cc (pc + 3) = .ok (.dup, 1)) (d4 : decode cc (pc + 4) = .ok (.ldc_w is, 3)) (d7 : decode cc (pc + 7) = .ok (.invokespecial ic, 3)) (d10 : decode cc (pc + 10) = .ok (.athrow, 1))
    (hout : ∀ x ∈ c.exceptionTable.toList, covers x (pc + 10) = false)
    (hRframes : names.length + 3 < R.frames) (hRlocals : (rest.map fun v => v.category).sum + (13 * (names.length + 1) + 43) ≤ R.locals) (hRcells : cells + 1 ≤ R.cells) (hRslots : slots + 6 ≤ R.slots) (hlocks : meth.locks = false)
    (hx : ∀ t : State, s.vm.Alike t.vm → H.size ≤ t.heap.size → (∀ q : Nat, q < H.size → t.heap[q]? = H[q]?) → XC cls s t)
    (hf : ∀ z ∈ locs, free z.base) (hc : cells + 1 ≤ mc) (hs : slots + 6 ≤ ms) :
    W p l e R s m args below meth c H locs cells slots (vx_MQ below Qc XC args s mc ms free) (F0 m pc ls rest) := by
  intro T hT X
  have htr : e.platform.stackTraces = false := (show e.platform.stackTraces = l.stackTraces by rw [X.admits.platform]).trans hl
  have Y := vx_rebase X (R' := { frames := R.frames, locals := R.locals, cells := 1, slots := 6 }) (Nat.le_refl _) (Nat.le_refl _) hRcells hRslots
  obtain ⟨s', hA⟩ : ∃ z, z = (T.setVm s.vm).setFrames (.invoking m args :: below) := ⟨_, rfl⟩
  rw [← hA] at Y
  have hvm : s'.vm = s.vm := by rw [hA]; rfl
  have hhp : s'.heap = H := by rw [hA]; exact hT
  have hW0 : s.WarmedH s'.vm := by rw [hvm]; exact State.WarmedH.refl s
  have hat' : ∀ w ∈ vx_atS own ic cls names, w.before args s' = true := fun w hw => vx_ot_at hW0 hvm.symm (hgood w (List.mem_cons_of_mem _ (List.mem_cons_of_mem _ hw))) (hat w hw)
  have hk' : (Cond.classLink own ik cls).before args s' = true := vx_ot_at hW0 hvm.symm (hgood _ List.mem_cons_self) hk
  have hini' : (Cond.initialized cls).before args s' = true := vx_ot_at hW0 hvm.symm (hgood _ (List.mem_cons_of_mem _ List.mem_cons_self)) hini
  have hU' : vx_Zq Bundle.tN "UNASSIGNED_STACK" Bundle.steD A s' s'.heap := by rw [hhp]; exact vx_Zq.moved hW0.alike (hU.kept hS.2.1)
  have hN' : vx_Zq Bundle.tN "SUPPRESSED_SENTINEL" Bundle.listD A s' s'.heap := by rw [hhp]; exact vx_Zq.moved hW0.alike (hN.kept hS.2.1)
  have h : ∀ w ∈ Bundle.ownAtoms own ic cls names, w.before args s' = true := vx_own hat' (vx_isRefq hU'.1) (vx_isRefq hN'.1) hU'.2.word hN'.2.word
  have hown' : s'.vm.findClass own = some m.cls := by rw [hvm]; exact hown
  have hins : (Cond.instantiable cls 6).before args s' = true := h _ (by simp [Bundle.ownAtoms])
  obtain ⟨vm₁, cX, kX, hfX, hkX, -, -, X₁, st1⟩ := Y.newCold hexec (own := own) (C := cls) (index := ik) (n := 6) hown' hk' hins hini'
    (g := F0 m pc ls rest) rfl (by rw [hb]; exact d0) (Nat.le_refl _) (Nat.le_refl _)
  generalize hT1 : (T.setVm vm₁).pushCell { cls := cX, slots := kX.instanceTypes.map defaultValue, vm := .none } = T1 at X₁ st1
  have hcat : (Value.ref T.heap.size).category = 1 := rfl
  have hcellA : T1.heap[T.heap.size]? = some (freshCell cX kX) := by rw [← hT1]; exact State.heap_pushCell_size _ _
  have d3' : decode c.code (pc + 3) = .ok (.dup, 1) := by rw [hb]; exact d3
  have d4' : decode c.code (pc + 4) = .ok (.ldc_w is, 3) := by rw [hb]; exact d4
  have hstr' : vk_R own is text sa s' := vk_R.warm hW0 hstr
  obtain ⟨U, hsteps, hrun, hend, hW, hsame, ce, hce, hO⟩ := X₁.ctorThrowS hexec htr (own := own) (cls := cls) (names := names) (ic := ic) hown' hcls hnames h (fun x hx => nomatch hx) hfX hkX hcellA (by rw [hhp, hT]; exact Nat.le_refl _) (msg := .ref sa) rfl
    (g := { method := m, pc := pc + 7, locals := ls, stack := .ref sa :: .ref T.heap.size :: .ref T.heap.size :: rest, locked := none }) rfl hsize rfl rfl (rest := rest) rfl
    (by rw [hb]; exact d7) (by rw [hb]; exact d10) hout hRframes (by simp only [List.map_cons, List.sum_cons, hcat]; omega) hlocks
  obtain ⟨f1, f2⟩ := vx_frame hsame
  rw [hhp] at f1 f2
  have hWs : s.WarmedH U.vm := State.WarmedH.trans hW0 hW
  have hcl : s.vm.findClass cls = some ce.cls := by
    have h9 := hO.cls
    rw [hvm] at h9
    exact h9
  have hall : s.sameButNew ({ U with vm := s.vm } : State) locs mc ms := by
    subst hA
    obtain ⟨e1, e2⟩ := hsame
    rw [State.setFrames_setFrames] at e1
    have h2 : (T.setVm s.vm).sameButNew ({ U with vm := s.vm } : State) [] (0 + 1) (0 + 6) := ⟨e1, e2⟩
    have h3 := X.same.trans h2
    rw [List.append_nil] at h3
    exact h3.mono hc hs
  refine ⟨U, ?_, .threw T.heap.size, hrun, hend, Or.inr ⟨T.heap.size, rfl, cls, ce, locs, hx U hWs.alike f1 (fun q hq => f2 q hq (fun z hz => nomatch hz)), hce, hO.vm, hcl, hWs, hall, hf⟩⟩
  refine st1 _ ?_
  show Steps p.tables e below (T1.setTop { method := m, pc := pc + 3, locals := ls, stack := .ref T.heap.size :: rest, locked := none }) _
  jvm_step X₁.here [X₁.here.top, hexec, d3', Value.category]
  exact X₁.ldcStringW hexec (own := own) (text := text) (index := is) (a := sa) hown' hstr'.1 hstr'.2
    (g := { method := m, pc := pc + 4, locals := ls, stack := .ref T.heap.size :: .ref T.heap.size :: rest, locked := none }) rfl d4' _ hsteps
end Ends
section Bodies
variable {l : Launch}
theorem vx_ofW {y : MethodName} {ws ws' : List Cond} {rm : Room} {Pc : Array Value → State → Prop} {Qc : Array Value → State → Outcome → State → Prop} {XC : String → State → State → Prop} {mc ms : Nat} {free : Addr → Prop} {cc : ByteArray} {maxL : Nat} {ret : Option FieldType}
    (hy : plainName y.cls = true) (hw : ws = Cond.code y cc maxL ret :: ws')
    (body : ∀ p e s m args below meth c s₁, BodyLoose p l y (headSpec ws rm) cc maxL ret e s m args below meth c s₁ → c.maxLocals = maxL → (∀ x ∈ c.exceptionTable.toList, False) → Pc args s →
      W p l e (headSpec ws rm).room s m args below meth c s.heap [] 0 0 (vx_MQ below Qc XC args s mc ms free) (entryFrame m args maxL)) : vx_Met l y ws rm Pc Qc XC mc ms free := by
  refine MetFree.of_bodyS (code := cc) (maxLocals := maxL) (ret := ret) hy ?_ ?_
  · intro args s m h hn
    obtain ⟨meth, c, h1, h2, h3, h4, h5, h6, -, -⟩ := Cond.code_spec hn (atoms_spec (ws := ws) h _ (by rw [hw]; exact List.mem_cons_self))
    exact ⟨meth, c, h1, h2, h3, h4, h5, h6⟩
  · intro p e s m args below meth c s₁ B hml hP _
    have hh0 : s₁.heap = s.heap := by rw [B.state]; rfl
    have ht : ∀ x ∈ c.exceptionTable.toList, False := by
      obtain ⟨meth9, c9, h1, h2, -, -, -, -, h7, -⟩ := Cond.code_spec B.named (atoms_spec (ws := ws) B.pre _ (by rw [hw]; exact List.mem_cons_self))
      cases Option.some.inj (h1.symm.trans B.method)
      cases Option.some.inj (h2.symm.trans (Stand.of_body B).code)
      intro x hx
      rw [Array.isEmpty_iff.mp h7] at hx
      cases hx
    obtain ⟨t, a1, o, b1, b2, b3⟩ := body p e s m args below meth c s₁ B hml ht hP s₁ hh0 (Stand.of_body B)
    exact ⟨t, o, a1, b1, b2, b3⟩
/-- the table of a body with handlers -/
theorem vx_table {p : Program} {x y : MethodName} {S : Spec} {cc bytes : ByteArray} {maxL maxL' : Nat} {ret ret' : Option FieldType} {e : Env} {s s₁ : State} {m : MethodId} {args : Array Value} {below : List Frame} {meth : Method} {c : Code} {hh : List (Nat × Nat × Nat × Nat)}
    (B : BodyLoose p l y S cc maxL ret e s m args below meth c s₁) (h : (Cond.codeWith y bytes maxL' ret' hh).before args s = true) : c.exceptionTable.toList = tableOf hh := by
  obtain ⟨m9, meth9, c9, hn9, h1, h2, -, -, h6, -⟩ := Cond.codeWith_spec h
  cases Option.some.inj (hn9.symm.trans B.named)
  cases Option.some.inj (h1.symm.trans B.method)
  cases Option.some.inj (h2.symm.trans (Stand.of_body B).code)
  rw [← h6, table_eq]
end Bodies
end VXA
/-! ===== END ===== -/
/-! ===== BEGIN a static call of a method with an exception table ===== -/
section VXS
variable {p : Program} {l : Launch} {e : Env} {R : Room} {s : State} {m : MethodId} {args : Array Value} {below : List Frame} {meth : Method} {c : Code} {T : State} {H : Heap} {locs : List Loc} {cells slots : Nat}
abbrev vx_CSW (R : Room) (s : State) (args : Array Value) (own : String) (index : Nat) (y : MethodName) (bytes : ByteArray) (maxL : Nat) (ret : Option FieldType) (hh : List (Nat × Nat × Nat × Nat)) (ws : List Cond) (rm : Room) (mc ms n : Nat) : Prop :=
  (rm.cells = mc ∧ rm.slots = ms ∧ rm.frames + 1 ≤ R.frames ∧ 8 + (maxL + 11) + rm.locals ≤ R.locals ∧ (∀ w ∈ ws, ∀ (a' : Array Value) (U : State), s.WarmedH U.vm → w.before a' U = true) ∧ Cond.codeWith y bytes maxL ret hh ∈ ws) ∧
  (Cond.codeWith y bytes maxL ret hh).before args s = true ∧ (Cond.initialized y.cls).before args s = true ∧ (y.cls ≠ "java/lang/invoke/MethodHandle" ∧ y.cls ≠ "java/lang/invoke/VarHandle") ∧
  (∀ sig, parseMethodDescriptor y.desc = some sig → n = sig.parameters.length) ∧ (Cond.methodLink own index y).before args s = true ∧ (Cond.static y).before args s = true
theorem vx_cwSW {own : String} {index maxL mc ms : Nat} {y : MethodName} {bytes : ByteArray} {ret : Option FieldType} {hh : List (Nat × Nat × Nat × Nat)} {Ts ws ws' : List Cond} {rm : Room} (n : Nat) (ht : ∀ w ∈ Ts, w.before args s = true) (hT : GoodIn Ts (va_wsS own index y ws)) (hw : ws = Cond.codeWith y bytes maxL ret hh :: ws') (hrc : rm.cells = mc) (hrs : rm.slots = ms)
    (hd : y.cls ≠ "java/lang/invoke/MethodHandle" ∧ y.cls ≠ "java/lang/invoke/VarHandle" ∧ (parseMethodDescriptor y.desc).map (fun d => d.parameters.length) = some n) (hR : rm.frames + 1 ≤ R.frames ∧ 8 + (maxL + 11) + rm.locals ≤ R.locals) :
    vx_CSW R s args own index y bytes maxL ret hh ws rm mc ms n := by
  have ok : ∀ w ∈ va_wsS own index y ws, w.before args s = true := fun w h => ht w (hT w h).1
  have hG : GoodIn Ts ws := fun w h => hT w (by unfold va_wsS; exact List.mem_append_right _ h)
  have hc : Cond.codeWith y bytes maxL ret hh ∈ ws := by rw [hw]; exact List.mem_cons_self
  refine ⟨⟨hrc, hrs, hR.1, hR.2, pay_in ht hG, hc⟩, ht _ (hG _ hc).1, ok _ (by simp [va_wsS]), ⟨hd.1, hd.2.1⟩, fun sig h => ?_, ok _ (by simp [va_wsS]), ok _ (by simp [va_wsS])⟩
  have h2 := hd.2.2
  rw [h] at h2
  exact (Option.some.inj h2).symm
theorem vx_callSW (X : Stand p l e R s m args below meth c T locs cells slots) (hexec : p.tables.exec = Jvm.exec) {own : String} {index : Nat} {y : MethodName} {bytes : ByteArray} {maxL : Nat} {ret : Option FieldType} {hh : List (Nat × Nat × Nat × Nat)}
    (hown : s.vm.findClass own = some m.cls) (hlink : (Cond.methodLink own index y).before args s = true) (hstat : (Cond.static y).before args s = true) (hinit : (Cond.initialized y.cls).before args s = true)
    (hcode : (Cond.codeWith y bytes maxL ret hh).before args s = true) (hy : y.cls ≠ "java/lang/invoke/MethodHandle" ∧ y.cls ≠ "java/lang/invoke/VarHandle")
    {W9 : Nat} {Pre : Pt → Array Value → Prop} {Post : Pt → Array Value → Option Value → Pt → Prop} (hK : Back l R p e below s args y 3 W9 Pre Post)
    {g : JFrame} (hg : g.method = m) (hsize : g.locals.size = c.maxLocals) {argsL rest : List Value} (hlen : ∀ sig, parseMethodDescriptor y.desc = some sig → argsL.length = sig.parameters.length)
    (hstack : g.stack = argsL.reverse ++ rest) (hW : 2 * g.monitorRoom + (rest.map fun v => v.category).sum ≤ W9) (hdg : decode c.code g.pc = .ok (.invokestatic index, 3))
    (hpre : ∀ vm₁, s.WarmedH vm₁ → Pre ⟨T.setVm vm₁, locs, cells, slots⟩ argsL.toArray) :
    ∃ (v : Option Value) (vm₁ : Vm) (B : Pt), s.WarmedH vm₁ ∧ Stand p l e R s m args below meth c B.U B.locs B.cells B.slots ∧ Post ⟨T.setVm vm₁, locs, cells, slots⟩ argsL.toArray v B ∧
      ∀ target, Steps p.tables e below (B.U.setTop { g with pc := g.pc + 3, stack := v.toList ++ rest }) target → Steps p.tables e below (T.setTop g) target := by
  obtain ⟨mk, methM, cM, hnamed, hmethM, -, -, -, -, -, -, hsigM⟩ := Cond.codeWith_spec hcode
  have hstatic : methM.isStatic = true := Cond.static_spec hnamed hmethM hstat
  obtain ⟨kP, hkP, -⟩ := className_of_methodNamed hnamed
  have hinitP : kP.init = .initialized := Cond.initialized_spec (findClass_of_methodNamed hnamed) hkP hinit
  obtain ⟨vm₁, X₁, hstep₁⟩ := X.invokestatic hexec hown hlink hnamed hmethM hstatic hkP hinitP hy (g := g) hg (argsL := argsL) (rest := rest) (hlen _ hsigM) hstack hdg
  obtain ⟨v, B, X', hpost, hsteps⟩ := hK m meth c ⟨T.setVm vm₁, locs, cells, slots⟩ { g with stack := rest } (.invokestatic index) mk argsL.toArray X₁ hg hsize hdg hW (X₁.named hnamed) (hpre vm₁ X₁.warmed)
  exact ⟨v, vm₁, B, X₁.warmed, X', hpost, fun target h => hstep₁ _ fun acts => by rw [doInvoke_state]; exact hsteps.trans h⟩
theorem vx_runSW {y : MethodName} {bytes cc : ByteArray} {maxL nL mc ms n index : Nat} {ret : Option FieldType} {hh : List (Nat × Nat × Nat × Nat)} {ws : List Cond} {rm : Room} {Pc : Array Value → State → Prop} {Qc : Array Value → State → Outcome → State → Prop} {free : Addr → Prop} {Ts : List Cond} {own : String} {As rest : List Value} {g : JFrame}
    (S : CallFix p m c cc nL s args Ts own) (hM : Met l y ws rm Pc Qc mc ms free) (cw : vx_CSW R s args own index y bytes maxL ret hh ws rm mc ms n) (hp : PreS s H Pc As)
    (hg : g.method = m) (hn : As.length = n) (hsize : g.locals.size = nL) (hstack : g.stack = As.reverse ++ rest) (hW : 2 * g.monitorRoom + (rest.map fun v => v.category).sum ≤ 8) (hdg : decode cc g.pc = .ok (.invokestatic index, 3)) (hf : cells + mc ≤ R.cells ∧ slots + ms ≤ R.slots) :
    va_Run p l e R s m args below meth c H locs cells slots mc ms g rest (Qc As.toArray) (free) := by
  obtain ⟨⟨hrc, hrs, hfr, hlo, hws, hcw⟩, hcode, hini, hy, hlen, hl, hstt⟩ := cw
  have hK : Back l R p e below s args y 3 8 (PreOf R mc ms Pc) (PostOf Qc mc ms free) := va_backW (hh := hh) (bytes := bytes) (maxL := maxL) (ret := ret) hM hp.1 hrc hrs hfr hlo hws hcw (fun a' U hW => word_at hW (Or.inl (by first | rfl | simp [Cond.onTables, Cond.keeps, Cond.steady])) hini)
  obtain ⟨hx, hb, hml, ho, -⟩ := S
  intro T hT X
  obtain ⟨v, vm₁, ⟨U', l2, c2, s2⟩, hW₁, X', ⟨g', mk, t, L, e1, e2, hq, h1, hL, h2, h3⟩, st⟩ := vx_callSW X hx (hh := hh) (bytes := bytes) (maxL := maxL) (ret := ret) ho hl hstt hini hcode hy hK hg (hsize.trans hml.symm) (argsL := As) (rest := rest) (fun sig h => hn.trans (hlen sig h)) hstack hW (by rw [hb]; exact hdg)
    (fun vm₁ hW₁ => ⟨hf.1, hf.2, hp.2 (T.setVm vm₁) hT hW₁⟩)
  dsimp only [Pt.U, Pt.locs, Pt.cells, Pt.slots] at X' e1 e2 h1 h2 h3 st
  subst h1; subst h2; subst h3
  exact ⟨v, (T.setVm vm₁).calling g' mk As.toArray, t, U', L, hT, X', hL, e1, e2, hq, st⟩
/-- not caught here, past rows that name other classes: it goes on to the caller -/
theorem vx_outP {p : Program} {l : Launch} {e : Env} {R : Room} {s : State} {m : MethodId} {args : Array Value} {below : List Frame} {meth : Method} {c : Code} {H : Heap} {locs : List Loc} {cells slots : Nat} {free : Addr → Prop} {ls : Array Slot} {rest : List Value} {Qc : Array Value → State → Outcome → State → Prop} {XC : String → State → State → Prop}
    {pc : Nat} {own E : String} {ce : Cell} {q : Addr} {mc ms : Nat} (hown : s.vm.findClass own = some m.cls) (hlocks : meth.locks = false)
    (hpass : ∀ z ∈ c.exceptionTable.toList, covers z pc = false ∨ (z.catchType ≠ 0 ∧ ∃ nm : String, (Cond.classLink own z.catchType nm).before args s = true ∧ va_Nc E nm s)) (hcell : H[q]? = some ce) (hv : ce.vm = .none) (hcl : s.vm.findClass E = some ce.cls)
    (hx : ∀ t : State, t.heap = H → s.vm.Alike t.vm → XC E s t) (hf : ∀ z ∈ locs, free z.base) (hc : cells ≤ mc) (hs : slots ≤ ms) :
    vx_W p l e R s m args below meth c H locs cells slots (vx_MQ below Qc XC args s mc ms free) (F0 m pc ls rest) q := by
  intro T hT X
  have hpl : e.platform.magicAccessors = ({} : Platform).magicAccessors := by rw [X.admits.platform]
  obtain ⟨vm', hW', X', st⟩ := Stand.outThrough X hlocks q (g := F0 m pc ls rest) rfl rfl rfl (cell := ce) (by rw [hT]; exact hcell) (by rw [hv]; rfl)
    (by obtain ⟨k9, h9, -⟩ := Vm.findClass_spec hcl; exact ⟨k9, h9⟩) (fun z hz => by
      rcases hpass z hz with h | ⟨hz0, nm, hl1, hn1⟩
      · exact Or.inl h
      · obtain ⟨c6, hc6, hcl6⟩ := Cond.classLink_spec hown hl1 e.platform hpl
        obtain ⟨a8, b8, h1, h2, h3⟩ := hn1
        cases Option.some.inj (h1.symm.trans hcl)
        cases Option.some.inj (h2.symm.trans hc6)
        exact Or.inr ⟨hz0, _, hcl6, h3⟩)
  obtain ⟨g₀, hfr⟩ := X'.frames_eq
  have hcell9 : ((T.setVm vm').setFrames (.throwing q :: below)).heap[q]? = some ce := by
    show T.heap[q]? = some ce
    rw [hT]; exact hcell
  have hend : Ended ((T.setVm vm').setFrames (.throwing q :: below)) below (.threw q) := State.frames_setFrames _ (State.cur_lt_of_frames hfr)
  refine ⟨(T.setVm vm').setFrames (.throwing q :: below), ?_, .threw q, X'.here.running, hend, Or.inr ⟨q, rfl, E, ce, locs, hx _ hT (X'.ends _).1.alike, hcell9, hv, hcl, (X'.ends _).1, (X'.ends _).2.mono hc hs, hf⟩⟩
  rw [X.pushThrowing_eq]
  exact st
/-- a thing of a world lies in the heap -/
theorem vx_lt {D : va_G} {cl : List vw_C} {ws : va_W} {H1 : Heap} (h : va_P D cl ws H1) {k : Nat} {q : Nat × va_E} (hk : ws[k]? = some q) : q.1 < H1.size := (h k q hk).lt
end VXS
/-! ===== END ===== -/
/-! ===== BEGIN methods with a table of their own: called by a name, returning or throwing ===== -/
section VXH
/-! vx_backW, vx_callVX, vx_callSX, vx_callVW, vx_runVW, vx_runVX, vx_runSX, vx_ofWH follow the same proofs as their sisters above (Free/Laws.lean, Shelf42/LK1.lean); vx_outP calls Shelf42/NT130.lean (outThrough). -/
section
variable {l : Launch} {R : Room} {p : Program} {e : Env} {below : List Frame} {s : State} {sargs : Array Value} {y : MethodName} {len W9 : Nat}
theorem vx_backW {ws : List Cond} {rm : Room} {Pc : Array Value → State → Prop} {Qc : Array Value → State → Outcome → State → Prop} {XC : String → State → State → Prop} {mc ms : Nat} {free : Addr → Prop} {bytes : ByteArray} {maxL : Nat} {ret : Option FieldType} {hh : List (Nat × Nat × Nat × Nat)}
    (hM : vx_Met l y ws rm Pc Qc XC mc ms free) (hblind : FrameBlind Pc) (hrc : rm.cells = mc) (hrs : rm.slots = ms)
    (hframes : rm.frames + 1 ≤ R.frames) (hlocals : W9 + (maxL + 11) + rm.locals ≤ R.locals)
    (hws : ∀ w ∈ ws, ∀ a' U, s.WarmedH U.vm → w.before a' U = true) (hcode : Cond.codeWith y bytes maxL ret hh ∈ ws) (hinit : ∀ a' U, s.WarmedH U.vm → (Cond.initialized y.cls).before a' U = true) :
    vx_Back l R p e below s sargs y len W9 (PreOf R mc ms Pc) (PostOf Qc mc ms free) (vx_Post XC mc ms free) := by
  intro m meth c A g ig mk a X hg hsize hdg hW hn hp
  have h1 : (headSpec ws rm).pre.before a A.U = true := atoms_intro fun w hw => hws w hw _ _ X.warmed
  have h2 : (Cond.codeWith y bytes maxL ret hh).before a A.U = true := hws _ hcode _ _ X.warmed
  have h3 : (Cond.initialized y.cls).before a A.U = true := hinit _ _ X.warmed
  have h4 : A.cells + (headSpec ws rm).room.cells ≤ R.cells := by rw [show (headSpec ws rm).room.cells = mc from hrc]; exact hp.1
  have h5 : A.slots + (headSpec ws rm).room.slots ≤ R.slots := by rw [show (headSpec ws rm).room.slots = ms from hrs]; exact hp.2.1
  have hPc : Pc a (A.U.calling g mk a) := hblind _ _ _ _ hp.2.2
  obtain ⟨U, Ls, c0, s0⟩ := A
  dsimp only [Pt.U, Pt.locs, Pt.cells, Pt.slots] at h1 h2 h3 h4 h5 X hn hPc ⊢
  obtain ⟨m9, methY, cY, hn9, hmY, hcY, -, hlY, -⟩ := Cond.codeWith_spec h2
  cases Option.some.inj (hn9.symm.trans hn)
  obtain ⟨kY, hkY, -⟩ := className_of_methodNamed hn
  have hinitY : kY.init = .initialized := Cond.initialized_spec (findClass_of_methodNamed hn) hkY h3
  have h : At U g.method c below := by rw [hg]; exact X.here
  have hlocals9 : W9 + (maxL + 11) + (headSpec ws rm).room.locals ≤ R.locals := hlocals
  have happ : (headSpec ws rm).appliesLoose y e.platform (U.calling g mk a) = true :=
    Spec.appliesLoose_calling (g := g) h hdg hn hkY hinitY
      (X.room_calling (g := g) (R' := (headSpec ws rm).room) hsize hmY hcY hframes (by rw [hlY]; omega) h4 h5) h1
  obtain ⟨mid, hmid⟩ := h.above
  have hfr : (U.setTop g).frames = (.java g :: mid) ++ below := by rw [State.frames_setTop' g h.top, hmid]; rfl
  obtain ⟨o, s₂, hsteps, -, hend, hq⟩ := Steps.callFree hM p X.admits X.cas X.clock (acts := []) hfr happ hPc trivial
  have hq' : vx_Q Qc XC mc ms free a (U.calling g mk a) o s₂ := hq
  rw [State.frames_setTop' g h.top] at hend
  obtain ⟨g₀, hg0⟩ := Option.isSome_iff_exists.mp h.top
  obtain ⟨r, hr⟩ := State.topJava?_eq_some.mp hg0
  have hr' : (({ U with heap := s₂.heap, slotsUsed := s₂.slotsUsed } : State).setVm s₂.vm).frames = .java g₀ :: r := hr
  rcases hq' with ⟨hqc, L, hfe, hL⟩ | ⟨q, rfl, E, ce, L, hx, hce, hcv, hcl, hW₂, hsm, hL⟩
  · obtain ⟨⟨v, rfl⟩, hW₂, e2, q2, q3, q4, q5, q6⟩ := id hfe
    have e3 : s₂ = ({ (U.calling g mk a).setFrames s₂.frames with heap := s₂.heap, slotsUsed := s₂.slotsUsed } : State).setVm s₂.vm := by
      have : s₂ = ({ s₂ with vm := (U.calling g mk a).vm } : State).setVm s₂.vm := rfl
      rw [e2] at this
      exact this
    obtain ⟨c₂, i₂, len₂, hc₂, hd₂, hf₂⟩ := hend
    have hW' : U.WarmedH s₂.vm := hW₂
    have hcc : c₂ = c := by
      have h1 : s₂.code? g.method = U.code? g.method := by
        rw [State.code?_eq, State.code?_eq, hW'.alike.method?]
      exact Option.some.inj (hc₂.symm.trans (h1.trans h.code))
    subst hcc
    have hlen : len₂ = len := by rw [hdg] at hd₂; cases hd₂; rfl
    subst hlen
    have hs₂ : s₂ = (({ U with heap := s₂.heap, slotsUsed := s₂.slotsUsed } : State).setVm s₂.vm).setTop { g with pc := g.pc + len₂, stack := v.toList ++ g.stack } := by
      refine e3.trans ?_
      rw [hf₂, State.calling_eq h.top, State.setFrames_setFrames, State.setTop_of_frames _ hr', hr]
      rfl
    have hsame : U.sameButNew ({ U with heap := s₂.heap, slotsUsed := s₂.slotsUsed } : State) L mc ms := by
      refine ⟨?_, q2, q3, q4, q5, q6⟩
      obtain ⟨t, ht, -⟩ := State.frames_cons hr
      show ({ U with heap := s₂.heap, slotsUsed := s₂.slotsUsed } : State) = { U.setFrames U.frames with heap := s₂.heap, slotsUsed := s₂.slotsUsed }
      rw [State.setFrames_self ht]
    subst hg
    refine Or.inl ⟨v, ⟨(({ U with heap := s₂.heap, slotsUsed := s₂.slotsUsed } : State).setVm s₂.vm), Ls ++ L, c0 + mc, s0 + ms⟩,
      ⟨X.admits, X.cas, X.clock, X.frames, X.room, X.hears, X.method, X.code, (X.here.setHeapUsed s₂.heap s₂.slotsUsed).setVm hW'.alike, X.tail, State.WarmedH.trans X.warmed hW', X.limits, X.bytes, X.same.trans (hsame.setVm s.vm)⟩,
      ⟨g, mk, s₂, L, rfl, rfl, hqc, rfl, hL, rfl, rfl⟩, ?_⟩
    show Steps p.tables e below _ ((({ U with heap := s₂.heap, slotsUsed := s₂.slotsUsed } : State).setVm s₂.vm).setTop { g with pc := g.pc + len₂, stack := v.toList ++ g.stack })
    rw [← hs₂]
    exact hsteps
  · obtain ⟨e2, q2, q3, q4, q5, q6⟩ := id hsm
    have e3 : s₂ = ({ (U.calling g mk a).setFrames s₂.frames with heap := s₂.heap, slotsUsed := s₂.slotsUsed } : State).setVm s₂.vm := by
      have : s₂ = ({ s₂ with vm := (U.calling g mk a).vm } : State).setVm s₂.vm := rfl
      rw [e2] at this
      exact this
    have hf₂ : s₂.frames = .throwing q :: .java g :: U.frames.tail := hend
    have hW' : U.WarmedH s₂.vm := hW₂
    have hs₂ : s₂ = ((({ U with heap := s₂.heap, slotsUsed := s₂.slotsUsed } : State).setVm s₂.vm).setTop g).pushFrame (.throwing q) := by
      refine e3.trans ?_
      rw [hf₂, State.calling_eq h.top, State.setFrames_setFrames, State.pushFrame, State.frames_setTop _ hr', State.setTop_of_frames _ hr', State.setFrames_setFrames, hr]
      rfl
    have hsame : U.sameButNew ({ U with heap := s₂.heap, slotsUsed := s₂.slotsUsed } : State) L mc ms := by
      refine ⟨?_, q2, q3, q4, q5, q6⟩
      obtain ⟨t, ht, -⟩ := State.frames_cons hr
      show ({ U with heap := s₂.heap, slotsUsed := s₂.slotsUsed } : State) = { U.setFrames U.frames with heap := s₂.heap, slotsUsed := s₂.slotsUsed }
      rw [State.setFrames_self ht]
    subst hg
    refine Or.inr ⟨q, ⟨(({ U with heap := s₂.heap, slotsUsed := s₂.slotsUsed } : State).setVm s₂.vm), Ls ++ L, c0 + mc, s0 + ms⟩,
      ⟨X.admits, X.cas, X.clock, X.frames, X.room, X.hears, X.method, X.code, (X.here.setHeapUsed s₂.heap s₂.slotsUsed).setVm hW'.alike, X.tail, State.WarmedH.trans X.warmed hW', X.limits, X.bytes, X.same.trans (hsame.setVm s.vm)⟩,
      ⟨g, mk, s₂, L, E, ce, rfl, rfl, hx, hce, hcv, hcl, rfl, hL, rfl, rfl⟩, ?_⟩
    show Steps p.tables e below _ (((({ U with heap := s₂.heap, slotsUsed := s₂.slotsUsed } : State).setVm s₂.vm).setTop g).pushFrame (.throwing q))
    rw [← hs₂]
    exact hsteps
end
variable {p : Program} {l : Launch} {e : Env} {R : Room} {s : State} {m : MethodId} {args : Array Value} {below : List Frame} {meth : Method} {c : Code} {T : State} {H : Heap} {locs : List Loc} {cells slots : Nat}
theorem vx_callVX (X : Stand p l e R s m args below meth c T locs cells slots) (hexec : p.tables.exec = Jvm.exec) {own C : String} {index : Nat} {y : MethodName} {bytes : ByteArray} {maxL : Nat} {ret : Option FieldType} {hh : List (Nat × Nat × Nat × Nat)}
    (hown : s.vm.findClass own = some m.cls) (hlink : (Cond.methodLink own index y).before args s = true) (hinst : (Cond.instanceMethod y).before args s = true) (hsel : (Cond.selects C y y).before args s = true)
    (hcode : (Cond.codeWith y bytes maxL ret hh).before args s = true) (hy : y.cls ≠ "java/lang/invoke/MethodHandle" ∧ y.cls ≠ "java/lang/invoke/VarHandle")
    {W9 : Nat} {Pre : Pt → Array Value → Prop} {Post : Pt → Array Value → Option Value → Pt → Prop} {PostX : Pt → Array Value → Addr → Pt → Prop} (hK : vx_Back l R p e below s args y 3 W9 Pre Post PostX)
    {b : Addr} {cellB : Cell} (hcell : T.heap[b]? = some cellB) (hobj : cellB.vm.isStatics = false) (hcls : s.vm.findClass C = some cellB.cls)
    {g : JFrame} (hg : g.method = m) (hsize : g.locals.size = c.maxLocals) {argsL rest : List Value} (hlen : ∀ sig, parseMethodDescriptor y.desc = some sig → argsL.length = sig.parameters.length)
    (hstack : g.stack = argsL.reverse ++ .ref b :: rest) (hW : 2 * g.monitorRoom + (rest.map fun v => v.category).sum ≤ W9) (hdg : decode c.code g.pc = .ok (.invokevirtual index, 3))
    (hpre : ∀ vm₁, s.WarmedH vm₁ → Pre ⟨T.setVm vm₁, locs, cells, slots⟩ (Value.ref b :: argsL).toArray) :
    (∃ (v : Option Value) (vm₁ : Vm) (B : Pt), s.WarmedH vm₁ ∧ Stand p l e R s m args below meth c B.U B.locs B.cells B.slots ∧ Post ⟨T.setVm vm₁, locs, cells, slots⟩ (Value.ref b :: argsL).toArray v B ∧
      ∀ target, Steps p.tables e below (B.U.setTop { g with pc := g.pc + 3, stack := v.toList ++ rest }) target → Steps p.tables e below (T.setTop g) target) ∨
    (∃ (q : Addr) (vm₁ : Vm) (B : Pt), s.WarmedH vm₁ ∧ Stand p l e R s m args below meth c B.U B.locs B.cells B.slots ∧ PostX ⟨T.setVm vm₁, locs, cells, slots⟩ (Value.ref b :: argsL).toArray q B ∧
      Steps p.tables e below (T.setTop g) ((B.U.setTop { g with stack := rest }).pushFrame (.throwing q))) := by
  obtain ⟨mk, methM, hnamed, hmethM, hstM, habM⟩ := Cond.instanceMethod_spec hinst
  obtain ⟨m8, methM', cM, hn8, hmethM', -, -, -, -, -, -, hsigM⟩ := Cond.codeWith_spec hcode
  cases Option.some.inj (hn8.symm.trans hnamed)
  cases hmethM.symm.trans hmethM'
  obtain ⟨c2, r2, m2, q1, q2, q3, q4, kP, hkP, hkPi⟩ := Cond.selects_spec hsel
  cases hcls.symm.trans q1
  cases (State.methodFound?_of_named hnamed hy).symm.trans q2
  cases hnamed.symm.trans q3
  have hselP : selectMethod e.platform s.vm cellB.cls mk = .method mk := by rw [Launch.admits_selectMethod X.admits]; exact q4
  obtain ⟨vm₁, X₁, hstep₁⟩ := X.invokevirtual hexec hown hlink hnamed hmethM hstM hkP hkPi hy (a := b) (cell := cellB) hcell
    (fun z h => by rw [h] at hobj; cases hobj) hselP hmethM habM hkP hkPi (g := g) hg (argsL := argsL) (rest := rest) (hlen _ hsigM) hstack hdg
  rcases hK m meth c ⟨T.setVm vm₁, locs, cells, slots⟩ { g with stack := rest } (.invokevirtual index) mk (Value.ref b :: argsL).toArray X₁ hg hsize hdg hW (X₁.named hnamed) (hpre vm₁ X₁.warmed) with ⟨v, B, X', hpost, hsteps⟩ | ⟨q, B, X', hpost, hsteps⟩
  · exact Or.inl ⟨v, vm₁, B, X₁.warmed, X', hpost, fun target h => hstep₁ _ fun acts => by rw [doInvoke_state]; exact hsteps.trans h⟩
  · exact Or.inr ⟨q, vm₁, B, X₁.warmed, X', hpost, hstep₁ _ fun acts => by rw [doInvoke_state]; exact hsteps⟩
theorem vx_callSX (X : Stand p l e R s m args below meth c T locs cells slots) (hexec : p.tables.exec = Jvm.exec) {own : String} {index : Nat} {y : MethodName} {bytes : ByteArray} {maxL : Nat} {ret : Option FieldType} {hh : List (Nat × Nat × Nat × Nat)}
    (hown : s.vm.findClass own = some m.cls) (hlink : (Cond.methodLink own index y).before args s = true) (hstat : (Cond.static y).before args s = true) (hinit : (Cond.initialized y.cls).before args s = true)
    (hcode : (Cond.codeWith y bytes maxL ret hh).before args s = true) (hy : y.cls ≠ "java/lang/invoke/MethodHandle" ∧ y.cls ≠ "java/lang/invoke/VarHandle")
    {W9 : Nat} {Pre : Pt → Array Value → Prop} {Post : Pt → Array Value → Option Value → Pt → Prop} {PostX : Pt → Array Value → Addr → Pt → Prop} (hK : vx_Back l R p e below s args y 3 W9 Pre Post PostX)
    {g : JFrame} (hg : g.method = m) (hsize : g.locals.size = c.maxLocals) {argsL rest : List Value} (hlen : ∀ sig, parseMethodDescriptor y.desc = some sig → argsL.length = sig.parameters.length)
    (hstack : g.stack = argsL.reverse ++ rest) (hW : 2 * g.monitorRoom + (rest.map fun v => v.category).sum ≤ W9) (hdg : decode c.code g.pc = .ok (.invokestatic index, 3))
    (hpre : ∀ vm₁, s.WarmedH vm₁ → Pre ⟨T.setVm vm₁, locs, cells, slots⟩ argsL.toArray) :
    (∃ (v : Option Value) (vm₁ : Vm) (B : Pt), s.WarmedH vm₁ ∧ Stand p l e R s m args below meth c B.U B.locs B.cells B.slots ∧ Post ⟨T.setVm vm₁, locs, cells, slots⟩ argsL.toArray v B ∧
      ∀ target, Steps p.tables e below (B.U.setTop { g with pc := g.pc + 3, stack := v.toList ++ rest }) target → Steps p.tables e below (T.setTop g) target) ∨
    (∃ (q : Addr) (vm₁ : Vm) (B : Pt), s.WarmedH vm₁ ∧ Stand p l e R s m args below meth c B.U B.locs B.cells B.slots ∧ PostX ⟨T.setVm vm₁, locs, cells, slots⟩ argsL.toArray q B ∧
      Steps p.tables e below (T.setTop g) ((B.U.setTop { g with stack := rest }).pushFrame (.throwing q))) := by
  obtain ⟨mk, methM, cM, hnamed, hmethM, -, -, -, -, -, -, hsigM⟩ := Cond.codeWith_spec hcode
  have hstatic : methM.isStatic = true := Cond.static_spec hnamed hmethM hstat
  obtain ⟨kP, hkP, -⟩ := className_of_methodNamed hnamed
  have hinitP : kP.init = .initialized := Cond.initialized_spec (findClass_of_methodNamed hnamed) hkP hinit
  obtain ⟨vm₁, X₁, hstep₁⟩ := X.invokestatic hexec hown hlink hnamed hmethM hstatic hkP hinitP hy (g := g) hg (argsL := argsL) (rest := rest) (hlen _ hsigM) hstack hdg
  rcases hK m meth c ⟨T.setVm vm₁, locs, cells, slots⟩ { g with stack := rest } (.invokestatic index) mk argsL.toArray X₁ hg hsize hdg hW (X₁.named hnamed) (hpre vm₁ X₁.warmed) with ⟨v, B, X', hpost, hsteps⟩ | ⟨q, B, X', hpost, hsteps⟩
  · exact Or.inl ⟨v, vm₁, B, X₁.warmed, X', hpost, fun target h => hstep₁ _ fun acts => by rw [doInvoke_state]; exact hsteps.trans h⟩
  · exact Or.inr ⟨q, vm₁, B, X₁.warmed, X', hpost, hstep₁ _ fun acts => by rw [doInvoke_state]; exact hsteps⟩
theorem vx_callVW (X : Stand p l e R s m args below meth c T locs cells slots) (hexec : p.tables.exec = Jvm.exec) {own C : String} {index : Nat} {y : MethodName} {bytes : ByteArray} {maxL : Nat} {ret : Option FieldType} {hh : List (Nat × Nat × Nat × Nat)}
    (hown : s.vm.findClass own = some m.cls) (hlink : (Cond.methodLink own index y).before args s = true) (hinst : (Cond.instanceMethod y).before args s = true) (hsel : (Cond.selects C y y).before args s = true)
    (hcode : (Cond.codeWith y bytes maxL ret hh).before args s = true) (hy : y.cls ≠ "java/lang/invoke/MethodHandle" ∧ y.cls ≠ "java/lang/invoke/VarHandle")
    {W9 : Nat} {Pre : Pt → Array Value → Prop} {Post : Pt → Array Value → Option Value → Pt → Prop} (hK : Back l R p e below s args y 3 W9 Pre Post)
    {b : Addr} {cellB : Cell} (hcell : T.heap[b]? = some cellB) (hobj : cellB.vm.isStatics = false) (hcls : s.vm.findClass C = some cellB.cls)
    {g : JFrame} (hg : g.method = m) (hsize : g.locals.size = c.maxLocals) {argsL rest : List Value} (hlen : ∀ sig, parseMethodDescriptor y.desc = some sig → argsL.length = sig.parameters.length)
    (hstack : g.stack = argsL.reverse ++ .ref b :: rest) (hW : 2 * g.monitorRoom + (rest.map fun v => v.category).sum ≤ W9) (hdg : decode c.code g.pc = .ok (.invokevirtual index, 3))
    (hpre : ∀ vm₁, s.WarmedH vm₁ → Pre ⟨T.setVm vm₁, locs, cells, slots⟩ (Value.ref b :: argsL).toArray) :
    ∃ (v : Option Value) (vm₁ : Vm) (B : Pt), s.WarmedH vm₁ ∧ Stand p l e R s m args below meth c B.U B.locs B.cells B.slots ∧ Post ⟨T.setVm vm₁, locs, cells, slots⟩ (Value.ref b :: argsL).toArray v B ∧
      ∀ target, Steps p.tables e below (B.U.setTop { g with pc := g.pc + 3, stack := v.toList ++ rest }) target → Steps p.tables e below (T.setTop g) target := by
  obtain ⟨mk, methM, hnamed, hmethM, hstM, habM⟩ := Cond.instanceMethod_spec hinst
  obtain ⟨m8, methM', cM, hn8, hmethM', -, -, -, -, -, -, hsigM⟩ := Cond.codeWith_spec hcode
  cases Option.some.inj (hn8.symm.trans hnamed)
  cases hmethM.symm.trans hmethM'
  obtain ⟨c2, r2, m2, q1, q2, q3, q4, kP, hkP, hkPi⟩ := Cond.selects_spec hsel
  cases hcls.symm.trans q1
  cases (State.methodFound?_of_named hnamed hy).symm.trans q2
  cases hnamed.symm.trans q3
  have hselP : selectMethod e.platform s.vm cellB.cls mk = .method mk := by rw [Launch.admits_selectMethod X.admits]; exact q4
  obtain ⟨vm₁, X₁, hstep₁⟩ := X.invokevirtual hexec hown hlink hnamed hmethM hstM hkP hkPi hy (a := b) (cell := cellB) hcell
    (fun z h => by rw [h] at hobj; cases hobj) hselP hmethM habM hkP hkPi (g := g) hg (argsL := argsL) (rest := rest) (hlen _ hsigM) hstack hdg
  obtain ⟨v, B, X', hpost, hsteps⟩ := hK m meth c ⟨T.setVm vm₁, locs, cells, slots⟩ { g with stack := rest } (.invokevirtual index) mk (Value.ref b :: argsL).toArray X₁ hg hsize hdg hW (X₁.named hnamed) (hpre vm₁ X₁.warmed)
  exact ⟨v, vm₁, B, X₁.warmed, X', hpost, fun target h => hstep₁ _ fun acts => by rw [doInvoke_state]; exact hsteps.trans h⟩
abbrev vx_CVW (R : Room) (s : State) (args : Array Value) (own C : String) (index : Nat) (y : MethodName) (bytes : ByteArray) (maxL : Nat) (ret : Option FieldType) (hh : List (Nat × Nat × Nat × Nat)) (ws : List Cond) (rm : Room) (mc ms n : Nat) : Prop :=
  (rm.cells = mc ∧ rm.slots = ms ∧ rm.frames + 1 ≤ R.frames ∧ 8 + (maxL + 11) + rm.locals ≤ R.locals ∧ (∀ w ∈ ws, ∀ (a' : Array Value) (U : State), s.WarmedH U.vm → w.before a' U = true) ∧ Cond.codeWith y bytes maxL ret hh ∈ ws) ∧
  (Cond.codeWith y bytes maxL ret hh).before args s = true ∧ (Cond.initialized y.cls).before args s = true ∧ (y.cls ≠ "java/lang/invoke/MethodHandle" ∧ y.cls ≠ "java/lang/invoke/VarHandle") ∧
  (∀ sig, parseMethodDescriptor y.desc = some sig → n = sig.parameters.length) ∧ (Cond.methodLink own index y).before args s = true ∧ (Cond.instanceMethod y).before args s = true ∧ (Cond.selects C y y).before args s = true
theorem vx_cwVW {own C : String} {index maxL mc ms : Nat} {y : MethodName} {bytes : ByteArray} {ret : Option FieldType} {hh : List (Nat × Nat × Nat × Nat)} {Ts ws ws' : List Cond} {rm : Room} (n : Nat) (ht : ∀ w ∈ Ts, w.before args s = true) (hT : GoodIn Ts (wsV own index C y ws)) (hw : ws = Cond.codeWith y bytes maxL ret hh :: ws') (hrc : rm.cells = mc) (hrs : rm.slots = ms)
    (hd : y.cls = C ∧ y.cls ≠ "java/lang/invoke/MethodHandle" ∧ y.cls ≠ "java/lang/invoke/VarHandle" ∧ (parseMethodDescriptor y.desc).map (fun d => d.parameters.length) = some n) (hR : rm.frames + 1 ≤ R.frames ∧ 8 + (maxL + 11) + rm.locals ≤ R.locals) :
    vx_CVW R s args own C index y bytes maxL ret hh ws rm mc ms n := by
  obtain ⟨hC, hd⟩ := hd
  subst hC
  have ok : ∀ w ∈ wsV own index y.cls y ws, w.before args s = true := fun w h => ht w (hT w h).1
  have hG : GoodIn Ts ws := fun w h => hT w (by unfold wsV; exact List.mem_append_right _ h)
  have hc : Cond.codeWith y bytes maxL ret hh ∈ ws := by rw [hw]; exact List.mem_cons_self
  refine ⟨⟨hrc, hrs, hR.1, hR.2, pay_in ht hG, hc⟩, ht _ (hG _ hc).1, ok _ (by simp [wsV]), ⟨hd.1, hd.2.1⟩, fun sig h => ?_, ok _ (by simp [wsV]), ok _ (by simp [wsV]), ok _ (by simp [wsV])⟩
  have h2 := hd.2.2
  rw [h] at h2
  exact (Option.some.inj h2).symm
theorem vx_runVW {y : MethodName} {bytes cc : ByteArray} {maxL nL mc ms n index : Nat} {ret : Option FieldType} {hh : List (Nat × Nat × Nat × Nat)} {ws : List Cond} {rm : Room} {Pc : Array Value → State → Prop} {Qc : Array Value → State → Outcome → State → Prop} {free : Addr → Prop} {Ts : List Cond} {own C : String} {b : Addr} {As rest : List Value} {g : JFrame}
    (S : CallFix p m c cc nL s args Ts own) (hM : Met l y ws rm Pc Qc mc ms free) (cw : vx_CVW R s args own C index y bytes maxL ret hh ws rm mc ms n) (hp : PreV s H C b Pc As)
    (hg : g.method = m) (hn : As.length = n) (hsize : g.locals.size = nL) (hstack : g.stack = As.reverse ++ .ref b :: rest) (hW : 2 * g.monitorRoom + (rest.map fun v => v.category).sum ≤ 8) (hdg : decode cc g.pc = .ok (.invokevirtual index, 3)) (hf : cells + mc ≤ R.cells ∧ slots + ms ≤ R.slots) :
    va_Run p l e R s m args below meth c H locs cells slots mc ms g rest (Qc (Value.ref b :: As).toArray) free := by
  obtain ⟨⟨hrc, hrs, hfr, hlo, hws, hcw⟩, hcode, hini, hy, hlen, hl, hin, hse⟩ := cw
  have hK : Back l R p e below s args y 3 8 (PreOf R mc ms Pc) (PostOf Qc mc ms free) := va_backW (hh := hh) (bytes := bytes) (maxL := maxL) (ret := ret) hM hp.1 hrc hrs hfr hlo hws hcw (fun a' U hW => word_at hW (Or.inl (by first | rfl | simp [Cond.onTables, Cond.keeps, Cond.steady])) hini)
  obtain ⟨hx, hb, hml, ho, -⟩ := S
  obtain ⟨-, ⟨cellB, hcB, hoB, hclB⟩, hPc⟩ := hp
  intro T hT X
  obtain ⟨v, vm₁, ⟨U', l2, c2, s2⟩, hW₁, X', ⟨g', mk, t, L, e1, e2, hq, h1, hL, h2, h3⟩, st⟩ := vx_callVW X hx (C := C) (hh := hh) (bytes := bytes) (maxL := maxL) (ret := ret) ho hl hin hse hcode hy hK (by rw [hT]; exact hcB) hoB hclB hg (hsize.trans hml.symm) (argsL := As) (rest := rest) (fun sig h => hn.trans (hlen sig h)) hstack hW (by rw [hb]; exact hdg)
    (fun vm₁ hW₁ => ⟨hf.1, hf.2, hPc (T.setVm vm₁) hT hW₁⟩)
  dsimp only [Pt.U, Pt.locs, Pt.cells, Pt.slots] at X' e1 e2 h1 h2 h3 st
  subst h1; subst h2; subst h3
  exact ⟨v, (T.setVm vm₁).calling g' mk (Value.ref b :: As).toArray, t, U', L, hT, X', hL, e1, e2, hq, st⟩
section
variable {y : MethodName} {bytes cc : ByteArray} {maxL nL mc ms n index : Nat} {ret : Option FieldType} {ws : List Cond} {rm : Room} {Pc : Array Value → State → Prop} {Qc : Array Value → State → Outcome → State → Prop} {XC : String → State → State → Prop} {free : Addr → Prop} {Ts : List Cond} {own C : String} {b : Addr} {As rest : List Value} {g : JFrame}
theorem vx_runVX {hh : List (Nat × Nat × Nat × Nat)} (S : CallFix p m c cc nL s args Ts own) (hM : vx_Met l y ws rm Pc Qc XC mc ms free) (cw : vx_CVW R s args own C index y bytes maxL ret hh ws rm mc ms n) (hp : PreV s H C b Pc As)
    (hg : g.method = m) (hn : As.length = n) (hsize : g.locals.size = nL) (hstack : g.stack = As.reverse ++ .ref b :: rest) (hW : 2 * g.monitorRoom + (rest.map fun v => v.category).sum ≤ 8) (hdg : decode cc g.pc = .ok (.invokevirtual index, 3)) (hf : cells + mc ≤ R.cells ∧ slots + ms ≤ R.slots) :
    vx_Run p l e R s m args below meth c H locs cells slots mc ms g rest (Qc (Value.ref b :: As).toArray) XC free := by
  obtain ⟨⟨hrc, hrs, hfr, hlo, hws, hcw⟩, hcode, hini, hy, hlen, hl, hin, hse⟩ := cw
  have hK : vx_Back l R p e below s args y 3 8 (PreOf R mc ms Pc) (PostOf Qc mc ms free) (vx_Post XC mc ms free) := vx_backW (hh := hh) (bytes := bytes) (maxL := maxL) (ret := ret) hM hp.1 hrc hrs hfr hlo hws hcw (fun a' U hW => word_at hW (Or.inl (by first | rfl | simp [Cond.onTables, Cond.keeps, Cond.steady])) hini)
  obtain ⟨hx, hb, hml, ho, -⟩ := S
  obtain ⟨-, ⟨cellB, hcB, hoB, hclB⟩, hPc⟩ := hp
  intro T hT X
  rcases vx_callVX X hx (C := C) (hh := hh) (bytes := bytes) (maxL := maxL) (ret := ret) ho hl hin hse hcode hy hK (by rw [hT]; exact hcB) hoB hclB hg (hsize.trans hml.symm) (argsL := As) (rest := rest) (fun sig h => hn.trans (hlen sig h)) hstack hW (by rw [hb]; exact hdg)
    (fun vm₁ hW₁ => ⟨hf.1, hf.2, hPc (T.setVm vm₁) hT hW₁⟩) with ⟨v, vm₁, ⟨U', l2, c2, s2⟩, hW₁, X', ⟨g', mk, t, L, e1, e2, hq, h1, hL, h2, h3⟩, st⟩ | ⟨q, vm₁, ⟨U', l2, c2, s2⟩, hW₁, X', ⟨g', mk, t, L, E, ce, e1, e2, hq, hce, hcv, hcl, h1, hL, h2, h3⟩, st⟩
  · dsimp only [Pt.U, Pt.locs, Pt.cells, Pt.slots] at X' e1 e2 h1 h2 h3 st
    subst h1; subst h2; subst h3
    exact Or.inl ⟨v, (T.setVm vm₁).calling g' mk (Value.ref b :: As).toArray, t, U', L, hT, X', hL, e1, e2, hq, st⟩
  · dsimp only [Pt.U, Pt.locs, Pt.cells, Pt.slots] at X' e1 e2 h1 h2 h3 st hcl
    subst h1; subst h2; subst h3
    exact Or.inr ⟨q, (T.setVm vm₁).calling g' mk (Value.ref b :: As).toArray, t, U', L, E, ce, hT, X', hL, e1, e2, hq, hce, hcv, vx_cls hW₁ hcl, st⟩
theorem vx_runSX {hh : List (Nat × Nat × Nat × Nat)} (S : CallFix p m c cc nL s args Ts own) (hM : vx_Met l y ws rm Pc Qc XC mc ms free) (cw : vx_CSW R s args own index y bytes maxL ret hh ws rm mc ms n) (hp : PreS s H Pc As)
    (hg : g.method = m) (hn : As.length = n) (hsize : g.locals.size = nL) (hstack : g.stack = As.reverse ++ rest) (hW : 2 * g.monitorRoom + (rest.map fun v => v.category).sum ≤ 8) (hdg : decode cc g.pc = .ok (.invokestatic index, 3)) (hf : cells + mc ≤ R.cells ∧ slots + ms ≤ R.slots) :
    vx_Run p l e R s m args below meth c H locs cells slots mc ms g rest (Qc As.toArray) XC free := by
  obtain ⟨⟨hrc, hrs, hfr, hlo, hws, hcw⟩, hcode, hini, hy, hlen, hl, hstt⟩ := cw
  have hK : vx_Back l R p e below s args y 3 8 (PreOf R mc ms Pc) (PostOf Qc mc ms free) (vx_Post XC mc ms free) := vx_backW (hh := hh) (bytes := bytes) (maxL := maxL) (ret := ret) hM hp.1 hrc hrs hfr hlo hws hcw (fun a' U hW => word_at hW (Or.inl (by first | rfl | simp [Cond.onTables, Cond.keeps, Cond.steady])) hini)
  obtain ⟨hx, hb, hml, ho, -⟩ := S
  intro T hT X
  rcases vx_callSX X hx (hh := hh) (bytes := bytes) (maxL := maxL) (ret := ret) ho hl hstt hini hcode hy hK hg (hsize.trans hml.symm) (argsL := As) (rest := rest) (fun sig h => hn.trans (hlen sig h)) hstack hW (by rw [hb]; exact hdg)
    (fun vm₁ hW₁ => ⟨hf.1, hf.2, hp.2 (T.setVm vm₁) hT hW₁⟩) with ⟨v, vm₁, ⟨U', l2, c2, s2⟩, hW₁, X', ⟨g', mk, t, L, e1, e2, hq, h1, hL, h2, h3⟩, st⟩ | ⟨q, vm₁, ⟨U', l2, c2, s2⟩, hW₁, X', ⟨g', mk, t, L, E, ce, e1, e2, hq, hce, hcv, hcl, h1, hL, h2, h3⟩, st⟩
  · dsimp only [Pt.U, Pt.locs, Pt.cells, Pt.slots] at X' e1 e2 h1 h2 h3 st
    subst h1; subst h2; subst h3
    exact Or.inl ⟨v, (T.setVm vm₁).calling g' mk As.toArray, t, U', L, hT, X', hL, e1, e2, hq, st⟩
  · dsimp only [Pt.U, Pt.locs, Pt.cells, Pt.slots] at X' e1 e2 h1 h2 h3 st hcl
    subst h1; subst h2; subst h3
    exact Or.inr ⟨q, (T.setVm vm₁).calling g' mk As.toArray, t, U', L, E, ce, hT, X', hL, e1, e2, hq, hce, hcv, vx_cls hW₁ hcl, st⟩
end
end VXH
theorem vx_ofWH {l : Launch} {y : MethodName} {ws ws' : List Cond} {rm : Room} {Pc : Array Value → State → Prop} {Qc : Array Value → State → Outcome → State → Prop} {XC : String → State → State → Prop} {mc ms : Nat} {free : Addr → Prop} {cc : ByteArray} {maxL : Nat} {ret : Option FieldType} {hh : List (Nat × Nat × Nat × Nat)}
    (hy : plainName y.cls = true) (hw : ws = Cond.codeWith y cc maxL ret hh :: ws')
    (body : ∀ p e s m args below meth c s₁, BodyLoose p l y (headSpec ws rm) cc maxL ret e s m args below meth c s₁ → c.maxLocals = maxL → Pc args s →
      W p l e (headSpec ws rm).room s m args below meth c s.heap [] 0 0 (vx_MQ below Qc XC args s mc ms free) (entryFrame m args maxL)) : vx_Met l y ws rm Pc Qc XC mc ms free := by
  refine MetFree.of_bodyS (code := cc) (maxLocals := maxL) (ret := ret) hy ?_ ?_
  · intro args s m h hn
    obtain ⟨m9, meth, c, hn9, h1, h2, h3, h4, -, h5, h6, -⟩ := Cond.codeWith_spec (atoms_spec (ws := ws) h _ (by rw [hw]; exact List.mem_cons_self))
    cases hn.symm.trans hn9
    exact ⟨meth, c, h1, h2, h3, h4, h5, h6⟩
  · intro p e s m args below meth c s₁ B hml hP _
    have hh0 : s₁.heap = s.heap := by rw [B.state]; rfl
    obtain ⟨t, a1, o, b1, b2, b3⟩ := body p e s m args below meth c s₁ B hml hP s₁ hh0 (Stand.of_body B)
    exact ⟨t, o, a1, b1, b2, b3⟩
/-! ===== END ===== -/
end
section
/-! ===== an abstract machine: cells by number, one frame at a time, calls in one stride ===== -/
abbrev ac_C : Type := (FieldType × vp_A) ⊕ (Nat × List Value)
abbrev ac_H : Type := List ac_C
abbrev ac_S : Type := Nat × List Value × List Value × ac_H × Nat × Nat
abbrev ac_R : Type := (Option Value ⊕ Nat) × ac_H × Nat × Nat
/-- a plain operation; a call (method, arguments, place behind, receiver: 0 none, 1 a cell, n + 2 one of class n); a return (0 void, 1 int, 2 boolean); a throw (number of the exception) -/
abbrev ac_O : Type := (ac_S → Option ac_S) ⊕ (Nat × Nat × Nat × Nat) ⊕ Nat ⊕ Nat
/-- name, code, locals, return type, frames and locals' words below, rows of its table, whether it has one -/
abbrev ac_M : Type := MethodName × ByteArray × Nat × Option FieldType × Nat × Nat × List (Nat × Nat × Nat × Nat) × Bool
def ac_un : Value := .double 0
def ac_junk : ac_C := .inr (1000, [])
/-- values of one slot that the abstract machine passes on -/
def ac_one : Value → Bool
  | .int _ => true
  | .ref _ => true
  | .float _ => true
  | _ => false
/-- base, static arrays and the script by their numbers, class numbers, array classes, the texts, the script's length and ints -/
abbrev ac_E : Type := Nat × (Nat → Nat) × va_G × (FieldType → ClassId) × (Nat → Nat) × Nat × (Nat → Int32)
abbrev ac_b (E : ac_E) : Nat := E.1
abbrev ac_sa (E : ac_E) : Nat → Nat := E.2.1
abbrev ac_D (E : ac_E) : va_G := E.2.2.1
abbrev ac_ca (E : ac_E) : FieldType → ClassId := E.2.2.2.1
abbrev ac_sx (E : ac_E) : Nat → Nat := E.2.2.2.2.1
abbrev ac_len (E : ac_E) : Nat := E.2.2.2.2.2.1
abbrev ac_xs (E : ac_E) : Nat → Int32 := E.2.2.2.2.2.2
def ac_v (E : ac_E) : Value → Value
  | .ref k => .ref (ac_b E + k)
  | .float t => .ref (ac_sa E t.toNat)
  | v => v
/-- a list with one place new, handed on -/
def ac_set {α β : Type} : List α → Nat → α → (List α → Option β) → Option β
  | [], _, _, _ => none
  | _ :: l, 0, v, k => k (v :: l)
  | a :: l, i + 1, v, k => ac_set l i v (fun l' => k (a :: l'))
theorem ac_set_eq {α β : Type} : ∀ (l : List α) (i : Nat) (v : α) (k : List α → Option β), ac_set l i v k = if i < l.length then k (l.set i v) else none
  | [], i, v, k => by simp [ac_set]
  | a :: l, 0, v, k => by simp [ac_set]
  | a :: l, i + 1, v, k => by
    rw [ac_set, ac_set_eq l i v]
    simp
theorem ac_set_some {α β : Type} {l : List α} {i : Nat} {v : α} {k : List α → Option β} {r : β} (h : ac_set l i v k = some r) : i < l.length ∧ k (l.set i v) = some r := by
  rw [ac_set_eq] at h
  split at h
  · exact ⟨by assumption, h⟩
  · cases h
/-! the operations: each with the place behind it -/
def o_con (v : Value) (nx : Nat) : ac_S → Option ac_S := fun ⟨_, ls, st, h, c, k⟩ => some (nx, ls, v :: st, h, c, k)
def o_ild (i nx : Nat) : ac_S → Option ac_S := fun ⟨_, ls, st, h, c, k⟩ => match ls[i]? with
  | some (.int x) => some (nx, ls, .int x :: st, h, c, k)
  | _ => none
def o_ald (i nx : Nat) : ac_S → Option ac_S := fun ⟨_, ls, st, h, c, k⟩ => match ls[i]? with
  | some (.ref x) => some (nx, ls, .ref x :: st, h, c, k)
  | some (.float x) => some (nx, ls, .float x :: st, h, c, k)
  | _ => none
def o_ist (i nx : Nat) : ac_S → Option ac_S := fun ⟨_, ls, st, h, c, k⟩ => match st with
  | .int x :: st => ac_set ls i (.int x) (fun ls => some (nx, ls, st, h, c, k))
  | _ => none
def o_ast (i nx : Nat) : ac_S → Option ac_S := fun ⟨_, ls, st, h, c, k⟩ => match st with
  | .ref x :: st => ac_set ls i (.ref x) (fun ls => some (nx, ls, st, h, c, k))
  | _ => none
def o_inc (i : Nat) (v : Int32) (nx : Nat) : ac_S → Option ac_S := fun ⟨_, ls, st, h, c, k⟩ => match ls[i]? with
  | some (.int x) => ac_set ls i (.int (x + v)) (fun ls => some (nx, ls, st, h, c, k))
  | _ => none
def o_add (nx : Nat) : ac_S → Option ac_S := fun ⟨_, ls, st, h, c, k⟩ => match st with
  | .int y :: .int x :: st => some (nx, ls, .int (x + y) :: st, h, c, k)
  | _ => none
def o_sub (nx : Nat) : ac_S → Option ac_S := fun ⟨_, ls, st, h, c, k⟩ => match st with
  | .int y :: .int x :: st => some (nx, ls, .int (x - y) :: st, h, c, k)
  | _ => none
def o_mul (nx : Nat) : ac_S → Option ac_S := fun ⟨_, ls, st, h, c, k⟩ => match st with
  | .int y :: .int x :: st => some (nx, ls, .int (x * y) :: st, h, c, k)
  | _ => none
def o_and (nx : Nat) : ac_S → Option ac_S := fun ⟨_, ls, st, h, c, k⟩ => match st with
  | .int y :: .int x :: st => some (nx, ls, .int (x &&& y) :: st, h, c, k)
  | _ => none
def o_or (nx : Nat) : ac_S → Option ac_S := fun ⟨_, ls, st, h, c, k⟩ => match st with
  | .int y :: .int x :: st => some (nx, ls, .int (x ||| y) :: st, h, c, k)
  | _ => none
def o_xor (nx : Nat) : ac_S → Option ac_S := fun ⟨_, ls, st, h, c, k⟩ => match st with
  | .int y :: .int x :: st => some (nx, ls, .int (x ^^^ y) :: st, h, c, k)
  | _ => none
def o_shl (nx : Nat) : ac_S → Option ac_S := fun ⟨_, ls, st, h, c, k⟩ => match st with
  | .int y :: .int x :: st => some (nx, ls, .int (x <<< (y &&& 31)) :: st, h, c, k)
  | _ => none
def o_shr (nx : Nat) : ac_S → Option ac_S := fun ⟨_, ls, st, h, c, k⟩ => match st with
  | .int y :: .int x :: st => some (nx, ls, .int (x >>> (y &&& 31)) :: st, h, c, k)
  | _ => none
def ac_ush (x y : Int32) : Int32 := (x.toUInt32 >>> (y.toUInt32 &&& Int32.toUInt32 31)).toInt32
def o_ush (nx : Nat) : ac_S → Option ac_S := fun ⟨_, ls, st, h, c, k⟩ => match st with
  | .int y :: .int x :: st => some (nx, ls, .int (ac_ush x y) :: st, h, c, k)
  | _ => none
def o_neg (nx : Nat) : ac_S → Option ac_S := fun ⟨_, ls, st, h, c, k⟩ => match st with
  | .int x :: st => some (nx, ls, .int (-x) :: st, h, c, k)
  | _ => none
def ac_rm (x y : Int32) : Int32 := x - x / y * y
def o_div (nx : Nat) : ac_S → Option ac_S := fun ⟨_, ls, st, h, c, k⟩ => match st with
  | .int y :: .int x :: st => if y = 0 then none else some (nx, ls, .int (x / y) :: st, h, c, k)
  | _ => none
def o_rem (nx : Nat) : ac_S → Option ac_S := fun ⟨_, ls, st, h, c, k⟩ => match st with
  | .int y :: .int x :: st => if y = 0 then none else some (nx, ls, .int (ac_rm x y) :: st, h, c, k)
  | _ => none
def o_i2l (nx : Nat) : ac_S → Option ac_S := fun ⟨_, ls, st, h, c, k⟩ => match st with
  | .int x :: st => some (nx, ls, .long x.toInt64 :: st, h, c, k)
  | _ => none
def o_lcm (nx : Nat) : ac_S → Option ac_S := fun ⟨_, ls, st, h, c, k⟩ => match st with
  | .long y :: .long x :: st => some (nx, ls, .int (lg_cmp x y) :: st, h, c, k)
  | _ => none
def o_dup (nx : Nat) : ac_S → Option ac_S := fun ⟨_, ls, st, h, c, k⟩ => match st with
  | .int x :: st => some (nx, ls, .int x :: .int x :: st, h, c, k)
  | .ref x :: st => some (nx, ls, .ref x :: .ref x :: st, h, c, k)
  | _ => none
def o_dx1 (nx : Nat) : ac_S → Option ac_S := fun ⟨_, ls, st, h, c, k⟩ => match st with
  | .int x :: .ref y :: st => some (nx, ls, .int x :: .ref y :: .int x :: st, h, c, k)
  | _ => none
def o_dp2 (nx : Nat) : ac_S → Option ac_S := fun ⟨_, ls, st, h, c, k⟩ => match st with
  | .int x :: .ref y :: st => some (nx, ls, .int x :: .ref y :: .int x :: .ref y :: st, h, c, k)
  | _ => none
def o_pop (nx : Nat) : ac_S → Option ac_S := fun ⟨_, ls, st, h, c, k⟩ => match st with
  | .int _ :: st => some (nx, ls, st, h, c, k)
  | _ => none
def o_go (nx : Nat) : ac_S → Option ac_S := fun ⟨_, ls, st, h, c, k⟩ => some (nx, ls, st, h, c, k)
def o_eq0 (t nx : Nat) : ac_S → Option ac_S := fun ⟨_, ls, st, h, c, k⟩ => match st with
  | .int x :: st => some (if x = 0 then t else nx, ls, st, h, c, k)
  | _ => none
def o_ne0 (t nx : Nat) : ac_S → Option ac_S := fun ⟨_, ls, st, h, c, k⟩ => match st with
  | .int x :: st => some (if x = 0 then nx else t, ls, st, h, c, k)
  | _ => none
def o_lt0 (t nx : Nat) : ac_S → Option ac_S := fun ⟨_, ls, st, h, c, k⟩ => match st with
  | .int x :: st => some (if x < 0 then t else nx, ls, st, h, c, k)
  | _ => none
def o_ge0 (t nx : Nat) : ac_S → Option ac_S := fun ⟨_, ls, st, h, c, k⟩ => match st with
  | .int x :: st => some (if 0 ≤ x then t else nx, ls, st, h, c, k)
  | _ => none
def o_le0 (t nx : Nat) : ac_S → Option ac_S := fun ⟨_, ls, st, h, c, k⟩ => match st with
  | .int x :: st => some (if x ≤ 0 then t else nx, ls, st, h, c, k)
  | _ => none
def o_gt0 (t nx : Nat) : ac_S → Option ac_S := fun ⟨_, ls, st, h, c, k⟩ => match st with
  | .int x :: st => some (if 0 < x then t else nx, ls, st, h, c, k)
  | _ => none
def o_eq (t nx : Nat) : ac_S → Option ac_S := fun ⟨_, ls, st, h, c, k⟩ => match st with
  | .int y :: .int x :: st => some (if x = y then t else nx, ls, st, h, c, k)
  | _ => none
def o_ne (t nx : Nat) : ac_S → Option ac_S := fun ⟨_, ls, st, h, c, k⟩ => match st with
  | .int y :: .int x :: st => some (if x = y then nx else t, ls, st, h, c, k)
  | _ => none
def o_lt (t nx : Nat) : ac_S → Option ac_S := fun ⟨_, ls, st, h, c, k⟩ => match st with
  | .int y :: .int x :: st => some (if x < y then t else nx, ls, st, h, c, k)
  | _ => none
def o_ge (t nx : Nat) : ac_S → Option ac_S := fun ⟨_, ls, st, h, c, k⟩ => match st with
  | .int y :: .int x :: st => some (if y ≤ x then t else nx, ls, st, h, c, k)
  | _ => none
def o_le (t nx : Nat) : ac_S → Option ac_S := fun ⟨_, ls, st, h, c, k⟩ => match st with
  | .int y :: .int x :: st => some (if x ≤ y then t else nx, ls, st, h, c, k)
  | _ => none
def o_gt (t nx : Nat) : ac_S → Option ac_S := fun ⟨_, ls, st, h, c, k⟩ => match st with
  | .int y :: .int x :: st => some (if y < x then t else nx, ls, st, h, c, k)
  | _ => none
/-- a switch over 0 .. ts.length - 1 -/
def o_sw (ts : List Nat) (d : Nat) : ac_S → Option ac_S := fun ⟨_, ls, st, h, c, k⟩ => match st with
  | .int x :: st => some (if x < 0 then d else ts.getD x.toNatClampNeg d, ls, st, h, c, k)
  | _ => none
/-- field f of an object of class ci -/
def o_get (ci f nx : Nat) : ac_S → Option ac_S := fun ⟨_, ls, st, h, c, k⟩ => match st with
  | .ref a :: st => match h[a]? with
    | some (.inr (cj, fs)) => if cj = ci then (match fs[f]? with
      | some v => some (nx, ls, v :: st, h, c, k)
      | none => none) else none
    | _ => none
  | _ => none
def o_put (ci f nx : Nat) : ac_S → Option ac_S := fun ⟨_, ls, st, h, c, k⟩ => match st with
  | .int v :: .ref a :: st => match h[a]? with
    | some (.inr (cj, fs)) => if cj = ci then ac_set fs f (.int v) (fun fs => ac_set h a (.inr (cj, fs)) (fun h => some (nx, ls, st, h, c, k))) else none
    | _ => none
  | _ => none
/-- a reference into a field -/
def o_pur (ci f nx : Nat) : ac_S → Option ac_S := fun ⟨_, ls, st, h, c, k⟩ => match st with
  | .ref v :: .ref a :: st => match h[a]? with
    | some (.inr (cj, fs)) => if cj = ci then ac_set fs f (.ref v) (fun fs => ac_set h a (.inr (cj, fs)) (fun h => some (nx, ls, st, h, c, k))) else none
    | _ => none
  | _ => none
/-- the t-th static array -/
def o_sta (t : UInt32) (nx : Nat) : ac_S → Option ac_S := fun ⟨_, ls, st, h, c, k⟩ => some (nx, ls, .float t :: st, h, c, k)
def ac_in (i : Int32) (n : Nat) : Bool := decide (¬ i < 0) && decide (i.toNatClampNeg < n)
def o_ia (nx : Nat) : ac_S → Option ac_S := fun ⟨_, ls, st, h, c, k⟩ => match st with
  | .int i :: .ref a :: st => match h[a]? with
    | some (.inl (.int, n, .inl f)) => if ac_in i n = true then some (nx, ls, .int (f i.toNatClampNeg) :: st, h, c, k) else none
    | _ => none
  | _ => none
def o_za (nx : Nat) : ac_S → Option ac_S := fun ⟨_, ls, st, h, c, k⟩ => match st with
  | .int i :: .ref a :: st => match h[a]? with
    | some (.inl (.boolean, n, .inl f)) => if ac_in i n = true then some (nx, ls, .int (f i.toNatClampNeg) :: st, h, c, k) else none
    | _ => none
  | _ => none
def o_la (nx : Nat) : ac_S → Option ac_S := fun ⟨_, ls, st, h, c, k⟩ => match st with
  | .int i :: .ref a :: st => match h[a]? with
    | some (.inl (.long, n, .inr (.inl f))) => if ac_in i n = true then some (nx, ls, .long (f i.toNatClampNeg) :: st, h, c, k) else none
    | _ => none
  | _ => none
def o_is (nx : Nat) : ac_S → Option ac_S := fun ⟨_, ls, st, h, c, k⟩ => match st with
  | .int x :: .int i :: .ref a :: st => match h[a]? with
    | some (.inl (.int, n, .inl f)) => if ac_in i n = true then ac_set h a (.inl (.int, n, .inl (upd f i.toNatClampNeg x))) (fun h => some (nx, ls, st, h, c, k)) else none
    | _ => none
  | _ => none
def o_zs (nx : Nat) : ac_S → Option ac_S := fun ⟨_, ls, st, h, c, k⟩ => match st with
  | .int x :: .int i :: .ref a :: st => match h[a]? with
    | some (.inl (.boolean, n, .inl f)) => if ac_in i n = true then ac_set h a (.inl (.boolean, n, .inl (upd f i.toNatClampNeg (vp_nar .boolean x)))) (fun h => some (nx, ls, st, h, c, k)) else none
    | _ => none
  | _ => none
def o_ls (nx : Nat) : ac_S → Option ac_S := fun ⟨_, ls, st, h, c, k⟩ => match st with
  | .long x :: .int i :: .ref a :: st => match h[a]? with
    | some (.inl (.long, n, .inr (.inl f))) => if ac_in i n = true then ac_set h a (.inl (.long, n, .inr (.inl (vp_updL f i.toNatClampNeg x)))) (fun h => some (nx, ls, st, h, c, k)) else none
    | _ => none
  | _ => none
/-- the t-th static array's element; tab: its six ints -/
def o_ta (tab : Nat → Nat → Int32) (nx : Nat) : ac_S → Option ac_S := fun ⟨_, ls, st, h, c, k⟩ => match st with
  | .int i :: .float t :: st => if ac_in i 6 = true ∧ t.toNat < 4 then some (nx, ls, .int (tab t.toNat i.toNatClampNeg) :: st, h, c, k) else none
  | _ => none
/-- the script's element, its length -/
def o_xa (L : Nat) (xs : Nat → Int32) (nx : Nat) : ac_S → Option ac_S := fun ⟨_, ls, st, h, c, k⟩ => match st with
  | .int i :: .float t :: st => if ac_in i L = true ∧ t = 9 then some (nx, ls, .int (xs i.toNatClampNeg) :: st, h, c, k) else none
  | _ => none
def o_xl (L : Nat) (nx : Nat) : ac_S → Option ac_S := fun ⟨_, ls, st, h, c, k⟩ => match st with
  | .float t :: st => if t = 9 then some (nx, ls, .int (Int32.ofNat L) :: st, h, c, k) else none
  | _ => none
def o_len (nx : Nat) : ac_S → Option ac_S := fun ⟨_, ls, st, h, c, k⟩ => match st with
  | .ref a :: st => match h[a]? with
    | some (.inl (.int, n, .inl _)) => some (nx, ls, .int (Int32.ofNat n) :: st, h, c, k)
    | _ => none
  | _ => none
def o_ni (nx : Nat) : ac_S → Option ac_S := fun ⟨_, ls, st, h, c, k⟩ => match st with
  | .int n :: st => if ¬ n < 0 ∧ n.toNatClampNeg ≤ 4096 then some (nx, ls, .ref h.length :: st, h ++ [.inl (.int, n.toNatClampNeg, .inl (fun _ => 0))], c + 1, k + n.toNatClampNeg) else none
  | _ => none
def o_nz (nx : Nat) : ac_S → Option ac_S := fun ⟨_, ls, st, h, c, k⟩ => match st with
  | .int n :: st => if ¬ n < 0 ∧ n.toNatClampNeg ≤ 4096 then some (nx, ls, .ref h.length :: st, h ++ [.inl (.boolean, n.toNatClampNeg, .inl (fun _ => 0))], c + 1, k + n.toNatClampNeg) else none
  | _ => none
def o_nl (nx : Nat) : ac_S → Option ac_S := fun ⟨_, ls, st, h, c, k⟩ => match st with
  | .int n :: st => if ¬ n < 0 ∧ n.toNatClampNeg ≤ 4096 then some (nx, ls, .ref h.length :: st, h ++ [.inl (.long, n.toNatClampNeg, .inr (.inl (fun _ => 0)))], c + 1, k + n.toNatClampNeg) else none
  | _ => none
def o_new (ci : Nat) (fs : List Value) (nx : Nat) : ac_S → Option ac_S := fun ⟨_, ls, st, h, c, k⟩ => some (nx, ls, .ref h.length :: st, h ++ [.inr (ci, fs)], c + 1, k + fs.length)
/-- Object.<init> -/
def o_obj1 (nx : Nat) : ac_S → Option ac_S := fun ⟨_, ls, st, h, c, k⟩ => match st with
  | [.ref _] => some (nx, ls, [], h, c, k)
  | _ => none
def ac_rv (rv : Nat) (as : List Value) (h : ac_H) : Bool := match rv with
  | 0 => true
  | 1 => match as with
    | .ref _ :: _ => true
    | _ => false
  | ci + 2 => match as with
    | .ref b :: _ => match h[b]? with
      | some (.inr (cj, _)) => Nat.beq cj ci
      | _ => false
    | _ => false
/-- a method run from a state: fuel, number of the method -/
def ac_x (T : Nat → Nat → ac_O) (HD : Nat → Nat → Nat → Option (Option (Nat × Nat))) (nl : Nat → Nat) : Nat → Nat → ac_S → Option ac_R
  | 0, _, _ => none
  | n + 1, y, (pc, ls, st, h, c, k) => match T y pc with
    | .inl f => match f (pc, ls, st, h, c, k) with
      | some σ => ac_x T HD nl n y σ
      | none => none
    | .inr (.inl (z, na, nx, rv)) =>
      if na ≤ st.length ∧ (st.drop na).length ≤ 4 ∧ na ≤ nl z ∧ (st.take na).all ac_one = true ∧ ac_rv rv (st.take na).reverse h = true then
        match ac_x T HD nl n z (0, (st.take na).reverse ++ List.replicate (nl z - na) ac_un, [], h, 0, 0) with
        | some (.inl v, h', c', k') => ac_x T HD nl n y (nx, ls, v.toList ++ st.drop na, h', c + c', k + k')
        | some (.inr x, h', c', k') => match HD y pc x with
          | some (some (i, nx')) => ac_set ls i ac_un (fun ls => ac_x T HD nl n y (nx', ls, [], h', c + c', k + k'))
          | some none => some (.inr x, h', c + c', k + k')
          | none => none
        | none => none
      else none
    | .inr (.inr (.inl b)) => match b, st with
      | 0, [] => some (.inl none, h, c, k)
      | 1, [.int v] => some (.inl (some (.int v)), h, c, k)
      | 2, [.int v] => if v = 0 ∨ v = 1 then some (.inl (some (.int v)), h, c, k) else none
      | _, _ => none
    | .inr (.inr (.inr x)) => match st with
      | [] => some (.inr x, h ++ [ac_junk], c + 1, k + 6)
      | _ => none
end
section
def RX0 : String := "SixWayGas$BodyAccount"
def TX0 : u_T := fun k => match k with
  | 0 => ("SixWayGas$BodyAccount", "weight", "I", false)
  | 1 => ("SixWayGas$BodyAccount", "gotP", "I", false)
  | 2 => ("SixWayGas$BodyAccount", "gotQ", "I", false)
  | _ => ("SixWayGas$BodyAccount", "moves", "I", false)
def tyX0 : Nat → FieldType := fun k => match k with
  | 0 => .int
  | 1 => .int
  | 2 => .int
  | _ => .int
abbrev wsX00 : List Cond := u_ws RX0 TX0 4
theorem nmX0 : ∀ a, a < 4 → ∀ b, b < 4 → a ≠ b → (TX0 a).2.1 ≠ (TX0 b).2.1 := by decide +kernel
theorem tyX0_ok : ∀ k, k < 4 → parseFieldDescriptor (TX0 k).2.2.1 = some (tyX0 k) := by decide +kernel
def RX1 : String := "SixWayGas$Books"
def TX1 : u_T := fun k => match k with
  | _ => ("SixWayGas$Books", "gave", "[I", true)
def tyX1 : Nat → FieldType := fun k => match k with
  | _ => .array .int
abbrev wsX10 : List Cond := u_ws RX1 TX1 1
theorem nmX1 : ∀ a, a < 1 → ∀ b, b < 1 → a ≠ b → (TX1 a).2.1 ≠ (TX1 b).2.1 := by decide +kernel
theorem tyX1_ok : ∀ k, k < 1 → parseFieldDescriptor (TX1 k).2.2.1 = some (tyX1 k) := by decide +kernel
def RX2 : String := "SixWayGas$Grid"
def TX2 : u_T := fun k => match k with
  | 0 => ("SixWayGas$Grid", "width", "I", true)
  | 1 => ("SixWayGas$Grid", "height", "I", true)
  | 2 => ("SixWayGas$Grid", "cells", "I", true)
  | _ => ("SixWayGas$Grid", "neighbours", "[I", true)
def tyX2 : Nat → FieldType := fun k => match k with
  | 0 => .int
  | 1 => .int
  | 2 => .int
  | _ => .array .int
abbrev wsX20 : List Cond := u_ws RX2 TX2 4
theorem nmX2 : ∀ a, a < 4 → ∀ b, b < 4 → a ≠ b → (TX2 a).2.1 ≠ (TX2 b).2.1 := by decide +kernel
theorem tyX2_ok : ∀ k, k < 4 → parseFieldDescriptor (TX2 k).2.2.1 = some (tyX2 k) := by decide +kernel
def RX3 : String := "SixWayGas$Marks"
def TX3 : u_T := fun k => match k with
  | 0 => ("SixWayGas$Marks", "cells", "[I", true)
  | 1 => ("SixWayGas$Marks", "kinds", "[I", true)
  | _ => ("SixWayGas$Marks", "count", "I", false)
def tyX3 : Nat → FieldType := fun k => match k with
  | 0 => .array .int
  | 1 => .array .int
  | _ => .int
abbrev wsX30 : List Cond := u_ws RX3 TX3 3
theorem nmX3 : ∀ a, a < 3 → ∀ b, b < 3 → a ≠ b → (TX3 a).2.1 ≠ (TX3 b).2.1 := by decide +kernel
theorem tyX3_ok : ∀ k, k < 3 → parseFieldDescriptor (TX3 k).2.2.1 = some (tyX3 k) := by decide +kernel
def RX4 : String := "SixWayGas"
def TX4 : u_T := fun k => match k with
  | 0 => ("SixWayGas", "grid", "LSixWayGas$Grid;", true)
  | 1 => ("SixWayGas", "edges", "[I", true)
  | 2 => ("SixWayGas", "rates", "[I", true)
  | 3 => ("SixWayGas", "books", "LSixWayGas$Books;", true)
  | 4 => ("SixWayGas", "bodyAccount", "LSixWayGas$BodyAccount;", true)
  | 5 => ("SixWayGas", "marks", "LSixWayGas$Marks;", true)
  | 6 => ("SixWayGas", "gainedCells", "[I", true)
  | 7 => ("SixWayGas", "leftCells", "[I", true)
  | 8 => ("SixWayGas", "cellBits", "[I", false)
  | 9 => ("SixWayGas", "arriving", "[I", false)
  | 10 => ("SixWayGas", "time", "I", false)
  | _ => ("SixWayGas", "seedNow", "I", false)
def tyX4 : Nat → FieldType := fun k => match k with
  | 0 => .object "SixWayGas$Grid"
  | 1 => .array .int
  | 2 => .array .int
  | 3 => .object "SixWayGas$Books"
  | 4 => .object "SixWayGas$BodyAccount"
  | 5 => .object "SixWayGas$Marks"
  | 6 => .array .int
  | 7 => .array .int
  | 8 => .array .int
  | 9 => .array .int
  | 10 => .int
  | _ => .int
abbrev wsX40 : List Cond := u_ws RX4 TX4 12
theorem nmX4 : ∀ a, a < 12 → ∀ b, b < 12 → a ≠ b → (TX4 a).2.1 ≠ (TX4 b).2.1 := by decide +kernel
theorem tyX4_ok : ∀ k, k < 12 → parseFieldDescriptor (TX4 k).2.2.1 = some (tyX4 k) := by decide +kernel
def RX5 : String := "SixWayGasModel"
def TX5 : u_T := fun k => match k with
  | 0 => ("SixWayGasModel", "thrown", "I", false)
  | 1 => ("SixWayGasModel", "w", "I", true)
  | 2 => ("SixWayGasModel", "h", "I", true)
  | 3 => ("SixWayGasModel", "time", "I", false)
  | 4 => ("SixWayGasModel", "seed", "I", false)
  | 5 => ("SixWayGasModel", "bits", "[I", true)
  | 6 => ("SixWayGasModel", "sort", "[I", true)
  | 7 => ("SixWayGasModel", "rate", "[I", true)
  | 8 => ("SixWayGasModel", "fresh", "[I", true)
  | 9 => ("SixWayGasModel", "ahead", "[Z", true)
  | 10 => ("SixWayGasModel", "books", "[I", true)
  | 11 => ("SixWayGasModel", "mass", "I", false)
  | 12 => ("SixWayGasModel", "account", "[I", true)
  | 13 => ("SixWayGasModel", "moves", "I", false)
  | 14 => ("SixWayGasModel", "marks", "I", false)
  | 15 => ("SixWayGasModel", "markCell", "[I", true)
  | _ => ("SixWayGasModel", "markKind", "[I", true)
def tyX5 : Nat → FieldType := fun k => match k with
  | 0 => .int
  | 1 => .int
  | 2 => .int
  | 3 => .int
  | 4 => .int
  | 5 => .array .int
  | 6 => .array .int
  | 7 => .array .int
  | 8 => .array .int
  | 9 => .array .boolean
  | 10 => .array .int
  | 11 => .int
  | 12 => .array .int
  | 13 => .int
  | 14 => .int
  | 15 => .array .int
  | _ => .array .int
abbrev wsX50 : List Cond := u_ws RX5 TX5 17
theorem nmX5 : ∀ a, a < 17 → ∀ b, b < 17 → a ≠ b → (TX5 a).2.1 ≠ (TX5 b).2.1 := by decide +kernel
theorem tyX5_ok : ∀ k, k < 17 → parseFieldDescriptor (TX5 k).2.2.1 = some (tyX5 k) := by decide +kernel
abbrev vwCl : List vw_C := [(RX0, TX0, 4), (RX1, TX1, 1), (RX2, TX2, 4), (RX3, TX3, 3), (RX4, TX4, 12), (RX5, TX5, 17)]
end
section
/-! ===== what a state of the machine holds of the abstract one ===== -/
def ac_keep (w : Cond) : Bool := goodWord w || (w.onTables && (w.keepsH || w.keepsFace))
theorem ac_keep_at {a a' : Array Value} {s U : State} {w : Cond} (hW : s.WarmedH U.vm) (hk : ac_keep w = true) (h : w.before a s = true) : w.before a' U = true := by
  simp only [ac_keep, Bool.or_eq_true, Bool.and_eq_true] at hk
  rcases hk with hk | ⟨ht, hk | hk⟩
  · exact word_at hW (good_of_word hk) h
  · have h1 := Cond.onTables_warmH (T := U) (args' := a') hW ht hk h
    rwa [State.setVm_self] at h1
  · have h1 := Cond.onTables_warmFace (T := U) (args' := a') hW ht hk h
    rwa [State.setVm_self] at h1
def ac_tbl : List Cond := lw_tbl.filter ac_keep
theorem ac_mem {w : Cond} (i : Nat) (h : lw_tbl[i]? = some w) (hk : ac_keep w = true) : w ∈ ac_tbl := List.mem_filter.mpr ⟨List.mem_of_getElem? h, hk⟩
def ac_A (E : ac_E) : Nat → Prop := fun q => ac_b E ≤ q
def ac_tys (E : ac_E) : List (ClassId × FieldType) := [(ac_ca E .int, .int), (ac_ca E .boolean, .boolean), (ac_ca E .long, .long)]
def ac_str : List (String × Nat × String) := [("SixWayGas", 178, "no such cell"), ("SixWayGas", 182, "out of range"), ("SixWayGas", 185, "the cell is another edge"), ("SixWayGas", 115, "a source, a sink or the body is there"), ("SixWayGas", 131, "no such rectangle"), ("SixWayGas", 152, "no such particle"), ("SixWayGas", 160, "it has a mark already"), ("SixWayGas", 166, "all marks are given"), ("SixWayGas", 171, "no such mark")]
def ac_sn : List String := ["MOMENTUM_P", "MOMENTUM_Q", "ALONG_P", "ALONG_Q"]
def ac_tab (t j : Nat) : Int32 := match t with
  | 0 => [1, 0, -1, -1, 0, 1].getD j 0
  | 1 => [0, 1, 1, 0, -1, -1].getD j 0
  | 2 => [2, 1, -1, -2, -1, 1].getD j 0
  | _ => [1, 2, 1, -1, -2, -1].getD j 0
def ac_exn : Nat → String
  | 0 => "java/lang/IndexOutOfBoundsException"
  | 1 => "java/lang/IllegalArgumentException"
  | 2 => "java/lang/IllegalStateException"
  | 3 => "java/lang/UnsupportedOperationException"
  | _ => "java/util/NoSuchElementException"
/-- what every method finds at its start -/
def ac_G (E : ac_E) (s : State) : Prop :=
  ac_b E ≤ s.heap.size ∧ (∀ (a : Array Value) (w : Cond), w ∈ ac_tbl → w.before a s = true) ∧ va_K (ac_D E) vwCl (ac_tys E) s ∧
  (∀ i q, ac_str[i]? = some q → vk_R q.1 q.2.1 q.2.2 (ac_sx E i) s) ∧
  vx_Zq Bundle.tN "UNASSIGNED_STACK" Bundle.steD (ac_A E) s s.heap ∧ vx_Zq Bundle.tN "SUPPRESSED_SENTINEL" Bundle.listD (ac_A E) s s.heap ∧
  (∀ i n, ac_sn[i]? = some n → va_Z "SixWayGas" n "[I" (.ref (ac_sa E i)) (ac_A E) s s.heap ∧ va_T .int (ac_sa E i) 6 (fun j => .int (ac_tab i j)) (ac_A E) s s.heap) ∧
  (va_X (ac_sa E 9) (ac_len E) (ac_xs E) s s.heap ∧ ac_sa E 9 < ac_b E) ∧
  (∀ i j, i < 5 → j < 5 → i ≠ j → va_Nc (ac_exn i) (ac_exn j) s)
theorem ac_G.next {E : ac_E} {s U : State} (h : ac_G E s) (hW : s.WarmedH U.vm) (hz : s.heap.size ≤ U.heap.size) (hq : ∀ q : Nat, q < s.heap.size → ¬ ac_A E q → U.heap[q]? = s.heap[q]?) : ac_G E U := by
  obtain ⟨h1, h2, h3, h4, h5, h6, h7, ⟨h8, h9⟩, h10⟩ := h
  have hk : ∀ w ∈ ac_tbl, ac_keep w = true := fun w hw => (List.mem_filter.mp hw).2
  refine ⟨Nat.le_trans h1 hz, fun a w hw => ac_keep_at hW (hk w hw) (h2 #[] w hw), va_K.moved hW.alike h3, fun i q hi => vk_R.warm hW (h4 i q hi), (h5.moved hW.alike).kept hq, (h6.moved hW.alike).kept hq, fun i n hi => ⟨((h7 i n hi).1.moved hW.alike).kept hq, ((h7 i n hi).2.moved hW.alike).kept hq⟩, ⟨(h8.moved hW.alike).kept (hq _ (Nat.lt_of_lt_of_le h9 h1) (Nat.not_le.mpr h9)), h9⟩, fun i j hi hj hn => (h10 i j hi hj hn).moved hW.alike⟩
theorem ac_G.calling {E : ac_E} {U : State} (h : ac_G E U) (g : JFrame) (mk : MethodId) (a : Array Value) : ac_G E (U.calling g mk a) := h.next (U := U.calling g mk a) (State.WarmedH.refl U) (Nat.le_refl _) (fun _ _ _ => rfl)
/-- a cell -/
def ac_at (E : ac_E) (q : Nat) (c : ac_C) (H : Heap) : Prop := match c with
  | .inl a => H[q]? = some (vp_cell (ac_ca E a.1) a.2)
  | .inr o => ∀ r : vw_C, vwCl[o.1]? = some r → t_OB q ((ac_D E).1 o.1) r.2.2 ((ac_D E).2 o.1) H (vp_V (o.2.map (ac_v E)))
def ac_W (E : ac_E) (h : ac_H) (H : Heap) : Prop := H.size = ac_b E + h.length ∧ ∀ (k : Nat) (c : ac_C), h[k]? = some c → ac_at E (ac_b E + k) c H
theorem ac_at.kept {E : ac_E} {q : Nat} {c : ac_C} {H H1 : Heap} (h : ac_at E q c H) (hq : H1[q]? = H[q]?) : ac_at E q c H1 := by
  cases c with
  | inl a => exact hq.trans h
  | inr o => exact fun r hr => (h r hr).kept hq
theorem ac_W.set {E : ac_E} {h : ac_H} {H H1 : Heap} {k : Nat} {c c0 : ac_C} (hw : ac_W E h H) (hk : h[k]? = some c0) (hz : H1.size = H.size) (ho : ∀ q : Nat, q ≠ ac_b E + k → H1[q]? = H[q]?) (hc : ac_at E (ac_b E + k) c H1) : ac_W E (h.set k c) H1 := by
  refine ⟨by rw [hz, hw.1, List.length_set], fun j d hj => ?_⟩
  by_cases e : k = j
  · subst e
    rw [List.getElem?_set_self (List.getElem?_eq_some_iff.mp hk).1] at hj
    cases hj
    exact hc
  · rw [List.getElem?_set_ne e] at hj
    exact (hw.2 j d hj).kept (ho _ (by omega))
theorem ac_W.push {E : ac_E} {h : ac_H} {H H1 : Heap} {c : ac_C} (hw : ac_W E h H) (hz : H1.size = H.size + 1) (ho : ∀ q : Nat, q < H.size → H1[q]? = H[q]?) (hc : ac_at E H.size c H1) : ac_W E (h ++ [c]) H1 := by
  refine ⟨by rw [hz, hw.1, List.length_append]; rfl, fun j d hj => ?_⟩
  by_cases e : j < h.length
  · rw [List.getElem?_append_left e] at hj
    exact (hw.2 j d hj).kept (ho _ (by rw [hw.1]; omega))
  · rw [List.getElem?_append_right (by omega)] at hj
    have hz : j - h.length < 1 := (List.getElem?_eq_some_iff.mp hj).1
    rw [show j - h.length = 0 by omega] at hj
    cases hj
    rw [show ac_b E + j = H.size by rw [hw.1]; omega]
    exact hc
theorem ac_S.put {E : ac_E} {H0 H H1 : Heap} {locs : List Loc} {k i : Nat} (h : va_S (ac_A E) H0 H locs) (z : H1.size = H.size) (oq : ∀ q : Nat, q ≠ ac_b E + k → H1[q]? = H[q]?) : va_S (ac_A E) H0 H1 (locs ++ [⟨ac_b E + k, i⟩]) := h.put z oq (Nat.le_add_right _ _)
theorem ac_S.push {E : ac_E} {H0 H H1 : Heap} {locs : List Loc} (h : va_S (ac_A E) H0 H locs) (z : H1.size = H.size + 1) (oq : ∀ q : Nat, q < H.size → H1[q]? = H[q]?) : va_S (ac_A E) H0 H1 locs := ⟨by rw [z]; exact Nat.le_succ_of_le h.1, fun q h1 h2 => (oq q (Nat.lt_of_lt_of_le h1 h.1)).trans (h.2.1 q h1 h2), h.2.2⟩
/-- locals -/
def ac_L (E : ac_E) (ls : Array Slot) (nl : Nat) (la : List Value) : Prop := ls.size = nl ∧ la.length = nl ∧ lv_wf ls ∧ ∀ (i : Nat) (a : Value), la[i]? = some a → ac_one a = true → ls[i]? = some (.val (ac_v E a))
theorem ac_one_cat (E : ac_E) {a : Value} (h : ac_one a = true) : (ac_v E a).category = 1 := by
  cases a <;> simp_all [ac_one, ac_v, Value.category]
def ac_lv (E : ac_E) (la : List Value) : List (Nat × Value) := (List.range la.length).filterMap (fun j => (la[j]?).bind (fun a => if ac_one a = true then some (j, ac_v E a) else none))
theorem ac_lv_mem {E : ac_E} {la : List Value} {q : Nat × Value} : q ∈ ac_lv E la ↔ ∃ a, la[q.1]? = some a ∧ ac_one a = true ∧ q.2 = ac_v E a := by
  unfold ac_lv
  rw [List.mem_filterMap]
  constructor
  · rintro ⟨j, hj, h⟩
    cases ha : la[j]? with
    | none => rw [ha] at h; cases h
    | some a =>
      rw [ha] at h
      simp only [Option.bind_some] at h
      split at h
      · cases h
        exact ⟨a, ha, by assumption, rfl⟩
      · cases h
  · rintro ⟨a, ha, ho, hq⟩
    refine ⟨q.1, List.mem_range.mpr (List.getElem?_eq_some_iff.mp ha).1, ?_⟩
    rw [ha]
    simp only [Option.bind_some, ho, if_true]
    rw [← hq]
theorem ac_L.has {E : ac_E} {ls : Array Slot} {nl : Nat} {la : List Value} (h : ac_L E ls nl la) : lv_has ls nl (ac_lv E la) := ⟨h.1, h.2.2.1, fun q hq => by
  obtain ⟨a, h1, h2, h3⟩ := ac_lv_mem.mp hq
  rw [h3]
  exact h.2.2.2 _ _ h1 h2⟩
/-- behind a store -/
theorem ac_L.put {E : ac_E} {ls ls' : Array Slot} {nl i : Nat} {la : List Value} {v a : Value} (h : ac_L E ls nl la) (h' : lv_has ls' nl ((i, v) :: (ac_lv E la).filter (fun q => !(q.1 == i) && !(q.1 + 1 == i && q.2.category == 2)))) (ha : ac_one a = true → ac_v E a = v) : ac_L E ls' nl (la.set i a) := by
  refine ⟨h'.1, by rw [List.length_set]; exact h.2.1, h'.2.1, fun j b hj hb => ?_⟩
  by_cases e : i = j
  · subst e
    rw [List.getElem?_set] at hj
    simp only [if_true] at hj
    split at hj
    · cases hj
      rw [ha hb]
      exact h'.2.2 (i, v) List.mem_cons_self
    · cases hj
  · rw [List.getElem?_set_ne e] at hj
    refine h'.2.2 (j, ac_v E b) (List.mem_cons_of_mem _ (List.mem_filter.mpr ⟨ac_lv_mem.mpr ⟨b, hj, hb, rfl⟩, ?_⟩))
    have hc := ac_one_cat E hb
    simp only [hc]
    simp
    omega
theorem ac_args : ∀ (E : ac_E) (vs : List Value) (n : Nat), (∀ v ∈ vs, ac_one v = true) → lg_sl (vs.map (ac_v E)) = (vs.map (ac_v E)).map Slot.val := by
  intro E vs n h
  induction vs with
  | nil => rfl
  | cons a l ih =>
    have h1 := ac_one_cat E (h a List.mem_cons_self)
    have h2 := ih (fun v hv => h v (List.mem_cons_of_mem _ hv))
    simp only [List.map_cons]
    rw [← h2]
    simp [lg_sl, h1]
theorem ac_entry {E : ac_E} {vs : List Value} {nl : Nat} (h : ∀ v ∈ vs, ac_one v = true) (hn : vs.length ≤ nl) : ac_L E ((lg_sl (vs.map (ac_v E)) ++ List.replicate (nl - (lg_sl (vs.map (ac_v E))).length) Slot.unset).toArray) nl (vs ++ List.replicate (nl - vs.length) ac_un) := by
  have e := ac_args E vs 0 h
  have hl : (lg_sl (vs.map (ac_v E))).length = vs.length := by rw [e]; simp
  obtain ⟨h1, h2, -⟩ := lv_entry (vs.map (ac_v E)) (n := nl) (by rw [hl]; exact hn)
  refine ⟨h1, by simp; omega, h2, fun i a hi ha => ?_⟩
  rw [e]
  by_cases q : i < vs.length
  · rw [List.getElem?_append_left q] at hi
    simp [List.getElem?_append_left, q]
    obtain ⟨_, hi⟩ := List.getElem?_eq_some_iff.mp hi
    rw [hi]
  · rw [List.getElem?_append_right (by omega)] at hi
    have := List.mem_of_getElem? hi
    rw [List.mem_replicate] at this
    rw [this.2] at ha
    cases ha
end
section
/-! ===== each operation is what the machine does ===== -/
/-- a method's body at its start -/
def ac_X (E : ac_E) (d : ac_M) (p : Program) (l : Launch) (R : Room) (s : State) (m : MethodId) (meth : Method) (c : Code) : Prop :=
  p.tables.exec = Jvm.exec ∧ c.code = d.2.1 ∧ meth.sig.returnType = d.2.2.2.1 ∧ c.maxLocals = d.2.2.1 ∧ s.vm.findClass d.1.cls = some m.cls ∧ meth.locks = false ∧ meth.name = d.1.name ∧
  (d.2.2.2.2.2.2.2 = false → ∀ x ∈ c.exceptionTable.toList, False) ∧ (d.2.2.2.2.2.2.2 = true → c.exceptionTable.toList = tableOf d.2.2.2.2.2.2.1) ∧
  d.2.2.2.2.1 ≤ R.frames ∧ d.2.2.2.2.2.1 ≤ R.locals ∧ l.stackTraces = false ∧ ac_G E s
def ac_ok (E : ac_E) (d : ac_M) (pc : Nat) (f : ac_S → Option ac_S) : Prop :=
  ∀ (p : Program) (l : Launch) (e : Env) (R : Room) (s : State) (m : MethodId) (args : Array Value) (below : List Frame) (meth : Method) (c : Code), ac_X E d p l R s m meth c →
  ∀ (Q : State → Prop) (ls st : List Value) (h : ac_H) (cn kn pc' : Nat) (ls' st' : List Value) (h' : ac_H) (cn' kn' : Nat), f (pc, ls, st, h, cn, kn) = some (pc', ls', st', h', cn', kn') →
  cn' ≤ R.cells → kn' ≤ R.slots →
  ∀ (H : Heap) (locs : List Loc) (la : Array Slot), ac_W E h H → va_S (ac_A E) s.heap H locs → ac_L E la d.2.2.1 ls →
  (∀ (H1 : Heap) (locs1 : List Loc) (la1 : Array Slot), ac_W E h' H1 → va_S (ac_A E) s.heap H1 locs1 → ac_L E la1 d.2.2.1 ls' → W p l e R s m args below meth c H1 locs1 cn' kn' Q (F0 m pc' la1 (st'.map (ac_v E)))) →
  W p l e R s m args below meth c H locs cn kn Q (F0 m pc la (st.map (ac_v E)))
theorem ok_iconst {E : ac_E} {d : ac_M} {pc : Nat} {n : Int} {v : Int32} (hd : decode d.2.1 pc = .ok (.iconst n, 1)) (hv : Int32.ofInt n = v) : ac_ok E d pc (o_con (.int v) (pc + 1)) := by
  intro p l e R s m args below meth c X Q ls st h cn kn pc' ls' st' h' cn' kn' hf hrc hrs H locs la hW hS hL k
  obtain ⟨hx, hb, hr, hml, hown, hlk, hnm, htf, htt, hfr, hlo, hl, hG⟩ := X
  cases hf
  exact lv_iconst hx hb hd hv (k H locs la hW hS hL)
theorem ok_bipush {E : ac_E} {d : ac_M} {pc : Nat} {n : Int} {v : Int32} (hd : decode d.2.1 pc = .ok (.bipush n, 2)) (hv : (Int8.ofInt n).toInt32 = v) : ac_ok E d pc (o_con (.int v) (pc + 2)) := by
  intro p l e R s m args below meth c X Q ls st h cn kn pc' ls' st' h' cn' kn' hf hrc hrs H locs la hW hS hL k
  obtain ⟨hx, hb, hr, hml, hown, hlk, hnm, htf, htt, hfr, hlo, hl, hG⟩ := X
  cases hf
  exact lv_bipush hx hb hd hv (k H locs la hW hS hL)
theorem ok_sipush {E : ac_E} {d : ac_M} {pc : Nat} {n : Int} {v : Int32} (hd : decode d.2.1 pc = .ok (.sipush n, 3)) (hv : (Int16.ofInt n).toInt32 = v) : ac_ok E d pc (o_con (.int v) (pc + 3)) := by
  intro p l e R s m args below meth c X Q ls st h cn kn pc' ls' st' h' cn' kn' hf hrc hrs H locs la hW hS hL k
  obtain ⟨hx, hb, hr, hml, hown, hlk, hnm, htf, htt, hfr, hlo, hl, hG⟩ := X
  cases hf
  exact lv_sipush hx hb hd hv (k H locs la hW hS hL)
theorem ok_lconst {E : ac_E} {d : ac_M} {pc : Nat} {n : Fin 2} {v : Int64} (hd : decode d.2.1 pc = .ok (.lconst n, 1)) (hv : Int64.ofNat (n : Nat) = v) : ac_ok E d pc (o_con (.long v) (pc + 1)) := by
  intro p l e R s m args below meth c X Q ls st h cn kn pc' ls' st' h' cn' kn' hf hrc hrs H locs la hW hS hL k
  obtain ⟨hx, hb, hr, hml, hown, hlk, hnm, htf, htt, hfr, hlo, hl, hG⟩ := X
  cases hf
  exact lv_lconst hx hb hd hv (k H locs la hW hS hL)
theorem ok_ldc {E : ac_E} {d : ac_M} {pc : Nat} {i : Nat} {v : Int32} (hd : decode d.2.1 pc = .ok (.ldc i, 2)) (hw : Cond.constant d.1.cls i v ∈ ac_tbl) : ac_ok E d pc (o_con (.int v) (pc + 2)) := by
  intro p l e R s m args below meth c X Q ls st h cn kn pc' ls' st' h' cn' kn' hf hrc hrs H locs la hW hS hL k
  obtain ⟨hx, hb, hr, hml, hown, hlk, hnm, htf, htt, hfr, hlo, hl, hG⟩ := X
  cases hf
  exact lv_ldc hx hb hown (hG.2.1 _ _ hw) hd (k H locs la hW hS hL)
theorem ok_ldc_w {E : ac_E} {d : ac_M} {pc : Nat} {i : Nat} {v : Int32} (hd : decode d.2.1 pc = .ok (.ldc_w i, 3)) (hw : Cond.constant d.1.cls i v ∈ ac_tbl) : ac_ok E d pc (o_con (.int v) (pc + 3)) := by
  intro p l e R s m args below meth c X Q ls st h cn kn pc' ls' st' h' cn' kn' hf hrc hrs H locs la hW hS hL k
  obtain ⟨hx, hb, hr, hml, hown, hlk, hnm, htf, htt, hfr, hlo, hl, hG⟩ := X
  cases hf
  exact lv_ldcw hx hb hown (hG.2.1 _ _ hw) hd (k H locs la hW hS hL)
theorem ok_iload_n {E : ac_E} {d : ac_M} {pc : Nat} {j : Fin 4} (hd : decode d.2.1 pc = .ok (.iload_n j, 1)) : ac_ok E d pc (o_ild (j : Nat) (pc + 1)) := by
  intro p l e R s m args below meth c X Q ls st h cn kn pc' ls' st' h' cn' kn' hf hrc hrs H locs la hW hS hL k
  obtain ⟨hx, hb, hr, hml, hown, hlk, hnm, htf, htt, hfr, hlo, hl, hG⟩ := X
  unfold o_ild at hf
  dsimp only at hf
  split at hf
  · rename_i x hx2
    cases hf
    exact lv_iload_n hx hb hd rfl (hL.2.2.2 _ _ hx2 rfl) (k H locs la hW hS hL)
  · cases hf
theorem ok_iload {E : ac_E} {d : ac_M} {pc : Nat} {i : Nat} (hd : decode d.2.1 pc = .ok (.iload i, 2)) : ac_ok E d pc (o_ild i (pc + 2)) := by
  intro p l e R s m args below meth c X Q ls st h cn kn pc' ls' st' h' cn' kn' hf hrc hrs H locs la hW hS hL k
  obtain ⟨hx, hb, hr, hml, hown, hlk, hnm, htf, htt, hfr, hlo, hl, hG⟩ := X
  unfold o_ild at hf
  dsimp only at hf
  split at hf
  · rename_i x hx2
    cases hf
    exact lv_iload hx hb hd (hL.2.2.2 _ _ hx2 rfl) (k H locs la hW hS hL)
  · cases hf
theorem ok_aload_n {E : ac_E} {d : ac_M} {pc : Nat} {j : Fin 4} (hd : decode d.2.1 pc = .ok (.aload_n j, 1)) : ac_ok E d pc (o_ald (j : Nat) (pc + 1)) := by
  intro p l e R s m args below meth c X Q ls st h cn kn pc' ls' st' h' cn' kn' hf hrc hrs H locs la hW hS hL k
  obtain ⟨hx, hb, hr, hml, hown, hlk, hnm, htf, htt, hfr, hlo, hl, hG⟩ := X
  unfold o_ald at hf
  dsimp only at hf
  split at hf
  · rename_i x hx2
    cases hf
    exact lv_aload_n hx hb hd rfl (hL.2.2.2 _ _ hx2 rfl) (k H locs la hW hS hL)
  · rename_i x hx2
    cases hf
    exact lv_aload_n hx hb hd rfl (hL.2.2.2 _ _ hx2 rfl) (k H locs la hW hS hL)
  · cases hf
theorem ok_aload {E : ac_E} {d : ac_M} {pc : Nat} {i : Nat} (hd : decode d.2.1 pc = .ok (.aload i, 2)) : ac_ok E d pc (o_ald i (pc + 2)) := by
  intro p l e R s m args below meth c X Q ls st h cn kn pc' ls' st' h' cn' kn' hf hrc hrs H locs la hW hS hL k
  obtain ⟨hx, hb, hr, hml, hown, hlk, hnm, htf, htt, hfr, hlo, hl, hG⟩ := X
  unfold o_ald at hf
  dsimp only at hf
  split at hf
  · rename_i x hx2
    cases hf
    exact lv_aload hx hb hd (hL.2.2.2 _ _ hx2 rfl) (k H locs la hW hS hL)
  · rename_i x hx2
    cases hf
    exact lv_aload hx hb hd (hL.2.2.2 _ _ hx2 rfl) (k H locs la hW hS hL)
  · cases hf
theorem ok_istore_n {E : ac_E} {d : ac_M} {pc : Nat} {j : Fin 4} (hd : decode d.2.1 pc = .ok (.istore_n j, 1)) : ac_ok E d pc (o_ist (j : Nat) (pc + 1)) := by
  intro p l e R s m args below meth c X Q ls st h cn kn pc' ls' st' h' cn' kn' hf hrc hrs H locs la hW hS hL k
  obtain ⟨hx, hb, hr, hml, hown, hlk, hnm, htf, htt, hfr, hlo, hl, hG⟩ := X
  unfold o_ist at hf
  dsimp only at hf
  split at hf
  · obtain ⟨hi, hf⟩ := ac_set_some hf
    cases hf
    exact lv_istore_n hx hb hd rfl hL.has (by rw [← hL.2.1]; exact hi) rfl (fun ls1 h1 => k H locs ls1 hW hS (hL.put h1 (fun _ => rfl)))
  · cases hf
theorem ok_istore {E : ac_E} {d : ac_M} {pc : Nat} {i : Nat} (hd : decode d.2.1 pc = .ok (.istore i, 2)) : ac_ok E d pc (o_ist i (pc + 2)) := by
  intro p l e R s m args below meth c X Q ls st h cn kn pc' ls' st' h' cn' kn' hf hrc hrs H locs la hW hS hL k
  obtain ⟨hx, hb, hr, hml, hown, hlk, hnm, htf, htt, hfr, hlo, hl, hG⟩ := X
  unfold o_ist at hf
  dsimp only at hf
  split at hf
  · obtain ⟨hi, hf⟩ := ac_set_some hf
    cases hf
    exact lv_istore hx hb hd hL.has (by rw [← hL.2.1]; exact hi) rfl (fun ls1 h1 => k H locs ls1 hW hS (hL.put h1 (fun _ => rfl)))
  · cases hf
theorem ok_astore_n {E : ac_E} {d : ac_M} {pc : Nat} {j : Fin 4} (hd : decode d.2.1 pc = .ok (.astore_n j, 1)) : ac_ok E d pc (o_ast (j : Nat) (pc + 1)) := by
  intro p l e R s m args below meth c X Q ls st h cn kn pc' ls' st' h' cn' kn' hf hrc hrs H locs la hW hS hL k
  obtain ⟨hx, hb, hr, hml, hown, hlk, hnm, htf, htt, hfr, hlo, hl, hG⟩ := X
  unfold o_ast at hf
  dsimp only at hf
  split at hf
  · obtain ⟨hi, hf⟩ := ac_set_some hf
    cases hf
    exact lv_astore_n hx hb hd rfl hL.has (by rw [← hL.2.1]; exact hi) rfl (fun ls1 h1 => k H locs ls1 hW hS (hL.put h1 (fun _ => rfl)))
  · cases hf
theorem ok_astore {E : ac_E} {d : ac_M} {pc : Nat} {i : Nat} (hd : decode d.2.1 pc = .ok (.astore i, 2)) : ac_ok E d pc (o_ast i (pc + 2)) := by
  intro p l e R s m args below meth c X Q ls st h cn kn pc' ls' st' h' cn' kn' hf hrc hrs H locs la hW hS hL k
  obtain ⟨hx, hb, hr, hml, hown, hlk, hnm, htf, htt, hfr, hlo, hl, hG⟩ := X
  unfold o_ast at hf
  dsimp only at hf
  split at hf
  · obtain ⟨hi, hf⟩ := ac_set_some hf
    cases hf
    exact lv_astore hx hb hd hL.has (by rw [← hL.2.1]; exact hi) rfl (fun ls1 h1 => k H locs ls1 hW hS (hL.put h1 (fun _ => rfl)))
  · cases hf
theorem ok_iinc {E : ac_E} {d : ac_M} {pc : Nat} {i : Nat} {n : Int} {v : Int32} (hd : decode d.2.1 pc = .ok (.iinc i n, 3)) (hv : Int32.ofInt n = v) : ac_ok E d pc (o_inc i v (pc + 3)) := by
  intro p l e R s m args below meth c X Q ls st h cn kn pc' ls' st' h' cn' kn' hf hrc hrs H locs la hW hS hL k
  obtain ⟨hx, hb, hr, hml, hown, hlk, hnm, htf, htt, hfr, hlo, hl, hG⟩ := X
  subst hv
  unfold o_inc at hf
  dsimp only at hf
  split at hf
  · rename_i x hx2
    obtain ⟨hi, hf⟩ := ac_set_some hf
    cases hf
    obtain ⟨q, hq⟩ := List.getElem?_of_mem (ac_lv_mem (E := E) (q := (i, .int x)).mpr ⟨_, hx2, rfl, rfl⟩)
    exact lv_iinc hx hb hd hL.has hq rfl (by rw [← hL.2.1]; exact hi) rfl (fun ls1 h1 => k H locs ls1 hW hS (hL.put h1 (fun _ => rfl)))
  · cases hf
theorem ok_iadd {E : ac_E} {d : ac_M} {pc : Nat} (hd : decode d.2.1 pc = .ok (.iadd, 1)) : ac_ok E d pc (o_add (pc + 1)) := by
  intro p l e R s m args below meth c X Q ls st h cn kn pc' ls' st' h' cn' kn' hf hrc hrs H locs la hW hS hL k
  obtain ⟨hx, hb, hr, hml, hown, hlk, hnm, htf, htt, hfr, hlo, hl, hG⟩ := X
  unfold o_add at hf
  dsimp only at hf
  split at hf
  · cases hf
    exact lv_iadd hx hb hd (k H locs la hW hS hL)
  · cases hf
theorem ok_isub {E : ac_E} {d : ac_M} {pc : Nat} (hd : decode d.2.1 pc = .ok (.isub, 1)) : ac_ok E d pc (o_sub (pc + 1)) := by
  intro p l e R s m args below meth c X Q ls st h cn kn pc' ls' st' h' cn' kn' hf hrc hrs H locs la hW hS hL k
  obtain ⟨hx, hb, hr, hml, hown, hlk, hnm, htf, htt, hfr, hlo, hl, hG⟩ := X
  unfold o_sub at hf
  dsimp only at hf
  split at hf
  · cases hf
    exact lv_isub hx hb hd (k H locs la hW hS hL)
  · cases hf
theorem ok_imul {E : ac_E} {d : ac_M} {pc : Nat} (hd : decode d.2.1 pc = .ok (.imul, 1)) : ac_ok E d pc (o_mul (pc + 1)) := by
  intro p l e R s m args below meth c X Q ls st h cn kn pc' ls' st' h' cn' kn' hf hrc hrs H locs la hW hS hL k
  obtain ⟨hx, hb, hr, hml, hown, hlk, hnm, htf, htt, hfr, hlo, hl, hG⟩ := X
  unfold o_mul at hf
  dsimp only at hf
  split at hf
  · cases hf
    exact lv_imul hx hb hd (k H locs la hW hS hL)
  · cases hf
theorem ok_iand {E : ac_E} {d : ac_M} {pc : Nat} (hd : decode d.2.1 pc = .ok (.iand, 1)) : ac_ok E d pc (o_and (pc + 1)) := by
  intro p l e R s m args below meth c X Q ls st h cn kn pc' ls' st' h' cn' kn' hf hrc hrs H locs la hW hS hL k
  obtain ⟨hx, hb, hr, hml, hown, hlk, hnm, htf, htt, hfr, hlo, hl, hG⟩ := X
  unfold o_and at hf
  dsimp only at hf
  split at hf
  · cases hf
    exact lv_iand hx hb hd (k H locs la hW hS hL)
  · cases hf
theorem ok_ior {E : ac_E} {d : ac_M} {pc : Nat} (hd : decode d.2.1 pc = .ok (.ior, 1)) : ac_ok E d pc (o_or (pc + 1)) := by
  intro p l e R s m args below meth c X Q ls st h cn kn pc' ls' st' h' cn' kn' hf hrc hrs H locs la hW hS hL k
  obtain ⟨hx, hb, hr, hml, hown, hlk, hnm, htf, htt, hfr, hlo, hl, hG⟩ := X
  unfold o_or at hf
  dsimp only at hf
  split at hf
  · cases hf
    exact lv_ior hx hb hd (k H locs la hW hS hL)
  · cases hf
theorem ok_ixor {E : ac_E} {d : ac_M} {pc : Nat} (hd : decode d.2.1 pc = .ok (.ixor, 1)) : ac_ok E d pc (o_xor (pc + 1)) := by
  intro p l e R s m args below meth c X Q ls st h cn kn pc' ls' st' h' cn' kn' hf hrc hrs H locs la hW hS hL k
  obtain ⟨hx, hb, hr, hml, hown, hlk, hnm, htf, htt, hfr, hlo, hl, hG⟩ := X
  unfold o_xor at hf
  dsimp only at hf
  split at hf
  · cases hf
    exact lv_ixor hx hb hd (k H locs la hW hS hL)
  · cases hf
theorem ok_ishl {E : ac_E} {d : ac_M} {pc : Nat} (hd : decode d.2.1 pc = .ok (.ishl, 1)) : ac_ok E d pc (o_shl (pc + 1)) := by
  intro p l e R s m args below meth c X Q ls st h cn kn pc' ls' st' h' cn' kn' hf hrc hrs H locs la hW hS hL k
  obtain ⟨hx, hb, hr, hml, hown, hlk, hnm, htf, htt, hfr, hlo, hl, hG⟩ := X
  unfold o_shl at hf
  dsimp only at hf
  split at hf
  · cases hf
    exact lv_ishl hx hb hd (k H locs la hW hS hL)
  · cases hf
theorem ok_ishr {E : ac_E} {d : ac_M} {pc : Nat} (hd : decode d.2.1 pc = .ok (.ishr, 1)) : ac_ok E d pc (o_shr (pc + 1)) := by
  intro p l e R s m args below meth c X Q ls st h cn kn pc' ls' st' h' cn' kn' hf hrc hrs H locs la hW hS hL k
  obtain ⟨hx, hb, hr, hml, hown, hlk, hnm, htf, htt, hfr, hlo, hl, hG⟩ := X
  unfold o_shr at hf
  dsimp only at hf
  split at hf
  · cases hf
    exact lv_ishr hx hb hd (k H locs la hW hS hL)
  · cases hf
theorem ok_iushr {E : ac_E} {d : ac_M} {pc : Nat} (hd : decode d.2.1 pc = .ok (.iushr, 1)) : ac_ok E d pc (o_ush (pc + 1)) := by
  intro p l e R s m args below meth c X Q ls st h cn kn pc' ls' st' h' cn' kn' hf hrc hrs H locs la hW hS hL k
  obtain ⟨hx, hb, hr, hml, hown, hlk, hnm, htf, htt, hfr, hlo, hl, hG⟩ := X
  unfold o_ush at hf
  dsimp only at hf
  split at hf
  · cases hf
    exact lv_iushr hx hb hd rfl (k H locs la hW hS hL)
  · cases hf
theorem ok_idiv {E : ac_E} {d : ac_M} {pc : Nat} (hd : decode d.2.1 pc = .ok (.idiv, 1)) : ac_ok E d pc (o_div (pc + 1)) := by
  intro p l e R s m args below meth c X Q ls st h cn kn pc' ls' st' h' cn' kn' hf hrc hrs H locs la hW hS hL k
  obtain ⟨hx, hb, hr, hml, hown, hlk, hnm, htf, htt, hfr, hlo, hl, hG⟩ := X
  unfold o_div at hf
  dsimp only at hf
  split at hf
  · split at hf
    · cases hf
    · cases hf
      exact lv_idiv hx hb hd (by assumption) (k H locs la hW hS hL)
  · cases hf
theorem ok_irem {E : ac_E} {d : ac_M} {pc : Nat} (hd : decode d.2.1 pc = .ok (.irem, 1)) : ac_ok E d pc (o_rem (pc + 1)) := by
  intro p l e R s m args below meth c X Q ls st h cn kn pc' ls' st' h' cn' kn' hf hrc hrs H locs la hW hS hL k
  obtain ⟨hx, hb, hr, hml, hown, hlk, hnm, htf, htt, hfr, hlo, hl, hG⟩ := X
  unfold o_rem at hf
  dsimp only at hf
  split at hf
  · split at hf
    · cases hf
    · cases hf
      exact lv_irem hx hb hd (by assumption) (k H locs la hW hS hL)
  · cases hf
theorem ok_ineg {E : ac_E} {d : ac_M} {pc : Nat} (hd : decode d.2.1 pc = .ok (.ineg, 1)) : ac_ok E d pc (o_neg (pc + 1)) := by
  intro p l e R s m args below meth c X Q ls st h cn kn pc' ls' st' h' cn' kn' hf hrc hrs H locs la hW hS hL k
  obtain ⟨hx, hb, hr, hml, hown, hlk, hnm, htf, htt, hfr, hlo, hl, hG⟩ := X
  unfold o_neg at hf
  dsimp only at hf
  split at hf
  · cases hf
    exact lv_ineg hx hb hd (k H locs la hW hS hL)
  · cases hf
theorem ok_i2l {E : ac_E} {d : ac_M} {pc : Nat} (hd : decode d.2.1 pc = .ok (.i2l, 1)) : ac_ok E d pc (o_i2l (pc + 1)) := by
  intro p l e R s m args below meth c X Q ls st h cn kn pc' ls' st' h' cn' kn' hf hrc hrs H locs la hW hS hL k
  obtain ⟨hx, hb, hr, hml, hown, hlk, hnm, htf, htt, hfr, hlo, hl, hG⟩ := X
  unfold o_i2l at hf
  dsimp only at hf
  split at hf
  · cases hf
    exact lv_i2l hx hb hd rfl (k H locs la hW hS hL)
  · cases hf
theorem ok_lcmp {E : ac_E} {d : ac_M} {pc : Nat} (hd : decode d.2.1 pc = .ok (.lcmp, 1)) : ac_ok E d pc (o_lcm (pc + 1)) := by
  intro p l e R s m args below meth c X Q ls st h cn kn pc' ls' st' h' cn' kn' hf hrc hrs H locs la hW hS hL k
  obtain ⟨hx, hb, hr, hml, hown, hlk, hnm, htf, htt, hfr, hlo, hl, hG⟩ := X
  unfold o_lcm at hf
  dsimp only at hf
  split at hf
  · cases hf
    exact W.lcmp hx hb hd (k H locs la hW hS hL)
  · cases hf
theorem ok_dup {E : ac_E} {d : ac_M} {pc : Nat} (hd : decode d.2.1 pc = .ok (.dup, 1)) : ac_ok E d pc (o_dup (pc + 1)) := by
  intro p l e R s m args below meth c X Q ls st h cn kn pc' ls' st' h' cn' kn' hf hrc hrs H locs la hW hS hL k
  obtain ⟨hx, hb, hr, hml, hown, hlk, hnm, htf, htt, hfr, hlo, hl, hG⟩ := X
  unfold o_dup at hf
  dsimp only at hf
  split at hf
  · cases hf
    exact lv_dup hx hb hd rfl (k H locs la hW hS hL)
  · cases hf
    exact lv_dup hx hb hd rfl (k H locs la hW hS hL)
  · cases hf
theorem ok_dup_x1 {E : ac_E} {d : ac_M} {pc : Nat} (hd : decode d.2.1 pc = .ok (.dup_x1, 1)) : ac_ok E d pc (o_dx1 (pc + 1)) := by
  intro p l e R s m args below meth c X Q ls st h cn kn pc' ls' st' h' cn' kn' hf hrc hrs H locs la hW hS hL k
  obtain ⟨hx, hb, hr, hml, hown, hlk, hnm, htf, htt, hfr, hlo, hl, hG⟩ := X
  unfold o_dx1 at hf
  dsimp only at hf
  split at hf
  · cases hf
    exact lv_dup_x1 hx hb hd rfl rfl (k H locs la hW hS hL)
  · cases hf
theorem ok_dup2 {E : ac_E} {d : ac_M} {pc : Nat} (hd : decode d.2.1 pc = .ok (.dup2, 1)) : ac_ok E d pc (o_dp2 (pc + 1)) := by
  intro p l e R s m args below meth c X Q ls st h cn kn pc' ls' st' h' cn' kn' hf hrc hrs H locs la hW hS hL k
  obtain ⟨hx, hb, hr, hml, hown, hlk, hnm, htf, htt, hfr, hlo, hl, hG⟩ := X
  unfold o_dp2 at hf
  dsimp only at hf
  split at hf
  · cases hf
    exact lv_dup2_11 hx hb hd rfl rfl (k H locs la hW hS hL)
  · cases hf
theorem ok_pop {E : ac_E} {d : ac_M} {pc : Nat} (hd : decode d.2.1 pc = .ok (.pop, 1)) : ac_ok E d pc (o_pop (pc + 1)) := by
  intro p l e R s m args below meth c X Q ls st h cn kn pc' ls' st' h' cn' kn' hf hrc hrs H locs la hW hS hL k
  obtain ⟨hx, hb, hr, hml, hown, hlk, hnm, htf, htt, hfr, hlo, hl, hG⟩ := X
  unfold o_pop at hf
  dsimp only at hf
  split at hf
  · cases hf
    exact lv_pop hx hb hd rfl (k H locs la hW hS hL)
  · cases hf
theorem ok_goto {E : ac_E} {d : ac_M} {pc : Nat} {off : Int} {t : Nat} (hd : decode d.2.1 pc = .ok (.goto off, 3)) (ht : (pc : Int) + off = (t : Int)) : ac_ok E d pc (o_go t) := by
  intro p l e R s m args below meth c X Q ls st h cn kn pc' ls' st' h' cn' kn' hf hrc hrs H locs la hW hS hL k
  obtain ⟨hx, hb, hr, hml, hown, hlk, hnm, htf, htt, hfr, hlo, hl, hG⟩ := X
  cases hf
  exact lv_goto hx hb hd ht (k H locs la hW hS hL)
theorem ok_ifeq {E : ac_E} {d : ac_M} {pc : Nat} {off : Int} {t : Nat} (hd : decode d.2.1 pc = .ok (.ifCond .eq off, 3)) (ht : (pc : Int) + off = (t : Int)) : ac_ok E d pc (o_eq0 t (pc + 3)) := by
  intro p l e R s m args below meth c X Q ls st h cn kn pc' ls' st' h' cn' kn' hf hrc hrs H locs la hW hS hL k
  obtain ⟨hx, hb, hr, hml, hown, hlk, hnm, htf, htt, hfr, hlo, hl, hG⟩ := X
  unfold o_eq0 at hf
  dsimp only at hf
  split at hf
  · cases hf
    have k1 := k H locs la hW hS hL
    refine lv_if_eq hx hb hd ht (fun q => ?_) (fun q => ?_)
    · first | (rw [if_pos q] at k1; exact k1) | (rw [if_neg q] at k1; exact k1)
    · first | (rw [if_pos q] at k1; exact k1) | (rw [if_neg q] at k1; exact k1)
  · cases hf
theorem ok_ifne {E : ac_E} {d : ac_M} {pc : Nat} {off : Int} {t : Nat} (hd : decode d.2.1 pc = .ok (.ifCond .ne off, 3)) (ht : (pc : Int) + off = (t : Int)) : ac_ok E d pc (o_ne0 t (pc + 3)) := by
  intro p l e R s m args below meth c X Q ls st h cn kn pc' ls' st' h' cn' kn' hf hrc hrs H locs la hW hS hL k
  obtain ⟨hx, hb, hr, hml, hown, hlk, hnm, htf, htt, hfr, hlo, hl, hG⟩ := X
  unfold o_ne0 at hf
  dsimp only at hf
  split at hf
  · cases hf
    have k1 := k H locs la hW hS hL
    refine lv_if_ne hx hb hd ht (fun q => ?_) (fun q => ?_)
    · first | (rw [if_pos q] at k1; exact k1) | (rw [if_neg q] at k1; exact k1)
    · first | (rw [if_pos q] at k1; exact k1) | (rw [if_neg q] at k1; exact k1)
  · cases hf
theorem ok_iflt {E : ac_E} {d : ac_M} {pc : Nat} {off : Int} {t : Nat} (hd : decode d.2.1 pc = .ok (.ifCond .lt off, 3)) (ht : (pc : Int) + off = (t : Int)) : ac_ok E d pc (o_lt0 t (pc + 3)) := by
  intro p l e R s m args below meth c X Q ls st h cn kn pc' ls' st' h' cn' kn' hf hrc hrs H locs la hW hS hL k
  obtain ⟨hx, hb, hr, hml, hown, hlk, hnm, htf, htt, hfr, hlo, hl, hG⟩ := X
  unfold o_lt0 at hf
  dsimp only at hf
  split at hf
  · cases hf
    have k1 := k H locs la hW hS hL
    refine lv_if_lt hx hb hd ht (fun q => ?_) (fun q => ?_)
    · first | (rw [if_pos q] at k1; exact k1) | (rw [if_neg q] at k1; exact k1)
    · first | (rw [if_pos q] at k1; exact k1) | (rw [if_neg q] at k1; exact k1)
  · cases hf
theorem ok_ifge {E : ac_E} {d : ac_M} {pc : Nat} {off : Int} {t : Nat} (hd : decode d.2.1 pc = .ok (.ifCond .ge off, 3)) (ht : (pc : Int) + off = (t : Int)) : ac_ok E d pc (o_ge0 t (pc + 3)) := by
  intro p l e R s m args below meth c X Q ls st h cn kn pc' ls' st' h' cn' kn' hf hrc hrs H locs la hW hS hL k
  obtain ⟨hx, hb, hr, hml, hown, hlk, hnm, htf, htt, hfr, hlo, hl, hG⟩ := X
  unfold o_ge0 at hf
  dsimp only at hf
  split at hf
  · cases hf
    have k1 := k H locs la hW hS hL
    refine lv_if_ge hx hb hd ht (fun q => ?_) (fun q => ?_)
    · first | (rw [if_pos q] at k1; exact k1) | (rw [if_neg q] at k1; exact k1)
    · first | (rw [if_pos q] at k1; exact k1) | (rw [if_neg q] at k1; exact k1)
  · cases hf
theorem ok_ifle {E : ac_E} {d : ac_M} {pc : Nat} {off : Int} {t : Nat} (hd : decode d.2.1 pc = .ok (.ifCond .le off, 3)) (ht : (pc : Int) + off = (t : Int)) : ac_ok E d pc (o_le0 t (pc + 3)) := by
  intro p l e R s m args below meth c X Q ls st h cn kn pc' ls' st' h' cn' kn' hf hrc hrs H locs la hW hS hL k
  obtain ⟨hx, hb, hr, hml, hown, hlk, hnm, htf, htt, hfr, hlo, hl, hG⟩ := X
  unfold o_le0 at hf
  dsimp only at hf
  split at hf
  · cases hf
    have k1 := k H locs la hW hS hL
    refine lv_if_le hx hb hd ht (fun q => ?_) (fun q => ?_)
    · first | (rw [if_pos q] at k1; exact k1) | (rw [if_neg q] at k1; exact k1)
    · first | (rw [if_pos q] at k1; exact k1) | (rw [if_neg q] at k1; exact k1)
  · cases hf
theorem ok_ifgt {E : ac_E} {d : ac_M} {pc : Nat} {off : Int} {t : Nat} (hd : decode d.2.1 pc = .ok (.ifCond .gt off, 3)) (ht : (pc : Int) + off = (t : Int)) : ac_ok E d pc (o_gt0 t (pc + 3)) := by
  intro p l e R s m args below meth c X Q ls st h cn kn pc' ls' st' h' cn' kn' hf hrc hrs H locs la hW hS hL k
  obtain ⟨hx, hb, hr, hml, hown, hlk, hnm, htf, htt, hfr, hlo, hl, hG⟩ := X
  unfold o_gt0 at hf
  dsimp only at hf
  split at hf
  · cases hf
    have k1 := k H locs la hW hS hL
    refine lv_if_gt hx hb hd ht (fun q => ?_) (fun q => ?_)
    · first | (rw [if_pos q] at k1; exact k1) | (rw [if_neg q] at k1; exact k1)
    · first | (rw [if_pos q] at k1; exact k1) | (rw [if_neg q] at k1; exact k1)
  · cases hf
theorem ok_icmpeq {E : ac_E} {d : ac_M} {pc : Nat} {off : Int} {t : Nat} (hd : decode d.2.1 pc = .ok (.if_icmp .eq off, 3)) (ht : (pc : Int) + off = (t : Int)) : ac_ok E d pc (o_eq t (pc + 3)) := by
  intro p l e R s m args below meth c X Q ls st h cn kn pc' ls' st' h' cn' kn' hf hrc hrs H locs la hW hS hL k
  obtain ⟨hx, hb, hr, hml, hown, hlk, hnm, htf, htt, hfr, hlo, hl, hG⟩ := X
  unfold o_eq at hf
  dsimp only at hf
  split at hf
  · cases hf
    have k1 := k H locs la hW hS hL
    refine lv_icmp_eq hx hb hd ht (fun q => ?_) (fun q => ?_)
    · first | (rw [if_pos q] at k1; exact k1) | (rw [if_neg q] at k1; exact k1)
    · first | (rw [if_pos q] at k1; exact k1) | (rw [if_neg q] at k1; exact k1)
  · cases hf
theorem ok_icmpne {E : ac_E} {d : ac_M} {pc : Nat} {off : Int} {t : Nat} (hd : decode d.2.1 pc = .ok (.if_icmp .ne off, 3)) (ht : (pc : Int) + off = (t : Int)) : ac_ok E d pc (o_ne t (pc + 3)) := by
  intro p l e R s m args below meth c X Q ls st h cn kn pc' ls' st' h' cn' kn' hf hrc hrs H locs la hW hS hL k
  obtain ⟨hx, hb, hr, hml, hown, hlk, hnm, htf, htt, hfr, hlo, hl, hG⟩ := X
  unfold o_ne at hf
  dsimp only at hf
  split at hf
  · cases hf
    have k1 := k H locs la hW hS hL
    refine lv_icmp_ne hx hb hd ht (fun q => ?_) (fun q => ?_)
    · first | (rw [if_pos q] at k1; exact k1) | (rw [if_neg q] at k1; exact k1)
    · first | (rw [if_pos q] at k1; exact k1) | (rw [if_neg q] at k1; exact k1)
  · cases hf
theorem ok_icmplt {E : ac_E} {d : ac_M} {pc : Nat} {off : Int} {t : Nat} (hd : decode d.2.1 pc = .ok (.if_icmp .lt off, 3)) (ht : (pc : Int) + off = (t : Int)) : ac_ok E d pc (o_lt t (pc + 3)) := by
  intro p l e R s m args below meth c X Q ls st h cn kn pc' ls' st' h' cn' kn' hf hrc hrs H locs la hW hS hL k
  obtain ⟨hx, hb, hr, hml, hown, hlk, hnm, htf, htt, hfr, hlo, hl, hG⟩ := X
  unfold o_lt at hf
  dsimp only at hf
  split at hf
  · cases hf
    have k1 := k H locs la hW hS hL
    refine lv_icmp_lt hx hb hd ht (fun q => ?_) (fun q => ?_)
    · first | (rw [if_pos q] at k1; exact k1) | (rw [if_neg q] at k1; exact k1)
    · first | (rw [if_pos q] at k1; exact k1) | (rw [if_neg q] at k1; exact k1)
  · cases hf
theorem ok_icmpge {E : ac_E} {d : ac_M} {pc : Nat} {off : Int} {t : Nat} (hd : decode d.2.1 pc = .ok (.if_icmp .ge off, 3)) (ht : (pc : Int) + off = (t : Int)) : ac_ok E d pc (o_ge t (pc + 3)) := by
  intro p l e R s m args below meth c X Q ls st h cn kn pc' ls' st' h' cn' kn' hf hrc hrs H locs la hW hS hL k
  obtain ⟨hx, hb, hr, hml, hown, hlk, hnm, htf, htt, hfr, hlo, hl, hG⟩ := X
  unfold o_ge at hf
  dsimp only at hf
  split at hf
  · cases hf
    have k1 := k H locs la hW hS hL
    refine lv_icmp_ge hx hb hd ht (fun q => ?_) (fun q => ?_)
    · first | (rw [if_pos q] at k1; exact k1) | (rw [if_neg q] at k1; exact k1)
    · first | (rw [if_pos q] at k1; exact k1) | (rw [if_neg q] at k1; exact k1)
  · cases hf
theorem ok_icmple {E : ac_E} {d : ac_M} {pc : Nat} {off : Int} {t : Nat} (hd : decode d.2.1 pc = .ok (.if_icmp .le off, 3)) (ht : (pc : Int) + off = (t : Int)) : ac_ok E d pc (o_le t (pc + 3)) := by
  intro p l e R s m args below meth c X Q ls st h cn kn pc' ls' st' h' cn' kn' hf hrc hrs H locs la hW hS hL k
  obtain ⟨hx, hb, hr, hml, hown, hlk, hnm, htf, htt, hfr, hlo, hl, hG⟩ := X
  unfold o_le at hf
  dsimp only at hf
  split at hf
  · cases hf
    have k1 := k H locs la hW hS hL
    refine lv_icmp_le hx hb hd ht (fun q => ?_) (fun q => ?_)
    · first | (rw [if_pos q] at k1; exact k1) | (rw [if_neg q] at k1; exact k1)
    · first | (rw [if_pos q] at k1; exact k1) | (rw [if_neg q] at k1; exact k1)
  · cases hf
theorem ok_icmpgt {E : ac_E} {d : ac_M} {pc : Nat} {off : Int} {t : Nat} (hd : decode d.2.1 pc = .ok (.if_icmp .gt off, 3)) (ht : (pc : Int) + off = (t : Int)) : ac_ok E d pc (o_gt t (pc + 3)) := by
  intro p l e R s m args below meth c X Q ls st h cn kn pc' ls' st' h' cn' kn' hf hrc hrs H locs la hW hS hL k
  obtain ⟨hx, hb, hr, hml, hown, hlk, hnm, htf, htt, hfr, hlo, hl, hG⟩ := X
  unfold o_gt at hf
  dsimp only at hf
  split at hf
  · cases hf
    have k1 := k H locs la hW hS hL
    refine lv_icmp_gt hx hb hd ht (fun q => ?_) (fun q => ?_)
    · first | (rw [if_pos q] at k1; exact k1) | (rw [if_neg q] at k1; exact k1)
    · first | (rw [if_pos q] at k1; exact k1) | (rw [if_neg q] at k1; exact k1)
  · cases hf
end
section
/-! ===== the operations on cells ===== -/
theorem ac_one_P {E : ac_E} {h : ac_H} {H : Heap} {a ci : Nat} {fs : List Value} {r : vw_C} (hW : ac_W E h H) (hh : h[a]? = some (.inr (ci, fs))) (hc : vwCl[ci]? = some r) : va_P (ac_D E) vwCl [(ac_b E + a, .inr (ci, fs.map (ac_v E)))] H := by
  intro k q hk
  have hz : k < 1 := (List.getElem?_eq_some_iff.mp hk).1
  rw [show k = 0 by omega] at hk
  cases hk
  exact ⟨r, hc, hW.2 a _ hh r hc⟩
theorem ac_one_Q {E : ac_E} {h : ac_H} {H : Heap} {a : Nat} {x : FieldType × vp_A} (hW : ac_W E h H) (hh : h[a]? = some (.inl x)) : va_P (ac_D E) vwCl [(ac_b E + a, .inl (ac_ca E x.1, x.2))] H := by
  intro k q hk
  have hz : k < 1 := (List.getElem?_eq_some_iff.mp hk).1
  rw [show k = 0 by omega] at hk
  cases hk
  exact hW.2 a _ hh
theorem ac_in_vp {i : Int32} {n : Nat} (h : ac_in i n = true) : vp_in i n := by
  simp only [ac_in, Bool.and_eq_true, decide_eq_true_eq] at h
  exact fun q => q.elim h.1 (fun q => absurd h.2 (Nat.not_lt.mpr q))
theorem ac_tl {P : Prop} {a b : Nat} (h : a ≤ b ∧ P) : a ≤ b := h.1
theorem ok_getf {E : ac_E} {d : ac_M} {pc : Nat} {ci f index : Nat} {C ref : String} {T : u_T} {N : Nat} (hc : vwCl[ci]? = some (C, T, N)) (hin : ∀ w ∈ u_ws C T N, w ∈ ac_tbl) (hfn : f < N) (href : (T f).1 = ref) (hw : Cond.fieldLink d.1.cls index ref (T f).2.1 (T f).2.2.1 ∈ ac_tbl) (hd : decode d.2.1 pc = .ok (.getfield index, 3)) : ac_ok E d pc (o_get ci f (pc + 3)) := by
  intro p l e R s m args below meth c X Q ls st h cn kn pc' ls' st' h' cn' kn' hf hrc hrs H locs la hW hS hL k
  obtain ⟨hx, hb, hr, hml, hown, hlk, hnm, htf, htt, hfr, hlo, hl, hG⟩ := X
  subst href
  unfold o_get at hf
  dsimp only at hf
  split at hf
  · rename_i a st1
    split at hf
    · rename_i cj fs hh
      split at hf
      · rename_i hcj
        subst hcj
        split at hf
        · rename_i v hv
          cases hf
          exact va_get hx hb (hG.2.1 args) hin hown hG.2.2.1 (ac_one_P hW hh hc) 0 rfl hc f hfn (hG.2.1 _ _ hw) (fun _ q => q) (v := ac_v E v) (by rw [List.getElem?_map, hv]; rfl) hd (k H locs la hW hS hL)
        · cases hf
      · cases hf
    · cases hf
  · cases hf
theorem ok_getN {E : ac_E} {d : ac_M} {pc : Nat} {ci f index : Nat} {C ref : String} {T : u_T} {N : Nat} (hc : vwCl[ci]? = some (C, T, N)) (hin : ∀ w ∈ u_ws C T N, w ∈ ac_tbl) (hfn : f < N) (href : (T f).1 = ref) {host : String} (hw : Cond.fieldLinkNest d.1.cls index ref (T f).2.1 (T f).2.2.1 host ∈ ac_tbl) (hd : decode d.2.1 pc = .ok (.getfield index, 3)) : ac_ok E d pc (o_get ci f (pc + 3)) := by
  intro p l e R s m args below meth c X Q ls st h cn kn pc' ls' st' h' cn' kn' hf hrc hrs H locs la hW hS hL k
  obtain ⟨hx, hb, hr, hml, hown, hlk, hnm, htf, htt, hfr, hlo, hl, hG⟩ := X
  subst href
  unfold o_get at hf
  dsimp only at hf
  split at hf
  · rename_i a st1
    split at hf
    · rename_i cj fs hh
      split at hf
      · rename_i hcj
        subst hcj
        split at hf
        · rename_i v hv
          cases hf
          exact va_getN hx hb (hG.2.1 args) hin hown hG.2.2.1 (ac_one_P hW hh hc) 0 rfl hc f hfn (hG.2.1 _ _ hw) (fun _ q => q) (v := ac_v E v) (by rw [List.getElem?_map, hv]; rfl) hd (k H locs la hW hS hL)
        · cases hf
      · cases hf
    · cases hf
  · cases hf
theorem ok_putf {E : ac_E} {d : ac_M} {pc : Nat} {ci f index : Nat} {C ref : String} {T : u_T} {N : Nat} (hc : vwCl[ci]? = some (C, T, N)) (hin : ∀ w ∈ u_ws C T N, w ∈ ac_tbl) (hfn : f < N) (href : (T f).1 = ref) (ty0 : Nat → FieldType) (hty : ∀ k, k < N → parseFieldDescriptor (T k).2.2.1 = some (ty0 k)) (hnmm : ∀ a, a < N → ∀ b, b < N → a ≠ b → (T a).2.1 ≠ (T b).2.1) (hdt : parseFieldDescriptor (T f).2.2.1 = some .int) (hfin : (T f).2.2.2 = false) (hw : Cond.fieldLink d.1.cls index ref (T f).2.1 (T f).2.2.1 ∈ ac_tbl) (hd : decode d.2.1 pc = .ok (.putfield index, 3)) : ac_ok E d pc (o_put ci f (pc + 3)) := by
  intro p l e R s m args below meth c X Q ls st h cn kn pc' ls' st' h' cn' kn' hf hrc hrs H locs la hW hS hL k
  obtain ⟨hx, hb, hr, hml, hown, hlk, hnm, htf, htt, hfr, hlo, hl, hG⟩ := X
  subst href
  have hts := hG.2.1 args
  have hap := va_apart (own := d.1.cls) hts hin ty0 hty hnmm hG.2.2.1 hc
  unfold o_put at hf
  dsimp only at hf
  split at hf
  · rename_i v a st1
    split at hf
    · rename_i cj fs hh
      split at hf
      · rename_i hcj
        subst hcj
        obtain ⟨hl1, hf⟩ := ac_set_some hf
        obtain ⟨hl2, hf⟩ := ac_set_some hf
        cases hf
        obtain ⟨cell, q1, q2, q3, q4⟩ := hW.2 a _ hh _ hc
        obtain ⟨hSl, hfc, kC, hkC, hkind⟩ := hG.2.2.1.1 cj _ hc
        obtain ⟨cf, kf, fi, fd, hi, hsl⟩ := hSl f hfn
        have hlay := hts _ (hin _ (u_in_lay hfn))
        unfold u_lay at hlay
        have hst := (u_facts hfc hkC (u_lays hts hin hfn) hi).1
        rw [if_neg (by rw [hfin]; decide)] at hlay
        have h6 := u_store (v := ac_v E (.int v)) hfc hkC hkind hlay hi hdt rfl rfl
        refine W.putK hx hb (f := fd) ⟨hown, hts _ hw, ⟨_, _, _, hi⟩, hst⟩ (by rw [q2]; exact h6) q1 q3 (by rw [hsl]; exact k2_hasslot (q4 f hfn)) rfl rfl hd fun H' e1 e2 e3 => ?_
        rw [hsl] at e1 ⊢
        refine k H' _ la (hW.set hh e2 e3 (c := .inr (cj, fs.set f (.int v))) (fun r hr => ?_)) (ac_S.put hS e2 e3) hL
        cases Option.some.inj (hr.symm.trans hc)
        rw [List.map_set]
        exact t_OB.to (V := updV (vp_V (fs.map (ac_v E))) f (ac_v E (.int v))) ⟨_, e1, q2, q3, t_set q4 hap hfn _⟩ (fun j _ => vp_updV_set (by simpa using hl1) _ j)
      · cases hf
    · cases hf
  · cases hf
theorem ok_putN {E : ac_E} {d : ac_M} {pc : Nat} {ci f index : Nat} {C ref : String} {T : u_T} {N : Nat} (hc : vwCl[ci]? = some (C, T, N)) (hin : ∀ w ∈ u_ws C T N, w ∈ ac_tbl) (hfn : f < N) (href : (T f).1 = ref) (ty0 : Nat → FieldType) (hty : ∀ k, k < N → parseFieldDescriptor (T k).2.2.1 = some (ty0 k)) (hnmm : ∀ a, a < N → ∀ b, b < N → a ≠ b → (T a).2.1 ≠ (T b).2.1) (hdt : parseFieldDescriptor (T f).2.2.1 = some .int) (hfin : (T f).2.2.2 = false) {host : String} (hw : Cond.fieldLinkNest d.1.cls index ref (T f).2.1 (T f).2.2.1 host ∈ ac_tbl) (hd : decode d.2.1 pc = .ok (.putfield index, 3)) : ac_ok E d pc (o_put ci f (pc + 3)) := by
  intro p l e R s m args below meth c X Q ls st h cn kn pc' ls' st' h' cn' kn' hf hrc hrs H locs la hW hS hL k
  obtain ⟨hx, hb, hr, hml, hown, hlk, hnm, htf, htt, hfr, hlo, hl, hG⟩ := X
  subst href
  have hts := hG.2.1 args
  have hap := va_apart (own := d.1.cls) hts hin ty0 hty hnmm hG.2.2.1 hc
  unfold o_put at hf
  dsimp only at hf
  split at hf
  · rename_i v a st1
    split at hf
    · rename_i cj fs hh
      split at hf
      · rename_i hcj
        subst hcj
        obtain ⟨hl1, hf⟩ := ac_set_some hf
        obtain ⟨hl2, hf⟩ := ac_set_some hf
        cases hf
        obtain ⟨cell, q1, q2, q3, q4⟩ := hW.2 a _ hh _ hc
        obtain ⟨hSl, hfc, kC, hkC, hkind⟩ := hG.2.2.1.1 cj _ hc
        obtain ⟨cf, kf, fi, fd, hi, hsl⟩ := hSl f hfn
        have hlay := hts _ (hin _ (u_in_lay hfn))
        unfold u_lay at hlay
        have hst := (u_facts hfc hkC (u_lays hts hin hfn) hi).1
        rw [if_neg (by rw [hfin]; decide)] at hlay
        have h6 := u_store (v := ac_v E (.int v)) hfc hkC hkind hlay hi hdt rfl rfl
        refine va_WputK hx hb (f := fd) hown (hts _ hw) hi hst (by rw [q2]; exact h6) q1 q3 (by rw [hsl]; exact k2_hasslot (q4 f hfn)) rfl rfl hd fun H' e1 e2 e3 => ?_
        rw [hsl] at e1 ⊢
        refine k H' _ la (hW.set hh e2 e3 (c := .inr (cj, fs.set f (.int v))) (fun r hr => ?_)) (ac_S.put hS e2 e3) hL
        cases Option.some.inj (hr.symm.trans hc)
        rw [List.map_set]
        exact t_OB.to (V := updV (vp_V (fs.map (ac_v E))) f (ac_v E (.int v))) ⟨_, e1, q2, q3, t_set q4 hap hfn _⟩ (fun j _ => vp_updV_set (by simpa using hl1) _ j)
      · cases hf
    · cases hf
  · cases hf
theorem ok_putF {E : ac_E} {d : ac_M} {pc : Nat} {ci f index : Nat} {C ref : String} {T : u_T} {N : Nat} (hc : vwCl[ci]? = some (C, T, N)) (hin : ∀ w ∈ u_ws C T N, w ∈ ac_tbl) (hfn : f < N) (href : (T f).1 = ref) (ty0 : Nat → FieldType) (hty : ∀ k, k < N → parseFieldDescriptor (T k).2.2.1 = some (ty0 k)) (hnmm : ∀ a, a < N → ∀ b, b < N → a ≠ b → (T a).2.1 ≠ (T b).2.1) (hdt : parseFieldDescriptor (T f).2.2.1 = some .int) (hfin : (T f).2.2.2 = true) (hini : d.1.name = "<init>") (hdecl : (T f).1 = d.1.cls) (hw : Cond.fieldLink d.1.cls index ref (T f).2.1 (T f).2.2.1 ∈ ac_tbl) (hd : decode d.2.1 pc = .ok (.putfield index, 3)) : ac_ok E d pc (o_put ci f (pc + 3)) := by
  intro p l e R s m args below meth c X Q ls st h cn kn pc' ls' st' h' cn' kn' hf hrc hrs H locs la hW hS hL k
  obtain ⟨hx, hb, hr, hml, hown, hlk, hnm, htf, htt, hfr, hlo, hl, hG⟩ := X
  subst href
  have hts := hG.2.1 args
  have hap := va_apart (own := d.1.cls) hts hin ty0 hty hnmm hG.2.2.1 hc
  unfold o_put at hf
  dsimp only at hf
  split at hf
  · rename_i v a st1
    split at hf
    · rename_i cj fs hh
      split at hf
      · rename_i hcj
        subst hcj
        obtain ⟨hl1, hf⟩ := ac_set_some hf
        obtain ⟨hl2, hf⟩ := ac_set_some hf
        cases hf
        obtain ⟨cell, q1, q2, q3, q4⟩ := hW.2 a _ hh _ hc
        obtain ⟨hSl, hfc, kC, hkC, hkind⟩ := hG.2.2.1.1 cj _ hc
        obtain ⟨cf, kf, fi, fd, hi, hsl⟩ := hSl f hfn
        have hlay := hts _ (hin _ (u_in_lay hfn))
        unfold u_lay at hlay
        have hst := (u_facts hfc hkC (u_lays hts hin hfn) hi).1
        rw [if_pos hfin] at hlay
        have hcf : m.cls = cf := by
          obtain ⟨_, _, c', _, _, _, -, -, hf', -, -, -, hown2, -⟩ := Cond.laysFinal_spec hlay
          have e1 : c' = cf := by have := hi.symm.trans hf'; simp at this; exact this.1.symm
          rw [hdecl] at hown2
          rw [← e1]; exact Option.some.inj (hown.symm.trans hown2)
        have h6 := u_fits (v := ac_v E (.int v)) hfc hkC hkind (Or.inr hlay) hi hdt rfl rfl
        refine W.putFinK hx hb hown (hts _ hw) hi hst hcf (hnm.trans hini) (by rw [q2]; exact h6) q1 q3 (by rw [hsl]; exact k2_hasslot (q4 f hfn)) rfl rfl hd fun H' e1 e2 e3 => ?_
        rw [hsl] at e1 ⊢
        refine k H' _ la (hW.set hh e2 e3 (c := .inr (cj, fs.set f (.int v))) (fun r hr => ?_)) (ac_S.put hS e2 e3) hL
        cases Option.some.inj (hr.symm.trans hc)
        rw [List.map_set]
        exact t_OB.to (V := updV (vp_V (fs.map (ac_v E))) f (ac_v E (.int v))) ⟨_, e1, q2, q3, t_set q4 hap hfn _⟩ (fun j _ => vp_updV_set (by simpa using hl1) _ j)
      · cases hf
    · cases hf
  · cases hf
theorem ok_purf {E : ac_E} {d : ac_M} {pc : Nat} {ci f index : Nat} {C ref : String} {T : u_T} {N : Nat} (hc : vwCl[ci]? = some (C, T, N)) (hin : ∀ w ∈ u_ws C T N, w ∈ ac_tbl) (hfn : f < N) (href : (T f).1 = ref) (ty0 : Nat → FieldType) (hty : ∀ k, k < N → parseFieldDescriptor (T k).2.2.1 = some (ty0 k)) (hnmm : ∀ a, a < N → ∀ b, b < N → a ≠ b → (T a).2.1 ≠ (T b).2.1) {tt : FieldType} (hdt0 : parseFieldDescriptor (T f).2.2.1 = some tt) (hrt : (∃ n, tt = .object n) ∨ ∃ t, tt = .array t) (hfin : (T f).2.2.2 = false) (hw : Cond.fieldLink d.1.cls index ref (T f).2.1 (T f).2.2.1 ∈ ac_tbl) (hd : decode d.2.1 pc = .ok (.putfield index, 3)) : ac_ok E d pc (o_pur ci f (pc + 3)) := by
  intro p l e R s m args below meth c X Q ls st h cn kn pc' ls' st' h' cn' kn' hf hrc hrs H locs la hW hS hL k
  obtain ⟨hx, hb, hr, hml, hown, hlk, hnm, htf, htt, hfr, hlo, hl, hG⟩ := X
  subst href
  have hts := hG.2.1 args
  have hap := va_apart (own := d.1.cls) hts hin ty0 hty hnmm hG.2.2.1 hc
  unfold o_pur at hf
  dsimp only at hf
  split at hf
  · rename_i v a st1
    split at hf
    · rename_i cj fs hh
      split at hf
      · rename_i hcj
        subst hcj
        obtain ⟨hl1, hf⟩ := ac_set_some hf
        obtain ⟨hl2, hf⟩ := ac_set_some hf
        cases hf
        obtain ⟨cell, q1, q2, q3, q4⟩ := hW.2 a _ hh _ hc
        obtain ⟨hSl, hfc, kC, hkC, hkind⟩ := hG.2.2.1.1 cj _ hc
        obtain ⟨cf, kf, fi, fd, hi, hsl⟩ := hSl f hfn
        have hlay := hts _ (hin _ (u_in_lay hfn))
        unfold u_lay at hlay
        have hst := (u_facts hfc hkC (u_lays hts hin hfn) hi).1
        rw [if_neg (by rw [hfin]; decide)] at hlay
        have h6 := u_store (v := ac_v E (.ref v)) hfc hkC hkind hlay hi hdt0 (by rcases hrt with ⟨_, rfl⟩ | ⟨_, rfl⟩ <;> rfl) (by rcases hrt with ⟨_, rfl⟩ | ⟨_, rfl⟩ <;> rfl)
        refine W.putK hx hb (f := fd) ⟨hown, hts _ hw, ⟨_, _, _, hi⟩, hst⟩ (by rw [q2]; exact h6) q1 q3 (by rw [hsl]; exact k2_hasslot (q4 f hfn)) rfl rfl hd fun H' e1 e2 e3 => ?_
        rw [hsl] at e1 ⊢
        refine k H' _ la (hW.set hh e2 e3 (c := .inr (cj, fs.set f (.ref v))) (fun r hr => ?_)) (ac_S.put hS e2 e3) hL
        cases Option.some.inj (hr.symm.trans hc)
        rw [List.map_set]
        exact t_OB.to (V := updV (vp_V (fs.map (ac_v E))) f (ac_v E (.ref v))) ⟨_, e1, q2, q3, t_set q4 hap hfn _⟩ (fun j _ => vp_updV_set (by simpa using hl1) _ j)
      · cases hf
    · cases hf
  · cases hf
theorem ok_purN {E : ac_E} {d : ac_M} {pc : Nat} {ci f index : Nat} {C ref : String} {T : u_T} {N : Nat} (hc : vwCl[ci]? = some (C, T, N)) (hin : ∀ w ∈ u_ws C T N, w ∈ ac_tbl) (hfn : f < N) (href : (T f).1 = ref) (ty0 : Nat → FieldType) (hty : ∀ k, k < N → parseFieldDescriptor (T k).2.2.1 = some (ty0 k)) (hnmm : ∀ a, a < N → ∀ b, b < N → a ≠ b → (T a).2.1 ≠ (T b).2.1) {tt : FieldType} (hdt0 : parseFieldDescriptor (T f).2.2.1 = some tt) (hrt : (∃ n, tt = .object n) ∨ ∃ t, tt = .array t) (hfin : (T f).2.2.2 = false) {host : String} (hw : Cond.fieldLinkNest d.1.cls index ref (T f).2.1 (T f).2.2.1 host ∈ ac_tbl) (hd : decode d.2.1 pc = .ok (.putfield index, 3)) : ac_ok E d pc (o_pur ci f (pc + 3)) := by
  intro p l e R s m args below meth c X Q ls st h cn kn pc' ls' st' h' cn' kn' hf hrc hrs H locs la hW hS hL k
  obtain ⟨hx, hb, hr, hml, hown, hlk, hnm, htf, htt, hfr, hlo, hl, hG⟩ := X
  subst href
  have hts := hG.2.1 args
  have hap := va_apart (own := d.1.cls) hts hin ty0 hty hnmm hG.2.2.1 hc
  unfold o_pur at hf
  dsimp only at hf
  split at hf
  · rename_i v a st1
    split at hf
    · rename_i cj fs hh
      split at hf
      · rename_i hcj
        subst hcj
        obtain ⟨hl1, hf⟩ := ac_set_some hf
        obtain ⟨hl2, hf⟩ := ac_set_some hf
        cases hf
        obtain ⟨cell, q1, q2, q3, q4⟩ := hW.2 a _ hh _ hc
        obtain ⟨hSl, hfc, kC, hkC, hkind⟩ := hG.2.2.1.1 cj _ hc
        obtain ⟨cf, kf, fi, fd, hi, hsl⟩ := hSl f hfn
        have hlay := hts _ (hin _ (u_in_lay hfn))
        unfold u_lay at hlay
        have hst := (u_facts hfc hkC (u_lays hts hin hfn) hi).1
        rw [if_neg (by rw [hfin]; decide)] at hlay
        have h6 := u_store (v := ac_v E (.ref v)) hfc hkC hkind hlay hi hdt0 (by rcases hrt with ⟨_, rfl⟩ | ⟨_, rfl⟩ <;> rfl) (by rcases hrt with ⟨_, rfl⟩ | ⟨_, rfl⟩ <;> rfl)
        refine va_WputK hx hb (f := fd) hown (hts _ hw) hi hst (by rw [q2]; exact h6) q1 q3 (by rw [hsl]; exact k2_hasslot (q4 f hfn)) rfl rfl hd fun H' e1 e2 e3 => ?_
        rw [hsl] at e1 ⊢
        refine k H' _ la (hW.set hh e2 e3 (c := .inr (cj, fs.set f (.ref v))) (fun r hr => ?_)) (ac_S.put hS e2 e3) hL
        cases Option.some.inj (hr.symm.trans hc)
        rw [List.map_set]
        exact t_OB.to (V := updV (vp_V (fs.map (ac_v E))) f (ac_v E (.ref v))) ⟨_, e1, q2, q3, t_set q4 hap hfn _⟩ (fun j _ => vp_updV_set (by simpa using hl1) _ j)
      · cases hf
    · cases hf
  · cases hf
theorem ok_purF {E : ac_E} {d : ac_M} {pc : Nat} {ci f index : Nat} {C ref : String} {T : u_T} {N : Nat} (hc : vwCl[ci]? = some (C, T, N)) (hin : ∀ w ∈ u_ws C T N, w ∈ ac_tbl) (hfn : f < N) (href : (T f).1 = ref) (ty0 : Nat → FieldType) (hty : ∀ k, k < N → parseFieldDescriptor (T k).2.2.1 = some (ty0 k)) (hnmm : ∀ a, a < N → ∀ b, b < N → a ≠ b → (T a).2.1 ≠ (T b).2.1) {tt : FieldType} (hdt0 : parseFieldDescriptor (T f).2.2.1 = some tt) (hrt : (∃ n, tt = .object n) ∨ ∃ t, tt = .array t) (hfin : (T f).2.2.2 = true) (hini : d.1.name = "<init>") (hdecl : (T f).1 = d.1.cls) (hw : Cond.fieldLink d.1.cls index ref (T f).2.1 (T f).2.2.1 ∈ ac_tbl) (hd : decode d.2.1 pc = .ok (.putfield index, 3)) : ac_ok E d pc (o_pur ci f (pc + 3)) := by
  intro p l e R s m args below meth c X Q ls st h cn kn pc' ls' st' h' cn' kn' hf hrc hrs H locs la hW hS hL k
  obtain ⟨hx, hb, hr, hml, hown, hlk, hnm, htf, htt, hfr, hlo, hl, hG⟩ := X
  subst href
  have hts := hG.2.1 args
  have hap := va_apart (own := d.1.cls) hts hin ty0 hty hnmm hG.2.2.1 hc
  unfold o_pur at hf
  dsimp only at hf
  split at hf
  · rename_i v a st1
    split at hf
    · rename_i cj fs hh
      split at hf
      · rename_i hcj
        subst hcj
        obtain ⟨hl1, hf⟩ := ac_set_some hf
        obtain ⟨hl2, hf⟩ := ac_set_some hf
        cases hf
        obtain ⟨cell, q1, q2, q3, q4⟩ := hW.2 a _ hh _ hc
        obtain ⟨hSl, hfc, kC, hkC, hkind⟩ := hG.2.2.1.1 cj _ hc
        obtain ⟨cf, kf, fi, fd, hi, hsl⟩ := hSl f hfn
        have hlay := hts _ (hin _ (u_in_lay hfn))
        unfold u_lay at hlay
        have hst := (u_facts hfc hkC (u_lays hts hin hfn) hi).1
        rw [if_pos hfin] at hlay
        have hcf : m.cls = cf := by
          obtain ⟨_, _, c', _, _, _, -, -, hf', -, -, -, hown2, -⟩ := Cond.laysFinal_spec hlay
          have e1 : c' = cf := by have := hi.symm.trans hf'; simp at this; exact this.1.symm
          rw [hdecl] at hown2
          rw [← e1]; exact Option.some.inj (hown.symm.trans hown2)
        have h6 := u_fits (v := ac_v E (.ref v)) hfc hkC hkind (Or.inr hlay) hi hdt0 (by rcases hrt with ⟨_, rfl⟩ | ⟨_, rfl⟩ <;> rfl) (by rcases hrt with ⟨_, rfl⟩ | ⟨_, rfl⟩ <;> rfl)
        refine W.putFinK hx hb hown (hts _ hw) hi hst hcf (hnm.trans hini) (by rw [q2]; exact h6) q1 q3 (by rw [hsl]; exact k2_hasslot (q4 f hfn)) rfl rfl hd fun H' e1 e2 e3 => ?_
        rw [hsl] at e1 ⊢
        refine k H' _ la (hW.set hh e2 e3 (c := .inr (cj, fs.set f (.ref v))) (fun r hr => ?_)) (ac_S.put hS e2 e3) hL
        cases Option.some.inj (hr.symm.trans hc)
        rw [List.map_set]
        exact t_OB.to (V := updV (vp_V (fs.map (ac_v E))) f (ac_v E (.ref v))) ⟨_, e1, q2, q3, t_set q4 hap hfn _⟩ (fun j _ => vp_updV_set (by simpa using hl1) _ j)
      · cases hf
    · cases hf
  · cases hf
theorem ok_sta {E : ac_E} {d : ac_M} {pc : Nat} {t : UInt32} {n : String} {index : Nat} (hn : ac_sn[t.toNat]? = some n) (hw : Cond.fieldLink d.1.cls index "SixWayGas" n "[I" ∈ ac_tbl) (hd : decode d.2.1 pc = .ok (.getstatic index, 3)) : ac_ok E d pc (o_sta t (pc + 3)) := by
  intro p l e R s m args below meth c X Q ls st h cn kn pc' ls' st' h' cn' kn' hf hrc hrs H locs la hW hS hL k
  obtain ⟨hx, hb, hr, hml, hown, hlk, hnm, htf, htt, hfr, hlo, hl, hG⟩ := X
  cases hf
  exact va_gets hx hb (hG.2.2.2.2.2.2.1 _ _ hn).1 hS hown (hG.2.1 _ _ hw) (fun _ q => q) hd (k H locs la hW hS hL)
theorem ok_staN {E : ac_E} {d : ac_M} {pc : Nat} {t : UInt32} {n : String} {index : Nat} (hn : ac_sn[t.toNat]? = some n) {host : String} (hw : Cond.fieldLinkNest d.1.cls index "SixWayGas" n "[I" host ∈ ac_tbl) (hd : decode d.2.1 pc = .ok (.getstatic index, 3)) : ac_ok E d pc (o_sta t (pc + 3)) := by
  intro p l e R s m args below meth c X Q ls st h cn kn pc' ls' st' h' cn' kn' hf hrc hrs H locs la hW hS hL k
  obtain ⟨hx, hb, hr, hml, hown, hlk, hnm, htf, htt, hfr, hlo, hl, hG⟩ := X
  cases hf
  exact va_getsN hx hb (hG.2.2.2.2.2.2.1 _ _ hn).1 hS hown (hG.2.1 _ _ hw) (fun _ q => q) hd (k H locs la hW hS hL)
theorem ok_iaload {E : ac_E} {d : ac_M} {pc : Nat} (hd : decode d.2.1 pc = .ok (.iaload, 1)) : ac_ok E d pc (o_ia (pc + 1)) := by
  intro p l e R s m args below meth c X Q ls st h cn kn pc' ls' st' h' cn' kn' hf hrc hrs H locs la hW hS hL k
  obtain ⟨hx, hb, hr, hml, hown, hlk, hnm, htf, htt, hfr, hlo, hl, hG⟩ := X
  unfold o_ia at hf
  dsimp only at hf
  split at hf
  · rename_i i a st1
    split at hf
    · rename_i n f hh
      split at hf
      · rename_i hi
        cases hf
        exact va_iald hx hb hG.2.2.1 (ac_one_Q hW hh) 0 0 rfl rfl (ac_in_vp hi) hd (k H locs la hW hS hL)
      · cases hf
    · cases hf
  · cases hf
theorem ok_zaload {E : ac_E} {d : ac_M} {pc : Nat} (hd : decode d.2.1 pc = .ok (.baload, 1)) : ac_ok E d pc (o_za (pc + 1)) := by
  intro p l e R s m args below meth c X Q ls st h cn kn pc' ls' st' h' cn' kn' hf hrc hrs H locs la hW hS hL k
  obtain ⟨hx, hb, hr, hml, hown, hlk, hnm, htf, htt, hfr, hlo, hl, hG⟩ := X
  unfold o_za at hf
  dsimp only at hf
  split at hf
  · rename_i i a st1
    split at hf
    · rename_i n f hh
      split at hf
      · rename_i hi
        cases hf
        exact va_zald hx hb hG.2.2.1 (ac_one_Q hW hh) 0 1 rfl rfl (ac_in_vp hi) hd (k H locs la hW hS hL)
      · cases hf
    · cases hf
  · cases hf
theorem ok_laload {E : ac_E} {d : ac_M} {pc : Nat} (hd : decode d.2.1 pc = .ok (.laload, 1)) : ac_ok E d pc (o_la (pc + 1)) := by
  intro p l e R s m args below meth c X Q ls st h cn kn pc' ls' st' h' cn' kn' hf hrc hrs H locs la hW hS hL k
  obtain ⟨hx, hb, hr, hml, hown, hlk, hnm, htf, htt, hfr, hlo, hl, hG⟩ := X
  unfold o_la at hf
  dsimp only at hf
  split at hf
  · rename_i i a st1
    split at hf
    · rename_i n f hh
      split at hf
      · rename_i hi
        cases hf
        exact va_lald hx hb hG.2.2.1 (ac_one_Q hW hh) 0 2 rfl rfl (ac_in_vp hi) hd (k H locs la hW hS hL)
      · cases hf
    · cases hf
  · cases hf
theorem ok_iastore {E : ac_E} {d : ac_M} {pc : Nat} (hd : decode d.2.1 pc = .ok (.iastore, 1)) : ac_ok E d pc (o_is (pc + 1)) := by
  intro p l e R s m args below meth c X Q ls st h cn kn pc' ls' st' h' cn' kn' hf hrc hrs H locs la hW hS hL k
  obtain ⟨hx, hb, hr, hml, hown, hlk, hnm, htf, htt, hfr, hlo, hl, hG⟩ := X
  unfold o_is at hf
  dsimp only at hf
  split at hf
  · rename_i x i a st1
    split at hf
    · rename_i n f hh
      split at hf
      · rename_i hi
        obtain ⟨hl1, hf⟩ := ac_set_some hf
        cases hf
        have hc0 := hW.2 a _ hh
        refine W.iast hx hb hc0 ((hG.2.2.1.2 0 _ rfl).1 n (fun j => .int (f j))) (fun q => by cases q) (by show ¬ (i < 0 ∨ (arrV _ _ _).slots.size ≤ _); rw [arrV_size]; exact ac_in_vp hi) rfl rfl hd fun H1 e z oq => ?_
        refine k H1 _ la (hW.set hh z oq (c := .inl (.int, n, .inl (upd f i.toNatClampNeg x))) ?_) (ac_S.put hS z oq) hL
        show H1[_]? = some (vp_cell _ _)
        rw [e]
        dsimp only
        rw [vp_cell_i, vp_cell_i, arrV_store]
        congr 2
        funext q
        by_cases hq : q = i.toNatClampNeg
        · subst hq
          simp [updV, upd]
        · simp [updV, upd, hq]
      · cases hf
    · cases hf
  · cases hf
theorem ok_zastore {E : ac_E} {d : ac_M} {pc : Nat} (hd : decode d.2.1 pc = .ok (.bastore, 1)) : ac_ok E d pc (o_zs (pc + 1)) := by
  intro p l e R s m args below meth c X Q ls st h cn kn pc' ls' st' h' cn' kn' hf hrc hrs H locs la hW hS hL k
  obtain ⟨hx, hb, hr, hml, hown, hlk, hnm, htf, htt, hfr, hlo, hl, hG⟩ := X
  unfold o_zs at hf
  dsimp only at hf
  split at hf
  · rename_i x i a st1
    split at hf
    · rename_i n f hh
      split at hf
      · rename_i hi
        obtain ⟨hl1, hf⟩ := ac_set_some hf
        cases hf
        have hc0 := hW.2 a _ hh
        refine W.zast hx hb hc0 ((hG.2.2.1.2 1 _ rfl).1 n (fun j => .int (f j))) (fun q => by cases q) (by show ¬ (i < 0 ∨ (arrV _ _ _).slots.size ≤ _); rw [arrV_size]; exact ac_in_vp hi) rfl rfl hd fun H1 e z oq => ?_
        refine k H1 _ la (hW.set hh z oq (c := .inl (.boolean, n, .inl (upd f i.toNatClampNeg (vp_nar .boolean x)))) ?_) (ac_S.put hS z oq) hL
        show H1[_]? = some (vp_cell _ _)
        rw [e]
        dsimp only
        rw [vp_cell_i, vp_cell_i, arrV_store]
        congr 2
        funext q
        by_cases hq : q = i.toNatClampNeg
        · subst hq
          simp [updV, upd, vp_nar, narrow]
        · simp [updV, upd, hq]
      · cases hf
    · cases hf
  · cases hf
theorem ok_lastore {E : ac_E} {d : ac_M} {pc : Nat} (hd : decode d.2.1 pc = .ok (.lastore, 1)) : ac_ok E d pc (o_ls (pc + 1)) := by
  intro p l e R s m args below meth c X Q ls st h cn kn pc' ls' st' h' cn' kn' hf hrc hrs H locs la hW hS hL k
  obtain ⟨hx, hb, hr, hml, hown, hlk, hnm, htf, htt, hfr, hlo, hl, hG⟩ := X
  unfold o_ls at hf
  dsimp only at hf
  split at hf
  · rename_i x i a st1
    split at hf
    · rename_i n f hh
      split at hf
      · rename_i hi
        obtain ⟨hl1, hf⟩ := ac_set_some hf
        cases hf
        have hc0 := hW.2 a _ hh
        refine W.last hx hb hc0 ((hG.2.2.1.2 2 _ rfl).1 n (fun j => .long (f j))) (fun q => by cases q) (by show ¬ (i < 0 ∨ (arrV _ _ _).slots.size ≤ _); rw [arrV_size]; exact ac_in_vp hi) rfl rfl hd fun H1 e z oq => ?_
        refine k H1 _ la (hW.set hh z oq (c := .inl (.long, n, .inr (.inl (vp_updL f i.toNatClampNeg x)))) ?_) (ac_S.put hS z oq) hL
        show H1[_]? = some (vp_cell _ _)
        rw [e]
        dsimp only
        rw [vp_cell_l, vp_cell_l, arrV_store]
        congr 2
        funext q
        by_cases hq : q = i.toNatClampNeg
        · subst hq
          simp [updV, vp_updL]
        · simp [updV, vp_updL, hq]
      · cases hf
    · cases hf
  · cases hf
theorem ok_ta {E : ac_E} {d : ac_M} {pc : Nat} (hd : decode d.2.1 pc = .ok (.iaload, 1)) : ac_ok E d pc (o_ta ac_tab (pc + 1)) := by
  intro p l e R s m args below meth c X Q ls st h cn kn pc' ls' st' h' cn' kn' hf hrc hrs H locs la hW hS hL k
  obtain ⟨hx, hb, hr, hml, hown, hlk, hnm, htf, htt, hfr, hlo, hl, hG⟩ := X
  unfold o_ta at hf
  dsimp only at hf
  split at hf
  · rename_i i t st1
    split at hf
    · rename_i hi
      cases hf
      have hn : ∃ n, ac_sn[t.toNat]? = some n := ⟨_, List.getElem?_eq_getElem (show t.toNat < ac_sn.length from hi.2)⟩
      obtain ⟨n, hn⟩ := hn
      exact va_ti hx hb (hG.2.2.2.2.2.2.1 _ _ hn).2 hS (ac_in_vp hi.1) rfl hd (k H locs la hW hS hL)
    · cases hf
  · cases hf
theorem ok_xa {E : ac_E} {d : ac_M} {pc : Nat} (hd : decode d.2.1 pc = .ok (.iaload, 1)) : ac_ok E d pc (o_xa (ac_len E) (ac_xs E) (pc + 1)) := by
  intro p l e R s m args below meth c X Q ls st h cn kn pc' ls' st' h' cn' kn' hf hrc hrs H locs la hW hS hL k
  obtain ⟨hx, hb, hr, hml, hown, hlk, hnm, htf, htt, hfr, hlo, hl, hG⟩ := X
  unfold o_xa at hf
  dsimp only at hf
  split at hf
  · rename_i i t st1
    split at hf
    · rename_i hi
      obtain ⟨hi, rfl⟩ := hi
      cases hf
      obtain ⟨hX, hb9⟩ := hG.2.2.2.2.2.2.2.1
      exact va_sld hx hb hX (Nat.lt_of_lt_of_le hb9 hG.1) (Nat.not_le.mpr hb9) hS (ac_in_vp hi) hd (k H locs la hW hS hL)
    · cases hf
  · cases hf
theorem ok_xl {E : ac_E} {d : ac_M} {pc : Nat} (hd : decode d.2.1 pc = .ok (.arraylength, 1)) : ac_ok E d pc (o_xl (ac_len E) (pc + 1)) := by
  intro p l e R s m args below meth c X Q ls st h cn kn pc' ls' st' h' cn' kn' hf hrc hrs H locs la hW hS hL k
  obtain ⟨hx, hb, hr, hml, hown, hlk, hnm, htf, htt, hfr, hlo, hl, hG⟩ := X
  unfold o_xl at hf
  dsimp only at hf
  split at hf
  · rename_i t st1
    split at hf
    · rename_i hi
      subst hi
      cases hf
      obtain ⟨hX, hb9⟩ := hG.2.2.2.2.2.2.2.1
      exact va_slen hx hb hX (Nat.lt_of_lt_of_le hb9 hG.1) (Nat.not_le.mpr hb9) hS hd (k H locs la hW hS hL)
    · cases hf
  · cases hf
theorem ok_len {E : ac_E} {d : ac_M} {pc : Nat} (hd : decode d.2.1 pc = .ok (.arraylength, 1)) : ac_ok E d pc (o_len (pc + 1)) := by
  intro p l e R s m args below meth c X Q ls st h cn kn pc' ls' st' h' cn' kn' hf hrc hrs H locs la hW hS hL k
  obtain ⟨hx, hb, hr, hml, hown, hlk, hnm, htf, htt, hfr, hlo, hl, hG⟩ := X
  unfold o_len at hf
  dsimp only at hf
  split at hf
  · rename_i a st1
    split at hf
    · rename_i n f hh
      cases hf
      exact va_alen hx hb hG.2.2.1 (ac_one_Q hW hh) 0 0 rfl rfl rfl hd (k H locs la hW hS hL)
    · cases hf
  · cases hf
theorem ok_ni {E : ac_E} {d : ac_M} {pc : Nat} (hd : decode d.2.1 pc = .ok (.newarray .int, 2)) (hw : Cond.arrayClass .int ∈ ac_tbl) : ac_ok E d pc (o_ni (pc + 2)) := by
  intro p l e R s m args below meth c X Q ls st h cn kn pc' ls' st' h' cn' kn' hf hrc hrs H locs la hW hS hL k
  obtain ⟨hx, hb, hr, hml, hown, hlk, hnm, htf, htt, hfr, hlo, hl, hG⟩ := X
  unfold o_ni at hf
  dsimp only at hf
  split at hf
  · rename_i n st1
    split at hf
    · rename_i hi
      cases hf
      refine va_newaK hx hb (atype := .int) (hG.2.1 _ _ hw) rfl hd rfl hi.1 rfl (by have := hi.2; simp only [newarray.typeOf, componentBytes]; omega) hrc hrs rfl fun H1 cA e1 z1 o1 hAr hNm => ?_
      have hcA : cA = ac_ca E .int := by
        have h9 := (hG.2.2.1.2 0 _ rfl).2
        have h8 : s.vm.findClass ("[" ++ (FieldType.int).toString) = some (ac_ca E .int) := h9
        exact Option.some.inj (hNm.symm.trans h8)
      subst hcA
      have hw1 := hW.push z1 o1 (c := .inl (.int, n.toNatClampNeg, .inl (fun _ => 0))) e1
      have k1 := k H1 locs la hw1 (ac_S.push hS z1 o1) hL
      rw [hW.1]
      exact k1
    · cases hf
  · cases hf
theorem ok_nz {E : ac_E} {d : ac_M} {pc : Nat} (hd : decode d.2.1 pc = .ok (.newarray .boolean, 2)) (hw : Cond.arrayClass .boolean ∈ ac_tbl) : ac_ok E d pc (o_nz (pc + 2)) := by
  intro p l e R s m args below meth c X Q ls st h cn kn pc' ls' st' h' cn' kn' hf hrc hrs H locs la hW hS hL k
  obtain ⟨hx, hb, hr, hml, hown, hlk, hnm, htf, htt, hfr, hlo, hl, hG⟩ := X
  unfold o_nz at hf
  dsimp only at hf
  split at hf
  · rename_i n st1
    split at hf
    · rename_i hi
      cases hf
      refine va_newaK hx hb (atype := .boolean) (hG.2.1 _ _ hw) rfl hd rfl hi.1 rfl (by have := hi.2; simp only [newarray.typeOf, componentBytes]; omega) hrc hrs rfl fun H1 cA e1 z1 o1 hAr hNm => ?_
      have hcA : cA = ac_ca E .boolean := by
        have h9 := (hG.2.2.1.2 1 _ rfl).2
        have h8 : s.vm.findClass ("[" ++ (FieldType.boolean).toString) = some (ac_ca E .boolean) := h9
        exact Option.some.inj (hNm.symm.trans h8)
      subst hcA
      have hw1 := hW.push z1 o1 (c := .inl (.boolean, n.toNatClampNeg, .inl (fun _ => 0))) e1
      have k1 := k H1 locs la hw1 (ac_S.push hS z1 o1) hL
      rw [hW.1]
      exact k1
    · cases hf
  · cases hf
theorem ok_nl {E : ac_E} {d : ac_M} {pc : Nat} (hd : decode d.2.1 pc = .ok (.newarray .long, 2)) (hw : Cond.arrayClass .long ∈ ac_tbl) : ac_ok E d pc (o_nl (pc + 2)) := by
  intro p l e R s m args below meth c X Q ls st h cn kn pc' ls' st' h' cn' kn' hf hrc hrs H locs la hW hS hL k
  obtain ⟨hx, hb, hr, hml, hown, hlk, hnm, htf, htt, hfr, hlo, hl, hG⟩ := X
  unfold o_nl at hf
  dsimp only at hf
  split at hf
  · rename_i n st1
    split at hf
    · rename_i hi
      cases hf
      refine va_newaK hx hb (atype := .long) (hG.2.1 _ _ hw) rfl hd rfl hi.1 rfl (by have := hi.2; simp only [newarray.typeOf, componentBytes]; omega) hrc hrs rfl fun H1 cA e1 z1 o1 hAr hNm => ?_
      have hcA : cA = ac_ca E .long := by
        have h9 := (hG.2.2.1.2 2 _ rfl).2
        have h8 : s.vm.findClass ("[" ++ (FieldType.long).toString) = some (ac_ca E .long) := h9
        exact Option.some.inj (hNm.symm.trans h8)
      subst hcA
      have hw1 := hW.push z1 o1 (c := .inl (.long, n.toNatClampNeg, .inr (.inl (fun _ => 0)))) e1
      have k1 := k H1 locs la hw1 (ac_S.push hS z1 o1) hL
      rw [hW.1]
      exact k1
    · cases hf
  · cases hf
theorem ok_new {E : ac_E} {d : ac_M} {pc : Nat} {ci index : Nat} {C : String} {T : u_T} {N : Nat} {fs : List Value} (hc : vwCl[ci]? = some (C, T, N)) (hin : ∀ w ∈ u_ws C T N, w ∈ ac_tbl) (ty0 : Nat → FieldType) (hty : ∀ k, k < N → parseFieldDescriptor (T k).2.2.1 = some (ty0 k)) (hfs : ∀ j, j < N → defaultValue (ty0 j) = vp_V (fs.map (ac_v E)) j) (hln : fs.length = N) (hw : Cond.classLink d.1.cls index C ∈ ac_tbl) (hwi : Cond.instantiable C N ∈ ac_tbl) (hwn : Cond.initialized C ∈ ac_tbl) (hd : decode d.2.1 pc = .ok (.new index, 3)) : ac_ok E d pc (o_new ci fs (pc + 3)) := by
  intro p l e R s m args below meth c X Q ls st h cn kn pc' ls' st' h' cn' kn' hf hrc hrs H locs la hW hS hL k
  obtain ⟨hx, hb, hr, hml, hown, hlk, hnm, htf, htt, hfr, hlo, hl, hG⟩ := X
  cases hf
  have hKn := hG.2.2.1.1 ci _ hc
  subst hln
  refine W.newcK hx hb hown (hG.2.1 _ _ hw) (hG.2.1 _ _ hwi) (hG.2.1 _ _ hwn) rfl hd hrc hrs hKn.2.1 rfl fun H1 kC hkC e1 z1 o1 => ?_
  have hw1 := hW.push z1 o1 (c := .inr (ci, fs)) (fun r hr => by
    cases Option.some.inj (hr.symm.trans hc)
    exact (u_born ty0 (hG.2.1 args) hin hKn hkC e1 hty).to hfs)
  have k1 := k H1 locs la hw1 (ac_S.push hS z1 o1) hL
  rw [hW.1]
  exact k1
theorem ok_obj {E : ac_E} {d : ac_M} {pc : Nat} {index : Nat} (hw : Cond.methodLink d.1.cls index Lib.objectInit ∈ ac_tbl) (hwi : Cond.instanceMethod Lib.objectInit ∈ ac_tbl) (hwc : Cond.code Lib.objectInit ⟨#[0xb1]⟩ 1 none ∈ ac_tbl) (hst : 1 ≤ d.2.2.2.2.1) (hlt : 30 ≤ d.2.2.2.2.2.1) (hd : decode d.2.1 pc = .ok (.invokespecial index, 3)) : ac_ok E d pc (o_obj1 (pc + 3)) := by
  intro p l e R s m args below meth c X Q ls st h cn kn pc' ls' st' h' cn' kn' hf hrc hrs H locs la hW hS hL k
  obtain ⟨hx, hb, hr, hml, hown, hlk, hnm, htf, htt, hfr, hlo, hl, hG⟩ := X
  unfold o_obj1 at hf
  dsimp only at hf
  split at hf
  · cases hf
    exact W.objInit hx hb hown (hG.2.1 _ _ hw) (hG.2.1 _ _ hwi) (hG.2.1 _ _ hwc) rfl (by rw [hml]; exact hL.1) rfl hd (Nat.le_trans hst hfr) (Nat.le_trans (by simp [JFrame.monitorRoom]) (Nat.le_trans hlt hlo)) (k H locs la hW hS hL)
  · cases hf
end
section
/-! ===== counts only grow ===== -/
def ac_mn (f : ac_S → Option ac_S) : Prop := ∀ (σ σ' : ac_S), f σ = some σ' → σ.2.2.2.2.1 ≤ σ'.2.2.2.2.1 ∧ σ.2.2.2.2.2 ≤ σ'.2.2.2.2.2
theorem mn_con (v : Value) (nx : Nat) : ac_mn (o_con v nx) := by
  rintro ⟨pc, ls, st, h, c, k⟩ ⟨pc', ls', st', h', c', k'⟩ hf
  unfold o_con at hf
  dsimp only at hf
  repeat' (first
    | (cases hf; done)
    | (cases hf; exact ⟨Nat.le_refl _, Nat.le_refl _⟩)
    | (cases hf; exact ⟨Nat.le_add_right _ _, Nat.le_add_right _ _⟩)
    | (replace hf := (ac_set_some hf).2)
    | split at hf)
theorem mn_ild (i nx : Nat) : ac_mn (o_ild i nx) := by
  rintro ⟨pc, ls, st, h, c, k⟩ ⟨pc', ls', st', h', c', k'⟩ hf
  unfold o_ild at hf
  dsimp only at hf
  repeat' (first
    | (cases hf; done)
    | (cases hf; exact ⟨Nat.le_refl _, Nat.le_refl _⟩)
    | (cases hf; exact ⟨Nat.le_add_right _ _, Nat.le_add_right _ _⟩)
    | (replace hf := (ac_set_some hf).2)
    | split at hf)
theorem mn_ald (i nx : Nat) : ac_mn (o_ald i nx) := by
  rintro ⟨pc, ls, st, h, c, k⟩ ⟨pc', ls', st', h', c', k'⟩ hf
  unfold o_ald at hf
  dsimp only at hf
  repeat' (first
    | (cases hf; done)
    | (cases hf; exact ⟨Nat.le_refl _, Nat.le_refl _⟩)
    | (cases hf; exact ⟨Nat.le_add_right _ _, Nat.le_add_right _ _⟩)
    | (replace hf := (ac_set_some hf).2)
    | split at hf)
theorem mn_ist (i nx : Nat) : ac_mn (o_ist i nx) := by
  rintro ⟨pc, ls, st, h, c, k⟩ ⟨pc', ls', st', h', c', k'⟩ hf
  unfold o_ist at hf
  dsimp only at hf
  repeat' (first
    | (cases hf; done)
    | (cases hf; exact ⟨Nat.le_refl _, Nat.le_refl _⟩)
    | (cases hf; exact ⟨Nat.le_add_right _ _, Nat.le_add_right _ _⟩)
    | (replace hf := (ac_set_some hf).2)
    | split at hf)
theorem mn_ast (i nx : Nat) : ac_mn (o_ast i nx) := by
  rintro ⟨pc, ls, st, h, c, k⟩ ⟨pc', ls', st', h', c', k'⟩ hf
  unfold o_ast at hf
  dsimp only at hf
  repeat' (first
    | (cases hf; done)
    | (cases hf; exact ⟨Nat.le_refl _, Nat.le_refl _⟩)
    | (cases hf; exact ⟨Nat.le_add_right _ _, Nat.le_add_right _ _⟩)
    | (replace hf := (ac_set_some hf).2)
    | split at hf)
theorem mn_inc (i : Nat) (v : Int32) (nx : Nat) : ac_mn (o_inc i v nx) := by
  rintro ⟨pc, ls, st, h, c, k⟩ ⟨pc', ls', st', h', c', k'⟩ hf
  unfold o_inc at hf
  dsimp only at hf
  repeat' (first
    | (cases hf; done)
    | (cases hf; exact ⟨Nat.le_refl _, Nat.le_refl _⟩)
    | (cases hf; exact ⟨Nat.le_add_right _ _, Nat.le_add_right _ _⟩)
    | (replace hf := (ac_set_some hf).2)
    | split at hf)
theorem mn_sw (ts : List Nat) (d : Nat) : ac_mn (o_sw ts d) := by
  rintro ⟨pc, ls, st, h, c, k⟩ ⟨pc', ls', st', h', c', k'⟩ hf
  unfold o_sw at hf
  dsimp only at hf
  repeat' (first
    | (cases hf; done)
    | (cases hf; exact ⟨Nat.le_refl _, Nat.le_refl _⟩)
    | (cases hf; exact ⟨Nat.le_add_right _ _, Nat.le_add_right _ _⟩)
    | (replace hf := (ac_set_some hf).2)
    | split at hf)
theorem mn_get (ci f nx : Nat) : ac_mn (o_get ci f nx) := by
  rintro ⟨pc, ls, st, h, c, k⟩ ⟨pc', ls', st', h', c', k'⟩ hf
  unfold o_get at hf
  dsimp only at hf
  repeat' (first
    | (cases hf; done)
    | (cases hf; exact ⟨Nat.le_refl _, Nat.le_refl _⟩)
    | (cases hf; exact ⟨Nat.le_add_right _ _, Nat.le_add_right _ _⟩)
    | (replace hf := (ac_set_some hf).2)
    | split at hf)
theorem mn_put (ci f nx : Nat) : ac_mn (o_put ci f nx) := by
  rintro ⟨pc, ls, st, h, c, k⟩ ⟨pc', ls', st', h', c', k'⟩ hf
  unfold o_put at hf
  dsimp only at hf
  repeat' (first
    | (cases hf; done)
    | (cases hf; exact ⟨Nat.le_refl _, Nat.le_refl _⟩)
    | (cases hf; exact ⟨Nat.le_add_right _ _, Nat.le_add_right _ _⟩)
    | (replace hf := (ac_set_some hf).2)
    | split at hf)
theorem mn_pur (ci f nx : Nat) : ac_mn (o_pur ci f nx) := by
  rintro ⟨pc, ls, st, h, c, k⟩ ⟨pc', ls', st', h', c', k'⟩ hf
  unfold o_pur at hf
  dsimp only at hf
  repeat' (first
    | (cases hf; done)
    | (cases hf; exact ⟨Nat.le_refl _, Nat.le_refl _⟩)
    | (cases hf; exact ⟨Nat.le_add_right _ _, Nat.le_add_right _ _⟩)
    | (replace hf := (ac_set_some hf).2)
    | split at hf)
theorem mn_sta (t : UInt32) (nx : Nat) : ac_mn (o_sta t nx) := by
  rintro ⟨pc, ls, st, h, c, k⟩ ⟨pc', ls', st', h', c', k'⟩ hf
  unfold o_sta at hf
  dsimp only at hf
  repeat' (first
    | (cases hf; done)
    | (cases hf; exact ⟨Nat.le_refl _, Nat.le_refl _⟩)
    | (cases hf; exact ⟨Nat.le_add_right _ _, Nat.le_add_right _ _⟩)
    | (replace hf := (ac_set_some hf).2)
    | split at hf)
theorem mn_ta (tab : Nat → Nat → Int32) (nx : Nat) : ac_mn (o_ta tab nx) := by
  rintro ⟨pc, ls, st, h, c, k⟩ ⟨pc', ls', st', h', c', k'⟩ hf
  unfold o_ta at hf
  dsimp only at hf
  repeat' (first
    | (cases hf; done)
    | (cases hf; exact ⟨Nat.le_refl _, Nat.le_refl _⟩)
    | (cases hf; exact ⟨Nat.le_add_right _ _, Nat.le_add_right _ _⟩)
    | (replace hf := (ac_set_some hf).2)
    | split at hf)
theorem mn_xa (L : Nat) (xs : Nat → Int32) (nx : Nat) : ac_mn (o_xa L xs nx) := by
  rintro ⟨pc, ls, st, h, c, k⟩ ⟨pc', ls', st', h', c', k'⟩ hf
  unfold o_xa at hf
  dsimp only at hf
  repeat' (first
    | (cases hf; done)
    | (cases hf; exact ⟨Nat.le_refl _, Nat.le_refl _⟩)
    | (cases hf; exact ⟨Nat.le_add_right _ _, Nat.le_add_right _ _⟩)
    | (replace hf := (ac_set_some hf).2)
    | split at hf)
theorem mn_xl (L nx : Nat) : ac_mn (o_xl L nx) := by
  rintro ⟨pc, ls, st, h, c, k⟩ ⟨pc', ls', st', h', c', k'⟩ hf
  unfold o_xl at hf
  dsimp only at hf
  repeat' (first
    | (cases hf; done)
    | (cases hf; exact ⟨Nat.le_refl _, Nat.le_refl _⟩)
    | (cases hf; exact ⟨Nat.le_add_right _ _, Nat.le_add_right _ _⟩)
    | (replace hf := (ac_set_some hf).2)
    | split at hf)
theorem mn_new (ci : Nat) (fs : List Value) (nx : Nat) : ac_mn (o_new ci fs nx) := by
  rintro ⟨pc, ls, st, h, c, k⟩ ⟨pc', ls', st', h', c', k'⟩ hf
  unfold o_new at hf
  dsimp only at hf
  repeat' (first
    | (cases hf; done)
    | (cases hf; exact ⟨Nat.le_refl _, Nat.le_refl _⟩)
    | (cases hf; exact ⟨Nat.le_add_right _ _, Nat.le_add_right _ _⟩)
    | (replace hf := (ac_set_some hf).2)
    | split at hf)
theorem mn_add (nx : Nat) : ac_mn (o_add nx) := by
  rintro ⟨pc, ls, st, h, c, k⟩ ⟨pc', ls', st', h', c', k'⟩ hf
  unfold o_add at hf
  dsimp only at hf
  repeat' (first
    | (cases hf; done)
    | (cases hf; exact ⟨Nat.le_refl _, Nat.le_refl _⟩)
    | (cases hf; exact ⟨Nat.le_add_right _ _, Nat.le_add_right _ _⟩)
    | (replace hf := (ac_set_some hf).2)
    | split at hf)
theorem mn_sub (nx : Nat) : ac_mn (o_sub nx) := by
  rintro ⟨pc, ls, st, h, c, k⟩ ⟨pc', ls', st', h', c', k'⟩ hf
  unfold o_sub at hf
  dsimp only at hf
  repeat' (first
    | (cases hf; done)
    | (cases hf; exact ⟨Nat.le_refl _, Nat.le_refl _⟩)
    | (cases hf; exact ⟨Nat.le_add_right _ _, Nat.le_add_right _ _⟩)
    | (replace hf := (ac_set_some hf).2)
    | split at hf)
theorem mn_mul (nx : Nat) : ac_mn (o_mul nx) := by
  rintro ⟨pc, ls, st, h, c, k⟩ ⟨pc', ls', st', h', c', k'⟩ hf
  unfold o_mul at hf
  dsimp only at hf
  repeat' (first
    | (cases hf; done)
    | (cases hf; exact ⟨Nat.le_refl _, Nat.le_refl _⟩)
    | (cases hf; exact ⟨Nat.le_add_right _ _, Nat.le_add_right _ _⟩)
    | (replace hf := (ac_set_some hf).2)
    | split at hf)
theorem mn_and (nx : Nat) : ac_mn (o_and nx) := by
  rintro ⟨pc, ls, st, h, c, k⟩ ⟨pc', ls', st', h', c', k'⟩ hf
  unfold o_and at hf
  dsimp only at hf
  repeat' (first
    | (cases hf; done)
    | (cases hf; exact ⟨Nat.le_refl _, Nat.le_refl _⟩)
    | (cases hf; exact ⟨Nat.le_add_right _ _, Nat.le_add_right _ _⟩)
    | (replace hf := (ac_set_some hf).2)
    | split at hf)
theorem mn_or (nx : Nat) : ac_mn (o_or nx) := by
  rintro ⟨pc, ls, st, h, c, k⟩ ⟨pc', ls', st', h', c', k'⟩ hf
  unfold o_or at hf
  dsimp only at hf
  repeat' (first
    | (cases hf; done)
    | (cases hf; exact ⟨Nat.le_refl _, Nat.le_refl _⟩)
    | (cases hf; exact ⟨Nat.le_add_right _ _, Nat.le_add_right _ _⟩)
    | (replace hf := (ac_set_some hf).2)
    | split at hf)
theorem mn_xor (nx : Nat) : ac_mn (o_xor nx) := by
  rintro ⟨pc, ls, st, h, c, k⟩ ⟨pc', ls', st', h', c', k'⟩ hf
  unfold o_xor at hf
  dsimp only at hf
  repeat' (first
    | (cases hf; done)
    | (cases hf; exact ⟨Nat.le_refl _, Nat.le_refl _⟩)
    | (cases hf; exact ⟨Nat.le_add_right _ _, Nat.le_add_right _ _⟩)
    | (replace hf := (ac_set_some hf).2)
    | split at hf)
theorem mn_shl (nx : Nat) : ac_mn (o_shl nx) := by
  rintro ⟨pc, ls, st, h, c, k⟩ ⟨pc', ls', st', h', c', k'⟩ hf
  unfold o_shl at hf
  dsimp only at hf
  repeat' (first
    | (cases hf; done)
    | (cases hf; exact ⟨Nat.le_refl _, Nat.le_refl _⟩)
    | (cases hf; exact ⟨Nat.le_add_right _ _, Nat.le_add_right _ _⟩)
    | (replace hf := (ac_set_some hf).2)
    | split at hf)
theorem mn_shr (nx : Nat) : ac_mn (o_shr nx) := by
  rintro ⟨pc, ls, st, h, c, k⟩ ⟨pc', ls', st', h', c', k'⟩ hf
  unfold o_shr at hf
  dsimp only at hf
  repeat' (first
    | (cases hf; done)
    | (cases hf; exact ⟨Nat.le_refl _, Nat.le_refl _⟩)
    | (cases hf; exact ⟨Nat.le_add_right _ _, Nat.le_add_right _ _⟩)
    | (replace hf := (ac_set_some hf).2)
    | split at hf)
theorem mn_ush (nx : Nat) : ac_mn (o_ush nx) := by
  rintro ⟨pc, ls, st, h, c, k⟩ ⟨pc', ls', st', h', c', k'⟩ hf
  unfold o_ush at hf
  dsimp only at hf
  repeat' (first
    | (cases hf; done)
    | (cases hf; exact ⟨Nat.le_refl _, Nat.le_refl _⟩)
    | (cases hf; exact ⟨Nat.le_add_right _ _, Nat.le_add_right _ _⟩)
    | (replace hf := (ac_set_some hf).2)
    | split at hf)
theorem mn_neg (nx : Nat) : ac_mn (o_neg nx) := by
  rintro ⟨pc, ls, st, h, c, k⟩ ⟨pc', ls', st', h', c', k'⟩ hf
  unfold o_neg at hf
  dsimp only at hf
  repeat' (first
    | (cases hf; done)
    | (cases hf; exact ⟨Nat.le_refl _, Nat.le_refl _⟩)
    | (cases hf; exact ⟨Nat.le_add_right _ _, Nat.le_add_right _ _⟩)
    | (replace hf := (ac_set_some hf).2)
    | split at hf)
theorem mn_div (nx : Nat) : ac_mn (o_div nx) := by
  rintro ⟨pc, ls, st, h, c, k⟩ ⟨pc', ls', st', h', c', k'⟩ hf
  unfold o_div at hf
  dsimp only at hf
  repeat' (first
    | (cases hf; done)
    | (cases hf; exact ⟨Nat.le_refl _, Nat.le_refl _⟩)
    | (cases hf; exact ⟨Nat.le_add_right _ _, Nat.le_add_right _ _⟩)
    | (replace hf := (ac_set_some hf).2)
    | split at hf)
theorem mn_rem (nx : Nat) : ac_mn (o_rem nx) := by
  rintro ⟨pc, ls, st, h, c, k⟩ ⟨pc', ls', st', h', c', k'⟩ hf
  unfold o_rem at hf
  dsimp only at hf
  repeat' (first
    | (cases hf; done)
    | (cases hf; exact ⟨Nat.le_refl _, Nat.le_refl _⟩)
    | (cases hf; exact ⟨Nat.le_add_right _ _, Nat.le_add_right _ _⟩)
    | (replace hf := (ac_set_some hf).2)
    | split at hf)
theorem mn_i2l (nx : Nat) : ac_mn (o_i2l nx) := by
  rintro ⟨pc, ls, st, h, c, k⟩ ⟨pc', ls', st', h', c', k'⟩ hf
  unfold o_i2l at hf
  dsimp only at hf
  repeat' (first
    | (cases hf; done)
    | (cases hf; exact ⟨Nat.le_refl _, Nat.le_refl _⟩)
    | (cases hf; exact ⟨Nat.le_add_right _ _, Nat.le_add_right _ _⟩)
    | (replace hf := (ac_set_some hf).2)
    | split at hf)
theorem mn_lcm (nx : Nat) : ac_mn (o_lcm nx) := by
  rintro ⟨pc, ls, st, h, c, k⟩ ⟨pc', ls', st', h', c', k'⟩ hf
  unfold o_lcm at hf
  dsimp only at hf
  repeat' (first
    | (cases hf; done)
    | (cases hf; exact ⟨Nat.le_refl _, Nat.le_refl _⟩)
    | (cases hf; exact ⟨Nat.le_add_right _ _, Nat.le_add_right _ _⟩)
    | (replace hf := (ac_set_some hf).2)
    | split at hf)
theorem mn_dup (nx : Nat) : ac_mn (o_dup nx) := by
  rintro ⟨pc, ls, st, h, c, k⟩ ⟨pc', ls', st', h', c', k'⟩ hf
  unfold o_dup at hf
  dsimp only at hf
  repeat' (first
    | (cases hf; done)
    | (cases hf; exact ⟨Nat.le_refl _, Nat.le_refl _⟩)
    | (cases hf; exact ⟨Nat.le_add_right _ _, Nat.le_add_right _ _⟩)
    | (replace hf := (ac_set_some hf).2)
    | split at hf)
theorem mn_dx1 (nx : Nat) : ac_mn (o_dx1 nx) := by
  rintro ⟨pc, ls, st, h, c, k⟩ ⟨pc', ls', st', h', c', k'⟩ hf
  unfold o_dx1 at hf
  dsimp only at hf
  repeat' (first
    | (cases hf; done)
    | (cases hf; exact ⟨Nat.le_refl _, Nat.le_refl _⟩)
    | (cases hf; exact ⟨Nat.le_add_right _ _, Nat.le_add_right _ _⟩)
    | (replace hf := (ac_set_some hf).2)
    | split at hf)
theorem mn_dp2 (nx : Nat) : ac_mn (o_dp2 nx) := by
  rintro ⟨pc, ls, st, h, c, k⟩ ⟨pc', ls', st', h', c', k'⟩ hf
  unfold o_dp2 at hf
  dsimp only at hf
  repeat' (first
    | (cases hf; done)
    | (cases hf; exact ⟨Nat.le_refl _, Nat.le_refl _⟩)
    | (cases hf; exact ⟨Nat.le_add_right _ _, Nat.le_add_right _ _⟩)
    | (replace hf := (ac_set_some hf).2)
    | split at hf)
theorem mn_pop (nx : Nat) : ac_mn (o_pop nx) := by
  rintro ⟨pc, ls, st, h, c, k⟩ ⟨pc', ls', st', h', c', k'⟩ hf
  unfold o_pop at hf
  dsimp only at hf
  repeat' (first
    | (cases hf; done)
    | (cases hf; exact ⟨Nat.le_refl _, Nat.le_refl _⟩)
    | (cases hf; exact ⟨Nat.le_add_right _ _, Nat.le_add_right _ _⟩)
    | (replace hf := (ac_set_some hf).2)
    | split at hf)
theorem mn_go (nx : Nat) : ac_mn (o_go nx) := by
  rintro ⟨pc, ls, st, h, c, k⟩ ⟨pc', ls', st', h', c', k'⟩ hf
  unfold o_go at hf
  dsimp only at hf
  repeat' (first
    | (cases hf; done)
    | (cases hf; exact ⟨Nat.le_refl _, Nat.le_refl _⟩)
    | (cases hf; exact ⟨Nat.le_add_right _ _, Nat.le_add_right _ _⟩)
    | (replace hf := (ac_set_some hf).2)
    | split at hf)
theorem mn_ia (nx : Nat) : ac_mn (o_ia nx) := by
  rintro ⟨pc, ls, st, h, c, k⟩ ⟨pc', ls', st', h', c', k'⟩ hf
  unfold o_ia at hf
  dsimp only at hf
  repeat' (first
    | (cases hf; done)
    | (cases hf; exact ⟨Nat.le_refl _, Nat.le_refl _⟩)
    | (cases hf; exact ⟨Nat.le_add_right _ _, Nat.le_add_right _ _⟩)
    | (replace hf := (ac_set_some hf).2)
    | split at hf)
theorem mn_za (nx : Nat) : ac_mn (o_za nx) := by
  rintro ⟨pc, ls, st, h, c, k⟩ ⟨pc', ls', st', h', c', k'⟩ hf
  unfold o_za at hf
  dsimp only at hf
  repeat' (first
    | (cases hf; done)
    | (cases hf; exact ⟨Nat.le_refl _, Nat.le_refl _⟩)
    | (cases hf; exact ⟨Nat.le_add_right _ _, Nat.le_add_right _ _⟩)
    | (replace hf := (ac_set_some hf).2)
    | split at hf)
theorem mn_la (nx : Nat) : ac_mn (o_la nx) := by
  rintro ⟨pc, ls, st, h, c, k⟩ ⟨pc', ls', st', h', c', k'⟩ hf
  unfold o_la at hf
  dsimp only at hf
  repeat' (first
    | (cases hf; done)
    | (cases hf; exact ⟨Nat.le_refl _, Nat.le_refl _⟩)
    | (cases hf; exact ⟨Nat.le_add_right _ _, Nat.le_add_right _ _⟩)
    | (replace hf := (ac_set_some hf).2)
    | split at hf)
theorem mn_is (nx : Nat) : ac_mn (o_is nx) := by
  rintro ⟨pc, ls, st, h, c, k⟩ ⟨pc', ls', st', h', c', k'⟩ hf
  unfold o_is at hf
  dsimp only at hf
  repeat' (first
    | (cases hf; done)
    | (cases hf; exact ⟨Nat.le_refl _, Nat.le_refl _⟩)
    | (cases hf; exact ⟨Nat.le_add_right _ _, Nat.le_add_right _ _⟩)
    | (replace hf := (ac_set_some hf).2)
    | split at hf)
theorem mn_zs (nx : Nat) : ac_mn (o_zs nx) := by
  rintro ⟨pc, ls, st, h, c, k⟩ ⟨pc', ls', st', h', c', k'⟩ hf
  unfold o_zs at hf
  dsimp only at hf
  repeat' (first
    | (cases hf; done)
    | (cases hf; exact ⟨Nat.le_refl _, Nat.le_refl _⟩)
    | (cases hf; exact ⟨Nat.le_add_right _ _, Nat.le_add_right _ _⟩)
    | (replace hf := (ac_set_some hf).2)
    | split at hf)
theorem mn_ls (nx : Nat) : ac_mn (o_ls nx) := by
  rintro ⟨pc, ls, st, h, c, k⟩ ⟨pc', ls', st', h', c', k'⟩ hf
  unfold o_ls at hf
  dsimp only at hf
  repeat' (first
    | (cases hf; done)
    | (cases hf; exact ⟨Nat.le_refl _, Nat.le_refl _⟩)
    | (cases hf; exact ⟨Nat.le_add_right _ _, Nat.le_add_right _ _⟩)
    | (replace hf := (ac_set_some hf).2)
    | split at hf)
theorem mn_len (nx : Nat) : ac_mn (o_len nx) := by
  rintro ⟨pc, ls, st, h, c, k⟩ ⟨pc', ls', st', h', c', k'⟩ hf
  unfold o_len at hf
  dsimp only at hf
  repeat' (first
    | (cases hf; done)
    | (cases hf; exact ⟨Nat.le_refl _, Nat.le_refl _⟩)
    | (cases hf; exact ⟨Nat.le_add_right _ _, Nat.le_add_right _ _⟩)
    | (replace hf := (ac_set_some hf).2)
    | split at hf)
theorem mn_ni (nx : Nat) : ac_mn (o_ni nx) := by
  rintro ⟨pc, ls, st, h, c, k⟩ ⟨pc', ls', st', h', c', k'⟩ hf
  unfold o_ni at hf
  dsimp only at hf
  repeat' (first
    | (cases hf; done)
    | (cases hf; exact ⟨Nat.le_refl _, Nat.le_refl _⟩)
    | (cases hf; exact ⟨Nat.le_add_right _ _, Nat.le_add_right _ _⟩)
    | (replace hf := (ac_set_some hf).2)
    | split at hf)
theorem mn_nz (nx : Nat) : ac_mn (o_nz nx) := by
  rintro ⟨pc, ls, st, h, c, k⟩ ⟨pc', ls', st', h', c', k'⟩ hf
  unfold o_nz at hf
  dsimp only at hf
  repeat' (first
    | (cases hf; done)
    | (cases hf; exact ⟨Nat.le_refl _, Nat.le_refl _⟩)
    | (cases hf; exact ⟨Nat.le_add_right _ _, Nat.le_add_right _ _⟩)
    | (replace hf := (ac_set_some hf).2)
    | split at hf)
theorem mn_nl (nx : Nat) : ac_mn (o_nl nx) := by
  rintro ⟨pc, ls, st, h, c, k⟩ ⟨pc', ls', st', h', c', k'⟩ hf
  unfold o_nl at hf
  dsimp only at hf
  repeat' (first
    | (cases hf; done)
    | (cases hf; exact ⟨Nat.le_refl _, Nat.le_refl _⟩)
    | (cases hf; exact ⟨Nat.le_add_right _ _, Nat.le_add_right _ _⟩)
    | (replace hf := (ac_set_some hf).2)
    | split at hf)
theorem mn_obj1 (nx : Nat) : ac_mn (o_obj1 nx) := by
  rintro ⟨pc, ls, st, h, c, k⟩ ⟨pc', ls', st', h', c', k'⟩ hf
  unfold o_obj1 at hf
  dsimp only at hf
  repeat' (first
    | (cases hf; done)
    | (cases hf; exact ⟨Nat.le_refl _, Nat.le_refl _⟩)
    | (cases hf; exact ⟨Nat.le_add_right _ _, Nat.le_add_right _ _⟩)
    | (replace hf := (ac_set_some hf).2)
    | split at hf)
theorem mn_eq0 (t nx : Nat) : ac_mn (o_eq0 t nx) := by
  rintro ⟨pc, ls, st, h, c, k⟩ ⟨pc', ls', st', h', c', k'⟩ hf
  unfold o_eq0 at hf
  dsimp only at hf
  repeat' (first
    | (cases hf; done)
    | (cases hf; exact ⟨Nat.le_refl _, Nat.le_refl _⟩)
    | (cases hf; exact ⟨Nat.le_add_right _ _, Nat.le_add_right _ _⟩)
    | (replace hf := (ac_set_some hf).2)
    | split at hf)
theorem mn_ne0 (t nx : Nat) : ac_mn (o_ne0 t nx) := by
  rintro ⟨pc, ls, st, h, c, k⟩ ⟨pc', ls', st', h', c', k'⟩ hf
  unfold o_ne0 at hf
  dsimp only at hf
  repeat' (first
    | (cases hf; done)
    | (cases hf; exact ⟨Nat.le_refl _, Nat.le_refl _⟩)
    | (cases hf; exact ⟨Nat.le_add_right _ _, Nat.le_add_right _ _⟩)
    | (replace hf := (ac_set_some hf).2)
    | split at hf)
theorem mn_lt0 (t nx : Nat) : ac_mn (o_lt0 t nx) := by
  rintro ⟨pc, ls, st, h, c, k⟩ ⟨pc', ls', st', h', c', k'⟩ hf
  unfold o_lt0 at hf
  dsimp only at hf
  repeat' (first
    | (cases hf; done)
    | (cases hf; exact ⟨Nat.le_refl _, Nat.le_refl _⟩)
    | (cases hf; exact ⟨Nat.le_add_right _ _, Nat.le_add_right _ _⟩)
    | (replace hf := (ac_set_some hf).2)
    | split at hf)
theorem mn_ge0 (t nx : Nat) : ac_mn (o_ge0 t nx) := by
  rintro ⟨pc, ls, st, h, c, k⟩ ⟨pc', ls', st', h', c', k'⟩ hf
  unfold o_ge0 at hf
  dsimp only at hf
  repeat' (first
    | (cases hf; done)
    | (cases hf; exact ⟨Nat.le_refl _, Nat.le_refl _⟩)
    | (cases hf; exact ⟨Nat.le_add_right _ _, Nat.le_add_right _ _⟩)
    | (replace hf := (ac_set_some hf).2)
    | split at hf)
theorem mn_le0 (t nx : Nat) : ac_mn (o_le0 t nx) := by
  rintro ⟨pc, ls, st, h, c, k⟩ ⟨pc', ls', st', h', c', k'⟩ hf
  unfold o_le0 at hf
  dsimp only at hf
  repeat' (first
    | (cases hf; done)
    | (cases hf; exact ⟨Nat.le_refl _, Nat.le_refl _⟩)
    | (cases hf; exact ⟨Nat.le_add_right _ _, Nat.le_add_right _ _⟩)
    | (replace hf := (ac_set_some hf).2)
    | split at hf)
theorem mn_gt0 (t nx : Nat) : ac_mn (o_gt0 t nx) := by
  rintro ⟨pc, ls, st, h, c, k⟩ ⟨pc', ls', st', h', c', k'⟩ hf
  unfold o_gt0 at hf
  dsimp only at hf
  repeat' (first
    | (cases hf; done)
    | (cases hf; exact ⟨Nat.le_refl _, Nat.le_refl _⟩)
    | (cases hf; exact ⟨Nat.le_add_right _ _, Nat.le_add_right _ _⟩)
    | (replace hf := (ac_set_some hf).2)
    | split at hf)
theorem mn_eq (t nx : Nat) : ac_mn (o_eq t nx) := by
  rintro ⟨pc, ls, st, h, c, k⟩ ⟨pc', ls', st', h', c', k'⟩ hf
  unfold o_eq at hf
  dsimp only at hf
  repeat' (first
    | (cases hf; done)
    | (cases hf; exact ⟨Nat.le_refl _, Nat.le_refl _⟩)
    | (cases hf; exact ⟨Nat.le_add_right _ _, Nat.le_add_right _ _⟩)
    | (replace hf := (ac_set_some hf).2)
    | split at hf)
theorem mn_ne (t nx : Nat) : ac_mn (o_ne t nx) := by
  rintro ⟨pc, ls, st, h, c, k⟩ ⟨pc', ls', st', h', c', k'⟩ hf
  unfold o_ne at hf
  dsimp only at hf
  repeat' (first
    | (cases hf; done)
    | (cases hf; exact ⟨Nat.le_refl _, Nat.le_refl _⟩)
    | (cases hf; exact ⟨Nat.le_add_right _ _, Nat.le_add_right _ _⟩)
    | (replace hf := (ac_set_some hf).2)
    | split at hf)
theorem mn_lt (t nx : Nat) : ac_mn (o_lt t nx) := by
  rintro ⟨pc, ls, st, h, c, k⟩ ⟨pc', ls', st', h', c', k'⟩ hf
  unfold o_lt at hf
  dsimp only at hf
  repeat' (first
    | (cases hf; done)
    | (cases hf; exact ⟨Nat.le_refl _, Nat.le_refl _⟩)
    | (cases hf; exact ⟨Nat.le_add_right _ _, Nat.le_add_right _ _⟩)
    | (replace hf := (ac_set_some hf).2)
    | split at hf)
theorem mn_ge (t nx : Nat) : ac_mn (o_ge t nx) := by
  rintro ⟨pc, ls, st, h, c, k⟩ ⟨pc', ls', st', h', c', k'⟩ hf
  unfold o_ge at hf
  dsimp only at hf
  repeat' (first
    | (cases hf; done)
    | (cases hf; exact ⟨Nat.le_refl _, Nat.le_refl _⟩)
    | (cases hf; exact ⟨Nat.le_add_right _ _, Nat.le_add_right _ _⟩)
    | (replace hf := (ac_set_some hf).2)
    | split at hf)
theorem mn_le (t nx : Nat) : ac_mn (o_le t nx) := by
  rintro ⟨pc, ls, st, h, c, k⟩ ⟨pc', ls', st', h', c', k'⟩ hf
  unfold o_le at hf
  dsimp only at hf
  repeat' (first
    | (cases hf; done)
    | (cases hf; exact ⟨Nat.le_refl _, Nat.le_refl _⟩)
    | (cases hf; exact ⟨Nat.le_add_right _ _, Nat.le_add_right _ _⟩)
    | (replace hf := (ac_set_some hf).2)
    | split at hf)
theorem mn_gt (t nx : Nat) : ac_mn (o_gt t nx) := by
  rintro ⟨pc, ls, st, h, c, k⟩ ⟨pc', ls', st', h', c', k'⟩ hf
  unfold o_gt at hf
  dsimp only at hf
  repeat' (first
    | (cases hf; done)
    | (cases hf; exact ⟨Nat.le_refl _, Nat.le_refl _⟩)
    | (cases hf; exact ⟨Nat.le_add_right _ _, Nat.le_add_right _ _⟩)
    | (replace hf := (ac_set_some hf).2)
    | split at hf)
theorem ok_sw {E : ac_E} {d : ac_M} {pc : Nat} {ts : List Nat} {df : Nat} {dflt lo hi : Int} {offs : Array Int} {len : Nat} (hd : decode d.2.1 pc = .ok (.tableswitch dflt lo hi offs, len)) (hlo : lo = 0) (hhi : hi + 1 = (ts.length : Int)) (hdf : (pc : Int) + dflt = (df : Int)) (hoffs : (List.range ts.length).all (fun i => match offs[i]? with | some o => decide ((pc : Int) + o = ((ts.getD i 0 : Nat) : Int)) | none => false) = true) : ac_ok E d pc (o_sw ts df) := by
  intro p l e R s m args below meth c X Q ls st h cn kn pc' ls' st' h' cn' kn' hf hrc hrs H locs la hW hS hL k
  obtain ⟨hx, hb, hr, hml, hown, hlk, hnm, htf, htt, hfr, hlo2, hl, hG⟩ := X
  subst hlo
  unfold o_sw at hf
  dsimp only at hf
  split at hf
  · rename_i x st1
    cases hf
    have k1 := k H locs la hW hS hL
    have hx0 : x < 0 ↔ x.toInt < 0 := Int32.lt_iff_toInt_lt
    have hcl : x.toNatClampNeg = x.toInt.toNat := rfl
    by_cases h1 : x < 0
    · rw [if_pos h1] at k1
      exact lv_tableOut hx hb hd (Or.inl (hx0.mp h1)) hdf k1
    · rw [if_neg h1] at k1
      have h2 : ¬ x.toInt < 0 := fun q => h1 (hx0.mpr q)
      by_cases h3 : x.toNatClampNeg < ts.length
      · have h4 := List.all_eq_true.mp hoffs _ (List.mem_range.mpr h3)
        cases ho : offs[x.toNatClampNeg]? with
        | none => rw [ho] at h4; cases h4
        | some o =>
          rw [ho] at h4
          simp only [decide_eq_true_eq] at h4
          refine lv_tableIn hx hb hd h2 (by omega) (off := o) (tgt := ts.getD x.toNatClampNeg df) (by rw [← ho, hcl]; congr 2; omega) ?_ k1
          rw [h4]
          simp [List.getElem?_eq_getElem h3]
      · rw [show ts.getD x.toNatClampNeg df = df by rw [List.getD_eq_getElem?_getD, List.getElem?_eq_none (by omega)]; rfl] at k1
        exact lv_tableOut hx hb hd (Or.inr (by omega)) hdf k1
  · cases hf
end
section
/-! ===== calls, throws, catches ===== -/
def ac_Pc (E : ac_E) (as : List Value) (h : ac_H) : Array Value → State → Prop := fun a U => a = (as.map (ac_v E)).toArray ∧ ac_G E U ∧ ac_W E h U.heap
def ac_Qr (E : ac_E) (v : Option Value) (h' : ac_H) : Array Value → State → Outcome → State → Prop := fun _ st o t => o = .returned (v.map (ac_v E)) ∧ ac_W E h' t.heap ∧ va_F (ac_A E) st t
def ac_Xr (E : ac_E) (x : Nat) (h' : ac_H) : String → State → State → Prop := fun n st t => n = ac_exn x ∧ ac_W E h' t.heap ∧ va_F (ac_A E) st t
def ac_ro (d : ac_M) (c k : Nat) : Room := { frames := d.2.2.2.2.1, cells := c, slots := k, locals := d.2.2.2.2.2.1 }
/-- its code's word -/
def ac_cw (d : ac_M) : Cond := if d.2.2.2.2.2.2.2 = true then .codeWith d.1 d.2.1 d.2.2.1 d.2.2.2.1 d.2.2.2.2.2.2.1 else .code d.1 d.2.1 d.2.2.1 d.2.2.2.1
/-- a callee that returns, one that throws -/
def ac_Mr (l : Launch) (E : ac_E) (d : ac_M) (as : List Value) (h : ac_H) (v : Option Value) (h' : ac_H) (c k : Nat) : Prop :=
  vx_Met l d.1 [ac_cw d] (ac_ro d c k) (ac_Pc E as h) (ac_Qr E v h') (fun _ _ _ => False) c k (ac_A E)
def ac_Mt (l : Launch) (E : ac_E) (d : ac_M) (as : List Value) (h : ac_H) (x : Nat) (h' : ac_H) (c k : Nat) : Prop :=
  vx_Met l d.1 [ac_cw d] (ac_ro d c k) (ac_Pc E as h) (fun _ _ _ _ => False) (ac_Xr E x h') c k (ac_A E)
theorem ac_Mr.met {l : Launch} {E : ac_E} {d : ac_M} {as : List Value} {h h' : ac_H} {v : Option Value} {c k : Nat} (hM : ac_Mr l E d as h v h' c k) : Met l d.1 [ac_cw d] (ac_ro d c k) (ac_Pc E as h) (ac_Qr E v h') c k (ac_A E) := by
  intro p e h1 h2 h3 s m args below h4 h5 h6 h7
  obtain ⟨n, o, a1, a2, a3, a4⟩ := hM p e h1 h2 h3 s m args below h4 h5 h6 h7
  refine ⟨n, o, a1, a2, a3, ?_⟩
  rcases a4 with q | ⟨q, -, -, -, -, hF, -⟩
  · exact q
  · exact hF.elim
theorem ac_blind {E : ac_E} {as : List Value} {h : ac_H} : FrameBlind (ac_Pc E as h) := fun a U g mk q => ⟨q.1, q.2.1.calling g mk a, q.2.2⟩
theorem ac_pre {E : ac_E} {as : List Value} {h : ac_H} {s : State} {H : Heap} {locs : List Loc} (hG : ac_G E s) (hW : ac_W E h H) (hS : va_S (ac_A E) s.heap H locs) (U : State) (hU : U.heap = H) (hWm : s.WarmedH U.vm) : ac_Pc E as h (as.map (ac_v E)).toArray U :=
  ⟨rfl, hG.next hWm (by rw [hU]; exact hS.1) (fun q h1 h2 => by rw [hU]; exact hS.2.1 q h1 h2), by rw [hU]; exact hW⟩
theorem ac_cat (l : List Value) (h : l.length ≤ 4) : (l.map fun v => v.category).sum ≤ 8 := by
  have h1 : ∀ l : List Value, (l.map fun v => v.category).sum ≤ 2 * l.length := by
    intro l
    induction l with
    | nil => exact Nat.le_refl 0
    | cons a l ih =>
      simp only [List.map_cons, List.sum_cons, List.length_cons]
      have := lv_cat a
      omega
  exact Nat.le_trans (h1 l) (by omega)
/-- behind a call: what came back -/
theorem ac_back {E : ac_E} {s st₀ t T' : State} {H : Heap} {locs L : List Loc} (h0 : st₀.heap = H) (e1 : T'.heap = t.heap) (hS : va_S (ac_A E) s.heap H locs) (hL : ∀ q ∈ L, ac_A E q.base) (hF : va_F (ac_A E) st₀ t) : va_S (ac_A E) s.heap T'.heap (locs ++ L) := by
  obtain ⟨hz, hk⟩ := hF
  rw [h0] at hz hk
  refine ⟨Nat.le_trans hS.1 (by rw [e1]; exact hz), fun q h1 h2 => by rw [e1, hk q (Nat.lt_of_lt_of_le h1 hS.1) h2]; exact hS.2.1 q h1 h2, fun q hq => ?_⟩
  rcases List.mem_append.mp hq with h | h
  · exact hS.2.2 q h
  · exact hL q h
section Runs9
variable {E : ac_E} {p : Program} {l : Launch} {e : Env} {R : Room} {s : State} {m : MethodId} {args : Array Value} {below : List Frame} {meth : Method} {c : Code} {H : Heap} {locs : List Loc} {cn kn : Nat} {Q : State → Prop} {pc : Nat} {la : Array Slot} {st0 rest : List Value} {v : Option Value} {h' : ac_H} {c' k' x : Nat} {a : Array Value}
theorem ac_goR (hr : va_Run p l e R s m args below meth c H locs cn kn c' k' (F0 m pc la st0) rest (ac_Qr E v h' a) (ac_A E)) (hS : va_S (ac_A E) s.heap H locs)
    (kk : ∀ (H1 : Heap) (locs1 : List Loc), ac_W E h' H1 → va_S (ac_A E) s.heap H1 locs1 → W p l e R s m args below meth c H1 locs1 (cn + c') (kn + k') Q (F0 m (pc + 3) la ((v.map (ac_v E)).toList ++ rest))) : W p l e R s m args below meth c H locs cn kn Q (F0 m pc la st0) := by
  intro T hT X
  obtain ⟨w, st₀, t, T', L, h0, X', hL, e1, e2, ⟨hv, hw, hF⟩, st⟩ := hr T hT X
  cases hv
  obtain ⟨t2, a1, b1⟩ := kk T'.heap (locs ++ L) (by rw [e1]; exact hw) (ac_back h0 e1 hS hL hF) T' rfl X'
  exact ⟨t2, st t2 a1, b1⟩
theorem ac_goX {XC : String → State → State → Prop} (hr : vx_Run p l e R s m args below meth c H locs cn kn c' k' (F0 m pc la st0) rest (ac_Qr E v h' a) (fun _ _ _ => False) (ac_A E)) (hS : va_S (ac_A E) s.heap H locs)
    (kk : ∀ (H1 : Heap) (locs1 : List Loc), ac_W E h' H1 → va_S (ac_A E) s.heap H1 locs1 → W p l e R s m args below meth c H1 locs1 (cn + c') (kn + k') Q (F0 m (pc + 3) la ((v.map (ac_v E)).toList ++ rest))) : W p l e R s m args below meth c H locs cn kn Q (F0 m pc la st0) := by
  intro T hT X
  rcases hr T hT X with ⟨w, st₀, t, T', L, h0, X', hL, e1, e2, ⟨hv, hw, hF⟩, st⟩ | ⟨q, st₀, t, T', L, E', ce, h0, X', hL, e1, e2, hF, -⟩
  · cases hv
    obtain ⟨t2, a1, b1⟩ := kk T'.heap (locs ++ L) (by rw [e1]; exact hw) (ac_back h0 e1 hS hL hF) T' rfl X'
    exact ⟨t2, st t2 a1, b1⟩
  · exact hF.elim
theorem ac_goT (hr : vx_Run p l e R s m args below meth c H locs cn kn c' k' (F0 m pc la st0) rest (fun _ _ _ => False) (ac_Xr E x h') (ac_A E)) (hS : va_S (ac_A E) s.heap H locs)
    (kk : ∀ (H1 : Heap) (locs1 : List Loc) (q : Addr) (ce : Cell), ac_W E h' H1 → va_S (ac_A E) s.heap H1 locs1 → H1[q]? = some ce → ce.vm = .none → s.vm.findClass (ac_exn x) = some ce.cls → vx_W p l e R s m args below meth c H1 locs1 (cn + c') (kn + k') Q (F0 m pc la rest) q) : W p l e R s m args below meth c H locs cn kn Q (F0 m pc la st0) := by
  intro T hT X
  rcases hr T hT X with ⟨w, st₀, t, T', L, h0, X', hL, e1, e2, hF, -⟩ | ⟨q, st₀, t, T', L, E', ce, h0, X', hL, e1, e2, ⟨hn, hw, hF⟩, hce, hcv, hcl, st⟩
  · exact hF.elim
  · subst hn
    obtain ⟨t2, a1, b1⟩ := kk T'.heap (locs ++ L) q ce (by rw [e1]; exact hw) (ac_back h0 e1 hS hL hF) (by rw [e1]; exact hce) hcv hcl T' rfl X'
    exact ⟨t2, st.trans a1, b1⟩
end Runs9
/-- a call at pc of a method d to one dz, which returns -/
def ac_okr (E : ac_E) (d dz : ac_M) (pc na nx rv : Nat) : Prop :=
  ∀ (p : Program) (l : Launch) (e : Env) (R : Room) (s : State) (m : MethodId) (args : Array Value) (below : List Frame) (meth : Method) (c : Code), ac_X E d p l R s m meth c →
  ∀ (Q : State → Prop) (ls as rest : List Value) (h : ac_H) (cn kn : Nat) (v : Option Value) (h' : ac_H) (c' k' : Nat), as.length = na → (∀ a ∈ as, ac_one a = true) → ac_rv rv as h = true → rest.length ≤ 4 → ac_Mr l E dz as h v h' c' k' → cn + c' ≤ R.cells → kn + k' ≤ R.slots →
  ∀ (H : Heap) (locs : List Loc) (la : Array Slot), ac_W E h H → va_S (ac_A E) s.heap H locs → ac_L E la d.2.2.1 ls →
  (∀ (H1 : Heap) (locs1 : List Loc), ac_W E h' H1 → va_S (ac_A E) s.heap H1 locs1 → W p l e R s m args below meth c H1 locs1 (cn + c') (kn + k') Q (F0 m nx la ((v.toList ++ rest).map (ac_v E)))) →
  W p l e R s m args below meth c H locs cn kn Q (F0 m pc la ((as.reverse ++ rest).map (ac_v E)))
def ac_okt (E : ac_E) (d dz : ac_M) (pc na rv : Nat) : Prop :=
  ∀ (p : Program) (l : Launch) (e : Env) (R : Room) (s : State) (m : MethodId) (args : Array Value) (below : List Frame) (meth : Method) (c : Code), ac_X E d p l R s m meth c →
  ∀ (Q : State → Prop) (ls as rest : List Value) (h : ac_H) (cn kn : Nat) (x : Nat) (h' : ac_H) (c' k' : Nat), as.length = na → (∀ a ∈ as, ac_one a = true) → ac_rv rv as h = true → rest.length ≤ 4 → ac_Mt l E dz as h x h' c' k' → cn + c' ≤ R.cells → kn + k' ≤ R.slots →
  ∀ (H : Heap) (locs : List Loc) (la : Array Slot), ac_W E h H → va_S (ac_A E) s.heap H locs → ac_L E la d.2.2.1 ls →
  (∀ (H1 : Heap) (locs1 : List Loc) (q : Addr) (ce : Cell), ac_W E h' H1 → va_S (ac_A E) s.heap H1 locs1 → H1[q]? = some ce → ce.vm = .none → s.vm.findClass (ac_exn x) = some ce.cls → vx_W p l e R s m args below meth c H1 locs1 (cn + c') (kn + k') Q (F0 m pc la (rest.map (ac_v E))) q) →
  W p l e R s m args below meth c H locs cn kn Q (F0 m pc la ((as.reverse ++ rest).map (ac_v E)))
/-- frames and locals' words suffice -/
def ac_fits (d dz : ac_M) : Bool := decide (dz.2.2.2.2.1 + 1 ≤ d.2.2.2.2.1) && decide (8 + (dz.2.2.1 + 11) + dz.2.2.2.2.2.1 ≤ d.2.2.2.2.2.1)
def ac_name (y : MethodName) (n : Nat) : Bool := decide (y.cls ≠ "java/lang/invoke/MethodHandle") && decide (y.cls ≠ "java/lang/invoke/VarHandle") && decide ((parseMethodDescriptor y.desc).map (fun d => d.parameters.length) = some n)
theorem ac_name_spec {y : MethodName} {n : Nat} (h : ac_name y n = true) : (y.cls ≠ "java/lang/invoke/MethodHandle" ∧ y.cls ≠ "java/lang/invoke/VarHandle") ∧ ∀ sig, parseMethodDescriptor y.desc = some sig → n = sig.parameters.length := by
  simp only [ac_name, Bool.and_eq_true, decide_eq_true_eq] at h
  refine ⟨⟨h.1.1, h.1.2⟩, fun sig hs => ?_⟩
  have h2 := h.2
  rw [hs] at h2
  exact (Option.some.inj h2).symm
theorem ac_cw_code {d : ac_M} (h : d.2.2.2.2.2.2.2 = false) : ac_cw d = .code d.1 d.2.1 d.2.2.1 d.2.2.2.1 := by simp [ac_cw, h]
theorem ac_cw_with {d : ac_M} (h : d.2.2.2.2.2.2.2 = true) : ac_cw d = .codeWith d.1 d.2.1 d.2.2.1 d.2.2.2.1 d.2.2.2.2.2.2.1 := by simp [ac_cw, h]
theorem ac_ws {E : ac_E} {s : State} {d : ac_M} (hG : ac_G E s) (hw : ac_cw d ∈ ac_tbl) : ∀ w ∈ [ac_cw d], ∀ (a' : Array Value) (U : State), s.WarmedH U.vm → w.before a' U = true := by
  intro w h a' U hW
  rw [List.mem_singleton.mp h]
  exact ac_keep_at hW (List.mem_filter.mp hw).2 (hG.2.1 #[] _ hw)
theorem ac_vmap (E : ac_E) (v : Option Value) (rest : List Value) : (v.map (ac_v E)).toList ++ rest.map (ac_v E) = (v.toList ++ rest).map (ac_v E) := by cases v <;> rfl
theorem ac_room {m : MethodId} {pc : Nat} {la : Array Slot} {st : List Value} {E : ac_E} {rest : List Value} (h : rest.length ≤ 4) : 2 * (F0 m pc la st).monitorRoom + ((rest.map (ac_v E)).map fun v => v.category).sum ≤ 8 := lv_room (ac_cat _ (by simpa using h))
/-- invokestatic, own link, a method without a table -/
theorem ok_callS {E : ac_E} {d dz : ac_M} {pc na index : Nat} (ht : dz.2.2.2.2.2.2.2 = false) (hft : ac_fits d dz = true) (hn : ac_name dz.1 na = true) (hcw : ac_cw dz ∈ ac_tbl) (hin : Cond.initialized dz.1.cls ∈ ac_tbl) (hl : Cond.methodLink d.1.cls index dz.1 ∈ ac_tbl) (hs : Cond.static dz.1 ∈ ac_tbl) (hd : decode d.2.1 pc = .ok (.invokestatic index, 3)) : ac_okr E d dz pc na (pc + 3) 0 ∧ ac_okt E d dz pc na 0 := by
  simp only [ac_fits, Bool.and_eq_true, decide_eq_true_eq] at hft
  constructor
  · intro p l e R s m args below meth c X Q ls as rest h cn kn v h' c' k' hna ho hrv hrl hM hrc hrs H locs la hW hS hL k
    obtain ⟨hx, hb, hr, hml, hown, hlk, hnm, htf, htt, hfr, hlo, hst, hG⟩ := X
    have hb2 : CallB R s args d.1.cls index dz.1 dz.2.1 dz.2.2.1 dz.2.2.2.1 [ac_cw dz] (ac_ro dz c' k') c' k' na := ⟨rfl, rfl, Nat.le_trans hft.1 hfr, Nat.le_trans hft.2 hlo, ac_ws hG hcw, by rw [ac_cw_code ht]; exact List.mem_cons_self, by rw [← ac_cw_code ht]; exact hG.2.1 _ _ hcw, hG.2.1 _ _ hin, (ac_name_spec hn).1, (ac_name_spec hn).2, hG.2.1 _ _ hl⟩
    rw [List.map_append, List.map_reverse]
    refine ac_goX (XC := fun _ _ _ => False) (vx_runS (Ts := []) (As := as.map (ac_v E)) (rest := rest.map (ac_v E)) ⟨hx, hb, hml, hown, fun w hw => nomatch hw⟩ hM ⟨hb2, hG.2.1 _ _ hs⟩ ⟨ac_blind, ac_pre hG hW hS⟩ rfl (by simpa using hna) hL.1 rfl (ac_room hrl) hd ⟨hrc, hrs⟩) hS (fun H1 locs1 w1 s1 => ?_)
    rw [ac_vmap]
    exact k H1 locs1 w1 s1
  · intro p l e R s m args below meth c X Q ls as rest h cn kn x h' c' k' hna ho hrv hrl hM hrc hrs H locs la hW hS hL k
    obtain ⟨hx, hb, hr, hml, hown, hlk, hnm, htf, htt, hfr, hlo, hst, hG⟩ := X
    have hb2 : CallB R s args d.1.cls index dz.1 dz.2.1 dz.2.2.1 dz.2.2.2.1 [ac_cw dz] (ac_ro dz c' k') c' k' na := ⟨rfl, rfl, Nat.le_trans hft.1 hfr, Nat.le_trans hft.2 hlo, ac_ws hG hcw, by rw [ac_cw_code ht]; exact List.mem_cons_self, by rw [← ac_cw_code ht]; exact hG.2.1 _ _ hcw, hG.2.1 _ _ hin, (ac_name_spec hn).1, (ac_name_spec hn).2, hG.2.1 _ _ hl⟩
    rw [List.map_append, List.map_reverse]
    exact ac_goT (vx_runS (Ts := []) (As := as.map (ac_v E)) (rest := rest.map (ac_v E)) ⟨hx, hb, hml, hown, fun w hw => nomatch hw⟩ hM ⟨hb2, hG.2.1 _ _ hs⟩ ⟨ac_blind, ac_pre hG hW hS⟩ rfl (by simpa using hna) hL.1 rfl (ac_room hrl) hd ⟨hrc, hrs⟩) hS k
/-- invokestatic, own link, a method with a table -/
theorem ok_callSX {E : ac_E} {d dz : ac_M} {pc na index : Nat} (ht : dz.2.2.2.2.2.2.2 = true) (hft : ac_fits d dz = true) (hn : ac_name dz.1 na = true) (hcw : ac_cw dz ∈ ac_tbl) (hin : Cond.initialized dz.1.cls ∈ ac_tbl) (hl : Cond.methodLink d.1.cls index dz.1 ∈ ac_tbl) (hs : Cond.static dz.1 ∈ ac_tbl) (hd : decode d.2.1 pc = .ok (.invokestatic index, 3)) : ac_okr E d dz pc na (pc + 3) 0 := by
  simp only [ac_fits, Bool.and_eq_true, decide_eq_true_eq] at hft
  intro p l e R s m args below meth c X Q ls as rest h cn kn v h' c' k' hna ho hrv hrl hM hrc hrs H locs la hW hS hL k
  obtain ⟨hx, hb, hr, hml, hown, hlk, hnm, htf, htt, hfr, hlo, hst, hG⟩ := X
  have hb2 : vx_CSW R s args d.1.cls index dz.1 dz.2.1 dz.2.2.1 dz.2.2.2.1 dz.2.2.2.2.2.2.1 [ac_cw dz] (ac_ro dz c' k') c' k' na := ⟨⟨rfl, rfl, Nat.le_trans hft.1 hfr, Nat.le_trans hft.2 hlo, ac_ws hG hcw, by rw [ac_cw_with ht]; exact List.mem_cons_self⟩, by rw [← ac_cw_with ht]; exact hG.2.1 _ _ hcw, hG.2.1 _ _ hin, (ac_name_spec hn).1, (ac_name_spec hn).2, hG.2.1 _ _ hl, hG.2.1 _ _ hs⟩
  rw [List.map_append, List.map_reverse]
  refine ac_goX (XC := fun _ _ _ => False) (vx_runSX (Ts := []) (As := as.map (ac_v E)) (rest := rest.map (ac_v E)) ⟨hx, hb, hml, hown, fun w hw => nomatch hw⟩ hM hb2 ⟨ac_blind, ac_pre hG hW hS⟩ rfl (by simpa using hna) hL.1 rfl (ac_room hrl) hd ⟨hrc, hrs⟩) hS (fun H1 locs1 w1 s1 => ?_)
  rw [ac_vmap]
  exact k H1 locs1 w1 s1
/-- invokevirtual, own link -/
theorem ok_callV {E : ac_E} {d dz : ac_M} {pc n index ci : Nat} {C : String} {T : u_T} {N : Nat} (hc : vwCl[ci]? = some (C, T, N)) (ht : dz.2.2.2.2.2.2.2 = false) (hft : ac_fits d dz = true) (hn : ac_name dz.1 n = true) (hcw : ac_cw dz ∈ ac_tbl) (hin : Cond.initialized dz.1.cls ∈ ac_tbl) (hl : Cond.methodLink d.1.cls index dz.1 ∈ ac_tbl) (hi : Cond.instanceMethod dz.1 ∈ ac_tbl) (hse : Cond.selects C dz.1 dz.1 ∈ ac_tbl) (hd : decode d.2.1 pc = .ok (.invokevirtual index, 3)) : ac_okr E d dz pc (n + 1) (pc + 3) (ci + 2) ∧ ac_okt E d dz pc (n + 1) (ci + 2) := by
  simp only [ac_fits, Bool.and_eq_true, decide_eq_true_eq] at hft
  constructor
  · intro p l e R s m args below meth c X Q ls as rest h cn kn v h' c' k' hna ho hrv hrl hM hrc hrs H locs la hW hS hL k
    obtain ⟨hx, hb, hr, hml, hown, hlk, hnm, htf, htt, hfr, hlo, hst, hG⟩ := X
    have hb2 : CallB R s args d.1.cls index dz.1 dz.2.1 dz.2.2.1 dz.2.2.2.1 [ac_cw dz] (ac_ro dz c' k') c' k' n := ⟨rfl, rfl, Nat.le_trans hft.1 hfr, Nat.le_trans hft.2 hlo, ac_ws hG hcw, by rw [ac_cw_code ht]; exact List.mem_cons_self, by rw [← ac_cw_code ht]; exact hG.2.1 _ _ hcw, hG.2.1 _ _ hin, (ac_name_spec hn).1, (ac_name_spec hn).2, hG.2.1 _ _ hl⟩
    cases as with
    | nil => cases hna
    | cons a0 as =>
      cases a0 with
      | ref b =>
        simp only [ac_rv] at hrv
        cases hh : h[b]? with
        | none => rw [hh] at hrv; cases hrv
        | some ce =>
          rw [hh] at hrv
          cases ce with
          | inl z => cases hrv
          | inr z =>
            obtain ⟨cj, fs⟩ := z
            have hcj : cj = ci := Nat.eq_of_beq_eq_true hrv
            subst hcj
            have hrec : ∃ cellB : Cell, H[ac_b E + b]? = some cellB ∧ cellB.vm.isStatics = false ∧ s.vm.findClass C = some cellB.cls := by
              obtain ⟨cell, g1, g2, g3, -⟩ := hW.2 b _ hh _ hc
              exact ⟨cell, g1, by rw [g3]; rfl, by rw [g2]; exact (hG.2.2.1.1 cj _ hc).2.1⟩
            have est : ((Value.ref b :: as).reverse ++ rest).map (ac_v E) = (as.map (ac_v E)).reverse ++ .ref (ac_b E + b) :: rest.map (ac_v E) := by simp [ac_v]
            rw [est]
            refine ac_goX (XC := fun _ _ _ => False) (vx_runV (Ts := []) (As := as.map (ac_v E)) (rest := rest.map (ac_v E)) ⟨hx, hb, hml, hown, fun w hw => nomatch hw⟩ hM ⟨hb2, hG.2.1 _ _ hi, hG.2.1 _ _ hse⟩ ⟨ac_blind, hrec, ac_pre (as := .ref b :: as) hG hW hS⟩ rfl (by simpa using hna) hL.1 rfl (ac_room hrl) hd ⟨hrc, hrs⟩) hS (fun H1 locs1 w1 s1 => ?_)
            rw [ac_vmap]
            exact k H1 locs1 w1 s1
      | int z => exact absurd hrv (by simp [ac_rv])
      | long z => exact absurd hrv (by simp [ac_rv])
      | float z => exact absurd hrv (by simp [ac_rv])
      | double z => exact absurd hrv (by simp [ac_rv])
      | retAddr z => exact absurd hrv (by simp [ac_rv])
      | null => exact absurd hrv (by simp [ac_rv])
  · intro p l e R s m args below meth c X Q ls as rest h cn kn x h' c' k' hna ho hrv hrl hM hrc hrs H locs la hW hS hL k
    obtain ⟨hx, hb, hr, hml, hown, hlk, hnm, htf, htt, hfr, hlo, hst, hG⟩ := X
    have hb2 : CallB R s args d.1.cls index dz.1 dz.2.1 dz.2.2.1 dz.2.2.2.1 [ac_cw dz] (ac_ro dz c' k') c' k' n := ⟨rfl, rfl, Nat.le_trans hft.1 hfr, Nat.le_trans hft.2 hlo, ac_ws hG hcw, by rw [ac_cw_code ht]; exact List.mem_cons_self, by rw [← ac_cw_code ht]; exact hG.2.1 _ _ hcw, hG.2.1 _ _ hin, (ac_name_spec hn).1, (ac_name_spec hn).2, hG.2.1 _ _ hl⟩
    cases as with
    | nil => cases hna
    | cons a0 as =>
      cases a0 with
      | ref b =>
        simp only [ac_rv] at hrv
        cases hh : h[b]? with
        | none => rw [hh] at hrv; cases hrv
        | some ce =>
          rw [hh] at hrv
          cases ce with
          | inl z => cases hrv
          | inr z =>
            obtain ⟨cj, fs⟩ := z
            have hcj : cj = ci := Nat.eq_of_beq_eq_true hrv
            subst hcj
            have hrec : ∃ cellB : Cell, H[ac_b E + b]? = some cellB ∧ cellB.vm.isStatics = false ∧ s.vm.findClass C = some cellB.cls := by
              obtain ⟨cell, g1, g2, g3, -⟩ := hW.2 b _ hh _ hc
              exact ⟨cell, g1, by rw [g3]; rfl, by rw [g2]; exact (hG.2.2.1.1 cj _ hc).2.1⟩
            have est : ((Value.ref b :: as).reverse ++ rest).map (ac_v E) = (as.map (ac_v E)).reverse ++ .ref (ac_b E + b) :: rest.map (ac_v E) := by simp [ac_v]
            rw [est]
            exact ac_goT (vx_runV (Ts := []) (As := as.map (ac_v E)) (rest := rest.map (ac_v E)) ⟨hx, hb, hml, hown, fun w hw => nomatch hw⟩ hM ⟨hb2, hG.2.1 _ _ hi, hG.2.1 _ _ hse⟩ ⟨ac_blind, hrec, ac_pre (as := .ref b :: as) hG hW hS⟩ rfl (by simpa using hna) hL.1 rfl (ac_room hrl) hd ⟨hrc, hrs⟩) hS k
      | int z => exact absurd hrv (by simp [ac_rv])
      | long z => exact absurd hrv (by simp [ac_rv])
      | float z => exact absurd hrv (by simp [ac_rv])
      | double z => exact absurd hrv (by simp [ac_rv])
      | retAddr z => exact absurd hrv (by simp [ac_rv])
      | null => exact absurd hrv (by simp [ac_rv])
/-- invokevirtual of a nest mate -/
theorem ok_callVN {E : ac_E} {d dz : ac_M} {pc n index ci : Nat} {C : String} {T : u_T} {N : Nat} (hc : vwCl[ci]? = some (C, T, N)) (ht : dz.2.2.2.2.2.2.2 = false) (hft : ac_fits d dz = true) (hn : ac_name dz.1 n = true) (hcw : ac_cw dz ∈ ac_tbl) (hin : Cond.initialized dz.1.cls ∈ ac_tbl) {host : String} (hl : Cond.methodLinkNest d.1.cls index dz.1 host ∈ ac_tbl) (hi : Cond.instanceMethod dz.1 ∈ ac_tbl) (hse : Cond.selects C dz.1 dz.1 ∈ ac_tbl) (hd : decode d.2.1 pc = .ok (.invokevirtual index, 3)) : ac_okr E d dz pc (n + 1) (pc + 3) (ci + 2) := by
  simp only [ac_fits, Bool.and_eq_true, decide_eq_true_eq] at hft
  intro p l e R s m args below meth c X Q ls as rest h cn kn v h' c' k' hna ho hrv hrl hM hrc hrs H locs la hW hS hL k
  obtain ⟨hx, hb, hr, hml, hown, hlk, hnm, htf, htt, hfr, hlo, hst, hG⟩ := X
  have hb2 : va_CN R s args d.1.cls index dz.1 host dz.2.1 dz.2.2.1 dz.2.2.2.1 [ac_cw dz] (ac_ro dz c' k') c' k' n := ⟨⟨rfl, rfl, Nat.le_trans hft.1 hfr, Nat.le_trans hft.2 hlo, ac_ws hG hcw, by rw [ac_cw_code ht]; exact List.mem_cons_self⟩, by rw [← ac_cw_code ht]; exact hG.2.1 _ _ hcw, hG.2.1 _ _ hin, (ac_name_spec hn).1, (ac_name_spec hn).2, hG.2.1 _ _ hl⟩
  cases as with
  | nil => cases hna
  | cons a0 as =>
    cases a0 with
    | ref b =>
      simp only [ac_rv] at hrv
      cases hh : h[b]? with
      | none => rw [hh] at hrv; cases hrv
      | some ce =>
        rw [hh] at hrv
        cases ce with
        | inl z => cases hrv
        | inr z =>
          obtain ⟨cj, fs⟩ := z
          have hcj : cj = ci := Nat.eq_of_beq_eq_true hrv
          subst hcj
          have hrec : ∃ cellB : Cell, H[ac_b E + b]? = some cellB ∧ cellB.vm.isStatics = false ∧ s.vm.findClass C = some cellB.cls := by
            obtain ⟨cell, g1, g2, g3, -⟩ := hW.2 b _ hh _ hc
            exact ⟨cell, g1, by rw [g3]; rfl, by rw [g2]; exact (hG.2.2.1.1 cj _ hc).2.1⟩
          have est : ((Value.ref b :: as).reverse ++ rest).map (ac_v E) = (as.map (ac_v E)).reverse ++ .ref (ac_b E + b) :: rest.map (ac_v E) := by simp [ac_v]
          rw [est]
          refine ac_goR (va_runVN (Ts := []) (As := as.map (ac_v E)) (rest := rest.map (ac_v E)) ⟨hx, hb, hml, hown, fun w hw => nomatch hw⟩ hM.met ⟨hb2, hG.2.1 _ _ hi, hG.2.1 _ _ hse⟩ ⟨ac_blind, hrec, ac_pre (as := .ref b :: as) hG hW hS⟩ rfl (by simpa using hna) hL.1 rfl (ac_room hrl) hd ⟨hrc, hrs⟩) hS (fun H1 locs1 w1 s1 => ?_)
          rw [ac_vmap]
          exact k H1 locs1 w1 s1
    | int z => exact absurd hrv (by simp [ac_rv])
    | long z => exact absurd hrv (by simp [ac_rv])
    | float z => exact absurd hrv (by simp [ac_rv])
    | double z => exact absurd hrv (by simp [ac_rv])
    | retAddr z => exact absurd hrv (by simp [ac_rv])
    | null => exact absurd hrv (by simp [ac_rv])
/-- invokestatic of a nest mate -/
theorem ok_callSN {E : ac_E} {d dz : ac_M} {pc na index : Nat} {host : String} (ht : dz.2.2.2.2.2.2.2 = false) (hft : ac_fits d dz = true) (hn : ac_name dz.1 na = true) (hcw : ac_cw dz ∈ ac_tbl) (hin : Cond.initialized dz.1.cls ∈ ac_tbl) (hl : Cond.methodLinkNest d.1.cls index dz.1 host ∈ ac_tbl) (hs : Cond.static dz.1 ∈ ac_tbl) (hd : decode d.2.1 pc = .ok (.invokestatic index, 3)) : ac_okr E d dz pc na (pc + 3) 0 := by
  simp only [ac_fits, Bool.and_eq_true, decide_eq_true_eq] at hft
  intro p l e R s m args below meth c X Q ls as rest h cn kn v h' c' k' hna ho hrv hrl hM hrc hrs H locs la hW hS hL k
  obtain ⟨hx, hb, hr, hml, hown, hlk, hnm, htf, htt, hfr, hlo, hst, hG⟩ := X
  have hb2 : va_CN R s args d.1.cls index dz.1 host dz.2.1 dz.2.2.1 dz.2.2.2.1 [ac_cw dz] (ac_ro dz c' k') c' k' na := ⟨⟨rfl, rfl, Nat.le_trans hft.1 hfr, Nat.le_trans hft.2 hlo, ac_ws hG hcw, by rw [ac_cw_code ht]; exact List.mem_cons_self⟩, by rw [← ac_cw_code ht]; exact hG.2.1 _ _ hcw, hG.2.1 _ _ hin, (ac_name_spec hn).1, (ac_name_spec hn).2, hG.2.1 _ _ hl⟩
  rw [List.map_append, List.map_reverse]
  refine ac_goR (va_runSN (Ts := []) (As := as.map (ac_v E)) (rest := rest.map (ac_v E)) ⟨hx, hb, hml, hown, fun w hw => nomatch hw⟩ hM.met ⟨hb2, hG.2.1 _ _ hs, trivial⟩ ⟨ac_blind, ac_pre hG hW hS⟩ rfl (by simpa using hna) hL.1 rfl (ac_room hrl) hd ⟨hrc, hrs⟩) hS (fun H1 locs1 w1 s1 => ?_)
  rw [ac_vmap]
  exact k H1 locs1 w1 s1
/-- invokespecial <init>, own link -/
theorem ok_callI {E : ac_E} {d dz : ac_M} {pc n index : Nat} (hrt : dz.2.2.2.1 = none) (hini : dz.1.name = "<init>") (ht : dz.2.2.2.2.2.2.2 = false) (hft : ac_fits d dz = true) (hn : ac_name dz.1 n = true) (hcw : ac_cw dz ∈ ac_tbl) (hin : Cond.initialized dz.1.cls ∈ ac_tbl) (hl : Cond.methodLink d.1.cls index dz.1 ∈ ac_tbl) (hi : Cond.instanceMethod dz.1 ∈ ac_tbl) (hd : decode d.2.1 pc = .ok (.invokespecial index, 3)) : ac_okr E d dz pc (n + 1) (pc + 3) 1 := by
  simp only [ac_fits, Bool.and_eq_true, decide_eq_true_eq] at hft
  intro p l e R s m args below meth c X Q ls as rest h cn kn v h' c' k' hna ho hrv hrl hM hrc hrs H locs la hW hS hL k
  obtain ⟨hx, hb, hr, hml, hown, hlk, hnm, htf, htt, hfr, hlo, hst, hG⟩ := X
  have hb2 : CallB R s args d.1.cls index dz.1 dz.2.1 dz.2.2.1 none [ac_cw dz] (ac_ro dz c' k') c' k' n := ⟨rfl, rfl, Nat.le_trans hft.1 hfr, Nat.le_trans hft.2 hlo, ac_ws hG hcw, by rw [ac_cw_code ht, hrt]; exact List.mem_cons_self, by rw [← hrt, ← ac_cw_code ht]; exact hG.2.1 _ _ hcw, hG.2.1 _ _ hin, (ac_name_spec hn).1, (ac_name_spec hn).2, hG.2.1 _ _ hl⟩
  cases as with
  | nil => cases hna
  | cons a0 as =>
    cases a0 with
    | ref b =>
      have est : ((Value.ref b :: as).reverse ++ rest).map (ac_v E) = (as.map (ac_v E)).reverse ++ .ref (ac_b E + b) :: rest.map (ac_v E) := by simp [ac_v]
      rw [est]
      refine ac_goR (va_runI (Ts := []) (b := ac_b E + b) (As := as.map (ac_v E)) (rest := rest.map (ac_v E)) ⟨hx, hb, hml, hown, fun w hw => nomatch hw⟩ hM.met ⟨hb2, hini, hG.2.1 _ _ hi⟩ ⟨ac_blind, ac_pre (as := .ref b :: as) hG hW hS⟩ rfl (by simpa using hna) hL.1 rfl (ac_room hrl) hd ⟨hrc, hrs⟩) hS (fun H1 locs1 w1 s1 => ?_)
      rw [ac_vmap]
      exact k H1 locs1 w1 s1
    | int z => exact absurd hrv (by simp [ac_rv])
    | long z => exact absurd hrv (by simp [ac_rv])
    | float z => exact absurd hrv (by simp [ac_rv])
    | double z => exact absurd hrv (by simp [ac_rv])
    | retAddr z => exact absurd hrv (by simp [ac_rv])
    | null => exact absurd hrv (by simp [ac_rv])
/-- invokespecial <init> of a nest mate -/
theorem ok_callIN {E : ac_E} {d dz : ac_M} {pc n index : Nat} (hrt : dz.2.2.2.1 = none) (hini : dz.1.name = "<init>") (ht : dz.2.2.2.2.2.2.2 = false) (hft : ac_fits d dz = true) (hn : ac_name dz.1 n = true) (hcw : ac_cw dz ∈ ac_tbl) (hin : Cond.initialized dz.1.cls ∈ ac_tbl) {host : String} (hl : Cond.methodLinkNest d.1.cls index dz.1 host ∈ ac_tbl) (hi : Cond.instanceMethod dz.1 ∈ ac_tbl) (hd : decode d.2.1 pc = .ok (.invokespecial index, 3)) : ac_okr E d dz pc (n + 1) (pc + 3) 1 := by
  simp only [ac_fits, Bool.and_eq_true, decide_eq_true_eq] at hft
  intro p l e R s m args below meth c X Q ls as rest h cn kn v h' c' k' hna ho hrv hrl hM hrc hrs H locs la hW hS hL k
  obtain ⟨hx, hb, hr, hml, hown, hlk, hnm, htf, htt, hfr, hlo, hst, hG⟩ := X
  have hb2 : va_CN R s args d.1.cls index dz.1 host dz.2.1 dz.2.2.1 none [ac_cw dz] (ac_ro dz c' k') c' k' n := ⟨⟨rfl, rfl, Nat.le_trans hft.1 hfr, Nat.le_trans hft.2 hlo, ac_ws hG hcw, by rw [ac_cw_code ht, hrt]; exact List.mem_cons_self⟩, by rw [← hrt, ← ac_cw_code ht]; exact hG.2.1 _ _ hcw, hG.2.1 _ _ hin, (ac_name_spec hn).1, (ac_name_spec hn).2, hG.2.1 _ _ hl⟩
  cases as with
  | nil => cases hna
  | cons a0 as =>
    cases a0 with
    | ref b =>
      have est : ((Value.ref b :: as).reverse ++ rest).map (ac_v E) = (as.map (ac_v E)).reverse ++ .ref (ac_b E + b) :: rest.map (ac_v E) := by simp [ac_v]
      rw [est]
      refine ac_goR (va_runIN (Ts := []) (b := ac_b E + b) (As := as.map (ac_v E)) (rest := rest.map (ac_v E)) ⟨hx, hb, hml, hown, fun w hw => nomatch hw⟩ hM.met ⟨hb2, hini, hG.2.1 _ _ hi⟩ ⟨ac_blind, ac_pre (as := .ref b :: as) hG hW hS⟩ rfl (by simpa using hna) hL.1 rfl (ac_room hrl) hd ⟨hrc, hrs⟩) hS (fun H1 locs1 w1 s1 => ?_)
      rw [ac_vmap]
      exact k H1 locs1 w1 s1
    | int z => exact absurd hrv (by simp [ac_rv])
    | long z => exact absurd hrv (by simp [ac_rv])
    | float z => exact absurd hrv (by simp [ac_rv])
    | double z => exact absurd hrv (by simp [ac_rv])
    | retAddr z => exact absurd hrv (by simp [ac_rv])
    | null => exact absurd hrv (by simp [ac_rv])
/-- an exception of number x that comes out of a call at pc is caught: the local i takes it, and it goes on at nx -/
def ac_okh (E : ac_E) (d : ac_M) (pc x i nx : Nat) : Prop :=
  ∀ (p : Program) (l : Launch) (e : Env) (R : Room) (s : State) (m : MethodId) (args : Array Value) (below : List Frame) (meth : Method) (c : Code), ac_X E d p l R s m meth c →
  ∀ (Q : State → Prop) (ls : List Value) (rest : List Value) (cn kn : Nat) (H : Heap) (locs : List Loc) (la : Array Slot) (q : Addr) (ce : Cell), ac_L E la d.2.2.1 ls → i < ls.length → H[q]? = some ce → ce.vm = .none → s.vm.findClass (ac_exn x) = some ce.cls →
  (∀ (la1 : Array Slot), ac_L E la1 d.2.2.1 (ls.set i ac_un) → W p l e R s m args below meth c H locs cn kn Q (F0 m nx la1 [])) →
  vx_W p l e R s m args below meth c H locs cn kn Q (F0 m pc la rest) q
theorem ac_astore {E : ac_E} {d : ac_M} {h1 i nx : Nat} (hd : (∃ j : Fin 4, (j : Nat) = i ∧ nx = h1 + 1 ∧ decode d.2.1 h1 = .ok (.astore_n j, 1)) ∨ (nx = h1 + 2 ∧ decode d.2.1 h1 = .ok (.astore i, 2)))
    {p : Program} {l : Launch} {e : Env} {R : Room} {s : State} {m : MethodId} {args : Array Value} {below : List Frame} {meth : Method} {c : Code} {Q : State → Prop} {ls : List Value} {cn kn : Nat} {H : Heap} {locs : List Loc} {la : Array Slot} {q : Addr} (hx : p.tables.exec = Jvm.exec) (hb : c.code = d.2.1) (hL : ac_L E la d.2.2.1 ls) (hi : i < ls.length)
    (k : ∀ (la1 : Array Slot), ac_L E la1 d.2.2.1 (ls.set i ac_un) → W p l e R s m args below meth c H locs cn kn Q (F0 m nx la1 [])) : W p l e R s m args below meth c H locs cn kn Q (F0 m h1 la [.ref q]) := by
  rcases hd with ⟨j, rfl, rfl, hd⟩ | ⟨rfl, hd⟩
  · exact lv_astore_n hx hb hd rfl hL.has (by rw [← hL.2.1]; exact hi) rfl (fun ls1 h1 => k ls1 (hL.put h1 (fun h => by cases h)))
  · exact lv_astore hx hb hd hL.has (by rw [← hL.2.1]; exact hi) rfl (fun ls1 h1 => k ls1 (hL.put h1 (fun h => by cases h)))
theorem ok_catch {E : ac_E} {d : ac_M} {pc x i nx : Nat} (ht : d.2.2.2.2.2.2.2 = true) (pre : List (Nat × Nat × Nat × Nat)) (x0 : Nat × Nat × Nat × Nat) (suf : List (Nat × Nat × Nat × Nat)) (hsp : d.2.2.2.2.2.2.1 = pre ++ x0 :: suf)
    (hpass : ∀ z ∈ pre, z.2.2.2 ≠ 0 ∧ ∃ j, j < 5 ∧ x ≠ j ∧ Cond.classLink d.1.cls z.2.2.2 (ac_exn j) ∈ ac_tbl) (hx5 : x < 5) (hcov : covers ⟨x0.1, x0.2.1, x0.2.2.1, x0.2.2.2⟩ pc = true) (h0 : x0.2.2.2 ≠ 0) (hlink : Cond.classLink d.1.cls x0.2.2.2 (ac_exn x) ∈ ac_tbl) (hcast : Cond.castable (ac_exn x) (ac_exn x) ∈ ac_tbl)
    (hd : (∃ j : Fin 4, (j : Nat) = i ∧ nx = x0.2.2.1 + 1 ∧ decode d.2.1 x0.2.2.1 = .ok (.astore_n j, 1)) ∨ (nx = x0.2.2.1 + 2 ∧ decode d.2.1 x0.2.2.1 = .ok (.astore i, 2))) : ac_okh E d pc x i nx := by
  intro p l e R s m args below meth c X Q ls rest cn kn H locs la q ce hL hi hce hcv hcl k
  obtain ⟨hx, hb, hr, hml, hown, hlk, hnm, htf, htt, hfr, hlo, hst, hG⟩ := X
  refine vx_catch (own := d.1.cls) (name := ac_exn x) (E := ac_exn x) hown (tableOf pre) ⟨x0.1, x0.2.1, x0.2.2.1, x0.2.2.2⟩ (tableOf suf) (by rw [htt ht, hsp]; simp [tableOf]) ?_ hcov h0 (hG.2.1 _ _ hlink) (hG.2.1 _ _ hcast) hce hcv hcl (ac_astore hd hx hb hL hi k)
  intro z hz
  simp only [tableOf, List.mem_map] at hz
  obtain ⟨z0, hz0, rfl⟩ := hz
  obtain ⟨g1, j, g2, g3, g4⟩ := hpass z0 hz0
  exact Or.inr ⟨g1, ac_exn j, hG.2.1 _ _ g4, hG.2.2.2.2.2.2.2.2 x j hx5 g2 g3⟩
/-- a throw of a new exception of number x at pc -/
def ac_okx (E : ac_E) (d : ac_M) (pc x : Nat) : Prop :=
  ∀ (p : Program) (l : Launch) (e : Env) (R : Room) (s : State) (m : MethodId) (args : Array Value) (below : List Frame) (meth : Method) (c : Code), ac_X E d p l R s m meth c →
  ∀ (Qc : Array Value → State → Outcome → State → Prop) (XC : String → State → State → Prop) (h : ac_H) (ls : List Value) (cn kn mc ms : Nat) (H : Heap) (locs : List Loc) (la : Array Slot), ac_W E h H → va_S (ac_A E) s.heap H locs → ac_L E la d.2.2.1 ls → cn + 1 ≤ R.cells → kn + 6 ≤ R.slots → cn + 1 ≤ mc → kn + 6 ≤ ms →
  (∀ t : State, ac_W E (h ++ [ac_junk]) t.heap → va_F (ac_A E) s t → XC (ac_exn x) s t) →
  W p l e R s m args below meth c H locs cn kn (vx_MQ below Qc XC args s mc ms (ac_A E)) (F0 m pc la [])
def ac_par : List String := ["java/lang/RuntimeException", "java/lang/Exception"]
theorem ok_throw {E : ac_E} {d : ac_M} {pc x : Nat} {ik is ic i : Nat} {text : String} (ht : d.2.2.2.2.2.2.2 = false) (hf : Bundle.fit (ac_exn x) = true) (hs : ac_str[i]? = some (d.1.cls, is, text)) (hk : Cond.classLink d.1.cls ik (ac_exn x) ∈ ac_tbl) (hini : Cond.initialized (ac_exn x) ∈ ac_tbl) (hat : ∀ w ∈ vx_atS d.1.cls ic (ac_exn x) ac_par, w ∈ ac_tbl)
    (hgd : (Cond.classLink d.1.cls ik (ac_exn x) :: Cond.initialized (ac_exn x) :: vx_atS d.1.cls ic (ac_exn x) ac_par).all vx_ot = true)
    (h5 : 6 ≤ d.2.2.2.2.1) (h6 : 82 ≤ d.2.2.2.2.2.1)
    (d0 : decode d.2.1 pc = .ok (.new ik, 3)) (d3 : decode d.2.1 (pc + 3) = .ok (.dup, 1)) (d4 : decode d.2.1 (pc + 4) = .ok (.ldc is, 2)) (d6 : decode d.2.1 (pc + 6) = .ok (.invokespecial ic, 3)) (d9 : decode d.2.1 (pc + 9) = .ok (.athrow, 1)) : ac_okx E d pc x := by
  intro p l e R s m args below meth c X Qc XC h ls cn kn mc ms H locs la hW hS hL hrc hrs hc hs2 hX
  obtain ⟨hx, hb, hr, hml, hown, hlk, hnm, htf, htt, hfr, hlo, hst, hG⟩ := X
  refine vx_throwS (names := ac_par) (sa := ac_sx E i) hx hb hst hown hf (by decide +kernel) (hG.2.1 _ _ hk) (hG.2.1 _ _ hini) (hG.2.2.2.1 i _ hs) (fun w hw => hG.2.1 _ _ (hat w hw)) (fun w hw => List.all_eq_true.mp hgd w hw) hG.2.2.2.2.1 hG.2.2.2.2.2.1 hS (by rw [hml]; exact hL.1) d0 d3 d4 d6 d9 (fun z hz => (htf ht z hz).elim) ?_ ?_ hrc hrs hlk ?_ hS.2.2 hc hs2
  · exact Nat.lt_of_lt_of_le (Nat.lt_of_lt_of_le (by decide) h5) hfr
  · exact Nat.le_trans (Nat.le_trans (by decide) h6) hlo
  · intro t ha hz ho
    refine hX t (hW.push hz ho (fun r hr => ?_)) ⟨Nat.le_trans hS.1 (by omega), fun q h1 h2 => (ho q (Nat.lt_of_lt_of_le h1 hS.1)).trans (hS.2.1 q h1 h2)⟩
    exact absurd hr (by simp [vwCl])
end
section
/-! ===== what the abstract machine answers, the machine does ===== -/
abbrev ac_HD : Type := Nat → Nat → Nat → Option (Option (Nat × Nat))
def ac_V (E : ac_E) (MD : Nat → ac_M) (HD : ac_HD) (y pc : Nat) (o : ac_O) : Prop := match o with
  | .inl f => ac_ok E (MD y) pc f ∧ ac_mn f
  | .inr (.inl (z, na, nx, rv)) => ac_okr E (MD y) (MD z) pc na nx rv ∧ ∀ x, (HD y pc x = some none → (MD y).2.2.2.2.2.2.2 = false ∧ ac_okt E (MD y) (MD z) pc na rv) ∧ ∀ i nx', HD y pc x = some (some (i, nx')) → ac_okt E (MD y) (MD z) pc na rv ∧ ac_okh E (MD y) pc x i nx'
  | .inr (.inr (.inl b)) => (b = 0 → decode (MD y).2.1 pc = .ok (.return_, 1) ∧ (MD y).2.2.2.1 = none) ∧ (b = 1 → decode (MD y).2.1 pc = .ok (.ireturn, 1) ∧ (MD y).2.2.2.1 = some .int) ∧ (b = 2 → decode (MD y).2.1 pc = .ok (.ireturn, 1) ∧ (MD y).2.2.2.1 = some .boolean)
  | .inr (.inr (.inr x)) => ac_okx E (MD y) pc x
theorem ac_V_none {E : ac_E} {MD : Nat → ac_M} {HD : ac_HD} {y pc : Nat} : ac_V E MD HD y pc (.inl (fun _ => none)) := ⟨fun p l e R s m args below meth c X Q ls st h cn kn pc' ls' st' h' cn' kn' hf => (by cases hf), fun σ σ' hf => (by cases hf)⟩
def ac_rt (meth : Method) (c : Code) (pc : Nat) (v : Option Value) : Prop := (v = none ∧ decode c.code pc = .ok (.return_, 1) ∧ meth.sig.returnType = none) ∨ ∃ (i : Int32) (ty : FieldType), v = some (.int i) ∧ decode c.code pc = .ok (.ireturn, 1) ∧ meth.sig.returnType = some ty ∧ narrow ty (.int i) = .int i
def ac_end (E : ac_E) (r : ac_R) (p : Program) (l : Launch) (e : Env) (R : Room) (s : State) (m : MethodId) (args : Array Value) (below : List Frame) (meth : Method) (c : Code) (Q : State → Prop) : Prop := match r.1 with
  | .inl v => ∀ (H : Heap) (locs : List Loc) (la : Array Slot) (pc : Nat), ac_W E r.2.1 H → va_S (ac_A E) s.heap H locs → ac_rt meth c pc v → W p l e R s m args below meth c H locs r.2.2.1 r.2.2.2 Q (F0 m pc la (v.toList.map (ac_v E)))
  | .inr x => ∃ (Qc : Array Value → State → Outcome → State → Prop) (XC : String → State → State → Prop) (mc ms : Nat), Q = vx_MQ below Qc XC args s mc ms (ac_A E) ∧ r.2.2.1 ≤ mc ∧ r.2.2.2 ≤ ms ∧ ∀ t : State, ac_W E r.2.1 t.heap → va_F (ac_A E) s t → XC (ac_exn x) s t
theorem ac_mono {T : Nat → Nat → ac_O} {HD : ac_HD} {nl : Nat → Nat} (hT : ∀ y pc f, T y pc = .inl f → ac_mn f) : ∀ (n y : Nat) (σ : ac_S) (r : ac_R), ac_x T HD nl n y σ = some r → σ.2.2.2.2.1 ≤ r.2.2.1 ∧ σ.2.2.2.2.2 ≤ r.2.2.2 := by
  intro n
  induction n with
  | zero => intro y σ r h; cases h
  | succ n ih =>
    rintro y ⟨pc, ls, st, h, c, k⟩ r hx
    rw [ac_x] at hx
    split at hx
    · rename_i f hf
      split at hx
      · rename_i σ hs
        have h1 := hT y pc f hf _ _ hs
        have h2 := ih y σ r hx
        exact ⟨Nat.le_trans h1.1 h2.1, Nat.le_trans h1.2 h2.2⟩
      · cases hx
    · split at hx
      · split at hx
        · have h2 := ih _ _ _ hx
          exact ⟨Nat.le_trans (Nat.le_add_right _ _) h2.1, Nat.le_trans (Nat.le_add_right _ _) h2.2⟩
        · split at hx
          · have h2 := ih _ _ _ (ac_set_some hx).2
            exact ⟨Nat.le_trans (Nat.le_add_right _ _) h2.1, Nat.le_trans (Nat.le_add_right _ _) h2.2⟩
          · cases hx
            exact ⟨Nat.le_add_right _ _, Nat.le_add_right _ _⟩
          · cases hx
        · cases hx
      · cases hx
    · split at hx
      · cases hx
        exact ⟨Nat.le_refl _, Nat.le_refl _⟩
      · cases hx
        exact ⟨Nat.le_refl _, Nat.le_refl _⟩
      · split at hx
        · cases hx
          exact ⟨Nat.le_refl _, Nat.le_refl _⟩
        · cases hx
      · cases hx
    · split at hx
      · cases hx
        exact ⟨Nat.le_add_right _ _, Nat.le_add_right _ _⟩
      · cases hx
/-- soundness of all runs of n strides -/
def ac_snd (E : ac_E) (MD : Nat → ac_M) (T : Nat → Nat → ac_O) (HD : ac_HD) (l : Launch) (n : Nat) : Prop :=
  ∀ (y pc : Nat) (ls st : List Value) (h : ac_H) (cn kn : Nat) (r : ac_R), ac_x T HD (fun z => (MD z).2.2.1) n y (pc, ls, st, h, cn, kn) = some r →
  ∀ (p : Program) (e : Env) (R : Room) (s : State) (m : MethodId) (args : Array Value) (below : List Frame) (meth : Method) (c : Code), ac_X E (MD y) p l R s m meth c →
  ∀ (Q : State → Prop), ac_end E r p l e R s m args below meth c Q → r.2.2.1 ≤ R.cells → r.2.2.2 ≤ R.slots →
  ∀ (H : Heap) (locs : List Loc) (la : Array Slot), ac_W E h H → va_S (ac_A E) s.heap H locs → ac_L E la (MD y).2.2.1 ls →
  W p l e R s m args below meth c H locs cn kn Q (F0 m pc la (st.map (ac_v E)))
/-- a method's body out of what holds at its start -/
theorem ac_body {E : ac_E} {d : ac_M} {l : Launch} (hl : l.stackTraces = false) {ws : List Cond} {c' k' : Nat} {as : List Value} {h : ac_H} (ho : ∀ a ∈ as, ac_one a = true) (hn : as.length ≤ d.2.2.1) {Qf : List Frame → Array Value → State → State → Prop}
    {p : Program} {e : Env} {s : State} {m : MethodId} {args : Array Value} {below : List Frame} {meth : Method} {c : Code} {s₁ : State} (B : BodyLoose p l d.1 (headSpec ws (ac_ro d c' k')) d.2.1 d.2.2.1 d.2.2.2.1 e s m args below meth c s₁) (hml : c.maxLocals = d.2.2.1)
    (htf : d.2.2.2.2.2.2.2 = false → ∀ x ∈ c.exceptionTable.toList, False) (htt : d.2.2.2.2.2.2.2 = true → c.exceptionTable.toList = tableOf d.2.2.2.2.2.2.1) (hP : ac_Pc E as h args s)
    (k : ac_X E d p l (ac_ro d c' k') s m meth c → ∀ la : Array Slot, ac_L E la d.2.2.1 (as ++ List.replicate (d.2.2.1 - as.length) ac_un) → W p l e (ac_ro d c' k') s m args below meth c s.heap [] 0 0 (Qf below args s) (F0 m 0 la [])) :
    W p l e (headSpec ws (ac_ro d c' k')).room s m args below meth c s.heap [] 0 0 (Qf below args s) (entryFrame m args d.2.2.1) := by
  obtain ⟨rfl, hG, hW⟩ := hP
  have X : ac_X E d p l (ac_ro d c' k') s m meth c := ⟨B.exec, B.bytes, B.returns, hml, findClass_of_methodNamed B.named, B.notSynchronized, (name_of_methodNamed B.named B.method).1, htf, htt, Nat.le_refl _, Nat.le_refl _, hl, hG⟩
  rw [lg_entry_eq]
  exact k X _ (ac_entry ho hn)
theorem ac_endr {E : ac_E} {d : ac_M} {l : Launch} {v : Option Value} {h' : ac_H} {c' k' : Nat} {p : Program} {e : Env} {R : Room} {s : State} {m : MethodId} {args : Array Value} {below : List Frame} {meth : Method} {c : Code} {XC : String → State → State → Prop} (X : ac_X E d p l R s m meth c) :
    ac_end E (.inl v, h', c', k') p l e R s m args below meth c (vx_MQ below (ac_Qr E v h') XC args s c' k' (ac_A E)) := by
  obtain ⟨hx, hb, hr, hml, hown, hlk, hnm, htf, htt, hfr, hlo, hst, hG⟩ := X
  intro H locs la pc hW hS hrt
  rcases hrt with ⟨rfl, hd, hre⟩ | ⟨i, ty, rfl, hd, hre, hna⟩
  · exact vx_ret (W.vret hx rfl hre (fun t ht hW9 => ⟨rfl, by rw [ht]; exact hW, hS.F ht⟩) hS.2.2 hd hlk)
  · exact vx_ret (W.zret hx rfl hre hna (fun t ht hW9 => ⟨rfl, by rw [ht]; exact hW, hS.F ht⟩) hS.2.2 hd hlk)
theorem ac_endt {E : ac_E} {l : Launch} {x : Nat} {h' : ac_H} {c' k' : Nat} {p : Program} {e : Env} {R : Room} {s : State} {m : MethodId} {args : Array Value} {below : List Frame} {meth : Method} {c : Code} {Qc : Array Value → State → Outcome → State → Prop} :
    ac_end E (.inr x, h', c', k') p l e R s m args below meth c (vx_MQ below Qc (ac_Xr E x h') args s c' k' (ac_A E)) :=
  ⟨Qc, ac_Xr E x h', c', k', rfl, Nat.le_refl _, Nat.le_refl _, fun t hw hF => ⟨rfl, hw, hF⟩⟩
section Main10
variable {E : ac_E} {MD : Nat → ac_M} {T : Nat → Nat → ac_O} {HD : ac_HD} {l : Launch}
theorem ac_toM (hl : l.stackTraces = false) (hP : ∀ z, plainName (MD z).1.cls = true) {n z : Nat} (ih : ac_snd E MD T HD l n) {as : List Value} {h h' : ac_H} {o : Option Value ⊕ Nat} {c' k' : Nat} (ho : ∀ a ∈ as, ac_one a = true) (hn : as.length ≤ (MD z).2.2.1)
    (hx : ac_x T HD (fun z => (MD z).2.2.1) n z (0, as ++ List.replicate ((MD z).2.2.1 - as.length) ac_un, [], h, 0, 0) = some (o, h', c', k')) (Qc : Array Value → State → Outcome → State → Prop) (XC : String → State → State → Prop)
    (hend : ∀ (p : Program) (e : Env) (s : State) (m : MethodId) (args : Array Value) (below : List Frame) (meth : Method) (c : Code), ac_X E (MD z) p l (ac_ro (MD z) c' k') s m meth c → ac_end E (o, h', c', k') p l e (ac_ro (MD z) c' k') s m args below meth c (vx_MQ below Qc XC args s c' k' (ac_A E))) :
    vx_Met l (MD z).1 [ac_cw (MD z)] (ac_ro (MD z) c' k') (ac_Pc E as h) Qc XC c' k' (ac_A E) := by
  cases ht : (MD z).2.2.2.2.2.2.2 with
  | false =>
    rw [ac_cw_code ht]
    refine vx_ofW (hP z) rfl (fun p e s m args below meth c s₁ B hml hnt hPc => ?_)
    exact ac_body (Qf := fun below args s => vx_MQ below Qc XC args s c' k' (ac_A E)) hl ho hn B hml (fun _ => hnt) (fun q => by rw [ht] at q; cases q) hPc (fun X la hL => ih z _ _ _ _ _ _ _ hx p e _ s m args below meth c X _ (hend p e s m args below meth c X) (Nat.le_refl _) (Nat.le_refl _) s.heap [] la hPc.2.2 va_S.rf hL)
  | true =>
    rw [ac_cw_with ht]
    refine vx_ofWH (hP z) rfl (fun p e s m args below meth c s₁ B hml hPc => ?_)
    have hcw : (Cond.codeWith (MD z).1 (MD z).2.1 (MD z).2.2.1 (MD z).2.2.2.1 (MD z).2.2.2.2.2.2.1).before args s = true := atoms_spec (ws := [_]) B.pre _ List.mem_cons_self
    exact ac_body (Qf := fun below args s => vx_MQ below Qc XC args s c' k' (ac_A E)) hl ho hn B hml (fun q => by rw [ht] at q; cases q) (fun _ => vx_table (x := (MD z).1) B hcw) hPc (fun X la hL => ih z _ _ _ _ _ _ _ hx p e _ s m args below meth c X _ (hend p e s m args below meth c X) (Nat.le_refl _) (Nat.le_refl _) s.heap [] la hPc.2.2 va_S.rf hL)
theorem ac_take {st : List Value} {na : Nat} : ((st.take na).reverse).reverse ++ st.drop na = st := by rw [List.reverse_reverse, List.take_append_drop]
theorem ac_main (hV : ∀ y pc, ac_V E MD HD y pc (T y pc)) (hl : l.stackTraces = false) (hP : ∀ z, plainName (MD z).1.cls = true) : ∀ n, ac_snd E MD T HD l n := by
  have hmn : ∀ y pc f, T y pc = .inl f → ac_mn f := fun y pc f hf => by
    have h := hV y pc
    rw [hf] at h
    exact h.2
  intro n
  induction n with
  | zero => intro y pc ls st h cn kn r hx; cases hx
  | succ n ih =>
    intro y pc ls st h cn kn r hx p e R s m args below meth c X Q hend hrc hrs H locs la hW hS hL
    have hv := hV y pc
    rw [ac_x] at hx
    split at hx
    · rename_i f hf
      rw [hf] at hv
      split at hx
      · rename_i σ hs
        obtain ⟨pc', ls', st', h', cn', kn'⟩ := σ
        have hm := ac_mono hmn n y _ r hx
        exact hv.1 p l e R s m args below meth c X Q ls st h cn kn pc' ls' st' h' cn' kn' hs (Nat.le_trans hm.1 hrc) (Nat.le_trans hm.2 hrs) H locs la hW hS hL (fun H1 locs1 la1 w1 s1 l1 => ih y pc' ls' st' h' cn' kn' r hx p e R s m args below meth c X Q hend hrc hrs H1 locs1 la1 w1 s1 l1)
      · cases hx
    · rename_i z na nx rv hf
      rw [hf] at hv
      split at hx
      · rename_i hc
        obtain ⟨hc1, hc2, hc3, hc4, hc5⟩ := hc
        have hln : (st.take na).reverse.length = na := by simp; omega
        have ho : ∀ a ∈ (st.take na).reverse, ac_one a = true := fun a ha => List.all_eq_true.mp hc4 a (List.mem_reverse.mp ha)
        rw [show List.replicate ((MD z).2.2.1 - na) ac_un = List.replicate ((MD z).2.2.1 - (st.take na).reverse.length) ac_un by rw [hln]] at hx
        rw [show st.map (ac_v E) = (((st.take na).reverse).reverse ++ st.drop na).map (ac_v E) by rw [ac_take]]
        split at hx
        · rename_i v h' c' k' hz
          have hm := ac_mono hmn n y _ r hx
          have hM : ac_Mr l E (MD z) (st.take na).reverse h v h' c' k' := ac_toM hl hP ih ho (by rw [hln]; exact hc3) hz _ _ (fun p e s m args below meth c X => ac_endr X)
          exact hv.1 p l e R s m args below meth c X Q ls (st.take na).reverse (st.drop na) h cn kn v h' c' k' hln ho hc5 hc2 hM (Nat.le_trans hm.1 hrc) (Nat.le_trans hm.2 hrs) H locs la hW hS hL (fun H1 locs1 w1 s1 => ih y nx ls _ h' _ _ r hx p e R s m args below meth c X Q hend hrc hrs H1 locs1 la w1 s1 hL)
        · rename_i x h' c' k' hz
          have hM : ac_Mt l E (MD z) (st.take na).reverse h x h' c' k' := ac_toM hl hP ih ho (by rw [hln]; exact hc3) hz _ _ (fun p e s m args below meth c X => ac_endt)
          split at hx
          · rename_i i nx' hh
            obtain ⟨hi, hx⟩ := ac_set_some hx
            have hm := ac_mono hmn n y _ r hx
            obtain ⟨ht, hk⟩ := (hv.2 x).2 i nx' hh
            exact ht p l e R s m args below meth c X Q ls (st.take na).reverse (st.drop na) h cn kn x h' c' k' hln ho hc5 hc2 hM (Nat.le_trans hm.1 hrc) (Nat.le_trans hm.2 hrs) H locs la hW hS hL (fun H1 locs1 q ce w1 s1 g1 g2 g3 => hk p l e R s m args below meth c X Q ls _ _ _ H1 locs1 la q ce hL hi g1 g2 g3 (fun la1 l1 => ih y nx' (ls.set i ac_un) [] h' _ _ r hx p e R s m args below meth c X Q hend hrc hrs H1 locs1 la1 w1 s1 l1))
          · rename_i hh
            cases hx
            obtain ⟨hnt, ht⟩ := (hv.2 x).1 hh
            obtain ⟨Qc, XC, mc, ms, rfl, h1, h2, hX⟩ := hend
            exact ht p l e R s m args below meth c X _ ls (st.take na).reverse (st.drop na) h cn kn x h' c' k' hln ho hc5 hc2 hM hrc hrs H locs la hW hS hL (fun H1 locs1 q ce w1 s1 g1 g2 g3 => vx_out (fun z hz => (X.2.2.2.2.2.2.2.1 hnt z hz).elim) X.2.2.2.2.2.1 g1 g2 g3 (fun t ht9 _ => hX t (by rw [ht9]; exact w1) (s1.F ht9)) s1.2.2 h1 h2)
          · cases hx
        · cases hx
      · cases hx
    · rename_i b hf
      rw [hf] at hv
      split at hx
      · cases hx
        have hd := hv.1 rfl
        exact hend H locs la pc hW hS (Or.inl ⟨rfl, by rw [X.2.1]; exact hd.1, by rw [X.2.2.1]; exact hd.2⟩)
      · rename_i v
        cases hx
        have hd := hv.2.1 rfl
        exact hend H locs la pc hW hS (Or.inr ⟨v, .int, rfl, by rw [X.2.1]; exact hd.1, by rw [X.2.2.1]; exact hd.2, rfl⟩)
      · rename_i v
        split at hx
        · rename_i h01
          cases hx
          have hd := hv.2.2 rfl
          exact hend H locs la pc hW hS (Or.inr ⟨v, .boolean, rfl, by rw [X.2.1]; exact hd.1, by rw [X.2.2.1]; exact hd.2, by rcases h01 with rfl | rfl <;> rfl⟩)
        · cases hx
      · cases hx
    · rename_i x hf
      rw [hf] at hv
      split at hx
      · cases hx
        obtain ⟨Qc, XC, mc, ms, rfl, h1, h2, hX⟩ := hend
        exact hv p l e R s m args below meth c X Qc XC h ls cn kn mc ms H locs la hW hS hL hrc hrs h1 h2 hX
      · cases hx
end Main10
end
section
/-! ===== 'throw new E("text")' of a class whose constructor names its parent's by another index than 7 (java/util/NoSuchElementException of JDK 17: 13) ===== -/
def ax_at (own : String) (ic : Nat) (X : String) (ix : Nat) (bytes : ByteArray) (Y : String) (r : List String) : List Cond :=
  Bundle.throwableAtoms ++ Bundle.throwableSAtoms ++ Bundle.passSAtoms X Y ix bytes ++ Bundle.chainSAtoms Y r ++
  [.methodLink own ic (Bundle.initS X), .instantiable X 6, .castable X X, .selects X Bundle.tFill0 Bundle.tFill0, .selects X Bundle.tFill Bundle.tFill,
   .lays X Bundle.tN "cause" "Ljava/lang/Throwable;", .lays X Bundle.tN "stackTrace" Bundle.steD, .lays X Bundle.tN "suppressedExceptions" Bundle.listD, .lays X Bundle.tN "detailMessage" "Ljava/lang/String;",
   .isRef (.static Bundle.tN "UNASSIGNED_STACK" Bundle.steD), .isRef (.static Bundle.tN "SUPPRESSED_SENTINEL" Bundle.listD),
   .fieldLink Bundle.tN 198 Bundle.tN "backtrace" "Ljava/lang/Object;", .lays Bundle.tN Bundle.tN "backtrace" "Ljava/lang/Object;", .lays X Bundle.tN "backtrace" "Ljava/lang/Object;"]
def ax_atS (own : String) (ic : Nat) (X : String) (ix : Nat) (bytes : ByteArray) (Y : String) (r : List String) : List Cond := (ax_at own ic X ix bytes Y r).filter vx_no
section AX
variable {p : Program} {l : Launch} {e : Env} {R : Room} {s : State} {m₀ : MethodId} {args : Array Value} {below : List Frame} {meth : Method} {c : Code} {V : State} {locs : List Loc} {cells slots : Nat}
set_option maxHeartbeats 2000000 in
theorem ax_ctor (X : Stand p l e R s m₀ args below meth c V locs cells slots) (hexec : p.tables.exec = Jvm.exec) (htr : e.platform.stackTraces = false) {own cls Y9 : String} {r9 : List String} {ic ix : Nat} {bytes : ByteArray}
    (hown : s.vm.findClass own = some m₀.cls) (hcls : Bundle.fit cls = true) (hY9 : Bundle.fit Y9 = true) (hnames : ∀ n ∈ r9, Bundle.fit n = true)
    (b0 : decode bytes 0 = .ok (.aload_n 0, 1)) (b1 : decode bytes 1 = .ok (.aload_n 1, 1)) (b2 : decode bytes 2 = .ok (.invokespecial ix, 3)) (b5 : decode bytes 5 = .ok (.return_, 1))
    (h : ∀ a ∈ ax_at own ic cls ix bytes Y9 r9, a.before args s = true)
    (hlocs : ∀ x ∈ locs, ∀ cell, s.heap[x.base]? = some cell → cell.vm.isStatics = false)
    {a : Addr} {cX : ClassId} {kX : Class} (hfoundX : s.vm.findClass cls = some cX) (hkX : s.vm.classes[cX]? = some kX) (hcell : V.heap[a]? = some (freshCell cX kX)) (hnew : s.heap.size ≤ a)
    {msg : Value} (hmsg : msg.isRef = true)
    {g : JFrame} (hg : g.method = m₀) (hsize : g.locals.size = c.maxLocals) (hlocked : g.locked = none) (hentered : g.entered = []) {rest : List Value} (hstack : g.stack = msg :: .ref a :: .ref a :: rest)
    (hd6 : decode c.code g.pc = .ok (.invokespecial ic, 3)) (hd9 : decode c.code (g.pc + 3) = .ok (.athrow, 1)) (hout : ∀ x ∈ c.exceptionTable.toList, covers x (g.pc + 3) = false)
    (hRframes : r9.length + 4 < R.frames) (hRlocals : 2 * g.monitorRoom + ((Value.ref a :: rest).map fun v => v.category).sum + (13 * (r9.length + 2) + 42) ≤ R.locals) (hlocks : meth.locks = false) :
    ∃ U : State, Steps p.tables e below (V.setTop g) U ∧ U.status = .running ∧ Ended U below (.threw a) ∧ s.WarmedH U.vm ∧ s.sameButNew ({ U with vm := s.vm } : State) locs cells slots ∧
      ∃ ce, U.heap[a]? = some ce ∧ ce.vm = .none ∧ s.vm.findClass cls = some ce.cls := by
  have howns : e.platform.frameOwnsMonitors = true := by rw [X.admits.platform]
  have hfin : e.platform.finalization = false := by rw [X.admits.platform]
  have hpl : e.platform.magicAccessors = ({} : Platform).magicAccessors := by rw [X.admits.platform]
  have a' : ∀ x, x ∈ ax_at own ic cls ix bytes Y9 r9 → x.holds args s none s [] = true := fun x hx => h x hx
  obtain ⟨T, Z0, L, -, Y⟩ := ThrowableC.of_atoms (args := args) howns hfin hpl (fun x hx => h x (by simp [ax_at, hx]))
  obtain ⟨Z, M, LZ, LM, hnZ⟩ := Init0T.ofS_atoms (args := args) hpl L Y (fun x hx => h x (by simp [ax_at, hx]))
  obtain ⟨P1, L1, hP1m, hP1s⟩ := PassC.ofS_atoms (args := args) (s := s) hpl (X := cls) (Y := Y9) (Bundle.fit_spec hcls).1 (Bundle.fit_spec hY9).2 b0 b1 b2 b5 (fun x hx => h x (by simp [ax_at, hx]))
  obtain ⟨P2, Ps, hlen, L2, hL, hP2m, hlink2, hlink⟩ := Bundle.chainS (args := args) hpl hnZ r9 Y9 hY9 hnames (fun x hx => h x (by simp [ax_at, hx]))
  have hlink1 : P1.sup = P2.m := Option.some.inj (hP1s.symm.trans hP2m)
  have hfound : s.vm.findClass cls = some P1.m.cls := findClass_of_methodNamed hP1m
  cases Option.some.inj (hfoundX.symm.trans hfound)
  obtain ⟨c1, kX', hc1, hk, hord, -, -, hn6⟩ := Cond.instantiable_spec (a' (.instantiable cls 6) (by simp [ax_at]))
  cases Option.some.inj (hc1.symm.trans hfound)
  cases Option.some.inj (hkX.symm.trans hk)
  have hsel0 : selectMethod e.platform s.vm P1.m.cls T.fill0 = .method T.fill0 := by
    obtain ⟨c2, r2, m2, q1, q2, q3, q4, -⟩ := Cond.selects_spec (a' (.selects cls Bundle.tFill0 Bundle.tFill0) (by simp [ax_at]))
    cases Option.some.inj (q1.symm.trans hfound)
    cases Option.some.inj (q2.symm.trans (State.methodFound?_of_named Y.fill0 (by decide)))
    cases Option.some.inj (q3.symm.trans Y.fill0)
    rw [Launch.admits_selectMethod X.admits]; exact q4
  have hselF : selectMethod e.platform s.vm P1.m.cls T.fill = .method T.fill := by
    obtain ⟨c2, r2, m2, q1, q2, q3, q4, -⟩ := Cond.selects_spec (a' (.selects cls Bundle.tFill Bundle.tFill) (by simp [ax_at]))
    cases Option.some.inj (q1.symm.trans hfound)
    cases Option.some.inj (q2.symm.trans (State.methodFound?_of_named Y.fill (by decide)))
    cases Option.some.inj (q3.symm.trans Y.fill)
    rw [Launch.admits_selectMethod X.admits]; exact q4
  obtain ⟨cellS0, hcS0, hiss⟩ := Y.statics
  obtain ⟨u0, hu0⟩ := Cond.staticRefV Y.unassigned L.unassignedStatic L.statics hcS0 hiss (a' (.isRef (.static Bundle.tN "UNASSIGNED_STACK" Bundle.steD)) (by simp [ax_at]))
  obtain ⟨sen, hsen⟩ := Cond.staticRefV Y.sentinel L.sentinelStatic L.statics hcS0 hiss (a' (.isRef (.static Bundle.tN "SUPPRESSED_SENTINEL" Bundle.listD)) (by simp [ax_at]))
  obtain ⟨ci198, i198, fB, hk198, hg198, ha198, hsB, -, hnB, htB, hffB⟩ := Cond.ownField (t := .object "java/lang/Object") Y.found L.cls (by decide +kernel) (a' (.fieldLink Bundle.tN 198 Bundle.tN "backtrace" "Ljava/lang/Object;") (by simp [ax_at])) (a' (.lays Bundle.tN Bundle.tN "backtrace" "Ljava/lang/Object;") (by simp [ax_at])) e.platform hpl
  obtain ⟨cellS, hcS', heS, -, hkeep⟩ := X.same.2.2.2.2.2 T.aS cellS0 hcS0
  have hcellS : V.heap[T.aS]? = some cellS := hcS'
  have hout' : ∀ i, (⟨T.aS, i⟩ : Loc) ∉ locs := fun i hmem => by
    have := hlocs _ hmem cellS0 hcS0
    rw [hiss] at this; cases this
  have hknownS : cellS.vm ≠ .unknown := by
    rw [heS]; intro hu
    rw [show cellS0.vm = .unknown from hu] at hiss
    cases hiss
  have hneS : T.aS ≠ a := Nat.ne_of_lt (Nat.lt_of_lt_of_le (Array.getElem?_eq_some_iff.mp hcS0).1 hnew)
  obtain ⟨iM, hffM⟩ := Y.msg
  obtain ⟨tyC, dC, hdC, hdnC⟩ := Cond.laysAt hfound hk Y.cause (a' (.lays cls Bundle.tN "cause" "Ljava/lang/Throwable;") (by simp [ax_at]))
  obtain ⟨tyS, dS, hdS, hdnS⟩ := Cond.laysAt hfound hk Y.stack (a' (.lays cls Bundle.tN "stackTrace" Bundle.steD) (by simp [ax_at]))
  obtain ⟨tyP, dP, hdP, hdnP⟩ := Cond.laysAt hfound hk Y.supp (a' (.lays cls Bundle.tN "suppressedExceptions" Bundle.listD) (by simp [ax_at]))
  obtain ⟨tyM, dM, hdM, hdnM⟩ := Cond.laysAt hfound hk hffM (a' (.lays cls Bundle.tN "detailMessage" "Ljava/lang/String;") (by simp [ax_at]))
  obtain ⟨tyB, dB, hdB, hdnB⟩ := Cond.laysAt hfound hk hffB (a' (.lays cls Bundle.tN "backtrace" "Ljava/lang/Object;") (by simp [ax_at]))
  have bC := Cond.laysApart hdB hdC hdnB hdnC (by rw [hnB, Y.causeName]; decide)
  have bS := Cond.laysApart hdB hdS hdnB hdnS (by rw [hnB, Y.stackName]; decide)
  have bP := Cond.laysApart hdB hdP hdnB hdnP (by rw [hnB, Y.suppName]; decide)
  have hskip : SkipFacts T e.platform s (fun u => u) u0 ((preparedCellV T.toThrowableT (freshCell P1.m.cls kX) a u0 sen).withEntry V.cur) :=
    ⟨{ ci198 := ci198, i198 := i198, fBack := fB }, ⟨hk198, hg198, ha198, hsB⟩, by
      have := fresh_default (c := P1.m.cls) tyB
      rw [htB] at this
      simpa [preparedCellV, Cell.setSlot, Cell.withEntry, Array.getElem?_setIfInBounds, bC, bS, bP, bC.symm, bS.symm, bP.symm, defaultValue] using this, fun _ _ => rfl⟩
  obtain ⟨tm, methC, cdC, kC, vm₁, hnC, -, -, -, -, -, -, -, hW₁, st1⟩ := Steps.initColdS (tb := p.tables) (e := e) (below := below) (s := s) (U := V) X.here hexec X.warmed hpl hown (t := Bundle.initS cls) rfl rfl (Bundle.fit_spec hcls).2
    (a' (.methodLink own ic (Bundle.initS cls)) (by simp [ax_at])) (h (.instanceMethod (Bundle.initS cls)) (by simp [ax_at, Bundle.passSAtoms])) (bytes := bytes) (maxL := 2) (h (.code (Bundle.initS cls) bytes 2 none) (by simp [ax_at, Bundle.passSAtoms]))
    (f := g) hg (a := a) (msg := msg) (rest := .ref a :: rest) hstack hd6
  cases Option.some.inj (hnC.symm.trans hP1m)
  have X₁ := X.noted hW₁
  obtain ⟨vm₂, X₂, st2⟩ := X₁.ctorMessageOffV hexec (g := { g with stack := .ref a :: rest }) hg hsize T L Z LZ M LM (P1 :: P2 :: Ps)
    (fun P hP => by
      rcases List.mem_cons.mp hP with rfl | hP
      · exact L1
      · rcases List.mem_cons.mp hP with rfl | hP
        · exact L2
        · exact hL P hP) ⟨hlink1, hlink2, hlink⟩ (u0 := u0) (sen := sen) (self := a) hmsg (cell := freshCell P1.m.cls kX) (cellS := cellS)
    hcell (fun _ => by simp) (by simp) rfl rfl hsel0 hselF hcellS hneS hknownS (by rw [hkeep _ (hout' _)]; exact hu0) (by rw [hkeep _ (hout' _)]; exact hsen)
    (Takes.of_laid hk hord tyC (by rw [Y.causeType]; rfl)) (Takes.of_laid hk hord tyS (by rw [Y.stackType]; exact fits_refV_array _ u0)) (Takes.of_laid hk hord tyP (by rw [Y.suppType]; exact fits_refV_object _ sen))
    (Takes.of_laid hk hord tyM (by rw [Y.msgType]; exact fits_refV_object _ ⟨msg, hmsg⟩)) Y.objLocals hskip htr [] hd6
    (by simp only [List.length_cons, hlen]; omega) (by simp only [List.length_cons, hlen]; exact hRlocals)
  obtain ⟨hwalk, hrun, hended, hWU, hsame⟩ := X₂.athrowLeaves hexec (g := { g with stack := .ref a :: rest, pc := g.pc + 3 }) hg hlocked hentered hout (a := a) (rest := rest) rfl hd9
  have hlt : a < ((V.setVm vm₁).setVm vm₂).heap.size := (Array.getElem?_eq_some_iff.mp hcell).1
  have hU := heapAt_setCell_self (s := (V.setVm vm₁).setVm vm₂) (plainBareV T.toThrowableT (freshCell P1.m.cls kX) a u0 sen msg) hlt
  refine ⟨_, st1 _ (fun acts => ?_), hrun, hended, hWU, hsame.weaken (fun y hy hlt' => ?_) (Nat.le_refl _) (Nat.le_refl _), _, hU, rfl, hfound⟩
  · rw [doInvoke_state]
    exact st2 _ hwalk
  · rcases List.mem_append.mp hy with h1 | h1
    · exact h1
    · exfalso
      have hb : y.base = a := by
        simp only [List.mem_cons, List.not_mem_nil, or_false] at h1
        rcases h1 with rfl | rfl | rfl | rfl | rfl <;> rfl
      rw [hb] at hlt'
      exact Nat.not_lt.mpr hnew hlt'
end AX
section AX2
variable {p : Program} {l : Launch} {e : Env} {R : Room} {s : State} {m : MethodId} {args : Array Value} {below : List Frame} {meth : Method} {c : Code} {H : Heap} {locs : List Loc} {cells slots : Nat} {Q : State → Prop}
variable {mc ms : Nat} {free : Addr → Prop} {A0 A1 : Nat → Prop} {H0 : Heap} {a : Array Value} {ls : Array Slot} {st0 rest : List Value}
variable {Qc : Array Value → State → Outcome → State → Prop} {XC : String → State → State → Prop}
theorem ax_throwS {cc : ByteArray} {pc : Nat} (hexec : p.tables.exec = Jvm.exec) (hb : c.code = cc) (hl : l.stackTraces = false) {own cls text : String} {Y9 : String} {r9 : List String} {bytes : ByteArray} {ik is ic ix mc ms sa : Nat} {A : Nat → Prop}
    (hown : s.vm.findClass own = some m.cls) (hcls : Bundle.fit cls = true) (hY9 : Bundle.fit Y9 = true) (hnames : ∀ n ∈ r9, Bundle.fit n = true) (b0 : decode bytes 0 = .ok (.aload_n 0, 1)) (b1 : decode bytes 1 = .ok (.aload_n 1, 1)) (b2 : decode bytes 2 = .ok (.invokespecial ix, 3)) (b5 : decode bytes 5 = .ok (.return_, 1))
    (hk : (Cond.classLink own ik cls).before args s = true) (hini : (Cond.initialized cls).before args s = true) (hstr : vk_R own is text sa s) (hat : ∀ w ∈ ax_atS own ic cls ix bytes Y9 r9, w.before args s = true)
    (hgood : ∀ w ∈ Cond.classLink own ik cls :: Cond.initialized cls :: ax_atS own ic cls ix bytes Y9 r9, vx_ot w = true)
    (hU : vx_Zq Bundle.tN "UNASSIGNED_STACK" Bundle.steD A s s.heap) (hN : vx_Zq Bundle.tN "SUPPRESSED_SENTINEL" Bundle.listD A s s.heap) (hS : va_S A s.heap H locs) (hsize : ls.size = c.maxLocals)
    (d0 : decode cc pc = .ok (.new ik, 3)) (d3 : decode cc (pc + 3) = .ok (.dup, 1)) (d4 : decode cc (pc + 4) = .ok (.ldc is, 2)) (d6 : decode cc (pc + 6) = .ok (.invokespecial ic, 3)) (d9 : decode cc (pc + 9) = .ok (.athrow, 1))
    (hout : ∀ x ∈ c.exceptionTable.toList, covers x (pc + 9) = false)
    (hRframes : r9.length + 4 < R.frames) (hRlocals : (rest.map fun v => v.category).sum + (13 * (r9.length + 2) + 43) ≤ R.locals) (hRcells : cells + 1 ≤ R.cells) (hRslots : slots + 6 ≤ R.slots) (hlocks : meth.locks = false)
    (hx : ∀ t : State, s.vm.Alike t.vm → t.heap.size = H.size + 1 → (∀ q : Nat, q < H.size → t.heap[q]? = H[q]?) → XC cls s t)
    (hf : ∀ z ∈ locs, free z.base) (hc : cells + 1 ≤ mc) (hs : slots + 6 ≤ ms) :
    W p l e R s m args below meth c H locs cells slots (vx_MQ below Qc XC args s mc ms free) (F0 m pc ls rest) := by
  intro T hT X
  have htr : e.platform.stackTraces = false := (show e.platform.stackTraces = l.stackTraces by rw [X.admits.platform]).trans hl
  have Y := vx_rebase X (R' := { frames := R.frames, locals := R.locals, cells := 1, slots := 6 }) (Nat.le_refl _) (Nat.le_refl _) hRcells hRslots
  obtain ⟨s', hA⟩ : ∃ z, z = (T.setVm s.vm).setFrames (.invoking m args :: below) := ⟨_, rfl⟩
  rw [← hA] at Y
  have hvm : s'.vm = s.vm := by rw [hA]; rfl
  have hhp : s'.heap = H := by rw [hA]; exact hT
  have hW0 : s.WarmedH s'.vm := by rw [hvm]; exact State.WarmedH.refl s
  have hat' : ∀ w ∈ ax_atS own ic cls ix bytes Y9 r9, w.before args s' = true := fun w hw => vx_ot_at hW0 hvm.symm (hgood w (List.mem_cons_of_mem _ (List.mem_cons_of_mem _ hw))) (hat w hw)
  have hk' : (Cond.classLink own ik cls).before args s' = true := vx_ot_at hW0 hvm.symm (hgood _ List.mem_cons_self) hk
  have hini' : (Cond.initialized cls).before args s' = true := vx_ot_at hW0 hvm.symm (hgood _ (List.mem_cons_of_mem _ List.mem_cons_self)) hini
  have hU' : vx_Zq Bundle.tN "UNASSIGNED_STACK" Bundle.steD A s' s'.heap := by rw [hhp]; exact vx_Zq.moved hW0.alike (hU.kept hS.2.1)
  have hN' : vx_Zq Bundle.tN "SUPPRESSED_SENTINEL" Bundle.listD A s' s'.heap := by rw [hhp]; exact vx_Zq.moved hW0.alike (hN.kept hS.2.1)
  have h : ∀ w ∈ ax_at own ic cls ix bytes Y9 r9, w.before args s' = true := vx_own hat' (vx_isRefq hU'.1) (vx_isRefq hN'.1) hU'.2.word hN'.2.word
  have hown' : s'.vm.findClass own = some m.cls := by rw [hvm]; exact hown
  have hins : (Cond.instantiable cls 6).before args s' = true := h _ (by simp [ax_at])
  obtain ⟨vm₁, cX, kX, hfX, hkX, -, -, X₁, st1⟩ := Y.newCold hexec (own := own) (C := cls) (index := ik) (n := 6) hown' hk' hins hini'
    (g := F0 m pc ls rest) rfl (by rw [hb]; exact d0) (Nat.le_refl _) (Nat.le_refl _)
  generalize hT1 : (T.setVm vm₁).pushCell { cls := cX, slots := kX.instanceTypes.map defaultValue, vm := .none } = T1 at X₁ st1
  have hcat : (Value.ref T.heap.size).category = 1 := rfl
  have hcellA : T1.heap[T.heap.size]? = some (freshCell cX kX) := by rw [← hT1]; exact State.heap_pushCell_size _ _
  have d3' : decode c.code (pc + 3) = .ok (.dup, 1) := by rw [hb]; exact d3
  have d4' : decode c.code (pc + 4) = .ok (.ldc is, 2) := by rw [hb]; exact d4
  have hstr' : vk_R own is text sa s' := vk_R.warm hW0 hstr
  obtain ⟨U, hsteps, hrun, hend, hW, hsame, ce, hce, hOv, hOc⟩ := ax_ctor X₁ hexec htr (own := own) (cls := cls) (ic := ic) hown' hcls hY9 hnames b0 b1 b2 b5 h (fun x hx => nomatch hx) hfX hkX hcellA (by rw [hhp, hT]; exact Nat.le_refl _) (msg := .ref sa) rfl
    (g := { method := m, pc := pc + 6, locals := ls, stack := .ref sa :: .ref T.heap.size :: .ref T.heap.size :: rest, locked := none }) rfl hsize rfl rfl (rest := rest) rfl
    (by rw [hb]; exact d6) (by rw [hb]; exact d9) hout hRframes (by simp only [List.map_cons, List.sum_cons, hcat]; omega) hlocks
  obtain ⟨f1, f2⟩ := vx_frame hsame
  rw [hhp] at f1 f2
  have hWs : s.WarmedH U.vm := State.WarmedH.trans hW0 hW
  have hcl : s.vm.findClass cls = some ce.cls := by
    have h9 := hOc
    rw [hvm] at h9
    exact h9
  have hall : s.sameButNew ({ U with vm := s.vm } : State) locs mc ms := by
    subst hA
    obtain ⟨e1, e2⟩ := hsame
    rw [State.setFrames_setFrames] at e1
    have h2 : (T.setVm s.vm).sameButNew ({ U with vm := s.vm } : State) [] (0 + 1) (0 + 6) := ⟨e1, e2⟩
    have h3 := X.same.trans h2
    rw [List.append_nil] at h3
    exact h3.mono hc hs
  refine ⟨U, ?_, .threw T.heap.size, hrun, hend, Or.inr ⟨T.heap.size, rfl, cls, ce, locs, hx U hWs.alike (by have h8 := hsame.2.2.1; have h9 := (Array.getElem?_eq_some_iff.mp hce).1; rw [hT] at h9; rw [hhp] at h8; have h8 : U.heap.size ≤ H.size + (0 + 1) := h8; omega) (fun q hq => f2 q hq (fun z hz => nomatch hz)), hce, hOv, hcl, hWs, hall, hf⟩⟩
  refine st1 _ ?_
  show Steps p.tables e below (T1.setTop { method := m, pc := pc + 3, locals := ls, stack := .ref T.heap.size :: rest, locked := none }) _
  jvm_step X₁.here [X₁.here.top, hexec, d3', Value.category]
  exact X₁.ldcString hexec (own := own) (text := text) (index := is) (a := sa) hown' hstr'.1 hstr'.2
    (g := { method := m, pc := pc + 4, locals := ls, stack := .ref T.heap.size :: .ref T.heap.size :: rest, locked := none }) rfl d4' _ hsteps
end AX2
theorem ok_throwN {E : ac_E} {d : ac_M} {pc x : Nat} {ik is ic ix i : Nat} {text : String} {bytes : ByteArray} (ht : d.2.2.2.2.2.2.2 = false) (hf : Bundle.fit (ac_exn x) = true) (b0 : decode bytes 0 = .ok (.aload_n 0, 1)) (b1 : decode bytes 1 = .ok (.aload_n 1, 1)) (b2 : decode bytes 2 = .ok (.invokespecial ix, 3)) (b5 : decode bytes 5 = .ok (.return_, 1)) (hs : ac_str[i]? = some (d.1.cls, is, text)) (hk : Cond.classLink d.1.cls ik (ac_exn x) ∈ ac_tbl) (hini : Cond.initialized (ac_exn x) ∈ ac_tbl) (hat : ∀ w ∈ ax_atS d.1.cls ic (ac_exn x) ix bytes "java/lang/RuntimeException" ["java/lang/Exception"], w ∈ ac_tbl)
    (hgd : (Cond.classLink d.1.cls ik (ac_exn x) :: Cond.initialized (ac_exn x) :: ax_atS d.1.cls ic (ac_exn x) ix bytes "java/lang/RuntimeException" ["java/lang/Exception"]).all vx_ot = true)
    (h5 : 6 ≤ d.2.2.2.2.1) (h6 : 82 ≤ d.2.2.2.2.2.1)
    (d0 : decode d.2.1 pc = .ok (.new ik, 3)) (d3 : decode d.2.1 (pc + 3) = .ok (.dup, 1)) (d4 : decode d.2.1 (pc + 4) = .ok (.ldc is, 2)) (d6 : decode d.2.1 (pc + 6) = .ok (.invokespecial ic, 3)) (d9 : decode d.2.1 (pc + 9) = .ok (.athrow, 1)) : ac_okx E d pc x := by
  intro p l e R s m args below meth c X Qc XC h ls cn kn mc ms H locs la hW hS hL hrc hrs hc hs2 hX
  obtain ⟨hx, hb, hr, hml, hown, hlk, hnm, htf, htt, hfr, hlo, hst, hG⟩ := X
  refine ax_throwS (Y9 := "java/lang/RuntimeException") (r9 := ["java/lang/Exception"]) (bytes := bytes) (sa := ac_sx E i) hx hb hst hown hf (by decide +kernel) (by decide +kernel) b0 b1 b2 b5 (hG.2.1 _ _ hk) (hG.2.1 _ _ hini) (hG.2.2.2.1 i _ hs) (fun w hw => hG.2.1 _ _ (hat w hw)) (fun w hw => List.all_eq_true.mp hgd w hw) hG.2.2.2.2.1 hG.2.2.2.2.2.1 hS (by rw [hml]; exact hL.1) d0 d3 d4 d6 d9 (fun z hz => (htf ht z hz).elim) ?_ ?_ hrc hrs hlk ?_ hS.2.2 hc hs2
  · exact Nat.lt_of_lt_of_le (Nat.lt_of_lt_of_le (by decide) h5) hfr
  · exact Nat.le_trans (Nat.le_trans (by decide) h6) hlo
  · intro t ha hz ho
    refine hX t (hW.push hz ho (fun r hr => ?_)) ⟨Nat.le_trans hS.1 (by omega), fun q h1 h2 => (ho q (Nat.lt_of_lt_of_le h1 hS.1)).trans (hS.2.1 q h1 h2)⟩
    exact absurd hr (by simp [vwCl])
end
