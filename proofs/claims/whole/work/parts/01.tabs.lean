-- ===== PART A: goes FIRST, ahead of the names: the tables' words, and 'selects' of the private methods out of them =====
/-- a private method of a class that the tables say can be made, by its rows of tables_1 -/
def lw_okq (q : MethodName × Nat) : Prop := (q.1.cls ≠ "java/lang/invoke/MethodHandle" ∧ q.1.cls ≠ "java/lang/invoke/VarHandle") ∧ Cond.instantiable q.1.cls q.2 ∈ tables_1 ∧ Cond.privateMethod q.1 ∈ tables_1 ∧ Cond.instanceMethod q.1 ∈ tables_1
theorem lw_p0 : lw_okq (⟨"SheepChess", "begin", "()Z"⟩, 9) := ⟨⟨by decide +kernel, by decide +kernel⟩, List.mem_of_getElem? (i := 17) (by decide +kernel), List.mem_of_getElem? (i := 293) (by decide +kernel), List.mem_of_getElem? (i := 294) (by decide +kernel)⟩
theorem lw_p1 : lw_okq (⟨"SheepChess$Sheet", "readItem", "()Z"⟩, 5) := ⟨⟨by decide +kernel, by decide +kernel⟩, List.mem_of_getElem? (i := 82) (by decide +kernel), List.mem_of_getElem? (i := 305) (by decide +kernel), List.mem_of_getElem? (i := 306) (by decide +kernel)⟩
theorem lw_p2 : lw_okq (⟨"SheepChess$Sheet", "letterAtHead", "()I"⟩, 5) := ⟨⟨by decide +kernel, by decide +kernel⟩, List.mem_of_getElem? (i := 82) (by decide +kernel), List.mem_of_getElem? (i := 309) (by decide +kernel), List.mem_of_getElem? (i := 310) (by decide +kernel)⟩
theorem lw_p3 : lw_okq (⟨"SheepChess$Sheet", "readRow", "()Z"⟩, 5) := ⟨⟨by decide +kernel, by decide +kernel⟩, List.mem_of_getElem? (i := 82) (by decide +kernel), List.mem_of_getElem? (i := 313) (by decide +kernel), List.mem_of_getElem? (i := 314) (by decide +kernel)⟩
theorem lw_p4 : lw_okq (⟨"SheepChess$Sheet", "readFigure", "()I"⟩, 5) := ⟨⟨by decide +kernel, by decide +kernel⟩, List.mem_of_getElem? (i := 82) (by decide +kernel), List.mem_of_getElem? (i := 317) (by decide +kernel), List.mem_of_getElem? (i := 318) (by decide +kernel)⟩
theorem lw_p5 : lw_okq (⟨"SheepChess$Sheet", "passes", "(I)Z"⟩, 5) := ⟨⟨by decide +kernel, by decide +kernel⟩, List.mem_of_getElem? (i := 82) (by decide +kernel), List.mem_of_getElem? (i := 321) (by decide +kernel), List.mem_of_getElem? (i := 322) (by decide +kernel)⟩
theorem lw_p6 : lw_okq (⟨"SheepChess$Sheet", "readBeast", "()Z"⟩, 5) := ⟨⟨by decide +kernel, by decide +kernel⟩, List.mem_of_getElem? (i := 82) (by decide +kernel), List.mem_of_getElem? (i := 325) (by decide +kernel), List.mem_of_getElem? (i := 326) (by decide +kernel)⟩
theorem lw_p7 : lw_okq (⟨"SheepChess$Sheet", "readNumber", "()I"⟩, 5) := ⟨⟨by decide +kernel, by decide +kernel⟩, List.mem_of_getElem? (i := 82) (by decide +kernel), List.mem_of_getElem? (i := 329) (by decide +kernel), List.mem_of_getElem? (i := 330) (by decide +kernel)⟩
theorem lw_p8 : lw_okq (⟨"SheepChess$Sheet", "readWell", "()Z"⟩, 5) := ⟨⟨by decide +kernel, by decide +kernel⟩, List.mem_of_getElem? (i := 82) (by decide +kernel), List.mem_of_getElem? (i := 352) (by decide +kernel), List.mem_of_getElem? (i := 353) (by decide +kernel)⟩
theorem lw_p9 : lw_okq (⟨"SheepChess$Sheet", "readHunger", "()Z"⟩, 5) := ⟨⟨by decide +kernel, by decide +kernel⟩, List.mem_of_getElem? (i := 82) (by decide +kernel), List.mem_of_getElem? (i := 356) (by decide +kernel), List.mem_of_getElem? (i := 357) (by decide +kernel)⟩
theorem lw_p10 : lw_okq (⟨"SheepChess$Sheet", "readSnow", "()Z"⟩, 5) := ⟨⟨by decide +kernel, by decide +kernel⟩, List.mem_of_getElem? (i := 82) (by decide +kernel), List.mem_of_getElem? (i := 360) (by decide +kernel), List.mem_of_getElem? (i := 361) (by decide +kernel)⟩
theorem lw_p11 : lw_okq (⟨"SheepChess$Meadow", "isOpen", "(IIZ)Z"⟩, 6) := ⟨⟨by decide +kernel, by decide +kernel⟩, List.mem_of_getElem? (i := 90) (by decide +kernel), List.mem_of_getElem? (i := 483) (by decide +kernel), List.mem_of_getElem? (i := 484) (by decide +kernel)⟩
theorem lw_p12 : lw_okq (⟨"SheepChess$Meadow", "ramBeside", "(II)Z"⟩, 6) := ⟨⟨by decide +kernel, by decide +kernel⟩, List.mem_of_getElem? (i := 90) (by decide +kernel), List.mem_of_getElem? (i := 489) (by decide +kernel), List.mem_of_getElem? (i := 490) (by decide +kernel)⟩
theorem lw_p13 : lw_okq (⟨"SheepChess$Past", "slot", "(I)I"⟩, 5) := ⟨⟨by decide +kernel, by decide +kernel⟩, List.mem_of_getElem? (i := 140) (by decide +kernel), List.mem_of_getElem? (i := 522) (by decide +kernel), List.mem_of_getElem? (i := 523) (by decide +kernel)⟩
theorem lw_p14 : lw_okq (⟨"SheepChess$Walk", "add", "(IIII)V"⟩, 8) := ⟨⟨by decide +kernel, by decide +kernel⟩, List.mem_of_getElem? (i := 181) (by decide +kernel), List.mem_of_getElem? (i := 576) (by decide +kernel), List.mem_of_getElem? (i := 577) (by decide +kernel)⟩
theorem lw_p15 : lw_okq (⟨"SheepChess$Ahead", "comesToWell", "(IIII)Z"⟩, 5) := ⟨⟨by decide +kernel, by decide +kernel⟩, List.mem_of_getElem? (i := 215) (by decide +kernel), List.mem_of_getElem? (i := 618) (by decide +kernel), List.mem_of_getElem? (i := 619) (by decide +kernel)⟩
def lw_privs_1 : List (MethodName × Nat) := [(⟨"SheepChess", "begin", "()Z"⟩, 9), (⟨"SheepChess$Sheet", "readItem", "()Z"⟩, 5), (⟨"SheepChess$Sheet", "letterAtHead", "()I"⟩, 5), (⟨"SheepChess$Sheet", "readRow", "()Z"⟩, 5), (⟨"SheepChess$Sheet", "readFigure", "()I"⟩, 5), (⟨"SheepChess$Sheet", "passes", "(I)Z"⟩, 5), (⟨"SheepChess$Sheet", "readBeast", "()Z"⟩, 5), (⟨"SheepChess$Sheet", "readNumber", "()I"⟩, 5), (⟨"SheepChess$Sheet", "readWell", "()Z"⟩, 5), (⟨"SheepChess$Sheet", "readHunger", "()Z"⟩, 5), (⟨"SheepChess$Sheet", "readSnow", "()Z"⟩, 5), (⟨"SheepChess$Meadow", "isOpen", "(IIZ)Z"⟩, 6), (⟨"SheepChess$Meadow", "ramBeside", "(II)Z"⟩, 6), (⟨"SheepChess$Past", "slot", "(I)I"⟩, 5), (⟨"SheepChess$Walk", "add", "(IIII)V"⟩, 8), (⟨"SheepChess$Ahead", "comesToWell", "(IIII)Z"⟩, 5)]
theorem lw_r1 : ∀ q ∈ lw_privs_1, lw_okq q := List.forall_mem_cons.mpr ⟨lw_p0, List.forall_mem_cons.mpr ⟨lw_p1, List.forall_mem_cons.mpr ⟨lw_p2, List.forall_mem_cons.mpr ⟨lw_p3, List.forall_mem_cons.mpr ⟨lw_p4, List.forall_mem_cons.mpr ⟨lw_p5, List.forall_mem_cons.mpr ⟨lw_p6, List.forall_mem_cons.mpr ⟨lw_p7, List.forall_mem_cons.mpr ⟨lw_p8, List.forall_mem_cons.mpr ⟨lw_p9, List.forall_mem_cons.mpr ⟨lw_p10, List.forall_mem_cons.mpr ⟨lw_p11, List.forall_mem_cons.mpr ⟨lw_p12, List.forall_mem_cons.mpr ⟨lw_p13, List.forall_mem_cons.mpr ⟨lw_p14, List.forall_mem_cons.mpr ⟨lw_p15, fun _ h => absurd h List.not_mem_nil⟩⟩⟩⟩⟩⟩⟩⟩⟩⟩⟩⟩⟩⟩⟩⟩
theorem lw_p16 : lw_okq (⟨"SheepChess$Ahead", "pass", "(III)LSheepChess$Meadow;"⟩, 5) := ⟨⟨by decide +kernel, by decide +kernel⟩, List.mem_of_getElem? (i := 215) (by decide +kernel), List.mem_of_getElem? (i := 632) (by decide +kernel), List.mem_of_getElem? (i := 633) (by decide +kernel)⟩
theorem lw_p17 : lw_okq (⟨"SheepChess$Ahead", "note", "(II)V"⟩, 5) := ⟨⟨by decide +kernel, by decide +kernel⟩, List.mem_of_getElem? (i := 215) (by decide +kernel), List.mem_of_getElem? (i := 640) (by decide +kernel), List.mem_of_getElem? (i := 641) (by decide +kernel)⟩
theorem lw_p18 : lw_okq (⟨"SheepChess$Ahead", "worthFrom", "(II)I"⟩, 5) := ⟨⟨by decide +kernel, by decide +kernel⟩, List.mem_of_getElem? (i := 215) (by decide +kernel), List.mem_of_getElem? (i := 656) (by decide +kernel), List.mem_of_getElem? (i := 657) (by decide +kernel)⟩
theorem lw_p19 : lw_okq (⟨"SheepChess$Ahead", "stayingFrom", "(IIII)J"⟩, 5) := ⟨⟨by decide +kernel, by decide +kernel⟩, List.mem_of_getElem? (i := 215) (by decide +kernel), List.mem_of_getElem? (i := 701) (by decide +kernel), List.mem_of_getElem? (i := 702) (by decide +kernel)⟩
theorem lw_p20 : lw_okq (⟨"SheepChess$Meadow", "bogBeside", "(I)Z"⟩, 6) := ⟨⟨by decide +kernel, by decide +kernel⟩, List.mem_of_getElem? (i := 90) (by decide +kernel), List.mem_of_getElem? (i := 711) (by decide +kernel), List.mem_of_getElem? (i := 712) (by decide +kernel)⟩
theorem lw_p21 : lw_okq (⟨"SheepChessModel", "clearTold", "()V"⟩, 41) := ⟨⟨by decide +kernel, by decide +kernel⟩, List.mem_of_getElem? (i := 749) (by decide +kernel), List.mem_of_getElem? (i := 755) (by decide +kernel), List.mem_of_getElem? (i := 756) (by decide +kernel)⟩
theorem lw_p22 : lw_okq (⟨"SheepChessModel", "tellsRow", "(I)V"⟩, 41) := ⟨⟨by decide +kernel, by decide +kernel⟩, List.mem_of_getElem? (i := 749) (by decide +kernel), List.mem_of_getElem? (i := 759) (by decide +kernel), List.mem_of_getElem? (i := 760) (by decide +kernel)⟩
theorem lw_p23 : lw_okq (⟨"SheepChessModel", "tellsBeast", "(III)V"⟩, 41) := ⟨⟨by decide +kernel, by decide +kernel⟩, List.mem_of_getElem? (i := 749) (by decide +kernel), List.mem_of_getElem? (i := 763) (by decide +kernel), List.mem_of_getElem? (i := 764) (by decide +kernel)⟩
theorem lw_p24 : lw_okq (⟨"SheepChessModel", "settles", "()V"⟩, 41) := ⟨⟨by decide +kernel, by decide +kernel⟩, List.mem_of_getElem? (i := 749) (by decide +kernel), List.mem_of_getElem? (i := 767) (by decide +kernel), List.mem_of_getElem? (i := 768) (by decide +kernel)⟩
theorem lw_p25 : lw_okq (⟨"SheepChessModel", "readItem", "()Z"⟩, 41) := ⟨⟨by decide +kernel, by decide +kernel⟩, List.mem_of_getElem? (i := 749) (by decide +kernel), List.mem_of_getElem? (i := 913) (by decide +kernel), List.mem_of_getElem? (i := 914) (by decide +kernel)⟩
theorem lw_p26 : lw_okq (⟨"SheepChessModel", "letterAt", "(I)I"⟩, 41) := ⟨⟨by decide +kernel, by decide +kernel⟩, List.mem_of_getElem? (i := 749) (by decide +kernel), List.mem_of_getElem? (i := 917) (by decide +kernel), List.mem_of_getElem? (i := 918) (by decide +kernel)⟩
theorem lw_p27 : lw_okq (⟨"SheepChessModel", "readRow", "()Z"⟩, 41) := ⟨⟨by decide +kernel, by decide +kernel⟩, List.mem_of_getElem? (i := 749) (by decide +kernel), List.mem_of_getElem? (i := 921) (by decide +kernel), List.mem_of_getElem? (i := 922) (by decide +kernel)⟩
theorem lw_p28 : lw_okq (⟨"SheepChessModel", "readBeastItem", "()Z"⟩, 41) := ⟨⟨by decide +kernel, by decide +kernel⟩, List.mem_of_getElem? (i := 749) (by decide +kernel), List.mem_of_getElem? (i := 928) (by decide +kernel), List.mem_of_getElem? (i := 929) (by decide +kernel)⟩
theorem lw_p29 : lw_okq (⟨"SheepChessModel", "readNumbers", "(I)Z"⟩, 41) := ⟨⟨by decide +kernel, by decide +kernel⟩, List.mem_of_getElem? (i := 749) (by decide +kernel), List.mem_of_getElem? (i := 932) (by decide +kernel), List.mem_of_getElem? (i := 933) (by decide +kernel)⟩
theorem lw_p30 : lw_okq (⟨"SheepChessModel", "isTold", "(III)Z"⟩, 41) := ⟨⟨by decide +kernel, by decide +kernel⟩, List.mem_of_getElem? (i := 749) (by decide +kernel), List.mem_of_getElem? (i := 936) (by decide +kernel), List.mem_of_getElem? (i := 937) (by decide +kernel)⟩
theorem lw_p31 : lw_okq (⟨"SheepChessModel", "isDry", "(I)Z"⟩, 41) := ⟨⟨by decide +kernel, by decide +kernel⟩, List.mem_of_getElem? (i := 749) (by decide +kernel), List.mem_of_getElem? (i := 940) (by decide +kernel), List.mem_of_getElem? (i := 941) (by decide +kernel)⟩
def lw_privs_2 : List (MethodName × Nat) := [(⟨"SheepChess$Ahead", "pass", "(III)LSheepChess$Meadow;"⟩, 5), (⟨"SheepChess$Ahead", "note", "(II)V"⟩, 5), (⟨"SheepChess$Ahead", "worthFrom", "(II)I"⟩, 5), (⟨"SheepChess$Ahead", "stayingFrom", "(IIII)J"⟩, 5), (⟨"SheepChess$Meadow", "bogBeside", "(I)Z"⟩, 6), (⟨"SheepChessModel", "clearTold", "()V"⟩, 41), (⟨"SheepChessModel", "tellsRow", "(I)V"⟩, 41), (⟨"SheepChessModel", "tellsBeast", "(III)V"⟩, 41), (⟨"SheepChessModel", "settles", "()V"⟩, 41), (⟨"SheepChessModel", "readItem", "()Z"⟩, 41), (⟨"SheepChessModel", "letterAt", "(I)I"⟩, 41), (⟨"SheepChessModel", "readRow", "()Z"⟩, 41), (⟨"SheepChessModel", "readBeastItem", "()Z"⟩, 41), (⟨"SheepChessModel", "readNumbers", "(I)Z"⟩, 41), (⟨"SheepChessModel", "isTold", "(III)Z"⟩, 41), (⟨"SheepChessModel", "isDry", "(I)Z"⟩, 41)]
theorem lw_r2 : ∀ q ∈ lw_privs_2, lw_okq q := List.forall_mem_cons.mpr ⟨lw_p16, List.forall_mem_cons.mpr ⟨lw_p17, List.forall_mem_cons.mpr ⟨lw_p18, List.forall_mem_cons.mpr ⟨lw_p19, List.forall_mem_cons.mpr ⟨lw_p20, List.forall_mem_cons.mpr ⟨lw_p21, List.forall_mem_cons.mpr ⟨lw_p22, List.forall_mem_cons.mpr ⟨lw_p23, List.forall_mem_cons.mpr ⟨lw_p24, List.forall_mem_cons.mpr ⟨lw_p25, List.forall_mem_cons.mpr ⟨lw_p26, List.forall_mem_cons.mpr ⟨lw_p27, List.forall_mem_cons.mpr ⟨lw_p28, List.forall_mem_cons.mpr ⟨lw_p29, List.forall_mem_cons.mpr ⟨lw_p30, List.forall_mem_cons.mpr ⟨lw_p31, fun _ h => absurd h List.not_mem_nil⟩⟩⟩⟩⟩⟩⟩⟩⟩⟩⟩⟩⟩⟩⟩⟩
theorem lw_p32 : lw_okq (⟨"SheepChessModel", "isSquare", "(I)Z"⟩, 41) := ⟨⟨by decide +kernel, by decide +kernel⟩, List.mem_of_getElem? (i := 749) (by decide +kernel), List.mem_of_getElem? (i := 953) (by decide +kernel), List.mem_of_getElem? (i := 954) (by decide +kernel)⟩
theorem lw_p33 : lw_okq (⟨"SheepChessModel", "asItIs", "()V"⟩, 41) := ⟨⟨by decide +kernel, by decide +kernel⟩, List.mem_of_getElem? (i := 749) (by decide +kernel), List.mem_of_getElem? (i := 957) (by decide +kernel), List.mem_of_getElem? (i := 958) (by decide +kernel)⟩
theorem lw_p34 : lw_okq (⟨"SheepChessModel", "onIt", "(I)I"⟩, 41) := ⟨⟨by decide +kernel, by decide +kernel⟩, List.mem_of_getElem? (i := 749) (by decide +kernel), List.mem_of_getElem? (i := 961) (by decide +kernel), List.mem_of_getElem? (i := 962) (by decide +kernel)⟩
theorem lw_p35 : lw_okq (⟨"SheepChessModel", "isBeast", "(I)Z"⟩, 41) := ⟨⟨by decide +kernel, by decide +kernel⟩, List.mem_of_getElem? (i := 749) (by decide +kernel), List.mem_of_getElem? (i := 969) (by decide +kernel), List.mem_of_getElem? (i := 970) (by decide +kernel)⟩
theorem lw_p36 : lw_okq (⟨"SheepChessModel", "kindOf", "(I)I"⟩, 41) := ⟨⟨by decide +kernel, by decide +kernel⟩, List.mem_of_getElem? (i := 749) (by decide +kernel), List.mem_of_getElem? (i := 973) (by decide +kernel), List.mem_of_getElem? (i := 974) (by decide +kernel)⟩
theorem lw_p37 : lw_okq (⟨"SheepChessModel", "looksAt", "(II)I"⟩, 41) := ⟨⟨by decide +kernel, by decide +kernel⟩, List.mem_of_getElem? (i := 749) (by decide +kernel), List.mem_of_getElem? (i := 987) (by decide +kernel), List.mem_of_getElem? (i := 988) (by decide +kernel)⟩
theorem lw_p38 : lw_okq (⟨"SheepChessModel", "comesTo", "(IIZ)I"⟩, 41) := ⟨⟨by decide +kernel, by decide +kernel⟩, List.mem_of_getElem? (i := 749) (by decide +kernel), List.mem_of_getElem? (i := 991) (by decide +kernel), List.mem_of_getElem? (i := 992) (by decide +kernel)⟩
theorem lw_p39 : lw_okq (⟨"SheepChessModel", "isSnow", "()Z"⟩, 41) := ⟨⟨by decide +kernel, by decide +kernel⟩, List.mem_of_getElem? (i := 749) (by decide +kernel), List.mem_of_getElem? (i := 995) (by decide +kernel), List.mem_of_getElem? (i := 996) (by decide +kernel)⟩
theorem lw_p40 : lw_okq (⟨"SheepChessModel", "stepTo", "(IIIZ)I"⟩, 41) := ⟨⟨by decide +kernel, by decide +kernel⟩, List.mem_of_getElem? (i := 749) (by decide +kernel), List.mem_of_getElem? (i := 999) (by decide +kernel), List.mem_of_getElem? (i := 1000) (by decide +kernel)⟩
theorem lw_p41 : lw_okq (⟨"SheepChessModel", "nextTo", "(II)I"⟩, 41) := ⟨⟨by decide +kernel, by decide +kernel⟩, List.mem_of_getElem? (i := 749) (by decide +kernel), List.mem_of_getElem? (i := 1003) (by decide +kernel), List.mem_of_getElem? (i := 1004) (by decide +kernel)⟩
theorem lw_p42 : lw_okq (⟨"SheepChessModel", "isNearRam", "(II)Z"⟩, 41) := ⟨⟨by decide +kernel, by decide +kernel⟩, List.mem_of_getElem? (i := 749) (by decide +kernel), List.mem_of_getElem? (i := 1007) (by decide +kernel), List.mem_of_getElem? (i := 1008) (by decide +kernel)⟩
theorem lw_p43 : lw_okq (⟨"SheepChessModel", "canDrive", "(I)Z"⟩, 41) := ⟨⟨by decide +kernel, by decide +kernel⟩, List.mem_of_getElem? (i := 749) (by decide +kernel), List.mem_of_getElem? (i := 1019) (by decide +kernel), List.mem_of_getElem? (i := 1020) (by decide +kernel)⟩
theorem lw_p44 : lw_okq (⟨"SheepChessModel", "lost", "()I"⟩, 41) := ⟨⟨by decide +kernel, by decide +kernel⟩, List.mem_of_getElem? (i := 749) (by decide +kernel), List.mem_of_getElem? (i := 1023) (by decide +kernel), List.mem_of_getElem? (i := 1024) (by decide +kernel)⟩
theorem lw_p45 : lw_okq (⟨"SheepChessModel", "does", "(I)V"⟩, 41) := ⟨⟨by decide +kernel, by decide +kernel⟩, List.mem_of_getElem? (i := 749) (by decide +kernel), List.mem_of_getElem? (i := 1027) (by decide +kernel), List.mem_of_getElem? (i := 1028) (by decide +kernel)⟩
theorem lw_p46 : lw_okq (⟨"SheepChessModel", "goesBy", "(I)V"⟩, 41) := ⟨⟨by decide +kernel, by decide +kernel⟩, List.mem_of_getElem? (i := 749) (by decide +kernel), List.mem_of_getElem? (i := 1031) (by decide +kernel), List.mem_of_getElem? (i := 1032) (by decide +kernel)⟩
theorem lw_p47 : lw_okq (⟨"SheepChessModel", "stands", "(II)V"⟩, 41) := ⟨⟨by decide +kernel, by decide +kernel⟩, List.mem_of_getElem? (i := 749) (by decide +kernel), List.mem_of_getElem? (i := 1035) (by decide +kernel), List.mem_of_getElem? (i := 1036) (by decide +kernel)⟩
def lw_privs_3 : List (MethodName × Nat) := [(⟨"SheepChessModel", "isSquare", "(I)Z"⟩, 41), (⟨"SheepChessModel", "asItIs", "()V"⟩, 41), (⟨"SheepChessModel", "onIt", "(I)I"⟩, 41), (⟨"SheepChessModel", "isBeast", "(I)Z"⟩, 41), (⟨"SheepChessModel", "kindOf", "(I)I"⟩, 41), (⟨"SheepChessModel", "looksAt", "(II)I"⟩, 41), (⟨"SheepChessModel", "comesTo", "(IIZ)I"⟩, 41), (⟨"SheepChessModel", "isSnow", "()Z"⟩, 41), (⟨"SheepChessModel", "stepTo", "(IIIZ)I"⟩, 41), (⟨"SheepChessModel", "nextTo", "(II)I"⟩, 41), (⟨"SheepChessModel", "isNearRam", "(II)Z"⟩, 41), (⟨"SheepChessModel", "canDrive", "(I)Z"⟩, 41), (⟨"SheepChessModel", "lost", "()I"⟩, 41), (⟨"SheepChessModel", "does", "(I)V"⟩, 41), (⟨"SheepChessModel", "goesBy", "(I)V"⟩, 41), (⟨"SheepChessModel", "stands", "(II)V"⟩, 41)]
theorem lw_r3 : ∀ q ∈ lw_privs_3, lw_okq q := List.forall_mem_cons.mpr ⟨lw_p32, List.forall_mem_cons.mpr ⟨lw_p33, List.forall_mem_cons.mpr ⟨lw_p34, List.forall_mem_cons.mpr ⟨lw_p35, List.forall_mem_cons.mpr ⟨lw_p36, List.forall_mem_cons.mpr ⟨lw_p37, List.forall_mem_cons.mpr ⟨lw_p38, List.forall_mem_cons.mpr ⟨lw_p39, List.forall_mem_cons.mpr ⟨lw_p40, List.forall_mem_cons.mpr ⟨lw_p41, List.forall_mem_cons.mpr ⟨lw_p42, List.forall_mem_cons.mpr ⟨lw_p43, List.forall_mem_cons.mpr ⟨lw_p44, List.forall_mem_cons.mpr ⟨lw_p45, List.forall_mem_cons.mpr ⟨lw_p46, List.forall_mem_cons.mpr ⟨lw_p47, fun _ h => absurd h List.not_mem_nil⟩⟩⟩⟩⟩⟩⟩⟩⟩⟩⟩⟩⟩⟩⟩⟩
theorem lw_p48 : lw_okq (⟨"SheepChessModel", "grazes", "()V"⟩, 41) := ⟨⟨by decide +kernel, by decide +kernel⟩, List.mem_of_getElem? (i := 749) (by decide +kernel), List.mem_of_getElem? (i := 1039) (by decide +kernel), List.mem_of_getElem? (i := 1040) (by decide +kernel)⟩
theorem lw_p49 : lw_okq (⟨"SheepChessModel", "nextDay", "()V"⟩, 41) := ⟨⟨by decide +kernel, by decide +kernel⟩, List.mem_of_getElem? (i := 749) (by decide +kernel), List.mem_of_getElem? (i := 1043) (by decide +kernel), List.mem_of_getElem? (i := 1044) (by decide +kernel)⟩
theorem lw_p50 : lw_okq (⟨"SheepChessModel", "strays", "(II)V"⟩, 41) := ⟨⟨by decide +kernel, by decide +kernel⟩, List.mem_of_getElem? (i := 749) (by decide +kernel), List.mem_of_getElem? (i := 1059) (by decide +kernel), List.mem_of_getElem? (i := 1060) (by decide +kernel)⟩
theorem lw_p51 : lw_okq (⟨"SheepChessModel", "nowOne", "(I)I"⟩, 41) := ⟨⟨by decide +kernel, by decide +kernel⟩, List.mem_of_getElem? (i := 749) (by decide +kernel), List.mem_of_getElem? (i := 1063) (by decide +kernel), List.mem_of_getElem? (i := 1064) (by decide +kernel)⟩
theorem lw_p52 : lw_okq (⟨"SheepChessModel", "reaches", "(III)V"⟩, 41) := ⟨⟨by decide +kernel, by decide +kernel⟩, List.mem_of_getElem? (i := 749) (by decide +kernel), List.mem_of_getElem? (i := 1067) (by decide +kernel), List.mem_of_getElem? (i := 1068) (by decide +kernel)⟩
theorem lw_p53 : lw_okq (⟨"SheepChessModel", "isSummer", "(II)Z"⟩, 41) := ⟨⟨by decide +kernel, by decide +kernel⟩, List.mem_of_getElem? (i := 749) (by decide +kernel), List.mem_of_getElem? (i := 1079) (by decide +kernel), List.mem_of_getElem? (i := 1080) (by decide +kernel)⟩
theorem lw_p54 : lw_okq (⟨"SheepChessModel", "isWatered", "(I)Z"⟩, 41) := ⟨⟨by decide +kernel, by decide +kernel⟩, List.mem_of_getElem? (i := 749) (by decide +kernel), List.mem_of_getElem? (i := 1083) (by decide +kernel), List.mem_of_getElem? (i := 1084) (by decide +kernel)⟩
theorem lw_p55 : lw_okq (⟨"SheepChessModel", "nextDrive", "(I)I"⟩, 41) := ⟨⟨by decide +kernel, by decide +kernel⟩, List.mem_of_getElem? (i := 749) (by decide +kernel), List.mem_of_getElem? (i := 1087) (by decide +kernel), List.mem_of_getElem? (i := 1088) (by decide +kernel)⟩
theorem lw_p56 : lw_okq (⟨"SheepChessModel", "onMeadow", "(I)I"⟩, 41) := ⟨⟨by decide +kernel, by decide +kernel⟩, List.mem_of_getElem? (i := 749) (by decide +kernel), List.mem_of_getElem? (i := 1091) (by decide +kernel), List.mem_of_getElem? (i := 1092) (by decide +kernel)⟩
theorem lw_p57 : lw_okq (⟨"SheepChessModel", "plays", "(I)I"⟩, 41) := ⟨⟨by decide +kernel, by decide +kernel⟩, List.mem_of_getElem? (i := 749) (by decide +kernel), List.mem_of_getElem? (i := 1099) (by decide +kernel), List.mem_of_getElem? (i := 1100) (by decide +kernel)⟩
theorem lw_p58 : lw_okq (⟨"SheepChessModel", "worth", "()I"⟩, 41) := ⟨⟨by decide +kernel, by decide +kernel⟩, List.mem_of_getElem? (i := 749) (by decide +kernel), List.mem_of_getElem? (i := 1103) (by decide +kernel), List.mem_of_getElem? (i := 1104) (by decide +kernel)⟩
theorem lw_p59 : lw_okq (⟨"SheepChessModel", "isFirstOf", "(I)Z"⟩, 41) := ⟨⟨by decide +kernel, by decide +kernel⟩, List.mem_of_getElem? (i := 749) (by decide +kernel), List.mem_of_getElem? (i := 1107) (by decide +kernel), List.mem_of_getElem? (i := 1108) (by decide +kernel)⟩
theorem lw_p60 : lw_okq (⟨"SheepChessModel", "isOtherwise", "(IIII)Z"⟩, 41) := ⟨⟨by decide +kernel, by decide +kernel⟩, List.mem_of_getElem? (i := 749) (by decide +kernel), List.mem_of_getElem? (i := 1123) (by decide +kernel), List.mem_of_getElem? (i := 1124) (by decide +kernel)⟩
theorem lw_p61 : lw_okq (⟨"SheepChessModel", "wolf", "()V"⟩, 41) := ⟨⟨by decide +kernel, by decide +kernel⟩, List.mem_of_getElem? (i := 749) (by decide +kernel), List.mem_of_getElem? (i := 1131) (by decide +kernel), List.mem_of_getElem? (i := 1132) (by decide +kernel)⟩
theorem lw_p62 : lw_okq (⟨"SheepChessModel", "isNearBog", "(I)Z"⟩, 41) := ⟨⟨by decide +kernel, by decide +kernel⟩, List.mem_of_getElem? (i := 749) (by decide +kernel), List.mem_of_getElem? (i := 1135) (by decide +kernel), List.mem_of_getElem? (i := 1136) (by decide +kernel)⟩
def lw_privs_4 : List (MethodName × Nat) := [(⟨"SheepChessModel", "grazes", "()V"⟩, 41), (⟨"SheepChessModel", "nextDay", "()V"⟩, 41), (⟨"SheepChessModel", "strays", "(II)V"⟩, 41), (⟨"SheepChessModel", "nowOne", "(I)I"⟩, 41), (⟨"SheepChessModel", "reaches", "(III)V"⟩, 41), (⟨"SheepChessModel", "isSummer", "(II)Z"⟩, 41), (⟨"SheepChessModel", "isWatered", "(I)Z"⟩, 41), (⟨"SheepChessModel", "nextDrive", "(I)I"⟩, 41), (⟨"SheepChessModel", "onMeadow", "(I)I"⟩, 41), (⟨"SheepChessModel", "plays", "(I)I"⟩, 41), (⟨"SheepChessModel", "worth", "()I"⟩, 41), (⟨"SheepChessModel", "isFirstOf", "(I)Z"⟩, 41), (⟨"SheepChessModel", "isOtherwise", "(IIII)Z"⟩, 41), (⟨"SheepChessModel", "wolf", "()V"⟩, 41), (⟨"SheepChessModel", "isNearBog", "(I)Z"⟩, 41)]
theorem lw_r4 : ∀ q ∈ lw_privs_4, lw_okq q := List.forall_mem_cons.mpr ⟨lw_p48, List.forall_mem_cons.mpr ⟨lw_p49, List.forall_mem_cons.mpr ⟨lw_p50, List.forall_mem_cons.mpr ⟨lw_p51, List.forall_mem_cons.mpr ⟨lw_p52, List.forall_mem_cons.mpr ⟨lw_p53, List.forall_mem_cons.mpr ⟨lw_p54, List.forall_mem_cons.mpr ⟨lw_p55, List.forall_mem_cons.mpr ⟨lw_p56, List.forall_mem_cons.mpr ⟨lw_p57, List.forall_mem_cons.mpr ⟨lw_p58, List.forall_mem_cons.mpr ⟨lw_p59, List.forall_mem_cons.mpr ⟨lw_p60, List.forall_mem_cons.mpr ⟨lw_p61, List.forall_mem_cons.mpr ⟨lw_p62, fun _ h => absurd h List.not_mem_nil⟩⟩⟩⟩⟩⟩⟩⟩⟩⟩⟩⟩⟩⟩⟩
def lw_privs : List (MethodName × Nat) := lw_privs_1 ++ (lw_privs_2 ++ (lw_privs_3 ++ (lw_privs_4)))
def lw_tbl : List Cond := k2_sels lw_privs ++ tables_1
theorem lw_privs_ok : ∀ q ∈ lw_privs, lw_okq q := by
  show ∀ q ∈ lw_privs_1 ++ (lw_privs_2 ++ (lw_privs_3 ++ (lw_privs_4))), lw_okq q
  exact List.forall_mem_append.mpr ⟨lw_r1, List.forall_mem_append.mpr ⟨lw_r2, List.forall_mem_append.mpr ⟨lw_r3, lw_r4⟩⟩⟩
-- ===== names =====
def RX0 : String := "SheepChess$Ahead"
def TX0 : u_T := fun k => match k with
  | 0 => ("SheepChess$Ahead", "land", "LSheepChess$Land;", true)
  | 1 => ("SheepChess$Ahead", "levels", "LSheepChess$Pile;", true)
  | 2 => ("SheepChess$Ahead", "path", "[I", true)
  | 3 => ("SheepChess$Ahead", "ownDays", "I", false)
  | _ => ("SheepChess$Ahead", "best", "I", false)
def tyX0 : Nat → FieldType := fun k => match k with
  | 0 => .object "SheepChess$Land"
  | 1 => .object "SheepChess$Pile"
  | 2 => .array .int
  | 3 => .int
  | _ => .int
abbrev wsX00 : List Cond := u_ws RX0 TX0 5
theorem nmX0 : ∀ a, a < 5 → ∀ b, b < 5 → a ≠ b → (TX0 a).2.1 ≠ (TX0 b).2.1 := by decide +kernel
theorem tyX0_ok : ∀ k, k < 5 → parseFieldDescriptor (TX0 k).2.2.1 = some (tyX0 k) := by decide +kernel
abbrev cX0_init : ByteArray := prog_2_method_1_code
def yX0_init : MethodName := ⟨RX0, "<init>", "(LSheepChess$Land;)V"⟩
abbrev cX0_pass : ByteArray := prog_2_method_2_code
def yX0_pass : MethodName := ⟨RX0, "pass", "(III)LSheepChess$Meadow;"⟩
abbrev cX0_daysToWell : ByteArray := prog_2_method_3_code
def yX0_daysToWell : MethodName := ⟨RX0, "daysToWell", "(LSheepChess$Meadow;I)I"⟩
abbrev cX0_comesToWell : ByteArray := prog_2_method_4_code
def yX0_comesToWell : MethodName := ⟨RX0, "comesToWell", "(IIII)Z"⟩
abbrev cX0_note : ByteArray := prog_2_method_5_code
def yX0_note : MethodName := ⟨RX0, "note", "(II)V"⟩
abbrev cX0_onOwnDay : ByteArray := prog_2_method_6_code
def yX0_onOwnDay : MethodName := ⟨RX0, "onOwnDay", "(I)I"⟩
abbrev cX0_worthBehind : ByteArray := prog_2_method_7_code
def yX0_worthBehind : MethodName := ⟨RX0, "worthBehind", "(LSheepChess$Meadow;I)I"⟩
abbrev cX0_worthFrom : ByteArray := prog_2_method_8_code
def yX0_worthFrom : MethodName := ⟨RX0, "worthFrom", "(II)I"⟩
abbrev cX0_staying : ByteArray := prog_2_method_9_code
def yX0_staying : MethodName := ⟨RX0, "staying", "(LSheepChess$Meadow;III)J"⟩
abbrev cX0_stayingFrom : ByteArray := prog_2_method_10_code
def yX0_stayingFrom : MethodName := ⟨RX0, "stayingFrom", "(IIII)J"⟩
def RX1 : String := "SheepChess$Land"
def TX1 : u_T := fun k => match k with
  | 0 => ("SheepChess$Land", "squares", "I", false)
  | 1 => ("SheepChess$Land", "width", "I", false)
  | 2 => ("SheepChess$Land", "rows", "I", false)
  | 3 => ("SheepChess$Land", "beasts", "I", false)
  | 4 => ("SheepChess$Land", "well", "I", false)
  | 5 => ("SheepChess$Land", "bears", "I", false)
  | 6 => ("SheepChess$Land", "snows", "I", false)
  | 7 => ("SheepChess$Land", "village", "[I", true)
  | _ => ("SheepChess$Land", "snow", "[I", true)
def tyX1 : Nat → FieldType := fun k => match k with
  | 0 => .int
  | 1 => .int
  | 2 => .int
  | 3 => .int
  | 4 => .int
  | 5 => .int
  | 6 => .int
  | 7 => .array .int
  | _ => .array .int
abbrev wsX10 : List Cond := u_ws RX1 TX1 9
theorem nmX1 : ∀ a, a < 9 → ∀ b, b < 9 → a ≠ b → (TX1 a).2.1 ≠ (TX1 b).2.1 := by decide +kernel
theorem tyX1_ok : ∀ k, k < 9 → parseFieldDescriptor (TX1 k).2.2.1 = some (tyX1 k) := by decide +kernel
abbrev cX1_init : ByteArray := prog_3_method_1_code
def yX1_init : MethodName := ⟨RX1, "<init>", "()V"⟩
abbrev cX1_clear : ByteArray := prog_3_method_2_code
def yX1_clear : MethodName := ⟨RX1, "clear", "()V"⟩
abbrev cX1_copyFrom : ByteArray := prog_3_method_3_code
def yX1_copyFrom : MethodName := ⟨RX1, "copyFrom", "(LSheepChess$Land;)V"⟩
abbrev cX1_hasSquare : ByteArray := prog_3_method_4_code
def yX1_hasSquare : MethodName := ⟨RX1, "hasSquare", "(I)Z"⟩
abbrev cX1_hasBeast : ByteArray := prog_3_method_5_code
def yX1_hasBeast : MethodName := ⟨RX1, "hasBeast", "(I)Z"⟩
abbrev cX1_villageOf : ByteArray := prog_3_method_6_code
def yX1_villageOf : MethodName := ⟨RX1, "villageOf", "(I)I"⟩
abbrev cX1_snowsOn : ByteArray := prog_3_method_7_code
def yX1_snowsOn : MethodName := ⟨RX1, "snowsOn", "(I)Z"⟩
abbrev cX1_beside : ByteArray := prog_3_method_8_code
def yX1_beside : MethodName := ⟨RX1, "beside", "(II)I"⟩
abbrev cX1_turnsPawn : ByteArray := prog_3_method_9_code
def yX1_turnsPawn : MethodName := ⟨RX1, "turnsPawn", "(II)Z"⟩
def RX2 : String := "SheepChess$Meadow"
def TX2 : u_T := fun k => match k with
  | 0 => ("SheepChess$Meadow", "land", "LSheepChess$Land;", true)
  | 1 => ("SheepChess$Meadow", "grass", "[I", true)
  | 2 => ("SheepChess$Meadow", "place", "[I", true)
  | 3 => ("SheepChess$Meadow", "kind", "[I", true)
  | 4 => ("SheepChess$Meadow", "hunger", "[I", true)
  | _ => ("SheepChess$Meadow", "day", "I", false)
def tyX2 : Nat → FieldType := fun k => match k with
  | 0 => .object "SheepChess$Land"
  | 1 => .array .int
  | 2 => .array .int
  | 3 => .array .int
  | 4 => .array .int
  | _ => .int
abbrev wsX20 : List Cond := u_ws RX2 TX2 6
theorem nmX2 : ∀ a, a < 6 → ∀ b, b < 6 → a ≠ b → (TX2 a).2.1 ≠ (TX2 b).2.1 := by decide +kernel
theorem tyX2_ok : ∀ k, k < 6 → parseFieldDescriptor (TX2 k).2.2.1 = some (tyX2 k) := by decide +kernel
abbrev cX2_init : ByteArray := prog_4_method_1_code
def yX2_init : MethodName := ⟨RX2, "<init>", "(LSheepChess$Land;)V"⟩
abbrev cX2_copyFrom : ByteArray := prog_4_method_2_code
def yX2_copyFrom : MethodName := ⟨RX2, "copyFrom", "(LSheepChess$Meadow;)V"⟩
abbrev cX2_grassOn : ByteArray := prog_4_method_3_code
def yX2_grassOn : MethodName := ⟨RX2, "grassOn", "(I)I"⟩
abbrev cX2_kindOf : ByteArray := prog_4_method_4_code
def yX2_kindOf : MethodName := ⟨RX2, "kindOf", "(I)I"⟩
abbrev cX2_placeOf : ByteArray := prog_4_method_5_code
def yX2_placeOf : MethodName := ⟨RX2, "placeOf", "(I)I"⟩
abbrev cX2_hungerOf : ByteArray := prog_4_method_6_code
def yX2_hungerOf : MethodName := ⟨RX2, "hungerOf", "(I)I"⟩
abbrev cX2_isOff : ByteArray := prog_4_method_7_code
def yX2_isOff : MethodName := ⟨RX2, "isOff", "(I)Z"⟩
abbrev cX2_turn : ByteArray := prog_4_method_8_code
def yX2_turn : MethodName := ⟨RX2, "turn", "()I"⟩
abbrev cX2_snowing : ByteArray := prog_4_method_9_code
def yX2_snowing : MethodName := ⟨RX2, "snowing", "()Z"⟩
abbrev cX2_occupant : ByteArray := prog_4_method_10_code
def yX2_occupant : MethodName := ⟨RX2, "occupant", "(I)I"⟩
abbrev cX2_put : ByteArray := prog_4_method_11_code
def yX2_put : MethodName := ⟨RX2, "put", "(III)V"⟩
abbrev cX2_reach : ByteArray := prog_4_method_12_code
def yX2_reach : MethodName := ⟨RX2, "reach", "(IIZ)I"⟩
abbrev cX2_isOpen : ByteArray := prog_4_method_13_code
def yX2_isOpen : MethodName := ⟨RX2, "isOpen", "(IIZ)Z"⟩
abbrev cX2_ramBeside : ByteArray := prog_4_method_14_code
def yX2_ramBeside : MethodName := ⟨RX2, "ramBeside", "(II)Z"⟩
abbrev cX2_driven : ByteArray := prog_4_method_15_code
def yX2_driven : MethodName := ⟨RX2, "driven", "(II)I"⟩
abbrev cX2_move : ByteArray := prog_4_method_16_code
def yX2_move : MethodName := ⟨RX2, "move", "(II)V"⟩
abbrev cX2_live : ByteArray := prog_4_method_17_code
def yX2_live : MethodName := ⟨RX2, "live", "(I)V"⟩
abbrev cX2_passDay : ByteArray := prog_4_method_18_code
def yX2_passDay : MethodName := ⟨RX2, "passDay", "()V"⟩
abbrev cX2_graze : ByteArray := prog_4_method_19_code
def yX2_graze : MethodName := ⟨RX2, "graze", "()V"⟩
abbrev cX2_beginNextDay : ByteArray := prog_4_method_20_code
def yX2_beginNextDay : MethodName := ⟨RX2, "beginNextDay", "()V"⟩
abbrev cX2_wolfComes : ByteArray := prog_4_method_21_code
def yX2_wolfComes : MethodName := ⟨RX2, "wolfComes", "()V"⟩
abbrev cX2_bogBeside : ByteArray := prog_4_method_22_code
def yX2_bogBeside : MethodName := ⟨RX2, "bogBeside", "(I)Z"⟩
abbrev cX2_lost : ByteArray := prog_4_method_23_code
def yX2_lost : MethodName := ⟨RX2, "lost", "()I"⟩
abbrev cX2_worth : ByteArray := prog_4_method_24_code
def yX2_worth : MethodName := ⟨RX2, "worth", "()I"⟩
abbrev cX2_staying : ByteArray := prog_4_method_25_code
def yX2_staying : MethodName := ⟨RX2, "staying", "(I)I"⟩
abbrev cX2_allGrass : ByteArray := prog_4_method_26_code
def yX2_allGrass : MethodName := ⟨RX2, "allGrass", "()I"⟩
abbrev cX2_ramOnWell : ByteArray := prog_4_method_27_code
def yX2_ramOnWell : MethodName := ⟨RX2, "ramOnWell", "(I)Z"⟩
def RX3 : String := "SheepChess$Past"
def TX3 : u_T := fun k => match k with
  | 0 => ("SheepChess$Past", "land", "LSheepChess$Land;", true)
  | 1 => ("SheepChess$Past", "stood", "LSheepChess$Pile;", true)
  | 2 => ("SheepChess$Past", "told", "[I", true)
  | 3 => ("SheepChess$Past", "days", "I", false)
  | _ => ("SheepChess$Past", "oldest", "I", false)
def tyX3 : Nat → FieldType := fun k => match k with
  | 0 => .object "SheepChess$Land"
  | 1 => .object "SheepChess$Pile"
  | 2 => .array .int
  | 3 => .int
  | _ => .int
abbrev wsX30 : List Cond := u_ws RX3 TX3 5
theorem nmX3 : ∀ a, a < 5 → ∀ b, b < 5 → a ≠ b → (TX3 a).2.1 ≠ (TX3 b).2.1 := by decide +kernel
theorem tyX3_ok : ∀ k, k < 5 → parseFieldDescriptor (TX3 k).2.2.1 = some (tyX3 k) := by decide +kernel
abbrev cX3_init : ByteArray := prog_5_method_1_code
def yX3_init : MethodName := ⟨RX3, "<init>", "(LSheepChess$Land;)V"⟩
abbrev cX3_slot : ByteArray := prog_5_method_2_code
def yX3_slot : MethodName := ⟨RX3, "slot", "(I)I"⟩
abbrev cX3_before : ByteArray := prog_5_method_3_code
def yX3_before : MethodName := ⟨RX3, "before", "(I)LSheepChess$Meadow;"⟩
abbrev cX3_add : ByteArray := prog_5_method_4_code
def yX3_add : MethodName := ⟨RX3, "add", "(LSheepChess$Meadow;I)V"⟩
abbrev cX3_otherwiseIs : ByteArray := prog_5_method_5_code
def yX3_otherwiseIs : MethodName := ⟨RX3, "otherwiseIs", "(IILSheepChess$Meadow;)Z"⟩
def RX4 : String := "SheepChess$Pile"
def TX4 : u_T := fun k => match k with
  | 0 => ("SheepChess$Pile", "lowest", "LSheepChess$Meadow;", true)
  | _ => ("SheepChess$Pile", "meadows", "[LSheepChess$Meadow;", true)
def tyX4 : Nat → FieldType := fun k => match k with
  | 0 => .object "SheepChess$Meadow"
  | _ => .array (.object "SheepChess$Meadow")
abbrev wsX40 : List Cond := u_ws RX4 TX4 2
theorem nmX4 : ∀ a, a < 2 → ∀ b, b < 2 → a ≠ b → (TX4 a).2.1 ≠ (TX4 b).2.1 := by decide +kernel
theorem tyX4_ok : ∀ k, k < 2 → parseFieldDescriptor (TX4 k).2.2.1 = some (tyX4 k) := by decide +kernel
abbrev cX4_init : ByteArray := prog_6_method_1_code
def yX4_init : MethodName := ⟨RX4, "<init>", "(LSheepChess$Land;I)V"⟩
abbrev cX4_get : ByteArray := prog_6_method_2_code
def yX4_get : MethodName := ⟨RX4, "get", "(I)LSheepChess$Meadow;"⟩
def RX5 : String := "SheepChess$Sheet"
def TX5 : u_T := fun k => match k with
  | 0 => ("SheepChess$Sheet", "letters", "[I", true)
  | 1 => ("SheepChess$Sheet", "land", "LSheepChess$Land;", true)
  | 2 => ("SheepChess$Sheet", "meadow", "LSheepChess$Meadow;", true)
  | 3 => ("SheepChess$Sheet", "length", "I", false)
  | _ => ("SheepChess$Sheet", "head", "I", false)
def tyX5 : Nat → FieldType := fun k => match k with
  | 0 => .array .int
  | 1 => .object "SheepChess$Land"
  | 2 => .object "SheepChess$Meadow"
  | 3 => .int
  | _ => .int
abbrev wsX50 : List Cond := u_ws RX5 TX5 5
theorem nmX5 : ∀ a, a < 5 → ∀ b, b < 5 → a ≠ b → (TX5 a).2.1 ≠ (TX5 b).2.1 := by decide +kernel
theorem tyX5_ok : ∀ k, k < 5 → parseFieldDescriptor (TX5 k).2.2.1 = some (tyX5 k) := by decide +kernel
abbrev cX5_init : ByteArray := prog_7_method_1_code
def yX5_init : MethodName := ⟨RX5, "<init>", "()V"⟩
abbrev cX5_add : ByteArray := prog_7_method_2_code
def yX5_add : MethodName := ⟨RX5, "add", "(I)Z"⟩
abbrev cX5_firstFault : ByteArray := prog_7_method_3_code
def yX5_firstFault : MethodName := ⟨RX5, "firstFault", "()I"⟩
abbrev cX5_readItem : ByteArray := prog_7_method_4_code
def yX5_readItem : MethodName := ⟨RX5, "readItem", "()Z"⟩
abbrev cX5_letterAtHead : ByteArray := prog_7_method_5_code
def yX5_letterAtHead : MethodName := ⟨RX5, "letterAtHead", "()I"⟩
abbrev cX5_passes : ByteArray := prog_7_method_6_code
def yX5_passes : MethodName := ⟨RX5, "passes", "(I)Z"⟩
abbrev cX5_readFigure : ByteArray := prog_7_method_7_code
def yX5_readFigure : MethodName := ⟨RX5, "readFigure", "()I"⟩
abbrev cX5_readNumber : ByteArray := prog_7_method_8_code
def yX5_readNumber : MethodName := ⟨RX5, "readNumber", "()I"⟩
abbrev cX5_readRow : ByteArray := prog_7_method_9_code
def yX5_readRow : MethodName := ⟨RX5, "readRow", "()Z"⟩
abbrev cX5_readBeast : ByteArray := prog_7_method_10_code
def yX5_readBeast : MethodName := ⟨RX5, "readBeast", "()Z"⟩
abbrev cX5_readWell : ByteArray := prog_7_method_11_code
def yX5_readWell : MethodName := ⟨RX5, "readWell", "()Z"⟩
abbrev cX5_readHunger : ByteArray := prog_7_method_12_code
def yX5_readHunger : MethodName := ⟨RX5, "readHunger", "()Z"⟩
abbrev cX5_readSnow : ByteArray := prog_7_method_13_code
def yX5_readSnow : MethodName := ⟨RX5, "readSnow", "()Z"⟩
def RX6 : String := "SheepChess$Walk"
def TX6 : u_T := fun k => match k with
  | 0 => ("SheepChess$Walk", "meadow", "LSheepChess$Meadow;", true)
  | 1 => ("SheepChess$Walk", "place", "[I", true)
  | 2 => ("SheepChess$Walk", "kind", "[I", true)
  | 3 => ("SheepChess$Walk", "drives", "[I", true)
  | 4 => ("SheepChess$Walk", "before", "[I", true)
  | 5 => ("SheepChess$Walk", "by", "[I", true)
  | 6 => ("SheepChess$Walk", "seen", "[Z", true)
  | _ => ("SheepChess$Walk", "stands", "I", false)
def tyX6 : Nat → FieldType := fun k => match k with
  | 0 => .object "SheepChess$Meadow"
  | 1 => .array .int
  | 2 => .array .int
  | 3 => .array .int
  | 4 => .array .int
  | 5 => .array .int
  | 6 => .array .boolean
  | _ => .int
abbrev wsX60 : List Cond := u_ws RX6 TX6 8
theorem nmX6 : ∀ a, a < 8 → ∀ b, b < 8 → a ≠ b → (TX6 a).2.1 ≠ (TX6 b).2.1 := by decide +kernel
theorem tyX6_ok : ∀ k, k < 8 → parseFieldDescriptor (TX6 k).2.2.1 = some (tyX6 k) := by decide +kernel
abbrev cX6_init : ByteArray := prog_8_method_1_code
def yX6_init : MethodName := ⟨RX6, "<init>", "(LSheepChess$Land;)V"⟩
abbrev cX6_from : ByteArray := prog_8_method_2_code
def yX6_from : MethodName := ⟨RX6, "from", "(LSheepChess$Meadow;I)V"⟩
abbrev cX6_add : ByteArray := prog_8_method_3_code
def yX6_add : MethodName := ⟨RX6, "add", "(IIII)V"⟩
abbrev cX6_first : ByteArray := prog_8_method_4_code
def yX6_first : MethodName := ⟨RX6, "first", "(I)I"⟩
abbrev cX6_drivesTo : ByteArray := prog_8_method_5_code
def yX6_drivesTo : MethodName := ⟨RX6, "drivesTo", "(I)I"⟩
abbrev cX6_wayTo : ByteArray := prog_8_method_6_code
def yX6_wayTo : MethodName := ⟨RX6, "wayTo", "(II)I"⟩
abbrev cX6_squaresWithin : ByteArray := prog_8_method_7_code
def yX6_squaresWithin : MethodName := ⟨RX6, "squaresWithin", "(I)I"⟩
def RX7 : String := "SheepChess"
def TX7 : u_T := fun k => match k with
  | 0 => ("SheepChess", "land", "LSheepChess$Land;", true)
  | 1 => ("SheepChess", "sheet", "LSheepChess$Sheet;", true)
  | 2 => ("SheepChess", "now", "LSheepChess$Meadow;", true)
  | 3 => ("SheepChess", "spare", "LSheepChess$Meadow;", true)
  | 4 => ("SheepChess", "past", "LSheepChess$Past;", true)
  | 5 => ("SheepChess", "kept", "LSheepChess$Pile;", true)
  | 6 => ("SheepChess", "walk", "LSheepChess$Walk;", true)
  | 7 => ("SheepChess", "ahead", "LSheepChess$Ahead;", true)
  | _ => ("SheepChess", "keptNow", "I", false)
def tyX7 : Nat → FieldType := fun k => match k with
  | 0 => .object "SheepChess$Land"
  | 1 => .object "SheepChess$Sheet"
  | 2 => .object "SheepChess$Meadow"
  | 3 => .object "SheepChess$Meadow"
  | 4 => .object "SheepChess$Past"
  | 5 => .object "SheepChess$Pile"
  | 6 => .object "SheepChess$Walk"
  | 7 => .object "SheepChess$Ahead"
  | _ => .int
abbrev wsX70 : List Cond := u_ws RX7 TX7 9
theorem nmX7 : ∀ a, a < 9 → ∀ b, b < 9 → a ≠ b → (TX7 a).2.1 ≠ (TX7 b).2.1 := by decide +kernel
theorem tyX7_ok : ∀ k, k < 9 → parseFieldDescriptor (TX7 k).2.2.1 = some (tyX7 k) := by decide +kernel
abbrev cX7_init : ByteArray := prog_1_method_1_code
def yX7_init : MethodName := ⟨RX7, "<init>", "()V"⟩
abbrev cX7_write : ByteArray := prog_1_method_2_code
def yX7_write : MethodName := ⟨RX7, "write", "(I)I"⟩
abbrev cX7_wipe : ByteArray := prog_1_method_3_code
def yX7_wipe : MethodName := ⟨RX7, "wipe", "()I"⟩
abbrev cX7_fault : ByteArray := prog_1_method_4_code
def yX7_fault : MethodName := ⟨RX7, "fault", "()I"⟩
abbrev cX7_lay : ByteArray := prog_1_method_5_code
def yX7_lay : MethodName := ⟨RX7, "lay", "()I"⟩
abbrev cX7_square : ByteArray := prog_1_method_6_code
def yX7_square : MethodName := ⟨RX7, "square", "(II)I"⟩
abbrev cX7_beast : ByteArray := prog_1_method_7_code
def yX7_beast : MethodName := ⟨RX7, "beast", "(II)I"⟩
abbrev cX7_goes : ByteArray := prog_1_method_8_code
def yX7_goes : MethodName := ⟨RX7, "goes", "(II)I"⟩
abbrev cX7_takes : ByteArray := prog_1_method_9_code
def yX7_takes : MethodName := ⟨RX7, "takes", "(II)I"⟩
abbrev cX7_drive : ByteArray := prog_1_method_10_code
def yX7_drive : MethodName := ⟨RX7, "drive", "(II)I"⟩
abbrev cX7_rest : ByteArray := prog_1_method_11_code
def yX7_rest : MethodName := ⟨RX7, "rest", "()I"⟩
abbrev cX7_undo : ByteArray := prog_1_method_12_code
def yX7_undo : MethodName := ⟨RX7, "undo", "()I"⟩
abbrev cX7_fewest : ByteArray := prog_1_method_13_code
def yX7_fewest : MethodName := ⟨RX7, "fewest", "(III)I"⟩
abbrev cX7_stray : ByteArray := prog_1_method_14_code
def yX7_stray : MethodName := ⟨RX7, "stray", "(II)I"⟩
abbrev cX7_summer : ByteArray := prog_1_method_15_code
def yX7_summer : MethodName := ⟨RX7, "summer", "(II)I"⟩
abbrev cX7_game : ByteArray := prog_1_method_16_code
def yX7_game : MethodName := ⟨RX7, "game", "(II)I"⟩
abbrev cX7_again : ByteArray := prog_1_method_17_code
def yX7_again : MethodName := ⟨RX7, "again", "(I)I"⟩
abbrev cX7_starves : ByteArray := prog_1_method_18_code
def yX7_starves : MethodName := ⟨RX7, "starves", "(I)I"⟩
abbrev cX7_otherwise : ByteArray := prog_1_method_19_code
def yX7_otherwise : MethodName := ⟨RX7, "otherwise", "(III)I"⟩
abbrev cX7_wolves : ByteArray := prog_1_method_20_code
def yX7_wolves : MethodName := ⟨RX7, "wolves", "(IIII)I"⟩
abbrev cX7_season : ByteArray := prog_1_method_21_code
def yX7_season : MethodName := ⟨RX7, "season", "(III)I"⟩
abbrev cX7_keep : ByteArray := prog_1_method_22_code
def yX7_keep : MethodName := ⟨RX7, "keep", "()I"⟩
abbrev cX7_back : ByteArray := prog_1_method_23_code
def yX7_back : MethodName := ⟨RX7, "back", "()I"⟩
abbrev cX7_count : ByteArray := prog_1_method_24_code
def yX7_count : MethodName := ⟨RX7, "count", "(I)I"⟩
abbrev cX7_begin : ByteArray := prog_1_method_25_code
def yX7_begin : MethodName := ⟨RX7, "begin", "()Z"⟩
abbrev cX7_isWay : ByteArray := prog_1_method_26_code
def yX7_isWay : MethodName := ⟨RX7, "isWay", "(I)Z"⟩
abbrev cX7_isVillage : ByteArray := prog_1_method_27_code
def yX7_isVillage : MethodName := ⟨RX7, "isVillage", "(I)Z"⟩
abbrev cX7_draw : ByteArray := prog_1_method_28_code
def yX7_draw : MethodName := ⟨RX7, "draw", "(II)I"⟩
abbrev cX7_commonPart : ByteArray := prog_1_method_29_code
def yX7_commonPart : MethodName := ⟨RX7, "commonPart", "(JJ)J"⟩
def RX8 : String := "SheepChessModel"
def TX8 : u_T := fun k => match k with
  | 0 => ("SheepChessModel", "squares", "I", false)
  | 1 => ("SheepChessModel", "wide", "I", false)
  | 2 => ("SheepChessModel", "meadow", "[I", true)
  | 3 => ("SheepChessModel", "beasts", "I", false)
  | 4 => ("SheepChessModel", "kinds", "[I", true)
  | 5 => ("SheepChessModel", "villages", "[I", true)
  | 6 => ("SheepChessModel", "well", "I", false)
  | 7 => ("SheepChessModel", "bears", "I", false)
  | 8 => ("SheepChessModel", "snows", "I", false)
  | 9 => ("SheepChessModel", "snow", "[I", true)
  | 10 => ("SheepChessModel", "st", "[I", true)
  | 11 => ("SheepChessModel", "acts", "I", false)
  | 12 => ("SheepChessModel", "was", "[I", true)
  | 13 => ("SheepChessModel", "drives", "[I", true)
  | 14 => ("SheepChessModel", "keeps", "I", false)
  | 15 => ("SheepChessModel", "kept", "[I", true)
  | 16 => ("SheepChessModel", "text", "[I", true)
  | 17 => ("SheepChessModel", "texted", "I", false)
  | 18 => ("SheepChessModel", "at", "I", false)
  | 19 => ("SheepChessModel", "told", "[I", true)
  | 20 => ("SheepChessModel", "readSquares", "I", false)
  | 21 => ("SheepChessModel", "readWide", "I", false)
  | 22 => ("SheepChessModel", "readMeadow", "[I", true)
  | 23 => ("SheepChessModel", "readBeasts", "I", false)
  | 24 => ("SheepChessModel", "readKind", "[I", true)
  | 25 => ("SheepChessModel", "readVillage", "[I", true)
  | 26 => ("SheepChessModel", "readAt", "[I", true)
  | 27 => ("SheepChessModel", "readWell", "I", false)
  | 28 => ("SheepChessModel", "readBears", "I", false)
  | 29 => ("SheepChessModel", "readSnows", "I", false)
  | 30 => ("SheepChessModel", "readSnow", "[I", true)
  | 31 => ("SheepChessModel", "now", "[I", true)
  | 32 => ("SheepChessModel", "taken", "I", false)
  | 33 => ("SheepChessModel", "wave", "[I", true)
  | 34 => ("SheepChessModel", "far", "[I", true)
  | 35 => ("SheepChessModel", "from", "[I", true)
  | 36 => ("SheepChessModel", "by", "[I", true)
  | 37 => ("SheepChessModel", "waved", "I", false)
  | 38 => ("SheepChessModel", "deep", "[I", true)
  | 39 => ("SheepChessModel", "tried", "[I", true)
  | _ => ("SheepChessModel", "best", "[I", true)
def tyX8 : Nat → FieldType := fun k => match k with
  | 0 => .int
  | 1 => .int
  | 2 => .array .int
  | 3 => .int
  | 4 => .array .int
  | 5 => .array .int
  | 6 => .int
  | 7 => .int
  | 8 => .int
  | 9 => .array .int
  | 10 => .array .int
  | 11 => .int
  | 12 => .array .int
  | 13 => .array .int
  | 14 => .int
  | 15 => .array .int
  | 16 => .array .int
  | 17 => .int
  | 18 => .int
  | 19 => .array .int
  | 20 => .int
  | 21 => .int
  | 22 => .array .int
  | 23 => .int
  | 24 => .array .int
  | 25 => .array .int
  | 26 => .array .int
  | 27 => .int
  | 28 => .int
  | 29 => .int
  | 30 => .array .int
  | 31 => .array .int
  | 32 => .int
  | 33 => .array .int
  | 34 => .array .int
  | 35 => .array .int
  | 36 => .array .int
  | 37 => .int
  | 38 => .array .int
  | 39 => .array .int
  | _ => .array .int
abbrev wsX80 : List Cond := u_ws RX8 TX8 41
theorem nmX8 : ∀ a, a < 41 → ∀ b, b < 41 → a ≠ b → (TX8 a).2.1 ≠ (TX8 b).2.1 := by decide +kernel
theorem tyX8_ok : ∀ k, k < 41 → parseFieldDescriptor (TX8 k).2.2.1 = some (tyX8 k) := by decide +kernel
abbrev cX8_init : ByteArray := prog_10_method_1_code
def yX8_init : MethodName := ⟨RX8, "<init>", "()V"⟩
abbrev cX8_tellsRow : ByteArray := prog_10_method_3_code
def yX8_tellsRow : MethodName := ⟨RX8, "tellsRow", "(I)V"⟩
abbrev cX8_tellsBeast : ByteArray := prog_10_method_4_code
def yX8_tellsBeast : MethodName := ⟨RX8, "tellsBeast", "(III)V"⟩
abbrev cX8_in : ByteArray := prog_10_method_5_code
def yX8_in : MethodName := ⟨RX8, "in", "(III)Z"⟩
abbrev cX8_has : ByteArray := prog_10_method_6_code
def yX8_has : MethodName := ⟨RX8, "has", "(II)Z"⟩
abbrev cX8_isBeast : ByteArray := prog_10_method_7_code
def yX8_isBeast : MethodName := ⟨RX8, "isBeast", "(I)Z"⟩
abbrev cX8_isSquare : ByteArray := prog_10_method_8_code
def yX8_isSquare : MethodName := ⟨RX8, "isSquare", "(I)Z"⟩
abbrev cX8_write : ByteArray := prog_10_method_9_code
def yX8_write : MethodName := ⟨RX8, "write", "(I)I"⟩
abbrev cX8_wipe : ByteArray := prog_10_method_10_code
def yX8_wipe : MethodName := ⟨RX8, "wipe", "()I"⟩
abbrev cX8_letterAt : ByteArray := prog_10_method_11_code
def yX8_letterAt : MethodName := ⟨RX8, "letterAt", "(I)I"⟩
abbrev cX8_isFigure : ByteArray := prog_10_method_12_code
def yX8_isFigure : MethodName := ⟨RX8, "isFigure", "(I)Z"⟩
abbrev cX8_readNumbers : ByteArray := prog_10_method_13_code
def yX8_readNumbers : MethodName := ⟨RX8, "readNumbers", "(I)Z"⟩
abbrev cX8_isTold : ByteArray := prog_10_method_14_code
def yX8_isTold : MethodName := ⟨RX8, "isTold", "(III)Z"⟩
abbrev cX8_clearTold : ByteArray := prog_10_method_15_code
def yX8_clearTold : MethodName := ⟨RX8, "clearTold", "()V"⟩
abbrev cX8_readRow : ByteArray := prog_10_method_16_code
def yX8_readRow : MethodName := ⟨RX8, "readRow", "()Z"⟩
abbrev cX8_isDry : ByteArray := prog_10_method_17_code
def yX8_isDry : MethodName := ⟨RX8, "isDry", "(I)Z"⟩
abbrev cX8_readBeastItem : ByteArray := prog_10_method_18_code
def yX8_readBeastItem : MethodName := ⟨RX8, "readBeastItem", "()Z"⟩
abbrev cX8_readItem : ByteArray := prog_10_method_19_code
def yX8_readItem : MethodName := ⟨RX8, "readItem", "()Z"⟩
abbrev cX8_fault : ByteArray := prog_10_method_20_code
def yX8_fault : MethodName := ⟨RX8, "fault", "()I"⟩
abbrev cX8_lay : ByteArray := prog_10_method_21_code
def yX8_lay : MethodName := ⟨RX8, "lay", "()I"⟩
abbrev cX8_copies : ByteArray := prog_10_method_22_code
def yX8_copies : MethodName := ⟨RX8, "copies", "([II[III)V"⟩
abbrev cX8_settles : ByteArray := prog_10_method_23_code
def yX8_settles : MethodName := ⟨RX8, "settles", "()V"⟩
abbrev cX8_asItIs : ByteArray := prog_10_method_24_code
def yX8_asItIs : MethodName := ⟨RX8, "asItIs", "()V"⟩
abbrev cX8_kindOf : ByteArray := prog_10_method_25_code
def yX8_kindOf : MethodName := ⟨RX8, "kindOf", "(I)I"⟩
abbrev cX8_nextTo : ByteArray := prog_10_method_26_code
def yX8_nextTo : MethodName := ⟨RX8, "nextTo", "(II)I"⟩
abbrev cX8_onIt : ByteArray := prog_10_method_27_code
def yX8_onIt : MethodName := ⟨RX8, "onIt", "(I)I"⟩
abbrev cX8_isSnow : ByteArray := prog_10_method_28_code
def yX8_isSnow : MethodName := ⟨RX8, "isSnow", "()Z"⟩
abbrev cX8_isNearRam : ByteArray := prog_10_method_29_code
def yX8_isNearRam : MethodName := ⟨RX8, "isNearRam", "(II)Z"⟩
abbrev cX8_stepTo : ByteArray := prog_10_method_30_code
def yX8_stepTo : MethodName := ⟨RX8, "stepTo", "(IIIZ)I"⟩
abbrev cX8_comesTo : ByteArray := prog_10_method_31_code
def yX8_comesTo : MethodName := ⟨RX8, "comesTo", "(IIZ)I"⟩
abbrev cX8_stands : ByteArray := prog_10_method_32_code
def yX8_stands : MethodName := ⟨RX8, "stands", "(II)V"⟩
abbrev cX8_grazes : ByteArray := prog_10_method_33_code
def yX8_grazes : MethodName := ⟨RX8, "grazes", "()V"⟩
abbrev cX8_nextDay : ByteArray := prog_10_method_34_code
def yX8_nextDay : MethodName := ⟨RX8, "nextDay", "()V"⟩
abbrev cX8_goesBy : ByteArray := prog_10_method_35_code
def yX8_goesBy : MethodName := ⟨RX8, "goesBy", "(I)V"⟩
abbrev cX8_lost : ByteArray := prog_10_method_36_code
def yX8_lost : MethodName := ⟨RX8, "lost", "()I"⟩
abbrev cX8_canDrive : ByteArray := prog_10_method_37_code
def yX8_canDrive : MethodName := ⟨RX8, "canDrive", "(I)Z"⟩
abbrev cX8_worth : ByteArray := prog_10_method_38_code
def yX8_worth : MethodName := ⟨RX8, "worth", "()I"⟩
abbrev cX8_onMeadow : ByteArray := prog_10_method_39_code
def yX8_onMeadow : MethodName := ⟨RX8, "onMeadow", "(I)I"⟩
abbrev cX8_orNone : ByteArray := prog_10_method_40_code
def yX8_orNone : MethodName := ⟨RX8, "orNone", "(I)I"⟩
abbrev cX8_square : ByteArray := prog_10_method_41_code
def yX8_square : MethodName := ⟨RX8, "square", "(II)I"⟩
abbrev cX8_beast : ByteArray := prog_10_method_42_code
def yX8_beast : MethodName := ⟨RX8, "beast", "(II)I"⟩
abbrev cX8_looksAt : ByteArray := prog_10_method_43_code
def yX8_looksAt : MethodName := ⟨RX8, "looksAt", "(II)I"⟩
abbrev cX8_goes : ByteArray := prog_10_method_44_code
def yX8_goes : MethodName := ⟨RX8, "goes", "(II)I"⟩
abbrev cX8_takes : ByteArray := prog_10_method_45_code
def yX8_takes : MethodName := ⟨RX8, "takes", "(II)I"⟩
abbrev cX8_does : ByteArray := prog_10_method_46_code
def yX8_does : MethodName := ⟨RX8, "does", "(I)V"⟩
abbrev cX8_drive : ByteArray := prog_10_method_47_code
def yX8_drive : MethodName := ⟨RX8, "drive", "(II)I"⟩
abbrev cX8_rest : ByteArray := prog_10_method_48_code
def yX8_rest : MethodName := ⟨RX8, "rest", "()I"⟩
abbrev cX8_undo : ByteArray := prog_10_method_49_code
def yX8_undo : MethodName := ⟨RX8, "undo", "()I"⟩
abbrev cX8_reaches : ByteArray := prog_10_method_50_code
def yX8_reaches : MethodName := ⟨RX8, "reaches", "(III)V"⟩
abbrev cX8_nowOne : ByteArray := prog_10_method_51_code
def yX8_nowOne : MethodName := ⟨RX8, "nowOne", "(I)I"⟩
abbrev cX8_strays : ByteArray := prog_10_method_52_code
def yX8_strays : MethodName := ⟨RX8, "strays", "(II)V"⟩
abbrev cX8_fewest : ByteArray := prog_10_method_53_code
def yX8_fewest : MethodName := ⟨RX8, "fewest", "(III)I"⟩
abbrev cX8_stray : ByteArray := prog_10_method_54_code
def yX8_stray : MethodName := ⟨RX8, "stray", "(II)I"⟩
abbrev cX8_nextDrive : ByteArray := prog_10_method_55_code
def yX8_nextDrive : MethodName := ⟨RX8, "nextDrive", "(I)I"⟩
abbrev cX8_isWatered : ByteArray := prog_10_method_56_code
def yX8_isWatered : MethodName := ⟨RX8, "isWatered", "(I)Z"⟩
abbrev cX8_isSummer : ByteArray := prog_10_method_57_code
def yX8_isSummer : MethodName := ⟨RX8, "isSummer", "(II)Z"⟩
abbrev cX8_summer : ByteArray := prog_10_method_58_code
def yX8_summer : MethodName := ⟨RX8, "summer", "(II)I"⟩
abbrev cX8_plays : ByteArray := prog_10_method_59_code
def yX8_plays : MethodName := ⟨RX8, "plays", "(I)I"⟩
abbrev cX8_isFirstOf : ByteArray := prog_10_method_60_code
def yX8_isFirstOf : MethodName := ⟨RX8, "isFirstOf", "(I)Z"⟩
abbrev cX8_game : ByteArray := prog_10_method_61_code
def yX8_game : MethodName := ⟨RX8, "game", "(II)I"⟩
abbrev cX8_again : ByteArray := prog_10_method_62_code
def yX8_again : MethodName := ⟨RX8, "again", "(I)I"⟩
abbrev cX8_starves : ByteArray := prog_10_method_63_code
def yX8_starves : MethodName := ⟨RX8, "starves", "(I)I"⟩
abbrev cX8_isOtherwise : ByteArray := prog_10_method_64_code
def yX8_isOtherwise : MethodName := ⟨RX8, "isOtherwise", "(IIII)Z"⟩
abbrev cX8_otherwise : ByteArray := prog_10_method_65_code
def yX8_otherwise : MethodName := ⟨RX8, "otherwise", "(III)I"⟩
abbrev cX8_isNearBog : ByteArray := prog_10_method_66_code
def yX8_isNearBog : MethodName := ⟨RX8, "isNearBog", "(I)Z"⟩
abbrev cX8_wolf : ByteArray := prog_10_method_67_code
def yX8_wolf : MethodName := ⟨RX8, "wolf", "()V"⟩
abbrev cX8_lowest : ByteArray := prog_10_method_68_code
def yX8_lowest : MethodName := ⟨RX8, "lowest", "(III)I"⟩
abbrev cX8_wolves : ByteArray := prog_10_method_69_code
def yX8_wolves : MethodName := ⟨RX8, "wolves", "(IIII)I"⟩
abbrev cX8_season : ByteArray := prog_10_method_70_code
def yX8_season : MethodName := ⟨RX8, "season", "(III)I"⟩
abbrev cX8_keep : ByteArray := prog_10_method_71_code
def yX8_keep : MethodName := ⟨RX8, "keep", "()I"⟩
abbrev cX8_back : ByteArray := prog_10_method_72_code
def yX8_back : MethodName := ⟨RX8, "back", "()I"⟩
abbrev cX8_count : ByteArray := prog_10_method_73_code
def yX8_count : MethodName := ⟨RX8, "count", "(I)I"⟩
def RJ9 : String := "java/lang/Math"
def TJ9 : u_T := fun k => match k with
  | _ => ("", "", "", false)
def tyJ9 : Nat → FieldType := fun k => match k with
  | _ => .int
abbrev wsJ90 : List Cond := u_ws RJ9 TJ9 0
theorem nmJ9 : ∀ a, a < 0 → ∀ b, b < 0 → a ≠ b → (TJ9 a).2.1 ≠ (TJ9 b).2.1 := by decide +kernel
theorem tyJ9_ok : ∀ k, k < 0 → parseFieldDescriptor (TJ9 k).2.2.1 = some (tyJ9 k) := by decide +kernel
abbrev cJ9_floorMod_7cf53 : ByteArray := prog_11_method_50_code
def yJ9_floorMod_7cf53 : MethodName := ⟨RJ9, "floorMod", "(II)I"⟩
abbrev cJ9_abs_0f7a4 : ByteArray := prog_11_method_59_code
def yJ9_abs_0f7a4 : MethodName := ⟨RJ9, "abs", "(I)I"⟩
def RJ0 : String := "java/lang/String"
def TJ0 : u_T := fun k => match k with
  | _ => ("", "", "", false)
def tyJ0 : Nat → FieldType := fun k => match k with
  | _ => .int
abbrev wsJ00 : List Cond := u_ws RJ0 TJ0 0
theorem nmJ0 : ∀ a, a < 0 → ∀ b, b < 0 → a ≠ b → (TJ0 a).2.1 ≠ (TJ0 b).2.1 := by decide +kernel
theorem tyJ0_ok : ∀ k, k < 0 → parseFieldDescriptor (TJ0 k).2.2.1 = some (tyJ0 k) := by decide +kernel
abbrev cJ0_length_8abf5 : ByteArray := prog_12_method_54_code
def yJ0_length_8abf5 : MethodName := ⟨RJ0, "length", "()I"⟩
abbrev cJ0_charAt_5068e : ByteArray := prog_12_method_56_code
def yJ0_charAt_5068e : MethodName := ⟨RJ0, "charAt", "(I)C"⟩
abbrev cJ0_coder_7d493 : ByteArray := prog_12_method_152_code
def yJ0_coder_7d493 : MethodName := ⟨RJ0, "coder", "()B"⟩
abbrev cJ0_isLatin1_aae02 : ByteArray := prog_12_method_154_code
def yJ0_isLatin1_aae02 : MethodName := ⟨RJ0, "isLatin1", "()Z"⟩
abbrev cJ0_checkIndex_df160 : ByteArray := prog_12_method_155_code
def yJ0_checkIndex_df160 : MethodName := ⟨RJ0, "checkIndex", "(II)V"⟩
def RJ1 : String := "java/lang/StringLatin1"
def TJ1 : u_T := fun k => match k with
  | _ => ("", "", "", false)
def tyJ1 : Nat → FieldType := fun k => match k with
  | _ => .int
abbrev wsJ10 : List Cond := u_ws RJ1 TJ1 0
theorem nmJ1 : ∀ a, a < 0 → ∀ b, b < 0 → a ≠ b → (TJ1 a).2.1 ≠ (TJ1 b).2.1 := by decide +kernel
theorem tyJ1_ok : ∀ k, k < 0 → parseFieldDescriptor (TJ1 k).2.2.1 = some (tyJ1 k) := by decide +kernel
abbrev cJ1_charAt_3b067 : ByteArray := prog_13_method_2_code
def yJ1_charAt_3b067 : MethodName := ⟨RJ1, "charAt", "([BI)C"⟩
def RJ2 : String := "java/lang/StringUTF16"
def TJ2 : u_T := fun k => match k with
  | _ => ("", "", "", false)
def tyJ2 : Nat → FieldType := fun k => match k with
  | _ => .int
abbrev wsJ20 : List Cond := u_ws RJ2 TJ2 0
theorem nmJ2 : ∀ a, a < 0 → ∀ b, b < 0 → a ≠ b → (TJ2 a).2.1 ≠ (TJ2 b).2.1 := by decide +kernel
theorem tyJ2_ok : ∀ k, k < 0 → parseFieldDescriptor (TJ2 k).2.2.1 = some (tyJ2 k) := by decide +kernel
abbrev cJ2_getChar_3b067 : ByteArray := prog_14_method_5_code
def yJ2_getChar_3b067 : MethodName := ⟨RJ2, "getChar", "([BI)C"⟩
abbrev cJ2_length_9d52b : ByteArray := prog_14_method_6_code
def yJ2_length_9d52b : MethodName := ⟨RJ2, "length", "([B)I"⟩
abbrev cJ2_charAt_3b067 : ByteArray := prog_14_method_83_code
def yJ2_charAt_3b067 : MethodName := ⟨RJ2, "charAt", "([BI)C"⟩
abbrev cJ2_checkIndex_2214a : ByteArray := prog_14_method_91_code
def yJ2_checkIndex_2214a : MethodName := ⟨RJ2, "checkIndex", "(I[B)V"⟩
def RJ10 : String := "java/lang/System"
def TJ10 : u_T := fun k => match k with
  | _ => ("", "", "", false)
def tyJ10 : Nat → FieldType := fun k => match k with
  | _ => .int
abbrev wsJ100 : List Cond := u_ws RJ10 TJ10 0
theorem nmJ10 : ∀ a, a < 0 → ∀ b, b < 0 → a ≠ b → (TJ10 a).2.1 ≠ (TJ10 b).2.1 := by decide +kernel
theorem tyJ10_ok : ∀ k, k < 0 → parseFieldDescriptor (TJ10 k).2.2.1 = some (tyJ10 k) := by decide +kernel
def RJ3 : String := "jdk/internal/util/Preconditions"
def TJ3 : u_T := fun k => match k with
  | _ => ("", "", "", false)
def tyJ3 : Nat → FieldType := fun k => match k with
  | _ => .int
abbrev wsJ30 : List Cond := u_ws RJ3 TJ3 0
theorem nmJ3 : ∀ a, a < 0 → ∀ b, b < 0 → a ≠ b → (TJ3 a).2.1 ≠ (TJ3 b).2.1 := by decide +kernel
theorem tyJ3_ok : ∀ k, k < 0 → parseFieldDescriptor (TJ3 k).2.2.1 = some (tyJ3 k) := by decide +kernel
abbrev cJ3_checkIndex_8e157 : ByteArray := prog_16_method_11_code
def yJ3_checkIndex_8e157 : MethodName := ⟨RJ3, "checkIndex", "(IILjava/util/function/BiFunction;)I"⟩
def RL : String := "SheepChessLaw"
abbrev cL_law : ByteArray := code
def yL_law : MethodName := ⟨RL, "law", "([I)Z"⟩
