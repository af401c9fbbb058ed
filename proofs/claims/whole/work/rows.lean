section
-- ===== PART A: goes FIRST, ahead of the names: the tables' words, and 'selects' of the private methods out of them =====
/-- a private method of a class that the tables say can be made, by its rows of tables_1 -/
def lw_okq (q : MethodName × Nat) : Prop := (q.1.cls ≠ "java/lang/invoke/MethodHandle" ∧ q.1.cls ≠ "java/lang/invoke/VarHandle") ∧ Cond.instantiable q.1.cls q.2 ∈ tables_1 ∧ Cond.privateMethod q.1 ∈ tables_1 ∧ Cond.instanceMethod q.1 ∈ tables_1
theorem lw_p0 : lw_okq (⟨"SheepChess", "begin", "()Z"⟩, 9) := ⟨⟨by decide +kernel, by decide +kernel⟩, List.mem_of_getElem? (i := 17) (by decide +kernel), List.mem_of_getElem? (i := 293) (by decide +kernel), List.mem_of_getElem? (i := 294) (by decide +kernel)⟩
theorem lw_p1 : lw_okq (⟨"SheepChess$Sheet", "readItem", "()Z"⟩, 5) := ⟨⟨by decide +kernel, by decide +kernel⟩, List.mem_of_getElem? (i := 82) (by decide +kernel), List.mem_of_getElem? (i := 305) (by decide +kernel), List.mem_of_getElem? (i := 306) (by decide +kernel)⟩
theorem lw_p2 : lw_okq (⟨"SheepChess$Sheet", "letterAtHead", "()I"⟩, 5) := ⟨⟨by decide +kernel, by decide +kernel⟩, List.mem_of_getElem? (i := 82) (by decide +kernel), List.mem_of_getElem? (i := 309) (by decide +kernel), List.mem_of_getElem? (i := 310) (by decide +kernel)⟩
theorem lw_p3 : lw_okq (⟨"SheepChess$Sheet", "readRow", "()Z"⟩, 5) := ⟨⟨by decide +kernel, by decide +kernel⟩, List.mem_of_getElem? (i := 82) (by decide +kernel), List.mem_of_getElem? (i := 313) (by decide +kernel), List.mem_of_getElem? (i := 314) (by decide +kernel)⟩
theorem lw_p4 : lw_okq (⟨"SheepChess$Sheet", "readFigure", "()I"⟩, 5) := ⟨⟨by decide +kernel, by decide +kernel⟩, List.mem_of_getElem? (i := 82) (by decide +kernel), List.mem_of_getElem? (i := 317) (by decide +kernel), List.mem_of_getElem? (i := 318) (by decide +kernel)⟩
theorem lw_p5 : lw_okq (⟨"SheepChess$Sheet", "passes", "(I)Z"⟩, 5) := ⟨⟨by decide +kernel, by decide +kernel⟩, List.mem_of_getElem? (i := 82) (by decide +kernel), List.mem_of_getElem? (i := 321) (by decide +kernel), List.mem_of_getElem? (i := 322) (by decide +kernel)⟩
theorem lw_p6 : lw_okq (⟨"SheepChess$Sheet", "readBeast", "()Z"⟩, 5) := ⟨⟨by decide +kernel, by decide +kernel⟩, List.mem_of_getElem? (i := 82) (by decide +kernel), List.mem_of_getElem? (i := 325) (by decide +kernel), List.mem_of_getElem? (i := 326) (by decide +kernel)⟩
theorem lw_p7 : lw_okq (⟨"SheepChess$Sheet", "readNumber", "()I"⟩, 5) := ⟨⟨by decide +kernel, by decide +kernel⟩, List.mem_of_getElem? (i := 82) (by decide +kernel), List.mem_of_getElem? (i := 329) (by decide +kernel), List.mem_of_getElem? (i := 330) (by decide +kernel)⟩
theorem lw_p8 : lw_okq (⟨"SheepChess$Sheet", "readWell", "()Z"⟩, 5) := ⟨⟨by decide +kernel, by decide +kernel⟩, List.mem_of_getElem? (i := 82) (by decide +kernel), List.mem_of_getElem? (i := 352) (by decide +kernel), List.mem_of_getElem? (i := 353) (by decide +kernel)⟩
theorem lw_p9 : lw_okq (⟨"SheepChess$Sheet", "readHunger", "()Z"⟩, 5) := ⟨⟨by decide +kernel, by decide +kernel⟩, List.mem_of_getElem? (i := 82) (by decide +kernel), List.mem_of_getElem? (i := 356) (by decide +kernel), List.mem_of_getElem? (i := 357) (by decide +kernel)⟩
theorem lw_p10 : lw_okq (⟨"SheepChess$Sheet", "readSnow", "()Z"⟩, 5) := ⟨⟨by decide +kernel, by decide +kernel⟩, List.mem_of_getElem? (i := 82) (by decide +kernel), List.mem_of_getElem? (i := 360) (by decide +kernel), List.mem_of_getElem? (i := 361) (by decide +kernel)⟩
theorem lw_p11 : lw_okq (⟨"SheepChess$Meadow", "isOpen", "(IIZ)Z"⟩, 6) := ⟨⟨by decide +kernel, by decide +kernel⟩, List.mem_of_getElem? (i := 90) (by decide +kernel), List.mem_of_getElem? (i := 483) (by decide +kernel), List.mem_of_getElem? (i := 484) (by decide +kernel)⟩
theorem lw_p12 : lw_okq (⟨"SheepChess$Meadow", "ramBeside", "(II)Z"⟩, 6) := ⟨⟨by decide +kernel, by decide +kernel⟩, List.mem_of_getElem? (i := 90) (by decide +kernel), List.mem_of_getElem? (i := 489) (by decide +kernel), List.mem_of_getElem? (i := 490) (by decide +kernel)⟩
theorem lw_p13 : lw_okq (⟨"SheepChess$Past", "slot", "(I)I"⟩, 5) := ⟨⟨by decide +kernel, by decide +kernel⟩, List.mem_of_getElem? (i := 140) (by decide +kernel), List.mem_of_getElem? (i := 522) (by decide +kernel), List.mem_of_getElem? (i := 523) (by decide +kernel)⟩
theorem lw_p14 : lw_okq (⟨"SheepChess$Walk", "add", "(IIII)V"⟩, 8) := ⟨⟨by decide +kernel, by decide +kernel⟩, List.mem_of_getElem? (i := 181) (by decide +kernel), List.mem_of_getElem? (i := 576) (by decide +kernel), List.mem_of_getElem? (i := 577) (by decide +kernel)⟩
theorem lw_p15 : lw_okq (⟨"SheepChess$Ahead", "comesToWell", "(IIII)Z"⟩, 5) := ⟨⟨by decide +kernel, by decide +kernel⟩, List.mem_of_getElem? (i := 215) (by decide +kernel), List.mem_of_getElem? (i := 618) (by decide +kernel), List.mem_of_getElem? (i := 619) (by decide +kernel)⟩
def lw_privs_1 : List (MethodName × Nat) := [(⟨"SheepChess", "begin", "()Z"⟩, 9), (⟨"SheepChess$Sheet", "readItem", "()Z"⟩, 5), (⟨"SheepChess$Sheet", "letterAtHead", "()I"⟩, 5), (⟨"SheepChess$Sheet", "readRow", "()Z"⟩, 5), (⟨"SheepChess$Sheet", "readFigure", "()I"⟩, 5), (⟨"SheepChess$Sheet", "passes", "(I)Z"⟩, 5), (⟨"SheepChess$Sheet", "readBeast", "()Z"⟩, 5), (⟨"SheepChess$Sheet", "readNumber", "()I"⟩, 5), (⟨"SheepChess$Sheet", "readWell", "()Z"⟩, 5), (⟨"SheepChess$Sheet", "readHunger", "()Z"⟩, 5), (⟨"SheepChess$Sheet", "readSnow", "()Z"⟩, 5), (⟨"SheepChess$Meadow", "isOpen", "(IIZ)Z"⟩, 6), (⟨"SheepChess$Meadow", "ramBeside", "(II)Z"⟩, 6), (⟨"SheepChess$Past", "slot", "(I)I"⟩, 5), (⟨"SheepChess$Walk", "add", "(IIII)V"⟩, 8), (⟨"SheepChess$Ahead", "comesToWell", "(IIII)Z"⟩, 5)]
theorem lw_r1 : ∀ q ∈ lw_privs_1, lw_okq q := List.forall_mem_cons.mpr ⟨lw_p0, List.forall_mem_cons.mpr ⟨lw_p1, List.forall_mem_cons.mpr ⟨lw_p2, List.forall_mem_cons.mpr ⟨lw_p3, List.forall_mem_cons.mpr ⟨lw_p4, List.forall_mem_cons.mpr ⟨lw_p5, List.forall_mem_cons.mpr ⟨lw_p6, List.forall_mem_cons.mpr ⟨lw_p7, List.forall_mem_cons.mpr ⟨lw_p8, List.forall_mem_cons.mpr ⟨lw_p9, List.forall_mem_cons.mpr ⟨lw_p10, List.forall_mem_cons.mpr ⟨lw_p11, List.forall_mem_cons.mpr ⟨lw_p12, List.forall_mem_cons.mpr ⟨lw_p13, List.forall_mem_cons.mpr ⟨lw_p14, List.forall_mem_cons.mpr ⟨lw_p15, fun _ h => absurd h List.not_mem_nil⟩⟩⟩⟩⟩⟩⟩⟩⟩⟩⟩⟩⟩⟩⟩⟩
theorem lw_p16 : lw_okq (⟨"SheepChess$Ahead", "pass", "(III)LSheepChess$Meadow;"⟩, 5) := ⟨⟨by decide +kernel, by decide +kernel⟩, List.mem_of_getElem? (i := 215) (by decide +kernel), List.mem_of_getElem? (i := 632) (by decide +kernel), List.mem_of_getElem? (i := 633) (by decide +kernel)⟩
theorem lw_p17 : lw_okq (⟨"SheepChess$Ahead", "note", "(II)V"⟩, 5) := ⟨⟨by decide +kernel, by decide +kernel⟩, List.mem_of_getElem? (i := 215) (by decide +kernel), List.mem_of_getElem? (i := 640) (by decide +kernel), List.mem_of_getElem? (i := 641) (by decide +kernel)⟩
theorem lw_p18 : lw_okq (⟨"SheepChess$Ahead", "worthFrom", "(II)I"⟩, 5) := ⟨⟨by decide +kernel, by decide +kernel⟩, List.mem_of_getElem? (i := 215) (by decide +kernel), List.mem_of_getElem? (i := 656) (by decide +kernel), List.mem_of_getElem? (i := 657) (by decide +kernel)⟩
theorem lw_p19 : lw_okq (⟨"SheepChess$Ahead", "stayingFrom", "(IIII)J"⟩, 5) := ⟨⟨by decide +kernel, by decide +kernel⟩, List.mem_of_getElem? (i := 215) (by decide +kernel), List.mem_of_getElem? (i := 701) (by decide +kernel), List.mem_of_getElem? (i := 702) (by decide +kernel)⟩
theorem lw_p20 : lw_okq (⟨"SheepChess$Meadow", "bogBeside", "(I)Z"⟩, 6) := ⟨⟨by decide +kernel, by decide +kernel⟩, List.mem_of_getElem? (i := 90) (by decide +kernel), List.mem_of_getElem? (i := 711) (by decide +kernel), List.mem_of_getElem? (i := 712) (by decide +kernel)⟩
theorem lw_p21 : lw_okq (⟨"SheepChessModel", "clearTold", "()V"⟩, 41) := ⟨⟨by decide +kernel, by decide +kernel⟩, List.mem_of_getElem? (i := 749) (by decide +kernel), List.mem_of_getElem? (i := 755) (by decide +kernel), List.mem_of_getElem? (i := 756) (by decide +kernel)⟩
theorem lw_p22 : lw_okq (⟨"SheepChessModel", "tellsRow", "(I)V"⟩, 41) := ⟨⟨by decide +kernel, by decide +kernel⟩, List.mem_of_getElem? (i := 749) (by decide +kernel), List.mem_of_getElem? (i := 759) (by decide +kernel), List.mem_of_getElem? (i := 760) (by decide +kernel)⟩
theorem lw_p23 : lw_okq (⟨"SheepChessModel", "tellsBeast", "(III)V"⟩, 41) := ⟨⟨by decide +kernel, by decide +kernel⟩, List.mem_of_getElem? (i := 749) (by decide +kernel), List.mem_of_getElem? (i := 763) (by decide +kernel), List.mem_of_getElem? (i := 764) (by decide +kernel)⟩
theorem lw_p24 : lw_okq (⟨"SheepChessModel", "settles", "()V"⟩, 41) := ⟨⟨by decide +kernel, by decide +kernel⟩, List.mem_of_getElem? (i := 749) (by decide +kernel), List.mem_of_getElem? (i := 767) (by decide +kernel), List.mem_of_getElem? (i := 768) (by decide +kernel)⟩
theorem lw_p25 : lw_okq (⟨"SheepChessModel", "readItem", "()Z"⟩, 41) := ⟨⟨by decide +kernel, by decide +kernel⟩, List.mem_of_getElem? (i := 749) (by decide +kernel), List.mem_of_getElem? (i := 913) (by decide +kernel), List.mem_of_getElem? (i := 914) (by decide +kernel)⟩
theorem lw_p26 : lw_okq (⟨"SheepChessModel", "letterAt", "(I)I"⟩, 41) := ⟨⟨by decide +kernel, by decide +kernel⟩, List.mem_of_getElem? (i := 749) (by decide +kernel), List.mem_of_getElem? (i := 917) (by decide +kernel), List.mem_of_getElem? (i := 918) (by decide +kernel)⟩
theorem lw_p27 : lw_okq (⟨"SheepChessModel", "readRow", "()Z"⟩, 41) := ⟨⟨by decide +kernel, by decide +kernel⟩, List.mem_of_getElem? (i := 749) (by decide +kernel), List.mem_of_getElem? (i := 921) (by decide +kernel), List.mem_of_getElem? (i := 922) (by decide +kernel)⟩
theorem lw_p28 : lw_okq (⟨"SheepChessModel", "readBeastItem", "()Z"⟩, 41) := ⟨⟨by decide +kernel, by decide +kernel⟩, List.mem_of_getElem? (i := 749) (by decide +kernel), List.mem_of_getElem? (i := 928) (by decide +kernel), List.mem_of_getElem? (i := 929) (by decide +kernel)⟩
theorem lw_p29 : lw_okq (⟨"SheepChessModel", "readNumbers", "(I)Z"⟩, 41) := ⟨⟨by decide +kernel, by decide +kernel⟩, List.mem_of_getElem? (i := 749) (by decide +kernel), List.mem_of_getElem? (i := 932) (by decide +kernel), List.mem_of_getElem? (i := 933) (by decide +kernel)⟩
theorem lw_p30 : lw_okq (⟨"SheepChessModel", "isTold", "(III)Z"⟩, 41) := ⟨⟨by decide +kernel, by decide +kernel⟩, List.mem_of_getElem? (i := 749) (by decide +kernel), List.mem_of_getElem? (i := 936) (by decide +kernel), List.mem_of_getElem? (i := 937) (by decide +kernel)⟩
theorem lw_p31 : lw_okq (⟨"SheepChessModel", "isDry", "(I)Z"⟩, 41) := ⟨⟨by decide +kernel, by decide +kernel⟩, List.mem_of_getElem? (i := 749) (by decide +kernel), List.mem_of_getElem? (i := 940) (by decide +kernel), List.mem_of_getElem? (i := 941) (by decide +kernel)⟩
def lw_privs_2 : List (MethodName × Nat) := [(⟨"SheepChess$Ahead", "pass", "(III)LSheepChess$Meadow;"⟩, 5), (⟨"SheepChess$Ahead", "note", "(II)V"⟩, 5), (⟨"SheepChess$Ahead", "worthFrom", "(II)I"⟩, 5), (⟨"SheepChess$Ahead", "stayingFrom", "(IIII)J"⟩, 5), (⟨"SheepChess$Meadow", "bogBeside", "(I)Z"⟩, 6), (⟨"SheepChessModel", "clearTold", "()V"⟩, 41), (⟨"SheepChessModel", "tellsRow", "(I)V"⟩, 41), (⟨"SheepChessModel", "tellsBeast", "(III)V"⟩, 41), (⟨"SheepChessModel", "settles", "()V"⟩, 41), (⟨"SheepChessModel", "readItem", "()Z"⟩, 41), (⟨"SheepChessModel", "letterAt", "(I)I"⟩, 41), (⟨"SheepChessModel", "readRow", "()Z"⟩, 41), (⟨"SheepChessModel", "readBeastItem", "()Z"⟩, 41), (⟨"SheepChessModel", "readNumbers", "(I)Z"⟩, 41), (⟨"SheepChessModel", "isTold", "(III)Z"⟩, 41), (⟨"SheepChessModel", "isDry", "(I)Z"⟩, 41)]
theorem lw_r2 : ∀ q ∈ lw_privs_2, lw_okq q := List.forall_mem_cons.mpr ⟨lw_p16, List.forall_mem_cons.mpr ⟨lw_p17, List.forall_mem_cons.mpr ⟨lw_p18, List.forall_mem_cons.mpr ⟨lw_p19, List.forall_mem_cons.mpr ⟨lw_p20, List.forall_mem_cons.mpr ⟨lw_p21, List.forall_mem_cons.mpr ⟨lw_p22, List.forall_mem_cons.mpr ⟨lw_p23, List.forall_mem_cons.mpr ⟨lw_p24, List.forall_mem_cons.mpr ⟨lw_p25, List.forall_mem_cons.mpr ⟨lw_p26, List.forall_mem_cons.mpr ⟨lw_p27, List.forall_mem_cons.mpr ⟨lw_p28, List.forall_mem_cons.mpr ⟨lw_p29, List.forall_mem_cons.mpr ⟨lw_p30, List.forall_mem_cons.mpr ⟨lw_p31, fun _ h => absurd h List.not_mem_nil⟩⟩⟩⟩⟩⟩⟩⟩⟩⟩⟩⟩⟩⟩⟩⟩
theorem lw_p32 : lw_okq (⟨"SheepChessModel", "isSquare", "(I)Z"⟩, 41) := ⟨⟨by decide +kernel, by decide +kernel⟩, List.mem_of_getElem? (i := 749) (by decide +kernel), List.mem_of_getElem? (i := 953) (by decide +kernel), List.mem_of_getElem? (i := 954) (by decide +kernel)⟩
theorem lw_p33 : lw_okq (⟨"SheepChessModel", "asItIs", "()V"⟩, 41) := ⟨⟨by decide +kernel, by decide +kernel⟩, List.mem_of_getElem? (i := 749) (by decide +kernel), List.mem_of_getElem? (i := 957) (by decide +kernel), List.mem_of_getElem? (i := 958) (by decide +kernel)⟩
theorem lw_p34 : lw_okq (⟨"SheepChessModel", "onIt", "(I)I"⟩, 41) := ⟨⟨by decide +kernel, by decide +kernel⟩, List.mem_of_getElem? (i := 749) (by decide +kernel), List.mem_of_getElem? (i := 961) (by decide +kernel), List.mem_of_getElem? (i := 962) (by decide +kernel)⟩
theorem lw_p35 : lw_okq (⟨"SheepChessModel", "isBeast", "(I)Z"⟩, 41) := ⟨⟨by decide +kernel, by decide +kernel⟩, List.mem_of_getElem? (i := 749) (by decide +kernel), List.mem_of_getElem? (i := 969) (by decide +kernel), List.mem_of_getElem? (i := 970) (by decide +kernel)⟩
theorem lw_p36 : lw_okq (⟨"SheepChessModel", "kindOf", "(I)I"⟩, 41) := ⟨⟨by decide +kernel, by decide +kernel⟩, List.mem_of_getElem? (i := 749) (by decide +kernel), List.mem_of_getElem? (i := 973) (by decide +kernel), List.mem_of_getElem? (i := 974) (by decide +kernel)⟩
theorem lw_p37 : lw_okq (⟨"SheepChessModel", "looksAt", "(II)I"⟩, 41) := ⟨⟨by decide +kernel, by decide +kernel⟩, List.mem_of_getElem? (i := 749) (by decide +kernel), List.mem_of_getElem? (i := 987) (by decide +kernel), List.mem_of_getElem? (i := 988) (by decide +kernel)⟩
theorem lw_p38 : lw_okq (⟨"SheepChessModel", "comesTo", "(IIZ)I"⟩, 41) := ⟨⟨by decide +kernel, by decide +kernel⟩, List.mem_of_getElem? (i := 749) (by decide +kernel), List.mem_of_getElem? (i := 991) (by decide +kernel), List.mem_of_getElem? (i := 992) (by decide +kernel)⟩
theorem lw_p39 : lw_okq (⟨"SheepChessModel", "isSnow", "()Z"⟩, 41) := ⟨⟨by decide +kernel, by decide +kernel⟩, List.mem_of_getElem? (i := 749) (by decide +kernel), List.mem_of_getElem? (i := 995) (by decide +kernel), List.mem_of_getElem? (i := 996) (by decide +kernel)⟩
theorem lw_p40 : lw_okq (⟨"SheepChessModel", "stepTo", "(IIIZ)I"⟩, 41) := ⟨⟨by decide +kernel, by decide +kernel⟩, List.mem_of_getElem? (i := 749) (by decide +kernel), List.mem_of_getElem? (i := 999) (by decide +kernel), List.mem_of_getElem? (i := 1000) (by decide +kernel)⟩
theorem lw_p41 : lw_okq (⟨"SheepChessModel", "nextTo", "(II)I"⟩, 41) := ⟨⟨by decide +kernel, by decide +kernel⟩, List.mem_of_getElem? (i := 749) (by decide +kernel), List.mem_of_getElem? (i := 1003) (by decide +kernel), List.mem_of_getElem? (i := 1004) (by decide +kernel)⟩
theorem lw_p42 : lw_okq (⟨"SheepChessModel", "isNearRam", "(II)Z"⟩, 41) := ⟨⟨by decide +kernel, by decide +kernel⟩, List.mem_of_getElem? (i := 749) (by decide +kernel), List.mem_of_getElem? (i := 1007) (by decide +kernel), List.mem_of_getElem? (i := 1008) (by decide +kernel)⟩
theorem lw_p43 : lw_okq (⟨"SheepChessModel", "canDrive", "(I)Z"⟩, 41) := ⟨⟨by decide +kernel, by decide +kernel⟩, List.mem_of_getElem? (i := 749) (by decide +kernel), List.mem_of_getElem? (i := 1019) (by decide +kernel), List.mem_of_getElem? (i := 1020) (by decide +kernel)⟩
theorem lw_p44 : lw_okq (⟨"SheepChessModel", "lost", "()I"⟩, 41) := ⟨⟨by decide +kernel, by decide +kernel⟩, List.mem_of_getElem? (i := 749) (by decide +kernel), List.mem_of_getElem? (i := 1023) (by decide +kernel), List.mem_of_getElem? (i := 1024) (by decide +kernel)⟩
theorem lw_p45 : lw_okq (⟨"SheepChessModel", "does", "(I)V"⟩, 41) := ⟨⟨by decide +kernel, by decide +kernel⟩, List.mem_of_getElem? (i := 749) (by decide +kernel), List.mem_of_getElem? (i := 1027) (by decide +kernel), List.mem_of_getElem? (i := 1028) (by decide +kernel)⟩
theorem lw_p46 : lw_okq (⟨"SheepChessModel", "goesBy", "(I)V"⟩, 41) := ⟨⟨by decide +kernel, by decide +kernel⟩, List.mem_of_getElem? (i := 749) (by decide +kernel), List.mem_of_getElem? (i := 1031) (by decide +kernel), List.mem_of_getElem? (i := 1032) (by decide +kernel)⟩
theorem lw_p47 : lw_okq (⟨"SheepChessModel", "stands", "(II)V"⟩, 41) := ⟨⟨by decide +kernel, by decide +kernel⟩, List.mem_of_getElem? (i := 749) (by decide +kernel), List.mem_of_getElem? (i := 1035) (by decide +kernel), List.mem_of_getElem? (i := 1036) (by decide +kernel)⟩
def lw_privs_3 : List (MethodName × Nat) := [(⟨"SheepChessModel", "isSquare", "(I)Z"⟩, 41), (⟨"SheepChessModel", "asItIs", "()V"⟩, 41), (⟨"SheepChessModel", "onIt", "(I)I"⟩, 41), (⟨"SheepChessModel", "isBeast", "(I)Z"⟩, 41), (⟨"SheepChessModel", "kindOf", "(I)I"⟩, 41), (⟨"SheepChessModel", "looksAt", "(II)I"⟩, 41), (⟨"SheepChessModel", "comesTo", "(IIZ)I"⟩, 41), (⟨"SheepChessModel", "isSnow", "()Z"⟩, 41), (⟨"SheepChessModel", "stepTo", "(IIIZ)I"⟩, 41), (⟨"SheepChessModel", "nextTo", "(II)I"⟩, 41), (⟨"SheepChessModel", "isNearRam", "(II)Z"⟩, 41), (⟨"SheepChessModel", "canDrive", "(I)Z"⟩, 41), (⟨"SheepChessModel", "lost", "()I"⟩, 41), (⟨"SheepChessModel", "does", "(I)V"⟩, 41), (⟨"SheepChessModel", "goesBy", "(I)V"⟩, 41), (⟨"SheepChessModel", "stands", "(II)V"⟩, 41)]
theorem lw_r3 : ∀ q ∈ lw_privs_3, lw_okq q := List.forall_mem_cons.mpr ⟨lw_p32, List.forall_mem_cons.mpr ⟨lw_p33, List.forall_mem_cons.mpr ⟨lw_p34, List.forall_mem_cons.mpr ⟨lw_p35, List.forall_mem_cons.mpr ⟨lw_p36, List.forall_mem_cons.mpr ⟨lw_p37, List.forall_mem_cons.mpr ⟨lw_p38, List.forall_mem_cons.mpr ⟨lw_p39, List.forall_mem_cons.mpr ⟨lw_p40, List.forall_mem_cons.mpr ⟨lw_p41, List.forall_mem_cons.mpr ⟨lw_p42, List.forall_mem_cons.mpr ⟨lw_p43, List.forall_mem_cons.mpr ⟨lw_p44, List.forall_mem_cons.mpr ⟨lw_p45, List.forall_mem_cons.mpr ⟨lw_p46, List.forall_mem_cons.mpr ⟨lw_p47, fun _ h => absurd h List.not_mem_nil⟩⟩⟩⟩⟩⟩⟩⟩⟩⟩⟩⟩⟩⟩⟩⟩
theorem lw_p48 : lw_okq (⟨"SheepChessModel", "grazes", "()V"⟩, 41) := ⟨⟨by decide +kernel, by decide +kernel⟩, List.mem_of_getElem? (i := 749) (by decide +kernel), List.mem_of_getElem? (i := 1039) (by decide +kernel), List.mem_of_getElem? (i := 1040) (by decide +kernel)⟩
theorem lw_p49 : lw_okq (⟨"SheepChessModel", "nextDay", "()V"⟩, 41) := ⟨⟨by decide +kernel, by decide +kernel⟩, List.mem_of_getElem? (i := 749) (by decide +kernel), List.mem_of_getElem? (i := 1043) (by decide +kernel), List.mem_of_getElem? (i := 1044) (by decide +kernel)⟩
theorem lw_p50 : lw_okq (⟨"SheepChessModel", "strays", "(II)V"⟩, 41) := ⟨⟨by decide +kernel, by decide +kernel⟩, List.mem_of_getElem? (i := 749) (by decide +kernel), List.mem_of_getElem? (i := 1059) (by decide +kernel), List.mem_of_getElem? (i := 1060) (by decide +kernel)⟩
theorem lw_p51 : lw_okq (⟨"SheepChessModel", "nowOne", "(I)I"⟩, 41) := ⟨⟨by decide +kernel, by decide +kernel⟩, List.mem_of_getElem? (i := 749) (by decide +kernel), List.mem_of_getElem? (i := 1063) (by decide +kernel), List.mem_of_getElem? (i := 1064) (by decide +kernel)⟩
theorem lw_p52 : lw_okq (⟨"SheepChessModel", "reaches", "(III)V"⟩, 41) := ⟨⟨by decide +kernel, by decide +kernel⟩, List.mem_of_getElem? (i := 749) (by decide +kernel), List.mem_of_getElem? (i := 1067) (by decide +kernel), List.mem_of_getElem? (i := 1068) (by decide +kernel)⟩
theorem lw_p53 : lw_okq (⟨"SheepChessModel", "isSummer", "(II)Z"⟩, 41) := ⟨⟨by decide +kernel, by decide +kernel⟩, List.mem_of_getElem? (i := 749) (by decide +kernel), List.mem_of_getElem? (i := 1079) (by decide +kernel), List.mem_of_getElem? (i := 1080) (by decide +kernel)⟩
theorem lw_p54 : lw_okq (⟨"SheepChessModel", "isWatered", "(I)Z"⟩, 41) := ⟨⟨by decide +kernel, by decide +kernel⟩, List.mem_of_getElem? (i := 749) (by decide +kernel), List.mem_of_getElem? (i := 1083) (by decide +kernel), List.mem_of_getElem? (i := 1084) (by decide +kernel)⟩
theorem lw_p55 : lw_okq (⟨"SheepChessModel", "nextDrive", "(I)I"⟩, 41) := ⟨⟨by decide +kernel, by decide +kernel⟩, List.mem_of_getElem? (i := 749) (by decide +kernel), List.mem_of_getElem? (i := 1087) (by decide +kernel), List.mem_of_getElem? (i := 1088) (by decide +kernel)⟩
theorem lw_p56 : lw_okq (⟨"SheepChessModel", "onMeadow", "(I)I"⟩, 41) := ⟨⟨by decide +kernel, by decide +kernel⟩, List.mem_of_getElem? (i := 749) (by decide +kernel), List.mem_of_getElem? (i := 1091) (by decide +kernel), List.mem_of_getElem? (i := 1092) (by decide +kernel)⟩
theorem lw_p57 : lw_okq (⟨"SheepChessModel", "plays", "(I)I"⟩, 41) := ⟨⟨by decide +kernel, by decide +kernel⟩, List.mem_of_getElem? (i := 749) (by decide +kernel), List.mem_of_getElem? (i := 1099) (by decide +kernel), List.mem_of_getElem? (i := 1100) (by decide +kernel)⟩
theorem lw_p58 : lw_okq (⟨"SheepChessModel", "worth", "()I"⟩, 41) := ⟨⟨by decide +kernel, by decide +kernel⟩, List.mem_of_getElem? (i := 749) (by decide +kernel), List.mem_of_getElem? (i := 1103) (by decide +kernel), List.mem_of_getElem? (i := 1104) (by decide +kernel)⟩
theorem lw_p59 : lw_okq (⟨"SheepChessModel", "isFirstOf", "(I)Z"⟩, 41) := ⟨⟨by decide +kernel, by decide +kernel⟩, List.mem_of_getElem? (i := 749) (by decide +kernel), List.mem_of_getElem? (i := 1107) (by decide +kernel), List.mem_of_getElem? (i := 1108) (by decide +kernel)⟩
theorem lw_p60 : lw_okq (⟨"SheepChessModel", "isOtherwise", "(IIII)Z"⟩, 41) := ⟨⟨by decide +kernel, by decide +kernel⟩, List.mem_of_getElem? (i := 749) (by decide +kernel), List.mem_of_getElem? (i := 1123) (by decide +kernel), List.mem_of_getElem? (i := 1124) (by decide +kernel)⟩
theorem lw_p61 : lw_okq (⟨"SheepChessModel", "wolf", "()V"⟩, 41) := ⟨⟨by decide +kernel, by decide +kernel⟩, List.mem_of_getElem? (i := 749) (by decide +kernel), List.mem_of_getElem? (i := 1131) (by decide +kernel), List.mem_of_getElem? (i := 1132) (by decide +kernel)⟩
theorem lw_p62 : lw_okq (⟨"SheepChessModel", "isNearBog", "(I)Z"⟩, 41) := ⟨⟨by decide +kernel, by decide +kernel⟩, List.mem_of_getElem? (i := 749) (by decide +kernel), List.mem_of_getElem? (i := 1135) (by decide +kernel), List.mem_of_getElem? (i := 1136) (by decide +kernel)⟩
def lw_privs_4 : List (MethodName × Nat) := [(⟨"SheepChessModel", "grazes", "()V"⟩, 41), (⟨"SheepChessModel", "nextDay", "()V"⟩, 41), (⟨"SheepChessModel", "strays", "(II)V"⟩, 41), (⟨"SheepChessModel", "nowOne", "(I)I"⟩, 41), (⟨"SheepChessModel", "reaches", "(III)V"⟩, 41), (⟨"SheepChessModel", "isSummer", "(II)Z"⟩, 41), (⟨"SheepChessModel", "isWatered", "(I)Z"⟩, 41), (⟨"SheepChessModel", "nextDrive", "(I)I"⟩, 41), (⟨"SheepChessModel", "onMeadow", "(I)I"⟩, 41), (⟨"SheepChessModel", "plays", "(I)I"⟩, 41), (⟨"SheepChessModel", "worth", "()I"⟩, 41), (⟨"SheepChessModel", "isFirstOf", "(I)Z"⟩, 41), (⟨"SheepChessModel", "isOtherwise", "(IIII)Z"⟩, 41), (⟨"SheepChessModel", "wolf", "()V"⟩, 41), (⟨"SheepChessModel", "isNearBog", "(I)Z"⟩, 41)]
theorem lw_r4 : ∀ q ∈ lw_privs_4, lw_okq q := List.forall_mem_cons.mpr ⟨lw_p48, List.forall_mem_cons.mpr ⟨lw_p49, List.forall_mem_cons.mpr ⟨lw_p50, List.forall_mem_cons.mpr ⟨lw_p51, List.forall_mem_cons.mpr ⟨lw_p52, List.forall_mem_cons.mpr ⟨lw_p53, List.forall_mem_cons.mpr ⟨lw_p54, List.forall_mem_cons.mpr ⟨lw_p55, List.forall_mem_cons.mpr ⟨lw_p56, List.forall_mem_cons.mpr ⟨lw_p57, List.forall_mem_cons.mpr ⟨lw_p58, List.forall_mem_cons.mpr ⟨lw_p59, List.forall_mem_cons.mpr ⟨lw_p60, List.forall_mem_cons.mpr ⟨lw_p61, List.forall_mem_cons.mpr ⟨lw_p62, fun _ h => absurd h List.not_mem_nil⟩⟩⟩⟩⟩⟩⟩⟩⟩⟩⟩⟩⟩⟩⟩
def lw_privs : List (MethodName × Nat) := lw_privs_1 ++ (lw_privs_2 ++ (lw_privs_3 ++ (lw_privs_4)))
def lw_tbl : List Cond := k2_sels lw_privs ++ tables_1
theorem lw_privs_ok : ∀ q ∈ lw_privs, lw_okq q := by
  show ∀ q ∈ lw_privs_1 ++ (lw_privs_2 ++ (lw_privs_3 ++ (lw_privs_4))), lw_okq q
  exact List.forall_mem_append.mpr ⟨lw_r1, List.forall_mem_append.mpr ⟨lw_r2, List.forall_mem_append.mpr ⟨lw_r3, lw_r4⟩⟩⟩
-- ===== names =====
def RX0 : String := "SheepChess$Ahead"
def TX0 : u_T := fun k => match k with
  | 0 => ("SheepChess$Ahead", "land", "LSheepChess$Land;", true)
  | 1 => ("SheepChess$Ahead", "levels", "LSheepChess$Pile;", true)
  | 2 => ("SheepChess$Ahead", "path", "[I", true)
  | 3 => ("SheepChess$Ahead", "ownDays", "I", false)
  | _ => ("SheepChess$Ahead", "best", "I", false)
def tyX0 : Nat → FieldType := fun k => match k with
  | 0 => .object "SheepChess$Land"
  | 1 => .object "SheepChess$Pile"
  | 2 => .array .int
  | 3 => .int
  | _ => .int
abbrev wsX00 : List Cond := u_ws RX0 TX0 5
theorem nmX0 : ∀ a, a < 5 → ∀ b, b < 5 → a ≠ b → (TX0 a).2.1 ≠ (TX0 b).2.1 := by decide +kernel
theorem tyX0_ok : ∀ k, k < 5 → parseFieldDescriptor (TX0 k).2.2.1 = some (tyX0 k) := by decide +kernel
abbrev cX0_init : ByteArray := prog_2_method_1_code
def yX0_init : MethodName := ⟨RX0, "<init>", "(LSheepChess$Land;)V"⟩
abbrev cX0_pass : ByteArray := prog_2_method_2_code
def yX0_pass : MethodName := ⟨RX0, "pass", "(III)LSheepChess$Meadow;"⟩
abbrev cX0_daysToWell : ByteArray := prog_2_method_3_code
def yX0_daysToWell : MethodName := ⟨RX0, "daysToWell", "(LSheepChess$Meadow;I)I"⟩
abbrev cX0_comesToWell : ByteArray := prog_2_method_4_code
def yX0_comesToWell : MethodName := ⟨RX0, "comesToWell", "(IIII)Z"⟩
abbrev cX0_note : ByteArray := prog_2_method_5_code
def yX0_note : MethodName := ⟨RX0, "note", "(II)V"⟩
abbrev cX0_onOwnDay : ByteArray := prog_2_method_6_code
def yX0_onOwnDay : MethodName := ⟨RX0, "onOwnDay", "(I)I"⟩
abbrev cX0_worthBehind : ByteArray := prog_2_method_7_code
def yX0_worthBehind : MethodName := ⟨RX0, "worthBehind", "(LSheepChess$Meadow;I)I"⟩
abbrev cX0_worthFrom : ByteArray := prog_2_method_8_code
def yX0_worthFrom : MethodName := ⟨RX0, "worthFrom", "(II)I"⟩
abbrev cX0_staying : ByteArray := prog_2_method_9_code
def yX0_staying : MethodName := ⟨RX0, "staying", "(LSheepChess$Meadow;III)J"⟩
abbrev cX0_stayingFrom : ByteArray := prog_2_method_10_code
def yX0_stayingFrom : MethodName := ⟨RX0, "stayingFrom", "(IIII)J"⟩
def RX1 : String := "SheepChess$Land"
def TX1 : u_T := fun k => match k with
  | 0 => ("SheepChess$Land", "squares", "I", false)
  | 1 => ("SheepChess$Land", "width", "I", false)
  | 2 => ("SheepChess$Land", "rows", "I", false)
  | 3 => ("SheepChess$Land", "beasts", "I", false)
  | 4 => ("SheepChess$Land", "well", "I", false)
  | 5 => ("SheepChess$Land", "bears", "I", false)
  | 6 => ("SheepChess$Land", "snows", "I", false)
  | 7 => ("SheepChess$Land", "village", "[I", true)
  | _ => ("SheepChess$Land", "snow", "[I", true)
def tyX1 : Nat → FieldType := fun k => match k with
  | 0 => .int
  | 1 => .int
  | 2 => .int
  | 3 => .int
  | 4 => .int
  | 5 => .int
  | 6 => .int
  | 7 => .array .int
  | _ => .array .int
abbrev wsX10 : List Cond := u_ws RX1 TX1 9
theorem nmX1 : ∀ a, a < 9 → ∀ b, b < 9 → a ≠ b → (TX1 a).2.1 ≠ (TX1 b).2.1 := by decide +kernel
theorem tyX1_ok : ∀ k, k < 9 → parseFieldDescriptor (TX1 k).2.2.1 = some (tyX1 k) := by decide +kernel
abbrev cX1_init : ByteArray := prog_3_method_1_code
def yX1_init : MethodName := ⟨RX1, "<init>", "()V"⟩
abbrev cX1_clear : ByteArray := prog_3_method_2_code
def yX1_clear : MethodName := ⟨RX1, "clear", "()V"⟩
abbrev cX1_copyFrom : ByteArray := prog_3_method_3_code
def yX1_copyFrom : MethodName := ⟨RX1, "copyFrom", "(LSheepChess$Land;)V"⟩
abbrev cX1_hasSquare : ByteArray := prog_3_method_4_code
def yX1_hasSquare : MethodName := ⟨RX1, "hasSquare", "(I)Z"⟩
abbrev cX1_hasBeast : ByteArray := prog_3_method_5_code
def yX1_hasBeast : MethodName := ⟨RX1, "hasBeast", "(I)Z"⟩
abbrev cX1_villageOf : ByteArray := prog_3_method_6_code
def yX1_villageOf : MethodName := ⟨RX1, "villageOf", "(I)I"⟩
abbrev cX1_snowsOn : ByteArray := prog_3_method_7_code
def yX1_snowsOn : MethodName := ⟨RX1, "snowsOn", "(I)Z"⟩
abbrev cX1_beside : ByteArray := prog_3_method_8_code
def yX1_beside : MethodName := ⟨RX1, "beside", "(II)I"⟩
abbrev cX1_turnsPawn : ByteArray := prog_3_method_9_code
def yX1_turnsPawn : MethodName := ⟨RX1, "turnsPawn", "(II)Z"⟩
def RX2 : String := "SheepChess$Meadow"
def TX2 : u_T := fun k => match k with
  | 0 => ("SheepChess$Meadow", "land", "LSheepChess$Land;", true)
  | 1 => ("SheepChess$Meadow", "grass", "[I", true)
  | 2 => ("SheepChess$Meadow", "place", "[I", true)
  | 3 => ("SheepChess$Meadow", "kind", "[I", true)
  | 4 => ("SheepChess$Meadow", "hunger", "[I", true)
  | _ => ("SheepChess$Meadow", "day", "I", false)
def tyX2 : Nat → FieldType := fun k => match k with
  | 0 => .object "SheepChess$Land"
  | 1 => .array .int
  | 2 => .array .int
  | 3 => .array .int
  | 4 => .array .int
  | _ => .int
abbrev wsX20 : List Cond := u_ws RX2 TX2 6
theorem nmX2 : ∀ a, a < 6 → ∀ b, b < 6 → a ≠ b → (TX2 a).2.1 ≠ (TX2 b).2.1 := by decide +kernel
theorem tyX2_ok : ∀ k, k < 6 → parseFieldDescriptor (TX2 k).2.2.1 = some (tyX2 k) := by decide +kernel
abbrev cX2_init : ByteArray := prog_4_method_1_code
def yX2_init : MethodName := ⟨RX2, "<init>", "(LSheepChess$Land;)V"⟩
abbrev cX2_copyFrom : ByteArray := prog_4_method_2_code
def yX2_copyFrom : MethodName := ⟨RX2, "copyFrom", "(LSheepChess$Meadow;)V"⟩
abbrev cX2_grassOn : ByteArray := prog_4_method_3_code
def yX2_grassOn : MethodName := ⟨RX2, "grassOn", "(I)I"⟩
abbrev cX2_kindOf : ByteArray := prog_4_method_4_code
def yX2_kindOf : MethodName := ⟨RX2, "kindOf", "(I)I"⟩
abbrev cX2_placeOf : ByteArray := prog_4_method_5_code
def yX2_placeOf : MethodName := ⟨RX2, "placeOf", "(I)I"⟩
abbrev cX2_hungerOf : ByteArray := prog_4_method_6_code
def yX2_hungerOf : MethodName := ⟨RX2, "hungerOf", "(I)I"⟩
abbrev cX2_isOff : ByteArray := prog_4_method_7_code
def yX2_isOff : MethodName := ⟨RX2, "isOff", "(I)Z"⟩
abbrev cX2_turn : ByteArray := prog_4_method_8_code
def yX2_turn : MethodName := ⟨RX2, "turn", "()I"⟩
abbrev cX2_snowing : ByteArray := prog_4_method_9_code
def yX2_snowing : MethodName := ⟨RX2, "snowing", "()Z"⟩
abbrev cX2_occupant : ByteArray := prog_4_method_10_code
def yX2_occupant : MethodName := ⟨RX2, "occupant", "(I)I"⟩
abbrev cX2_put : ByteArray := prog_4_method_11_code
def yX2_put : MethodName := ⟨RX2, "put", "(III)V"⟩
abbrev cX2_reach : ByteArray := prog_4_method_12_code
def yX2_reach : MethodName := ⟨RX2, "reach", "(IIZ)I"⟩
abbrev cX2_isOpen : ByteArray := prog_4_method_13_code
def yX2_isOpen : MethodName := ⟨RX2, "isOpen", "(IIZ)Z"⟩
abbrev cX2_ramBeside : ByteArray := prog_4_method_14_code
def yX2_ramBeside : MethodName := ⟨RX2, "ramBeside", "(II)Z"⟩
abbrev cX2_driven : ByteArray := prog_4_method_15_code
def yX2_driven : MethodName := ⟨RX2, "driven", "(II)I"⟩
abbrev cX2_move : ByteArray := prog_4_method_16_code
def yX2_move : MethodName := ⟨RX2, "move", "(II)V"⟩
abbrev cX2_live : ByteArray := prog_4_method_17_code
def yX2_live : MethodName := ⟨RX2, "live", "(I)V"⟩
abbrev cX2_passDay : ByteArray := prog_4_method_18_code
def yX2_passDay : MethodName := ⟨RX2, "passDay", "()V"⟩
abbrev cX2_graze : ByteArray := prog_4_method_19_code
def yX2_graze : MethodName := ⟨RX2, "graze", "()V"⟩
abbrev cX2_beginNextDay : ByteArray := prog_4_method_20_code
def yX2_beginNextDay : MethodName := ⟨RX2, "beginNextDay", "()V"⟩
abbrev cX2_wolfComes : ByteArray := prog_4_method_21_code
def yX2_wolfComes : MethodName := ⟨RX2, "wolfComes", "()V"⟩
abbrev cX2_bogBeside : ByteArray := prog_4_method_22_code
def yX2_bogBeside : MethodName := ⟨RX2, "bogBeside", "(I)Z"⟩
abbrev cX2_lost : ByteArray := prog_4_method_23_code
def yX2_lost : MethodName := ⟨RX2, "lost", "()I"⟩
abbrev cX2_worth : ByteArray := prog_4_method_24_code
def yX2_worth : MethodName := ⟨RX2, "worth", "()I"⟩
abbrev cX2_staying : ByteArray := prog_4_method_25_code
def yX2_staying : MethodName := ⟨RX2, "staying", "(I)I"⟩
abbrev cX2_allGrass : ByteArray := prog_4_method_26_code
def yX2_allGrass : MethodName := ⟨RX2, "allGrass", "()I"⟩
abbrev cX2_ramOnWell : ByteArray := prog_4_method_27_code
def yX2_ramOnWell : MethodName := ⟨RX2, "ramOnWell", "(I)Z"⟩
def RX3 : String := "SheepChess$Past"
def TX3 : u_T := fun k => match k with
  | 0 => ("SheepChess$Past", "land", "LSheepChess$Land;", true)
  | 1 => ("SheepChess$Past", "stood", "LSheepChess$Pile;", true)
  | 2 => ("SheepChess$Past", "told", "[I", true)
  | 3 => ("SheepChess$Past", "days", "I", false)
  | _ => ("SheepChess$Past", "oldest", "I", false)
def tyX3 : Nat → FieldType := fun k => match k with
  | 0 => .object "SheepChess$Land"
  | 1 => .object "SheepChess$Pile"
  | 2 => .array .int
  | 3 => .int
  | _ => .int
abbrev wsX30 : List Cond := u_ws RX3 TX3 5
theorem nmX3 : ∀ a, a < 5 → ∀ b, b < 5 → a ≠ b → (TX3 a).2.1 ≠ (TX3 b).2.1 := by decide +kernel
theorem tyX3_ok : ∀ k, k < 5 → parseFieldDescriptor (TX3 k).2.2.1 = some (tyX3 k) := by decide +kernel
abbrev cX3_init : ByteArray := prog_5_method_1_code
def yX3_init : MethodName := ⟨RX3, "<init>", "(LSheepChess$Land;)V"⟩
abbrev cX3_slot : ByteArray := prog_5_method_2_code
def yX3_slot : MethodName := ⟨RX3, "slot", "(I)I"⟩
abbrev cX3_before : ByteArray := prog_5_method_3_code
def yX3_before : MethodName := ⟨RX3, "before", "(I)LSheepChess$Meadow;"⟩
abbrev cX3_add : ByteArray := prog_5_method_4_code
def yX3_add : MethodName := ⟨RX3, "add", "(LSheepChess$Meadow;I)V"⟩
abbrev cX3_otherwiseIs : ByteArray := prog_5_method_5_code
def yX3_otherwiseIs : MethodName := ⟨RX3, "otherwiseIs", "(IILSheepChess$Meadow;)Z"⟩
def RX4 : String := "SheepChess$Pile"
def TX4 : u_T := fun k => match k with
  | 0 => ("SheepChess$Pile", "lowest", "LSheepChess$Meadow;", true)
  | _ => ("SheepChess$Pile", "meadows", "[LSheepChess$Meadow;", true)
def tyX4 : Nat → FieldType := fun k => match k with
  | 0 => .object "SheepChess$Meadow"
  | _ => .array (.object "SheepChess$Meadow")
abbrev wsX40 : List Cond := u_ws RX4 TX4 2
theorem nmX4 : ∀ a, a < 2 → ∀ b, b < 2 → a ≠ b → (TX4 a).2.1 ≠ (TX4 b).2.1 := by decide +kernel
theorem tyX4_ok : ∀ k, k < 2 → parseFieldDescriptor (TX4 k).2.2.1 = some (tyX4 k) := by decide +kernel
abbrev cX4_init : ByteArray := prog_6_method_1_code
def yX4_init : MethodName := ⟨RX4, "<init>", "(LSheepChess$Land;I)V"⟩
abbrev cX4_get : ByteArray := prog_6_method_2_code
def yX4_get : MethodName := ⟨RX4, "get", "(I)LSheepChess$Meadow;"⟩
def RX5 : String := "SheepChess$Sheet"
def TX5 : u_T := fun k => match k with
  | 0 => ("SheepChess$Sheet", "letters", "[I", true)
  | 1 => ("SheepChess$Sheet", "land", "LSheepChess$Land;", true)
  | 2 => ("SheepChess$Sheet", "meadow", "LSheepChess$Meadow;", true)
  | 3 => ("SheepChess$Sheet", "length", "I", false)
  | _ => ("SheepChess$Sheet", "head", "I", false)
def tyX5 : Nat → FieldType := fun k => match k with
  | 0 => .array .int
  | 1 => .object "SheepChess$Land"
  | 2 => .object "SheepChess$Meadow"
  | 3 => .int
  | _ => .int
abbrev wsX50 : List Cond := u_ws RX5 TX5 5
theorem nmX5 : ∀ a, a < 5 → ∀ b, b < 5 → a ≠ b → (TX5 a).2.1 ≠ (TX5 b).2.1 := by decide +kernel
theorem tyX5_ok : ∀ k, k < 5 → parseFieldDescriptor (TX5 k).2.2.1 = some (tyX5 k) := by decide +kernel
abbrev cX5_init : ByteArray := prog_7_method_1_code
def yX5_init : MethodName := ⟨RX5, "<init>", "()V"⟩
abbrev cX5_add : ByteArray := prog_7_method_2_code
def yX5_add : MethodName := ⟨RX5, "add", "(I)Z"⟩
abbrev cX5_firstFault : ByteArray := prog_7_method_3_code
def yX5_firstFault : MethodName := ⟨RX5, "firstFault", "()I"⟩
abbrev cX5_readItem : ByteArray := prog_7_method_4_code
def yX5_readItem : MethodName := ⟨RX5, "readItem", "()Z"⟩
abbrev cX5_letterAtHead : ByteArray := prog_7_method_5_code
def yX5_letterAtHead : MethodName := ⟨RX5, "letterAtHead", "()I"⟩
abbrev cX5_passes : ByteArray := prog_7_method_6_code
def yX5_passes : MethodName := ⟨RX5, "passes", "(I)Z"⟩
abbrev cX5_readFigure : ByteArray := prog_7_method_7_code
def yX5_readFigure : MethodName := ⟨RX5, "readFigure", "()I"⟩
abbrev cX5_readNumber : ByteArray := prog_7_method_8_code
def yX5_readNumber : MethodName := ⟨RX5, "readNumber", "()I"⟩
abbrev cX5_readRow : ByteArray := prog_7_method_9_code
def yX5_readRow : MethodName := ⟨RX5, "readRow", "()Z"⟩
abbrev cX5_readBeast : ByteArray := prog_7_method_10_code
def yX5_readBeast : MethodName := ⟨RX5, "readBeast", "()Z"⟩
abbrev cX5_readWell : ByteArray := prog_7_method_11_code
def yX5_readWell : MethodName := ⟨RX5, "readWell", "()Z"⟩
abbrev cX5_readHunger : ByteArray := prog_7_method_12_code
def yX5_readHunger : MethodName := ⟨RX5, "readHunger", "()Z"⟩
abbrev cX5_readSnow : ByteArray := prog_7_method_13_code
def yX5_readSnow : MethodName := ⟨RX5, "readSnow", "()Z"⟩
def RX6 : String := "SheepChess$Walk"
def TX6 : u_T := fun k => match k with
  | 0 => ("SheepChess$Walk", "meadow", "LSheepChess$Meadow;", true)
  | 1 => ("SheepChess$Walk", "place", "[I", true)
  | 2 => ("SheepChess$Walk", "kind", "[I", true)
  | 3 => ("SheepChess$Walk", "drives", "[I", true)
  | 4 => ("SheepChess$Walk", "before", "[I", true)
  | 5 => ("SheepChess$Walk", "by", "[I", true)
  | 6 => ("SheepChess$Walk", "seen", "[Z", true)
  | _ => ("SheepChess$Walk", "stands", "I", false)
def tyX6 : Nat → FieldType := fun k => match k with
  | 0 => .object "SheepChess$Meadow"
  | 1 => .array .int
  | 2 => .array .int
  | 3 => .array .int
  | 4 => .array .int
  | 5 => .array .int
  | 6 => .array .boolean
  | _ => .int
abbrev wsX60 : List Cond := u_ws RX6 TX6 8
theorem nmX6 : ∀ a, a < 8 → ∀ b, b < 8 → a ≠ b → (TX6 a).2.1 ≠ (TX6 b).2.1 := by decide +kernel
theorem tyX6_ok : ∀ k, k < 8 → parseFieldDescriptor (TX6 k).2.2.1 = some (tyX6 k) := by decide +kernel
abbrev cX6_init : ByteArray := prog_8_method_1_code
def yX6_init : MethodName := ⟨RX6, "<init>", "(LSheepChess$Land;)V"⟩
abbrev cX6_from : ByteArray := prog_8_method_2_code
def yX6_from : MethodName := ⟨RX6, "from", "(LSheepChess$Meadow;I)V"⟩
abbrev cX6_add : ByteArray := prog_8_method_3_code
def yX6_add : MethodName := ⟨RX6, "add", "(IIII)V"⟩
abbrev cX6_first : ByteArray := prog_8_method_4_code
def yX6_first : MethodName := ⟨RX6, "first", "(I)I"⟩
abbrev cX6_drivesTo : ByteArray := prog_8_method_5_code
def yX6_drivesTo : MethodName := ⟨RX6, "drivesTo", "(I)I"⟩
abbrev cX6_wayTo : ByteArray := prog_8_method_6_code
def yX6_wayTo : MethodName := ⟨RX6, "wayTo", "(II)I"⟩
abbrev cX6_squaresWithin : ByteArray := prog_8_method_7_code
def yX6_squaresWithin : MethodName := ⟨RX6, "squaresWithin", "(I)I"⟩
def RX7 : String := "SheepChess"
def TX7 : u_T := fun k => match k with
  | 0 => ("SheepChess", "land", "LSheepChess$Land;", true)
  | 1 => ("SheepChess", "sheet", "LSheepChess$Sheet;", true)
  | 2 => ("SheepChess", "now", "LSheepChess$Meadow;", true)
  | 3 => ("SheepChess", "spare", "LSheepChess$Meadow;", true)
  | 4 => ("SheepChess", "past", "LSheepChess$Past;", true)
  | 5 => ("SheepChess", "kept", "LSheepChess$Pile;", true)
  | 6 => ("SheepChess", "walk", "LSheepChess$Walk;", true)
  | 7 => ("SheepChess", "ahead", "LSheepChess$Ahead;", true)
  | _ => ("SheepChess", "keptNow", "I", false)
def tyX7 : Nat → FieldType := fun k => match k with
  | 0 => .object "SheepChess$Land"
  | 1 => .object "SheepChess$Sheet"
  | 2 => .object "SheepChess$Meadow"
  | 3 => .object "SheepChess$Meadow"
  | 4 => .object "SheepChess$Past"
  | 5 => .object "SheepChess$Pile"
  | 6 => .object "SheepChess$Walk"
  | 7 => .object "SheepChess$Ahead"
  | _ => .int
abbrev wsX70 : List Cond := u_ws RX7 TX7 9
theorem nmX7 : ∀ a, a < 9 → ∀ b, b < 9 → a ≠ b → (TX7 a).2.1 ≠ (TX7 b).2.1 := by decide +kernel
theorem tyX7_ok : ∀ k, k < 9 → parseFieldDescriptor (TX7 k).2.2.1 = some (tyX7 k) := by decide +kernel
abbrev cX7_init : ByteArray := prog_1_method_1_code
def yX7_init : MethodName := ⟨RX7, "<init>", "()V"⟩
abbrev cX7_write : ByteArray := prog_1_method_2_code
def yX7_write : MethodName := ⟨RX7, "write", "(I)I"⟩
abbrev cX7_wipe : ByteArray := prog_1_method_3_code
def yX7_wipe : MethodName := ⟨RX7, "wipe", "()I"⟩
abbrev cX7_fault : ByteArray := prog_1_method_4_code
def yX7_fault : MethodName := ⟨RX7, "fault", "()I"⟩
abbrev cX7_lay : ByteArray := prog_1_method_5_code
def yX7_lay : MethodName := ⟨RX7, "lay", "()I"⟩
abbrev cX7_square : ByteArray := prog_1_method_6_code
def yX7_square : MethodName := ⟨RX7, "square", "(II)I"⟩
abbrev cX7_beast : ByteArray := prog_1_method_7_code
def yX7_beast : MethodName := ⟨RX7, "beast", "(II)I"⟩
abbrev cX7_goes : ByteArray := prog_1_method_8_code
def yX7_goes : MethodName := ⟨RX7, "goes", "(II)I"⟩
abbrev cX7_takes : ByteArray := prog_1_method_9_code
def yX7_takes : MethodName := ⟨RX7, "takes", "(II)I"⟩
abbrev cX7_drive : ByteArray := prog_1_method_10_code
def yX7_drive : MethodName := ⟨RX7, "drive", "(II)I"⟩
abbrev cX7_rest : ByteArray := prog_1_method_11_code
def yX7_rest : MethodName := ⟨RX7, "rest", "()I"⟩
abbrev cX7_undo : ByteArray := prog_1_method_12_code
def yX7_undo : MethodName := ⟨RX7, "undo", "()I"⟩
abbrev cX7_fewest : ByteArray := prog_1_method_13_code
def yX7_fewest : MethodName := ⟨RX7, "fewest", "(III)I"⟩
abbrev cX7_stray : ByteArray := prog_1_method_14_code
def yX7_stray : MethodName := ⟨RX7, "stray", "(II)I"⟩
abbrev cX7_summer : ByteArray := prog_1_method_15_code
def yX7_summer : MethodName := ⟨RX7, "summer", "(II)I"⟩
abbrev cX7_game : ByteArray := prog_1_method_16_code
def yX7_game : MethodName := ⟨RX7, "game", "(II)I"⟩
abbrev cX7_again : ByteArray := prog_1_method_17_code
def yX7_again : MethodName := ⟨RX7, "again", "(I)I"⟩
abbrev cX7_starves : ByteArray := prog_1_method_18_code
def yX7_starves : MethodName := ⟨RX7, "starves", "(I)I"⟩
abbrev cX7_otherwise : ByteArray := prog_1_method_19_code
def yX7_otherwise : MethodName := ⟨RX7, "otherwise", "(III)I"⟩
abbrev cX7_wolves : ByteArray := prog_1_method_20_code
def yX7_wolves : MethodName := ⟨RX7, "wolves", "(IIII)I"⟩
abbrev cX7_season : ByteArray := prog_1_method_21_code
def yX7_season : MethodName := ⟨RX7, "season", "(III)I"⟩
abbrev cX7_keep : ByteArray := prog_1_method_22_code
def yX7_keep : MethodName := ⟨RX7, "keep", "()I"⟩
abbrev cX7_back : ByteArray := prog_1_method_23_code
def yX7_back : MethodName := ⟨RX7, "back", "()I"⟩
abbrev cX7_count : ByteArray := prog_1_method_24_code
def yX7_count : MethodName := ⟨RX7, "count", "(I)I"⟩
abbrev cX7_begin : ByteArray := prog_1_method_25_code
def yX7_begin : MethodName := ⟨RX7, "begin", "()Z"⟩
abbrev cX7_isWay : ByteArray := prog_1_method_26_code
def yX7_isWay : MethodName := ⟨RX7, "isWay", "(I)Z"⟩
abbrev cX7_isVillage : ByteArray := prog_1_method_27_code
def yX7_isVillage : MethodName := ⟨RX7, "isVillage", "(I)Z"⟩
abbrev cX7_draw : ByteArray := prog_1_method_28_code
def yX7_draw : MethodName := ⟨RX7, "draw", "(II)I"⟩
abbrev cX7_commonPart : ByteArray := prog_1_method_29_code
def yX7_commonPart : MethodName := ⟨RX7, "commonPart", "(JJ)J"⟩
def RX8 : String := "SheepChessModel"
def TX8 : u_T := fun k => match k with
  | 0 => ("SheepChessModel", "squares", "I", false)
  | 1 => ("SheepChessModel", "wide", "I", false)
  | 2 => ("SheepChessModel", "meadow", "[I", true)
  | 3 => ("SheepChessModel", "beasts", "I", false)
  | 4 => ("SheepChessModel", "kinds", "[I", true)
  | 5 => ("SheepChessModel", "villages", "[I", true)
  | 6 => ("SheepChessModel", "well", "I", false)
  | 7 => ("SheepChessModel", "bears", "I", false)
  | 8 => ("SheepChessModel", "snows", "I", false)
  | 9 => ("SheepChessModel", "snow", "[I", true)
  | 10 => ("SheepChessModel", "st", "[I", true)
  | 11 => ("SheepChessModel", "acts", "I", false)
  | 12 => ("SheepChessModel", "was", "[I", true)
  | 13 => ("SheepChessModel", "drives", "[I", true)
  | 14 => ("SheepChessModel", "keeps", "I", false)
  | 15 => ("SheepChessModel", "kept", "[I", true)
  | 16 => ("SheepChessModel", "text", "[I", true)
  | 17 => ("SheepChessModel", "texted", "I", false)
  | 18 => ("SheepChessModel", "at", "I", false)
  | 19 => ("SheepChessModel", "told", "[I", true)
  | 20 => ("SheepChessModel", "readSquares", "I", false)
  | 21 => ("SheepChessModel", "readWide", "I", false)
  | 22 => ("SheepChessModel", "readMeadow", "[I", true)
  | 23 => ("SheepChessModel", "readBeasts", "I", false)
  | 24 => ("SheepChessModel", "readKind", "[I", true)
  | 25 => ("SheepChessModel", "readVillage", "[I", true)
  | 26 => ("SheepChessModel", "readAt", "[I", true)
  | 27 => ("SheepChessModel", "readWell", "I", false)
  | 28 => ("SheepChessModel", "readBears", "I", false)
  | 29 => ("SheepChessModel", "readSnows", "I", false)
  | 30 => ("SheepChessModel", "readSnow", "[I", true)
  | 31 => ("SheepChessModel", "now", "[I", true)
  | 32 => ("SheepChessModel", "taken", "I", false)
  | 33 => ("SheepChessModel", "wave", "[I", true)
  | 34 => ("SheepChessModel", "far", "[I", true)
  | 35 => ("SheepChessModel", "from", "[I", true)
  | 36 => ("SheepChessModel", "by", "[I", true)
  | 37 => ("SheepChessModel", "waved", "I", false)
  | 38 => ("SheepChessModel", "deep", "[I", true)
  | 39 => ("SheepChessModel", "tried", "[I", true)
  | _ => ("SheepChessModel", "best", "[I", true)
def tyX8 : Nat → FieldType := fun k => match k with
  | 0 => .int
  | 1 => .int
  | 2 => .array .int
  | 3 => .int
  | 4 => .array .int
  | 5 => .array .int
  | 6 => .int
  | 7 => .int
  | 8 => .int
  | 9 => .array .int
  | 10 => .array .int
  | 11 => .int
  | 12 => .array .int
  | 13 => .array .int
  | 14 => .int
  | 15 => .array .int
  | 16 => .array .int
  | 17 => .int
  | 18 => .int
  | 19 => .array .int
  | 20 => .int
  | 21 => .int
  | 22 => .array .int
  | 23 => .int
  | 24 => .array .int
  | 25 => .array .int
  | 26 => .array .int
  | 27 => .int
  | 28 => .int
  | 29 => .int
  | 30 => .array .int
  | 31 => .array .int
  | 32 => .int
  | 33 => .array .int
  | 34 => .array .int
  | 35 => .array .int
  | 36 => .array .int
  | 37 => .int
  | 38 => .array .int
  | 39 => .array .int
  | _ => .array .int
abbrev wsX80 : List Cond := u_ws RX8 TX8 41
theorem nmX8 : ∀ a, a < 41 → ∀ b, b < 41 → a ≠ b → (TX8 a).2.1 ≠ (TX8 b).2.1 := by decide +kernel
theorem tyX8_ok : ∀ k, k < 41 → parseFieldDescriptor (TX8 k).2.2.1 = some (tyX8 k) := by decide +kernel
abbrev cX8_init : ByteArray := prog_10_method_1_code
def yX8_init : MethodName := ⟨RX8, "<init>", "()V"⟩
abbrev cX8_tellsRow : ByteArray := prog_10_method_3_code
def yX8_tellsRow : MethodName := ⟨RX8, "tellsRow", "(I)V"⟩
abbrev cX8_tellsBeast : ByteArray := prog_10_method_4_code
def yX8_tellsBeast : MethodName := ⟨RX8, "tellsBeast", "(III)V"⟩
abbrev cX8_in : ByteArray := prog_10_method_5_code
def yX8_in : MethodName := ⟨RX8, "in", "(III)Z"⟩
abbrev cX8_has : ByteArray := prog_10_method_6_code
def yX8_has : MethodName := ⟨RX8, "has", "(II)Z"⟩
abbrev cX8_isBeast : ByteArray := prog_10_method_7_code
def yX8_isBeast : MethodName := ⟨RX8, "isBeast", "(I)Z"⟩
abbrev cX8_isSquare : ByteArray := prog_10_method_8_code
def yX8_isSquare : MethodName := ⟨RX8, "isSquare", "(I)Z"⟩
abbrev cX8_write : ByteArray := prog_10_method_9_code
def yX8_write : MethodName := ⟨RX8, "write", "(I)I"⟩
abbrev cX8_wipe : ByteArray := prog_10_method_10_code
def yX8_wipe : MethodName := ⟨RX8, "wipe", "()I"⟩
abbrev cX8_letterAt : ByteArray := prog_10_method_11_code
def yX8_letterAt : MethodName := ⟨RX8, "letterAt", "(I)I"⟩
abbrev cX8_isFigure : ByteArray := prog_10_method_12_code
def yX8_isFigure : MethodName := ⟨RX8, "isFigure", "(I)Z"⟩
abbrev cX8_readNumbers : ByteArray := prog_10_method_13_code
def yX8_readNumbers : MethodName := ⟨RX8, "readNumbers", "(I)Z"⟩
abbrev cX8_isTold : ByteArray := prog_10_method_14_code
def yX8_isTold : MethodName := ⟨RX8, "isTold", "(III)Z"⟩
abbrev cX8_clearTold : ByteArray := prog_10_method_15_code
def yX8_clearTold : MethodName := ⟨RX8, "clearTold", "()V"⟩
abbrev cX8_readRow : ByteArray := prog_10_method_16_code
def yX8_readRow : MethodName := ⟨RX8, "readRow", "()Z"⟩
abbrev cX8_isDry : ByteArray := prog_10_method_17_code
def yX8_isDry : MethodName := ⟨RX8, "isDry", "(I)Z"⟩
abbrev cX8_readBeastItem : ByteArray := prog_10_method_18_code
def yX8_readBeastItem : MethodName := ⟨RX8, "readBeastItem", "()Z"⟩
abbrev cX8_readItem : ByteArray := prog_10_method_19_code
def yX8_readItem : MethodName := ⟨RX8, "readItem", "()Z"⟩
abbrev cX8_fault : ByteArray := prog_10_method_20_code
def yX8_fault : MethodName := ⟨RX8, "fault", "()I"⟩
abbrev cX8_lay : ByteArray := prog_10_method_21_code
def yX8_lay : MethodName := ⟨RX8, "lay", "()I"⟩
abbrev cX8_copies : ByteArray := prog_10_method_22_code
def yX8_copies : MethodName := ⟨RX8, "copies", "([II[III)V"⟩
abbrev cX8_settles : ByteArray := prog_10_method_23_code
def yX8_settles : MethodName := ⟨RX8, "settles", "()V"⟩
abbrev cX8_asItIs : ByteArray := prog_10_method_24_code
def yX8_asItIs : MethodName := ⟨RX8, "asItIs", "()V"⟩
abbrev cX8_kindOf : ByteArray := prog_10_method_25_code
def yX8_kindOf : MethodName := ⟨RX8, "kindOf", "(I)I"⟩
abbrev cX8_nextTo : ByteArray := prog_10_method_26_code
def yX8_nextTo : MethodName := ⟨RX8, "nextTo", "(II)I"⟩
abbrev cX8_onIt : ByteArray := prog_10_method_27_code
def yX8_onIt : MethodName := ⟨RX8, "onIt", "(I)I"⟩
abbrev cX8_isSnow : ByteArray := prog_10_method_28_code
def yX8_isSnow : MethodName := ⟨RX8, "isSnow", "()Z"⟩
abbrev cX8_isNearRam : ByteArray := prog_10_method_29_code
def yX8_isNearRam : MethodName := ⟨RX8, "isNearRam", "(II)Z"⟩
abbrev cX8_stepTo : ByteArray := prog_10_method_30_code
def yX8_stepTo : MethodName := ⟨RX8, "stepTo", "(IIIZ)I"⟩
abbrev cX8_comesTo : ByteArray := prog_10_method_31_code
def yX8_comesTo : MethodName := ⟨RX8, "comesTo", "(IIZ)I"⟩
abbrev cX8_stands : ByteArray := prog_10_method_32_code
def yX8_stands : MethodName := ⟨RX8, "stands", "(II)V"⟩
abbrev cX8_grazes : ByteArray := prog_10_method_33_code
def yX8_grazes : MethodName := ⟨RX8, "grazes", "()V"⟩
abbrev cX8_nextDay : ByteArray := prog_10_method_34_code
def yX8_nextDay : MethodName := ⟨RX8, "nextDay", "()V"⟩
abbrev cX8_goesBy : ByteArray := prog_10_method_35_code
def yX8_goesBy : MethodName := ⟨RX8, "goesBy", "(I)V"⟩
abbrev cX8_lost : ByteArray := prog_10_method_36_code
def yX8_lost : MethodName := ⟨RX8, "lost", "()I"⟩
abbrev cX8_canDrive : ByteArray := prog_10_method_37_code
def yX8_canDrive : MethodName := ⟨RX8, "canDrive", "(I)Z"⟩
abbrev cX8_worth : ByteArray := prog_10_method_38_code
def yX8_worth : MethodName := ⟨RX8, "worth", "()I"⟩
abbrev cX8_onMeadow : ByteArray := prog_10_method_39_code
def yX8_onMeadow : MethodName := ⟨RX8, "onMeadow", "(I)I"⟩
abbrev cX8_orNone : ByteArray := prog_10_method_40_code
def yX8_orNone : MethodName := ⟨RX8, "orNone", "(I)I"⟩
abbrev cX8_square : ByteArray := prog_10_method_41_code
def yX8_square : MethodName := ⟨RX8, "square", "(II)I"⟩
abbrev cX8_beast : ByteArray := prog_10_method_42_code
def yX8_beast : MethodName := ⟨RX8, "beast", "(II)I"⟩
abbrev cX8_looksAt : ByteArray := prog_10_method_43_code
def yX8_looksAt : MethodName := ⟨RX8, "looksAt", "(II)I"⟩
abbrev cX8_goes : ByteArray := prog_10_method_44_code
def yX8_goes : MethodName := ⟨RX8, "goes", "(II)I"⟩
abbrev cX8_takes : ByteArray := prog_10_method_45_code
def yX8_takes : MethodName := ⟨RX8, "takes", "(II)I"⟩
abbrev cX8_does : ByteArray := prog_10_method_46_code
def yX8_does : MethodName := ⟨RX8, "does", "(I)V"⟩
abbrev cX8_drive : ByteArray := prog_10_method_47_code
def yX8_drive : MethodName := ⟨RX8, "drive", "(II)I"⟩
abbrev cX8_rest : ByteArray := prog_10_method_48_code
def yX8_rest : MethodName := ⟨RX8, "rest", "()I"⟩
abbrev cX8_undo : ByteArray := prog_10_method_49_code
def yX8_undo : MethodName := ⟨RX8, "undo", "()I"⟩
abbrev cX8_reaches : ByteArray := prog_10_method_50_code
def yX8_reaches : MethodName := ⟨RX8, "reaches", "(III)V"⟩
abbrev cX8_nowOne : ByteArray := prog_10_method_51_code
def yX8_nowOne : MethodName := ⟨RX8, "nowOne", "(I)I"⟩
abbrev cX8_strays : ByteArray := prog_10_method_52_code
def yX8_strays : MethodName := ⟨RX8, "strays", "(II)V"⟩
abbrev cX8_fewest : ByteArray := prog_10_method_53_code
def yX8_fewest : MethodName := ⟨RX8, "fewest", "(III)I"⟩
abbrev cX8_stray : ByteArray := prog_10_method_54_code
def yX8_stray : MethodName := ⟨RX8, "stray", "(II)I"⟩
abbrev cX8_nextDrive : ByteArray := prog_10_method_55_code
def yX8_nextDrive : MethodName := ⟨RX8, "nextDrive", "(I)I"⟩
abbrev cX8_isWatered : ByteArray := prog_10_method_56_code
def yX8_isWatered : MethodName := ⟨RX8, "isWatered", "(I)Z"⟩
abbrev cX8_isSummer : ByteArray := prog_10_method_57_code
def yX8_isSummer : MethodName := ⟨RX8, "isSummer", "(II)Z"⟩
abbrev cX8_summer : ByteArray := prog_10_method_58_code
def yX8_summer : MethodName := ⟨RX8, "summer", "(II)I"⟩
abbrev cX8_plays : ByteArray := prog_10_method_59_code
def yX8_plays : MethodName := ⟨RX8, "plays", "(I)I"⟩
abbrev cX8_isFirstOf : ByteArray := prog_10_method_60_code
def yX8_isFirstOf : MethodName := ⟨RX8, "isFirstOf", "(I)Z"⟩
abbrev cX8_game : ByteArray := prog_10_method_61_code
def yX8_game : MethodName := ⟨RX8, "game", "(II)I"⟩
abbrev cX8_again : ByteArray := prog_10_method_62_code
def yX8_again : MethodName := ⟨RX8, "again", "(I)I"⟩
abbrev cX8_starves : ByteArray := prog_10_method_63_code
def yX8_starves : MethodName := ⟨RX8, "starves", "(I)I"⟩
abbrev cX8_isOtherwise : ByteArray := prog_10_method_64_code
def yX8_isOtherwise : MethodName := ⟨RX8, "isOtherwise", "(IIII)Z"⟩
abbrev cX8_otherwise : ByteArray := prog_10_method_65_code
def yX8_otherwise : MethodName := ⟨RX8, "otherwise", "(III)I"⟩
abbrev cX8_isNearBog : ByteArray := prog_10_method_66_code
def yX8_isNearBog : MethodName := ⟨RX8, "isNearBog", "(I)Z"⟩
abbrev cX8_wolf : ByteArray := prog_10_method_67_code
def yX8_wolf : MethodName := ⟨RX8, "wolf", "()V"⟩
abbrev cX8_lowest : ByteArray := prog_10_method_68_code
def yX8_lowest : MethodName := ⟨RX8, "lowest", "(III)I"⟩
abbrev cX8_wolves : ByteArray := prog_10_method_69_code
def yX8_wolves : MethodName := ⟨RX8, "wolves", "(IIII)I"⟩
abbrev cX8_season : ByteArray := prog_10_method_70_code
def yX8_season : MethodName := ⟨RX8, "season", "(III)I"⟩
abbrev cX8_keep : ByteArray := prog_10_method_71_code
def yX8_keep : MethodName := ⟨RX8, "keep", "()I"⟩
abbrev cX8_back : ByteArray := prog_10_method_72_code
def yX8_back : MethodName := ⟨RX8, "back", "()I"⟩
abbrev cX8_count : ByteArray := prog_10_method_73_code
def yX8_count : MethodName := ⟨RX8, "count", "(I)I"⟩
def RJ9 : String := "java/lang/Math"
def TJ9 : u_T := fun k => match k with
  | _ => ("", "", "", false)
def tyJ9 : Nat → FieldType := fun k => match k with
  | _ => .int
abbrev wsJ90 : List Cond := u_ws RJ9 TJ9 0
theorem nmJ9 : ∀ a, a < 0 → ∀ b, b < 0 → a ≠ b → (TJ9 a).2.1 ≠ (TJ9 b).2.1 := by decide +kernel
theorem tyJ9_ok : ∀ k, k < 0 → parseFieldDescriptor (TJ9 k).2.2.1 = some (tyJ9 k) := by decide +kernel
abbrev cJ9_floorMod_7cf53 : ByteArray := prog_11_method_50_code
def yJ9_floorMod_7cf53 : MethodName := ⟨RJ9, "floorMod", "(II)I"⟩
abbrev cJ9_abs_0f7a4 : ByteArray := prog_11_method_59_code
def yJ9_abs_0f7a4 : MethodName := ⟨RJ9, "abs", "(I)I"⟩
def RJ0 : String := "java/lang/String"
def TJ0 : u_T := fun k => match k with
  | _ => ("", "", "", false)
def tyJ0 : Nat → FieldType := fun k => match k with
  | _ => .int
abbrev wsJ00 : List Cond := u_ws RJ0 TJ0 0
theorem nmJ0 : ∀ a, a < 0 → ∀ b, b < 0 → a ≠ b → (TJ0 a).2.1 ≠ (TJ0 b).2.1 := by decide +kernel
theorem tyJ0_ok : ∀ k, k < 0 → parseFieldDescriptor (TJ0 k).2.2.1 = some (tyJ0 k) := by decide +kernel
abbrev cJ0_length_8abf5 : ByteArray := prog_12_method_54_code
def yJ0_length_8abf5 : MethodName := ⟨RJ0, "length", "()I"⟩
abbrev cJ0_charAt_5068e : ByteArray := prog_12_method_56_code
def yJ0_charAt_5068e : MethodName := ⟨RJ0, "charAt", "(I)C"⟩
abbrev cJ0_coder_7d493 : ByteArray := prog_12_method_152_code
def yJ0_coder_7d493 : MethodName := ⟨RJ0, "coder", "()B"⟩
abbrev cJ0_isLatin1_aae02 : ByteArray := prog_12_method_154_code
def yJ0_isLatin1_aae02 : MethodName := ⟨RJ0, "isLatin1", "()Z"⟩
abbrev cJ0_checkIndex_df160 : ByteArray := prog_12_method_155_code
def yJ0_checkIndex_df160 : MethodName := ⟨RJ0, "checkIndex", "(II)V"⟩
def RJ1 : String := "java/lang/StringLatin1"
def TJ1 : u_T := fun k => match k with
  | _ => ("", "", "", false)
def tyJ1 : Nat → FieldType := fun k => match k with
  | _ => .int
abbrev wsJ10 : List Cond := u_ws RJ1 TJ1 0
theorem nmJ1 : ∀ a, a < 0 → ∀ b, b < 0 → a ≠ b → (TJ1 a).2.1 ≠ (TJ1 b).2.1 := by decide +kernel
theorem tyJ1_ok : ∀ k, k < 0 → parseFieldDescriptor (TJ1 k).2.2.1 = some (tyJ1 k) := by decide +kernel
abbrev cJ1_charAt_3b067 : ByteArray := prog_13_method_2_code
def yJ1_charAt_3b067 : MethodName := ⟨RJ1, "charAt", "([BI)C"⟩
def RJ2 : String := "java/lang/StringUTF16"
def TJ2 : u_T := fun k => match k with
  | _ => ("", "", "", false)
def tyJ2 : Nat → FieldType := fun k => match k with
  | _ => .int
abbrev wsJ20 : List Cond := u_ws RJ2 TJ2 0
theorem nmJ2 : ∀ a, a < 0 → ∀ b, b < 0 → a ≠ b → (TJ2 a).2.1 ≠ (TJ2 b).2.1 := by decide +kernel
theorem tyJ2_ok : ∀ k, k < 0 → parseFieldDescriptor (TJ2 k).2.2.1 = some (tyJ2 k) := by decide +kernel
abbrev cJ2_getChar_3b067 : ByteArray := prog_14_method_5_code
def yJ2_getChar_3b067 : MethodName := ⟨RJ2, "getChar", "([BI)C"⟩
abbrev cJ2_length_9d52b : ByteArray := prog_14_method_6_code
def yJ2_length_9d52b : MethodName := ⟨RJ2, "length", "([B)I"⟩
abbrev cJ2_charAt_3b067 : ByteArray := prog_14_method_83_code
def yJ2_charAt_3b067 : MethodName := ⟨RJ2, "charAt", "([BI)C"⟩
abbrev cJ2_checkIndex_2214a : ByteArray := prog_14_method_91_code
def yJ2_checkIndex_2214a : MethodName := ⟨RJ2, "checkIndex", "(I[B)V"⟩
def RJ10 : String := "java/lang/System"
def TJ10 : u_T := fun k => match k with
  | _ => ("", "", "", false)
def tyJ10 : Nat → FieldType := fun k => match k with
  | _ => .int
abbrev wsJ100 : List Cond := u_ws RJ10 TJ10 0
theorem nmJ10 : ∀ a, a < 0 → ∀ b, b < 0 → a ≠ b → (TJ10 a).2.1 ≠ (TJ10 b).2.1 := by decide +kernel
theorem tyJ10_ok : ∀ k, k < 0 → parseFieldDescriptor (TJ10 k).2.2.1 = some (tyJ10 k) := by decide +kernel
def RJ3 : String := "jdk/internal/util/Preconditions"
def TJ3 : u_T := fun k => match k with
  | _ => ("", "", "", false)
def tyJ3 : Nat → FieldType := fun k => match k with
  | _ => .int
abbrev wsJ30 : List Cond := u_ws RJ3 TJ3 0
theorem nmJ3 : ∀ a, a < 0 → ∀ b, b < 0 → a ≠ b → (TJ3 a).2.1 ≠ (TJ3 b).2.1 := by decide +kernel
theorem tyJ3_ok : ∀ k, k < 0 → parseFieldDescriptor (TJ3 k).2.2.1 = some (tyJ3 k) := by decide +kernel
abbrev cJ3_checkIndex_8e157 : ByteArray := prog_16_method_11_code
def yJ3_checkIndex_8e157 : MethodName := ⟨RJ3, "checkIndex", "(IILjava/util/function/BiFunction;)I"⟩
def RL : String := "SheepChessLaw"
abbrev cL_law : ByteArray := code
def yL_law : MethodName := ⟨RL, "law", "([I)Z"⟩
end
section
theorem dX0_init_0 : decode cX0_init 0 = .ok (.aload_n 0, 1) := by decide +kernel
theorem dX0_init_1 : decode cX0_init 1 = .ok (.invokespecial 3, 3) := by decide +kernel
theorem dX0_init_4 : decode cX0_init 4 = .ok (.aload_n 0, 1) := by decide +kernel
theorem dX0_init_5 : decode cX0_init 5 = .ok (.iconst 5, 1) := by decide +kernel
theorem dX0_init_6 : decode cX0_init 6 = .ok (.newarray .int, 2) := by decide +kernel
theorem dX0_init_8 : decode cX0_init 8 = .ok (.putfield 9, 3) := by decide +kernel
theorem dX0_init_11 : decode cX0_init 11 = .ok (.aload_n 0, 1) := by decide +kernel
theorem dX0_init_12 : decode cX0_init 12 = .ok (.iconst 0, 1) := by decide +kernel
theorem dX0_init_13 : decode cX0_init 13 = .ok (.putfield 15, 3) := by decide +kernel
theorem dX0_init_16 : decode cX0_init 16 = .ok (.aload_n 0, 1) := by decide +kernel
theorem dX0_init_17 : decode cX0_init 17 = .ok (.bipush (-4), 2) := by decide +kernel
theorem dX0_init_19 : decode cX0_init 19 = .ok (.putfield 19, 3) := by decide +kernel
theorem dX0_init_22 : decode cX0_init 22 = .ok (.aload_n 0, 1) := by decide +kernel
theorem dX0_init_23 : decode cX0_init 23 = .ok (.aload_n 1, 1) := by decide +kernel
theorem dX0_init_24 : decode cX0_init 24 = .ok (.putfield 22, 3) := by decide +kernel
theorem dX0_init_27 : decode cX0_init 27 = .ok (.aload_n 0, 1) := by decide +kernel
theorem dX0_init_28 : decode cX0_init 28 = .ok (.new 26, 3) := by decide +kernel
theorem dX0_init_31 : decode cX0_init 31 = .ok (.dup, 1) := by decide +kernel
theorem dX0_init_32 : decode cX0_init 32 = .ok (.aload_n 1, 1) := by decide +kernel
theorem dX0_init_33 : decode cX0_init 33 = .ok (.bipush 9, 2) := by decide +kernel
theorem dX0_init_35 : decode cX0_init 35 = .ok (.invokespecial 28, 3) := by decide +kernel
theorem dX0_init_38 : decode cX0_init 38 = .ok (.putfield 31, 3) := by decide +kernel
theorem dX0_init_41 : decode cX0_init 41 = .ok (.return_, 1) := by decide +kernel
theorem dX0_pass_0 : decode cX0_pass 0 = .ok (.aload_n 0, 1) := by decide +kernel
theorem dX0_pass_1 : decode cX0_pass 1 = .ok (.getfield 31, 3) := by decide +kernel
theorem dX0_pass_4 : decode cX0_pass 4 = .ok (.iload_n 1, 1) := by decide +kernel
theorem dX0_pass_5 : decode cX0_pass 5 = .ok (.iconst 1, 1) := by decide +kernel
theorem dX0_pass_6 : decode cX0_pass 6 = .ok (.iadd, 1) := by decide +kernel
theorem dX0_pass_7 : decode cX0_pass 7 = .ok (.invokevirtual 35, 3) := by decide +kernel
theorem dX0_pass_10 : decode cX0_pass 10 = .ok (.astore 4, 2) := by decide +kernel
theorem dX0_pass_12 : decode cX0_pass 12 = .ok (.aload 4, 2) := by decide +kernel
theorem dX0_pass_14 : decode cX0_pass 14 = .ok (.aload_n 0, 1) := by decide +kernel
theorem dX0_pass_15 : decode cX0_pass 15 = .ok (.getfield 31, 3) := by decide +kernel
theorem dX0_pass_18 : decode cX0_pass 18 = .ok (.iload_n 1, 1) := by decide +kernel
theorem dX0_pass_19 : decode cX0_pass 19 = .ok (.invokevirtual 35, 3) := by decide +kernel
theorem dX0_pass_22 : decode cX0_pass 22 = .ok (.invokevirtual 39, 3) := by decide +kernel
theorem dX0_pass_25 : decode cX0_pass 25 = .ok (.iload_n 2, 1) := by decide +kernel
theorem dX0_pass_26 : decode cX0_pass 26 = .ok (.bipush (-4), 2) := by decide +kernel
theorem dX0_pass_28 : decode cX0_pass 28 = .ok (.if_icmp .eq 10, 3) := by decide +kernel
theorem dX0_pass_31 : decode cX0_pass 31 = .ok (.aload 4, 2) := by decide +kernel
theorem dX0_pass_33 : decode cX0_pass 33 = .ok (.iload_n 2, 1) := by decide +kernel
theorem dX0_pass_34 : decode cX0_pass 34 = .ok (.iload_n 3, 1) := by decide +kernel
theorem dX0_pass_35 : decode cX0_pass 35 = .ok (.invokevirtual 45, 3) := by decide +kernel
theorem dX0_pass_38 : decode cX0_pass 38 = .ok (.aload 4, 2) := by decide +kernel
theorem dX0_pass_40 : decode cX0_pass 40 = .ok (.invokevirtual 49, 3) := by decide +kernel
theorem dX0_pass_43 : decode cX0_pass 43 = .ok (.aload 4, 2) := by decide +kernel
theorem dX0_pass_45 : decode cX0_pass 45 = .ok (.areturn, 1) := by decide +kernel
theorem dX0_daysToWell_0 : decode cX0_daysToWell 0 = .ok (.aload_n 0, 1) := by decide +kernel
theorem dX0_daysToWell_1 : decode cX0_daysToWell 1 = .ok (.getfield 31, 3) := by decide +kernel
theorem dX0_daysToWell_4 : decode cX0_daysToWell 4 = .ok (.iconst 0, 1) := by decide +kernel
theorem dX0_daysToWell_5 : decode cX0_daysToWell 5 = .ok (.invokevirtual 35, 3) := by decide +kernel
theorem dX0_daysToWell_8 : decode cX0_daysToWell 8 = .ok (.aload_n 1, 1) := by decide +kernel
theorem dX0_daysToWell_9 : decode cX0_daysToWell 9 = .ok (.invokevirtual 39, 3) := by decide +kernel
theorem dX0_daysToWell_12 : decode cX0_daysToWell 12 = .ok (.iconst 0, 1) := by decide +kernel
theorem dX0_daysToWell_13 : decode cX0_daysToWell 13 = .ok (.istore_n 3, 1) := by decide +kernel
theorem dX0_daysToWell_14 : decode cX0_daysToWell 14 = .ok (.iload_n 3, 1) := by decide +kernel
theorem dX0_daysToWell_15 : decode cX0_daysToWell 15 = .ok (.iconst 5, 1) := by decide +kernel
theorem dX0_daysToWell_16 : decode cX0_daysToWell 16 = .ok (.if_icmp .gt 22, 3) := by decide +kernel
theorem dX0_daysToWell_19 : decode cX0_daysToWell 19 = .ok (.aload_n 0, 1) := by decide +kernel
theorem dX0_daysToWell_20 : decode cX0_daysToWell 20 = .ok (.iconst 0, 1) := by decide +kernel
theorem dX0_daysToWell_21 : decode cX0_daysToWell 21 = .ok (.iload_n 3, 1) := by decide +kernel
theorem dX0_daysToWell_22 : decode cX0_daysToWell 22 = .ok (.iload_n 2, 1) := by decide +kernel
theorem dX0_daysToWell_23 : decode cX0_daysToWell 23 = .ok (.iconst 0, 1) := by decide +kernel
theorem dX0_daysToWell_24 : decode cX0_daysToWell 24 = .ok (.invokevirtual 52, 3) := by decide +kernel
theorem dX0_daysToWell_27 : decode cX0_daysToWell 27 = .ok (.ifCond .eq 5, 3) := by decide +kernel
theorem dX0_daysToWell_30 : decode cX0_daysToWell 30 = .ok (.iload_n 3, 1) := by decide +kernel
theorem dX0_daysToWell_31 : decode cX0_daysToWell 31 = .ok (.ireturn, 1) := by decide +kernel
theorem dX0_daysToWell_32 : decode cX0_daysToWell 32 = .ok (.iinc 3 1, 3) := by decide +kernel
theorem dX0_daysToWell_35 : decode cX0_daysToWell 35 = .ok (.goto (-21), 3) := by decide +kernel
theorem dX0_daysToWell_38 : decode cX0_daysToWell 38 = .ok (.bipush (-4), 2) := by decide +kernel
theorem dX0_daysToWell_40 : decode cX0_daysToWell 40 = .ok (.ireturn, 1) := by decide +kernel
theorem dX0_comesToWell_0 : decode cX0_comesToWell 0 = .ok (.aload_n 0, 1) := by decide +kernel
theorem dX0_comesToWell_1 : decode cX0_comesToWell 1 = .ok (.getfield 31, 3) := by decide +kernel
theorem dX0_comesToWell_4 : decode cX0_comesToWell 4 = .ok (.iload_n 1, 1) := by decide +kernel
theorem dX0_comesToWell_5 : decode cX0_comesToWell 5 = .ok (.invokevirtual 35, 3) := by decide +kernel
theorem dX0_comesToWell_8 : decode cX0_comesToWell 8 = .ok (.astore 5, 2) := by decide +kernel
theorem dX0_comesToWell_10 : decode cX0_comesToWell 10 = .ok (.iload_n 1, 1) := by decide +kernel
theorem dX0_comesToWell_11 : decode cX0_comesToWell 11 = .ok (.iload_n 2, 1) := by decide +kernel
theorem dX0_comesToWell_12 : decode cX0_comesToWell 12 = .ok (.if_icmp .ge 8, 3) := by decide +kernel
theorem dX0_comesToWell_15 : decode cX0_comesToWell 15 = .ok (.iload_n 1, 1) := by decide +kernel
theorem dX0_comesToWell_16 : decode cX0_comesToWell 16 = .ok (.iconst 5, 1) := by decide +kernel
theorem dX0_comesToWell_17 : decode cX0_comesToWell 17 = .ok (.if_icmp .lt 16, 3) := by decide +kernel
theorem dX0_comesToWell_20 : decode cX0_comesToWell 20 = .ok (.aload_n 0, 1) := by decide +kernel
theorem dX0_comesToWell_21 : decode cX0_comesToWell 21 = .ok (.iload 4, 2) := by decide +kernel
theorem dX0_comesToWell_23 : decode cX0_comesToWell 23 = .ok (.putfield 15, 3) := by decide +kernel
theorem dX0_comesToWell_26 : decode cX0_comesToWell 26 = .ok (.aload 5, 2) := by decide +kernel
theorem dX0_comesToWell_28 : decode cX0_comesToWell 28 = .ok (.iload_n 3, 1) := by decide +kernel
theorem dX0_comesToWell_29 : decode cX0_comesToWell 29 = .ok (.invokevirtual 56, 3) := by decide +kernel
theorem dX0_comesToWell_32 : decode cX0_comesToWell 32 = .ok (.ireturn, 1) := by decide +kernel
theorem dX0_comesToWell_33 : decode cX0_comesToWell 33 = .ok (.aload 5, 2) := by decide +kernel
theorem dX0_comesToWell_35 : decode cX0_comesToWell 35 = .ok (.invokevirtual 60, 3) := by decide +kernel
theorem dX0_comesToWell_38 : decode cX0_comesToWell 38 = .ok (.ifCond .eq 5, 3) := by decide +kernel
theorem dX0_comesToWell_41 : decode cX0_comesToWell 41 = .ok (.iconst 0, 1) := by decide +kernel
theorem dX0_comesToWell_42 : decode cX0_comesToWell 42 = .ok (.ireturn, 1) := by decide +kernel
theorem dX0_comesToWell_43 : decode cX0_comesToWell 43 = .ok (.aload 5, 2) := by decide +kernel
theorem dX0_comesToWell_45 : decode cX0_comesToWell 45 = .ok (.iload_n 3, 1) := by decide +kernel
theorem dX0_comesToWell_46 : decode cX0_comesToWell 46 = .ok (.invokevirtual 64, 3) := by decide +kernel
theorem dX0_comesToWell_49 : decode cX0_comesToWell 49 = .ok (.istore 6, 2) := by decide +kernel
theorem dX0_comesToWell_51 : decode cX0_comesToWell 51 = .ok (.iload_n 1, 1) := by decide +kernel
theorem dX0_comesToWell_52 : decode cX0_comesToWell 52 = .ok (.iload_n 2, 1) := by decide +kernel
theorem dX0_comesToWell_53 : decode cX0_comesToWell 53 = .ok (.iconst 1, 1) := by decide +kernel
theorem dX0_comesToWell_54 : decode cX0_comesToWell 54 = .ok (.isub, 1) := by decide +kernel
theorem dX0_comesToWell_55 : decode cX0_comesToWell 55 = .ok (.if_icmp .ne 7, 3) := by decide +kernel
theorem dX0_comesToWell_58 : decode cX0_comesToWell 58 = .ok (.iconst 1, 1) := by decide +kernel
theorem dX0_comesToWell_59 : decode cX0_comesToWell 59 = .ok (.goto 4, 3) := by decide +kernel
theorem dX0_comesToWell_62 : decode cX0_comesToWell 62 = .ok (.iconst 0, 1) := by decide +kernel
theorem dX0_comesToWell_63 : decode cX0_comesToWell 63 = .ok (.istore 7, 2) := by decide +kernel
theorem dX0_comesToWell_65 : decode cX0_comesToWell 65 = .ok (.aload 5, 2) := by decide +kernel
theorem dX0_comesToWell_67 : decode cX0_comesToWell 67 = .ok (.invokevirtual 68, 3) := by decide +kernel
theorem dX0_comesToWell_70 : decode cX0_comesToWell 70 = .ok (.iload_n 3, 1) := by decide +kernel
theorem dX0_comesToWell_71 : decode cX0_comesToWell 71 = .ok (.if_icmp .eq 46, 3) := by decide +kernel
theorem dX0_comesToWell_74 : decode cX0_comesToWell 74 = .ok (.iload 7, 2) := by decide +kernel
theorem dX0_comesToWell_76 : decode cX0_comesToWell 76 = .ok (.ifCond .ne 39, 3) := by decide +kernel
theorem dX0_comesToWell_79 : decode cX0_comesToWell 79 = .ok (.aload_n 0, 1) := by decide +kernel
theorem dX0_comesToWell_80 : decode cX0_comesToWell 80 = .ok (.iload_n 1, 1) := by decide +kernel
theorem dX0_comesToWell_81 : decode cX0_comesToWell 81 = .ok (.bipush (-4), 2) := by decide +kernel
theorem dX0_comesToWell_83 : decode cX0_comesToWell 83 = .ok (.bipush (-4), 2) := by decide +kernel
theorem dX0_comesToWell_85 : decode cX0_comesToWell 85 = .ok (.invokevirtual 71, 3) := by decide +kernel
theorem dX0_comesToWell_88 : decode cX0_comesToWell 88 = .ok (.iload_n 3, 1) := by decide +kernel
theorem dX0_comesToWell_89 : decode cX0_comesToWell 89 = .ok (.invokevirtual 64, 3) := by decide +kernel
theorem dX0_comesToWell_92 : decode cX0_comesToWell 92 = .ok (.iload 6, 2) := by decide +kernel
theorem dX0_comesToWell_94 : decode cX0_comesToWell 94 = .ok (.if_icmp .ne 21, 3) := by decide +kernel
theorem dX0_comesToWell_97 : decode cX0_comesToWell 97 = .ok (.aload_n 0, 1) := by decide +kernel
theorem dX0_comesToWell_98 : decode cX0_comesToWell 98 = .ok (.iload_n 1, 1) := by decide +kernel
theorem dX0_comesToWell_99 : decode cX0_comesToWell 99 = .ok (.iconst 1, 1) := by decide +kernel
theorem dX0_comesToWell_100 : decode cX0_comesToWell 100 = .ok (.iadd, 1) := by decide +kernel
theorem dX0_comesToWell_101 : decode cX0_comesToWell 101 = .ok (.iload_n 2, 1) := by decide +kernel
theorem dX0_comesToWell_102 : decode cX0_comesToWell 102 = .ok (.iload_n 3, 1) := by decide +kernel
theorem dX0_comesToWell_103 : decode cX0_comesToWell 103 = .ok (.iload 4, 2) := by decide +kernel
theorem dX0_comesToWell_105 : decode cX0_comesToWell 105 = .ok (.invokevirtual 52, 3) := by decide +kernel
theorem dX0_comesToWell_108 : decode cX0_comesToWell 108 = .ok (.ifCond .eq 7, 3) := by decide +kernel
theorem dX0_comesToWell_111 : decode cX0_comesToWell 111 = .ok (.iconst 1, 1) := by decide +kernel
theorem dX0_comesToWell_112 : decode cX0_comesToWell 112 = .ok (.goto 4, 3) := by decide +kernel
theorem dX0_comesToWell_115 : decode cX0_comesToWell 115 = .ok (.iconst 0, 1) := by decide +kernel
theorem dX0_comesToWell_116 : decode cX0_comesToWell 116 = .ok (.ireturn, 1) := by decide +kernel
theorem dX0_comesToWell_117 : decode cX0_comesToWell 117 = .ok (.iconst 0, 1) := by decide +kernel
theorem dX0_comesToWell_118 : decode cX0_comesToWell 118 = .ok (.istore 8, 2) := by decide +kernel
theorem dX0_comesToWell_120 : decode cX0_comesToWell 120 = .ok (.iload 8, 2) := by decide +kernel
theorem dX0_comesToWell_122 : decode cX0_comesToWell 122 = .ok (.bipush 10, 2) := by decide +kernel
theorem dX0_comesToWell_124 : decode cX0_comesToWell 124 = .ok (.aload_n 0, 1) := by decide +kernel
theorem dX0_comesToWell_125 : decode cX0_comesToWell 125 = .ok (.getfield 22, 3) := by decide +kernel
theorem dX0_comesToWell_128 : decode cX0_comesToWell 128 = .ok (.getfield 75, 3) := by decide +kernel
theorem dX0_comesToWell_131 : decode cX0_comesToWell 131 = .ok (.imul, 1) := by decide +kernel
theorem dX0_comesToWell_132 : decode cX0_comesToWell 132 = .ok (.if_icmp .ge 118, 3) := by decide +kernel
theorem dX0_comesToWell_135 : decode cX0_comesToWell 135 = .ok (.iload 8, 2) := by decide +kernel
theorem dX0_comesToWell_137 : decode cX0_comesToWell 137 = .ok (.bipush 99, 2) := by decide +kernel
theorem dX0_comesToWell_139 : decode cX0_comesToWell 139 = .ok (.if_icmp .ge 111, 3) := by decide +kernel
theorem dX0_comesToWell_142 : decode cX0_comesToWell 142 = .ok (.iload 8, 2) := by decide +kernel
theorem dX0_comesToWell_144 : decode cX0_comesToWell 144 = .ok (.bipush 10, 2) := by decide +kernel
theorem dX0_comesToWell_146 : decode cX0_comesToWell 146 = .ok (.idiv, 1) := by decide +kernel
theorem dX0_comesToWell_147 : decode cX0_comesToWell 147 = .ok (.istore 9, 2) := by decide +kernel
theorem dX0_comesToWell_149 : decode cX0_comesToWell 149 = .ok (.aload 5, 2) := by decide +kernel
theorem dX0_comesToWell_151 : decode cX0_comesToWell 151 = .ok (.iload 9, 2) := by decide +kernel
theorem dX0_comesToWell_153 : decode cX0_comesToWell 153 = .ok (.iload 8, 2) := by decide +kernel
theorem dX0_comesToWell_155 : decode cX0_comesToWell 155 = .ok (.bipush 10, 2) := by decide +kernel
theorem dX0_comesToWell_157 : decode cX0_comesToWell 157 = .ok (.irem, 1) := by decide +kernel
theorem dX0_comesToWell_158 : decode cX0_comesToWell 158 = .ok (.invokevirtual 80, 3) := by decide +kernel
theorem dX0_comesToWell_161 : decode cX0_comesToWell 161 = .ok (.istore 10, 2) := by decide +kernel
theorem dX0_comesToWell_163 : decode cX0_comesToWell 163 = .ok (.iload 10, 2) := by decide +kernel
theorem dX0_comesToWell_165 : decode cX0_comesToWell 165 = .ok (.bipush (-4), 2) := by decide +kernel
theorem dX0_comesToWell_167 : decode cX0_comesToWell 167 = .ok (.if_icmp .eq 77, 3) := by decide +kernel
theorem dX0_comesToWell_170 : decode cX0_comesToWell 170 = .ok (.iload 7, 2) := by decide +kernel
theorem dX0_comesToWell_172 : decode cX0_comesToWell 172 = .ok (.ifCond .eq 28, 3) := by decide +kernel
theorem dX0_comesToWell_175 : decode cX0_comesToWell 175 = .ok (.iload 10, 2) := by decide +kernel
theorem dX0_comesToWell_177 : decode cX0_comesToWell 177 = .ok (.aload_n 0, 1) := by decide +kernel
theorem dX0_comesToWell_178 : decode cX0_comesToWell 178 = .ok (.getfield 22, 3) := by decide +kernel
theorem dX0_comesToWell_181 : decode cX0_comesToWell 181 = .ok (.getfield 84, 3) := by decide +kernel
theorem dX0_comesToWell_184 : decode cX0_comesToWell 184 = .ok (.if_icmp .ne 60, 3) := by decide +kernel
theorem dX0_comesToWell_187 : decode cX0_comesToWell 187 = .ok (.aload 5, 2) := by decide +kernel
theorem dX0_comesToWell_189 : decode cX0_comesToWell 189 = .ok (.iload 9, 2) := by decide +kernel
theorem dX0_comesToWell_191 : decode cX0_comesToWell 191 = .ok (.invokevirtual 87, 3) := by decide +kernel
theorem dX0_comesToWell_194 : decode cX0_comesToWell 194 = .ok (.ifCond .eq 6, 3) := by decide +kernel
theorem dX0_comesToWell_197 : decode cX0_comesToWell 197 = .ok (.goto 47, 3) := by decide +kernel
theorem dX0_comesToWell_200 : decode cX0_comesToWell 200 = .ok (.aload_n 0, 1) := by decide +kernel
theorem dX0_comesToWell_201 : decode cX0_comesToWell 201 = .ok (.iload_n 1, 1) := by decide +kernel
theorem dX0_comesToWell_202 : decode cX0_comesToWell 202 = .ok (.iload 9, 2) := by decide +kernel
theorem dX0_comesToWell_204 : decode cX0_comesToWell 204 = .ok (.iload 10, 2) := by decide +kernel
theorem dX0_comesToWell_206 : decode cX0_comesToWell 206 = .ok (.invokevirtual 71, 3) := by decide +kernel
theorem dX0_comesToWell_209 : decode cX0_comesToWell 209 = .ok (.iload_n 3, 1) := by decide +kernel
theorem dX0_comesToWell_210 : decode cX0_comesToWell 210 = .ok (.invokevirtual 64, 3) := by decide +kernel
theorem dX0_comesToWell_213 : decode cX0_comesToWell 213 = .ok (.iload 6, 2) := by decide +kernel
theorem dX0_comesToWell_215 : decode cX0_comesToWell 215 = .ok (.if_icmp .ne 29, 3) := by decide +kernel
theorem dX0_comesToWell_218 : decode cX0_comesToWell 218 = .ok (.aload_n 0, 1) := by decide +kernel
theorem dX0_comesToWell_219 : decode cX0_comesToWell 219 = .ok (.iload_n 1, 1) := by decide +kernel
theorem dX0_comesToWell_220 : decode cX0_comesToWell 220 = .ok (.iconst 1, 1) := by decide +kernel
theorem dX0_comesToWell_221 : decode cX0_comesToWell 221 = .ok (.iadd, 1) := by decide +kernel
theorem dX0_comesToWell_222 : decode cX0_comesToWell 222 = .ok (.iload_n 2, 1) := by decide +kernel
theorem dX0_comesToWell_223 : decode cX0_comesToWell 223 = .ok (.iload_n 3, 1) := by decide +kernel
theorem dX0_comesToWell_224 : decode cX0_comesToWell 224 = .ok (.iload 4, 2) := by decide +kernel
theorem dX0_comesToWell_226 : decode cX0_comesToWell 226 = .ok (.iconst 1, 1) := by decide +kernel
theorem dX0_comesToWell_227 : decode cX0_comesToWell 227 = .ok (.iadd, 1) := by decide +kernel
theorem dX0_comesToWell_228 : decode cX0_comesToWell 228 = .ok (.invokevirtual 52, 3) := by decide +kernel
theorem dX0_comesToWell_231 : decode cX0_comesToWell 231 = .ok (.ifCond .eq 13, 3) := by decide +kernel
theorem dX0_comesToWell_234 : decode cX0_comesToWell 234 = .ok (.aload_n 0, 1) := by decide +kernel
theorem dX0_comesToWell_235 : decode cX0_comesToWell 235 = .ok (.iload 4, 2) := by decide +kernel
theorem dX0_comesToWell_237 : decode cX0_comesToWell 237 = .ok (.iload 8, 2) := by decide +kernel
theorem dX0_comesToWell_239 : decode cX0_comesToWell 239 = .ok (.invokevirtual 90, 3) := by decide +kernel
theorem dX0_comesToWell_242 : decode cX0_comesToWell 242 = .ok (.iconst 1, 1) := by decide +kernel
theorem dX0_comesToWell_243 : decode cX0_comesToWell 243 = .ok (.ireturn, 1) := by decide +kernel
theorem dX0_comesToWell_244 : decode cX0_comesToWell 244 = .ok (.iinc 8 1, 3) := by decide +kernel
theorem dX0_comesToWell_247 : decode cX0_comesToWell 247 = .ok (.goto (-127), 3) := by decide +kernel
theorem dX0_comesToWell_250 : decode cX0_comesToWell 250 = .ok (.iload 7, 2) := by decide +kernel
theorem dX0_comesToWell_252 : decode cX0_comesToWell 252 = .ok (.ifCond .ne 47, 3) := by decide +kernel
theorem dX0_comesToWell_255 : decode cX0_comesToWell 255 = .ok (.aload_n 0, 1) := by decide +kernel
theorem dX0_comesToWell_256 : decode cX0_comesToWell 256 = .ok (.iload_n 1, 1) := by decide +kernel
theorem dX0_comesToWell_257 : decode cX0_comesToWell 257 = .ok (.bipush (-4), 2) := by decide +kernel
theorem dX0_comesToWell_259 : decode cX0_comesToWell 259 = .ok (.bipush (-4), 2) := by decide +kernel
theorem dX0_comesToWell_261 : decode cX0_comesToWell 261 = .ok (.invokevirtual 71, 3) := by decide +kernel
theorem dX0_comesToWell_264 : decode cX0_comesToWell 264 = .ok (.iload_n 3, 1) := by decide +kernel
theorem dX0_comesToWell_265 : decode cX0_comesToWell 265 = .ok (.invokevirtual 64, 3) := by decide +kernel
theorem dX0_comesToWell_268 : decode cX0_comesToWell 268 = .ok (.iload 6, 2) := by decide +kernel
theorem dX0_comesToWell_270 : decode cX0_comesToWell 270 = .ok (.if_icmp .ne 29, 3) := by decide +kernel
theorem dX0_comesToWell_273 : decode cX0_comesToWell 273 = .ok (.aload_n 0, 1) := by decide +kernel
theorem dX0_comesToWell_274 : decode cX0_comesToWell 274 = .ok (.iload_n 1, 1) := by decide +kernel
theorem dX0_comesToWell_275 : decode cX0_comesToWell 275 = .ok (.iconst 1, 1) := by decide +kernel
theorem dX0_comesToWell_276 : decode cX0_comesToWell 276 = .ok (.iadd, 1) := by decide +kernel
theorem dX0_comesToWell_277 : decode cX0_comesToWell 277 = .ok (.iload_n 2, 1) := by decide +kernel
theorem dX0_comesToWell_278 : decode cX0_comesToWell 278 = .ok (.iload_n 3, 1) := by decide +kernel
theorem dX0_comesToWell_279 : decode cX0_comesToWell 279 = .ok (.iload 4, 2) := by decide +kernel
theorem dX0_comesToWell_281 : decode cX0_comesToWell 281 = .ok (.iconst 1, 1) := by decide +kernel
theorem dX0_comesToWell_282 : decode cX0_comesToWell 282 = .ok (.iadd, 1) := by decide +kernel
theorem dX0_comesToWell_283 : decode cX0_comesToWell 283 = .ok (.invokevirtual 52, 3) := by decide +kernel
theorem dX0_comesToWell_286 : decode cX0_comesToWell 286 = .ok (.ifCond .eq 13, 3) := by decide +kernel
theorem dX0_comesToWell_289 : decode cX0_comesToWell 289 = .ok (.aload_n 0, 1) := by decide +kernel
theorem dX0_comesToWell_290 : decode cX0_comesToWell 290 = .ok (.iload 4, 2) := by decide +kernel
theorem dX0_comesToWell_292 : decode cX0_comesToWell 292 = .ok (.bipush 99, 2) := by decide +kernel
theorem dX0_comesToWell_294 : decode cX0_comesToWell 294 = .ok (.invokevirtual 90, 3) := by decide +kernel
theorem dX0_comesToWell_297 : decode cX0_comesToWell 297 = .ok (.iconst 1, 1) := by decide +kernel
theorem dX0_comesToWell_298 : decode cX0_comesToWell 298 = .ok (.ireturn, 1) := by decide +kernel
theorem dX0_comesToWell_299 : decode cX0_comesToWell 299 = .ok (.iconst 0, 1) := by decide +kernel
theorem dX0_comesToWell_300 : decode cX0_comesToWell 300 = .ok (.ireturn, 1) := by decide +kernel
theorem dX0_note_0 : decode cX0_note 0 = .ok (.iload_n 1, 1) := by decide +kernel
theorem dX0_note_1 : decode cX0_note 1 = .ok (.ifCond .lt 19, 3) := by decide +kernel
theorem dX0_note_4 : decode cX0_note 4 = .ok (.iload_n 1, 1) := by decide +kernel
theorem dX0_note_5 : decode cX0_note 5 = .ok (.aload_n 0, 1) := by decide +kernel
theorem dX0_note_6 : decode cX0_note 6 = .ok (.getfield 9, 3) := by decide +kernel
theorem dX0_note_9 : decode cX0_note 9 = .ok (.arraylength, 1) := by decide +kernel
theorem dX0_note_10 : decode cX0_note 10 = .ok (.if_icmp .ge 10, 3) := by decide +kernel
theorem dX0_note_13 : decode cX0_note 13 = .ok (.aload_n 0, 1) := by decide +kernel
theorem dX0_note_14 : decode cX0_note 14 = .ok (.getfield 9, 3) := by decide +kernel
theorem dX0_note_17 : decode cX0_note 17 = .ok (.iload_n 1, 1) := by decide +kernel
theorem dX0_note_18 : decode cX0_note 18 = .ok (.iload_n 2, 1) := by decide +kernel
theorem dX0_note_19 : decode cX0_note 19 = .ok (.iastore, 1) := by decide +kernel
theorem dX0_note_20 : decode cX0_note 20 = .ok (.return_, 1) := by decide +kernel
theorem dX0_onOwnDay_0 : decode cX0_onOwnDay 0 = .ok (.iload_n 1, 1) := by decide +kernel
theorem dX0_onOwnDay_1 : decode cX0_onOwnDay 1 = .ok (.ifCond .lt 29, 3) := by decide +kernel
theorem dX0_onOwnDay_4 : decode cX0_onOwnDay 4 = .ok (.iload_n 1, 1) := by decide +kernel
theorem dX0_onOwnDay_5 : decode cX0_onOwnDay 5 = .ok (.aload_n 0, 1) := by decide +kernel
theorem dX0_onOwnDay_6 : decode cX0_onOwnDay 6 = .ok (.getfield 15, 3) := by decide +kernel
theorem dX0_onOwnDay_9 : decode cX0_onOwnDay 9 = .ok (.if_icmp .ge 21, 3) := by decide +kernel
theorem dX0_onOwnDay_12 : decode cX0_onOwnDay 12 = .ok (.iload_n 1, 1) := by decide +kernel
theorem dX0_onOwnDay_13 : decode cX0_onOwnDay 13 = .ok (.aload_n 0, 1) := by decide +kernel
theorem dX0_onOwnDay_14 : decode cX0_onOwnDay 14 = .ok (.getfield 9, 3) := by decide +kernel
theorem dX0_onOwnDay_17 : decode cX0_onOwnDay 17 = .ok (.arraylength, 1) := by decide +kernel
theorem dX0_onOwnDay_18 : decode cX0_onOwnDay 18 = .ok (.if_icmp .ge 12, 3) := by decide +kernel
theorem dX0_onOwnDay_21 : decode cX0_onOwnDay 21 = .ok (.aload_n 0, 1) := by decide +kernel
theorem dX0_onOwnDay_22 : decode cX0_onOwnDay 22 = .ok (.getfield 9, 3) := by decide +kernel
theorem dX0_onOwnDay_25 : decode cX0_onOwnDay 25 = .ok (.iload_n 1, 1) := by decide +kernel
theorem dX0_onOwnDay_26 : decode cX0_onOwnDay 26 = .ok (.iaload, 1) := by decide +kernel
theorem dX0_onOwnDay_27 : decode cX0_onOwnDay 27 = .ok (.goto 5, 3) := by decide +kernel
theorem dX0_onOwnDay_30 : decode cX0_onOwnDay 30 = .ok (.bipush (-4), 2) := by decide +kernel
theorem dX0_onOwnDay_32 : decode cX0_onOwnDay 32 = .ok (.ireturn, 1) := by decide +kernel
theorem dX0_worthBehind_0 : decode cX0_worthBehind 0 = .ok (.aload_n 0, 1) := by decide +kernel
theorem dX0_worthBehind_1 : decode cX0_worthBehind 1 = .ok (.getfield 31, 3) := by decide +kernel
theorem dX0_worthBehind_4 : decode cX0_worthBehind 4 = .ok (.iconst 0, 1) := by decide +kernel
theorem dX0_worthBehind_5 : decode cX0_worthBehind 5 = .ok (.invokevirtual 35, 3) := by decide +kernel
theorem dX0_worthBehind_8 : decode cX0_worthBehind 8 = .ok (.aload_n 1, 1) := by decide +kernel
theorem dX0_worthBehind_9 : decode cX0_worthBehind 9 = .ok (.invokevirtual 39, 3) := by decide +kernel
theorem dX0_worthBehind_12 : decode cX0_worthBehind 12 = .ok (.aload_n 0, 1) := by decide +kernel
theorem dX0_worthBehind_13 : decode cX0_worthBehind 13 = .ok (.iconst 0, 1) := by decide +kernel
theorem dX0_worthBehind_14 : decode cX0_worthBehind 14 = .ok (.iload_n 2, 1) := by decide +kernel
theorem dX0_worthBehind_15 : decode cX0_worthBehind 15 = .ok (.invokevirtual 93, 3) := by decide +kernel
theorem dX0_worthBehind_18 : decode cX0_worthBehind 18 = .ok (.ireturn, 1) := by decide +kernel
theorem dX0_worthFrom_0 : decode cX0_worthFrom 0 = .ok (.aload_n 0, 1) := by decide +kernel
theorem dX0_worthFrom_1 : decode cX0_worthFrom 1 = .ok (.getfield 31, 3) := by decide +kernel
theorem dX0_worthFrom_4 : decode cX0_worthFrom 4 = .ok (.iload_n 1, 1) := by decide +kernel
theorem dX0_worthFrom_5 : decode cX0_worthFrom 5 = .ok (.invokevirtual 35, 3) := by decide +kernel
theorem dX0_worthFrom_8 : decode cX0_worthFrom 8 = .ok (.astore_n 3, 1) := by decide +kernel
theorem dX0_worthFrom_9 : decode cX0_worthFrom 9 = .ok (.iload_n 1, 1) := by decide +kernel
theorem dX0_worthFrom_10 : decode cX0_worthFrom 10 = .ok (.iload_n 2, 1) := by decide +kernel
theorem dX0_worthFrom_11 : decode cX0_worthFrom 11 = .ok (.if_icmp .ge 15, 3) := by decide +kernel
theorem dX0_worthFrom_14 : decode cX0_worthFrom 14 = .ok (.iload_n 1, 1) := by decide +kernel
theorem dX0_worthFrom_15 : decode cX0_worthFrom 15 = .ok (.iconst 3, 1) := by decide +kernel
theorem dX0_worthFrom_16 : decode cX0_worthFrom 16 = .ok (.if_icmp .ge 10, 3) := by decide +kernel
theorem dX0_worthFrom_19 : decode cX0_worthFrom 19 = .ok (.aload_n 3, 1) := by decide +kernel
theorem dX0_worthFrom_20 : decode cX0_worthFrom 20 = .ok (.invokevirtual 60, 3) := by decide +kernel
theorem dX0_worthFrom_23 : decode cX0_worthFrom 23 = .ok (.ifCond .eq 8, 3) := by decide +kernel
theorem dX0_worthFrom_26 : decode cX0_worthFrom 26 = .ok (.aload_n 3, 1) := by decide +kernel
theorem dX0_worthFrom_27 : decode cX0_worthFrom 27 = .ok (.invokevirtual 96, 3) := by decide +kernel
theorem dX0_worthFrom_30 : decode cX0_worthFrom 30 = .ok (.ireturn, 1) := by decide +kernel
theorem dX0_worthFrom_31 : decode cX0_worthFrom 31 = .ok (.aload_n 3, 1) := by decide +kernel
theorem dX0_worthFrom_32 : decode cX0_worthFrom 32 = .ok (.invokevirtual 68, 3) := by decide +kernel
theorem dX0_worthFrom_35 : decode cX0_worthFrom 35 = .ok (.ifCond .ne 7, 3) := by decide +kernel
theorem dX0_worthFrom_38 : decode cX0_worthFrom 38 = .ok (.iconst 1, 1) := by decide +kernel
theorem dX0_worthFrom_39 : decode cX0_worthFrom 39 = .ok (.goto 4, 3) := by decide +kernel
theorem dX0_worthFrom_42 : decode cX0_worthFrom 42 = .ok (.iconst 0, 1) := by decide +kernel
theorem dX0_worthFrom_43 : decode cX0_worthFrom 43 = .ok (.istore 4, 2) := by decide +kernel
theorem dX0_worthFrom_45 : decode cX0_worthFrom 45 = .ok (.bipush (-4), 2) := by decide +kernel
theorem dX0_worthFrom_47 : decode cX0_worthFrom 47 = .ok (.istore 5, 2) := by decide +kernel
theorem dX0_worthFrom_49 : decode cX0_worthFrom 49 = .ok (.iconst 0, 1) := by decide +kernel
theorem dX0_worthFrom_50 : decode cX0_worthFrom 50 = .ok (.istore 6, 2) := by decide +kernel
theorem dX0_worthFrom_52 : decode cX0_worthFrom 52 = .ok (.iconst 0, 1) := by decide +kernel
theorem dX0_worthFrom_53 : decode cX0_worthFrom 53 = .ok (.istore 7, 2) := by decide +kernel
theorem dX0_worthFrom_55 : decode cX0_worthFrom 55 = .ok (.iload 7, 2) := by decide +kernel
theorem dX0_worthFrom_57 : decode cX0_worthFrom 57 = .ok (.bipush 99, 2) := by decide +kernel
theorem dX0_worthFrom_59 : decode cX0_worthFrom 59 = .ok (.if_icmp .gt 126, 3) := by decide +kernel
theorem dX0_worthFrom_62 : decode cX0_worthFrom 62 = .ok (.iload 7, 2) := by decide +kernel
theorem dX0_worthFrom_64 : decode cX0_worthFrom 64 = .ok (.bipush 99, 2) := by decide +kernel
theorem dX0_worthFrom_66 : decode cX0_worthFrom 66 = .ok (.if_icmp .ne 8, 3) := by decide +kernel
theorem dX0_worthFrom_69 : decode cX0_worthFrom 69 = .ok (.bipush (-4), 2) := by decide +kernel
theorem dX0_worthFrom_71 : decode cX0_worthFrom 71 = .ok (.goto 17, 3) := by decide +kernel
theorem dX0_worthFrom_74 : decode cX0_worthFrom 74 = .ok (.aload_n 3, 1) := by decide +kernel
theorem dX0_worthFrom_75 : decode cX0_worthFrom 75 = .ok (.iload 7, 2) := by decide +kernel
theorem dX0_worthFrom_77 : decode cX0_worthFrom 77 = .ok (.bipush 10, 2) := by decide +kernel
theorem dX0_worthFrom_79 : decode cX0_worthFrom 79 = .ok (.idiv, 1) := by decide +kernel
theorem dX0_worthFrom_80 : decode cX0_worthFrom 80 = .ok (.iload 7, 2) := by decide +kernel
theorem dX0_worthFrom_82 : decode cX0_worthFrom 82 = .ok (.bipush 10, 2) := by decide +kernel
theorem dX0_worthFrom_84 : decode cX0_worthFrom 84 = .ok (.irem, 1) := by decide +kernel
theorem dX0_worthFrom_85 : decode cX0_worthFrom 85 = .ok (.invokevirtual 80, 3) := by decide +kernel
theorem dX0_worthFrom_88 : decode cX0_worthFrom 88 = .ok (.istore 8, 2) := by decide +kernel
theorem dX0_worthFrom_90 : decode cX0_worthFrom 90 = .ok (.iload 8, 2) := by decide +kernel
theorem dX0_worthFrom_92 : decode cX0_worthFrom 92 = .ok (.bipush (-4), 2) := by decide +kernel
theorem dX0_worthFrom_94 : decode cX0_worthFrom 94 = .ok (.if_icmp .ne 13, 3) := by decide +kernel
theorem dX0_worthFrom_97 : decode cX0_worthFrom 97 = .ok (.iload 7, 2) := by decide +kernel
theorem dX0_worthFrom_99 : decode cX0_worthFrom 99 = .ok (.bipush 99, 2) := by decide +kernel
theorem dX0_worthFrom_101 : decode cX0_worthFrom 101 = .ok (.if_icmp .eq 6, 3) := by decide +kernel
theorem dX0_worthFrom_104 : decode cX0_worthFrom 104 = .ok (.goto 75, 3) := by decide +kernel
theorem dX0_worthFrom_107 : decode cX0_worthFrom 107 = .ok (.aload_n 0, 1) := by decide +kernel
theorem dX0_worthFrom_108 : decode cX0_worthFrom 108 = .ok (.iload_n 1, 1) := by decide +kernel
theorem dX0_worthFrom_109 : decode cX0_worthFrom 109 = .ok (.iload 7, 2) := by decide +kernel
theorem dX0_worthFrom_111 : decode cX0_worthFrom 111 = .ok (.bipush 99, 2) := by decide +kernel
theorem dX0_worthFrom_113 : decode cX0_worthFrom 113 = .ok (.if_icmp .ne 8, 3) := by decide +kernel
theorem dX0_worthFrom_116 : decode cX0_worthFrom 116 = .ok (.bipush (-4), 2) := by decide +kernel
theorem dX0_worthFrom_118 : decode cX0_worthFrom 118 = .ok (.goto 8, 3) := by decide +kernel
theorem dX0_worthFrom_121 : decode cX0_worthFrom 121 = .ok (.iload 7, 2) := by decide +kernel
theorem dX0_worthFrom_123 : decode cX0_worthFrom 123 = .ok (.bipush 10, 2) := by decide +kernel
theorem dX0_worthFrom_125 : decode cX0_worthFrom 125 = .ok (.idiv, 1) := by decide +kernel
theorem dX0_worthFrom_126 : decode cX0_worthFrom 126 = .ok (.iload 8, 2) := by decide +kernel
theorem dX0_worthFrom_128 : decode cX0_worthFrom 128 = .ok (.invokevirtual 71, 3) := by decide +kernel
theorem dX0_worthFrom_131 : decode cX0_worthFrom 131 = .ok (.pop, 1) := by decide +kernel
theorem dX0_worthFrom_132 : decode cX0_worthFrom 132 = .ok (.aload_n 0, 1) := by decide +kernel
theorem dX0_worthFrom_133 : decode cX0_worthFrom 133 = .ok (.iload_n 1, 1) := by decide +kernel
theorem dX0_worthFrom_134 : decode cX0_worthFrom 134 = .ok (.iconst 1, 1) := by decide +kernel
theorem dX0_worthFrom_135 : decode cX0_worthFrom 135 = .ok (.iadd, 1) := by decide +kernel
theorem dX0_worthFrom_136 : decode cX0_worthFrom 136 = .ok (.iload_n 2, 1) := by decide +kernel
theorem dX0_worthFrom_137 : decode cX0_worthFrom 137 = .ok (.invokevirtual 93, 3) := by decide +kernel
theorem dX0_worthFrom_140 : decode cX0_worthFrom 140 = .ok (.istore 9, 2) := by decide +kernel
theorem dX0_worthFrom_142 : decode cX0_worthFrom 142 = .ok (.iload 5, 2) := by decide +kernel
theorem dX0_worthFrom_144 : decode cX0_worthFrom 144 = .ok (.bipush (-4), 2) := by decide +kernel
theorem dX0_worthFrom_146 : decode cX0_worthFrom 146 = .ok (.if_icmp .eq 25, 3) := by decide +kernel
theorem dX0_worthFrom_149 : decode cX0_worthFrom 149 = .ok (.iload 4, 2) := by decide +kernel
theorem dX0_worthFrom_151 : decode cX0_worthFrom 151 = .ok (.ifCond .eq 13, 3) := by decide +kernel
theorem dX0_worthFrom_154 : decode cX0_worthFrom 154 = .ok (.iload 9, 2) := by decide +kernel
theorem dX0_worthFrom_156 : decode cX0_worthFrom 156 = .ok (.iload 6, 2) := by decide +kernel
theorem dX0_worthFrom_158 : decode cX0_worthFrom 158 = .ok (.if_icmp .le 21, 3) := by decide +kernel
theorem dX0_worthFrom_161 : decode cX0_worthFrom 161 = .ok (.goto 10, 3) := by decide +kernel
theorem dX0_worthFrom_164 : decode cX0_worthFrom 164 = .ok (.iload 9, 2) := by decide +kernel
theorem dX0_worthFrom_166 : decode cX0_worthFrom 166 = .ok (.iload 6, 2) := by decide +kernel
theorem dX0_worthFrom_168 : decode cX0_worthFrom 168 = .ok (.if_icmp .ge 11, 3) := by decide +kernel
theorem dX0_worthFrom_171 : decode cX0_worthFrom 171 = .ok (.iload 7, 2) := by decide +kernel
theorem dX0_worthFrom_173 : decode cX0_worthFrom 173 = .ok (.istore 5, 2) := by decide +kernel
theorem dX0_worthFrom_175 : decode cX0_worthFrom 175 = .ok (.iload 9, 2) := by decide +kernel
theorem dX0_worthFrom_177 : decode cX0_worthFrom 177 = .ok (.istore 6, 2) := by decide +kernel
theorem dX0_worthFrom_179 : decode cX0_worthFrom 179 = .ok (.iinc 7 1, 3) := by decide +kernel
theorem dX0_worthFrom_182 : decode cX0_worthFrom 182 = .ok (.goto (-127), 3) := by decide +kernel
theorem dX0_worthFrom_185 : decode cX0_worthFrom 185 = .ok (.aload_n 0, 1) := by decide +kernel
theorem dX0_worthFrom_186 : decode cX0_worthFrom 186 = .ok (.iload 5, 2) := by decide +kernel
theorem dX0_worthFrom_188 : decode cX0_worthFrom 188 = .ok (.putfield 19, 3) := by decide +kernel
theorem dX0_worthFrom_191 : decode cX0_worthFrom 191 = .ok (.iload 6, 2) := by decide +kernel
theorem dX0_worthFrom_193 : decode cX0_worthFrom 193 = .ok (.ireturn, 1) := by decide +kernel
theorem dX0_staying_0 : decode cX0_staying 0 = .ok (.aload_n 0, 1) := by decide +kernel
theorem dX0_staying_1 : decode cX0_staying 1 = .ok (.getfield 31, 3) := by decide +kernel
theorem dX0_staying_4 : decode cX0_staying 4 = .ok (.iconst 0, 1) := by decide +kernel
theorem dX0_staying_5 : decode cX0_staying 5 = .ok (.invokevirtual 35, 3) := by decide +kernel
theorem dX0_staying_8 : decode cX0_staying 8 = .ok (.aload_n 1, 1) := by decide +kernel
theorem dX0_staying_9 : decode cX0_staying 9 = .ok (.invokevirtual 39, 3) := by decide +kernel
theorem dX0_staying_12 : decode cX0_staying 12 = .ok (.aload_n 0, 1) := by decide +kernel
theorem dX0_staying_13 : decode cX0_staying 13 = .ok (.iconst 0, 1) := by decide +kernel
theorem dX0_staying_14 : decode cX0_staying 14 = .ok (.iload_n 2, 1) := by decide +kernel
theorem dX0_staying_15 : decode cX0_staying 15 = .ok (.iload_n 3, 1) := by decide +kernel
theorem dX0_staying_16 : decode cX0_staying 16 = .ok (.iload 4, 2) := by decide +kernel
theorem dX0_staying_18 : decode cX0_staying 18 = .ok (.invokevirtual 99, 3) := by decide +kernel
theorem dX0_staying_21 : decode cX0_staying 21 = .ok (.lreturn, 1) := by decide +kernel
theorem dX0_stayingFrom_0 : decode cX0_stayingFrom 0 = .ok (.aload_n 0, 1) := by decide +kernel
theorem dX0_stayingFrom_1 : decode cX0_stayingFrom 1 = .ok (.getfield 31, 3) := by decide +kernel
theorem dX0_stayingFrom_4 : decode cX0_stayingFrom 4 = .ok (.iload_n 1, 1) := by decide +kernel
theorem dX0_stayingFrom_5 : decode cX0_stayingFrom 5 = .ok (.invokevirtual 35, 3) := by decide +kernel
theorem dX0_stayingFrom_8 : decode cX0_stayingFrom 8 = .ok (.astore 5, 2) := by decide +kernel
theorem dX0_stayingFrom_10 : decode cX0_stayingFrom 10 = .ok (.aload 5, 2) := by decide +kernel
theorem dX0_stayingFrom_12 : decode cX0_stayingFrom 12 = .ok (.iload_n 2, 1) := by decide +kernel
theorem dX0_stayingFrom_13 : decode cX0_stayingFrom 13 = .ok (.invokevirtual 103, 3) := by decide +kernel
theorem dX0_stayingFrom_16 : decode cX0_stayingFrom 16 = .ok (.ifCond .eq 5, 3) := by decide +kernel
theorem dX0_stayingFrom_19 : decode cX0_stayingFrom 19 = .ok (.lconst 0, 1) := by decide +kernel
theorem dX0_stayingFrom_20 : decode cX0_stayingFrom 20 = .ok (.lreturn, 1) := by decide +kernel
theorem dX0_stayingFrom_21 : decode cX0_stayingFrom 21 = .ok (.iload_n 1, 1) := by decide +kernel
theorem dX0_stayingFrom_22 : decode cX0_stayingFrom 22 = .ok (.iload_n 3, 1) := by decide +kernel
theorem dX0_stayingFrom_23 : decode cX0_stayingFrom 23 = .ok (.if_icmp .ge 9, 3) := by decide +kernel
theorem dX0_stayingFrom_26 : decode cX0_stayingFrom 26 = .ok (.iload_n 1, 1) := by decide +kernel
theorem dX0_stayingFrom_27 : decode cX0_stayingFrom 27 = .ok (.bipush 8, 2) := by decide +kernel
theorem dX0_stayingFrom_29 : decode cX0_stayingFrom 29 = .ok (.if_icmp .lt 5, 3) := by decide +kernel
theorem dX0_stayingFrom_32 : decode cX0_stayingFrom 32 = .ok (.lconst 1, 1) := by decide +kernel
theorem dX0_stayingFrom_33 : decode cX0_stayingFrom 33 = .ok (.lreturn, 1) := by decide +kernel
theorem dX0_stayingFrom_34 : decode cX0_stayingFrom 34 = .ok (.aload_n 0, 1) := by decide +kernel
theorem dX0_stayingFrom_35 : decode cX0_stayingFrom 35 = .ok (.getfield 31, 3) := by decide +kernel
theorem dX0_stayingFrom_38 : decode cX0_stayingFrom 38 = .ok (.iload_n 1, 1) := by decide +kernel
theorem dX0_stayingFrom_39 : decode cX0_stayingFrom 39 = .ok (.iconst 1, 1) := by decide +kernel
theorem dX0_stayingFrom_40 : decode cX0_stayingFrom 40 = .ok (.iadd, 1) := by decide +kernel
theorem dX0_stayingFrom_41 : decode cX0_stayingFrom 41 = .ok (.invokevirtual 35, 3) := by decide +kernel
theorem dX0_stayingFrom_44 : decode cX0_stayingFrom 44 = .ok (.astore 6, 2) := by decide +kernel
theorem dX0_stayingFrom_46 : decode cX0_stayingFrom 46 = .ok (.lconst 0, 1) := by decide +kernel
theorem dX0_stayingFrom_47 : decode cX0_stayingFrom 47 = .ok (.lstore 7, 2) := by decide +kernel
theorem dX0_stayingFrom_49 : decode cX0_stayingFrom 49 = .ok (.iload 4, 2) := by decide +kernel
theorem dX0_stayingFrom_51 : decode cX0_stayingFrom 51 = .ok (.bipush 10, 2) := by decide +kernel
theorem dX0_stayingFrom_53 : decode cX0_stayingFrom 53 = .ok (.if_icmp .ge 38, 3) := by decide +kernel
theorem dX0_stayingFrom_56 : decode cX0_stayingFrom 56 = .ok (.aload 6, 2) := by decide +kernel
theorem dX0_stayingFrom_58 : decode cX0_stayingFrom 58 = .ok (.aload 5, 2) := by decide +kernel
theorem dX0_stayingFrom_60 : decode cX0_stayingFrom 60 = .ok (.invokevirtual 39, 3) := by decide +kernel
theorem dX0_stayingFrom_63 : decode cX0_stayingFrom 63 = .ok (.aload 6, 2) := by decide +kernel
theorem dX0_stayingFrom_65 : decode cX0_stayingFrom 65 = .ok (.invokevirtual 49, 3) := by decide +kernel
theorem dX0_stayingFrom_68 : decode cX0_stayingFrom 68 = .ok (.lload 7, 2) := by decide +kernel
theorem dX0_stayingFrom_70 : decode cX0_stayingFrom 70 = .ok (.bipush 10, 2) := by decide +kernel
theorem dX0_stayingFrom_72 : decode cX0_stayingFrom 72 = .ok (.iload 4, 2) := by decide +kernel
theorem dX0_stayingFrom_74 : decode cX0_stayingFrom 74 = .ok (.isub, 1) := by decide +kernel
theorem dX0_stayingFrom_75 : decode cX0_stayingFrom 75 = .ok (.i2l, 1) := by decide +kernel
theorem dX0_stayingFrom_76 : decode cX0_stayingFrom 76 = .ok (.aload_n 0, 1) := by decide +kernel
theorem dX0_stayingFrom_77 : decode cX0_stayingFrom 77 = .ok (.iload_n 1, 1) := by decide +kernel
theorem dX0_stayingFrom_78 : decode cX0_stayingFrom 78 = .ok (.iconst 1, 1) := by decide +kernel
theorem dX0_stayingFrom_79 : decode cX0_stayingFrom 79 = .ok (.iadd, 1) := by decide +kernel
theorem dX0_stayingFrom_80 : decode cX0_stayingFrom 80 = .ok (.iload_n 2, 1) := by decide +kernel
theorem dX0_stayingFrom_81 : decode cX0_stayingFrom 81 = .ok (.iload_n 3, 1) := by decide +kernel
theorem dX0_stayingFrom_82 : decode cX0_stayingFrom 82 = .ok (.iload 4, 2) := by decide +kernel
theorem dX0_stayingFrom_84 : decode cX0_stayingFrom 84 = .ok (.invokevirtual 99, 3) := by decide +kernel
theorem dX0_stayingFrom_87 : decode cX0_stayingFrom 87 = .ok (.lmul, 1) := by decide +kernel
theorem dX0_stayingFrom_88 : decode cX0_stayingFrom 88 = .ok (.ladd, 1) := by decide +kernel
theorem dX0_stayingFrom_89 : decode cX0_stayingFrom 89 = .ok (.lstore 7, 2) := by decide +kernel
theorem dX0_stayingFrom_91 : decode cX0_stayingFrom 91 = .ok (.iload 4, 2) := by decide +kernel
theorem dX0_stayingFrom_93 : decode cX0_stayingFrom 93 = .ok (.ifCond .le 45, 3) := by decide +kernel
theorem dX0_stayingFrom_96 : decode cX0_stayingFrom 96 = .ok (.aload 6, 2) := by decide +kernel
theorem dX0_stayingFrom_98 : decode cX0_stayingFrom 98 = .ok (.aload 5, 2) := by decide +kernel
theorem dX0_stayingFrom_100 : decode cX0_stayingFrom 100 = .ok (.invokevirtual 39, 3) := by decide +kernel
theorem dX0_stayingFrom_103 : decode cX0_stayingFrom 103 = .ok (.aload 6, 2) := by decide +kernel
theorem dX0_stayingFrom_105 : decode cX0_stayingFrom 105 = .ok (.invokevirtual 106, 3) := by decide +kernel
theorem dX0_stayingFrom_108 : decode cX0_stayingFrom 108 = .ok (.aload 6, 2) := by decide +kernel
theorem dX0_stayingFrom_110 : decode cX0_stayingFrom 110 = .ok (.invokevirtual 109, 3) := by decide +kernel
theorem dX0_stayingFrom_113 : decode cX0_stayingFrom 113 = .ok (.aload 6, 2) := by decide +kernel
theorem dX0_stayingFrom_115 : decode cX0_stayingFrom 115 = .ok (.invokevirtual 112, 3) := by decide +kernel
theorem dX0_stayingFrom_118 : decode cX0_stayingFrom 118 = .ok (.lload 7, 2) := by decide +kernel
theorem dX0_stayingFrom_120 : decode cX0_stayingFrom 120 = .ok (.iload 4, 2) := by decide +kernel
theorem dX0_stayingFrom_122 : decode cX0_stayingFrom 122 = .ok (.i2l, 1) := by decide +kernel
theorem dX0_stayingFrom_123 : decode cX0_stayingFrom 123 = .ok (.aload_n 0, 1) := by decide +kernel
theorem dX0_stayingFrom_124 : decode cX0_stayingFrom 124 = .ok (.iload_n 1, 1) := by decide +kernel
theorem dX0_stayingFrom_125 : decode cX0_stayingFrom 125 = .ok (.iconst 1, 1) := by decide +kernel
theorem dX0_stayingFrom_126 : decode cX0_stayingFrom 126 = .ok (.iadd, 1) := by decide +kernel
theorem dX0_stayingFrom_127 : decode cX0_stayingFrom 127 = .ok (.iload_n 2, 1) := by decide +kernel
theorem dX0_stayingFrom_128 : decode cX0_stayingFrom 128 = .ok (.iload_n 3, 1) := by decide +kernel
theorem dX0_stayingFrom_129 : decode cX0_stayingFrom 129 = .ok (.iload 4, 2) := by decide +kernel
theorem dX0_stayingFrom_131 : decode cX0_stayingFrom 131 = .ok (.invokevirtual 99, 3) := by decide +kernel
theorem dX0_stayingFrom_134 : decode cX0_stayingFrom 134 = .ok (.lmul, 1) := by decide +kernel
theorem dX0_stayingFrom_135 : decode cX0_stayingFrom 135 = .ok (.ladd, 1) := by decide +kernel
theorem dX0_stayingFrom_136 : decode cX0_stayingFrom 136 = .ok (.lstore 7, 2) := by decide +kernel
theorem dX0_stayingFrom_138 : decode cX0_stayingFrom 138 = .ok (.lload 7, 2) := by decide +kernel
theorem dX0_stayingFrom_140 : decode cX0_stayingFrom 140 = .ok (.lreturn, 1) := by decide +kernel
theorem dX1_init_0 : decode cX1_init 0 = .ok (.aload_n 0, 1) := by decide +kernel
theorem dX1_init_1 : decode cX1_init 1 = .ok (.invokespecial 3, 3) := by decide +kernel
theorem dX1_init_4 : decode cX1_init 4 = .ok (.aload_n 0, 1) := by decide +kernel
theorem dX1_init_5 : decode cX1_init 5 = .ok (.iconst 0, 1) := by decide +kernel
theorem dX1_init_6 : decode cX1_init 6 = .ok (.putfield 9, 3) := by decide +kernel
theorem dX1_init_9 : decode cX1_init 9 = .ok (.aload_n 0, 1) := by decide +kernel
theorem dX1_init_10 : decode cX1_init 10 = .ok (.iconst 0, 1) := by decide +kernel
theorem dX1_init_11 : decode cX1_init 11 = .ok (.putfield 15, 3) := by decide +kernel
theorem dX1_init_14 : decode cX1_init 14 = .ok (.aload_n 0, 1) := by decide +kernel
theorem dX1_init_15 : decode cX1_init 15 = .ok (.iconst 0, 1) := by decide +kernel
theorem dX1_init_16 : decode cX1_init 16 = .ok (.putfield 18, 3) := by decide +kernel
theorem dX1_init_19 : decode cX1_init 19 = .ok (.aload_n 0, 1) := by decide +kernel
theorem dX1_init_20 : decode cX1_init 20 = .ok (.iconst 0, 1) := by decide +kernel
theorem dX1_init_21 : decode cX1_init 21 = .ok (.putfield 21, 3) := by decide +kernel
theorem dX1_init_24 : decode cX1_init 24 = .ok (.aload_n 0, 1) := by decide +kernel
theorem dX1_init_25 : decode cX1_init 25 = .ok (.bipush (-4), 2) := by decide +kernel
theorem dX1_init_27 : decode cX1_init 27 = .ok (.putfield 24, 3) := by decide +kernel
theorem dX1_init_30 : decode cX1_init 30 = .ok (.aload_n 0, 1) := by decide +kernel
theorem dX1_init_31 : decode cX1_init 31 = .ok (.iconst 4, 1) := by decide +kernel
theorem dX1_init_32 : decode cX1_init 32 = .ok (.putfield 27, 3) := by decide +kernel
theorem dX1_init_35 : decode cX1_init 35 = .ok (.aload_n 0, 1) := by decide +kernel
theorem dX1_init_36 : decode cX1_init 36 = .ok (.iconst 0, 1) := by decide +kernel
theorem dX1_init_37 : decode cX1_init 37 = .ok (.putfield 30, 3) := by decide +kernel
theorem dX1_init_40 : decode cX1_init 40 = .ok (.aload_n 0, 1) := by decide +kernel
theorem dX1_init_41 : decode cX1_init 41 = .ok (.bipush 8, 2) := by decide +kernel
theorem dX1_init_43 : decode cX1_init 43 = .ok (.newarray .int, 2) := by decide +kernel
theorem dX1_init_45 : decode cX1_init 45 = .ok (.putfield 33, 3) := by decide +kernel
theorem dX1_init_48 : decode cX1_init 48 = .ok (.aload_n 0, 1) := by decide +kernel
theorem dX1_init_49 : decode cX1_init 49 = .ok (.bipush 9, 2) := by decide +kernel
theorem dX1_init_51 : decode cX1_init 51 = .ok (.newarray .int, 2) := by decide +kernel
theorem dX1_init_53 : decode cX1_init 53 = .ok (.putfield 37, 3) := by decide +kernel
theorem dX1_init_56 : decode cX1_init 56 = .ok (.return_, 1) := by decide +kernel
theorem dX1_clear_0 : decode cX1_clear 0 = .ok (.aload_n 0, 1) := by decide +kernel
theorem dX1_clear_1 : decode cX1_clear 1 = .ok (.iconst 0, 1) := by decide +kernel
theorem dX1_clear_2 : decode cX1_clear 2 = .ok (.putfield 9, 3) := by decide +kernel
theorem dX1_clear_5 : decode cX1_clear 5 = .ok (.aload_n 0, 1) := by decide +kernel
theorem dX1_clear_6 : decode cX1_clear 6 = .ok (.iconst 0, 1) := by decide +kernel
theorem dX1_clear_7 : decode cX1_clear 7 = .ok (.putfield 15, 3) := by decide +kernel
theorem dX1_clear_10 : decode cX1_clear 10 = .ok (.aload_n 0, 1) := by decide +kernel
theorem dX1_clear_11 : decode cX1_clear 11 = .ok (.iconst 0, 1) := by decide +kernel
theorem dX1_clear_12 : decode cX1_clear 12 = .ok (.putfield 18, 3) := by decide +kernel
theorem dX1_clear_15 : decode cX1_clear 15 = .ok (.aload_n 0, 1) := by decide +kernel
theorem dX1_clear_16 : decode cX1_clear 16 = .ok (.iconst 0, 1) := by decide +kernel
theorem dX1_clear_17 : decode cX1_clear 17 = .ok (.putfield 21, 3) := by decide +kernel
theorem dX1_clear_20 : decode cX1_clear 20 = .ok (.aload_n 0, 1) := by decide +kernel
theorem dX1_clear_21 : decode cX1_clear 21 = .ok (.bipush (-4), 2) := by decide +kernel
theorem dX1_clear_23 : decode cX1_clear 23 = .ok (.putfield 24, 3) := by decide +kernel
theorem dX1_clear_26 : decode cX1_clear 26 = .ok (.aload_n 0, 1) := by decide +kernel
theorem dX1_clear_27 : decode cX1_clear 27 = .ok (.iconst 4, 1) := by decide +kernel
theorem dX1_clear_28 : decode cX1_clear 28 = .ok (.putfield 27, 3) := by decide +kernel
theorem dX1_clear_31 : decode cX1_clear 31 = .ok (.aload_n 0, 1) := by decide +kernel
theorem dX1_clear_32 : decode cX1_clear 32 = .ok (.iconst 0, 1) := by decide +kernel
theorem dX1_clear_33 : decode cX1_clear 33 = .ok (.putfield 30, 3) := by decide +kernel
theorem dX1_clear_36 : decode cX1_clear 36 = .ok (.return_, 1) := by decide +kernel
theorem dX1_copyFrom_0 : decode cX1_copyFrom 0 = .ok (.aload_n 0, 1) := by decide +kernel
theorem dX1_copyFrom_1 : decode cX1_copyFrom 1 = .ok (.aload_n 1, 1) := by decide +kernel
theorem dX1_copyFrom_2 : decode cX1_copyFrom 2 = .ok (.getfield 9, 3) := by decide +kernel
theorem dX1_copyFrom_5 : decode cX1_copyFrom 5 = .ok (.putfield 9, 3) := by decide +kernel
theorem dX1_copyFrom_8 : decode cX1_copyFrom 8 = .ok (.aload_n 0, 1) := by decide +kernel
theorem dX1_copyFrom_9 : decode cX1_copyFrom 9 = .ok (.aload_n 1, 1) := by decide +kernel
theorem dX1_copyFrom_10 : decode cX1_copyFrom 10 = .ok (.getfield 15, 3) := by decide +kernel
theorem dX1_copyFrom_13 : decode cX1_copyFrom 13 = .ok (.putfield 15, 3) := by decide +kernel
theorem dX1_copyFrom_16 : decode cX1_copyFrom 16 = .ok (.aload_n 0, 1) := by decide +kernel
theorem dX1_copyFrom_17 : decode cX1_copyFrom 17 = .ok (.aload_n 1, 1) := by decide +kernel
theorem dX1_copyFrom_18 : decode cX1_copyFrom 18 = .ok (.getfield 18, 3) := by decide +kernel
theorem dX1_copyFrom_21 : decode cX1_copyFrom 21 = .ok (.putfield 18, 3) := by decide +kernel
theorem dX1_copyFrom_24 : decode cX1_copyFrom 24 = .ok (.aload_n 0, 1) := by decide +kernel
theorem dX1_copyFrom_25 : decode cX1_copyFrom 25 = .ok (.aload_n 1, 1) := by decide +kernel
theorem dX1_copyFrom_26 : decode cX1_copyFrom 26 = .ok (.getfield 21, 3) := by decide +kernel
theorem dX1_copyFrom_29 : decode cX1_copyFrom 29 = .ok (.putfield 21, 3) := by decide +kernel
theorem dX1_copyFrom_32 : decode cX1_copyFrom 32 = .ok (.aload_n 0, 1) := by decide +kernel
theorem dX1_copyFrom_33 : decode cX1_copyFrom 33 = .ok (.aload_n 1, 1) := by decide +kernel
theorem dX1_copyFrom_34 : decode cX1_copyFrom 34 = .ok (.getfield 24, 3) := by decide +kernel
theorem dX1_copyFrom_37 : decode cX1_copyFrom 37 = .ok (.putfield 24, 3) := by decide +kernel
theorem dX1_copyFrom_40 : decode cX1_copyFrom 40 = .ok (.aload_n 0, 1) := by decide +kernel
theorem dX1_copyFrom_41 : decode cX1_copyFrom 41 = .ok (.aload_n 1, 1) := by decide +kernel
theorem dX1_copyFrom_42 : decode cX1_copyFrom 42 = .ok (.getfield 27, 3) := by decide +kernel
theorem dX1_copyFrom_45 : decode cX1_copyFrom 45 = .ok (.putfield 27, 3) := by decide +kernel
theorem dX1_copyFrom_48 : decode cX1_copyFrom 48 = .ok (.aload_n 0, 1) := by decide +kernel
theorem dX1_copyFrom_49 : decode cX1_copyFrom 49 = .ok (.aload_n 1, 1) := by decide +kernel
theorem dX1_copyFrom_50 : decode cX1_copyFrom 50 = .ok (.getfield 30, 3) := by decide +kernel
theorem dX1_copyFrom_53 : decode cX1_copyFrom 53 = .ok (.putfield 30, 3) := by decide +kernel
theorem dX1_copyFrom_56 : decode cX1_copyFrom 56 = .ok (.aload_n 1, 1) := by decide +kernel
theorem dX1_copyFrom_57 : decode cX1_copyFrom 57 = .ok (.getfield 33, 3) := by decide +kernel
theorem dX1_copyFrom_60 : decode cX1_copyFrom 60 = .ok (.iconst 0, 1) := by decide +kernel
theorem dX1_copyFrom_61 : decode cX1_copyFrom 61 = .ok (.aload_n 0, 1) := by decide +kernel
theorem dX1_copyFrom_62 : decode cX1_copyFrom 62 = .ok (.getfield 33, 3) := by decide +kernel
theorem dX1_copyFrom_65 : decode cX1_copyFrom 65 = .ok (.iconst 0, 1) := by decide +kernel
theorem dX1_copyFrom_66 : decode cX1_copyFrom 66 = .ok (.bipush 8, 2) := by decide +kernel
theorem dX1_copyFrom_68 : decode cX1_copyFrom 68 = .ok (.invokestatic 40, 3) := by decide +kernel
theorem dX1_copyFrom_71 : decode cX1_copyFrom 71 = .ok (.aload_n 1, 1) := by decide +kernel
theorem dX1_copyFrom_72 : decode cX1_copyFrom 72 = .ok (.getfield 37, 3) := by decide +kernel
theorem dX1_copyFrom_75 : decode cX1_copyFrom 75 = .ok (.iconst 0, 1) := by decide +kernel
theorem dX1_copyFrom_76 : decode cX1_copyFrom 76 = .ok (.aload_n 0, 1) := by decide +kernel
theorem dX1_copyFrom_77 : decode cX1_copyFrom 77 = .ok (.getfield 37, 3) := by decide +kernel
theorem dX1_copyFrom_80 : decode cX1_copyFrom 80 = .ok (.iconst 0, 1) := by decide +kernel
theorem dX1_copyFrom_81 : decode cX1_copyFrom 81 = .ok (.bipush 9, 2) := by decide +kernel
theorem dX1_copyFrom_83 : decode cX1_copyFrom 83 = .ok (.invokestatic 40, 3) := by decide +kernel
theorem dX1_copyFrom_86 : decode cX1_copyFrom 86 = .ok (.return_, 1) := by decide +kernel
theorem dX1_hasSquare_0 : decode cX1_hasSquare 0 = .ok (.iload_n 1, 1) := by decide +kernel
theorem dX1_hasSquare_1 : decode cX1_hasSquare 1 = .ok (.ifCond .lt 21, 3) := by decide +kernel
theorem dX1_hasSquare_4 : decode cX1_hasSquare 4 = .ok (.iload_n 1, 1) := by decide +kernel
theorem dX1_hasSquare_5 : decode cX1_hasSquare 5 = .ok (.aload_n 0, 1) := by decide +kernel
theorem dX1_hasSquare_6 : decode cX1_hasSquare 6 = .ok (.getfield 9, 3) := by decide +kernel
theorem dX1_hasSquare_9 : decode cX1_hasSquare 9 = .ok (.if_icmp .ge 13, 3) := by decide +kernel
theorem dX1_hasSquare_12 : decode cX1_hasSquare 12 = .ok (.iload_n 1, 1) := by decide +kernel
theorem dX1_hasSquare_13 : decode cX1_hasSquare 13 = .ok (.bipush 36, 2) := by decide +kernel
theorem dX1_hasSquare_15 : decode cX1_hasSquare 15 = .ok (.if_icmp .ge 7, 3) := by decide +kernel
theorem dX1_hasSquare_18 : decode cX1_hasSquare 18 = .ok (.iconst 1, 1) := by decide +kernel
theorem dX1_hasSquare_19 : decode cX1_hasSquare 19 = .ok (.goto 4, 3) := by decide +kernel
theorem dX1_hasSquare_22 : decode cX1_hasSquare 22 = .ok (.iconst 0, 1) := by decide +kernel
theorem dX1_hasSquare_23 : decode cX1_hasSquare 23 = .ok (.ireturn, 1) := by decide +kernel
theorem dX1_hasBeast_0 : decode cX1_hasBeast 0 = .ok (.iload_n 1, 1) := by decide +kernel
theorem dX1_hasBeast_1 : decode cX1_hasBeast 1 = .ok (.ifCond .lt 21, 3) := by decide +kernel
theorem dX1_hasBeast_4 : decode cX1_hasBeast 4 = .ok (.iload_n 1, 1) := by decide +kernel
theorem dX1_hasBeast_5 : decode cX1_hasBeast 5 = .ok (.aload_n 0, 1) := by decide +kernel
theorem dX1_hasBeast_6 : decode cX1_hasBeast 6 = .ok (.getfield 21, 3) := by decide +kernel
theorem dX1_hasBeast_9 : decode cX1_hasBeast 9 = .ok (.if_icmp .ge 13, 3) := by decide +kernel
theorem dX1_hasBeast_12 : decode cX1_hasBeast 12 = .ok (.iload_n 1, 1) := by decide +kernel
theorem dX1_hasBeast_13 : decode cX1_hasBeast 13 = .ok (.bipush 8, 2) := by decide +kernel
theorem dX1_hasBeast_15 : decode cX1_hasBeast 15 = .ok (.if_icmp .ge 7, 3) := by decide +kernel
theorem dX1_hasBeast_18 : decode cX1_hasBeast 18 = .ok (.iconst 1, 1) := by decide +kernel
theorem dX1_hasBeast_19 : decode cX1_hasBeast 19 = .ok (.goto 4, 3) := by decide +kernel
theorem dX1_hasBeast_22 : decode cX1_hasBeast 22 = .ok (.iconst 0, 1) := by decide +kernel
theorem dX1_hasBeast_23 : decode cX1_hasBeast 23 = .ok (.ireturn, 1) := by decide +kernel
theorem dX1_villageOf_0 : decode cX1_villageOf 0 = .ok (.iload_n 1, 1) := by decide +kernel
theorem dX1_villageOf_1 : decode cX1_villageOf 1 = .ok (.ifCond .lt 26, 3) := by decide +kernel
theorem dX1_villageOf_4 : decode cX1_villageOf 4 = .ok (.iload_n 1, 1) := by decide +kernel
theorem dX1_villageOf_5 : decode cX1_villageOf 5 = .ok (.aload_n 0, 1) := by decide +kernel
theorem dX1_villageOf_6 : decode cX1_villageOf 6 = .ok (.getfield 21, 3) := by decide +kernel
theorem dX1_villageOf_9 : decode cX1_villageOf 9 = .ok (.if_icmp .ge 18, 3) := by decide +kernel
theorem dX1_villageOf_12 : decode cX1_villageOf 12 = .ok (.iload_n 1, 1) := by decide +kernel
theorem dX1_villageOf_13 : decode cX1_villageOf 13 = .ok (.bipush 8, 2) := by decide +kernel
theorem dX1_villageOf_15 : decode cX1_villageOf 15 = .ok (.if_icmp .ge 12, 3) := by decide +kernel
theorem dX1_villageOf_18 : decode cX1_villageOf 18 = .ok (.aload_n 0, 1) := by decide +kernel
theorem dX1_villageOf_19 : decode cX1_villageOf 19 = .ok (.getfield 33, 3) := by decide +kernel
theorem dX1_villageOf_22 : decode cX1_villageOf 22 = .ok (.iload_n 1, 1) := by decide +kernel
theorem dX1_villageOf_23 : decode cX1_villageOf 23 = .ok (.iaload, 1) := by decide +kernel
theorem dX1_villageOf_24 : decode cX1_villageOf 24 = .ok (.goto 5, 3) := by decide +kernel
theorem dX1_villageOf_27 : decode cX1_villageOf 27 = .ok (.bipush (-4), 2) := by decide +kernel
theorem dX1_villageOf_29 : decode cX1_villageOf 29 = .ok (.ireturn, 1) := by decide +kernel
theorem dX1_snowsOn_0 : decode cX1_snowsOn 0 = .ok (.aload_n 0, 1) := by decide +kernel
theorem dX1_snowsOn_1 : decode cX1_snowsOn 1 = .ok (.getfield 30, 3) := by decide +kernel
theorem dX1_snowsOn_4 : decode cX1_snowsOn 4 = .ok (.iconst 1, 1) := by decide +kernel
theorem dX1_snowsOn_5 : decode cX1_snowsOn 5 = .ok (.if_icmp .lt 16, 3) := by decide +kernel
theorem dX1_snowsOn_8 : decode cX1_snowsOn 8 = .ok (.aload_n 0, 1) := by decide +kernel
theorem dX1_snowsOn_9 : decode cX1_snowsOn 9 = .ok (.getfield 30, 3) := by decide +kernel
theorem dX1_snowsOn_12 : decode cX1_snowsOn 12 = .ok (.bipush 9, 2) := by decide +kernel
theorem dX1_snowsOn_14 : decode cX1_snowsOn 14 = .ok (.if_icmp .gt 7, 3) := by decide +kernel
theorem dX1_snowsOn_17 : decode cX1_snowsOn 17 = .ok (.iload_n 1, 1) := by decide +kernel
theorem dX1_snowsOn_18 : decode cX1_snowsOn 18 = .ok (.ifCond .ge 5, 3) := by decide +kernel
theorem dX1_snowsOn_21 : decode cX1_snowsOn 21 = .ok (.iconst 0, 1) := by decide +kernel
theorem dX1_snowsOn_22 : decode cX1_snowsOn 22 = .ok (.ireturn, 1) := by decide +kernel
theorem dX1_snowsOn_23 : decode cX1_snowsOn 23 = .ok (.aload_n 0, 1) := by decide +kernel
theorem dX1_snowsOn_24 : decode cX1_snowsOn 24 = .ok (.getfield 37, 3) := by decide +kernel
theorem dX1_snowsOn_27 : decode cX1_snowsOn 27 = .ok (.iload_n 1, 1) := by decide +kernel
theorem dX1_snowsOn_28 : decode cX1_snowsOn 28 = .ok (.aload_n 0, 1) := by decide +kernel
theorem dX1_snowsOn_29 : decode cX1_snowsOn 29 = .ok (.getfield 30, 3) := by decide +kernel
theorem dX1_snowsOn_32 : decode cX1_snowsOn 32 = .ok (.irem, 1) := by decide +kernel
theorem dX1_snowsOn_33 : decode cX1_snowsOn 33 = .ok (.iaload, 1) := by decide +kernel
theorem dX1_snowsOn_34 : decode cX1_snowsOn 34 = .ok (.iconst 1, 1) := by decide +kernel
theorem dX1_snowsOn_35 : decode cX1_snowsOn 35 = .ok (.if_icmp .ne 7, 3) := by decide +kernel
theorem dX1_snowsOn_38 : decode cX1_snowsOn 38 = .ok (.iconst 1, 1) := by decide +kernel
theorem dX1_snowsOn_39 : decode cX1_snowsOn 39 = .ok (.goto 4, 3) := by decide +kernel
theorem dX1_snowsOn_42 : decode cX1_snowsOn 42 = .ok (.iconst 0, 1) := by decide +kernel
theorem dX1_snowsOn_43 : decode cX1_snowsOn 43 = .ok (.ireturn, 1) := by decide +kernel
theorem dX1_beside_0 : decode cX1_beside 0 = .ok (.iload_n 1, 1) := by decide +kernel
theorem dX1_beside_1 : decode cX1_beside 1 = .ok (.ifCond .lt 19, 3) := by decide +kernel
theorem dX1_beside_4 : decode cX1_beside 4 = .ok (.iload_n 1, 1) := by decide +kernel
theorem dX1_beside_5 : decode cX1_beside 5 = .ok (.aload_n 0, 1) := by decide +kernel
theorem dX1_beside_6 : decode cX1_beside 6 = .ok (.getfield 9, 3) := by decide +kernel
theorem dX1_beside_9 : decode cX1_beside 9 = .ok (.if_icmp .ge 11, 3) := by decide +kernel
theorem dX1_beside_12 : decode cX1_beside 12 = .ok (.aload_n 0, 1) := by decide +kernel
theorem dX1_beside_13 : decode cX1_beside 13 = .ok (.getfield 15, 3) := by decide +kernel
theorem dX1_beside_16 : decode cX1_beside 16 = .ok (.iconst 1, 1) := by decide +kernel
theorem dX1_beside_17 : decode cX1_beside 17 = .ok (.if_icmp .ge 6, 3) := by decide +kernel
theorem dX1_beside_20 : decode cX1_beside 20 = .ok (.bipush (-4), 2) := by decide +kernel
theorem dX1_beside_22 : decode cX1_beside 22 = .ok (.ireturn, 1) := by decide +kernel
theorem dX1_beside_23 : decode cX1_beside 23 = .ok (.iload_n 2, 1) := by decide +kernel
theorem dX1_beside_24 : decode cX1_beside 24 = .ok (.tableswitch 119 0 3 #[32, 52, 76, 101], 32) := by decide +kernel
theorem dX1_beside_56 : decode cX1_beside 56 = .ok (.iload_n 1, 1) := by decide +kernel
theorem dX1_beside_57 : decode cX1_beside 57 = .ok (.aload_n 0, 1) := by decide +kernel
theorem dX1_beside_58 : decode cX1_beside 58 = .ok (.getfield 15, 3) := by decide +kernel
theorem dX1_beside_61 : decode cX1_beside 61 = .ok (.if_icmp .ge 8, 3) := by decide +kernel
theorem dX1_beside_64 : decode cX1_beside 64 = .ok (.bipush (-4), 2) := by decide +kernel
theorem dX1_beside_66 : decode cX1_beside 66 = .ok (.goto 9, 3) := by decide +kernel
theorem dX1_beside_69 : decode cX1_beside 69 = .ok (.iload_n 1, 1) := by decide +kernel
theorem dX1_beside_70 : decode cX1_beside 70 = .ok (.aload_n 0, 1) := by decide +kernel
theorem dX1_beside_71 : decode cX1_beside 71 = .ok (.getfield 15, 3) := by decide +kernel
theorem dX1_beside_74 : decode cX1_beside 74 = .ok (.isub, 1) := by decide +kernel
theorem dX1_beside_75 : decode cX1_beside 75 = .ok (.ireturn, 1) := by decide +kernel
theorem dX1_beside_76 : decode cX1_beside 76 = .ok (.iload_n 1, 1) := by decide +kernel
theorem dX1_beside_77 : decode cX1_beside 77 = .ok (.aload_n 0, 1) := by decide +kernel
theorem dX1_beside_78 : decode cX1_beside 78 = .ok (.getfield 15, 3) := by decide +kernel
theorem dX1_beside_81 : decode cX1_beside 81 = .ok (.irem, 1) := by decide +kernel
theorem dX1_beside_82 : decode cX1_beside 82 = .ok (.aload_n 0, 1) := by decide +kernel
theorem dX1_beside_83 : decode cX1_beside 83 = .ok (.getfield 15, 3) := by decide +kernel
theorem dX1_beside_86 : decode cX1_beside 86 = .ok (.iconst 1, 1) := by decide +kernel
theorem dX1_beside_87 : decode cX1_beside 87 = .ok (.isub, 1) := by decide +kernel
theorem dX1_beside_88 : decode cX1_beside 88 = .ok (.if_icmp .ne 8, 3) := by decide +kernel
theorem dX1_beside_91 : decode cX1_beside 91 = .ok (.bipush (-4), 2) := by decide +kernel
theorem dX1_beside_93 : decode cX1_beside 93 = .ok (.goto 6, 3) := by decide +kernel
theorem dX1_beside_96 : decode cX1_beside 96 = .ok (.iload_n 1, 1) := by decide +kernel
theorem dX1_beside_97 : decode cX1_beside 97 = .ok (.iconst 1, 1) := by decide +kernel
theorem dX1_beside_98 : decode cX1_beside 98 = .ok (.iadd, 1) := by decide +kernel
theorem dX1_beside_99 : decode cX1_beside 99 = .ok (.ireturn, 1) := by decide +kernel
theorem dX1_beside_100 : decode cX1_beside 100 = .ok (.iload_n 1, 1) := by decide +kernel
theorem dX1_beside_101 : decode cX1_beside 101 = .ok (.aload_n 0, 1) := by decide +kernel
theorem dX1_beside_102 : decode cX1_beside 102 = .ok (.getfield 15, 3) := by decide +kernel
theorem dX1_beside_105 : decode cX1_beside 105 = .ok (.iadd, 1) := by decide +kernel
theorem dX1_beside_106 : decode cX1_beside 106 = .ok (.aload_n 0, 1) := by decide +kernel
theorem dX1_beside_107 : decode cX1_beside 107 = .ok (.getfield 9, 3) := by decide +kernel
theorem dX1_beside_110 : decode cX1_beside 110 = .ok (.if_icmp .lt 8, 3) := by decide +kernel
theorem dX1_beside_113 : decode cX1_beside 113 = .ok (.bipush (-4), 2) := by decide +kernel
theorem dX1_beside_115 : decode cX1_beside 115 = .ok (.goto 9, 3) := by decide +kernel
theorem dX1_beside_118 : decode cX1_beside 118 = .ok (.iload_n 1, 1) := by decide +kernel
theorem dX1_beside_119 : decode cX1_beside 119 = .ok (.aload_n 0, 1) := by decide +kernel
theorem dX1_beside_120 : decode cX1_beside 120 = .ok (.getfield 15, 3) := by decide +kernel
theorem dX1_beside_123 : decode cX1_beside 123 = .ok (.iadd, 1) := by decide +kernel
theorem dX1_beside_124 : decode cX1_beside 124 = .ok (.ireturn, 1) := by decide +kernel
theorem dX1_beside_125 : decode cX1_beside 125 = .ok (.iload_n 1, 1) := by decide +kernel
theorem dX1_beside_126 : decode cX1_beside 126 = .ok (.aload_n 0, 1) := by decide +kernel
theorem dX1_beside_127 : decode cX1_beside 127 = .ok (.getfield 15, 3) := by decide +kernel
theorem dX1_beside_130 : decode cX1_beside 130 = .ok (.irem, 1) := by decide +kernel
theorem dX1_beside_131 : decode cX1_beside 131 = .ok (.ifCond .ne 8, 3) := by decide +kernel
theorem dX1_beside_134 : decode cX1_beside 134 = .ok (.bipush (-4), 2) := by decide +kernel
theorem dX1_beside_136 : decode cX1_beside 136 = .ok (.goto 6, 3) := by decide +kernel
theorem dX1_beside_139 : decode cX1_beside 139 = .ok (.iload_n 1, 1) := by decide +kernel
theorem dX1_beside_140 : decode cX1_beside 140 = .ok (.iconst 1, 1) := by decide +kernel
theorem dX1_beside_141 : decode cX1_beside 141 = .ok (.isub, 1) := by decide +kernel
theorem dX1_beside_142 : decode cX1_beside 142 = .ok (.ireturn, 1) := by decide +kernel
theorem dX1_beside_143 : decode cX1_beside 143 = .ok (.bipush (-4), 2) := by decide +kernel
theorem dX1_beside_145 : decode cX1_beside 145 = .ok (.ireturn, 1) := by decide +kernel
theorem dX1_turnsPawn_0 : decode cX1_turnsPawn 0 = .ok (.iload_n 1, 1) := by decide +kernel
theorem dX1_turnsPawn_1 : decode cX1_turnsPawn 1 = .ok (.ifCond .ne 19, 3) := by decide +kernel
theorem dX1_turnsPawn_4 : decode cX1_turnsPawn 4 = .ok (.iload_n 2, 1) := by decide +kernel
theorem dX1_turnsPawn_5 : decode cX1_turnsPawn 5 = .ok (.aload_n 0, 1) := by decide +kernel
theorem dX1_turnsPawn_6 : decode cX1_turnsPawn 6 = .ok (.getfield 15, 3) := by decide +kernel
theorem dX1_turnsPawn_9 : decode cX1_turnsPawn 9 = .ok (.if_icmp .ge 7, 3) := by decide +kernel
theorem dX1_turnsPawn_12 : decode cX1_turnsPawn 12 = .ok (.iconst 1, 1) := by decide +kernel
theorem dX1_turnsPawn_13 : decode cX1_turnsPawn 13 = .ok (.goto 25, 3) := by decide +kernel
theorem dX1_turnsPawn_16 : decode cX1_turnsPawn 16 = .ok (.iconst 0, 1) := by decide +kernel
theorem dX1_turnsPawn_17 : decode cX1_turnsPawn 17 = .ok (.goto 21, 3) := by decide +kernel
theorem dX1_turnsPawn_20 : decode cX1_turnsPawn 20 = .ok (.iload_n 2, 1) := by decide +kernel
theorem dX1_turnsPawn_21 : decode cX1_turnsPawn 21 = .ok (.aload_n 0, 1) := by decide +kernel
theorem dX1_turnsPawn_22 : decode cX1_turnsPawn 22 = .ok (.getfield 9, 3) := by decide +kernel
theorem dX1_turnsPawn_25 : decode cX1_turnsPawn 25 = .ok (.aload_n 0, 1) := by decide +kernel
theorem dX1_turnsPawn_26 : decode cX1_turnsPawn 26 = .ok (.getfield 15, 3) := by decide +kernel
theorem dX1_turnsPawn_29 : decode cX1_turnsPawn 29 = .ok (.isub, 1) := by decide +kernel
theorem dX1_turnsPawn_30 : decode cX1_turnsPawn 30 = .ok (.if_icmp .lt 7, 3) := by decide +kernel
theorem dX1_turnsPawn_33 : decode cX1_turnsPawn 33 = .ok (.iconst 1, 1) := by decide +kernel
theorem dX1_turnsPawn_34 : decode cX1_turnsPawn 34 = .ok (.goto 4, 3) := by decide +kernel
theorem dX1_turnsPawn_37 : decode cX1_turnsPawn 37 = .ok (.iconst 0, 1) := by decide +kernel
theorem dX1_turnsPawn_38 : decode cX1_turnsPawn 38 = .ok (.ireturn, 1) := by decide +kernel
theorem dX2_init_0 : decode cX2_init 0 = .ok (.aload_n 0, 1) := by decide +kernel
theorem dX2_init_1 : decode cX2_init 1 = .ok (.invokespecial 3, 3) := by decide +kernel
theorem dX2_init_4 : decode cX2_init 4 = .ok (.aload_n 0, 1) := by decide +kernel
theorem dX2_init_5 : decode cX2_init 5 = .ok (.bipush 36, 2) := by decide +kernel
theorem dX2_init_7 : decode cX2_init 7 = .ok (.newarray .int, 2) := by decide +kernel
theorem dX2_init_9 : decode cX2_init 9 = .ok (.putfield 9, 3) := by decide +kernel
theorem dX2_init_12 : decode cX2_init 12 = .ok (.aload_n 0, 1) := by decide +kernel
theorem dX2_init_13 : decode cX2_init 13 = .ok (.bipush 8, 2) := by decide +kernel
theorem dX2_init_15 : decode cX2_init 15 = .ok (.newarray .int, 2) := by decide +kernel
theorem dX2_init_17 : decode cX2_init 17 = .ok (.putfield 15, 3) := by decide +kernel
theorem dX2_init_20 : decode cX2_init 20 = .ok (.aload_n 0, 1) := by decide +kernel
theorem dX2_init_21 : decode cX2_init 21 = .ok (.bipush 8, 2) := by decide +kernel
theorem dX2_init_23 : decode cX2_init 23 = .ok (.newarray .int, 2) := by decide +kernel
theorem dX2_init_25 : decode cX2_init 25 = .ok (.putfield 18, 3) := by decide +kernel
theorem dX2_init_28 : decode cX2_init 28 = .ok (.aload_n 0, 1) := by decide +kernel
theorem dX2_init_29 : decode cX2_init 29 = .ok (.bipush 8, 2) := by decide +kernel
theorem dX2_init_31 : decode cX2_init 31 = .ok (.newarray .int, 2) := by decide +kernel
theorem dX2_init_33 : decode cX2_init 33 = .ok (.putfield 21, 3) := by decide +kernel
theorem dX2_init_36 : decode cX2_init 36 = .ok (.aload_n 0, 1) := by decide +kernel
theorem dX2_init_37 : decode cX2_init 37 = .ok (.iconst 0, 1) := by decide +kernel
theorem dX2_init_38 : decode cX2_init 38 = .ok (.putfield 24, 3) := by decide +kernel
theorem dX2_init_41 : decode cX2_init 41 = .ok (.aload_n 0, 1) := by decide +kernel
theorem dX2_init_42 : decode cX2_init 42 = .ok (.aload_n 1, 1) := by decide +kernel
theorem dX2_init_43 : decode cX2_init 43 = .ok (.putfield 28, 3) := by decide +kernel
theorem dX2_init_46 : decode cX2_init 46 = .ok (.return_, 1) := by decide +kernel
theorem dX2_copyFrom_0 : decode cX2_copyFrom 0 = .ok (.aload_n 1, 1) := by decide +kernel
theorem dX2_copyFrom_1 : decode cX2_copyFrom 1 = .ok (.getfield 9, 3) := by decide +kernel
theorem dX2_copyFrom_4 : decode cX2_copyFrom 4 = .ok (.iconst 0, 1) := by decide +kernel
theorem dX2_copyFrom_5 : decode cX2_copyFrom 5 = .ok (.aload_n 0, 1) := by decide +kernel
theorem dX2_copyFrom_6 : decode cX2_copyFrom 6 = .ok (.getfield 9, 3) := by decide +kernel
theorem dX2_copyFrom_9 : decode cX2_copyFrom 9 = .ok (.iconst 0, 1) := by decide +kernel
theorem dX2_copyFrom_10 : decode cX2_copyFrom 10 = .ok (.bipush 36, 2) := by decide +kernel
theorem dX2_copyFrom_12 : decode cX2_copyFrom 12 = .ok (.invokestatic 32, 3) := by decide +kernel
theorem dX2_copyFrom_15 : decode cX2_copyFrom 15 = .ok (.aload_n 1, 1) := by decide +kernel
theorem dX2_copyFrom_16 : decode cX2_copyFrom 16 = .ok (.getfield 15, 3) := by decide +kernel
theorem dX2_copyFrom_19 : decode cX2_copyFrom 19 = .ok (.iconst 0, 1) := by decide +kernel
theorem dX2_copyFrom_20 : decode cX2_copyFrom 20 = .ok (.aload_n 0, 1) := by decide +kernel
theorem dX2_copyFrom_21 : decode cX2_copyFrom 21 = .ok (.getfield 15, 3) := by decide +kernel
theorem dX2_copyFrom_24 : decode cX2_copyFrom 24 = .ok (.iconst 0, 1) := by decide +kernel
theorem dX2_copyFrom_25 : decode cX2_copyFrom 25 = .ok (.bipush 8, 2) := by decide +kernel
theorem dX2_copyFrom_27 : decode cX2_copyFrom 27 = .ok (.invokestatic 32, 3) := by decide +kernel
theorem dX2_copyFrom_30 : decode cX2_copyFrom 30 = .ok (.aload_n 1, 1) := by decide +kernel
theorem dX2_copyFrom_31 : decode cX2_copyFrom 31 = .ok (.getfield 18, 3) := by decide +kernel
theorem dX2_copyFrom_34 : decode cX2_copyFrom 34 = .ok (.iconst 0, 1) := by decide +kernel
theorem dX2_copyFrom_35 : decode cX2_copyFrom 35 = .ok (.aload_n 0, 1) := by decide +kernel
theorem dX2_copyFrom_36 : decode cX2_copyFrom 36 = .ok (.getfield 18, 3) := by decide +kernel
theorem dX2_copyFrom_39 : decode cX2_copyFrom 39 = .ok (.iconst 0, 1) := by decide +kernel
theorem dX2_copyFrom_40 : decode cX2_copyFrom 40 = .ok (.bipush 8, 2) := by decide +kernel
theorem dX2_copyFrom_42 : decode cX2_copyFrom 42 = .ok (.invokestatic 32, 3) := by decide +kernel
theorem dX2_copyFrom_45 : decode cX2_copyFrom 45 = .ok (.aload_n 1, 1) := by decide +kernel
theorem dX2_copyFrom_46 : decode cX2_copyFrom 46 = .ok (.getfield 21, 3) := by decide +kernel
theorem dX2_copyFrom_49 : decode cX2_copyFrom 49 = .ok (.iconst 0, 1) := by decide +kernel
theorem dX2_copyFrom_50 : decode cX2_copyFrom 50 = .ok (.aload_n 0, 1) := by decide +kernel
theorem dX2_copyFrom_51 : decode cX2_copyFrom 51 = .ok (.getfield 21, 3) := by decide +kernel
theorem dX2_copyFrom_54 : decode cX2_copyFrom 54 = .ok (.iconst 0, 1) := by decide +kernel
theorem dX2_copyFrom_55 : decode cX2_copyFrom 55 = .ok (.bipush 8, 2) := by decide +kernel
theorem dX2_copyFrom_57 : decode cX2_copyFrom 57 = .ok (.invokestatic 32, 3) := by decide +kernel
theorem dX2_copyFrom_60 : decode cX2_copyFrom 60 = .ok (.aload_n 0, 1) := by decide +kernel
theorem dX2_copyFrom_61 : decode cX2_copyFrom 61 = .ok (.aload_n 1, 1) := by decide +kernel
theorem dX2_copyFrom_62 : decode cX2_copyFrom 62 = .ok (.getfield 24, 3) := by decide +kernel
theorem dX2_copyFrom_65 : decode cX2_copyFrom 65 = .ok (.putfield 24, 3) := by decide +kernel
theorem dX2_copyFrom_68 : decode cX2_copyFrom 68 = .ok (.return_, 1) := by decide +kernel
theorem dX2_grassOn_0 : decode cX2_grassOn 0 = .ok (.iload_n 1, 1) := by decide +kernel
theorem dX2_grassOn_1 : decode cX2_grassOn 1 = .ok (.ifCond .lt 29, 3) := by decide +kernel
theorem dX2_grassOn_4 : decode cX2_grassOn 4 = .ok (.iload_n 1, 1) := by decide +kernel
theorem dX2_grassOn_5 : decode cX2_grassOn 5 = .ok (.aload_n 0, 1) := by decide +kernel
theorem dX2_grassOn_6 : decode cX2_grassOn 6 = .ok (.getfield 28, 3) := by decide +kernel
theorem dX2_grassOn_9 : decode cX2_grassOn 9 = .ok (.getfield 38, 3) := by decide +kernel
theorem dX2_grassOn_12 : decode cX2_grassOn 12 = .ok (.if_icmp .ge 18, 3) := by decide +kernel
theorem dX2_grassOn_15 : decode cX2_grassOn 15 = .ok (.iload_n 1, 1) := by decide +kernel
theorem dX2_grassOn_16 : decode cX2_grassOn 16 = .ok (.bipush 36, 2) := by decide +kernel
theorem dX2_grassOn_18 : decode cX2_grassOn 18 = .ok (.if_icmp .ge 12, 3) := by decide +kernel
theorem dX2_grassOn_21 : decode cX2_grassOn 21 = .ok (.aload_n 0, 1) := by decide +kernel
theorem dX2_grassOn_22 : decode cX2_grassOn 22 = .ok (.getfield 9, 3) := by decide +kernel
theorem dX2_grassOn_25 : decode cX2_grassOn 25 = .ok (.iload_n 1, 1) := by decide +kernel
theorem dX2_grassOn_26 : decode cX2_grassOn 26 = .ok (.iaload, 1) := by decide +kernel
theorem dX2_grassOn_27 : decode cX2_grassOn 27 = .ok (.goto 5, 3) := by decide +kernel
theorem dX2_grassOn_30 : decode cX2_grassOn 30 = .ok (.bipush 9, 2) := by decide +kernel
theorem dX2_grassOn_32 : decode cX2_grassOn 32 = .ok (.ireturn, 1) := by decide +kernel
theorem dX2_kindOf_0 : decode cX2_kindOf 0 = .ok (.iload_n 1, 1) := by decide +kernel
theorem dX2_kindOf_1 : decode cX2_kindOf 1 = .ok (.ifCond .lt 29, 3) := by decide +kernel
theorem dX2_kindOf_4 : decode cX2_kindOf 4 = .ok (.iload_n 1, 1) := by decide +kernel
theorem dX2_kindOf_5 : decode cX2_kindOf 5 = .ok (.aload_n 0, 1) := by decide +kernel
theorem dX2_kindOf_6 : decode cX2_kindOf 6 = .ok (.getfield 28, 3) := by decide +kernel
theorem dX2_kindOf_9 : decode cX2_kindOf 9 = .ok (.getfield 43, 3) := by decide +kernel
theorem dX2_kindOf_12 : decode cX2_kindOf 12 = .ok (.if_icmp .ge 18, 3) := by decide +kernel
theorem dX2_kindOf_15 : decode cX2_kindOf 15 = .ok (.iload_n 1, 1) := by decide +kernel
theorem dX2_kindOf_16 : decode cX2_kindOf 16 = .ok (.bipush 8, 2) := by decide +kernel
theorem dX2_kindOf_18 : decode cX2_kindOf 18 = .ok (.if_icmp .ge 12, 3) := by decide +kernel
theorem dX2_kindOf_21 : decode cX2_kindOf 21 = .ok (.aload_n 0, 1) := by decide +kernel
theorem dX2_kindOf_22 : decode cX2_kindOf 22 = .ok (.getfield 18, 3) := by decide +kernel
theorem dX2_kindOf_25 : decode cX2_kindOf 25 = .ok (.iload_n 1, 1) := by decide +kernel
theorem dX2_kindOf_26 : decode cX2_kindOf 26 = .ok (.iaload, 1) := by decide +kernel
theorem dX2_kindOf_27 : decode cX2_kindOf 27 = .ok (.goto 5, 3) := by decide +kernel
theorem dX2_kindOf_30 : decode cX2_kindOf 30 = .ok (.bipush (-4), 2) := by decide +kernel
theorem dX2_kindOf_32 : decode cX2_kindOf 32 = .ok (.ireturn, 1) := by decide +kernel
theorem dX2_placeOf_0 : decode cX2_placeOf 0 = .ok (.iload_n 1, 1) := by decide +kernel
theorem dX2_placeOf_1 : decode cX2_placeOf 1 = .ok (.ifCond .lt 29, 3) := by decide +kernel
theorem dX2_placeOf_4 : decode cX2_placeOf 4 = .ok (.iload_n 1, 1) := by decide +kernel
theorem dX2_placeOf_5 : decode cX2_placeOf 5 = .ok (.aload_n 0, 1) := by decide +kernel
theorem dX2_placeOf_6 : decode cX2_placeOf 6 = .ok (.getfield 28, 3) := by decide +kernel
theorem dX2_placeOf_9 : decode cX2_placeOf 9 = .ok (.getfield 43, 3) := by decide +kernel
theorem dX2_placeOf_12 : decode cX2_placeOf 12 = .ok (.if_icmp .ge 18, 3) := by decide +kernel
theorem dX2_placeOf_15 : decode cX2_placeOf 15 = .ok (.iload_n 1, 1) := by decide +kernel
theorem dX2_placeOf_16 : decode cX2_placeOf 16 = .ok (.bipush 8, 2) := by decide +kernel
theorem dX2_placeOf_18 : decode cX2_placeOf 18 = .ok (.if_icmp .ge 12, 3) := by decide +kernel
theorem dX2_placeOf_21 : decode cX2_placeOf 21 = .ok (.aload_n 0, 1) := by decide +kernel
theorem dX2_placeOf_22 : decode cX2_placeOf 22 = .ok (.getfield 15, 3) := by decide +kernel
theorem dX2_placeOf_25 : decode cX2_placeOf 25 = .ok (.iload_n 1, 1) := by decide +kernel
theorem dX2_placeOf_26 : decode cX2_placeOf 26 = .ok (.iaload, 1) := by decide +kernel
theorem dX2_placeOf_27 : decode cX2_placeOf 27 = .ok (.goto 5, 3) := by decide +kernel
theorem dX2_placeOf_30 : decode cX2_placeOf 30 = .ok (.bipush (-4), 2) := by decide +kernel
theorem dX2_placeOf_32 : decode cX2_placeOf 32 = .ok (.ireturn, 1) := by decide +kernel
theorem dX2_hungerOf_0 : decode cX2_hungerOf 0 = .ok (.iload_n 1, 1) := by decide +kernel
theorem dX2_hungerOf_1 : decode cX2_hungerOf 1 = .ok (.ifCond .lt 29, 3) := by decide +kernel
theorem dX2_hungerOf_4 : decode cX2_hungerOf 4 = .ok (.iload_n 1, 1) := by decide +kernel
theorem dX2_hungerOf_5 : decode cX2_hungerOf 5 = .ok (.aload_n 0, 1) := by decide +kernel
theorem dX2_hungerOf_6 : decode cX2_hungerOf 6 = .ok (.getfield 28, 3) := by decide +kernel
theorem dX2_hungerOf_9 : decode cX2_hungerOf 9 = .ok (.getfield 43, 3) := by decide +kernel
theorem dX2_hungerOf_12 : decode cX2_hungerOf 12 = .ok (.if_icmp .ge 18, 3) := by decide +kernel
theorem dX2_hungerOf_15 : decode cX2_hungerOf 15 = .ok (.iload_n 1, 1) := by decide +kernel
theorem dX2_hungerOf_16 : decode cX2_hungerOf 16 = .ok (.bipush 8, 2) := by decide +kernel
theorem dX2_hungerOf_18 : decode cX2_hungerOf 18 = .ok (.if_icmp .ge 12, 3) := by decide +kernel
theorem dX2_hungerOf_21 : decode cX2_hungerOf 21 = .ok (.aload_n 0, 1) := by decide +kernel
theorem dX2_hungerOf_22 : decode cX2_hungerOf 22 = .ok (.getfield 21, 3) := by decide +kernel
theorem dX2_hungerOf_25 : decode cX2_hungerOf 25 = .ok (.iload_n 1, 1) := by decide +kernel
theorem dX2_hungerOf_26 : decode cX2_hungerOf 26 = .ok (.iaload, 1) := by decide +kernel
theorem dX2_hungerOf_27 : decode cX2_hungerOf 27 = .ok (.goto 5, 3) := by decide +kernel
theorem dX2_hungerOf_30 : decode cX2_hungerOf 30 = .ok (.bipush (-4), 2) := by decide +kernel
theorem dX2_hungerOf_32 : decode cX2_hungerOf 32 = .ok (.ireturn, 1) := by decide +kernel
theorem dX2_isOff_0 : decode cX2_isOff 0 = .ok (.aload_n 0, 1) := by decide +kernel
theorem dX2_isOff_1 : decode cX2_isOff 1 = .ok (.iload_n 1, 1) := by decide +kernel
theorem dX2_isOff_2 : decode cX2_isOff 2 = .ok (.invokevirtual 46, 3) := by decide +kernel
theorem dX2_isOff_5 : decode cX2_isOff 5 = .ok (.bipush (-4), 2) := by decide +kernel
theorem dX2_isOff_7 : decode cX2_isOff 7 = .ok (.if_icmp .ne 7, 3) := by decide +kernel
theorem dX2_isOff_10 : decode cX2_isOff 10 = .ok (.iconst 1, 1) := by decide +kernel
theorem dX2_isOff_11 : decode cX2_isOff 11 = .ok (.goto 4, 3) := by decide +kernel
theorem dX2_isOff_14 : decode cX2_isOff 14 = .ok (.iconst 0, 1) := by decide +kernel
theorem dX2_isOff_15 : decode cX2_isOff 15 = .ok (.ireturn, 1) := by decide +kernel
theorem dX2_turn_0 : decode cX2_turn 0 = .ok (.aload_n 0, 1) := by decide +kernel
theorem dX2_turn_1 : decode cX2_turn 1 = .ok (.getfield 24, 3) := by decide +kernel
theorem dX2_turn_4 : decode cX2_turn 4 = .ok (.iconst 1, 1) := by decide +kernel
theorem dX2_turn_5 : decode cX2_turn 5 = .ok (.iand, 1) := by decide +kernel
theorem dX2_turn_6 : decode cX2_turn 6 = .ok (.ireturn, 1) := by decide +kernel
theorem dX2_snowing_0 : decode cX2_snowing 0 = .ok (.aload_n 0, 1) := by decide +kernel
theorem dX2_snowing_1 : decode cX2_snowing 1 = .ok (.getfield 28, 3) := by decide +kernel
theorem dX2_snowing_4 : decode cX2_snowing 4 = .ok (.aload_n 0, 1) := by decide +kernel
theorem dX2_snowing_5 : decode cX2_snowing 5 = .ok (.getfield 24, 3) := by decide +kernel
theorem dX2_snowing_8 : decode cX2_snowing 8 = .ok (.invokevirtual 50, 3) := by decide +kernel
theorem dX2_snowing_11 : decode cX2_snowing 11 = .ok (.ireturn, 1) := by decide +kernel
theorem dX2_occupant_0 : decode cX2_occupant 0 = .ok (.iload_n 1, 1) := by decide +kernel
theorem dX2_occupant_1 : decode cX2_occupant 1 = .ok (.ifCond .ge 6, 3) := by decide +kernel
theorem dX2_occupant_4 : decode cX2_occupant 4 = .ok (.bipush (-4), 2) := by decide +kernel
theorem dX2_occupant_6 : decode cX2_occupant 6 = .ok (.ireturn, 1) := by decide +kernel
theorem dX2_occupant_7 : decode cX2_occupant 7 = .ok (.iconst 0, 1) := by decide +kernel
theorem dX2_occupant_8 : decode cX2_occupant 8 = .ok (.istore_n 2, 1) := by decide +kernel
theorem dX2_occupant_9 : decode cX2_occupant 9 = .ok (.iload_n 2, 1) := by decide +kernel
theorem dX2_occupant_10 : decode cX2_occupant 10 = .ok (.aload_n 0, 1) := by decide +kernel
theorem dX2_occupant_11 : decode cX2_occupant 11 = .ok (.getfield 28, 3) := by decide +kernel
theorem dX2_occupant_14 : decode cX2_occupant 14 = .ok (.getfield 43, 3) := by decide +kernel
theorem dX2_occupant_17 : decode cX2_occupant 17 = .ok (.if_icmp .ge 27, 3) := by decide +kernel
theorem dX2_occupant_20 : decode cX2_occupant 20 = .ok (.iload_n 2, 1) := by decide +kernel
theorem dX2_occupant_21 : decode cX2_occupant 21 = .ok (.bipush 8, 2) := by decide +kernel
theorem dX2_occupant_23 : decode cX2_occupant 23 = .ok (.if_icmp .ge 21, 3) := by decide +kernel
theorem dX2_occupant_26 : decode cX2_occupant 26 = .ok (.aload_n 0, 1) := by decide +kernel
theorem dX2_occupant_27 : decode cX2_occupant 27 = .ok (.getfield 15, 3) := by decide +kernel
theorem dX2_occupant_30 : decode cX2_occupant 30 = .ok (.iload_n 2, 1) := by decide +kernel
theorem dX2_occupant_31 : decode cX2_occupant 31 = .ok (.iaload, 1) := by decide +kernel
theorem dX2_occupant_32 : decode cX2_occupant 32 = .ok (.iload_n 1, 1) := by decide +kernel
theorem dX2_occupant_33 : decode cX2_occupant 33 = .ok (.if_icmp .ne 5, 3) := by decide +kernel
theorem dX2_occupant_36 : decode cX2_occupant 36 = .ok (.iload_n 2, 1) := by decide +kernel
theorem dX2_occupant_37 : decode cX2_occupant 37 = .ok (.ireturn, 1) := by decide +kernel
theorem dX2_occupant_38 : decode cX2_occupant 38 = .ok (.iinc 2 1, 3) := by decide +kernel
theorem dX2_occupant_41 : decode cX2_occupant 41 = .ok (.goto (-32), 3) := by decide +kernel
theorem dX2_occupant_44 : decode cX2_occupant 44 = .ok (.bipush (-4), 2) := by decide +kernel
theorem dX2_occupant_46 : decode cX2_occupant 46 = .ok (.ireturn, 1) := by decide +kernel
theorem dX2_put_0 : decode cX2_put 0 = .ok (.aload_n 0, 1) := by decide +kernel
theorem dX2_put_1 : decode cX2_put 1 = .ok (.getfield 28, 3) := by decide +kernel
theorem dX2_put_4 : decode cX2_put 4 = .ok (.iload_n 1, 1) := by decide +kernel
theorem dX2_put_5 : decode cX2_put 5 = .ok (.invokevirtual 54, 3) := by decide +kernel
theorem dX2_put_8 : decode cX2_put 8 = .ok (.ifCond .eq 17, 3) := by decide +kernel
theorem dX2_put_11 : decode cX2_put 11 = .ok (.aload_n 0, 1) := by decide +kernel
theorem dX2_put_12 : decode cX2_put 12 = .ok (.getfield 15, 3) := by decide +kernel
theorem dX2_put_15 : decode cX2_put 15 = .ok (.iload_n 1, 1) := by decide +kernel
theorem dX2_put_16 : decode cX2_put 16 = .ok (.iload_n 2, 1) := by decide +kernel
theorem dX2_put_17 : decode cX2_put 17 = .ok (.iastore, 1) := by decide +kernel
theorem dX2_put_18 : decode cX2_put 18 = .ok (.aload_n 0, 1) := by decide +kernel
theorem dX2_put_19 : decode cX2_put 19 = .ok (.getfield 18, 3) := by decide +kernel
theorem dX2_put_22 : decode cX2_put 22 = .ok (.iload_n 1, 1) := by decide +kernel
theorem dX2_put_23 : decode cX2_put 23 = .ok (.iload_n 3, 1) := by decide +kernel
theorem dX2_put_24 : decode cX2_put 24 = .ok (.iastore, 1) := by decide +kernel
theorem dX2_put_25 : decode cX2_put 25 = .ok (.return_, 1) := by decide +kernel
theorem dX2_reach_0 : decode cX2_reach 0 = .ok (.aload_n 0, 1) := by decide +kernel
theorem dX2_reach_1 : decode cX2_reach 1 = .ok (.iload_n 1, 1) := by decide +kernel
theorem dX2_reach_2 : decode cX2_reach 2 = .ok (.invokevirtual 57, 3) := by decide +kernel
theorem dX2_reach_5 : decode cX2_reach 5 = .ok (.istore 4, 2) := by decide +kernel
theorem dX2_reach_7 : decode cX2_reach 7 = .ok (.aload_n 0, 1) := by decide +kernel
theorem dX2_reach_8 : decode cX2_reach 8 = .ok (.iload_n 1, 1) := by decide +kernel
theorem dX2_reach_9 : decode cX2_reach 9 = .ok (.invokevirtual 60, 3) := by decide +kernel
theorem dX2_reach_12 : decode cX2_reach 12 = .ok (.ifCond .ne 29, 3) := by decide +kernel
theorem dX2_reach_15 : decode cX2_reach 15 = .ok (.iload 4, 2) := by decide +kernel
theorem dX2_reach_17 : decode cX2_reach 17 = .ok (.iconst 2, 1) := by decide +kernel
theorem dX2_reach_18 : decode cX2_reach 18 = .ok (.if_icmp .ne 26, 3) := by decide +kernel
theorem dX2_reach_21 : decode cX2_reach 21 = .ok (.iload_n 2, 1) := by decide +kernel
theorem dX2_reach_22 : decode cX2_reach 22 = .ok (.aload_n 0, 1) := by decide +kernel
theorem dX2_reach_23 : decode cX2_reach 23 = .ok (.getfield 28, 3) := by decide +kernel
theorem dX2_reach_26 : decode cX2_reach 26 = .ok (.iload_n 1, 1) := by decide +kernel
theorem dX2_reach_27 : decode cX2_reach 27 = .ok (.invokevirtual 63, 3) := by decide +kernel
theorem dX2_reach_30 : decode cX2_reach 30 = .ok (.ifCond .ne 7, 3) := by decide +kernel
theorem dX2_reach_33 : decode cX2_reach 33 = .ok (.iconst 0, 1) := by decide +kernel
theorem dX2_reach_34 : decode cX2_reach 34 = .ok (.goto 4, 3) := by decide +kernel
theorem dX2_reach_37 : decode cX2_reach 37 = .ok (.iconst 2, 1) := by decide +kernel
theorem dX2_reach_38 : decode cX2_reach 38 = .ok (.if_icmp .eq 6, 3) := by decide +kernel
theorem dX2_reach_41 : decode cX2_reach 41 = .ok (.bipush (-4), 2) := by decide +kernel
theorem dX2_reach_43 : decode cX2_reach 43 = .ok (.ireturn, 1) := by decide +kernel
theorem dX2_reach_44 : decode cX2_reach 44 = .ok (.bipush (-4), 2) := by decide +kernel
theorem dX2_reach_46 : decode cX2_reach 46 = .ok (.istore 5, 2) := by decide +kernel
theorem dX2_reach_48 : decode cX2_reach 48 = .ok (.aload_n 0, 1) := by decide +kernel
theorem dX2_reach_49 : decode cX2_reach 49 = .ok (.getfield 28, 3) := by decide +kernel
theorem dX2_reach_52 : decode cX2_reach 52 = .ok (.aload_n 0, 1) := by decide +kernel
theorem dX2_reach_53 : decode cX2_reach 53 = .ok (.iload_n 1, 1) := by decide +kernel
theorem dX2_reach_54 : decode cX2_reach 54 = .ok (.invokevirtual 46, 3) := by decide +kernel
theorem dX2_reach_57 : decode cX2_reach 57 = .ok (.iload_n 2, 1) := by decide +kernel
theorem dX2_reach_58 : decode cX2_reach 58 = .ok (.invokevirtual 66, 3) := by decide +kernel
theorem dX2_reach_61 : decode cX2_reach 61 = .ok (.istore 6, 2) := by decide +kernel
theorem dX2_reach_63 : decode cX2_reach 63 = .ok (.iconst 0, 1) := by decide +kernel
theorem dX2_reach_64 : decode cX2_reach 64 = .ok (.istore 7, 2) := by decide +kernel
theorem dX2_reach_66 : decode cX2_reach 66 = .ok (.iload 7, 2) := by decide +kernel
theorem dX2_reach_68 : decode cX2_reach 68 = .ok (.bipush 6, 2) := by decide +kernel
theorem dX2_reach_70 : decode cX2_reach 70 = .ok (.if_icmp .ge 64, 3) := by decide +kernel
theorem dX2_reach_73 : decode cX2_reach 73 = .ok (.aload_n 0, 1) := by decide +kernel
theorem dX2_reach_74 : decode cX2_reach 74 = .ok (.iload_n 1, 1) := by decide +kernel
theorem dX2_reach_75 : decode cX2_reach 75 = .ok (.iload 6, 2) := by decide +kernel
theorem dX2_reach_77 : decode cX2_reach 77 = .ok (.iload_n 3, 1) := by decide +kernel
theorem dX2_reach_78 : decode cX2_reach 78 = .ok (.invokevirtual 70, 3) := by decide +kernel
theorem dX2_reach_81 : decode cX2_reach 81 = .ok (.ifCond .eq 53, 3) := by decide +kernel
theorem dX2_reach_84 : decode cX2_reach 84 = .ok (.iload 6, 2) := by decide +kernel
theorem dX2_reach_86 : decode cX2_reach 86 = .ok (.istore 5, 2) := by decide +kernel
theorem dX2_reach_88 : decode cX2_reach 88 = .ok (.iload 4, 2) := by decide +kernel
theorem dX2_reach_90 : decode cX2_reach 90 = .ok (.ifCond .ne 23, 3) := by decide +kernel
theorem dX2_reach_93 : decode cX2_reach 93 = .ok (.aload_n 0, 1) := by decide +kernel
theorem dX2_reach_94 : decode cX2_reach 94 = .ok (.iload 5, 2) := by decide +kernel
theorem dX2_reach_96 : decode cX2_reach 96 = .ok (.invokevirtual 74, 3) := by decide +kernel
theorem dX2_reach_99 : decode cX2_reach 99 = .ok (.ifCond .gt 14, 3) := by decide +kernel
theorem dX2_reach_102 : decode cX2_reach 102 = .ok (.aload_n 0, 1) := by decide +kernel
theorem dX2_reach_103 : decode cX2_reach 103 = .ok (.iload 5, 2) := by decide +kernel
theorem dX2_reach_105 : decode cX2_reach 105 = .ok (.invokevirtual 77, 3) := by decide +kernel
theorem dX2_reach_108 : decode cX2_reach 108 = .ok (.bipush (-4), 2) := by decide +kernel
theorem dX2_reach_110 : decode cX2_reach 110 = .ok (.if_icmp .eq 6, 3) := by decide +kernel
theorem dX2_reach_113 : decode cX2_reach 113 = .ok (.iload 5, 2) := by decide +kernel
theorem dX2_reach_115 : decode cX2_reach 115 = .ok (.ireturn, 1) := by decide +kernel
theorem dX2_reach_116 : decode cX2_reach 116 = .ok (.aload_n 0, 1) := by decide +kernel
theorem dX2_reach_117 : decode cX2_reach 117 = .ok (.getfield 28, 3) := by decide +kernel
theorem dX2_reach_120 : decode cX2_reach 120 = .ok (.iload 5, 2) := by decide +kernel
theorem dX2_reach_122 : decode cX2_reach 122 = .ok (.iload_n 2, 1) := by decide +kernel
theorem dX2_reach_123 : decode cX2_reach 123 = .ok (.invokevirtual 66, 3) := by decide +kernel
theorem dX2_reach_126 : decode cX2_reach 126 = .ok (.istore 6, 2) := by decide +kernel
theorem dX2_reach_128 : decode cX2_reach 128 = .ok (.iinc 7 1, 3) := by decide +kernel
theorem dX2_reach_131 : decode cX2_reach 131 = .ok (.goto (-65), 3) := by decide +kernel
theorem dX2_reach_134 : decode cX2_reach 134 = .ok (.iload 5, 2) := by decide +kernel
theorem dX2_reach_136 : decode cX2_reach 136 = .ok (.ireturn, 1) := by decide +kernel
theorem dX2_isOpen_0 : decode cX2_isOpen 0 = .ok (.aload_n 0, 1) := by decide +kernel
theorem dX2_isOpen_1 : decode cX2_isOpen 1 = .ok (.iload_n 2, 1) := by decide +kernel
theorem dX2_isOpen_2 : decode cX2_isOpen 2 = .ok (.invokevirtual 74, 3) := by decide +kernel
theorem dX2_isOpen_5 : decode cX2_isOpen 5 = .ok (.bipush 9, 2) := by decide +kernel
theorem dX2_isOpen_7 : decode cX2_isOpen 7 = .ok (.if_icmp .ne 5, 3) := by decide +kernel
theorem dX2_isOpen_10 : decode cX2_isOpen 10 = .ok (.iconst 0, 1) := by decide +kernel
theorem dX2_isOpen_11 : decode cX2_isOpen 11 = .ok (.ireturn, 1) := by decide +kernel
theorem dX2_isOpen_12 : decode cX2_isOpen 12 = .ok (.aload_n 0, 1) := by decide +kernel
theorem dX2_isOpen_13 : decode cX2_isOpen 13 = .ok (.getfield 28, 3) := by decide +kernel
theorem dX2_isOpen_16 : decode cX2_isOpen 16 = .ok (.iload_n 1, 1) := by decide +kernel
theorem dX2_isOpen_17 : decode cX2_isOpen 17 = .ok (.invokevirtual 63, 3) := by decide +kernel
theorem dX2_isOpen_20 : decode cX2_isOpen 20 = .ok (.istore 4, 2) := by decide +kernel
theorem dX2_isOpen_22 : decode cX2_isOpen 22 = .ok (.aload_n 0, 1) := by decide +kernel
theorem dX2_isOpen_23 : decode cX2_isOpen 23 = .ok (.iload_n 2, 1) := by decide +kernel
theorem dX2_isOpen_24 : decode cX2_isOpen 24 = .ok (.invokevirtual 77, 3) := by decide +kernel
theorem dX2_isOpen_27 : decode cX2_isOpen 27 = .ok (.istore 5, 2) := by decide +kernel
theorem dX2_isOpen_29 : decode cX2_isOpen 29 = .ok (.iload 5, 2) := by decide +kernel
theorem dX2_isOpen_31 : decode cX2_isOpen 31 = .ok (.bipush (-4), 2) := by decide +kernel
theorem dX2_isOpen_33 : decode cX2_isOpen 33 = .ok (.if_icmp .eq 32, 3) := by decide +kernel
theorem dX2_isOpen_36 : decode cX2_isOpen 36 = .ok (.iload_n 3, 1) := by decide +kernel
theorem dX2_isOpen_37 : decode cX2_isOpen 37 = .ok (.ifCond .ne 26, 3) := by decide +kernel
theorem dX2_isOpen_40 : decode cX2_isOpen 40 = .ok (.aload_n 0, 1) := by decide +kernel
theorem dX2_isOpen_41 : decode cX2_isOpen 41 = .ok (.iload_n 1, 1) := by decide +kernel
theorem dX2_isOpen_42 : decode cX2_isOpen 42 = .ok (.invokevirtual 57, 3) := by decide +kernel
theorem dX2_isOpen_45 : decode cX2_isOpen 45 = .ok (.iconst 2, 1) := by decide +kernel
theorem dX2_isOpen_46 : decode cX2_isOpen 46 = .ok (.if_icmp .eq 17, 3) := by decide +kernel
theorem dX2_isOpen_49 : decode cX2_isOpen 49 = .ok (.aload_n 0, 1) := by decide +kernel
theorem dX2_isOpen_50 : decode cX2_isOpen 50 = .ok (.getfield 28, 3) := by decide +kernel
theorem dX2_isOpen_53 : decode cX2_isOpen 53 = .ok (.iload 5, 2) := by decide +kernel
theorem dX2_isOpen_55 : decode cX2_isOpen 55 = .ok (.invokevirtual 63, 3) := by decide +kernel
theorem dX2_isOpen_58 : decode cX2_isOpen 58 = .ok (.iload 4, 2) := by decide +kernel
theorem dX2_isOpen_60 : decode cX2_isOpen 60 = .ok (.if_icmp .ne 5, 3) := by decide +kernel
theorem dX2_isOpen_63 : decode cX2_isOpen 63 = .ok (.iconst 0, 1) := by decide +kernel
theorem dX2_isOpen_64 : decode cX2_isOpen 64 = .ok (.ireturn, 1) := by decide +kernel
theorem dX2_isOpen_65 : decode cX2_isOpen 65 = .ok (.aload_n 0, 1) := by decide +kernel
theorem dX2_isOpen_66 : decode cX2_isOpen 66 = .ok (.iload_n 1, 1) := by decide +kernel
theorem dX2_isOpen_67 : decode cX2_isOpen 67 = .ok (.invokevirtual 57, 3) := by decide +kernel
theorem dX2_isOpen_70 : decode cX2_isOpen 70 = .ok (.iconst 3, 1) := by decide +kernel
theorem dX2_isOpen_71 : decode cX2_isOpen 71 = .ok (.if_icmp .ne 15, 3) := by decide +kernel
theorem dX2_isOpen_74 : decode cX2_isOpen 74 = .ok (.aload_n 0, 1) := by decide +kernel
theorem dX2_isOpen_75 : decode cX2_isOpen 75 = .ok (.iload_n 2, 1) := by decide +kernel
theorem dX2_isOpen_76 : decode cX2_isOpen 76 = .ok (.iconst 1, 1) := by decide +kernel
theorem dX2_isOpen_77 : decode cX2_isOpen 77 = .ok (.iload 4, 2) := by decide +kernel
theorem dX2_isOpen_79 : decode cX2_isOpen 79 = .ok (.isub, 1) := by decide +kernel
theorem dX2_isOpen_80 : decode cX2_isOpen 80 = .ok (.invokevirtual 80, 3) := by decide +kernel
theorem dX2_isOpen_83 : decode cX2_isOpen 83 = .ok (.ifCond .ne 7, 3) := by decide +kernel
theorem dX2_isOpen_86 : decode cX2_isOpen 86 = .ok (.iconst 1, 1) := by decide +kernel
theorem dX2_isOpen_87 : decode cX2_isOpen 87 = .ok (.goto 4, 3) := by decide +kernel
theorem dX2_isOpen_90 : decode cX2_isOpen 90 = .ok (.iconst 0, 1) := by decide +kernel
theorem dX2_isOpen_91 : decode cX2_isOpen 91 = .ok (.ireturn, 1) := by decide +kernel
theorem dX2_ramBeside_0 : decode cX2_ramBeside 0 = .ok (.aload_n 0, 1) := by decide +kernel
theorem dX2_ramBeside_1 : decode cX2_ramBeside 1 = .ok (.getfield 28, 3) := by decide +kernel
theorem dX2_ramBeside_4 : decode cX2_ramBeside 4 = .ok (.getfield 84, 3) := by decide +kernel
theorem dX2_ramBeside_7 : decode cX2_ramBeside 7 = .ok (.istore_n 3, 1) := by decide +kernel
theorem dX2_ramBeside_8 : decode cX2_ramBeside 8 = .ok (.iconst 0, 1) := by decide +kernel
theorem dX2_ramBeside_9 : decode cX2_ramBeside 9 = .ok (.istore 4, 2) := by decide +kernel
theorem dX2_ramBeside_11 : decode cX2_ramBeside 11 = .ok (.iload 4, 2) := by decide +kernel
theorem dX2_ramBeside_13 : decode cX2_ramBeside 13 = .ok (.aload_n 0, 1) := by decide +kernel
theorem dX2_ramBeside_14 : decode cX2_ramBeside 14 = .ok (.getfield 28, 3) := by decide +kernel
theorem dX2_ramBeside_17 : decode cX2_ramBeside 17 = .ok (.getfield 43, 3) := by decide +kernel
theorem dX2_ramBeside_20 : decode cX2_ramBeside 20 = .ok (.if_icmp .ge 101, 3) := by decide +kernel
theorem dX2_ramBeside_23 : decode cX2_ramBeside 23 = .ok (.iload 4, 2) := by decide +kernel
theorem dX2_ramBeside_25 : decode cX2_ramBeside 25 = .ok (.bipush 8, 2) := by decide +kernel
theorem dX2_ramBeside_27 : decode cX2_ramBeside 27 = .ok (.if_icmp .ge 94, 3) := by decide +kernel
theorem dX2_ramBeside_30 : decode cX2_ramBeside 30 = .ok (.iload_n 3, 1) := by decide +kernel
theorem dX2_ramBeside_31 : decode cX2_ramBeside 31 = .ok (.ifCond .le 90, 3) := by decide +kernel
theorem dX2_ramBeside_34 : decode cX2_ramBeside 34 = .ok (.aload_n 0, 1) := by decide +kernel
theorem dX2_ramBeside_35 : decode cX2_ramBeside 35 = .ok (.getfield 15, 3) := by decide +kernel
theorem dX2_ramBeside_38 : decode cX2_ramBeside 38 = .ok (.iload 4, 2) := by decide +kernel
theorem dX2_ramBeside_40 : decode cX2_ramBeside 40 = .ok (.iaload, 1) := by decide +kernel
theorem dX2_ramBeside_41 : decode cX2_ramBeside 41 = .ok (.ifCond .lt 74, 3) := by decide +kernel
theorem dX2_ramBeside_44 : decode cX2_ramBeside 44 = .ok (.aload_n 0, 1) := by decide +kernel
theorem dX2_ramBeside_45 : decode cX2_ramBeside 45 = .ok (.getfield 18, 3) := by decide +kernel
theorem dX2_ramBeside_48 : decode cX2_ramBeside 48 = .ok (.iload 4, 2) := by decide +kernel
theorem dX2_ramBeside_50 : decode cX2_ramBeside 50 = .ok (.iaload, 1) := by decide +kernel
theorem dX2_ramBeside_51 : decode cX2_ramBeside 51 = .ok (.ifCond .ne 64, 3) := by decide +kernel
theorem dX2_ramBeside_54 : decode cX2_ramBeside 54 = .ok (.aload_n 0, 1) := by decide +kernel
theorem dX2_ramBeside_55 : decode cX2_ramBeside 55 = .ok (.getfield 28, 3) := by decide +kernel
theorem dX2_ramBeside_58 : decode cX2_ramBeside 58 = .ok (.getfield 87, 3) := by decide +kernel
theorem dX2_ramBeside_61 : decode cX2_ramBeside 61 = .ok (.iload 4, 2) := by decide +kernel
theorem dX2_ramBeside_63 : decode cX2_ramBeside 63 = .ok (.iaload, 1) := by decide +kernel
theorem dX2_ramBeside_64 : decode cX2_ramBeside 64 = .ok (.iload_n 2, 1) := by decide +kernel
theorem dX2_ramBeside_65 : decode cX2_ramBeside 65 = .ok (.if_icmp .ne 50, 3) := by decide +kernel
theorem dX2_ramBeside_68 : decode cX2_ramBeside 68 = .ok (.aload_n 0, 1) := by decide +kernel
theorem dX2_ramBeside_69 : decode cX2_ramBeside 69 = .ok (.getfield 15, 3) := by decide +kernel
theorem dX2_ramBeside_72 : decode cX2_ramBeside 72 = .ok (.iload 4, 2) := by decide +kernel
theorem dX2_ramBeside_74 : decode cX2_ramBeside 74 = .ok (.iaload, 1) := by decide +kernel
theorem dX2_ramBeside_75 : decode cX2_ramBeside 75 = .ok (.iload_n 3, 1) := by decide +kernel
theorem dX2_ramBeside_76 : decode cX2_ramBeside 76 = .ok (.idiv, 1) := by decide +kernel
theorem dX2_ramBeside_77 : decode cX2_ramBeside 77 = .ok (.iload_n 1, 1) := by decide +kernel
theorem dX2_ramBeside_78 : decode cX2_ramBeside 78 = .ok (.iload_n 3, 1) := by decide +kernel
theorem dX2_ramBeside_79 : decode cX2_ramBeside 79 = .ok (.idiv, 1) := by decide +kernel
theorem dX2_ramBeside_80 : decode cX2_ramBeside 80 = .ok (.isub, 1) := by decide +kernel
theorem dX2_ramBeside_81 : decode cX2_ramBeside 81 = .ok (.invokestatic 90, 3) := by decide +kernel
theorem dX2_ramBeside_84 : decode cX2_ramBeside 84 = .ok (.istore 5, 2) := by decide +kernel
theorem dX2_ramBeside_86 : decode cX2_ramBeside 86 = .ok (.aload_n 0, 1) := by decide +kernel
theorem dX2_ramBeside_87 : decode cX2_ramBeside 87 = .ok (.getfield 15, 3) := by decide +kernel
theorem dX2_ramBeside_90 : decode cX2_ramBeside 90 = .ok (.iload 4, 2) := by decide +kernel
theorem dX2_ramBeside_92 : decode cX2_ramBeside 92 = .ok (.iaload, 1) := by decide +kernel
theorem dX2_ramBeside_93 : decode cX2_ramBeside 93 = .ok (.iload_n 3, 1) := by decide +kernel
theorem dX2_ramBeside_94 : decode cX2_ramBeside 94 = .ok (.irem, 1) := by decide +kernel
theorem dX2_ramBeside_95 : decode cX2_ramBeside 95 = .ok (.iload_n 1, 1) := by decide +kernel
theorem dX2_ramBeside_96 : decode cX2_ramBeside 96 = .ok (.iload_n 3, 1) := by decide +kernel
theorem dX2_ramBeside_97 : decode cX2_ramBeside 97 = .ok (.irem, 1) := by decide +kernel
theorem dX2_ramBeside_98 : decode cX2_ramBeside 98 = .ok (.isub, 1) := by decide +kernel
theorem dX2_ramBeside_99 : decode cX2_ramBeside 99 = .ok (.invokestatic 90, 3) := by decide +kernel
theorem dX2_ramBeside_102 : decode cX2_ramBeside 102 = .ok (.istore 6, 2) := by decide +kernel
theorem dX2_ramBeside_104 : decode cX2_ramBeside 104 = .ok (.iload 5, 2) := by decide +kernel
theorem dX2_ramBeside_106 : decode cX2_ramBeside 106 = .ok (.iload 6, 2) := by decide +kernel
theorem dX2_ramBeside_108 : decode cX2_ramBeside 108 = .ok (.iadd, 1) := by decide +kernel
theorem dX2_ramBeside_109 : decode cX2_ramBeside 109 = .ok (.iconst 1, 1) := by decide +kernel
theorem dX2_ramBeside_110 : decode cX2_ramBeside 110 = .ok (.if_icmp .ne 5, 3) := by decide +kernel
theorem dX2_ramBeside_113 : decode cX2_ramBeside 113 = .ok (.iconst 1, 1) := by decide +kernel
theorem dX2_ramBeside_114 : decode cX2_ramBeside 114 = .ok (.ireturn, 1) := by decide +kernel
theorem dX2_ramBeside_115 : decode cX2_ramBeside 115 = .ok (.iinc 4 1, 3) := by decide +kernel
theorem dX2_ramBeside_118 : decode cX2_ramBeside 118 = .ok (.goto (-107), 3) := by decide +kernel
theorem dX2_ramBeside_121 : decode cX2_ramBeside 121 = .ok (.iconst 0, 1) := by decide +kernel
theorem dX2_ramBeside_122 : decode cX2_ramBeside 122 = .ok (.ireturn, 1) := by decide +kernel
theorem dX2_driven_0 : decode cX2_driven 0 = .ok (.aload_n 0, 1) := by decide +kernel
theorem dX2_driven_1 : decode cX2_driven 1 = .ok (.getfield 28, 3) := by decide +kernel
theorem dX2_driven_4 : decode cX2_driven 4 = .ok (.iload_n 1, 1) := by decide +kernel
theorem dX2_driven_5 : decode cX2_driven 5 = .ok (.invokevirtual 63, 3) := by decide +kernel
theorem dX2_driven_8 : decode cX2_driven 8 = .ok (.aload_n 0, 1) := by decide +kernel
theorem dX2_driven_9 : decode cX2_driven 9 = .ok (.invokevirtual 95, 3) := by decide +kernel
theorem dX2_driven_12 : decode cX2_driven 12 = .ok (.if_icmp .ne 16, 3) := by decide +kernel
theorem dX2_driven_15 : decode cX2_driven 15 = .ok (.aload_n 0, 1) := by decide +kernel
theorem dX2_driven_16 : decode cX2_driven 16 = .ok (.iload_n 1, 1) := by decide +kernel
theorem dX2_driven_17 : decode cX2_driven 17 = .ok (.iload_n 2, 1) := by decide +kernel
theorem dX2_driven_18 : decode cX2_driven 18 = .ok (.aload_n 0, 1) := by decide +kernel
theorem dX2_driven_19 : decode cX2_driven 19 = .ok (.invokevirtual 99, 3) := by decide +kernel
theorem dX2_driven_22 : decode cX2_driven 22 = .ok (.invokevirtual 103, 3) := by decide +kernel
theorem dX2_driven_25 : decode cX2_driven 25 = .ok (.goto 5, 3) := by decide +kernel
theorem dX2_driven_28 : decode cX2_driven 28 = .ok (.bipush (-4), 2) := by decide +kernel
theorem dX2_driven_30 : decode cX2_driven 30 = .ok (.ireturn, 1) := by decide +kernel
theorem dX2_move_0 : decode cX2_move 0 = .ok (.aload_n 0, 1) := by decide +kernel
theorem dX2_move_1 : decode cX2_move 1 = .ok (.iload_n 2, 1) := by decide +kernel
theorem dX2_move_2 : decode cX2_move 2 = .ok (.invokevirtual 77, 3) := by decide +kernel
theorem dX2_move_5 : decode cX2_move 5 = .ok (.istore_n 3, 1) := by decide +kernel
theorem dX2_move_6 : decode cX2_move 6 = .ok (.aload_n 0, 1) := by decide +kernel
theorem dX2_move_7 : decode cX2_move 7 = .ok (.getfield 28, 3) := by decide +kernel
theorem dX2_move_10 : decode cX2_move 10 = .ok (.iload_n 3, 1) := by decide +kernel
theorem dX2_move_11 : decode cX2_move 11 = .ok (.invokevirtual 54, 3) := by decide +kernel
theorem dX2_move_14 : decode cX2_move 14 = .ok (.ifCond .eq 11, 3) := by decide +kernel
theorem dX2_move_17 : decode cX2_move 17 = .ok (.aload_n 0, 1) := by decide +kernel
theorem dX2_move_18 : decode cX2_move 18 = .ok (.getfield 15, 3) := by decide +kernel
theorem dX2_move_21 : decode cX2_move 21 = .ok (.iload_n 3, 1) := by decide +kernel
theorem dX2_move_22 : decode cX2_move 22 = .ok (.bipush (-4), 2) := by decide +kernel
theorem dX2_move_24 : decode cX2_move 24 = .ok (.iastore, 1) := by decide +kernel
theorem dX2_move_25 : decode cX2_move 25 = .ok (.aload_n 0, 1) := by decide +kernel
theorem dX2_move_26 : decode cX2_move 26 = .ok (.iload_n 1, 1) := by decide +kernel
theorem dX2_move_27 : decode cX2_move 27 = .ok (.invokevirtual 57, 3) := by decide +kernel
theorem dX2_move_30 : decode cX2_move 30 = .ok (.iconst 2, 1) := by decide +kernel
theorem dX2_move_31 : decode cX2_move 31 = .ok (.if_icmp .ne 26, 3) := by decide +kernel
theorem dX2_move_34 : decode cX2_move 34 = .ok (.aload_n 0, 1) := by decide +kernel
theorem dX2_move_35 : decode cX2_move 35 = .ok (.getfield 28, 3) := by decide +kernel
theorem dX2_move_38 : decode cX2_move 38 = .ok (.aload_n 0, 1) := by decide +kernel
theorem dX2_move_39 : decode cX2_move 39 = .ok (.getfield 28, 3) := by decide +kernel
theorem dX2_move_42 : decode cX2_move 42 = .ok (.iload_n 1, 1) := by decide +kernel
theorem dX2_move_43 : decode cX2_move 43 = .ok (.invokevirtual 63, 3) := by decide +kernel
theorem dX2_move_46 : decode cX2_move 46 = .ok (.iload_n 2, 1) := by decide +kernel
theorem dX2_move_47 : decode cX2_move 47 = .ok (.invokevirtual 107, 3) := by decide +kernel
theorem dX2_move_50 : decode cX2_move 50 = .ok (.ifCond .eq 7, 3) := by decide +kernel
theorem dX2_move_53 : decode cX2_move 53 = .ok (.iconst 1, 1) := by decide +kernel
theorem dX2_move_54 : decode cX2_move 54 = .ok (.goto 4, 3) := by decide +kernel
theorem dX2_move_57 : decode cX2_move 57 = .ok (.iconst 0, 1) := by decide +kernel
theorem dX2_move_58 : decode cX2_move 58 = .ok (.istore 4, 2) := by decide +kernel
theorem dX2_move_60 : decode cX2_move 60 = .ok (.aload_n 0, 1) := by decide +kernel
theorem dX2_move_61 : decode cX2_move 61 = .ok (.iload_n 1, 1) := by decide +kernel
theorem dX2_move_62 : decode cX2_move 62 = .ok (.iload_n 2, 1) := by decide +kernel
theorem dX2_move_63 : decode cX2_move 63 = .ok (.iload 4, 2) := by decide +kernel
theorem dX2_move_65 : decode cX2_move 65 = .ok (.ifCond .eq 7, 3) := by decide +kernel
theorem dX2_move_68 : decode cX2_move 68 = .ok (.iconst 1, 1) := by decide +kernel
theorem dX2_move_69 : decode cX2_move 69 = .ok (.goto 8, 3) := by decide +kernel
theorem dX2_move_72 : decode cX2_move 72 = .ok (.aload_n 0, 1) := by decide +kernel
theorem dX2_move_73 : decode cX2_move 73 = .ok (.iload_n 1, 1) := by decide +kernel
theorem dX2_move_74 : decode cX2_move 74 = .ok (.invokevirtual 57, 3) := by decide +kernel
theorem dX2_move_77 : decode cX2_move 77 = .ok (.invokevirtual 110, 3) := by decide +kernel
theorem dX2_move_80 : decode cX2_move 80 = .ok (.return_, 1) := by decide +kernel
theorem dX2_live_0 : decode cX2_live 0 = .ok (.iload_n 1, 1) := by decide +kernel
theorem dX2_live_1 : decode cX2_live 1 = .ok (.bipush 10, 2) := by decide +kernel
theorem dX2_live_3 : decode cX2_live 3 = .ok (.idiv, 1) := by decide +kernel
theorem dX2_live_4 : decode cX2_live 4 = .ok (.istore_n 2, 1) := by decide +kernel
theorem dX2_live_5 : decode cX2_live 5 = .ok (.iload_n 1, 1) := by decide +kernel
theorem dX2_live_6 : decode cX2_live 6 = .ok (.bipush 99, 2) := by decide +kernel
theorem dX2_live_8 : decode cX2_live 8 = .ok (.if_icmp .ne 8, 3) := by decide +kernel
theorem dX2_live_11 : decode cX2_live 11 = .ok (.bipush (-4), 2) := by decide +kernel
theorem dX2_live_13 : decode cX2_live 13 = .ok (.goto 12, 3) := by decide +kernel
theorem dX2_live_16 : decode cX2_live 16 = .ok (.aload_n 0, 1) := by decide +kernel
theorem dX2_live_17 : decode cX2_live 17 = .ok (.iload_n 2, 1) := by decide +kernel
theorem dX2_live_18 : decode cX2_live 18 = .ok (.iload_n 1, 1) := by decide +kernel
theorem dX2_live_19 : decode cX2_live 19 = .ok (.bipush 10, 2) := by decide +kernel
theorem dX2_live_21 : decode cX2_live 21 = .ok (.irem, 1) := by decide +kernel
theorem dX2_live_22 : decode cX2_live 22 = .ok (.invokevirtual 114, 3) := by decide +kernel
theorem dX2_live_25 : decode cX2_live 25 = .ok (.istore_n 3, 1) := by decide +kernel
theorem dX2_live_26 : decode cX2_live 26 = .ok (.iload_n 3, 1) := by decide +kernel
theorem dX2_live_27 : decode cX2_live 27 = .ok (.bipush (-4), 2) := by decide +kernel
theorem dX2_live_29 : decode cX2_live 29 = .ok (.if_icmp .eq 9, 3) := by decide +kernel
theorem dX2_live_32 : decode cX2_live 32 = .ok (.aload_n 0, 1) := by decide +kernel
theorem dX2_live_33 : decode cX2_live 33 = .ok (.iload_n 2, 1) := by decide +kernel
theorem dX2_live_34 : decode cX2_live 34 = .ok (.iload_n 3, 1) := by decide +kernel
theorem dX2_live_35 : decode cX2_live 35 = .ok (.invokevirtual 117, 3) := by decide +kernel
theorem dX2_live_38 : decode cX2_live 38 = .ok (.aload_n 0, 1) := by decide +kernel
theorem dX2_live_39 : decode cX2_live 39 = .ok (.invokevirtual 121, 3) := by decide +kernel
theorem dX2_live_42 : decode cX2_live 42 = .ok (.return_, 1) := by decide +kernel
theorem dX2_passDay_0 : decode cX2_passDay 0 = .ok (.aload_n 0, 1) := by decide +kernel
theorem dX2_passDay_1 : decode cX2_passDay 1 = .ok (.invokevirtual 124, 3) := by decide +kernel
theorem dX2_passDay_4 : decode cX2_passDay 4 = .ok (.aload_n 0, 1) := by decide +kernel
theorem dX2_passDay_5 : decode cX2_passDay 5 = .ok (.invokevirtual 127, 3) := by decide +kernel
theorem dX2_passDay_8 : decode cX2_passDay 8 = .ok (.return_, 1) := by decide +kernel
theorem dX2_graze_0 : decode cX2_graze 0 = .ok (.iconst 0, 1) := by decide +kernel
theorem dX2_graze_1 : decode cX2_graze 1 = .ok (.istore_n 1, 1) := by decide +kernel
theorem dX2_graze_2 : decode cX2_graze 2 = .ok (.iload_n 1, 1) := by decide +kernel
theorem dX2_graze_3 : decode cX2_graze 3 = .ok (.aload_n 0, 1) := by decide +kernel
theorem dX2_graze_4 : decode cX2_graze 4 = .ok (.getfield 28, 3) := by decide +kernel
theorem dX2_graze_7 : decode cX2_graze 7 = .ok (.getfield 43, 3) := by decide +kernel
theorem dX2_graze_10 : decode cX2_graze 10 = .ok (.if_icmp .ge 102, 3) := by decide +kernel
theorem dX2_graze_13 : decode cX2_graze 13 = .ok (.iload_n 1, 1) := by decide +kernel
theorem dX2_graze_14 : decode cX2_graze 14 = .ok (.bipush 8, 2) := by decide +kernel
theorem dX2_graze_16 : decode cX2_graze 16 = .ok (.if_icmp .ge 96, 3) := by decide +kernel
theorem dX2_graze_19 : decode cX2_graze 19 = .ok (.aload_n 0, 1) := by decide +kernel
theorem dX2_graze_20 : decode cX2_graze 20 = .ok (.getfield 15, 3) := by decide +kernel
theorem dX2_graze_23 : decode cX2_graze 23 = .ok (.iload_n 1, 1) := by decide +kernel
theorem dX2_graze_24 : decode cX2_graze 24 = .ok (.iaload, 1) := by decide +kernel
theorem dX2_graze_25 : decode cX2_graze 25 = .ok (.istore_n 2, 1) := by decide +kernel
theorem dX2_graze_26 : decode cX2_graze 26 = .ok (.iload_n 2, 1) := by decide +kernel
theorem dX2_graze_27 : decode cX2_graze 27 = .ok (.ifCond .lt 79, 3) := by decide +kernel
theorem dX2_graze_30 : decode cX2_graze 30 = .ok (.iload_n 2, 1) := by decide +kernel
theorem dX2_graze_31 : decode cX2_graze 31 = .ok (.bipush 36, 2) := by decide +kernel
theorem dX2_graze_33 : decode cX2_graze 33 = .ok (.if_icmp .lt 6, 3) := by decide +kernel
theorem dX2_graze_36 : decode cX2_graze 36 = .ok (.goto 70, 3) := by decide +kernel
theorem dX2_graze_39 : decode cX2_graze 39 = .ok (.aload_n 0, 1) := by decide +kernel
theorem dX2_graze_40 : decode cX2_graze 40 = .ok (.getfield 9, 3) := by decide +kernel
theorem dX2_graze_43 : decode cX2_graze 43 = .ok (.iload_n 2, 1) := by decide +kernel
theorem dX2_graze_44 : decode cX2_graze 44 = .ok (.iaload, 1) := by decide +kernel
theorem dX2_graze_45 : decode cX2_graze 45 = .ok (.ifCond .le 23, 3) := by decide +kernel
theorem dX2_graze_48 : decode cX2_graze 48 = .ok (.aload_n 0, 1) := by decide +kernel
theorem dX2_graze_49 : decode cX2_graze 49 = .ok (.getfield 9, 3) := by decide +kernel
theorem dX2_graze_52 : decode cX2_graze 52 = .ok (.iload_n 2, 1) := by decide +kernel
theorem dX2_graze_53 : decode cX2_graze 53 = .ok (.dup2, 1) := by decide +kernel
theorem dX2_graze_54 : decode cX2_graze 54 = .ok (.iaload, 1) := by decide +kernel
theorem dX2_graze_55 : decode cX2_graze 55 = .ok (.iconst 1, 1) := by decide +kernel
theorem dX2_graze_56 : decode cX2_graze 56 = .ok (.isub, 1) := by decide +kernel
theorem dX2_graze_57 : decode cX2_graze 57 = .ok (.iastore, 1) := by decide +kernel
theorem dX2_graze_58 : decode cX2_graze 58 = .ok (.aload_n 0, 1) := by decide +kernel
theorem dX2_graze_59 : decode cX2_graze 59 = .ok (.getfield 21, 3) := by decide +kernel
theorem dX2_graze_62 : decode cX2_graze 62 = .ok (.iload_n 1, 1) := by decide +kernel
theorem dX2_graze_63 : decode cX2_graze 63 = .ok (.iconst 0, 1) := by decide +kernel
theorem dX2_graze_64 : decode cX2_graze 64 = .ok (.iastore, 1) := by decide +kernel
theorem dX2_graze_65 : decode cX2_graze 65 = .ok (.goto 41, 3) := by decide +kernel
theorem dX2_graze_68 : decode cX2_graze 68 = .ok (.aload_n 0, 1) := by decide +kernel
theorem dX2_graze_69 : decode cX2_graze 69 = .ok (.getfield 21, 3) := by decide +kernel
theorem dX2_graze_72 : decode cX2_graze 72 = .ok (.iload_n 1, 1) := by decide +kernel
theorem dX2_graze_73 : decode cX2_graze 73 = .ok (.dup2, 1) := by decide +kernel
theorem dX2_graze_74 : decode cX2_graze 74 = .ok (.iaload, 1) := by decide +kernel
theorem dX2_graze_75 : decode cX2_graze 75 = .ok (.iconst 1, 1) := by decide +kernel
theorem dX2_graze_76 : decode cX2_graze 76 = .ok (.iadd, 1) := by decide +kernel
theorem dX2_graze_77 : decode cX2_graze 77 = .ok (.iastore, 1) := by decide +kernel
theorem dX2_graze_78 : decode cX2_graze 78 = .ok (.aload_n 0, 1) := by decide +kernel
theorem dX2_graze_79 : decode cX2_graze 79 = .ok (.getfield 15, 3) := by decide +kernel
theorem dX2_graze_82 : decode cX2_graze 82 = .ok (.iload_n 1, 1) := by decide +kernel
theorem dX2_graze_83 : decode cX2_graze 83 = .ok (.aload_n 0, 1) := by decide +kernel
theorem dX2_graze_84 : decode cX2_graze 84 = .ok (.getfield 21, 3) := by decide +kernel
theorem dX2_graze_87 : decode cX2_graze 87 = .ok (.iload_n 1, 1) := by decide +kernel
theorem dX2_graze_88 : decode cX2_graze 88 = .ok (.iaload, 1) := by decide +kernel
theorem dX2_graze_89 : decode cX2_graze 89 = .ok (.aload_n 0, 1) := by decide +kernel
theorem dX2_graze_90 : decode cX2_graze 90 = .ok (.getfield 28, 3) := by decide +kernel
theorem dX2_graze_93 : decode cX2_graze 93 = .ok (.getfield 130, 3) := by decide +kernel
theorem dX2_graze_96 : decode cX2_graze 96 = .ok (.if_icmp .le 8, 3) := by decide +kernel
theorem dX2_graze_99 : decode cX2_graze 99 = .ok (.bipush (-4), 2) := by decide +kernel
theorem dX2_graze_101 : decode cX2_graze 101 = .ok (.goto 4, 3) := by decide +kernel
theorem dX2_graze_104 : decode cX2_graze 104 = .ok (.iload_n 2, 1) := by decide +kernel
theorem dX2_graze_105 : decode cX2_graze 105 = .ok (.iastore, 1) := by decide +kernel
theorem dX2_graze_106 : decode cX2_graze 106 = .ok (.iinc 1 1, 3) := by decide +kernel
theorem dX2_graze_109 : decode cX2_graze 109 = .ok (.goto (-107), 3) := by decide +kernel
theorem dX2_graze_112 : decode cX2_graze 112 = .ok (.return_, 1) := by decide +kernel
theorem dX2_beginNextDay_0 : decode cX2_beginNextDay 0 = .ok (.aload_n 0, 1) := by decide +kernel
theorem dX2_beginNextDay_1 : decode cX2_beginNextDay 1 = .ok (.dup, 1) := by decide +kernel
theorem dX2_beginNextDay_2 : decode cX2_beginNextDay 2 = .ok (.getfield 24, 3) := by decide +kernel
theorem dX2_beginNextDay_5 : decode cX2_beginNextDay 5 = .ok (.iconst 1, 1) := by decide +kernel
theorem dX2_beginNextDay_6 : decode cX2_beginNextDay 6 = .ok (.iadd, 1) := by decide +kernel
theorem dX2_beginNextDay_7 : decode cX2_beginNextDay 7 = .ok (.putfield 24, 3) := by decide +kernel
theorem dX2_beginNextDay_10 : decode cX2_beginNextDay 10 = .ok (.aload_n 0, 1) := by decide +kernel
theorem dX2_beginNextDay_11 : decode cX2_beginNextDay 11 = .ok (.getfield 24, 3) := by decide +kernel
theorem dX2_beginNextDay_14 : decode cX2_beginNextDay 14 = .ok (.bipush 9, 2) := by decide +kernel
theorem dX2_beginNextDay_16 : decode cX2_beginNextDay 16 = .ok (.irem, 1) := by decide +kernel
theorem dX2_beginNextDay_17 : decode cX2_beginNextDay 17 = .ok (.ifCond .eq 4, 3) := by decide +kernel
theorem dX2_beginNextDay_20 : decode cX2_beginNextDay 20 = .ok (.return_, 1) := by decide +kernel
theorem dX2_beginNextDay_21 : decode cX2_beginNextDay 21 = .ok (.iconst 0, 1) := by decide +kernel
theorem dX2_beginNextDay_22 : decode cX2_beginNextDay 22 = .ok (.istore_n 1, 1) := by decide +kernel
theorem dX2_beginNextDay_23 : decode cX2_beginNextDay 23 = .ok (.iload_n 1, 1) := by decide +kernel
theorem dX2_beginNextDay_24 : decode cX2_beginNextDay 24 = .ok (.aload_n 0, 1) := by decide +kernel
theorem dX2_beginNextDay_25 : decode cX2_beginNextDay 25 = .ok (.getfield 28, 3) := by decide +kernel
theorem dX2_beginNextDay_28 : decode cX2_beginNextDay 28 = .ok (.getfield 38, 3) := by decide +kernel
theorem dX2_beginNextDay_31 : decode cX2_beginNextDay 31 = .ok (.if_icmp .ge 46, 3) := by decide +kernel
theorem dX2_beginNextDay_34 : decode cX2_beginNextDay 34 = .ok (.iload_n 1, 1) := by decide +kernel
theorem dX2_beginNextDay_35 : decode cX2_beginNextDay 35 = .ok (.bipush 36, 2) := by decide +kernel
theorem dX2_beginNextDay_37 : decode cX2_beginNextDay 37 = .ok (.if_icmp .ge 40, 3) := by decide +kernel
theorem dX2_beginNextDay_40 : decode cX2_beginNextDay 40 = .ok (.aload_n 0, 1) := by decide +kernel
theorem dX2_beginNextDay_41 : decode cX2_beginNextDay 41 = .ok (.getfield 9, 3) := by decide +kernel
theorem dX2_beginNextDay_44 : decode cX2_beginNextDay 44 = .ok (.iload_n 1, 1) := by decide +kernel
theorem dX2_beginNextDay_45 : decode cX2_beginNextDay 45 = .ok (.iaload, 1) := by decide +kernel
theorem dX2_beginNextDay_46 : decode cX2_beginNextDay 46 = .ok (.bipush 8, 2) := by decide +kernel
theorem dX2_beginNextDay_48 : decode cX2_beginNextDay 48 = .ok (.if_icmp .ge 23, 3) := by decide +kernel
theorem dX2_beginNextDay_51 : decode cX2_beginNextDay 51 = .ok (.aload_n 0, 1) := by decide +kernel
theorem dX2_beginNextDay_52 : decode cX2_beginNextDay 52 = .ok (.iload_n 1, 1) := by decide +kernel
theorem dX2_beginNextDay_53 : decode cX2_beginNextDay 53 = .ok (.invokevirtual 77, 3) := by decide +kernel
theorem dX2_beginNextDay_56 : decode cX2_beginNextDay 56 = .ok (.bipush (-4), 2) := by decide +kernel
theorem dX2_beginNextDay_58 : decode cX2_beginNextDay 58 = .ok (.if_icmp .ne 13, 3) := by decide +kernel
theorem dX2_beginNextDay_61 : decode cX2_beginNextDay 61 = .ok (.aload_n 0, 1) := by decide +kernel
theorem dX2_beginNextDay_62 : decode cX2_beginNextDay 62 = .ok (.getfield 9, 3) := by decide +kernel
theorem dX2_beginNextDay_65 : decode cX2_beginNextDay 65 = .ok (.iload_n 1, 1) := by decide +kernel
theorem dX2_beginNextDay_66 : decode cX2_beginNextDay 66 = .ok (.dup2, 1) := by decide +kernel
theorem dX2_beginNextDay_67 : decode cX2_beginNextDay 67 = .ok (.iaload, 1) := by decide +kernel
theorem dX2_beginNextDay_68 : decode cX2_beginNextDay 68 = .ok (.iconst 1, 1) := by decide +kernel
theorem dX2_beginNextDay_69 : decode cX2_beginNextDay 69 = .ok (.iadd, 1) := by decide +kernel
theorem dX2_beginNextDay_70 : decode cX2_beginNextDay 70 = .ok (.iastore, 1) := by decide +kernel
theorem dX2_beginNextDay_71 : decode cX2_beginNextDay 71 = .ok (.iinc 1 1, 3) := by decide +kernel
theorem dX2_beginNextDay_74 : decode cX2_beginNextDay 74 = .ok (.goto (-51), 3) := by decide +kernel
theorem dX2_beginNextDay_77 : decode cX2_beginNextDay 77 = .ok (.return_, 1) := by decide +kernel
theorem dX2_wolfComes_0 : decode cX2_wolfComes 0 = .ok (.iconst 0, 1) := by decide +kernel
theorem dX2_wolfComes_1 : decode cX2_wolfComes 1 = .ok (.istore_n 1, 1) := by decide +kernel
theorem dX2_wolfComes_2 : decode cX2_wolfComes 2 = .ok (.iload_n 1, 1) := by decide +kernel
theorem dX2_wolfComes_3 : decode cX2_wolfComes 3 = .ok (.aload_n 0, 1) := by decide +kernel
theorem dX2_wolfComes_4 : decode cX2_wolfComes 4 = .ok (.getfield 28, 3) := by decide +kernel
theorem dX2_wolfComes_7 : decode cX2_wolfComes 7 = .ok (.getfield 43, 3) := by decide +kernel
theorem dX2_wolfComes_10 : decode cX2_wolfComes 10 = .ok (.if_icmp .ge 48, 3) := by decide +kernel
theorem dX2_wolfComes_13 : decode cX2_wolfComes 13 = .ok (.iload_n 1, 1) := by decide +kernel
theorem dX2_wolfComes_14 : decode cX2_wolfComes 14 = .ok (.bipush 8, 2) := by decide +kernel
theorem dX2_wolfComes_16 : decode cX2_wolfComes 16 = .ok (.if_icmp .ge 42, 3) := by decide +kernel
theorem dX2_wolfComes_19 : decode cX2_wolfComes 19 = .ok (.aload_n 0, 1) := by decide +kernel
theorem dX2_wolfComes_20 : decode cX2_wolfComes 20 = .ok (.getfield 15, 3) := by decide +kernel
theorem dX2_wolfComes_23 : decode cX2_wolfComes 23 = .ok (.iload_n 1, 1) := by decide +kernel
theorem dX2_wolfComes_24 : decode cX2_wolfComes 24 = .ok (.iaload, 1) := by decide +kernel
theorem dX2_wolfComes_25 : decode cX2_wolfComes 25 = .ok (.bipush (-4), 2) := by decide +kernel
theorem dX2_wolfComes_27 : decode cX2_wolfComes 27 = .ok (.if_icmp .eq 25, 3) := by decide +kernel
theorem dX2_wolfComes_30 : decode cX2_wolfComes 30 = .ok (.aload_n 0, 1) := by decide +kernel
theorem dX2_wolfComes_31 : decode cX2_wolfComes 31 = .ok (.aload_n 0, 1) := by decide +kernel
theorem dX2_wolfComes_32 : decode cX2_wolfComes 32 = .ok (.getfield 15, 3) := by decide +kernel
theorem dX2_wolfComes_35 : decode cX2_wolfComes 35 = .ok (.iload_n 1, 1) := by decide +kernel
theorem dX2_wolfComes_36 : decode cX2_wolfComes 36 = .ok (.iaload, 1) := by decide +kernel
theorem dX2_wolfComes_37 : decode cX2_wolfComes 37 = .ok (.invokevirtual 133, 3) := by decide +kernel
theorem dX2_wolfComes_40 : decode cX2_wolfComes 40 = .ok (.ifCond .eq 12, 3) := by decide +kernel
theorem dX2_wolfComes_43 : decode cX2_wolfComes 43 = .ok (.aload_n 0, 1) := by decide +kernel
theorem dX2_wolfComes_44 : decode cX2_wolfComes 44 = .ok (.getfield 15, 3) := by decide +kernel
theorem dX2_wolfComes_47 : decode cX2_wolfComes 47 = .ok (.iload_n 1, 1) := by decide +kernel
theorem dX2_wolfComes_48 : decode cX2_wolfComes 48 = .ok (.bipush (-4), 2) := by decide +kernel
theorem dX2_wolfComes_50 : decode cX2_wolfComes 50 = .ok (.iastore, 1) := by decide +kernel
theorem dX2_wolfComes_51 : decode cX2_wolfComes 51 = .ok (.return_, 1) := by decide +kernel
theorem dX2_wolfComes_52 : decode cX2_wolfComes 52 = .ok (.iinc 1 1, 3) := by decide +kernel
theorem dX2_wolfComes_55 : decode cX2_wolfComes 55 = .ok (.goto (-53), 3) := by decide +kernel
theorem dX2_wolfComes_58 : decode cX2_wolfComes 58 = .ok (.return_, 1) := by decide +kernel
theorem dX2_bogBeside_0 : decode cX2_bogBeside 0 = .ok (.iconst 0, 1) := by decide +kernel
theorem dX2_bogBeside_1 : decode cX2_bogBeside 1 = .ok (.istore_n 2, 1) := by decide +kernel
theorem dX2_bogBeside_2 : decode cX2_bogBeside 2 = .ok (.iload_n 2, 1) := by decide +kernel
theorem dX2_bogBeside_3 : decode cX2_bogBeside 3 = .ok (.iconst 4, 1) := by decide +kernel
theorem dX2_bogBeside_4 : decode cX2_bogBeside 4 = .ok (.if_icmp .ge 37, 3) := by decide +kernel
theorem dX2_bogBeside_7 : decode cX2_bogBeside 7 = .ok (.aload_n 0, 1) := by decide +kernel
theorem dX2_bogBeside_8 : decode cX2_bogBeside 8 = .ok (.getfield 28, 3) := by decide +kernel
theorem dX2_bogBeside_11 : decode cX2_bogBeside 11 = .ok (.iload_n 1, 1) := by decide +kernel
theorem dX2_bogBeside_12 : decode cX2_bogBeside 12 = .ok (.iload_n 2, 1) := by decide +kernel
theorem dX2_bogBeside_13 : decode cX2_bogBeside 13 = .ok (.invokevirtual 66, 3) := by decide +kernel
theorem dX2_bogBeside_16 : decode cX2_bogBeside 16 = .ok (.istore_n 3, 1) := by decide +kernel
theorem dX2_bogBeside_17 : decode cX2_bogBeside 17 = .ok (.iload_n 3, 1) := by decide +kernel
theorem dX2_bogBeside_18 : decode cX2_bogBeside 18 = .ok (.bipush (-4), 2) := by decide +kernel
theorem dX2_bogBeside_20 : decode cX2_bogBeside 20 = .ok (.if_icmp .eq 15, 3) := by decide +kernel
theorem dX2_bogBeside_23 : decode cX2_bogBeside 23 = .ok (.aload_n 0, 1) := by decide +kernel
theorem dX2_bogBeside_24 : decode cX2_bogBeside 24 = .ok (.iload_n 3, 1) := by decide +kernel
theorem dX2_bogBeside_25 : decode cX2_bogBeside 25 = .ok (.invokevirtual 74, 3) := by decide +kernel
theorem dX2_bogBeside_28 : decode cX2_bogBeside 28 = .ok (.bipush 9, 2) := by decide +kernel
theorem dX2_bogBeside_30 : decode cX2_bogBeside 30 = .ok (.if_icmp .ne 5, 3) := by decide +kernel
theorem dX2_bogBeside_33 : decode cX2_bogBeside 33 = .ok (.iconst 1, 1) := by decide +kernel
theorem dX2_bogBeside_34 : decode cX2_bogBeside 34 = .ok (.ireturn, 1) := by decide +kernel
theorem dX2_bogBeside_35 : decode cX2_bogBeside 35 = .ok (.iinc 2 1, 3) := by decide +kernel
theorem dX2_bogBeside_38 : decode cX2_bogBeside 38 = .ok (.goto (-36), 3) := by decide +kernel
theorem dX2_bogBeside_41 : decode cX2_bogBeside 41 = .ok (.iconst 0, 1) := by decide +kernel
theorem dX2_bogBeside_42 : decode cX2_bogBeside 42 = .ok (.ireturn, 1) := by decide +kernel
theorem dX2_lost_0 : decode cX2_lost 0 = .ok (.iconst 0, 1) := by decide +kernel
theorem dX2_lost_1 : decode cX2_lost 1 = .ok (.istore_n 1, 1) := by decide +kernel
theorem dX2_lost_2 : decode cX2_lost 2 = .ok (.iconst 0, 1) := by decide +kernel
theorem dX2_lost_3 : decode cX2_lost 3 = .ok (.istore_n 2, 1) := by decide +kernel
theorem dX2_lost_4 : decode cX2_lost 4 = .ok (.iconst 0, 1) := by decide +kernel
theorem dX2_lost_5 : decode cX2_lost 5 = .ok (.istore_n 3, 1) := by decide +kernel
theorem dX2_lost_6 : decode cX2_lost 6 = .ok (.iload_n 3, 1) := by decide +kernel
theorem dX2_lost_7 : decode cX2_lost 7 = .ok (.aload_n 0, 1) := by decide +kernel
theorem dX2_lost_8 : decode cX2_lost 8 = .ok (.getfield 28, 3) := by decide +kernel
theorem dX2_lost_11 : decode cX2_lost 11 = .ok (.getfield 43, 3) := by decide +kernel
theorem dX2_lost_14 : decode cX2_lost 14 = .ok (.if_icmp .ge 68, 3) := by decide +kernel
theorem dX2_lost_17 : decode cX2_lost 17 = .ok (.iload_n 3, 1) := by decide +kernel
theorem dX2_lost_18 : decode cX2_lost 18 = .ok (.bipush 8, 2) := by decide +kernel
theorem dX2_lost_20 : decode cX2_lost 20 = .ok (.if_icmp .ge 62, 3) := by decide +kernel
theorem dX2_lost_23 : decode cX2_lost 23 = .ok (.aload_n 0, 1) := by decide +kernel
theorem dX2_lost_24 : decode cX2_lost 24 = .ok (.getfield 18, 3) := by decide +kernel
theorem dX2_lost_27 : decode cX2_lost 27 = .ok (.iload_n 3, 1) := by decide +kernel
theorem dX2_lost_28 : decode cX2_lost 28 = .ok (.iaload, 1) := by decide +kernel
theorem dX2_lost_29 : decode cX2_lost 29 = .ok (.iconst 3, 1) := by decide +kernel
theorem dX2_lost_30 : decode cX2_lost 30 = .ok (.if_icmp .ne 46, 3) := by decide +kernel
theorem dX2_lost_33 : decode cX2_lost 33 = .ok (.aload_n 0, 1) := by decide +kernel
theorem dX2_lost_34 : decode cX2_lost 34 = .ok (.getfield 28, 3) := by decide +kernel
theorem dX2_lost_37 : decode cX2_lost 37 = .ok (.iload_n 3, 1) := by decide +kernel
theorem dX2_lost_38 : decode cX2_lost 38 = .ok (.invokevirtual 63, 3) := by decide +kernel
theorem dX2_lost_41 : decode cX2_lost 41 = .ok (.ifCond .ne 7, 3) := by decide +kernel
theorem dX2_lost_44 : decode cX2_lost 44 = .ok (.iconst 1, 1) := by decide +kernel
theorem dX2_lost_45 : decode cX2_lost 45 = .ok (.goto 4, 3) := by decide +kernel
theorem dX2_lost_48 : decode cX2_lost 48 = .ok (.iconst 2, 1) := by decide +kernel
theorem dX2_lost_49 : decode cX2_lost 49 = .ok (.istore 4, 2) := by decide +kernel
theorem dX2_lost_51 : decode cX2_lost 51 = .ok (.iload_n 1, 1) := by decide +kernel
theorem dX2_lost_52 : decode cX2_lost 52 = .ok (.iload 4, 2) := by decide +kernel
theorem dX2_lost_54 : decode cX2_lost 54 = .ok (.ior, 1) := by decide +kernel
theorem dX2_lost_55 : decode cX2_lost 55 = .ok (.istore_n 1, 1) := by decide +kernel
theorem dX2_lost_56 : decode cX2_lost 56 = .ok (.iload_n 2, 1) := by decide +kernel
theorem dX2_lost_57 : decode cX2_lost 57 = .ok (.aload_n 0, 1) := by decide +kernel
theorem dX2_lost_58 : decode cX2_lost 58 = .ok (.getfield 15, 3) := by decide +kernel
theorem dX2_lost_61 : decode cX2_lost 61 = .ok (.iload_n 3, 1) := by decide +kernel
theorem dX2_lost_62 : decode cX2_lost 62 = .ok (.iaload, 1) := by decide +kernel
theorem dX2_lost_63 : decode cX2_lost 63 = .ok (.bipush (-4), 2) := by decide +kernel
theorem dX2_lost_65 : decode cX2_lost 65 = .ok (.if_icmp .ne 7, 3) := by decide +kernel
theorem dX2_lost_68 : decode cX2_lost 68 = .ok (.iconst 0, 1) := by decide +kernel
theorem dX2_lost_69 : decode cX2_lost 69 = .ok (.goto 5, 3) := by decide +kernel
theorem dX2_lost_72 : decode cX2_lost 72 = .ok (.iload 4, 2) := by decide +kernel
theorem dX2_lost_74 : decode cX2_lost 74 = .ok (.ior, 1) := by decide +kernel
theorem dX2_lost_75 : decode cX2_lost 75 = .ok (.istore_n 2, 1) := by decide +kernel
theorem dX2_lost_76 : decode cX2_lost 76 = .ok (.iinc 3 1, 3) := by decide +kernel
theorem dX2_lost_79 : decode cX2_lost 79 = .ok (.goto (-73), 3) := by decide +kernel
theorem dX2_lost_82 : decode cX2_lost 82 = .ok (.iload_n 1, 1) := by decide +kernel
theorem dX2_lost_83 : decode cX2_lost 83 = .ok (.iload_n 2, 1) := by decide +kernel
theorem dX2_lost_84 : decode cX2_lost 84 = .ok (.iconst (-1), 1) := by decide +kernel
theorem dX2_lost_85 : decode cX2_lost 85 = .ok (.ixor, 1) := by decide +kernel
theorem dX2_lost_86 : decode cX2_lost 86 = .ok (.iand, 1) := by decide +kernel
theorem dX2_lost_87 : decode cX2_lost 87 = .ok (.ireturn, 1) := by decide +kernel
theorem dX2_worth_0 : decode cX2_worth 0 = .ok (.iconst 0, 1) := by decide +kernel
theorem dX2_worth_1 : decode cX2_worth 1 = .ok (.istore_n 1, 1) := by decide +kernel
theorem dX2_worth_2 : decode cX2_worth 2 = .ok (.iconst 0, 1) := by decide +kernel
theorem dX2_worth_3 : decode cX2_worth 3 = .ok (.istore_n 2, 1) := by decide +kernel
theorem dX2_worth_4 : decode cX2_worth 4 = .ok (.iload_n 2, 1) := by decide +kernel
theorem dX2_worth_5 : decode cX2_worth 5 = .ok (.aload_n 0, 1) := by decide +kernel
theorem dX2_worth_6 : decode cX2_worth 6 = .ok (.getfield 28, 3) := by decide +kernel
theorem dX2_worth_9 : decode cX2_worth 9 = .ok (.getfield 43, 3) := by decide +kernel
theorem dX2_worth_12 : decode cX2_worth 12 = .ok (.if_icmp .ge 83, 3) := by decide +kernel
theorem dX2_worth_15 : decode cX2_worth 15 = .ok (.iload_n 2, 1) := by decide +kernel
theorem dX2_worth_16 : decode cX2_worth 16 = .ok (.bipush 8, 2) := by decide +kernel
theorem dX2_worth_18 : decode cX2_worth 18 = .ok (.if_icmp .ge 77, 3) := by decide +kernel
theorem dX2_worth_21 : decode cX2_worth 21 = .ok (.aload_n 0, 1) := by decide +kernel
theorem dX2_worth_22 : decode cX2_worth 22 = .ok (.getfield 18, 3) := by decide +kernel
theorem dX2_worth_25 : decode cX2_worth 25 = .ok (.iload_n 2, 1) := by decide +kernel
theorem dX2_worth_26 : decode cX2_worth 26 = .ok (.iaload, 1) := by decide +kernel
theorem dX2_worth_27 : decode cX2_worth 27 = .ok (.ifCond .lt 29, 3) := by decide +kernel
theorem dX2_worth_30 : decode cX2_worth 30 = .ok (.aload_n 0, 1) := by decide +kernel
theorem dX2_worth_31 : decode cX2_worth 31 = .ok (.getfield 18, 3) := by decide +kernel
theorem dX2_worth_34 : decode cX2_worth 34 = .ok (.iload_n 2, 1) := by decide +kernel
theorem dX2_worth_35 : decode cX2_worth 35 = .ok (.iaload, 1) := by decide +kernel
theorem dX2_worth_36 : decode cX2_worth 36 = .ok (.getstatic 136, 3) := by decide +kernel
theorem dX2_worth_39 : decode cX2_worth 39 = .ok (.arraylength, 1) := by decide +kernel
theorem dX2_worth_40 : decode cX2_worth 40 = .ok (.if_icmp .ge 16, 3) := by decide +kernel
theorem dX2_worth_43 : decode cX2_worth 43 = .ok (.getstatic 136, 3) := by decide +kernel
theorem dX2_worth_46 : decode cX2_worth 46 = .ok (.aload_n 0, 1) := by decide +kernel
theorem dX2_worth_47 : decode cX2_worth 47 = .ok (.getfield 18, 3) := by decide +kernel
theorem dX2_worth_50 : decode cX2_worth 50 = .ok (.iload_n 2, 1) := by decide +kernel
theorem dX2_worth_51 : decode cX2_worth 51 = .ok (.iaload, 1) := by decide +kernel
theorem dX2_worth_52 : decode cX2_worth 52 = .ok (.iaload, 1) := by decide +kernel
theorem dX2_worth_53 : decode cX2_worth 53 = .ok (.goto 4, 3) := by decide +kernel
theorem dX2_worth_56 : decode cX2_worth 56 = .ok (.iconst 0, 1) := by decide +kernel
theorem dX2_worth_57 : decode cX2_worth 57 = .ok (.istore_n 3, 1) := by decide +kernel
theorem dX2_worth_58 : decode cX2_worth 58 = .ok (.aload_n 0, 1) := by decide +kernel
theorem dX2_worth_59 : decode cX2_worth 59 = .ok (.getfield 15, 3) := by decide +kernel
theorem dX2_worth_62 : decode cX2_worth 62 = .ok (.iload_n 2, 1) := by decide +kernel
theorem dX2_worth_63 : decode cX2_worth 63 = .ok (.iaload, 1) := by decide +kernel
theorem dX2_worth_64 : decode cX2_worth 64 = .ok (.bipush (-4), 2) := by decide +kernel
theorem dX2_worth_66 : decode cX2_worth 66 = .ok (.if_icmp .eq 23, 3) := by decide +kernel
theorem dX2_worth_69 : decode cX2_worth 69 = .ok (.iload_n 1, 1) := by decide +kernel
theorem dX2_worth_70 : decode cX2_worth 70 = .ok (.aload_n 0, 1) := by decide +kernel
theorem dX2_worth_71 : decode cX2_worth 71 = .ok (.getfield 28, 3) := by decide +kernel
theorem dX2_worth_74 : decode cX2_worth 74 = .ok (.iload_n 2, 1) := by decide +kernel
theorem dX2_worth_75 : decode cX2_worth 75 = .ok (.invokevirtual 63, 3) := by decide +kernel
theorem dX2_worth_78 : decode cX2_worth 78 = .ok (.ifCond .ne 7, 3) := by decide +kernel
theorem dX2_worth_81 : decode cX2_worth 81 = .ok (.iload_n 3, 1) := by decide +kernel
theorem dX2_worth_82 : decode cX2_worth 82 = .ok (.goto 5, 3) := by decide +kernel
theorem dX2_worth_85 : decode cX2_worth 85 = .ok (.iload_n 3, 1) := by decide +kernel
theorem dX2_worth_86 : decode cX2_worth 86 = .ok (.ineg, 1) := by decide +kernel
theorem dX2_worth_87 : decode cX2_worth 87 = .ok (.iadd, 1) := by decide +kernel
theorem dX2_worth_88 : decode cX2_worth 88 = .ok (.istore_n 1, 1) := by decide +kernel
theorem dX2_worth_89 : decode cX2_worth 89 = .ok (.iinc 2 1, 3) := by decide +kernel
theorem dX2_worth_92 : decode cX2_worth 92 = .ok (.goto (-88), 3) := by decide +kernel
theorem dX2_worth_95 : decode cX2_worth 95 = .ok (.iload_n 1, 1) := by decide +kernel
theorem dX2_worth_96 : decode cX2_worth 96 = .ok (.ireturn, 1) := by decide +kernel
theorem dX2_staying_0 : decode cX2_staying 0 = .ok (.iconst 0, 1) := by decide +kernel
theorem dX2_staying_1 : decode cX2_staying 1 = .ok (.istore_n 2, 1) := by decide +kernel
theorem dX2_staying_2 : decode cX2_staying 2 = .ok (.iconst 0, 1) := by decide +kernel
theorem dX2_staying_3 : decode cX2_staying 3 = .ok (.istore_n 3, 1) := by decide +kernel
theorem dX2_staying_4 : decode cX2_staying 4 = .ok (.iload_n 3, 1) := by decide +kernel
theorem dX2_staying_5 : decode cX2_staying 5 = .ok (.aload_n 0, 1) := by decide +kernel
theorem dX2_staying_6 : decode cX2_staying 6 = .ok (.getfield 28, 3) := by decide +kernel
theorem dX2_staying_9 : decode cX2_staying 9 = .ok (.getfield 43, 3) := by decide +kernel
theorem dX2_staying_12 : decode cX2_staying 12 = .ok (.if_icmp .ge 41, 3) := by decide +kernel
theorem dX2_staying_15 : decode cX2_staying 15 = .ok (.iload_n 3, 1) := by decide +kernel
theorem dX2_staying_16 : decode cX2_staying 16 = .ok (.bipush 8, 2) := by decide +kernel
theorem dX2_staying_18 : decode cX2_staying 18 = .ok (.if_icmp .ge 35, 3) := by decide +kernel
theorem dX2_staying_21 : decode cX2_staying 21 = .ok (.aload_n 0, 1) := by decide +kernel
theorem dX2_staying_22 : decode cX2_staying 22 = .ok (.getfield 15, 3) := by decide +kernel
theorem dX2_staying_25 : decode cX2_staying 25 = .ok (.iload_n 3, 1) := by decide +kernel
theorem dX2_staying_26 : decode cX2_staying 26 = .ok (.iaload, 1) := by decide +kernel
theorem dX2_staying_27 : decode cX2_staying 27 = .ok (.bipush (-4), 2) := by decide +kernel
theorem dX2_staying_29 : decode cX2_staying 29 = .ok (.if_icmp .eq 18, 3) := by decide +kernel
theorem dX2_staying_32 : decode cX2_staying 32 = .ok (.aload_n 0, 1) := by decide +kernel
theorem dX2_staying_33 : decode cX2_staying 33 = .ok (.getfield 28, 3) := by decide +kernel
theorem dX2_staying_36 : decode cX2_staying 36 = .ok (.iload_n 3, 1) := by decide +kernel
theorem dX2_staying_37 : decode cX2_staying 37 = .ok (.invokevirtual 63, 3) := by decide +kernel
theorem dX2_staying_40 : decode cX2_staying 40 = .ok (.iload_n 1, 1) := by decide +kernel
theorem dX2_staying_41 : decode cX2_staying 41 = .ok (.if_icmp .ne 6, 3) := by decide +kernel
theorem dX2_staying_44 : decode cX2_staying 44 = .ok (.iinc 2 1, 3) := by decide +kernel
theorem dX2_staying_47 : decode cX2_staying 47 = .ok (.iinc 3 1, 3) := by decide +kernel
theorem dX2_staying_50 : decode cX2_staying 50 = .ok (.goto (-46), 3) := by decide +kernel
theorem dX2_staying_53 : decode cX2_staying 53 = .ok (.iload_n 2, 1) := by decide +kernel
theorem dX2_staying_54 : decode cX2_staying 54 = .ok (.ireturn, 1) := by decide +kernel
theorem dX2_allGrass_0 : decode cX2_allGrass 0 = .ok (.iconst 0, 1) := by decide +kernel
theorem dX2_allGrass_1 : decode cX2_allGrass 1 = .ok (.istore_n 1, 1) := by decide +kernel
theorem dX2_allGrass_2 : decode cX2_allGrass 2 = .ok (.iconst 0, 1) := by decide +kernel
theorem dX2_allGrass_3 : decode cX2_allGrass 3 = .ok (.istore_n 2, 1) := by decide +kernel
theorem dX2_allGrass_4 : decode cX2_allGrass 4 = .ok (.iload_n 2, 1) := by decide +kernel
theorem dX2_allGrass_5 : decode cX2_allGrass 5 = .ok (.aload_n 0, 1) := by decide +kernel
theorem dX2_allGrass_6 : decode cX2_allGrass 6 = .ok (.getfield 28, 3) := by decide +kernel
theorem dX2_allGrass_9 : decode cX2_allGrass 9 = .ok (.getfield 38, 3) := by decide +kernel
theorem dX2_allGrass_12 : decode cX2_allGrass 12 = .ok (.if_icmp .ge 39, 3) := by decide +kernel
theorem dX2_allGrass_15 : decode cX2_allGrass 15 = .ok (.iload_n 2, 1) := by decide +kernel
theorem dX2_allGrass_16 : decode cX2_allGrass 16 = .ok (.bipush 36, 2) := by decide +kernel
theorem dX2_allGrass_18 : decode cX2_allGrass 18 = .ok (.if_icmp .ge 33, 3) := by decide +kernel
theorem dX2_allGrass_21 : decode cX2_allGrass 21 = .ok (.iload_n 1, 1) := by decide +kernel
theorem dX2_allGrass_22 : decode cX2_allGrass 22 = .ok (.aload_n 0, 1) := by decide +kernel
theorem dX2_allGrass_23 : decode cX2_allGrass 23 = .ok (.getfield 9, 3) := by decide +kernel
theorem dX2_allGrass_26 : decode cX2_allGrass 26 = .ok (.iload_n 2, 1) := by decide +kernel
theorem dX2_allGrass_27 : decode cX2_allGrass 27 = .ok (.iaload, 1) := by decide +kernel
theorem dX2_allGrass_28 : decode cX2_allGrass 28 = .ok (.bipush 9, 2) := by decide +kernel
theorem dX2_allGrass_30 : decode cX2_allGrass 30 = .ok (.if_icmp .ne 7, 3) := by decide +kernel
theorem dX2_allGrass_33 : decode cX2_allGrass 33 = .ok (.iconst 0, 1) := by decide +kernel
theorem dX2_allGrass_34 : decode cX2_allGrass 34 = .ok (.goto 9, 3) := by decide +kernel
theorem dX2_allGrass_37 : decode cX2_allGrass 37 = .ok (.aload_n 0, 1) := by decide +kernel
theorem dX2_allGrass_38 : decode cX2_allGrass 38 = .ok (.getfield 9, 3) := by decide +kernel
theorem dX2_allGrass_41 : decode cX2_allGrass 41 = .ok (.iload_n 2, 1) := by decide +kernel
theorem dX2_allGrass_42 : decode cX2_allGrass 42 = .ok (.iaload, 1) := by decide +kernel
theorem dX2_allGrass_43 : decode cX2_allGrass 43 = .ok (.iadd, 1) := by decide +kernel
theorem dX2_allGrass_44 : decode cX2_allGrass 44 = .ok (.istore_n 1, 1) := by decide +kernel
theorem dX2_allGrass_45 : decode cX2_allGrass 45 = .ok (.iinc 2 1, 3) := by decide +kernel
theorem dX2_allGrass_48 : decode cX2_allGrass 48 = .ok (.goto (-44), 3) := by decide +kernel
theorem dX2_allGrass_51 : decode cX2_allGrass 51 = .ok (.iload_n 1, 1) := by decide +kernel
theorem dX2_allGrass_52 : decode cX2_allGrass 52 = .ok (.ireturn, 1) := by decide +kernel
theorem dX2_ramOnWell_0 : decode cX2_ramOnWell 0 = .ok (.aload_n 0, 1) := by decide +kernel
theorem dX2_ramOnWell_1 : decode cX2_ramOnWell 1 = .ok (.aload_n 0, 1) := by decide +kernel
theorem dX2_ramOnWell_2 : decode cX2_ramOnWell 2 = .ok (.getfield 28, 3) := by decide +kernel
theorem dX2_ramOnWell_5 : decode cX2_ramOnWell 5 = .ok (.getfield 139, 3) := by decide +kernel
theorem dX2_ramOnWell_8 : decode cX2_ramOnWell 8 = .ok (.invokevirtual 77, 3) := by decide +kernel
theorem dX2_ramOnWell_11 : decode cX2_ramOnWell 11 = .ok (.istore_n 2, 1) := by decide +kernel
theorem dX2_ramOnWell_12 : decode cX2_ramOnWell 12 = .ok (.iload_n 2, 1) := by decide +kernel
theorem dX2_ramOnWell_13 : decode cX2_ramOnWell 13 = .ok (.bipush (-4), 2) := by decide +kernel
theorem dX2_ramOnWell_15 : decode cX2_ramOnWell 15 = .ok (.if_icmp .eq 27, 3) := by decide +kernel
theorem dX2_ramOnWell_18 : decode cX2_ramOnWell 18 = .ok (.aload_n 0, 1) := by decide +kernel
theorem dX2_ramOnWell_19 : decode cX2_ramOnWell 19 = .ok (.iload_n 2, 1) := by decide +kernel
theorem dX2_ramOnWell_20 : decode cX2_ramOnWell 20 = .ok (.invokevirtual 57, 3) := by decide +kernel
theorem dX2_ramOnWell_23 : decode cX2_ramOnWell 23 = .ok (.ifCond .ne 19, 3) := by decide +kernel
theorem dX2_ramOnWell_26 : decode cX2_ramOnWell 26 = .ok (.aload_n 0, 1) := by decide +kernel
theorem dX2_ramOnWell_27 : decode cX2_ramOnWell 27 = .ok (.getfield 28, 3) := by decide +kernel
theorem dX2_ramOnWell_30 : decode cX2_ramOnWell 30 = .ok (.iload_n 2, 1) := by decide +kernel
theorem dX2_ramOnWell_31 : decode cX2_ramOnWell 31 = .ok (.invokevirtual 63, 3) := by decide +kernel
theorem dX2_ramOnWell_34 : decode cX2_ramOnWell 34 = .ok (.iload_n 1, 1) := by decide +kernel
theorem dX2_ramOnWell_35 : decode cX2_ramOnWell 35 = .ok (.if_icmp .ne 7, 3) := by decide +kernel
theorem dX2_ramOnWell_38 : decode cX2_ramOnWell 38 = .ok (.iconst 1, 1) := by decide +kernel
theorem dX2_ramOnWell_39 : decode cX2_ramOnWell 39 = .ok (.goto 4, 3) := by decide +kernel
theorem dX2_ramOnWell_42 : decode cX2_ramOnWell 42 = .ok (.iconst 0, 1) := by decide +kernel
theorem dX2_ramOnWell_43 : decode cX2_ramOnWell 43 = .ok (.ireturn, 1) := by decide +kernel
theorem dX3_init_0 : decode cX3_init 0 = .ok (.aload_n 0, 1) := by decide +kernel
theorem dX3_init_1 : decode cX3_init 1 = .ok (.invokespecial 3, 3) := by decide +kernel
theorem dX3_init_4 : decode cX3_init 4 = .ok (.aload_n 0, 1) := by decide +kernel
theorem dX3_init_5 : decode cX3_init 5 = .ok (.bipush 8, 2) := by decide +kernel
theorem dX3_init_7 : decode cX3_init 7 = .ok (.newarray .int, 2) := by decide +kernel
theorem dX3_init_9 : decode cX3_init 9 = .ok (.putfield 9, 3) := by decide +kernel
theorem dX3_init_12 : decode cX3_init 12 = .ok (.aload_n 0, 1) := by decide +kernel
theorem dX3_init_13 : decode cX3_init 13 = .ok (.iconst 0, 1) := by decide +kernel
theorem dX3_init_14 : decode cX3_init 14 = .ok (.putfield 15, 3) := by decide +kernel
theorem dX3_init_17 : decode cX3_init 17 = .ok (.aload_n 0, 1) := by decide +kernel
theorem dX3_init_18 : decode cX3_init 18 = .ok (.iconst 0, 1) := by decide +kernel
theorem dX3_init_19 : decode cX3_init 19 = .ok (.putfield 19, 3) := by decide +kernel
theorem dX3_init_22 : decode cX3_init 22 = .ok (.aload_n 0, 1) := by decide +kernel
theorem dX3_init_23 : decode cX3_init 23 = .ok (.aload_n 1, 1) := by decide +kernel
theorem dX3_init_24 : decode cX3_init 24 = .ok (.putfield 22, 3) := by decide +kernel
theorem dX3_init_27 : decode cX3_init 27 = .ok (.aload_n 0, 1) := by decide +kernel
theorem dX3_init_28 : decode cX3_init 28 = .ok (.new 26, 3) := by decide +kernel
theorem dX3_init_31 : decode cX3_init 31 = .ok (.dup, 1) := by decide +kernel
theorem dX3_init_32 : decode cX3_init 32 = .ok (.aload_n 1, 1) := by decide +kernel
theorem dX3_init_33 : decode cX3_init 33 = .ok (.bipush 8, 2) := by decide +kernel
theorem dX3_init_35 : decode cX3_init 35 = .ok (.invokespecial 28, 3) := by decide +kernel
theorem dX3_init_38 : decode cX3_init 38 = .ok (.putfield 31, 3) := by decide +kernel
theorem dX3_init_41 : decode cX3_init 41 = .ok (.return_, 1) := by decide +kernel
theorem dX3_slot_0 : decode cX3_slot 0 = .ok (.aload_n 0, 1) := by decide +kernel
theorem dX3_slot_1 : decode cX3_slot 1 = .ok (.getfield 19, 3) := by decide +kernel
theorem dX3_slot_4 : decode cX3_slot 4 = .ok (.iload_n 1, 1) := by decide +kernel
theorem dX3_slot_5 : decode cX3_slot 5 = .ok (.iadd, 1) := by decide +kernel
theorem dX3_slot_6 : decode cX3_slot 6 = .ok (.bipush 8, 2) := by decide +kernel
theorem dX3_slot_8 : decode cX3_slot 8 = .ok (.invokestatic 35, 3) := by decide +kernel
theorem dX3_slot_11 : decode cX3_slot 11 = .ok (.ireturn, 1) := by decide +kernel
theorem dX3_before_0 : decode cX3_before 0 = .ok (.aload_n 0, 1) := by decide +kernel
theorem dX3_before_1 : decode cX3_before 1 = .ok (.getfield 31, 3) := by decide +kernel
theorem dX3_before_4 : decode cX3_before 4 = .ok (.aload_n 0, 1) := by decide +kernel
theorem dX3_before_5 : decode cX3_before 5 = .ok (.iload_n 1, 1) := by decide +kernel
theorem dX3_before_6 : decode cX3_before 6 = .ok (.invokevirtual 41, 3) := by decide +kernel
theorem dX3_before_9 : decode cX3_before 9 = .ok (.invokevirtual 45, 3) := by decide +kernel
theorem dX3_before_12 : decode cX3_before 12 = .ok (.areturn, 1) := by decide +kernel
theorem dX3_add_0 : decode cX3_add 0 = .ok (.aload_n 0, 1) := by decide +kernel
theorem dX3_add_1 : decode cX3_add 1 = .ok (.getfield 15, 3) := by decide +kernel
theorem dX3_add_4 : decode cX3_add 4 = .ok (.bipush 8, 2) := by decide +kernel
theorem dX3_add_6 : decode cX3_add 6 = .ok (.if_icmp .lt 18, 3) := by decide +kernel
theorem dX3_add_9 : decode cX3_add 9 = .ok (.aload_n 0, 1) := by decide +kernel
theorem dX3_add_10 : decode cX3_add 10 = .ok (.aload_n 0, 1) := by decide +kernel
theorem dX3_add_11 : decode cX3_add 11 = .ok (.iconst 1, 1) := by decide +kernel
theorem dX3_add_12 : decode cX3_add 12 = .ok (.invokevirtual 41, 3) := by decide +kernel
theorem dX3_add_15 : decode cX3_add 15 = .ok (.putfield 19, 3) := by decide +kernel
theorem dX3_add_18 : decode cX3_add 18 = .ok (.aload_n 0, 1) := by decide +kernel
theorem dX3_add_19 : decode cX3_add 19 = .ok (.bipush 7, 2) := by decide +kernel
theorem dX3_add_21 : decode cX3_add 21 = .ok (.putfield 15, 3) := by decide +kernel
theorem dX3_add_24 : decode cX3_add 24 = .ok (.aload_n 0, 1) := by decide +kernel
theorem dX3_add_25 : decode cX3_add 25 = .ok (.aload_n 0, 1) := by decide +kernel
theorem dX3_add_26 : decode cX3_add 26 = .ok (.getfield 15, 3) := by decide +kernel
theorem dX3_add_29 : decode cX3_add 29 = .ok (.invokevirtual 41, 3) := by decide +kernel
theorem dX3_add_32 : decode cX3_add 32 = .ok (.istore_n 3, 1) := by decide +kernel
theorem dX3_add_33 : decode cX3_add 33 = .ok (.aload_n 0, 1) := by decide +kernel
theorem dX3_add_34 : decode cX3_add 34 = .ok (.getfield 31, 3) := by decide +kernel
theorem dX3_add_37 : decode cX3_add 37 = .ok (.iload_n 3, 1) := by decide +kernel
theorem dX3_add_38 : decode cX3_add 38 = .ok (.invokevirtual 45, 3) := by decide +kernel
theorem dX3_add_41 : decode cX3_add 41 = .ok (.aload_n 1, 1) := by decide +kernel
theorem dX3_add_42 : decode cX3_add 42 = .ok (.invokevirtual 49, 3) := by decide +kernel
theorem dX3_add_45 : decode cX3_add 45 = .ok (.aload_n 0, 1) := by decide +kernel
theorem dX3_add_46 : decode cX3_add 46 = .ok (.getfield 9, 3) := by decide +kernel
theorem dX3_add_49 : decode cX3_add 49 = .ok (.iload_n 3, 1) := by decide +kernel
theorem dX3_add_50 : decode cX3_add 50 = .ok (.iload_n 2, 1) := by decide +kernel
theorem dX3_add_51 : decode cX3_add 51 = .ok (.iastore, 1) := by decide +kernel
theorem dX3_add_52 : decode cX3_add 52 = .ok (.aload_n 0, 1) := by decide +kernel
theorem dX3_add_53 : decode cX3_add 53 = .ok (.dup, 1) := by decide +kernel
theorem dX3_add_54 : decode cX3_add 54 = .ok (.getfield 15, 3) := by decide +kernel
theorem dX3_add_57 : decode cX3_add 57 = .ok (.iconst 1, 1) := by decide +kernel
theorem dX3_add_58 : decode cX3_add 58 = .ok (.iadd, 1) := by decide +kernel
theorem dX3_add_59 : decode cX3_add 59 = .ok (.putfield 15, 3) := by decide +kernel
theorem dX3_add_62 : decode cX3_add 62 = .ok (.return_, 1) := by decide +kernel
theorem dX3_otherwiseIs_0 : decode cX3_otherwiseIs 0 = .ok (.aload_n 0, 1) := by decide +kernel
theorem dX3_otherwiseIs_1 : decode cX3_otherwiseIs 1 = .ok (.getfield 15, 3) := by decide +kernel
theorem dX3_otherwiseIs_4 : decode cX3_otherwiseIs 4 = .ok (.iconst 1, 1) := by decide +kernel
theorem dX3_otherwiseIs_5 : decode cX3_otherwiseIs 5 = .ok (.isub, 1) := by decide +kernel
theorem dX3_otherwiseIs_6 : decode cX3_otherwiseIs 6 = .ok (.iload_n 1, 1) := by decide +kernel
theorem dX3_otherwiseIs_7 : decode cX3_otherwiseIs 7 = .ok (.isub, 1) := by decide +kernel
theorem dX3_otherwiseIs_8 : decode cX3_otherwiseIs 8 = .ok (.istore 4, 2) := by decide +kernel
theorem dX3_otherwiseIs_10 : decode cX3_otherwiseIs 10 = .ok (.iload 4, 2) := by decide +kernel
theorem dX3_otherwiseIs_12 : decode cX3_otherwiseIs 12 = .ok (.ifCond .lt 7, 3) := by decide +kernel
theorem dX3_otherwiseIs_15 : decode cX3_otherwiseIs 15 = .ok (.iload_n 1, 1) := by decide +kernel
theorem dX3_otherwiseIs_16 : decode cX3_otherwiseIs 16 = .ok (.ifCond .ge 5, 3) := by decide +kernel
theorem dX3_otherwiseIs_19 : decode cX3_otherwiseIs 19 = .ok (.iconst 0, 1) := by decide +kernel
theorem dX3_otherwiseIs_20 : decode cX3_otherwiseIs 20 = .ok (.ireturn, 1) := by decide +kernel
theorem dX3_otherwiseIs_21 : decode cX3_otherwiseIs 21 = .ok (.aload_n 0, 1) := by decide +kernel
theorem dX3_otherwiseIs_22 : decode cX3_otherwiseIs 22 = .ok (.getfield 9, 3) := by decide +kernel
theorem dX3_otherwiseIs_25 : decode cX3_otherwiseIs 25 = .ok (.aload_n 0, 1) := by decide +kernel
theorem dX3_otherwiseIs_26 : decode cX3_otherwiseIs 26 = .ok (.iload 4, 2) := by decide +kernel
theorem dX3_otherwiseIs_28 : decode cX3_otherwiseIs 28 = .ok (.invokevirtual 41, 3) := by decide +kernel
theorem dX3_otherwiseIs_31 : decode cX3_otherwiseIs 31 = .ok (.iaload, 1) := by decide +kernel
theorem dX3_otherwiseIs_32 : decode cX3_otherwiseIs 32 = .ok (.istore 5, 2) := by decide +kernel
theorem dX3_otherwiseIs_34 : decode cX3_otherwiseIs 34 = .ok (.iload_n 2, 1) := by decide +kernel
theorem dX3_otherwiseIs_35 : decode cX3_otherwiseIs 35 = .ok (.iload 5, 2) := by decide +kernel
theorem dX3_otherwiseIs_37 : decode cX3_otherwiseIs 37 = .ok (.if_icmp .eq 28, 3) := by decide +kernel
theorem dX3_otherwiseIs_40 : decode cX3_otherwiseIs 40 = .ok (.iload_n 2, 1) := by decide +kernel
theorem dX3_otherwiseIs_41 : decode cX3_otherwiseIs 41 = .ok (.bipush 99, 2) := by decide +kernel
theorem dX3_otherwiseIs_43 : decode cX3_otherwiseIs 43 = .ok (.if_icmp .eq 24, 3) := by decide +kernel
theorem dX3_otherwiseIs_46 : decode cX3_otherwiseIs 46 = .ok (.iload 5, 2) := by decide +kernel
theorem dX3_otherwiseIs_48 : decode cX3_otherwiseIs 48 = .ok (.bipush 99, 2) := by decide +kernel
theorem dX3_otherwiseIs_50 : decode cX3_otherwiseIs 50 = .ok (.if_icmp .eq 17, 3) := by decide +kernel
theorem dX3_otherwiseIs_53 : decode cX3_otherwiseIs 53 = .ok (.iload_n 2, 1) := by decide +kernel
theorem dX3_otherwiseIs_54 : decode cX3_otherwiseIs 54 = .ok (.bipush 10, 2) := by decide +kernel
theorem dX3_otherwiseIs_56 : decode cX3_otherwiseIs 56 = .ok (.idiv, 1) := by decide +kernel
theorem dX3_otherwiseIs_57 : decode cX3_otherwiseIs 57 = .ok (.iload 5, 2) := by decide +kernel
theorem dX3_otherwiseIs_59 : decode cX3_otherwiseIs 59 = .ok (.bipush 10, 2) := by decide +kernel
theorem dX3_otherwiseIs_61 : decode cX3_otherwiseIs 61 = .ok (.idiv, 1) := by decide +kernel
theorem dX3_otherwiseIs_62 : decode cX3_otherwiseIs 62 = .ok (.if_icmp .eq 5, 3) := by decide +kernel
theorem dX3_otherwiseIs_65 : decode cX3_otherwiseIs 65 = .ok (.iconst 0, 1) := by decide +kernel
theorem dX3_otherwiseIs_66 : decode cX3_otherwiseIs 66 = .ok (.ireturn, 1) := by decide +kernel
theorem dX3_otherwiseIs_67 : decode cX3_otherwiseIs 67 = .ok (.aload_n 0, 1) := by decide +kernel
theorem dX3_otherwiseIs_68 : decode cX3_otherwiseIs 68 = .ok (.iload 4, 2) := by decide +kernel
theorem dX3_otherwiseIs_70 : decode cX3_otherwiseIs 70 = .ok (.invokevirtual 55, 3) := by decide +kernel
theorem dX3_otherwiseIs_73 : decode cX3_otherwiseIs 73 = .ok (.astore 6, 2) := by decide +kernel
theorem dX3_otherwiseIs_75 : decode cX3_otherwiseIs 75 = .ok (.iload_n 2, 1) := by decide +kernel
theorem dX3_otherwiseIs_76 : decode cX3_otherwiseIs 76 = .ok (.bipush 99, 2) := by decide +kernel
theorem dX3_otherwiseIs_78 : decode cX3_otherwiseIs 78 = .ok (.if_icmp .eq 23, 3) := by decide +kernel
theorem dX3_otherwiseIs_81 : decode cX3_otherwiseIs 81 = .ok (.aload 6, 2) := by decide +kernel
theorem dX3_otherwiseIs_83 : decode cX3_otherwiseIs 83 = .ok (.iload_n 2, 1) := by decide +kernel
theorem dX3_otherwiseIs_84 : decode cX3_otherwiseIs 84 = .ok (.bipush 10, 2) := by decide +kernel
theorem dX3_otherwiseIs_86 : decode cX3_otherwiseIs 86 = .ok (.idiv, 1) := by decide +kernel
theorem dX3_otherwiseIs_87 : decode cX3_otherwiseIs 87 = .ok (.iload_n 2, 1) := by decide +kernel
theorem dX3_otherwiseIs_88 : decode cX3_otherwiseIs 88 = .ok (.bipush 10, 2) := by decide +kernel
theorem dX3_otherwiseIs_90 : decode cX3_otherwiseIs 90 = .ok (.irem, 1) := by decide +kernel
theorem dX3_otherwiseIs_91 : decode cX3_otherwiseIs 91 = .ok (.invokevirtual 58, 3) := by decide +kernel
theorem dX3_otherwiseIs_94 : decode cX3_otherwiseIs 94 = .ok (.bipush (-4), 2) := by decide +kernel
theorem dX3_otherwiseIs_96 : decode cX3_otherwiseIs 96 = .ok (.if_icmp .ne 5, 3) := by decide +kernel
theorem dX3_otherwiseIs_99 : decode cX3_otherwiseIs 99 = .ok (.iconst 0, 1) := by decide +kernel
theorem dX3_otherwiseIs_100 : decode cX3_otherwiseIs 100 = .ok (.ireturn, 1) := by decide +kernel
theorem dX3_otherwiseIs_101 : decode cX3_otherwiseIs 101 = .ok (.aload_n 3, 1) := by decide +kernel
theorem dX3_otherwiseIs_102 : decode cX3_otherwiseIs 102 = .ok (.aload 6, 2) := by decide +kernel
theorem dX3_otherwiseIs_104 : decode cX3_otherwiseIs 104 = .ok (.invokevirtual 49, 3) := by decide +kernel
theorem dX3_otherwiseIs_107 : decode cX3_otherwiseIs 107 = .ok (.aload_n 3, 1) := by decide +kernel
theorem dX3_otherwiseIs_108 : decode cX3_otherwiseIs 108 = .ok (.iload_n 2, 1) := by decide +kernel
theorem dX3_otherwiseIs_109 : decode cX3_otherwiseIs 109 = .ok (.invokevirtual 61, 3) := by decide +kernel
theorem dX3_otherwiseIs_112 : decode cX3_otherwiseIs 112 = .ok (.iload 4, 2) := by decide +kernel
theorem dX3_otherwiseIs_114 : decode cX3_otherwiseIs 114 = .ok (.iconst 1, 1) := by decide +kernel
theorem dX3_otherwiseIs_115 : decode cX3_otherwiseIs 115 = .ok (.iadd, 1) := by decide +kernel
theorem dX3_otherwiseIs_116 : decode cX3_otherwiseIs 116 = .ok (.istore 7, 2) := by decide +kernel
theorem dX3_otherwiseIs_118 : decode cX3_otherwiseIs 118 = .ok (.iload 7, 2) := by decide +kernel
theorem dX3_otherwiseIs_120 : decode cX3_otherwiseIs 120 = .ok (.aload_n 0, 1) := by decide +kernel
theorem dX3_otherwiseIs_121 : decode cX3_otherwiseIs 121 = .ok (.getfield 15, 3) := by decide +kernel
theorem dX3_otherwiseIs_124 : decode cX3_otherwiseIs 124 = .ok (.if_icmp .ge 36, 3) := by decide +kernel
theorem dX3_otherwiseIs_127 : decode cX3_otherwiseIs 127 = .ok (.aload_n 3, 1) := by decide +kernel
theorem dX3_otherwiseIs_128 : decode cX3_otherwiseIs 128 = .ok (.aload_n 3, 1) := by decide +kernel
theorem dX3_otherwiseIs_129 : decode cX3_otherwiseIs 129 = .ok (.invokevirtual 65, 3) := by decide +kernel
theorem dX3_otherwiseIs_132 : decode cX3_otherwiseIs 132 = .ok (.ifCond .ne 17, 3) := by decide +kernel
theorem dX3_otherwiseIs_135 : decode cX3_otherwiseIs 135 = .ok (.aload_n 0, 1) := by decide +kernel
theorem dX3_otherwiseIs_136 : decode cX3_otherwiseIs 136 = .ok (.getfield 9, 3) := by decide +kernel
theorem dX3_otherwiseIs_139 : decode cX3_otherwiseIs 139 = .ok (.aload_n 0, 1) := by decide +kernel
theorem dX3_otherwiseIs_140 : decode cX3_otherwiseIs 140 = .ok (.iload 7, 2) := by decide +kernel
theorem dX3_otherwiseIs_142 : decode cX3_otherwiseIs 142 = .ok (.invokevirtual 41, 3) := by decide +kernel
theorem dX3_otherwiseIs_145 : decode cX3_otherwiseIs 145 = .ok (.iaload, 1) := by decide +kernel
theorem dX3_otherwiseIs_146 : decode cX3_otherwiseIs 146 = .ok (.goto 5, 3) := by decide +kernel
theorem dX3_otherwiseIs_149 : decode cX3_otherwiseIs 149 = .ok (.bipush 99, 2) := by decide +kernel
theorem dX3_otherwiseIs_151 : decode cX3_otherwiseIs 151 = .ok (.invokevirtual 61, 3) := by decide +kernel
theorem dX3_otherwiseIs_154 : decode cX3_otherwiseIs 154 = .ok (.iinc 7 1, 3) := by decide +kernel
theorem dX3_otherwiseIs_157 : decode cX3_otherwiseIs 157 = .ok (.goto (-39), 3) := by decide +kernel
theorem dX3_otherwiseIs_160 : decode cX3_otherwiseIs 160 = .ok (.iconst 1, 1) := by decide +kernel
theorem dX3_otherwiseIs_161 : decode cX3_otherwiseIs 161 = .ok (.ireturn, 1) := by decide +kernel
theorem dX4_init_0 : decode cX4_init 0 = .ok (.aload_n 0, 1) := by decide +kernel
theorem dX4_init_1 : decode cX4_init 1 = .ok (.invokespecial 1, 3) := by decide +kernel
theorem dX4_init_4 : decode cX4_init 4 = .ok (.aload_n 0, 1) := by decide +kernel
theorem dX4_init_5 : decode cX4_init 5 = .ok (.new 7, 3) := by decide +kernel
theorem dX4_init_8 : decode cX4_init 8 = .ok (.dup, 1) := by decide +kernel
theorem dX4_init_9 : decode cX4_init 9 = .ok (.aload_n 1, 1) := by decide +kernel
theorem dX4_init_10 : decode cX4_init 10 = .ok (.invokespecial 9, 3) := by decide +kernel
theorem dX4_init_13 : decode cX4_init 13 = .ok (.putfield 12, 3) := by decide +kernel
theorem dX4_init_16 : decode cX4_init 16 = .ok (.aload_n 0, 1) := by decide +kernel
theorem dX4_init_17 : decode cX4_init 17 = .ok (.iload_n 2, 1) := by decide +kernel
theorem dX4_init_18 : decode cX4_init 18 = .ok (.iconst 1, 1) := by decide +kernel
theorem dX4_init_19 : decode cX4_init 19 = .ok (.if_icmp .ge 7, 3) := by decide +kernel
theorem dX4_init_22 : decode cX4_init 22 = .ok (.iconst 1, 1) := by decide +kernel
theorem dX4_init_23 : decode cX4_init 23 = .ok (.goto 4, 3) := by decide +kernel
theorem dX4_init_26 : decode cX4_init 26 = .ok (.iload_n 2, 1) := by decide +kernel
theorem dX4_init_27 : decode cX4_init 27 = .ok (.anewarray 7, 3) := by decide +kernel
theorem dX4_init_30 : decode cX4_init 30 = .ok (.putfield 18, 3) := by decide +kernel
theorem dX4_init_33 : decode cX4_init 33 = .ok (.iconst 0, 1) := by decide +kernel
theorem dX4_init_34 : decode cX4_init 34 = .ok (.istore_n 3, 1) := by decide +kernel
theorem dX4_init_35 : decode cX4_init 35 = .ok (.iload_n 3, 1) := by decide +kernel
theorem dX4_init_36 : decode cX4_init 36 = .ok (.aload_n 0, 1) := by decide +kernel
theorem dX4_init_37 : decode cX4_init 37 = .ok (.getfield 18, 3) := by decide +kernel
theorem dX4_init_40 : decode cX4_init 40 = .ok (.arraylength, 1) := by decide +kernel
theorem dX4_init_41 : decode cX4_init 41 = .ok (.if_icmp .ge 34, 3) := by decide +kernel
theorem dX4_init_44 : decode cX4_init 44 = .ok (.aload_n 0, 1) := by decide +kernel
theorem dX4_init_45 : decode cX4_init 45 = .ok (.getfield 18, 3) := by decide +kernel
theorem dX4_init_48 : decode cX4_init 48 = .ok (.iload_n 3, 1) := by decide +kernel
theorem dX4_init_49 : decode cX4_init 49 = .ok (.iload_n 3, 1) := by decide +kernel
theorem dX4_init_50 : decode cX4_init 50 = .ok (.ifCond .ne 10, 3) := by decide +kernel
theorem dX4_init_53 : decode cX4_init 53 = .ok (.aload_n 0, 1) := by decide +kernel
theorem dX4_init_54 : decode cX4_init 54 = .ok (.getfield 12, 3) := by decide +kernel
theorem dX4_init_57 : decode cX4_init 57 = .ok (.goto 11, 3) := by decide +kernel
theorem dX4_init_60 : decode cX4_init 60 = .ok (.new 7, 3) := by decide +kernel
theorem dX4_init_63 : decode cX4_init 63 = .ok (.dup, 1) := by decide +kernel
theorem dX4_init_64 : decode cX4_init 64 = .ok (.aload_n 1, 1) := by decide +kernel
theorem dX4_init_65 : decode cX4_init 65 = .ok (.invokespecial 9, 3) := by decide +kernel
theorem dX4_init_68 : decode cX4_init 68 = .ok (.aastore, 1) := by decide +kernel
theorem dX4_init_69 : decode cX4_init 69 = .ok (.iinc 3 1, 3) := by decide +kernel
theorem dX4_init_72 : decode cX4_init 72 = .ok (.goto (-37), 3) := by decide +kernel
theorem dX4_init_75 : decode cX4_init 75 = .ok (.return_, 1) := by decide +kernel
theorem dX4_get_0 : decode cX4_get 0 = .ok (.iload_n 1, 1) := by decide +kernel
theorem dX4_get_1 : decode cX4_get 1 = .ok (.ifCond .lt 21, 3) := by decide +kernel
theorem dX4_get_4 : decode cX4_get 4 = .ok (.iload_n 1, 1) := by decide +kernel
theorem dX4_get_5 : decode cX4_get 5 = .ok (.aload_n 0, 1) := by decide +kernel
theorem dX4_get_6 : decode cX4_get 6 = .ok (.getfield 18, 3) := by decide +kernel
theorem dX4_get_9 : decode cX4_get 9 = .ok (.arraylength, 1) := by decide +kernel
theorem dX4_get_10 : decode cX4_get 10 = .ok (.if_icmp .ge 12, 3) := by decide +kernel
theorem dX4_get_13 : decode cX4_get 13 = .ok (.aload_n 0, 1) := by decide +kernel
theorem dX4_get_14 : decode cX4_get 14 = .ok (.getfield 18, 3) := by decide +kernel
theorem dX4_get_17 : decode cX4_get 17 = .ok (.iload_n 1, 1) := by decide +kernel
theorem dX4_get_18 : decode cX4_get 18 = .ok (.aaload, 1) := by decide +kernel
theorem dX4_get_19 : decode cX4_get 19 = .ok (.goto 7, 3) := by decide +kernel
theorem dX4_get_22 : decode cX4_get 22 = .ok (.aload_n 0, 1) := by decide +kernel
theorem dX4_get_23 : decode cX4_get 23 = .ok (.getfield 12, 3) := by decide +kernel
theorem dX4_get_26 : decode cX4_get 26 = .ok (.astore_n 2, 1) := by decide +kernel
theorem dX4_get_27 : decode cX4_get 27 = .ok (.aload_n 2, 1) := by decide +kernel
theorem dX4_get_28 : decode cX4_get 28 = .ok (.ifnonnull 10, 3) := by decide +kernel
theorem dX4_get_31 : decode cX4_get 31 = .ok (.aload_n 0, 1) := by decide +kernel
theorem dX4_get_32 : decode cX4_get 32 = .ok (.getfield 12, 3) := by decide +kernel
theorem dX4_get_35 : decode cX4_get 35 = .ok (.goto 4, 3) := by decide +kernel
theorem dX4_get_38 : decode cX4_get 38 = .ok (.aload_n 2, 1) := by decide +kernel
theorem dX4_get_39 : decode cX4_get 39 = .ok (.areturn, 1) := by decide +kernel
end
section
theorem dX5_init_0 : decode cX5_init 0 = .ok (.aload_n 0, 1) := by decide +kernel
theorem dX5_init_1 : decode cX5_init 1 = .ok (.invokespecial 3, 3) := by decide +kernel
theorem dX5_init_4 : decode cX5_init 4 = .ok (.aload_n 0, 1) := by decide +kernel
theorem dX5_init_5 : decode cX5_init 5 = .ok (.sipush 200, 3) := by decide +kernel
theorem dX5_init_8 : decode cX5_init 8 = .ok (.newarray .int, 2) := by decide +kernel
theorem dX5_init_10 : decode cX5_init 10 = .ok (.putfield 9, 3) := by decide +kernel
theorem dX5_init_13 : decode cX5_init 13 = .ok (.aload_n 0, 1) := by decide +kernel
theorem dX5_init_14 : decode cX5_init 14 = .ok (.new 15, 3) := by decide +kernel
theorem dX5_init_17 : decode cX5_init 17 = .ok (.dup, 1) := by decide +kernel
theorem dX5_init_18 : decode cX5_init 18 = .ok (.invokespecial 17, 3) := by decide +kernel
theorem dX5_init_21 : decode cX5_init 21 = .ok (.putfield 18, 3) := by decide +kernel
theorem dX5_init_24 : decode cX5_init 24 = .ok (.aload_n 0, 1) := by decide +kernel
theorem dX5_init_25 : decode cX5_init 25 = .ok (.new 22, 3) := by decide +kernel
theorem dX5_init_28 : decode cX5_init 28 = .ok (.dup, 1) := by decide +kernel
theorem dX5_init_29 : decode cX5_init 29 = .ok (.aload_n 0, 1) := by decide +kernel
theorem dX5_init_30 : decode cX5_init 30 = .ok (.getfield 18, 3) := by decide +kernel
theorem dX5_init_33 : decode cX5_init 33 = .ok (.invokespecial 24, 3) := by decide +kernel
theorem dX5_init_36 : decode cX5_init 36 = .ok (.putfield 27, 3) := by decide +kernel
theorem dX5_init_39 : decode cX5_init 39 = .ok (.aload_n 0, 1) := by decide +kernel
theorem dX5_init_40 : decode cX5_init 40 = .ok (.iconst 0, 1) := by decide +kernel
theorem dX5_init_41 : decode cX5_init 41 = .ok (.putfield 31, 3) := by decide +kernel
theorem dX5_init_44 : decode cX5_init 44 = .ok (.aload_n 0, 1) := by decide +kernel
theorem dX5_init_45 : decode cX5_init 45 = .ok (.iconst 0, 1) := by decide +kernel
theorem dX5_init_46 : decode cX5_init 46 = .ok (.putfield 35, 3) := by decide +kernel
theorem dX5_init_49 : decode cX5_init 49 = .ok (.return_, 1) := by decide +kernel
theorem dX5_add_0 : decode cX5_add 0 = .ok (.aload_n 0, 1) := by decide +kernel
theorem dX5_add_1 : decode cX5_add 1 = .ok (.getfield 31, 3) := by decide +kernel
theorem dX5_add_4 : decode cX5_add 4 = .ok (.ifCond .lt 13, 3) := by decide +kernel
theorem dX5_add_7 : decode cX5_add 7 = .ok (.aload_n 0, 1) := by decide +kernel
theorem dX5_add_8 : decode cX5_add 8 = .ok (.getfield 31, 3) := by decide +kernel
theorem dX5_add_11 : decode cX5_add 11 = .ok (.sipush 200, 3) := by decide +kernel
theorem dX5_add_14 : decode cX5_add 14 = .ok (.if_icmp .lt 5, 3) := by decide +kernel
theorem dX5_add_17 : decode cX5_add 17 = .ok (.iconst 0, 1) := by decide +kernel
theorem dX5_add_18 : decode cX5_add 18 = .ok (.ireturn, 1) := by decide +kernel
theorem dX5_add_19 : decode cX5_add 19 = .ok (.aload_n 0, 1) := by decide +kernel
theorem dX5_add_20 : decode cX5_add 20 = .ok (.getfield 9, 3) := by decide +kernel
theorem dX5_add_23 : decode cX5_add 23 = .ok (.aload_n 0, 1) := by decide +kernel
theorem dX5_add_24 : decode cX5_add 24 = .ok (.getfield 31, 3) := by decide +kernel
theorem dX5_add_27 : decode cX5_add 27 = .ok (.iload_n 1, 1) := by decide +kernel
theorem dX5_add_28 : decode cX5_add 28 = .ok (.iastore, 1) := by decide +kernel
theorem dX5_add_29 : decode cX5_add 29 = .ok (.aload_n 0, 1) := by decide +kernel
theorem dX5_add_30 : decode cX5_add 30 = .ok (.dup, 1) := by decide +kernel
theorem dX5_add_31 : decode cX5_add 31 = .ok (.getfield 31, 3) := by decide +kernel
theorem dX5_add_34 : decode cX5_add 34 = .ok (.iconst 1, 1) := by decide +kernel
theorem dX5_add_35 : decode cX5_add 35 = .ok (.iadd, 1) := by decide +kernel
theorem dX5_add_36 : decode cX5_add 36 = .ok (.putfield 31, 3) := by decide +kernel
theorem dX5_add_39 : decode cX5_add 39 = .ok (.iconst 1, 1) := by decide +kernel
theorem dX5_add_40 : decode cX5_add 40 = .ok (.ireturn, 1) := by decide +kernel
theorem dX5_firstFault_0 : decode cX5_firstFault 0 = .ok (.aload_n 0, 1) := by decide +kernel
theorem dX5_firstFault_1 : decode cX5_firstFault 1 = .ok (.getfield 18, 3) := by decide +kernel
theorem dX5_firstFault_4 : decode cX5_firstFault 4 = .ok (.invokevirtual 38, 3) := by decide +kernel
theorem dX5_firstFault_7 : decode cX5_firstFault 7 = .ok (.aload_n 0, 1) := by decide +kernel
theorem dX5_firstFault_8 : decode cX5_firstFault 8 = .ok (.getfield 27, 3) := by decide +kernel
theorem dX5_firstFault_11 : decode cX5_firstFault 11 = .ok (.iconst 0, 1) := by decide +kernel
theorem dX5_firstFault_12 : decode cX5_firstFault 12 = .ok (.putfield 41, 3) := by decide +kernel
theorem dX5_firstFault_15 : decode cX5_firstFault 15 = .ok (.aload_n 0, 1) := by decide +kernel
theorem dX5_firstFault_16 : decode cX5_firstFault 16 = .ok (.iconst 0, 1) := by decide +kernel
theorem dX5_firstFault_17 : decode cX5_firstFault 17 = .ok (.putfield 35, 3) := by decide +kernel
theorem dX5_firstFault_20 : decode cX5_firstFault 20 = .ok (.iconst 0, 1) := by decide +kernel
theorem dX5_firstFault_21 : decode cX5_firstFault 21 = .ok (.istore_n 1, 1) := by decide +kernel
theorem dX5_firstFault_22 : decode cX5_firstFault 22 = .ok (.iload_n 1, 1) := by decide +kernel
theorem dX5_firstFault_23 : decode cX5_firstFault 23 = .ok (.sipush 200, 3) := by decide +kernel
theorem dX5_firstFault_26 : decode cX5_firstFault 26 = .ok (.if_icmp .ge 34, 3) := by decide +kernel
theorem dX5_firstFault_29 : decode cX5_firstFault 29 = .ok (.aload_n 0, 1) := by decide +kernel
theorem dX5_firstFault_30 : decode cX5_firstFault 30 = .ok (.getfield 35, 3) := by decide +kernel
theorem dX5_firstFault_33 : decode cX5_firstFault 33 = .ok (.aload_n 0, 1) := by decide +kernel
theorem dX5_firstFault_34 : decode cX5_firstFault 34 = .ok (.getfield 31, 3) := by decide +kernel
theorem dX5_firstFault_37 : decode cX5_firstFault 37 = .ok (.if_icmp .ge 23, 3) := by decide +kernel
theorem dX5_firstFault_40 : decode cX5_firstFault 40 = .ok (.aload_n 0, 1) := by decide +kernel
theorem dX5_firstFault_41 : decode cX5_firstFault 41 = .ok (.getfield 35, 3) := by decide +kernel
theorem dX5_firstFault_44 : decode cX5_firstFault 44 = .ok (.istore_n 2, 1) := by decide +kernel
theorem dX5_firstFault_45 : decode cX5_firstFault 45 = .ok (.aload_n 0, 1) := by decide +kernel
theorem dX5_firstFault_46 : decode cX5_firstFault 46 = .ok (.invokevirtual 44, 3) := by decide +kernel
theorem dX5_firstFault_49 : decode cX5_firstFault 49 = .ok (.ifCond .ne 5, 3) := by decide +kernel
theorem dX5_firstFault_52 : decode cX5_firstFault 52 = .ok (.iload_n 2, 1) := by decide +kernel
theorem dX5_firstFault_53 : decode cX5_firstFault 53 = .ok (.ireturn, 1) := by decide +kernel
theorem dX5_firstFault_54 : decode cX5_firstFault 54 = .ok (.iinc 1 1, 3) := by decide +kernel
theorem dX5_firstFault_57 : decode cX5_firstFault 57 = .ok (.goto (-35), 3) := by decide +kernel
theorem dX5_firstFault_60 : decode cX5_firstFault 60 = .ok (.bipush (-4), 2) := by decide +kernel
theorem dX5_firstFault_62 : decode cX5_firstFault 62 = .ok (.ireturn, 1) := by decide +kernel
theorem dX5_readItem_0 : decode cX5_readItem 0 = .ok (.aload_n 0, 1) := by decide +kernel
theorem dX5_readItem_1 : decode cX5_readItem 1 = .ok (.invokevirtual 48, 3) := by decide +kernel
theorem dX5_readItem_4 : decode cX5_readItem 4 = .ok (.istore_n 1, 1) := by decide +kernel
theorem dX5_readItem_5 : decode cX5_readItem 5 = .ok (.aload_n 0, 1) := by decide +kernel
theorem dX5_readItem_6 : decode cX5_readItem 6 = .ok (.dup, 1) := by decide +kernel
theorem dX5_readItem_7 : decode cX5_readItem 7 = .ok (.getfield 35, 3) := by decide +kernel
theorem dX5_readItem_10 : decode cX5_readItem 10 = .ok (.iconst 1, 1) := by decide +kernel
theorem dX5_readItem_11 : decode cX5_readItem 11 = .ok (.iadd, 1) := by decide +kernel
theorem dX5_readItem_12 : decode cX5_readItem 12 = .ok (.putfield 35, 3) := by decide +kernel
theorem dX5_readItem_15 : decode cX5_readItem 15 = .ok (.iload_n 1, 1) := by decide +kernel
theorem dX5_readItem_16 : decode cX5_readItem 16 = .ok (.lookupswitch 77 #[(98, 57), (104, 67), (114, 52), (115, 72), (119, 62)], 52) := by decide +kernel
theorem dX5_readItem_68 : decode cX5_readItem 68 = .ok (.aload_n 0, 1) := by decide +kernel
theorem dX5_readItem_69 : decode cX5_readItem 69 = .ok (.invokevirtual 52, 3) := by decide +kernel
theorem dX5_readItem_72 : decode cX5_readItem 72 = .ok (.ireturn, 1) := by decide +kernel
theorem dX5_readItem_73 : decode cX5_readItem 73 = .ok (.aload_n 0, 1) := by decide +kernel
theorem dX5_readItem_74 : decode cX5_readItem 74 = .ok (.invokevirtual 55, 3) := by decide +kernel
theorem dX5_readItem_77 : decode cX5_readItem 77 = .ok (.ireturn, 1) := by decide +kernel
theorem dX5_readItem_78 : decode cX5_readItem 78 = .ok (.aload_n 0, 1) := by decide +kernel
theorem dX5_readItem_79 : decode cX5_readItem 79 = .ok (.invokevirtual 58, 3) := by decide +kernel
theorem dX5_readItem_82 : decode cX5_readItem 82 = .ok (.ireturn, 1) := by decide +kernel
theorem dX5_readItem_83 : decode cX5_readItem 83 = .ok (.aload_n 0, 1) := by decide +kernel
theorem dX5_readItem_84 : decode cX5_readItem 84 = .ok (.invokevirtual 61, 3) := by decide +kernel
theorem dX5_readItem_87 : decode cX5_readItem 87 = .ok (.ireturn, 1) := by decide +kernel
theorem dX5_readItem_88 : decode cX5_readItem 88 = .ok (.aload_n 0, 1) := by decide +kernel
theorem dX5_readItem_89 : decode cX5_readItem 89 = .ok (.invokevirtual 64, 3) := by decide +kernel
theorem dX5_readItem_92 : decode cX5_readItem 92 = .ok (.ireturn, 1) := by decide +kernel
theorem dX5_readItem_93 : decode cX5_readItem 93 = .ok (.iconst 0, 1) := by decide +kernel
theorem dX5_readItem_94 : decode cX5_readItem 94 = .ok (.ireturn, 1) := by decide +kernel
theorem dX5_letterAtHead_0 : decode cX5_letterAtHead 0 = .ok (.aload_n 0, 1) := by decide +kernel
theorem dX5_letterAtHead_1 : decode cX5_letterAtHead 1 = .ok (.getfield 35, 3) := by decide +kernel
theorem dX5_letterAtHead_4 : decode cX5_letterAtHead 4 = .ok (.ifCond .lt 36, 3) := by decide +kernel
theorem dX5_letterAtHead_7 : decode cX5_letterAtHead 7 = .ok (.aload_n 0, 1) := by decide +kernel
theorem dX5_letterAtHead_8 : decode cX5_letterAtHead 8 = .ok (.getfield 35, 3) := by decide +kernel
theorem dX5_letterAtHead_11 : decode cX5_letterAtHead 11 = .ok (.aload_n 0, 1) := by decide +kernel
theorem dX5_letterAtHead_12 : decode cX5_letterAtHead 12 = .ok (.getfield 31, 3) := by decide +kernel
theorem dX5_letterAtHead_15 : decode cX5_letterAtHead 15 = .ok (.if_icmp .ge 25, 3) := by decide +kernel
theorem dX5_letterAtHead_18 : decode cX5_letterAtHead 18 = .ok (.aload_n 0, 1) := by decide +kernel
theorem dX5_letterAtHead_19 : decode cX5_letterAtHead 19 = .ok (.getfield 35, 3) := by decide +kernel
theorem dX5_letterAtHead_22 : decode cX5_letterAtHead 22 = .ok (.sipush 200, 3) := by decide +kernel
theorem dX5_letterAtHead_25 : decode cX5_letterAtHead 25 = .ok (.if_icmp .ge 15, 3) := by decide +kernel
theorem dX5_letterAtHead_28 : decode cX5_letterAtHead 28 = .ok (.aload_n 0, 1) := by decide +kernel
theorem dX5_letterAtHead_29 : decode cX5_letterAtHead 29 = .ok (.getfield 9, 3) := by decide +kernel
theorem dX5_letterAtHead_32 : decode cX5_letterAtHead 32 = .ok (.aload_n 0, 1) := by decide +kernel
theorem dX5_letterAtHead_33 : decode cX5_letterAtHead 33 = .ok (.getfield 35, 3) := by decide +kernel
theorem dX5_letterAtHead_36 : decode cX5_letterAtHead 36 = .ok (.iaload, 1) := by decide +kernel
theorem dX5_letterAtHead_37 : decode cX5_letterAtHead 37 = .ok (.goto 4, 3) := by decide +kernel
theorem dX5_letterAtHead_40 : decode cX5_letterAtHead 40 = .ok (.iconst 0, 1) := by decide +kernel
theorem dX5_letterAtHead_41 : decode cX5_letterAtHead 41 = .ok (.ireturn, 1) := by decide +kernel
theorem dX5_passes_0 : decode cX5_passes 0 = .ok (.aload_n 0, 1) := by decide +kernel
theorem dX5_passes_1 : decode cX5_passes 1 = .ok (.invokevirtual 48, 3) := by decide +kernel
theorem dX5_passes_4 : decode cX5_passes 4 = .ok (.iload_n 1, 1) := by decide +kernel
theorem dX5_passes_5 : decode cX5_passes 5 = .ok (.if_icmp .eq 5, 3) := by decide +kernel
theorem dX5_passes_8 : decode cX5_passes 8 = .ok (.iconst 0, 1) := by decide +kernel
theorem dX5_passes_9 : decode cX5_passes 9 = .ok (.ireturn, 1) := by decide +kernel
theorem dX5_passes_10 : decode cX5_passes 10 = .ok (.aload_n 0, 1) := by decide +kernel
theorem dX5_passes_11 : decode cX5_passes 11 = .ok (.dup, 1) := by decide +kernel
theorem dX5_passes_12 : decode cX5_passes 12 = .ok (.getfield 35, 3) := by decide +kernel
theorem dX5_passes_15 : decode cX5_passes 15 = .ok (.iconst 1, 1) := by decide +kernel
theorem dX5_passes_16 : decode cX5_passes 16 = .ok (.iadd, 1) := by decide +kernel
theorem dX5_passes_17 : decode cX5_passes 17 = .ok (.putfield 35, 3) := by decide +kernel
theorem dX5_passes_20 : decode cX5_passes 20 = .ok (.iconst 1, 1) := by decide +kernel
theorem dX5_passes_21 : decode cX5_passes 21 = .ok (.ireturn, 1) := by decide +kernel
theorem dX5_readFigure_0 : decode cX5_readFigure 0 = .ok (.aload_n 0, 1) := by decide +kernel
theorem dX5_readFigure_1 : decode cX5_readFigure 1 = .ok (.getfield 35, 3) := by decide +kernel
theorem dX5_readFigure_4 : decode cX5_readFigure 4 = .ok (.ifCond .lt 36, 3) := by decide +kernel
theorem dX5_readFigure_7 : decode cX5_readFigure 7 = .ok (.aload_n 0, 1) := by decide +kernel
theorem dX5_readFigure_8 : decode cX5_readFigure 8 = .ok (.getfield 35, 3) := by decide +kernel
theorem dX5_readFigure_11 : decode cX5_readFigure 11 = .ok (.aload_n 0, 1) := by decide +kernel
theorem dX5_readFigure_12 : decode cX5_readFigure 12 = .ok (.getfield 31, 3) := by decide +kernel
theorem dX5_readFigure_15 : decode cX5_readFigure 15 = .ok (.if_icmp .ge 25, 3) := by decide +kernel
theorem dX5_readFigure_18 : decode cX5_readFigure 18 = .ok (.aload_n 0, 1) := by decide +kernel
theorem dX5_readFigure_19 : decode cX5_readFigure 19 = .ok (.getfield 35, 3) := by decide +kernel
theorem dX5_readFigure_22 : decode cX5_readFigure 22 = .ok (.sipush 200, 3) := by decide +kernel
theorem dX5_readFigure_25 : decode cX5_readFigure 25 = .ok (.if_icmp .ge 15, 3) := by decide +kernel
theorem dX5_readFigure_28 : decode cX5_readFigure 28 = .ok (.aload_n 0, 1) := by decide +kernel
theorem dX5_readFigure_29 : decode cX5_readFigure 29 = .ok (.getfield 9, 3) := by decide +kernel
theorem dX5_readFigure_32 : decode cX5_readFigure 32 = .ok (.aload_n 0, 1) := by decide +kernel
theorem dX5_readFigure_33 : decode cX5_readFigure 33 = .ok (.getfield 35, 3) := by decide +kernel
theorem dX5_readFigure_36 : decode cX5_readFigure 36 = .ok (.iaload, 1) := by decide +kernel
theorem dX5_readFigure_37 : decode cX5_readFigure 37 = .ok (.goto 4, 3) := by decide +kernel
theorem dX5_readFigure_40 : decode cX5_readFigure 40 = .ok (.iconst 0, 1) := by decide +kernel
theorem dX5_readFigure_41 : decode cX5_readFigure 41 = .ok (.istore_n 1, 1) := by decide +kernel
theorem dX5_readFigure_42 : decode cX5_readFigure 42 = .ok (.iload_n 1, 1) := by decide +kernel
theorem dX5_readFigure_43 : decode cX5_readFigure 43 = .ok (.bipush 48, 2) := by decide +kernel
theorem dX5_readFigure_45 : decode cX5_readFigure 45 = .ok (.if_icmp .lt 9, 3) := by decide +kernel
theorem dX5_readFigure_48 : decode cX5_readFigure 48 = .ok (.iload_n 1, 1) := by decide +kernel
theorem dX5_readFigure_49 : decode cX5_readFigure 49 = .ok (.bipush 57, 2) := by decide +kernel
theorem dX5_readFigure_51 : decode cX5_readFigure 51 = .ok (.if_icmp .le 6, 3) := by decide +kernel
theorem dX5_readFigure_54 : decode cX5_readFigure 54 = .ok (.bipush (-4), 2) := by decide +kernel
theorem dX5_readFigure_56 : decode cX5_readFigure 56 = .ok (.ireturn, 1) := by decide +kernel
theorem dX5_readFigure_57 : decode cX5_readFigure 57 = .ok (.aload_n 0, 1) := by decide +kernel
theorem dX5_readFigure_58 : decode cX5_readFigure 58 = .ok (.dup, 1) := by decide +kernel
theorem dX5_readFigure_59 : decode cX5_readFigure 59 = .ok (.getfield 35, 3) := by decide +kernel
theorem dX5_readFigure_62 : decode cX5_readFigure 62 = .ok (.iconst 1, 1) := by decide +kernel
theorem dX5_readFigure_63 : decode cX5_readFigure 63 = .ok (.iadd, 1) := by decide +kernel
theorem dX5_readFigure_64 : decode cX5_readFigure 64 = .ok (.putfield 35, 3) := by decide +kernel
theorem dX5_readFigure_67 : decode cX5_readFigure 67 = .ok (.iload_n 1, 1) := by decide +kernel
theorem dX5_readFigure_68 : decode cX5_readFigure 68 = .ok (.bipush 48, 2) := by decide +kernel
theorem dX5_readFigure_70 : decode cX5_readFigure 70 = .ok (.isub, 1) := by decide +kernel
theorem dX5_readFigure_71 : decode cX5_readFigure 71 = .ok (.ireturn, 1) := by decide +kernel
theorem dX5_readNumber_0 : decode cX5_readNumber 0 = .ok (.aload_n 0, 1) := by decide +kernel
theorem dX5_readNumber_1 : decode cX5_readNumber 1 = .ok (.invokevirtual 67, 3) := by decide +kernel
theorem dX5_readNumber_4 : decode cX5_readNumber 4 = .ok (.istore_n 1, 1) := by decide +kernel
theorem dX5_readNumber_5 : decode cX5_readNumber 5 = .ok (.iload_n 1, 1) := by decide +kernel
theorem dX5_readNumber_6 : decode cX5_readNumber 6 = .ok (.bipush (-4), 2) := by decide +kernel
theorem dX5_readNumber_8 : decode cX5_readNumber 8 = .ok (.if_icmp .ne 8, 3) := by decide +kernel
theorem dX5_readNumber_11 : decode cX5_readNumber 11 = .ok (.bipush (-4), 2) := by decide +kernel
theorem dX5_readNumber_13 : decode cX5_readNumber 13 = .ok (.goto 7, 3) := by decide +kernel
theorem dX5_readNumber_16 : decode cX5_readNumber 16 = .ok (.aload_n 0, 1) := by decide +kernel
theorem dX5_readNumber_17 : decode cX5_readNumber 17 = .ok (.invokevirtual 67, 3) := by decide +kernel
theorem dX5_readNumber_20 : decode cX5_readNumber 20 = .ok (.istore_n 2, 1) := by decide +kernel
theorem dX5_readNumber_21 : decode cX5_readNumber 21 = .ok (.iload_n 2, 1) := by decide +kernel
theorem dX5_readNumber_22 : decode cX5_readNumber 22 = .ok (.bipush (-4), 2) := by decide +kernel
theorem dX5_readNumber_24 : decode cX5_readNumber 24 = .ok (.if_icmp .ne 7, 3) := by decide +kernel
theorem dX5_readNumber_27 : decode cX5_readNumber 27 = .ok (.iload_n 1, 1) := by decide +kernel
theorem dX5_readNumber_28 : decode cX5_readNumber 28 = .ok (.goto 9, 3) := by decide +kernel
theorem dX5_readNumber_31 : decode cX5_readNumber 31 = .ok (.bipush 10, 2) := by decide +kernel
theorem dX5_readNumber_33 : decode cX5_readNumber 33 = .ok (.iload_n 1, 1) := by decide +kernel
theorem dX5_readNumber_34 : decode cX5_readNumber 34 = .ok (.imul, 1) := by decide +kernel
theorem dX5_readNumber_35 : decode cX5_readNumber 35 = .ok (.iload_n 2, 1) := by decide +kernel
theorem dX5_readNumber_36 : decode cX5_readNumber 36 = .ok (.iadd, 1) := by decide +kernel
theorem dX5_readNumber_37 : decode cX5_readNumber 37 = .ok (.ireturn, 1) := by decide +kernel
theorem dX5_readRow_0 : decode cX5_readRow 0 = .ok (.aload_n 0, 1) := by decide +kernel
theorem dX5_readRow_1 : decode cX5_readRow 1 = .ok (.getfield 18, 3) := by decide +kernel
theorem dX5_readRow_4 : decode cX5_readRow 4 = .ok (.getfield 70, 3) := by decide +kernel
theorem dX5_readRow_7 : decode cX5_readRow 7 = .ok (.bipush 6, 2) := by decide +kernel
theorem dX5_readRow_9 : decode cX5_readRow 9 = .ok (.if_icmp .lt 5, 3) := by decide +kernel
theorem dX5_readRow_12 : decode cX5_readRow 12 = .ok (.iconst 0, 1) := by decide +kernel
theorem dX5_readRow_13 : decode cX5_readRow 13 = .ok (.ireturn, 1) := by decide +kernel
theorem dX5_readRow_14 : decode cX5_readRow 14 = .ok (.iconst 0, 1) := by decide +kernel
theorem dX5_readRow_15 : decode cX5_readRow 15 = .ok (.istore_n 1, 1) := by decide +kernel
theorem dX5_readRow_16 : decode cX5_readRow 16 = .ok (.iconst 0, 1) := by decide +kernel
theorem dX5_readRow_17 : decode cX5_readRow 17 = .ok (.istore_n 2, 1) := by decide +kernel
theorem dX5_readRow_18 : decode cX5_readRow 18 = .ok (.iload_n 2, 1) := by decide +kernel
theorem dX5_readRow_19 : decode cX5_readRow 19 = .ok (.bipush 6, 2) := by decide +kernel
theorem dX5_readRow_21 : decode cX5_readRow 21 = .ok (.if_icmp .ge 60, 3) := by decide +kernel
theorem dX5_readRow_24 : decode cX5_readRow 24 = .ok (.aload_n 0, 1) := by decide +kernel
theorem dX5_readRow_25 : decode cX5_readRow 25 = .ok (.invokevirtual 67, 3) := by decide +kernel
theorem dX5_readRow_28 : decode cX5_readRow 28 = .ok (.istore_n 3, 1) := by decide +kernel
theorem dX5_readRow_29 : decode cX5_readRow 29 = .ok (.aload_n 0, 1) := by decide +kernel
theorem dX5_readRow_30 : decode cX5_readRow 30 = .ok (.getfield 18, 3) := by decide +kernel
theorem dX5_readRow_33 : decode cX5_readRow 33 = .ok (.getfield 73, 3) := by decide +kernel
theorem dX5_readRow_36 : decode cX5_readRow 36 = .ok (.iload_n 1, 1) := by decide +kernel
theorem dX5_readRow_37 : decode cX5_readRow 37 = .ok (.iadd, 1) := by decide +kernel
theorem dX5_readRow_38 : decode cX5_readRow 38 = .ok (.istore 4, 2) := by decide +kernel
theorem dX5_readRow_40 : decode cX5_readRow 40 = .ok (.iload_n 3, 1) := by decide +kernel
theorem dX5_readRow_41 : decode cX5_readRow 41 = .ok (.bipush (-4), 2) := by decide +kernel
theorem dX5_readRow_43 : decode cX5_readRow 43 = .ok (.if_icmp .eq 38, 3) := by decide +kernel
theorem dX5_readRow_46 : decode cX5_readRow 46 = .ok (.iload 4, 2) := by decide +kernel
theorem dX5_readRow_48 : decode cX5_readRow 48 = .ok (.ifCond .lt 33, 3) := by decide +kernel
theorem dX5_readRow_51 : decode cX5_readRow 51 = .ok (.iload 4, 2) := by decide +kernel
theorem dX5_readRow_53 : decode cX5_readRow 53 = .ok (.bipush 36, 2) := by decide +kernel
theorem dX5_readRow_55 : decode cX5_readRow 55 = .ok (.if_icmp .lt 6, 3) := by decide +kernel
theorem dX5_readRow_58 : decode cX5_readRow 58 = .ok (.goto 23, 3) := by decide +kernel
theorem dX5_readRow_61 : decode cX5_readRow 61 = .ok (.aload_n 0, 1) := by decide +kernel
theorem dX5_readRow_62 : decode cX5_readRow 62 = .ok (.getfield 27, 3) := by decide +kernel
theorem dX5_readRow_65 : decode cX5_readRow 65 = .ok (.getfield 76, 3) := by decide +kernel
theorem dX5_readRow_68 : decode cX5_readRow 68 = .ok (.iload 4, 2) := by decide +kernel
theorem dX5_readRow_70 : decode cX5_readRow 70 = .ok (.iload_n 3, 1) := by decide +kernel
theorem dX5_readRow_71 : decode cX5_readRow 71 = .ok (.iastore, 1) := by decide +kernel
theorem dX5_readRow_72 : decode cX5_readRow 72 = .ok (.iinc 1 1, 3) := by decide +kernel
theorem dX5_readRow_75 : decode cX5_readRow 75 = .ok (.iinc 2 1, 3) := by decide +kernel
theorem dX5_readRow_78 : decode cX5_readRow 78 = .ok (.goto (-60), 3) := by decide +kernel
theorem dX5_readRow_81 : decode cX5_readRow 81 = .ok (.iload_n 1, 1) := by decide +kernel
theorem dX5_readRow_82 : decode cX5_readRow 82 = .ok (.iconst 1, 1) := by decide +kernel
theorem dX5_readRow_83 : decode cX5_readRow 83 = .ok (.if_icmp .lt 33, 3) := by decide +kernel
theorem dX5_readRow_86 : decode cX5_readRow 86 = .ok (.aload_n 0, 1) := by decide +kernel
theorem dX5_readRow_87 : decode cX5_readRow 87 = .ok (.getfield 18, 3) := by decide +kernel
theorem dX5_readRow_90 : decode cX5_readRow 90 = .ok (.getfield 70, 3) := by decide +kernel
theorem dX5_readRow_93 : decode cX5_readRow 93 = .ok (.ifCond .le 14, 3) := by decide +kernel
theorem dX5_readRow_96 : decode cX5_readRow 96 = .ok (.iload_n 1, 1) := by decide +kernel
theorem dX5_readRow_97 : decode cX5_readRow 97 = .ok (.aload_n 0, 1) := by decide +kernel
theorem dX5_readRow_98 : decode cX5_readRow 98 = .ok (.getfield 18, 3) := by decide +kernel
theorem dX5_readRow_101 : decode cX5_readRow 101 = .ok (.getfield 79, 3) := by decide +kernel
theorem dX5_readRow_104 : decode cX5_readRow 104 = .ok (.if_icmp .ne 12, 3) := by decide +kernel
theorem dX5_readRow_107 : decode cX5_readRow 107 = .ok (.aload_n 0, 1) := by decide +kernel
theorem dX5_readRow_108 : decode cX5_readRow 108 = .ok (.bipush 59, 2) := by decide +kernel
theorem dX5_readRow_110 : decode cX5_readRow 110 = .ok (.invokevirtual 82, 3) := by decide +kernel
theorem dX5_readRow_113 : decode cX5_readRow 113 = .ok (.ifCond .ne 5, 3) := by decide +kernel
theorem dX5_readRow_116 : decode cX5_readRow 116 = .ok (.iconst 0, 1) := by decide +kernel
theorem dX5_readRow_117 : decode cX5_readRow 117 = .ok (.ireturn, 1) := by decide +kernel
theorem dX5_readRow_118 : decode cX5_readRow 118 = .ok (.aload_n 0, 1) := by decide +kernel
theorem dX5_readRow_119 : decode cX5_readRow 119 = .ok (.getfield 18, 3) := by decide +kernel
theorem dX5_readRow_122 : decode cX5_readRow 122 = .ok (.iload_n 1, 1) := by decide +kernel
theorem dX5_readRow_123 : decode cX5_readRow 123 = .ok (.putfield 79, 3) := by decide +kernel
theorem dX5_readRow_126 : decode cX5_readRow 126 = .ok (.aload_n 0, 1) := by decide +kernel
theorem dX5_readRow_127 : decode cX5_readRow 127 = .ok (.getfield 18, 3) := by decide +kernel
theorem dX5_readRow_130 : decode cX5_readRow 130 = .ok (.dup, 1) := by decide +kernel
theorem dX5_readRow_131 : decode cX5_readRow 131 = .ok (.getfield 70, 3) := by decide +kernel
theorem dX5_readRow_134 : decode cX5_readRow 134 = .ok (.iconst 1, 1) := by decide +kernel
theorem dX5_readRow_135 : decode cX5_readRow 135 = .ok (.iadd, 1) := by decide +kernel
theorem dX5_readRow_136 : decode cX5_readRow 136 = .ok (.putfield 70, 3) := by decide +kernel
theorem dX5_readRow_139 : decode cX5_readRow 139 = .ok (.aload_n 0, 1) := by decide +kernel
theorem dX5_readRow_140 : decode cX5_readRow 140 = .ok (.getfield 18, 3) := by decide +kernel
theorem dX5_readRow_143 : decode cX5_readRow 143 = .ok (.dup, 1) := by decide +kernel
theorem dX5_readRow_144 : decode cX5_readRow 144 = .ok (.getfield 73, 3) := by decide +kernel
theorem dX5_readRow_147 : decode cX5_readRow 147 = .ok (.iload_n 1, 1) := by decide +kernel
theorem dX5_readRow_148 : decode cX5_readRow 148 = .ok (.iadd, 1) := by decide +kernel
theorem dX5_readRow_149 : decode cX5_readRow 149 = .ok (.putfield 73, 3) := by decide +kernel
theorem dX5_readRow_152 : decode cX5_readRow 152 = .ok (.iconst 1, 1) := by decide +kernel
theorem dX5_readRow_153 : decode cX5_readRow 153 = .ok (.ireturn, 1) := by decide +kernel
theorem dX5_readBeast_0 : decode cX5_readBeast 0 = .ok (.aload_n 0, 1) := by decide +kernel
theorem dX5_readBeast_1 : decode cX5_readBeast 1 = .ok (.invokevirtual 86, 3) := by decide +kernel
theorem dX5_readBeast_4 : decode cX5_readBeast 4 = .ok (.istore_n 1, 1) := by decide +kernel
theorem dX5_readBeast_5 : decode cX5_readBeast 5 = .ok (.aload_n 0, 1) := by decide +kernel
theorem dX5_readBeast_6 : decode cX5_readBeast 6 = .ok (.bipush 44, 2) := by decide +kernel
theorem dX5_readBeast_8 : decode cX5_readBeast 8 = .ok (.invokevirtual 82, 3) := by decide +kernel
theorem dX5_readBeast_11 : decode cX5_readBeast 11 = .ok (.istore_n 2, 1) := by decide +kernel
theorem dX5_readBeast_12 : decode cX5_readBeast 12 = .ok (.aload_n 0, 1) := by decide +kernel
theorem dX5_readBeast_13 : decode cX5_readBeast 13 = .ok (.invokevirtual 86, 3) := by decide +kernel
theorem dX5_readBeast_16 : decode cX5_readBeast 16 = .ok (.istore_n 3, 1) := by decide +kernel
theorem dX5_readBeast_17 : decode cX5_readBeast 17 = .ok (.iload_n 2, 1) := by decide +kernel
theorem dX5_readBeast_18 : decode cX5_readBeast 18 = .ok (.ifCond .eq 16, 3) := by decide +kernel
theorem dX5_readBeast_21 : decode cX5_readBeast 21 = .ok (.aload_n 0, 1) := by decide +kernel
theorem dX5_readBeast_22 : decode cX5_readBeast 22 = .ok (.bipush 44, 2) := by decide +kernel
theorem dX5_readBeast_24 : decode cX5_readBeast 24 = .ok (.invokevirtual 82, 3) := by decide +kernel
theorem dX5_readBeast_27 : decode cX5_readBeast 27 = .ok (.ifCond .eq 7, 3) := by decide +kernel
theorem dX5_readBeast_30 : decode cX5_readBeast 30 = .ok (.iconst 1, 1) := by decide +kernel
theorem dX5_readBeast_31 : decode cX5_readBeast 31 = .ok (.goto 4, 3) := by decide +kernel
theorem dX5_readBeast_34 : decode cX5_readBeast 34 = .ok (.iconst 0, 1) := by decide +kernel
theorem dX5_readBeast_35 : decode cX5_readBeast 35 = .ok (.istore_n 2, 1) := by decide +kernel
theorem dX5_readBeast_36 : decode cX5_readBeast 36 = .ok (.aload_n 0, 1) := by decide +kernel
theorem dX5_readBeast_37 : decode cX5_readBeast 37 = .ok (.invokevirtual 86, 3) := by decide +kernel
theorem dX5_readBeast_40 : decode cX5_readBeast 40 = .ok (.istore 4, 2) := by decide +kernel
theorem dX5_readBeast_42 : decode cX5_readBeast 42 = .ok (.iload_n 2, 1) := by decide +kernel
theorem dX5_readBeast_43 : decode cX5_readBeast 43 = .ok (.ifCond .eq 28, 3) := by decide +kernel
theorem dX5_readBeast_46 : decode cX5_readBeast 46 = .ok (.aload_n 0, 1) := by decide +kernel
theorem dX5_readBeast_47 : decode cX5_readBeast 47 = .ok (.bipush 59, 2) := by decide +kernel
theorem dX5_readBeast_49 : decode cX5_readBeast 49 = .ok (.invokevirtual 82, 3) := by decide +kernel
theorem dX5_readBeast_52 : decode cX5_readBeast 52 = .ok (.ifCond .eq 19, 3) := by decide +kernel
theorem dX5_readBeast_55 : decode cX5_readBeast 55 = .ok (.iload_n 1, 1) := by decide +kernel
theorem dX5_readBeast_56 : decode cX5_readBeast 56 = .ok (.ifCond .lt 15, 3) := by decide +kernel
theorem dX5_readBeast_59 : decode cX5_readBeast 59 = .ok (.iload_n 1, 1) := by decide +kernel
theorem dX5_readBeast_60 : decode cX5_readBeast 60 = .ok (.iconst 3, 1) := by decide +kernel
theorem dX5_readBeast_61 : decode cX5_readBeast 61 = .ok (.if_icmp .gt 10, 3) := by decide +kernel
theorem dX5_readBeast_64 : decode cX5_readBeast 64 = .ok (.iload_n 3, 1) := by decide +kernel
theorem dX5_readBeast_65 : decode cX5_readBeast 65 = .ok (.invokestatic 89, 3) := by decide +kernel
theorem dX5_readBeast_68 : decode cX5_readBeast 68 = .ok (.ifCond .ne 5, 3) := by decide +kernel
theorem dX5_readBeast_71 : decode cX5_readBeast 71 = .ok (.iconst 0, 1) := by decide +kernel
theorem dX5_readBeast_72 : decode cX5_readBeast 72 = .ok (.ireturn, 1) := by decide +kernel
theorem dX5_readBeast_73 : decode cX5_readBeast 73 = .ok (.aload_n 0, 1) := by decide +kernel
theorem dX5_readBeast_74 : decode cX5_readBeast 74 = .ok (.getfield 18, 3) := by decide +kernel
theorem dX5_readBeast_77 : decode cX5_readBeast 77 = .ok (.getfield 92, 3) := by decide +kernel
theorem dX5_readBeast_80 : decode cX5_readBeast 80 = .ok (.istore 5, 2) := by decide +kernel
theorem dX5_readBeast_82 : decode cX5_readBeast 82 = .ok (.iload 5, 2) := by decide +kernel
theorem dX5_readBeast_84 : decode cX5_readBeast 84 = .ok (.ifCond .lt 38, 3) := by decide +kernel
theorem dX5_readBeast_87 : decode cX5_readBeast 87 = .ok (.iload 5, 2) := by decide +kernel
theorem dX5_readBeast_89 : decode cX5_readBeast 89 = .ok (.bipush 8, 2) := by decide +kernel
theorem dX5_readBeast_91 : decode cX5_readBeast 91 = .ok (.if_icmp .ge 31, 3) := by decide +kernel
theorem dX5_readBeast_94 : decode cX5_readBeast 94 = .ok (.aload_n 0, 1) := by decide +kernel
theorem dX5_readBeast_95 : decode cX5_readBeast 95 = .ok (.getfield 27, 3) := by decide +kernel
theorem dX5_readBeast_98 : decode cX5_readBeast 98 = .ok (.iload 4, 2) := by decide +kernel
theorem dX5_readBeast_100 : decode cX5_readBeast 100 = .ok (.invokevirtual 95, 3) := by decide +kernel
theorem dX5_readBeast_103 : decode cX5_readBeast 103 = .ok (.bipush 9, 2) := by decide +kernel
theorem dX5_readBeast_105 : decode cX5_readBeast 105 = .ok (.if_icmp .eq 17, 3) := by decide +kernel
theorem dX5_readBeast_108 : decode cX5_readBeast 108 = .ok (.aload_n 0, 1) := by decide +kernel
theorem dX5_readBeast_109 : decode cX5_readBeast 109 = .ok (.getfield 27, 3) := by decide +kernel
theorem dX5_readBeast_112 : decode cX5_readBeast 112 = .ok (.iload 4, 2) := by decide +kernel
theorem dX5_readBeast_114 : decode cX5_readBeast 114 = .ok (.invokevirtual 99, 3) := by decide +kernel
theorem dX5_readBeast_117 : decode cX5_readBeast 117 = .ok (.bipush (-4), 2) := by decide +kernel
theorem dX5_readBeast_119 : decode cX5_readBeast 119 = .ok (.if_icmp .eq 5, 3) := by decide +kernel
theorem dX5_readBeast_122 : decode cX5_readBeast 122 = .ok (.iconst 0, 1) := by decide +kernel
theorem dX5_readBeast_123 : decode cX5_readBeast 123 = .ok (.ireturn, 1) := by decide +kernel
theorem dX5_readBeast_124 : decode cX5_readBeast 124 = .ok (.aload_n 0, 1) := by decide +kernel
theorem dX5_readBeast_125 : decode cX5_readBeast 125 = .ok (.getfield 18, 3) := by decide +kernel
theorem dX5_readBeast_128 : decode cX5_readBeast 128 = .ok (.dup, 1) := by decide +kernel
theorem dX5_readBeast_129 : decode cX5_readBeast 129 = .ok (.getfield 92, 3) := by decide +kernel
theorem dX5_readBeast_132 : decode cX5_readBeast 132 = .ok (.iconst 1, 1) := by decide +kernel
theorem dX5_readBeast_133 : decode cX5_readBeast 133 = .ok (.iadd, 1) := by decide +kernel
theorem dX5_readBeast_134 : decode cX5_readBeast 134 = .ok (.putfield 92, 3) := by decide +kernel
theorem dX5_readBeast_137 : decode cX5_readBeast 137 = .ok (.aload_n 0, 1) := by decide +kernel
theorem dX5_readBeast_138 : decode cX5_readBeast 138 = .ok (.getfield 18, 3) := by decide +kernel
theorem dX5_readBeast_141 : decode cX5_readBeast 141 = .ok (.getfield 102, 3) := by decide +kernel
theorem dX5_readBeast_144 : decode cX5_readBeast 144 = .ok (.iload 5, 2) := by decide +kernel
theorem dX5_readBeast_146 : decode cX5_readBeast 146 = .ok (.iload_n 3, 1) := by decide +kernel
theorem dX5_readBeast_147 : decode cX5_readBeast 147 = .ok (.iastore, 1) := by decide +kernel
theorem dX5_readBeast_148 : decode cX5_readBeast 148 = .ok (.aload_n 0, 1) := by decide +kernel
theorem dX5_readBeast_149 : decode cX5_readBeast 149 = .ok (.getfield 27, 3) := by decide +kernel
theorem dX5_readBeast_152 : decode cX5_readBeast 152 = .ok (.getfield 105, 3) := by decide +kernel
theorem dX5_readBeast_155 : decode cX5_readBeast 155 = .ok (.iload 5, 2) := by decide +kernel
theorem dX5_readBeast_157 : decode cX5_readBeast 157 = .ok (.iconst 0, 1) := by decide +kernel
theorem dX5_readBeast_158 : decode cX5_readBeast 158 = .ok (.iastore, 1) := by decide +kernel
theorem dX5_readBeast_159 : decode cX5_readBeast 159 = .ok (.aload_n 0, 1) := by decide +kernel
theorem dX5_readBeast_160 : decode cX5_readBeast 160 = .ok (.getfield 27, 3) := by decide +kernel
theorem dX5_readBeast_163 : decode cX5_readBeast 163 = .ok (.iload 5, 2) := by decide +kernel
theorem dX5_readBeast_165 : decode cX5_readBeast 165 = .ok (.iload 4, 2) := by decide +kernel
theorem dX5_readBeast_167 : decode cX5_readBeast 167 = .ok (.iload_n 1, 1) := by decide +kernel
theorem dX5_readBeast_168 : decode cX5_readBeast 168 = .ok (.invokevirtual 108, 3) := by decide +kernel
theorem dX5_readBeast_171 : decode cX5_readBeast 171 = .ok (.iconst 1, 1) := by decide +kernel
theorem dX5_readBeast_172 : decode cX5_readBeast 172 = .ok (.ireturn, 1) := by decide +kernel
theorem dX5_readWell_0 : decode cX5_readWell 0 = .ok (.aload_n 0, 1) := by decide +kernel
theorem dX5_readWell_1 : decode cX5_readWell 1 = .ok (.invokevirtual 86, 3) := by decide +kernel
theorem dX5_readWell_4 : decode cX5_readWell 4 = .ok (.istore_n 1, 1) := by decide +kernel
theorem dX5_readWell_5 : decode cX5_readWell 5 = .ok (.aload_n 0, 1) := by decide +kernel
theorem dX5_readWell_6 : decode cX5_readWell 6 = .ok (.bipush 59, 2) := by decide +kernel
theorem dX5_readWell_8 : decode cX5_readWell 8 = .ok (.invokevirtual 82, 3) := by decide +kernel
theorem dX5_readWell_11 : decode cX5_readWell 11 = .ok (.ifCond .eq 16, 3) := by decide +kernel
theorem dX5_readWell_14 : decode cX5_readWell 14 = .ok (.aload_n 0, 1) := by decide +kernel
theorem dX5_readWell_15 : decode cX5_readWell 15 = .ok (.getfield 27, 3) := by decide +kernel
theorem dX5_readWell_18 : decode cX5_readWell 18 = .ok (.iload_n 1, 1) := by decide +kernel
theorem dX5_readWell_19 : decode cX5_readWell 19 = .ok (.invokevirtual 95, 3) := by decide +kernel
theorem dX5_readWell_22 : decode cX5_readWell 22 = .ok (.bipush 9, 2) := by decide +kernel
theorem dX5_readWell_24 : decode cX5_readWell 24 = .ok (.if_icmp .ne 5, 3) := by decide +kernel
theorem dX5_readWell_27 : decode cX5_readWell 27 = .ok (.iconst 0, 1) := by decide +kernel
theorem dX5_readWell_28 : decode cX5_readWell 28 = .ok (.ireturn, 1) := by decide +kernel
theorem dX5_readWell_29 : decode cX5_readWell 29 = .ok (.aload_n 0, 1) := by decide +kernel
theorem dX5_readWell_30 : decode cX5_readWell 30 = .ok (.getfield 18, 3) := by decide +kernel
theorem dX5_readWell_33 : decode cX5_readWell 33 = .ok (.iload_n 1, 1) := by decide +kernel
theorem dX5_readWell_34 : decode cX5_readWell 34 = .ok (.putfield 112, 3) := by decide +kernel
theorem dX5_readWell_37 : decode cX5_readWell 37 = .ok (.iconst 1, 1) := by decide +kernel
theorem dX5_readWell_38 : decode cX5_readWell 38 = .ok (.ireturn, 1) := by decide +kernel
theorem dX5_readHunger_0 : decode cX5_readHunger 0 = .ok (.aload_n 0, 1) := by decide +kernel
theorem dX5_readHunger_1 : decode cX5_readHunger 1 = .ok (.invokevirtual 86, 3) := by decide +kernel
theorem dX5_readHunger_4 : decode cX5_readHunger 4 = .ok (.istore_n 1, 1) := by decide +kernel
theorem dX5_readHunger_5 : decode cX5_readHunger 5 = .ok (.aload_n 0, 1) := by decide +kernel
theorem dX5_readHunger_6 : decode cX5_readHunger 6 = .ok (.bipush 59, 2) := by decide +kernel
theorem dX5_readHunger_8 : decode cX5_readHunger 8 = .ok (.invokevirtual 82, 3) := by decide +kernel
theorem dX5_readHunger_11 : decode cX5_readHunger 11 = .ok (.ifCond .eq 14, 3) := by decide +kernel
theorem dX5_readHunger_14 : decode cX5_readHunger 14 = .ok (.iload_n 1, 1) := by decide +kernel
theorem dX5_readHunger_15 : decode cX5_readHunger 15 = .ok (.iconst 1, 1) := by decide +kernel
theorem dX5_readHunger_16 : decode cX5_readHunger 16 = .ok (.if_icmp .lt 9, 3) := by decide +kernel
theorem dX5_readHunger_19 : decode cX5_readHunger 19 = .ok (.iload_n 1, 1) := by decide +kernel
theorem dX5_readHunger_20 : decode cX5_readHunger 20 = .ok (.bipush 9, 2) := by decide +kernel
theorem dX5_readHunger_22 : decode cX5_readHunger 22 = .ok (.if_icmp .le 5, 3) := by decide +kernel
theorem dX5_readHunger_25 : decode cX5_readHunger 25 = .ok (.iconst 0, 1) := by decide +kernel
theorem dX5_readHunger_26 : decode cX5_readHunger 26 = .ok (.ireturn, 1) := by decide +kernel
theorem dX5_readHunger_27 : decode cX5_readHunger 27 = .ok (.aload_n 0, 1) := by decide +kernel
theorem dX5_readHunger_28 : decode cX5_readHunger 28 = .ok (.getfield 18, 3) := by decide +kernel
theorem dX5_readHunger_31 : decode cX5_readHunger 31 = .ok (.iload_n 1, 1) := by decide +kernel
theorem dX5_readHunger_32 : decode cX5_readHunger 32 = .ok (.putfield 115, 3) := by decide +kernel
theorem dX5_readHunger_35 : decode cX5_readHunger 35 = .ok (.iconst 1, 1) := by decide +kernel
theorem dX5_readHunger_36 : decode cX5_readHunger 36 = .ok (.ireturn, 1) := by decide +kernel
theorem dX5_readSnow_0 : decode cX5_readSnow 0 = .ok (.aload_n 0, 1) := by decide +kernel
theorem dX5_readSnow_1 : decode cX5_readSnow 1 = .ok (.invokevirtual 86, 3) := by decide +kernel
theorem dX5_readSnow_4 : decode cX5_readSnow 4 = .ok (.istore_n 1, 1) := by decide +kernel
theorem dX5_readSnow_5 : decode cX5_readSnow 5 = .ok (.aload_n 0, 1) := by decide +kernel
theorem dX5_readSnow_6 : decode cX5_readSnow 6 = .ok (.bipush 59, 2) := by decide +kernel
theorem dX5_readSnow_8 : decode cX5_readSnow 8 = .ok (.invokevirtual 82, 3) := by decide +kernel
theorem dX5_readSnow_11 : decode cX5_readSnow 11 = .ok (.ifCond .eq 34, 3) := by decide +kernel
theorem dX5_readSnow_14 : decode cX5_readSnow 14 = .ok (.iload_n 1, 1) := by decide +kernel
theorem dX5_readSnow_15 : decode cX5_readSnow 15 = .ok (.ifCond .lt 30, 3) := by decide +kernel
theorem dX5_readSnow_18 : decode cX5_readSnow 18 = .ok (.iload_n 1, 1) := by decide +kernel
theorem dX5_readSnow_19 : decode cX5_readSnow 19 = .ok (.iconst 1, 1) := by decide +kernel
theorem dX5_readSnow_20 : decode cX5_readSnow 20 = .ok (.if_icmp .gt 25, 3) := by decide +kernel
theorem dX5_readSnow_23 : decode cX5_readSnow 23 = .ok (.aload_n 0, 1) := by decide +kernel
theorem dX5_readSnow_24 : decode cX5_readSnow 24 = .ok (.getfield 18, 3) := by decide +kernel
theorem dX5_readSnow_27 : decode cX5_readSnow 27 = .ok (.getfield 118, 3) := by decide +kernel
theorem dX5_readSnow_30 : decode cX5_readSnow 30 = .ok (.ifCond .lt 15, 3) := by decide +kernel
theorem dX5_readSnow_33 : decode cX5_readSnow 33 = .ok (.aload_n 0, 1) := by decide +kernel
theorem dX5_readSnow_34 : decode cX5_readSnow 34 = .ok (.getfield 18, 3) := by decide +kernel
theorem dX5_readSnow_37 : decode cX5_readSnow 37 = .ok (.getfield 118, 3) := by decide +kernel
theorem dX5_readSnow_40 : decode cX5_readSnow 40 = .ok (.bipush 9, 2) := by decide +kernel
theorem dX5_readSnow_42 : decode cX5_readSnow 42 = .ok (.if_icmp .lt 5, 3) := by decide +kernel
theorem dX5_readSnow_45 : decode cX5_readSnow 45 = .ok (.iconst 0, 1) := by decide +kernel
theorem dX5_readSnow_46 : decode cX5_readSnow 46 = .ok (.ireturn, 1) := by decide +kernel
theorem dX5_readSnow_47 : decode cX5_readSnow 47 = .ok (.aload_n 0, 1) := by decide +kernel
theorem dX5_readSnow_48 : decode cX5_readSnow 48 = .ok (.getfield 18, 3) := by decide +kernel
theorem dX5_readSnow_51 : decode cX5_readSnow 51 = .ok (.getfield 121, 3) := by decide +kernel
theorem dX5_readSnow_54 : decode cX5_readSnow 54 = .ok (.aload_n 0, 1) := by decide +kernel
theorem dX5_readSnow_55 : decode cX5_readSnow 55 = .ok (.getfield 18, 3) := by decide +kernel
theorem dX5_readSnow_58 : decode cX5_readSnow 58 = .ok (.getfield 118, 3) := by decide +kernel
theorem dX5_readSnow_61 : decode cX5_readSnow 61 = .ok (.iload_n 1, 1) := by decide +kernel
theorem dX5_readSnow_62 : decode cX5_readSnow 62 = .ok (.iastore, 1) := by decide +kernel
theorem dX5_readSnow_63 : decode cX5_readSnow 63 = .ok (.aload_n 0, 1) := by decide +kernel
theorem dX5_readSnow_64 : decode cX5_readSnow 64 = .ok (.getfield 18, 3) := by decide +kernel
theorem dX5_readSnow_67 : decode cX5_readSnow 67 = .ok (.dup, 1) := by decide +kernel
theorem dX5_readSnow_68 : decode cX5_readSnow 68 = .ok (.getfield 118, 3) := by decide +kernel
theorem dX5_readSnow_71 : decode cX5_readSnow 71 = .ok (.iconst 1, 1) := by decide +kernel
theorem dX5_readSnow_72 : decode cX5_readSnow 72 = .ok (.iadd, 1) := by decide +kernel
theorem dX5_readSnow_73 : decode cX5_readSnow 73 = .ok (.putfield 118, 3) := by decide +kernel
theorem dX5_readSnow_76 : decode cX5_readSnow 76 = .ok (.iconst 1, 1) := by decide +kernel
theorem dX5_readSnow_77 : decode cX5_readSnow 77 = .ok (.ireturn, 1) := by decide +kernel
theorem dX6_init_0 : decode cX6_init 0 = .ok (.aload_n 0, 1) := by decide +kernel
theorem dX6_init_1 : decode cX6_init 1 = .ok (.invokespecial 3, 3) := by decide +kernel
theorem dX6_init_4 : decode cX6_init 4 = .ok (.aload_n 0, 1) := by decide +kernel
theorem dX6_init_5 : decode cX6_init 5 = .ok (.bipush 72, 2) := by decide +kernel
theorem dX6_init_7 : decode cX6_init 7 = .ok (.newarray .int, 2) := by decide +kernel
theorem dX6_init_9 : decode cX6_init 9 = .ok (.putfield 11, 3) := by decide +kernel
theorem dX6_init_12 : decode cX6_init 12 = .ok (.aload_n 0, 1) := by decide +kernel
theorem dX6_init_13 : decode cX6_init 13 = .ok (.bipush 72, 2) := by decide +kernel
theorem dX6_init_15 : decode cX6_init 15 = .ok (.newarray .int, 2) := by decide +kernel
theorem dX6_init_17 : decode cX6_init 17 = .ok (.putfield 15, 3) := by decide +kernel
theorem dX6_init_20 : decode cX6_init 20 = .ok (.aload_n 0, 1) := by decide +kernel
theorem dX6_init_21 : decode cX6_init 21 = .ok (.bipush 72, 2) := by decide +kernel
theorem dX6_init_23 : decode cX6_init 23 = .ok (.newarray .int, 2) := by decide +kernel
theorem dX6_init_25 : decode cX6_init 25 = .ok (.putfield 18, 3) := by decide +kernel
theorem dX6_init_28 : decode cX6_init 28 = .ok (.aload_n 0, 1) := by decide +kernel
theorem dX6_init_29 : decode cX6_init 29 = .ok (.bipush 72, 2) := by decide +kernel
theorem dX6_init_31 : decode cX6_init 31 = .ok (.newarray .int, 2) := by decide +kernel
theorem dX6_init_33 : decode cX6_init 33 = .ok (.putfield 21, 3) := by decide +kernel
theorem dX6_init_36 : decode cX6_init 36 = .ok (.aload_n 0, 1) := by decide +kernel
theorem dX6_init_37 : decode cX6_init 37 = .ok (.bipush 72, 2) := by decide +kernel
theorem dX6_init_39 : decode cX6_init 39 = .ok (.newarray .int, 2) := by decide +kernel
theorem dX6_init_41 : decode cX6_init 41 = .ok (.putfield 24, 3) := by decide +kernel
theorem dX6_init_44 : decode cX6_init 44 = .ok (.aload_n 0, 1) := by decide +kernel
theorem dX6_init_45 : decode cX6_init 45 = .ok (.bipush 72, 2) := by decide +kernel
theorem dX6_init_47 : decode cX6_init 47 = .ok (.newarray .boolean, 2) := by decide +kernel
theorem dX6_init_49 : decode cX6_init 49 = .ok (.putfield 27, 3) := by decide +kernel
theorem dX6_init_52 : decode cX6_init 52 = .ok (.aload_n 0, 1) := by decide +kernel
theorem dX6_init_53 : decode cX6_init 53 = .ok (.iconst 0, 1) := by decide +kernel
theorem dX6_init_54 : decode cX6_init 54 = .ok (.putfield 31, 3) := by decide +kernel
theorem dX6_init_57 : decode cX6_init 57 = .ok (.aload_n 0, 1) := by decide +kernel
theorem dX6_init_58 : decode cX6_init 58 = .ok (.new 35, 3) := by decide +kernel
theorem dX6_init_61 : decode cX6_init 61 = .ok (.dup, 1) := by decide +kernel
theorem dX6_init_62 : decode cX6_init 62 = .ok (.aload_n 1, 1) := by decide +kernel
theorem dX6_init_63 : decode cX6_init 63 = .ok (.invokespecial 37, 3) := by decide +kernel
theorem dX6_init_66 : decode cX6_init 66 = .ok (.putfield 40, 3) := by decide +kernel
theorem dX6_init_69 : decode cX6_init 69 = .ok (.return_, 1) := by decide +kernel
theorem dX6_from_0 : decode cX6_from 0 = .ok (.aload_n 0, 1) := by decide +kernel
theorem dX6_from_1 : decode cX6_from 1 = .ok (.getfield 40, 3) := by decide +kernel
theorem dX6_from_4 : decode cX6_from 4 = .ok (.aload_n 1, 1) := by decide +kernel
theorem dX6_from_5 : decode cX6_from 5 = .ok (.invokevirtual 44, 3) := by decide +kernel
theorem dX6_from_8 : decode cX6_from 8 = .ok (.aload_n 0, 1) := by decide +kernel
theorem dX6_from_9 : decode cX6_from 9 = .ok (.iconst 0, 1) := by decide +kernel
theorem dX6_from_10 : decode cX6_from 10 = .ok (.putfield 31, 3) := by decide +kernel
theorem dX6_from_13 : decode cX6_from 13 = .ok (.iconst 0, 1) := by decide +kernel
theorem dX6_from_14 : decode cX6_from 14 = .ok (.istore_n 3, 1) := by decide +kernel
theorem dX6_from_15 : decode cX6_from 15 = .ok (.iload_n 3, 1) := by decide +kernel
theorem dX6_from_16 : decode cX6_from 16 = .ok (.bipush 72, 2) := by decide +kernel
theorem dX6_from_18 : decode cX6_from 18 = .ok (.if_icmp .ge 16, 3) := by decide +kernel
theorem dX6_from_21 : decode cX6_from 21 = .ok (.aload_n 0, 1) := by decide +kernel
theorem dX6_from_22 : decode cX6_from 22 = .ok (.getfield 27, 3) := by decide +kernel
theorem dX6_from_25 : decode cX6_from 25 = .ok (.iload_n 3, 1) := by decide +kernel
theorem dX6_from_26 : decode cX6_from 26 = .ok (.iconst 0, 1) := by decide +kernel
theorem dX6_from_27 : decode cX6_from 27 = .ok (.bastore, 1) := by decide +kernel
theorem dX6_from_28 : decode cX6_from 28 = .ok (.iinc 3 1, 3) := by decide +kernel
theorem dX6_from_31 : decode cX6_from 31 = .ok (.goto (-16), 3) := by decide +kernel
theorem dX6_from_34 : decode cX6_from 34 = .ok (.aload_n 0, 1) := by decide +kernel
theorem dX6_from_35 : decode cX6_from 35 = .ok (.iload_n 2, 1) := by decide +kernel
theorem dX6_from_36 : decode cX6_from 36 = .ok (.iconst 0, 1) := by decide +kernel
theorem dX6_from_37 : decode cX6_from 37 = .ok (.bipush (-4), 2) := by decide +kernel
theorem dX6_from_39 : decode cX6_from 39 = .ok (.bipush (-4), 2) := by decide +kernel
theorem dX6_from_41 : decode cX6_from 41 = .ok (.invokevirtual 48, 3) := by decide +kernel
theorem dX6_from_44 : decode cX6_from 44 = .ok (.iconst 0, 1) := by decide +kernel
theorem dX6_from_45 : decode cX6_from 45 = .ok (.istore_n 3, 1) := by decide +kernel
theorem dX6_from_46 : decode cX6_from 46 = .ok (.iload_n 3, 1) := by decide +kernel
theorem dX6_from_47 : decode cX6_from 47 = .ok (.aload_n 0, 1) := by decide +kernel
theorem dX6_from_48 : decode cX6_from 48 = .ok (.getfield 31, 3) := by decide +kernel
theorem dX6_from_51 : decode cX6_from 51 = .ok (.if_icmp .ge 96, 3) := by decide +kernel
theorem dX6_from_54 : decode cX6_from 54 = .ok (.iload_n 3, 1) := by decide +kernel
theorem dX6_from_55 : decode cX6_from 55 = .ok (.bipush 72, 2) := by decide +kernel
theorem dX6_from_57 : decode cX6_from 57 = .ok (.if_icmp .ge 90, 3) := by decide +kernel
theorem dX6_from_60 : decode cX6_from 60 = .ok (.iconst 0, 1) := by decide +kernel
theorem dX6_from_61 : decode cX6_from 61 = .ok (.istore 4, 2) := by decide +kernel
theorem dX6_from_63 : decode cX6_from 63 = .ok (.iload 4, 2) := by decide +kernel
theorem dX6_from_65 : decode cX6_from 65 = .ok (.iconst 4, 1) := by decide +kernel
theorem dX6_from_66 : decode cX6_from 66 = .ok (.if_icmp .ge 75, 3) := by decide +kernel
theorem dX6_from_69 : decode cX6_from 69 = .ok (.aload_n 0, 1) := by decide +kernel
theorem dX6_from_70 : decode cX6_from 70 = .ok (.getfield 40, 3) := by decide +kernel
theorem dX6_from_73 : decode cX6_from 73 = .ok (.iload_n 2, 1) := by decide +kernel
theorem dX6_from_74 : decode cX6_from 74 = .ok (.aload_n 0, 1) := by decide +kernel
theorem dX6_from_75 : decode cX6_from 75 = .ok (.getfield 11, 3) := by decide +kernel
theorem dX6_from_78 : decode cX6_from 78 = .ok (.iload_n 3, 1) := by decide +kernel
theorem dX6_from_79 : decode cX6_from 79 = .ok (.iaload, 1) := by decide +kernel
theorem dX6_from_80 : decode cX6_from 80 = .ok (.aload_n 0, 1) := by decide +kernel
theorem dX6_from_81 : decode cX6_from 81 = .ok (.getfield 15, 3) := by decide +kernel
theorem dX6_from_84 : decode cX6_from 84 = .ok (.iload_n 3, 1) := by decide +kernel
theorem dX6_from_85 : decode cX6_from 85 = .ok (.iaload, 1) := by decide +kernel
theorem dX6_from_86 : decode cX6_from 86 = .ok (.invokevirtual 52, 3) := by decide +kernel
theorem dX6_from_89 : decode cX6_from 89 = .ok (.aload_n 0, 1) := by decide +kernel
theorem dX6_from_90 : decode cX6_from 90 = .ok (.getfield 40, 3) := by decide +kernel
theorem dX6_from_93 : decode cX6_from 93 = .ok (.iload_n 2, 1) := by decide +kernel
theorem dX6_from_94 : decode cX6_from 94 = .ok (.iload 4, 2) := by decide +kernel
theorem dX6_from_96 : decode cX6_from 96 = .ok (.iconst 1, 1) := by decide +kernel
theorem dX6_from_97 : decode cX6_from 97 = .ok (.invokevirtual 56, 3) := by decide +kernel
theorem dX6_from_100 : decode cX6_from 100 = .ok (.istore 5, 2) := by decide +kernel
theorem dX6_from_102 : decode cX6_from 102 = .ok (.iload 5, 2) := by decide +kernel
theorem dX6_from_104 : decode cX6_from 104 = .ok (.bipush (-4), 2) := by decide +kernel
theorem dX6_from_106 : decode cX6_from 106 = .ok (.if_icmp .eq 29, 3) := by decide +kernel
theorem dX6_from_109 : decode cX6_from 109 = .ok (.aload_n 0, 1) := by decide +kernel
theorem dX6_from_110 : decode cX6_from 110 = .ok (.getfield 40, 3) := by decide +kernel
theorem dX6_from_113 : decode cX6_from 113 = .ok (.iload_n 2, 1) := by decide +kernel
theorem dX6_from_114 : decode cX6_from 114 = .ok (.iload 5, 2) := by decide +kernel
theorem dX6_from_116 : decode cX6_from 116 = .ok (.invokevirtual 60, 3) := by decide +kernel
theorem dX6_from_119 : decode cX6_from 119 = .ok (.aload_n 0, 1) := by decide +kernel
theorem dX6_from_120 : decode cX6_from 120 = .ok (.iload_n 2, 1) := by decide +kernel
theorem dX6_from_121 : decode cX6_from 121 = .ok (.aload_n 0, 1) := by decide +kernel
theorem dX6_from_122 : decode cX6_from 122 = .ok (.getfield 18, 3) := by decide +kernel
theorem dX6_from_125 : decode cX6_from 125 = .ok (.iload_n 3, 1) := by decide +kernel
theorem dX6_from_126 : decode cX6_from 126 = .ok (.iaload, 1) := by decide +kernel
theorem dX6_from_127 : decode cX6_from 127 = .ok (.iconst 1, 1) := by decide +kernel
theorem dX6_from_128 : decode cX6_from 128 = .ok (.iadd, 1) := by decide +kernel
theorem dX6_from_129 : decode cX6_from 129 = .ok (.iload_n 3, 1) := by decide +kernel
theorem dX6_from_130 : decode cX6_from 130 = .ok (.iload 4, 2) := by decide +kernel
theorem dX6_from_132 : decode cX6_from 132 = .ok (.invokevirtual 48, 3) := by decide +kernel
theorem dX6_from_135 : decode cX6_from 135 = .ok (.iinc 4 1, 3) := by decide +kernel
theorem dX6_from_138 : decode cX6_from 138 = .ok (.goto (-75), 3) := by decide +kernel
theorem dX6_from_141 : decode cX6_from 141 = .ok (.iinc 3 1, 3) := by decide +kernel
theorem dX6_from_144 : decode cX6_from 144 = .ok (.goto (-98), 3) := by decide +kernel
theorem dX6_from_147 : decode cX6_from 147 = .ok (.return_, 1) := by decide +kernel
theorem dX6_add_0 : decode cX6_add 0 = .ok (.aload_n 0, 1) := by decide +kernel
theorem dX6_add_1 : decode cX6_add 1 = .ok (.getfield 40, 3) := by decide +kernel
theorem dX6_add_4 : decode cX6_add 4 = .ok (.iload_n 1, 1) := by decide +kernel
theorem dX6_add_5 : decode cX6_add 5 = .ok (.invokevirtual 64, 3) := by decide +kernel
theorem dX6_add_8 : decode cX6_add 8 = .ok (.istore 5, 2) := by decide +kernel
theorem dX6_add_10 : decode cX6_add 10 = .ok (.aload_n 0, 1) := by decide +kernel
theorem dX6_add_11 : decode cX6_add 11 = .ok (.getfield 40, 3) := by decide +kernel
theorem dX6_add_14 : decode cX6_add 14 = .ok (.iload_n 1, 1) := by decide +kernel
theorem dX6_add_15 : decode cX6_add 15 = .ok (.invokevirtual 68, 3) := by decide +kernel
theorem dX6_add_18 : decode cX6_add 18 = .ok (.iconst 2, 1) := by decide +kernel
theorem dX6_add_19 : decode cX6_add 19 = .ok (.if_icmp .ne 11, 3) := by decide +kernel
theorem dX6_add_22 : decode cX6_add 22 = .ok (.iload 5, 2) := by decide +kernel
theorem dX6_add_24 : decode cX6_add 24 = .ok (.bipush 36, 2) := by decide +kernel
theorem dX6_add_26 : decode cX6_add 26 = .ok (.iadd, 1) := by decide +kernel
theorem dX6_add_27 : decode cX6_add 27 = .ok (.goto 5, 3) := by decide +kernel
theorem dX6_add_30 : decode cX6_add 30 = .ok (.iload 5, 2) := by decide +kernel
theorem dX6_add_32 : decode cX6_add 32 = .ok (.istore 6, 2) := by decide +kernel
theorem dX6_add_34 : decode cX6_add 34 = .ok (.iload 6, 2) := by decide +kernel
theorem dX6_add_36 : decode cX6_add 36 = .ok (.ifCond .lt 36, 3) := by decide +kernel
theorem dX6_add_39 : decode cX6_add 39 = .ok (.iload 6, 2) := by decide +kernel
theorem dX6_add_41 : decode cX6_add 41 = .ok (.bipush 72, 2) := by decide +kernel
theorem dX6_add_43 : decode cX6_add 43 = .ok (.if_icmp .ge 29, 3) := by decide +kernel
theorem dX6_add_46 : decode cX6_add 46 = .ok (.aload_n 0, 1) := by decide +kernel
theorem dX6_add_47 : decode cX6_add 47 = .ok (.getfield 27, 3) := by decide +kernel
theorem dX6_add_50 : decode cX6_add 50 = .ok (.iload 6, 2) := by decide +kernel
theorem dX6_add_52 : decode cX6_add 52 = .ok (.baload, 1) := by decide +kernel
theorem dX6_add_53 : decode cX6_add 53 = .ok (.ifCond .ne 19, 3) := by decide +kernel
theorem dX6_add_56 : decode cX6_add 56 = .ok (.aload_n 0, 1) := by decide +kernel
theorem dX6_add_57 : decode cX6_add 57 = .ok (.getfield 31, 3) := by decide +kernel
theorem dX6_add_60 : decode cX6_add 60 = .ok (.ifCond .lt 12, 3) := by decide +kernel
theorem dX6_add_63 : decode cX6_add 63 = .ok (.aload_n 0, 1) := by decide +kernel
theorem dX6_add_64 : decode cX6_add 64 = .ok (.getfield 31, 3) := by decide +kernel
theorem dX6_add_67 : decode cX6_add 67 = .ok (.bipush 72, 2) := by decide +kernel
theorem dX6_add_69 : decode cX6_add 69 = .ok (.if_icmp .lt 4, 3) := by decide +kernel
theorem dX6_add_72 : decode cX6_add 72 = .ok (.return_, 1) := by decide +kernel
theorem dX6_add_73 : decode cX6_add 73 = .ok (.aload_n 0, 1) := by decide +kernel
theorem dX6_add_74 : decode cX6_add 74 = .ok (.getfield 27, 3) := by decide +kernel
theorem dX6_add_77 : decode cX6_add 77 = .ok (.iload 6, 2) := by decide +kernel
theorem dX6_add_79 : decode cX6_add 79 = .ok (.iconst 1, 1) := by decide +kernel
theorem dX6_add_80 : decode cX6_add 80 = .ok (.bastore, 1) := by decide +kernel
theorem dX6_add_81 : decode cX6_add 81 = .ok (.aload_n 0, 1) := by decide +kernel
theorem dX6_add_82 : decode cX6_add 82 = .ok (.getfield 11, 3) := by decide +kernel
theorem dX6_add_85 : decode cX6_add 85 = .ok (.aload_n 0, 1) := by decide +kernel
theorem dX6_add_86 : decode cX6_add 86 = .ok (.getfield 31, 3) := by decide +kernel
theorem dX6_add_89 : decode cX6_add 89 = .ok (.iload 5, 2) := by decide +kernel
theorem dX6_add_91 : decode cX6_add 91 = .ok (.iastore, 1) := by decide +kernel
theorem dX6_add_92 : decode cX6_add 92 = .ok (.aload_n 0, 1) := by decide +kernel
theorem dX6_add_93 : decode cX6_add 93 = .ok (.getfield 15, 3) := by decide +kernel
theorem dX6_add_96 : decode cX6_add 96 = .ok (.aload_n 0, 1) := by decide +kernel
theorem dX6_add_97 : decode cX6_add 97 = .ok (.getfield 31, 3) := by decide +kernel
theorem dX6_add_100 : decode cX6_add 100 = .ok (.aload_n 0, 1) := by decide +kernel
theorem dX6_add_101 : decode cX6_add 101 = .ok (.getfield 40, 3) := by decide +kernel
theorem dX6_add_104 : decode cX6_add 104 = .ok (.iload_n 1, 1) := by decide +kernel
theorem dX6_add_105 : decode cX6_add 105 = .ok (.invokevirtual 68, 3) := by decide +kernel
theorem dX6_add_108 : decode cX6_add 108 = .ok (.iastore, 1) := by decide +kernel
theorem dX6_add_109 : decode cX6_add 109 = .ok (.aload_n 0, 1) := by decide +kernel
theorem dX6_add_110 : decode cX6_add 110 = .ok (.getfield 18, 3) := by decide +kernel
theorem dX6_add_113 : decode cX6_add 113 = .ok (.aload_n 0, 1) := by decide +kernel
theorem dX6_add_114 : decode cX6_add 114 = .ok (.getfield 31, 3) := by decide +kernel
theorem dX6_add_117 : decode cX6_add 117 = .ok (.iload_n 2, 1) := by decide +kernel
theorem dX6_add_118 : decode cX6_add 118 = .ok (.iastore, 1) := by decide +kernel
theorem dX6_add_119 : decode cX6_add 119 = .ok (.aload_n 0, 1) := by decide +kernel
theorem dX6_add_120 : decode cX6_add 120 = .ok (.getfield 21, 3) := by decide +kernel
theorem dX6_add_123 : decode cX6_add 123 = .ok (.aload_n 0, 1) := by decide +kernel
theorem dX6_add_124 : decode cX6_add 124 = .ok (.getfield 31, 3) := by decide +kernel
theorem dX6_add_127 : decode cX6_add 127 = .ok (.iload_n 3, 1) := by decide +kernel
theorem dX6_add_128 : decode cX6_add 128 = .ok (.iastore, 1) := by decide +kernel
theorem dX6_add_129 : decode cX6_add 129 = .ok (.aload_n 0, 1) := by decide +kernel
theorem dX6_add_130 : decode cX6_add 130 = .ok (.getfield 24, 3) := by decide +kernel
theorem dX6_add_133 : decode cX6_add 133 = .ok (.aload_n 0, 1) := by decide +kernel
theorem dX6_add_134 : decode cX6_add 134 = .ok (.getfield 31, 3) := by decide +kernel
theorem dX6_add_137 : decode cX6_add 137 = .ok (.iload 4, 2) := by decide +kernel
theorem dX6_add_139 : decode cX6_add 139 = .ok (.iastore, 1) := by decide +kernel
theorem dX6_add_140 : decode cX6_add 140 = .ok (.aload_n 0, 1) := by decide +kernel
theorem dX6_add_141 : decode cX6_add 141 = .ok (.dup, 1) := by decide +kernel
theorem dX6_add_142 : decode cX6_add 142 = .ok (.getfield 31, 3) := by decide +kernel
theorem dX6_add_145 : decode cX6_add 145 = .ok (.iconst 1, 1) := by decide +kernel
theorem dX6_add_146 : decode cX6_add 146 = .ok (.iadd, 1) := by decide +kernel
theorem dX6_add_147 : decode cX6_add 147 = .ok (.putfield 31, 3) := by decide +kernel
theorem dX6_add_150 : decode cX6_add 150 = .ok (.return_, 1) := by decide +kernel
theorem dX6_first_0 : decode cX6_first 0 = .ok (.iconst 0, 1) := by decide +kernel
theorem dX6_first_1 : decode cX6_first 1 = .ok (.istore_n 2, 1) := by decide +kernel
theorem dX6_first_2 : decode cX6_first 2 = .ok (.iload_n 2, 1) := by decide +kernel
theorem dX6_first_3 : decode cX6_first 3 = .ok (.aload_n 0, 1) := by decide +kernel
theorem dX6_first_4 : decode cX6_first 4 = .ok (.getfield 31, 3) := by decide +kernel
theorem dX6_first_7 : decode cX6_first 7 = .ok (.if_icmp .ge 43, 3) := by decide +kernel
theorem dX6_first_10 : decode cX6_first 10 = .ok (.iload_n 2, 1) := by decide +kernel
theorem dX6_first_11 : decode cX6_first 11 = .ok (.bipush 72, 2) := by decide +kernel
theorem dX6_first_13 : decode cX6_first 13 = .ok (.if_icmp .ge 37, 3) := by decide +kernel
theorem dX6_first_16 : decode cX6_first 16 = .ok (.aload_n 0, 1) := by decide +kernel
theorem dX6_first_17 : decode cX6_first 17 = .ok (.getfield 11, 3) := by decide +kernel
theorem dX6_first_20 : decode cX6_first 20 = .ok (.iload_n 2, 1) := by decide +kernel
theorem dX6_first_21 : decode cX6_first 21 = .ok (.iaload, 1) := by decide +kernel
theorem dX6_first_22 : decode cX6_first 22 = .ok (.iload_n 1, 1) := by decide +kernel
theorem dX6_first_23 : decode cX6_first 23 = .ok (.if_icmp .ne 21, 3) := by decide +kernel
theorem dX6_first_26 : decode cX6_first 26 = .ok (.aload_n 0, 1) := by decide +kernel
theorem dX6_first_27 : decode cX6_first 27 = .ok (.getfield 18, 3) := by decide +kernel
theorem dX6_first_30 : decode cX6_first 30 = .ok (.iload_n 2, 1) := by decide +kernel
theorem dX6_first_31 : decode cX6_first 31 = .ok (.iaload, 1) := by decide +kernel
theorem dX6_first_32 : decode cX6_first 32 = .ok (.bipush 12, 2) := by decide +kernel
theorem dX6_first_34 : decode cX6_first 34 = .ok (.if_icmp .gt 7, 3) := by decide +kernel
theorem dX6_first_37 : decode cX6_first 37 = .ok (.iload_n 2, 1) := by decide +kernel
theorem dX6_first_38 : decode cX6_first 38 = .ok (.goto 5, 3) := by decide +kernel
theorem dX6_first_41 : decode cX6_first 41 = .ok (.bipush (-4), 2) := by decide +kernel
theorem dX6_first_43 : decode cX6_first 43 = .ok (.ireturn, 1) := by decide +kernel
theorem dX6_first_44 : decode cX6_first 44 = .ok (.iinc 2 1, 3) := by decide +kernel
theorem dX6_first_47 : decode cX6_first 47 = .ok (.goto (-45), 3) := by decide +kernel
theorem dX6_first_50 : decode cX6_first 50 = .ok (.bipush (-4), 2) := by decide +kernel
theorem dX6_first_52 : decode cX6_first 52 = .ok (.ireturn, 1) := by decide +kernel
theorem dX6_drivesTo_0 : decode cX6_drivesTo 0 = .ok (.iload_n 1, 1) := by decide +kernel
theorem dX6_drivesTo_1 : decode cX6_drivesTo 1 = .ok (.ifCond .lt 18, 3) := by decide +kernel
theorem dX6_drivesTo_4 : decode cX6_drivesTo 4 = .ok (.iload_n 1, 1) := by decide +kernel
theorem dX6_drivesTo_5 : decode cX6_drivesTo 5 = .ok (.bipush 72, 2) := by decide +kernel
theorem dX6_drivesTo_7 : decode cX6_drivesTo 7 = .ok (.if_icmp .ge 12, 3) := by decide +kernel
theorem dX6_drivesTo_10 : decode cX6_drivesTo 10 = .ok (.aload_n 0, 1) := by decide +kernel
theorem dX6_drivesTo_11 : decode cX6_drivesTo 11 = .ok (.getfield 18, 3) := by decide +kernel
theorem dX6_drivesTo_14 : decode cX6_drivesTo 14 = .ok (.iload_n 1, 1) := by decide +kernel
theorem dX6_drivesTo_15 : decode cX6_drivesTo 15 = .ok (.iaload, 1) := by decide +kernel
theorem dX6_drivesTo_16 : decode cX6_drivesTo 16 = .ok (.goto 5, 3) := by decide +kernel
theorem dX6_drivesTo_19 : decode cX6_drivesTo 19 = .ok (.bipush (-4), 2) := by decide +kernel
theorem dX6_drivesTo_21 : decode cX6_drivesTo 21 = .ok (.ireturn, 1) := by decide +kernel
theorem dX6_wayTo_0 : decode cX6_wayTo 0 = .ok (.iload_n 1, 1) := by decide +kernel
theorem dX6_wayTo_1 : decode cX6_wayTo 1 = .ok (.istore_n 3, 1) := by decide +kernel
theorem dX6_wayTo_2 : decode cX6_wayTo 2 = .ok (.iconst 0, 1) := by decide +kernel
theorem dX6_wayTo_3 : decode cX6_wayTo 3 = .ok (.istore 4, 2) := by decide +kernel
theorem dX6_wayTo_5 : decode cX6_wayTo 5 = .ok (.iload 4, 2) := by decide +kernel
theorem dX6_wayTo_7 : decode cX6_wayTo 7 = .ok (.bipush 72, 2) := by decide +kernel
theorem dX6_wayTo_9 : decode cX6_wayTo 9 = .ok (.if_icmp .ge 45, 3) := by decide +kernel
theorem dX6_wayTo_12 : decode cX6_wayTo 12 = .ok (.iload_n 3, 1) := by decide +kernel
theorem dX6_wayTo_13 : decode cX6_wayTo 13 = .ok (.ifCond .lt 41, 3) := by decide +kernel
theorem dX6_wayTo_16 : decode cX6_wayTo 16 = .ok (.iload_n 3, 1) := by decide +kernel
theorem dX6_wayTo_17 : decode cX6_wayTo 17 = .ok (.bipush 72, 2) := by decide +kernel
theorem dX6_wayTo_19 : decode cX6_wayTo 19 = .ok (.if_icmp .ge 35, 3) := by decide +kernel
theorem dX6_wayTo_22 : decode cX6_wayTo 22 = .ok (.aload_n 0, 1) := by decide +kernel
theorem dX6_wayTo_23 : decode cX6_wayTo 23 = .ok (.getfield 18, 3) := by decide +kernel
theorem dX6_wayTo_26 : decode cX6_wayTo 26 = .ok (.iload_n 3, 1) := by decide +kernel
theorem dX6_wayTo_27 : decode cX6_wayTo 27 = .ok (.iaload, 1) := by decide +kernel
theorem dX6_wayTo_28 : decode cX6_wayTo 28 = .ok (.iload_n 2, 1) := by decide +kernel
theorem dX6_wayTo_29 : decode cX6_wayTo 29 = .ok (.iconst 1, 1) := by decide +kernel
theorem dX6_wayTo_30 : decode cX6_wayTo 30 = .ok (.iadd, 1) := by decide +kernel
theorem dX6_wayTo_31 : decode cX6_wayTo 31 = .ok (.if_icmp .ne 10, 3) := by decide +kernel
theorem dX6_wayTo_34 : decode cX6_wayTo 34 = .ok (.aload_n 0, 1) := by decide +kernel
theorem dX6_wayTo_35 : decode cX6_wayTo 35 = .ok (.getfield 24, 3) := by decide +kernel
theorem dX6_wayTo_38 : decode cX6_wayTo 38 = .ok (.iload_n 3, 1) := by decide +kernel
theorem dX6_wayTo_39 : decode cX6_wayTo 39 = .ok (.iaload, 1) := by decide +kernel
theorem dX6_wayTo_40 : decode cX6_wayTo 40 = .ok (.ireturn, 1) := by decide +kernel
theorem dX6_wayTo_41 : decode cX6_wayTo 41 = .ok (.aload_n 0, 1) := by decide +kernel
theorem dX6_wayTo_42 : decode cX6_wayTo 42 = .ok (.getfield 21, 3) := by decide +kernel
theorem dX6_wayTo_45 : decode cX6_wayTo 45 = .ok (.iload_n 3, 1) := by decide +kernel
theorem dX6_wayTo_46 : decode cX6_wayTo 46 = .ok (.iaload, 1) := by decide +kernel
theorem dX6_wayTo_47 : decode cX6_wayTo 47 = .ok (.istore_n 3, 1) := by decide +kernel
theorem dX6_wayTo_48 : decode cX6_wayTo 48 = .ok (.iinc 4 1, 3) := by decide +kernel
theorem dX6_wayTo_51 : decode cX6_wayTo 51 = .ok (.goto (-46), 3) := by decide +kernel
theorem dX6_wayTo_54 : decode cX6_wayTo 54 = .ok (.bipush (-4), 2) := by decide +kernel
theorem dX6_wayTo_56 : decode cX6_wayTo 56 = .ok (.ireturn, 1) := by decide +kernel
theorem dX6_squaresWithin_0 : decode cX6_squaresWithin 0 = .ok (.iconst 0, 1) := by decide +kernel
theorem dX6_squaresWithin_1 : decode cX6_squaresWithin 1 = .ok (.istore_n 2, 1) := by decide +kernel
theorem dX6_squaresWithin_2 : decode cX6_squaresWithin 2 = .ok (.iconst 0, 1) := by decide +kernel
theorem dX6_squaresWithin_3 : decode cX6_squaresWithin 3 = .ok (.istore_n 3, 1) := by decide +kernel
theorem dX6_squaresWithin_4 : decode cX6_squaresWithin 4 = .ok (.iload_n 3, 1) := by decide +kernel
theorem dX6_squaresWithin_5 : decode cX6_squaresWithin 5 = .ok (.bipush 36, 2) := by decide +kernel
theorem dX6_squaresWithin_7 : decode cX6_squaresWithin 7 = .ok (.if_icmp .ge 36, 3) := by decide +kernel
theorem dX6_squaresWithin_10 : decode cX6_squaresWithin 10 = .ok (.aload_n 0, 1) := by decide +kernel
theorem dX6_squaresWithin_11 : decode cX6_squaresWithin 11 = .ok (.iload_n 3, 1) := by decide +kernel
theorem dX6_squaresWithin_12 : decode cX6_squaresWithin 12 = .ok (.invokevirtual 71, 3) := by decide +kernel
theorem dX6_squaresWithin_15 : decode cX6_squaresWithin 15 = .ok (.istore 4, 2) := by decide +kernel
theorem dX6_squaresWithin_17 : decode cX6_squaresWithin 17 = .ok (.iload 4, 2) := by decide +kernel
theorem dX6_squaresWithin_19 : decode cX6_squaresWithin 19 = .ok (.bipush (-4), 2) := by decide +kernel
theorem dX6_squaresWithin_21 : decode cX6_squaresWithin 21 = .ok (.if_icmp .eq 16, 3) := by decide +kernel
theorem dX6_squaresWithin_24 : decode cX6_squaresWithin 24 = .ok (.aload_n 0, 1) := by decide +kernel
theorem dX6_squaresWithin_25 : decode cX6_squaresWithin 25 = .ok (.iload 4, 2) := by decide +kernel
theorem dX6_squaresWithin_27 : decode cX6_squaresWithin 27 = .ok (.invokevirtual 74, 3) := by decide +kernel
theorem dX6_squaresWithin_30 : decode cX6_squaresWithin 30 = .ok (.iload_n 1, 1) := by decide +kernel
theorem dX6_squaresWithin_31 : decode cX6_squaresWithin 31 = .ok (.if_icmp .gt 6, 3) := by decide +kernel
theorem dX6_squaresWithin_34 : decode cX6_squaresWithin 34 = .ok (.iinc 2 1, 3) := by decide +kernel
theorem dX6_squaresWithin_37 : decode cX6_squaresWithin 37 = .ok (.iinc 3 1, 3) := by decide +kernel
theorem dX6_squaresWithin_40 : decode cX6_squaresWithin 40 = .ok (.goto (-36), 3) := by decide +kernel
theorem dX6_squaresWithin_43 : decode cX6_squaresWithin 43 = .ok (.iload_n 2, 1) := by decide +kernel
theorem dX6_squaresWithin_44 : decode cX6_squaresWithin 44 = .ok (.ireturn, 1) := by decide +kernel
theorem dX7_init_0 : decode cX7_init 0 = .ok (.aload_n 0, 1) := by decide +kernel
theorem dX7_init_1 : decode cX7_init 1 = .ok (.invokespecial 1, 3) := by decide +kernel
theorem dX7_init_4 : decode cX7_init 4 = .ok (.aload_n 0, 1) := by decide +kernel
theorem dX7_init_5 : decode cX7_init 5 = .ok (.new 7, 3) := by decide +kernel
theorem dX7_init_8 : decode cX7_init 8 = .ok (.dup, 1) := by decide +kernel
theorem dX7_init_9 : decode cX7_init 9 = .ok (.invokespecial 9, 3) := by decide +kernel
theorem dX7_init_12 : decode cX7_init 12 = .ok (.putfield 10, 3) := by decide +kernel
theorem dX7_init_15 : decode cX7_init 15 = .ok (.aload_n 0, 1) := by decide +kernel
theorem dX7_init_16 : decode cX7_init 16 = .ok (.new 16, 3) := by decide +kernel
theorem dX7_init_19 : decode cX7_init 19 = .ok (.dup, 1) := by decide +kernel
theorem dX7_init_20 : decode cX7_init 20 = .ok (.invokespecial 18, 3) := by decide +kernel
theorem dX7_init_23 : decode cX7_init 23 = .ok (.putfield 19, 3) := by decide +kernel
theorem dX7_init_26 : decode cX7_init 26 = .ok (.aload_n 0, 1) := by decide +kernel
theorem dX7_init_27 : decode cX7_init 27 = .ok (.new 23, 3) := by decide +kernel
theorem dX7_init_30 : decode cX7_init 30 = .ok (.dup, 1) := by decide +kernel
theorem dX7_init_31 : decode cX7_init 31 = .ok (.aload_n 0, 1) := by decide +kernel
theorem dX7_init_32 : decode cX7_init 32 = .ok (.getfield 10, 3) := by decide +kernel
theorem dX7_init_35 : decode cX7_init 35 = .ok (.invokespecial 25, 3) := by decide +kernel
theorem dX7_init_38 : decode cX7_init 38 = .ok (.putfield 28, 3) := by decide +kernel
theorem dX7_init_41 : decode cX7_init 41 = .ok (.aload_n 0, 1) := by decide +kernel
theorem dX7_init_42 : decode cX7_init 42 = .ok (.new 23, 3) := by decide +kernel
theorem dX7_init_45 : decode cX7_init 45 = .ok (.dup, 1) := by decide +kernel
theorem dX7_init_46 : decode cX7_init 46 = .ok (.aload_n 0, 1) := by decide +kernel
theorem dX7_init_47 : decode cX7_init 47 = .ok (.getfield 10, 3) := by decide +kernel
theorem dX7_init_50 : decode cX7_init 50 = .ok (.invokespecial 25, 3) := by decide +kernel
theorem dX7_init_53 : decode cX7_init 53 = .ok (.putfield 32, 3) := by decide +kernel
theorem dX7_init_56 : decode cX7_init 56 = .ok (.aload_n 0, 1) := by decide +kernel
theorem dX7_init_57 : decode cX7_init 57 = .ok (.new 35, 3) := by decide +kernel
theorem dX7_init_60 : decode cX7_init 60 = .ok (.dup, 1) := by decide +kernel
theorem dX7_init_61 : decode cX7_init 61 = .ok (.aload_n 0, 1) := by decide +kernel
theorem dX7_init_62 : decode cX7_init 62 = .ok (.getfield 10, 3) := by decide +kernel
theorem dX7_init_65 : decode cX7_init 65 = .ok (.invokespecial 37, 3) := by decide +kernel
theorem dX7_init_68 : decode cX7_init 68 = .ok (.putfield 38, 3) := by decide +kernel
theorem dX7_init_71 : decode cX7_init 71 = .ok (.aload_n 0, 1) := by decide +kernel
theorem dX7_init_72 : decode cX7_init 72 = .ok (.new 42, 3) := by decide +kernel
theorem dX7_init_75 : decode cX7_init 75 = .ok (.dup, 1) := by decide +kernel
theorem dX7_init_76 : decode cX7_init 76 = .ok (.aload_n 0, 1) := by decide +kernel
theorem dX7_init_77 : decode cX7_init 77 = .ok (.getfield 10, 3) := by decide +kernel
theorem dX7_init_80 : decode cX7_init 80 = .ok (.iconst 2, 1) := by decide +kernel
theorem dX7_init_81 : decode cX7_init 81 = .ok (.invokespecial 44, 3) := by decide +kernel
theorem dX7_init_84 : decode cX7_init 84 = .ok (.putfield 47, 3) := by decide +kernel
theorem dX7_init_87 : decode cX7_init 87 = .ok (.aload_n 0, 1) := by decide +kernel
theorem dX7_init_88 : decode cX7_init 88 = .ok (.new 51, 3) := by decide +kernel
theorem dX7_init_91 : decode cX7_init 91 = .ok (.dup, 1) := by decide +kernel
theorem dX7_init_92 : decode cX7_init 92 = .ok (.aload_n 0, 1) := by decide +kernel
theorem dX7_init_93 : decode cX7_init 93 = .ok (.getfield 10, 3) := by decide +kernel
theorem dX7_init_96 : decode cX7_init 96 = .ok (.invokespecial 53, 3) := by decide +kernel
theorem dX7_init_99 : decode cX7_init 99 = .ok (.putfield 54, 3) := by decide +kernel
theorem dX7_init_102 : decode cX7_init 102 = .ok (.aload_n 0, 1) := by decide +kernel
theorem dX7_init_103 : decode cX7_init 103 = .ok (.new 58, 3) := by decide +kernel
theorem dX7_init_106 : decode cX7_init 106 = .ok (.dup, 1) := by decide +kernel
theorem dX7_init_107 : decode cX7_init 107 = .ok (.aload_n 0, 1) := by decide +kernel
theorem dX7_init_108 : decode cX7_init 108 = .ok (.getfield 10, 3) := by decide +kernel
theorem dX7_init_111 : decode cX7_init 111 = .ok (.invokespecial 60, 3) := by decide +kernel
theorem dX7_init_114 : decode cX7_init 114 = .ok (.putfield 61, 3) := by decide +kernel
theorem dX7_init_117 : decode cX7_init 117 = .ok (.aload_n 0, 1) := by decide +kernel
theorem dX7_init_118 : decode cX7_init 118 = .ok (.iconst 0, 1) := by decide +kernel
theorem dX7_init_119 : decode cX7_init 119 = .ok (.putfield 65, 3) := by decide +kernel
theorem dX7_init_122 : decode cX7_init 122 = .ok (.iconst 0, 1) := by decide +kernel
theorem dX7_init_123 : decode cX7_init 123 = .ok (.istore_n 1, 1) := by decide +kernel
theorem dX7_init_124 : decode cX7_init 124 = .ok (.iload_n 1, 1) := by decide +kernel
theorem dX7_init_125 : decode cX7_init 125 = .ok (.ldc 69, 2) := by decide +kernel
theorem dX7_init_127 : decode cX7_init 127 = .ok (.invokevirtual 71, 3) := by decide +kernel
theorem dX7_init_130 : decode cX7_init 130 = .ok (.if_icmp .ge 23, 3) := by decide +kernel
theorem dX7_init_133 : decode cX7_init 133 = .ok (.aload_n 0, 1) := by decide +kernel
theorem dX7_init_134 : decode cX7_init 134 = .ok (.getfield 19, 3) := by decide +kernel
theorem dX7_init_137 : decode cX7_init 137 = .ok (.ldc 69, 2) := by decide +kernel
theorem dX7_init_139 : decode cX7_init 139 = .ok (.iload_n 1, 1) := by decide +kernel
theorem dX7_init_140 : decode cX7_init 140 = .ok (.invokevirtual 77, 3) := by decide +kernel
theorem dX7_init_143 : decode cX7_init 143 = .ok (.invokevirtual 81, 3) := by decide +kernel
theorem dX7_init_146 : decode cX7_init 146 = .ok (.pop, 1) := by decide +kernel
theorem dX7_init_147 : decode cX7_init 147 = .ok (.iinc 1 1, 3) := by decide +kernel
theorem dX7_init_150 : decode cX7_init 150 = .ok (.goto (-26), 3) := by decide +kernel
theorem dX7_init_153 : decode cX7_init 153 = .ok (.aload_n 0, 1) := by decide +kernel
theorem dX7_init_154 : decode cX7_init 154 = .ok (.invokevirtual 85, 3) := by decide +kernel
theorem dX7_init_157 : decode cX7_init 157 = .ok (.pop, 1) := by decide +kernel
theorem dX7_init_158 : decode cX7_init 158 = .ok (.aload_n 0, 1) := by decide +kernel
theorem dX7_init_159 : decode cX7_init 159 = .ok (.getfield 19, 3) := by decide +kernel
theorem dX7_init_162 : decode cX7_init 162 = .ok (.iconst 0, 1) := by decide +kernel
theorem dX7_init_163 : decode cX7_init 163 = .ok (.putfield 89, 3) := by decide +kernel
theorem dX7_init_166 : decode cX7_init 166 = .ok (.return_, 1) := by decide +kernel
theorem dX7_write_0 : decode cX7_write 0 = .ok (.iload_n 1, 1) := by decide +kernel
theorem dX7_write_1 : decode cX7_write 1 = .ok (.bipush 32, 2) := by decide +kernel
theorem dX7_write_3 : decode cX7_write 3 = .ok (.if_icmp .lt 9, 3) := by decide +kernel
theorem dX7_write_6 : decode cX7_write 6 = .ok (.iload_n 1, 1) := by decide +kernel
theorem dX7_write_7 : decode cX7_write 7 = .ok (.bipush 126, 2) := by decide +kernel
theorem dX7_write_9 : decode cX7_write 9 = .ok (.if_icmp .le 5, 3) := by decide +kernel
theorem dX7_write_12 : decode cX7_write 12 = .ok (.iconst (-1), 1) := by decide +kernel
theorem dX7_write_13 : decode cX7_write 13 = .ok (.ireturn, 1) := by decide +kernel
theorem dX7_write_14 : decode cX7_write 14 = .ok (.aload_n 0, 1) := by decide +kernel
theorem dX7_write_15 : decode cX7_write 15 = .ok (.getfield 19, 3) := by decide +kernel
theorem dX7_write_18 : decode cX7_write 18 = .ok (.iload_n 1, 1) := by decide +kernel
theorem dX7_write_19 : decode cX7_write 19 = .ok (.invokevirtual 81, 3) := by decide +kernel
theorem dX7_write_22 : decode cX7_write 22 = .ok (.ifCond .eq 13, 3) := by decide +kernel
theorem dX7_write_25 : decode cX7_write 25 = .ok (.aload_n 0, 1) := by decide +kernel
theorem dX7_write_26 : decode cX7_write 26 = .ok (.getfield 19, 3) := by decide +kernel
theorem dX7_write_29 : decode cX7_write 29 = .ok (.getfield 89, 3) := by decide +kernel
theorem dX7_write_32 : decode cX7_write 32 = .ok (.goto 5, 3) := by decide +kernel
theorem dX7_write_35 : decode cX7_write 35 = .ok (.bipush (-3), 2) := by decide +kernel
theorem dX7_write_37 : decode cX7_write 37 = .ok (.ireturn, 1) := by decide +kernel
theorem dX7_wipe_0 : decode cX7_wipe 0 = .ok (.aload_n 0, 1) := by decide +kernel
theorem dX7_wipe_1 : decode cX7_wipe 1 = .ok (.getfield 19, 3) := by decide +kernel
theorem dX7_wipe_4 : decode cX7_wipe 4 = .ok (.getfield 89, 3) := by decide +kernel
theorem dX7_wipe_7 : decode cX7_wipe 7 = .ok (.istore_n 1, 1) := by decide +kernel
theorem dX7_wipe_8 : decode cX7_wipe 8 = .ok (.aload_n 0, 1) := by decide +kernel
theorem dX7_wipe_9 : decode cX7_wipe 9 = .ok (.getfield 19, 3) := by decide +kernel
theorem dX7_wipe_12 : decode cX7_wipe 12 = .ok (.iconst 0, 1) := by decide +kernel
theorem dX7_wipe_13 : decode cX7_wipe 13 = .ok (.putfield 89, 3) := by decide +kernel
theorem dX7_wipe_16 : decode cX7_wipe 16 = .ok (.iload_n 1, 1) := by decide +kernel
theorem dX7_wipe_17 : decode cX7_wipe 17 = .ok (.ireturn, 1) := by decide +kernel
theorem dX7_fault_0 : decode cX7_fault 0 = .ok (.aload_n 0, 1) := by decide +kernel
theorem dX7_fault_1 : decode cX7_fault 1 = .ok (.getfield 19, 3) := by decide +kernel
theorem dX7_fault_4 : decode cX7_fault 4 = .ok (.invokevirtual 91, 3) := by decide +kernel
theorem dX7_fault_7 : decode cX7_fault 7 = .ok (.ireturn, 1) := by decide +kernel
theorem dX7_lay_0 : decode cX7_lay 0 = .ok (.aload_n 0, 1) := by decide +kernel
theorem dX7_lay_1 : decode cX7_lay 1 = .ok (.invokevirtual 85, 3) := by decide +kernel
theorem dX7_lay_4 : decode cX7_lay 4 = .ok (.ifCond .eq 13, 3) := by decide +kernel
theorem dX7_lay_7 : decode cX7_lay 7 = .ok (.aload_n 0, 1) := by decide +kernel
theorem dX7_lay_8 : decode cX7_lay 8 = .ok (.getfield 10, 3) := by decide +kernel
theorem dX7_lay_11 : decode cX7_lay 11 = .ok (.getfield 94, 3) := by decide +kernel
theorem dX7_lay_14 : decode cX7_lay 14 = .ok (.goto 5, 3) := by decide +kernel
theorem dX7_lay_17 : decode cX7_lay 17 = .ok (.bipush (-2), 2) := by decide +kernel
theorem dX7_lay_19 : decode cX7_lay 19 = .ok (.ireturn, 1) := by decide +kernel
theorem dX7_square_0 : decode cX7_square 0 = .ok (.aload_n 0, 1) := by decide +kernel
theorem dX7_square_1 : decode cX7_square 1 = .ok (.getfield 10, 3) := by decide +kernel
theorem dX7_square_4 : decode cX7_square 4 = .ok (.iload_n 1, 1) := by decide +kernel
theorem dX7_square_5 : decode cX7_square 5 = .ok (.invokevirtual 97, 3) := by decide +kernel
theorem dX7_square_8 : decode cX7_square 8 = .ok (.ifCond .eq 12, 3) := by decide +kernel
theorem dX7_square_11 : decode cX7_square 11 = .ok (.iload_n 2, 1) := by decide +kernel
theorem dX7_square_12 : decode cX7_square 12 = .ok (.ifCond .lt 8, 3) := by decide +kernel
theorem dX7_square_15 : decode cX7_square 15 = .ok (.iload_n 2, 1) := by decide +kernel
theorem dX7_square_16 : decode cX7_square 16 = .ok (.iconst 1, 1) := by decide +kernel
theorem dX7_square_17 : decode cX7_square 17 = .ok (.if_icmp .le 5, 3) := by decide +kernel
theorem dX7_square_20 : decode cX7_square 20 = .ok (.iconst (-1), 1) := by decide +kernel
theorem dX7_square_21 : decode cX7_square 21 = .ok (.ireturn, 1) := by decide +kernel
theorem dX7_square_22 : decode cX7_square 22 = .ok (.iload_n 2, 1) := by decide +kernel
theorem dX7_square_23 : decode cX7_square 23 = .ok (.ifCond .ne 14, 3) := by decide +kernel
theorem dX7_square_26 : decode cX7_square 26 = .ok (.aload_n 0, 1) := by decide +kernel
theorem dX7_square_27 : decode cX7_square 27 = .ok (.getfield 28, 3) := by decide +kernel
theorem dX7_square_30 : decode cX7_square 30 = .ok (.iload_n 1, 1) := by decide +kernel
theorem dX7_square_31 : decode cX7_square 31 = .ok (.invokevirtual 100, 3) := by decide +kernel
theorem dX7_square_34 : decode cX7_square 34 = .ok (.goto 11, 3) := by decide +kernel
theorem dX7_square_37 : decode cX7_square 37 = .ok (.aload_n 0, 1) := by decide +kernel
theorem dX7_square_38 : decode cX7_square 38 = .ok (.getfield 28, 3) := by decide +kernel
theorem dX7_square_41 : decode cX7_square 41 = .ok (.iload_n 1, 1) := by decide +kernel
theorem dX7_square_42 : decode cX7_square 42 = .ok (.invokevirtual 104, 3) := by decide +kernel
theorem dX7_square_45 : decode cX7_square 45 = .ok (.ireturn, 1) := by decide +kernel
theorem dX7_beast_0 : decode cX7_beast 0 = .ok (.aload_n 0, 1) := by decide +kernel
theorem dX7_beast_1 : decode cX7_beast 1 = .ok (.getfield 10, 3) := by decide +kernel
theorem dX7_beast_4 : decode cX7_beast 4 = .ok (.iload_n 1, 1) := by decide +kernel
theorem dX7_beast_5 : decode cX7_beast 5 = .ok (.invokevirtual 107, 3) := by decide +kernel
theorem dX7_beast_8 : decode cX7_beast 8 = .ok (.ifCond .ne 5, 3) := by decide +kernel
theorem dX7_beast_11 : decode cX7_beast 11 = .ok (.iconst (-1), 1) := by decide +kernel
theorem dX7_beast_12 : decode cX7_beast 12 = .ok (.ireturn, 1) := by decide +kernel
theorem dX7_beast_13 : decode cX7_beast 13 = .ok (.iload_n 2, 1) := by decide +kernel
theorem dX7_beast_14 : decode cX7_beast 14 = .ok (.tableswitch 66 0 3 #[30, 39, 48, 57], 30) := by decide +kernel
theorem dX7_beast_44 : decode cX7_beast 44 = .ok (.aload_n 0, 1) := by decide +kernel
theorem dX7_beast_45 : decode cX7_beast 45 = .ok (.getfield 28, 3) := by decide +kernel
theorem dX7_beast_48 : decode cX7_beast 48 = .ok (.iload_n 1, 1) := by decide +kernel
theorem dX7_beast_49 : decode cX7_beast 49 = .ok (.invokevirtual 110, 3) := by decide +kernel
theorem dX7_beast_52 : decode cX7_beast 52 = .ok (.ireturn, 1) := by decide +kernel
theorem dX7_beast_53 : decode cX7_beast 53 = .ok (.aload_n 0, 1) := by decide +kernel
theorem dX7_beast_54 : decode cX7_beast 54 = .ok (.getfield 10, 3) := by decide +kernel
theorem dX7_beast_57 : decode cX7_beast 57 = .ok (.iload_n 1, 1) := by decide +kernel
theorem dX7_beast_58 : decode cX7_beast 58 = .ok (.invokevirtual 113, 3) := by decide +kernel
theorem dX7_beast_61 : decode cX7_beast 61 = .ok (.ireturn, 1) := by decide +kernel
theorem dX7_beast_62 : decode cX7_beast 62 = .ok (.aload_n 0, 1) := by decide +kernel
theorem dX7_beast_63 : decode cX7_beast 63 = .ok (.getfield 28, 3) := by decide +kernel
theorem dX7_beast_66 : decode cX7_beast 66 = .ok (.iload_n 1, 1) := by decide +kernel
theorem dX7_beast_67 : decode cX7_beast 67 = .ok (.invokevirtual 116, 3) := by decide +kernel
theorem dX7_beast_70 : decode cX7_beast 70 = .ok (.ireturn, 1) := by decide +kernel
theorem dX7_beast_71 : decode cX7_beast 71 = .ok (.aload_n 0, 1) := by decide +kernel
theorem dX7_beast_72 : decode cX7_beast 72 = .ok (.getfield 28, 3) := by decide +kernel
theorem dX7_beast_75 : decode cX7_beast 75 = .ok (.iload_n 1, 1) := by decide +kernel
theorem dX7_beast_76 : decode cX7_beast 76 = .ok (.invokevirtual 119, 3) := by decide +kernel
theorem dX7_beast_79 : decode cX7_beast 79 = .ok (.ireturn, 1) := by decide +kernel
theorem dX7_beast_80 : decode cX7_beast 80 = .ok (.iconst (-1), 1) := by decide +kernel
theorem dX7_beast_81 : decode cX7_beast 81 = .ok (.ireturn, 1) := by decide +kernel
theorem dX7_goes_0 : decode cX7_goes 0 = .ok (.aload_n 0, 1) := by decide +kernel
theorem dX7_goes_1 : decode cX7_goes 1 = .ok (.getfield 10, 3) := by decide +kernel
theorem dX7_goes_4 : decode cX7_goes 4 = .ok (.iload_n 1, 1) := by decide +kernel
theorem dX7_goes_5 : decode cX7_goes 5 = .ok (.invokevirtual 107, 3) := by decide +kernel
theorem dX7_goes_8 : decode cX7_goes 8 = .ok (.ifCond .eq 10, 3) := by decide +kernel
theorem dX7_goes_11 : decode cX7_goes 11 = .ok (.iload_n 2, 1) := by decide +kernel
theorem dX7_goes_12 : decode cX7_goes 12 = .ok (.invokestatic 122, 3) := by decide +kernel
theorem dX7_goes_15 : decode cX7_goes 15 = .ok (.ifCond .ne 5, 3) := by decide +kernel
theorem dX7_goes_18 : decode cX7_goes 18 = .ok (.iconst (-1), 1) := by decide +kernel
theorem dX7_goes_19 : decode cX7_goes 19 = .ok (.ireturn, 1) := by decide +kernel
theorem dX7_goes_20 : decode cX7_goes 20 = .ok (.aload_n 0, 1) := by decide +kernel
theorem dX7_goes_21 : decode cX7_goes 21 = .ok (.getfield 28, 3) := by decide +kernel
theorem dX7_goes_24 : decode cX7_goes 24 = .ok (.iload_n 1, 1) := by decide +kernel
theorem dX7_goes_25 : decode cX7_goes 25 = .ok (.invokevirtual 125, 3) := by decide +kernel
theorem dX7_goes_28 : decode cX7_goes 28 = .ok (.ifCond .eq 8, 3) := by decide +kernel
theorem dX7_goes_31 : decode cX7_goes 31 = .ok (.bipush (-2), 2) := by decide +kernel
theorem dX7_goes_33 : decode cX7_goes 33 = .ok (.goto 19, 3) := by decide +kernel
theorem dX7_goes_36 : decode cX7_goes 36 = .ok (.aload_n 0, 1) := by decide +kernel
theorem dX7_goes_37 : decode cX7_goes 37 = .ok (.getfield 28, 3) := by decide +kernel
theorem dX7_goes_40 : decode cX7_goes 40 = .ok (.iload_n 1, 1) := by decide +kernel
theorem dX7_goes_41 : decode cX7_goes 41 = .ok (.iload_n 2, 1) := by decide +kernel
theorem dX7_goes_42 : decode cX7_goes 42 = .ok (.aload_n 0, 1) := by decide +kernel
theorem dX7_goes_43 : decode cX7_goes 43 = .ok (.getfield 28, 3) := by decide +kernel
theorem dX7_goes_46 : decode cX7_goes 46 = .ok (.invokevirtual 128, 3) := by decide +kernel
theorem dX7_goes_49 : decode cX7_goes 49 = .ok (.invokevirtual 131, 3) := by decide +kernel
theorem dX7_goes_52 : decode cX7_goes 52 = .ok (.ireturn, 1) := by decide +kernel
theorem dX7_takes_0 : decode cX7_takes 0 = .ok (.aload_n 0, 1) := by decide +kernel
theorem dX7_takes_1 : decode cX7_takes 1 = .ok (.getfield 10, 3) := by decide +kernel
theorem dX7_takes_4 : decode cX7_takes 4 = .ok (.iload_n 1, 1) := by decide +kernel
theorem dX7_takes_5 : decode cX7_takes 5 = .ok (.invokevirtual 107, 3) := by decide +kernel
theorem dX7_takes_8 : decode cX7_takes 8 = .ok (.ifCond .eq 10, 3) := by decide +kernel
theorem dX7_takes_11 : decode cX7_takes 11 = .ok (.iload_n 2, 1) := by decide +kernel
theorem dX7_takes_12 : decode cX7_takes 12 = .ok (.invokestatic 122, 3) := by decide +kernel
theorem dX7_takes_15 : decode cX7_takes 15 = .ok (.ifCond .ne 5, 3) := by decide +kernel
theorem dX7_takes_18 : decode cX7_takes 18 = .ok (.iconst (-1), 1) := by decide +kernel
theorem dX7_takes_19 : decode cX7_takes 19 = .ok (.ireturn, 1) := by decide +kernel
theorem dX7_takes_20 : decode cX7_takes 20 = .ok (.aload_n 0, 1) := by decide +kernel
theorem dX7_takes_21 : decode cX7_takes 21 = .ok (.getfield 28, 3) := by decide +kernel
theorem dX7_takes_24 : decode cX7_takes 24 = .ok (.iload_n 1, 1) := by decide +kernel
theorem dX7_takes_25 : decode cX7_takes 25 = .ok (.invokevirtual 125, 3) := by decide +kernel
theorem dX7_takes_28 : decode cX7_takes 28 = .ok (.ifCond .eq 8, 3) := by decide +kernel
theorem dX7_takes_31 : decode cX7_takes 31 = .ok (.bipush (-2), 2) := by decide +kernel
theorem dX7_takes_33 : decode cX7_takes 33 = .ok (.goto 26, 3) := by decide +kernel
theorem dX7_takes_36 : decode cX7_takes 36 = .ok (.aload_n 0, 1) := by decide +kernel
theorem dX7_takes_37 : decode cX7_takes 37 = .ok (.getfield 28, 3) := by decide +kernel
theorem dX7_takes_40 : decode cX7_takes 40 = .ok (.aload_n 0, 1) := by decide +kernel
theorem dX7_takes_41 : decode cX7_takes 41 = .ok (.getfield 28, 3) := by decide +kernel
theorem dX7_takes_44 : decode cX7_takes 44 = .ok (.iload_n 1, 1) := by decide +kernel
theorem dX7_takes_45 : decode cX7_takes 45 = .ok (.iload_n 2, 1) := by decide +kernel
theorem dX7_takes_46 : decode cX7_takes 46 = .ok (.aload_n 0, 1) := by decide +kernel
theorem dX7_takes_47 : decode cX7_takes 47 = .ok (.getfield 28, 3) := by decide +kernel
theorem dX7_takes_50 : decode cX7_takes 50 = .ok (.invokevirtual 128, 3) := by decide +kernel
theorem dX7_takes_53 : decode cX7_takes 53 = .ok (.invokevirtual 131, 3) := by decide +kernel
theorem dX7_takes_56 : decode cX7_takes 56 = .ok (.invokevirtual 104, 3) := by decide +kernel
theorem dX7_takes_59 : decode cX7_takes 59 = .ok (.ireturn, 1) := by decide +kernel
theorem dX7_drive_0 : decode cX7_drive 0 = .ok (.aload_n 0, 1) := by decide +kernel
theorem dX7_drive_1 : decode cX7_drive 1 = .ok (.getfield 10, 3) := by decide +kernel
theorem dX7_drive_4 : decode cX7_drive 4 = .ok (.iload_n 1, 1) := by decide +kernel
theorem dX7_drive_5 : decode cX7_drive 5 = .ok (.invokevirtual 107, 3) := by decide +kernel
theorem dX7_drive_8 : decode cX7_drive 8 = .ok (.ifCond .eq 10, 3) := by decide +kernel
theorem dX7_drive_11 : decode cX7_drive 11 = .ok (.iload_n 2, 1) := by decide +kernel
theorem dX7_drive_12 : decode cX7_drive 12 = .ok (.invokestatic 122, 3) := by decide +kernel
theorem dX7_drive_15 : decode cX7_drive 15 = .ok (.ifCond .ne 5, 3) := by decide +kernel
theorem dX7_drive_18 : decode cX7_drive 18 = .ok (.iconst (-1), 1) := by decide +kernel
theorem dX7_drive_19 : decode cX7_drive 19 = .ok (.ireturn, 1) := by decide +kernel
theorem dX7_drive_20 : decode cX7_drive 20 = .ok (.aload_n 0, 1) := by decide +kernel
theorem dX7_drive_21 : decode cX7_drive 21 = .ok (.getfield 28, 3) := by decide +kernel
theorem dX7_drive_24 : decode cX7_drive 24 = .ok (.iload_n 1, 1) := by decide +kernel
theorem dX7_drive_25 : decode cX7_drive 25 = .ok (.iload_n 2, 1) := by decide +kernel
theorem dX7_drive_26 : decode cX7_drive 26 = .ok (.invokevirtual 135, 3) := by decide +kernel
theorem dX7_drive_29 : decode cX7_drive 29 = .ok (.istore_n 3, 1) := by decide +kernel
theorem dX7_drive_30 : decode cX7_drive 30 = .ok (.iload_n 3, 1) := by decide +kernel
theorem dX7_drive_31 : decode cX7_drive 31 = .ok (.bipush (-4), 2) := by decide +kernel
theorem dX7_drive_33 : decode cX7_drive 33 = .ok (.if_icmp .eq 13, 3) := by decide +kernel
theorem dX7_drive_36 : decode cX7_drive 36 = .ok (.aload_n 0, 1) := by decide +kernel
theorem dX7_drive_37 : decode cX7_drive 37 = .ok (.getfield 28, 3) := by decide +kernel
theorem dX7_drive_40 : decode cX7_drive 40 = .ok (.invokevirtual 139, 3) := by decide +kernel
theorem dX7_drive_43 : decode cX7_drive 43 = .ok (.ifCond .eq 6, 3) := by decide +kernel
theorem dX7_drive_46 : decode cX7_drive 46 = .ok (.bipush (-2), 2) := by decide +kernel
theorem dX7_drive_48 : decode cX7_drive 48 = .ok (.ireturn, 1) := by decide +kernel
theorem dX7_drive_49 : decode cX7_drive 49 = .ok (.aload_n 0, 1) := by decide +kernel
theorem dX7_drive_50 : decode cX7_drive 50 = .ok (.getfield 38, 3) := by decide +kernel
theorem dX7_drive_53 : decode cX7_drive 53 = .ok (.aload_n 0, 1) := by decide +kernel
theorem dX7_drive_54 : decode cX7_drive 54 = .ok (.getfield 28, 3) := by decide +kernel
theorem dX7_drive_57 : decode cX7_drive 57 = .ok (.bipush 10, 2) := by decide +kernel
theorem dX7_drive_59 : decode cX7_drive 59 = .ok (.iload_n 1, 1) := by decide +kernel
theorem dX7_drive_60 : decode cX7_drive 60 = .ok (.imul, 1) := by decide +kernel
theorem dX7_drive_61 : decode cX7_drive 61 = .ok (.iload_n 2, 1) := by decide +kernel
theorem dX7_drive_62 : decode cX7_drive 62 = .ok (.iadd, 1) := by decide +kernel
theorem dX7_drive_63 : decode cX7_drive 63 = .ok (.invokevirtual 142, 3) := by decide +kernel
theorem dX7_drive_66 : decode cX7_drive 66 = .ok (.aload_n 0, 1) := by decide +kernel
theorem dX7_drive_67 : decode cX7_drive 67 = .ok (.getfield 28, 3) := by decide +kernel
theorem dX7_drive_70 : decode cX7_drive 70 = .ok (.iload_n 1, 1) := by decide +kernel
theorem dX7_drive_71 : decode cX7_drive 71 = .ok (.iload_n 3, 1) := by decide +kernel
theorem dX7_drive_72 : decode cX7_drive 72 = .ok (.invokevirtual 145, 3) := by decide +kernel
theorem dX7_drive_75 : decode cX7_drive 75 = .ok (.aload_n 0, 1) := by decide +kernel
theorem dX7_drive_76 : decode cX7_drive 76 = .ok (.getfield 28, 3) := by decide +kernel
theorem dX7_drive_79 : decode cX7_drive 79 = .ok (.invokevirtual 149, 3) := by decide +kernel
theorem dX7_drive_82 : decode cX7_drive 82 = .ok (.iload_n 3, 1) := by decide +kernel
theorem dX7_drive_83 : decode cX7_drive 83 = .ok (.ireturn, 1) := by decide +kernel
theorem dX7_rest_0 : decode cX7_rest 0 = .ok (.aload_n 0, 1) := by decide +kernel
theorem dX7_rest_1 : decode cX7_rest 1 = .ok (.getfield 28, 3) := by decide +kernel
theorem dX7_rest_4 : decode cX7_rest 4 = .ok (.invokevirtual 139, 3) := by decide +kernel
theorem dX7_rest_7 : decode cX7_rest 7 = .ok (.ifCond .eq 6, 3) := by decide +kernel
theorem dX7_rest_10 : decode cX7_rest 10 = .ok (.bipush (-2), 2) := by decide +kernel
theorem dX7_rest_12 : decode cX7_rest 12 = .ok (.ireturn, 1) := by decide +kernel
theorem dX7_rest_13 : decode cX7_rest 13 = .ok (.aload_n 0, 1) := by decide +kernel
theorem dX7_rest_14 : decode cX7_rest 14 = .ok (.getfield 38, 3) := by decide +kernel
theorem dX7_rest_17 : decode cX7_rest 17 = .ok (.aload_n 0, 1) := by decide +kernel
theorem dX7_rest_18 : decode cX7_rest 18 = .ok (.getfield 28, 3) := by decide +kernel
theorem dX7_rest_21 : decode cX7_rest 21 = .ok (.bipush 99, 2) := by decide +kernel
theorem dX7_rest_23 : decode cX7_rest 23 = .ok (.invokevirtual 142, 3) := by decide +kernel
theorem dX7_rest_26 : decode cX7_rest 26 = .ok (.aload_n 0, 1) := by decide +kernel
theorem dX7_rest_27 : decode cX7_rest 27 = .ok (.getfield 28, 3) := by decide +kernel
theorem dX7_rest_30 : decode cX7_rest 30 = .ok (.invokevirtual 149, 3) := by decide +kernel
theorem dX7_rest_33 : decode cX7_rest 33 = .ok (.aload_n 0, 1) := by decide +kernel
theorem dX7_rest_34 : decode cX7_rest 34 = .ok (.getfield 28, 3) := by decide +kernel
theorem dX7_rest_37 : decode cX7_rest 37 = .ok (.getfield 152, 3) := by decide +kernel
theorem dX7_rest_40 : decode cX7_rest 40 = .ok (.ireturn, 1) := by decide +kernel
theorem dX7_undo_0 : decode cX7_undo 0 = .ok (.aload_n 0, 1) := by decide +kernel
theorem dX7_undo_1 : decode cX7_undo 1 = .ok (.getfield 38, 3) := by decide +kernel
theorem dX7_undo_4 : decode cX7_undo 4 = .ok (.getfield 155, 3) := by decide +kernel
theorem dX7_undo_7 : decode cX7_undo 7 = .ok (.iconst 1, 1) := by decide +kernel
theorem dX7_undo_8 : decode cX7_undo 8 = .ok (.if_icmp .ge 6, 3) := by decide +kernel
theorem dX7_undo_11 : decode cX7_undo 11 = .ok (.bipush (-2), 2) := by decide +kernel
theorem dX7_undo_13 : decode cX7_undo 13 = .ok (.ireturn, 1) := by decide +kernel
theorem dX7_undo_14 : decode cX7_undo 14 = .ok (.aload_n 0, 1) := by decide +kernel
theorem dX7_undo_15 : decode cX7_undo 15 = .ok (.getfield 38, 3) := by decide +kernel
theorem dX7_undo_18 : decode cX7_undo 18 = .ok (.dup, 1) := by decide +kernel
theorem dX7_undo_19 : decode cX7_undo 19 = .ok (.getfield 155, 3) := by decide +kernel
theorem dX7_undo_22 : decode cX7_undo 22 = .ok (.iconst 1, 1) := by decide +kernel
theorem dX7_undo_23 : decode cX7_undo 23 = .ok (.isub, 1) := by decide +kernel
theorem dX7_undo_24 : decode cX7_undo 24 = .ok (.putfield 155, 3) := by decide +kernel
theorem dX7_undo_27 : decode cX7_undo 27 = .ok (.aload_n 0, 1) := by decide +kernel
theorem dX7_undo_28 : decode cX7_undo 28 = .ok (.getfield 28, 3) := by decide +kernel
theorem dX7_undo_31 : decode cX7_undo 31 = .ok (.aload_n 0, 1) := by decide +kernel
theorem dX7_undo_32 : decode cX7_undo 32 = .ok (.getfield 38, 3) := by decide +kernel
theorem dX7_undo_35 : decode cX7_undo 35 = .ok (.aload_n 0, 1) := by decide +kernel
theorem dX7_undo_36 : decode cX7_undo 36 = .ok (.getfield 38, 3) := by decide +kernel
theorem dX7_undo_39 : decode cX7_undo 39 = .ok (.getfield 155, 3) := by decide +kernel
theorem dX7_undo_42 : decode cX7_undo 42 = .ok (.invokevirtual 158, 3) := by decide +kernel
theorem dX7_undo_45 : decode cX7_undo 45 = .ok (.invokevirtual 162, 3) := by decide +kernel
theorem dX7_undo_48 : decode cX7_undo 48 = .ok (.aload_n 0, 1) := by decide +kernel
theorem dX7_undo_49 : decode cX7_undo 49 = .ok (.getfield 38, 3) := by decide +kernel
theorem dX7_undo_52 : decode cX7_undo 52 = .ok (.getfield 155, 3) := by decide +kernel
theorem dX7_undo_55 : decode cX7_undo 55 = .ok (.ireturn, 1) := by decide +kernel
theorem dX7_fewest_0 : decode cX7_fewest 0 = .ok (.aload_n 0, 1) := by decide +kernel
theorem dX7_fewest_1 : decode cX7_fewest 1 = .ok (.getfield 10, 3) := by decide +kernel
theorem dX7_fewest_4 : decode cX7_fewest 4 = .ok (.iload_n 1, 1) := by decide +kernel
theorem dX7_fewest_5 : decode cX7_fewest 5 = .ok (.invokevirtual 107, 3) := by decide +kernel
theorem dX7_fewest_8 : decode cX7_fewest 8 = .ok (.ifCond .eq 19, 3) := by decide +kernel
theorem dX7_fewest_11 : decode cX7_fewest 11 = .ok (.aload_n 0, 1) := by decide +kernel
theorem dX7_fewest_12 : decode cX7_fewest 12 = .ok (.getfield 10, 3) := by decide +kernel
theorem dX7_fewest_15 : decode cX7_fewest 15 = .ok (.iload_n 2, 1) := by decide +kernel
theorem dX7_fewest_16 : decode cX7_fewest 16 = .ok (.invokevirtual 97, 3) := by decide +kernel
theorem dX7_fewest_19 : decode cX7_fewest 19 = .ok (.ifCond .eq 8, 3) := by decide +kernel
theorem dX7_fewest_22 : decode cX7_fewest 22 = .ok (.iload_n 3, 1) := by decide +kernel
theorem dX7_fewest_23 : decode cX7_fewest 23 = .ok (.iconst (-1), 1) := by decide +kernel
theorem dX7_fewest_24 : decode cX7_fewest 24 = .ok (.if_icmp .ge 5, 3) := by decide +kernel
theorem dX7_fewest_27 : decode cX7_fewest 27 = .ok (.iconst (-1), 1) := by decide +kernel
theorem dX7_fewest_28 : decode cX7_fewest 28 = .ok (.ireturn, 1) := by decide +kernel
theorem dX7_fewest_29 : decode cX7_fewest 29 = .ok (.aload_n 0, 1) := by decide +kernel
theorem dX7_fewest_30 : decode cX7_fewest 30 = .ok (.getfield 28, 3) := by decide +kernel
theorem dX7_fewest_33 : decode cX7_fewest 33 = .ok (.iload_n 1, 1) := by decide +kernel
theorem dX7_fewest_34 : decode cX7_fewest 34 = .ok (.invokevirtual 125, 3) := by decide +kernel
theorem dX7_fewest_37 : decode cX7_fewest 37 = .ok (.ifCond .eq 6, 3) := by decide +kernel
theorem dX7_fewest_40 : decode cX7_fewest 40 = .ok (.bipush (-2), 2) := by decide +kernel
theorem dX7_fewest_42 : decode cX7_fewest 42 = .ok (.ireturn, 1) := by decide +kernel
theorem dX7_fewest_43 : decode cX7_fewest 43 = .ok (.aload_n 0, 1) := by decide +kernel
theorem dX7_fewest_44 : decode cX7_fewest 44 = .ok (.getfield 54, 3) := by decide +kernel
theorem dX7_fewest_47 : decode cX7_fewest 47 = .ok (.aload_n 0, 1) := by decide +kernel
theorem dX7_fewest_48 : decode cX7_fewest 48 = .ok (.getfield 28, 3) := by decide +kernel
theorem dX7_fewest_51 : decode cX7_fewest 51 = .ok (.iload_n 1, 1) := by decide +kernel
theorem dX7_fewest_52 : decode cX7_fewest 52 = .ok (.invokevirtual 166, 3) := by decide +kernel
theorem dX7_fewest_55 : decode cX7_fewest 55 = .ok (.aload_n 0, 1) := by decide +kernel
theorem dX7_fewest_56 : decode cX7_fewest 56 = .ok (.getfield 54, 3) := by decide +kernel
theorem dX7_fewest_59 : decode cX7_fewest 59 = .ok (.iload_n 2, 1) := by decide +kernel
theorem dX7_fewest_60 : decode cX7_fewest 60 = .ok (.invokevirtual 169, 3) := by decide +kernel
theorem dX7_fewest_63 : decode cX7_fewest 63 = .ok (.istore 4, 2) := by decide +kernel
theorem dX7_fewest_65 : decode cX7_fewest 65 = .ok (.iload_n 3, 1) := by decide +kernel
theorem dX7_fewest_66 : decode cX7_fewest 66 = .ok (.iconst (-1), 1) := by decide +kernel
theorem dX7_fewest_67 : decode cX7_fewest 67 = .ok (.if_icmp .ne 15, 3) := by decide +kernel
theorem dX7_fewest_70 : decode cX7_fewest 70 = .ok (.aload_n 0, 1) := by decide +kernel
theorem dX7_fewest_71 : decode cX7_fewest 71 = .ok (.getfield 54, 3) := by decide +kernel
theorem dX7_fewest_74 : decode cX7_fewest 74 = .ok (.iload 4, 2) := by decide +kernel
theorem dX7_fewest_76 : decode cX7_fewest 76 = .ok (.invokevirtual 172, 3) := by decide +kernel
theorem dX7_fewest_79 : decode cX7_fewest 79 = .ok (.goto 13, 3) := by decide +kernel
theorem dX7_fewest_82 : decode cX7_fewest 82 = .ok (.aload_n 0, 1) := by decide +kernel
theorem dX7_fewest_83 : decode cX7_fewest 83 = .ok (.getfield 54, 3) := by decide +kernel
theorem dX7_fewest_86 : decode cX7_fewest 86 = .ok (.iload 4, 2) := by decide +kernel
theorem dX7_fewest_88 : decode cX7_fewest 88 = .ok (.iload_n 3, 1) := by decide +kernel
theorem dX7_fewest_89 : decode cX7_fewest 89 = .ok (.invokevirtual 175, 3) := by decide +kernel
theorem dX7_fewest_92 : decode cX7_fewest 92 = .ok (.ireturn, 1) := by decide +kernel
theorem dX7_stray_0 : decode cX7_stray 0 = .ok (.aload_n 0, 1) := by decide +kernel
theorem dX7_stray_1 : decode cX7_stray 1 = .ok (.getfield 10, 3) := by decide +kernel
theorem dX7_stray_4 : decode cX7_stray 4 = .ok (.iload_n 1, 1) := by decide +kernel
theorem dX7_stray_5 : decode cX7_stray 5 = .ok (.invokevirtual 107, 3) := by decide +kernel
theorem dX7_stray_8 : decode cX7_stray 8 = .ok (.ifCond .eq 13, 3) := by decide +kernel
theorem dX7_stray_11 : decode cX7_stray 11 = .ok (.iload_n 2, 1) := by decide +kernel
theorem dX7_stray_12 : decode cX7_stray 12 = .ok (.ifCond .lt 9, 3) := by decide +kernel
theorem dX7_stray_15 : decode cX7_stray 15 = .ok (.iload_n 2, 1) := by decide +kernel
theorem dX7_stray_16 : decode cX7_stray 16 = .ok (.bipush 6, 2) := by decide +kernel
theorem dX7_stray_18 : decode cX7_stray 18 = .ok (.if_icmp .le 5, 3) := by decide +kernel
theorem dX7_stray_21 : decode cX7_stray 21 = .ok (.iconst (-1), 1) := by decide +kernel
theorem dX7_stray_22 : decode cX7_stray 22 = .ok (.ireturn, 1) := by decide +kernel
theorem dX7_stray_23 : decode cX7_stray 23 = .ok (.aload_n 0, 1) := by decide +kernel
theorem dX7_stray_24 : decode cX7_stray 24 = .ok (.getfield 28, 3) := by decide +kernel
theorem dX7_stray_27 : decode cX7_stray 27 = .ok (.iload_n 1, 1) := by decide +kernel
theorem dX7_stray_28 : decode cX7_stray 28 = .ok (.invokevirtual 125, 3) := by decide +kernel
theorem dX7_stray_31 : decode cX7_stray 31 = .ok (.ifCond .eq 6, 3) := by decide +kernel
theorem dX7_stray_34 : decode cX7_stray 34 = .ok (.bipush (-2), 2) := by decide +kernel
theorem dX7_stray_36 : decode cX7_stray 36 = .ok (.ireturn, 1) := by decide +kernel
theorem dX7_stray_37 : decode cX7_stray 37 = .ok (.aload_n 0, 1) := by decide +kernel
theorem dX7_stray_38 : decode cX7_stray 38 = .ok (.getfield 54, 3) := by decide +kernel
theorem dX7_stray_41 : decode cX7_stray 41 = .ok (.aload_n 0, 1) := by decide +kernel
theorem dX7_stray_42 : decode cX7_stray 42 = .ok (.getfield 28, 3) := by decide +kernel
theorem dX7_stray_45 : decode cX7_stray 45 = .ok (.iload_n 1, 1) := by decide +kernel
theorem dX7_stray_46 : decode cX7_stray 46 = .ok (.invokevirtual 166, 3) := by decide +kernel
theorem dX7_stray_49 : decode cX7_stray 49 = .ok (.aload_n 0, 1) := by decide +kernel
theorem dX7_stray_50 : decode cX7_stray 50 = .ok (.getfield 54, 3) := by decide +kernel
theorem dX7_stray_53 : decode cX7_stray 53 = .ok (.iload_n 2, 1) := by decide +kernel
theorem dX7_stray_54 : decode cX7_stray 54 = .ok (.invokevirtual 178, 3) := by decide +kernel
theorem dX7_stray_57 : decode cX7_stray 57 = .ok (.ireturn, 1) := by decide +kernel
theorem dX7_summer_0 : decode cX7_summer 0 = .ok (.iload_n 1, 1) := by decide +kernel
theorem dX7_summer_1 : decode cX7_summer 1 = .ok (.invokestatic 181, 3) := by decide +kernel
theorem dX7_summer_4 : decode cX7_summer 4 = .ok (.ifCond .eq 8, 3) := by decide +kernel
theorem dX7_summer_7 : decode cX7_summer 7 = .ok (.iload_n 2, 1) := by decide +kernel
theorem dX7_summer_8 : decode cX7_summer 8 = .ok (.iconst (-1), 1) := by decide +kernel
theorem dX7_summer_9 : decode cX7_summer 9 = .ok (.if_icmp .ge 5, 3) := by decide +kernel
theorem dX7_summer_12 : decode cX7_summer 12 = .ok (.iconst (-1), 1) := by decide +kernel
theorem dX7_summer_13 : decode cX7_summer 13 = .ok (.ireturn, 1) := by decide +kernel
theorem dX7_summer_14 : decode cX7_summer 14 = .ok (.aload_n 0, 1) := by decide +kernel
theorem dX7_summer_15 : decode cX7_summer 15 = .ok (.getfield 10, 3) := by decide +kernel
theorem dX7_summer_18 : decode cX7_summer 18 = .ok (.getfield 184, 3) := by decide +kernel
theorem dX7_summer_21 : decode cX7_summer 21 = .ok (.bipush (-4), 2) := by decide +kernel
theorem dX7_summer_23 : decode cX7_summer 23 = .ok (.if_icmp .ne 6, 3) := by decide +kernel
theorem dX7_summer_26 : decode cX7_summer 26 = .ok (.bipush (-2), 2) := by decide +kernel
theorem dX7_summer_28 : decode cX7_summer 28 = .ok (.ireturn, 1) := by decide +kernel
theorem dX7_summer_29 : decode cX7_summer 29 = .ok (.aload_n 0, 1) := by decide +kernel
theorem dX7_summer_30 : decode cX7_summer 30 = .ok (.getfield 61, 3) := by decide +kernel
theorem dX7_summer_33 : decode cX7_summer 33 = .ok (.aload_n 0, 1) := by decide +kernel
theorem dX7_summer_34 : decode cX7_summer 34 = .ok (.getfield 28, 3) := by decide +kernel
theorem dX7_summer_37 : decode cX7_summer 37 = .ok (.iload_n 1, 1) := by decide +kernel
theorem dX7_summer_38 : decode cX7_summer 38 = .ok (.invokevirtual 187, 3) := by decide +kernel
theorem dX7_summer_41 : decode cX7_summer 41 = .ok (.istore_n 3, 1) := by decide +kernel
theorem dX7_summer_42 : decode cX7_summer 42 = .ok (.iload_n 3, 1) := by decide +kernel
theorem dX7_summer_43 : decode cX7_summer 43 = .ok (.bipush (-4), 2) := by decide +kernel
theorem dX7_summer_45 : decode cX7_summer 45 = .ok (.if_icmp .eq 8, 3) := by decide +kernel
theorem dX7_summer_48 : decode cX7_summer 48 = .ok (.iload_n 2, 1) := by decide +kernel
theorem dX7_summer_49 : decode cX7_summer 49 = .ok (.iconst (-1), 1) := by decide +kernel
theorem dX7_summer_50 : decode cX7_summer 50 = .ok (.if_icmp .ne 7, 3) := by decide +kernel
theorem dX7_summer_53 : decode cX7_summer 53 = .ok (.iload_n 3, 1) := by decide +kernel
theorem dX7_summer_54 : decode cX7_summer 54 = .ok (.goto 11, 3) := by decide +kernel
theorem dX7_summer_57 : decode cX7_summer 57 = .ok (.aload_n 0, 1) := by decide +kernel
theorem dX7_summer_58 : decode cX7_summer 58 = .ok (.getfield 61, 3) := by decide +kernel
theorem dX7_summer_61 : decode cX7_summer 61 = .ok (.iload_n 2, 1) := by decide +kernel
theorem dX7_summer_62 : decode cX7_summer 62 = .ok (.invokevirtual 191, 3) := by decide +kernel
theorem dX7_summer_65 : decode cX7_summer 65 = .ok (.ireturn, 1) := by decide +kernel
theorem dX7_game_0 : decode cX7_game 0 = .ok (.iload_n 1, 1) := by decide +kernel
theorem dX7_game_1 : decode cX7_game 1 = .ok (.iconst 1, 1) := by decide +kernel
theorem dX7_game_2 : decode cX7_game 2 = .ok (.if_icmp .lt 17, 3) := by decide +kernel
theorem dX7_game_5 : decode cX7_game 5 = .ok (.iload_n 1, 1) := by decide +kernel
theorem dX7_game_6 : decode cX7_game 6 = .ok (.iconst 3, 1) := by decide +kernel
theorem dX7_game_7 : decode cX7_game 7 = .ok (.if_icmp .gt 12, 3) := by decide +kernel
theorem dX7_game_10 : decode cX7_game 10 = .ok (.iload_n 2, 1) := by decide +kernel
theorem dX7_game_11 : decode cX7_game 11 = .ok (.ifCond .lt 8, 3) := by decide +kernel
theorem dX7_game_14 : decode cX7_game 14 = .ok (.iload_n 2, 1) := by decide +kernel
theorem dX7_game_15 : decode cX7_game 15 = .ok (.iconst 1, 1) := by decide +kernel
theorem dX7_game_16 : decode cX7_game 16 = .ok (.if_icmp .le 5, 3) := by decide +kernel
theorem dX7_game_19 : decode cX7_game 19 = .ok (.iconst (-1), 1) := by decide +kernel
theorem dX7_game_20 : decode cX7_game 20 = .ok (.ireturn, 1) := by decide +kernel
theorem dX7_game_21 : decode cX7_game 21 = .ok (.aload_n 0, 1) := by decide +kernel
theorem dX7_game_22 : decode cX7_game 22 = .ok (.getfield 28, 3) := by decide +kernel
theorem dX7_game_25 : decode cX7_game 25 = .ok (.invokevirtual 139, 3) := by decide +kernel
theorem dX7_game_28 : decode cX7_game 28 = .ok (.ifCond .eq 6, 3) := by decide +kernel
theorem dX7_game_31 : decode cX7_game 31 = .ok (.bipush (-2), 2) := by decide +kernel
theorem dX7_game_33 : decode cX7_game 33 = .ok (.ireturn, 1) := by decide +kernel
theorem dX7_game_34 : decode cX7_game 34 = .ok (.aload_n 0, 1) := by decide +kernel
theorem dX7_game_35 : decode cX7_game 35 = .ok (.getfield 61, 3) := by decide +kernel
theorem dX7_game_38 : decode cX7_game 38 = .ok (.aload_n 0, 1) := by decide +kernel
theorem dX7_game_39 : decode cX7_game 39 = .ok (.getfield 28, 3) := by decide +kernel
theorem dX7_game_42 : decode cX7_game 42 = .ok (.iload_n 1, 1) := by decide +kernel
theorem dX7_game_43 : decode cX7_game 43 = .ok (.invokevirtual 194, 3) := by decide +kernel
theorem dX7_game_46 : decode cX7_game 46 = .ok (.istore_n 3, 1) := by decide +kernel
theorem dX7_game_47 : decode cX7_game 47 = .ok (.iload_n 2, 1) := by decide +kernel
theorem dX7_game_48 : decode cX7_game 48 = .ok (.ifCond .ne 10, 3) := by decide +kernel
theorem dX7_game_51 : decode cX7_game 51 = .ok (.iload_n 3, 1) := by decide +kernel
theorem dX7_game_52 : decode cX7_game 52 = .ok (.bipush 100, 2) := by decide +kernel
theorem dX7_game_54 : decode cX7_game 54 = .ok (.iadd, 1) := by decide +kernel
theorem dX7_game_55 : decode cX7_game 55 = .ok (.goto 10, 3) := by decide +kernel
theorem dX7_game_58 : decode cX7_game 58 = .ok (.aload_n 0, 1) := by decide +kernel
theorem dX7_game_59 : decode cX7_game 59 = .ok (.getfield 61, 3) := by decide +kernel
theorem dX7_game_62 : decode cX7_game 62 = .ok (.getfield 197, 3) := by decide +kernel
theorem dX7_game_65 : decode cX7_game 65 = .ok (.ireturn, 1) := by decide +kernel
theorem dX7_again_0 : decode cX7_again 0 = .ok (.aload_n 0, 1) := by decide +kernel
theorem dX7_again_1 : decode cX7_again 1 = .ok (.getfield 10, 3) := by decide +kernel
theorem dX7_again_4 : decode cX7_again 4 = .ok (.iload_n 1, 1) := by decide +kernel
theorem dX7_again_5 : decode cX7_again 5 = .ok (.invokevirtual 97, 3) := by decide +kernel
theorem dX7_again_8 : decode cX7_again 8 = .ok (.ifCond .ne 5, 3) := by decide +kernel
theorem dX7_again_11 : decode cX7_again 11 = .ok (.iconst (-1), 1) := by decide +kernel
theorem dX7_again_12 : decode cX7_again 12 = .ok (.ireturn, 1) := by decide +kernel
theorem dX7_again_13 : decode cX7_again 13 = .ok (.aload_n 0, 1) := by decide +kernel
theorem dX7_again_14 : decode cX7_again 14 = .ok (.getfield 28, 3) := by decide +kernel
theorem dX7_again_17 : decode cX7_again 17 = .ok (.iload_n 1, 1) := by decide +kernel
theorem dX7_again_18 : decode cX7_again 18 = .ok (.invokevirtual 100, 3) := by decide +kernel
theorem dX7_again_21 : decode cX7_again 21 = .ok (.bipush 9, 2) := by decide +kernel
theorem dX7_again_23 : decode cX7_again 23 = .ok (.if_icmp .ne 6, 3) := by decide +kernel
theorem dX7_again_26 : decode cX7_again 26 = .ok (.bipush (-2), 2) := by decide +kernel
theorem dX7_again_28 : decode cX7_again 28 = .ok (.ireturn, 1) := by decide +kernel
theorem dX7_again_29 : decode cX7_again 29 = .ok (.aload_n 0, 1) := by decide +kernel
theorem dX7_again_30 : decode cX7_again 30 = .ok (.getfield 32, 3) := by decide +kernel
theorem dX7_again_33 : decode cX7_again 33 = .ok (.aload_n 0, 1) := by decide +kernel
theorem dX7_again_34 : decode cX7_again 34 = .ok (.getfield 28, 3) := by decide +kernel
theorem dX7_again_37 : decode cX7_again 37 = .ok (.invokevirtual 162, 3) := by decide +kernel
theorem dX7_again_40 : decode cX7_again 40 = .ok (.iconst 0, 1) := by decide +kernel
theorem dX7_again_41 : decode cX7_again 41 = .ok (.istore_n 2, 1) := by decide +kernel
theorem dX7_again_42 : decode cX7_again 42 = .ok (.iload_n 2, 1) := by decide +kernel
theorem dX7_again_43 : decode cX7_again 43 = .ok (.bipush 60, 2) := by decide +kernel
theorem dX7_again_45 : decode cX7_again 45 = .ok (.if_icmp .gt 29, 3) := by decide +kernel
theorem dX7_again_48 : decode cX7_again 48 = .ok (.aload_n 0, 1) := by decide +kernel
theorem dX7_again_49 : decode cX7_again 49 = .ok (.getfield 32, 3) := by decide +kernel
theorem dX7_again_52 : decode cX7_again 52 = .ok (.iload_n 1, 1) := by decide +kernel
theorem dX7_again_53 : decode cX7_again 53 = .ok (.invokevirtual 100, 3) := by decide +kernel
theorem dX7_again_56 : decode cX7_again 56 = .ok (.ifCond .le 5, 3) := by decide +kernel
theorem dX7_again_59 : decode cX7_again 59 = .ok (.iload_n 2, 1) := by decide +kernel
theorem dX7_again_60 : decode cX7_again 60 = .ok (.ireturn, 1) := by decide +kernel
theorem dX7_again_61 : decode cX7_again 61 = .ok (.aload_n 0, 1) := by decide +kernel
theorem dX7_again_62 : decode cX7_again 62 = .ok (.getfield 32, 3) := by decide +kernel
theorem dX7_again_65 : decode cX7_again 65 = .ok (.invokevirtual 149, 3) := by decide +kernel
theorem dX7_again_68 : decode cX7_again 68 = .ok (.iinc 2 1, 3) := by decide +kernel
theorem dX7_again_71 : decode cX7_again 71 = .ok (.goto (-29), 3) := by decide +kernel
theorem dX7_again_74 : decode cX7_again 74 = .ok (.bipush (-4), 2) := by decide +kernel
theorem dX7_again_76 : decode cX7_again 76 = .ok (.ireturn, 1) := by decide +kernel
theorem dX7_starves_0 : decode cX7_starves 0 = .ok (.aload_n 0, 1) := by decide +kernel
theorem dX7_starves_1 : decode cX7_starves 1 = .ok (.getfield 10, 3) := by decide +kernel
theorem dX7_starves_4 : decode cX7_starves 4 = .ok (.iload_n 1, 1) := by decide +kernel
theorem dX7_starves_5 : decode cX7_starves 5 = .ok (.invokevirtual 107, 3) := by decide +kernel
theorem dX7_starves_8 : decode cX7_starves 8 = .ok (.ifCond .ne 5, 3) := by decide +kernel
theorem dX7_starves_11 : decode cX7_starves 11 = .ok (.iconst (-1), 1) := by decide +kernel
theorem dX7_starves_12 : decode cX7_starves 12 = .ok (.ireturn, 1) := by decide +kernel
theorem dX7_starves_13 : decode cX7_starves 13 = .ok (.aload_n 0, 1) := by decide +kernel
theorem dX7_starves_14 : decode cX7_starves 14 = .ok (.getfield 28, 3) := by decide +kernel
theorem dX7_starves_17 : decode cX7_starves 17 = .ok (.iload_n 1, 1) := by decide +kernel
theorem dX7_starves_18 : decode cX7_starves 18 = .ok (.invokevirtual 125, 3) := by decide +kernel
theorem dX7_starves_21 : decode cX7_starves 21 = .ok (.ifCond .eq 6, 3) := by decide +kernel
theorem dX7_starves_24 : decode cX7_starves 24 = .ok (.bipush (-2), 2) := by decide +kernel
theorem dX7_starves_26 : decode cX7_starves 26 = .ok (.ireturn, 1) := by decide +kernel
theorem dX7_starves_27 : decode cX7_starves 27 = .ok (.aload_n 0, 1) := by decide +kernel
theorem dX7_starves_28 : decode cX7_starves 28 = .ok (.getfield 32, 3) := by decide +kernel
theorem dX7_starves_31 : decode cX7_starves 31 = .ok (.aload_n 0, 1) := by decide +kernel
theorem dX7_starves_32 : decode cX7_starves 32 = .ok (.getfield 28, 3) := by decide +kernel
theorem dX7_starves_35 : decode cX7_starves 35 = .ok (.invokevirtual 162, 3) := by decide +kernel
theorem dX7_starves_38 : decode cX7_starves 38 = .ok (.iconst 1, 1) := by decide +kernel
theorem dX7_starves_39 : decode cX7_starves 39 = .ok (.istore_n 2, 1) := by decide +kernel
theorem dX7_starves_40 : decode cX7_starves 40 = .ok (.iload_n 2, 1) := by decide +kernel
theorem dX7_starves_41 : decode cX7_starves 41 = .ok (.bipush 60, 2) := by decide +kernel
theorem dX7_starves_43 : decode cX7_starves 43 = .ok (.if_icmp .gt 29, 3) := by decide +kernel
theorem dX7_starves_46 : decode cX7_starves 46 = .ok (.aload_n 0, 1) := by decide +kernel
theorem dX7_starves_47 : decode cX7_starves 47 = .ok (.getfield 32, 3) := by decide +kernel
theorem dX7_starves_50 : decode cX7_starves 50 = .ok (.invokevirtual 149, 3) := by decide +kernel
theorem dX7_starves_53 : decode cX7_starves 53 = .ok (.aload_n 0, 1) := by decide +kernel
theorem dX7_starves_54 : decode cX7_starves 54 = .ok (.getfield 32, 3) := by decide +kernel
theorem dX7_starves_57 : decode cX7_starves 57 = .ok (.iload_n 1, 1) := by decide +kernel
theorem dX7_starves_58 : decode cX7_starves 58 = .ok (.invokevirtual 125, 3) := by decide +kernel
theorem dX7_starves_61 : decode cX7_starves 61 = .ok (.ifCond .eq 5, 3) := by decide +kernel
theorem dX7_starves_64 : decode cX7_starves 64 = .ok (.iload_n 2, 1) := by decide +kernel
theorem dX7_starves_65 : decode cX7_starves 65 = .ok (.ireturn, 1) := by decide +kernel
theorem dX7_starves_66 : decode cX7_starves 66 = .ok (.iinc 2 1, 3) := by decide +kernel
theorem dX7_starves_69 : decode cX7_starves 69 = .ok (.goto (-29), 3) := by decide +kernel
theorem dX7_starves_72 : decode cX7_starves 72 = .ok (.bipush (-4), 2) := by decide +kernel
theorem dX7_starves_74 : decode cX7_starves 74 = .ok (.ireturn, 1) := by decide +kernel
theorem dX7_otherwise_0 : decode cX7_otherwise 0 = .ok (.aload_n 0, 1) := by decide +kernel
theorem dX7_otherwise_1 : decode cX7_otherwise 1 = .ok (.getfield 10, 3) := by decide +kernel
theorem dX7_otherwise_4 : decode cX7_otherwise 4 = .ok (.iload_n 1, 1) := by decide +kernel
theorem dX7_otherwise_5 : decode cX7_otherwise 5 = .ok (.invokevirtual 107, 3) := by decide +kernel
theorem dX7_otherwise_8 : decode cX7_otherwise 8 = .ok (.ifCond .eq 23, 3) := by decide +kernel
theorem dX7_otherwise_11 : decode cX7_otherwise 11 = .ok (.aload_n 0, 1) := by decide +kernel
theorem dX7_otherwise_12 : decode cX7_otherwise 12 = .ok (.getfield 10, 3) := by decide +kernel
theorem dX7_otherwise_15 : decode cX7_otherwise 15 = .ok (.iload_n 2, 1) := by decide +kernel
theorem dX7_otherwise_16 : decode cX7_otherwise 16 = .ok (.invokevirtual 97, 3) := by decide +kernel
theorem dX7_otherwise_19 : decode cX7_otherwise 19 = .ok (.ifCond .eq 12, 3) := by decide +kernel
theorem dX7_otherwise_22 : decode cX7_otherwise 22 = .ok (.iload_n 3, 1) := by decide +kernel
theorem dX7_otherwise_23 : decode cX7_otherwise 23 = .ok (.ifCond .lt 8, 3) := by decide +kernel
theorem dX7_otherwise_26 : decode cX7_otherwise 26 = .ok (.iload_n 3, 1) := by decide +kernel
theorem dX7_otherwise_27 : decode cX7_otherwise 27 = .ok (.iconst 1, 1) := by decide +kernel
theorem dX7_otherwise_28 : decode cX7_otherwise 28 = .ok (.if_icmp .le 5, 3) := by decide +kernel
theorem dX7_otherwise_31 : decode cX7_otherwise 31 = .ok (.iconst (-1), 1) := by decide +kernel
theorem dX7_otherwise_32 : decode cX7_otherwise 32 = .ok (.ireturn, 1) := by decide +kernel
theorem dX7_otherwise_33 : decode cX7_otherwise 33 = .ok (.iconst 0, 1) := by decide +kernel
theorem dX7_otherwise_34 : decode cX7_otherwise 34 = .ok (.istore 4, 2) := by decide +kernel
theorem dX7_otherwise_36 : decode cX7_otherwise 36 = .ok (.bipush (-4), 2) := by decide +kernel
theorem dX7_otherwise_38 : decode cX7_otherwise 38 = .ok (.istore 5, 2) := by decide +kernel
theorem dX7_otherwise_40 : decode cX7_otherwise 40 = .ok (.iconst 0, 1) := by decide +kernel
theorem dX7_otherwise_41 : decode cX7_otherwise 41 = .ok (.istore 6, 2) := by decide +kernel
theorem dX7_otherwise_43 : decode cX7_otherwise 43 = .ok (.iload 6, 2) := by decide +kernel
theorem dX7_otherwise_45 : decode cX7_otherwise 45 = .ok (.aload_n 0, 1) := by decide +kernel
theorem dX7_otherwise_46 : decode cX7_otherwise 46 = .ok (.getfield 38, 3) := by decide +kernel
theorem dX7_otherwise_49 : decode cX7_otherwise 49 = .ok (.getfield 155, 3) := by decide +kernel
theorem dX7_otherwise_52 : decode cX7_otherwise 52 = .ok (.if_icmp .ge 80, 3) := by decide +kernel
theorem dX7_otherwise_55 : decode cX7_otherwise 55 = .ok (.iconst 0, 1) := by decide +kernel
theorem dX7_otherwise_56 : decode cX7_otherwise 56 = .ok (.istore 7, 2) := by decide +kernel
theorem dX7_otherwise_58 : decode cX7_otherwise 58 = .ok (.iload 7, 2) := by decide +kernel
theorem dX7_otherwise_60 : decode cX7_otherwise 60 = .ok (.bipush 99, 2) := by decide +kernel
theorem dX7_otherwise_62 : decode cX7_otherwise 62 = .ok (.if_icmp .gt 64, 3) := by decide +kernel
theorem dX7_otherwise_65 : decode cX7_otherwise 65 = .ok (.aload_n 0, 1) := by decide +kernel
theorem dX7_otherwise_66 : decode cX7_otherwise 66 = .ok (.getfield 38, 3) := by decide +kernel
theorem dX7_otherwise_69 : decode cX7_otherwise 69 = .ok (.iload 6, 2) := by decide +kernel
theorem dX7_otherwise_71 : decode cX7_otherwise 71 = .ok (.iload 7, 2) := by decide +kernel
theorem dX7_otherwise_73 : decode cX7_otherwise 73 = .ok (.aload_n 0, 1) := by decide +kernel
theorem dX7_otherwise_74 : decode cX7_otherwise 74 = .ok (.getfield 32, 3) := by decide +kernel
theorem dX7_otherwise_77 : decode cX7_otherwise 77 = .ok (.invokevirtual 200, 3) := by decide +kernel
theorem dX7_otherwise_80 : decode cX7_otherwise 80 = .ok (.ifCond .eq 40, 3) := by decide +kernel
theorem dX7_otherwise_83 : decode cX7_otherwise 83 = .ok (.aload_n 0, 1) := by decide +kernel
theorem dX7_otherwise_84 : decode cX7_otherwise 84 = .ok (.getfield 32, 3) := by decide +kernel
theorem dX7_otherwise_87 : decode cX7_otherwise 87 = .ok (.iload_n 1, 1) := by decide +kernel
theorem dX7_otherwise_88 : decode cX7_otherwise 88 = .ok (.invokevirtual 116, 3) := by decide +kernel
theorem dX7_otherwise_91 : decode cX7_otherwise 91 = .ok (.iload_n 2, 1) := by decide +kernel
theorem dX7_otherwise_92 : decode cX7_otherwise 92 = .ok (.if_icmp .ne 28, 3) := by decide +kernel
theorem dX7_otherwise_95 : decode cX7_otherwise 95 = .ok (.iinc 4 1, 3) := by decide +kernel
theorem dX7_otherwise_98 : decode cX7_otherwise 98 = .ok (.iload 5, 2) := by decide +kernel
theorem dX7_otherwise_100 : decode cX7_otherwise 100 = .ok (.bipush (-4), 2) := by decide +kernel
theorem dX7_otherwise_102 : decode cX7_otherwise 102 = .ok (.if_icmp .ne 14, 3) := by decide +kernel
theorem dX7_otherwise_105 : decode cX7_otherwise 105 = .ok (.bipush 100, 2) := by decide +kernel
theorem dX7_otherwise_107 : decode cX7_otherwise 107 = .ok (.iload 6, 2) := by decide +kernel
theorem dX7_otherwise_109 : decode cX7_otherwise 109 = .ok (.imul, 1) := by decide +kernel
theorem dX7_otherwise_110 : decode cX7_otherwise 110 = .ok (.iload 7, 2) := by decide +kernel
theorem dX7_otherwise_112 : decode cX7_otherwise 112 = .ok (.iadd, 1) := by decide +kernel
theorem dX7_otherwise_113 : decode cX7_otherwise 113 = .ok (.goto 5, 3) := by decide +kernel
theorem dX7_otherwise_116 : decode cX7_otherwise 116 = .ok (.iload 5, 2) := by decide +kernel
theorem dX7_otherwise_118 : decode cX7_otherwise 118 = .ok (.istore 5, 2) := by decide +kernel
theorem dX7_otherwise_120 : decode cX7_otherwise 120 = .ok (.iinc 7 1, 3) := by decide +kernel
theorem dX7_otherwise_123 : decode cX7_otherwise 123 = .ok (.goto (-65), 3) := by decide +kernel
theorem dX7_otherwise_126 : decode cX7_otherwise 126 = .ok (.iinc 6 1, 3) := by decide +kernel
theorem dX7_otherwise_129 : decode cX7_otherwise 129 = .ok (.goto (-86), 3) := by decide +kernel
theorem dX7_otherwise_132 : decode cX7_otherwise 132 = .ok (.iload_n 3, 1) := by decide +kernel
theorem dX7_otherwise_133 : decode cX7_otherwise 133 = .ok (.ifCond .ne 8, 3) := by decide +kernel
theorem dX7_otherwise_136 : decode cX7_otherwise 136 = .ok (.iload 4, 2) := by decide +kernel
theorem dX7_otherwise_138 : decode cX7_otherwise 138 = .ok (.goto 5, 3) := by decide +kernel
theorem dX7_otherwise_141 : decode cX7_otherwise 141 = .ok (.iload 5, 2) := by decide +kernel
theorem dX7_otherwise_143 : decode cX7_otherwise 143 = .ok (.ireturn, 1) := by decide +kernel
theorem dX7_wolves_0 : decode cX7_wolves 0 = .ok (.aload_n 0, 1) := by decide +kernel
theorem dX7_wolves_1 : decode cX7_wolves 1 = .ok (.getfield 10, 3) := by decide +kernel
theorem dX7_wolves_4 : decode cX7_wolves 4 = .ok (.iload_n 1, 1) := by decide +kernel
theorem dX7_wolves_5 : decode cX7_wolves 5 = .ok (.invokevirtual 107, 3) := by decide +kernel
theorem dX7_wolves_8 : decode cX7_wolves 8 = .ok (.ifCond .eq 27, 3) := by decide +kernel
theorem dX7_wolves_11 : decode cX7_wolves 11 = .ok (.iload_n 2, 1) := by decide +kernel
theorem dX7_wolves_12 : decode cX7_wolves 12 = .ok (.ifCond .lt 23, 3) := by decide +kernel
theorem dX7_wolves_15 : decode cX7_wolves 15 = .ok (.iload_n 2, 1) := by decide +kernel
theorem dX7_wolves_16 : decode cX7_wolves 16 = .ok (.bipush 8, 2) := by decide +kernel
theorem dX7_wolves_18 : decode cX7_wolves 18 = .ok (.if_icmp .gt 17, 3) := by decide +kernel
theorem dX7_wolves_21 : decode cX7_wolves 21 = .ok (.iload_n 3, 1) := by decide +kernel
theorem dX7_wolves_22 : decode cX7_wolves 22 = .ok (.ifCond .lt 13, 3) := by decide +kernel
theorem dX7_wolves_25 : decode cX7_wolves 25 = .ok (.iload_n 3, 1) := by decide +kernel
theorem dX7_wolves_26 : decode cX7_wolves 26 = .ok (.bipush 10, 2) := by decide +kernel
theorem dX7_wolves_28 : decode cX7_wolves 28 = .ok (.if_icmp .gt 7, 3) := by decide +kernel
theorem dX7_wolves_31 : decode cX7_wolves 31 = .ok (.iconst 1, 1) := by decide +kernel
theorem dX7_wolves_32 : decode cX7_wolves 32 = .ok (.goto 4, 3) := by decide +kernel
theorem dX7_wolves_35 : decode cX7_wolves 35 = .ok (.iconst 0, 1) := by decide +kernel
theorem dX7_wolves_36 : decode cX7_wolves 36 = .ok (.istore 5, 2) := by decide +kernel
theorem dX7_wolves_38 : decode cX7_wolves 38 = .ok (.iload 5, 2) := by decide +kernel
theorem dX7_wolves_40 : decode cX7_wolves 40 = .ok (.ifCond .eq 14, 3) := by decide +kernel
theorem dX7_wolves_43 : decode cX7_wolves 43 = .ok (.iload 4, 2) := by decide +kernel
theorem dX7_wolves_45 : decode cX7_wolves 45 = .ok (.ifCond .lt 9, 3) := by decide +kernel
theorem dX7_wolves_48 : decode cX7_wolves 48 = .ok (.iload 4, 2) := by decide +kernel
theorem dX7_wolves_50 : decode cX7_wolves 50 = .ok (.iconst 1, 1) := by decide +kernel
theorem dX7_wolves_51 : decode cX7_wolves 51 = .ok (.if_icmp .le 5, 3) := by decide +kernel
theorem dX7_wolves_54 : decode cX7_wolves 54 = .ok (.iconst (-1), 1) := by decide +kernel
theorem dX7_wolves_55 : decode cX7_wolves 55 = .ok (.ireturn, 1) := by decide +kernel
theorem dX7_wolves_56 : decode cX7_wolves 56 = .ok (.aload_n 0, 1) := by decide +kernel
theorem dX7_wolves_57 : decode cX7_wolves 57 = .ok (.getfield 28, 3) := by decide +kernel
theorem dX7_wolves_60 : decode cX7_wolves 60 = .ok (.iload_n 1, 1) := by decide +kernel
theorem dX7_wolves_61 : decode cX7_wolves 61 = .ok (.invokevirtual 125, 3) := by decide +kernel
theorem dX7_wolves_64 : decode cX7_wolves 64 = .ok (.ifCond .eq 6, 3) := by decide +kernel
theorem dX7_wolves_67 : decode cX7_wolves 67 = .ok (.bipush (-2), 2) := by decide +kernel
theorem dX7_wolves_69 : decode cX7_wolves 69 = .ok (.ireturn, 1) := by decide +kernel
theorem dX7_wolves_70 : decode cX7_wolves 70 = .ok (.lconst 1, 1) := by decide +kernel
theorem dX7_wolves_71 : decode cX7_wolves 71 = .ok (.lstore 6, 2) := by decide +kernel
theorem dX7_wolves_73 : decode cX7_wolves 73 = .ok (.iconst 0, 1) := by decide +kernel
theorem dX7_wolves_74 : decode cX7_wolves 74 = .ok (.istore 8, 2) := by decide +kernel
theorem dX7_wolves_76 : decode cX7_wolves 76 = .ok (.iload 8, 2) := by decide +kernel
theorem dX7_wolves_78 : decode cX7_wolves 78 = .ok (.iload_n 2, 1) := by decide +kernel
theorem dX7_wolves_79 : decode cX7_wolves 79 = .ok (.if_icmp .ge 17, 3) := by decide +kernel
theorem dX7_wolves_82 : decode cX7_wolves 82 = .ok (.lload 6, 2) := by decide +kernel
theorem dX7_wolves_84 : decode cX7_wolves 84 = .ok (.ldc2_w 204, 3) := by decide +kernel
theorem dX7_wolves_87 : decode cX7_wolves 87 = .ok (.lmul, 1) := by decide +kernel
theorem dX7_wolves_88 : decode cX7_wolves 88 = .ok (.lstore 6, 2) := by decide +kernel
theorem dX7_wolves_90 : decode cX7_wolves 90 = .ok (.iinc 8 1, 3) := by decide +kernel
theorem dX7_wolves_93 : decode cX7_wolves 93 = .ok (.goto (-17), 3) := by decide +kernel
theorem dX7_wolves_96 : decode cX7_wolves 96 = .ok (.aload_n 0, 1) := by decide +kernel
theorem dX7_wolves_97 : decode cX7_wolves 97 = .ok (.getfield 61, 3) := by decide +kernel
theorem dX7_wolves_100 : decode cX7_wolves 100 = .ok (.aload_n 0, 1) := by decide +kernel
theorem dX7_wolves_101 : decode cX7_wolves 101 = .ok (.getfield 28, 3) := by decide +kernel
theorem dX7_wolves_104 : decode cX7_wolves 104 = .ok (.iload_n 1, 1) := by decide +kernel
theorem dX7_wolves_105 : decode cX7_wolves 105 = .ok (.iload_n 2, 1) := by decide +kernel
theorem dX7_wolves_106 : decode cX7_wolves 106 = .ok (.iload_n 3, 1) := by decide +kernel
theorem dX7_wolves_107 : decode cX7_wolves 107 = .ok (.invokevirtual 206, 3) := by decide +kernel
theorem dX7_wolves_110 : decode cX7_wolves 110 = .ok (.lstore 8, 2) := by decide +kernel
theorem dX7_wolves_112 : decode cX7_wolves 112 = .ok (.lload 8, 2) := by decide +kernel
theorem dX7_wolves_114 : decode cX7_wolves 114 = .ok (.lload 6, 2) := by decide +kernel
theorem dX7_wolves_116 : decode cX7_wolves 116 = .ok (.invokestatic 210, 3) := by decide +kernel
theorem dX7_wolves_119 : decode cX7_wolves 119 = .ok (.lstore 10, 2) := by decide +kernel
theorem dX7_wolves_121 : decode cX7_wolves 121 = .ok (.lload 10, 2) := by decide +kernel
theorem dX7_wolves_123 : decode cX7_wolves 123 = .ok (.lconst 1, 1) := by decide +kernel
theorem dX7_wolves_124 : decode cX7_wolves 124 = .ok (.lcmp, 1) := by decide +kernel
theorem dX7_wolves_125 : decode cX7_wolves 125 = .ok (.ifCond .ge 8, 3) := by decide +kernel
theorem dX7_wolves_128 : decode cX7_wolves 128 = .ok (.bipush (-4), 2) := by decide +kernel
theorem dX7_wolves_130 : decode cX7_wolves 130 = .ok (.goto 19, 3) := by decide +kernel
theorem dX7_wolves_133 : decode cX7_wolves 133 = .ok (.iload 4, 2) := by decide +kernel
theorem dX7_wolves_135 : decode cX7_wolves 135 = .ok (.ifCond .ne 8, 3) := by decide +kernel
theorem dX7_wolves_138 : decode cX7_wolves 138 = .ok (.lload 8, 2) := by decide +kernel
theorem dX7_wolves_140 : decode cX7_wolves 140 = .ok (.goto 5, 3) := by decide +kernel
theorem dX7_wolves_143 : decode cX7_wolves 143 = .ok (.lload 6, 2) := by decide +kernel
theorem dX7_wolves_145 : decode cX7_wolves 145 = .ok (.lload 10, 2) := by decide +kernel
theorem dX7_wolves_147 : decode cX7_wolves 147 = .ok (.ldiv, 1) := by decide +kernel
theorem dX7_wolves_148 : decode cX7_wolves 148 = .ok (.l2i, 1) := by decide +kernel
theorem dX7_wolves_149 : decode cX7_wolves 149 = .ok (.ireturn, 1) := by decide +kernel
theorem dX7_season_0 : decode cX7_season 0 = .ok (.iload_n 1, 1) := by decide +kernel
theorem dX7_season_1 : decode cX7_season 1 = .ok (.ifCond .lt 30, 3) := by decide +kernel
theorem dX7_season_4 : decode cX7_season 4 = .ok (.iload_n 1, 1) := by decide +kernel
theorem dX7_season_5 : decode cX7_season 5 = .ok (.sipush 9999, 3) := by decide +kernel
theorem dX7_season_8 : decode cX7_season 8 = .ok (.if_icmp .gt 23, 3) := by decide +kernel
theorem dX7_season_11 : decode cX7_season 11 = .ok (.iload_n 2, 1) := by decide +kernel
theorem dX7_season_12 : decode cX7_season 12 = .ok (.iconst 1, 1) := by decide +kernel
theorem dX7_season_13 : decode cX7_season 13 = .ok (.if_icmp .lt 18, 3) := by decide +kernel
theorem dX7_season_16 : decode cX7_season 16 = .ok (.iload_n 2, 1) := by decide +kernel
theorem dX7_season_17 : decode cX7_season 17 = .ok (.bipush 60, 2) := by decide +kernel
theorem dX7_season_19 : decode cX7_season 19 = .ok (.if_icmp .gt 12, 3) := by decide +kernel
theorem dX7_season_22 : decode cX7_season 22 = .ok (.iload_n 3, 1) := by decide +kernel
theorem dX7_season_23 : decode cX7_season 23 = .ok (.ifCond .lt 8, 3) := by decide +kernel
theorem dX7_season_26 : decode cX7_season 26 = .ok (.iload_n 3, 1) := by decide +kernel
theorem dX7_season_27 : decode cX7_season 27 = .ok (.iconst 1, 1) := by decide +kernel
theorem dX7_season_28 : decode cX7_season 28 = .ok (.if_icmp .le 5, 3) := by decide +kernel
theorem dX7_season_31 : decode cX7_season 31 = .ok (.iconst (-1), 1) := by decide +kernel
theorem dX7_season_32 : decode cX7_season 32 = .ok (.ireturn, 1) := by decide +kernel
theorem dX7_season_33 : decode cX7_season 33 = .ok (.aload_n 0, 1) := by decide +kernel
theorem dX7_season_34 : decode cX7_season 34 = .ok (.getfield 32, 3) := by decide +kernel
theorem dX7_season_37 : decode cX7_season 37 = .ok (.aload_n 0, 1) := by decide +kernel
theorem dX7_season_38 : decode cX7_season 38 = .ok (.getfield 28, 3) := by decide +kernel
theorem dX7_season_41 : decode cX7_season 41 = .ok (.invokevirtual 162, 3) := by decide +kernel
theorem dX7_season_44 : decode cX7_season 44 = .ok (.iconst 0, 1) := by decide +kernel
theorem dX7_season_45 : decode cX7_season 45 = .ok (.istore 4, 2) := by decide +kernel
theorem dX7_season_47 : decode cX7_season 47 = .ok (.iload 4, 2) := by decide +kernel
theorem dX7_season_49 : decode cX7_season 49 = .ok (.iload_n 2, 1) := by decide +kernel
theorem dX7_season_50 : decode cX7_season 50 = .ok (.if_icmp .ge 77, 3) := by decide +kernel
theorem dX7_season_53 : decode cX7_season 53 = .ok (.aload_n 0, 1) := by decide +kernel
theorem dX7_season_54 : decode cX7_season 54 = .ok (.getfield 32, 3) := by decide +kernel
theorem dX7_season_57 : decode cX7_season 57 = .ok (.invokevirtual 139, 3) := by decide +kernel
theorem dX7_season_60 : decode cX7_season 60 = .ok (.ifCond .ne 67, 3) := by decide +kernel
theorem dX7_season_63 : decode cX7_season 63 = .ok (.iload_n 1, 1) := by decide +kernel
theorem dX7_season_64 : decode cX7_season 64 = .ok (.iload 4, 2) := by decide +kernel
theorem dX7_season_66 : decode cX7_season 66 = .ok (.invokestatic 214, 3) := by decide +kernel
theorem dX7_season_69 : decode cX7_season 69 = .ok (.istore 5, 2) := by decide +kernel
theorem dX7_season_71 : decode cX7_season 71 = .ok (.aload_n 0, 1) := by decide +kernel
theorem dX7_season_72 : decode cX7_season 72 = .ok (.getfield 10, 3) := by decide +kernel
theorem dX7_season_75 : decode cX7_season 75 = .ok (.getfield 94, 3) := by decide +kernel
theorem dX7_season_78 : decode cX7_season 78 = .ok (.iconst 1, 1) := by decide +kernel
theorem dX7_season_79 : decode cX7_season 79 = .ok (.if_icmp .ge 7, 3) := by decide +kernel
theorem dX7_season_82 : decode cX7_season 82 = .ok (.iconst 0, 1) := by decide +kernel
theorem dX7_season_83 : decode cX7_season 83 = .ok (.goto 16, 3) := by decide +kernel
theorem dX7_season_86 : decode cX7_season 86 = .ok (.iload 5, 2) := by decide +kernel
theorem dX7_season_88 : decode cX7_season 88 = .ok (.bipush 8, 2) := by decide +kernel
theorem dX7_season_90 : decode cX7_season 90 = .ok (.idiv, 1) := by decide +kernel
theorem dX7_season_91 : decode cX7_season 91 = .ok (.aload_n 0, 1) := by decide +kernel
theorem dX7_season_92 : decode cX7_season 92 = .ok (.getfield 10, 3) := by decide +kernel
theorem dX7_season_95 : decode cX7_season 95 = .ok (.getfield 94, 3) := by decide +kernel
theorem dX7_season_98 : decode cX7_season 98 = .ok (.irem, 1) := by decide +kernel
theorem dX7_season_99 : decode cX7_season 99 = .ok (.istore 6, 2) := by decide +kernel
theorem dX7_season_101 : decode cX7_season 101 = .ok (.aload_n 0, 1) := by decide +kernel
theorem dX7_season_102 : decode cX7_season 102 = .ok (.getfield 32, 3) := by decide +kernel
theorem dX7_season_105 : decode cX7_season 105 = .ok (.bipush 10, 2) := by decide +kernel
theorem dX7_season_107 : decode cX7_season 107 = .ok (.iload 6, 2) := by decide +kernel
theorem dX7_season_109 : decode cX7_season 109 = .ok (.imul, 1) := by decide +kernel
theorem dX7_season_110 : decode cX7_season 110 = .ok (.iload 5, 2) := by decide +kernel
theorem dX7_season_112 : decode cX7_season 112 = .ok (.bipush 64, 2) := by decide +kernel
theorem dX7_season_114 : decode cX7_season 114 = .ok (.idiv, 1) := by decide +kernel
theorem dX7_season_115 : decode cX7_season 115 = .ok (.iconst 4, 1) := by decide +kernel
theorem dX7_season_116 : decode cX7_season 116 = .ok (.irem, 1) := by decide +kernel
theorem dX7_season_117 : decode cX7_season 117 = .ok (.iadd, 1) := by decide +kernel
theorem dX7_season_118 : decode cX7_season 118 = .ok (.invokevirtual 217, 3) := by decide +kernel
theorem dX7_season_121 : decode cX7_season 121 = .ok (.iinc 4 1, 3) := by decide +kernel
theorem dX7_season_124 : decode cX7_season 124 = .ok (.goto (-77), 3) := by decide +kernel
theorem dX7_season_127 : decode cX7_season 127 = .ok (.iload_n 3, 1) := by decide +kernel
theorem dX7_season_128 : decode cX7_season 128 = .ok (.ifCond .ne 16, 3) := by decide +kernel
theorem dX7_season_131 : decode cX7_season 131 = .ok (.aload_n 0, 1) := by decide +kernel
theorem dX7_season_132 : decode cX7_season 132 = .ok (.getfield 32, 3) := by decide +kernel
theorem dX7_season_135 : decode cX7_season 135 = .ok (.invokevirtual 221, 3) := by decide +kernel
theorem dX7_season_138 : decode cX7_season 138 = .ok (.bipush 100, 2) := by decide +kernel
theorem dX7_season_140 : decode cX7_season 140 = .ok (.iadd, 1) := by decide +kernel
theorem dX7_season_141 : decode cX7_season 141 = .ok (.goto 20, 3) := by decide +kernel
theorem dX7_season_144 : decode cX7_season 144 = .ok (.aload_n 0, 1) := by decide +kernel
theorem dX7_season_145 : decode cX7_season 145 = .ok (.getfield 32, 3) := by decide +kernel
theorem dX7_season_148 : decode cX7_season 148 = .ok (.iconst 0, 1) := by decide +kernel
theorem dX7_season_149 : decode cX7_season 149 = .ok (.invokevirtual 224, 3) := by decide +kernel
theorem dX7_season_152 : decode cX7_season 152 = .ok (.aload_n 0, 1) := by decide +kernel
theorem dX7_season_153 : decode cX7_season 153 = .ok (.getfield 32, 3) := by decide +kernel
theorem dX7_season_156 : decode cX7_season 156 = .ok (.iconst 1, 1) := by decide +kernel
theorem dX7_season_157 : decode cX7_season 157 = .ok (.invokevirtual 224, 3) := by decide +kernel
theorem dX7_season_160 : decode cX7_season 160 = .ok (.iadd, 1) := by decide +kernel
theorem dX7_season_161 : decode cX7_season 161 = .ok (.ireturn, 1) := by decide +kernel
theorem dX7_keep_0 : decode cX7_keep 0 = .ok (.aload_n 0, 1) := by decide +kernel
theorem dX7_keep_1 : decode cX7_keep 1 = .ok (.getfield 65, 3) := by decide +kernel
theorem dX7_keep_4 : decode cX7_keep 4 = .ok (.iconst 2, 1) := by decide +kernel
theorem dX7_keep_5 : decode cX7_keep 5 = .ok (.if_icmp .lt 6, 3) := by decide +kernel
theorem dX7_keep_8 : decode cX7_keep 8 = .ok (.bipush (-3), 2) := by decide +kernel
theorem dX7_keep_10 : decode cX7_keep 10 = .ok (.ireturn, 1) := by decide +kernel
theorem dX7_keep_11 : decode cX7_keep 11 = .ok (.aload_n 0, 1) := by decide +kernel
theorem dX7_keep_12 : decode cX7_keep 12 = .ok (.getfield 47, 3) := by decide +kernel
theorem dX7_keep_15 : decode cX7_keep 15 = .ok (.aload_n 0, 1) := by decide +kernel
theorem dX7_keep_16 : decode cX7_keep 16 = .ok (.getfield 65, 3) := by decide +kernel
theorem dX7_keep_19 : decode cX7_keep 19 = .ok (.invokevirtual 226, 3) := by decide +kernel
theorem dX7_keep_22 : decode cX7_keep 22 = .ok (.aload_n 0, 1) := by decide +kernel
theorem dX7_keep_23 : decode cX7_keep 23 = .ok (.getfield 28, 3) := by decide +kernel
theorem dX7_keep_26 : decode cX7_keep 26 = .ok (.invokevirtual 162, 3) := by decide +kernel
theorem dX7_keep_29 : decode cX7_keep 29 = .ok (.aload_n 0, 1) := by decide +kernel
theorem dX7_keep_30 : decode cX7_keep 30 = .ok (.dup, 1) := by decide +kernel
theorem dX7_keep_31 : decode cX7_keep 31 = .ok (.getfield 65, 3) := by decide +kernel
theorem dX7_keep_34 : decode cX7_keep 34 = .ok (.iconst 1, 1) := by decide +kernel
theorem dX7_keep_35 : decode cX7_keep 35 = .ok (.iadd, 1) := by decide +kernel
theorem dX7_keep_36 : decode cX7_keep 36 = .ok (.putfield 65, 3) := by decide +kernel
theorem dX7_keep_39 : decode cX7_keep 39 = .ok (.aload_n 0, 1) := by decide +kernel
theorem dX7_keep_40 : decode cX7_keep 40 = .ok (.getfield 65, 3) := by decide +kernel
theorem dX7_keep_43 : decode cX7_keep 43 = .ok (.ireturn, 1) := by decide +kernel
theorem dX7_back_0 : decode cX7_back 0 = .ok (.aload_n 0, 1) := by decide +kernel
theorem dX7_back_1 : decode cX7_back 1 = .ok (.getfield 65, 3) := by decide +kernel
theorem dX7_back_4 : decode cX7_back 4 = .ok (.iconst 1, 1) := by decide +kernel
theorem dX7_back_5 : decode cX7_back 5 = .ok (.if_icmp .ge 6, 3) := by decide +kernel
theorem dX7_back_8 : decode cX7_back 8 = .ok (.bipush (-2), 2) := by decide +kernel
theorem dX7_back_10 : decode cX7_back 10 = .ok (.ireturn, 1) := by decide +kernel
theorem dX7_back_11 : decode cX7_back 11 = .ok (.aload_n 0, 1) := by decide +kernel
theorem dX7_back_12 : decode cX7_back 12 = .ok (.dup, 1) := by decide +kernel
theorem dX7_back_13 : decode cX7_back 13 = .ok (.getfield 65, 3) := by decide +kernel
theorem dX7_back_16 : decode cX7_back 16 = .ok (.iconst 1, 1) := by decide +kernel
theorem dX7_back_17 : decode cX7_back 17 = .ok (.isub, 1) := by decide +kernel
theorem dX7_back_18 : decode cX7_back 18 = .ok (.putfield 65, 3) := by decide +kernel
theorem dX7_back_21 : decode cX7_back 21 = .ok (.aload_n 0, 1) := by decide +kernel
theorem dX7_back_22 : decode cX7_back 22 = .ok (.getfield 28, 3) := by decide +kernel
theorem dX7_back_25 : decode cX7_back 25 = .ok (.aload_n 0, 1) := by decide +kernel
theorem dX7_back_26 : decode cX7_back 26 = .ok (.getfield 47, 3) := by decide +kernel
theorem dX7_back_29 : decode cX7_back 29 = .ok (.aload_n 0, 1) := by decide +kernel
theorem dX7_back_30 : decode cX7_back 30 = .ok (.getfield 65, 3) := by decide +kernel
theorem dX7_back_33 : decode cX7_back 33 = .ok (.invokevirtual 226, 3) := by decide +kernel
theorem dX7_back_36 : decode cX7_back 36 = .ok (.invokevirtual 162, 3) := by decide +kernel
theorem dX7_back_39 : decode cX7_back 39 = .ok (.aload_n 0, 1) := by decide +kernel
theorem dX7_back_40 : decode cX7_back 40 = .ok (.getfield 38, 3) := by decide +kernel
theorem dX7_back_43 : decode cX7_back 43 = .ok (.iconst 0, 1) := by decide +kernel
theorem dX7_back_44 : decode cX7_back 44 = .ok (.putfield 155, 3) := by decide +kernel
theorem dX7_back_47 : decode cX7_back 47 = .ok (.aload_n 0, 1) := by decide +kernel
theorem dX7_back_48 : decode cX7_back 48 = .ok (.getfield 65, 3) := by decide +kernel
theorem dX7_back_51 : decode cX7_back 51 = .ok (.ireturn, 1) := by decide +kernel
theorem dX7_count_0 : decode cX7_count 0 = .ok (.iload_n 1, 1) := by decide +kernel
theorem dX7_count_1 : decode cX7_count 1 = .ok (.tableswitch 173 0 12 #[67, 75, 83, 91, 99, 108, 117, 128, 136, 144, 152, 160, 165], 67) := by decide +kernel
theorem dX7_count_68 : decode cX7_count 68 = .ok (.aload_n 0, 1) := by decide +kernel
theorem dX7_count_69 : decode cX7_count 69 = .ok (.getfield 10, 3) := by decide +kernel
theorem dX7_count_72 : decode cX7_count 72 = .ok (.getfield 229, 3) := by decide +kernel
theorem dX7_count_75 : decode cX7_count 75 = .ok (.ireturn, 1) := by decide +kernel
theorem dX7_count_76 : decode cX7_count 76 = .ok (.aload_n 0, 1) := by decide +kernel
theorem dX7_count_77 : decode cX7_count 77 = .ok (.getfield 10, 3) := by decide +kernel
theorem dX7_count_80 : decode cX7_count 80 = .ok (.getfield 232, 3) := by decide +kernel
theorem dX7_count_83 : decode cX7_count 83 = .ok (.ireturn, 1) := by decide +kernel
theorem dX7_count_84 : decode cX7_count 84 = .ok (.aload_n 0, 1) := by decide +kernel
theorem dX7_count_85 : decode cX7_count 85 = .ok (.getfield 10, 3) := by decide +kernel
theorem dX7_count_88 : decode cX7_count 88 = .ok (.getfield 94, 3) := by decide +kernel
theorem dX7_count_91 : decode cX7_count 91 = .ok (.ireturn, 1) := by decide +kernel
theorem dX7_count_92 : decode cX7_count 92 = .ok (.aload_n 0, 1) := by decide +kernel
theorem dX7_count_93 : decode cX7_count 93 = .ok (.getfield 28, 3) := by decide +kernel
theorem dX7_count_96 : decode cX7_count 96 = .ok (.getfield 152, 3) := by decide +kernel
theorem dX7_count_99 : decode cX7_count 99 = .ok (.ireturn, 1) := by decide +kernel
theorem dX7_count_100 : decode cX7_count 100 = .ok (.aload_n 0, 1) := by decide +kernel
theorem dX7_count_101 : decode cX7_count 101 = .ok (.getfield 28, 3) := by decide +kernel
theorem dX7_count_104 : decode cX7_count 104 = .ok (.iconst 0, 1) := by decide +kernel
theorem dX7_count_105 : decode cX7_count 105 = .ok (.invokevirtual 224, 3) := by decide +kernel
theorem dX7_count_108 : decode cX7_count 108 = .ok (.ireturn, 1) := by decide +kernel
theorem dX7_count_109 : decode cX7_count 109 = .ok (.aload_n 0, 1) := by decide +kernel
theorem dX7_count_110 : decode cX7_count 110 = .ok (.getfield 28, 3) := by decide +kernel
theorem dX7_count_113 : decode cX7_count 113 = .ok (.iconst 1, 1) := by decide +kernel
theorem dX7_count_114 : decode cX7_count 114 = .ok (.invokevirtual 224, 3) := by decide +kernel
theorem dX7_count_117 : decode cX7_count 117 = .ok (.ireturn, 1) := by decide +kernel
theorem dX7_count_118 : decode cX7_count 118 = .ok (.aload_n 0, 1) := by decide +kernel
theorem dX7_count_119 : decode cX7_count 119 = .ok (.getfield 28, 3) := by decide +kernel
theorem dX7_count_122 : decode cX7_count 122 = .ok (.invokevirtual 221, 3) := by decide +kernel
theorem dX7_count_125 : decode cX7_count 125 = .ok (.bipush 100, 2) := by decide +kernel
theorem dX7_count_127 : decode cX7_count 127 = .ok (.iadd, 1) := by decide +kernel
theorem dX7_count_128 : decode cX7_count 128 = .ok (.ireturn, 1) := by decide +kernel
theorem dX7_count_129 : decode cX7_count 129 = .ok (.aload_n 0, 1) := by decide +kernel
theorem dX7_count_130 : decode cX7_count 130 = .ok (.getfield 28, 3) := by decide +kernel
theorem dX7_count_133 : decode cX7_count 133 = .ok (.invokevirtual 139, 3) := by decide +kernel
theorem dX7_count_136 : decode cX7_count 136 = .ok (.ireturn, 1) := by decide +kernel
theorem dX7_count_137 : decode cX7_count 137 = .ok (.aload_n 0, 1) := by decide +kernel
theorem dX7_count_138 : decode cX7_count 138 = .ok (.getfield 28, 3) := by decide +kernel
theorem dX7_count_141 : decode cX7_count 141 = .ok (.invokevirtual 235, 3) := by decide +kernel
theorem dX7_count_144 : decode cX7_count 144 = .ok (.ireturn, 1) := by decide +kernel
theorem dX7_count_145 : decode cX7_count 145 = .ok (.aload_n 0, 1) := by decide +kernel
theorem dX7_count_146 : decode cX7_count 146 = .ok (.getfield 10, 3) := by decide +kernel
theorem dX7_count_149 : decode cX7_count 149 = .ok (.getfield 238, 3) := by decide +kernel
theorem dX7_count_152 : decode cX7_count 152 = .ok (.ireturn, 1) := by decide +kernel
theorem dX7_count_153 : decode cX7_count 153 = .ok (.aload_n 0, 1) := by decide +kernel
theorem dX7_count_154 : decode cX7_count 154 = .ok (.getfield 38, 3) := by decide +kernel
theorem dX7_count_157 : decode cX7_count 157 = .ok (.getfield 155, 3) := by decide +kernel
theorem dX7_count_160 : decode cX7_count 160 = .ok (.ireturn, 1) := by decide +kernel
theorem dX7_count_161 : decode cX7_count 161 = .ok (.aload_n 0, 1) := by decide +kernel
theorem dX7_count_162 : decode cX7_count 162 = .ok (.getfield 65, 3) := by decide +kernel
theorem dX7_count_165 : decode cX7_count 165 = .ok (.ireturn, 1) := by decide +kernel
theorem dX7_count_166 : decode cX7_count 166 = .ok (.aload_n 0, 1) := by decide +kernel
theorem dX7_count_167 : decode cX7_count 167 = .ok (.getfield 19, 3) := by decide +kernel
theorem dX7_count_170 : decode cX7_count 170 = .ok (.getfield 89, 3) := by decide +kernel
theorem dX7_count_173 : decode cX7_count 173 = .ok (.ireturn, 1) := by decide +kernel
theorem dX7_count_174 : decode cX7_count 174 = .ok (.iconst (-1), 1) := by decide +kernel
theorem dX7_count_175 : decode cX7_count 175 = .ok (.ireturn, 1) := by decide +kernel
theorem dX7_begin_0 : decode cX7_begin 0 = .ok (.aload_n 0, 1) := by decide +kernel
theorem dX7_begin_1 : decode cX7_begin 1 = .ok (.getfield 19, 3) := by decide +kernel
theorem dX7_begin_4 : decode cX7_begin 4 = .ok (.invokevirtual 91, 3) := by decide +kernel
theorem dX7_begin_7 : decode cX7_begin 7 = .ok (.bipush (-4), 2) := by decide +kernel
theorem dX7_begin_9 : decode cX7_begin 9 = .ok (.if_icmp .ne 17, 3) := by decide +kernel
theorem dX7_begin_12 : decode cX7_begin 12 = .ok (.aload_n 0, 1) := by decide +kernel
theorem dX7_begin_13 : decode cX7_begin 13 = .ok (.getfield 19, 3) := by decide +kernel
theorem dX7_begin_16 : decode cX7_begin 16 = .ok (.getfield 241, 3) := by decide +kernel
theorem dX7_begin_19 : decode cX7_begin 19 = .ok (.getfield 94, 3) := by decide +kernel
theorem dX7_begin_22 : decode cX7_begin 22 = .ok (.iconst 1, 1) := by decide +kernel
theorem dX7_begin_23 : decode cX7_begin 23 = .ok (.if_icmp .ge 5, 3) := by decide +kernel
theorem dX7_begin_26 : decode cX7_begin 26 = .ok (.iconst 0, 1) := by decide +kernel
theorem dX7_begin_27 : decode cX7_begin 27 = .ok (.ireturn, 1) := by decide +kernel
theorem dX7_begin_28 : decode cX7_begin 28 = .ok (.aload_n 0, 1) := by decide +kernel
theorem dX7_begin_29 : decode cX7_begin 29 = .ok (.getfield 10, 3) := by decide +kernel
theorem dX7_begin_32 : decode cX7_begin 32 = .ok (.aload_n 0, 1) := by decide +kernel
theorem dX7_begin_33 : decode cX7_begin 33 = .ok (.getfield 19, 3) := by decide +kernel
theorem dX7_begin_36 : decode cX7_begin 36 = .ok (.getfield 241, 3) := by decide +kernel
theorem dX7_begin_39 : decode cX7_begin 39 = .ok (.invokevirtual 242, 3) := by decide +kernel
theorem dX7_begin_42 : decode cX7_begin 42 = .ok (.aload_n 0, 1) := by decide +kernel
theorem dX7_begin_43 : decode cX7_begin 43 = .ok (.getfield 28, 3) := by decide +kernel
theorem dX7_begin_46 : decode cX7_begin 46 = .ok (.aload_n 0, 1) := by decide +kernel
theorem dX7_begin_47 : decode cX7_begin 47 = .ok (.getfield 19, 3) := by decide +kernel
theorem dX7_begin_50 : decode cX7_begin 50 = .ok (.getfield 244, 3) := by decide +kernel
theorem dX7_begin_53 : decode cX7_begin 53 = .ok (.invokevirtual 162, 3) := by decide +kernel
theorem dX7_begin_56 : decode cX7_begin 56 = .ok (.aload_n 0, 1) := by decide +kernel
theorem dX7_begin_57 : decode cX7_begin 57 = .ok (.getfield 38, 3) := by decide +kernel
theorem dX7_begin_60 : decode cX7_begin 60 = .ok (.iconst 0, 1) := by decide +kernel
theorem dX7_begin_61 : decode cX7_begin 61 = .ok (.putfield 155, 3) := by decide +kernel
theorem dX7_begin_64 : decode cX7_begin 64 = .ok (.aload_n 0, 1) := by decide +kernel
theorem dX7_begin_65 : decode cX7_begin 65 = .ok (.iconst 0, 1) := by decide +kernel
theorem dX7_begin_66 : decode cX7_begin 66 = .ok (.putfield 65, 3) := by decide +kernel
theorem dX7_begin_69 : decode cX7_begin 69 = .ok (.iconst 1, 1) := by decide +kernel
theorem dX7_begin_70 : decode cX7_begin 70 = .ok (.ireturn, 1) := by decide +kernel
theorem dX7_isWay_0 : decode cX7_isWay 0 = .ok (.iload_n 0, 1) := by decide +kernel
theorem dX7_isWay_1 : decode cX7_isWay 1 = .ok (.ifCond .lt 12, 3) := by decide +kernel
theorem dX7_isWay_4 : decode cX7_isWay 4 = .ok (.iload_n 0, 1) := by decide +kernel
theorem dX7_isWay_5 : decode cX7_isWay 5 = .ok (.iconst 4, 1) := by decide +kernel
theorem dX7_isWay_6 : decode cX7_isWay 6 = .ok (.if_icmp .ge 7, 3) := by decide +kernel
theorem dX7_isWay_9 : decode cX7_isWay 9 = .ok (.iconst 1, 1) := by decide +kernel
theorem dX7_isWay_10 : decode cX7_isWay 10 = .ok (.goto 4, 3) := by decide +kernel
theorem dX7_isWay_13 : decode cX7_isWay 13 = .ok (.iconst 0, 1) := by decide +kernel
theorem dX7_isWay_14 : decode cX7_isWay 14 = .ok (.ireturn, 1) := by decide +kernel
theorem dX7_isVillage_0 : decode cX7_isVillage 0 = .ok (.iload_n 0, 1) := by decide +kernel
theorem dX7_isVillage_1 : decode cX7_isVillage 1 = .ok (.ifCond .eq 8, 3) := by decide +kernel
theorem dX7_isVillage_4 : decode cX7_isVillage 4 = .ok (.iload_n 0, 1) := by decide +kernel
theorem dX7_isVillage_5 : decode cX7_isVillage 5 = .ok (.iconst 1, 1) := by decide +kernel
theorem dX7_isVillage_6 : decode cX7_isVillage 6 = .ok (.if_icmp .ne 7, 3) := by decide +kernel
theorem dX7_isVillage_9 : decode cX7_isVillage 9 = .ok (.iconst 1, 1) := by decide +kernel
theorem dX7_isVillage_10 : decode cX7_isVillage 10 = .ok (.goto 4, 3) := by decide +kernel
theorem dX7_isVillage_13 : decode cX7_isVillage 13 = .ok (.iconst 0, 1) := by decide +kernel
theorem dX7_isVillage_14 : decode cX7_isVillage 14 = .ok (.ireturn, 1) := by decide +kernel
theorem dX7_draw_0 : decode cX7_draw 0 = .ok (.ldc2_w 247, 3) := by decide +kernel
theorem dX7_draw_3 : decode cX7_draw 3 = .ok (.iload_n 0, 1) := by decide +kernel
theorem dX7_draw_4 : decode cX7_draw 4 = .ok (.i2l, 1) := by decide +kernel
theorem dX7_draw_5 : decode cX7_draw 5 = .ok (.lmul, 1) := by decide +kernel
theorem dX7_draw_6 : decode cX7_draw 6 = .ok (.ldc2_w 249, 3) := by decide +kernel
theorem dX7_draw_9 : decode cX7_draw 9 = .ok (.iload_n 1, 1) := by decide +kernel
theorem dX7_draw_10 : decode cX7_draw 10 = .ok (.i2l, 1) := by decide +kernel
theorem dX7_draw_11 : decode cX7_draw 11 = .ok (.lmul, 1) := by decide +kernel
theorem dX7_draw_12 : decode cX7_draw 12 = .ok (.ladd, 1) := by decide +kernel
theorem dX7_draw_13 : decode cX7_draw 13 = .ok (.lconst 1, 1) := by decide +kernel
theorem dX7_draw_14 : decode cX7_draw 14 = .ok (.ladd, 1) := by decide +kernel
theorem dX7_draw_15 : decode cX7_draw 15 = .ok (.lstore_n 2, 1) := by decide +kernel
theorem dX7_draw_16 : decode cX7_draw 16 = .ok (.lload_n 2, 1) := by decide +kernel
theorem dX7_draw_17 : decode cX7_draw 17 = .ok (.lload_n 2, 1) := by decide +kernel
theorem dX7_draw_18 : decode cX7_draw 18 = .ok (.lmul, 1) := by decide +kernel
theorem dX7_draw_19 : decode cX7_draw 19 = .ok (.ldc2_w 251, 3) := by decide +kernel
theorem dX7_draw_22 : decode cX7_draw 22 = .ok (.lrem, 1) := by decide +kernel
theorem dX7_draw_23 : decode cX7_draw 23 = .ok (.l2i, 1) := by decide +kernel
theorem dX7_draw_24 : decode cX7_draw 24 = .ok (.ireturn, 1) := by decide +kernel
theorem dX7_commonPart_0 : decode cX7_commonPart 0 = .ok (.lload_n 0, 1) := by decide +kernel
theorem dX7_commonPart_1 : decode cX7_commonPart 1 = .ok (.lstore 4, 2) := by decide +kernel
theorem dX7_commonPart_3 : decode cX7_commonPart 3 = .ok (.lload_n 2, 1) := by decide +kernel
theorem dX7_commonPart_4 : decode cX7_commonPart 4 = .ok (.lstore 6, 2) := by decide +kernel
theorem dX7_commonPart_6 : decode cX7_commonPart 6 = .ok (.iconst 0, 1) := by decide +kernel
theorem dX7_commonPart_7 : decode cX7_commonPart 7 = .ok (.istore 8, 2) := by decide +kernel
theorem dX7_commonPart_9 : decode cX7_commonPart 9 = .ok (.iload 8, 2) := by decide +kernel
theorem dX7_commonPart_11 : decode cX7_commonPart 11 = .ok (.bipush 100, 2) := by decide +kernel
theorem dX7_commonPart_13 : decode cX7_commonPart 13 = .ok (.if_icmp .ge 31, 3) := by decide +kernel
theorem dX7_commonPart_16 : decode cX7_commonPart 16 = .ok (.lload 6, 2) := by decide +kernel
theorem dX7_commonPart_18 : decode cX7_commonPart 18 = .ok (.lconst 0, 1) := by decide +kernel
theorem dX7_commonPart_19 : decode cX7_commonPart 19 = .ok (.lcmp, 1) := by decide +kernel
theorem dX7_commonPart_20 : decode cX7_commonPart 20 = .ok (.ifCond .eq 24, 3) := by decide +kernel
theorem dX7_commonPart_23 : decode cX7_commonPart 23 = .ok (.lload 4, 2) := by decide +kernel
theorem dX7_commonPart_25 : decode cX7_commonPart 25 = .ok (.lload 6, 2) := by decide +kernel
theorem dX7_commonPart_27 : decode cX7_commonPart 27 = .ok (.lrem, 1) := by decide +kernel
theorem dX7_commonPart_28 : decode cX7_commonPart 28 = .ok (.lstore 9, 2) := by decide +kernel
theorem dX7_commonPart_30 : decode cX7_commonPart 30 = .ok (.lload 6, 2) := by decide +kernel
theorem dX7_commonPart_32 : decode cX7_commonPart 32 = .ok (.lstore 4, 2) := by decide +kernel
theorem dX7_commonPart_34 : decode cX7_commonPart 34 = .ok (.lload 9, 2) := by decide +kernel
theorem dX7_commonPart_36 : decode cX7_commonPart 36 = .ok (.lstore 6, 2) := by decide +kernel
theorem dX7_commonPart_38 : decode cX7_commonPart 38 = .ok (.iinc 8 1, 3) := by decide +kernel
theorem dX7_commonPart_41 : decode cX7_commonPart 41 = .ok (.goto (-32), 3) := by decide +kernel
theorem dX7_commonPart_44 : decode cX7_commonPart 44 = .ok (.lload 4, 2) := by decide +kernel
theorem dX7_commonPart_46 : decode cX7_commonPart 46 = .ok (.lreturn, 1) := by decide +kernel
theorem dL_law_0 : decode cL_law 0 = .ok (.new 7, 3) := by decide +kernel
theorem dL_law_3 : decode cL_law 3 = .ok (.dup, 1) := by decide +kernel
theorem dL_law_4 : decode cL_law 4 = .ok (.invokespecial 9, 3) := by decide +kernel
theorem dL_law_7 : decode cL_law 7 = .ok (.astore_n 1, 1) := by decide +kernel
theorem dL_law_8 : decode cL_law 8 = .ok (.new 10, 3) := by decide +kernel
theorem dL_law_11 : decode cL_law 11 = .ok (.dup, 1) := by decide +kernel
theorem dL_law_12 : decode cL_law 12 = .ok (.invokespecial 12, 3) := by decide +kernel
theorem dL_law_15 : decode cL_law 15 = .ok (.astore_n 2, 1) := by decide +kernel
theorem dL_law_16 : decode cL_law 16 = .ok (.iconst 0, 1) := by decide +kernel
theorem dL_law_17 : decode cL_law 17 = .ok (.istore_n 3, 1) := by decide +kernel
theorem dL_law_18 : decode cL_law 18 = .ok (.iload_n 3, 1) := by decide +kernel
theorem dL_law_19 : decode cL_law 19 = .ok (.aload_n 0, 1) := by decide +kernel
theorem dL_law_20 : decode cL_law 20 = .ok (.arraylength, 1) := by decide +kernel
theorem dL_law_21 : decode cL_law 21 = .ok (.iconst 5, 1) := by decide +kernel
theorem dL_law_22 : decode cL_law 22 = .ok (.isub, 1) := by decide +kernel
theorem dL_law_23 : decode cL_law 23 = .ok (.if_icmp .gt 752, 3) := by decide +kernel
theorem dL_law_26 : decode cL_law 26 = .ok (.aload_n 0, 1) := by decide +kernel
theorem dL_law_27 : decode cL_law 27 = .ok (.iload_n 3, 1) := by decide +kernel
theorem dL_law_28 : decode cL_law 28 = .ok (.iaload, 1) := by decide +kernel
theorem dL_law_29 : decode cL_law 29 = .ok (.bipush 31, 2) := by decide +kernel
theorem dL_law_31 : decode cL_law 31 = .ok (.iand, 1) := by decide +kernel
theorem dL_law_32 : decode cL_law 32 = .ok (.tableswitch 737 0 22 #[108, 131, 144, 157, 170, 203, 236, 269, 302, 335, 348, 361, 404, 437, 470, 503, 526, 549, 592, 645, 688, 701, 714], 108) := by decide +kernel
theorem dL_law_140 : decode cL_law 140 = .ok (.aload_n 1, 1) := by decide +kernel
theorem dL_law_141 : decode cL_law 141 = .ok (.aload_n 0, 1) := by decide +kernel
theorem dL_law_142 : decode cL_law 142 = .ok (.iload_n 3, 1) := by decide +kernel
theorem dL_law_143 : decode cL_law 143 = .ok (.iconst 1, 1) := by decide +kernel
theorem dL_law_144 : decode cL_law 144 = .ok (.iadd, 1) := by decide +kernel
theorem dL_law_145 : decode cL_law 145 = .ok (.iaload, 1) := by decide +kernel
theorem dL_law_146 : decode cL_law 146 = .ok (.invokevirtual 13, 3) := by decide +kernel
theorem dL_law_149 : decode cL_law 149 = .ok (.aload_n 2, 1) := by decide +kernel
theorem dL_law_150 : decode cL_law 150 = .ok (.aload_n 0, 1) := by decide +kernel
theorem dL_law_151 : decode cL_law 151 = .ok (.iload_n 3, 1) := by decide +kernel
theorem dL_law_152 : decode cL_law 152 = .ok (.iconst 1, 1) := by decide +kernel
theorem dL_law_153 : decode cL_law 153 = .ok (.iadd, 1) := by decide +kernel
theorem dL_law_154 : decode cL_law 154 = .ok (.iaload, 1) := by decide +kernel
theorem dL_law_155 : decode cL_law 155 = .ok (.invokevirtual 17, 3) := by decide +kernel
theorem dL_law_158 : decode cL_law 158 = .ok (.if_icmp .eq 611, 3) := by decide +kernel
theorem dL_law_161 : decode cL_law 161 = .ok (.iconst 0, 1) := by decide +kernel
theorem dL_law_162 : decode cL_law 162 = .ok (.ireturn, 1) := by decide +kernel
theorem dL_law_163 : decode cL_law 163 = .ok (.aload_n 1, 1) := by decide +kernel
theorem dL_law_164 : decode cL_law 164 = .ok (.invokevirtual 18, 3) := by decide +kernel
theorem dL_law_167 : decode cL_law 167 = .ok (.aload_n 2, 1) := by decide +kernel
theorem dL_law_168 : decode cL_law 168 = .ok (.invokevirtual 22, 3) := by decide +kernel
theorem dL_law_171 : decode cL_law 171 = .ok (.if_icmp .eq 598, 3) := by decide +kernel
theorem dL_law_174 : decode cL_law 174 = .ok (.iconst 0, 1) := by decide +kernel
theorem dL_law_175 : decode cL_law 175 = .ok (.ireturn, 1) := by decide +kernel
theorem dL_law_176 : decode cL_law 176 = .ok (.aload_n 1, 1) := by decide +kernel
theorem dL_law_177 : decode cL_law 177 = .ok (.invokevirtual 23, 3) := by decide +kernel
theorem dL_law_180 : decode cL_law 180 = .ok (.aload_n 2, 1) := by decide +kernel
theorem dL_law_181 : decode cL_law 181 = .ok (.invokevirtual 26, 3) := by decide +kernel
theorem dL_law_184 : decode cL_law 184 = .ok (.if_icmp .eq 585, 3) := by decide +kernel
theorem dL_law_187 : decode cL_law 187 = .ok (.iconst 0, 1) := by decide +kernel
theorem dL_law_188 : decode cL_law 188 = .ok (.ireturn, 1) := by decide +kernel
theorem dL_law_189 : decode cL_law 189 = .ok (.aload_n 1, 1) := by decide +kernel
theorem dL_law_190 : decode cL_law 190 = .ok (.invokevirtual 27, 3) := by decide +kernel
theorem dL_law_193 : decode cL_law 193 = .ok (.aload_n 2, 1) := by decide +kernel
theorem dL_law_194 : decode cL_law 194 = .ok (.invokevirtual 30, 3) := by decide +kernel
theorem dL_law_197 : decode cL_law 197 = .ok (.if_icmp .eq 572, 3) := by decide +kernel
theorem dL_law_200 : decode cL_law 200 = .ok (.iconst 0, 1) := by decide +kernel
theorem dL_law_201 : decode cL_law 201 = .ok (.ireturn, 1) := by decide +kernel
theorem dL_law_202 : decode cL_law 202 = .ok (.aload_n 1, 1) := by decide +kernel
theorem dL_law_203 : decode cL_law 203 = .ok (.aload_n 0, 1) := by decide +kernel
theorem dL_law_204 : decode cL_law 204 = .ok (.iload_n 3, 1) := by decide +kernel
theorem dL_law_205 : decode cL_law 205 = .ok (.iconst 1, 1) := by decide +kernel
theorem dL_law_206 : decode cL_law 206 = .ok (.iadd, 1) := by decide +kernel
theorem dL_law_207 : decode cL_law 207 = .ok (.iaload, 1) := by decide +kernel
theorem dL_law_208 : decode cL_law 208 = .ok (.aload_n 0, 1) := by decide +kernel
theorem dL_law_209 : decode cL_law 209 = .ok (.iload_n 3, 1) := by decide +kernel
theorem dL_law_210 : decode cL_law 210 = .ok (.iconst 2, 1) := by decide +kernel
theorem dL_law_211 : decode cL_law 211 = .ok (.iadd, 1) := by decide +kernel
theorem dL_law_212 : decode cL_law 212 = .ok (.iaload, 1) := by decide +kernel
theorem dL_law_213 : decode cL_law 213 = .ok (.invokevirtual 31, 3) := by decide +kernel
theorem dL_law_216 : decode cL_law 216 = .ok (.aload_n 2, 1) := by decide +kernel
theorem dL_law_217 : decode cL_law 217 = .ok (.aload_n 0, 1) := by decide +kernel
theorem dL_law_218 : decode cL_law 218 = .ok (.iload_n 3, 1) := by decide +kernel
theorem dL_law_219 : decode cL_law 219 = .ok (.iconst 1, 1) := by decide +kernel
theorem dL_law_220 : decode cL_law 220 = .ok (.iadd, 1) := by decide +kernel
theorem dL_law_221 : decode cL_law 221 = .ok (.iaload, 1) := by decide +kernel
theorem dL_law_222 : decode cL_law 222 = .ok (.aload_n 0, 1) := by decide +kernel
theorem dL_law_223 : decode cL_law 223 = .ok (.iload_n 3, 1) := by decide +kernel
theorem dL_law_224 : decode cL_law 224 = .ok (.iconst 2, 1) := by decide +kernel
theorem dL_law_225 : decode cL_law 225 = .ok (.iadd, 1) := by decide +kernel
theorem dL_law_226 : decode cL_law 226 = .ok (.iaload, 1) := by decide +kernel
theorem dL_law_227 : decode cL_law 227 = .ok (.invokevirtual 35, 3) := by decide +kernel
theorem dL_law_230 : decode cL_law 230 = .ok (.if_icmp .eq 539, 3) := by decide +kernel
theorem dL_law_233 : decode cL_law 233 = .ok (.iconst 0, 1) := by decide +kernel
theorem dL_law_234 : decode cL_law 234 = .ok (.ireturn, 1) := by decide +kernel
theorem dL_law_235 : decode cL_law 235 = .ok (.aload_n 1, 1) := by decide +kernel
theorem dL_law_236 : decode cL_law 236 = .ok (.aload_n 0, 1) := by decide +kernel
theorem dL_law_237 : decode cL_law 237 = .ok (.iload_n 3, 1) := by decide +kernel
theorem dL_law_238 : decode cL_law 238 = .ok (.iconst 1, 1) := by decide +kernel
theorem dL_law_239 : decode cL_law 239 = .ok (.iadd, 1) := by decide +kernel
theorem dL_law_240 : decode cL_law 240 = .ok (.iaload, 1) := by decide +kernel
theorem dL_law_241 : decode cL_law 241 = .ok (.aload_n 0, 1) := by decide +kernel
theorem dL_law_242 : decode cL_law 242 = .ok (.iload_n 3, 1) := by decide +kernel
theorem dL_law_243 : decode cL_law 243 = .ok (.iconst 2, 1) := by decide +kernel
theorem dL_law_244 : decode cL_law 244 = .ok (.iadd, 1) := by decide +kernel
theorem dL_law_245 : decode cL_law 245 = .ok (.iaload, 1) := by decide +kernel
theorem dL_law_246 : decode cL_law 246 = .ok (.invokevirtual 36, 3) := by decide +kernel
theorem dL_law_249 : decode cL_law 249 = .ok (.aload_n 2, 1) := by decide +kernel
theorem dL_law_250 : decode cL_law 250 = .ok (.aload_n 0, 1) := by decide +kernel
theorem dL_law_251 : decode cL_law 251 = .ok (.iload_n 3, 1) := by decide +kernel
theorem dL_law_252 : decode cL_law 252 = .ok (.iconst 1, 1) := by decide +kernel
theorem dL_law_253 : decode cL_law 253 = .ok (.iadd, 1) := by decide +kernel
theorem dL_law_254 : decode cL_law 254 = .ok (.iaload, 1) := by decide +kernel
theorem dL_law_255 : decode cL_law 255 = .ok (.aload_n 0, 1) := by decide +kernel
theorem dL_law_256 : decode cL_law 256 = .ok (.iload_n 3, 1) := by decide +kernel
theorem dL_law_257 : decode cL_law 257 = .ok (.iconst 2, 1) := by decide +kernel
theorem dL_law_258 : decode cL_law 258 = .ok (.iadd, 1) := by decide +kernel
theorem dL_law_259 : decode cL_law 259 = .ok (.iaload, 1) := by decide +kernel
theorem dL_law_260 : decode cL_law 260 = .ok (.invokevirtual 39, 3) := by decide +kernel
theorem dL_law_263 : decode cL_law 263 = .ok (.if_icmp .eq 506, 3) := by decide +kernel
theorem dL_law_266 : decode cL_law 266 = .ok (.iconst 0, 1) := by decide +kernel
theorem dL_law_267 : decode cL_law 267 = .ok (.ireturn, 1) := by decide +kernel
theorem dL_law_268 : decode cL_law 268 = .ok (.aload_n 1, 1) := by decide +kernel
theorem dL_law_269 : decode cL_law 269 = .ok (.aload_n 0, 1) := by decide +kernel
theorem dL_law_270 : decode cL_law 270 = .ok (.iload_n 3, 1) := by decide +kernel
theorem dL_law_271 : decode cL_law 271 = .ok (.iconst 1, 1) := by decide +kernel
theorem dL_law_272 : decode cL_law 272 = .ok (.iadd, 1) := by decide +kernel
theorem dL_law_273 : decode cL_law 273 = .ok (.iaload, 1) := by decide +kernel
theorem dL_law_274 : decode cL_law 274 = .ok (.aload_n 0, 1) := by decide +kernel
theorem dL_law_275 : decode cL_law 275 = .ok (.iload_n 3, 1) := by decide +kernel
theorem dL_law_276 : decode cL_law 276 = .ok (.iconst 2, 1) := by decide +kernel
theorem dL_law_277 : decode cL_law 277 = .ok (.iadd, 1) := by decide +kernel
theorem dL_law_278 : decode cL_law 278 = .ok (.iaload, 1) := by decide +kernel
theorem dL_law_279 : decode cL_law 279 = .ok (.invokevirtual 40, 3) := by decide +kernel
theorem dL_law_282 : decode cL_law 282 = .ok (.aload_n 2, 1) := by decide +kernel
theorem dL_law_283 : decode cL_law 283 = .ok (.aload_n 0, 1) := by decide +kernel
theorem dL_law_284 : decode cL_law 284 = .ok (.iload_n 3, 1) := by decide +kernel
theorem dL_law_285 : decode cL_law 285 = .ok (.iconst 1, 1) := by decide +kernel
theorem dL_law_286 : decode cL_law 286 = .ok (.iadd, 1) := by decide +kernel
theorem dL_law_287 : decode cL_law 287 = .ok (.iaload, 1) := by decide +kernel
theorem dL_law_288 : decode cL_law 288 = .ok (.aload_n 0, 1) := by decide +kernel
theorem dL_law_289 : decode cL_law 289 = .ok (.iload_n 3, 1) := by decide +kernel
theorem dL_law_290 : decode cL_law 290 = .ok (.iconst 2, 1) := by decide +kernel
theorem dL_law_291 : decode cL_law 291 = .ok (.iadd, 1) := by decide +kernel
theorem dL_law_292 : decode cL_law 292 = .ok (.iaload, 1) := by decide +kernel
theorem dL_law_293 : decode cL_law 293 = .ok (.invokevirtual 43, 3) := by decide +kernel
theorem dL_law_296 : decode cL_law 296 = .ok (.if_icmp .eq 473, 3) := by decide +kernel
theorem dL_law_299 : decode cL_law 299 = .ok (.iconst 0, 1) := by decide +kernel
theorem dL_law_300 : decode cL_law 300 = .ok (.ireturn, 1) := by decide +kernel
theorem dL_law_301 : decode cL_law 301 = .ok (.aload_n 1, 1) := by decide +kernel
theorem dL_law_302 : decode cL_law 302 = .ok (.aload_n 0, 1) := by decide +kernel
theorem dL_law_303 : decode cL_law 303 = .ok (.iload_n 3, 1) := by decide +kernel
theorem dL_law_304 : decode cL_law 304 = .ok (.iconst 1, 1) := by decide +kernel
theorem dL_law_305 : decode cL_law 305 = .ok (.iadd, 1) := by decide +kernel
theorem dL_law_306 : decode cL_law 306 = .ok (.iaload, 1) := by decide +kernel
theorem dL_law_307 : decode cL_law 307 = .ok (.aload_n 0, 1) := by decide +kernel
theorem dL_law_308 : decode cL_law 308 = .ok (.iload_n 3, 1) := by decide +kernel
theorem dL_law_309 : decode cL_law 309 = .ok (.iconst 2, 1) := by decide +kernel
theorem dL_law_310 : decode cL_law 310 = .ok (.iadd, 1) := by decide +kernel
theorem dL_law_311 : decode cL_law 311 = .ok (.iaload, 1) := by decide +kernel
theorem dL_law_312 : decode cL_law 312 = .ok (.invokevirtual 44, 3) := by decide +kernel
theorem dL_law_315 : decode cL_law 315 = .ok (.aload_n 2, 1) := by decide +kernel
theorem dL_law_316 : decode cL_law 316 = .ok (.aload_n 0, 1) := by decide +kernel
theorem dL_law_317 : decode cL_law 317 = .ok (.iload_n 3, 1) := by decide +kernel
theorem dL_law_318 : decode cL_law 318 = .ok (.iconst 1, 1) := by decide +kernel
theorem dL_law_319 : decode cL_law 319 = .ok (.iadd, 1) := by decide +kernel
theorem dL_law_320 : decode cL_law 320 = .ok (.iaload, 1) := by decide +kernel
theorem dL_law_321 : decode cL_law 321 = .ok (.aload_n 0, 1) := by decide +kernel
theorem dL_law_322 : decode cL_law 322 = .ok (.iload_n 3, 1) := by decide +kernel
theorem dL_law_323 : decode cL_law 323 = .ok (.iconst 2, 1) := by decide +kernel
theorem dL_law_324 : decode cL_law 324 = .ok (.iadd, 1) := by decide +kernel
theorem dL_law_325 : decode cL_law 325 = .ok (.iaload, 1) := by decide +kernel
theorem dL_law_326 : decode cL_law 326 = .ok (.invokevirtual 47, 3) := by decide +kernel
theorem dL_law_329 : decode cL_law 329 = .ok (.if_icmp .eq 440, 3) := by decide +kernel
theorem dL_law_332 : decode cL_law 332 = .ok (.iconst 0, 1) := by decide +kernel
theorem dL_law_333 : decode cL_law 333 = .ok (.ireturn, 1) := by decide +kernel
theorem dL_law_334 : decode cL_law 334 = .ok (.aload_n 1, 1) := by decide +kernel
theorem dL_law_335 : decode cL_law 335 = .ok (.aload_n 0, 1) := by decide +kernel
theorem dL_law_336 : decode cL_law 336 = .ok (.iload_n 3, 1) := by decide +kernel
theorem dL_law_337 : decode cL_law 337 = .ok (.iconst 1, 1) := by decide +kernel
theorem dL_law_338 : decode cL_law 338 = .ok (.iadd, 1) := by decide +kernel
theorem dL_law_339 : decode cL_law 339 = .ok (.iaload, 1) := by decide +kernel
theorem dL_law_340 : decode cL_law 340 = .ok (.aload_n 0, 1) := by decide +kernel
theorem dL_law_341 : decode cL_law 341 = .ok (.iload_n 3, 1) := by decide +kernel
theorem dL_law_342 : decode cL_law 342 = .ok (.iconst 2, 1) := by decide +kernel
theorem dL_law_343 : decode cL_law 343 = .ok (.iadd, 1) := by decide +kernel
theorem dL_law_344 : decode cL_law 344 = .ok (.iaload, 1) := by decide +kernel
theorem dL_law_345 : decode cL_law 345 = .ok (.invokevirtual 48, 3) := by decide +kernel
theorem dL_law_348 : decode cL_law 348 = .ok (.aload_n 2, 1) := by decide +kernel
theorem dL_law_349 : decode cL_law 349 = .ok (.aload_n 0, 1) := by decide +kernel
theorem dL_law_350 : decode cL_law 350 = .ok (.iload_n 3, 1) := by decide +kernel
theorem dL_law_351 : decode cL_law 351 = .ok (.iconst 1, 1) := by decide +kernel
theorem dL_law_352 : decode cL_law 352 = .ok (.iadd, 1) := by decide +kernel
theorem dL_law_353 : decode cL_law 353 = .ok (.iaload, 1) := by decide +kernel
theorem dL_law_354 : decode cL_law 354 = .ok (.aload_n 0, 1) := by decide +kernel
theorem dL_law_355 : decode cL_law 355 = .ok (.iload_n 3, 1) := by decide +kernel
theorem dL_law_356 : decode cL_law 356 = .ok (.iconst 2, 1) := by decide +kernel
theorem dL_law_357 : decode cL_law 357 = .ok (.iadd, 1) := by decide +kernel
theorem dL_law_358 : decode cL_law 358 = .ok (.iaload, 1) := by decide +kernel
theorem dL_law_359 : decode cL_law 359 = .ok (.invokevirtual 51, 3) := by decide +kernel
theorem dL_law_362 : decode cL_law 362 = .ok (.if_icmp .eq 407, 3) := by decide +kernel
theorem dL_law_365 : decode cL_law 365 = .ok (.iconst 0, 1) := by decide +kernel
theorem dL_law_366 : decode cL_law 366 = .ok (.ireturn, 1) := by decide +kernel
theorem dL_law_367 : decode cL_law 367 = .ok (.aload_n 1, 1) := by decide +kernel
theorem dL_law_368 : decode cL_law 368 = .ok (.invokevirtual 52, 3) := by decide +kernel
theorem dL_law_371 : decode cL_law 371 = .ok (.aload_n 2, 1) := by decide +kernel
theorem dL_law_372 : decode cL_law 372 = .ok (.invokevirtual 55, 3) := by decide +kernel
theorem dL_law_375 : decode cL_law 375 = .ok (.if_icmp .eq 394, 3) := by decide +kernel
theorem dL_law_378 : decode cL_law 378 = .ok (.iconst 0, 1) := by decide +kernel
theorem dL_law_379 : decode cL_law 379 = .ok (.ireturn, 1) := by decide +kernel
theorem dL_law_380 : decode cL_law 380 = .ok (.aload_n 1, 1) := by decide +kernel
theorem dL_law_381 : decode cL_law 381 = .ok (.invokevirtual 56, 3) := by decide +kernel
theorem dL_law_384 : decode cL_law 384 = .ok (.aload_n 2, 1) := by decide +kernel
theorem dL_law_385 : decode cL_law 385 = .ok (.invokevirtual 59, 3) := by decide +kernel
theorem dL_law_388 : decode cL_law 388 = .ok (.if_icmp .eq 381, 3) := by decide +kernel
theorem dL_law_391 : decode cL_law 391 = .ok (.iconst 0, 1) := by decide +kernel
theorem dL_law_392 : decode cL_law 392 = .ok (.ireturn, 1) := by decide +kernel
theorem dL_law_393 : decode cL_law 393 = .ok (.aload_n 1, 1) := by decide +kernel
theorem dL_law_394 : decode cL_law 394 = .ok (.aload_n 0, 1) := by decide +kernel
theorem dL_law_395 : decode cL_law 395 = .ok (.iload_n 3, 1) := by decide +kernel
theorem dL_law_396 : decode cL_law 396 = .ok (.iconst 1, 1) := by decide +kernel
theorem dL_law_397 : decode cL_law 397 = .ok (.iadd, 1) := by decide +kernel
theorem dL_law_398 : decode cL_law 398 = .ok (.iaload, 1) := by decide +kernel
theorem dL_law_399 : decode cL_law 399 = .ok (.aload_n 0, 1) := by decide +kernel
theorem dL_law_400 : decode cL_law 400 = .ok (.iload_n 3, 1) := by decide +kernel
theorem dL_law_401 : decode cL_law 401 = .ok (.iconst 2, 1) := by decide +kernel
theorem dL_law_402 : decode cL_law 402 = .ok (.iadd, 1) := by decide +kernel
theorem dL_law_403 : decode cL_law 403 = .ok (.iaload, 1) := by decide +kernel
theorem dL_law_404 : decode cL_law 404 = .ok (.aload_n 0, 1) := by decide +kernel
theorem dL_law_405 : decode cL_law 405 = .ok (.iload_n 3, 1) := by decide +kernel
theorem dL_law_406 : decode cL_law 406 = .ok (.iconst 3, 1) := by decide +kernel
theorem dL_law_407 : decode cL_law 407 = .ok (.iadd, 1) := by decide +kernel
theorem dL_law_408 : decode cL_law 408 = .ok (.iaload, 1) := by decide +kernel
theorem dL_law_409 : decode cL_law 409 = .ok (.invokevirtual 60, 3) := by decide +kernel
theorem dL_law_412 : decode cL_law 412 = .ok (.aload_n 2, 1) := by decide +kernel
theorem dL_law_413 : decode cL_law 413 = .ok (.aload_n 0, 1) := by decide +kernel
theorem dL_law_414 : decode cL_law 414 = .ok (.iload_n 3, 1) := by decide +kernel
theorem dL_law_415 : decode cL_law 415 = .ok (.iconst 1, 1) := by decide +kernel
theorem dL_law_416 : decode cL_law 416 = .ok (.iadd, 1) := by decide +kernel
theorem dL_law_417 : decode cL_law 417 = .ok (.iaload, 1) := by decide +kernel
theorem dL_law_418 : decode cL_law 418 = .ok (.aload_n 0, 1) := by decide +kernel
theorem dL_law_419 : decode cL_law 419 = .ok (.iload_n 3, 1) := by decide +kernel
theorem dL_law_420 : decode cL_law 420 = .ok (.iconst 2, 1) := by decide +kernel
theorem dL_law_421 : decode cL_law 421 = .ok (.iadd, 1) := by decide +kernel
theorem dL_law_422 : decode cL_law 422 = .ok (.iaload, 1) := by decide +kernel
theorem dL_law_423 : decode cL_law 423 = .ok (.aload_n 0, 1) := by decide +kernel
theorem dL_law_424 : decode cL_law 424 = .ok (.iload_n 3, 1) := by decide +kernel
theorem dL_law_425 : decode cL_law 425 = .ok (.iconst 3, 1) := by decide +kernel
theorem dL_law_426 : decode cL_law 426 = .ok (.iadd, 1) := by decide +kernel
theorem dL_law_427 : decode cL_law 427 = .ok (.iaload, 1) := by decide +kernel
theorem dL_law_428 : decode cL_law 428 = .ok (.invokevirtual 64, 3) := by decide +kernel
theorem dL_law_431 : decode cL_law 431 = .ok (.if_icmp .eq 338, 3) := by decide +kernel
theorem dL_law_434 : decode cL_law 434 = .ok (.iconst 0, 1) := by decide +kernel
theorem dL_law_435 : decode cL_law 435 = .ok (.ireturn, 1) := by decide +kernel
theorem dL_law_436 : decode cL_law 436 = .ok (.aload_n 1, 1) := by decide +kernel
theorem dL_law_437 : decode cL_law 437 = .ok (.aload_n 0, 1) := by decide +kernel
theorem dL_law_438 : decode cL_law 438 = .ok (.iload_n 3, 1) := by decide +kernel
theorem dL_law_439 : decode cL_law 439 = .ok (.iconst 1, 1) := by decide +kernel
theorem dL_law_440 : decode cL_law 440 = .ok (.iadd, 1) := by decide +kernel
theorem dL_law_441 : decode cL_law 441 = .ok (.iaload, 1) := by decide +kernel
theorem dL_law_442 : decode cL_law 442 = .ok (.aload_n 0, 1) := by decide +kernel
theorem dL_law_443 : decode cL_law 443 = .ok (.iload_n 3, 1) := by decide +kernel
theorem dL_law_444 : decode cL_law 444 = .ok (.iconst 2, 1) := by decide +kernel
theorem dL_law_445 : decode cL_law 445 = .ok (.iadd, 1) := by decide +kernel
theorem dL_law_446 : decode cL_law 446 = .ok (.iaload, 1) := by decide +kernel
theorem dL_law_447 : decode cL_law 447 = .ok (.invokevirtual 65, 3) := by decide +kernel
theorem dL_law_450 : decode cL_law 450 = .ok (.aload_n 2, 1) := by decide +kernel
theorem dL_law_451 : decode cL_law 451 = .ok (.aload_n 0, 1) := by decide +kernel
theorem dL_law_452 : decode cL_law 452 = .ok (.iload_n 3, 1) := by decide +kernel
theorem dL_law_453 : decode cL_law 453 = .ok (.iconst 1, 1) := by decide +kernel
theorem dL_law_454 : decode cL_law 454 = .ok (.iadd, 1) := by decide +kernel
theorem dL_law_455 : decode cL_law 455 = .ok (.iaload, 1) := by decide +kernel
theorem dL_law_456 : decode cL_law 456 = .ok (.aload_n 0, 1) := by decide +kernel
theorem dL_law_457 : decode cL_law 457 = .ok (.iload_n 3, 1) := by decide +kernel
theorem dL_law_458 : decode cL_law 458 = .ok (.iconst 2, 1) := by decide +kernel
theorem dL_law_459 : decode cL_law 459 = .ok (.iadd, 1) := by decide +kernel
theorem dL_law_460 : decode cL_law 460 = .ok (.iaload, 1) := by decide +kernel
theorem dL_law_461 : decode cL_law 461 = .ok (.invokevirtual 68, 3) := by decide +kernel
theorem dL_law_464 : decode cL_law 464 = .ok (.if_icmp .eq 305, 3) := by decide +kernel
theorem dL_law_467 : decode cL_law 467 = .ok (.iconst 0, 1) := by decide +kernel
theorem dL_law_468 : decode cL_law 468 = .ok (.ireturn, 1) := by decide +kernel
theorem dL_law_469 : decode cL_law 469 = .ok (.aload_n 1, 1) := by decide +kernel
theorem dL_law_470 : decode cL_law 470 = .ok (.aload_n 0, 1) := by decide +kernel
theorem dL_law_471 : decode cL_law 471 = .ok (.iload_n 3, 1) := by decide +kernel
theorem dL_law_472 : decode cL_law 472 = .ok (.iconst 1, 1) := by decide +kernel
theorem dL_law_473 : decode cL_law 473 = .ok (.iadd, 1) := by decide +kernel
theorem dL_law_474 : decode cL_law 474 = .ok (.iaload, 1) := by decide +kernel
theorem dL_law_475 : decode cL_law 475 = .ok (.aload_n 0, 1) := by decide +kernel
theorem dL_law_476 : decode cL_law 476 = .ok (.iload_n 3, 1) := by decide +kernel
theorem dL_law_477 : decode cL_law 477 = .ok (.iconst 2, 1) := by decide +kernel
theorem dL_law_478 : decode cL_law 478 = .ok (.iadd, 1) := by decide +kernel
theorem dL_law_479 : decode cL_law 479 = .ok (.iaload, 1) := by decide +kernel
theorem dL_law_480 : decode cL_law 480 = .ok (.invokevirtual 69, 3) := by decide +kernel
theorem dL_law_483 : decode cL_law 483 = .ok (.aload_n 2, 1) := by decide +kernel
theorem dL_law_484 : decode cL_law 484 = .ok (.aload_n 0, 1) := by decide +kernel
theorem dL_law_485 : decode cL_law 485 = .ok (.iload_n 3, 1) := by decide +kernel
theorem dL_law_486 : decode cL_law 486 = .ok (.iconst 1, 1) := by decide +kernel
theorem dL_law_487 : decode cL_law 487 = .ok (.iadd, 1) := by decide +kernel
theorem dL_law_488 : decode cL_law 488 = .ok (.iaload, 1) := by decide +kernel
theorem dL_law_489 : decode cL_law 489 = .ok (.aload_n 0, 1) := by decide +kernel
theorem dL_law_490 : decode cL_law 490 = .ok (.iload_n 3, 1) := by decide +kernel
theorem dL_law_491 : decode cL_law 491 = .ok (.iconst 2, 1) := by decide +kernel
theorem dL_law_492 : decode cL_law 492 = .ok (.iadd, 1) := by decide +kernel
theorem dL_law_493 : decode cL_law 493 = .ok (.iaload, 1) := by decide +kernel
theorem dL_law_494 : decode cL_law 494 = .ok (.invokevirtual 72, 3) := by decide +kernel
theorem dL_law_497 : decode cL_law 497 = .ok (.if_icmp .eq 272, 3) := by decide +kernel
theorem dL_law_500 : decode cL_law 500 = .ok (.iconst 0, 1) := by decide +kernel
theorem dL_law_501 : decode cL_law 501 = .ok (.ireturn, 1) := by decide +kernel
theorem dL_law_502 : decode cL_law 502 = .ok (.aload_n 1, 1) := by decide +kernel
theorem dL_law_503 : decode cL_law 503 = .ok (.aload_n 0, 1) := by decide +kernel
theorem dL_law_504 : decode cL_law 504 = .ok (.iload_n 3, 1) := by decide +kernel
theorem dL_law_505 : decode cL_law 505 = .ok (.iconst 1, 1) := by decide +kernel
theorem dL_law_506 : decode cL_law 506 = .ok (.iadd, 1) := by decide +kernel
theorem dL_law_507 : decode cL_law 507 = .ok (.iaload, 1) := by decide +kernel
theorem dL_law_508 : decode cL_law 508 = .ok (.aload_n 0, 1) := by decide +kernel
theorem dL_law_509 : decode cL_law 509 = .ok (.iload_n 3, 1) := by decide +kernel
theorem dL_law_510 : decode cL_law 510 = .ok (.iconst 2, 1) := by decide +kernel
theorem dL_law_511 : decode cL_law 511 = .ok (.iadd, 1) := by decide +kernel
theorem dL_law_512 : decode cL_law 512 = .ok (.iaload, 1) := by decide +kernel
theorem dL_law_513 : decode cL_law 513 = .ok (.invokevirtual 73, 3) := by decide +kernel
theorem dL_law_516 : decode cL_law 516 = .ok (.aload_n 2, 1) := by decide +kernel
theorem dL_law_517 : decode cL_law 517 = .ok (.aload_n 0, 1) := by decide +kernel
theorem dL_law_518 : decode cL_law 518 = .ok (.iload_n 3, 1) := by decide +kernel
theorem dL_law_519 : decode cL_law 519 = .ok (.iconst 1, 1) := by decide +kernel
theorem dL_law_520 : decode cL_law 520 = .ok (.iadd, 1) := by decide +kernel
theorem dL_law_521 : decode cL_law 521 = .ok (.iaload, 1) := by decide +kernel
theorem dL_law_522 : decode cL_law 522 = .ok (.aload_n 0, 1) := by decide +kernel
theorem dL_law_523 : decode cL_law 523 = .ok (.iload_n 3, 1) := by decide +kernel
theorem dL_law_524 : decode cL_law 524 = .ok (.iconst 2, 1) := by decide +kernel
theorem dL_law_525 : decode cL_law 525 = .ok (.iadd, 1) := by decide +kernel
theorem dL_law_526 : decode cL_law 526 = .ok (.iaload, 1) := by decide +kernel
theorem dL_law_527 : decode cL_law 527 = .ok (.invokevirtual 76, 3) := by decide +kernel
theorem dL_law_530 : decode cL_law 530 = .ok (.if_icmp .eq 239, 3) := by decide +kernel
theorem dL_law_533 : decode cL_law 533 = .ok (.iconst 0, 1) := by decide +kernel
theorem dL_law_534 : decode cL_law 534 = .ok (.ireturn, 1) := by decide +kernel
theorem dL_law_535 : decode cL_law 535 = .ok (.aload_n 1, 1) := by decide +kernel
theorem dL_law_536 : decode cL_law 536 = .ok (.aload_n 0, 1) := by decide +kernel
theorem dL_law_537 : decode cL_law 537 = .ok (.iload_n 3, 1) := by decide +kernel
theorem dL_law_538 : decode cL_law 538 = .ok (.iconst 1, 1) := by decide +kernel
theorem dL_law_539 : decode cL_law 539 = .ok (.iadd, 1) := by decide +kernel
theorem dL_law_540 : decode cL_law 540 = .ok (.iaload, 1) := by decide +kernel
theorem dL_law_541 : decode cL_law 541 = .ok (.invokevirtual 77, 3) := by decide +kernel
theorem dL_law_544 : decode cL_law 544 = .ok (.aload_n 2, 1) := by decide +kernel
theorem dL_law_545 : decode cL_law 545 = .ok (.aload_n 0, 1) := by decide +kernel
theorem dL_law_546 : decode cL_law 546 = .ok (.iload_n 3, 1) := by decide +kernel
theorem dL_law_547 : decode cL_law 547 = .ok (.iconst 1, 1) := by decide +kernel
theorem dL_law_548 : decode cL_law 548 = .ok (.iadd, 1) := by decide +kernel
theorem dL_law_549 : decode cL_law 549 = .ok (.iaload, 1) := by decide +kernel
theorem dL_law_550 : decode cL_law 550 = .ok (.invokevirtual 80, 3) := by decide +kernel
theorem dL_law_553 : decode cL_law 553 = .ok (.if_icmp .eq 216, 3) := by decide +kernel
theorem dL_law_556 : decode cL_law 556 = .ok (.iconst 0, 1) := by decide +kernel
theorem dL_law_557 : decode cL_law 557 = .ok (.ireturn, 1) := by decide +kernel
theorem dL_law_558 : decode cL_law 558 = .ok (.aload_n 1, 1) := by decide +kernel
theorem dL_law_559 : decode cL_law 559 = .ok (.aload_n 0, 1) := by decide +kernel
theorem dL_law_560 : decode cL_law 560 = .ok (.iload_n 3, 1) := by decide +kernel
theorem dL_law_561 : decode cL_law 561 = .ok (.iconst 1, 1) := by decide +kernel
theorem dL_law_562 : decode cL_law 562 = .ok (.iadd, 1) := by decide +kernel
theorem dL_law_563 : decode cL_law 563 = .ok (.iaload, 1) := by decide +kernel
theorem dL_law_564 : decode cL_law 564 = .ok (.invokevirtual 81, 3) := by decide +kernel
theorem dL_law_567 : decode cL_law 567 = .ok (.aload_n 2, 1) := by decide +kernel
theorem dL_law_568 : decode cL_law 568 = .ok (.aload_n 0, 1) := by decide +kernel
theorem dL_law_569 : decode cL_law 569 = .ok (.iload_n 3, 1) := by decide +kernel
theorem dL_law_570 : decode cL_law 570 = .ok (.iconst 1, 1) := by decide +kernel
theorem dL_law_571 : decode cL_law 571 = .ok (.iadd, 1) := by decide +kernel
theorem dL_law_572 : decode cL_law 572 = .ok (.iaload, 1) := by decide +kernel
theorem dL_law_573 : decode cL_law 573 = .ok (.invokevirtual 84, 3) := by decide +kernel
theorem dL_law_576 : decode cL_law 576 = .ok (.if_icmp .eq 193, 3) := by decide +kernel
theorem dL_law_579 : decode cL_law 579 = .ok (.iconst 0, 1) := by decide +kernel
theorem dL_law_580 : decode cL_law 580 = .ok (.ireturn, 1) := by decide +kernel
theorem dL_law_581 : decode cL_law 581 = .ok (.aload_n 1, 1) := by decide +kernel
theorem dL_law_582 : decode cL_law 582 = .ok (.aload_n 0, 1) := by decide +kernel
theorem dL_law_583 : decode cL_law 583 = .ok (.iload_n 3, 1) := by decide +kernel
theorem dL_law_584 : decode cL_law 584 = .ok (.iconst 1, 1) := by decide +kernel
theorem dL_law_585 : decode cL_law 585 = .ok (.iadd, 1) := by decide +kernel
theorem dL_law_586 : decode cL_law 586 = .ok (.iaload, 1) := by decide +kernel
theorem dL_law_587 : decode cL_law 587 = .ok (.aload_n 0, 1) := by decide +kernel
theorem dL_law_588 : decode cL_law 588 = .ok (.iload_n 3, 1) := by decide +kernel
theorem dL_law_589 : decode cL_law 589 = .ok (.iconst 2, 1) := by decide +kernel
theorem dL_law_590 : decode cL_law 590 = .ok (.iadd, 1) := by decide +kernel
theorem dL_law_591 : decode cL_law 591 = .ok (.iaload, 1) := by decide +kernel
theorem dL_law_592 : decode cL_law 592 = .ok (.aload_n 0, 1) := by decide +kernel
theorem dL_law_593 : decode cL_law 593 = .ok (.iload_n 3, 1) := by decide +kernel
theorem dL_law_594 : decode cL_law 594 = .ok (.iconst 3, 1) := by decide +kernel
theorem dL_law_595 : decode cL_law 595 = .ok (.iadd, 1) := by decide +kernel
theorem dL_law_596 : decode cL_law 596 = .ok (.iaload, 1) := by decide +kernel
theorem dL_law_597 : decode cL_law 597 = .ok (.invokevirtual 85, 3) := by decide +kernel
theorem dL_law_600 : decode cL_law 600 = .ok (.aload_n 2, 1) := by decide +kernel
theorem dL_law_601 : decode cL_law 601 = .ok (.aload_n 0, 1) := by decide +kernel
theorem dL_law_602 : decode cL_law 602 = .ok (.iload_n 3, 1) := by decide +kernel
theorem dL_law_603 : decode cL_law 603 = .ok (.iconst 1, 1) := by decide +kernel
theorem dL_law_604 : decode cL_law 604 = .ok (.iadd, 1) := by decide +kernel
theorem dL_law_605 : decode cL_law 605 = .ok (.iaload, 1) := by decide +kernel
theorem dL_law_606 : decode cL_law 606 = .ok (.aload_n 0, 1) := by decide +kernel
theorem dL_law_607 : decode cL_law 607 = .ok (.iload_n 3, 1) := by decide +kernel
theorem dL_law_608 : decode cL_law 608 = .ok (.iconst 2, 1) := by decide +kernel
theorem dL_law_609 : decode cL_law 609 = .ok (.iadd, 1) := by decide +kernel
theorem dL_law_610 : decode cL_law 610 = .ok (.iaload, 1) := by decide +kernel
theorem dL_law_611 : decode cL_law 611 = .ok (.aload_n 0, 1) := by decide +kernel
theorem dL_law_612 : decode cL_law 612 = .ok (.iload_n 3, 1) := by decide +kernel
theorem dL_law_613 : decode cL_law 613 = .ok (.iconst 3, 1) := by decide +kernel
theorem dL_law_614 : decode cL_law 614 = .ok (.iadd, 1) := by decide +kernel
theorem dL_law_615 : decode cL_law 615 = .ok (.iaload, 1) := by decide +kernel
theorem dL_law_616 : decode cL_law 616 = .ok (.invokevirtual 88, 3) := by decide +kernel
theorem dL_law_619 : decode cL_law 619 = .ok (.if_icmp .eq 150, 3) := by decide +kernel
theorem dL_law_622 : decode cL_law 622 = .ok (.iconst 0, 1) := by decide +kernel
theorem dL_law_623 : decode cL_law 623 = .ok (.ireturn, 1) := by decide +kernel
theorem dL_law_624 : decode cL_law 624 = .ok (.aload_n 1, 1) := by decide +kernel
theorem dL_law_625 : decode cL_law 625 = .ok (.aload_n 0, 1) := by decide +kernel
theorem dL_law_626 : decode cL_law 626 = .ok (.iload_n 3, 1) := by decide +kernel
theorem dL_law_627 : decode cL_law 627 = .ok (.iconst 1, 1) := by decide +kernel
theorem dL_law_628 : decode cL_law 628 = .ok (.iadd, 1) := by decide +kernel
theorem dL_law_629 : decode cL_law 629 = .ok (.iaload, 1) := by decide +kernel
theorem dL_law_630 : decode cL_law 630 = .ok (.aload_n 0, 1) := by decide +kernel
theorem dL_law_631 : decode cL_law 631 = .ok (.iload_n 3, 1) := by decide +kernel
theorem dL_law_632 : decode cL_law 632 = .ok (.iconst 2, 1) := by decide +kernel
theorem dL_law_633 : decode cL_law 633 = .ok (.iadd, 1) := by decide +kernel
theorem dL_law_634 : decode cL_law 634 = .ok (.iaload, 1) := by decide +kernel
theorem dL_law_635 : decode cL_law 635 = .ok (.aload_n 0, 1) := by decide +kernel
theorem dL_law_636 : decode cL_law 636 = .ok (.iload_n 3, 1) := by decide +kernel
theorem dL_law_637 : decode cL_law 637 = .ok (.iconst 3, 1) := by decide +kernel
theorem dL_law_638 : decode cL_law 638 = .ok (.iadd, 1) := by decide +kernel
theorem dL_law_639 : decode cL_law 639 = .ok (.iaload, 1) := by decide +kernel
theorem dL_law_640 : decode cL_law 640 = .ok (.aload_n 0, 1) := by decide +kernel
theorem dL_law_641 : decode cL_law 641 = .ok (.iload_n 3, 1) := by decide +kernel
theorem dL_law_642 : decode cL_law 642 = .ok (.iconst 4, 1) := by decide +kernel
theorem dL_law_643 : decode cL_law 643 = .ok (.iadd, 1) := by decide +kernel
theorem dL_law_644 : decode cL_law 644 = .ok (.iaload, 1) := by decide +kernel
theorem dL_law_645 : decode cL_law 645 = .ok (.invokevirtual 89, 3) := by decide +kernel
theorem dL_law_648 : decode cL_law 648 = .ok (.aload_n 2, 1) := by decide +kernel
theorem dL_law_649 : decode cL_law 649 = .ok (.aload_n 0, 1) := by decide +kernel
theorem dL_law_650 : decode cL_law 650 = .ok (.iload_n 3, 1) := by decide +kernel
theorem dL_law_651 : decode cL_law 651 = .ok (.iconst 1, 1) := by decide +kernel
theorem dL_law_652 : decode cL_law 652 = .ok (.iadd, 1) := by decide +kernel
theorem dL_law_653 : decode cL_law 653 = .ok (.iaload, 1) := by decide +kernel
theorem dL_law_654 : decode cL_law 654 = .ok (.aload_n 0, 1) := by decide +kernel
theorem dL_law_655 : decode cL_law 655 = .ok (.iload_n 3, 1) := by decide +kernel
theorem dL_law_656 : decode cL_law 656 = .ok (.iconst 2, 1) := by decide +kernel
theorem dL_law_657 : decode cL_law 657 = .ok (.iadd, 1) := by decide +kernel
theorem dL_law_658 : decode cL_law 658 = .ok (.iaload, 1) := by decide +kernel
theorem dL_law_659 : decode cL_law 659 = .ok (.aload_n 0, 1) := by decide +kernel
theorem dL_law_660 : decode cL_law 660 = .ok (.iload_n 3, 1) := by decide +kernel
theorem dL_law_661 : decode cL_law 661 = .ok (.iconst 3, 1) := by decide +kernel
theorem dL_law_662 : decode cL_law 662 = .ok (.iadd, 1) := by decide +kernel
theorem dL_law_663 : decode cL_law 663 = .ok (.iaload, 1) := by decide +kernel
theorem dL_law_664 : decode cL_law 664 = .ok (.aload_n 0, 1) := by decide +kernel
theorem dL_law_665 : decode cL_law 665 = .ok (.iload_n 3, 1) := by decide +kernel
theorem dL_law_666 : decode cL_law 666 = .ok (.iconst 4, 1) := by decide +kernel
theorem dL_law_667 : decode cL_law 667 = .ok (.iadd, 1) := by decide +kernel
theorem dL_law_668 : decode cL_law 668 = .ok (.iaload, 1) := by decide +kernel
theorem dL_law_669 : decode cL_law 669 = .ok (.invokevirtual 93, 3) := by decide +kernel
theorem dL_law_672 : decode cL_law 672 = .ok (.if_icmp .eq 97, 3) := by decide +kernel
theorem dL_law_675 : decode cL_law 675 = .ok (.iconst 0, 1) := by decide +kernel
theorem dL_law_676 : decode cL_law 676 = .ok (.ireturn, 1) := by decide +kernel
theorem dL_law_677 : decode cL_law 677 = .ok (.aload_n 1, 1) := by decide +kernel
theorem dL_law_678 : decode cL_law 678 = .ok (.aload_n 0, 1) := by decide +kernel
theorem dL_law_679 : decode cL_law 679 = .ok (.iload_n 3, 1) := by decide +kernel
theorem dL_law_680 : decode cL_law 680 = .ok (.iconst 1, 1) := by decide +kernel
theorem dL_law_681 : decode cL_law 681 = .ok (.iadd, 1) := by decide +kernel
theorem dL_law_682 : decode cL_law 682 = .ok (.iaload, 1) := by decide +kernel
theorem dL_law_683 : decode cL_law 683 = .ok (.aload_n 0, 1) := by decide +kernel
theorem dL_law_684 : decode cL_law 684 = .ok (.iload_n 3, 1) := by decide +kernel
theorem dL_law_685 : decode cL_law 685 = .ok (.iconst 2, 1) := by decide +kernel
theorem dL_law_686 : decode cL_law 686 = .ok (.iadd, 1) := by decide +kernel
theorem dL_law_687 : decode cL_law 687 = .ok (.iaload, 1) := by decide +kernel
theorem dL_law_688 : decode cL_law 688 = .ok (.aload_n 0, 1) := by decide +kernel
theorem dL_law_689 : decode cL_law 689 = .ok (.iload_n 3, 1) := by decide +kernel
theorem dL_law_690 : decode cL_law 690 = .ok (.iconst 3, 1) := by decide +kernel
theorem dL_law_691 : decode cL_law 691 = .ok (.iadd, 1) := by decide +kernel
theorem dL_law_692 : decode cL_law 692 = .ok (.iaload, 1) := by decide +kernel
theorem dL_law_693 : decode cL_law 693 = .ok (.invokevirtual 94, 3) := by decide +kernel
theorem dL_law_696 : decode cL_law 696 = .ok (.aload_n 2, 1) := by decide +kernel
theorem dL_law_697 : decode cL_law 697 = .ok (.aload_n 0, 1) := by decide +kernel
theorem dL_law_698 : decode cL_law 698 = .ok (.iload_n 3, 1) := by decide +kernel
theorem dL_law_699 : decode cL_law 699 = .ok (.iconst 1, 1) := by decide +kernel
theorem dL_law_700 : decode cL_law 700 = .ok (.iadd, 1) := by decide +kernel
theorem dL_law_701 : decode cL_law 701 = .ok (.iaload, 1) := by decide +kernel
theorem dL_law_702 : decode cL_law 702 = .ok (.aload_n 0, 1) := by decide +kernel
theorem dL_law_703 : decode cL_law 703 = .ok (.iload_n 3, 1) := by decide +kernel
theorem dL_law_704 : decode cL_law 704 = .ok (.iconst 2, 1) := by decide +kernel
theorem dL_law_705 : decode cL_law 705 = .ok (.iadd, 1) := by decide +kernel
theorem dL_law_706 : decode cL_law 706 = .ok (.iaload, 1) := by decide +kernel
theorem dL_law_707 : decode cL_law 707 = .ok (.aload_n 0, 1) := by decide +kernel
theorem dL_law_708 : decode cL_law 708 = .ok (.iload_n 3, 1) := by decide +kernel
theorem dL_law_709 : decode cL_law 709 = .ok (.iconst 3, 1) := by decide +kernel
theorem dL_law_710 : decode cL_law 710 = .ok (.iadd, 1) := by decide +kernel
theorem dL_law_711 : decode cL_law 711 = .ok (.iaload, 1) := by decide +kernel
theorem dL_law_712 : decode cL_law 712 = .ok (.invokevirtual 97, 3) := by decide +kernel
theorem dL_law_715 : decode cL_law 715 = .ok (.if_icmp .eq 54, 3) := by decide +kernel
theorem dL_law_718 : decode cL_law 718 = .ok (.iconst 0, 1) := by decide +kernel
theorem dL_law_719 : decode cL_law 719 = .ok (.ireturn, 1) := by decide +kernel
theorem dL_law_720 : decode cL_law 720 = .ok (.aload_n 1, 1) := by decide +kernel
theorem dL_law_721 : decode cL_law 721 = .ok (.invokevirtual 98, 3) := by decide +kernel
theorem dL_law_724 : decode cL_law 724 = .ok (.aload_n 2, 1) := by decide +kernel
theorem dL_law_725 : decode cL_law 725 = .ok (.invokevirtual 101, 3) := by decide +kernel
theorem dL_law_728 : decode cL_law 728 = .ok (.if_icmp .eq 41, 3) := by decide +kernel
theorem dL_law_731 : decode cL_law 731 = .ok (.iconst 0, 1) := by decide +kernel
theorem dL_law_732 : decode cL_law 732 = .ok (.ireturn, 1) := by decide +kernel
theorem dL_law_733 : decode cL_law 733 = .ok (.aload_n 1, 1) := by decide +kernel
theorem dL_law_734 : decode cL_law 734 = .ok (.invokevirtual 102, 3) := by decide +kernel
theorem dL_law_737 : decode cL_law 737 = .ok (.aload_n 2, 1) := by decide +kernel
theorem dL_law_738 : decode cL_law 738 = .ok (.invokevirtual 105, 3) := by decide +kernel
theorem dL_law_741 : decode cL_law 741 = .ok (.if_icmp .eq 28, 3) := by decide +kernel
theorem dL_law_744 : decode cL_law 744 = .ok (.iconst 0, 1) := by decide +kernel
theorem dL_law_745 : decode cL_law 745 = .ok (.ireturn, 1) := by decide +kernel
theorem dL_law_746 : decode cL_law 746 = .ok (.aload_n 1, 1) := by decide +kernel
theorem dL_law_747 : decode cL_law 747 = .ok (.aload_n 0, 1) := by decide +kernel
theorem dL_law_748 : decode cL_law 748 = .ok (.iload_n 3, 1) := by decide +kernel
theorem dL_law_749 : decode cL_law 749 = .ok (.iconst 1, 1) := by decide +kernel
theorem dL_law_750 : decode cL_law 750 = .ok (.iadd, 1) := by decide +kernel
theorem dL_law_751 : decode cL_law 751 = .ok (.iaload, 1) := by decide +kernel
theorem dL_law_752 : decode cL_law 752 = .ok (.invokevirtual 106, 3) := by decide +kernel
theorem dL_law_755 : decode cL_law 755 = .ok (.aload_n 2, 1) := by decide +kernel
theorem dL_law_756 : decode cL_law 756 = .ok (.aload_n 0, 1) := by decide +kernel
theorem dL_law_757 : decode cL_law 757 = .ok (.iload_n 3, 1) := by decide +kernel
theorem dL_law_758 : decode cL_law 758 = .ok (.iconst 1, 1) := by decide +kernel
theorem dL_law_759 : decode cL_law 759 = .ok (.iadd, 1) := by decide +kernel
theorem dL_law_760 : decode cL_law 760 = .ok (.iaload, 1) := by decide +kernel
theorem dL_law_761 : decode cL_law 761 = .ok (.invokevirtual 109, 3) := by decide +kernel
theorem dL_law_764 : decode cL_law 764 = .ok (.if_icmp .eq 5, 3) := by decide +kernel
theorem dL_law_767 : decode cL_law 767 = .ok (.iconst 0, 1) := by decide +kernel
theorem dL_law_768 : decode cL_law 768 = .ok (.ireturn, 1) := by decide +kernel
theorem dL_law_769 : decode cL_law 769 = .ok (.iinc 3 5, 3) := by decide +kernel
theorem dL_law_772 : decode cL_law 772 = .ok (.goto (-754), 3) := by decide +kernel
theorem dL_law_775 : decode cL_law 775 = .ok (.iconst 1, 1) := by decide +kernel
theorem dL_law_776 : decode cL_law 776 = .ok (.ireturn, 1) := by decide +kernel
end
section
theorem dX8_init_0 : decode cX8_init 0 = .ok (.aload_n 0, 1) := by decide +kernel
theorem dX8_init_1 : decode cX8_init 1 = .ok (.invokespecial 1, 3) := by decide +kernel
theorem dX8_init_4 : decode cX8_init 4 = .ok (.aload_n 0, 1) := by decide +kernel
theorem dX8_init_5 : decode cX8_init 5 = .ok (.bipush 36, 2) := by decide +kernel
theorem dX8_init_7 : decode cX8_init 7 = .ok (.newarray .int, 2) := by decide +kernel
theorem dX8_init_9 : decode cX8_init 9 = .ok (.putfield 7, 3) := by decide +kernel
theorem dX8_init_12 : decode cX8_init 12 = .ok (.aload_n 0, 1) := by decide +kernel
theorem dX8_init_13 : decode cX8_init 13 = .ok (.bipush 8, 2) := by decide +kernel
theorem dX8_init_15 : decode cX8_init 15 = .ok (.newarray .int, 2) := by decide +kernel
theorem dX8_init_17 : decode cX8_init 17 = .ok (.putfield 13, 3) := by decide +kernel
theorem dX8_init_20 : decode cX8_init 20 = .ok (.aload_n 0, 1) := by decide +kernel
theorem dX8_init_21 : decode cX8_init 21 = .ok (.bipush 8, 2) := by decide +kernel
theorem dX8_init_23 : decode cX8_init 23 = .ok (.newarray .int, 2) := by decide +kernel
theorem dX8_init_25 : decode cX8_init 25 = .ok (.putfield 16, 3) := by decide +kernel
theorem dX8_init_28 : decode cX8_init 28 = .ok (.aload_n 0, 1) := by decide +kernel
theorem dX8_init_29 : decode cX8_init 29 = .ok (.bipush 9, 2) := by decide +kernel
theorem dX8_init_31 : decode cX8_init 31 = .ok (.newarray .int, 2) := by decide +kernel
theorem dX8_init_33 : decode cX8_init 33 = .ok (.putfield 19, 3) := by decide +kernel
theorem dX8_init_36 : decode cX8_init 36 = .ok (.aload_n 0, 1) := by decide +kernel
theorem dX8_init_37 : decode cX8_init 37 = .ok (.bipush 54, 2) := by decide +kernel
theorem dX8_init_39 : decode cX8_init 39 = .ok (.newarray .int, 2) := by decide +kernel
theorem dX8_init_41 : decode cX8_init 41 = .ok (.putfield 22, 3) := by decide +kernel
theorem dX8_init_44 : decode cX8_init 44 = .ok (.aload_n 0, 1) := by decide +kernel
theorem dX8_init_45 : decode cX8_init 45 = .ok (.sipush 432, 3) := by decide +kernel
theorem dX8_init_48 : decode cX8_init 48 = .ok (.newarray .int, 2) := by decide +kernel
theorem dX8_init_50 : decode cX8_init 50 = .ok (.putfield 25, 3) := by decide +kernel
theorem dX8_init_53 : decode cX8_init 53 = .ok (.aload_n 0, 1) := by decide +kernel
theorem dX8_init_54 : decode cX8_init 54 = .ok (.bipush 8, 2) := by decide +kernel
theorem dX8_init_56 : decode cX8_init 56 = .ok (.newarray .int, 2) := by decide +kernel
theorem dX8_init_58 : decode cX8_init 58 = .ok (.putfield 28, 3) := by decide +kernel
theorem dX8_init_61 : decode cX8_init 61 = .ok (.aload_n 0, 1) := by decide +kernel
theorem dX8_init_62 : decode cX8_init 62 = .ok (.bipush 108, 2) := by decide +kernel
theorem dX8_init_64 : decode cX8_init 64 = .ok (.newarray .int, 2) := by decide +kernel
theorem dX8_init_66 : decode cX8_init 66 = .ok (.putfield 31, 3) := by decide +kernel
theorem dX8_init_69 : decode cX8_init 69 = .ok (.aload_n 0, 1) := by decide +kernel
theorem dX8_init_70 : decode cX8_init 70 = .ok (.sipush 200, 3) := by decide +kernel
theorem dX8_init_73 : decode cX8_init 73 = .ok (.newarray .int, 2) := by decide +kernel
theorem dX8_init_75 : decode cX8_init 75 = .ok (.putfield 34, 3) := by decide +kernel
theorem dX8_init_78 : decode cX8_init 78 = .ok (.aload_n 0, 1) := by decide +kernel
theorem dX8_init_79 : decode cX8_init 79 = .ok (.iconst 3, 1) := by decide +kernel
theorem dX8_init_80 : decode cX8_init 80 = .ok (.newarray .int, 2) := by decide +kernel
theorem dX8_init_82 : decode cX8_init 82 = .ok (.putfield 37, 3) := by decide +kernel
theorem dX8_init_85 : decode cX8_init 85 = .ok (.aload_n 0, 1) := by decide +kernel
theorem dX8_init_86 : decode cX8_init 86 = .ok (.bipush 36, 2) := by decide +kernel
theorem dX8_init_88 : decode cX8_init 88 = .ok (.newarray .int, 2) := by decide +kernel
theorem dX8_init_90 : decode cX8_init 90 = .ok (.putfield 40, 3) := by decide +kernel
theorem dX8_init_93 : decode cX8_init 93 = .ok (.aload_n 0, 1) := by decide +kernel
theorem dX8_init_94 : decode cX8_init 94 = .ok (.bipush 8, 2) := by decide +kernel
theorem dX8_init_96 : decode cX8_init 96 = .ok (.newarray .int, 2) := by decide +kernel
theorem dX8_init_98 : decode cX8_init 98 = .ok (.putfield 43, 3) := by decide +kernel
theorem dX8_init_101 : decode cX8_init 101 = .ok (.aload_n 0, 1) := by decide +kernel
theorem dX8_init_102 : decode cX8_init 102 = .ok (.bipush 8, 2) := by decide +kernel
theorem dX8_init_104 : decode cX8_init 104 = .ok (.newarray .int, 2) := by decide +kernel
theorem dX8_init_106 : decode cX8_init 106 = .ok (.putfield 46, 3) := by decide +kernel
theorem dX8_init_109 : decode cX8_init 109 = .ok (.aload_n 0, 1) := by decide +kernel
theorem dX8_init_110 : decode cX8_init 110 = .ok (.bipush 8, 2) := by decide +kernel
theorem dX8_init_112 : decode cX8_init 112 = .ok (.newarray .int, 2) := by decide +kernel
theorem dX8_init_114 : decode cX8_init 114 = .ok (.putfield 49, 3) := by decide +kernel
theorem dX8_init_117 : decode cX8_init 117 = .ok (.aload_n 0, 1) := by decide +kernel
theorem dX8_init_118 : decode cX8_init 118 = .ok (.bipush 9, 2) := by decide +kernel
theorem dX8_init_120 : decode cX8_init 120 = .ok (.newarray .int, 2) := by decide +kernel
theorem dX8_init_122 : decode cX8_init 122 = .ok (.putfield 52, 3) := by decide +kernel
theorem dX8_init_125 : decode cX8_init 125 = .ok (.aload_n 0, 1) := by decide +kernel
theorem dX8_init_126 : decode cX8_init 126 = .ok (.bipush 54, 2) := by decide +kernel
theorem dX8_init_128 : decode cX8_init 128 = .ok (.newarray .int, 2) := by decide +kernel
theorem dX8_init_130 : decode cX8_init 130 = .ok (.putfield 55, 3) := by decide +kernel
theorem dX8_init_133 : decode cX8_init 133 = .ok (.aload_n 0, 1) := by decide +kernel
theorem dX8_init_134 : decode cX8_init 134 = .ok (.bipush 72, 2) := by decide +kernel
theorem dX8_init_136 : decode cX8_init 136 = .ok (.newarray .int, 2) := by decide +kernel
theorem dX8_init_138 : decode cX8_init 138 = .ok (.putfield 58, 3) := by decide +kernel
theorem dX8_init_141 : decode cX8_init 141 = .ok (.aload_n 0, 1) := by decide +kernel
theorem dX8_init_142 : decode cX8_init 142 = .ok (.bipush 72, 2) := by decide +kernel
theorem dX8_init_144 : decode cX8_init 144 = .ok (.newarray .int, 2) := by decide +kernel
theorem dX8_init_146 : decode cX8_init 146 = .ok (.putfield 61, 3) := by decide +kernel
theorem dX8_init_149 : decode cX8_init 149 = .ok (.aload_n 0, 1) := by decide +kernel
theorem dX8_init_150 : decode cX8_init 150 = .ok (.bipush 72, 2) := by decide +kernel
theorem dX8_init_152 : decode cX8_init 152 = .ok (.newarray .int, 2) := by decide +kernel
theorem dX8_init_154 : decode cX8_init 154 = .ok (.putfield 64, 3) := by decide +kernel
theorem dX8_init_157 : decode cX8_init 157 = .ok (.aload_n 0, 1) := by decide +kernel
theorem dX8_init_158 : decode cX8_init 158 = .ok (.bipush 72, 2) := by decide +kernel
theorem dX8_init_160 : decode cX8_init 160 = .ok (.newarray .int, 2) := by decide +kernel
theorem dX8_init_162 : decode cX8_init 162 = .ok (.putfield 67, 3) := by decide +kernel
theorem dX8_init_165 : decode cX8_init 165 = .ok (.aload_n 0, 1) := by decide +kernel
theorem dX8_init_166 : decode cX8_init 166 = .ok (.sipush 324, 3) := by decide +kernel
theorem dX8_init_169 : decode cX8_init 169 = .ok (.newarray .int, 2) := by decide +kernel
theorem dX8_init_171 : decode cX8_init 171 = .ok (.putfield 70, 3) := by decide +kernel
theorem dX8_init_174 : decode cX8_init 174 = .ok (.aload_n 0, 1) := by decide +kernel
theorem dX8_init_175 : decode cX8_init 175 = .ok (.bipush 6, 2) := by decide +kernel
theorem dX8_init_177 : decode cX8_init 177 = .ok (.newarray .int, 2) := by decide +kernel
theorem dX8_init_179 : decode cX8_init 179 = .ok (.putfield 73, 3) := by decide +kernel
theorem dX8_init_182 : decode cX8_init 182 = .ok (.aload_n 0, 1) := by decide +kernel
theorem dX8_init_183 : decode cX8_init 183 = .ok (.bipush 6, 2) := by decide +kernel
theorem dX8_init_185 : decode cX8_init 185 = .ok (.newarray .int, 2) := by decide +kernel
theorem dX8_init_187 : decode cX8_init 187 = .ok (.putfield 76, 3) := by decide +kernel
theorem dX8_init_190 : decode cX8_init 190 = .ok (.aload_n 0, 1) := by decide +kernel
theorem dX8_init_191 : decode cX8_init 191 = .ok (.invokevirtual 79, 3) := by decide +kernel
theorem dX8_init_194 : decode cX8_init 194 = .ok (.aload_n 0, 1) := by decide +kernel
theorem dX8_init_195 : decode cX8_init 195 = .ok (.sipush 1203, 3) := by decide +kernel
theorem dX8_init_198 : decode cX8_init 198 = .ok (.invokevirtual 82, 3) := by decide +kernel
theorem dX8_init_201 : decode cX8_init 201 = .ok (.aload_n 0, 1) := by decide +kernel
theorem dX8_init_202 : decode cX8_init 202 = .ok (.sipush 30092, 3) := by decide +kernel
theorem dX8_init_205 : decode cX8_init 205 = .ok (.invokevirtual 82, 3) := by decide +kernel
theorem dX8_init_208 : decode cX8_init 208 = .ok (.aload_n 0, 1) := by decide +kernel
theorem dX8_init_209 : decode cX8_init 209 = .ok (.sipush 410, 3) := by decide +kernel
theorem dX8_init_212 : decode cX8_init 212 = .ok (.invokevirtual 82, 3) := by decide +kernel
theorem dX8_init_215 : decode cX8_init 215 = .ok (.aload_n 0, 1) := by decide +kernel
theorem dX8_init_216 : decode cX8_init 216 = .ok (.sipush 29000, 3) := by decide +kernel
theorem dX8_init_219 : decode cX8_init 219 = .ok (.invokevirtual 82, 3) := by decide +kernel
theorem dX8_init_222 : decode cX8_init 222 = .ok (.aload_n 0, 1) := by decide +kernel
theorem dX8_init_223 : decode cX8_init 223 = .ok (.sipush 130, 3) := by decide +kernel
theorem dX8_init_226 : decode cX8_init 226 = .ok (.invokevirtual 82, 3) := by decide +kernel
theorem dX8_init_229 : decode cX8_init 229 = .ok (.aload_n 0, 1) := by decide +kernel
theorem dX8_init_230 : decode cX8_init 230 = .ok (.iconst 0, 1) := by decide +kernel
theorem dX8_init_231 : decode cX8_init 231 = .ok (.iconst 0, 1) := by decide +kernel
theorem dX8_init_232 : decode cX8_init 232 = .ok (.bipush 22, 2) := by decide +kernel
theorem dX8_init_234 : decode cX8_init 234 = .ok (.invokevirtual 86, 3) := by decide +kernel
theorem dX8_init_237 : decode cX8_init 237 = .ok (.aload_n 0, 1) := by decide +kernel
theorem dX8_init_238 : decode cX8_init 238 = .ok (.iconst 1, 1) := by decide +kernel
theorem dX8_init_239 : decode cX8_init 239 = .ok (.iconst 0, 1) := by decide +kernel
theorem dX8_init_240 : decode cX8_init 240 = .ok (.bipush 20, 2) := by decide +kernel
theorem dX8_init_242 : decode cX8_init 242 = .ok (.invokevirtual 86, 3) := by decide +kernel
theorem dX8_init_245 : decode cX8_init 245 = .ok (.aload_n 0, 1) := by decide +kernel
theorem dX8_init_246 : decode cX8_init 246 = .ok (.iconst 2, 1) := by decide +kernel
theorem dX8_init_247 : decode cX8_init 247 = .ok (.iconst 0, 1) := by decide +kernel
theorem dX8_init_248 : decode cX8_init 248 = .ok (.bipush 21, 2) := by decide +kernel
theorem dX8_init_250 : decode cX8_init 250 = .ok (.invokevirtual 86, 3) := by decide +kernel
theorem dX8_init_253 : decode cX8_init 253 = .ok (.aload_n 0, 1) := by decide +kernel
theorem dX8_init_254 : decode cX8_init 254 = .ok (.iconst 3, 1) := by decide +kernel
theorem dX8_init_255 : decode cX8_init 255 = .ok (.iconst 0, 1) := by decide +kernel
theorem dX8_init_256 : decode cX8_init 256 = .ok (.bipush 24, 2) := by decide +kernel
theorem dX8_init_258 : decode cX8_init 258 = .ok (.invokevirtual 86, 3) := by decide +kernel
theorem dX8_init_261 : decode cX8_init 261 = .ok (.aload_n 0, 1) := by decide +kernel
theorem dX8_init_262 : decode cX8_init 262 = .ok (.iconst 0, 1) := by decide +kernel
theorem dX8_init_263 : decode cX8_init 263 = .ok (.iconst 1, 1) := by decide +kernel
theorem dX8_init_264 : decode cX8_init 264 = .ok (.iconst 2, 1) := by decide +kernel
theorem dX8_init_265 : decode cX8_init 265 = .ok (.invokevirtual 86, 3) := by decide +kernel
theorem dX8_init_268 : decode cX8_init 268 = .ok (.aload_n 0, 1) := by decide +kernel
theorem dX8_init_269 : decode cX8_init 269 = .ok (.iconst 1, 1) := by decide +kernel
theorem dX8_init_270 : decode cX8_init 270 = .ok (.iconst 1, 1) := by decide +kernel
theorem dX8_init_271 : decode cX8_init 271 = .ok (.iconst 4, 1) := by decide +kernel
theorem dX8_init_272 : decode cX8_init 272 = .ok (.invokevirtual 86, 3) := by decide +kernel
theorem dX8_init_275 : decode cX8_init 275 = .ok (.aload_n 0, 1) := by decide +kernel
theorem dX8_init_276 : decode cX8_init 276 = .ok (.iconst 2, 1) := by decide +kernel
theorem dX8_init_277 : decode cX8_init 277 = .ok (.iconst 1, 1) := by decide +kernel
theorem dX8_init_278 : decode cX8_init 278 = .ok (.iconst 1, 1) := by decide +kernel
theorem dX8_init_279 : decode cX8_init 279 = .ok (.invokevirtual 86, 3) := by decide +kernel
theorem dX8_init_282 : decode cX8_init 282 = .ok (.aload_n 0, 1) := by decide +kernel
theorem dX8_init_283 : decode cX8_init 283 = .ok (.iconst 3, 1) := by decide +kernel
theorem dX8_init_284 : decode cX8_init 284 = .ok (.iconst 1, 1) := by decide +kernel
theorem dX8_init_285 : decode cX8_init 285 = .ok (.iconst 0, 1) := by decide +kernel
theorem dX8_init_286 : decode cX8_init 286 = .ok (.invokevirtual 86, 3) := by decide +kernel
theorem dX8_init_289 : decode cX8_init 289 = .ok (.aload_n 0, 1) := by decide +kernel
theorem dX8_init_290 : decode cX8_init 290 = .ok (.bipush 7, 2) := by decide +kernel
theorem dX8_init_292 : decode cX8_init 292 = .ok (.putfield 90, 3) := by decide +kernel
theorem dX8_init_295 : decode cX8_init 295 = .ok (.aload_n 0, 1) := by decide +kernel
theorem dX8_init_296 : decode cX8_init 296 = .ok (.iconst 3, 1) := by decide +kernel
theorem dX8_init_297 : decode cX8_init 297 = .ok (.putfield 94, 3) := by decide +kernel
theorem dX8_init_300 : decode cX8_init 300 = .ok (.aload_n 0, 1) := by decide +kernel
theorem dX8_init_301 : decode cX8_init 301 = .ok (.iconst 4, 1) := by decide +kernel
theorem dX8_init_302 : decode cX8_init 302 = .ok (.putfield 97, 3) := by decide +kernel
theorem dX8_init_305 : decode cX8_init 305 = .ok (.aload_n 0, 1) := by decide +kernel
theorem dX8_init_306 : decode cX8_init 306 = .ok (.getfield 52, 3) := by decide +kernel
theorem dX8_init_309 : decode cX8_init 309 = .ok (.iconst 3, 1) := by decide +kernel
theorem dX8_init_310 : decode cX8_init 310 = .ok (.iconst 1, 1) := by decide +kernel
theorem dX8_init_311 : decode cX8_init 311 = .ok (.iastore, 1) := by decide +kernel
theorem dX8_init_312 : decode cX8_init 312 = .ok (.aload_n 0, 1) := by decide +kernel
theorem dX8_init_313 : decode cX8_init 313 = .ok (.invokevirtual 100, 3) := by decide +kernel
theorem dX8_init_316 : decode cX8_init 316 = .ok (.return_, 1) := by decide +kernel
theorem dX8_tellsRow_0 : decode cX8_tellsRow 0 = .ok (.aload_n 0, 1) := by decide +kernel
theorem dX8_tellsRow_1 : decode cX8_tellsRow 1 = .ok (.iconst 5, 1) := by decide +kernel
theorem dX8_tellsRow_2 : decode cX8_tellsRow 2 = .ok (.putfield 103, 3) := by decide +kernel
theorem dX8_tellsRow_5 : decode cX8_tellsRow 5 = .ok (.iload_n 1, 1) := by decide +kernel
theorem dX8_tellsRow_6 : decode cX8_tellsRow 6 = .ok (.istore_n 2, 1) := by decide +kernel
theorem dX8_tellsRow_7 : decode cX8_tellsRow 7 = .ok (.iconst 4, 1) := by decide +kernel
theorem dX8_tellsRow_8 : decode cX8_tellsRow 8 = .ok (.istore_n 3, 1) := by decide +kernel
theorem dX8_tellsRow_9 : decode cX8_tellsRow 9 = .ok (.iload_n 3, 1) := by decide +kernel
theorem dX8_tellsRow_10 : decode cX8_tellsRow 10 = .ok (.ifCond .lt 29, 3) := by decide +kernel
theorem dX8_tellsRow_13 : decode cX8_tellsRow 13 = .ok (.aload_n 0, 1) := by decide +kernel
theorem dX8_tellsRow_14 : decode cX8_tellsRow 14 = .ok (.getfield 40, 3) := by decide +kernel
theorem dX8_tellsRow_17 : decode cX8_tellsRow 17 = .ok (.aload_n 0, 1) := by decide +kernel
theorem dX8_tellsRow_18 : decode cX8_tellsRow 18 = .ok (.getfield 106, 3) := by decide +kernel
theorem dX8_tellsRow_21 : decode cX8_tellsRow 21 = .ok (.iload_n 3, 1) := by decide +kernel
theorem dX8_tellsRow_22 : decode cX8_tellsRow 22 = .ok (.iadd, 1) := by decide +kernel
theorem dX8_tellsRow_23 : decode cX8_tellsRow 23 = .ok (.iload_n 2, 1) := by decide +kernel
theorem dX8_tellsRow_24 : decode cX8_tellsRow 24 = .ok (.bipush 10, 2) := by decide +kernel
theorem dX8_tellsRow_26 : decode cX8_tellsRow 26 = .ok (.irem, 1) := by decide +kernel
theorem dX8_tellsRow_27 : decode cX8_tellsRow 27 = .ok (.iastore, 1) := by decide +kernel
theorem dX8_tellsRow_28 : decode cX8_tellsRow 28 = .ok (.iload_n 2, 1) := by decide +kernel
theorem dX8_tellsRow_29 : decode cX8_tellsRow 29 = .ok (.bipush 10, 2) := by decide +kernel
theorem dX8_tellsRow_31 : decode cX8_tellsRow 31 = .ok (.idiv, 1) := by decide +kernel
theorem dX8_tellsRow_32 : decode cX8_tellsRow 32 = .ok (.istore_n 2, 1) := by decide +kernel
theorem dX8_tellsRow_33 : decode cX8_tellsRow 33 = .ok (.iinc 3 (-1), 3) := by decide +kernel
theorem dX8_tellsRow_36 : decode cX8_tellsRow 36 = .ok (.goto (-27), 3) := by decide +kernel
theorem dX8_tellsRow_39 : decode cX8_tellsRow 39 = .ok (.aload_n 0, 1) := by decide +kernel
theorem dX8_tellsRow_40 : decode cX8_tellsRow 40 = .ok (.dup, 1) := by decide +kernel
theorem dX8_tellsRow_41 : decode cX8_tellsRow 41 = .ok (.getfield 106, 3) := by decide +kernel
theorem dX8_tellsRow_44 : decode cX8_tellsRow 44 = .ok (.iconst 5, 1) := by decide +kernel
theorem dX8_tellsRow_45 : decode cX8_tellsRow 45 = .ok (.iadd, 1) := by decide +kernel
theorem dX8_tellsRow_46 : decode cX8_tellsRow 46 = .ok (.putfield 106, 3) := by decide +kernel
theorem dX8_tellsRow_49 : decode cX8_tellsRow 49 = .ok (.return_, 1) := by decide +kernel
theorem dX8_tellsBeast_0 : decode cX8_tellsBeast 0 = .ok (.aload_n 0, 1) := by decide +kernel
theorem dX8_tellsBeast_1 : decode cX8_tellsBeast 1 = .ok (.getfield 43, 3) := by decide +kernel
theorem dX8_tellsBeast_4 : decode cX8_tellsBeast 4 = .ok (.aload_n 0, 1) := by decide +kernel
theorem dX8_tellsBeast_5 : decode cX8_tellsBeast 5 = .ok (.getfield 109, 3) := by decide +kernel
theorem dX8_tellsBeast_8 : decode cX8_tellsBeast 8 = .ok (.iload_n 1, 1) := by decide +kernel
theorem dX8_tellsBeast_9 : decode cX8_tellsBeast 9 = .ok (.iastore, 1) := by decide +kernel
theorem dX8_tellsBeast_10 : decode cX8_tellsBeast 10 = .ok (.aload_n 0, 1) := by decide +kernel
theorem dX8_tellsBeast_11 : decode cX8_tellsBeast 11 = .ok (.getfield 46, 3) := by decide +kernel
theorem dX8_tellsBeast_14 : decode cX8_tellsBeast 14 = .ok (.aload_n 0, 1) := by decide +kernel
theorem dX8_tellsBeast_15 : decode cX8_tellsBeast 15 = .ok (.getfield 109, 3) := by decide +kernel
theorem dX8_tellsBeast_18 : decode cX8_tellsBeast 18 = .ok (.iload_n 2, 1) := by decide +kernel
theorem dX8_tellsBeast_19 : decode cX8_tellsBeast 19 = .ok (.iastore, 1) := by decide +kernel
theorem dX8_tellsBeast_20 : decode cX8_tellsBeast 20 = .ok (.aload_n 0, 1) := by decide +kernel
theorem dX8_tellsBeast_21 : decode cX8_tellsBeast 21 = .ok (.getfield 49, 3) := by decide +kernel
theorem dX8_tellsBeast_24 : decode cX8_tellsBeast 24 = .ok (.aload_n 0, 1) := by decide +kernel
theorem dX8_tellsBeast_25 : decode cX8_tellsBeast 25 = .ok (.getfield 109, 3) := by decide +kernel
theorem dX8_tellsBeast_28 : decode cX8_tellsBeast 28 = .ok (.iload_n 3, 1) := by decide +kernel
theorem dX8_tellsBeast_29 : decode cX8_tellsBeast 29 = .ok (.iastore, 1) := by decide +kernel
theorem dX8_tellsBeast_30 : decode cX8_tellsBeast 30 = .ok (.aload_n 0, 1) := by decide +kernel
theorem dX8_tellsBeast_31 : decode cX8_tellsBeast 31 = .ok (.dup, 1) := by decide +kernel
theorem dX8_tellsBeast_32 : decode cX8_tellsBeast 32 = .ok (.getfield 109, 3) := by decide +kernel
theorem dX8_tellsBeast_35 : decode cX8_tellsBeast 35 = .ok (.iconst 1, 1) := by decide +kernel
theorem dX8_tellsBeast_36 : decode cX8_tellsBeast 36 = .ok (.iadd, 1) := by decide +kernel
theorem dX8_tellsBeast_37 : decode cX8_tellsBeast 37 = .ok (.putfield 109, 3) := by decide +kernel
theorem dX8_tellsBeast_40 : decode cX8_tellsBeast 40 = .ok (.return_, 1) := by decide +kernel
theorem dX8_in_0 : decode cX8_in 0 = .ok (.iload_n 0, 1) := by decide +kernel
theorem dX8_in_1 : decode cX8_in 1 = .ok (.iload_n 1, 1) := by decide +kernel
theorem dX8_in_2 : decode cX8_in 2 = .ok (.if_icmp .lt 12, 3) := by decide +kernel
theorem dX8_in_5 : decode cX8_in 5 = .ok (.iload_n 0, 1) := by decide +kernel
theorem dX8_in_6 : decode cX8_in 6 = .ok (.iload_n 2, 1) := by decide +kernel
theorem dX8_in_7 : decode cX8_in 7 = .ok (.if_icmp .gt 7, 3) := by decide +kernel
theorem dX8_in_10 : decode cX8_in 10 = .ok (.iconst 1, 1) := by decide +kernel
theorem dX8_in_11 : decode cX8_in 11 = .ok (.goto 4, 3) := by decide +kernel
theorem dX8_in_14 : decode cX8_in 14 = .ok (.iconst 0, 1) := by decide +kernel
theorem dX8_in_15 : decode cX8_in 15 = .ok (.ireturn, 1) := by decide +kernel
theorem dX8_has_0 : decode cX8_has 0 = .ok (.iload_n 0, 1) := by decide +kernel
theorem dX8_has_1 : decode cX8_has 1 = .ok (.iload_n 1, 1) := by decide +kernel
theorem dX8_has_2 : decode cX8_has 2 = .ok (.ishr, 1) := by decide +kernel
theorem dX8_has_3 : decode cX8_has 3 = .ok (.iconst 1, 1) := by decide +kernel
theorem dX8_has_4 : decode cX8_has 4 = .ok (.iand, 1) := by decide +kernel
theorem dX8_has_5 : decode cX8_has 5 = .ok (.iconst 1, 1) := by decide +kernel
theorem dX8_has_6 : decode cX8_has 6 = .ok (.if_icmp .ne 7, 3) := by decide +kernel
theorem dX8_has_9 : decode cX8_has 9 = .ok (.iconst 1, 1) := by decide +kernel
theorem dX8_has_10 : decode cX8_has 10 = .ok (.goto 4, 3) := by decide +kernel
theorem dX8_has_13 : decode cX8_has 13 = .ok (.iconst 0, 1) := by decide +kernel
theorem dX8_has_14 : decode cX8_has 14 = .ok (.ireturn, 1) := by decide +kernel
theorem dX8_isBeast_0 : decode cX8_isBeast 0 = .ok (.iload_n 1, 1) := by decide +kernel
theorem dX8_isBeast_1 : decode cX8_isBeast 1 = .ok (.iconst 0, 1) := by decide +kernel
theorem dX8_isBeast_2 : decode cX8_isBeast 2 = .ok (.aload_n 0, 1) := by decide +kernel
theorem dX8_isBeast_3 : decode cX8_isBeast 3 = .ok (.getfield 112, 3) := by decide +kernel
theorem dX8_isBeast_6 : decode cX8_isBeast 6 = .ok (.iconst 1, 1) := by decide +kernel
theorem dX8_isBeast_7 : decode cX8_isBeast 7 = .ok (.isub, 1) := by decide +kernel
theorem dX8_isBeast_8 : decode cX8_isBeast 8 = .ok (.invokestatic 115, 3) := by decide +kernel
theorem dX8_isBeast_11 : decode cX8_isBeast 11 = .ok (.ireturn, 1) := by decide +kernel
theorem dX8_isSquare_0 : decode cX8_isSquare 0 = .ok (.iload_n 1, 1) := by decide +kernel
theorem dX8_isSquare_1 : decode cX8_isSquare 1 = .ok (.iconst 0, 1) := by decide +kernel
theorem dX8_isSquare_2 : decode cX8_isSquare 2 = .ok (.aload_n 0, 1) := by decide +kernel
theorem dX8_isSquare_3 : decode cX8_isSquare 3 = .ok (.getfield 119, 3) := by decide +kernel
theorem dX8_isSquare_6 : decode cX8_isSquare 6 = .ok (.iconst 1, 1) := by decide +kernel
theorem dX8_isSquare_7 : decode cX8_isSquare 7 = .ok (.isub, 1) := by decide +kernel
theorem dX8_isSquare_8 : decode cX8_isSquare 8 = .ok (.invokestatic 115, 3) := by decide +kernel
theorem dX8_isSquare_11 : decode cX8_isSquare 11 = .ok (.ireturn, 1) := by decide +kernel
theorem dX8_write_0 : decode cX8_write 0 = .ok (.iload_n 1, 1) := by decide +kernel
theorem dX8_write_1 : decode cX8_write 1 = .ok (.bipush 32, 2) := by decide +kernel
theorem dX8_write_3 : decode cX8_write 3 = .ok (.bipush 126, 2) := by decide +kernel
theorem dX8_write_5 : decode cX8_write 5 = .ok (.invokestatic 115, 3) := by decide +kernel
theorem dX8_write_8 : decode cX8_write 8 = .ok (.ifCond .ne 5, 3) := by decide +kernel
theorem dX8_write_11 : decode cX8_write 11 = .ok (.iconst (-1), 1) := by decide +kernel
theorem dX8_write_12 : decode cX8_write 12 = .ok (.ireturn, 1) := by decide +kernel
theorem dX8_write_13 : decode cX8_write 13 = .ok (.aload_n 0, 1) := by decide +kernel
theorem dX8_write_14 : decode cX8_write 14 = .ok (.getfield 122, 3) := by decide +kernel
theorem dX8_write_17 : decode cX8_write 17 = .ok (.sipush 200, 3) := by decide +kernel
theorem dX8_write_20 : decode cX8_write 20 = .ok (.if_icmp .ne 6, 3) := by decide +kernel
theorem dX8_write_23 : decode cX8_write 23 = .ok (.bipush (-3), 2) := by decide +kernel
theorem dX8_write_25 : decode cX8_write 25 = .ok (.ireturn, 1) := by decide +kernel
theorem dX8_write_26 : decode cX8_write 26 = .ok (.aload_n 0, 1) := by decide +kernel
theorem dX8_write_27 : decode cX8_write 27 = .ok (.getfield 34, 3) := by decide +kernel
theorem dX8_write_30 : decode cX8_write 30 = .ok (.aload_n 0, 1) := by decide +kernel
theorem dX8_write_31 : decode cX8_write 31 = .ok (.getfield 122, 3) := by decide +kernel
theorem dX8_write_34 : decode cX8_write 34 = .ok (.iload_n 1, 1) := by decide +kernel
theorem dX8_write_35 : decode cX8_write 35 = .ok (.iastore, 1) := by decide +kernel
theorem dX8_write_36 : decode cX8_write 36 = .ok (.aload_n 0, 1) := by decide +kernel
theorem dX8_write_37 : decode cX8_write 37 = .ok (.dup, 1) := by decide +kernel
theorem dX8_write_38 : decode cX8_write 38 = .ok (.getfield 122, 3) := by decide +kernel
theorem dX8_write_41 : decode cX8_write 41 = .ok (.iconst 1, 1) := by decide +kernel
theorem dX8_write_42 : decode cX8_write 42 = .ok (.iadd, 1) := by decide +kernel
theorem dX8_write_43 : decode cX8_write 43 = .ok (.putfield 122, 3) := by decide +kernel
theorem dX8_write_46 : decode cX8_write 46 = .ok (.aload_n 0, 1) := by decide +kernel
theorem dX8_write_47 : decode cX8_write 47 = .ok (.getfield 122, 3) := by decide +kernel
theorem dX8_write_50 : decode cX8_write 50 = .ok (.ireturn, 1) := by decide +kernel
theorem dX8_wipe_0 : decode cX8_wipe 0 = .ok (.aload_n 0, 1) := by decide +kernel
theorem dX8_wipe_1 : decode cX8_wipe 1 = .ok (.getfield 122, 3) := by decide +kernel
theorem dX8_wipe_4 : decode cX8_wipe 4 = .ok (.istore_n 1, 1) := by decide +kernel
theorem dX8_wipe_5 : decode cX8_wipe 5 = .ok (.aload_n 0, 1) := by decide +kernel
theorem dX8_wipe_6 : decode cX8_wipe 6 = .ok (.iconst 0, 1) := by decide +kernel
theorem dX8_wipe_7 : decode cX8_wipe 7 = .ok (.putfield 122, 3) := by decide +kernel
theorem dX8_wipe_10 : decode cX8_wipe 10 = .ok (.iload_n 1, 1) := by decide +kernel
theorem dX8_wipe_11 : decode cX8_wipe 11 = .ok (.ireturn, 1) := by decide +kernel
theorem dX8_letterAt_0 : decode cX8_letterAt 0 = .ok (.iload_n 1, 1) := by decide +kernel
theorem dX8_letterAt_1 : decode cX8_letterAt 1 = .ok (.aload_n 0, 1) := by decide +kernel
theorem dX8_letterAt_2 : decode cX8_letterAt 2 = .ok (.getfield 122, 3) := by decide +kernel
theorem dX8_letterAt_5 : decode cX8_letterAt 5 = .ok (.if_icmp .ge 12, 3) := by decide +kernel
theorem dX8_letterAt_8 : decode cX8_letterAt 8 = .ok (.aload_n 0, 1) := by decide +kernel
theorem dX8_letterAt_9 : decode cX8_letterAt 9 = .ok (.getfield 34, 3) := by decide +kernel
theorem dX8_letterAt_12 : decode cX8_letterAt 12 = .ok (.iload_n 1, 1) := by decide +kernel
theorem dX8_letterAt_13 : decode cX8_letterAt 13 = .ok (.iaload, 1) := by decide +kernel
theorem dX8_letterAt_14 : decode cX8_letterAt 14 = .ok (.goto 4, 3) := by decide +kernel
theorem dX8_letterAt_17 : decode cX8_letterAt 17 = .ok (.iconst (-1), 1) := by decide +kernel
theorem dX8_letterAt_18 : decode cX8_letterAt 18 = .ok (.ireturn, 1) := by decide +kernel
theorem dX8_isFigure_0 : decode cX8_isFigure 0 = .ok (.iload_n 0, 1) := by decide +kernel
theorem dX8_isFigure_1 : decode cX8_isFigure 1 = .ok (.bipush 48, 2) := by decide +kernel
theorem dX8_isFigure_3 : decode cX8_isFigure 3 = .ok (.bipush 57, 2) := by decide +kernel
theorem dX8_isFigure_5 : decode cX8_isFigure 5 = .ok (.invokestatic 115, 3) := by decide +kernel
theorem dX8_isFigure_8 : decode cX8_isFigure 8 = .ok (.ireturn, 1) := by decide +kernel
theorem dX8_readNumbers_0 : decode cX8_readNumbers 0 = .ok (.iconst 0, 1) := by decide +kernel
theorem dX8_readNumbers_1 : decode cX8_readNumbers 1 = .ok (.istore_n 2, 1) := by decide +kernel
theorem dX8_readNumbers_2 : decode cX8_readNumbers 2 = .ok (.iload_n 2, 1) := by decide +kernel
theorem dX8_readNumbers_3 : decode cX8_readNumbers 3 = .ok (.iload_n 1, 1) := by decide +kernel
theorem dX8_readNumbers_4 : decode cX8_readNumbers 4 = .ok (.if_icmp .ge 140, 3) := by decide +kernel
theorem dX8_readNumbers_7 : decode cX8_readNumbers 7 = .ok (.aload_n 0, 1) := by decide +kernel
theorem dX8_readNumbers_8 : decode cX8_readNumbers 8 = .ok (.aload_n 0, 1) := by decide +kernel
theorem dX8_readNumbers_9 : decode cX8_readNumbers 9 = .ok (.getfield 125, 3) := by decide +kernel
theorem dX8_readNumbers_12 : decode cX8_readNumbers 12 = .ok (.invokevirtual 128, 3) := by decide +kernel
theorem dX8_readNumbers_15 : decode cX8_readNumbers 15 = .ok (.invokestatic 132, 3) := by decide +kernel
theorem dX8_readNumbers_18 : decode cX8_readNumbers 18 = .ok (.ifCond .ne 5, 3) := by decide +kernel
theorem dX8_readNumbers_21 : decode cX8_readNumbers 21 = .ok (.iconst 0, 1) := by decide +kernel
theorem dX8_readNumbers_22 : decode cX8_readNumbers 22 = .ok (.ireturn, 1) := by decide +kernel
theorem dX8_readNumbers_23 : decode cX8_readNumbers 23 = .ok (.aload_n 0, 1) := by decide +kernel
theorem dX8_readNumbers_24 : decode cX8_readNumbers 24 = .ok (.getfield 37, 3) := by decide +kernel
theorem dX8_readNumbers_27 : decode cX8_readNumbers 27 = .ok (.iload_n 2, 1) := by decide +kernel
theorem dX8_readNumbers_28 : decode cX8_readNumbers 28 = .ok (.aload_n 0, 1) := by decide +kernel
theorem dX8_readNumbers_29 : decode cX8_readNumbers 29 = .ok (.aload_n 0, 1) := by decide +kernel
theorem dX8_readNumbers_30 : decode cX8_readNumbers 30 = .ok (.getfield 125, 3) := by decide +kernel
theorem dX8_readNumbers_33 : decode cX8_readNumbers 33 = .ok (.invokevirtual 128, 3) := by decide +kernel
theorem dX8_readNumbers_36 : decode cX8_readNumbers 36 = .ok (.bipush 48, 2) := by decide +kernel
theorem dX8_readNumbers_38 : decode cX8_readNumbers 38 = .ok (.isub, 1) := by decide +kernel
theorem dX8_readNumbers_39 : decode cX8_readNumbers 39 = .ok (.iastore, 1) := by decide +kernel
theorem dX8_readNumbers_40 : decode cX8_readNumbers 40 = .ok (.aload_n 0, 1) := by decide +kernel
theorem dX8_readNumbers_41 : decode cX8_readNumbers 41 = .ok (.dup, 1) := by decide +kernel
theorem dX8_readNumbers_42 : decode cX8_readNumbers 42 = .ok (.getfield 125, 3) := by decide +kernel
theorem dX8_readNumbers_45 : decode cX8_readNumbers 45 = .ok (.iconst 1, 1) := by decide +kernel
theorem dX8_readNumbers_46 : decode cX8_readNumbers 46 = .ok (.iadd, 1) := by decide +kernel
theorem dX8_readNumbers_47 : decode cX8_readNumbers 47 = .ok (.putfield 125, 3) := by decide +kernel
theorem dX8_readNumbers_50 : decode cX8_readNumbers 50 = .ok (.aload_n 0, 1) := by decide +kernel
theorem dX8_readNumbers_51 : decode cX8_readNumbers 51 = .ok (.aload_n 0, 1) := by decide +kernel
theorem dX8_readNumbers_52 : decode cX8_readNumbers 52 = .ok (.getfield 125, 3) := by decide +kernel
theorem dX8_readNumbers_55 : decode cX8_readNumbers 55 = .ok (.invokevirtual 128, 3) := by decide +kernel
theorem dX8_readNumbers_58 : decode cX8_readNumbers 58 = .ok (.invokestatic 132, 3) := by decide +kernel
theorem dX8_readNumbers_61 : decode cX8_readNumbers 61 = .ok (.ifCond .eq 40, 3) := by decide +kernel
theorem dX8_readNumbers_64 : decode cX8_readNumbers 64 = .ok (.aload_n 0, 1) := by decide +kernel
theorem dX8_readNumbers_65 : decode cX8_readNumbers 65 = .ok (.getfield 37, 3) := by decide +kernel
theorem dX8_readNumbers_68 : decode cX8_readNumbers 68 = .ok (.iload_n 2, 1) := by decide +kernel
theorem dX8_readNumbers_69 : decode cX8_readNumbers 69 = .ok (.bipush 10, 2) := by decide +kernel
theorem dX8_readNumbers_71 : decode cX8_readNumbers 71 = .ok (.aload_n 0, 1) := by decide +kernel
theorem dX8_readNumbers_72 : decode cX8_readNumbers 72 = .ok (.getfield 37, 3) := by decide +kernel
theorem dX8_readNumbers_75 : decode cX8_readNumbers 75 = .ok (.iload_n 2, 1) := by decide +kernel
theorem dX8_readNumbers_76 : decode cX8_readNumbers 76 = .ok (.iaload, 1) := by decide +kernel
theorem dX8_readNumbers_77 : decode cX8_readNumbers 77 = .ok (.imul, 1) := by decide +kernel
theorem dX8_readNumbers_78 : decode cX8_readNumbers 78 = .ok (.aload_n 0, 1) := by decide +kernel
theorem dX8_readNumbers_79 : decode cX8_readNumbers 79 = .ok (.aload_n 0, 1) := by decide +kernel
theorem dX8_readNumbers_80 : decode cX8_readNumbers 80 = .ok (.getfield 125, 3) := by decide +kernel
theorem dX8_readNumbers_83 : decode cX8_readNumbers 83 = .ok (.invokevirtual 128, 3) := by decide +kernel
theorem dX8_readNumbers_86 : decode cX8_readNumbers 86 = .ok (.iadd, 1) := by decide +kernel
theorem dX8_readNumbers_87 : decode cX8_readNumbers 87 = .ok (.bipush 48, 2) := by decide +kernel
theorem dX8_readNumbers_89 : decode cX8_readNumbers 89 = .ok (.isub, 1) := by decide +kernel
theorem dX8_readNumbers_90 : decode cX8_readNumbers 90 = .ok (.iastore, 1) := by decide +kernel
theorem dX8_readNumbers_91 : decode cX8_readNumbers 91 = .ok (.aload_n 0, 1) := by decide +kernel
theorem dX8_readNumbers_92 : decode cX8_readNumbers 92 = .ok (.dup, 1) := by decide +kernel
theorem dX8_readNumbers_93 : decode cX8_readNumbers 93 = .ok (.getfield 125, 3) := by decide +kernel
theorem dX8_readNumbers_96 : decode cX8_readNumbers 96 = .ok (.iconst 1, 1) := by decide +kernel
theorem dX8_readNumbers_97 : decode cX8_readNumbers 97 = .ok (.iadd, 1) := by decide +kernel
theorem dX8_readNumbers_98 : decode cX8_readNumbers 98 = .ok (.putfield 125, 3) := by decide +kernel
theorem dX8_readNumbers_101 : decode cX8_readNumbers 101 = .ok (.aload_n 0, 1) := by decide +kernel
theorem dX8_readNumbers_102 : decode cX8_readNumbers 102 = .ok (.aload_n 0, 1) := by decide +kernel
theorem dX8_readNumbers_103 : decode cX8_readNumbers 103 = .ok (.getfield 125, 3) := by decide +kernel
theorem dX8_readNumbers_106 : decode cX8_readNumbers 106 = .ok (.invokevirtual 128, 3) := by decide +kernel
theorem dX8_readNumbers_109 : decode cX8_readNumbers 109 = .ok (.iload_n 2, 1) := by decide +kernel
theorem dX8_readNumbers_110 : decode cX8_readNumbers 110 = .ok (.iload_n 1, 1) := by decide +kernel
theorem dX8_readNumbers_111 : decode cX8_readNumbers 111 = .ok (.iconst 1, 1) := by decide +kernel
theorem dX8_readNumbers_112 : decode cX8_readNumbers 112 = .ok (.isub, 1) := by decide +kernel
theorem dX8_readNumbers_113 : decode cX8_readNumbers 113 = .ok (.if_icmp .ge 8, 3) := by decide +kernel
theorem dX8_readNumbers_116 : decode cX8_readNumbers 116 = .ok (.bipush 44, 2) := by decide +kernel
theorem dX8_readNumbers_118 : decode cX8_readNumbers 118 = .ok (.goto 5, 3) := by decide +kernel
theorem dX8_readNumbers_121 : decode cX8_readNumbers 121 = .ok (.bipush 59, 2) := by decide +kernel
theorem dX8_readNumbers_123 : decode cX8_readNumbers 123 = .ok (.if_icmp .eq 5, 3) := by decide +kernel
theorem dX8_readNumbers_126 : decode cX8_readNumbers 126 = .ok (.iconst 0, 1) := by decide +kernel
theorem dX8_readNumbers_127 : decode cX8_readNumbers 127 = .ok (.ireturn, 1) := by decide +kernel
theorem dX8_readNumbers_128 : decode cX8_readNumbers 128 = .ok (.aload_n 0, 1) := by decide +kernel
theorem dX8_readNumbers_129 : decode cX8_readNumbers 129 = .ok (.dup, 1) := by decide +kernel
theorem dX8_readNumbers_130 : decode cX8_readNumbers 130 = .ok (.getfield 125, 3) := by decide +kernel
theorem dX8_readNumbers_133 : decode cX8_readNumbers 133 = .ok (.iconst 1, 1) := by decide +kernel
theorem dX8_readNumbers_134 : decode cX8_readNumbers 134 = .ok (.iadd, 1) := by decide +kernel
theorem dX8_readNumbers_135 : decode cX8_readNumbers 135 = .ok (.putfield 125, 3) := by decide +kernel
theorem dX8_readNumbers_138 : decode cX8_readNumbers 138 = .ok (.iinc 2 1, 3) := by decide +kernel
theorem dX8_readNumbers_141 : decode cX8_readNumbers 141 = .ok (.goto (-139), 3) := by decide +kernel
theorem dX8_readNumbers_144 : decode cX8_readNumbers 144 = .ok (.iconst 1, 1) := by decide +kernel
theorem dX8_readNumbers_145 : decode cX8_readNumbers 145 = .ok (.ireturn, 1) := by decide +kernel
theorem dX8_isTold_0 : decode cX8_isTold 0 = .ok (.aload_n 0, 1) := by decide +kernel
theorem dX8_isTold_1 : decode cX8_isTold 1 = .ok (.getfield 37, 3) := by decide +kernel
theorem dX8_isTold_4 : decode cX8_isTold 4 = .ok (.iload_n 1, 1) := by decide +kernel
theorem dX8_isTold_5 : decode cX8_isTold 5 = .ok (.iaload, 1) := by decide +kernel
theorem dX8_isTold_6 : decode cX8_isTold 6 = .ok (.iload_n 2, 1) := by decide +kernel
theorem dX8_isTold_7 : decode cX8_isTold 7 = .ok (.iload_n 3, 1) := by decide +kernel
theorem dX8_isTold_8 : decode cX8_isTold 8 = .ok (.invokestatic 115, 3) := by decide +kernel
theorem dX8_isTold_11 : decode cX8_isTold 11 = .ok (.ireturn, 1) := by decide +kernel
theorem dX8_clearTold_0 : decode cX8_clearTold 0 = .ok (.aload_n 0, 1) := by decide +kernel
theorem dX8_clearTold_1 : decode cX8_clearTold 1 = .ok (.iconst 0, 1) := by decide +kernel
theorem dX8_clearTold_2 : decode cX8_clearTold 2 = .ok (.putfield 106, 3) := by decide +kernel
theorem dX8_clearTold_5 : decode cX8_clearTold 5 = .ok (.aload_n 0, 1) := by decide +kernel
theorem dX8_clearTold_6 : decode cX8_clearTold 6 = .ok (.iconst 0, 1) := by decide +kernel
theorem dX8_clearTold_7 : decode cX8_clearTold 7 = .ok (.putfield 103, 3) := by decide +kernel
theorem dX8_clearTold_10 : decode cX8_clearTold 10 = .ok (.aload_n 0, 1) := by decide +kernel
theorem dX8_clearTold_11 : decode cX8_clearTold 11 = .ok (.iconst 0, 1) := by decide +kernel
theorem dX8_clearTold_12 : decode cX8_clearTold 12 = .ok (.putfield 109, 3) := by decide +kernel
theorem dX8_clearTold_15 : decode cX8_clearTold 15 = .ok (.aload_n 0, 1) := by decide +kernel
theorem dX8_clearTold_16 : decode cX8_clearTold 16 = .ok (.bipush (-4), 2) := by decide +kernel
theorem dX8_clearTold_18 : decode cX8_clearTold 18 = .ok (.putfield 90, 3) := by decide +kernel
theorem dX8_clearTold_21 : decode cX8_clearTold 21 = .ok (.aload_n 0, 1) := by decide +kernel
theorem dX8_clearTold_22 : decode cX8_clearTold 22 = .ok (.iconst 4, 1) := by decide +kernel
theorem dX8_clearTold_23 : decode cX8_clearTold 23 = .ok (.putfield 94, 3) := by decide +kernel
theorem dX8_clearTold_26 : decode cX8_clearTold 26 = .ok (.aload_n 0, 1) := by decide +kernel
theorem dX8_clearTold_27 : decode cX8_clearTold 27 = .ok (.iconst 0, 1) := by decide +kernel
theorem dX8_clearTold_28 : decode cX8_clearTold 28 = .ok (.putfield 97, 3) := by decide +kernel
theorem dX8_clearTold_31 : decode cX8_clearTold 31 = .ok (.iconst 0, 1) := by decide +kernel
theorem dX8_clearTold_32 : decode cX8_clearTold 32 = .ok (.istore_n 1, 1) := by decide +kernel
theorem dX8_clearTold_33 : decode cX8_clearTold 33 = .ok (.iload_n 1, 1) := by decide +kernel
theorem dX8_clearTold_34 : decode cX8_clearTold 34 = .ok (.bipush 9, 2) := by decide +kernel
theorem dX8_clearTold_36 : decode cX8_clearTold 36 = .ok (.if_icmp .ge 16, 3) := by decide +kernel
theorem dX8_clearTold_39 : decode cX8_clearTold 39 = .ok (.aload_n 0, 1) := by decide +kernel
theorem dX8_clearTold_40 : decode cX8_clearTold 40 = .ok (.getfield 52, 3) := by decide +kernel
theorem dX8_clearTold_43 : decode cX8_clearTold 43 = .ok (.iload_n 1, 1) := by decide +kernel
theorem dX8_clearTold_44 : decode cX8_clearTold 44 = .ok (.iconst 0, 1) := by decide +kernel
theorem dX8_clearTold_45 : decode cX8_clearTold 45 = .ok (.iastore, 1) := by decide +kernel
theorem dX8_clearTold_46 : decode cX8_clearTold 46 = .ok (.iinc 1 1, 3) := by decide +kernel
theorem dX8_clearTold_49 : decode cX8_clearTold 49 = .ok (.goto (-16), 3) := by decide +kernel
theorem dX8_clearTold_52 : decode cX8_clearTold 52 = .ok (.return_, 1) := by decide +kernel
theorem dX8_readRow_0 : decode cX8_readRow 0 = .ok (.iconst 0, 1) := by decide +kernel
theorem dX8_readRow_1 : decode cX8_readRow 1 = .ok (.istore_n 1, 1) := by decide +kernel
theorem dX8_readRow_2 : decode cX8_readRow 2 = .ok (.aload_n 0, 1) := by decide +kernel
theorem dX8_readRow_3 : decode cX8_readRow 3 = .ok (.getfield 106, 3) := by decide +kernel
theorem dX8_readRow_6 : decode cX8_readRow 6 = .ok (.ifCond .le 19, 3) := by decide +kernel
theorem dX8_readRow_9 : decode cX8_readRow 9 = .ok (.aload_n 0, 1) := by decide +kernel
theorem dX8_readRow_10 : decode cX8_readRow 10 = .ok (.getfield 106, 3) := by decide +kernel
theorem dX8_readRow_13 : decode cX8_readRow 13 = .ok (.aload_n 0, 1) := by decide +kernel
theorem dX8_readRow_14 : decode cX8_readRow 14 = .ok (.getfield 103, 3) := by decide +kernel
theorem dX8_readRow_17 : decode cX8_readRow 17 = .ok (.idiv, 1) := by decide +kernel
theorem dX8_readRow_18 : decode cX8_readRow 18 = .ok (.bipush 6, 2) := by decide +kernel
theorem dX8_readRow_20 : decode cX8_readRow 20 = .ok (.if_icmp .ne 5, 3) := by decide +kernel
theorem dX8_readRow_23 : decode cX8_readRow 23 = .ok (.iconst 0, 1) := by decide +kernel
theorem dX8_readRow_24 : decode cX8_readRow 24 = .ok (.ireturn, 1) := by decide +kernel
theorem dX8_readRow_25 : decode cX8_readRow 25 = .ok (.aload_n 0, 1) := by decide +kernel
theorem dX8_readRow_26 : decode cX8_readRow 26 = .ok (.aload_n 0, 1) := by decide +kernel
theorem dX8_readRow_27 : decode cX8_readRow 27 = .ok (.getfield 125, 3) := by decide +kernel
theorem dX8_readRow_30 : decode cX8_readRow 30 = .ok (.invokevirtual 128, 3) := by decide +kernel
theorem dX8_readRow_33 : decode cX8_readRow 33 = .ok (.invokestatic 132, 3) := by decide +kernel
theorem dX8_readRow_36 : decode cX8_readRow 36 = .ok (.ifCond .eq 47, 3) := by decide +kernel
theorem dX8_readRow_39 : decode cX8_readRow 39 = .ok (.iload_n 1, 1) := by decide +kernel
theorem dX8_readRow_40 : decode cX8_readRow 40 = .ok (.bipush 6, 2) := by decide +kernel
theorem dX8_readRow_42 : decode cX8_readRow 42 = .ok (.if_icmp .ge 41, 3) := by decide +kernel
theorem dX8_readRow_45 : decode cX8_readRow 45 = .ok (.aload_n 0, 1) := by decide +kernel
theorem dX8_readRow_46 : decode cX8_readRow 46 = .ok (.getfield 40, 3) := by decide +kernel
theorem dX8_readRow_49 : decode cX8_readRow 49 = .ok (.aload_n 0, 1) := by decide +kernel
theorem dX8_readRow_50 : decode cX8_readRow 50 = .ok (.getfield 106, 3) := by decide +kernel
theorem dX8_readRow_53 : decode cX8_readRow 53 = .ok (.iload_n 1, 1) := by decide +kernel
theorem dX8_readRow_54 : decode cX8_readRow 54 = .ok (.iadd, 1) := by decide +kernel
theorem dX8_readRow_55 : decode cX8_readRow 55 = .ok (.aload_n 0, 1) := by decide +kernel
theorem dX8_readRow_56 : decode cX8_readRow 56 = .ok (.aload_n 0, 1) := by decide +kernel
theorem dX8_readRow_57 : decode cX8_readRow 57 = .ok (.getfield 125, 3) := by decide +kernel
theorem dX8_readRow_60 : decode cX8_readRow 60 = .ok (.invokevirtual 128, 3) := by decide +kernel
theorem dX8_readRow_63 : decode cX8_readRow 63 = .ok (.bipush 48, 2) := by decide +kernel
theorem dX8_readRow_65 : decode cX8_readRow 65 = .ok (.isub, 1) := by decide +kernel
theorem dX8_readRow_66 : decode cX8_readRow 66 = .ok (.iastore, 1) := by decide +kernel
theorem dX8_readRow_67 : decode cX8_readRow 67 = .ok (.iinc 1 1, 3) := by decide +kernel
theorem dX8_readRow_70 : decode cX8_readRow 70 = .ok (.aload_n 0, 1) := by decide +kernel
theorem dX8_readRow_71 : decode cX8_readRow 71 = .ok (.dup, 1) := by decide +kernel
theorem dX8_readRow_72 : decode cX8_readRow 72 = .ok (.getfield 125, 3) := by decide +kernel
theorem dX8_readRow_75 : decode cX8_readRow 75 = .ok (.iconst 1, 1) := by decide +kernel
theorem dX8_readRow_76 : decode cX8_readRow 76 = .ok (.iadd, 1) := by decide +kernel
theorem dX8_readRow_77 : decode cX8_readRow 77 = .ok (.putfield 125, 3) := by decide +kernel
theorem dX8_readRow_80 : decode cX8_readRow 80 = .ok (.goto (-55), 3) := by decide +kernel
theorem dX8_readRow_83 : decode cX8_readRow 83 = .ok (.iload_n 1, 1) := by decide +kernel
theorem dX8_readRow_84 : decode cX8_readRow 84 = .ok (.ifCond .le 35, 3) := by decide +kernel
theorem dX8_readRow_87 : decode cX8_readRow 87 = .ok (.aload_n 0, 1) := by decide +kernel
theorem dX8_readRow_88 : decode cX8_readRow 88 = .ok (.getfield 106, 3) := by decide +kernel
theorem dX8_readRow_91 : decode cX8_readRow 91 = .ok (.ifCond .eq 11, 3) := by decide +kernel
theorem dX8_readRow_94 : decode cX8_readRow 94 = .ok (.iload_n 1, 1) := by decide +kernel
theorem dX8_readRow_95 : decode cX8_readRow 95 = .ok (.aload_n 0, 1) := by decide +kernel
theorem dX8_readRow_96 : decode cX8_readRow 96 = .ok (.getfield 103, 3) := by decide +kernel
theorem dX8_readRow_99 : decode cX8_readRow 99 = .ok (.if_icmp .ne 20, 3) := by decide +kernel
theorem dX8_readRow_102 : decode cX8_readRow 102 = .ok (.aload_n 0, 1) := by decide +kernel
theorem dX8_readRow_103 : decode cX8_readRow 103 = .ok (.aload_n 0, 1) := by decide +kernel
theorem dX8_readRow_104 : decode cX8_readRow 104 = .ok (.getfield 125, 3) := by decide +kernel
theorem dX8_readRow_107 : decode cX8_readRow 107 = .ok (.invokevirtual 128, 3) := by decide +kernel
theorem dX8_readRow_110 : decode cX8_readRow 110 = .ok (.bipush 59, 2) := by decide +kernel
theorem dX8_readRow_112 : decode cX8_readRow 112 = .ok (.if_icmp .ne 7, 3) := by decide +kernel
theorem dX8_readRow_115 : decode cX8_readRow 115 = .ok (.iconst 1, 1) := by decide +kernel
theorem dX8_readRow_116 : decode cX8_readRow 116 = .ok (.goto 4, 3) := by decide +kernel
theorem dX8_readRow_119 : decode cX8_readRow 119 = .ok (.iconst 0, 1) := by decide +kernel
theorem dX8_readRow_120 : decode cX8_readRow 120 = .ok (.istore_n 2, 1) := by decide +kernel
theorem dX8_readRow_121 : decode cX8_readRow 121 = .ok (.aload_n 0, 1) := by decide +kernel
theorem dX8_readRow_122 : decode cX8_readRow 122 = .ok (.dup, 1) := by decide +kernel
theorem dX8_readRow_123 : decode cX8_readRow 123 = .ok (.getfield 125, 3) := by decide +kernel
theorem dX8_readRow_126 : decode cX8_readRow 126 = .ok (.iconst 1, 1) := by decide +kernel
theorem dX8_readRow_127 : decode cX8_readRow 127 = .ok (.iadd, 1) := by decide +kernel
theorem dX8_readRow_128 : decode cX8_readRow 128 = .ok (.putfield 125, 3) := by decide +kernel
theorem dX8_readRow_131 : decode cX8_readRow 131 = .ok (.iload_n 2, 1) := by decide +kernel
theorem dX8_readRow_132 : decode cX8_readRow 132 = .ok (.ifCond .eq 18, 3) := by decide +kernel
theorem dX8_readRow_135 : decode cX8_readRow 135 = .ok (.aload_n 0, 1) := by decide +kernel
theorem dX8_readRow_136 : decode cX8_readRow 136 = .ok (.iload_n 1, 1) := by decide +kernel
theorem dX8_readRow_137 : decode cX8_readRow 137 = .ok (.putfield 103, 3) := by decide +kernel
theorem dX8_readRow_140 : decode cX8_readRow 140 = .ok (.aload_n 0, 1) := by decide +kernel
theorem dX8_readRow_141 : decode cX8_readRow 141 = .ok (.dup, 1) := by decide +kernel
theorem dX8_readRow_142 : decode cX8_readRow 142 = .ok (.getfield 106, 3) := by decide +kernel
theorem dX8_readRow_145 : decode cX8_readRow 145 = .ok (.iload_n 1, 1) := by decide +kernel
theorem dX8_readRow_146 : decode cX8_readRow 146 = .ok (.iadd, 1) := by decide +kernel
theorem dX8_readRow_147 : decode cX8_readRow 147 = .ok (.putfield 106, 3) := by decide +kernel
theorem dX8_readRow_150 : decode cX8_readRow 150 = .ok (.iload_n 2, 1) := by decide +kernel
theorem dX8_readRow_151 : decode cX8_readRow 151 = .ok (.ireturn, 1) := by decide +kernel
theorem dX8_isDry_0 : decode cX8_isDry 0 = .ok (.aload_n 0, 1) := by decide +kernel
theorem dX8_isDry_1 : decode cX8_isDry 1 = .ok (.iload_n 1, 1) := by decide +kernel
theorem dX8_isDry_2 : decode cX8_isDry 2 = .ok (.iconst 0, 1) := by decide +kernel
theorem dX8_isDry_3 : decode cX8_isDry 3 = .ok (.aload_n 0, 1) := by decide +kernel
theorem dX8_isDry_4 : decode cX8_isDry 4 = .ok (.getfield 106, 3) := by decide +kernel
theorem dX8_isDry_7 : decode cX8_isDry 7 = .ok (.iconst 1, 1) := by decide +kernel
theorem dX8_isDry_8 : decode cX8_isDry 8 = .ok (.isub, 1) := by decide +kernel
theorem dX8_isDry_9 : decode cX8_isDry 9 = .ok (.invokevirtual 136, 3) := by decide +kernel
theorem dX8_isDry_12 : decode cX8_isDry 12 = .ok (.ifCond .eq 23, 3) := by decide +kernel
theorem dX8_isDry_15 : decode cX8_isDry 15 = .ok (.aload_n 0, 1) := by decide +kernel
theorem dX8_isDry_16 : decode cX8_isDry 16 = .ok (.getfield 40, 3) := by decide +kernel
theorem dX8_isDry_19 : decode cX8_isDry 19 = .ok (.aload_n 0, 1) := by decide +kernel
theorem dX8_isDry_20 : decode cX8_isDry 20 = .ok (.getfield 37, 3) := by decide +kernel
theorem dX8_isDry_23 : decode cX8_isDry 23 = .ok (.iload_n 1, 1) := by decide +kernel
theorem dX8_isDry_24 : decode cX8_isDry 24 = .ok (.iaload, 1) := by decide +kernel
theorem dX8_isDry_25 : decode cX8_isDry 25 = .ok (.iaload, 1) := by decide +kernel
theorem dX8_isDry_26 : decode cX8_isDry 26 = .ok (.bipush 9, 2) := by decide +kernel
theorem dX8_isDry_28 : decode cX8_isDry 28 = .ok (.if_icmp .eq 7, 3) := by decide +kernel
theorem dX8_isDry_31 : decode cX8_isDry 31 = .ok (.iconst 1, 1) := by decide +kernel
theorem dX8_isDry_32 : decode cX8_isDry 32 = .ok (.goto 4, 3) := by decide +kernel
theorem dX8_isDry_35 : decode cX8_isDry 35 = .ok (.iconst 0, 1) := by decide +kernel
theorem dX8_isDry_36 : decode cX8_isDry 36 = .ok (.ireturn, 1) := by decide +kernel
theorem dX8_readBeastItem_0 : decode cX8_readBeastItem 0 = .ok (.aload_n 0, 1) := by decide +kernel
theorem dX8_readBeastItem_1 : decode cX8_readBeastItem 1 = .ok (.getfield 109, 3) := by decide +kernel
theorem dX8_readBeastItem_4 : decode cX8_readBeastItem 4 = .ok (.bipush 8, 2) := by decide +kernel
theorem dX8_readBeastItem_6 : decode cX8_readBeastItem 6 = .ok (.if_icmp .eq 39, 3) := by decide +kernel
theorem dX8_readBeastItem_9 : decode cX8_readBeastItem 9 = .ok (.aload_n 0, 1) := by decide +kernel
theorem dX8_readBeastItem_10 : decode cX8_readBeastItem 10 = .ok (.iconst 3, 1) := by decide +kernel
theorem dX8_readBeastItem_11 : decode cX8_readBeastItem 11 = .ok (.invokevirtual 139, 3) := by decide +kernel
theorem dX8_readBeastItem_14 : decode cX8_readBeastItem 14 = .ok (.ifCond .eq 31, 3) := by decide +kernel
theorem dX8_readBeastItem_17 : decode cX8_readBeastItem 17 = .ok (.aload_n 0, 1) := by decide +kernel
theorem dX8_readBeastItem_18 : decode cX8_readBeastItem 18 = .ok (.iconst 0, 1) := by decide +kernel
theorem dX8_readBeastItem_19 : decode cX8_readBeastItem 19 = .ok (.iconst 0, 1) := by decide +kernel
theorem dX8_readBeastItem_20 : decode cX8_readBeastItem 20 = .ok (.iconst 3, 1) := by decide +kernel
theorem dX8_readBeastItem_21 : decode cX8_readBeastItem 21 = .ok (.invokevirtual 136, 3) := by decide +kernel
theorem dX8_readBeastItem_24 : decode cX8_readBeastItem 24 = .ok (.ifCond .eq 21, 3) := by decide +kernel
theorem dX8_readBeastItem_27 : decode cX8_readBeastItem 27 = .ok (.aload_n 0, 1) := by decide +kernel
theorem dX8_readBeastItem_28 : decode cX8_readBeastItem 28 = .ok (.iconst 1, 1) := by decide +kernel
theorem dX8_readBeastItem_29 : decode cX8_readBeastItem 29 = .ok (.iconst 0, 1) := by decide +kernel
theorem dX8_readBeastItem_30 : decode cX8_readBeastItem 30 = .ok (.iconst 1, 1) := by decide +kernel
theorem dX8_readBeastItem_31 : decode cX8_readBeastItem 31 = .ok (.invokevirtual 136, 3) := by decide +kernel
theorem dX8_readBeastItem_34 : decode cX8_readBeastItem 34 = .ok (.ifCond .eq 11, 3) := by decide +kernel
theorem dX8_readBeastItem_37 : decode cX8_readBeastItem 37 = .ok (.aload_n 0, 1) := by decide +kernel
theorem dX8_readBeastItem_38 : decode cX8_readBeastItem 38 = .ok (.iconst 2, 1) := by decide +kernel
theorem dX8_readBeastItem_39 : decode cX8_readBeastItem 39 = .ok (.invokevirtual 142, 3) := by decide +kernel
theorem dX8_readBeastItem_42 : decode cX8_readBeastItem 42 = .ok (.ifCond .ne 5, 3) := by decide +kernel
theorem dX8_readBeastItem_45 : decode cX8_readBeastItem 45 = .ok (.iconst 0, 1) := by decide +kernel
theorem dX8_readBeastItem_46 : decode cX8_readBeastItem 46 = .ok (.ireturn, 1) := by decide +kernel
theorem dX8_readBeastItem_47 : decode cX8_readBeastItem 47 = .ok (.iconst 1, 1) := by decide +kernel
theorem dX8_readBeastItem_48 : decode cX8_readBeastItem 48 = .ok (.istore_n 1, 1) := by decide +kernel
theorem dX8_readBeastItem_49 : decode cX8_readBeastItem 49 = .ok (.iconst 0, 1) := by decide +kernel
theorem dX8_readBeastItem_50 : decode cX8_readBeastItem 50 = .ok (.istore_n 2, 1) := by decide +kernel
theorem dX8_readBeastItem_51 : decode cX8_readBeastItem 51 = .ok (.iload_n 2, 1) := by decide +kernel
theorem dX8_readBeastItem_52 : decode cX8_readBeastItem 52 = .ok (.aload_n 0, 1) := by decide +kernel
theorem dX8_readBeastItem_53 : decode cX8_readBeastItem 53 = .ok (.getfield 109, 3) := by decide +kernel
theorem dX8_readBeastItem_56 : decode cX8_readBeastItem 56 = .ok (.if_icmp .ge 34, 3) := by decide +kernel
theorem dX8_readBeastItem_59 : decode cX8_readBeastItem 59 = .ok (.iload_n 1, 1) := by decide +kernel
theorem dX8_readBeastItem_60 : decode cX8_readBeastItem 60 = .ok (.ifCond .eq 22, 3) := by decide +kernel
theorem dX8_readBeastItem_63 : decode cX8_readBeastItem 63 = .ok (.aload_n 0, 1) := by decide +kernel
theorem dX8_readBeastItem_64 : decode cX8_readBeastItem 64 = .ok (.getfield 49, 3) := by decide +kernel
theorem dX8_readBeastItem_67 : decode cX8_readBeastItem 67 = .ok (.iload_n 2, 1) := by decide +kernel
theorem dX8_readBeastItem_68 : decode cX8_readBeastItem 68 = .ok (.iaload, 1) := by decide +kernel
theorem dX8_readBeastItem_69 : decode cX8_readBeastItem 69 = .ok (.aload_n 0, 1) := by decide +kernel
theorem dX8_readBeastItem_70 : decode cX8_readBeastItem 70 = .ok (.getfield 37, 3) := by decide +kernel
theorem dX8_readBeastItem_73 : decode cX8_readBeastItem 73 = .ok (.iconst 2, 1) := by decide +kernel
theorem dX8_readBeastItem_74 : decode cX8_readBeastItem 74 = .ok (.iaload, 1) := by decide +kernel
theorem dX8_readBeastItem_75 : decode cX8_readBeastItem 75 = .ok (.if_icmp .eq 7, 3) := by decide +kernel
theorem dX8_readBeastItem_78 : decode cX8_readBeastItem 78 = .ok (.iconst 1, 1) := by decide +kernel
theorem dX8_readBeastItem_79 : decode cX8_readBeastItem 79 = .ok (.goto 4, 3) := by decide +kernel
theorem dX8_readBeastItem_82 : decode cX8_readBeastItem 82 = .ok (.iconst 0, 1) := by decide +kernel
theorem dX8_readBeastItem_83 : decode cX8_readBeastItem 83 = .ok (.istore_n 1, 1) := by decide +kernel
theorem dX8_readBeastItem_84 : decode cX8_readBeastItem 84 = .ok (.iinc 2 1, 3) := by decide +kernel
theorem dX8_readBeastItem_87 : decode cX8_readBeastItem 87 = .ok (.goto (-36), 3) := by decide +kernel
theorem dX8_readBeastItem_90 : decode cX8_readBeastItem 90 = .ok (.iload_n 1, 1) := by decide +kernel
theorem dX8_readBeastItem_91 : decode cX8_readBeastItem 91 = .ok (.ifCond .eq 25, 3) := by decide +kernel
theorem dX8_readBeastItem_94 : decode cX8_readBeastItem 94 = .ok (.aload_n 0, 1) := by decide +kernel
theorem dX8_readBeastItem_95 : decode cX8_readBeastItem 95 = .ok (.aload_n 0, 1) := by decide +kernel
theorem dX8_readBeastItem_96 : decode cX8_readBeastItem 96 = .ok (.getfield 37, 3) := by decide +kernel
theorem dX8_readBeastItem_99 : decode cX8_readBeastItem 99 = .ok (.iconst 0, 1) := by decide +kernel
theorem dX8_readBeastItem_100 : decode cX8_readBeastItem 100 = .ok (.iaload, 1) := by decide +kernel
theorem dX8_readBeastItem_101 : decode cX8_readBeastItem 101 = .ok (.aload_n 0, 1) := by decide +kernel
theorem dX8_readBeastItem_102 : decode cX8_readBeastItem 102 = .ok (.getfield 37, 3) := by decide +kernel
theorem dX8_readBeastItem_105 : decode cX8_readBeastItem 105 = .ok (.iconst 1, 1) := by decide +kernel
theorem dX8_readBeastItem_106 : decode cX8_readBeastItem 106 = .ok (.iaload, 1) := by decide +kernel
theorem dX8_readBeastItem_107 : decode cX8_readBeastItem 107 = .ok (.aload_n 0, 1) := by decide +kernel
theorem dX8_readBeastItem_108 : decode cX8_readBeastItem 108 = .ok (.getfield 37, 3) := by decide +kernel
theorem dX8_readBeastItem_111 : decode cX8_readBeastItem 111 = .ok (.iconst 2, 1) := by decide +kernel
theorem dX8_readBeastItem_112 : decode cX8_readBeastItem 112 = .ok (.iaload, 1) := by decide +kernel
theorem dX8_readBeastItem_113 : decode cX8_readBeastItem 113 = .ok (.invokevirtual 86, 3) := by decide +kernel
theorem dX8_readBeastItem_116 : decode cX8_readBeastItem 116 = .ok (.iload_n 1, 1) := by decide +kernel
theorem dX8_readBeastItem_117 : decode cX8_readBeastItem 117 = .ok (.ireturn, 1) := by decide +kernel
theorem dX8_readItem_0 : decode cX8_readItem 0 = .ok (.aload_n 0, 1) := by decide +kernel
theorem dX8_readItem_1 : decode cX8_readItem 1 = .ok (.aload_n 0, 1) := by decide +kernel
theorem dX8_readItem_2 : decode cX8_readItem 2 = .ok (.getfield 125, 3) := by decide +kernel
theorem dX8_readItem_5 : decode cX8_readItem 5 = .ok (.invokevirtual 128, 3) := by decide +kernel
theorem dX8_readItem_8 : decode cX8_readItem 8 = .ok (.istore_n 1, 1) := by decide +kernel
theorem dX8_readItem_9 : decode cX8_readItem 9 = .ok (.aload_n 0, 1) := by decide +kernel
theorem dX8_readItem_10 : decode cX8_readItem 10 = .ok (.dup, 1) := by decide +kernel
theorem dX8_readItem_11 : decode cX8_readItem 11 = .ok (.getfield 125, 3) := by decide +kernel
theorem dX8_readItem_14 : decode cX8_readItem 14 = .ok (.iconst 1, 1) := by decide +kernel
theorem dX8_readItem_15 : decode cX8_readItem 15 = .ok (.iadd, 1) := by decide +kernel
theorem dX8_readItem_16 : decode cX8_readItem 16 = .ok (.putfield 125, 3) := by decide +kernel
theorem dX8_readItem_19 : decode cX8_readItem 19 = .ok (.iload_n 1, 1) := by decide +kernel
theorem dX8_readItem_20 : decode cX8_readItem 20 = .ok (.lookupswitch 181 #[(98, 57), (104, 92), (114, 52), (115, 125), (119, 62)], 52) := by decide +kernel
theorem dX8_readItem_72 : decode cX8_readItem 72 = .ok (.aload_n 0, 1) := by decide +kernel
theorem dX8_readItem_73 : decode cX8_readItem 73 = .ok (.invokevirtual 145, 3) := by decide +kernel
theorem dX8_readItem_76 : decode cX8_readItem 76 = .ok (.ireturn, 1) := by decide +kernel
theorem dX8_readItem_77 : decode cX8_readItem 77 = .ok (.aload_n 0, 1) := by decide +kernel
theorem dX8_readItem_78 : decode cX8_readItem 78 = .ok (.invokevirtual 149, 3) := by decide +kernel
theorem dX8_readItem_81 : decode cX8_readItem 81 = .ok (.ireturn, 1) := by decide +kernel
theorem dX8_readItem_82 : decode cX8_readItem 82 = .ok (.aload_n 0, 1) := by decide +kernel
theorem dX8_readItem_83 : decode cX8_readItem 83 = .ok (.iconst 1, 1) := by decide +kernel
theorem dX8_readItem_84 : decode cX8_readItem 84 = .ok (.invokevirtual 139, 3) := by decide +kernel
theorem dX8_readItem_87 : decode cX8_readItem 87 = .ok (.ifCond .eq 11, 3) := by decide +kernel
theorem dX8_readItem_90 : decode cX8_readItem 90 = .ok (.aload_n 0, 1) := by decide +kernel
theorem dX8_readItem_91 : decode cX8_readItem 91 = .ok (.iconst 0, 1) := by decide +kernel
theorem dX8_readItem_92 : decode cX8_readItem 92 = .ok (.invokevirtual 142, 3) := by decide +kernel
theorem dX8_readItem_95 : decode cX8_readItem 95 = .ok (.ifCond .ne 5, 3) := by decide +kernel
theorem dX8_readItem_98 : decode cX8_readItem 98 = .ok (.iconst 0, 1) := by decide +kernel
theorem dX8_readItem_99 : decode cX8_readItem 99 = .ok (.ireturn, 1) := by decide +kernel
theorem dX8_readItem_100 : decode cX8_readItem 100 = .ok (.aload_n 0, 1) := by decide +kernel
theorem dX8_readItem_101 : decode cX8_readItem 101 = .ok (.aload_n 0, 1) := by decide +kernel
theorem dX8_readItem_102 : decode cX8_readItem 102 = .ok (.getfield 37, 3) := by decide +kernel
theorem dX8_readItem_105 : decode cX8_readItem 105 = .ok (.iconst 0, 1) := by decide +kernel
theorem dX8_readItem_106 : decode cX8_readItem 106 = .ok (.iaload, 1) := by decide +kernel
theorem dX8_readItem_107 : decode cX8_readItem 107 = .ok (.putfield 90, 3) := by decide +kernel
theorem dX8_readItem_110 : decode cX8_readItem 110 = .ok (.iconst 1, 1) := by decide +kernel
theorem dX8_readItem_111 : decode cX8_readItem 111 = .ok (.ireturn, 1) := by decide +kernel
theorem dX8_readItem_112 : decode cX8_readItem 112 = .ok (.aload_n 0, 1) := by decide +kernel
theorem dX8_readItem_113 : decode cX8_readItem 113 = .ok (.iconst 1, 1) := by decide +kernel
theorem dX8_readItem_114 : decode cX8_readItem 114 = .ok (.invokevirtual 139, 3) := by decide +kernel
theorem dX8_readItem_117 : decode cX8_readItem 117 = .ok (.ifCond .eq 14, 3) := by decide +kernel
theorem dX8_readItem_120 : decode cX8_readItem 120 = .ok (.aload_n 0, 1) := by decide +kernel
theorem dX8_readItem_121 : decode cX8_readItem 121 = .ok (.iconst 0, 1) := by decide +kernel
theorem dX8_readItem_122 : decode cX8_readItem 122 = .ok (.iconst 1, 1) := by decide +kernel
theorem dX8_readItem_123 : decode cX8_readItem 123 = .ok (.bipush 9, 2) := by decide +kernel
theorem dX8_readItem_125 : decode cX8_readItem 125 = .ok (.invokevirtual 136, 3) := by decide +kernel
theorem dX8_readItem_128 : decode cX8_readItem 128 = .ok (.ifCond .ne 5, 3) := by decide +kernel
theorem dX8_readItem_131 : decode cX8_readItem 131 = .ok (.iconst 0, 1) := by decide +kernel
theorem dX8_readItem_132 : decode cX8_readItem 132 = .ok (.ireturn, 1) := by decide +kernel
theorem dX8_readItem_133 : decode cX8_readItem 133 = .ok (.aload_n 0, 1) := by decide +kernel
theorem dX8_readItem_134 : decode cX8_readItem 134 = .ok (.aload_n 0, 1) := by decide +kernel
theorem dX8_readItem_135 : decode cX8_readItem 135 = .ok (.getfield 37, 3) := by decide +kernel
theorem dX8_readItem_138 : decode cX8_readItem 138 = .ok (.iconst 0, 1) := by decide +kernel
theorem dX8_readItem_139 : decode cX8_readItem 139 = .ok (.iaload, 1) := by decide +kernel
theorem dX8_readItem_140 : decode cX8_readItem 140 = .ok (.putfield 94, 3) := by decide +kernel
theorem dX8_readItem_143 : decode cX8_readItem 143 = .ok (.iconst 1, 1) := by decide +kernel
theorem dX8_readItem_144 : decode cX8_readItem 144 = .ok (.ireturn, 1) := by decide +kernel
theorem dX8_readItem_145 : decode cX8_readItem 145 = .ok (.aload_n 0, 1) := by decide +kernel
theorem dX8_readItem_146 : decode cX8_readItem 146 = .ok (.getfield 97, 3) := by decide +kernel
theorem dX8_readItem_149 : decode cX8_readItem 149 = .ok (.bipush 9, 2) := by decide +kernel
theorem dX8_readItem_151 : decode cX8_readItem 151 = .ok (.if_icmp .eq 21, 3) := by decide +kernel
theorem dX8_readItem_154 : decode cX8_readItem 154 = .ok (.aload_n 0, 1) := by decide +kernel
theorem dX8_readItem_155 : decode cX8_readItem 155 = .ok (.iconst 1, 1) := by decide +kernel
theorem dX8_readItem_156 : decode cX8_readItem 156 = .ok (.invokevirtual 139, 3) := by decide +kernel
theorem dX8_readItem_159 : decode cX8_readItem 159 = .ok (.ifCond .eq 13, 3) := by decide +kernel
theorem dX8_readItem_162 : decode cX8_readItem 162 = .ok (.aload_n 0, 1) := by decide +kernel
theorem dX8_readItem_163 : decode cX8_readItem 163 = .ok (.iconst 0, 1) := by decide +kernel
theorem dX8_readItem_164 : decode cX8_readItem 164 = .ok (.iconst 0, 1) := by decide +kernel
theorem dX8_readItem_165 : decode cX8_readItem 165 = .ok (.iconst 1, 1) := by decide +kernel
theorem dX8_readItem_166 : decode cX8_readItem 166 = .ok (.invokevirtual 136, 3) := by decide +kernel
theorem dX8_readItem_169 : decode cX8_readItem 169 = .ok (.ifCond .ne 5, 3) := by decide +kernel
theorem dX8_readItem_172 : decode cX8_readItem 172 = .ok (.iconst 0, 1) := by decide +kernel
theorem dX8_readItem_173 : decode cX8_readItem 173 = .ok (.ireturn, 1) := by decide +kernel
theorem dX8_readItem_174 : decode cX8_readItem 174 = .ok (.aload_n 0, 1) := by decide +kernel
theorem dX8_readItem_175 : decode cX8_readItem 175 = .ok (.getfield 52, 3) := by decide +kernel
theorem dX8_readItem_178 : decode cX8_readItem 178 = .ok (.aload_n 0, 1) := by decide +kernel
theorem dX8_readItem_179 : decode cX8_readItem 179 = .ok (.getfield 97, 3) := by decide +kernel
theorem dX8_readItem_182 : decode cX8_readItem 182 = .ok (.aload_n 0, 1) := by decide +kernel
theorem dX8_readItem_183 : decode cX8_readItem 183 = .ok (.getfield 37, 3) := by decide +kernel
theorem dX8_readItem_186 : decode cX8_readItem 186 = .ok (.iconst 0, 1) := by decide +kernel
theorem dX8_readItem_187 : decode cX8_readItem 187 = .ok (.iaload, 1) := by decide +kernel
theorem dX8_readItem_188 : decode cX8_readItem 188 = .ok (.iastore, 1) := by decide +kernel
theorem dX8_readItem_189 : decode cX8_readItem 189 = .ok (.aload_n 0, 1) := by decide +kernel
theorem dX8_readItem_190 : decode cX8_readItem 190 = .ok (.dup, 1) := by decide +kernel
theorem dX8_readItem_191 : decode cX8_readItem 191 = .ok (.getfield 97, 3) := by decide +kernel
theorem dX8_readItem_194 : decode cX8_readItem 194 = .ok (.iconst 1, 1) := by decide +kernel
theorem dX8_readItem_195 : decode cX8_readItem 195 = .ok (.iadd, 1) := by decide +kernel
theorem dX8_readItem_196 : decode cX8_readItem 196 = .ok (.putfield 97, 3) := by decide +kernel
theorem dX8_readItem_199 : decode cX8_readItem 199 = .ok (.iconst 1, 1) := by decide +kernel
theorem dX8_readItem_200 : decode cX8_readItem 200 = .ok (.ireturn, 1) := by decide +kernel
theorem dX8_readItem_201 : decode cX8_readItem 201 = .ok (.iconst 0, 1) := by decide +kernel
theorem dX8_readItem_202 : decode cX8_readItem 202 = .ok (.ireturn, 1) := by decide +kernel
theorem dX8_fault_0 : decode cX8_fault 0 = .ok (.aload_n 0, 1) := by decide +kernel
theorem dX8_fault_1 : decode cX8_fault 1 = .ok (.iconst 0, 1) := by decide +kernel
theorem dX8_fault_2 : decode cX8_fault 2 = .ok (.putfield 125, 3) := by decide +kernel
theorem dX8_fault_5 : decode cX8_fault 5 = .ok (.aload_n 0, 1) := by decide +kernel
theorem dX8_fault_6 : decode cX8_fault 6 = .ok (.invokevirtual 79, 3) := by decide +kernel
theorem dX8_fault_9 : decode cX8_fault 9 = .ok (.aload_n 0, 1) := by decide +kernel
theorem dX8_fault_10 : decode cX8_fault 10 = .ok (.getfield 125, 3) := by decide +kernel
theorem dX8_fault_13 : decode cX8_fault 13 = .ok (.aload_n 0, 1) := by decide +kernel
theorem dX8_fault_14 : decode cX8_fault 14 = .ok (.getfield 122, 3) := by decide +kernel
theorem dX8_fault_17 : decode cX8_fault 17 = .ok (.if_icmp .ge 20, 3) := by decide +kernel
theorem dX8_fault_20 : decode cX8_fault 20 = .ok (.aload_n 0, 1) := by decide +kernel
theorem dX8_fault_21 : decode cX8_fault 21 = .ok (.getfield 125, 3) := by decide +kernel
theorem dX8_fault_24 : decode cX8_fault 24 = .ok (.istore_n 1, 1) := by decide +kernel
theorem dX8_fault_25 : decode cX8_fault 25 = .ok (.aload_n 0, 1) := by decide +kernel
theorem dX8_fault_26 : decode cX8_fault 26 = .ok (.invokevirtual 152, 3) := by decide +kernel
theorem dX8_fault_29 : decode cX8_fault 29 = .ok (.ifCond .ne 5, 3) := by decide +kernel
theorem dX8_fault_32 : decode cX8_fault 32 = .ok (.iload_n 1, 1) := by decide +kernel
theorem dX8_fault_33 : decode cX8_fault 33 = .ok (.ireturn, 1) := by decide +kernel
theorem dX8_fault_34 : decode cX8_fault 34 = .ok (.goto (-25), 3) := by decide +kernel
theorem dX8_fault_37 : decode cX8_fault 37 = .ok (.bipush (-4), 2) := by decide +kernel
theorem dX8_fault_39 : decode cX8_fault 39 = .ok (.ireturn, 1) := by decide +kernel
theorem dX8_lay_0 : decode cX8_lay 0 = .ok (.aload_n 0, 1) := by decide +kernel
theorem dX8_lay_1 : decode cX8_lay 1 = .ok (.invokevirtual 155, 3) := by decide +kernel
theorem dX8_lay_4 : decode cX8_lay 4 = .ok (.bipush (-4), 2) := by decide +kernel
theorem dX8_lay_6 : decode cX8_lay 6 = .ok (.if_icmp .ne 10, 3) := by decide +kernel
theorem dX8_lay_9 : decode cX8_lay 9 = .ok (.aload_n 0, 1) := by decide +kernel
theorem dX8_lay_10 : decode cX8_lay 10 = .ok (.getfield 109, 3) := by decide +kernel
theorem dX8_lay_13 : decode cX8_lay 13 = .ok (.ifCond .ne 6, 3) := by decide +kernel
theorem dX8_lay_16 : decode cX8_lay 16 = .ok (.bipush (-2), 2) := by decide +kernel
theorem dX8_lay_18 : decode cX8_lay 18 = .ok (.ireturn, 1) := by decide +kernel
theorem dX8_lay_19 : decode cX8_lay 19 = .ok (.aload_n 0, 1) := by decide +kernel
theorem dX8_lay_20 : decode cX8_lay 20 = .ok (.invokevirtual 100, 3) := by decide +kernel
theorem dX8_lay_23 : decode cX8_lay 23 = .ok (.aload_n 0, 1) := by decide +kernel
theorem dX8_lay_24 : decode cX8_lay 24 = .ok (.getfield 112, 3) := by decide +kernel
theorem dX8_lay_27 : decode cX8_lay 27 = .ok (.ireturn, 1) := by decide +kernel
theorem dX8_copies_0 : decode cX8_copies 0 = .ok (.iconst 0, 1) := by decide +kernel
theorem dX8_copies_1 : decode cX8_copies 1 = .ok (.istore 5, 2) := by decide +kernel
theorem dX8_copies_3 : decode cX8_copies 3 = .ok (.iload 5, 2) := by decide +kernel
theorem dX8_copies_5 : decode cX8_copies 5 = .ok (.iload 4, 2) := by decide +kernel
theorem dX8_copies_7 : decode cX8_copies 7 = .ok (.if_icmp .ge 21, 3) := by decide +kernel
theorem dX8_copies_10 : decode cX8_copies 10 = .ok (.aload_n 0, 1) := by decide +kernel
theorem dX8_copies_11 : decode cX8_copies 11 = .ok (.iload_n 1, 1) := by decide +kernel
theorem dX8_copies_12 : decode cX8_copies 12 = .ok (.iload 5, 2) := by decide +kernel
theorem dX8_copies_14 : decode cX8_copies 14 = .ok (.iadd, 1) := by decide +kernel
theorem dX8_copies_15 : decode cX8_copies 15 = .ok (.aload_n 2, 1) := by decide +kernel
theorem dX8_copies_16 : decode cX8_copies 16 = .ok (.iload_n 3, 1) := by decide +kernel
theorem dX8_copies_17 : decode cX8_copies 17 = .ok (.iload 5, 2) := by decide +kernel
theorem dX8_copies_19 : decode cX8_copies 19 = .ok (.iadd, 1) := by decide +kernel
theorem dX8_copies_20 : decode cX8_copies 20 = .ok (.iaload, 1) := by decide +kernel
theorem dX8_copies_21 : decode cX8_copies 21 = .ok (.iastore, 1) := by decide +kernel
theorem dX8_copies_22 : decode cX8_copies 22 = .ok (.iinc 5 1, 3) := by decide +kernel
theorem dX8_copies_25 : decode cX8_copies 25 = .ok (.goto (-22), 3) := by decide +kernel
theorem dX8_copies_28 : decode cX8_copies 28 = .ok (.return_, 1) := by decide +kernel
theorem dX8_settles_0 : decode cX8_settles 0 = .ok (.aload_n 0, 1) := by decide +kernel
theorem dX8_settles_1 : decode cX8_settles 1 = .ok (.aload_n 0, 1) := by decide +kernel
theorem dX8_settles_2 : decode cX8_settles 2 = .ok (.getfield 106, 3) := by decide +kernel
theorem dX8_settles_5 : decode cX8_settles 5 = .ok (.putfield 119, 3) := by decide +kernel
theorem dX8_settles_8 : decode cX8_settles 8 = .ok (.aload_n 0, 1) := by decide +kernel
theorem dX8_settles_9 : decode cX8_settles 9 = .ok (.aload_n 0, 1) := by decide +kernel
theorem dX8_settles_10 : decode cX8_settles 10 = .ok (.getfield 103, 3) := by decide +kernel
theorem dX8_settles_13 : decode cX8_settles 13 = .ok (.putfield 159, 3) := by decide +kernel
theorem dX8_settles_16 : decode cX8_settles 16 = .ok (.aload_n 0, 1) := by decide +kernel
theorem dX8_settles_17 : decode cX8_settles 17 = .ok (.getfield 7, 3) := by decide +kernel
theorem dX8_settles_20 : decode cX8_settles 20 = .ok (.iconst 0, 1) := by decide +kernel
theorem dX8_settles_21 : decode cX8_settles 21 = .ok (.aload_n 0, 1) := by decide +kernel
theorem dX8_settles_22 : decode cX8_settles 22 = .ok (.getfield 40, 3) := by decide +kernel
theorem dX8_settles_25 : decode cX8_settles 25 = .ok (.iconst 0, 1) := by decide +kernel
theorem dX8_settles_26 : decode cX8_settles 26 = .ok (.bipush 36, 2) := by decide +kernel
theorem dX8_settles_28 : decode cX8_settles 28 = .ok (.invokestatic 162, 3) := by decide +kernel
theorem dX8_settles_31 : decode cX8_settles 31 = .ok (.aload_n 0, 1) := by decide +kernel
theorem dX8_settles_32 : decode cX8_settles 32 = .ok (.aload_n 0, 1) := by decide +kernel
theorem dX8_settles_33 : decode cX8_settles 33 = .ok (.getfield 109, 3) := by decide +kernel
theorem dX8_settles_36 : decode cX8_settles 36 = .ok (.putfield 112, 3) := by decide +kernel
theorem dX8_settles_39 : decode cX8_settles 39 = .ok (.aload_n 0, 1) := by decide +kernel
theorem dX8_settles_40 : decode cX8_settles 40 = .ok (.getfield 13, 3) := by decide +kernel
theorem dX8_settles_43 : decode cX8_settles 43 = .ok (.iconst 0, 1) := by decide +kernel
theorem dX8_settles_44 : decode cX8_settles 44 = .ok (.aload_n 0, 1) := by decide +kernel
theorem dX8_settles_45 : decode cX8_settles 45 = .ok (.getfield 43, 3) := by decide +kernel
theorem dX8_settles_48 : decode cX8_settles 48 = .ok (.iconst 0, 1) := by decide +kernel
theorem dX8_settles_49 : decode cX8_settles 49 = .ok (.bipush 8, 2) := by decide +kernel
theorem dX8_settles_51 : decode cX8_settles 51 = .ok (.invokestatic 162, 3) := by decide +kernel
theorem dX8_settles_54 : decode cX8_settles 54 = .ok (.aload_n 0, 1) := by decide +kernel
theorem dX8_settles_55 : decode cX8_settles 55 = .ok (.getfield 16, 3) := by decide +kernel
theorem dX8_settles_58 : decode cX8_settles 58 = .ok (.iconst 0, 1) := by decide +kernel
theorem dX8_settles_59 : decode cX8_settles 59 = .ok (.aload_n 0, 1) := by decide +kernel
theorem dX8_settles_60 : decode cX8_settles 60 = .ok (.getfield 46, 3) := by decide +kernel
theorem dX8_settles_63 : decode cX8_settles 63 = .ok (.iconst 0, 1) := by decide +kernel
theorem dX8_settles_64 : decode cX8_settles 64 = .ok (.bipush 8, 2) := by decide +kernel
theorem dX8_settles_66 : decode cX8_settles 66 = .ok (.invokestatic 162, 3) := by decide +kernel
theorem dX8_settles_69 : decode cX8_settles 69 = .ok (.aload_n 0, 1) := by decide +kernel
theorem dX8_settles_70 : decode cX8_settles 70 = .ok (.aload_n 0, 1) := by decide +kernel
theorem dX8_settles_71 : decode cX8_settles 71 = .ok (.getfield 90, 3) := by decide +kernel
theorem dX8_settles_74 : decode cX8_settles 74 = .ok (.putfield 166, 3) := by decide +kernel
theorem dX8_settles_77 : decode cX8_settles 77 = .ok (.aload_n 0, 1) := by decide +kernel
theorem dX8_settles_78 : decode cX8_settles 78 = .ok (.aload_n 0, 1) := by decide +kernel
theorem dX8_settles_79 : decode cX8_settles 79 = .ok (.getfield 94, 3) := by decide +kernel
theorem dX8_settles_82 : decode cX8_settles 82 = .ok (.putfield 169, 3) := by decide +kernel
theorem dX8_settles_85 : decode cX8_settles 85 = .ok (.aload_n 0, 1) := by decide +kernel
theorem dX8_settles_86 : decode cX8_settles 86 = .ok (.aload_n 0, 1) := by decide +kernel
theorem dX8_settles_87 : decode cX8_settles 87 = .ok (.getfield 97, 3) := by decide +kernel
theorem dX8_settles_90 : decode cX8_settles 90 = .ok (.putfield 172, 3) := by decide +kernel
theorem dX8_settles_93 : decode cX8_settles 93 = .ok (.aload_n 0, 1) := by decide +kernel
theorem dX8_settles_94 : decode cX8_settles 94 = .ok (.getfield 19, 3) := by decide +kernel
theorem dX8_settles_97 : decode cX8_settles 97 = .ok (.iconst 0, 1) := by decide +kernel
theorem dX8_settles_98 : decode cX8_settles 98 = .ok (.aload_n 0, 1) := by decide +kernel
theorem dX8_settles_99 : decode cX8_settles 99 = .ok (.getfield 52, 3) := by decide +kernel
theorem dX8_settles_102 : decode cX8_settles 102 = .ok (.iconst 0, 1) := by decide +kernel
theorem dX8_settles_103 : decode cX8_settles 103 = .ok (.bipush 9, 2) := by decide +kernel
theorem dX8_settles_105 : decode cX8_settles 105 = .ok (.invokestatic 162, 3) := by decide +kernel
theorem dX8_settles_108 : decode cX8_settles 108 = .ok (.iconst 0, 1) := by decide +kernel
theorem dX8_settles_109 : decode cX8_settles 109 = .ok (.istore_n 1, 1) := by decide +kernel
theorem dX8_settles_110 : decode cX8_settles 110 = .ok (.iload_n 1, 1) := by decide +kernel
theorem dX8_settles_111 : decode cX8_settles 111 = .ok (.bipush 54, 2) := by decide +kernel
theorem dX8_settles_113 : decode cX8_settles 113 = .ok (.if_icmp .ge 16, 3) := by decide +kernel
theorem dX8_settles_116 : decode cX8_settles 116 = .ok (.aload_n 0, 1) := by decide +kernel
theorem dX8_settles_117 : decode cX8_settles 117 = .ok (.getfield 22, 3) := by decide +kernel
theorem dX8_settles_120 : decode cX8_settles 120 = .ok (.iload_n 1, 1) := by decide +kernel
theorem dX8_settles_121 : decode cX8_settles 121 = .ok (.iconst 0, 1) := by decide +kernel
theorem dX8_settles_122 : decode cX8_settles 122 = .ok (.iastore, 1) := by decide +kernel
theorem dX8_settles_123 : decode cX8_settles 123 = .ok (.iinc 1 1, 3) := by decide +kernel
theorem dX8_settles_126 : decode cX8_settles 126 = .ok (.goto (-16), 3) := by decide +kernel
theorem dX8_settles_129 : decode cX8_settles 129 = .ok (.iconst 0, 1) := by decide +kernel
theorem dX8_settles_130 : decode cX8_settles 130 = .ok (.istore_n 1, 1) := by decide +kernel
theorem dX8_settles_131 : decode cX8_settles 131 = .ok (.iload_n 1, 1) := by decide +kernel
theorem dX8_settles_132 : decode cX8_settles 132 = .ok (.aload_n 0, 1) := by decide +kernel
theorem dX8_settles_133 : decode cX8_settles 133 = .ok (.getfield 119, 3) := by decide +kernel
theorem dX8_settles_136 : decode cX8_settles 136 = .ok (.if_icmp .ge 38, 3) := by decide +kernel
theorem dX8_settles_139 : decode cX8_settles 139 = .ok (.aload_n 0, 1) := by decide +kernel
theorem dX8_settles_140 : decode cX8_settles 140 = .ok (.getfield 22, 3) := by decide +kernel
theorem dX8_settles_143 : decode cX8_settles 143 = .ok (.iconst 1, 1) := by decide +kernel
theorem dX8_settles_144 : decode cX8_settles 144 = .ok (.iload_n 1, 1) := by decide +kernel
theorem dX8_settles_145 : decode cX8_settles 145 = .ok (.iadd, 1) := by decide +kernel
theorem dX8_settles_146 : decode cX8_settles 146 = .ok (.aload_n 0, 1) := by decide +kernel
theorem dX8_settles_147 : decode cX8_settles 147 = .ok (.getfield 7, 3) := by decide +kernel
theorem dX8_settles_150 : decode cX8_settles 150 = .ok (.iload_n 1, 1) := by decide +kernel
theorem dX8_settles_151 : decode cX8_settles 151 = .ok (.iaload, 1) := by decide +kernel
theorem dX8_settles_152 : decode cX8_settles 152 = .ok (.bipush 9, 2) := by decide +kernel
theorem dX8_settles_154 : decode cX8_settles 154 = .ok (.if_icmp .ne 7, 3) := by decide +kernel
theorem dX8_settles_157 : decode cX8_settles 157 = .ok (.iconst 0, 1) := by decide +kernel
theorem dX8_settles_158 : decode cX8_settles 158 = .ok (.goto 9, 3) := by decide +kernel
theorem dX8_settles_161 : decode cX8_settles 161 = .ok (.aload_n 0, 1) := by decide +kernel
theorem dX8_settles_162 : decode cX8_settles 162 = .ok (.getfield 7, 3) := by decide +kernel
theorem dX8_settles_165 : decode cX8_settles 165 = .ok (.iload_n 1, 1) := by decide +kernel
theorem dX8_settles_166 : decode cX8_settles 166 = .ok (.iaload, 1) := by decide +kernel
theorem dX8_settles_167 : decode cX8_settles 167 = .ok (.iastore, 1) := by decide +kernel
theorem dX8_settles_168 : decode cX8_settles 168 = .ok (.iinc 1 1, 3) := by decide +kernel
theorem dX8_settles_171 : decode cX8_settles 171 = .ok (.goto (-40), 3) := by decide +kernel
theorem dX8_settles_174 : decode cX8_settles 174 = .ok (.iconst 0, 1) := by decide +kernel
theorem dX8_settles_175 : decode cX8_settles 175 = .ok (.istore_n 1, 1) := by decide +kernel
theorem dX8_settles_176 : decode cX8_settles 176 = .ok (.iload_n 1, 1) := by decide +kernel
theorem dX8_settles_177 : decode cX8_settles 177 = .ok (.bipush 8, 2) := by decide +kernel
theorem dX8_settles_179 : decode cX8_settles 179 = .ok (.if_icmp .ge 37, 3) := by decide +kernel
theorem dX8_settles_182 : decode cX8_settles 182 = .ok (.aload_n 0, 1) := by decide +kernel
theorem dX8_settles_183 : decode cX8_settles 183 = .ok (.getfield 22, 3) := by decide +kernel
theorem dX8_settles_186 : decode cX8_settles 186 = .ok (.bipush 37, 2) := by decide +kernel
theorem dX8_settles_188 : decode cX8_settles 188 = .ok (.iload_n 1, 1) := by decide +kernel
theorem dX8_settles_189 : decode cX8_settles 189 = .ok (.iadd, 1) := by decide +kernel
theorem dX8_settles_190 : decode cX8_settles 190 = .ok (.iload_n 1, 1) := by decide +kernel
theorem dX8_settles_191 : decode cX8_settles 191 = .ok (.aload_n 0, 1) := by decide +kernel
theorem dX8_settles_192 : decode cX8_settles 192 = .ok (.getfield 112, 3) := by decide +kernel
theorem dX8_settles_195 : decode cX8_settles 195 = .ok (.if_icmp .ge 12, 3) := by decide +kernel
theorem dX8_settles_198 : decode cX8_settles 198 = .ok (.aload_n 0, 1) := by decide +kernel
theorem dX8_settles_199 : decode cX8_settles 199 = .ok (.getfield 49, 3) := by decide +kernel
theorem dX8_settles_202 : decode cX8_settles 202 = .ok (.iload_n 1, 1) := by decide +kernel
theorem dX8_settles_203 : decode cX8_settles 203 = .ok (.iaload, 1) := by decide +kernel
theorem dX8_settles_204 : decode cX8_settles 204 = .ok (.goto 5, 3) := by decide +kernel
theorem dX8_settles_207 : decode cX8_settles 207 = .ok (.bipush 36, 2) := by decide +kernel
theorem dX8_settles_209 : decode cX8_settles 209 = .ok (.iastore, 1) := by decide +kernel
theorem dX8_settles_210 : decode cX8_settles 210 = .ok (.iinc 1 1, 3) := by decide +kernel
theorem dX8_settles_213 : decode cX8_settles 213 = .ok (.goto (-37), 3) := by decide +kernel
theorem dX8_settles_216 : decode cX8_settles 216 = .ok (.aload_n 0, 1) := by decide +kernel
theorem dX8_settles_217 : decode cX8_settles 217 = .ok (.iconst 0, 1) := by decide +kernel
theorem dX8_settles_218 : decode cX8_settles 218 = .ok (.putfield 175, 3) := by decide +kernel
theorem dX8_settles_221 : decode cX8_settles 221 = .ok (.aload_n 0, 1) := by decide +kernel
theorem dX8_settles_222 : decode cX8_settles 222 = .ok (.iconst 0, 1) := by decide +kernel
theorem dX8_settles_223 : decode cX8_settles 223 = .ok (.putfield 178, 3) := by decide +kernel
theorem dX8_settles_226 : decode cX8_settles 226 = .ok (.return_, 1) := by decide +kernel
theorem dX8_asItIs_0 : decode cX8_asItIs 0 = .ok (.aload_n 0, 1) := by decide +kernel
theorem dX8_asItIs_1 : decode cX8_asItIs 1 = .ok (.getfield 55, 3) := by decide +kernel
theorem dX8_asItIs_4 : decode cX8_asItIs 4 = .ok (.iconst 0, 1) := by decide +kernel
theorem dX8_asItIs_5 : decode cX8_asItIs 5 = .ok (.aload_n 0, 1) := by decide +kernel
theorem dX8_asItIs_6 : decode cX8_asItIs 6 = .ok (.getfield 22, 3) := by decide +kernel
theorem dX8_asItIs_9 : decode cX8_asItIs 9 = .ok (.iconst 0, 1) := by decide +kernel
theorem dX8_asItIs_10 : decode cX8_asItIs 10 = .ok (.bipush 54, 2) := by decide +kernel
theorem dX8_asItIs_12 : decode cX8_asItIs 12 = .ok (.invokestatic 162, 3) := by decide +kernel
theorem dX8_asItIs_15 : decode cX8_asItIs 15 = .ok (.return_, 1) := by decide +kernel
theorem dX8_kindOf_0 : decode cX8_kindOf 0 = .ok (.aload_n 0, 1) := by decide +kernel
theorem dX8_kindOf_1 : decode cX8_kindOf 1 = .ok (.getfield 13, 3) := by decide +kernel
theorem dX8_kindOf_4 : decode cX8_kindOf 4 = .ok (.iload_n 1, 1) := by decide +kernel
theorem dX8_kindOf_5 : decode cX8_kindOf 5 = .ok (.iaload, 1) := by decide +kernel
theorem dX8_kindOf_6 : decode cX8_kindOf 6 = .ok (.iconst 2, 1) := by decide +kernel
theorem dX8_kindOf_7 : decode cX8_kindOf 7 = .ok (.if_icmp .ne 21, 3) := by decide +kernel
theorem dX8_kindOf_10 : decode cX8_kindOf 10 = .ok (.aload_n 0, 1) := by decide +kernel
theorem dX8_kindOf_11 : decode cX8_kindOf 11 = .ok (.getfield 55, 3) := by decide +kernel
theorem dX8_kindOf_14 : decode cX8_kindOf 14 = .ok (.bipush 53, 2) := by decide +kernel
theorem dX8_kindOf_16 : decode cX8_kindOf 16 = .ok (.iaload, 1) := by decide +kernel
theorem dX8_kindOf_17 : decode cX8_kindOf 17 = .ok (.iload_n 1, 1) := by decide +kernel
theorem dX8_kindOf_18 : decode cX8_kindOf 18 = .ok (.invokestatic 181, 3) := by decide +kernel
theorem dX8_kindOf_21 : decode cX8_kindOf 21 = .ok (.ifCond .eq 7, 3) := by decide +kernel
theorem dX8_kindOf_24 : decode cX8_kindOf 24 = .ok (.iconst 1, 1) := by decide +kernel
theorem dX8_kindOf_25 : decode cX8_kindOf 25 = .ok (.goto 9, 3) := by decide +kernel
theorem dX8_kindOf_28 : decode cX8_kindOf 28 = .ok (.aload_n 0, 1) := by decide +kernel
theorem dX8_kindOf_29 : decode cX8_kindOf 29 = .ok (.getfield 13, 3) := by decide +kernel
theorem dX8_kindOf_32 : decode cX8_kindOf 32 = .ok (.iload_n 1, 1) := by decide +kernel
theorem dX8_kindOf_33 : decode cX8_kindOf 33 = .ok (.iaload, 1) := by decide +kernel
theorem dX8_kindOf_34 : decode cX8_kindOf 34 = .ok (.ireturn, 1) := by decide +kernel
theorem dX8_nextTo_0 : decode cX8_nextTo 0 = .ok (.iload_n 2, 1) := by decide +kernel
theorem dX8_nextTo_1 : decode cX8_nextTo 1 = .ok (.tableswitch 96 0 2 #[27, 47, 71], 27) := by decide +kernel
theorem dX8_nextTo_28 : decode cX8_nextTo 28 = .ok (.iload_n 1, 1) := by decide +kernel
theorem dX8_nextTo_29 : decode cX8_nextTo 29 = .ok (.aload_n 0, 1) := by decide +kernel
theorem dX8_nextTo_30 : decode cX8_nextTo 30 = .ok (.getfield 159, 3) := by decide +kernel
theorem dX8_nextTo_33 : decode cX8_nextTo 33 = .ok (.if_icmp .lt 12, 3) := by decide +kernel
theorem dX8_nextTo_36 : decode cX8_nextTo 36 = .ok (.iload_n 1, 1) := by decide +kernel
theorem dX8_nextTo_37 : decode cX8_nextTo 37 = .ok (.aload_n 0, 1) := by decide +kernel
theorem dX8_nextTo_38 : decode cX8_nextTo 38 = .ok (.getfield 159, 3) := by decide +kernel
theorem dX8_nextTo_41 : decode cX8_nextTo 41 = .ok (.isub, 1) := by decide +kernel
theorem dX8_nextTo_42 : decode cX8_nextTo 42 = .ok (.goto 5, 3) := by decide +kernel
theorem dX8_nextTo_45 : decode cX8_nextTo 45 = .ok (.bipush (-4), 2) := by decide +kernel
theorem dX8_nextTo_47 : decode cX8_nextTo 47 = .ok (.ireturn, 1) := by decide +kernel
theorem dX8_nextTo_48 : decode cX8_nextTo 48 = .ok (.iload_n 1, 1) := by decide +kernel
theorem dX8_nextTo_49 : decode cX8_nextTo 49 = .ok (.aload_n 0, 1) := by decide +kernel
theorem dX8_nextTo_50 : decode cX8_nextTo 50 = .ok (.getfield 159, 3) := by decide +kernel
theorem dX8_nextTo_53 : decode cX8_nextTo 53 = .ok (.irem, 1) := by decide +kernel
theorem dX8_nextTo_54 : decode cX8_nextTo 54 = .ok (.aload_n 0, 1) := by decide +kernel
theorem dX8_nextTo_55 : decode cX8_nextTo 55 = .ok (.getfield 159, 3) := by decide +kernel
theorem dX8_nextTo_58 : decode cX8_nextTo 58 = .ok (.iconst 1, 1) := by decide +kernel
theorem dX8_nextTo_59 : decode cX8_nextTo 59 = .ok (.isub, 1) := by decide +kernel
theorem dX8_nextTo_60 : decode cX8_nextTo 60 = .ok (.if_icmp .ge 9, 3) := by decide +kernel
theorem dX8_nextTo_63 : decode cX8_nextTo 63 = .ok (.iload_n 1, 1) := by decide +kernel
theorem dX8_nextTo_64 : decode cX8_nextTo 64 = .ok (.iconst 1, 1) := by decide +kernel
theorem dX8_nextTo_65 : decode cX8_nextTo 65 = .ok (.iadd, 1) := by decide +kernel
theorem dX8_nextTo_66 : decode cX8_nextTo 66 = .ok (.goto 5, 3) := by decide +kernel
theorem dX8_nextTo_69 : decode cX8_nextTo 69 = .ok (.bipush (-4), 2) := by decide +kernel
theorem dX8_nextTo_71 : decode cX8_nextTo 71 = .ok (.ireturn, 1) := by decide +kernel
theorem dX8_nextTo_72 : decode cX8_nextTo 72 = .ok (.iload_n 1, 1) := by decide +kernel
theorem dX8_nextTo_73 : decode cX8_nextTo 73 = .ok (.aload_n 0, 1) := by decide +kernel
theorem dX8_nextTo_74 : decode cX8_nextTo 74 = .ok (.getfield 159, 3) := by decide +kernel
theorem dX8_nextTo_77 : decode cX8_nextTo 77 = .ok (.iadd, 1) := by decide +kernel
theorem dX8_nextTo_78 : decode cX8_nextTo 78 = .ok (.aload_n 0, 1) := by decide +kernel
theorem dX8_nextTo_79 : decode cX8_nextTo 79 = .ok (.getfield 119, 3) := by decide +kernel
theorem dX8_nextTo_82 : decode cX8_nextTo 82 = .ok (.if_icmp .ge 12, 3) := by decide +kernel
theorem dX8_nextTo_85 : decode cX8_nextTo 85 = .ok (.iload_n 1, 1) := by decide +kernel
theorem dX8_nextTo_86 : decode cX8_nextTo 86 = .ok (.aload_n 0, 1) := by decide +kernel
theorem dX8_nextTo_87 : decode cX8_nextTo 87 = .ok (.getfield 159, 3) := by decide +kernel
theorem dX8_nextTo_90 : decode cX8_nextTo 90 = .ok (.iadd, 1) := by decide +kernel
theorem dX8_nextTo_91 : decode cX8_nextTo 91 = .ok (.goto 5, 3) := by decide +kernel
theorem dX8_nextTo_94 : decode cX8_nextTo 94 = .ok (.bipush (-4), 2) := by decide +kernel
theorem dX8_nextTo_96 : decode cX8_nextTo 96 = .ok (.ireturn, 1) := by decide +kernel
theorem dX8_nextTo_97 : decode cX8_nextTo 97 = .ok (.iload_n 1, 1) := by decide +kernel
theorem dX8_nextTo_98 : decode cX8_nextTo 98 = .ok (.aload_n 0, 1) := by decide +kernel
theorem dX8_nextTo_99 : decode cX8_nextTo 99 = .ok (.getfield 159, 3) := by decide +kernel
theorem dX8_nextTo_102 : decode cX8_nextTo 102 = .ok (.irem, 1) := by decide +kernel
theorem dX8_nextTo_103 : decode cX8_nextTo 103 = .ok (.ifCond .le 9, 3) := by decide +kernel
theorem dX8_nextTo_106 : decode cX8_nextTo 106 = .ok (.iload_n 1, 1) := by decide +kernel
theorem dX8_nextTo_107 : decode cX8_nextTo 107 = .ok (.iconst 1, 1) := by decide +kernel
theorem dX8_nextTo_108 : decode cX8_nextTo 108 = .ok (.isub, 1) := by decide +kernel
theorem dX8_nextTo_109 : decode cX8_nextTo 109 = .ok (.goto 5, 3) := by decide +kernel
theorem dX8_nextTo_112 : decode cX8_nextTo 112 = .ok (.bipush (-4), 2) := by decide +kernel
theorem dX8_nextTo_114 : decode cX8_nextTo 114 = .ok (.ireturn, 1) := by decide +kernel
theorem dX8_onIt_0 : decode cX8_onIt 0 = .ok (.bipush (-4), 2) := by decide +kernel
theorem dX8_onIt_2 : decode cX8_onIt 2 = .ok (.istore_n 2, 1) := by decide +kernel
theorem dX8_onIt_3 : decode cX8_onIt 3 = .ok (.iconst 0, 1) := by decide +kernel
theorem dX8_onIt_4 : decode cX8_onIt 4 = .ok (.istore_n 3, 1) := by decide +kernel
theorem dX8_onIt_5 : decode cX8_onIt 5 = .ok (.iload_n 3, 1) := by decide +kernel
theorem dX8_onIt_6 : decode cX8_onIt 6 = .ok (.aload_n 0, 1) := by decide +kernel
theorem dX8_onIt_7 : decode cX8_onIt 7 = .ok (.getfield 112, 3) := by decide +kernel
theorem dX8_onIt_10 : decode cX8_onIt 10 = .ok (.if_icmp .ge 28, 3) := by decide +kernel
theorem dX8_onIt_13 : decode cX8_onIt 13 = .ok (.aload_n 0, 1) := by decide +kernel
theorem dX8_onIt_14 : decode cX8_onIt 14 = .ok (.getfield 55, 3) := by decide +kernel
theorem dX8_onIt_17 : decode cX8_onIt 17 = .ok (.bipush 37, 2) := by decide +kernel
theorem dX8_onIt_19 : decode cX8_onIt 19 = .ok (.iload_n 3, 1) := by decide +kernel
theorem dX8_onIt_20 : decode cX8_onIt 20 = .ok (.iadd, 1) := by decide +kernel
theorem dX8_onIt_21 : decode cX8_onIt 21 = .ok (.iaload, 1) := by decide +kernel
theorem dX8_onIt_22 : decode cX8_onIt 22 = .ok (.iload_n 1, 1) := by decide +kernel
theorem dX8_onIt_23 : decode cX8_onIt 23 = .ok (.if_icmp .ne 7, 3) := by decide +kernel
theorem dX8_onIt_26 : decode cX8_onIt 26 = .ok (.iload_n 3, 1) := by decide +kernel
theorem dX8_onIt_27 : decode cX8_onIt 27 = .ok (.goto 4, 3) := by decide +kernel
theorem dX8_onIt_30 : decode cX8_onIt 30 = .ok (.iload_n 2, 1) := by decide +kernel
theorem dX8_onIt_31 : decode cX8_onIt 31 = .ok (.istore_n 2, 1) := by decide +kernel
theorem dX8_onIt_32 : decode cX8_onIt 32 = .ok (.iinc 3 1, 3) := by decide +kernel
theorem dX8_onIt_35 : decode cX8_onIt 35 = .ok (.goto (-30), 3) := by decide +kernel
theorem dX8_onIt_38 : decode cX8_onIt 38 = .ok (.iload_n 2, 1) := by decide +kernel
theorem dX8_onIt_39 : decode cX8_onIt 39 = .ok (.ireturn, 1) := by decide +kernel
theorem dX8_isSnow_0 : decode cX8_isSnow 0 = .ok (.aload_n 0, 1) := by decide +kernel
theorem dX8_isSnow_1 : decode cX8_isSnow 1 = .ok (.getfield 172, 3) := by decide +kernel
theorem dX8_isSnow_4 : decode cX8_isSnow 4 = .ok (.ifCond .le 27, 3) := by decide +kernel
theorem dX8_isSnow_7 : decode cX8_isSnow 7 = .ok (.aload_n 0, 1) := by decide +kernel
theorem dX8_isSnow_8 : decode cX8_isSnow 8 = .ok (.getfield 19, 3) := by decide +kernel
theorem dX8_isSnow_11 : decode cX8_isSnow 11 = .ok (.aload_n 0, 1) := by decide +kernel
theorem dX8_isSnow_12 : decode cX8_isSnow 12 = .ok (.getfield 55, 3) := by decide +kernel
theorem dX8_isSnow_15 : decode cX8_isSnow 15 = .ok (.iconst 0, 1) := by decide +kernel
theorem dX8_isSnow_16 : decode cX8_isSnow 16 = .ok (.iaload, 1) := by decide +kernel
theorem dX8_isSnow_17 : decode cX8_isSnow 17 = .ok (.aload_n 0, 1) := by decide +kernel
theorem dX8_isSnow_18 : decode cX8_isSnow 18 = .ok (.getfield 172, 3) := by decide +kernel
theorem dX8_isSnow_21 : decode cX8_isSnow 21 = .ok (.irem, 1) := by decide +kernel
theorem dX8_isSnow_22 : decode cX8_isSnow 22 = .ok (.iaload, 1) := by decide +kernel
theorem dX8_isSnow_23 : decode cX8_isSnow 23 = .ok (.iconst 1, 1) := by decide +kernel
theorem dX8_isSnow_24 : decode cX8_isSnow 24 = .ok (.if_icmp .ne 7, 3) := by decide +kernel
theorem dX8_isSnow_27 : decode cX8_isSnow 27 = .ok (.iconst 1, 1) := by decide +kernel
theorem dX8_isSnow_28 : decode cX8_isSnow 28 = .ok (.goto 4, 3) := by decide +kernel
theorem dX8_isSnow_31 : decode cX8_isSnow 31 = .ok (.iconst 0, 1) := by decide +kernel
theorem dX8_isSnow_32 : decode cX8_isSnow 32 = .ok (.ireturn, 1) := by decide +kernel
theorem dX8_isNearRam_0 : decode cX8_isNearRam 0 = .ok (.iconst 0, 1) := by decide +kernel
theorem dX8_isNearRam_1 : decode cX8_isNearRam 1 = .ok (.istore_n 3, 1) := by decide +kernel
theorem dX8_isNearRam_2 : decode cX8_isNearRam 2 = .ok (.iconst 0, 1) := by decide +kernel
theorem dX8_isNearRam_3 : decode cX8_isNearRam 3 = .ok (.istore 4, 2) := by decide +kernel
theorem dX8_isNearRam_5 : decode cX8_isNearRam 5 = .ok (.iload 4, 2) := by decide +kernel
theorem dX8_isNearRam_7 : decode cX8_isNearRam 7 = .ok (.iconst 4, 1) := by decide +kernel
theorem dX8_isNearRam_8 : decode cX8_isNearRam 8 = .ok (.if_icmp .ge 71, 3) := by decide +kernel
theorem dX8_isNearRam_11 : decode cX8_isNearRam 11 = .ok (.aload_n 0, 1) := by decide +kernel
theorem dX8_isNearRam_12 : decode cX8_isNearRam 12 = .ok (.iload_n 1, 1) := by decide +kernel
theorem dX8_isNearRam_13 : decode cX8_isNearRam 13 = .ok (.iload 4, 2) := by decide +kernel
theorem dX8_isNearRam_15 : decode cX8_isNearRam 15 = .ok (.invokevirtual 185, 3) := by decide +kernel
theorem dX8_isNearRam_18 : decode cX8_isNearRam 18 = .ok (.istore 5, 2) := by decide +kernel
theorem dX8_isNearRam_20 : decode cX8_isNearRam 20 = .ok (.iload 5, 2) := by decide +kernel
theorem dX8_isNearRam_22 : decode cX8_isNearRam 22 = .ok (.ifCond .ge 8, 3) := by decide +kernel
theorem dX8_isNearRam_25 : decode cX8_isNearRam 25 = .ok (.bipush (-4), 2) := by decide +kernel
theorem dX8_isNearRam_27 : decode cX8_isNearRam 27 = .ok (.goto 9, 3) := by decide +kernel
theorem dX8_isNearRam_30 : decode cX8_isNearRam 30 = .ok (.aload_n 0, 1) := by decide +kernel
theorem dX8_isNearRam_31 : decode cX8_isNearRam 31 = .ok (.iload 5, 2) := by decide +kernel
theorem dX8_isNearRam_33 : decode cX8_isNearRam 33 = .ok (.invokevirtual 189, 3) := by decide +kernel
theorem dX8_isNearRam_36 : decode cX8_isNearRam 36 = .ok (.istore 6, 2) := by decide +kernel
theorem dX8_isNearRam_38 : decode cX8_isNearRam 38 = .ok (.iload_n 3, 1) := by decide +kernel
theorem dX8_isNearRam_39 : decode cX8_isNearRam 39 = .ok (.ifCond .ne 28, 3) := by decide +kernel
theorem dX8_isNearRam_42 : decode cX8_isNearRam 42 = .ok (.iload 6, 2) := by decide +kernel
theorem dX8_isNearRam_44 : decode cX8_isNearRam 44 = .ok (.ifCond .lt 27, 3) := by decide +kernel
theorem dX8_isNearRam_47 : decode cX8_isNearRam 47 = .ok (.aload_n 0, 1) := by decide +kernel
theorem dX8_isNearRam_48 : decode cX8_isNearRam 48 = .ok (.getfield 16, 3) := by decide +kernel
theorem dX8_isNearRam_51 : decode cX8_isNearRam 51 = .ok (.iload 6, 2) := by decide +kernel
theorem dX8_isNearRam_53 : decode cX8_isNearRam 53 = .ok (.iaload, 1) := by decide +kernel
theorem dX8_isNearRam_54 : decode cX8_isNearRam 54 = .ok (.iload_n 2, 1) := by decide +kernel
theorem dX8_isNearRam_55 : decode cX8_isNearRam 55 = .ok (.if_icmp .eq 16, 3) := by decide +kernel
theorem dX8_isNearRam_58 : decode cX8_isNearRam 58 = .ok (.aload_n 0, 1) := by decide +kernel
theorem dX8_isNearRam_59 : decode cX8_isNearRam 59 = .ok (.iload 6, 2) := by decide +kernel
theorem dX8_isNearRam_61 : decode cX8_isNearRam 61 = .ok (.invokevirtual 192, 3) := by decide +kernel
theorem dX8_isNearRam_64 : decode cX8_isNearRam 64 = .ok (.ifCond .ne 7, 3) := by decide +kernel
theorem dX8_isNearRam_67 : decode cX8_isNearRam 67 = .ok (.iconst 1, 1) := by decide +kernel
theorem dX8_isNearRam_68 : decode cX8_isNearRam 68 = .ok (.goto 4, 3) := by decide +kernel
theorem dX8_isNearRam_71 : decode cX8_isNearRam 71 = .ok (.iconst 0, 1) := by decide +kernel
theorem dX8_isNearRam_72 : decode cX8_isNearRam 72 = .ok (.istore_n 3, 1) := by decide +kernel
theorem dX8_isNearRam_73 : decode cX8_isNearRam 73 = .ok (.iinc 4 1, 3) := by decide +kernel
theorem dX8_isNearRam_76 : decode cX8_isNearRam 76 = .ok (.goto (-71), 3) := by decide +kernel
theorem dX8_isNearRam_79 : decode cX8_isNearRam 79 = .ok (.iload_n 3, 1) := by decide +kernel
theorem dX8_isNearRam_80 : decode cX8_isNearRam 80 = .ok (.ireturn, 1) := by decide +kernel
theorem dX8_stepTo_0 : decode cX8_stepTo 0 = .ok (.aload_n 0, 1) := by decide +kernel
theorem dX8_stepTo_1 : decode cX8_stepTo 1 = .ok (.iload_n 2, 1) := by decide +kernel
theorem dX8_stepTo_2 : decode cX8_stepTo 2 = .ok (.iload_n 3, 1) := by decide +kernel
theorem dX8_stepTo_3 : decode cX8_stepTo 3 = .ok (.invokevirtual 185, 3) := by decide +kernel
theorem dX8_stepTo_6 : decode cX8_stepTo 6 = .ok (.istore 5, 2) := by decide +kernel
theorem dX8_stepTo_8 : decode cX8_stepTo 8 = .ok (.iload 5, 2) := by decide +kernel
theorem dX8_stepTo_10 : decode cX8_stepTo 10 = .ok (.ifCond .lt 15, 3) := by decide +kernel
theorem dX8_stepTo_13 : decode cX8_stepTo 13 = .ok (.aload_n 0, 1) := by decide +kernel
theorem dX8_stepTo_14 : decode cX8_stepTo 14 = .ok (.getfield 7, 3) := by decide +kernel
theorem dX8_stepTo_17 : decode cX8_stepTo 17 = .ok (.iload 5, 2) := by decide +kernel
theorem dX8_stepTo_19 : decode cX8_stepTo 19 = .ok (.iaload, 1) := by decide +kernel
theorem dX8_stepTo_20 : decode cX8_stepTo 20 = .ok (.bipush 9, 2) := by decide +kernel
theorem dX8_stepTo_22 : decode cX8_stepTo 22 = .ok (.if_icmp .ne 6, 3) := by decide +kernel
theorem dX8_stepTo_25 : decode cX8_stepTo 25 = .ok (.bipush (-4), 2) := by decide +kernel
theorem dX8_stepTo_27 : decode cX8_stepTo 27 = .ok (.ireturn, 1) := by decide +kernel
theorem dX8_stepTo_28 : decode cX8_stepTo 28 = .ok (.aload_n 0, 1) := by decide +kernel
theorem dX8_stepTo_29 : decode cX8_stepTo 29 = .ok (.iload 5, 2) := by decide +kernel
theorem dX8_stepTo_31 : decode cX8_stepTo 31 = .ok (.invokevirtual 189, 3) := by decide +kernel
theorem dX8_stepTo_34 : decode cX8_stepTo 34 = .ok (.istore 6, 2) := by decide +kernel
theorem dX8_stepTo_36 : decode cX8_stepTo 36 = .ok (.iload 6, 2) := by decide +kernel
theorem dX8_stepTo_38 : decode cX8_stepTo 38 = .ok (.ifCond .lt 24, 3) := by decide +kernel
theorem dX8_stepTo_41 : decode cX8_stepTo 41 = .ok (.aload_n 0, 1) := by decide +kernel
theorem dX8_stepTo_42 : decode cX8_stepTo 42 = .ok (.getfield 16, 3) := by decide +kernel
theorem dX8_stepTo_45 : decode cX8_stepTo 45 = .ok (.iload 6, 2) := by decide +kernel
theorem dX8_stepTo_47 : decode cX8_stepTo 47 = .ok (.iaload, 1) := by decide +kernel
theorem dX8_stepTo_48 : decode cX8_stepTo 48 = .ok (.aload_n 0, 1) := by decide +kernel
theorem dX8_stepTo_49 : decode cX8_stepTo 49 = .ok (.getfield 16, 3) := by decide +kernel
theorem dX8_stepTo_52 : decode cX8_stepTo 52 = .ok (.iload_n 1, 1) := by decide +kernel
theorem dX8_stepTo_53 : decode cX8_stepTo 53 = .ok (.iaload, 1) := by decide +kernel
theorem dX8_stepTo_54 : decode cX8_stepTo 54 = .ok (.if_icmp .eq 32, 3) := by decide +kernel
theorem dX8_stepTo_57 : decode cX8_stepTo 57 = .ok (.iload 4, 2) := by decide +kernel
theorem dX8_stepTo_59 : decode cX8_stepTo 59 = .ok (.ifCond .eq 27, 3) := by decide +kernel
theorem dX8_stepTo_62 : decode cX8_stepTo 62 = .ok (.aload_n 0, 1) := by decide +kernel
theorem dX8_stepTo_63 : decode cX8_stepTo 63 = .ok (.iload_n 1, 1) := by decide +kernel
theorem dX8_stepTo_64 : decode cX8_stepTo 64 = .ok (.invokevirtual 192, 3) := by decide +kernel
theorem dX8_stepTo_67 : decode cX8_stepTo 67 = .ok (.iconst 3, 1) := by decide +kernel
theorem dX8_stepTo_68 : decode cX8_stepTo 68 = .ok (.if_icmp .ne 21, 3) := by decide +kernel
theorem dX8_stepTo_71 : decode cX8_stepTo 71 = .ok (.aload_n 0, 1) := by decide +kernel
theorem dX8_stepTo_72 : decode cX8_stepTo 72 = .ok (.iload 5, 2) := by decide +kernel
theorem dX8_stepTo_74 : decode cX8_stepTo 74 = .ok (.aload_n 0, 1) := by decide +kernel
theorem dX8_stepTo_75 : decode cX8_stepTo 75 = .ok (.getfield 16, 3) := by decide +kernel
theorem dX8_stepTo_78 : decode cX8_stepTo 78 = .ok (.iload_n 1, 1) := by decide +kernel
theorem dX8_stepTo_79 : decode cX8_stepTo 79 = .ok (.iaload, 1) := by decide +kernel
theorem dX8_stepTo_80 : decode cX8_stepTo 80 = .ok (.invokevirtual 195, 3) := by decide +kernel
theorem dX8_stepTo_83 : decode cX8_stepTo 83 = .ok (.ifCond .eq 6, 3) := by decide +kernel
theorem dX8_stepTo_86 : decode cX8_stepTo 86 = .ok (.bipush (-4), 2) := by decide +kernel
theorem dX8_stepTo_88 : decode cX8_stepTo 88 = .ok (.ireturn, 1) := by decide +kernel
theorem dX8_stepTo_89 : decode cX8_stepTo 89 = .ok (.iload 5, 2) := by decide +kernel
theorem dX8_stepTo_91 : decode cX8_stepTo 91 = .ok (.ireturn, 1) := by decide +kernel
theorem dX8_comesTo_0 : decode cX8_comesTo 0 = .ok (.aload_n 0, 1) := by decide +kernel
theorem dX8_comesTo_1 : decode cX8_comesTo 1 = .ok (.iload_n 1, 1) := by decide +kernel
theorem dX8_comesTo_2 : decode cX8_comesTo 2 = .ok (.invokevirtual 192, 3) := by decide +kernel
theorem dX8_comesTo_5 : decode cX8_comesTo 5 = .ok (.istore 4, 2) := by decide +kernel
theorem dX8_comesTo_7 : decode cX8_comesTo 7 = .ok (.aload_n 0, 1) := by decide +kernel
theorem dX8_comesTo_8 : decode cX8_comesTo 8 = .ok (.bipush (-4), 2) := by decide +kernel
theorem dX8_comesTo_10 : decode cX8_comesTo 10 = .ok (.putfield 198, 3) := by decide +kernel
theorem dX8_comesTo_13 : decode cX8_comesTo 13 = .ok (.iload 4, 2) := by decide +kernel
theorem dX8_comesTo_15 : decode cX8_comesTo 15 = .ok (.iconst 2, 1) := by decide +kernel
theorem dX8_comesTo_16 : decode cX8_comesTo 16 = .ok (.if_icmp .ne 24, 3) := by decide +kernel
theorem dX8_comesTo_19 : decode cX8_comesTo 19 = .ok (.iload_n 2, 1) := by decide +kernel
theorem dX8_comesTo_20 : decode cX8_comesTo 20 = .ok (.aload_n 0, 1) := by decide +kernel
theorem dX8_comesTo_21 : decode cX8_comesTo 21 = .ok (.getfield 16, 3) := by decide +kernel
theorem dX8_comesTo_24 : decode cX8_comesTo 24 = .ok (.iload_n 1, 1) := by decide +kernel
theorem dX8_comesTo_25 : decode cX8_comesTo 25 = .ok (.iaload, 1) := by decide +kernel
theorem dX8_comesTo_26 : decode cX8_comesTo 26 = .ok (.ifCond .ne 7, 3) := by decide +kernel
theorem dX8_comesTo_29 : decode cX8_comesTo 29 = .ok (.iconst 0, 1) := by decide +kernel
theorem dX8_comesTo_30 : decode cX8_comesTo 30 = .ok (.goto 4, 3) := by decide +kernel
theorem dX8_comesTo_33 : decode cX8_comesTo 33 = .ok (.iconst 2, 1) := by decide +kernel
theorem dX8_comesTo_34 : decode cX8_comesTo 34 = .ok (.if_icmp .eq 6, 3) := by decide +kernel
theorem dX8_comesTo_37 : decode cX8_comesTo 37 = .ok (.bipush (-4), 2) := by decide +kernel
theorem dX8_comesTo_39 : decode cX8_comesTo 39 = .ok (.ireturn, 1) := by decide +kernel
theorem dX8_comesTo_40 : decode cX8_comesTo 40 = .ok (.iload_n 3, 1) := by decide +kernel
theorem dX8_comesTo_41 : decode cX8_comesTo 41 = .ok (.ifCond .eq 20, 3) := by decide +kernel
theorem dX8_comesTo_44 : decode cX8_comesTo 44 = .ok (.iload 4, 2) := by decide +kernel
theorem dX8_comesTo_46 : decode cX8_comesTo 46 = .ok (.iconst 2, 1) := by decide +kernel
theorem dX8_comesTo_47 : decode cX8_comesTo 47 = .ok (.if_icmp .eq 14, 3) := by decide +kernel
theorem dX8_comesTo_50 : decode cX8_comesTo 50 = .ok (.aload_n 0, 1) := by decide +kernel
theorem dX8_comesTo_51 : decode cX8_comesTo 51 = .ok (.invokevirtual 201, 3) := by decide +kernel
theorem dX8_comesTo_54 : decode cX8_comesTo 54 = .ok (.ifCond .ne 7, 3) := by decide +kernel
theorem dX8_comesTo_57 : decode cX8_comesTo 57 = .ok (.iconst 1, 1) := by decide +kernel
theorem dX8_comesTo_58 : decode cX8_comesTo 58 = .ok (.goto 4, 3) := by decide +kernel
theorem dX8_comesTo_61 : decode cX8_comesTo 61 = .ok (.iconst 0, 1) := by decide +kernel
theorem dX8_comesTo_62 : decode cX8_comesTo 62 = .ok (.istore 5, 2) := by decide +kernel
theorem dX8_comesTo_64 : decode cX8_comesTo 64 = .ok (.aload_n 0, 1) := by decide +kernel
theorem dX8_comesTo_65 : decode cX8_comesTo 65 = .ok (.iload_n 1, 1) := by decide +kernel
theorem dX8_comesTo_66 : decode cX8_comesTo 66 = .ok (.aload_n 0, 1) := by decide +kernel
theorem dX8_comesTo_67 : decode cX8_comesTo 67 = .ok (.getfield 55, 3) := by decide +kernel
theorem dX8_comesTo_70 : decode cX8_comesTo 70 = .ok (.bipush 37, 2) := by decide +kernel
theorem dX8_comesTo_72 : decode cX8_comesTo 72 = .ok (.iload_n 1, 1) := by decide +kernel
theorem dX8_comesTo_73 : decode cX8_comesTo 73 = .ok (.iadd, 1) := by decide +kernel
theorem dX8_comesTo_74 : decode cX8_comesTo 74 = .ok (.iaload, 1) := by decide +kernel
theorem dX8_comesTo_75 : decode cX8_comesTo 75 = .ok (.iload_n 2, 1) := by decide +kernel
theorem dX8_comesTo_76 : decode cX8_comesTo 76 = .ok (.iload 5, 2) := by decide +kernel
theorem dX8_comesTo_78 : decode cX8_comesTo 78 = .ok (.invokevirtual 204, 3) := by decide +kernel
theorem dX8_comesTo_81 : decode cX8_comesTo 81 = .ok (.istore 6, 2) := by decide +kernel
theorem dX8_comesTo_83 : decode cX8_comesTo 83 = .ok (.aload_n 0, 1) := by decide +kernel
theorem dX8_comesTo_84 : decode cX8_comesTo 84 = .ok (.iload 6, 2) := by decide +kernel
theorem dX8_comesTo_86 : decode cX8_comesTo 86 = .ok (.ifCond .ge 8, 3) := by decide +kernel
theorem dX8_comesTo_89 : decode cX8_comesTo 89 = .ok (.bipush (-4), 2) := by decide +kernel
theorem dX8_comesTo_91 : decode cX8_comesTo 91 = .ok (.goto 9, 3) := by decide +kernel
theorem dX8_comesTo_94 : decode cX8_comesTo 94 = .ok (.aload_n 0, 1) := by decide +kernel
theorem dX8_comesTo_95 : decode cX8_comesTo 95 = .ok (.iload 6, 2) := by decide +kernel
theorem dX8_comesTo_97 : decode cX8_comesTo 97 = .ok (.invokevirtual 189, 3) := by decide +kernel
theorem dX8_comesTo_100 : decode cX8_comesTo 100 = .ok (.putfield 198, 3) := by decide +kernel
theorem dX8_comesTo_103 : decode cX8_comesTo 103 = .ok (.iload 4, 2) := by decide +kernel
theorem dX8_comesTo_105 : decode cX8_comesTo 105 = .ok (.ifCond .ne 12, 3) := by decide +kernel
theorem dX8_comesTo_108 : decode cX8_comesTo 108 = .ok (.iload 6, 2) := by decide +kernel
theorem dX8_comesTo_110 : decode cX8_comesTo 110 = .ok (.ifCond .lt 7, 3) := by decide +kernel
theorem dX8_comesTo_113 : decode cX8_comesTo 113 = .ok (.iconst 1, 1) := by decide +kernel
theorem dX8_comesTo_114 : decode cX8_comesTo 114 = .ok (.goto 4, 3) := by decide +kernel
theorem dX8_comesTo_117 : decode cX8_comesTo 117 = .ok (.iconst 0, 1) := by decide +kernel
theorem dX8_comesTo_118 : decode cX8_comesTo 118 = .ok (.istore 7, 2) := by decide +kernel
theorem dX8_comesTo_120 : decode cX8_comesTo 120 = .ok (.iload 7, 2) := by decide +kernel
theorem dX8_comesTo_122 : decode cX8_comesTo 122 = .ok (.ifCond .eq 85, 3) := by decide +kernel
theorem dX8_comesTo_125 : decode cX8_comesTo 125 = .ok (.aload_n 0, 1) := by decide +kernel
theorem dX8_comesTo_126 : decode cX8_comesTo 126 = .ok (.getfield 198, 3) := by decide +kernel
theorem dX8_comesTo_129 : decode cX8_comesTo 129 = .ok (.ifCond .ge 78, 3) := by decide +kernel
theorem dX8_comesTo_132 : decode cX8_comesTo 132 = .ok (.aload_n 0, 1) := by decide +kernel
theorem dX8_comesTo_133 : decode cX8_comesTo 133 = .ok (.getfield 55, 3) := by decide +kernel
theorem dX8_comesTo_136 : decode cX8_comesTo 136 = .ok (.iconst 1, 1) := by decide +kernel
theorem dX8_comesTo_137 : decode cX8_comesTo 137 = .ok (.iload 6, 2) := by decide +kernel
theorem dX8_comesTo_139 : decode cX8_comesTo 139 = .ok (.iadd, 1) := by decide +kernel
theorem dX8_comesTo_140 : decode cX8_comesTo 140 = .ok (.iaload, 1) := by decide +kernel
theorem dX8_comesTo_141 : decode cX8_comesTo 141 = .ok (.ifCond .ne 66, 3) := by decide +kernel
theorem dX8_comesTo_144 : decode cX8_comesTo 144 = .ok (.aload_n 0, 1) := by decide +kernel
theorem dX8_comesTo_145 : decode cX8_comesTo 145 = .ok (.iload_n 1, 1) := by decide +kernel
theorem dX8_comesTo_146 : decode cX8_comesTo 146 = .ok (.iload 6, 2) := by decide +kernel
theorem dX8_comesTo_148 : decode cX8_comesTo 148 = .ok (.iload_n 2, 1) := by decide +kernel
theorem dX8_comesTo_149 : decode cX8_comesTo 149 = .ok (.iload 5, 2) := by decide +kernel
theorem dX8_comesTo_151 : decode cX8_comesTo 151 = .ok (.invokevirtual 204, 3) := by decide +kernel
theorem dX8_comesTo_154 : decode cX8_comesTo 154 = .ok (.istore 8, 2) := by decide +kernel
theorem dX8_comesTo_156 : decode cX8_comesTo 156 = .ok (.iload 8, 2) := by decide +kernel
theorem dX8_comesTo_158 : decode cX8_comesTo 158 = .ok (.ifCond .lt 7, 3) := by decide +kernel
theorem dX8_comesTo_161 : decode cX8_comesTo 161 = .ok (.iconst 1, 1) := by decide +kernel
theorem dX8_comesTo_162 : decode cX8_comesTo 162 = .ok (.goto 4, 3) := by decide +kernel
theorem dX8_comesTo_165 : decode cX8_comesTo 165 = .ok (.iconst 0, 1) := by decide +kernel
theorem dX8_comesTo_166 : decode cX8_comesTo 166 = .ok (.istore 7, 2) := by decide +kernel
theorem dX8_comesTo_168 : decode cX8_comesTo 168 = .ok (.iload 7, 2) := by decide +kernel
theorem dX8_comesTo_170 : decode cX8_comesTo 170 = .ok (.ifCond .eq 8, 3) := by decide +kernel
theorem dX8_comesTo_173 : decode cX8_comesTo 173 = .ok (.iload 8, 2) := by decide +kernel
theorem dX8_comesTo_175 : decode cX8_comesTo 175 = .ok (.goto 5, 3) := by decide +kernel
theorem dX8_comesTo_178 : decode cX8_comesTo 178 = .ok (.iload 6, 2) := by decide +kernel
theorem dX8_comesTo_180 : decode cX8_comesTo 180 = .ok (.istore 6, 2) := by decide +kernel
theorem dX8_comesTo_182 : decode cX8_comesTo 182 = .ok (.aload_n 0, 1) := by decide +kernel
theorem dX8_comesTo_183 : decode cX8_comesTo 183 = .ok (.iload 7, 2) := by decide +kernel
theorem dX8_comesTo_185 : decode cX8_comesTo 185 = .ok (.ifCond .eq 12, 3) := by decide +kernel
theorem dX8_comesTo_188 : decode cX8_comesTo 188 = .ok (.aload_n 0, 1) := by decide +kernel
theorem dX8_comesTo_189 : decode cX8_comesTo 189 = .ok (.iload 6, 2) := by decide +kernel
theorem dX8_comesTo_191 : decode cX8_comesTo 191 = .ok (.invokevirtual 189, 3) := by decide +kernel
theorem dX8_comesTo_194 : decode cX8_comesTo 194 = .ok (.goto 7, 3) := by decide +kernel
theorem dX8_comesTo_197 : decode cX8_comesTo 197 = .ok (.aload_n 0, 1) := by decide +kernel
theorem dX8_comesTo_198 : decode cX8_comesTo 198 = .ok (.getfield 198, 3) := by decide +kernel
theorem dX8_comesTo_201 : decode cX8_comesTo 201 = .ok (.putfield 198, 3) := by decide +kernel
theorem dX8_comesTo_204 : decode cX8_comesTo 204 = .ok (.goto (-84), 3) := by decide +kernel
theorem dX8_comesTo_207 : decode cX8_comesTo 207 = .ok (.iload 6, 2) := by decide +kernel
theorem dX8_comesTo_209 : decode cX8_comesTo 209 = .ok (.ireturn, 1) := by decide +kernel
theorem dX8_stands_0 : decode cX8_stands 0 = .ok (.aload_n 0, 1) := by decide +kernel
theorem dX8_stands_1 : decode cX8_stands 1 = .ok (.getfield 55, 3) := by decide +kernel
theorem dX8_stands_4 : decode cX8_stands 4 = .ok (.bipush 37, 2) := by decide +kernel
theorem dX8_stands_6 : decode cX8_stands 6 = .ok (.iload_n 1, 1) := by decide +kernel
theorem dX8_stands_7 : decode cX8_stands 7 = .ok (.iadd, 1) := by decide +kernel
theorem dX8_stands_8 : decode cX8_stands 8 = .ok (.iload_n 2, 1) := by decide +kernel
theorem dX8_stands_9 : decode cX8_stands 9 = .ok (.iastore, 1) := by decide +kernel
theorem dX8_stands_10 : decode cX8_stands 10 = .ok (.aload_n 0, 1) := by decide +kernel
theorem dX8_stands_11 : decode cX8_stands 11 = .ok (.getfield 16, 3) := by decide +kernel
theorem dX8_stands_14 : decode cX8_stands 14 = .ok (.iload_n 1, 1) := by decide +kernel
theorem dX8_stands_15 : decode cX8_stands 15 = .ok (.iaload, 1) := by decide +kernel
theorem dX8_stands_16 : decode cX8_stands 16 = .ok (.ifCond .ne 19, 3) := by decide +kernel
theorem dX8_stands_19 : decode cX8_stands 19 = .ok (.iload_n 2, 1) := by decide +kernel
theorem dX8_stands_20 : decode cX8_stands 20 = .ok (.aload_n 0, 1) := by decide +kernel
theorem dX8_stands_21 : decode cX8_stands 21 = .ok (.getfield 159, 3) := by decide +kernel
theorem dX8_stands_24 : decode cX8_stands 24 = .ok (.if_icmp .ge 7, 3) := by decide +kernel
theorem dX8_stands_27 : decode cX8_stands 27 = .ok (.iconst 1, 1) := by decide +kernel
theorem dX8_stands_28 : decode cX8_stands 28 = .ok (.goto 25, 3) := by decide +kernel
theorem dX8_stands_31 : decode cX8_stands 31 = .ok (.iconst 0, 1) := by decide +kernel
theorem dX8_stands_32 : decode cX8_stands 32 = .ok (.goto 21, 3) := by decide +kernel
theorem dX8_stands_35 : decode cX8_stands 35 = .ok (.iload_n 2, 1) := by decide +kernel
theorem dX8_stands_36 : decode cX8_stands 36 = .ok (.aload_n 0, 1) := by decide +kernel
theorem dX8_stands_37 : decode cX8_stands 37 = .ok (.getfield 119, 3) := by decide +kernel
theorem dX8_stands_40 : decode cX8_stands 40 = .ok (.aload_n 0, 1) := by decide +kernel
theorem dX8_stands_41 : decode cX8_stands 41 = .ok (.getfield 159, 3) := by decide +kernel
theorem dX8_stands_44 : decode cX8_stands 44 = .ok (.isub, 1) := by decide +kernel
theorem dX8_stands_45 : decode cX8_stands 45 = .ok (.if_icmp .lt 7, 3) := by decide +kernel
theorem dX8_stands_48 : decode cX8_stands 48 = .ok (.iconst 1, 1) := by decide +kernel
theorem dX8_stands_49 : decode cX8_stands 49 = .ok (.goto 4, 3) := by decide +kernel
theorem dX8_stands_52 : decode cX8_stands 52 = .ok (.iconst 0, 1) := by decide +kernel
theorem dX8_stands_53 : decode cX8_stands 53 = .ok (.istore_n 3, 1) := by decide +kernel
theorem dX8_stands_54 : decode cX8_stands 54 = .ok (.aload_n 0, 1) := by decide +kernel
theorem dX8_stands_55 : decode cX8_stands 55 = .ok (.getfield 55, 3) := by decide +kernel
theorem dX8_stands_58 : decode cX8_stands 58 = .ok (.bipush 53, 2) := by decide +kernel
theorem dX8_stands_60 : decode cX8_stands 60 = .ok (.dup2, 1) := by decide +kernel
theorem dX8_stands_61 : decode cX8_stands 61 = .ok (.iaload, 1) := by decide +kernel
theorem dX8_stands_62 : decode cX8_stands 62 = .ok (.aload_n 0, 1) := by decide +kernel
theorem dX8_stands_63 : decode cX8_stands 63 = .ok (.getfield 13, 3) := by decide +kernel
theorem dX8_stands_66 : decode cX8_stands 66 = .ok (.iload_n 1, 1) := by decide +kernel
theorem dX8_stands_67 : decode cX8_stands 67 = .ok (.iaload, 1) := by decide +kernel
theorem dX8_stands_68 : decode cX8_stands 68 = .ok (.iconst 2, 1) := by decide +kernel
theorem dX8_stands_69 : decode cX8_stands 69 = .ok (.if_icmp .ne 13, 3) := by decide +kernel
theorem dX8_stands_72 : decode cX8_stands 72 = .ok (.iload_n 3, 1) := by decide +kernel
theorem dX8_stands_73 : decode cX8_stands 73 = .ok (.ifCond .eq 9, 3) := by decide +kernel
theorem dX8_stands_76 : decode cX8_stands 76 = .ok (.iconst 1, 1) := by decide +kernel
theorem dX8_stands_77 : decode cX8_stands 77 = .ok (.iload_n 1, 1) := by decide +kernel
theorem dX8_stands_78 : decode cX8_stands 78 = .ok (.ishl, 1) := by decide +kernel
theorem dX8_stands_79 : decode cX8_stands 79 = .ok (.goto 4, 3) := by decide +kernel
theorem dX8_stands_82 : decode cX8_stands 82 = .ok (.iconst 0, 1) := by decide +kernel
theorem dX8_stands_83 : decode cX8_stands 83 = .ok (.ior, 1) := by decide +kernel
theorem dX8_stands_84 : decode cX8_stands 84 = .ok (.iastore, 1) := by decide +kernel
theorem dX8_stands_85 : decode cX8_stands 85 = .ok (.return_, 1) := by decide +kernel
theorem dX8_grazes_0 : decode cX8_grazes 0 = .ok (.iconst 0, 1) := by decide +kernel
theorem dX8_grazes_1 : decode cX8_grazes 1 = .ok (.istore_n 1, 1) := by decide +kernel
theorem dX8_grazes_2 : decode cX8_grazes 2 = .ok (.iload_n 1, 1) := by decide +kernel
theorem dX8_grazes_3 : decode cX8_grazes 3 = .ok (.aload_n 0, 1) := by decide +kernel
theorem dX8_grazes_4 : decode cX8_grazes 4 = .ok (.getfield 112, 3) := by decide +kernel
theorem dX8_grazes_7 : decode cX8_grazes 7 = .ok (.if_icmp .ge 111, 3) := by decide +kernel
theorem dX8_grazes_10 : decode cX8_grazes 10 = .ok (.aload_n 0, 1) := by decide +kernel
theorem dX8_grazes_11 : decode cX8_grazes 11 = .ok (.getfield 55, 3) := by decide +kernel
theorem dX8_grazes_14 : decode cX8_grazes 14 = .ok (.bipush 37, 2) := by decide +kernel
theorem dX8_grazes_16 : decode cX8_grazes 16 = .ok (.iload_n 1, 1) := by decide +kernel
theorem dX8_grazes_17 : decode cX8_grazes 17 = .ok (.iadd, 1) := by decide +kernel
theorem dX8_grazes_18 : decode cX8_grazes 18 = .ok (.iaload, 1) := by decide +kernel
theorem dX8_grazes_19 : decode cX8_grazes 19 = .ok (.istore_n 2, 1) := by decide +kernel
theorem dX8_grazes_20 : decode cX8_grazes 20 = .ok (.iload_n 2, 1) := by decide +kernel
theorem dX8_grazes_21 : decode cX8_grazes 21 = .ok (.bipush 36, 2) := by decide +kernel
theorem dX8_grazes_23 : decode cX8_grazes 23 = .ok (.if_icmp .eq 39, 3) := by decide +kernel
theorem dX8_grazes_26 : decode cX8_grazes 26 = .ok (.aload_n 0, 1) := by decide +kernel
theorem dX8_grazes_27 : decode cX8_grazes 27 = .ok (.getfield 55, 3) := by decide +kernel
theorem dX8_grazes_30 : decode cX8_grazes 30 = .ok (.iconst 1, 1) := by decide +kernel
theorem dX8_grazes_31 : decode cX8_grazes 31 = .ok (.iload_n 2, 1) := by decide +kernel
theorem dX8_grazes_32 : decode cX8_grazes 32 = .ok (.iadd, 1) := by decide +kernel
theorem dX8_grazes_33 : decode cX8_grazes 33 = .ok (.iaload, 1) := by decide +kernel
theorem dX8_grazes_34 : decode cX8_grazes 34 = .ok (.ifCond .le 28, 3) := by decide +kernel
theorem dX8_grazes_37 : decode cX8_grazes 37 = .ok (.aload_n 0, 1) := by decide +kernel
theorem dX8_grazes_38 : decode cX8_grazes 38 = .ok (.getfield 55, 3) := by decide +kernel
theorem dX8_grazes_41 : decode cX8_grazes 41 = .ok (.iconst 1, 1) := by decide +kernel
theorem dX8_grazes_42 : decode cX8_grazes 42 = .ok (.iload_n 2, 1) := by decide +kernel
theorem dX8_grazes_43 : decode cX8_grazes 43 = .ok (.iadd, 1) := by decide +kernel
theorem dX8_grazes_44 : decode cX8_grazes 44 = .ok (.dup2, 1) := by decide +kernel
theorem dX8_grazes_45 : decode cX8_grazes 45 = .ok (.iaload, 1) := by decide +kernel
theorem dX8_grazes_46 : decode cX8_grazes 46 = .ok (.iconst 1, 1) := by decide +kernel
theorem dX8_grazes_47 : decode cX8_grazes 47 = .ok (.isub, 1) := by decide +kernel
theorem dX8_grazes_48 : decode cX8_grazes 48 = .ok (.iastore, 1) := by decide +kernel
theorem dX8_grazes_49 : decode cX8_grazes 49 = .ok (.aload_n 0, 1) := by decide +kernel
theorem dX8_grazes_50 : decode cX8_grazes 50 = .ok (.getfield 55, 3) := by decide +kernel
theorem dX8_grazes_53 : decode cX8_grazes 53 = .ok (.bipush 45, 2) := by decide +kernel
theorem dX8_grazes_55 : decode cX8_grazes 55 = .ok (.iload_n 1, 1) := by decide +kernel
theorem dX8_grazes_56 : decode cX8_grazes 56 = .ok (.iadd, 1) := by decide +kernel
theorem dX8_grazes_57 : decode cX8_grazes 57 = .ok (.iconst 0, 1) := by decide +kernel
theorem dX8_grazes_58 : decode cX8_grazes 58 = .ok (.iastore, 1) := by decide +kernel
theorem dX8_grazes_59 : decode cX8_grazes 59 = .ok (.goto 53, 3) := by decide +kernel
theorem dX8_grazes_62 : decode cX8_grazes 62 = .ok (.iload_n 2, 1) := by decide +kernel
theorem dX8_grazes_63 : decode cX8_grazes 63 = .ok (.bipush 36, 2) := by decide +kernel
theorem dX8_grazes_65 : decode cX8_grazes 65 = .ok (.if_icmp .eq 47, 3) := by decide +kernel
theorem dX8_grazes_68 : decode cX8_grazes 68 = .ok (.aload_n 0, 1) := by decide +kernel
theorem dX8_grazes_69 : decode cX8_grazes 69 = .ok (.getfield 55, 3) := by decide +kernel
theorem dX8_grazes_72 : decode cX8_grazes 72 = .ok (.bipush 45, 2) := by decide +kernel
theorem dX8_grazes_74 : decode cX8_grazes 74 = .ok (.iload_n 1, 1) := by decide +kernel
theorem dX8_grazes_75 : decode cX8_grazes 75 = .ok (.iadd, 1) := by decide +kernel
theorem dX8_grazes_76 : decode cX8_grazes 76 = .ok (.dup2, 1) := by decide +kernel
theorem dX8_grazes_77 : decode cX8_grazes 77 = .ok (.iaload, 1) := by decide +kernel
theorem dX8_grazes_78 : decode cX8_grazes 78 = .ok (.iconst 1, 1) := by decide +kernel
theorem dX8_grazes_79 : decode cX8_grazes 79 = .ok (.iadd, 1) := by decide +kernel
theorem dX8_grazes_80 : decode cX8_grazes 80 = .ok (.iastore, 1) := by decide +kernel
theorem dX8_grazes_81 : decode cX8_grazes 81 = .ok (.aload_n 0, 1) := by decide +kernel
theorem dX8_grazes_82 : decode cX8_grazes 82 = .ok (.getfield 55, 3) := by decide +kernel
theorem dX8_grazes_85 : decode cX8_grazes 85 = .ok (.bipush 37, 2) := by decide +kernel
theorem dX8_grazes_87 : decode cX8_grazes 87 = .ok (.iload_n 1, 1) := by decide +kernel
theorem dX8_grazes_88 : decode cX8_grazes 88 = .ok (.iadd, 1) := by decide +kernel
theorem dX8_grazes_89 : decode cX8_grazes 89 = .ok (.aload_n 0, 1) := by decide +kernel
theorem dX8_grazes_90 : decode cX8_grazes 90 = .ok (.getfield 55, 3) := by decide +kernel
theorem dX8_grazes_93 : decode cX8_grazes 93 = .ok (.bipush 45, 2) := by decide +kernel
theorem dX8_grazes_95 : decode cX8_grazes 95 = .ok (.iload_n 1, 1) := by decide +kernel
theorem dX8_grazes_96 : decode cX8_grazes 96 = .ok (.iadd, 1) := by decide +kernel
theorem dX8_grazes_97 : decode cX8_grazes 97 = .ok (.iaload, 1) := by decide +kernel
theorem dX8_grazes_98 : decode cX8_grazes 98 = .ok (.aload_n 0, 1) := by decide +kernel
theorem dX8_grazes_99 : decode cX8_grazes 99 = .ok (.getfield 169, 3) := by decide +kernel
theorem dX8_grazes_102 : decode cX8_grazes 102 = .ok (.if_icmp .le 8, 3) := by decide +kernel
theorem dX8_grazes_105 : decode cX8_grazes 105 = .ok (.bipush 36, 2) := by decide +kernel
theorem dX8_grazes_107 : decode cX8_grazes 107 = .ok (.goto 4, 3) := by decide +kernel
theorem dX8_grazes_110 : decode cX8_grazes 110 = .ok (.iload_n 2, 1) := by decide +kernel
theorem dX8_grazes_111 : decode cX8_grazes 111 = .ok (.iastore, 1) := by decide +kernel
theorem dX8_grazes_112 : decode cX8_grazes 112 = .ok (.iinc 1 1, 3) := by decide +kernel
theorem dX8_grazes_115 : decode cX8_grazes 115 = .ok (.goto (-113), 3) := by decide +kernel
theorem dX8_grazes_118 : decode cX8_grazes 118 = .ok (.return_, 1) := by decide +kernel
theorem dX8_nextDay_0 : decode cX8_nextDay 0 = .ok (.aload_n 0, 1) := by decide +kernel
theorem dX8_nextDay_1 : decode cX8_nextDay 1 = .ok (.getfield 55, 3) := by decide +kernel
theorem dX8_nextDay_4 : decode cX8_nextDay 4 = .ok (.iconst 0, 1) := by decide +kernel
theorem dX8_nextDay_5 : decode cX8_nextDay 5 = .ok (.dup2, 1) := by decide +kernel
theorem dX8_nextDay_6 : decode cX8_nextDay 6 = .ok (.iaload, 1) := by decide +kernel
theorem dX8_nextDay_7 : decode cX8_nextDay 7 = .ok (.iconst 1, 1) := by decide +kernel
theorem dX8_nextDay_8 : decode cX8_nextDay 8 = .ok (.iadd, 1) := by decide +kernel
theorem dX8_nextDay_9 : decode cX8_nextDay 9 = .ok (.iastore, 1) := by decide +kernel
theorem dX8_nextDay_10 : decode cX8_nextDay 10 = .ok (.iconst 0, 1) := by decide +kernel
theorem dX8_nextDay_11 : decode cX8_nextDay 11 = .ok (.istore_n 1, 1) := by decide +kernel
theorem dX8_nextDay_12 : decode cX8_nextDay 12 = .ok (.iload_n 1, 1) := by decide +kernel
theorem dX8_nextDay_13 : decode cX8_nextDay 13 = .ok (.aload_n 0, 1) := by decide +kernel
theorem dX8_nextDay_14 : decode cX8_nextDay 14 = .ok (.getfield 119, 3) := by decide +kernel
theorem dX8_nextDay_17 : decode cX8_nextDay 17 = .ok (.if_icmp .ge 69, 3) := by decide +kernel
theorem dX8_nextDay_20 : decode cX8_nextDay 20 = .ok (.aload_n 0, 1) := by decide +kernel
theorem dX8_nextDay_21 : decode cX8_nextDay 21 = .ok (.getfield 55, 3) := by decide +kernel
theorem dX8_nextDay_24 : decode cX8_nextDay 24 = .ok (.iconst 0, 1) := by decide +kernel
theorem dX8_nextDay_25 : decode cX8_nextDay 25 = .ok (.iaload, 1) := by decide +kernel
theorem dX8_nextDay_26 : decode cX8_nextDay 26 = .ok (.bipush 9, 2) := by decide +kernel
theorem dX8_nextDay_28 : decode cX8_nextDay 28 = .ok (.irem, 1) := by decide +kernel
theorem dX8_nextDay_29 : decode cX8_nextDay 29 = .ok (.ifCond .ne 57, 3) := by decide +kernel
theorem dX8_nextDay_32 : decode cX8_nextDay 32 = .ok (.aload_n 0, 1) := by decide +kernel
theorem dX8_nextDay_33 : decode cX8_nextDay 33 = .ok (.getfield 55, 3) := by decide +kernel
theorem dX8_nextDay_36 : decode cX8_nextDay 36 = .ok (.iconst 1, 1) := by decide +kernel
theorem dX8_nextDay_37 : decode cX8_nextDay 37 = .ok (.iload_n 1, 1) := by decide +kernel
theorem dX8_nextDay_38 : decode cX8_nextDay 38 = .ok (.iadd, 1) := by decide +kernel
theorem dX8_nextDay_39 : decode cX8_nextDay 39 = .ok (.dup2, 1) := by decide +kernel
theorem dX8_nextDay_40 : decode cX8_nextDay 40 = .ok (.iaload, 1) := by decide +kernel
theorem dX8_nextDay_41 : decode cX8_nextDay 41 = .ok (.aload_n 0, 1) := by decide +kernel
theorem dX8_nextDay_42 : decode cX8_nextDay 42 = .ok (.getfield 7, 3) := by decide +kernel
theorem dX8_nextDay_45 : decode cX8_nextDay 45 = .ok (.iload_n 1, 1) := by decide +kernel
theorem dX8_nextDay_46 : decode cX8_nextDay 46 = .ok (.iaload, 1) := by decide +kernel
theorem dX8_nextDay_47 : decode cX8_nextDay 47 = .ok (.bipush 9, 2) := by decide +kernel
theorem dX8_nextDay_49 : decode cX8_nextDay 49 = .ok (.if_icmp .eq 28, 3) := by decide +kernel
theorem dX8_nextDay_52 : decode cX8_nextDay 52 = .ok (.aload_n 0, 1) := by decide +kernel
theorem dX8_nextDay_53 : decode cX8_nextDay 53 = .ok (.iload_n 1, 1) := by decide +kernel
theorem dX8_nextDay_54 : decode cX8_nextDay 54 = .ok (.invokevirtual 189, 3) := by decide +kernel
theorem dX8_nextDay_57 : decode cX8_nextDay 57 = .ok (.ifCond .ge 20, 3) := by decide +kernel
theorem dX8_nextDay_60 : decode cX8_nextDay 60 = .ok (.aload_n 0, 1) := by decide +kernel
theorem dX8_nextDay_61 : decode cX8_nextDay 61 = .ok (.getfield 55, 3) := by decide +kernel
theorem dX8_nextDay_64 : decode cX8_nextDay 64 = .ok (.iconst 1, 1) := by decide +kernel
theorem dX8_nextDay_65 : decode cX8_nextDay 65 = .ok (.iload_n 1, 1) := by decide +kernel
theorem dX8_nextDay_66 : decode cX8_nextDay 66 = .ok (.iadd, 1) := by decide +kernel
theorem dX8_nextDay_67 : decode cX8_nextDay 67 = .ok (.iaload, 1) := by decide +kernel
theorem dX8_nextDay_68 : decode cX8_nextDay 68 = .ok (.bipush 8, 2) := by decide +kernel
theorem dX8_nextDay_70 : decode cX8_nextDay 70 = .ok (.if_icmp .ge 7, 3) := by decide +kernel
theorem dX8_nextDay_73 : decode cX8_nextDay 73 = .ok (.iconst 1, 1) := by decide +kernel
theorem dX8_nextDay_74 : decode cX8_nextDay 74 = .ok (.goto 4, 3) := by decide +kernel
theorem dX8_nextDay_77 : decode cX8_nextDay 77 = .ok (.iconst 0, 1) := by decide +kernel
theorem dX8_nextDay_78 : decode cX8_nextDay 78 = .ok (.iadd, 1) := by decide +kernel
theorem dX8_nextDay_79 : decode cX8_nextDay 79 = .ok (.iastore, 1) := by decide +kernel
theorem dX8_nextDay_80 : decode cX8_nextDay 80 = .ok (.iinc 1 1, 3) := by decide +kernel
theorem dX8_nextDay_83 : decode cX8_nextDay 83 = .ok (.goto (-71), 3) := by decide +kernel
theorem dX8_nextDay_86 : decode cX8_nextDay 86 = .ok (.return_, 1) := by decide +kernel
theorem dX8_goesBy_0 : decode cX8_goesBy 0 = .ok (.iload_n 1, 1) := by decide +kernel
theorem dX8_goesBy_1 : decode cX8_goesBy 1 = .ok (.bipush 99, 2) := by decide +kernel
theorem dX8_goesBy_3 : decode cX8_goesBy 3 = .ok (.if_icmp .eq 46, 3) := by decide +kernel
theorem dX8_goesBy_6 : decode cX8_goesBy 6 = .ok (.iload_n 1, 1) := by decide +kernel
theorem dX8_goesBy_7 : decode cX8_goesBy 7 = .ok (.bipush 10, 2) := by decide +kernel
theorem dX8_goesBy_9 : decode cX8_goesBy 9 = .ok (.idiv, 1) := by decide +kernel
theorem dX8_goesBy_10 : decode cX8_goesBy 10 = .ok (.istore_n 2, 1) := by decide +kernel
theorem dX8_goesBy_11 : decode cX8_goesBy 11 = .ok (.aload_n 0, 1) := by decide +kernel
theorem dX8_goesBy_12 : decode cX8_goesBy 12 = .ok (.iload_n 2, 1) := by decide +kernel
theorem dX8_goesBy_13 : decode cX8_goesBy 13 = .ok (.iload_n 1, 1) := by decide +kernel
theorem dX8_goesBy_14 : decode cX8_goesBy 14 = .ok (.bipush 10, 2) := by decide +kernel
theorem dX8_goesBy_16 : decode cX8_goesBy 16 = .ok (.irem, 1) := by decide +kernel
theorem dX8_goesBy_17 : decode cX8_goesBy 17 = .ok (.iconst 1, 1) := by decide +kernel
theorem dX8_goesBy_18 : decode cX8_goesBy 18 = .ok (.invokevirtual 208, 3) := by decide +kernel
theorem dX8_goesBy_21 : decode cX8_goesBy 21 = .ok (.istore_n 3, 1) := by decide +kernel
theorem dX8_goesBy_22 : decode cX8_goesBy 22 = .ok (.aload_n 0, 1) := by decide +kernel
theorem dX8_goesBy_23 : decode cX8_goesBy 23 = .ok (.getfield 198, 3) := by decide +kernel
theorem dX8_goesBy_26 : decode cX8_goesBy 26 = .ok (.ifCond .lt 17, 3) := by decide +kernel
theorem dX8_goesBy_29 : decode cX8_goesBy 29 = .ok (.aload_n 0, 1) := by decide +kernel
theorem dX8_goesBy_30 : decode cX8_goesBy 30 = .ok (.getfield 55, 3) := by decide +kernel
theorem dX8_goesBy_33 : decode cX8_goesBy 33 = .ok (.bipush 37, 2) := by decide +kernel
theorem dX8_goesBy_35 : decode cX8_goesBy 35 = .ok (.aload_n 0, 1) := by decide +kernel
theorem dX8_goesBy_36 : decode cX8_goesBy 36 = .ok (.getfield 198, 3) := by decide +kernel
theorem dX8_goesBy_39 : decode cX8_goesBy 39 = .ok (.iadd, 1) := by decide +kernel
theorem dX8_goesBy_40 : decode cX8_goesBy 40 = .ok (.bipush 36, 2) := by decide +kernel
theorem dX8_goesBy_42 : decode cX8_goesBy 42 = .ok (.iastore, 1) := by decide +kernel
theorem dX8_goesBy_43 : decode cX8_goesBy 43 = .ok (.aload_n 0, 1) := by decide +kernel
theorem dX8_goesBy_44 : decode cX8_goesBy 44 = .ok (.iload_n 2, 1) := by decide +kernel
theorem dX8_goesBy_45 : decode cX8_goesBy 45 = .ok (.iload_n 3, 1) := by decide +kernel
theorem dX8_goesBy_46 : decode cX8_goesBy 46 = .ok (.invokevirtual 212, 3) := by decide +kernel
theorem dX8_goesBy_49 : decode cX8_goesBy 49 = .ok (.aload_n 0, 1) := by decide +kernel
theorem dX8_goesBy_50 : decode cX8_goesBy 50 = .ok (.invokevirtual 216, 3) := by decide +kernel
theorem dX8_goesBy_53 : decode cX8_goesBy 53 = .ok (.aload_n 0, 1) := by decide +kernel
theorem dX8_goesBy_54 : decode cX8_goesBy 54 = .ok (.invokevirtual 219, 3) := by decide +kernel
theorem dX8_goesBy_57 : decode cX8_goesBy 57 = .ok (.return_, 1) := by decide +kernel
theorem dX8_lost_0 : decode cX8_lost 0 = .ok (.iconst 0, 1) := by decide +kernel
theorem dX8_lost_1 : decode cX8_lost 1 = .ok (.istore_n 1, 1) := by decide +kernel
theorem dX8_lost_2 : decode cX8_lost 2 = .ok (.iconst 0, 1) := by decide +kernel
theorem dX8_lost_3 : decode cX8_lost 3 = .ok (.istore_n 2, 1) := by decide +kernel
theorem dX8_lost_4 : decode cX8_lost 4 = .ok (.iconst 0, 1) := by decide +kernel
theorem dX8_lost_5 : decode cX8_lost 5 = .ok (.istore_n 3, 1) := by decide +kernel
theorem dX8_lost_6 : decode cX8_lost 6 = .ok (.iload_n 3, 1) := by decide +kernel
theorem dX8_lost_7 : decode cX8_lost 7 = .ok (.aload_n 0, 1) := by decide +kernel
theorem dX8_lost_8 : decode cX8_lost 8 = .ok (.getfield 112, 3) := by decide +kernel
theorem dX8_lost_11 : decode cX8_lost 11 = .ok (.if_icmp .ge 73, 3) := by decide +kernel
theorem dX8_lost_14 : decode cX8_lost 14 = .ok (.iload_n 1, 1) := by decide +kernel
theorem dX8_lost_15 : decode cX8_lost 15 = .ok (.aload_n 0, 1) := by decide +kernel
theorem dX8_lost_16 : decode cX8_lost 16 = .ok (.getfield 13, 3) := by decide +kernel
theorem dX8_lost_19 : decode cX8_lost 19 = .ok (.iload_n 3, 1) := by decide +kernel
theorem dX8_lost_20 : decode cX8_lost 20 = .ok (.iaload, 1) := by decide +kernel
theorem dX8_lost_21 : decode cX8_lost 21 = .ok (.iconst 3, 1) := by decide +kernel
theorem dX8_lost_22 : decode cX8_lost 22 = .ok (.if_icmp .ne 14, 3) := by decide +kernel
theorem dX8_lost_25 : decode cX8_lost 25 = .ok (.iconst 1, 1) := by decide +kernel
theorem dX8_lost_26 : decode cX8_lost 26 = .ok (.aload_n 0, 1) := by decide +kernel
theorem dX8_lost_27 : decode cX8_lost 27 = .ok (.getfield 16, 3) := by decide +kernel
theorem dX8_lost_30 : decode cX8_lost 30 = .ok (.iload_n 3, 1) := by decide +kernel
theorem dX8_lost_31 : decode cX8_lost 31 = .ok (.iaload, 1) := by decide +kernel
theorem dX8_lost_32 : decode cX8_lost 32 = .ok (.ishl, 1) := by decide +kernel
theorem dX8_lost_33 : decode cX8_lost 33 = .ok (.goto 4, 3) := by decide +kernel
theorem dX8_lost_36 : decode cX8_lost 36 = .ok (.iconst 0, 1) := by decide +kernel
theorem dX8_lost_37 : decode cX8_lost 37 = .ok (.ior, 1) := by decide +kernel
theorem dX8_lost_38 : decode cX8_lost 38 = .ok (.istore_n 1, 1) := by decide +kernel
theorem dX8_lost_39 : decode cX8_lost 39 = .ok (.iload_n 2, 1) := by decide +kernel
theorem dX8_lost_40 : decode cX8_lost 40 = .ok (.aload_n 0, 1) := by decide +kernel
theorem dX8_lost_41 : decode cX8_lost 41 = .ok (.getfield 13, 3) := by decide +kernel
theorem dX8_lost_44 : decode cX8_lost 44 = .ok (.iload_n 3, 1) := by decide +kernel
theorem dX8_lost_45 : decode cX8_lost 45 = .ok (.iaload, 1) := by decide +kernel
theorem dX8_lost_46 : decode cX8_lost 46 = .ok (.iconst 3, 1) := by decide +kernel
theorem dX8_lost_47 : decode cX8_lost 47 = .ok (.if_icmp .ne 28, 3) := by decide +kernel
theorem dX8_lost_50 : decode cX8_lost 50 = .ok (.aload_n 0, 1) := by decide +kernel
theorem dX8_lost_51 : decode cX8_lost 51 = .ok (.getfield 55, 3) := by decide +kernel
theorem dX8_lost_54 : decode cX8_lost 54 = .ok (.bipush 37, 2) := by decide +kernel
theorem dX8_lost_56 : decode cX8_lost 56 = .ok (.iload_n 3, 1) := by decide +kernel
theorem dX8_lost_57 : decode cX8_lost 57 = .ok (.iadd, 1) := by decide +kernel
theorem dX8_lost_58 : decode cX8_lost 58 = .ok (.iaload, 1) := by decide +kernel
theorem dX8_lost_59 : decode cX8_lost 59 = .ok (.bipush 36, 2) := by decide +kernel
theorem dX8_lost_61 : decode cX8_lost 61 = .ok (.if_icmp .eq 14, 3) := by decide +kernel
theorem dX8_lost_64 : decode cX8_lost 64 = .ok (.iconst 1, 1) := by decide +kernel
theorem dX8_lost_65 : decode cX8_lost 65 = .ok (.aload_n 0, 1) := by decide +kernel
theorem dX8_lost_66 : decode cX8_lost 66 = .ok (.getfield 16, 3) := by decide +kernel
theorem dX8_lost_69 : decode cX8_lost 69 = .ok (.iload_n 3, 1) := by decide +kernel
theorem dX8_lost_70 : decode cX8_lost 70 = .ok (.iaload, 1) := by decide +kernel
theorem dX8_lost_71 : decode cX8_lost 71 = .ok (.ishl, 1) := by decide +kernel
theorem dX8_lost_72 : decode cX8_lost 72 = .ok (.goto 4, 3) := by decide +kernel
theorem dX8_lost_75 : decode cX8_lost 75 = .ok (.iconst 0, 1) := by decide +kernel
theorem dX8_lost_76 : decode cX8_lost 76 = .ok (.ior, 1) := by decide +kernel
theorem dX8_lost_77 : decode cX8_lost 77 = .ok (.istore_n 2, 1) := by decide +kernel
theorem dX8_lost_78 : decode cX8_lost 78 = .ok (.iinc 3 1, 3) := by decide +kernel
theorem dX8_lost_81 : decode cX8_lost 81 = .ok (.goto (-75), 3) := by decide +kernel
theorem dX8_lost_84 : decode cX8_lost 84 = .ok (.iload_n 1, 1) := by decide +kernel
theorem dX8_lost_85 : decode cX8_lost 85 = .ok (.iload_n 2, 1) := by decide +kernel
theorem dX8_lost_86 : decode cX8_lost 86 = .ok (.iconst (-1), 1) := by decide +kernel
theorem dX8_lost_87 : decode cX8_lost 87 = .ok (.ixor, 1) := by decide +kernel
theorem dX8_lost_88 : decode cX8_lost 88 = .ok (.iand, 1) := by decide +kernel
theorem dX8_lost_89 : decode cX8_lost 89 = .ok (.ireturn, 1) := by decide +kernel
theorem dX8_canDrive_0 : decode cX8_canDrive 0 = .ok (.iload_n 1, 1) := by decide +kernel
theorem dX8_canDrive_1 : decode cX8_canDrive 1 = .ok (.bipush 10, 2) := by decide +kernel
theorem dX8_canDrive_3 : decode cX8_canDrive 3 = .ok (.idiv, 1) := by decide +kernel
theorem dX8_canDrive_4 : decode cX8_canDrive 4 = .ok (.istore_n 2, 1) := by decide +kernel
theorem dX8_canDrive_5 : decode cX8_canDrive 5 = .ok (.iload_n 2, 1) := by decide +kernel
theorem dX8_canDrive_6 : decode cX8_canDrive 6 = .ok (.aload_n 0, 1) := by decide +kernel
theorem dX8_canDrive_7 : decode cX8_canDrive 7 = .ok (.getfield 112, 3) := by decide +kernel
theorem dX8_canDrive_10 : decode cX8_canDrive 10 = .ok (.if_icmp .ge 66, 3) := by decide +kernel
theorem dX8_canDrive_13 : decode cX8_canDrive 13 = .ok (.iload_n 1, 1) := by decide +kernel
theorem dX8_canDrive_14 : decode cX8_canDrive 14 = .ok (.bipush 10, 2) := by decide +kernel
theorem dX8_canDrive_16 : decode cX8_canDrive 16 = .ok (.irem, 1) := by decide +kernel
theorem dX8_canDrive_17 : decode cX8_canDrive 17 = .ok (.iconst 4, 1) := by decide +kernel
theorem dX8_canDrive_18 : decode cX8_canDrive 18 = .ok (.if_icmp .ge 58, 3) := by decide +kernel
theorem dX8_canDrive_21 : decode cX8_canDrive 21 = .ok (.aload_n 0, 1) := by decide +kernel
theorem dX8_canDrive_22 : decode cX8_canDrive 22 = .ok (.getfield 55, 3) := by decide +kernel
theorem dX8_canDrive_25 : decode cX8_canDrive 25 = .ok (.bipush 37, 2) := by decide +kernel
theorem dX8_canDrive_27 : decode cX8_canDrive 27 = .ok (.iload_n 2, 1) := by decide +kernel
theorem dX8_canDrive_28 : decode cX8_canDrive 28 = .ok (.iadd, 1) := by decide +kernel
theorem dX8_canDrive_29 : decode cX8_canDrive 29 = .ok (.iaload, 1) := by decide +kernel
theorem dX8_canDrive_30 : decode cX8_canDrive 30 = .ok (.bipush 36, 2) := by decide +kernel
theorem dX8_canDrive_32 : decode cX8_canDrive 32 = .ok (.if_icmp .eq 44, 3) := by decide +kernel
theorem dX8_canDrive_35 : decode cX8_canDrive 35 = .ok (.aload_n 0, 1) := by decide +kernel
theorem dX8_canDrive_36 : decode cX8_canDrive 36 = .ok (.getfield 16, 3) := by decide +kernel
theorem dX8_canDrive_39 : decode cX8_canDrive 39 = .ok (.iload_n 2, 1) := by decide +kernel
theorem dX8_canDrive_40 : decode cX8_canDrive 40 = .ok (.iaload, 1) := by decide +kernel
theorem dX8_canDrive_41 : decode cX8_canDrive 41 = .ok (.aload_n 0, 1) := by decide +kernel
theorem dX8_canDrive_42 : decode cX8_canDrive 42 = .ok (.getfield 55, 3) := by decide +kernel
theorem dX8_canDrive_45 : decode cX8_canDrive 45 = .ok (.iconst 0, 1) := by decide +kernel
theorem dX8_canDrive_46 : decode cX8_canDrive 46 = .ok (.iaload, 1) := by decide +kernel
theorem dX8_canDrive_47 : decode cX8_canDrive 47 = .ok (.iconst 2, 1) := by decide +kernel
theorem dX8_canDrive_48 : decode cX8_canDrive 48 = .ok (.irem, 1) := by decide +kernel
theorem dX8_canDrive_49 : decode cX8_canDrive 49 = .ok (.if_icmp .ne 27, 3) := by decide +kernel
theorem dX8_canDrive_52 : decode cX8_canDrive 52 = .ok (.aload_n 0, 1) := by decide +kernel
theorem dX8_canDrive_53 : decode cX8_canDrive 53 = .ok (.invokevirtual 222, 3) := by decide +kernel
theorem dX8_canDrive_56 : decode cX8_canDrive 56 = .ok (.ifCond .ne 20, 3) := by decide +kernel
theorem dX8_canDrive_59 : decode cX8_canDrive 59 = .ok (.aload_n 0, 1) := by decide +kernel
theorem dX8_canDrive_60 : decode cX8_canDrive 60 = .ok (.iload_n 2, 1) := by decide +kernel
theorem dX8_canDrive_61 : decode cX8_canDrive 61 = .ok (.iload_n 1, 1) := by decide +kernel
theorem dX8_canDrive_62 : decode cX8_canDrive 62 = .ok (.bipush 10, 2) := by decide +kernel
theorem dX8_canDrive_64 : decode cX8_canDrive 64 = .ok (.irem, 1) := by decide +kernel
theorem dX8_canDrive_65 : decode cX8_canDrive 65 = .ok (.iconst 1, 1) := by decide +kernel
theorem dX8_canDrive_66 : decode cX8_canDrive 66 = .ok (.invokevirtual 208, 3) := by decide +kernel
theorem dX8_canDrive_69 : decode cX8_canDrive 69 = .ok (.ifCond .lt 7, 3) := by decide +kernel
theorem dX8_canDrive_72 : decode cX8_canDrive 72 = .ok (.iconst 1, 1) := by decide +kernel
theorem dX8_canDrive_73 : decode cX8_canDrive 73 = .ok (.goto 4, 3) := by decide +kernel
theorem dX8_canDrive_76 : decode cX8_canDrive 76 = .ok (.iconst 0, 1) := by decide +kernel
theorem dX8_canDrive_77 : decode cX8_canDrive 77 = .ok (.ireturn, 1) := by decide +kernel
theorem dX8_worth_0 : decode cX8_worth 0 = .ok (.iconst 0, 1) := by decide +kernel
theorem dX8_worth_1 : decode cX8_worth 1 = .ok (.istore_n 1, 1) := by decide +kernel
theorem dX8_worth_2 : decode cX8_worth 2 = .ok (.iconst 0, 1) := by decide +kernel
theorem dX8_worth_3 : decode cX8_worth 3 = .ok (.istore_n 2, 1) := by decide +kernel
theorem dX8_worth_4 : decode cX8_worth 4 = .ok (.iload_n 2, 1) := by decide +kernel
theorem dX8_worth_5 : decode cX8_worth 5 = .ok (.aload_n 0, 1) := by decide +kernel
theorem dX8_worth_6 : decode cX8_worth 6 = .ok (.getfield 112, 3) := by decide +kernel
theorem dX8_worth_9 : decode cX8_worth 9 = .ok (.if_icmp .ge 83, 3) := by decide +kernel
theorem dX8_worth_12 : decode cX8_worth 12 = .ok (.aload_n 0, 1) := by decide +kernel
theorem dX8_worth_13 : decode cX8_worth 13 = .ok (.iload_n 2, 1) := by decide +kernel
theorem dX8_worth_14 : decode cX8_worth 14 = .ok (.invokevirtual 192, 3) := by decide +kernel
theorem dX8_worth_17 : decode cX8_worth 17 = .ok (.istore_n 3, 1) := by decide +kernel
theorem dX8_worth_18 : decode cX8_worth 18 = .ok (.iload_n 3, 1) := by decide +kernel
theorem dX8_worth_19 : decode cX8_worth 19 = .ok (.ifCond .ne 7, 3) := by decide +kernel
theorem dX8_worth_22 : decode cX8_worth 22 = .ok (.iconst 5, 1) := by decide +kernel
theorem dX8_worth_23 : decode cX8_worth 23 = .ok (.goto 23, 3) := by decide +kernel
theorem dX8_worth_26 : decode cX8_worth 26 = .ok (.iload_n 3, 1) := by decide +kernel
theorem dX8_worth_27 : decode cX8_worth 27 = .ok (.iconst 1, 1) := by decide +kernel
theorem dX8_worth_28 : decode cX8_worth 28 = .ok (.if_icmp .ne 7, 3) := by decide +kernel
theorem dX8_worth_31 : decode cX8_worth 31 = .ok (.iconst 3, 1) := by decide +kernel
theorem dX8_worth_32 : decode cX8_worth 32 = .ok (.goto 14, 3) := by decide +kernel
theorem dX8_worth_35 : decode cX8_worth 35 = .ok (.iload_n 3, 1) := by decide +kernel
theorem dX8_worth_36 : decode cX8_worth 36 = .ok (.iconst 2, 1) := by decide +kernel
theorem dX8_worth_37 : decode cX8_worth 37 = .ok (.if_icmp .ne 7, 3) := by decide +kernel
theorem dX8_worth_40 : decode cX8_worth 40 = .ok (.iconst 1, 1) := by decide +kernel
theorem dX8_worth_41 : decode cX8_worth 41 = .ok (.goto 5, 3) := by decide +kernel
theorem dX8_worth_44 : decode cX8_worth 44 = .ok (.bipush 20, 2) := by decide +kernel
theorem dX8_worth_46 : decode cX8_worth 46 = .ok (.istore 4, 2) := by decide +kernel
theorem dX8_worth_48 : decode cX8_worth 48 = .ok (.iload_n 1, 1) := by decide +kernel
theorem dX8_worth_49 : decode cX8_worth 49 = .ok (.aload_n 0, 1) := by decide +kernel
theorem dX8_worth_50 : decode cX8_worth 50 = .ok (.getfield 55, 3) := by decide +kernel
theorem dX8_worth_53 : decode cX8_worth 53 = .ok (.bipush 37, 2) := by decide +kernel
theorem dX8_worth_55 : decode cX8_worth 55 = .ok (.iload_n 2, 1) := by decide +kernel
theorem dX8_worth_56 : decode cX8_worth 56 = .ok (.iadd, 1) := by decide +kernel
theorem dX8_worth_57 : decode cX8_worth 57 = .ok (.iaload, 1) := by decide +kernel
theorem dX8_worth_58 : decode cX8_worth 58 = .ok (.bipush 36, 2) := by decide +kernel
theorem dX8_worth_60 : decode cX8_worth 60 = .ok (.if_icmp .ne 7, 3) := by decide +kernel
theorem dX8_worth_63 : decode cX8_worth 63 = .ok (.iconst 0, 1) := by decide +kernel
theorem dX8_worth_64 : decode cX8_worth 64 = .ok (.goto 20, 3) := by decide +kernel
theorem dX8_worth_67 : decode cX8_worth 67 = .ok (.aload_n 0, 1) := by decide +kernel
theorem dX8_worth_68 : decode cX8_worth 68 = .ok (.getfield 16, 3) := by decide +kernel
theorem dX8_worth_71 : decode cX8_worth 71 = .ok (.iload_n 2, 1) := by decide +kernel
theorem dX8_worth_72 : decode cX8_worth 72 = .ok (.iaload, 1) := by decide +kernel
theorem dX8_worth_73 : decode cX8_worth 73 = .ok (.ifCond .ne 8, 3) := by decide +kernel
theorem dX8_worth_76 : decode cX8_worth 76 = .ok (.iload 4, 2) := by decide +kernel
theorem dX8_worth_78 : decode cX8_worth 78 = .ok (.goto 6, 3) := by decide +kernel
theorem dX8_worth_81 : decode cX8_worth 81 = .ok (.iload 4, 2) := by decide +kernel
theorem dX8_worth_83 : decode cX8_worth 83 = .ok (.ineg, 1) := by decide +kernel
theorem dX8_worth_84 : decode cX8_worth 84 = .ok (.iadd, 1) := by decide +kernel
theorem dX8_worth_85 : decode cX8_worth 85 = .ok (.istore_n 1, 1) := by decide +kernel
theorem dX8_worth_86 : decode cX8_worth 86 = .ok (.iinc 2 1, 3) := by decide +kernel
theorem dX8_worth_89 : decode cX8_worth 89 = .ok (.goto (-85), 3) := by decide +kernel
theorem dX8_worth_92 : decode cX8_worth 92 = .ok (.iload_n 1, 1) := by decide +kernel
theorem dX8_worth_93 : decode cX8_worth 93 = .ok (.ireturn, 1) := by decide +kernel
theorem dX8_onMeadow_0 : decode cX8_onMeadow 0 = .ok (.iconst 0, 1) := by decide +kernel
theorem dX8_onMeadow_1 : decode cX8_onMeadow 1 = .ok (.istore_n 2, 1) := by decide +kernel
theorem dX8_onMeadow_2 : decode cX8_onMeadow 2 = .ok (.iconst 0, 1) := by decide +kernel
theorem dX8_onMeadow_3 : decode cX8_onMeadow 3 = .ok (.istore_n 3, 1) := by decide +kernel
theorem dX8_onMeadow_4 : decode cX8_onMeadow 4 = .ok (.iload_n 3, 1) := by decide +kernel
theorem dX8_onMeadow_5 : decode cX8_onMeadow 5 = .ok (.aload_n 0, 1) := by decide +kernel
theorem dX8_onMeadow_6 : decode cX8_onMeadow 6 = .ok (.getfield 112, 3) := by decide +kernel
theorem dX8_onMeadow_9 : decode cX8_onMeadow 9 = .ok (.if_icmp .ge 41, 3) := by decide +kernel
theorem dX8_onMeadow_12 : decode cX8_onMeadow 12 = .ok (.iload_n 2, 1) := by decide +kernel
theorem dX8_onMeadow_13 : decode cX8_onMeadow 13 = .ok (.aload_n 0, 1) := by decide +kernel
theorem dX8_onMeadow_14 : decode cX8_onMeadow 14 = .ok (.getfield 55, 3) := by decide +kernel
theorem dX8_onMeadow_17 : decode cX8_onMeadow 17 = .ok (.bipush 37, 2) := by decide +kernel
theorem dX8_onMeadow_19 : decode cX8_onMeadow 19 = .ok (.iload_n 3, 1) := by decide +kernel
theorem dX8_onMeadow_20 : decode cX8_onMeadow 20 = .ok (.iadd, 1) := by decide +kernel
theorem dX8_onMeadow_21 : decode cX8_onMeadow 21 = .ok (.iaload, 1) := by decide +kernel
theorem dX8_onMeadow_22 : decode cX8_onMeadow 22 = .ok (.bipush 36, 2) := by decide +kernel
theorem dX8_onMeadow_24 : decode cX8_onMeadow 24 = .ok (.if_icmp .eq 17, 3) := by decide +kernel
theorem dX8_onMeadow_27 : decode cX8_onMeadow 27 = .ok (.aload_n 0, 1) := by decide +kernel
theorem dX8_onMeadow_28 : decode cX8_onMeadow 28 = .ok (.getfield 16, 3) := by decide +kernel
theorem dX8_onMeadow_31 : decode cX8_onMeadow 31 = .ok (.iload_n 3, 1) := by decide +kernel
theorem dX8_onMeadow_32 : decode cX8_onMeadow 32 = .ok (.iaload, 1) := by decide +kernel
theorem dX8_onMeadow_33 : decode cX8_onMeadow 33 = .ok (.iload_n 1, 1) := by decide +kernel
theorem dX8_onMeadow_34 : decode cX8_onMeadow 34 = .ok (.if_icmp .ne 7, 3) := by decide +kernel
theorem dX8_onMeadow_37 : decode cX8_onMeadow 37 = .ok (.iconst 1, 1) := by decide +kernel
theorem dX8_onMeadow_38 : decode cX8_onMeadow 38 = .ok (.goto 4, 3) := by decide +kernel
theorem dX8_onMeadow_41 : decode cX8_onMeadow 41 = .ok (.iconst 0, 1) := by decide +kernel
theorem dX8_onMeadow_42 : decode cX8_onMeadow 42 = .ok (.iadd, 1) := by decide +kernel
theorem dX8_onMeadow_43 : decode cX8_onMeadow 43 = .ok (.istore_n 2, 1) := by decide +kernel
theorem dX8_onMeadow_44 : decode cX8_onMeadow 44 = .ok (.iinc 3 1, 3) := by decide +kernel
theorem dX8_onMeadow_47 : decode cX8_onMeadow 47 = .ok (.goto (-43), 3) := by decide +kernel
theorem dX8_onMeadow_50 : decode cX8_onMeadow 50 = .ok (.iload_n 2, 1) := by decide +kernel
theorem dX8_onMeadow_51 : decode cX8_onMeadow 51 = .ok (.ireturn, 1) := by decide +kernel
theorem dX8_orNone_0 : decode cX8_orNone 0 = .ok (.iload_n 0, 1) := by decide +kernel
theorem dX8_orNone_1 : decode cX8_orNone 1 = .ok (.bipush 36, 2) := by decide +kernel
theorem dX8_orNone_3 : decode cX8_orNone 3 = .ok (.if_icmp .ne 8, 3) := by decide +kernel
theorem dX8_orNone_6 : decode cX8_orNone 6 = .ok (.bipush (-4), 2) := by decide +kernel
theorem dX8_orNone_8 : decode cX8_orNone 8 = .ok (.goto 4, 3) := by decide +kernel
theorem dX8_orNone_11 : decode cX8_orNone 11 = .ok (.iload_n 0, 1) := by decide +kernel
theorem dX8_orNone_12 : decode cX8_orNone 12 = .ok (.ireturn, 1) := by decide +kernel
theorem dX8_square_0 : decode cX8_square 0 = .ok (.aload_n 0, 1) := by decide +kernel
theorem dX8_square_1 : decode cX8_square 1 = .ok (.iload_n 1, 1) := by decide +kernel
theorem dX8_square_2 : decode cX8_square 2 = .ok (.invokevirtual 225, 3) := by decide +kernel
theorem dX8_square_5 : decode cX8_square 5 = .ok (.ifCond .eq 12, 3) := by decide +kernel
theorem dX8_square_8 : decode cX8_square 8 = .ok (.iload_n 2, 1) := by decide +kernel
theorem dX8_square_9 : decode cX8_square 9 = .ok (.iconst 0, 1) := by decide +kernel
theorem dX8_square_10 : decode cX8_square 10 = .ok (.iconst 1, 1) := by decide +kernel
theorem dX8_square_11 : decode cX8_square 11 = .ok (.invokestatic 115, 3) := by decide +kernel
theorem dX8_square_14 : decode cX8_square 14 = .ok (.ifCond .ne 5, 3) := by decide +kernel
theorem dX8_square_17 : decode cX8_square 17 = .ok (.iconst (-1), 1) := by decide +kernel
theorem dX8_square_18 : decode cX8_square 18 = .ok (.ireturn, 1) := by decide +kernel
theorem dX8_square_19 : decode cX8_square 19 = .ok (.aload_n 0, 1) := by decide +kernel
theorem dX8_square_20 : decode cX8_square 20 = .ok (.invokevirtual 228, 3) := by decide +kernel
theorem dX8_square_23 : decode cX8_square 23 = .ok (.iload_n 2, 1) := by decide +kernel
theorem dX8_square_24 : decode cX8_square 24 = .ok (.iconst 1, 1) := by decide +kernel
theorem dX8_square_25 : decode cX8_square 25 = .ok (.if_icmp .ne 11, 3) := by decide +kernel
theorem dX8_square_28 : decode cX8_square 28 = .ok (.aload_n 0, 1) := by decide +kernel
theorem dX8_square_29 : decode cX8_square 29 = .ok (.iload_n 1, 1) := by decide +kernel
theorem dX8_square_30 : decode cX8_square 30 = .ok (.invokevirtual 189, 3) := by decide +kernel
theorem dX8_square_33 : decode cX8_square 33 = .ok (.goto 27, 3) := by decide +kernel
theorem dX8_square_36 : decode cX8_square 36 = .ok (.aload_n 0, 1) := by decide +kernel
theorem dX8_square_37 : decode cX8_square 37 = .ok (.getfield 7, 3) := by decide +kernel
theorem dX8_square_40 : decode cX8_square 40 = .ok (.iload_n 1, 1) := by decide +kernel
theorem dX8_square_41 : decode cX8_square 41 = .ok (.iaload, 1) := by decide +kernel
theorem dX8_square_42 : decode cX8_square 42 = .ok (.bipush 9, 2) := by decide +kernel
theorem dX8_square_44 : decode cX8_square 44 = .ok (.if_icmp .ne 8, 3) := by decide +kernel
theorem dX8_square_47 : decode cX8_square 47 = .ok (.bipush 9, 2) := by decide +kernel
theorem dX8_square_49 : decode cX8_square 49 = .ok (.goto 11, 3) := by decide +kernel
theorem dX8_square_52 : decode cX8_square 52 = .ok (.aload_n 0, 1) := by decide +kernel
theorem dX8_square_53 : decode cX8_square 53 = .ok (.getfield 22, 3) := by decide +kernel
theorem dX8_square_56 : decode cX8_square 56 = .ok (.iconst 1, 1) := by decide +kernel
theorem dX8_square_57 : decode cX8_square 57 = .ok (.iload_n 1, 1) := by decide +kernel
theorem dX8_square_58 : decode cX8_square 58 = .ok (.iadd, 1) := by decide +kernel
theorem dX8_square_59 : decode cX8_square 59 = .ok (.iaload, 1) := by decide +kernel
theorem dX8_square_60 : decode cX8_square 60 = .ok (.ireturn, 1) := by decide +kernel
theorem dX8_beast_0 : decode cX8_beast 0 = .ok (.aload_n 0, 1) := by decide +kernel
theorem dX8_beast_1 : decode cX8_beast 1 = .ok (.iload_n 1, 1) := by decide +kernel
theorem dX8_beast_2 : decode cX8_beast 2 = .ok (.invokevirtual 231, 3) := by decide +kernel
theorem dX8_beast_5 : decode cX8_beast 5 = .ok (.ifCond .ne 5, 3) := by decide +kernel
theorem dX8_beast_8 : decode cX8_beast 8 = .ok (.iconst (-1), 1) := by decide +kernel
theorem dX8_beast_9 : decode cX8_beast 9 = .ok (.ireturn, 1) := by decide +kernel
end
section
theorem dX8_beast_10 : decode cX8_beast 10 = .ok (.aload_n 0, 1) := by decide +kernel
theorem dX8_beast_11 : decode cX8_beast 11 = .ok (.invokevirtual 228, 3) := by decide +kernel
theorem dX8_beast_14 : decode cX8_beast 14 = .ok (.iload_n 2, 1) := by decide +kernel
theorem dX8_beast_15 : decode cX8_beast 15 = .ok (.tableswitch 65 0 3 #[29, 35, 42, 55], 29) := by decide +kernel
theorem dX8_beast_44 : decode cX8_beast 44 = .ok (.aload_n 0, 1) := by decide +kernel
theorem dX8_beast_45 : decode cX8_beast 45 = .ok (.iload_n 1, 1) := by decide +kernel
theorem dX8_beast_46 : decode cX8_beast 46 = .ok (.invokevirtual 192, 3) := by decide +kernel
theorem dX8_beast_49 : decode cX8_beast 49 = .ok (.ireturn, 1) := by decide +kernel
theorem dX8_beast_50 : decode cX8_beast 50 = .ok (.aload_n 0, 1) := by decide +kernel
theorem dX8_beast_51 : decode cX8_beast 51 = .ok (.getfield 16, 3) := by decide +kernel
theorem dX8_beast_54 : decode cX8_beast 54 = .ok (.iload_n 1, 1) := by decide +kernel
theorem dX8_beast_55 : decode cX8_beast 55 = .ok (.iaload, 1) := by decide +kernel
theorem dX8_beast_56 : decode cX8_beast 56 = .ok (.ireturn, 1) := by decide +kernel
theorem dX8_beast_57 : decode cX8_beast 57 = .ok (.aload_n 0, 1) := by decide +kernel
theorem dX8_beast_58 : decode cX8_beast 58 = .ok (.getfield 22, 3) := by decide +kernel
theorem dX8_beast_61 : decode cX8_beast 61 = .ok (.bipush 37, 2) := by decide +kernel
theorem dX8_beast_63 : decode cX8_beast 63 = .ok (.iload_n 1, 1) := by decide +kernel
theorem dX8_beast_64 : decode cX8_beast 64 = .ok (.iadd, 1) := by decide +kernel
theorem dX8_beast_65 : decode cX8_beast 65 = .ok (.iaload, 1) := by decide +kernel
theorem dX8_beast_66 : decode cX8_beast 66 = .ok (.invokestatic 234, 3) := by decide +kernel
theorem dX8_beast_69 : decode cX8_beast 69 = .ok (.ireturn, 1) := by decide +kernel
theorem dX8_beast_70 : decode cX8_beast 70 = .ok (.aload_n 0, 1) := by decide +kernel
theorem dX8_beast_71 : decode cX8_beast 71 = .ok (.getfield 22, 3) := by decide +kernel
theorem dX8_beast_74 : decode cX8_beast 74 = .ok (.bipush 45, 2) := by decide +kernel
theorem dX8_beast_76 : decode cX8_beast 76 = .ok (.iload_n 1, 1) := by decide +kernel
theorem dX8_beast_77 : decode cX8_beast 77 = .ok (.iadd, 1) := by decide +kernel
theorem dX8_beast_78 : decode cX8_beast 78 = .ok (.iaload, 1) := by decide +kernel
theorem dX8_beast_79 : decode cX8_beast 79 = .ok (.ireturn, 1) := by decide +kernel
theorem dX8_beast_80 : decode cX8_beast 80 = .ok (.iconst (-1), 1) := by decide +kernel
theorem dX8_beast_81 : decode cX8_beast 81 = .ok (.ireturn, 1) := by decide +kernel
theorem dX8_looksAt_0 : decode cX8_looksAt 0 = .ok (.aload_n 0, 1) := by decide +kernel
theorem dX8_looksAt_1 : decode cX8_looksAt 1 = .ok (.iload_n 1, 1) := by decide +kernel
theorem dX8_looksAt_2 : decode cX8_looksAt 2 = .ok (.invokevirtual 231, 3) := by decide +kernel
theorem dX8_looksAt_5 : decode cX8_looksAt 5 = .ok (.ifCond .eq 12, 3) := by decide +kernel
theorem dX8_looksAt_8 : decode cX8_looksAt 8 = .ok (.iload_n 2, 1) := by decide +kernel
theorem dX8_looksAt_9 : decode cX8_looksAt 9 = .ok (.iconst 0, 1) := by decide +kernel
theorem dX8_looksAt_10 : decode cX8_looksAt 10 = .ok (.iconst 3, 1) := by decide +kernel
theorem dX8_looksAt_11 : decode cX8_looksAt 11 = .ok (.invokestatic 115, 3) := by decide +kernel
theorem dX8_looksAt_14 : decode cX8_looksAt 14 = .ok (.ifCond .ne 5, 3) := by decide +kernel
theorem dX8_looksAt_17 : decode cX8_looksAt 17 = .ok (.iconst (-1), 1) := by decide +kernel
theorem dX8_looksAt_18 : decode cX8_looksAt 18 = .ok (.ireturn, 1) := by decide +kernel
theorem dX8_looksAt_19 : decode cX8_looksAt 19 = .ok (.aload_n 0, 1) := by decide +kernel
theorem dX8_looksAt_20 : decode cX8_looksAt 20 = .ok (.getfield 22, 3) := by decide +kernel
theorem dX8_looksAt_23 : decode cX8_looksAt 23 = .ok (.bipush 37, 2) := by decide +kernel
theorem dX8_looksAt_25 : decode cX8_looksAt 25 = .ok (.iload_n 1, 1) := by decide +kernel
theorem dX8_looksAt_26 : decode cX8_looksAt 26 = .ok (.iadd, 1) := by decide +kernel
theorem dX8_looksAt_27 : decode cX8_looksAt 27 = .ok (.iaload, 1) := by decide +kernel
theorem dX8_looksAt_28 : decode cX8_looksAt 28 = .ok (.bipush 36, 2) := by decide +kernel
theorem dX8_looksAt_30 : decode cX8_looksAt 30 = .ok (.if_icmp .ne 6, 3) := by decide +kernel
theorem dX8_looksAt_33 : decode cX8_looksAt 33 = .ok (.bipush (-2), 2) := by decide +kernel
theorem dX8_looksAt_35 : decode cX8_looksAt 35 = .ok (.ireturn, 1) := by decide +kernel
theorem dX8_looksAt_36 : decode cX8_looksAt 36 = .ok (.aload_n 0, 1) := by decide +kernel
theorem dX8_looksAt_37 : decode cX8_looksAt 37 = .ok (.invokevirtual 228, 3) := by decide +kernel
theorem dX8_looksAt_40 : decode cX8_looksAt 40 = .ok (.iconst 0, 1) := by decide +kernel
theorem dX8_looksAt_41 : decode cX8_looksAt 41 = .ok (.ireturn, 1) := by decide +kernel
theorem dX8_goes_0 : decode cX8_goes 0 = .ok (.aload_n 0, 1) := by decide +kernel
theorem dX8_goes_1 : decode cX8_goes 1 = .ok (.iload_n 1, 1) := by decide +kernel
theorem dX8_goes_2 : decode cX8_goes 2 = .ok (.iload_n 2, 1) := by decide +kernel
theorem dX8_goes_3 : decode cX8_goes 3 = .ok (.invokevirtual 237, 3) := by decide +kernel
theorem dX8_goes_6 : decode cX8_goes 6 = .ok (.istore_n 3, 1) := by decide +kernel
theorem dX8_goes_7 : decode cX8_goes 7 = .ok (.iload_n 3, 1) := by decide +kernel
theorem dX8_goes_8 : decode cX8_goes 8 = .ok (.ifCond .ge 7, 3) := by decide +kernel
theorem dX8_goes_11 : decode cX8_goes 11 = .ok (.iload_n 3, 1) := by decide +kernel
theorem dX8_goes_12 : decode cX8_goes 12 = .ok (.goto 10, 3) := by decide +kernel
theorem dX8_goes_15 : decode cX8_goes 15 = .ok (.aload_n 0, 1) := by decide +kernel
theorem dX8_goes_16 : decode cX8_goes 16 = .ok (.iload_n 1, 1) := by decide +kernel
theorem dX8_goes_17 : decode cX8_goes 17 = .ok (.iload_n 2, 1) := by decide +kernel
theorem dX8_goes_18 : decode cX8_goes 18 = .ok (.iconst 1, 1) := by decide +kernel
theorem dX8_goes_19 : decode cX8_goes 19 = .ok (.invokevirtual 208, 3) := by decide +kernel
theorem dX8_goes_22 : decode cX8_goes 22 = .ok (.ireturn, 1) := by decide +kernel
theorem dX8_takes_0 : decode cX8_takes 0 = .ok (.aload_n 0, 1) := by decide +kernel
theorem dX8_takes_1 : decode cX8_takes 1 = .ok (.iload_n 1, 1) := by decide +kernel
theorem dX8_takes_2 : decode cX8_takes 2 = .ok (.iload_n 2, 1) := by decide +kernel
theorem dX8_takes_3 : decode cX8_takes 3 = .ok (.invokevirtual 237, 3) := by decide +kernel
theorem dX8_takes_6 : decode cX8_takes 6 = .ok (.istore_n 3, 1) := by decide +kernel
theorem dX8_takes_7 : decode cX8_takes 7 = .ok (.iload_n 3, 1) := by decide +kernel
theorem dX8_takes_8 : decode cX8_takes 8 = .ok (.ifCond .ge 5, 3) := by decide +kernel
theorem dX8_takes_11 : decode cX8_takes 11 = .ok (.iload_n 3, 1) := by decide +kernel
theorem dX8_takes_12 : decode cX8_takes 12 = .ok (.ireturn, 1) := by decide +kernel
theorem dX8_takes_13 : decode cX8_takes 13 = .ok (.aload_n 0, 1) := by decide +kernel
theorem dX8_takes_14 : decode cX8_takes 14 = .ok (.iload_n 1, 1) := by decide +kernel
theorem dX8_takes_15 : decode cX8_takes 15 = .ok (.iload_n 2, 1) := by decide +kernel
theorem dX8_takes_16 : decode cX8_takes 16 = .ok (.iconst 1, 1) := by decide +kernel
theorem dX8_takes_17 : decode cX8_takes 17 = .ok (.invokevirtual 208, 3) := by decide +kernel
theorem dX8_takes_20 : decode cX8_takes 20 = .ok (.istore 4, 2) := by decide +kernel
theorem dX8_takes_22 : decode cX8_takes 22 = .ok (.iload 4, 2) := by decide +kernel
theorem dX8_takes_24 : decode cX8_takes 24 = .ok (.ifCond .ge 8, 3) := by decide +kernel
theorem dX8_takes_27 : decode cX8_takes 27 = .ok (.bipush (-4), 2) := by decide +kernel
theorem dX8_takes_29 : decode cX8_takes 29 = .ok (.goto 7, 3) := by decide +kernel
theorem dX8_takes_32 : decode cX8_takes 32 = .ok (.aload_n 0, 1) := by decide +kernel
theorem dX8_takes_33 : decode cX8_takes 33 = .ok (.getfield 198, 3) := by decide +kernel
theorem dX8_takes_36 : decode cX8_takes 36 = .ok (.ireturn, 1) := by decide +kernel
theorem dX8_does_0 : decode cX8_does 0 = .ok (.aload_n 0, 1) := by decide +kernel
theorem dX8_does_1 : decode cX8_does 1 = .ok (.getfield 175, 3) := by decide +kernel
theorem dX8_does_4 : decode cX8_does 4 = .ok (.bipush 8, 2) := by decide +kernel
theorem dX8_does_6 : decode cX8_does 6 = .ok (.if_icmp .ne 71, 3) := by decide +kernel
theorem dX8_does_9 : decode cX8_does 9 = .ok (.iconst 0, 1) := by decide +kernel
theorem dX8_does_10 : decode cX8_does 10 = .ok (.istore_n 2, 1) := by decide +kernel
theorem dX8_does_11 : decode cX8_does 11 = .ok (.iload_n 2, 1) := by decide +kernel
theorem dX8_does_12 : decode cX8_does 12 = .ok (.sipush 378, 3) := by decide +kernel
theorem dX8_does_15 : decode cX8_does 15 = .ok (.if_icmp .ge 24, 3) := by decide +kernel
theorem dX8_does_18 : decode cX8_does 18 = .ok (.aload_n 0, 1) := by decide +kernel
theorem dX8_does_19 : decode cX8_does 19 = .ok (.getfield 25, 3) := by decide +kernel
theorem dX8_does_22 : decode cX8_does 22 = .ok (.iload_n 2, 1) := by decide +kernel
theorem dX8_does_23 : decode cX8_does 23 = .ok (.aload_n 0, 1) := by decide +kernel
theorem dX8_does_24 : decode cX8_does 24 = .ok (.getfield 25, 3) := by decide +kernel
theorem dX8_does_27 : decode cX8_does 27 = .ok (.iload_n 2, 1) := by decide +kernel
theorem dX8_does_28 : decode cX8_does 28 = .ok (.bipush 54, 2) := by decide +kernel
theorem dX8_does_30 : decode cX8_does 30 = .ok (.iadd, 1) := by decide +kernel
theorem dX8_does_31 : decode cX8_does 31 = .ok (.iaload, 1) := by decide +kernel
theorem dX8_does_32 : decode cX8_does 32 = .ok (.iastore, 1) := by decide +kernel
theorem dX8_does_33 : decode cX8_does 33 = .ok (.iinc 2 1, 3) := by decide +kernel
theorem dX8_does_36 : decode cX8_does 36 = .ok (.goto (-25), 3) := by decide +kernel
theorem dX8_does_39 : decode cX8_does 39 = .ok (.iconst 0, 1) := by decide +kernel
theorem dX8_does_40 : decode cX8_does 40 = .ok (.istore_n 2, 1) := by decide +kernel
theorem dX8_does_41 : decode cX8_does 41 = .ok (.iload_n 2, 1) := by decide +kernel
theorem dX8_does_42 : decode cX8_does 42 = .ok (.bipush 7, 2) := by decide +kernel
theorem dX8_does_44 : decode cX8_does 44 = .ok (.if_icmp .ge 23, 3) := by decide +kernel
theorem dX8_does_47 : decode cX8_does 47 = .ok (.aload_n 0, 1) := by decide +kernel
theorem dX8_does_48 : decode cX8_does 48 = .ok (.getfield 28, 3) := by decide +kernel
theorem dX8_does_51 : decode cX8_does 51 = .ok (.iload_n 2, 1) := by decide +kernel
theorem dX8_does_52 : decode cX8_does 52 = .ok (.aload_n 0, 1) := by decide +kernel
theorem dX8_does_53 : decode cX8_does 53 = .ok (.getfield 28, 3) := by decide +kernel
theorem dX8_does_56 : decode cX8_does 56 = .ok (.iload_n 2, 1) := by decide +kernel
theorem dX8_does_57 : decode cX8_does 57 = .ok (.iconst 1, 1) := by decide +kernel
theorem dX8_does_58 : decode cX8_does 58 = .ok (.iadd, 1) := by decide +kernel
theorem dX8_does_59 : decode cX8_does 59 = .ok (.iaload, 1) := by decide +kernel
theorem dX8_does_60 : decode cX8_does 60 = .ok (.iastore, 1) := by decide +kernel
theorem dX8_does_61 : decode cX8_does 61 = .ok (.iinc 2 1, 3) := by decide +kernel
theorem dX8_does_64 : decode cX8_does 64 = .ok (.goto (-23), 3) := by decide +kernel
theorem dX8_does_67 : decode cX8_does 67 = .ok (.aload_n 0, 1) := by decide +kernel
theorem dX8_does_68 : decode cX8_does 68 = .ok (.dup, 1) := by decide +kernel
theorem dX8_does_69 : decode cX8_does 69 = .ok (.getfield 175, 3) := by decide +kernel
theorem dX8_does_72 : decode cX8_does 72 = .ok (.iconst 1, 1) := by decide +kernel
theorem dX8_does_73 : decode cX8_does 73 = .ok (.isub, 1) := by decide +kernel
theorem dX8_does_74 : decode cX8_does 74 = .ok (.putfield 175, 3) := by decide +kernel
theorem dX8_does_77 : decode cX8_does 77 = .ok (.aload_n 0, 1) := by decide +kernel
theorem dX8_does_78 : decode cX8_does 78 = .ok (.getfield 25, 3) := by decide +kernel
theorem dX8_does_81 : decode cX8_does 81 = .ok (.bipush 54, 2) := by decide +kernel
theorem dX8_does_83 : decode cX8_does 83 = .ok (.aload_n 0, 1) := by decide +kernel
theorem dX8_does_84 : decode cX8_does 84 = .ok (.getfield 175, 3) := by decide +kernel
theorem dX8_does_87 : decode cX8_does 87 = .ok (.imul, 1) := by decide +kernel
theorem dX8_does_88 : decode cX8_does 88 = .ok (.aload_n 0, 1) := by decide +kernel
theorem dX8_does_89 : decode cX8_does 89 = .ok (.getfield 22, 3) := by decide +kernel
theorem dX8_does_92 : decode cX8_does 92 = .ok (.iconst 0, 1) := by decide +kernel
theorem dX8_does_93 : decode cX8_does 93 = .ok (.bipush 54, 2) := by decide +kernel
theorem dX8_does_95 : decode cX8_does 95 = .ok (.invokestatic 162, 3) := by decide +kernel
theorem dX8_does_98 : decode cX8_does 98 = .ok (.aload_n 0, 1) := by decide +kernel
theorem dX8_does_99 : decode cX8_does 99 = .ok (.getfield 28, 3) := by decide +kernel
theorem dX8_does_102 : decode cX8_does 102 = .ok (.aload_n 0, 1) := by decide +kernel
theorem dX8_does_103 : decode cX8_does 103 = .ok (.getfield 175, 3) := by decide +kernel
theorem dX8_does_106 : decode cX8_does 106 = .ok (.iload_n 1, 1) := by decide +kernel
theorem dX8_does_107 : decode cX8_does 107 = .ok (.iastore, 1) := by decide +kernel
theorem dX8_does_108 : decode cX8_does 108 = .ok (.aload_n 0, 1) := by decide +kernel
theorem dX8_does_109 : decode cX8_does 109 = .ok (.dup, 1) := by decide +kernel
theorem dX8_does_110 : decode cX8_does 110 = .ok (.getfield 175, 3) := by decide +kernel
theorem dX8_does_113 : decode cX8_does 113 = .ok (.iconst 1, 1) := by decide +kernel
theorem dX8_does_114 : decode cX8_does 114 = .ok (.iadd, 1) := by decide +kernel
theorem dX8_does_115 : decode cX8_does 115 = .ok (.putfield 175, 3) := by decide +kernel
theorem dX8_does_118 : decode cX8_does 118 = .ok (.aload_n 0, 1) := by decide +kernel
theorem dX8_does_119 : decode cX8_does 119 = .ok (.iload_n 1, 1) := by decide +kernel
theorem dX8_does_120 : decode cX8_does 120 = .ok (.invokevirtual 240, 3) := by decide +kernel
theorem dX8_does_123 : decode cX8_does 123 = .ok (.aload_n 0, 1) := by decide +kernel
theorem dX8_does_124 : decode cX8_does 124 = .ok (.getfield 22, 3) := by decide +kernel
theorem dX8_does_127 : decode cX8_does 127 = .ok (.iconst 0, 1) := by decide +kernel
theorem dX8_does_128 : decode cX8_does 128 = .ok (.aload_n 0, 1) := by decide +kernel
theorem dX8_does_129 : decode cX8_does 129 = .ok (.getfield 55, 3) := by decide +kernel
theorem dX8_does_132 : decode cX8_does 132 = .ok (.iconst 0, 1) := by decide +kernel
theorem dX8_does_133 : decode cX8_does 133 = .ok (.bipush 54, 2) := by decide +kernel
theorem dX8_does_135 : decode cX8_does 135 = .ok (.invokestatic 162, 3) := by decide +kernel
theorem dX8_does_138 : decode cX8_does 138 = .ok (.return_, 1) := by decide +kernel
theorem dX8_drive_0 : decode cX8_drive 0 = .ok (.aload_n 0, 1) := by decide +kernel
theorem dX8_drive_1 : decode cX8_drive 1 = .ok (.iload_n 1, 1) := by decide +kernel
theorem dX8_drive_2 : decode cX8_drive 2 = .ok (.invokevirtual 231, 3) := by decide +kernel
theorem dX8_drive_5 : decode cX8_drive 5 = .ok (.ifCond .eq 12, 3) := by decide +kernel
theorem dX8_drive_8 : decode cX8_drive 8 = .ok (.iload_n 2, 1) := by decide +kernel
theorem dX8_drive_9 : decode cX8_drive 9 = .ok (.iconst 0, 1) := by decide +kernel
theorem dX8_drive_10 : decode cX8_drive 10 = .ok (.iconst 3, 1) := by decide +kernel
theorem dX8_drive_11 : decode cX8_drive 11 = .ok (.invokestatic 115, 3) := by decide +kernel
theorem dX8_drive_14 : decode cX8_drive 14 = .ok (.ifCond .ne 5, 3) := by decide +kernel
theorem dX8_drive_17 : decode cX8_drive 17 = .ok (.iconst (-1), 1) := by decide +kernel
theorem dX8_drive_18 : decode cX8_drive 18 = .ok (.ireturn, 1) := by decide +kernel
theorem dX8_drive_19 : decode cX8_drive 19 = .ok (.aload_n 0, 1) := by decide +kernel
theorem dX8_drive_20 : decode cX8_drive 20 = .ok (.invokevirtual 228, 3) := by decide +kernel
theorem dX8_drive_23 : decode cX8_drive 23 = .ok (.aload_n 0, 1) := by decide +kernel
theorem dX8_drive_24 : decode cX8_drive 24 = .ok (.bipush 10, 2) := by decide +kernel
theorem dX8_drive_26 : decode cX8_drive 26 = .ok (.iload_n 1, 1) := by decide +kernel
theorem dX8_drive_27 : decode cX8_drive 27 = .ok (.imul, 1) := by decide +kernel
theorem dX8_drive_28 : decode cX8_drive 28 = .ok (.iload_n 2, 1) := by decide +kernel
theorem dX8_drive_29 : decode cX8_drive 29 = .ok (.iadd, 1) := by decide +kernel
theorem dX8_drive_30 : decode cX8_drive 30 = .ok (.invokevirtual 243, 3) := by decide +kernel
theorem dX8_drive_33 : decode cX8_drive 33 = .ok (.ifCond .ne 6, 3) := by decide +kernel
theorem dX8_drive_36 : decode cX8_drive 36 = .ok (.bipush (-2), 2) := by decide +kernel
theorem dX8_drive_38 : decode cX8_drive 38 = .ok (.ireturn, 1) := by decide +kernel
theorem dX8_drive_39 : decode cX8_drive 39 = .ok (.aload_n 0, 1) := by decide +kernel
theorem dX8_drive_40 : decode cX8_drive 40 = .ok (.iload_n 1, 1) := by decide +kernel
theorem dX8_drive_41 : decode cX8_drive 41 = .ok (.iload_n 2, 1) := by decide +kernel
theorem dX8_drive_42 : decode cX8_drive 42 = .ok (.iconst 1, 1) := by decide +kernel
theorem dX8_drive_43 : decode cX8_drive 43 = .ok (.invokevirtual 208, 3) := by decide +kernel
theorem dX8_drive_46 : decode cX8_drive 46 = .ok (.istore_n 3, 1) := by decide +kernel
theorem dX8_drive_47 : decode cX8_drive 47 = .ok (.aload_n 0, 1) := by decide +kernel
theorem dX8_drive_48 : decode cX8_drive 48 = .ok (.bipush 10, 2) := by decide +kernel
theorem dX8_drive_50 : decode cX8_drive 50 = .ok (.iload_n 1, 1) := by decide +kernel
theorem dX8_drive_51 : decode cX8_drive 51 = .ok (.imul, 1) := by decide +kernel
theorem dX8_drive_52 : decode cX8_drive 52 = .ok (.iload_n 2, 1) := by decide +kernel
theorem dX8_drive_53 : decode cX8_drive 53 = .ok (.iadd, 1) := by decide +kernel
theorem dX8_drive_54 : decode cX8_drive 54 = .ok (.invokevirtual 246, 3) := by decide +kernel
theorem dX8_drive_57 : decode cX8_drive 57 = .ok (.iload_n 3, 1) := by decide +kernel
theorem dX8_drive_58 : decode cX8_drive 58 = .ok (.ireturn, 1) := by decide +kernel
theorem dX8_rest_0 : decode cX8_rest 0 = .ok (.aload_n 0, 1) := by decide +kernel
theorem dX8_rest_1 : decode cX8_rest 1 = .ok (.invokevirtual 228, 3) := by decide +kernel
theorem dX8_rest_4 : decode cX8_rest 4 = .ok (.aload_n 0, 1) := by decide +kernel
theorem dX8_rest_5 : decode cX8_rest 5 = .ok (.invokevirtual 222, 3) := by decide +kernel
theorem dX8_rest_8 : decode cX8_rest 8 = .ok (.ifCond .eq 6, 3) := by decide +kernel
theorem dX8_rest_11 : decode cX8_rest 11 = .ok (.bipush (-2), 2) := by decide +kernel
theorem dX8_rest_13 : decode cX8_rest 13 = .ok (.ireturn, 1) := by decide +kernel
theorem dX8_rest_14 : decode cX8_rest 14 = .ok (.aload_n 0, 1) := by decide +kernel
theorem dX8_rest_15 : decode cX8_rest 15 = .ok (.bipush 99, 2) := by decide +kernel
theorem dX8_rest_17 : decode cX8_rest 17 = .ok (.invokevirtual 246, 3) := by decide +kernel
theorem dX8_rest_20 : decode cX8_rest 20 = .ok (.aload_n 0, 1) := by decide +kernel
theorem dX8_rest_21 : decode cX8_rest 21 = .ok (.getfield 22, 3) := by decide +kernel
theorem dX8_rest_24 : decode cX8_rest 24 = .ok (.iconst 0, 1) := by decide +kernel
theorem dX8_rest_25 : decode cX8_rest 25 = .ok (.iaload, 1) := by decide +kernel
theorem dX8_rest_26 : decode cX8_rest 26 = .ok (.ireturn, 1) := by decide +kernel
theorem dX8_undo_0 : decode cX8_undo 0 = .ok (.aload_n 0, 1) := by decide +kernel
theorem dX8_undo_1 : decode cX8_undo 1 = .ok (.getfield 175, 3) := by decide +kernel
theorem dX8_undo_4 : decode cX8_undo 4 = .ok (.ifCond .ne 6, 3) := by decide +kernel
theorem dX8_undo_7 : decode cX8_undo 7 = .ok (.bipush (-2), 2) := by decide +kernel
theorem dX8_undo_9 : decode cX8_undo 9 = .ok (.ireturn, 1) := by decide +kernel
theorem dX8_undo_10 : decode cX8_undo 10 = .ok (.aload_n 0, 1) := by decide +kernel
theorem dX8_undo_11 : decode cX8_undo 11 = .ok (.dup, 1) := by decide +kernel
theorem dX8_undo_12 : decode cX8_undo 12 = .ok (.getfield 175, 3) := by decide +kernel
theorem dX8_undo_15 : decode cX8_undo 15 = .ok (.iconst 1, 1) := by decide +kernel
theorem dX8_undo_16 : decode cX8_undo 16 = .ok (.isub, 1) := by decide +kernel
theorem dX8_undo_17 : decode cX8_undo 17 = .ok (.putfield 175, 3) := by decide +kernel
theorem dX8_undo_20 : decode cX8_undo 20 = .ok (.aload_n 0, 1) := by decide +kernel
theorem dX8_undo_21 : decode cX8_undo 21 = .ok (.getfield 22, 3) := by decide +kernel
theorem dX8_undo_24 : decode cX8_undo 24 = .ok (.iconst 0, 1) := by decide +kernel
theorem dX8_undo_25 : decode cX8_undo 25 = .ok (.aload_n 0, 1) := by decide +kernel
theorem dX8_undo_26 : decode cX8_undo 26 = .ok (.getfield 25, 3) := by decide +kernel
theorem dX8_undo_29 : decode cX8_undo 29 = .ok (.bipush 54, 2) := by decide +kernel
theorem dX8_undo_31 : decode cX8_undo 31 = .ok (.aload_n 0, 1) := by decide +kernel
theorem dX8_undo_32 : decode cX8_undo 32 = .ok (.getfield 175, 3) := by decide +kernel
theorem dX8_undo_35 : decode cX8_undo 35 = .ok (.imul, 1) := by decide +kernel
theorem dX8_undo_36 : decode cX8_undo 36 = .ok (.bipush 54, 2) := by decide +kernel
theorem dX8_undo_38 : decode cX8_undo 38 = .ok (.invokestatic 162, 3) := by decide +kernel
theorem dX8_undo_41 : decode cX8_undo 41 = .ok (.aload_n 0, 1) := by decide +kernel
theorem dX8_undo_42 : decode cX8_undo 42 = .ok (.getfield 175, 3) := by decide +kernel
theorem dX8_undo_45 : decode cX8_undo 45 = .ok (.ireturn, 1) := by decide +kernel
theorem dX8_reaches_0 : decode cX8_reaches 0 = .ok (.aload_n 0, 1) := by decide +kernel
theorem dX8_reaches_1 : decode cX8_reaches 1 = .ok (.getfield 61, 3) := by decide +kernel
theorem dX8_reaches_4 : decode cX8_reaches 4 = .ok (.iload_n 1, 1) := by decide +kernel
theorem dX8_reaches_5 : decode cX8_reaches 5 = .ok (.iaload, 1) := by decide +kernel
theorem dX8_reaches_6 : decode cX8_reaches 6 = .ok (.ifCond .ge 59, 3) := by decide +kernel
theorem dX8_reaches_9 : decode cX8_reaches 9 = .ok (.aload_n 0, 1) := by decide +kernel
theorem dX8_reaches_10 : decode cX8_reaches 10 = .ok (.getfield 61, 3) := by decide +kernel
theorem dX8_reaches_13 : decode cX8_reaches 13 = .ok (.iload_n 1, 1) := by decide +kernel
theorem dX8_reaches_14 : decode cX8_reaches 14 = .ok (.iload_n 2, 1) := by decide +kernel
theorem dX8_reaches_15 : decode cX8_reaches 15 = .ok (.ifCond .ge 7, 3) := by decide +kernel
theorem dX8_reaches_18 : decode cX8_reaches 18 = .ok (.iconst 0, 1) := by decide +kernel
theorem dX8_reaches_19 : decode cX8_reaches 19 = .ok (.goto 11, 3) := by decide +kernel
theorem dX8_reaches_22 : decode cX8_reaches 22 = .ok (.aload_n 0, 1) := by decide +kernel
theorem dX8_reaches_23 : decode cX8_reaches 23 = .ok (.getfield 61, 3) := by decide +kernel
theorem dX8_reaches_26 : decode cX8_reaches 26 = .ok (.iload_n 2, 1) := by decide +kernel
theorem dX8_reaches_27 : decode cX8_reaches 27 = .ok (.iaload, 1) := by decide +kernel
theorem dX8_reaches_28 : decode cX8_reaches 28 = .ok (.iconst 1, 1) := by decide +kernel
theorem dX8_reaches_29 : decode cX8_reaches 29 = .ok (.iadd, 1) := by decide +kernel
theorem dX8_reaches_30 : decode cX8_reaches 30 = .ok (.iastore, 1) := by decide +kernel
theorem dX8_reaches_31 : decode cX8_reaches 31 = .ok (.aload_n 0, 1) := by decide +kernel
theorem dX8_reaches_32 : decode cX8_reaches 32 = .ok (.getfield 64, 3) := by decide +kernel
theorem dX8_reaches_35 : decode cX8_reaches 35 = .ok (.iload_n 1, 1) := by decide +kernel
theorem dX8_reaches_36 : decode cX8_reaches 36 = .ok (.iload_n 2, 1) := by decide +kernel
theorem dX8_reaches_37 : decode cX8_reaches 37 = .ok (.iastore, 1) := by decide +kernel
theorem dX8_reaches_38 : decode cX8_reaches 38 = .ok (.aload_n 0, 1) := by decide +kernel
theorem dX8_reaches_39 : decode cX8_reaches 39 = .ok (.getfield 67, 3) := by decide +kernel
theorem dX8_reaches_42 : decode cX8_reaches 42 = .ok (.iload_n 1, 1) := by decide +kernel
theorem dX8_reaches_43 : decode cX8_reaches 43 = .ok (.iload_n 3, 1) := by decide +kernel
theorem dX8_reaches_44 : decode cX8_reaches 44 = .ok (.iastore, 1) := by decide +kernel
theorem dX8_reaches_45 : decode cX8_reaches 45 = .ok (.aload_n 0, 1) := by decide +kernel
theorem dX8_reaches_46 : decode cX8_reaches 46 = .ok (.getfield 58, 3) := by decide +kernel
theorem dX8_reaches_49 : decode cX8_reaches 49 = .ok (.aload_n 0, 1) := by decide +kernel
theorem dX8_reaches_50 : decode cX8_reaches 50 = .ok (.getfield 249, 3) := by decide +kernel
theorem dX8_reaches_53 : decode cX8_reaches 53 = .ok (.iload_n 1, 1) := by decide +kernel
theorem dX8_reaches_54 : decode cX8_reaches 54 = .ok (.iastore, 1) := by decide +kernel
theorem dX8_reaches_55 : decode cX8_reaches 55 = .ok (.aload_n 0, 1) := by decide +kernel
theorem dX8_reaches_56 : decode cX8_reaches 56 = .ok (.dup, 1) := by decide +kernel
theorem dX8_reaches_57 : decode cX8_reaches 57 = .ok (.getfield 249, 3) := by decide +kernel
theorem dX8_reaches_60 : decode cX8_reaches 60 = .ok (.iconst 1, 1) := by decide +kernel
theorem dX8_reaches_61 : decode cX8_reaches 61 = .ok (.iadd, 1) := by decide +kernel
theorem dX8_reaches_62 : decode cX8_reaches 62 = .ok (.putfield 249, 3) := by decide +kernel
theorem dX8_reaches_65 : decode cX8_reaches 65 = .ok (.return_, 1) := by decide +kernel
theorem dX8_nowOne_0 : decode cX8_nowOne 0 = .ok (.aload_n 0, 1) := by decide +kernel
theorem dX8_nowOne_1 : decode cX8_nowOne 1 = .ok (.getfield 55, 3) := by decide +kernel
theorem dX8_nowOne_4 : decode cX8_nowOne 4 = .ok (.bipush 37, 2) := by decide +kernel
theorem dX8_nowOne_6 : decode cX8_nowOne 6 = .ok (.iload_n 1, 1) := by decide +kernel
theorem dX8_nowOne_7 : decode cX8_nowOne 7 = .ok (.iadd, 1) := by decide +kernel
theorem dX8_nowOne_8 : decode cX8_nowOne 8 = .ok (.iaload, 1) := by decide +kernel
theorem dX8_nowOne_9 : decode cX8_nowOne 9 = .ok (.aload_n 0, 1) := by decide +kernel
theorem dX8_nowOne_10 : decode cX8_nowOne 10 = .ok (.getfield 55, 3) := by decide +kernel
theorem dX8_nowOne_13 : decode cX8_nowOne 13 = .ok (.bipush 53, 2) := by decide +kernel
theorem dX8_nowOne_15 : decode cX8_nowOne 15 = .ok (.iaload, 1) := by decide +kernel
theorem dX8_nowOne_16 : decode cX8_nowOne 16 = .ok (.iload_n 1, 1) := by decide +kernel
theorem dX8_nowOne_17 : decode cX8_nowOne 17 = .ok (.invokestatic 181, 3) := by decide +kernel
theorem dX8_nowOne_20 : decode cX8_nowOne 20 = .ok (.ifCond .eq 8, 3) := by decide +kernel
theorem dX8_nowOne_23 : decode cX8_nowOne 23 = .ok (.bipush 36, 2) := by decide +kernel
theorem dX8_nowOne_25 : decode cX8_nowOne 25 = .ok (.goto 4, 3) := by decide +kernel
theorem dX8_nowOne_28 : decode cX8_nowOne 28 = .ok (.iconst 0, 1) := by decide +kernel
theorem dX8_nowOne_29 : decode cX8_nowOne 29 = .ok (.iadd, 1) := by decide +kernel
theorem dX8_nowOne_30 : decode cX8_nowOne 30 = .ok (.ireturn, 1) := by decide +kernel
theorem dX8_strays_0 : decode cX8_strays 0 = .ok (.iconst 0, 1) := by decide +kernel
theorem dX8_strays_1 : decode cX8_strays 1 = .ok (.istore_n 3, 1) := by decide +kernel
theorem dX8_strays_2 : decode cX8_strays 2 = .ok (.iload_n 3, 1) := by decide +kernel
theorem dX8_strays_3 : decode cX8_strays 3 = .ok (.bipush 72, 2) := by decide +kernel
theorem dX8_strays_5 : decode cX8_strays 5 = .ok (.if_icmp .ge 16, 3) := by decide +kernel
theorem dX8_strays_8 : decode cX8_strays 8 = .ok (.aload_n 0, 1) := by decide +kernel
theorem dX8_strays_9 : decode cX8_strays 9 = .ok (.getfield 61, 3) := by decide +kernel
theorem dX8_strays_12 : decode cX8_strays 12 = .ok (.iload_n 3, 1) := by decide +kernel
theorem dX8_strays_13 : decode cX8_strays 13 = .ok (.iconst (-1), 1) := by decide +kernel
theorem dX8_strays_14 : decode cX8_strays 14 = .ok (.iastore, 1) := by decide +kernel
theorem dX8_strays_15 : decode cX8_strays 15 = .ok (.iinc 3 1, 3) := by decide +kernel
theorem dX8_strays_18 : decode cX8_strays 18 = .ok (.goto (-16), 3) := by decide +kernel
theorem dX8_strays_21 : decode cX8_strays 21 = .ok (.aload_n 0, 1) := by decide +kernel
theorem dX8_strays_22 : decode cX8_strays 22 = .ok (.iconst 0, 1) := by decide +kernel
theorem dX8_strays_23 : decode cX8_strays 23 = .ok (.putfield 249, 3) := by decide +kernel
theorem dX8_strays_26 : decode cX8_strays 26 = .ok (.aload_n 0, 1) := by decide +kernel
theorem dX8_strays_27 : decode cX8_strays 27 = .ok (.invokevirtual 228, 3) := by decide +kernel
theorem dX8_strays_30 : decode cX8_strays 30 = .ok (.aload_n 0, 1) := by decide +kernel
theorem dX8_strays_31 : decode cX8_strays 31 = .ok (.getfield 55, 3) := by decide +kernel
theorem dX8_strays_34 : decode cX8_strays 34 = .ok (.bipush 53, 2) := by decide +kernel
theorem dX8_strays_36 : decode cX8_strays 36 = .ok (.iaload, 1) := by decide +kernel
theorem dX8_strays_37 : decode cX8_strays 37 = .ok (.iconst 1, 1) := by decide +kernel
theorem dX8_strays_38 : decode cX8_strays 38 = .ok (.iload_n 1, 1) := by decide +kernel
theorem dX8_strays_39 : decode cX8_strays 39 = .ok (.ishl, 1) := by decide +kernel
theorem dX8_strays_40 : decode cX8_strays 40 = .ok (.iconst (-1), 1) := by decide +kernel
theorem dX8_strays_41 : decode cX8_strays 41 = .ok (.ixor, 1) := by decide +kernel
theorem dX8_strays_42 : decode cX8_strays 42 = .ok (.iand, 1) := by decide +kernel
theorem dX8_strays_43 : decode cX8_strays 43 = .ok (.istore_n 3, 1) := by decide +kernel
theorem dX8_strays_44 : decode cX8_strays 44 = .ok (.aload_n 0, 1) := by decide +kernel
theorem dX8_strays_45 : decode cX8_strays 45 = .ok (.aload_n 0, 1) := by decide +kernel
theorem dX8_strays_46 : decode cX8_strays 46 = .ok (.iload_n 1, 1) := by decide +kernel
theorem dX8_strays_47 : decode cX8_strays 47 = .ok (.invokevirtual 252, 3) := by decide +kernel
theorem dX8_strays_50 : decode cX8_strays 50 = .ok (.iconst (-1), 1) := by decide +kernel
theorem dX8_strays_51 : decode cX8_strays 51 = .ok (.iconst 0, 1) := by decide +kernel
theorem dX8_strays_52 : decode cX8_strays 52 = .ok (.invokevirtual 255, 3) := by decide +kernel
theorem dX8_strays_55 : decode cX8_strays 55 = .ok (.iconst 0, 1) := by decide +kernel
theorem dX8_strays_56 : decode cX8_strays 56 = .ok (.istore 4, 2) := by decide +kernel
theorem dX8_strays_58 : decode cX8_strays 58 = .ok (.iload 4, 2) := by decide +kernel
theorem dX8_strays_60 : decode cX8_strays 60 = .ok (.aload_n 0, 1) := by decide +kernel
theorem dX8_strays_61 : decode cX8_strays 61 = .ok (.getfield 249, 3) := by decide +kernel
theorem dX8_strays_64 : decode cX8_strays 64 = .ok (.if_icmp .ge 116, 3) := by decide +kernel
theorem dX8_strays_67 : decode cX8_strays 67 = .ok (.aload_n 0, 1) := by decide +kernel
theorem dX8_strays_68 : decode cX8_strays 68 = .ok (.getfield 58, 3) := by decide +kernel
theorem dX8_strays_71 : decode cX8_strays 71 = .ok (.iload 4, 2) := by decide +kernel
theorem dX8_strays_73 : decode cX8_strays 73 = .ok (.iaload, 1) := by decide +kernel
theorem dX8_strays_74 : decode cX8_strays 74 = .ok (.istore 5, 2) := by decide +kernel
theorem dX8_strays_76 : decode cX8_strays 76 = .ok (.iconst 0, 1) := by decide +kernel
theorem dX8_strays_77 : decode cX8_strays 77 = .ok (.istore 6, 2) := by decide +kernel
theorem dX8_strays_79 : decode cX8_strays 79 = .ok (.iload 6, 2) := by decide +kernel
theorem dX8_strays_81 : decode cX8_strays 81 = .ok (.iconst 4, 1) := by decide +kernel
theorem dX8_strays_82 : decode cX8_strays 82 = .ok (.if_icmp .ge 92, 3) := by decide +kernel
theorem dX8_strays_85 : decode cX8_strays 85 = .ok (.aload_n 0, 1) := by decide +kernel
theorem dX8_strays_86 : decode cX8_strays 86 = .ok (.getfield 61, 3) := by decide +kernel
theorem dX8_strays_89 : decode cX8_strays 89 = .ok (.iload 5, 2) := by decide +kernel
theorem dX8_strays_91 : decode cX8_strays 91 = .ok (.iaload, 1) := by decide +kernel
theorem dX8_strays_92 : decode cX8_strays 92 = .ok (.iload_n 2, 1) := by decide +kernel
theorem dX8_strays_93 : decode cX8_strays 93 = .ok (.if_icmp .ge 81, 3) := by decide +kernel
theorem dX8_strays_96 : decode cX8_strays 96 = .ok (.aload_n 0, 1) := by decide +kernel
theorem dX8_strays_97 : decode cX8_strays 97 = .ok (.getfield 55, 3) := by decide +kernel
theorem dX8_strays_100 : decode cX8_strays 100 = .ok (.bipush 37, 2) := by decide +kernel
theorem dX8_strays_102 : decode cX8_strays 102 = .ok (.iload_n 1, 1) := by decide +kernel
theorem dX8_strays_103 : decode cX8_strays 103 = .ok (.iadd, 1) := by decide +kernel
theorem dX8_strays_104 : decode cX8_strays 104 = .ok (.iload 5, 2) := by decide +kernel
theorem dX8_strays_106 : decode cX8_strays 106 = .ok (.bipush 36, 2) := by decide +kernel
theorem dX8_strays_108 : decode cX8_strays 108 = .ok (.irem, 1) := by decide +kernel
theorem dX8_strays_109 : decode cX8_strays 109 = .ok (.iastore, 1) := by decide +kernel
theorem dX8_strays_110 : decode cX8_strays 110 = .ok (.aload_n 0, 1) := by decide +kernel
theorem dX8_strays_111 : decode cX8_strays 111 = .ok (.getfield 55, 3) := by decide +kernel
theorem dX8_strays_114 : decode cX8_strays 114 = .ok (.bipush 53, 2) := by decide +kernel
theorem dX8_strays_116 : decode cX8_strays 116 = .ok (.iload_n 3, 1) := by decide +kernel
theorem dX8_strays_117 : decode cX8_strays 117 = .ok (.iload 5, 2) := by decide +kernel
theorem dX8_strays_119 : decode cX8_strays 119 = .ok (.bipush 36, 2) := by decide +kernel
theorem dX8_strays_121 : decode cX8_strays 121 = .ok (.if_icmp .lt 9, 3) := by decide +kernel
theorem dX8_strays_124 : decode cX8_strays 124 = .ok (.iconst 1, 1) := by decide +kernel
theorem dX8_strays_125 : decode cX8_strays 125 = .ok (.iload_n 1, 1) := by decide +kernel
theorem dX8_strays_126 : decode cX8_strays 126 = .ok (.ishl, 1) := by decide +kernel
theorem dX8_strays_127 : decode cX8_strays 127 = .ok (.goto 4, 3) := by decide +kernel
theorem dX8_strays_130 : decode cX8_strays 130 = .ok (.iconst 0, 1) := by decide +kernel
theorem dX8_strays_131 : decode cX8_strays 131 = .ok (.ior, 1) := by decide +kernel
theorem dX8_strays_132 : decode cX8_strays 132 = .ok (.iastore, 1) := by decide +kernel
theorem dX8_strays_133 : decode cX8_strays 133 = .ok (.aload_n 0, 1) := by decide +kernel
theorem dX8_strays_134 : decode cX8_strays 134 = .ok (.iload_n 1, 1) := by decide +kernel
theorem dX8_strays_135 : decode cX8_strays 135 = .ok (.iload 6, 2) := by decide +kernel
theorem dX8_strays_137 : decode cX8_strays 137 = .ok (.iconst 0, 1) := by decide +kernel
theorem dX8_strays_138 : decode cX8_strays 138 = .ok (.invokevirtual 208, 3) := by decide +kernel
theorem dX8_strays_141 : decode cX8_strays 141 = .ok (.istore 7, 2) := by decide +kernel
theorem dX8_strays_143 : decode cX8_strays 143 = .ok (.iload 7, 2) := by decide +kernel
theorem dX8_strays_145 : decode cX8_strays 145 = .ok (.ifCond .lt 23, 3) := by decide +kernel
theorem dX8_strays_148 : decode cX8_strays 148 = .ok (.aload_n 0, 1) := by decide +kernel
theorem dX8_strays_149 : decode cX8_strays 149 = .ok (.iload_n 1, 1) := by decide +kernel
theorem dX8_strays_150 : decode cX8_strays 150 = .ok (.iload 7, 2) := by decide +kernel
theorem dX8_strays_152 : decode cX8_strays 152 = .ok (.invokevirtual 212, 3) := by decide +kernel
theorem dX8_strays_155 : decode cX8_strays 155 = .ok (.aload_n 0, 1) := by decide +kernel
theorem dX8_strays_156 : decode cX8_strays 156 = .ok (.aload_n 0, 1) := by decide +kernel
theorem dX8_strays_157 : decode cX8_strays 157 = .ok (.iload_n 1, 1) := by decide +kernel
theorem dX8_strays_158 : decode cX8_strays 158 = .ok (.invokevirtual 252, 3) := by decide +kernel
theorem dX8_strays_161 : decode cX8_strays 161 = .ok (.iload 5, 2) := by decide +kernel
theorem dX8_strays_163 : decode cX8_strays 163 = .ok (.iload 6, 2) := by decide +kernel
theorem dX8_strays_165 : decode cX8_strays 165 = .ok (.invokevirtual 255, 3) := by decide +kernel
theorem dX8_strays_168 : decode cX8_strays 168 = .ok (.iinc 6 1, 3) := by decide +kernel
theorem dX8_strays_171 : decode cX8_strays 171 = .ok (.goto (-92), 3) := by decide +kernel
theorem dX8_strays_174 : decode cX8_strays 174 = .ok (.iinc 4 1, 3) := by decide +kernel
theorem dX8_strays_177 : decode cX8_strays 177 = .ok (.goto (-119), 3) := by decide +kernel
theorem dX8_strays_180 : decode cX8_strays 180 = .ok (.return_, 1) := by decide +kernel
theorem dX8_fewest_0 : decode cX8_fewest 0 = .ok (.aload_n 0, 1) := by decide +kernel
theorem dX8_fewest_1 : decode cX8_fewest 1 = .ok (.iload_n 1, 1) := by decide +kernel
theorem dX8_fewest_2 : decode cX8_fewest 2 = .ok (.invokevirtual 231, 3) := by decide +kernel
theorem dX8_fewest_5 : decode cX8_fewest 5 = .ok (.ifCond .eq 16, 3) := by decide +kernel
theorem dX8_fewest_8 : decode cX8_fewest 8 = .ok (.aload_n 0, 1) := by decide +kernel
theorem dX8_fewest_9 : decode cX8_fewest 9 = .ok (.iload_n 2, 1) := by decide +kernel
theorem dX8_fewest_10 : decode cX8_fewest 10 = .ok (.invokevirtual 225, 3) := by decide +kernel
theorem dX8_fewest_13 : decode cX8_fewest 13 = .ok (.ifCond .eq 8, 3) := by decide +kernel
theorem dX8_fewest_16 : decode cX8_fewest 16 = .ok (.iload_n 3, 1) := by decide +kernel
theorem dX8_fewest_17 : decode cX8_fewest 17 = .ok (.iconst (-1), 1) := by decide +kernel
theorem dX8_fewest_18 : decode cX8_fewest 18 = .ok (.if_icmp .ge 5, 3) := by decide +kernel
theorem dX8_fewest_21 : decode cX8_fewest 21 = .ok (.iconst (-1), 1) := by decide +kernel
theorem dX8_fewest_22 : decode cX8_fewest 22 = .ok (.ireturn, 1) := by decide +kernel
theorem dX8_fewest_23 : decode cX8_fewest 23 = .ok (.aload_n 0, 1) := by decide +kernel
theorem dX8_fewest_24 : decode cX8_fewest 24 = .ok (.getfield 22, 3) := by decide +kernel
theorem dX8_fewest_27 : decode cX8_fewest 27 = .ok (.bipush 37, 2) := by decide +kernel
theorem dX8_fewest_29 : decode cX8_fewest 29 = .ok (.iload_n 1, 1) := by decide +kernel
theorem dX8_fewest_30 : decode cX8_fewest 30 = .ok (.iadd, 1) := by decide +kernel
theorem dX8_fewest_31 : decode cX8_fewest 31 = .ok (.iaload, 1) := by decide +kernel
theorem dX8_fewest_32 : decode cX8_fewest 32 = .ok (.bipush 36, 2) := by decide +kernel
theorem dX8_fewest_34 : decode cX8_fewest 34 = .ok (.if_icmp .ne 6, 3) := by decide +kernel
theorem dX8_fewest_37 : decode cX8_fewest 37 = .ok (.bipush (-2), 2) := by decide +kernel
theorem dX8_fewest_39 : decode cX8_fewest 39 = .ok (.ireturn, 1) := by decide +kernel
theorem dX8_fewest_40 : decode cX8_fewest 40 = .ok (.aload_n 0, 1) := by decide +kernel
theorem dX8_fewest_41 : decode cX8_fewest 41 = .ok (.iload_n 1, 1) := by decide +kernel
theorem dX8_fewest_42 : decode cX8_fewest 42 = .ok (.bipush 12, 2) := by decide +kernel
theorem dX8_fewest_44 : decode cX8_fewest 44 = .ok (.invokevirtual 258, 3) := by decide +kernel
theorem dX8_fewest_47 : decode cX8_fewest 47 = .ok (.bipush (-4), 2) := by decide +kernel
theorem dX8_fewest_49 : decode cX8_fewest 49 = .ok (.istore 4, 2) := by decide +kernel
theorem dX8_fewest_51 : decode cX8_fewest 51 = .ok (.aload_n 0, 1) := by decide +kernel
theorem dX8_fewest_52 : decode cX8_fewest 52 = .ok (.getfield 249, 3) := by decide +kernel
theorem dX8_fewest_55 : decode cX8_fewest 55 = .ok (.iconst 1, 1) := by decide +kernel
theorem dX8_fewest_56 : decode cX8_fewest 56 = .ok (.isub, 1) := by decide +kernel
theorem dX8_fewest_57 : decode cX8_fewest 57 = .ok (.istore 5, 2) := by decide +kernel
theorem dX8_fewest_59 : decode cX8_fewest 59 = .ok (.iload 5, 2) := by decide +kernel
theorem dX8_fewest_61 : decode cX8_fewest 61 = .ok (.ifCond .lt 37, 3) := by decide +kernel
theorem dX8_fewest_64 : decode cX8_fewest 64 = .ok (.aload_n 0, 1) := by decide +kernel
theorem dX8_fewest_65 : decode cX8_fewest 65 = .ok (.getfield 58, 3) := by decide +kernel
theorem dX8_fewest_68 : decode cX8_fewest 68 = .ok (.iload 5, 2) := by decide +kernel
theorem dX8_fewest_70 : decode cX8_fewest 70 = .ok (.iaload, 1) := by decide +kernel
theorem dX8_fewest_71 : decode cX8_fewest 71 = .ok (.bipush 36, 2) := by decide +kernel
theorem dX8_fewest_73 : decode cX8_fewest 73 = .ok (.irem, 1) := by decide +kernel
theorem dX8_fewest_74 : decode cX8_fewest 74 = .ok (.iload_n 2, 1) := by decide +kernel
theorem dX8_fewest_75 : decode cX8_fewest 75 = .ok (.if_icmp .ne 13, 3) := by decide +kernel
theorem dX8_fewest_78 : decode cX8_fewest 78 = .ok (.aload_n 0, 1) := by decide +kernel
theorem dX8_fewest_79 : decode cX8_fewest 79 = .ok (.getfield 58, 3) := by decide +kernel
theorem dX8_fewest_82 : decode cX8_fewest 82 = .ok (.iload 5, 2) := by decide +kernel
theorem dX8_fewest_84 : decode cX8_fewest 84 = .ok (.iaload, 1) := by decide +kernel
theorem dX8_fewest_85 : decode cX8_fewest 85 = .ok (.goto 5, 3) := by decide +kernel
theorem dX8_fewest_88 : decode cX8_fewest 88 = .ok (.iload 4, 2) := by decide +kernel
theorem dX8_fewest_90 : decode cX8_fewest 90 = .ok (.istore 4, 2) := by decide +kernel
theorem dX8_fewest_92 : decode cX8_fewest 92 = .ok (.iinc 5 (-1), 3) := by decide +kernel
theorem dX8_fewest_95 : decode cX8_fewest 95 = .ok (.goto (-36), 3) := by decide +kernel
theorem dX8_fewest_98 : decode cX8_fewest 98 = .ok (.iload 4, 2) := by decide +kernel
theorem dX8_fewest_100 : decode cX8_fewest 100 = .ok (.ifCond .ge 6, 3) := by decide +kernel
theorem dX8_fewest_103 : decode cX8_fewest 103 = .ok (.bipush (-4), 2) := by decide +kernel
theorem dX8_fewest_105 : decode cX8_fewest 105 = .ok (.ireturn, 1) := by decide +kernel
theorem dX8_fewest_106 : decode cX8_fewest 106 = .ok (.aload_n 0, 1) := by decide +kernel
theorem dX8_fewest_107 : decode cX8_fewest 107 = .ok (.getfield 61, 3) := by decide +kernel
theorem dX8_fewest_110 : decode cX8_fewest 110 = .ok (.iload 4, 2) := by decide +kernel
theorem dX8_fewest_112 : decode cX8_fewest 112 = .ok (.iaload, 1) := by decide +kernel
theorem dX8_fewest_113 : decode cX8_fewest 113 = .ok (.istore 5, 2) := by decide +kernel
theorem dX8_fewest_115 : decode cX8_fewest 115 = .ok (.iload_n 3, 1) := by decide +kernel
theorem dX8_fewest_116 : decode cX8_fewest 116 = .ok (.ifCond .lt 9, 3) := by decide +kernel
theorem dX8_fewest_119 : decode cX8_fewest 119 = .ok (.iload_n 3, 1) := by decide +kernel
theorem dX8_fewest_120 : decode cX8_fewest 120 = .ok (.iload 5, 2) := by decide +kernel
theorem dX8_fewest_122 : decode cX8_fewest 122 = .ok (.if_icmp .lt 15, 3) := by decide +kernel
theorem dX8_fewest_125 : decode cX8_fewest 125 = .ok (.iload_n 3, 1) := by decide +kernel
theorem dX8_fewest_126 : decode cX8_fewest 126 = .ok (.ifCond .ge 8, 3) := by decide +kernel
theorem dX8_fewest_129 : decode cX8_fewest 129 = .ok (.iload 5, 2) := by decide +kernel
theorem dX8_fewest_131 : decode cX8_fewest 131 = .ok (.goto 5, 3) := by decide +kernel
theorem dX8_fewest_134 : decode cX8_fewest 134 = .ok (.bipush (-4), 2) := by decide +kernel
theorem dX8_fewest_136 : decode cX8_fewest 136 = .ok (.ireturn, 1) := by decide +kernel
theorem dX8_fewest_137 : decode cX8_fewest 137 = .ok (.aload_n 0, 1) := by decide +kernel
theorem dX8_fewest_138 : decode cX8_fewest 138 = .ok (.getfield 61, 3) := by decide +kernel
theorem dX8_fewest_141 : decode cX8_fewest 141 = .ok (.iload 4, 2) := by decide +kernel
theorem dX8_fewest_143 : decode cX8_fewest 143 = .ok (.iaload, 1) := by decide +kernel
theorem dX8_fewest_144 : decode cX8_fewest 144 = .ok (.iload_n 3, 1) := by decide +kernel
theorem dX8_fewest_145 : decode cX8_fewest 145 = .ok (.iconst 1, 1) := by decide +kernel
theorem dX8_fewest_146 : decode cX8_fewest 146 = .ok (.iadd, 1) := by decide +kernel
theorem dX8_fewest_147 : decode cX8_fewest 147 = .ok (.if_icmp .le 15, 3) := by decide +kernel
theorem dX8_fewest_150 : decode cX8_fewest 150 = .ok (.aload_n 0, 1) := by decide +kernel
theorem dX8_fewest_151 : decode cX8_fewest 151 = .ok (.getfield 64, 3) := by decide +kernel
theorem dX8_fewest_154 : decode cX8_fewest 154 = .ok (.iload 4, 2) := by decide +kernel
theorem dX8_fewest_156 : decode cX8_fewest 156 = .ok (.iaload, 1) := by decide +kernel
theorem dX8_fewest_157 : decode cX8_fewest 157 = .ok (.istore 4, 2) := by decide +kernel
theorem dX8_fewest_159 : decode cX8_fewest 159 = .ok (.goto (-22), 3) := by decide +kernel
theorem dX8_fewest_162 : decode cX8_fewest 162 = .ok (.aload_n 0, 1) := by decide +kernel
theorem dX8_fewest_163 : decode cX8_fewest 163 = .ok (.getfield 67, 3) := by decide +kernel
theorem dX8_fewest_166 : decode cX8_fewest 166 = .ok (.iload 4, 2) := by decide +kernel
theorem dX8_fewest_168 : decode cX8_fewest 168 = .ok (.iaload, 1) := by decide +kernel
theorem dX8_fewest_169 : decode cX8_fewest 169 = .ok (.ireturn, 1) := by decide +kernel
theorem dX8_stray_0 : decode cX8_stray 0 = .ok (.aload_n 0, 1) := by decide +kernel
theorem dX8_stray_1 : decode cX8_stray 1 = .ok (.iload_n 1, 1) := by decide +kernel
theorem dX8_stray_2 : decode cX8_stray 2 = .ok (.invokevirtual 231, 3) := by decide +kernel
theorem dX8_stray_5 : decode cX8_stray 5 = .ok (.ifCond .eq 13, 3) := by decide +kernel
theorem dX8_stray_8 : decode cX8_stray 8 = .ok (.iload_n 2, 1) := by decide +kernel
theorem dX8_stray_9 : decode cX8_stray 9 = .ok (.iconst 0, 1) := by decide +kernel
theorem dX8_stray_10 : decode cX8_stray 10 = .ok (.bipush 6, 2) := by decide +kernel
theorem dX8_stray_12 : decode cX8_stray 12 = .ok (.invokestatic 115, 3) := by decide +kernel
theorem dX8_stray_15 : decode cX8_stray 15 = .ok (.ifCond .ne 5, 3) := by decide +kernel
theorem dX8_stray_18 : decode cX8_stray 18 = .ok (.iconst (-1), 1) := by decide +kernel
theorem dX8_stray_19 : decode cX8_stray 19 = .ok (.ireturn, 1) := by decide +kernel
theorem dX8_stray_20 : decode cX8_stray 20 = .ok (.aload_n 0, 1) := by decide +kernel
theorem dX8_stray_21 : decode cX8_stray 21 = .ok (.getfield 22, 3) := by decide +kernel
theorem dX8_stray_24 : decode cX8_stray 24 = .ok (.bipush 37, 2) := by decide +kernel
theorem dX8_stray_26 : decode cX8_stray 26 = .ok (.iload_n 1, 1) := by decide +kernel
theorem dX8_stray_27 : decode cX8_stray 27 = .ok (.iadd, 1) := by decide +kernel
theorem dX8_stray_28 : decode cX8_stray 28 = .ok (.iaload, 1) := by decide +kernel
theorem dX8_stray_29 : decode cX8_stray 29 = .ok (.bipush 36, 2) := by decide +kernel
theorem dX8_stray_31 : decode cX8_stray 31 = .ok (.if_icmp .ne 6, 3) := by decide +kernel
theorem dX8_stray_34 : decode cX8_stray 34 = .ok (.bipush (-2), 2) := by decide +kernel
theorem dX8_stray_36 : decode cX8_stray 36 = .ok (.ireturn, 1) := by decide +kernel
theorem dX8_stray_37 : decode cX8_stray 37 = .ok (.aload_n 0, 1) := by decide +kernel
theorem dX8_stray_38 : decode cX8_stray 38 = .ok (.iload_n 1, 1) := by decide +kernel
theorem dX8_stray_39 : decode cX8_stray 39 = .ok (.iload_n 2, 1) := by decide +kernel
theorem dX8_stray_40 : decode cX8_stray 40 = .ok (.invokevirtual 258, 3) := by decide +kernel
theorem dX8_stray_43 : decode cX8_stray 43 = .ok (.iconst 0, 1) := by decide +kernel
theorem dX8_stray_44 : decode cX8_stray 44 = .ok (.istore_n 3, 1) := by decide +kernel
theorem dX8_stray_45 : decode cX8_stray 45 = .ok (.iconst 0, 1) := by decide +kernel
theorem dX8_stray_46 : decode cX8_stray 46 = .ok (.istore 4, 2) := by decide +kernel
theorem dX8_stray_48 : decode cX8_stray 48 = .ok (.iload 4, 2) := by decide +kernel
theorem dX8_stray_50 : decode cX8_stray 50 = .ok (.bipush 36, 2) := by decide +kernel
theorem dX8_stray_52 : decode cX8_stray 52 = .ok (.if_icmp .ge 40, 3) := by decide +kernel
theorem dX8_stray_55 : decode cX8_stray 55 = .ok (.iload_n 3, 1) := by decide +kernel
theorem dX8_stray_56 : decode cX8_stray 56 = .ok (.aload_n 0, 1) := by decide +kernel
theorem dX8_stray_57 : decode cX8_stray 57 = .ok (.getfield 61, 3) := by decide +kernel
theorem dX8_stray_60 : decode cX8_stray 60 = .ok (.iload 4, 2) := by decide +kernel
theorem dX8_stray_62 : decode cX8_stray 62 = .ok (.iaload, 1) := by decide +kernel
theorem dX8_stray_63 : decode cX8_stray 63 = .ok (.ifCond .ge 16, 3) := by decide +kernel
theorem dX8_stray_66 : decode cX8_stray 66 = .ok (.aload_n 0, 1) := by decide +kernel
theorem dX8_stray_67 : decode cX8_stray 67 = .ok (.getfield 61, 3) := by decide +kernel
theorem dX8_stray_70 : decode cX8_stray 70 = .ok (.iload 4, 2) := by decide +kernel
theorem dX8_stray_72 : decode cX8_stray 72 = .ok (.bipush 36, 2) := by decide +kernel
theorem dX8_stray_74 : decode cX8_stray 74 = .ok (.iadd, 1) := by decide +kernel
theorem dX8_stray_75 : decode cX8_stray 75 = .ok (.iaload, 1) := by decide +kernel
theorem dX8_stray_76 : decode cX8_stray 76 = .ok (.ifCond .lt 7, 3) := by decide +kernel
theorem dX8_stray_79 : decode cX8_stray 79 = .ok (.iconst 1, 1) := by decide +kernel
theorem dX8_stray_80 : decode cX8_stray 80 = .ok (.goto 4, 3) := by decide +kernel
theorem dX8_stray_83 : decode cX8_stray 83 = .ok (.iconst 0, 1) := by decide +kernel
theorem dX8_stray_84 : decode cX8_stray 84 = .ok (.iadd, 1) := by decide +kernel
theorem dX8_stray_85 : decode cX8_stray 85 = .ok (.istore_n 3, 1) := by decide +kernel
theorem dX8_stray_86 : decode cX8_stray 86 = .ok (.iinc 4 1, 3) := by decide +kernel
theorem dX8_stray_89 : decode cX8_stray 89 = .ok (.goto (-41), 3) := by decide +kernel
theorem dX8_stray_92 : decode cX8_stray 92 = .ok (.iload_n 3, 1) := by decide +kernel
theorem dX8_stray_93 : decode cX8_stray 93 = .ok (.ireturn, 1) := by decide +kernel
theorem dX8_nextDrive_0 : decode cX8_nextDrive 0 = .ok (.iload_n 1, 1) := by decide +kernel
theorem dX8_nextDrive_1 : decode cX8_nextDrive 1 = .ok (.iconst 1, 1) := by decide +kernel
theorem dX8_nextDrive_2 : decode cX8_nextDrive 2 = .ok (.iadd, 1) := by decide +kernel
theorem dX8_nextDrive_3 : decode cX8_nextDrive 3 = .ok (.istore_n 2, 1) := by decide +kernel
theorem dX8_nextDrive_4 : decode cX8_nextDrive 4 = .ok (.iload_n 2, 1) := by decide +kernel
theorem dX8_nextDrive_5 : decode cX8_nextDrive 5 = .ok (.bipush 10, 2) := by decide +kernel
theorem dX8_nextDrive_7 : decode cX8_nextDrive 7 = .ok (.aload_n 0, 1) := by decide +kernel
theorem dX8_nextDrive_8 : decode cX8_nextDrive 8 = .ok (.getfield 112, 3) := by decide +kernel
theorem dX8_nextDrive_11 : decode cX8_nextDrive 11 = .ok (.imul, 1) := by decide +kernel
theorem dX8_nextDrive_12 : decode cX8_nextDrive 12 = .ok (.if_icmp .ge 19, 3) := by decide +kernel
theorem dX8_nextDrive_15 : decode cX8_nextDrive 15 = .ok (.aload_n 0, 1) := by decide +kernel
theorem dX8_nextDrive_16 : decode cX8_nextDrive 16 = .ok (.iload_n 2, 1) := by decide +kernel
theorem dX8_nextDrive_17 : decode cX8_nextDrive 17 = .ok (.invokevirtual 243, 3) := by decide +kernel
theorem dX8_nextDrive_20 : decode cX8_nextDrive 20 = .ok (.ifCond .eq 5, 3) := by decide +kernel
theorem dX8_nextDrive_23 : decode cX8_nextDrive 23 = .ok (.iload_n 2, 1) := by decide +kernel
theorem dX8_nextDrive_24 : decode cX8_nextDrive 24 = .ok (.ireturn, 1) := by decide +kernel
theorem dX8_nextDrive_25 : decode cX8_nextDrive 25 = .ok (.iinc 2 1, 3) := by decide +kernel
theorem dX8_nextDrive_28 : decode cX8_nextDrive 28 = .ok (.goto (-24), 3) := by decide +kernel
theorem dX8_nextDrive_31 : decode cX8_nextDrive 31 = .ok (.iload_n 1, 1) := by decide +kernel
theorem dX8_nextDrive_32 : decode cX8_nextDrive 32 = .ok (.bipush 99, 2) := by decide +kernel
theorem dX8_nextDrive_34 : decode cX8_nextDrive 34 = .ok (.if_icmp .ge 8, 3) := by decide +kernel
theorem dX8_nextDrive_37 : decode cX8_nextDrive 37 = .ok (.bipush 99, 2) := by decide +kernel
theorem dX8_nextDrive_39 : decode cX8_nextDrive 39 = .ok (.goto 5, 3) := by decide +kernel
theorem dX8_nextDrive_42 : decode cX8_nextDrive 42 = .ok (.bipush 100, 2) := by decide +kernel
theorem dX8_nextDrive_44 : decode cX8_nextDrive 44 = .ok (.ireturn, 1) := by decide +kernel
theorem dX8_isWatered_0 : decode cX8_isWatered 0 = .ok (.iconst 0, 1) := by decide +kernel
theorem dX8_isWatered_1 : decode cX8_isWatered 1 = .ok (.istore_n 2, 1) := by decide +kernel
theorem dX8_isWatered_2 : decode cX8_isWatered 2 = .ok (.iconst 0, 1) := by decide +kernel
theorem dX8_isWatered_3 : decode cX8_isWatered 3 = .ok (.istore_n 3, 1) := by decide +kernel
theorem dX8_isWatered_4 : decode cX8_isWatered 4 = .ok (.iload_n 3, 1) := by decide +kernel
theorem dX8_isWatered_5 : decode cX8_isWatered 5 = .ok (.aload_n 0, 1) := by decide +kernel
theorem dX8_isWatered_6 : decode cX8_isWatered 6 = .ok (.getfield 112, 3) := by decide +kernel
theorem dX8_isWatered_9 : decode cX8_isWatered 9 = .ok (.if_icmp .ge 54, 3) := by decide +kernel
theorem dX8_isWatered_12 : decode cX8_isWatered 12 = .ok (.iload_n 2, 1) := by decide +kernel
theorem dX8_isWatered_13 : decode cX8_isWatered 13 = .ok (.ifCond .ne 38, 3) := by decide +kernel
theorem dX8_isWatered_16 : decode cX8_isWatered 16 = .ok (.aload_n 0, 1) := by decide +kernel
theorem dX8_isWatered_17 : decode cX8_isWatered 17 = .ok (.getfield 16, 3) := by decide +kernel
theorem dX8_isWatered_20 : decode cX8_isWatered 20 = .ok (.iload_n 3, 1) := by decide +kernel
theorem dX8_isWatered_21 : decode cX8_isWatered 21 = .ok (.iaload, 1) := by decide +kernel
theorem dX8_isWatered_22 : decode cX8_isWatered 22 = .ok (.iload_n 1, 1) := by decide +kernel
theorem dX8_isWatered_23 : decode cX8_isWatered 23 = .ok (.if_icmp .ne 32, 3) := by decide +kernel
theorem dX8_isWatered_26 : decode cX8_isWatered 26 = .ok (.aload_n 0, 1) := by decide +kernel
theorem dX8_isWatered_27 : decode cX8_isWatered 27 = .ok (.getfield 13, 3) := by decide +kernel
theorem dX8_isWatered_30 : decode cX8_isWatered 30 = .ok (.iload_n 3, 1) := by decide +kernel
theorem dX8_isWatered_31 : decode cX8_isWatered 31 = .ok (.iaload, 1) := by decide +kernel
theorem dX8_isWatered_32 : decode cX8_isWatered 32 = .ok (.ifCond .ne 23, 3) := by decide +kernel
theorem dX8_isWatered_35 : decode cX8_isWatered 35 = .ok (.aload_n 0, 1) := by decide +kernel
theorem dX8_isWatered_36 : decode cX8_isWatered 36 = .ok (.getfield 55, 3) := by decide +kernel
theorem dX8_isWatered_39 : decode cX8_isWatered 39 = .ok (.bipush 37, 2) := by decide +kernel
theorem dX8_isWatered_41 : decode cX8_isWatered 41 = .ok (.iload_n 3, 1) := by decide +kernel
theorem dX8_isWatered_42 : decode cX8_isWatered 42 = .ok (.iadd, 1) := by decide +kernel
theorem dX8_isWatered_43 : decode cX8_isWatered 43 = .ok (.iaload, 1) := by decide +kernel
theorem dX8_isWatered_44 : decode cX8_isWatered 44 = .ok (.aload_n 0, 1) := by decide +kernel
theorem dX8_isWatered_45 : decode cX8_isWatered 45 = .ok (.getfield 166, 3) := by decide +kernel
theorem dX8_isWatered_48 : decode cX8_isWatered 48 = .ok (.if_icmp .ne 7, 3) := by decide +kernel
theorem dX8_isWatered_51 : decode cX8_isWatered 51 = .ok (.iconst 1, 1) := by decide +kernel
theorem dX8_isWatered_52 : decode cX8_isWatered 52 = .ok (.goto 4, 3) := by decide +kernel
theorem dX8_isWatered_55 : decode cX8_isWatered 55 = .ok (.iconst 0, 1) := by decide +kernel
theorem dX8_isWatered_56 : decode cX8_isWatered 56 = .ok (.istore_n 2, 1) := by decide +kernel
theorem dX8_isWatered_57 : decode cX8_isWatered 57 = .ok (.iinc 3 1, 3) := by decide +kernel
theorem dX8_isWatered_60 : decode cX8_isWatered 60 = .ok (.goto (-56), 3) := by decide +kernel
theorem dX8_isWatered_63 : decode cX8_isWatered 63 = .ok (.iload_n 2, 1) := by decide +kernel
theorem dX8_isWatered_64 : decode cX8_isWatered 64 = .ok (.ireturn, 1) := by decide +kernel
theorem dX8_isSummer_0 : decode cX8_isSummer 0 = .ok (.iconst 0, 1) := by decide +kernel
theorem dX8_isSummer_1 : decode cX8_isSummer 1 = .ok (.istore_n 3, 1) := by decide +kernel
theorem dX8_isSummer_2 : decode cX8_isSummer 2 = .ok (.aload_n 0, 1) := by decide +kernel
theorem dX8_isSummer_3 : decode cX8_isSummer 3 = .ok (.getfield 70, 3) := by decide +kernel
theorem dX8_isSummer_6 : decode cX8_isSummer 6 = .ok (.iconst 0, 1) := by decide +kernel
theorem dX8_isSummer_7 : decode cX8_isSummer 7 = .ok (.aload_n 0, 1) := by decide +kernel
theorem dX8_isSummer_8 : decode cX8_isSummer 8 = .ok (.getfield 22, 3) := by decide +kernel
theorem dX8_isSummer_11 : decode cX8_isSummer 11 = .ok (.iconst 0, 1) := by decide +kernel
theorem dX8_isSummer_12 : decode cX8_isSummer 12 = .ok (.bipush 54, 2) := by decide +kernel
theorem dX8_isSummer_14 : decode cX8_isSummer 14 = .ok (.invokestatic 162, 3) := by decide +kernel
theorem dX8_isSummer_17 : decode cX8_isSummer 17 = .ok (.aload_n 0, 1) := by decide +kernel
theorem dX8_isSummer_18 : decode cX8_isSummer 18 = .ok (.getfield 73, 3) := by decide +kernel
theorem dX8_isSummer_21 : decode cX8_isSummer 21 = .ok (.iconst 0, 1) := by decide +kernel
theorem dX8_isSummer_22 : decode cX8_isSummer 22 = .ok (.iconst (-1), 1) := by decide +kernel
theorem dX8_isSummer_23 : decode cX8_isSummer 23 = .ok (.iastore, 1) := by decide +kernel
theorem dX8_isSummer_24 : decode cX8_isSummer 24 = .ok (.iload_n 3, 1) := by decide +kernel
theorem dX8_isSummer_25 : decode cX8_isSummer 25 = .ok (.ifCond .lt 186, 3) := by decide +kernel
theorem dX8_isSummer_28 : decode cX8_isSummer 28 = .ok (.aload_n 0, 1) := by decide +kernel
theorem dX8_isSummer_29 : decode cX8_isSummer 29 = .ok (.getfield 55, 3) := by decide +kernel
theorem dX8_isSummer_32 : decode cX8_isSummer 32 = .ok (.iconst 0, 1) := by decide +kernel
theorem dX8_isSummer_33 : decode cX8_isSummer 33 = .ok (.aload_n 0, 1) := by decide +kernel
theorem dX8_isSummer_34 : decode cX8_isSummer 34 = .ok (.getfield 70, 3) := by decide +kernel
theorem dX8_isSummer_37 : decode cX8_isSummer 37 = .ok (.bipush 54, 2) := by decide +kernel
theorem dX8_isSummer_39 : decode cX8_isSummer 39 = .ok (.iload_n 3, 1) := by decide +kernel
theorem dX8_isSummer_40 : decode cX8_isSummer 40 = .ok (.imul, 1) := by decide +kernel
theorem dX8_isSummer_41 : decode cX8_isSummer 41 = .ok (.bipush 54, 2) := by decide +kernel
theorem dX8_isSummer_43 : decode cX8_isSummer 43 = .ok (.invokestatic 162, 3) := by decide +kernel
theorem dX8_isSummer_46 : decode cX8_isSummer 46 = .ok (.iload_n 3, 1) := by decide +kernel
theorem dX8_isSummer_47 : decode cX8_isSummer 47 = .ok (.iload_n 2, 1) := by decide +kernel
theorem dX8_isSummer_48 : decode cX8_isSummer 48 = .ok (.if_icmp .ne 13, 3) := by decide +kernel
theorem dX8_isSummer_51 : decode cX8_isSummer 51 = .ok (.aload_n 0, 1) := by decide +kernel
theorem dX8_isSummer_52 : decode cX8_isSummer 52 = .ok (.iload_n 1, 1) := by decide +kernel
theorem dX8_isSummer_53 : decode cX8_isSummer 53 = .ok (.invokevirtual 261, 3) := by decide +kernel
theorem dX8_isSummer_56 : decode cX8_isSummer 56 = .ok (.ifCond .eq 5, 3) := by decide +kernel
theorem dX8_isSummer_59 : decode cX8_isSummer 59 = .ok (.iconst 1, 1) := by decide +kernel
theorem dX8_isSummer_60 : decode cX8_isSummer 60 = .ok (.ireturn, 1) := by decide +kernel
theorem dX8_isSummer_61 : decode cX8_isSummer 61 = .ok (.iload_n 3, 1) := by decide +kernel
theorem dX8_isSummer_62 : decode cX8_isSummer 62 = .ok (.iload_n 2, 1) := by decide +kernel
theorem dX8_isSummer_63 : decode cX8_isSummer 63 = .ok (.if_icmp .eq 10, 3) := by decide +kernel
theorem dX8_isSummer_66 : decode cX8_isSummer 66 = .ok (.aload_n 0, 1) := by decide +kernel
theorem dX8_isSummer_67 : decode cX8_isSummer 67 = .ok (.invokevirtual 222, 3) := by decide +kernel
theorem dX8_isSummer_70 : decode cX8_isSummer 70 = .ok (.ifCond .eq 7, 3) := by decide +kernel
theorem dX8_isSummer_73 : decode cX8_isSummer 73 = .ok (.iconst 1, 1) := by decide +kernel
theorem dX8_isSummer_74 : decode cX8_isSummer 74 = .ok (.goto 4, 3) := by decide +kernel
theorem dX8_isSummer_77 : decode cX8_isSummer 77 = .ok (.iconst 0, 1) := by decide +kernel
theorem dX8_isSummer_78 : decode cX8_isSummer 78 = .ok (.istore 4, 2) := by decide +kernel
theorem dX8_isSummer_80 : decode cX8_isSummer 80 = .ok (.iload 4, 2) := by decide +kernel
theorem dX8_isSummer_82 : decode cX8_isSummer 82 = .ok (.ifCond .ne 14, 3) := by decide +kernel
theorem dX8_isSummer_85 : decode cX8_isSummer 85 = .ok (.aload_n 0, 1) := by decide +kernel
theorem dX8_isSummer_86 : decode cX8_isSummer 86 = .ok (.getfield 73, 3) := by decide +kernel
theorem dX8_isSummer_89 : decode cX8_isSummer 89 = .ok (.iload_n 3, 1) := by decide +kernel
theorem dX8_isSummer_90 : decode cX8_isSummer 90 = .ok (.iaload, 1) := by decide +kernel
theorem dX8_isSummer_91 : decode cX8_isSummer 91 = .ok (.bipush 99, 2) := by decide +kernel
theorem dX8_isSummer_93 : decode cX8_isSummer 93 = .ok (.if_icmp .ne 8, 3) := by decide +kernel
theorem dX8_isSummer_96 : decode cX8_isSummer 96 = .ok (.bipush 100, 2) := by decide +kernel
theorem dX8_isSummer_98 : decode cX8_isSummer 98 = .ok (.goto 30, 3) := by decide +kernel
theorem dX8_isSummer_101 : decode cX8_isSummer 101 = .ok (.aload_n 0, 1) := by decide +kernel
theorem dX8_isSummer_102 : decode cX8_isSummer 102 = .ok (.getfield 55, 3) := by decide +kernel
theorem dX8_isSummer_105 : decode cX8_isSummer 105 = .ok (.iconst 0, 1) := by decide +kernel
theorem dX8_isSummer_106 : decode cX8_isSummer 106 = .ok (.iaload, 1) := by decide +kernel
theorem dX8_isSummer_107 : decode cX8_isSummer 107 = .ok (.iconst 2, 1) := by decide +kernel
theorem dX8_isSummer_108 : decode cX8_isSummer 108 = .ok (.irem, 1) := by decide +kernel
theorem dX8_isSummer_109 : decode cX8_isSummer 109 = .ok (.iload_n 1, 1) := by decide +kernel
theorem dX8_isSummer_110 : decode cX8_isSummer 110 = .ok (.if_icmp .ne 16, 3) := by decide +kernel
theorem dX8_isSummer_113 : decode cX8_isSummer 113 = .ok (.aload_n 0, 1) := by decide +kernel
theorem dX8_isSummer_114 : decode cX8_isSummer 114 = .ok (.aload_n 0, 1) := by decide +kernel
theorem dX8_isSummer_115 : decode cX8_isSummer 115 = .ok (.getfield 73, 3) := by decide +kernel
theorem dX8_isSummer_118 : decode cX8_isSummer 118 = .ok (.iload_n 3, 1) := by decide +kernel
theorem dX8_isSummer_119 : decode cX8_isSummer 119 = .ok (.iaload, 1) := by decide +kernel
theorem dX8_isSummer_120 : decode cX8_isSummer 120 = .ok (.invokevirtual 264, 3) := by decide +kernel
theorem dX8_isSummer_123 : decode cX8_isSummer 123 = .ok (.goto 5, 3) := by decide +kernel
theorem dX8_isSummer_126 : decode cX8_isSummer 126 = .ok (.bipush 99, 2) := by decide +kernel
theorem dX8_isSummer_128 : decode cX8_isSummer 128 = .ok (.istore 5, 2) := by decide +kernel
theorem dX8_isSummer_130 : decode cX8_isSummer 130 = .ok (.iload 5, 2) := by decide +kernel
theorem dX8_isSummer_132 : decode cX8_isSummer 132 = .ok (.bipush 100, 2) := by decide +kernel
theorem dX8_isSummer_134 : decode cX8_isSummer 134 = .ok (.if_icmp .ne 9, 3) := by decide +kernel
theorem dX8_isSummer_137 : decode cX8_isSummer 137 = .ok (.iinc 3 (-1), 3) := by decide +kernel
theorem dX8_isSummer_140 : decode cX8_isSummer 140 = .ok (.goto 68, 3) := by decide +kernel
theorem dX8_isSummer_143 : decode cX8_isSummer 143 = .ok (.aload_n 0, 1) := by decide +kernel
theorem dX8_isSummer_144 : decode cX8_isSummer 144 = .ok (.iload_n 1, 1) := by decide +kernel
theorem dX8_isSummer_145 : decode cX8_isSummer 145 = .ok (.invokevirtual 267, 3) := by decide +kernel
theorem dX8_isSummer_148 : decode cX8_isSummer 148 = .ok (.istore 6, 2) := by decide +kernel
theorem dX8_isSummer_150 : decode cX8_isSummer 150 = .ok (.aload_n 0, 1) := by decide +kernel
theorem dX8_isSummer_151 : decode cX8_isSummer 151 = .ok (.getfield 73, 3) := by decide +kernel
theorem dX8_isSummer_154 : decode cX8_isSummer 154 = .ok (.iload_n 3, 1) := by decide +kernel
theorem dX8_isSummer_155 : decode cX8_isSummer 155 = .ok (.iload 5, 2) := by decide +kernel
theorem dX8_isSummer_157 : decode cX8_isSummer 157 = .ok (.iastore, 1) := by decide +kernel
theorem dX8_isSummer_158 : decode cX8_isSummer 158 = .ok (.aload_n 0, 1) := by decide +kernel
theorem dX8_isSummer_159 : decode cX8_isSummer 159 = .ok (.iload 5, 2) := by decide +kernel
theorem dX8_isSummer_161 : decode cX8_isSummer 161 = .ok (.invokevirtual 240, 3) := by decide +kernel
theorem dX8_isSummer_164 : decode cX8_isSummer 164 = .ok (.aload_n 0, 1) := by decide +kernel
theorem dX8_isSummer_165 : decode cX8_isSummer 165 = .ok (.iload_n 1, 1) := by decide +kernel
theorem dX8_isSummer_166 : decode cX8_isSummer 166 = .ok (.invokevirtual 267, 3) := by decide +kernel
theorem dX8_isSummer_169 : decode cX8_isSummer 169 = .ok (.iload 6, 2) := by decide +kernel
theorem dX8_isSummer_171 : decode cX8_isSummer 171 = .ok (.if_icmp .ne 37, 3) := by decide +kernel
theorem dX8_isSummer_174 : decode cX8_isSummer 174 = .ok (.iinc 3 1, 3) := by decide +kernel
theorem dX8_isSummer_177 : decode cX8_isSummer 177 = .ok (.aload_n 0, 1) := by decide +kernel
theorem dX8_isSummer_178 : decode cX8_isSummer 178 = .ok (.getfield 70, 3) := by decide +kernel
theorem dX8_isSummer_181 : decode cX8_isSummer 181 = .ok (.bipush 54, 2) := by decide +kernel
theorem dX8_isSummer_183 : decode cX8_isSummer 183 = .ok (.iload_n 3, 1) := by decide +kernel
theorem dX8_isSummer_184 : decode cX8_isSummer 184 = .ok (.imul, 1) := by decide +kernel
theorem dX8_isSummer_185 : decode cX8_isSummer 185 = .ok (.aload_n 0, 1) := by decide +kernel
theorem dX8_isSummer_186 : decode cX8_isSummer 186 = .ok (.getfield 55, 3) := by decide +kernel
theorem dX8_isSummer_189 : decode cX8_isSummer 189 = .ok (.iconst 0, 1) := by decide +kernel
theorem dX8_isSummer_190 : decode cX8_isSummer 190 = .ok (.bipush 54, 2) := by decide +kernel
theorem dX8_isSummer_192 : decode cX8_isSummer 192 = .ok (.invokestatic 162, 3) := by decide +kernel
theorem dX8_isSummer_195 : decode cX8_isSummer 195 = .ok (.iload_n 3, 1) := by decide +kernel
theorem dX8_isSummer_196 : decode cX8_isSummer 196 = .ok (.bipush 6, 2) := by decide +kernel
theorem dX8_isSummer_198 : decode cX8_isSummer 198 = .ok (.if_icmp .ge 10, 3) := by decide +kernel
theorem dX8_isSummer_201 : decode cX8_isSummer 201 = .ok (.aload_n 0, 1) := by decide +kernel
theorem dX8_isSummer_202 : decode cX8_isSummer 202 = .ok (.getfield 73, 3) := by decide +kernel
theorem dX8_isSummer_205 : decode cX8_isSummer 205 = .ok (.iload_n 3, 1) := by decide +kernel
theorem dX8_isSummer_206 : decode cX8_isSummer 206 = .ok (.iconst (-1), 1) := by decide +kernel
theorem dX8_isSummer_207 : decode cX8_isSummer 207 = .ok (.iastore, 1) := by decide +kernel
theorem dX8_isSummer_208 : decode cX8_isSummer 208 = .ok (.goto (-184), 3) := by decide +kernel
theorem dX8_isSummer_211 : decode cX8_isSummer 211 = .ok (.iconst 0, 1) := by decide +kernel
theorem dX8_isSummer_212 : decode cX8_isSummer 212 = .ok (.ireturn, 1) := by decide +kernel
theorem dX8_summer_0 : decode cX8_summer 0 = .ok (.iload_n 1, 1) := by decide +kernel
theorem dX8_summer_1 : decode cX8_summer 1 = .ok (.iconst 0, 1) := by decide +kernel
theorem dX8_summer_2 : decode cX8_summer 2 = .ok (.iconst 1, 1) := by decide +kernel
theorem dX8_summer_3 : decode cX8_summer 3 = .ok (.invokestatic 115, 3) := by decide +kernel
theorem dX8_summer_6 : decode cX8_summer 6 = .ok (.ifCond .eq 8, 3) := by decide +kernel
theorem dX8_summer_9 : decode cX8_summer 9 = .ok (.iload_n 2, 1) := by decide +kernel
theorem dX8_summer_10 : decode cX8_summer 10 = .ok (.iconst (-1), 1) := by decide +kernel
theorem dX8_summer_11 : decode cX8_summer 11 = .ok (.if_icmp .ge 5, 3) := by decide +kernel
theorem dX8_summer_14 : decode cX8_summer 14 = .ok (.iconst (-1), 1) := by decide +kernel
theorem dX8_summer_15 : decode cX8_summer 15 = .ok (.ireturn, 1) := by decide +kernel
theorem dX8_summer_16 : decode cX8_summer 16 = .ok (.aload_n 0, 1) := by decide +kernel
theorem dX8_summer_17 : decode cX8_summer 17 = .ok (.getfield 166, 3) := by decide +kernel
theorem dX8_summer_20 : decode cX8_summer 20 = .ok (.ifCond .ge 6, 3) := by decide +kernel
theorem dX8_summer_23 : decode cX8_summer 23 = .ok (.bipush (-2), 2) := by decide +kernel
theorem dX8_summer_25 : decode cX8_summer 25 = .ok (.ireturn, 1) := by decide +kernel
theorem dX8_summer_26 : decode cX8_summer 26 = .ok (.iconst 0, 1) := by decide +kernel
theorem dX8_summer_27 : decode cX8_summer 27 = .ok (.istore_n 3, 1) := by decide +kernel
theorem dX8_summer_28 : decode cX8_summer 28 = .ok (.iload_n 3, 1) := by decide +kernel
theorem dX8_summer_29 : decode cX8_summer 29 = .ok (.iconst 5, 1) := by decide +kernel
theorem dX8_summer_30 : decode cX8_summer 30 = .ok (.if_icmp .gt 77, 3) := by decide +kernel
theorem dX8_summer_33 : decode cX8_summer 33 = .ok (.aload_n 0, 1) := by decide +kernel
theorem dX8_summer_34 : decode cX8_summer 34 = .ok (.iload_n 1, 1) := by decide +kernel
theorem dX8_summer_35 : decode cX8_summer 35 = .ok (.iload_n 3, 1) := by decide +kernel
theorem dX8_summer_36 : decode cX8_summer 36 = .ok (.invokevirtual 270, 3) := by decide +kernel
theorem dX8_summer_39 : decode cX8_summer 39 = .ok (.ifCond .eq 62, 3) := by decide +kernel
theorem dX8_summer_42 : decode cX8_summer 42 = .ok (.iload_n 2, 1) := by decide +kernel
theorem dX8_summer_43 : decode cX8_summer 43 = .ok (.iconst 2, 1) := by decide +kernel
theorem dX8_summer_44 : decode cX8_summer 44 = .ok (.if_icmp .le 7, 3) := by decide +kernel
theorem dX8_summer_47 : decode cX8_summer 47 = .ok (.iload_n 3, 1) := by decide +kernel
theorem dX8_summer_48 : decode cX8_summer 48 = .ok (.goto 24, 3) := by decide +kernel
theorem dX8_summer_51 : decode cX8_summer 51 = .ok (.iconst 2, 1) := by decide +kernel
theorem dX8_summer_52 : decode cX8_summer 52 = .ok (.iload_n 2, 1) := by decide +kernel
theorem dX8_summer_53 : decode cX8_summer 53 = .ok (.imul, 1) := by decide +kernel
theorem dX8_summer_54 : decode cX8_summer 54 = .ok (.aload_n 0, 1) := by decide +kernel
theorem dX8_summer_55 : decode cX8_summer 55 = .ok (.getfield 22, 3) := by decide +kernel
theorem dX8_summer_58 : decode cX8_summer 58 = .ok (.iconst 0, 1) := by decide +kernel
theorem dX8_summer_59 : decode cX8_summer 59 = .ok (.iaload, 1) := by decide +kernel
theorem dX8_summer_60 : decode cX8_summer 60 = .ok (.iconst 2, 1) := by decide +kernel
theorem dX8_summer_61 : decode cX8_summer 61 = .ok (.irem, 1) := by decide +kernel
theorem dX8_summer_62 : decode cX8_summer 62 = .ok (.iload_n 1, 1) := by decide +kernel
theorem dX8_summer_63 : decode cX8_summer 63 = .ok (.if_icmp .ne 7, 3) := by decide +kernel
theorem dX8_summer_66 : decode cX8_summer 66 = .ok (.iconst 0, 1) := by decide +kernel
theorem dX8_summer_67 : decode cX8_summer 67 = .ok (.goto 4, 3) := by decide +kernel
theorem dX8_summer_70 : decode cX8_summer 70 = .ok (.iconst 1, 1) := by decide +kernel
theorem dX8_summer_71 : decode cX8_summer 71 = .ok (.iadd, 1) := by decide +kernel
theorem dX8_summer_72 : decode cX8_summer 72 = .ok (.istore 4, 2) := by decide +kernel
theorem dX8_summer_74 : decode cX8_summer 74 = .ok (.iload_n 2, 1) := by decide +kernel
theorem dX8_summer_75 : decode cX8_summer 75 = .ok (.ifCond .ge 7, 3) := by decide +kernel
theorem dX8_summer_78 : decode cX8_summer 78 = .ok (.iload_n 3, 1) := by decide +kernel
theorem dX8_summer_79 : decode cX8_summer 79 = .ok (.goto 21, 3) := by decide +kernel
theorem dX8_summer_82 : decode cX8_summer 82 = .ok (.iload 4, 2) := by decide +kernel
theorem dX8_summer_84 : decode cX8_summer 84 = .ok (.iload_n 3, 1) := by decide +kernel
theorem dX8_summer_85 : decode cX8_summer 85 = .ok (.if_icmp .ge 13, 3) := by decide +kernel
theorem dX8_summer_88 : decode cX8_summer 88 = .ok (.aload_n 0, 1) := by decide +kernel
theorem dX8_summer_89 : decode cX8_summer 89 = .ok (.getfield 73, 3) := by decide +kernel
theorem dX8_summer_92 : decode cX8_summer 92 = .ok (.iload 4, 2) := by decide +kernel
theorem dX8_summer_94 : decode cX8_summer 94 = .ok (.iaload, 1) := by decide +kernel
theorem dX8_summer_95 : decode cX8_summer 95 = .ok (.goto 5, 3) := by decide +kernel
theorem dX8_summer_98 : decode cX8_summer 98 = .ok (.bipush (-4), 2) := by decide +kernel
theorem dX8_summer_100 : decode cX8_summer 100 = .ok (.ireturn, 1) := by decide +kernel
theorem dX8_summer_101 : decode cX8_summer 101 = .ok (.iinc 3 1, 3) := by decide +kernel
theorem dX8_summer_104 : decode cX8_summer 104 = .ok (.goto (-76), 3) := by decide +kernel
theorem dX8_summer_107 : decode cX8_summer 107 = .ok (.bipush (-4), 2) := by decide +kernel
theorem dX8_summer_109 : decode cX8_summer 109 = .ok (.ireturn, 1) := by decide +kernel
theorem dX8_plays_0 : decode cX8_plays 0 = .ok (.iconst 0, 1) := by decide +kernel
theorem dX8_plays_1 : decode cX8_plays 1 = .ok (.istore_n 2, 1) := by decide +kernel
theorem dX8_plays_2 : decode cX8_plays 2 = .ok (.bipush 99, 2) := by decide +kernel
theorem dX8_plays_4 : decode cX8_plays 4 = .ok (.istore_n 3, 1) := by decide +kernel
theorem dX8_plays_5 : decode cX8_plays 5 = .ok (.aload_n 0, 1) := by decide +kernel
theorem dX8_plays_6 : decode cX8_plays 6 = .ok (.getfield 70, 3) := by decide +kernel
theorem dX8_plays_9 : decode cX8_plays 9 = .ok (.iconst 0, 1) := by decide +kernel
theorem dX8_plays_10 : decode cX8_plays 10 = .ok (.aload_n 0, 1) := by decide +kernel
theorem dX8_plays_11 : decode cX8_plays 11 = .ok (.getfield 22, 3) := by decide +kernel
theorem dX8_plays_14 : decode cX8_plays 14 = .ok (.iconst 0, 1) := by decide +kernel
theorem dX8_plays_15 : decode cX8_plays 15 = .ok (.bipush 54, 2) := by decide +kernel
theorem dX8_plays_17 : decode cX8_plays 17 = .ok (.invokestatic 162, 3) := by decide +kernel
theorem dX8_plays_20 : decode cX8_plays 20 = .ok (.aload_n 0, 1) := by decide +kernel
theorem dX8_plays_21 : decode cX8_plays 21 = .ok (.getfield 73, 3) := by decide +kernel
theorem dX8_plays_24 : decode cX8_plays 24 = .ok (.iconst 0, 1) := by decide +kernel
theorem dX8_plays_25 : decode cX8_plays 25 = .ok (.iconst (-1), 1) := by decide +kernel
theorem dX8_plays_26 : decode cX8_plays 26 = .ok (.iastore, 1) := by decide +kernel
theorem dX8_plays_27 : decode cX8_plays 27 = .ok (.aload_n 0, 1) := by decide +kernel
theorem dX8_plays_28 : decode cX8_plays 28 = .ok (.getfield 55, 3) := by decide +kernel
theorem dX8_plays_31 : decode cX8_plays 31 = .ok (.iconst 0, 1) := by decide +kernel
theorem dX8_plays_32 : decode cX8_plays 32 = .ok (.aload_n 0, 1) := by decide +kernel
theorem dX8_plays_33 : decode cX8_plays 33 = .ok (.getfield 70, 3) := by decide +kernel
theorem dX8_plays_36 : decode cX8_plays 36 = .ok (.bipush 54, 2) := by decide +kernel
theorem dX8_plays_38 : decode cX8_plays 38 = .ok (.iload_n 2, 1) := by decide +kernel
theorem dX8_plays_39 : decode cX8_plays 39 = .ok (.imul, 1) := by decide +kernel
theorem dX8_plays_40 : decode cX8_plays 40 = .ok (.bipush 54, 2) := by decide +kernel
theorem dX8_plays_42 : decode cX8_plays 42 = .ok (.invokestatic 162, 3) := by decide +kernel
theorem dX8_plays_45 : decode cX8_plays 45 = .ok (.iload_n 2, 1) := by decide +kernel
theorem dX8_plays_46 : decode cX8_plays 46 = .ok (.iload_n 1, 1) := by decide +kernel
theorem dX8_plays_47 : decode cX8_plays 47 = .ok (.if_icmp .eq 10, 3) := by decide +kernel
theorem dX8_plays_50 : decode cX8_plays 50 = .ok (.aload_n 0, 1) := by decide +kernel
theorem dX8_plays_51 : decode cX8_plays 51 = .ok (.invokevirtual 222, 3) := by decide +kernel
theorem dX8_plays_54 : decode cX8_plays 54 = .ok (.ifCond .eq 7, 3) := by decide +kernel
theorem dX8_plays_57 : decode cX8_plays 57 = .ok (.iconst 1, 1) := by decide +kernel
theorem dX8_plays_58 : decode cX8_plays 58 = .ok (.goto 4, 3) := by decide +kernel
theorem dX8_plays_61 : decode cX8_plays 61 = .ok (.iconst 0, 1) := by decide +kernel
theorem dX8_plays_62 : decode cX8_plays 62 = .ok (.istore 4, 2) := by decide +kernel
theorem dX8_plays_64 : decode cX8_plays 64 = .ok (.iload 4, 2) := by decide +kernel
theorem dX8_plays_66 : decode cX8_plays 66 = .ok (.ifCond .ne 14, 3) := by decide +kernel
theorem dX8_plays_69 : decode cX8_plays 69 = .ok (.aload_n 0, 1) := by decide +kernel
theorem dX8_plays_70 : decode cX8_plays 70 = .ok (.getfield 73, 3) := by decide +kernel
theorem dX8_plays_73 : decode cX8_plays 73 = .ok (.iload_n 2, 1) := by decide +kernel
theorem dX8_plays_74 : decode cX8_plays 74 = .ok (.iaload, 1) := by decide +kernel
theorem dX8_plays_75 : decode cX8_plays 75 = .ok (.bipush 99, 2) := by decide +kernel
theorem dX8_plays_77 : decode cX8_plays 77 = .ok (.if_icmp .ne 8, 3) := by decide +kernel
theorem dX8_plays_80 : decode cX8_plays 80 = .ok (.bipush 100, 2) := by decide +kernel
theorem dX8_plays_82 : decode cX8_plays 82 = .ok (.goto 13, 3) := by decide +kernel
theorem dX8_plays_85 : decode cX8_plays 85 = .ok (.aload_n 0, 1) := by decide +kernel
theorem dX8_plays_86 : decode cX8_plays 86 = .ok (.aload_n 0, 1) := by decide +kernel
theorem dX8_plays_87 : decode cX8_plays 87 = .ok (.getfield 73, 3) := by decide +kernel
theorem dX8_plays_90 : decode cX8_plays 90 = .ok (.iload_n 2, 1) := by decide +kernel
theorem dX8_plays_91 : decode cX8_plays 91 = .ok (.iaload, 1) := by decide +kernel
theorem dX8_plays_92 : decode cX8_plays 92 = .ok (.invokevirtual 264, 3) := by decide +kernel
theorem dX8_plays_95 : decode cX8_plays 95 = .ok (.istore 5, 2) := by decide +kernel
theorem dX8_plays_97 : decode cX8_plays 97 = .ok (.iload 5, 2) := by decide +kernel
theorem dX8_plays_99 : decode cX8_plays 99 = .ok (.bipush 100, 2) := by decide +kernel
theorem dX8_plays_101 : decode cX8_plays 101 = .ok (.if_icmp .eq 48, 3) := by decide +kernel
theorem dX8_plays_104 : decode cX8_plays 104 = .ok (.aload_n 0, 1) := by decide +kernel
theorem dX8_plays_105 : decode cX8_plays 105 = .ok (.getfield 73, 3) := by decide +kernel
theorem dX8_plays_108 : decode cX8_plays 108 = .ok (.iload_n 2, 1) := by decide +kernel
theorem dX8_plays_109 : decode cX8_plays 109 = .ok (.iload 5, 2) := by decide +kernel
theorem dX8_plays_111 : decode cX8_plays 111 = .ok (.iastore, 1) := by decide +kernel
theorem dX8_plays_112 : decode cX8_plays 112 = .ok (.aload_n 0, 1) := by decide +kernel
theorem dX8_plays_113 : decode cX8_plays 113 = .ok (.iload 5, 2) := by decide +kernel
theorem dX8_plays_115 : decode cX8_plays 115 = .ok (.invokevirtual 240, 3) := by decide +kernel
theorem dX8_plays_118 : decode cX8_plays 118 = .ok (.iinc 2 1, 3) := by decide +kernel
theorem dX8_plays_121 : decode cX8_plays 121 = .ok (.aload_n 0, 1) := by decide +kernel
theorem dX8_plays_122 : decode cX8_plays 122 = .ok (.getfield 70, 3) := by decide +kernel
theorem dX8_plays_125 : decode cX8_plays 125 = .ok (.bipush 54, 2) := by decide +kernel
theorem dX8_plays_127 : decode cX8_plays 127 = .ok (.iload_n 2, 1) := by decide +kernel
theorem dX8_plays_128 : decode cX8_plays 128 = .ok (.imul, 1) := by decide +kernel
theorem dX8_plays_129 : decode cX8_plays 129 = .ok (.aload_n 0, 1) := by decide +kernel
theorem dX8_plays_130 : decode cX8_plays 130 = .ok (.getfield 55, 3) := by decide +kernel
theorem dX8_plays_133 : decode cX8_plays 133 = .ok (.iconst 0, 1) := by decide +kernel
theorem dX8_plays_134 : decode cX8_plays 134 = .ok (.bipush 54, 2) := by decide +kernel
theorem dX8_plays_136 : decode cX8_plays 136 = .ok (.invokestatic 162, 3) := by decide +kernel
theorem dX8_plays_139 : decode cX8_plays 139 = .ok (.aload_n 0, 1) := by decide +kernel
theorem dX8_plays_140 : decode cX8_plays 140 = .ok (.getfield 73, 3) := by decide +kernel
theorem dX8_plays_143 : decode cX8_plays 143 = .ok (.iload_n 2, 1) := by decide +kernel
theorem dX8_plays_144 : decode cX8_plays 144 = .ok (.iconst (-1), 1) := by decide +kernel
theorem dX8_plays_145 : decode cX8_plays 145 = .ok (.iastore, 1) := by decide +kernel
theorem dX8_plays_146 : decode cX8_plays 146 = .ok (.goto 142, 3) := by decide +kernel
theorem dX8_plays_149 : decode cX8_plays 149 = .ok (.iload 4, 2) := by decide +kernel
theorem dX8_plays_151 : decode cX8_plays 151 = .ok (.ifCond .eq 10, 3) := by decide +kernel
theorem dX8_plays_154 : decode cX8_plays 154 = .ok (.aload_n 0, 1) := by decide +kernel
theorem dX8_plays_155 : decode cX8_plays 155 = .ok (.invokevirtual 273, 3) := by decide +kernel
theorem dX8_plays_158 : decode cX8_plays 158 = .ok (.goto 9, 3) := by decide +kernel
theorem dX8_plays_161 : decode cX8_plays 161 = .ok (.aload_n 0, 1) := by decide +kernel
theorem dX8_plays_162 : decode cX8_plays 162 = .ok (.getfield 76, 3) := by decide +kernel
theorem dX8_plays_165 : decode cX8_plays 165 = .ok (.iload_n 2, 1) := by decide +kernel
theorem dX8_plays_166 : decode cX8_plays 166 = .ok (.iaload, 1) := by decide +kernel
theorem dX8_plays_167 : decode cX8_plays 167 = .ok (.istore 6, 2) := by decide +kernel
theorem dX8_plays_169 : decode cX8_plays 169 = .ok (.iload_n 2, 1) := by decide +kernel
theorem dX8_plays_170 : decode cX8_plays 170 = .ok (.ifCond .ne 13, 3) := by decide +kernel
theorem dX8_plays_173 : decode cX8_plays 173 = .ok (.aload_n 0, 1) := by decide +kernel
theorem dX8_plays_174 : decode cX8_plays 174 = .ok (.getfield 73, 3) := by decide +kernel
theorem dX8_plays_177 : decode cX8_plays 177 = .ok (.iconst 5, 1) := by decide +kernel
theorem dX8_plays_178 : decode cX8_plays 178 = .ok (.iload_n 3, 1) := by decide +kernel
theorem dX8_plays_179 : decode cX8_plays 179 = .ok (.iastore, 1) := by decide +kernel
theorem dX8_plays_180 : decode cX8_plays 180 = .ok (.iload 6, 2) := by decide +kernel
theorem dX8_plays_182 : decode cX8_plays 182 = .ok (.ireturn, 1) := by decide +kernel
theorem dX8_plays_183 : decode cX8_plays 183 = .ok (.iinc 2 (-1), 3) := by decide +kernel
theorem dX8_plays_186 : decode cX8_plays 186 = .ok (.aload_n 0, 1) := by decide +kernel
theorem dX8_plays_187 : decode cX8_plays 187 = .ok (.iload_n 2, 1) := by decide +kernel
theorem dX8_plays_188 : decode cX8_plays 188 = .ok (.invokevirtual 276, 3) := by decide +kernel
theorem dX8_plays_191 : decode cX8_plays 191 = .ok (.istore 7, 2) := by decide +kernel
theorem dX8_plays_193 : decode cX8_plays 193 = .ok (.iload 7, 2) := by decide +kernel
theorem dX8_plays_195 : decode cX8_plays 195 = .ok (.ifCond .ne 44, 3) := by decide +kernel
theorem dX8_plays_198 : decode cX8_plays 198 = .ok (.aload_n 0, 1) := by decide +kernel
theorem dX8_plays_199 : decode cX8_plays 199 = .ok (.getfield 70, 3) := by decide +kernel
theorem dX8_plays_202 : decode cX8_plays 202 = .ok (.bipush 54, 2) := by decide +kernel
theorem dX8_plays_204 : decode cX8_plays 204 = .ok (.iload_n 2, 1) := by decide +kernel
theorem dX8_plays_205 : decode cX8_plays 205 = .ok (.imul, 1) := by decide +kernel
theorem dX8_plays_206 : decode cX8_plays 206 = .ok (.iconst 0, 1) := by decide +kernel
theorem dX8_plays_207 : decode cX8_plays 207 = .ok (.iadd, 1) := by decide +kernel
theorem dX8_plays_208 : decode cX8_plays 208 = .ok (.iaload, 1) := by decide +kernel
theorem dX8_plays_209 : decode cX8_plays 209 = .ok (.iconst 2, 1) := by decide +kernel
theorem dX8_plays_210 : decode cX8_plays 210 = .ok (.irem, 1) := by decide +kernel
theorem dX8_plays_211 : decode cX8_plays 211 = .ok (.ifCond .ne 17, 3) := by decide +kernel
theorem dX8_plays_214 : decode cX8_plays 214 = .ok (.iload 6, 2) := by decide +kernel
theorem dX8_plays_216 : decode cX8_plays 216 = .ok (.aload_n 0, 1) := by decide +kernel
theorem dX8_plays_217 : decode cX8_plays 217 = .ok (.getfield 76, 3) := by decide +kernel
theorem dX8_plays_220 : decode cX8_plays 220 = .ok (.iload_n 2, 1) := by decide +kernel
theorem dX8_plays_221 : decode cX8_plays 221 = .ok (.iaload, 1) := by decide +kernel
theorem dX8_plays_222 : decode cX8_plays 222 = .ok (.if_icmp .le 21, 3) := by decide +kernel
theorem dX8_plays_225 : decode cX8_plays 225 = .ok (.goto 14, 3) := by decide +kernel
theorem dX8_plays_228 : decode cX8_plays 228 = .ok (.iload 6, 2) := by decide +kernel
theorem dX8_plays_230 : decode cX8_plays 230 = .ok (.aload_n 0, 1) := by decide +kernel
theorem dX8_plays_231 : decode cX8_plays 231 = .ok (.getfield 76, 3) := by decide +kernel
theorem dX8_plays_234 : decode cX8_plays 234 = .ok (.iload_n 2, 1) := by decide +kernel
theorem dX8_plays_235 : decode cX8_plays 235 = .ok (.iaload, 1) := by decide +kernel
theorem dX8_plays_236 : decode cX8_plays 236 = .ok (.if_icmp .ge 7, 3) := by decide +kernel
theorem dX8_plays_239 : decode cX8_plays 239 = .ok (.iconst 1, 1) := by decide +kernel
theorem dX8_plays_240 : decode cX8_plays 240 = .ok (.goto 4, 3) := by decide +kernel
theorem dX8_plays_243 : decode cX8_plays 243 = .ok (.iconst 0, 1) := by decide +kernel
theorem dX8_plays_244 : decode cX8_plays 244 = .ok (.istore 8, 2) := by decide +kernel
theorem dX8_plays_246 : decode cX8_plays 246 = .ok (.aload_n 0, 1) := by decide +kernel
theorem dX8_plays_247 : decode cX8_plays 247 = .ok (.getfield 76, 3) := by decide +kernel
theorem dX8_plays_250 : decode cX8_plays 250 = .ok (.iload_n 2, 1) := by decide +kernel
theorem dX8_plays_251 : decode cX8_plays 251 = .ok (.iload 8, 2) := by decide +kernel
theorem dX8_plays_253 : decode cX8_plays 253 = .ok (.ifCond .eq 8, 3) := by decide +kernel
theorem dX8_plays_256 : decode cX8_plays 256 = .ok (.iload 6, 2) := by decide +kernel
theorem dX8_plays_258 : decode cX8_plays 258 = .ok (.goto 9, 3) := by decide +kernel
theorem dX8_plays_261 : decode cX8_plays 261 = .ok (.aload_n 0, 1) := by decide +kernel
theorem dX8_plays_262 : decode cX8_plays 262 = .ok (.getfield 76, 3) := by decide +kernel
theorem dX8_plays_265 : decode cX8_plays 265 = .ok (.iload_n 2, 1) := by decide +kernel
theorem dX8_plays_266 : decode cX8_plays 266 = .ok (.iaload, 1) := by decide +kernel
theorem dX8_plays_267 : decode cX8_plays 267 = .ok (.iastore, 1) := by decide +kernel
theorem dX8_plays_268 : decode cX8_plays 268 = .ok (.iload 8, 2) := by decide +kernel
theorem dX8_plays_270 : decode cX8_plays 270 = .ok (.ifCond .eq 16, 3) := by decide +kernel
theorem dX8_plays_273 : decode cX8_plays 273 = .ok (.iload_n 2, 1) := by decide +kernel
theorem dX8_plays_274 : decode cX8_plays 274 = .ok (.ifCond .ne 12, 3) := by decide +kernel
theorem dX8_plays_277 : decode cX8_plays 277 = .ok (.aload_n 0, 1) := by decide +kernel
theorem dX8_plays_278 : decode cX8_plays 278 = .ok (.getfield 73, 3) := by decide +kernel
theorem dX8_plays_281 : decode cX8_plays 281 = .ok (.iconst 0, 1) := by decide +kernel
theorem dX8_plays_282 : decode cX8_plays 282 = .ok (.iaload, 1) := by decide +kernel
theorem dX8_plays_283 : decode cX8_plays 283 = .ok (.goto 4, 3) := by decide +kernel
theorem dX8_plays_286 : decode cX8_plays 286 = .ok (.iload_n 3, 1) := by decide +kernel
theorem dX8_plays_287 : decode cX8_plays 287 = .ok (.istore_n 3, 1) := by decide +kernel
theorem dX8_plays_288 : decode cX8_plays 288 = .ok (.goto (-261), 3) := by decide +kernel
theorem dX8_isFirstOf_0 : decode cX8_isFirstOf 0 = .ok (.aload_n 0, 1) := by decide +kernel
theorem dX8_isFirstOf_1 : decode cX8_isFirstOf 1 = .ok (.getfield 55, 3) := by decide +kernel
theorem dX8_isFirstOf_4 : decode cX8_isFirstOf 4 = .ok (.iconst 0, 1) := by decide +kernel
theorem dX8_isFirstOf_5 : decode cX8_isFirstOf 5 = .ok (.aload_n 0, 1) := by decide +kernel
theorem dX8_isFirstOf_6 : decode cX8_isFirstOf 6 = .ok (.getfield 70, 3) := by decide +kernel
theorem dX8_isFirstOf_9 : decode cX8_isFirstOf 9 = .ok (.bipush 54, 2) := by decide +kernel
theorem dX8_isFirstOf_11 : decode cX8_isFirstOf 11 = .ok (.iload_n 1, 1) := by decide +kernel
theorem dX8_isFirstOf_12 : decode cX8_isFirstOf 12 = .ok (.imul, 1) := by decide +kernel
theorem dX8_isFirstOf_13 : decode cX8_isFirstOf 13 = .ok (.bipush 54, 2) := by decide +kernel
theorem dX8_isFirstOf_15 : decode cX8_isFirstOf 15 = .ok (.invokestatic 162, 3) := by decide +kernel
theorem dX8_isFirstOf_18 : decode cX8_isFirstOf 18 = .ok (.aload_n 0, 1) := by decide +kernel
theorem dX8_isFirstOf_19 : decode cX8_isFirstOf 19 = .ok (.iconst (-1), 1) := by decide +kernel
theorem dX8_isFirstOf_20 : decode cX8_isFirstOf 20 = .ok (.invokevirtual 264, 3) := by decide +kernel
theorem dX8_isFirstOf_23 : decode cX8_isFirstOf 23 = .ok (.aload_n 0, 1) := by decide +kernel
theorem dX8_isFirstOf_24 : decode cX8_isFirstOf 24 = .ok (.getfield 73, 3) := by decide +kernel
theorem dX8_isFirstOf_27 : decode cX8_isFirstOf 27 = .ok (.iload_n 1, 1) := by decide +kernel
theorem dX8_isFirstOf_28 : decode cX8_isFirstOf 28 = .ok (.iaload, 1) := by decide +kernel
theorem dX8_isFirstOf_29 : decode cX8_isFirstOf 29 = .ok (.if_icmp .ne 7, 3) := by decide +kernel
theorem dX8_isFirstOf_32 : decode cX8_isFirstOf 32 = .ok (.iconst 1, 1) := by decide +kernel
theorem dX8_isFirstOf_33 : decode cX8_isFirstOf 33 = .ok (.goto 4, 3) := by decide +kernel
theorem dX8_isFirstOf_36 : decode cX8_isFirstOf 36 = .ok (.iconst 0, 1) := by decide +kernel
theorem dX8_isFirstOf_37 : decode cX8_isFirstOf 37 = .ok (.ireturn, 1) := by decide +kernel
theorem dX8_game_0 : decode cX8_game 0 = .ok (.iload_n 1, 1) := by decide +kernel
theorem dX8_game_1 : decode cX8_game 1 = .ok (.iconst 1, 1) := by decide +kernel
theorem dX8_game_2 : decode cX8_game 2 = .ok (.iconst 3, 1) := by decide +kernel
theorem dX8_game_3 : decode cX8_game 3 = .ok (.invokestatic 115, 3) := by decide +kernel
theorem dX8_game_6 : decode cX8_game 6 = .ok (.ifCond .eq 12, 3) := by decide +kernel
theorem dX8_game_9 : decode cX8_game 9 = .ok (.iload_n 2, 1) := by decide +kernel
theorem dX8_game_10 : decode cX8_game 10 = .ok (.iconst 0, 1) := by decide +kernel
theorem dX8_game_11 : decode cX8_game 11 = .ok (.iconst 1, 1) := by decide +kernel
theorem dX8_game_12 : decode cX8_game 12 = .ok (.invokestatic 115, 3) := by decide +kernel
theorem dX8_game_15 : decode cX8_game 15 = .ok (.ifCond .ne 5, 3) := by decide +kernel
theorem dX8_game_18 : decode cX8_game 18 = .ok (.iconst (-1), 1) := by decide +kernel
theorem dX8_game_19 : decode cX8_game 19 = .ok (.ireturn, 1) := by decide +kernel
theorem dX8_game_20 : decode cX8_game 20 = .ok (.aload_n 0, 1) := by decide +kernel
theorem dX8_game_21 : decode cX8_game 21 = .ok (.invokevirtual 228, 3) := by decide +kernel
theorem dX8_game_24 : decode cX8_game 24 = .ok (.aload_n 0, 1) := by decide +kernel
theorem dX8_game_25 : decode cX8_game 25 = .ok (.invokevirtual 222, 3) := by decide +kernel
theorem dX8_game_28 : decode cX8_game 28 = .ok (.ifCond .eq 6, 3) := by decide +kernel
theorem dX8_game_31 : decode cX8_game 31 = .ok (.bipush (-2), 2) := by decide +kernel
theorem dX8_game_33 : decode cX8_game 33 = .ok (.ireturn, 1) := by decide +kernel
theorem dX8_game_34 : decode cX8_game 34 = .ok (.aload_n 0, 1) := by decide +kernel
theorem dX8_game_35 : decode cX8_game 35 = .ok (.iload_n 1, 1) := by decide +kernel
theorem dX8_game_36 : decode cX8_game 36 = .ok (.invokevirtual 279, 3) := by decide +kernel
theorem dX8_game_39 : decode cX8_game 39 = .ok (.istore_n 3, 1) := by decide +kernel
theorem dX8_game_40 : decode cX8_game 40 = .ok (.iload_n 2, 1) := by decide +kernel
theorem dX8_game_41 : decode cX8_game 41 = .ok (.ifCond .ne 10, 3) := by decide +kernel
theorem dX8_game_44 : decode cX8_game 44 = .ok (.bipush 100, 2) := by decide +kernel
theorem dX8_game_46 : decode cX8_game 46 = .ok (.iload_n 3, 1) := by decide +kernel
theorem dX8_game_47 : decode cX8_game 47 = .ok (.iadd, 1) := by decide +kernel
theorem dX8_game_48 : decode cX8_game 48 = .ok (.goto 9, 3) := by decide +kernel
theorem dX8_game_51 : decode cX8_game 51 = .ok (.aload_n 0, 1) := by decide +kernel
theorem dX8_game_52 : decode cX8_game 52 = .ok (.getfield 73, 3) := by decide +kernel
theorem dX8_game_55 : decode cX8_game 55 = .ok (.iconst 5, 1) := by decide +kernel
theorem dX8_game_56 : decode cX8_game 56 = .ok (.iaload, 1) := by decide +kernel
theorem dX8_game_57 : decode cX8_game 57 = .ok (.ireturn, 1) := by decide +kernel
theorem dX8_again_0 : decode cX8_again 0 = .ok (.aload_n 0, 1) := by decide +kernel
theorem dX8_again_1 : decode cX8_again 1 = .ok (.iload_n 1, 1) := by decide +kernel
theorem dX8_again_2 : decode cX8_again 2 = .ok (.invokevirtual 225, 3) := by decide +kernel
theorem dX8_again_5 : decode cX8_again 5 = .ok (.ifCond .ne 5, 3) := by decide +kernel
theorem dX8_again_8 : decode cX8_again 8 = .ok (.iconst (-1), 1) := by decide +kernel
theorem dX8_again_9 : decode cX8_again 9 = .ok (.ireturn, 1) := by decide +kernel
theorem dX8_again_10 : decode cX8_again 10 = .ok (.aload_n 0, 1) := by decide +kernel
theorem dX8_again_11 : decode cX8_again 11 = .ok (.getfield 7, 3) := by decide +kernel
theorem dX8_again_14 : decode cX8_again 14 = .ok (.iload_n 1, 1) := by decide +kernel
theorem dX8_again_15 : decode cX8_again 15 = .ok (.iaload, 1) := by decide +kernel
theorem dX8_again_16 : decode cX8_again 16 = .ok (.bipush 9, 2) := by decide +kernel
theorem dX8_again_18 : decode cX8_again 18 = .ok (.if_icmp .ne 6, 3) := by decide +kernel
theorem dX8_again_21 : decode cX8_again 21 = .ok (.bipush (-2), 2) := by decide +kernel
theorem dX8_again_23 : decode cX8_again 23 = .ok (.ireturn, 1) := by decide +kernel
theorem dX8_again_24 : decode cX8_again 24 = .ok (.aload_n 0, 1) := by decide +kernel
theorem dX8_again_25 : decode cX8_again 25 = .ok (.invokevirtual 228, 3) := by decide +kernel
theorem dX8_again_28 : decode cX8_again 28 = .ok (.iconst 0, 1) := by decide +kernel
theorem dX8_again_29 : decode cX8_again 29 = .ok (.istore_n 2, 1) := by decide +kernel
theorem dX8_again_30 : decode cX8_again 30 = .ok (.iload_n 2, 1) := by decide +kernel
theorem dX8_again_31 : decode cX8_again 31 = .ok (.bipush 60, 2) := by decide +kernel
theorem dX8_again_33 : decode cX8_again 33 = .ok (.if_icmp .gt 28, 3) := by decide +kernel
theorem dX8_again_36 : decode cX8_again 36 = .ok (.aload_n 0, 1) := by decide +kernel
theorem dX8_again_37 : decode cX8_again 37 = .ok (.getfield 55, 3) := by decide +kernel
theorem dX8_again_40 : decode cX8_again 40 = .ok (.iconst 1, 1) := by decide +kernel
theorem dX8_again_41 : decode cX8_again 41 = .ok (.iload_n 1, 1) := by decide +kernel
theorem dX8_again_42 : decode cX8_again 42 = .ok (.iadd, 1) := by decide +kernel
theorem dX8_again_43 : decode cX8_again 43 = .ok (.iaload, 1) := by decide +kernel
theorem dX8_again_44 : decode cX8_again 44 = .ok (.ifCond .le 5, 3) := by decide +kernel
theorem dX8_again_47 : decode cX8_again 47 = .ok (.iload_n 2, 1) := by decide +kernel
theorem dX8_again_48 : decode cX8_again 48 = .ok (.ireturn, 1) := by decide +kernel
theorem dX8_again_49 : decode cX8_again 49 = .ok (.aload_n 0, 1) := by decide +kernel
theorem dX8_again_50 : decode cX8_again 50 = .ok (.bipush 99, 2) := by decide +kernel
theorem dX8_again_52 : decode cX8_again 52 = .ok (.invokevirtual 240, 3) := by decide +kernel
theorem dX8_again_55 : decode cX8_again 55 = .ok (.iinc 2 1, 3) := by decide +kernel
theorem dX8_again_58 : decode cX8_again 58 = .ok (.goto (-28), 3) := by decide +kernel
theorem dX8_again_61 : decode cX8_again 61 = .ok (.bipush (-4), 2) := by decide +kernel
theorem dX8_again_63 : decode cX8_again 63 = .ok (.ireturn, 1) := by decide +kernel
theorem dX8_starves_0 : decode cX8_starves 0 = .ok (.aload_n 0, 1) := by decide +kernel
theorem dX8_starves_1 : decode cX8_starves 1 = .ok (.iload_n 1, 1) := by decide +kernel
theorem dX8_starves_2 : decode cX8_starves 2 = .ok (.invokevirtual 231, 3) := by decide +kernel
theorem dX8_starves_5 : decode cX8_starves 5 = .ok (.ifCond .ne 5, 3) := by decide +kernel
theorem dX8_starves_8 : decode cX8_starves 8 = .ok (.iconst (-1), 1) := by decide +kernel
theorem dX8_starves_9 : decode cX8_starves 9 = .ok (.ireturn, 1) := by decide +kernel
theorem dX8_starves_10 : decode cX8_starves 10 = .ok (.aload_n 0, 1) := by decide +kernel
theorem dX8_starves_11 : decode cX8_starves 11 = .ok (.getfield 22, 3) := by decide +kernel
theorem dX8_starves_14 : decode cX8_starves 14 = .ok (.bipush 37, 2) := by decide +kernel
theorem dX8_starves_16 : decode cX8_starves 16 = .ok (.iload_n 1, 1) := by decide +kernel
theorem dX8_starves_17 : decode cX8_starves 17 = .ok (.iadd, 1) := by decide +kernel
theorem dX8_starves_18 : decode cX8_starves 18 = .ok (.iaload, 1) := by decide +kernel
theorem dX8_starves_19 : decode cX8_starves 19 = .ok (.bipush 36, 2) := by decide +kernel
theorem dX8_starves_21 : decode cX8_starves 21 = .ok (.if_icmp .ne 6, 3) := by decide +kernel
theorem dX8_starves_24 : decode cX8_starves 24 = .ok (.bipush (-2), 2) := by decide +kernel
theorem dX8_starves_26 : decode cX8_starves 26 = .ok (.ireturn, 1) := by decide +kernel
theorem dX8_starves_27 : decode cX8_starves 27 = .ok (.aload_n 0, 1) := by decide +kernel
theorem dX8_starves_28 : decode cX8_starves 28 = .ok (.invokevirtual 228, 3) := by decide +kernel
theorem dX8_starves_31 : decode cX8_starves 31 = .ok (.iconst 1, 1) := by decide +kernel
theorem dX8_starves_32 : decode cX8_starves 32 = .ok (.istore_n 2, 1) := by decide +kernel
theorem dX8_starves_33 : decode cX8_starves 33 = .ok (.iload_n 2, 1) := by decide +kernel
theorem dX8_starves_34 : decode cX8_starves 34 = .ok (.bipush 60, 2) := by decide +kernel
theorem dX8_starves_36 : decode cX8_starves 36 = .ok (.if_icmp .gt 31, 3) := by decide +kernel
theorem dX8_starves_39 : decode cX8_starves 39 = .ok (.aload_n 0, 1) := by decide +kernel
theorem dX8_starves_40 : decode cX8_starves 40 = .ok (.bipush 99, 2) := by decide +kernel
theorem dX8_starves_42 : decode cX8_starves 42 = .ok (.invokevirtual 240, 3) := by decide +kernel
theorem dX8_starves_45 : decode cX8_starves 45 = .ok (.aload_n 0, 1) := by decide +kernel
theorem dX8_starves_46 : decode cX8_starves 46 = .ok (.getfield 55, 3) := by decide +kernel
theorem dX8_starves_49 : decode cX8_starves 49 = .ok (.bipush 37, 2) := by decide +kernel
theorem dX8_starves_51 : decode cX8_starves 51 = .ok (.iload_n 1, 1) := by decide +kernel
theorem dX8_starves_52 : decode cX8_starves 52 = .ok (.iadd, 1) := by decide +kernel
theorem dX8_starves_53 : decode cX8_starves 53 = .ok (.iaload, 1) := by decide +kernel
theorem dX8_starves_54 : decode cX8_starves 54 = .ok (.bipush 36, 2) := by decide +kernel
theorem dX8_starves_56 : decode cX8_starves 56 = .ok (.if_icmp .ne 5, 3) := by decide +kernel
theorem dX8_starves_59 : decode cX8_starves 59 = .ok (.iload_n 2, 1) := by decide +kernel
theorem dX8_starves_60 : decode cX8_starves 60 = .ok (.ireturn, 1) := by decide +kernel
theorem dX8_starves_61 : decode cX8_starves 61 = .ok (.iinc 2 1, 3) := by decide +kernel
theorem dX8_starves_64 : decode cX8_starves 64 = .ok (.goto (-31), 3) := by decide +kernel
theorem dX8_starves_67 : decode cX8_starves 67 = .ok (.bipush (-4), 2) := by decide +kernel
theorem dX8_starves_69 : decode cX8_starves 69 = .ok (.ireturn, 1) := by decide +kernel
theorem dX8_isOtherwise_0 : decode cX8_isOtherwise 0 = .ok (.aload_n 0, 1) := by decide +kernel
theorem dX8_isOtherwise_1 : decode cX8_isOtherwise 1 = .ok (.getfield 55, 3) := by decide +kernel
theorem dX8_isOtherwise_4 : decode cX8_isOtherwise 4 = .ok (.iconst 0, 1) := by decide +kernel
theorem dX8_isOtherwise_5 : decode cX8_isOtherwise 5 = .ok (.aload_n 0, 1) := by decide +kernel
theorem dX8_isOtherwise_6 : decode cX8_isOtherwise 6 = .ok (.getfield 25, 3) := by decide +kernel
theorem dX8_isOtherwise_9 : decode cX8_isOtherwise 9 = .ok (.bipush 54, 2) := by decide +kernel
theorem dX8_isOtherwise_11 : decode cX8_isOtherwise 11 = .ok (.iload_n 1, 1) := by decide +kernel
theorem dX8_isOtherwise_12 : decode cX8_isOtherwise 12 = .ok (.imul, 1) := by decide +kernel
theorem dX8_isOtherwise_13 : decode cX8_isOtherwise 13 = .ok (.bipush 54, 2) := by decide +kernel
theorem dX8_isOtherwise_15 : decode cX8_isOtherwise 15 = .ok (.invokestatic 162, 3) := by decide +kernel
theorem dX8_isOtherwise_18 : decode cX8_isOtherwise 18 = .ok (.iload_n 2, 1) := by decide +kernel
theorem dX8_isOtherwise_19 : decode cX8_isOtherwise 19 = .ok (.aload_n 0, 1) := by decide +kernel
theorem dX8_isOtherwise_20 : decode cX8_isOtherwise 20 = .ok (.getfield 28, 3) := by decide +kernel
theorem dX8_isOtherwise_23 : decode cX8_isOtherwise 23 = .ok (.iload_n 1, 1) := by decide +kernel
theorem dX8_isOtherwise_24 : decode cX8_isOtherwise 24 = .ok (.iaload, 1) := by decide +kernel
theorem dX8_isOtherwise_25 : decode cX8_isOtherwise 25 = .ok (.if_icmp .eq 44, 3) := by decide +kernel
theorem dX8_isOtherwise_28 : decode cX8_isOtherwise 28 = .ok (.iload_n 2, 1) := by decide +kernel
theorem dX8_isOtherwise_29 : decode cX8_isOtherwise 29 = .ok (.bipush 99, 2) := by decide +kernel
theorem dX8_isOtherwise_31 : decode cX8_isOtherwise 31 = .ok (.if_icmp .eq 40, 3) := by decide +kernel
theorem dX8_isOtherwise_34 : decode cX8_isOtherwise 34 = .ok (.aload_n 0, 1) := by decide +kernel
theorem dX8_isOtherwise_35 : decode cX8_isOtherwise 35 = .ok (.getfield 28, 3) := by decide +kernel
theorem dX8_isOtherwise_38 : decode cX8_isOtherwise 38 = .ok (.iload_n 1, 1) := by decide +kernel
theorem dX8_isOtherwise_39 : decode cX8_isOtherwise 39 = .ok (.iaload, 1) := by decide +kernel
theorem dX8_isOtherwise_40 : decode cX8_isOtherwise 40 = .ok (.bipush 99, 2) := by decide +kernel
theorem dX8_isOtherwise_42 : decode cX8_isOtherwise 42 = .ok (.if_icmp .eq 19, 3) := by decide +kernel
theorem dX8_isOtherwise_45 : decode cX8_isOtherwise 45 = .ok (.iload_n 2, 1) := by decide +kernel
theorem dX8_isOtherwise_46 : decode cX8_isOtherwise 46 = .ok (.bipush 10, 2) := by decide +kernel
theorem dX8_isOtherwise_48 : decode cX8_isOtherwise 48 = .ok (.idiv, 1) := by decide +kernel
theorem dX8_isOtherwise_49 : decode cX8_isOtherwise 49 = .ok (.aload_n 0, 1) := by decide +kernel
theorem dX8_isOtherwise_50 : decode cX8_isOtherwise 50 = .ok (.getfield 28, 3) := by decide +kernel
theorem dX8_isOtherwise_53 : decode cX8_isOtherwise 53 = .ok (.iload_n 1, 1) := by decide +kernel
theorem dX8_isOtherwise_54 : decode cX8_isOtherwise 54 = .ok (.iaload, 1) := by decide +kernel
theorem dX8_isOtherwise_55 : decode cX8_isOtherwise 55 = .ok (.bipush 10, 2) := by decide +kernel
theorem dX8_isOtherwise_57 : decode cX8_isOtherwise 57 = .ok (.idiv, 1) := by decide +kernel
theorem dX8_isOtherwise_58 : decode cX8_isOtherwise 58 = .ok (.if_icmp .ne 11, 3) := by decide +kernel
theorem dX8_isOtherwise_61 : decode cX8_isOtherwise 61 = .ok (.aload_n 0, 1) := by decide +kernel
theorem dX8_isOtherwise_62 : decode cX8_isOtherwise 62 = .ok (.iload_n 2, 1) := by decide +kernel
theorem dX8_isOtherwise_63 : decode cX8_isOtherwise 63 = .ok (.invokevirtual 243, 3) := by decide +kernel
theorem dX8_isOtherwise_66 : decode cX8_isOtherwise 66 = .ok (.ifCond .ne 5, 3) := by decide +kernel
theorem dX8_isOtherwise_69 : decode cX8_isOtherwise 69 = .ok (.iconst 0, 1) := by decide +kernel
theorem dX8_isOtherwise_70 : decode cX8_isOtherwise 70 = .ok (.ireturn, 1) := by decide +kernel
theorem dX8_isOtherwise_71 : decode cX8_isOtherwise 71 = .ok (.aload_n 0, 1) := by decide +kernel
theorem dX8_isOtherwise_72 : decode cX8_isOtherwise 72 = .ok (.iload_n 2, 1) := by decide +kernel
theorem dX8_isOtherwise_73 : decode cX8_isOtherwise 73 = .ok (.invokevirtual 240, 3) := by decide +kernel
theorem dX8_isOtherwise_76 : decode cX8_isOtherwise 76 = .ok (.iload_n 1, 1) := by decide +kernel
theorem dX8_isOtherwise_77 : decode cX8_isOtherwise 77 = .ok (.iconst 1, 1) := by decide +kernel
theorem dX8_isOtherwise_78 : decode cX8_isOtherwise 78 = .ok (.iadd, 1) := by decide +kernel
theorem dX8_isOtherwise_79 : decode cX8_isOtherwise 79 = .ok (.istore 5, 2) := by decide +kernel
theorem dX8_isOtherwise_81 : decode cX8_isOtherwise 81 = .ok (.iload 5, 2) := by decide +kernel
theorem dX8_isOtherwise_83 : decode cX8_isOtherwise 83 = .ok (.aload_n 0, 1) := by decide +kernel
theorem dX8_isOtherwise_84 : decode cX8_isOtherwise 84 = .ok (.getfield 175, 3) := by decide +kernel
theorem dX8_isOtherwise_87 : decode cX8_isOtherwise 87 = .ok (.if_icmp .ge 51, 3) := by decide +kernel
theorem dX8_isOtherwise_90 : decode cX8_isOtherwise 90 = .ok (.aload_n 0, 1) := by decide +kernel
theorem dX8_isOtherwise_91 : decode cX8_isOtherwise 91 = .ok (.aload_n 0, 1) := by decide +kernel
theorem dX8_isOtherwise_92 : decode cX8_isOtherwise 92 = .ok (.getfield 28, 3) := by decide +kernel
theorem dX8_isOtherwise_95 : decode cX8_isOtherwise 95 = .ok (.iload 5, 2) := by decide +kernel
theorem dX8_isOtherwise_97 : decode cX8_isOtherwise 97 = .ok (.iaload, 1) := by decide +kernel
theorem dX8_isOtherwise_98 : decode cX8_isOtherwise 98 = .ok (.bipush 99, 2) := by decide +kernel
theorem dX8_isOtherwise_100 : decode cX8_isOtherwise 100 = .ok (.if_icmp .eq 27, 3) := by decide +kernel
theorem dX8_isOtherwise_103 : decode cX8_isOtherwise 103 = .ok (.aload_n 0, 1) := by decide +kernel
theorem dX8_isOtherwise_104 : decode cX8_isOtherwise 104 = .ok (.aload_n 0, 1) := by decide +kernel
theorem dX8_isOtherwise_105 : decode cX8_isOtherwise 105 = .ok (.getfield 28, 3) := by decide +kernel
theorem dX8_isOtherwise_108 : decode cX8_isOtherwise 108 = .ok (.iload 5, 2) := by decide +kernel
theorem dX8_isOtherwise_110 : decode cX8_isOtherwise 110 = .ok (.iaload, 1) := by decide +kernel
theorem dX8_isOtherwise_111 : decode cX8_isOtherwise 111 = .ok (.invokevirtual 243, 3) := by decide +kernel
theorem dX8_isOtherwise_114 : decode cX8_isOtherwise 114 = .ok (.ifCond .eq 13, 3) := by decide +kernel
theorem dX8_isOtherwise_117 : decode cX8_isOtherwise 117 = .ok (.aload_n 0, 1) := by decide +kernel
theorem dX8_isOtherwise_118 : decode cX8_isOtherwise 118 = .ok (.getfield 28, 3) := by decide +kernel
theorem dX8_isOtherwise_121 : decode cX8_isOtherwise 121 = .ok (.iload 5, 2) := by decide +kernel
theorem dX8_isOtherwise_123 : decode cX8_isOtherwise 123 = .ok (.iaload, 1) := by decide +kernel
theorem dX8_isOtherwise_124 : decode cX8_isOtherwise 124 = .ok (.goto 5, 3) := by decide +kernel
theorem dX8_isOtherwise_127 : decode cX8_isOtherwise 127 = .ok (.bipush 99, 2) := by decide +kernel
theorem dX8_isOtherwise_129 : decode cX8_isOtherwise 129 = .ok (.invokevirtual 240, 3) := by decide +kernel
theorem dX8_isOtherwise_132 : decode cX8_isOtherwise 132 = .ok (.iinc 5 1, 3) := by decide +kernel
theorem dX8_isOtherwise_135 : decode cX8_isOtherwise 135 = .ok (.goto (-54), 3) := by decide +kernel
theorem dX8_isOtherwise_138 : decode cX8_isOtherwise 138 = .ok (.aload_n 0, 1) := by decide +kernel
theorem dX8_isOtherwise_139 : decode cX8_isOtherwise 139 = .ok (.getfield 55, 3) := by decide +kernel
theorem dX8_isOtherwise_142 : decode cX8_isOtherwise 142 = .ok (.bipush 37, 2) := by decide +kernel
theorem dX8_isOtherwise_144 : decode cX8_isOtherwise 144 = .ok (.iload_n 3, 1) := by decide +kernel
theorem dX8_isOtherwise_145 : decode cX8_isOtherwise 145 = .ok (.iadd, 1) := by decide +kernel
theorem dX8_isOtherwise_146 : decode cX8_isOtherwise 146 = .ok (.iaload, 1) := by decide +kernel
theorem dX8_isOtherwise_147 : decode cX8_isOtherwise 147 = .ok (.iload 4, 2) := by decide +kernel
theorem dX8_isOtherwise_149 : decode cX8_isOtherwise 149 = .ok (.if_icmp .ne 7, 3) := by decide +kernel
theorem dX8_isOtherwise_152 : decode cX8_isOtherwise 152 = .ok (.iconst 1, 1) := by decide +kernel
theorem dX8_isOtherwise_153 : decode cX8_isOtherwise 153 = .ok (.goto 4, 3) := by decide +kernel
theorem dX8_isOtherwise_156 : decode cX8_isOtherwise 156 = .ok (.iconst 0, 1) := by decide +kernel
theorem dX8_isOtherwise_157 : decode cX8_isOtherwise 157 = .ok (.ireturn, 1) := by decide +kernel
theorem dX8_otherwise_0 : decode cX8_otherwise 0 = .ok (.aload_n 0, 1) := by decide +kernel
theorem dX8_otherwise_1 : decode cX8_otherwise 1 = .ok (.iload_n 1, 1) := by decide +kernel
theorem dX8_otherwise_2 : decode cX8_otherwise 2 = .ok (.invokevirtual 231, 3) := by decide +kernel
theorem dX8_otherwise_5 : decode cX8_otherwise 5 = .ok (.ifCond .eq 20, 3) := by decide +kernel
theorem dX8_otherwise_8 : decode cX8_otherwise 8 = .ok (.aload_n 0, 1) := by decide +kernel
theorem dX8_otherwise_9 : decode cX8_otherwise 9 = .ok (.iload_n 2, 1) := by decide +kernel
theorem dX8_otherwise_10 : decode cX8_otherwise 10 = .ok (.invokevirtual 225, 3) := by decide +kernel
theorem dX8_otherwise_13 : decode cX8_otherwise 13 = .ok (.ifCond .eq 12, 3) := by decide +kernel
theorem dX8_otherwise_16 : decode cX8_otherwise 16 = .ok (.iload_n 3, 1) := by decide +kernel
theorem dX8_otherwise_17 : decode cX8_otherwise 17 = .ok (.iconst 0, 1) := by decide +kernel
theorem dX8_otherwise_18 : decode cX8_otherwise 18 = .ok (.iconst 1, 1) := by decide +kernel
theorem dX8_otherwise_19 : decode cX8_otherwise 19 = .ok (.invokestatic 115, 3) := by decide +kernel
theorem dX8_otherwise_22 : decode cX8_otherwise 22 = .ok (.ifCond .ne 5, 3) := by decide +kernel
theorem dX8_otherwise_25 : decode cX8_otherwise 25 = .ok (.iconst (-1), 1) := by decide +kernel
theorem dX8_otherwise_26 : decode cX8_otherwise 26 = .ok (.ireturn, 1) := by decide +kernel
theorem dX8_otherwise_27 : decode cX8_otherwise 27 = .ok (.iconst 0, 1) := by decide +kernel
theorem dX8_otherwise_28 : decode cX8_otherwise 28 = .ok (.istore 4, 2) := by decide +kernel
theorem dX8_otherwise_30 : decode cX8_otherwise 30 = .ok (.bipush (-4), 2) := by decide +kernel
theorem dX8_otherwise_32 : decode cX8_otherwise 32 = .ok (.istore 5, 2) := by decide +kernel
theorem dX8_otherwise_34 : decode cX8_otherwise 34 = .ok (.iconst 0, 1) := by decide +kernel
theorem dX8_otherwise_35 : decode cX8_otherwise 35 = .ok (.istore 6, 2) := by decide +kernel
theorem dX8_otherwise_37 : decode cX8_otherwise 37 = .ok (.iload 6, 2) := by decide +kernel
theorem dX8_otherwise_39 : decode cX8_otherwise 39 = .ok (.aload_n 0, 1) := by decide +kernel
theorem dX8_otherwise_40 : decode cX8_otherwise 40 = .ok (.getfield 175, 3) := by decide +kernel
theorem dX8_otherwise_43 : decode cX8_otherwise 43 = .ok (.if_icmp .ge 84, 3) := by decide +kernel
theorem dX8_otherwise_46 : decode cX8_otherwise 46 = .ok (.iconst 0, 1) := by decide +kernel
theorem dX8_otherwise_47 : decode cX8_otherwise 47 = .ok (.istore 7, 2) := by decide +kernel
theorem dX8_otherwise_49 : decode cX8_otherwise 49 = .ok (.iload 7, 2) := by decide +kernel
theorem dX8_otherwise_51 : decode cX8_otherwise 51 = .ok (.bipush 99, 2) := by decide +kernel
theorem dX8_otherwise_53 : decode cX8_otherwise 53 = .ok (.if_icmp .gt 68, 3) := by decide +kernel
theorem dX8_otherwise_56 : decode cX8_otherwise 56 = .ok (.iload 7, 2) := by decide +kernel
theorem dX8_otherwise_58 : decode cX8_otherwise 58 = .ok (.bipush 10, 2) := by decide +kernel
theorem dX8_otherwise_60 : decode cX8_otherwise 60 = .ok (.irem, 1) := by decide +kernel
theorem dX8_otherwise_61 : decode cX8_otherwise 61 = .ok (.iconst 4, 1) := by decide +kernel
theorem dX8_otherwise_62 : decode cX8_otherwise 62 = .ok (.if_icmp .lt 10, 3) := by decide +kernel
theorem dX8_otherwise_65 : decode cX8_otherwise 65 = .ok (.iload 7, 2) := by decide +kernel
theorem dX8_otherwise_67 : decode cX8_otherwise 67 = .ok (.bipush 99, 2) := by decide +kernel
theorem dX8_otherwise_69 : decode cX8_otherwise 69 = .ok (.if_icmp .ne 46, 3) := by decide +kernel
theorem dX8_otherwise_72 : decode cX8_otherwise 72 = .ok (.aload_n 0, 1) := by decide +kernel
theorem dX8_otherwise_73 : decode cX8_otherwise 73 = .ok (.aload_n 0, 1) := by decide +kernel
theorem dX8_otherwise_74 : decode cX8_otherwise 74 = .ok (.getfield 175, 3) := by decide +kernel
theorem dX8_otherwise_77 : decode cX8_otherwise 77 = .ok (.iconst 1, 1) := by decide +kernel
theorem dX8_otherwise_78 : decode cX8_otherwise 78 = .ok (.isub, 1) := by decide +kernel
theorem dX8_otherwise_79 : decode cX8_otherwise 79 = .ok (.iload 6, 2) := by decide +kernel
theorem dX8_otherwise_81 : decode cX8_otherwise 81 = .ok (.isub, 1) := by decide +kernel
theorem dX8_otherwise_82 : decode cX8_otherwise 82 = .ok (.iload 7, 2) := by decide +kernel
theorem dX8_otherwise_84 : decode cX8_otherwise 84 = .ok (.iload_n 1, 1) := by decide +kernel
theorem dX8_otherwise_85 : decode cX8_otherwise 85 = .ok (.iload_n 2, 1) := by decide +kernel
theorem dX8_otherwise_86 : decode cX8_otherwise 86 = .ok (.invokevirtual 282, 3) := by decide +kernel
theorem dX8_otherwise_89 : decode cX8_otherwise 89 = .ok (.ifCond .eq 26, 3) := by decide +kernel
theorem dX8_otherwise_92 : decode cX8_otherwise 92 = .ok (.iload 4, 2) := by decide +kernel
theorem dX8_otherwise_94 : decode cX8_otherwise 94 = .ok (.ifCond .ne 14, 3) := by decide +kernel
theorem dX8_otherwise_97 : decode cX8_otherwise 97 = .ok (.bipush 100, 2) := by decide +kernel
theorem dX8_otherwise_99 : decode cX8_otherwise 99 = .ok (.iload 6, 2) := by decide +kernel
theorem dX8_otherwise_101 : decode cX8_otherwise 101 = .ok (.imul, 1) := by decide +kernel
theorem dX8_otherwise_102 : decode cX8_otherwise 102 = .ok (.iload 7, 2) := by decide +kernel
theorem dX8_otherwise_104 : decode cX8_otherwise 104 = .ok (.iadd, 1) := by decide +kernel
theorem dX8_otherwise_105 : decode cX8_otherwise 105 = .ok (.goto 5, 3) := by decide +kernel
theorem dX8_otherwise_108 : decode cX8_otherwise 108 = .ok (.iload 5, 2) := by decide +kernel
theorem dX8_otherwise_110 : decode cX8_otherwise 110 = .ok (.istore 5, 2) := by decide +kernel
theorem dX8_otherwise_112 : decode cX8_otherwise 112 = .ok (.iinc 4 1, 3) := by decide +kernel
theorem dX8_otherwise_115 : decode cX8_otherwise 115 = .ok (.iinc 7 1, 3) := by decide +kernel
theorem dX8_otherwise_118 : decode cX8_otherwise 118 = .ok (.goto (-69), 3) := by decide +kernel
theorem dX8_otherwise_121 : decode cX8_otherwise 121 = .ok (.iinc 6 1, 3) := by decide +kernel
theorem dX8_otherwise_124 : decode cX8_otherwise 124 = .ok (.goto (-87), 3) := by decide +kernel
theorem dX8_otherwise_127 : decode cX8_otherwise 127 = .ok (.iload_n 3, 1) := by decide +kernel
theorem dX8_otherwise_128 : decode cX8_otherwise 128 = .ok (.ifCond .ne 8, 3) := by decide +kernel
theorem dX8_otherwise_131 : decode cX8_otherwise 131 = .ok (.iload 4, 2) := by decide +kernel
theorem dX8_otherwise_133 : decode cX8_otherwise 133 = .ok (.goto 5, 3) := by decide +kernel
theorem dX8_otherwise_136 : decode cX8_otherwise 136 = .ok (.iload 5, 2) := by decide +kernel
theorem dX8_otherwise_138 : decode cX8_otherwise 138 = .ok (.ireturn, 1) := by decide +kernel
theorem dX8_isNearBog_0 : decode cX8_isNearBog 0 = .ok (.iconst 0, 1) := by decide +kernel
theorem dX8_isNearBog_1 : decode cX8_isNearBog 1 = .ok (.istore_n 2, 1) := by decide +kernel
theorem dX8_isNearBog_2 : decode cX8_isNearBog 2 = .ok (.iconst 0, 1) := by decide +kernel
theorem dX8_isNearBog_3 : decode cX8_isNearBog 3 = .ok (.istore_n 3, 1) := by decide +kernel
theorem dX8_isNearBog_4 : decode cX8_isNearBog 4 = .ok (.iload_n 3, 1) := by decide +kernel
theorem dX8_isNearBog_5 : decode cX8_isNearBog 5 = .ok (.iconst 4, 1) := by decide +kernel
theorem dX8_isNearBog_6 : decode cX8_isNearBog 6 = .ok (.if_icmp .ge 44, 3) := by decide +kernel
theorem dX8_isNearBog_9 : decode cX8_isNearBog 9 = .ok (.aload_n 0, 1) := by decide +kernel
theorem dX8_isNearBog_10 : decode cX8_isNearBog 10 = .ok (.iload_n 1, 1) := by decide +kernel
theorem dX8_isNearBog_11 : decode cX8_isNearBog 11 = .ok (.iload_n 3, 1) := by decide +kernel
theorem dX8_isNearBog_12 : decode cX8_isNearBog 12 = .ok (.invokevirtual 185, 3) := by decide +kernel
theorem dX8_isNearBog_15 : decode cX8_isNearBog 15 = .ok (.istore 4, 2) := by decide +kernel
theorem dX8_isNearBog_17 : decode cX8_isNearBog 17 = .ok (.iload_n 2, 1) := by decide +kernel
theorem dX8_isNearBog_18 : decode cX8_isNearBog 18 = .ok (.ifCond .ne 20, 3) := by decide +kernel
theorem dX8_isNearBog_21 : decode cX8_isNearBog 21 = .ok (.iload 4, 2) := by decide +kernel
theorem dX8_isNearBog_23 : decode cX8_isNearBog 23 = .ok (.ifCond .lt 19, 3) := by decide +kernel
theorem dX8_isNearBog_26 : decode cX8_isNearBog 26 = .ok (.aload_n 0, 1) := by decide +kernel
theorem dX8_isNearBog_27 : decode cX8_isNearBog 27 = .ok (.getfield 7, 3) := by decide +kernel
theorem dX8_isNearBog_30 : decode cX8_isNearBog 30 = .ok (.iload 4, 2) := by decide +kernel
theorem dX8_isNearBog_32 : decode cX8_isNearBog 32 = .ok (.iaload, 1) := by decide +kernel
theorem dX8_isNearBog_33 : decode cX8_isNearBog 33 = .ok (.bipush 9, 2) := by decide +kernel
theorem dX8_isNearBog_35 : decode cX8_isNearBog 35 = .ok (.if_icmp .ne 7, 3) := by decide +kernel
theorem dX8_isNearBog_38 : decode cX8_isNearBog 38 = .ok (.iconst 1, 1) := by decide +kernel
theorem dX8_isNearBog_39 : decode cX8_isNearBog 39 = .ok (.goto 4, 3) := by decide +kernel
theorem dX8_isNearBog_42 : decode cX8_isNearBog 42 = .ok (.iconst 0, 1) := by decide +kernel
theorem dX8_isNearBog_43 : decode cX8_isNearBog 43 = .ok (.istore_n 2, 1) := by decide +kernel
theorem dX8_isNearBog_44 : decode cX8_isNearBog 44 = .ok (.iinc 3 1, 3) := by decide +kernel
theorem dX8_isNearBog_47 : decode cX8_isNearBog 47 = .ok (.goto (-43), 3) := by decide +kernel
theorem dX8_isNearBog_50 : decode cX8_isNearBog 50 = .ok (.iload_n 2, 1) := by decide +kernel
theorem dX8_isNearBog_51 : decode cX8_isNearBog 51 = .ok (.ireturn, 1) := by decide +kernel
theorem dX8_wolf_0 : decode cX8_wolf 0 = .ok (.iconst 0, 1) := by decide +kernel
theorem dX8_wolf_1 : decode cX8_wolf 1 = .ok (.istore_n 1, 1) := by decide +kernel
theorem dX8_wolf_2 : decode cX8_wolf 2 = .ok (.iload_n 1, 1) := by decide +kernel
theorem dX8_wolf_3 : decode cX8_wolf 3 = .ok (.aload_n 0, 1) := by decide +kernel
theorem dX8_wolf_4 : decode cX8_wolf 4 = .ok (.getfield 112, 3) := by decide +kernel
theorem dX8_wolf_7 : decode cX8_wolf 7 = .ok (.if_icmp .ge 51, 3) := by decide +kernel
theorem dX8_wolf_10 : decode cX8_wolf 10 = .ok (.aload_n 0, 1) := by decide +kernel
theorem dX8_wolf_11 : decode cX8_wolf 11 = .ok (.getfield 55, 3) := by decide +kernel
theorem dX8_wolf_14 : decode cX8_wolf 14 = .ok (.bipush 37, 2) := by decide +kernel
theorem dX8_wolf_16 : decode cX8_wolf 16 = .ok (.iload_n 1, 1) := by decide +kernel
theorem dX8_wolf_17 : decode cX8_wolf 17 = .ok (.iadd, 1) := by decide +kernel
theorem dX8_wolf_18 : decode cX8_wolf 18 = .ok (.iaload, 1) := by decide +kernel
theorem dX8_wolf_19 : decode cX8_wolf 19 = .ok (.bipush 36, 2) := by decide +kernel
theorem dX8_wolf_21 : decode cX8_wolf 21 = .ok (.if_icmp .eq 31, 3) := by decide +kernel
theorem dX8_wolf_24 : decode cX8_wolf 24 = .ok (.aload_n 0, 1) := by decide +kernel
theorem dX8_wolf_25 : decode cX8_wolf 25 = .ok (.aload_n 0, 1) := by decide +kernel
theorem dX8_wolf_26 : decode cX8_wolf 26 = .ok (.getfield 55, 3) := by decide +kernel
theorem dX8_wolf_29 : decode cX8_wolf 29 = .ok (.bipush 37, 2) := by decide +kernel
theorem dX8_wolf_31 : decode cX8_wolf 31 = .ok (.iload_n 1, 1) := by decide +kernel
theorem dX8_wolf_32 : decode cX8_wolf 32 = .ok (.iadd, 1) := by decide +kernel
theorem dX8_wolf_33 : decode cX8_wolf 33 = .ok (.iaload, 1) := by decide +kernel
theorem dX8_wolf_34 : decode cX8_wolf 34 = .ok (.invokevirtual 286, 3) := by decide +kernel
theorem dX8_wolf_37 : decode cX8_wolf 37 = .ok (.ifCond .eq 15, 3) := by decide +kernel
theorem dX8_wolf_40 : decode cX8_wolf 40 = .ok (.aload_n 0, 1) := by decide +kernel
theorem dX8_wolf_41 : decode cX8_wolf 41 = .ok (.getfield 55, 3) := by decide +kernel
theorem dX8_wolf_44 : decode cX8_wolf 44 = .ok (.bipush 37, 2) := by decide +kernel
theorem dX8_wolf_46 : decode cX8_wolf 46 = .ok (.iload_n 1, 1) := by decide +kernel
theorem dX8_wolf_47 : decode cX8_wolf 47 = .ok (.iadd, 1) := by decide +kernel
theorem dX8_wolf_48 : decode cX8_wolf 48 = .ok (.bipush 36, 2) := by decide +kernel
theorem dX8_wolf_50 : decode cX8_wolf 50 = .ok (.iastore, 1) := by decide +kernel
theorem dX8_wolf_51 : decode cX8_wolf 51 = .ok (.return_, 1) := by decide +kernel
theorem dX8_wolf_52 : decode cX8_wolf 52 = .ok (.iinc 1 1, 3) := by decide +kernel
theorem dX8_wolf_55 : decode cX8_wolf 55 = .ok (.goto (-53), 3) := by decide +kernel
theorem dX8_wolf_58 : decode cX8_wolf 58 = .ok (.return_, 1) := by decide +kernel
theorem dX8_lowest_0 : decode cX8_lowest 0 = .ok (.iload_n 0, 1) := by decide +kernel
theorem dX8_lowest_1 : decode cX8_lowest 1 = .ok (.istore_n 3, 1) := by decide +kernel
theorem dX8_lowest_2 : decode cX8_lowest 2 = .ok (.iload_n 1, 1) := by decide +kernel
theorem dX8_lowest_3 : decode cX8_lowest 3 = .ok (.istore 4, 2) := by decide +kernel
theorem dX8_lowest_5 : decode cX8_lowest 5 = .ok (.iload 4, 2) := by decide +kernel
theorem dX8_lowest_7 : decode cX8_lowest 7 = .ok (.ifCond .le 19, 3) := by decide +kernel
theorem dX8_lowest_10 : decode cX8_lowest 10 = .ok (.iload_n 3, 1) := by decide +kernel
theorem dX8_lowest_11 : decode cX8_lowest 11 = .ok (.iload 4, 2) := by decide +kernel
theorem dX8_lowest_13 : decode cX8_lowest 13 = .ok (.irem, 1) := by decide +kernel
theorem dX8_lowest_14 : decode cX8_lowest 14 = .ok (.istore 5, 2) := by decide +kernel
theorem dX8_lowest_16 : decode cX8_lowest 16 = .ok (.iload 4, 2) := by decide +kernel
theorem dX8_lowest_18 : decode cX8_lowest 18 = .ok (.istore_n 3, 1) := by decide +kernel
theorem dX8_lowest_19 : decode cX8_lowest 19 = .ok (.iload 5, 2) := by decide +kernel
theorem dX8_lowest_21 : decode cX8_lowest 21 = .ok (.istore 4, 2) := by decide +kernel
theorem dX8_lowest_23 : decode cX8_lowest 23 = .ok (.goto (-18), 3) := by decide +kernel
theorem dX8_lowest_26 : decode cX8_lowest 26 = .ok (.iload_n 2, 1) := by decide +kernel
theorem dX8_lowest_27 : decode cX8_lowest 27 = .ok (.ifCond .ne 7, 3) := by decide +kernel
theorem dX8_lowest_30 : decode cX8_lowest 30 = .ok (.iload_n 0, 1) := by decide +kernel
theorem dX8_lowest_31 : decode cX8_lowest 31 = .ok (.goto 4, 3) := by decide +kernel
theorem dX8_lowest_34 : decode cX8_lowest 34 = .ok (.iload_n 1, 1) := by decide +kernel
theorem dX8_lowest_35 : decode cX8_lowest 35 = .ok (.iload_n 3, 1) := by decide +kernel
theorem dX8_lowest_36 : decode cX8_lowest 36 = .ok (.idiv, 1) := by decide +kernel
theorem dX8_lowest_37 : decode cX8_lowest 37 = .ok (.ireturn, 1) := by decide +kernel
theorem dX8_wolves_0 : decode cX8_wolves 0 = .ok (.aload_n 0, 1) := by decide +kernel
theorem dX8_wolves_1 : decode cX8_wolves 1 = .ok (.iload_n 1, 1) := by decide +kernel
theorem dX8_wolves_2 : decode cX8_wolves 2 = .ok (.invokevirtual 231, 3) := by decide +kernel
theorem dX8_wolves_5 : decode cX8_wolves 5 = .ok (.ifCond .eq 33, 3) := by decide +kernel
theorem dX8_wolves_8 : decode cX8_wolves 8 = .ok (.iload_n 2, 1) := by decide +kernel
theorem dX8_wolves_9 : decode cX8_wolves 9 = .ok (.iconst 0, 1) := by decide +kernel
theorem dX8_wolves_10 : decode cX8_wolves 10 = .ok (.bipush 8, 2) := by decide +kernel
theorem dX8_wolves_12 : decode cX8_wolves 12 = .ok (.invokestatic 115, 3) := by decide +kernel
theorem dX8_wolves_15 : decode cX8_wolves 15 = .ok (.ifCond .eq 23, 3) := by decide +kernel
theorem dX8_wolves_18 : decode cX8_wolves 18 = .ok (.iload_n 3, 1) := by decide +kernel
theorem dX8_wolves_19 : decode cX8_wolves 19 = .ok (.iconst 0, 1) := by decide +kernel
theorem dX8_wolves_20 : decode cX8_wolves 20 = .ok (.bipush 10, 2) := by decide +kernel
theorem dX8_wolves_22 : decode cX8_wolves 22 = .ok (.invokestatic 115, 3) := by decide +kernel
theorem dX8_wolves_25 : decode cX8_wolves 25 = .ok (.ifCond .eq 13, 3) := by decide +kernel
theorem dX8_wolves_28 : decode cX8_wolves 28 = .ok (.iload 4, 2) := by decide +kernel
theorem dX8_wolves_30 : decode cX8_wolves 30 = .ok (.iconst 0, 1) := by decide +kernel
theorem dX8_wolves_31 : decode cX8_wolves 31 = .ok (.iconst 1, 1) := by decide +kernel
theorem dX8_wolves_32 : decode cX8_wolves 32 = .ok (.invokestatic 115, 3) := by decide +kernel
theorem dX8_wolves_35 : decode cX8_wolves 35 = .ok (.ifCond .ne 5, 3) := by decide +kernel
theorem dX8_wolves_38 : decode cX8_wolves 38 = .ok (.iconst (-1), 1) := by decide +kernel
theorem dX8_wolves_39 : decode cX8_wolves 39 = .ok (.ireturn, 1) := by decide +kernel
theorem dX8_wolves_40 : decode cX8_wolves 40 = .ok (.aload_n 0, 1) := by decide +kernel
theorem dX8_wolves_41 : decode cX8_wolves 41 = .ok (.getfield 22, 3) := by decide +kernel
theorem dX8_wolves_44 : decode cX8_wolves 44 = .ok (.bipush 37, 2) := by decide +kernel
theorem dX8_wolves_46 : decode cX8_wolves 46 = .ok (.iload_n 1, 1) := by decide +kernel
theorem dX8_wolves_47 : decode cX8_wolves 47 = .ok (.iadd, 1) := by decide +kernel
theorem dX8_wolves_48 : decode cX8_wolves 48 = .ok (.iaload, 1) := by decide +kernel
theorem dX8_wolves_49 : decode cX8_wolves 49 = .ok (.bipush 36, 2) := by decide +kernel
theorem dX8_wolves_51 : decode cX8_wolves 51 = .ok (.if_icmp .ne 6, 3) := by decide +kernel
theorem dX8_wolves_54 : decode cX8_wolves 54 = .ok (.bipush (-2), 2) := by decide +kernel
theorem dX8_wolves_56 : decode cX8_wolves 56 = .ok (.ireturn, 1) := by decide +kernel
theorem dX8_wolves_57 : decode cX8_wolves 57 = .ok (.iconst 0, 1) := by decide +kernel
theorem dX8_wolves_58 : decode cX8_wolves 58 = .ok (.istore 5, 2) := by decide +kernel
theorem dX8_wolves_60 : decode cX8_wolves 60 = .ok (.iconst 1, 1) := by decide +kernel
theorem dX8_wolves_61 : decode cX8_wolves 61 = .ok (.istore 6, 2) := by decide +kernel
theorem dX8_wolves_63 : decode cX8_wolves 63 = .ok (.iconst 0, 1) := by decide +kernel
theorem dX8_wolves_64 : decode cX8_wolves 64 = .ok (.istore 7, 2) := by decide +kernel
theorem dX8_wolves_66 : decode cX8_wolves 66 = .ok (.iload 7, 2) := by decide +kernel
theorem dX8_wolves_68 : decode cX8_wolves 68 = .ok (.iload_n 2, 1) := by decide +kernel
theorem dX8_wolves_69 : decode cX8_wolves 69 = .ok (.if_icmp .ge 16, 3) := by decide +kernel
theorem dX8_wolves_72 : decode cX8_wolves 72 = .ok (.iload 6, 2) := by decide +kernel
theorem dX8_wolves_74 : decode cX8_wolves 74 = .ok (.bipush 10, 2) := by decide +kernel
theorem dX8_wolves_76 : decode cX8_wolves 76 = .ok (.imul, 1) := by decide +kernel
theorem dX8_wolves_77 : decode cX8_wolves 77 = .ok (.istore 6, 2) := by decide +kernel
theorem dX8_wolves_79 : decode cX8_wolves 79 = .ok (.iinc 7 1, 3) := by decide +kernel
theorem dX8_wolves_82 : decode cX8_wolves 82 = .ok (.goto (-16), 3) := by decide +kernel
theorem dX8_wolves_85 : decode cX8_wolves 85 = .ok (.iconst 0, 1) := by decide +kernel
theorem dX8_wolves_86 : decode cX8_wolves 86 = .ok (.istore 7, 2) := by decide +kernel
theorem dX8_wolves_88 : decode cX8_wolves 88 = .ok (.iload 7, 2) := by decide +kernel
theorem dX8_wolves_90 : decode cX8_wolves 90 = .ok (.iconst 1, 1) := by decide +kernel
theorem dX8_wolves_91 : decode cX8_wolves 91 = .ok (.iload_n 2, 1) := by decide +kernel
theorem dX8_wolves_92 : decode cX8_wolves 92 = .ok (.ishl, 1) := by decide +kernel
theorem dX8_wolves_93 : decode cX8_wolves 93 = .ok (.if_icmp .ge 101, 3) := by decide +kernel
theorem dX8_wolves_96 : decode cX8_wolves 96 = .ok (.iconst 1, 1) := by decide +kernel
theorem dX8_wolves_97 : decode cX8_wolves 97 = .ok (.istore 8, 2) := by decide +kernel
theorem dX8_wolves_99 : decode cX8_wolves 99 = .ok (.aload_n 0, 1) := by decide +kernel
theorem dX8_wolves_100 : decode cX8_wolves 100 = .ok (.invokevirtual 228, 3) := by decide +kernel
theorem dX8_wolves_103 : decode cX8_wolves 103 = .ok (.iconst 0, 1) := by decide +kernel
theorem dX8_wolves_104 : decode cX8_wolves 104 = .ok (.istore 9, 2) := by decide +kernel
theorem dX8_wolves_106 : decode cX8_wolves 106 = .ok (.iload 9, 2) := by decide +kernel
theorem dX8_wolves_108 : decode cX8_wolves 108 = .ok (.iload_n 2, 1) := by decide +kernel
theorem dX8_wolves_109 : decode cX8_wolves 109 = .ok (.if_icmp .ge 54, 3) := by decide +kernel
theorem dX8_wolves_112 : decode cX8_wolves 112 = .ok (.iload 8, 2) := by decide +kernel
theorem dX8_wolves_114 : decode cX8_wolves 114 = .ok (.iload 7, 2) := by decide +kernel
theorem dX8_wolves_116 : decode cX8_wolves 116 = .ok (.iload 9, 2) := by decide +kernel
theorem dX8_wolves_118 : decode cX8_wolves 118 = .ok (.invokestatic 181, 3) := by decide +kernel
theorem dX8_wolves_121 : decode cX8_wolves 121 = .ok (.ifCond .eq 7, 3) := by decide +kernel
theorem dX8_wolves_124 : decode cX8_wolves 124 = .ok (.iload_n 3, 1) := by decide +kernel
theorem dX8_wolves_125 : decode cX8_wolves 125 = .ok (.goto 7, 3) := by decide +kernel
theorem dX8_wolves_128 : decode cX8_wolves 128 = .ok (.bipush 10, 2) := by decide +kernel
theorem dX8_wolves_130 : decode cX8_wolves 130 = .ok (.iload_n 3, 1) := by decide +kernel
theorem dX8_wolves_131 : decode cX8_wolves 131 = .ok (.isub, 1) := by decide +kernel
theorem dX8_wolves_132 : decode cX8_wolves 132 = .ok (.imul, 1) := by decide +kernel
theorem dX8_wolves_133 : decode cX8_wolves 133 = .ok (.istore 8, 2) := by decide +kernel
theorem dX8_wolves_135 : decode cX8_wolves 135 = .ok (.aload_n 0, 1) := by decide +kernel
theorem dX8_wolves_136 : decode cX8_wolves 136 = .ok (.invokevirtual 216, 3) := by decide +kernel
theorem dX8_wolves_139 : decode cX8_wolves 139 = .ok (.iload 7, 2) := by decide +kernel
theorem dX8_wolves_141 : decode cX8_wolves 141 = .ok (.iload 9, 2) := by decide +kernel
theorem dX8_wolves_143 : decode cX8_wolves 143 = .ok (.invokestatic 181, 3) := by decide +kernel
theorem dX8_wolves_146 : decode cX8_wolves 146 = .ok (.ifCond .eq 7, 3) := by decide +kernel
theorem dX8_wolves_149 : decode cX8_wolves 149 = .ok (.aload_n 0, 1) := by decide +kernel
theorem dX8_wolves_150 : decode cX8_wolves 150 = .ok (.invokevirtual 289, 3) := by decide +kernel
theorem dX8_wolves_153 : decode cX8_wolves 153 = .ok (.aload_n 0, 1) := by decide +kernel
theorem dX8_wolves_154 : decode cX8_wolves 154 = .ok (.invokevirtual 219, 3) := by decide +kernel
theorem dX8_wolves_157 : decode cX8_wolves 157 = .ok (.iinc 9 1, 3) := by decide +kernel
theorem dX8_wolves_160 : decode cX8_wolves 160 = .ok (.goto (-54), 3) := by decide +kernel
theorem dX8_wolves_163 : decode cX8_wolves 163 = .ok (.iload 5, 2) := by decide +kernel
theorem dX8_wolves_165 : decode cX8_wolves 165 = .ok (.aload_n 0, 1) := by decide +kernel
theorem dX8_wolves_166 : decode cX8_wolves 166 = .ok (.getfield 55, 3) := by decide +kernel
theorem dX8_wolves_169 : decode cX8_wolves 169 = .ok (.bipush 37, 2) := by decide +kernel
theorem dX8_wolves_171 : decode cX8_wolves 171 = .ok (.iload_n 1, 1) := by decide +kernel
theorem dX8_wolves_172 : decode cX8_wolves 172 = .ok (.iadd, 1) := by decide +kernel
theorem dX8_wolves_173 : decode cX8_wolves 173 = .ok (.iaload, 1) := by decide +kernel
theorem dX8_wolves_174 : decode cX8_wolves 174 = .ok (.bipush 36, 2) := by decide +kernel
theorem dX8_wolves_176 : decode cX8_wolves 176 = .ok (.if_icmp .eq 8, 3) := by decide +kernel
theorem dX8_wolves_179 : decode cX8_wolves 179 = .ok (.iload 8, 2) := by decide +kernel
theorem dX8_wolves_181 : decode cX8_wolves 181 = .ok (.goto 4, 3) := by decide +kernel
theorem dX8_wolves_184 : decode cX8_wolves 184 = .ok (.iconst 0, 1) := by decide +kernel
theorem dX8_wolves_185 : decode cX8_wolves 185 = .ok (.iadd, 1) := by decide +kernel
theorem dX8_wolves_186 : decode cX8_wolves 186 = .ok (.istore 5, 2) := by decide +kernel
theorem dX8_wolves_188 : decode cX8_wolves 188 = .ok (.iinc 7 1, 3) := by decide +kernel
theorem dX8_wolves_191 : decode cX8_wolves 191 = .ok (.goto (-103), 3) := by decide +kernel
theorem dX8_wolves_194 : decode cX8_wolves 194 = .ok (.iload 5, 2) := by decide +kernel
theorem dX8_wolves_196 : decode cX8_wolves 196 = .ok (.iload 6, 2) := by decide +kernel
theorem dX8_wolves_198 : decode cX8_wolves 198 = .ok (.iload 4, 2) := by decide +kernel
theorem dX8_wolves_200 : decode cX8_wolves 200 = .ok (.invokestatic 292, 3) := by decide +kernel
theorem dX8_wolves_203 : decode cX8_wolves 203 = .ok (.ireturn, 1) := by decide +kernel
theorem dX8_season_0 : decode cX8_season 0 = .ok (.iload_n 1, 1) := by decide +kernel
theorem dX8_season_1 : decode cX8_season 1 = .ok (.iconst 0, 1) := by decide +kernel
theorem dX8_season_2 : decode cX8_season 2 = .ok (.sipush 9999, 3) := by decide +kernel
theorem dX8_season_5 : decode cX8_season 5 = .ok (.invokestatic 115, 3) := by decide +kernel
theorem dX8_season_8 : decode cX8_season 8 = .ok (.ifCond .eq 22, 3) := by decide +kernel
theorem dX8_season_11 : decode cX8_season 11 = .ok (.iload_n 2, 1) := by decide +kernel
theorem dX8_season_12 : decode cX8_season 12 = .ok (.iconst 1, 1) := by decide +kernel
theorem dX8_season_13 : decode cX8_season 13 = .ok (.bipush 60, 2) := by decide +kernel
theorem dX8_season_15 : decode cX8_season 15 = .ok (.invokestatic 115, 3) := by decide +kernel
theorem dX8_season_18 : decode cX8_season 18 = .ok (.ifCond .eq 12, 3) := by decide +kernel
theorem dX8_season_21 : decode cX8_season 21 = .ok (.iload_n 3, 1) := by decide +kernel
theorem dX8_season_22 : decode cX8_season 22 = .ok (.iconst 0, 1) := by decide +kernel
theorem dX8_season_23 : decode cX8_season 23 = .ok (.iconst 1, 1) := by decide +kernel
theorem dX8_season_24 : decode cX8_season 24 = .ok (.invokestatic 115, 3) := by decide +kernel
theorem dX8_season_27 : decode cX8_season 27 = .ok (.ifCond .ne 5, 3) := by decide +kernel
theorem dX8_season_30 : decode cX8_season 30 = .ok (.iconst (-1), 1) := by decide +kernel
theorem dX8_season_31 : decode cX8_season 31 = .ok (.ireturn, 1) := by decide +kernel
theorem dX8_season_32 : decode cX8_season 32 = .ok (.aload_n 0, 1) := by decide +kernel
theorem dX8_season_33 : decode cX8_season 33 = .ok (.invokevirtual 228, 3) := by decide +kernel
theorem dX8_season_36 : decode cX8_season 36 = .ok (.iconst 0, 1) := by decide +kernel
theorem dX8_season_37 : decode cX8_season 37 = .ok (.istore 4, 2) := by decide +kernel
theorem dX8_season_39 : decode cX8_season 39 = .ok (.iload 4, 2) := by decide +kernel
theorem dX8_season_41 : decode cX8_season 41 = .ok (.iload_n 2, 1) := by decide +kernel
theorem dX8_season_42 : decode cX8_season 42 = .ok (.if_icmp .ge 89, 3) := by decide +kernel
theorem dX8_season_45 : decode cX8_season 45 = .ok (.aload_n 0, 1) := by decide +kernel
theorem dX8_season_46 : decode cX8_season 46 = .ok (.invokevirtual 222, 3) := by decide +kernel
theorem dX8_season_49 : decode cX8_season 49 = .ok (.ifCond .ne 82, 3) := by decide +kernel
theorem dX8_season_52 : decode cX8_season 52 = .ok (.ldc2_w 296, 3) := by decide +kernel
theorem dX8_season_55 : decode cX8_season 55 = .ok (.iload_n 1, 1) := by decide +kernel
theorem dX8_season_56 : decode cX8_season 56 = .ok (.i2l, 1) := by decide +kernel
theorem dX8_season_57 : decode cX8_season 57 = .ok (.lmul, 1) := by decide +kernel
theorem dX8_season_58 : decode cX8_season 58 = .ok (.ldc2_w 298, 3) := by decide +kernel
theorem dX8_season_61 : decode cX8_season 61 = .ok (.iload 4, 2) := by decide +kernel
theorem dX8_season_63 : decode cX8_season 63 = .ok (.i2l, 1) := by decide +kernel
theorem dX8_season_64 : decode cX8_season 64 = .ok (.lmul, 1) := by decide +kernel
theorem dX8_season_65 : decode cX8_season 65 = .ok (.ladd, 1) := by decide +kernel
theorem dX8_season_66 : decode cX8_season 66 = .ok (.lconst 1, 1) := by decide +kernel
theorem dX8_season_67 : decode cX8_season 67 = .ok (.ladd, 1) := by decide +kernel
theorem dX8_season_68 : decode cX8_season 68 = .ok (.lstore 5, 2) := by decide +kernel
theorem dX8_season_70 : decode cX8_season 70 = .ok (.lload 5, 2) := by decide +kernel
theorem dX8_season_72 : decode cX8_season 72 = .ok (.lload 5, 2) := by decide +kernel
theorem dX8_season_74 : decode cX8_season 74 = .ok (.lmul, 1) := by decide +kernel
theorem dX8_season_75 : decode cX8_season 75 = .ok (.ldc2_w 300, 3) := by decide +kernel
theorem dX8_season_78 : decode cX8_season 78 = .ok (.lrem, 1) := by decide +kernel
theorem dX8_season_79 : decode cX8_season 79 = .ok (.l2i, 1) := by decide +kernel
theorem dX8_season_80 : decode cX8_season 80 = .ok (.istore 7, 2) := by decide +kernel
theorem dX8_season_82 : decode cX8_season 82 = .ok (.bipush 10, 2) := by decide +kernel
theorem dX8_season_84 : decode cX8_season 84 = .ok (.iload 7, 2) := by decide +kernel
theorem dX8_season_86 : decode cX8_season 86 = .ok (.bipush 8, 2) := by decide +kernel
theorem dX8_season_88 : decode cX8_season 88 = .ok (.idiv, 1) := by decide +kernel
theorem dX8_season_89 : decode cX8_season 89 = .ok (.aload_n 0, 1) := by decide +kernel
theorem dX8_season_90 : decode cX8_season 90 = .ok (.getfield 112, 3) := by decide +kernel
theorem dX8_season_93 : decode cX8_season 93 = .ok (.irem, 1) := by decide +kernel
theorem dX8_season_94 : decode cX8_season 94 = .ok (.imul, 1) := by decide +kernel
theorem dX8_season_95 : decode cX8_season 95 = .ok (.iload 7, 2) := by decide +kernel
theorem dX8_season_97 : decode cX8_season 97 = .ok (.bipush 64, 2) := by decide +kernel
theorem dX8_season_99 : decode cX8_season 99 = .ok (.idiv, 1) := by decide +kernel
theorem dX8_season_100 : decode cX8_season 100 = .ok (.iconst 4, 1) := by decide +kernel
theorem dX8_season_101 : decode cX8_season 101 = .ok (.irem, 1) := by decide +kernel
theorem dX8_season_102 : decode cX8_season 102 = .ok (.iadd, 1) := by decide +kernel
theorem dX8_season_103 : decode cX8_season 103 = .ok (.istore 8, 2) := by decide +kernel
theorem dX8_season_105 : decode cX8_season 105 = .ok (.aload_n 0, 1) := by decide +kernel
theorem dX8_season_106 : decode cX8_season 106 = .ok (.aload_n 0, 1) := by decide +kernel
theorem dX8_season_107 : decode cX8_season 107 = .ok (.iload 8, 2) := by decide +kernel
theorem dX8_season_109 : decode cX8_season 109 = .ok (.invokevirtual 243, 3) := by decide +kernel
theorem dX8_season_112 : decode cX8_season 112 = .ok (.ifCond .eq 8, 3) := by decide +kernel
theorem dX8_season_115 : decode cX8_season 115 = .ok (.iload 8, 2) := by decide +kernel
theorem dX8_season_117 : decode cX8_season 117 = .ok (.goto 5, 3) := by decide +kernel
theorem dX8_season_120 : decode cX8_season 120 = .ok (.bipush 99, 2) := by decide +kernel
theorem dX8_season_122 : decode cX8_season 122 = .ok (.invokevirtual 240, 3) := by decide +kernel
theorem dX8_season_125 : decode cX8_season 125 = .ok (.iinc 4 1, 3) := by decide +kernel
theorem dX8_season_128 : decode cX8_season 128 = .ok (.goto (-89), 3) := by decide +kernel
theorem dX8_season_131 : decode cX8_season 131 = .ok (.iload_n 3, 1) := by decide +kernel
theorem dX8_season_132 : decode cX8_season 132 = .ok (.ifCond .ne 13, 3) := by decide +kernel
theorem dX8_season_135 : decode cX8_season 135 = .ok (.bipush 100, 2) := by decide +kernel
theorem dX8_season_137 : decode cX8_season 137 = .ok (.aload_n 0, 1) := by decide +kernel
theorem dX8_season_138 : decode cX8_season 138 = .ok (.invokevirtual 273, 3) := by decide +kernel
theorem dX8_season_141 : decode cX8_season 141 = .ok (.iadd, 1) := by decide +kernel
theorem dX8_season_142 : decode cX8_season 142 = .ok (.goto 14, 3) := by decide +kernel
theorem dX8_season_145 : decode cX8_season 145 = .ok (.aload_n 0, 1) := by decide +kernel
theorem dX8_season_146 : decode cX8_season 146 = .ok (.iconst 0, 1) := by decide +kernel
theorem dX8_season_147 : decode cX8_season 147 = .ok (.invokevirtual 267, 3) := by decide +kernel
theorem dX8_season_150 : decode cX8_season 150 = .ok (.aload_n 0, 1) := by decide +kernel
theorem dX8_season_151 : decode cX8_season 151 = .ok (.iconst 1, 1) := by decide +kernel
theorem dX8_season_152 : decode cX8_season 152 = .ok (.invokevirtual 267, 3) := by decide +kernel
theorem dX8_season_155 : decode cX8_season 155 = .ok (.iadd, 1) := by decide +kernel
theorem dX8_season_156 : decode cX8_season 156 = .ok (.ireturn, 1) := by decide +kernel
theorem dX8_keep_0 : decode cX8_keep 0 = .ok (.aload_n 0, 1) := by decide +kernel
theorem dX8_keep_1 : decode cX8_keep 1 = .ok (.getfield 178, 3) := by decide +kernel
theorem dX8_keep_4 : decode cX8_keep 4 = .ok (.iconst 2, 1) := by decide +kernel
theorem dX8_keep_5 : decode cX8_keep 5 = .ok (.if_icmp .ne 6, 3) := by decide +kernel
theorem dX8_keep_8 : decode cX8_keep 8 = .ok (.bipush (-3), 2) := by decide +kernel
theorem dX8_keep_10 : decode cX8_keep 10 = .ok (.ireturn, 1) := by decide +kernel
theorem dX8_keep_11 : decode cX8_keep 11 = .ok (.aload_n 0, 1) := by decide +kernel
theorem dX8_keep_12 : decode cX8_keep 12 = .ok (.getfield 31, 3) := by decide +kernel
theorem dX8_keep_15 : decode cX8_keep 15 = .ok (.bipush 54, 2) := by decide +kernel
theorem dX8_keep_17 : decode cX8_keep 17 = .ok (.aload_n 0, 1) := by decide +kernel
theorem dX8_keep_18 : decode cX8_keep 18 = .ok (.getfield 178, 3) := by decide +kernel
theorem dX8_keep_21 : decode cX8_keep 21 = .ok (.imul, 1) := by decide +kernel
theorem dX8_keep_22 : decode cX8_keep 22 = .ok (.aload_n 0, 1) := by decide +kernel
theorem dX8_keep_23 : decode cX8_keep 23 = .ok (.getfield 22, 3) := by decide +kernel
theorem dX8_keep_26 : decode cX8_keep 26 = .ok (.iconst 0, 1) := by decide +kernel
theorem dX8_keep_27 : decode cX8_keep 27 = .ok (.bipush 54, 2) := by decide +kernel
theorem dX8_keep_29 : decode cX8_keep 29 = .ok (.invokestatic 162, 3) := by decide +kernel
theorem dX8_keep_32 : decode cX8_keep 32 = .ok (.aload_n 0, 1) := by decide +kernel
theorem dX8_keep_33 : decode cX8_keep 33 = .ok (.dup, 1) := by decide +kernel
theorem dX8_keep_34 : decode cX8_keep 34 = .ok (.getfield 178, 3) := by decide +kernel
theorem dX8_keep_37 : decode cX8_keep 37 = .ok (.iconst 1, 1) := by decide +kernel
theorem dX8_keep_38 : decode cX8_keep 38 = .ok (.iadd, 1) := by decide +kernel
theorem dX8_keep_39 : decode cX8_keep 39 = .ok (.putfield 178, 3) := by decide +kernel
theorem dX8_keep_42 : decode cX8_keep 42 = .ok (.aload_n 0, 1) := by decide +kernel
theorem dX8_keep_43 : decode cX8_keep 43 = .ok (.getfield 178, 3) := by decide +kernel
theorem dX8_keep_46 : decode cX8_keep 46 = .ok (.ireturn, 1) := by decide +kernel
theorem dX8_back_0 : decode cX8_back 0 = .ok (.aload_n 0, 1) := by decide +kernel
theorem dX8_back_1 : decode cX8_back 1 = .ok (.getfield 178, 3) := by decide +kernel
theorem dX8_back_4 : decode cX8_back 4 = .ok (.ifCond .ne 6, 3) := by decide +kernel
theorem dX8_back_7 : decode cX8_back 7 = .ok (.bipush (-2), 2) := by decide +kernel
theorem dX8_back_9 : decode cX8_back 9 = .ok (.ireturn, 1) := by decide +kernel
theorem dX8_back_10 : decode cX8_back 10 = .ok (.aload_n 0, 1) := by decide +kernel
theorem dX8_back_11 : decode cX8_back 11 = .ok (.dup, 1) := by decide +kernel
theorem dX8_back_12 : decode cX8_back 12 = .ok (.getfield 178, 3) := by decide +kernel
theorem dX8_back_15 : decode cX8_back 15 = .ok (.iconst 1, 1) := by decide +kernel
theorem dX8_back_16 : decode cX8_back 16 = .ok (.isub, 1) := by decide +kernel
theorem dX8_back_17 : decode cX8_back 17 = .ok (.putfield 178, 3) := by decide +kernel
theorem dX8_back_20 : decode cX8_back 20 = .ok (.aload_n 0, 1) := by decide +kernel
theorem dX8_back_21 : decode cX8_back 21 = .ok (.getfield 22, 3) := by decide +kernel
theorem dX8_back_24 : decode cX8_back 24 = .ok (.iconst 0, 1) := by decide +kernel
theorem dX8_back_25 : decode cX8_back 25 = .ok (.aload_n 0, 1) := by decide +kernel
theorem dX8_back_26 : decode cX8_back 26 = .ok (.getfield 31, 3) := by decide +kernel
theorem dX8_back_29 : decode cX8_back 29 = .ok (.bipush 54, 2) := by decide +kernel
theorem dX8_back_31 : decode cX8_back 31 = .ok (.aload_n 0, 1) := by decide +kernel
theorem dX8_back_32 : decode cX8_back 32 = .ok (.getfield 178, 3) := by decide +kernel
theorem dX8_back_35 : decode cX8_back 35 = .ok (.imul, 1) := by decide +kernel
theorem dX8_back_36 : decode cX8_back 36 = .ok (.bipush 54, 2) := by decide +kernel
theorem dX8_back_38 : decode cX8_back 38 = .ok (.invokestatic 162, 3) := by decide +kernel
theorem dX8_back_41 : decode cX8_back 41 = .ok (.aload_n 0, 1) := by decide +kernel
theorem dX8_back_42 : decode cX8_back 42 = .ok (.iconst 0, 1) := by decide +kernel
theorem dX8_back_43 : decode cX8_back 43 = .ok (.putfield 175, 3) := by decide +kernel
theorem dX8_back_46 : decode cX8_back 46 = .ok (.aload_n 0, 1) := by decide +kernel
theorem dX8_back_47 : decode cX8_back 47 = .ok (.getfield 178, 3) := by decide +kernel
theorem dX8_back_50 : decode cX8_back 50 = .ok (.ireturn, 1) := by decide +kernel
theorem dX8_count_0 : decode cX8_count 0 = .ok (.aload_n 0, 1) := by decide +kernel
theorem dX8_count_1 : decode cX8_count 1 = .ok (.invokevirtual 228, 3) := by decide +kernel
theorem dX8_count_4 : decode cX8_count 4 = .ok (.iload_n 1, 1) := by decide +kernel
theorem dX8_count_5 : decode cX8_count 5 = .ok (.tableswitch 165 0 12 #[67, 72, 77, 82, 89, 95, 101, 109, 114, 145, 150, 155, 160], 67) := by decide +kernel
theorem dX8_count_72 : decode cX8_count 72 = .ok (.aload_n 0, 1) := by decide +kernel
theorem dX8_count_73 : decode cX8_count 73 = .ok (.getfield 119, 3) := by decide +kernel
theorem dX8_count_76 : decode cX8_count 76 = .ok (.ireturn, 1) := by decide +kernel
theorem dX8_count_77 : decode cX8_count 77 = .ok (.aload_n 0, 1) := by decide +kernel
theorem dX8_count_78 : decode cX8_count 78 = .ok (.getfield 159, 3) := by decide +kernel
theorem dX8_count_81 : decode cX8_count 81 = .ok (.ireturn, 1) := by decide +kernel
theorem dX8_count_82 : decode cX8_count 82 = .ok (.aload_n 0, 1) := by decide +kernel
theorem dX8_count_83 : decode cX8_count 83 = .ok (.getfield 112, 3) := by decide +kernel
theorem dX8_count_86 : decode cX8_count 86 = .ok (.ireturn, 1) := by decide +kernel
theorem dX8_count_87 : decode cX8_count 87 = .ok (.aload_n 0, 1) := by decide +kernel
theorem dX8_count_88 : decode cX8_count 88 = .ok (.getfield 22, 3) := by decide +kernel
theorem dX8_count_91 : decode cX8_count 91 = .ok (.iconst 0, 1) := by decide +kernel
theorem dX8_count_92 : decode cX8_count 92 = .ok (.iaload, 1) := by decide +kernel
theorem dX8_count_93 : decode cX8_count 93 = .ok (.ireturn, 1) := by decide +kernel
theorem dX8_count_94 : decode cX8_count 94 = .ok (.aload_n 0, 1) := by decide +kernel
theorem dX8_count_95 : decode cX8_count 95 = .ok (.iconst 0, 1) := by decide +kernel
theorem dX8_count_96 : decode cX8_count 96 = .ok (.invokevirtual 267, 3) := by decide +kernel
theorem dX8_count_99 : decode cX8_count 99 = .ok (.ireturn, 1) := by decide +kernel
theorem dX8_count_100 : decode cX8_count 100 = .ok (.aload_n 0, 1) := by decide +kernel
theorem dX8_count_101 : decode cX8_count 101 = .ok (.iconst 1, 1) := by decide +kernel
theorem dX8_count_102 : decode cX8_count 102 = .ok (.invokevirtual 267, 3) := by decide +kernel
theorem dX8_count_105 : decode cX8_count 105 = .ok (.ireturn, 1) := by decide +kernel
theorem dX8_count_106 : decode cX8_count 106 = .ok (.bipush 100, 2) := by decide +kernel
theorem dX8_count_108 : decode cX8_count 108 = .ok (.aload_n 0, 1) := by decide +kernel
theorem dX8_count_109 : decode cX8_count 109 = .ok (.invokevirtual 273, 3) := by decide +kernel
theorem dX8_count_112 : decode cX8_count 112 = .ok (.iadd, 1) := by decide +kernel
theorem dX8_count_113 : decode cX8_count 113 = .ok (.ireturn, 1) := by decide +kernel
theorem dX8_count_114 : decode cX8_count 114 = .ok (.aload_n 0, 1) := by decide +kernel
theorem dX8_count_115 : decode cX8_count 115 = .ok (.invokevirtual 222, 3) := by decide +kernel
theorem dX8_count_118 : decode cX8_count 118 = .ok (.ireturn, 1) := by decide +kernel
theorem dX8_count_119 : decode cX8_count 119 = .ok (.iconst 0, 1) := by decide +kernel
theorem dX8_count_120 : decode cX8_count 120 = .ok (.istore_n 2, 1) := by decide +kernel
theorem dX8_count_121 : decode cX8_count 121 = .ok (.iconst 0, 1) := by decide +kernel
theorem dX8_count_122 : decode cX8_count 122 = .ok (.istore_n 3, 1) := by decide +kernel
theorem dX8_count_123 : decode cX8_count 123 = .ok (.iload_n 3, 1) := by decide +kernel
theorem dX8_count_124 : decode cX8_count 124 = .ok (.aload_n 0, 1) := by decide +kernel
theorem dX8_count_125 : decode cX8_count 125 = .ok (.getfield 119, 3) := by decide +kernel
theorem dX8_count_128 : decode cX8_count 128 = .ok (.if_icmp .ge 20, 3) := by decide +kernel
theorem dX8_count_131 : decode cX8_count 131 = .ok (.iload_n 2, 1) := by decide +kernel
theorem dX8_count_132 : decode cX8_count 132 = .ok (.aload_n 0, 1) := by decide +kernel
theorem dX8_count_133 : decode cX8_count 133 = .ok (.getfield 22, 3) := by decide +kernel
theorem dX8_count_136 : decode cX8_count 136 = .ok (.iconst 1, 1) := by decide +kernel
theorem dX8_count_137 : decode cX8_count 137 = .ok (.iload_n 3, 1) := by decide +kernel
theorem dX8_count_138 : decode cX8_count 138 = .ok (.iadd, 1) := by decide +kernel
theorem dX8_count_139 : decode cX8_count 139 = .ok (.iaload, 1) := by decide +kernel
theorem dX8_count_140 : decode cX8_count 140 = .ok (.iadd, 1) := by decide +kernel
theorem dX8_count_141 : decode cX8_count 141 = .ok (.istore_n 2, 1) := by decide +kernel
theorem dX8_count_142 : decode cX8_count 142 = .ok (.iinc 3 1, 3) := by decide +kernel
theorem dX8_count_145 : decode cX8_count 145 = .ok (.goto (-22), 3) := by decide +kernel
theorem dX8_count_148 : decode cX8_count 148 = .ok (.iload_n 2, 1) := by decide +kernel
theorem dX8_count_149 : decode cX8_count 149 = .ok (.ireturn, 1) := by decide +kernel
theorem dX8_count_150 : decode cX8_count 150 = .ok (.aload_n 0, 1) := by decide +kernel
theorem dX8_count_151 : decode cX8_count 151 = .ok (.getfield 169, 3) := by decide +kernel
theorem dX8_count_154 : decode cX8_count 154 = .ok (.ireturn, 1) := by decide +kernel
theorem dX8_count_155 : decode cX8_count 155 = .ok (.aload_n 0, 1) := by decide +kernel
theorem dX8_count_156 : decode cX8_count 156 = .ok (.getfield 175, 3) := by decide +kernel
theorem dX8_count_159 : decode cX8_count 159 = .ok (.ireturn, 1) := by decide +kernel
theorem dX8_count_160 : decode cX8_count 160 = .ok (.aload_n 0, 1) := by decide +kernel
theorem dX8_count_161 : decode cX8_count 161 = .ok (.getfield 178, 3) := by decide +kernel
theorem dX8_count_164 : decode cX8_count 164 = .ok (.ireturn, 1) := by decide +kernel
theorem dX8_count_165 : decode cX8_count 165 = .ok (.aload_n 0, 1) := by decide +kernel
theorem dX8_count_166 : decode cX8_count 166 = .ok (.getfield 122, 3) := by decide +kernel
theorem dX8_count_169 : decode cX8_count 169 = .ok (.ireturn, 1) := by decide +kernel
theorem dX8_count_170 : decode cX8_count 170 = .ok (.iconst (-1), 1) := by decide +kernel
theorem dX8_count_171 : decode cX8_count 171 = .ok (.ireturn, 1) := by decide +kernel
end
section
/-! THE ONE WORLD: cell c of the system lies at base + c; sh: its kind and length; R: what its reference slots hold (cells), σ: its int slots. -/
def shl : List (Nat × Nat) := [(7, 0), (1, 0), (9, 8), (9, 9), (5, 0), (9, 200), (1, 0), (9, 8), (9, 9), (2, 0), (9, 36), (9, 8), (9, 8), (9, 8), (2, 0), (9, 36), (9, 8), (9, 8), (9, 8), (2, 0), (9, 36), (9, 8), (9, 8), (9, 8), (3, 0), (9, 8), (4, 0), (2, 0), (9, 36), (9, 8), (9, 8), (9, 8), (11, 8), (2, 0), (9, 36), (9, 8), (9, 8), (9, 8), (2, 0), (9, 36), (9, 8), (9, 8), (9, 8), (2, 0), (9, 36), (9, 8), (9, 8), (9, 8), (2, 0), (9, 36), (9, 8), (9, 8), (9, 8), (2, 0), (9, 36), (9, 8), (9, 8), (9, 8), (2, 0), (9, 36), (9, 8), (9, 8), (9, 8), (2, 0), (9, 36), (9, 8), (9, 8), (9, 8), (4, 0), (2, 0), (9, 36), (9, 8), (9, 8), (9, 8), (11, 2), (2, 0), (9, 36), (9, 8), (9, 8), (9, 8), (6, 0), (9, 72), (9, 72), (9, 72), (9, 72), (9, 72), (10, 72), (2, 0), (9, 36), (9, 8), (9, 8), (9, 8), (0, 0), (9, 5), (4, 0), (2, 0), (9, 36), (9, 8), (9, 8), (9, 8), (11, 9), (2, 0), (9, 36), (9, 8), (9, 8), (9, 8), (2, 0), (9, 36), (9, 8), (9, 8), (9, 8), (2, 0), (9, 36), (9, 8), (9, 8), (9, 8), (2, 0), (9, 36), (9, 8), (9, 8), (9, 8), (2, 0), (9, 36), (9, 8), (9, 8), (9, 8), (2, 0), (9, 36), (9, 8), (9, 8), (9, 8), (2, 0), (9, 36), (9, 8), (9, 8), (9, 8), (2, 0), (9, 36), (9, 8), (9, 8), (9, 8), (8, 0), (9, 36), (9, 8), (9, 8), (9, 9), (9, 54), (9, 432), (9, 8), (9, 108), (9, 200), (9, 3), (9, 36), (9, 8), (9, 8), (9, 8), (9, 9), (9, 54), (9, 72), (9, 72), (9, 72), (9, 72), (9, 324), (9, 6), (9, 6)]
def sh (c : Nat) : Nat × Nat := shl.getD c (12, 0)
abbrev NT : Nat := 165
def nfl : List Nat := [5, 9, 6, 5, 2, 5, 8, 9, 41]
def nf (k : Nat) : Nat := nfl.getD k 0
def irl : List (List Bool) := [[true, true, true, false, false], [false, false, false, false, false, false, false, true, true], [true, true, true, true, true, false], [true, true, true, false, false], [true, true], [true, true, true, false, false], [true, true, true, true, true, true, true, false], [true, true, true, true, true, true, true, true, false], [false, false, true, false, true, true, false, false, false, true, true, false, true, true, false, true, true, false, false, true, false, false, true, false, true, true, true, false, false, false, true, true, false, true, true, true, true, false, true, true, true]]
def isr (k j : Nat) : Bool := (irl.getD k []).getD j false
def rtl : List (List (Option Nat)) := [[some 1, some 4, some 14, some 19, some 24, some 68, some 80, some 92], [none, none, none, none, none, none, none, some 2, some 3], [], [], [some 5, some 6, some 9], [], [none, none, none, none, none, none, none, some 7, some 8], [], [], [some 6, some 10, some 11, some 12, some 13], [], [], [], [], [some 1, some 15, some 16, some 17, some 18], [], [], [], [], [some 1, some 20, some 21, some 22, some 23], [], [], [], [], [some 1, some 26, some 25], [], [some 27, some 32], [some 1, some 28, some 29, some 30, some 31], [], [], [], [], [some 27, some 33, some 38, some 43, some 48, some 53, some 58, some 63], [some 1, some 34, some 35, some 36, some 37], [], [], [], [], [some 1, some 39, some 40, some 41, some 42], [], [], [], [], [some 1, some 44, some 45, some 46, some 47], [], [], [], [], [some 1, some 49, some 50, some 51, some 52], [], [], [], [], [some 1, some 54, some 55, some 56, some 57], [], [], [], [], [some 1, some 59, some 60, some 61, some 62], [], [], [], [], [some 1, some 64, some 65, some 66, some 67], [], [], [], [], [some 69, some 74], [some 1, some 70, some 71, some 72, some 73], [], [], [], [], [some 69, some 75], [some 1, some 76, some 77, some 78, some 79], [], [], [], [], [some 87, some 81, some 82, some 83, some 84, some 85, some 86], [], [], [], [], [], [], [some 1, some 88, some 89, some 90, some 91], [], [], [], [], [some 1, some 94, some 93], [], [some 95, some 100], [some 1, some 96, some 97, some 98, some 99], [], [], [], [], [some 95, some 101, some 106, some 111, some 116, some 121, some 126, some 131, some 136], [some 1, some 102, some 103, some 104, some 105], [], [], [], [], [some 1, some 107, some 108, some 109, some 110], [], [], [], [], [some 1, some 112, some 113, some 114, some 115], [], [], [], [], [some 1, some 117, some 118, some 119, some 120], [], [], [], [], [some 1, some 122, some 123, some 124, some 125], [], [], [], [], [some 1, some 127, some 128, some 129, some 130], [], [], [], [], [some 1, some 132, some 133, some 134, some 135], [], [], [], [], [some 1, some 137, some 138, some 139, some 140], [], [], [], [], [none, none, some 142, none, some 143, some 144, none, none, none, some 145, some 146, none, some 147, some 148, none, some 149, some 150, none, none, some 151, none, none, some 152, none, some 153, some 154, some 155, none, none, none, some 156, some 157, none, some 158, some 159, some 160, some 161, none, some 162, some 163, some 164], [], [], [], [], [], [], [], [], [], [], [], [], [], [], [], [], [], [], [], [], [], [], []]
def R0 (c k : Nat) : Option Nat := (rtl.getD c []).getD k none
abbrev cls : List vw_C := [(RX0, TX0, 5), (RX1, TX1, 9), (RX2, TX2, 6), (RX3, TX3, 5), (RX4, TX4, 2), (RX5, TX5, 5), (RX6, TX6, 8), (RX7, TX7, 9), (RX8, TX8, 41)]
abbrev Sg : Type := Nat → Nat → Int32
abbrev Rg : Type := Nat → Nat → Option Nat
def up (σ : Sg) (c k : Nat) (v : Int32) : Sg := fun a j => if a = c ∧ j = k then v else σ a j
def upr (R : Rg) (c k : Nat) (v : Option Nat) : Rg := fun a j => if a = c ∧ j = k then v else R a j
def csz (c : Nat) : Nat := if (sh c).1 < 9 then nf (sh c).1 else (sh c).2
def szs : Nat → Nat
  | 0 => 0
  | n + 1 => szs n + csz n
theorem szs_le {a b : Nat} (h : a ≤ b) : szs a ≤ szs b := by
  induction h with
  | refl => exact Nat.le_refl _
  | step _ ih => exact Nat.le_trans ih (Nat.le_add_right _ _)
def cv (bt : Nat × (Nat → Nat)) (v : Value) : Value := match v with
  | .ref c => .ref (bt.1 + c)
  | .retAddr k => .ref (bt.2 k)
  | v => v
theorem cv_cat (base : Nat × (Nat → Nat)) (v : Value) : (cv base v).category = v.category := by cases v <;> rfl
def fv (base : Nat) (R : Rg) (σ : Sg) (c j : Nat) : Value := if isr (sh c).1 j = true then va_rf ((R c j).map (fun d => base + d)) else .int (σ c j)
abbrev CG : Type := ClassId × ClassId × ClassId
def cE (g : CG) (base : Nat) (R : Rg) (σ : Sg) (c : Nat) : va_E :=
  if (sh c).1 < 9 then .inr ((sh c).1, (List.range (nf (sh c).1)).map (fv base R σ c))
  else if (sh c).1 = 9 then .inl (g.1, (sh c).2, .inl (σ c))
  else if (sh c).1 = 10 then .inl (g.2.1, (sh c).2, .inl (σ c))
  else .inl (g.2.2, (sh c).2, .inr (.inr (.inr (.inr (fun j => (R c j).map (fun d => base + d))))))
def WD (D : va_G) (g : CG) (base n : Nat) (R : Rg) (σ : Sg) (H : Heap) : Prop := H.size = base + n ∧ ∀ c, c < n → va_at D cls (base + c, cE g base R σ c) H
def wT : List Cond := lw_tbl.filter goodWord
theorem wT_sub {w : Cond} (h : w ∈ wT) : w ∈ lw_tbl := (List.mem_filter.mp h).1
theorem wTi {w : Cond} (i : Nat) (h : lw_tbl[i]? = some w) (hg : goodWord w = true) : w ∈ wT := List.mem_filter.mpr ⟨List.mem_of_getElem? h, hg⟩
theorem gT {ws : List Cond} (h : ∀ w ∈ ws, w ∈ wT) : GoodIn wT ws := fun w hw => ⟨h w hw, good_of_word (List.mem_filter.mp (h w hw)).2⟩
/-- own class, code, locals, return type, depth of calls -/
abbrev MT : Type := String × ByteArray × Nat × Option FieldType × Nat
def roomOf (d n0 n1 : Nat) : Room := { frames := d, cells := n1 - n0, slots := szs n1 - szs n0, locals := 100 * d }
def wsI : Nat → Int32 := fun j => match j with
  | 0 => 5
  | 1 => 3
  | 2 => 1
  | _ => 20
def worths : Nat → Value := fun j => .int (wsI j)
def nestW : List Cond := [.fieldLinkNest "SheepChess$Meadow" 136 "SheepChess" "WORTHS" "[I" "SheepChess", .methodLinkNest "SheepChess$Sheet" 89 ⟨"SheepChess", "isVillage", "(I)Z"⟩ "SheepChess", .methodLinkNest "SheepChess" 9 ⟨"SheepChess$Land", "<init>", "()V"⟩ "SheepChess", .methodLinkNest "SheepChess" 18 ⟨"SheepChess$Sheet", "<init>", "()V"⟩ "SheepChess", .methodLinkNest "SheepChess$Sheet" 17 ⟨"SheepChess$Land", "<init>", "()V"⟩ "SheepChess"]
theorem nest_warm {s U : State} (hW : s.WarmedH U.vm) (h : ∀ w ∈ nestW, va_Nw w s) : ∀ w ∈ nestW, va_Nw w U := by
  simp only [nestW, List.forall_mem_cons] at h ⊢
  exact ⟨va_Nw.warmF hW h.1, va_Nw.warmM hW h.2.1, va_Nw.warmM hW h.2.2.1, va_Nw.warmM hW h.2.2.2.1, va_Nw.warmM hW h.2.2.2.2.1, fun _ z => absurd z List.not_mem_nil⟩
theorem nest_same {s U : State} (hv : s.vm = U.vm) (h : ∀ w ∈ nestW, va_Nw w s) : ∀ w ∈ nestW, va_Nw w U := by
  simp only [nestW, List.forall_mem_cons] at h ⊢
  exact ⟨va_Nw.same rfl hv h.1, va_Nw.same rfl hv h.2.1, va_Nw.same rfl hv h.2.2.1, va_Nw.same rfl hv h.2.2.2.1, va_Nw.same rfl hv h.2.2.2.2.1, fun _ z => absurd z List.not_mem_nil⟩
def firstT : String := "r01203;r30092;r00410;r29000;r00130;b0,0,22;b1,0,20;b2,0,21;b3,0,24;b0,1,2;b1,1,4;b2,1,1;b3,1,0;w7;h3;s0;s0;s0;s1;"
def firstB : List Int32 := [114, 48, 49, 50, 48, 51, 59, 114, 51, 48, 48, 57, 50, 59, 114, 48, 48, 52, 49, 48, 59, 114, 50, 57, 48, 48, 48, 59, 114, 48, 48, 49, 51, 48, 59, 98, 48, 44, 48, 44, 50, 50, 59, 98, 49, 44, 48, 44, 50, 48, 59, 98, 50, 44, 48, 44, 50, 49, 59, 98, 51, 44, 48, 44, 50, 52, 59, 98, 48, 44, 49, 44, 50, 59, 98, 49, 44, 49, 44, 52, 59, 98, 50, 44, 49, 44, 49, 59, 98, 51, 44, 49, 44, 48, 59, 119, 55, 59, 104, 51, 59, 115, 48, 59, 115, 48, 59, 115, 48, 59, 115, 49, 59]
/-- the text at first: a String outside of our cells: ext 2, its bytes: ext 3 -/
def SF (ext : Nat → Nat) (base : Nat) (U : State) (H : Heap) : Prop := va_Z "java/lang/String" "COMPACT_STRINGS" "Z" (.int 1) (fun q => base ≤ q) U H ∧ vk_R "SheepChess" 69 firstT (ext 2) U ∧ va_O "java/lang/String" (ext 2) (fun q => base ≤ q) U H ∧ va_OF "java/lang/String" "coder" "B" (.int 0) (ext 2) (fun q => base ≤ q) U H ∧ va_OF "java/lang/String" "value" "[B" (.ref (ext 3)) (ext 2) (fun q => base ≤ q) U H ∧ va_T .byte (ext 3) 113 (fun j => .int (firstB.getD j 0)) (fun q => base ≤ q) U H
theorem SF.moved {ext : Nat → Nat} {base : Nat} {u U : State} {H H1 : Heap} (hW : u.WarmedH U.vm) (h : SF ext base u H) (hq : ∀ a : Nat, a < H.size → ¬ base ≤ a → H1[a]? = H[a]?) : SF ext base U H1 :=
  ⟨(va_Z.moved hW.alike h.1).kept hq, vk_R.warm hW h.2.1, (va_O.moved hW.alike h.2.2.1).kept hq, (va_OF.moved hW.alike h.2.2.2.1).kept hq, (va_OF.moved hW.alike h.2.2.2.2.1).kept hq, (va_T.moved hW.alike h.2.2.2.2.2).kept hq⟩
/-- what the tables say of the classes; the static table (ext 0) -/
def KS (D : va_G) (g : CG) (ext : Nat → Nat) (base : Nat) (U : State) (H : Heap) : Prop := va_K D cls [(g.1, .int), (g.2.1, .boolean), (g.2.2, .object RX2)] U ∧ va_Z "SheepChess" "WORTHS" "[I" (.ref (ext 0)) (fun q => base ≤ q) U H ∧ va_T .int (ext 0) 4 worths (fun q => base ≤ q) U H ∧ (∀ w ∈ nestW, va_Nw w U) ∧ SF ext base U H
theorem KS.moved {D : va_G} {g : CG} {ext : Nat → Nat} {base : Nat} {u U : State} {H H1 : Heap} (hW : u.WarmedH U.vm) (h : KS D g ext base u H) (hq : ∀ a : Nat, a < H.size → ¬ base ≤ a → H1[a]? = H[a]?) : KS D g ext base U H1 :=
  ⟨va_K.moved hW.alike h.1, (va_Z.moved hW.alike h.2.1).kept hq, (va_T.moved hW.alike h.2.2.1).kept hq, nest_warm hW h.2.2.2.1, SF.moved hW h.2.2.2.2 hq⟩
theorem KS.same {D : va_G} {g : CG} {ext : Nat → Nat} {base : Nat} {u U : State} {H : Heap} (hv : u.vm = U.vm) (h : KS D g ext base u H) : KS D g ext base U H :=
  have ha : u.vm.Alike U.vm := by rw [hv]; exact Vm.Alike.refl U.vm
  have f := h.2.2.2.2
  ⟨va_K.moved ha h.1, va_Z.moved ha h.2.1, va_T.moved ha h.2.2.1, nest_same hv h.2.2.2.1, va_Z.moved ha f.1, vk_R.same hv.symm f.2.1, va_O.moved ha f.2.2.1, va_OF.moved ha f.2.2.2.1, va_OF.moved ha f.2.2.2.2.1, va_T.moved ha f.2.2.2.2.2⟩
/-- what a method must come to: its answer, and the world then -/
abbrev TT : Type := Option Value × Nat × Rg × Sg
def QC (D : va_G) (g : CG) (base : Nat) (ext : Nat → Nat) (T : TT) : Array Value → State → Outcome → State → Prop := fun _ st oc t =>
  (oc = .returned (T.1.map (cv (base, ext))) ∧ WD D g base T.2.1 T.2.2.1 T.2.2.2 t.heap) ∧ va_F (fun q => base ≤ q) st t
def AMc (y : MethodName) (M : MT) (av : List Value) (n : Nat) (R : Rg) (σ : Sg) (T : TT) : Prop := ∀ (l : Launch) (D : va_G) (g : CG) (ext : Nat → Nat) (base : Nat),
  Met l y (.code y M.2.1 M.2.2.1 M.2.2.2.1 :: wT) (roomOf M.2.2.2.2 n T.2.1) (va_Pc (av.map (cv (base, ext))) (fun U => WD D g base n R σ U.heap ∧ KS D g ext base U U.heap)) (QC D g base ext T) (T.2.1 - n) (szs T.2.1 - szs n) (fun q => base ≤ q)
/-- locals by their places -/
def lvA (base : Nat × (Nat → Nat)) : Nat → List (Option Value) → List (Nat × Value)
  | _, [] => []
  | k, none :: r => lvA base (k + 1) r
  | k, some v :: r => (k, cv base v) :: lvA base (k + 1) r
theorem lvA_mem {base : Nat × (Nat → Nat)} : ∀ {L : List (Option Value)} {k : Nat} {q : Nat × Value}, q ∈ lvA base k L ↔ ∃ i v, L[i]? = some (some v) ∧ q = (k + i, cv base v)
  | [], k, q => by simp [lvA]
  | none :: r, k, q => by
    rw [lvA, lvA_mem]
    constructor
    · rintro ⟨i, v, h1, h2⟩
      exact ⟨i + 1, v, by simpa using h1, by rw [h2]; congr 1; omega⟩
    · rintro ⟨i, v, h1, h2⟩
      cases i with
      | zero => simp at h1
      | succ i => exact ⟨i, v, by simpa using h1, by rw [h2]; congr 1; omega⟩
  | some w :: r, k, q => by
    rw [lvA, List.mem_cons, lvA_mem]
    constructor
    · rintro (h | ⟨i, v, h1, h2⟩)
      · exact ⟨0, w, by simp, by rw [h]; simp⟩
      · exact ⟨i + 1, v, by simpa using h1, by rw [h2]; congr 1; omega⟩
    · rintro ⟨i, v, h1, h2⟩
      cases i with
      | zero =>
        left
        simp at h1
        rw [h2, h1]; simp
      | succ i => exact Or.inr ⟨i, v, by simpa using h1, by rw [h2]; congr 1; omega⟩
abbrev KT : Type := (Program × Launch × Env × State × MethodId) × (Array Value × List Frame × Method × Code) × va_G × CG × (Nat → Nat) × Nat × Nat × Room
def KOK (K : KT) (M : MT) (T : TT) (nn : Nat) : Prop := match K with
  | ((p, l, e, s, m), (args, below, meth, c), D, g, ext, base, n0, rm) => p.tables.exec = Jvm.exec ∧ c.code = M.2.1 ∧ meth.sig.returnType = M.2.2.2.1 ∧ c.maxLocals = M.2.2.1 ∧ s.vm.findClass M.1 = some m.cls ∧ (∀ w ∈ wT, w.before args s = true) ∧ KS D g ext base s s.heap ∧ meth.locks = false ∧ base ≤ s.heap.size ∧ n0 ≤ nn ∧ nn ≤ T.2.1 ∧ M.2.2.2.2 ≤ rm.frames ∧ 100 * M.2.2.2.2 ≤ rm.locals ∧ T.2.1 - n0 ≤ rm.cells ∧ szs T.2.1 - szs n0 ≤ rm.slots
def AW (K : KT) (M : MT) (T : TT) (pc : Nat) (L : List (Option Value)) (st : List Value) (n : Nat) (R : Rg) (σ : Sg) : Prop := KOK K M T n → match K with
  | ((p, l, e, s, m), (args, below, meth, c), D, g, ext, base, n0, rm) => ∀ (H : Heap) (locs : List Loc) (ls : Array Slot), WD D g base n R σ H → va_S (fun q => base ≤ q) s.heap H locs → lv_has ls M.2.2.1 (lvA (base, ext) 0 L) →
      W p l e rm s m args below meth c H locs (n - n0) (szs n - szs n0) (MQ below (QC D g base ext T) args s (T.2.1 - n0) (szs T.2.1 - szs n0) (fun q => base ≤ q)) (F0 m pc ls (st.map (cv (base, ext))))

def rmI (x y : Int32) : Int32 := x - x / y * y
def rmL (x y : Int64) : Int64 := x - x / y * y
theorem aw_iconst {K : KT} {M : MT} {T : TT} {pc : Nat} {L : List (Option Value)} {st : List Value} {n : Nat} {R : Rg} {σ : Sg} {k : Int} {v : Int32} (hv : Int32.ofInt k = v) (hd : decode M.2.1 pc = .ok (.iconst k, 1)) (h : AW K M T (pc + 1) L (.int v :: st) n R σ) : AW K M T pc L (st) n R σ := by
  obtain ⟨⟨p, l, e, s, m⟩, ⟨args, below, meth, c⟩, D, g, ext, base, n0, rm⟩ := K
  intro ok H locs ls hW hS hl
  exact lv_iconst ok.1 ok.2.1 hd hv (h ok H locs ls hW hS hl)
theorem aw_bipush {K : KT} {M : MT} {T : TT} {pc : Nat} {L : List (Option Value)} {st : List Value} {n : Nat} {R : Rg} {σ : Sg} {k : Int} {v : Int32} (hv : (Int8.ofInt k).toInt32 = v) (hd : decode M.2.1 pc = .ok (.bipush k, 2)) (h : AW K M T (pc + 2) L (.int v :: st) n R σ) : AW K M T pc L (st) n R σ := by
  obtain ⟨⟨p, l, e, s, m⟩, ⟨args, below, meth, c⟩, D, g, ext, base, n0, rm⟩ := K
  intro ok H locs ls hW hS hl
  exact lv_bipush ok.1 ok.2.1 hd hv (h ok H locs ls hW hS hl)
theorem aw_sipush {K : KT} {M : MT} {T : TT} {pc : Nat} {L : List (Option Value)} {st : List Value} {n : Nat} {R : Rg} {σ : Sg} {k : Int} {v : Int32} (hv : (Int16.ofInt k).toInt32 = v) (hd : decode M.2.1 pc = .ok (.sipush k, 3)) (h : AW K M T (pc + 3) L (.int v :: st) n R σ) : AW K M T pc L (st) n R σ := by
  obtain ⟨⟨p, l, e, s, m⟩, ⟨args, below, meth, c⟩, D, g, ext, base, n0, rm⟩ := K
  intro ok H locs ls hW hS hl
  exact lv_sipush ok.1 ok.2.1 hd hv (h ok H locs ls hW hS hl)
theorem aw_lconst {K : KT} {M : MT} {T : TT} {pc : Nat} {L : List (Option Value)} {st : List Value} {n : Nat} {R : Rg} {σ : Sg} {k : Fin 2} {v : Int64} (hv : Int64.ofNat (k : Nat) = v) (hd : decode M.2.1 pc = .ok (.lconst k, 1)) (h : AW K M T (pc + 1) L (.long v :: st) n R σ) : AW K M T pc L (st) n R σ := by
  obtain ⟨⟨p, l, e, s, m⟩, ⟨args, below, meth, c⟩, D, g, ext, base, n0, rm⟩ := K
  intro ok H locs ls hW hS hl
  exact lv_lconst ok.1 ok.2.1 hd hv (h ok H locs ls hW hS hl)
theorem aw_iadd {K : KT} {M : MT} {T : TT} {pc : Nat} {L : List (Option Value)} {st : List Value} {n : Nat} {R : Rg} {σ : Sg} {x y : Int32} (hd : decode M.2.1 pc = .ok (.iadd, 1)) (h : AW K M T (pc + 1) L (.int (x + y) :: st) n R σ) : AW K M T pc L (.int y :: .int x :: st) n R σ := by
  obtain ⟨⟨p, l, e, s, m⟩, ⟨args, below, meth, c⟩, D, g, ext, base, n0, rm⟩ := K
  intro ok H locs ls hW hS hl
  exact lv_iadd ok.1 ok.2.1 hd (h ok H locs ls hW hS hl)
theorem aw_isub {K : KT} {M : MT} {T : TT} {pc : Nat} {L : List (Option Value)} {st : List Value} {n : Nat} {R : Rg} {σ : Sg} {x y : Int32} (hd : decode M.2.1 pc = .ok (.isub, 1)) (h : AW K M T (pc + 1) L (.int (x - y) :: st) n R σ) : AW K M T pc L (.int y :: .int x :: st) n R σ := by
  obtain ⟨⟨p, l, e, s, m⟩, ⟨args, below, meth, c⟩, D, g, ext, base, n0, rm⟩ := K
  intro ok H locs ls hW hS hl
  exact lv_isub ok.1 ok.2.1 hd (h ok H locs ls hW hS hl)
theorem aw_imul {K : KT} {M : MT} {T : TT} {pc : Nat} {L : List (Option Value)} {st : List Value} {n : Nat} {R : Rg} {σ : Sg} {x y : Int32} (hd : decode M.2.1 pc = .ok (.imul, 1)) (h : AW K M T (pc + 1) L (.int (x * y) :: st) n R σ) : AW K M T pc L (.int y :: .int x :: st) n R σ := by
  obtain ⟨⟨p, l, e, s, m⟩, ⟨args, below, meth, c⟩, D, g, ext, base, n0, rm⟩ := K
  intro ok H locs ls hW hS hl
  exact lv_imul ok.1 ok.2.1 hd (h ok H locs ls hW hS hl)
theorem aw_iand {K : KT} {M : MT} {T : TT} {pc : Nat} {L : List (Option Value)} {st : List Value} {n : Nat} {R : Rg} {σ : Sg} {x y : Int32} (hd : decode M.2.1 pc = .ok (.iand, 1)) (h : AW K M T (pc + 1) L (.int (x &&& y) :: st) n R σ) : AW K M T pc L (.int y :: .int x :: st) n R σ := by
  obtain ⟨⟨p, l, e, s, m⟩, ⟨args, below, meth, c⟩, D, g, ext, base, n0, rm⟩ := K
  intro ok H locs ls hW hS hl
  exact lv_iand ok.1 ok.2.1 hd (h ok H locs ls hW hS hl)
theorem aw_ior {K : KT} {M : MT} {T : TT} {pc : Nat} {L : List (Option Value)} {st : List Value} {n : Nat} {R : Rg} {σ : Sg} {x y : Int32} (hd : decode M.2.1 pc = .ok (.ior, 1)) (h : AW K M T (pc + 1) L (.int (x ||| y) :: st) n R σ) : AW K M T pc L (.int y :: .int x :: st) n R σ := by
  obtain ⟨⟨p, l, e, s, m⟩, ⟨args, below, meth, c⟩, D, g, ext, base, n0, rm⟩ := K
  intro ok H locs ls hW hS hl
  exact lv_ior ok.1 ok.2.1 hd (h ok H locs ls hW hS hl)
theorem aw_ixor {K : KT} {M : MT} {T : TT} {pc : Nat} {L : List (Option Value)} {st : List Value} {n : Nat} {R : Rg} {σ : Sg} {x y : Int32} (hd : decode M.2.1 pc = .ok (.ixor, 1)) (h : AW K M T (pc + 1) L (.int (x ^^^ y) :: st) n R σ) : AW K M T pc L (.int y :: .int x :: st) n R σ := by
  obtain ⟨⟨p, l, e, s, m⟩, ⟨args, below, meth, c⟩, D, g, ext, base, n0, rm⟩ := K
  intro ok H locs ls hW hS hl
  exact lv_ixor ok.1 ok.2.1 hd (h ok H locs ls hW hS hl)
theorem aw_ishl {K : KT} {M : MT} {T : TT} {pc : Nat} {L : List (Option Value)} {st : List Value} {n : Nat} {R : Rg} {σ : Sg} {x y : Int32} (hd : decode M.2.1 pc = .ok (.ishl, 1)) (h : AW K M T (pc + 1) L (.int (x <<< (y &&& 31)) :: st) n R σ) : AW K M T pc L (.int y :: .int x :: st) n R σ := by
  obtain ⟨⟨p, l, e, s, m⟩, ⟨args, below, meth, c⟩, D, g, ext, base, n0, rm⟩ := K
  intro ok H locs ls hW hS hl
  exact lv_ishl ok.1 ok.2.1 hd (h ok H locs ls hW hS hl)
theorem aw_ishr {K : KT} {M : MT} {T : TT} {pc : Nat} {L : List (Option Value)} {st : List Value} {n : Nat} {R : Rg} {σ : Sg} {x y : Int32} (hd : decode M.2.1 pc = .ok (.ishr, 1)) (h : AW K M T (pc + 1) L (.int (x >>> (y &&& 31)) :: st) n R σ) : AW K M T pc L (.int y :: .int x :: st) n R σ := by
  obtain ⟨⟨p, l, e, s, m⟩, ⟨args, below, meth, c⟩, D, g, ext, base, n0, rm⟩ := K
  intro ok H locs ls hW hS hl
  exact lv_ishr ok.1 ok.2.1 hd (h ok H locs ls hW hS hl)
theorem aw_idiv {K : KT} {M : MT} {T : TT} {pc : Nat} {L : List (Option Value)} {st : List Value} {n : Nat} {R : Rg} {σ : Sg} {x y : Int32} (hne : ¬ y = 0) (hd : decode M.2.1 pc = .ok (.idiv, 1)) (h : AW K M T (pc + 1) L (.int (x / y) :: st) n R σ) : AW K M T pc L (.int y :: .int x :: st) n R σ := by
  obtain ⟨⟨p, l, e, s, m⟩, ⟨args, below, meth, c⟩, D, g, ext, base, n0, rm⟩ := K
  intro ok H locs ls hW hS hl
  exact lv_idiv ok.1 ok.2.1 hd hne (h ok H locs ls hW hS hl)
theorem aw_irem {K : KT} {M : MT} {T : TT} {pc : Nat} {L : List (Option Value)} {st : List Value} {n : Nat} {R : Rg} {σ : Sg} {x y : Int32} (hne : ¬ y = 0) (hd : decode M.2.1 pc = .ok (.irem, 1)) (h : AW K M T (pc + 1) L (.int (rmI x y) :: st) n R σ) : AW K M T pc L (.int y :: .int x :: st) n R σ := by
  obtain ⟨⟨p, l, e, s, m⟩, ⟨args, below, meth, c⟩, D, g, ext, base, n0, rm⟩ := K
  intro ok H locs ls hW hS hl
  exact lv_irem ok.1 ok.2.1 hd hne (h ok H locs ls hW hS hl)
theorem aw_ladd {K : KT} {M : MT} {T : TT} {pc : Nat} {L : List (Option Value)} {st : List Value} {n : Nat} {R : Rg} {σ : Sg} {x y : Int64} (hd : decode M.2.1 pc = .ok (.ladd, 1)) (h : AW K M T (pc + 1) L (.long (x + y) :: st) n R σ) : AW K M T pc L (.long y :: .long x :: st) n R σ := by
  obtain ⟨⟨p, l, e, s, m⟩, ⟨args, below, meth, c⟩, D, g, ext, base, n0, rm⟩ := K
  intro ok H locs ls hW hS hl
  exact lv_ladd ok.1 ok.2.1 hd (h ok H locs ls hW hS hl)
theorem aw_lmul {K : KT} {M : MT} {T : TT} {pc : Nat} {L : List (Option Value)} {st : List Value} {n : Nat} {R : Rg} {σ : Sg} {x y : Int64} (hd : decode M.2.1 pc = .ok (.lmul, 1)) (h : AW K M T (pc + 1) L (.long (x * y) :: st) n R σ) : AW K M T pc L (.long y :: .long x :: st) n R σ := by
  obtain ⟨⟨p, l, e, s, m⟩, ⟨args, below, meth, c⟩, D, g, ext, base, n0, rm⟩ := K
  intro ok H locs ls hW hS hl
  exact lv_lmul ok.1 ok.2.1 hd (h ok H locs ls hW hS hl)
theorem aw_ldiv {K : KT} {M : MT} {T : TT} {pc : Nat} {L : List (Option Value)} {st : List Value} {n : Nat} {R : Rg} {σ : Sg} {x y : Int64} (hne : ¬ y = 0) (hd : decode M.2.1 pc = .ok (.ldiv, 1)) (h : AW K M T (pc + 1) L (.long (x / y) :: st) n R σ) : AW K M T pc L (.long y :: .long x :: st) n R σ := by
  obtain ⟨⟨p, l, e, s, m⟩, ⟨args, below, meth, c⟩, D, g, ext, base, n0, rm⟩ := K
  intro ok H locs ls hW hS hl
  exact lv_ldiv ok.1 ok.2.1 hd hne (h ok H locs ls hW hS hl)
theorem aw_lrem {K : KT} {M : MT} {T : TT} {pc : Nat} {L : List (Option Value)} {st : List Value} {n : Nat} {R : Rg} {σ : Sg} {x y : Int64} (hne : ¬ y = 0) (hd : decode M.2.1 pc = .ok (.lrem, 1)) (h : AW K M T (pc + 1) L (.long (rmL x y) :: st) n R σ) : AW K M T pc L (.long y :: .long x :: st) n R σ := by
  obtain ⟨⟨p, l, e, s, m⟩, ⟨args, below, meth, c⟩, D, g, ext, base, n0, rm⟩ := K
  intro ok H locs ls hW hS hl
  exact lv_lrem ok.1 ok.2.1 hd hne (h ok H locs ls hW hS hl)
theorem aw_lcmp {K : KT} {M : MT} {T : TT} {pc : Nat} {L : List (Option Value)} {st : List Value} {n : Nat} {R : Rg} {σ : Sg} {x y : Int64} (hd : decode M.2.1 pc = .ok (.lcmp, 1)) (h : AW K M T (pc + 1) L (.int (lg_cmp x y) :: st) n R σ) : AW K M T pc L (.long y :: .long x :: st) n R σ := by
  obtain ⟨⟨p, l, e, s, m⟩, ⟨args, below, meth, c⟩, D, g, ext, base, n0, rm⟩ := K
  intro ok H locs ls hW hS hl
  exact W.lcmp ok.1 ok.2.1 hd (h ok H locs ls hW hS hl)
theorem aw_ineg {K : KT} {M : MT} {T : TT} {pc : Nat} {L : List (Option Value)} {st : List Value} {n : Nat} {R : Rg} {σ : Sg} {x : Int32} (hd : decode M.2.1 pc = .ok (.ineg, 1)) (h : AW K M T (pc + 1) L (.int (-x) :: st) n R σ) : AW K M T pc L (.int x :: st) n R σ := by
  obtain ⟨⟨p, l, e, s, m⟩, ⟨args, below, meth, c⟩, D, g, ext, base, n0, rm⟩ := K
  intro ok H locs ls hW hS hl
  exact lv_ineg ok.1 ok.2.1 hd (h ok H locs ls hW hS hl)
theorem aw_i2l {K : KT} {M : MT} {T : TT} {pc : Nat} {L : List (Option Value)} {st : List Value} {n : Nat} {R : Rg} {σ : Sg} {x : Int32} (hd : decode M.2.1 pc = .ok (.i2l, 1)) (h : AW K M T (pc + 1) L (.long x.toInt64 :: st) n R σ) : AW K M T pc L (.int x :: st) n R σ := by
  obtain ⟨⟨p, l, e, s, m⟩, ⟨args, below, meth, c⟩, D, g, ext, base, n0, rm⟩ := K
  intro ok H locs ls hW hS hl
  exact lv_i2l ok.1 ok.2.1 hd rfl (h ok H locs ls hW hS hl)
theorem aw_l2i {K : KT} {M : MT} {T : TT} {pc : Nat} {L : List (Option Value)} {st : List Value} {n : Nat} {R : Rg} {σ : Sg} {x : Int64} (hd : decode M.2.1 pc = .ok (.l2i, 1)) (h : AW K M T (pc + 1) L (.int x.toInt32 :: st) n R σ) : AW K M T pc L (.long x :: st) n R σ := by
  obtain ⟨⟨p, l, e, s, m⟩, ⟨args, below, meth, c⟩, D, g, ext, base, n0, rm⟩ := K
  intro ok H locs ls hW hS hl
  exact lv_l2i ok.1 ok.2.1 hd rfl (h ok H locs ls hW hS hl)
theorem aw_null {K : KT} {M : MT} {T : TT} {pc : Nat} {L : List (Option Value)} {st : List Value} {n : Nat} {R : Rg} {σ : Sg}  (hd : decode M.2.1 pc = .ok (.aconst_null, 1)) (h : AW K M T (pc + 1) L (.null :: st) n R σ) : AW K M T pc L (st) n R σ := by
  obtain ⟨⟨p, l, e, s, m⟩, ⟨args, below, meth, c⟩, D, g, ext, base, n0, rm⟩ := K
  intro ok H locs ls hW hS hl
  exact lv_null ok.1 ok.2.1 hd (h ok H locs ls hW hS hl)
theorem aw_dup {K : KT} {M : MT} {T : TT} {pc : Nat} {L : List (Option Value)} {st : List Value} {n : Nat} {R : Rg} {σ : Sg} {v : Value} (hv : v.category = 1) (hd : decode M.2.1 pc = .ok (.dup, 1)) (h : AW K M T (pc + 1) L (v :: v :: st) n R σ) : AW K M T pc L (v :: st) n R σ := by
  obtain ⟨⟨p, l, e, s, m⟩, ⟨args, below, meth, c⟩, D, g, ext, base, n0, rm⟩ := K
  intro ok H locs ls hW hS hl
  exact lv_dup ok.1 ok.2.1 hd (by rw [cv_cat]; exact hv) (h ok H locs ls hW hS hl)
theorem aw_pop {K : KT} {M : MT} {T : TT} {pc : Nat} {L : List (Option Value)} {st : List Value} {n : Nat} {R : Rg} {σ : Sg} {v : Value} (hv : v.category = 1) (hd : decode M.2.1 pc = .ok (.pop, 1)) (h : AW K M T (pc + 1) L (st) n R σ) : AW K M T pc L (v :: st) n R σ := by
  obtain ⟨⟨p, l, e, s, m⟩, ⟨args, below, meth, c⟩, D, g, ext, base, n0, rm⟩ := K
  intro ok H locs ls hW hS hl
  exact lv_pop ok.1 ok.2.1 hd (by rw [cv_cat]; exact hv) (h ok H locs ls hW hS hl)
theorem aw_dup2 {K : KT} {M : MT} {T : TT} {pc : Nat} {L : List (Option Value)} {st : List Value} {n : Nat} {R : Rg} {σ : Sg} {v w : Value} (hv : v.category = 1) (hw : w.category = 1) (hd : decode M.2.1 pc = .ok (.dup2, 1)) (h : AW K M T (pc + 1) L (v :: w :: v :: w :: st) n R σ) : AW K M T pc L (v :: w :: st) n R σ := by
  obtain ⟨⟨p, l, e, s, m⟩, ⟨args, below, meth, c⟩, D, g, ext, base, n0, rm⟩ := K
  intro ok H locs ls hW hS hl
  exact lv_dup2_11 ok.1 ok.2.1 hd (by rw [cv_cat]; exact hv) (by rw [cv_cat]; exact hw) (h ok H locs ls hW hS hl)
theorem aw_dup2L {K : KT} {M : MT} {T : TT} {pc : Nat} {L : List (Option Value)} {st : List Value} {n : Nat} {R : Rg} {σ : Sg} {v : Value} (hv : v.category = 2) (hd : decode M.2.1 pc = .ok (.dup2, 1)) (h : AW K M T (pc + 1) L (v :: v :: st) n R σ) : AW K M T pc L (v :: st) n R σ := by
  obtain ⟨⟨p, l, e, s, m⟩, ⟨args, below, meth, c⟩, D, g, ext, base, n0, rm⟩ := K
  intro ok H locs ls hW hS hl
  exact lv_dup2_2 ok.1 ok.2.1 hd (by rw [cv_cat]; exact hv) (h ok H locs ls hW hS hl)
theorem aw_goto {K : KT} {M : MT} {T : TT} {pc : Nat} {L : List (Option Value)} {st : List Value} {n : Nat} {R : Rg} {σ : Sg} {off : Int} {tgt : Nat} (hd : decode M.2.1 pc = .ok (.goto off, 3)) (ht : (pc : Int) + off = (tgt : Int)) (h : AW K M T tgt L st n R σ) : AW K M T pc L st n R σ := by
  obtain ⟨⟨p, l, e, s, m⟩, ⟨args, below, meth, c⟩, D, g, ext, base, n0, rm⟩ := K
  intro ok H locs ls hW hS hl
  exact lv_goto ok.1 ok.2.1 hd ht (h ok H locs ls hW hS hl)
theorem aw_if_eq {K : KT} {M : MT} {T : TT} {pc : Nat} {L : List (Option Value)} {st : List Value} {n : Nat} {R : Rg} {σ : Sg} {x : Int32} {off : Int} {tgt : Nat} (hd : decode M.2.1 pc = .ok (.ifCond .eq off, 3)) (ht : (pc : Int) + off = (tgt : Int)) (h1 : x = 0 → AW K M T tgt L st n R σ) (h2 : ¬ x = 0 → AW K M T (pc + 3) L st n R σ) : AW K M T pc L (.int x :: st) n R σ := by
  obtain ⟨⟨p, l, e, s, m⟩, ⟨args, below, meth, c⟩, D, g, ext, base, n0, rm⟩ := K
  intro ok H locs ls hW hS hl
  exact lv_if_eq ok.1 ok.2.1 hd ht (fun z => h1 z ok H locs ls hW hS hl) (fun z => h2 z ok H locs ls hW hS hl)
theorem aw_icmp_eq {K : KT} {M : MT} {T : TT} {pc : Nat} {L : List (Option Value)} {st : List Value} {n : Nat} {R : Rg} {σ : Sg} {x y : Int32} {off : Int} {tgt : Nat} (hd : decode M.2.1 pc = .ok (.if_icmp .eq off, 3)) (ht : (pc : Int) + off = (tgt : Int)) (h1 : x = y → AW K M T tgt L st n R σ) (h2 : ¬ x = y → AW K M T (pc + 3) L st n R σ) : AW K M T pc L (.int y :: .int x :: st) n R σ := by
  obtain ⟨⟨p, l, e, s, m⟩, ⟨args, below, meth, c⟩, D, g, ext, base, n0, rm⟩ := K
  intro ok H locs ls hW hS hl
  exact lv_icmp_eq ok.1 ok.2.1 hd ht (fun z => h1 z ok H locs ls hW hS hl) (fun z => h2 z ok H locs ls hW hS hl)
theorem aw_if_ne {K : KT} {M : MT} {T : TT} {pc : Nat} {L : List (Option Value)} {st : List Value} {n : Nat} {R : Rg} {σ : Sg} {x : Int32} {off : Int} {tgt : Nat} (hd : decode M.2.1 pc = .ok (.ifCond .ne off, 3)) (ht : (pc : Int) + off = (tgt : Int)) (h1 : ¬ x = 0 → AW K M T tgt L st n R σ) (h2 : x = 0 → AW K M T (pc + 3) L st n R σ) : AW K M T pc L (.int x :: st) n R σ := by
  obtain ⟨⟨p, l, e, s, m⟩, ⟨args, below, meth, c⟩, D, g, ext, base, n0, rm⟩ := K
  intro ok H locs ls hW hS hl
  exact lv_if_ne ok.1 ok.2.1 hd ht (fun z => h1 z ok H locs ls hW hS hl) (fun z => h2 z ok H locs ls hW hS hl)
theorem aw_icmp_ne {K : KT} {M : MT} {T : TT} {pc : Nat} {L : List (Option Value)} {st : List Value} {n : Nat} {R : Rg} {σ : Sg} {x y : Int32} {off : Int} {tgt : Nat} (hd : decode M.2.1 pc = .ok (.if_icmp .ne off, 3)) (ht : (pc : Int) + off = (tgt : Int)) (h1 : ¬ x = y → AW K M T tgt L st n R σ) (h2 : x = y → AW K M T (pc + 3) L st n R σ) : AW K M T pc L (.int y :: .int x :: st) n R σ := by
  obtain ⟨⟨p, l, e, s, m⟩, ⟨args, below, meth, c⟩, D, g, ext, base, n0, rm⟩ := K
  intro ok H locs ls hW hS hl
  exact lv_icmp_ne ok.1 ok.2.1 hd ht (fun z => h1 z ok H locs ls hW hS hl) (fun z => h2 z ok H locs ls hW hS hl)
theorem aw_if_lt {K : KT} {M : MT} {T : TT} {pc : Nat} {L : List (Option Value)} {st : List Value} {n : Nat} {R : Rg} {σ : Sg} {x : Int32} {off : Int} {tgt : Nat} (hd : decode M.2.1 pc = .ok (.ifCond .lt off, 3)) (ht : (pc : Int) + off = (tgt : Int)) (h1 : x < 0 → AW K M T tgt L st n R σ) (h2 : ¬ x < 0 → AW K M T (pc + 3) L st n R σ) : AW K M T pc L (.int x :: st) n R σ := by
  obtain ⟨⟨p, l, e, s, m⟩, ⟨args, below, meth, c⟩, D, g, ext, base, n0, rm⟩ := K
  intro ok H locs ls hW hS hl
  exact lv_if_lt ok.1 ok.2.1 hd ht (fun z => h1 z ok H locs ls hW hS hl) (fun z => h2 z ok H locs ls hW hS hl)
theorem aw_icmp_lt {K : KT} {M : MT} {T : TT} {pc : Nat} {L : List (Option Value)} {st : List Value} {n : Nat} {R : Rg} {σ : Sg} {x y : Int32} {off : Int} {tgt : Nat} (hd : decode M.2.1 pc = .ok (.if_icmp .lt off, 3)) (ht : (pc : Int) + off = (tgt : Int)) (h1 : x < y → AW K M T tgt L st n R σ) (h2 : ¬ x < y → AW K M T (pc + 3) L st n R σ) : AW K M T pc L (.int y :: .int x :: st) n R σ := by
  obtain ⟨⟨p, l, e, s, m⟩, ⟨args, below, meth, c⟩, D, g, ext, base, n0, rm⟩ := K
  intro ok H locs ls hW hS hl
  exact lv_icmp_lt ok.1 ok.2.1 hd ht (fun z => h1 z ok H locs ls hW hS hl) (fun z => h2 z ok H locs ls hW hS hl)
theorem aw_if_ge {K : KT} {M : MT} {T : TT} {pc : Nat} {L : List (Option Value)} {st : List Value} {n : Nat} {R : Rg} {σ : Sg} {x : Int32} {off : Int} {tgt : Nat} (hd : decode M.2.1 pc = .ok (.ifCond .ge off, 3)) (ht : (pc : Int) + off = (tgt : Int)) (h1 : 0 ≤ x → AW K M T tgt L st n R σ) (h2 : ¬ 0 ≤ x → AW K M T (pc + 3) L st n R σ) : AW K M T pc L (.int x :: st) n R σ := by
  obtain ⟨⟨p, l, e, s, m⟩, ⟨args, below, meth, c⟩, D, g, ext, base, n0, rm⟩ := K
  intro ok H locs ls hW hS hl
  exact lv_if_ge ok.1 ok.2.1 hd ht (fun z => h1 z ok H locs ls hW hS hl) (fun z => h2 z ok H locs ls hW hS hl)
theorem aw_icmp_ge {K : KT} {M : MT} {T : TT} {pc : Nat} {L : List (Option Value)} {st : List Value} {n : Nat} {R : Rg} {σ : Sg} {x y : Int32} {off : Int} {tgt : Nat} (hd : decode M.2.1 pc = .ok (.if_icmp .ge off, 3)) (ht : (pc : Int) + off = (tgt : Int)) (h1 : y ≤ x → AW K M T tgt L st n R σ) (h2 : ¬ y ≤ x → AW K M T (pc + 3) L st n R σ) : AW K M T pc L (.int y :: .int x :: st) n R σ := by
  obtain ⟨⟨p, l, e, s, m⟩, ⟨args, below, meth, c⟩, D, g, ext, base, n0, rm⟩ := K
  intro ok H locs ls hW hS hl
  exact lv_icmp_ge ok.1 ok.2.1 hd ht (fun z => h1 z ok H locs ls hW hS hl) (fun z => h2 z ok H locs ls hW hS hl)
theorem aw_if_gt {K : KT} {M : MT} {T : TT} {pc : Nat} {L : List (Option Value)} {st : List Value} {n : Nat} {R : Rg} {σ : Sg} {x : Int32} {off : Int} {tgt : Nat} (hd : decode M.2.1 pc = .ok (.ifCond .gt off, 3)) (ht : (pc : Int) + off = (tgt : Int)) (h1 : 0 < x → AW K M T tgt L st n R σ) (h2 : ¬ 0 < x → AW K M T (pc + 3) L st n R σ) : AW K M T pc L (.int x :: st) n R σ := by
  obtain ⟨⟨p, l, e, s, m⟩, ⟨args, below, meth, c⟩, D, g, ext, base, n0, rm⟩ := K
  intro ok H locs ls hW hS hl
  exact lv_if_gt ok.1 ok.2.1 hd ht (fun z => h1 z ok H locs ls hW hS hl) (fun z => h2 z ok H locs ls hW hS hl)
theorem aw_icmp_gt {K : KT} {M : MT} {T : TT} {pc : Nat} {L : List (Option Value)} {st : List Value} {n : Nat} {R : Rg} {σ : Sg} {x y : Int32} {off : Int} {tgt : Nat} (hd : decode M.2.1 pc = .ok (.if_icmp .gt off, 3)) (ht : (pc : Int) + off = (tgt : Int)) (h1 : y < x → AW K M T tgt L st n R σ) (h2 : ¬ y < x → AW K M T (pc + 3) L st n R σ) : AW K M T pc L (.int y :: .int x :: st) n R σ := by
  obtain ⟨⟨p, l, e, s, m⟩, ⟨args, below, meth, c⟩, D, g, ext, base, n0, rm⟩ := K
  intro ok H locs ls hW hS hl
  exact lv_icmp_gt ok.1 ok.2.1 hd ht (fun z => h1 z ok H locs ls hW hS hl) (fun z => h2 z ok H locs ls hW hS hl)
theorem aw_if_le {K : KT} {M : MT} {T : TT} {pc : Nat} {L : List (Option Value)} {st : List Value} {n : Nat} {R : Rg} {σ : Sg} {x : Int32} {off : Int} {tgt : Nat} (hd : decode M.2.1 pc = .ok (.ifCond .le off, 3)) (ht : (pc : Int) + off = (tgt : Int)) (h1 : x ≤ 0 → AW K M T tgt L st n R σ) (h2 : ¬ x ≤ 0 → AW K M T (pc + 3) L st n R σ) : AW K M T pc L (.int x :: st) n R σ := by
  obtain ⟨⟨p, l, e, s, m⟩, ⟨args, below, meth, c⟩, D, g, ext, base, n0, rm⟩ := K
  intro ok H locs ls hW hS hl
  exact lv_if_le ok.1 ok.2.1 hd ht (fun z => h1 z ok H locs ls hW hS hl) (fun z => h2 z ok H locs ls hW hS hl)
theorem aw_icmp_le {K : KT} {M : MT} {T : TT} {pc : Nat} {L : List (Option Value)} {st : List Value} {n : Nat} {R : Rg} {σ : Sg} {x y : Int32} {off : Int} {tgt : Nat} (hd : decode M.2.1 pc = .ok (.if_icmp .le off, 3)) (ht : (pc : Int) + off = (tgt : Int)) (h1 : x ≤ y → AW K M T tgt L st n R σ) (h2 : ¬ x ≤ y → AW K M T (pc + 3) L st n R σ) : AW K M T pc L (.int y :: .int x :: st) n R σ := by
  obtain ⟨⟨p, l, e, s, m⟩, ⟨args, below, meth, c⟩, D, g, ext, base, n0, rm⟩ := K
  intro ok H locs ls hW hS hl
  exact lv_icmp_le ok.1 ok.2.1 hd ht (fun z => h1 z ok H locs ls hW hS hl) (fun z => h2 z ok H locs ls hW hS hl)
theorem lvA_get {base : Nat × (Nat → Nat)} {L : List (Option Value)} {ls : Array Slot} {nL i : Nat} {v : Value} (hl : lv_has ls nL (lvA base 0 L)) (h : L[i]? = some (some v)) : ls[i]? = some (.val (cv base v)) :=
  hl.2.2 (i, cv base v) (lvA_mem.mpr ⟨i, v, h, by simp⟩)
def okc (v : Option Value) : Bool := match v with
  | some (.long _) => false
  | some (.double _) => false
  | _ => true
theorem okc_cat {v : Value} (h : okc (some v) = true) : v.category = 1 := by cases v <;> first | rfl | cases h
theorem lvA_set1 {base : Nat × (Nat → Nat)} {L : List (Option Value)} {ls : Array Slot} {nL i : Nat} {v : Value} (hp : ∀ w, 0 < i → L[i - 1]? = some w → okc w = true) (hi : i < L.length) (hl : lv_has ls nL ((i, cv base v) :: (lvA base 0 L).filter (fun q => !(q.1 == i) && !(q.1 + 1 == i && q.2.category == 2)))) : lv_has ls nL (lvA base 0 (L.set i (some v))) := by
  refine ⟨hl.1, hl.2.1, fun q hq => hl.2.2 q ?_⟩
  obtain ⟨j, w, h1, rfl⟩ := lvA_mem.mp hq
  by_cases hj : j = i
  · subst hj
    rw [List.getElem?_set_self hi] at h1
    cases h1
    simp
  · rw [List.getElem?_set_ne (Ne.symm hj)] at h1
    refine List.mem_cons_of_mem _ (List.mem_filter.mpr ⟨lvA_mem.mpr ⟨j, w, h1, rfl⟩, ?_⟩)
    by_cases h2 : j + 1 = i
    · have h3 := okc_cat (hp (some w) (by omega) (by rw [← h1]; congr 1; omega))
      simp [hj, cv_cat, h3]
    · simp [hj, h2]
theorem lvA_set2 {base : Nat × (Nat → Nat)} {L : List (Option Value)} {ls : Array Slot} {nL i : Nat} {v : Value} (hp : ∀ w, 0 < i → L[i - 1]? = some w → okc w = true) (hi : i + 1 < L.length) (hl : lv_has ls nL ((i, cv base v) :: (lvA base 0 L).filter (fun q => !(q.1 == i) && (!(q.1 == i + 1) && !(q.1 + 1 == i && q.2.category == 2))))) : lv_has ls nL (lvA base 0 ((L.set i (some v)).set (i + 1) none)) := by
  refine ⟨hl.1, hl.2.1, fun q hq => hl.2.2 q ?_⟩
  obtain ⟨j, w, h1, rfl⟩ := lvA_mem.mp hq
  by_cases hj1 : j = i + 1
  · subst hj1
    rw [List.getElem?_set_self (by simpa using hi)] at h1
    cases h1
  rw [List.getElem?_set_ne (Ne.symm hj1)] at h1
  by_cases hj : j = i
  · subst hj
    rw [List.getElem?_set_self (by omega)] at h1
    cases h1
    simp
  · rw [List.getElem?_set_ne (Ne.symm hj)] at h1
    refine List.mem_cons_of_mem _ (List.mem_filter.mpr ⟨lvA_mem.mpr ⟨j, w, h1, rfl⟩, ?_⟩)
    by_cases h2 : j + 1 = i
    · have h3 := okc_cat (hp (some w) (by omega) (by rw [← h1]; congr 1; omega))
      simp [hj, hj1, cv_cat, h3]
    · simp [hj, hj1, h2]
theorem lvA_drop {base : Nat × (Nat → Nat)} {L L' : List (Option Value)} {ls : Array Slot} {nL : Nat} (h : ∀ (i : Nat) (w : Value), L'[i]? = some (some w) → L[i]? = some (some w)) (hl : lv_has ls nL (lvA base 0 L)) : lv_has ls nL (lvA base 0 L') := by
  refine ⟨hl.1, hl.2.1, fun q hq => hl.2.2 q ?_⟩
  obtain ⟨j, w, h1, rfl⟩ := lvA_mem.mp hq
  exact lvA_mem.mpr ⟨j, w, h j w h1, rfl⟩
theorem aw_iload_0 {K : KT} {M : MT} {T : TT} {pc : Nat} {st : List Value} {n : Nat} {R : Rg} {σ : Sg} {r : List (Option Value)} {x : Int32} (hd : decode M.2.1 pc = .ok (.iload_n 0, 1)) (h : AW K M T (pc + 1) (some (.int x) :: r) (.int x :: st) n R σ) : AW K M T pc (some (.int x) :: r) st n R σ := by
  obtain ⟨⟨p, l, e, s, m⟩, ⟨args, below, meth, c⟩, D, g, ext, base, n0, rm⟩ := K
  intro ok H locs ls hW hS hl
  exact lv_iload_n ok.1 ok.2.1 hd rfl (lvA_get (i := 0) (v := .int x) hl rfl) (h ok H locs ls hW hS hl)
theorem aw_iload_1 {K : KT} {M : MT} {T : TT} {pc : Nat} {st : List Value} {n : Nat} {R : Rg} {σ : Sg} {a0 : Option Value} {r : List (Option Value)} {x : Int32} (hd : decode M.2.1 pc = .ok (.iload_n 1, 1)) (h : AW K M T (pc + 1) (a0 :: some (.int x) :: r) (.int x :: st) n R σ) : AW K M T pc (a0 :: some (.int x) :: r) st n R σ := by
  obtain ⟨⟨p, l, e, s, m⟩, ⟨args, below, meth, c⟩, D, g, ext, base, n0, rm⟩ := K
  intro ok H locs ls hW hS hl
  exact lv_iload_n ok.1 ok.2.1 hd rfl (lvA_get (i := 1) (v := .int x) hl rfl) (h ok H locs ls hW hS hl)
theorem aw_iload_2 {K : KT} {M : MT} {T : TT} {pc : Nat} {st : List Value} {n : Nat} {R : Rg} {σ : Sg} {a0 a1 : Option Value} {r : List (Option Value)} {x : Int32} (hd : decode M.2.1 pc = .ok (.iload_n 2, 1)) (h : AW K M T (pc + 1) (a0 :: a1 :: some (.int x) :: r) (.int x :: st) n R σ) : AW K M T pc (a0 :: a1 :: some (.int x) :: r) st n R σ := by
  obtain ⟨⟨p, l, e, s, m⟩, ⟨args, below, meth, c⟩, D, g, ext, base, n0, rm⟩ := K
  intro ok H locs ls hW hS hl
  exact lv_iload_n ok.1 ok.2.1 hd rfl (lvA_get (i := 2) (v := .int x) hl rfl) (h ok H locs ls hW hS hl)
theorem aw_iload_3 {K : KT} {M : MT} {T : TT} {pc : Nat} {st : List Value} {n : Nat} {R : Rg} {σ : Sg} {a0 a1 a2 : Option Value} {r : List (Option Value)} {x : Int32} (hd : decode M.2.1 pc = .ok (.iload_n 3, 1)) (h : AW K M T (pc + 1) (a0 :: a1 :: a2 :: some (.int x) :: r) (.int x :: st) n R σ) : AW K M T pc (a0 :: a1 :: a2 :: some (.int x) :: r) st n R σ := by
  obtain ⟨⟨p, l, e, s, m⟩, ⟨args, below, meth, c⟩, D, g, ext, base, n0, rm⟩ := K
  intro ok H locs ls hW hS hl
  exact lv_iload_n ok.1 ok.2.1 hd rfl (lvA_get (i := 3) (v := .int x) hl rfl) (h ok H locs ls hW hS hl)
theorem aw_iload_4 {K : KT} {M : MT} {T : TT} {pc : Nat} {st : List Value} {n : Nat} {R : Rg} {σ : Sg} {a0 a1 a2 a3 : Option Value} {r : List (Option Value)} {x : Int32} (hd : decode M.2.1 pc = .ok (.iload 4, 2)) (h : AW K M T (pc + 2) (a0 :: a1 :: a2 :: a3 :: some (.int x) :: r) (.int x :: st) n R σ) : AW K M T pc (a0 :: a1 :: a2 :: a3 :: some (.int x) :: r) st n R σ := by
  obtain ⟨⟨p, l, e, s, m⟩, ⟨args, below, meth, c⟩, D, g, ext, base, n0, rm⟩ := K
  intro ok H locs ls hW hS hl
  exact lv_iload ok.1 ok.2.1 hd (lvA_get (i := 4) (v := .int x) hl rfl) (h ok H locs ls hW hS hl)
theorem aw_iload_5 {K : KT} {M : MT} {T : TT} {pc : Nat} {st : List Value} {n : Nat} {R : Rg} {σ : Sg} {a0 a1 a2 a3 a4 : Option Value} {r : List (Option Value)} {x : Int32} (hd : decode M.2.1 pc = .ok (.iload 5, 2)) (h : AW K M T (pc + 2) (a0 :: a1 :: a2 :: a3 :: a4 :: some (.int x) :: r) (.int x :: st) n R σ) : AW K M T pc (a0 :: a1 :: a2 :: a3 :: a4 :: some (.int x) :: r) st n R σ := by
  obtain ⟨⟨p, l, e, s, m⟩, ⟨args, below, meth, c⟩, D, g, ext, base, n0, rm⟩ := K
  intro ok H locs ls hW hS hl
  exact lv_iload ok.1 ok.2.1 hd (lvA_get (i := 5) (v := .int x) hl rfl) (h ok H locs ls hW hS hl)
theorem aw_iload_6 {K : KT} {M : MT} {T : TT} {pc : Nat} {st : List Value} {n : Nat} {R : Rg} {σ : Sg} {a0 a1 a2 a3 a4 a5 : Option Value} {r : List (Option Value)} {x : Int32} (hd : decode M.2.1 pc = .ok (.iload 6, 2)) (h : AW K M T (pc + 2) (a0 :: a1 :: a2 :: a3 :: a4 :: a5 :: some (.int x) :: r) (.int x :: st) n R σ) : AW K M T pc (a0 :: a1 :: a2 :: a3 :: a4 :: a5 :: some (.int x) :: r) st n R σ := by
  obtain ⟨⟨p, l, e, s, m⟩, ⟨args, below, meth, c⟩, D, g, ext, base, n0, rm⟩ := K
  intro ok H locs ls hW hS hl
  exact lv_iload ok.1 ok.2.1 hd (lvA_get (i := 6) (v := .int x) hl rfl) (h ok H locs ls hW hS hl)
theorem aw_iload_7 {K : KT} {M : MT} {T : TT} {pc : Nat} {st : List Value} {n : Nat} {R : Rg} {σ : Sg} {a0 a1 a2 a3 a4 a5 a6 : Option Value} {r : List (Option Value)} {x : Int32} (hd : decode M.2.1 pc = .ok (.iload 7, 2)) (h : AW K M T (pc + 2) (a0 :: a1 :: a2 :: a3 :: a4 :: a5 :: a6 :: some (.int x) :: r) (.int x :: st) n R σ) : AW K M T pc (a0 :: a1 :: a2 :: a3 :: a4 :: a5 :: a6 :: some (.int x) :: r) st n R σ := by
  obtain ⟨⟨p, l, e, s, m⟩, ⟨args, below, meth, c⟩, D, g, ext, base, n0, rm⟩ := K
  intro ok H locs ls hW hS hl
  exact lv_iload ok.1 ok.2.1 hd (lvA_get (i := 7) (v := .int x) hl rfl) (h ok H locs ls hW hS hl)
theorem aw_iload_8 {K : KT} {M : MT} {T : TT} {pc : Nat} {st : List Value} {n : Nat} {R : Rg} {σ : Sg} {a0 a1 a2 a3 a4 a5 a6 a7 : Option Value} {r : List (Option Value)} {x : Int32} (hd : decode M.2.1 pc = .ok (.iload 8, 2)) (h : AW K M T (pc + 2) (a0 :: a1 :: a2 :: a3 :: a4 :: a5 :: a6 :: a7 :: some (.int x) :: r) (.int x :: st) n R σ) : AW K M T pc (a0 :: a1 :: a2 :: a3 :: a4 :: a5 :: a6 :: a7 :: some (.int x) :: r) st n R σ := by
  obtain ⟨⟨p, l, e, s, m⟩, ⟨args, below, meth, c⟩, D, g, ext, base, n0, rm⟩ := K
  intro ok H locs ls hW hS hl
  exact lv_iload ok.1 ok.2.1 hd (lvA_get (i := 8) (v := .int x) hl rfl) (h ok H locs ls hW hS hl)
theorem aw_iload_9 {K : KT} {M : MT} {T : TT} {pc : Nat} {st : List Value} {n : Nat} {R : Rg} {σ : Sg} {a0 a1 a2 a3 a4 a5 a6 a7 a8 : Option Value} {r : List (Option Value)} {x : Int32} (hd : decode M.2.1 pc = .ok (.iload 9, 2)) (h : AW K M T (pc + 2) (a0 :: a1 :: a2 :: a3 :: a4 :: a5 :: a6 :: a7 :: a8 :: some (.int x) :: r) (.int x :: st) n R σ) : AW K M T pc (a0 :: a1 :: a2 :: a3 :: a4 :: a5 :: a6 :: a7 :: a8 :: some (.int x) :: r) st n R σ := by
  obtain ⟨⟨p, l, e, s, m⟩, ⟨args, below, meth, c⟩, D, g, ext, base, n0, rm⟩ := K
  intro ok H locs ls hW hS hl
  exact lv_iload ok.1 ok.2.1 hd (lvA_get (i := 9) (v := .int x) hl rfl) (h ok H locs ls hW hS hl)
theorem aw_iload_10 {K : KT} {M : MT} {T : TT} {pc : Nat} {st : List Value} {n : Nat} {R : Rg} {σ : Sg} {a0 a1 a2 a3 a4 a5 a6 a7 a8 a9 : Option Value} {r : List (Option Value)} {x : Int32} (hd : decode M.2.1 pc = .ok (.iload 10, 2)) (h : AW K M T (pc + 2) (a0 :: a1 :: a2 :: a3 :: a4 :: a5 :: a6 :: a7 :: a8 :: a9 :: some (.int x) :: r) (.int x :: st) n R σ) : AW K M T pc (a0 :: a1 :: a2 :: a3 :: a4 :: a5 :: a6 :: a7 :: a8 :: a9 :: some (.int x) :: r) st n R σ := by
  obtain ⟨⟨p, l, e, s, m⟩, ⟨args, below, meth, c⟩, D, g, ext, base, n0, rm⟩ := K
  intro ok H locs ls hW hS hl
  exact lv_iload ok.1 ok.2.1 hd (lvA_get (i := 10) (v := .int x) hl rfl) (h ok H locs ls hW hS hl)
theorem aw_iload_11 {K : KT} {M : MT} {T : TT} {pc : Nat} {st : List Value} {n : Nat} {R : Rg} {σ : Sg} {a0 a1 a2 a3 a4 a5 a6 a7 a8 a9 a10 : Option Value} {r : List (Option Value)} {x : Int32} (hd : decode M.2.1 pc = .ok (.iload 11, 2)) (h : AW K M T (pc + 2) (a0 :: a1 :: a2 :: a3 :: a4 :: a5 :: a6 :: a7 :: a8 :: a9 :: a10 :: some (.int x) :: r) (.int x :: st) n R σ) : AW K M T pc (a0 :: a1 :: a2 :: a3 :: a4 :: a5 :: a6 :: a7 :: a8 :: a9 :: a10 :: some (.int x) :: r) st n R σ := by
  obtain ⟨⟨p, l, e, s, m⟩, ⟨args, below, meth, c⟩, D, g, ext, base, n0, rm⟩ := K
  intro ok H locs ls hW hS hl
  exact lv_iload ok.1 ok.2.1 hd (lvA_get (i := 11) (v := .int x) hl rfl) (h ok H locs ls hW hS hl)
theorem aw_iload_12 {K : KT} {M : MT} {T : TT} {pc : Nat} {st : List Value} {n : Nat} {R : Rg} {σ : Sg} {a0 a1 a2 a3 a4 a5 a6 a7 a8 a9 a10 a11 : Option Value} {r : List (Option Value)} {x : Int32} (hd : decode M.2.1 pc = .ok (.iload 12, 2)) (h : AW K M T (pc + 2) (a0 :: a1 :: a2 :: a3 :: a4 :: a5 :: a6 :: a7 :: a8 :: a9 :: a10 :: a11 :: some (.int x) :: r) (.int x :: st) n R σ) : AW K M T pc (a0 :: a1 :: a2 :: a3 :: a4 :: a5 :: a6 :: a7 :: a8 :: a9 :: a10 :: a11 :: some (.int x) :: r) st n R σ := by
  obtain ⟨⟨p, l, e, s, m⟩, ⟨args, below, meth, c⟩, D, g, ext, base, n0, rm⟩ := K
  intro ok H locs ls hW hS hl
  exact lv_iload ok.1 ok.2.1 hd (lvA_get (i := 12) (v := .int x) hl rfl) (h ok H locs ls hW hS hl)
theorem aw_iload_13 {K : KT} {M : MT} {T : TT} {pc : Nat} {st : List Value} {n : Nat} {R : Rg} {σ : Sg} {a0 a1 a2 a3 a4 a5 a6 a7 a8 a9 a10 a11 a12 : Option Value} {r : List (Option Value)} {x : Int32} (hd : decode M.2.1 pc = .ok (.iload 13, 2)) (h : AW K M T (pc + 2) (a0 :: a1 :: a2 :: a3 :: a4 :: a5 :: a6 :: a7 :: a8 :: a9 :: a10 :: a11 :: a12 :: some (.int x) :: r) (.int x :: st) n R σ) : AW K M T pc (a0 :: a1 :: a2 :: a3 :: a4 :: a5 :: a6 :: a7 :: a8 :: a9 :: a10 :: a11 :: a12 :: some (.int x) :: r) st n R σ := by
  obtain ⟨⟨p, l, e, s, m⟩, ⟨args, below, meth, c⟩, D, g, ext, base, n0, rm⟩ := K
  intro ok H locs ls hW hS hl
  exact lv_iload ok.1 ok.2.1 hd (lvA_get (i := 13) (v := .int x) hl rfl) (h ok H locs ls hW hS hl)
theorem aw_lload_0 {K : KT} {M : MT} {T : TT} {pc : Nat} {st : List Value} {n : Nat} {R : Rg} {σ : Sg} {r : List (Option Value)} {x : Int64} (hd : decode M.2.1 pc = .ok (.lload_n 0, 1)) (h : AW K M T (pc + 1) (some (.long x) :: r) (.long x :: st) n R σ) : AW K M T pc (some (.long x) :: r) st n R σ := by
  obtain ⟨⟨p, l, e, s, m⟩, ⟨args, below, meth, c⟩, D, g, ext, base, n0, rm⟩ := K
  intro ok H locs ls hW hS hl
  exact lv_lload_n ok.1 ok.2.1 hd rfl (lvA_get (i := 0) (v := .long x) hl rfl) (h ok H locs ls hW hS hl)
theorem aw_lload_1 {K : KT} {M : MT} {T : TT} {pc : Nat} {st : List Value} {n : Nat} {R : Rg} {σ : Sg} {a0 : Option Value} {r : List (Option Value)} {x : Int64} (hd : decode M.2.1 pc = .ok (.lload_n 1, 1)) (h : AW K M T (pc + 1) (a0 :: some (.long x) :: r) (.long x :: st) n R σ) : AW K M T pc (a0 :: some (.long x) :: r) st n R σ := by
  obtain ⟨⟨p, l, e, s, m⟩, ⟨args, below, meth, c⟩, D, g, ext, base, n0, rm⟩ := K
  intro ok H locs ls hW hS hl
  exact lv_lload_n ok.1 ok.2.1 hd rfl (lvA_get (i := 1) (v := .long x) hl rfl) (h ok H locs ls hW hS hl)
theorem aw_lload_2 {K : KT} {M : MT} {T : TT} {pc : Nat} {st : List Value} {n : Nat} {R : Rg} {σ : Sg} {a0 a1 : Option Value} {r : List (Option Value)} {x : Int64} (hd : decode M.2.1 pc = .ok (.lload_n 2, 1)) (h : AW K M T (pc + 1) (a0 :: a1 :: some (.long x) :: r) (.long x :: st) n R σ) : AW K M T pc (a0 :: a1 :: some (.long x) :: r) st n R σ := by
  obtain ⟨⟨p, l, e, s, m⟩, ⟨args, below, meth, c⟩, D, g, ext, base, n0, rm⟩ := K
  intro ok H locs ls hW hS hl
  exact lv_lload_n ok.1 ok.2.1 hd rfl (lvA_get (i := 2) (v := .long x) hl rfl) (h ok H locs ls hW hS hl)
theorem aw_lload_3 {K : KT} {M : MT} {T : TT} {pc : Nat} {st : List Value} {n : Nat} {R : Rg} {σ : Sg} {a0 a1 a2 : Option Value} {r : List (Option Value)} {x : Int64} (hd : decode M.2.1 pc = .ok (.lload_n 3, 1)) (h : AW K M T (pc + 1) (a0 :: a1 :: a2 :: some (.long x) :: r) (.long x :: st) n R σ) : AW K M T pc (a0 :: a1 :: a2 :: some (.long x) :: r) st n R σ := by
  obtain ⟨⟨p, l, e, s, m⟩, ⟨args, below, meth, c⟩, D, g, ext, base, n0, rm⟩ := K
  intro ok H locs ls hW hS hl
  exact lv_lload_n ok.1 ok.2.1 hd rfl (lvA_get (i := 3) (v := .long x) hl rfl) (h ok H locs ls hW hS hl)
theorem aw_lload_4 {K : KT} {M : MT} {T : TT} {pc : Nat} {st : List Value} {n : Nat} {R : Rg} {σ : Sg} {a0 a1 a2 a3 : Option Value} {r : List (Option Value)} {x : Int64} (hd : decode M.2.1 pc = .ok (.lload 4, 2)) (h : AW K M T (pc + 2) (a0 :: a1 :: a2 :: a3 :: some (.long x) :: r) (.long x :: st) n R σ) : AW K M T pc (a0 :: a1 :: a2 :: a3 :: some (.long x) :: r) st n R σ := by
  obtain ⟨⟨p, l, e, s, m⟩, ⟨args, below, meth, c⟩, D, g, ext, base, n0, rm⟩ := K
  intro ok H locs ls hW hS hl
  exact lv_lload ok.1 ok.2.1 hd (lvA_get (i := 4) (v := .long x) hl rfl) (h ok H locs ls hW hS hl)
theorem aw_lload_5 {K : KT} {M : MT} {T : TT} {pc : Nat} {st : List Value} {n : Nat} {R : Rg} {σ : Sg} {a0 a1 a2 a3 a4 : Option Value} {r : List (Option Value)} {x : Int64} (hd : decode M.2.1 pc = .ok (.lload 5, 2)) (h : AW K M T (pc + 2) (a0 :: a1 :: a2 :: a3 :: a4 :: some (.long x) :: r) (.long x :: st) n R σ) : AW K M T pc (a0 :: a1 :: a2 :: a3 :: a4 :: some (.long x) :: r) st n R σ := by
  obtain ⟨⟨p, l, e, s, m⟩, ⟨args, below, meth, c⟩, D, g, ext, base, n0, rm⟩ := K
  intro ok H locs ls hW hS hl
  exact lv_lload ok.1 ok.2.1 hd (lvA_get (i := 5) (v := .long x) hl rfl) (h ok H locs ls hW hS hl)
theorem aw_lload_6 {K : KT} {M : MT} {T : TT} {pc : Nat} {st : List Value} {n : Nat} {R : Rg} {σ : Sg} {a0 a1 a2 a3 a4 a5 : Option Value} {r : List (Option Value)} {x : Int64} (hd : decode M.2.1 pc = .ok (.lload 6, 2)) (h : AW K M T (pc + 2) (a0 :: a1 :: a2 :: a3 :: a4 :: a5 :: some (.long x) :: r) (.long x :: st) n R σ) : AW K M T pc (a0 :: a1 :: a2 :: a3 :: a4 :: a5 :: some (.long x) :: r) st n R σ := by
  obtain ⟨⟨p, l, e, s, m⟩, ⟨args, below, meth, c⟩, D, g, ext, base, n0, rm⟩ := K
  intro ok H locs ls hW hS hl
  exact lv_lload ok.1 ok.2.1 hd (lvA_get (i := 6) (v := .long x) hl rfl) (h ok H locs ls hW hS hl)
theorem aw_lload_7 {K : KT} {M : MT} {T : TT} {pc : Nat} {st : List Value} {n : Nat} {R : Rg} {σ : Sg} {a0 a1 a2 a3 a4 a5 a6 : Option Value} {r : List (Option Value)} {x : Int64} (hd : decode M.2.1 pc = .ok (.lload 7, 2)) (h : AW K M T (pc + 2) (a0 :: a1 :: a2 :: a3 :: a4 :: a5 :: a6 :: some (.long x) :: r) (.long x :: st) n R σ) : AW K M T pc (a0 :: a1 :: a2 :: a3 :: a4 :: a5 :: a6 :: some (.long x) :: r) st n R σ := by
  obtain ⟨⟨p, l, e, s, m⟩, ⟨args, below, meth, c⟩, D, g, ext, base, n0, rm⟩ := K
  intro ok H locs ls hW hS hl
  exact lv_lload ok.1 ok.2.1 hd (lvA_get (i := 7) (v := .long x) hl rfl) (h ok H locs ls hW hS hl)
theorem aw_lload_8 {K : KT} {M : MT} {T : TT} {pc : Nat} {st : List Value} {n : Nat} {R : Rg} {σ : Sg} {a0 a1 a2 a3 a4 a5 a6 a7 : Option Value} {r : List (Option Value)} {x : Int64} (hd : decode M.2.1 pc = .ok (.lload 8, 2)) (h : AW K M T (pc + 2) (a0 :: a1 :: a2 :: a3 :: a4 :: a5 :: a6 :: a7 :: some (.long x) :: r) (.long x :: st) n R σ) : AW K M T pc (a0 :: a1 :: a2 :: a3 :: a4 :: a5 :: a6 :: a7 :: some (.long x) :: r) st n R σ := by
  obtain ⟨⟨p, l, e, s, m⟩, ⟨args, below, meth, c⟩, D, g, ext, base, n0, rm⟩ := K
  intro ok H locs ls hW hS hl
  exact lv_lload ok.1 ok.2.1 hd (lvA_get (i := 8) (v := .long x) hl rfl) (h ok H locs ls hW hS hl)
theorem aw_lload_9 {K : KT} {M : MT} {T : TT} {pc : Nat} {st : List Value} {n : Nat} {R : Rg} {σ : Sg} {a0 a1 a2 a3 a4 a5 a6 a7 a8 : Option Value} {r : List (Option Value)} {x : Int64} (hd : decode M.2.1 pc = .ok (.lload 9, 2)) (h : AW K M T (pc + 2) (a0 :: a1 :: a2 :: a3 :: a4 :: a5 :: a6 :: a7 :: a8 :: some (.long x) :: r) (.long x :: st) n R σ) : AW K M T pc (a0 :: a1 :: a2 :: a3 :: a4 :: a5 :: a6 :: a7 :: a8 :: some (.long x) :: r) st n R σ := by
  obtain ⟨⟨p, l, e, s, m⟩, ⟨args, below, meth, c⟩, D, g, ext, base, n0, rm⟩ := K
  intro ok H locs ls hW hS hl
  exact lv_lload ok.1 ok.2.1 hd (lvA_get (i := 9) (v := .long x) hl rfl) (h ok H locs ls hW hS hl)
theorem aw_lload_10 {K : KT} {M : MT} {T : TT} {pc : Nat} {st : List Value} {n : Nat} {R : Rg} {σ : Sg} {a0 a1 a2 a3 a4 a5 a6 a7 a8 a9 : Option Value} {r : List (Option Value)} {x : Int64} (hd : decode M.2.1 pc = .ok (.lload 10, 2)) (h : AW K M T (pc + 2) (a0 :: a1 :: a2 :: a3 :: a4 :: a5 :: a6 :: a7 :: a8 :: a9 :: some (.long x) :: r) (.long x :: st) n R σ) : AW K M T pc (a0 :: a1 :: a2 :: a3 :: a4 :: a5 :: a6 :: a7 :: a8 :: a9 :: some (.long x) :: r) st n R σ := by
  obtain ⟨⟨p, l, e, s, m⟩, ⟨args, below, meth, c⟩, D, g, ext, base, n0, rm⟩ := K
  intro ok H locs ls hW hS hl
  exact lv_lload ok.1 ok.2.1 hd (lvA_get (i := 10) (v := .long x) hl rfl) (h ok H locs ls hW hS hl)
theorem aw_lload_11 {K : KT} {M : MT} {T : TT} {pc : Nat} {st : List Value} {n : Nat} {R : Rg} {σ : Sg} {a0 a1 a2 a3 a4 a5 a6 a7 a8 a9 a10 : Option Value} {r : List (Option Value)} {x : Int64} (hd : decode M.2.1 pc = .ok (.lload 11, 2)) (h : AW K M T (pc + 2) (a0 :: a1 :: a2 :: a3 :: a4 :: a5 :: a6 :: a7 :: a8 :: a9 :: a10 :: some (.long x) :: r) (.long x :: st) n R σ) : AW K M T pc (a0 :: a1 :: a2 :: a3 :: a4 :: a5 :: a6 :: a7 :: a8 :: a9 :: a10 :: some (.long x) :: r) st n R σ := by
  obtain ⟨⟨p, l, e, s, m⟩, ⟨args, below, meth, c⟩, D, g, ext, base, n0, rm⟩ := K
  intro ok H locs ls hW hS hl
  exact lv_lload ok.1 ok.2.1 hd (lvA_get (i := 11) (v := .long x) hl rfl) (h ok H locs ls hW hS hl)
theorem aw_lload_12 {K : KT} {M : MT} {T : TT} {pc : Nat} {st : List Value} {n : Nat} {R : Rg} {σ : Sg} {a0 a1 a2 a3 a4 a5 a6 a7 a8 a9 a10 a11 : Option Value} {r : List (Option Value)} {x : Int64} (hd : decode M.2.1 pc = .ok (.lload 12, 2)) (h : AW K M T (pc + 2) (a0 :: a1 :: a2 :: a3 :: a4 :: a5 :: a6 :: a7 :: a8 :: a9 :: a10 :: a11 :: some (.long x) :: r) (.long x :: st) n R σ) : AW K M T pc (a0 :: a1 :: a2 :: a3 :: a4 :: a5 :: a6 :: a7 :: a8 :: a9 :: a10 :: a11 :: some (.long x) :: r) st n R σ := by
  obtain ⟨⟨p, l, e, s, m⟩, ⟨args, below, meth, c⟩, D, g, ext, base, n0, rm⟩ := K
  intro ok H locs ls hW hS hl
  exact lv_lload ok.1 ok.2.1 hd (lvA_get (i := 12) (v := .long x) hl rfl) (h ok H locs ls hW hS hl)
theorem aw_lload_13 {K : KT} {M : MT} {T : TT} {pc : Nat} {st : List Value} {n : Nat} {R : Rg} {σ : Sg} {a0 a1 a2 a3 a4 a5 a6 a7 a8 a9 a10 a11 a12 : Option Value} {r : List (Option Value)} {x : Int64} (hd : decode M.2.1 pc = .ok (.lload 13, 2)) (h : AW K M T (pc + 2) (a0 :: a1 :: a2 :: a3 :: a4 :: a5 :: a6 :: a7 :: a8 :: a9 :: a10 :: a11 :: a12 :: some (.long x) :: r) (.long x :: st) n R σ) : AW K M T pc (a0 :: a1 :: a2 :: a3 :: a4 :: a5 :: a6 :: a7 :: a8 :: a9 :: a10 :: a11 :: a12 :: some (.long x) :: r) st n R σ := by
  obtain ⟨⟨p, l, e, s, m⟩, ⟨args, below, meth, c⟩, D, g, ext, base, n0, rm⟩ := K
  intro ok H locs ls hW hS hl
  exact lv_lload ok.1 ok.2.1 hd (lvA_get (i := 13) (v := .long x) hl rfl) (h ok H locs ls hW hS hl)
theorem aw_aload_0 {K : KT} {M : MT} {T : TT} {pc : Nat} {st : List Value} {n : Nat} {R : Rg} {σ : Sg} {r : List (Option Value)} {x : Nat} (hd : decode M.2.1 pc = .ok (.aload_n 0, 1)) (h : AW K M T (pc + 1) (some (.ref x) :: r) (.ref x :: st) n R σ) : AW K M T pc (some (.ref x) :: r) st n R σ := by
  obtain ⟨⟨p, l, e, s, m⟩, ⟨args, below, meth, c⟩, D, g, ext, base, n0, rm⟩ := K
  intro ok H locs ls hW hS hl
  exact lv_aload_n ok.1 ok.2.1 hd rfl (lvA_get (i := 0) (v := .ref x) hl rfl) (h ok H locs ls hW hS hl)
theorem aw_aload_1 {K : KT} {M : MT} {T : TT} {pc : Nat} {st : List Value} {n : Nat} {R : Rg} {σ : Sg} {a0 : Option Value} {r : List (Option Value)} {x : Nat} (hd : decode M.2.1 pc = .ok (.aload_n 1, 1)) (h : AW K M T (pc + 1) (a0 :: some (.ref x) :: r) (.ref x :: st) n R σ) : AW K M T pc (a0 :: some (.ref x) :: r) st n R σ := by
  obtain ⟨⟨p, l, e, s, m⟩, ⟨args, below, meth, c⟩, D, g, ext, base, n0, rm⟩ := K
  intro ok H locs ls hW hS hl
  exact lv_aload_n ok.1 ok.2.1 hd rfl (lvA_get (i := 1) (v := .ref x) hl rfl) (h ok H locs ls hW hS hl)
theorem aw_aload_2 {K : KT} {M : MT} {T : TT} {pc : Nat} {st : List Value} {n : Nat} {R : Rg} {σ : Sg} {a0 a1 : Option Value} {r : List (Option Value)} {x : Nat} (hd : decode M.2.1 pc = .ok (.aload_n 2, 1)) (h : AW K M T (pc + 1) (a0 :: a1 :: some (.ref x) :: r) (.ref x :: st) n R σ) : AW K M T pc (a0 :: a1 :: some (.ref x) :: r) st n R σ := by
  obtain ⟨⟨p, l, e, s, m⟩, ⟨args, below, meth, c⟩, D, g, ext, base, n0, rm⟩ := K
  intro ok H locs ls hW hS hl
  exact lv_aload_n ok.1 ok.2.1 hd rfl (lvA_get (i := 2) (v := .ref x) hl rfl) (h ok H locs ls hW hS hl)
theorem aw_aload_3 {K : KT} {M : MT} {T : TT} {pc : Nat} {st : List Value} {n : Nat} {R : Rg} {σ : Sg} {a0 a1 a2 : Option Value} {r : List (Option Value)} {x : Nat} (hd : decode M.2.1 pc = .ok (.aload_n 3, 1)) (h : AW K M T (pc + 1) (a0 :: a1 :: a2 :: some (.ref x) :: r) (.ref x :: st) n R σ) : AW K M T pc (a0 :: a1 :: a2 :: some (.ref x) :: r) st n R σ := by
  obtain ⟨⟨p, l, e, s, m⟩, ⟨args, below, meth, c⟩, D, g, ext, base, n0, rm⟩ := K
  intro ok H locs ls hW hS hl
  exact lv_aload_n ok.1 ok.2.1 hd rfl (lvA_get (i := 3) (v := .ref x) hl rfl) (h ok H locs ls hW hS hl)
theorem aw_aload_4 {K : KT} {M : MT} {T : TT} {pc : Nat} {st : List Value} {n : Nat} {R : Rg} {σ : Sg} {a0 a1 a2 a3 : Option Value} {r : List (Option Value)} {x : Nat} (hd : decode M.2.1 pc = .ok (.aload 4, 2)) (h : AW K M T (pc + 2) (a0 :: a1 :: a2 :: a3 :: some (.ref x) :: r) (.ref x :: st) n R σ) : AW K M T pc (a0 :: a1 :: a2 :: a3 :: some (.ref x) :: r) st n R σ := by
  obtain ⟨⟨p, l, e, s, m⟩, ⟨args, below, meth, c⟩, D, g, ext, base, n0, rm⟩ := K
  intro ok H locs ls hW hS hl
  exact lv_aload ok.1 ok.2.1 hd (lvA_get (i := 4) (v := .ref x) hl rfl) (h ok H locs ls hW hS hl)
theorem aw_aload_5 {K : KT} {M : MT} {T : TT} {pc : Nat} {st : List Value} {n : Nat} {R : Rg} {σ : Sg} {a0 a1 a2 a3 a4 : Option Value} {r : List (Option Value)} {x : Nat} (hd : decode M.2.1 pc = .ok (.aload 5, 2)) (h : AW K M T (pc + 2) (a0 :: a1 :: a2 :: a3 :: a4 :: some (.ref x) :: r) (.ref x :: st) n R σ) : AW K M T pc (a0 :: a1 :: a2 :: a3 :: a4 :: some (.ref x) :: r) st n R σ := by
  obtain ⟨⟨p, l, e, s, m⟩, ⟨args, below, meth, c⟩, D, g, ext, base, n0, rm⟩ := K
  intro ok H locs ls hW hS hl
  exact lv_aload ok.1 ok.2.1 hd (lvA_get (i := 5) (v := .ref x) hl rfl) (h ok H locs ls hW hS hl)
theorem aw_aload_6 {K : KT} {M : MT} {T : TT} {pc : Nat} {st : List Value} {n : Nat} {R : Rg} {σ : Sg} {a0 a1 a2 a3 a4 a5 : Option Value} {r : List (Option Value)} {x : Nat} (hd : decode M.2.1 pc = .ok (.aload 6, 2)) (h : AW K M T (pc + 2) (a0 :: a1 :: a2 :: a3 :: a4 :: a5 :: some (.ref x) :: r) (.ref x :: st) n R σ) : AW K M T pc (a0 :: a1 :: a2 :: a3 :: a4 :: a5 :: some (.ref x) :: r) st n R σ := by
  obtain ⟨⟨p, l, e, s, m⟩, ⟨args, below, meth, c⟩, D, g, ext, base, n0, rm⟩ := K
  intro ok H locs ls hW hS hl
  exact lv_aload ok.1 ok.2.1 hd (lvA_get (i := 6) (v := .ref x) hl rfl) (h ok H locs ls hW hS hl)
theorem aw_aload_7 {K : KT} {M : MT} {T : TT} {pc : Nat} {st : List Value} {n : Nat} {R : Rg} {σ : Sg} {a0 a1 a2 a3 a4 a5 a6 : Option Value} {r : List (Option Value)} {x : Nat} (hd : decode M.2.1 pc = .ok (.aload 7, 2)) (h : AW K M T (pc + 2) (a0 :: a1 :: a2 :: a3 :: a4 :: a5 :: a6 :: some (.ref x) :: r) (.ref x :: st) n R σ) : AW K M T pc (a0 :: a1 :: a2 :: a3 :: a4 :: a5 :: a6 :: some (.ref x) :: r) st n R σ := by
  obtain ⟨⟨p, l, e, s, m⟩, ⟨args, below, meth, c⟩, D, g, ext, base, n0, rm⟩ := K
  intro ok H locs ls hW hS hl
  exact lv_aload ok.1 ok.2.1 hd (lvA_get (i := 7) (v := .ref x) hl rfl) (h ok H locs ls hW hS hl)
theorem aw_aload_8 {K : KT} {M : MT} {T : TT} {pc : Nat} {st : List Value} {n : Nat} {R : Rg} {σ : Sg} {a0 a1 a2 a3 a4 a5 a6 a7 : Option Value} {r : List (Option Value)} {x : Nat} (hd : decode M.2.1 pc = .ok (.aload 8, 2)) (h : AW K M T (pc + 2) (a0 :: a1 :: a2 :: a3 :: a4 :: a5 :: a6 :: a7 :: some (.ref x) :: r) (.ref x :: st) n R σ) : AW K M T pc (a0 :: a1 :: a2 :: a3 :: a4 :: a5 :: a6 :: a7 :: some (.ref x) :: r) st n R σ := by
  obtain ⟨⟨p, l, e, s, m⟩, ⟨args, below, meth, c⟩, D, g, ext, base, n0, rm⟩ := K
  intro ok H locs ls hW hS hl
  exact lv_aload ok.1 ok.2.1 hd (lvA_get (i := 8) (v := .ref x) hl rfl) (h ok H locs ls hW hS hl)
theorem aw_aload_9 {K : KT} {M : MT} {T : TT} {pc : Nat} {st : List Value} {n : Nat} {R : Rg} {σ : Sg} {a0 a1 a2 a3 a4 a5 a6 a7 a8 : Option Value} {r : List (Option Value)} {x : Nat} (hd : decode M.2.1 pc = .ok (.aload 9, 2)) (h : AW K M T (pc + 2) (a0 :: a1 :: a2 :: a3 :: a4 :: a5 :: a6 :: a7 :: a8 :: some (.ref x) :: r) (.ref x :: st) n R σ) : AW K M T pc (a0 :: a1 :: a2 :: a3 :: a4 :: a5 :: a6 :: a7 :: a8 :: some (.ref x) :: r) st n R σ := by
  obtain ⟨⟨p, l, e, s, m⟩, ⟨args, below, meth, c⟩, D, g, ext, base, n0, rm⟩ := K
  intro ok H locs ls hW hS hl
  exact lv_aload ok.1 ok.2.1 hd (lvA_get (i := 9) (v := .ref x) hl rfl) (h ok H locs ls hW hS hl)
theorem aw_aload_10 {K : KT} {M : MT} {T : TT} {pc : Nat} {st : List Value} {n : Nat} {R : Rg} {σ : Sg} {a0 a1 a2 a3 a4 a5 a6 a7 a8 a9 : Option Value} {r : List (Option Value)} {x : Nat} (hd : decode M.2.1 pc = .ok (.aload 10, 2)) (h : AW K M T (pc + 2) (a0 :: a1 :: a2 :: a3 :: a4 :: a5 :: a6 :: a7 :: a8 :: a9 :: some (.ref x) :: r) (.ref x :: st) n R σ) : AW K M T pc (a0 :: a1 :: a2 :: a3 :: a4 :: a5 :: a6 :: a7 :: a8 :: a9 :: some (.ref x) :: r) st n R σ := by
  obtain ⟨⟨p, l, e, s, m⟩, ⟨args, below, meth, c⟩, D, g, ext, base, n0, rm⟩ := K
  intro ok H locs ls hW hS hl
  exact lv_aload ok.1 ok.2.1 hd (lvA_get (i := 10) (v := .ref x) hl rfl) (h ok H locs ls hW hS hl)
theorem aw_aload_11 {K : KT} {M : MT} {T : TT} {pc : Nat} {st : List Value} {n : Nat} {R : Rg} {σ : Sg} {a0 a1 a2 a3 a4 a5 a6 a7 a8 a9 a10 : Option Value} {r : List (Option Value)} {x : Nat} (hd : decode M.2.1 pc = .ok (.aload 11, 2)) (h : AW K M T (pc + 2) (a0 :: a1 :: a2 :: a3 :: a4 :: a5 :: a6 :: a7 :: a8 :: a9 :: a10 :: some (.ref x) :: r) (.ref x :: st) n R σ) : AW K M T pc (a0 :: a1 :: a2 :: a3 :: a4 :: a5 :: a6 :: a7 :: a8 :: a9 :: a10 :: some (.ref x) :: r) st n R σ := by
  obtain ⟨⟨p, l, e, s, m⟩, ⟨args, below, meth, c⟩, D, g, ext, base, n0, rm⟩ := K
  intro ok H locs ls hW hS hl
  exact lv_aload ok.1 ok.2.1 hd (lvA_get (i := 11) (v := .ref x) hl rfl) (h ok H locs ls hW hS hl)
theorem aw_aload_12 {K : KT} {M : MT} {T : TT} {pc : Nat} {st : List Value} {n : Nat} {R : Rg} {σ : Sg} {a0 a1 a2 a3 a4 a5 a6 a7 a8 a9 a10 a11 : Option Value} {r : List (Option Value)} {x : Nat} (hd : decode M.2.1 pc = .ok (.aload 12, 2)) (h : AW K M T (pc + 2) (a0 :: a1 :: a2 :: a3 :: a4 :: a5 :: a6 :: a7 :: a8 :: a9 :: a10 :: a11 :: some (.ref x) :: r) (.ref x :: st) n R σ) : AW K M T pc (a0 :: a1 :: a2 :: a3 :: a4 :: a5 :: a6 :: a7 :: a8 :: a9 :: a10 :: a11 :: some (.ref x) :: r) st n R σ := by
  obtain ⟨⟨p, l, e, s, m⟩, ⟨args, below, meth, c⟩, D, g, ext, base, n0, rm⟩ := K
  intro ok H locs ls hW hS hl
  exact lv_aload ok.1 ok.2.1 hd (lvA_get (i := 12) (v := .ref x) hl rfl) (h ok H locs ls hW hS hl)
theorem aw_aload_13 {K : KT} {M : MT} {T : TT} {pc : Nat} {st : List Value} {n : Nat} {R : Rg} {σ : Sg} {a0 a1 a2 a3 a4 a5 a6 a7 a8 a9 a10 a11 a12 : Option Value} {r : List (Option Value)} {x : Nat} (hd : decode M.2.1 pc = .ok (.aload 13, 2)) (h : AW K M T (pc + 2) (a0 :: a1 :: a2 :: a3 :: a4 :: a5 :: a6 :: a7 :: a8 :: a9 :: a10 :: a11 :: a12 :: some (.ref x) :: r) (.ref x :: st) n R σ) : AW K M T pc (a0 :: a1 :: a2 :: a3 :: a4 :: a5 :: a6 :: a7 :: a8 :: a9 :: a10 :: a11 :: a12 :: some (.ref x) :: r) st n R σ := by
  obtain ⟨⟨p, l, e, s, m⟩, ⟨args, below, meth, c⟩, D, g, ext, base, n0, rm⟩ := K
  intro ok H locs ls hW hS hl
  exact lv_aload ok.1 ok.2.1 hd (lvA_get (i := 13) (v := .ref x) hl rfl) (h ok H locs ls hW hS hl)
theorem aw_istore_0 {K : KT} {M : MT} {T : TT} {pc : Nat} {st : List Value} {n : Nat} {R : Rg} {σ : Sg} {o : Option Value} {r : List (Option Value)} {x : Int32} (hd : decode M.2.1 pc = .ok (.istore_n 0, 1)) (hn : 0 < M.2.2.1) (h : AW K M T (pc + 1) (some (.int x) :: r) st n R σ) : AW K M T pc (o :: r) (.int x :: st) n R σ := by
  obtain ⟨⟨p, l, e, s, m⟩, ⟨args, below, meth, c⟩, D, g, ext, base, n0, rm⟩ := K
  intro ok H locs ls hW hS hl
  exact lv_istore_n (i := 0) ok.1 ok.2.1 hd rfl hl hn rfl (fun ls' hl' => h ok H locs ls' hW hS (by have z := lvA_set1 (i := 0) (v := .int x) (fun w q _ => absurd q (Nat.lt_irrefl 0)) (by simp) hl'; simpa using z))
theorem aw_istore_1 {K : KT} {M : MT} {T : TT} {pc : Nat} {st : List Value} {n : Nat} {R : Rg} {σ : Sg} {a0 o : Option Value} {r : List (Option Value)} {x : Int32} (hd : decode M.2.1 pc = .ok (.istore_n 1, 1)) (hn : 1 < M.2.2.1) (hp : okc a0 = true) (h : AW K M T (pc + 1) (a0 :: some (.int x) :: r) st n R σ) : AW K M T pc (a0 :: o :: r) (.int x :: st) n R σ := by
  obtain ⟨⟨p, l, e, s, m⟩, ⟨args, below, meth, c⟩, D, g, ext, base, n0, rm⟩ := K
  intro ok H locs ls hW hS hl
  exact lv_istore_n (i := 1) ok.1 ok.2.1 hd rfl hl hn rfl (fun ls' hl' => h ok H locs ls' hW hS (by have z := lvA_set1 (i := 1) (v := .int x) (fun w _ e => by simp at e; rw [← e]; exact hp) (by simp) hl'; simpa using z))
theorem aw_istore_2 {K : KT} {M : MT} {T : TT} {pc : Nat} {st : List Value} {n : Nat} {R : Rg} {σ : Sg} {a0 a1 o : Option Value} {r : List (Option Value)} {x : Int32} (hd : decode M.2.1 pc = .ok (.istore_n 2, 1)) (hn : 2 < M.2.2.1) (hp : okc a1 = true) (h : AW K M T (pc + 1) (a0 :: a1 :: some (.int x) :: r) st n R σ) : AW K M T pc (a0 :: a1 :: o :: r) (.int x :: st) n R σ := by
  obtain ⟨⟨p, l, e, s, m⟩, ⟨args, below, meth, c⟩, D, g, ext, base, n0, rm⟩ := K
  intro ok H locs ls hW hS hl
  exact lv_istore_n (i := 2) ok.1 ok.2.1 hd rfl hl hn rfl (fun ls' hl' => h ok H locs ls' hW hS (by have z := lvA_set1 (i := 2) (v := .int x) (fun w _ e => by simp at e; rw [← e]; exact hp) (by simp) hl'; simpa using z))
theorem aw_istore_3 {K : KT} {M : MT} {T : TT} {pc : Nat} {st : List Value} {n : Nat} {R : Rg} {σ : Sg} {a0 a1 a2 o : Option Value} {r : List (Option Value)} {x : Int32} (hd : decode M.2.1 pc = .ok (.istore_n 3, 1)) (hn : 3 < M.2.2.1) (hp : okc a2 = true) (h : AW K M T (pc + 1) (a0 :: a1 :: a2 :: some (.int x) :: r) st n R σ) : AW K M T pc (a0 :: a1 :: a2 :: o :: r) (.int x :: st) n R σ := by
  obtain ⟨⟨p, l, e, s, m⟩, ⟨args, below, meth, c⟩, D, g, ext, base, n0, rm⟩ := K
  intro ok H locs ls hW hS hl
  exact lv_istore_n (i := 3) ok.1 ok.2.1 hd rfl hl hn rfl (fun ls' hl' => h ok H locs ls' hW hS (by have z := lvA_set1 (i := 3) (v := .int x) (fun w _ e => by simp at e; rw [← e]; exact hp) (by simp) hl'; simpa using z))
theorem aw_istore_4 {K : KT} {M : MT} {T : TT} {pc : Nat} {st : List Value} {n : Nat} {R : Rg} {σ : Sg} {a0 a1 a2 a3 o : Option Value} {r : List (Option Value)} {x : Int32} (hd : decode M.2.1 pc = .ok (.istore 4, 2)) (hn : 4 < M.2.2.1) (hp : okc a3 = true) (h : AW K M T (pc + 2) (a0 :: a1 :: a2 :: a3 :: some (.int x) :: r) st n R σ) : AW K M T pc (a0 :: a1 :: a2 :: a3 :: o :: r) (.int x :: st) n R σ := by
  obtain ⟨⟨p, l, e, s, m⟩, ⟨args, below, meth, c⟩, D, g, ext, base, n0, rm⟩ := K
  intro ok H locs ls hW hS hl
  exact lv_istore (i := 4) ok.1 ok.2.1 hd hl hn rfl (fun ls' hl' => h ok H locs ls' hW hS (by have z := lvA_set1 (i := 4) (v := .int x) (fun w _ e => by simp at e; rw [← e]; exact hp) (by simp) hl'; simpa using z))
theorem aw_istore_5 {K : KT} {M : MT} {T : TT} {pc : Nat} {st : List Value} {n : Nat} {R : Rg} {σ : Sg} {a0 a1 a2 a3 a4 o : Option Value} {r : List (Option Value)} {x : Int32} (hd : decode M.2.1 pc = .ok (.istore 5, 2)) (hn : 5 < M.2.2.1) (hp : okc a4 = true) (h : AW K M T (pc + 2) (a0 :: a1 :: a2 :: a3 :: a4 :: some (.int x) :: r) st n R σ) : AW K M T pc (a0 :: a1 :: a2 :: a3 :: a4 :: o :: r) (.int x :: st) n R σ := by
  obtain ⟨⟨p, l, e, s, m⟩, ⟨args, below, meth, c⟩, D, g, ext, base, n0, rm⟩ := K
  intro ok H locs ls hW hS hl
  exact lv_istore (i := 5) ok.1 ok.2.1 hd hl hn rfl (fun ls' hl' => h ok H locs ls' hW hS (by have z := lvA_set1 (i := 5) (v := .int x) (fun w _ e => by simp at e; rw [← e]; exact hp) (by simp) hl'; simpa using z))
theorem aw_istore_6 {K : KT} {M : MT} {T : TT} {pc : Nat} {st : List Value} {n : Nat} {R : Rg} {σ : Sg} {a0 a1 a2 a3 a4 a5 o : Option Value} {r : List (Option Value)} {x : Int32} (hd : decode M.2.1 pc = .ok (.istore 6, 2)) (hn : 6 < M.2.2.1) (hp : okc a5 = true) (h : AW K M T (pc + 2) (a0 :: a1 :: a2 :: a3 :: a4 :: a5 :: some (.int x) :: r) st n R σ) : AW K M T pc (a0 :: a1 :: a2 :: a3 :: a4 :: a5 :: o :: r) (.int x :: st) n R σ := by
  obtain ⟨⟨p, l, e, s, m⟩, ⟨args, below, meth, c⟩, D, g, ext, base, n0, rm⟩ := K
  intro ok H locs ls hW hS hl
  exact lv_istore (i := 6) ok.1 ok.2.1 hd hl hn rfl (fun ls' hl' => h ok H locs ls' hW hS (by have z := lvA_set1 (i := 6) (v := .int x) (fun w _ e => by simp at e; rw [← e]; exact hp) (by simp) hl'; simpa using z))
theorem aw_istore_7 {K : KT} {M : MT} {T : TT} {pc : Nat} {st : List Value} {n : Nat} {R : Rg} {σ : Sg} {a0 a1 a2 a3 a4 a5 a6 o : Option Value} {r : List (Option Value)} {x : Int32} (hd : decode M.2.1 pc = .ok (.istore 7, 2)) (hn : 7 < M.2.2.1) (hp : okc a6 = true) (h : AW K M T (pc + 2) (a0 :: a1 :: a2 :: a3 :: a4 :: a5 :: a6 :: some (.int x) :: r) st n R σ) : AW K M T pc (a0 :: a1 :: a2 :: a3 :: a4 :: a5 :: a6 :: o :: r) (.int x :: st) n R σ := by
  obtain ⟨⟨p, l, e, s, m⟩, ⟨args, below, meth, c⟩, D, g, ext, base, n0, rm⟩ := K
  intro ok H locs ls hW hS hl
  exact lv_istore (i := 7) ok.1 ok.2.1 hd hl hn rfl (fun ls' hl' => h ok H locs ls' hW hS (by have z := lvA_set1 (i := 7) (v := .int x) (fun w _ e => by simp at e; rw [← e]; exact hp) (by simp) hl'; simpa using z))
theorem aw_istore_8 {K : KT} {M : MT} {T : TT} {pc : Nat} {st : List Value} {n : Nat} {R : Rg} {σ : Sg} {a0 a1 a2 a3 a4 a5 a6 a7 o : Option Value} {r : List (Option Value)} {x : Int32} (hd : decode M.2.1 pc = .ok (.istore 8, 2)) (hn : 8 < M.2.2.1) (hp : okc a7 = true) (h : AW K M T (pc + 2) (a0 :: a1 :: a2 :: a3 :: a4 :: a5 :: a6 :: a7 :: some (.int x) :: r) st n R σ) : AW K M T pc (a0 :: a1 :: a2 :: a3 :: a4 :: a5 :: a6 :: a7 :: o :: r) (.int x :: st) n R σ := by
  obtain ⟨⟨p, l, e, s, m⟩, ⟨args, below, meth, c⟩, D, g, ext, base, n0, rm⟩ := K
  intro ok H locs ls hW hS hl
  exact lv_istore (i := 8) ok.1 ok.2.1 hd hl hn rfl (fun ls' hl' => h ok H locs ls' hW hS (by have z := lvA_set1 (i := 8) (v := .int x) (fun w _ e => by simp at e; rw [← e]; exact hp) (by simp) hl'; simpa using z))
theorem aw_istore_9 {K : KT} {M : MT} {T : TT} {pc : Nat} {st : List Value} {n : Nat} {R : Rg} {σ : Sg} {a0 a1 a2 a3 a4 a5 a6 a7 a8 o : Option Value} {r : List (Option Value)} {x : Int32} (hd : decode M.2.1 pc = .ok (.istore 9, 2)) (hn : 9 < M.2.2.1) (hp : okc a8 = true) (h : AW K M T (pc + 2) (a0 :: a1 :: a2 :: a3 :: a4 :: a5 :: a6 :: a7 :: a8 :: some (.int x) :: r) st n R σ) : AW K M T pc (a0 :: a1 :: a2 :: a3 :: a4 :: a5 :: a6 :: a7 :: a8 :: o :: r) (.int x :: st) n R σ := by
  obtain ⟨⟨p, l, e, s, m⟩, ⟨args, below, meth, c⟩, D, g, ext, base, n0, rm⟩ := K
  intro ok H locs ls hW hS hl
  exact lv_istore (i := 9) ok.1 ok.2.1 hd hl hn rfl (fun ls' hl' => h ok H locs ls' hW hS (by have z := lvA_set1 (i := 9) (v := .int x) (fun w _ e => by simp at e; rw [← e]; exact hp) (by simp) hl'; simpa using z))
theorem aw_istore_10 {K : KT} {M : MT} {T : TT} {pc : Nat} {st : List Value} {n : Nat} {R : Rg} {σ : Sg} {a0 a1 a2 a3 a4 a5 a6 a7 a8 a9 o : Option Value} {r : List (Option Value)} {x : Int32} (hd : decode M.2.1 pc = .ok (.istore 10, 2)) (hn : 10 < M.2.2.1) (hp : okc a9 = true) (h : AW K M T (pc + 2) (a0 :: a1 :: a2 :: a3 :: a4 :: a5 :: a6 :: a7 :: a8 :: a9 :: some (.int x) :: r) st n R σ) : AW K M T pc (a0 :: a1 :: a2 :: a3 :: a4 :: a5 :: a6 :: a7 :: a8 :: a9 :: o :: r) (.int x :: st) n R σ := by
  obtain ⟨⟨p, l, e, s, m⟩, ⟨args, below, meth, c⟩, D, g, ext, base, n0, rm⟩ := K
  intro ok H locs ls hW hS hl
  exact lv_istore (i := 10) ok.1 ok.2.1 hd hl hn rfl (fun ls' hl' => h ok H locs ls' hW hS (by have z := lvA_set1 (i := 10) (v := .int x) (fun w _ e => by simp at e; rw [← e]; exact hp) (by simp) hl'; simpa using z))
theorem aw_istore_11 {K : KT} {M : MT} {T : TT} {pc : Nat} {st : List Value} {n : Nat} {R : Rg} {σ : Sg} {a0 a1 a2 a3 a4 a5 a6 a7 a8 a9 a10 o : Option Value} {r : List (Option Value)} {x : Int32} (hd : decode M.2.1 pc = .ok (.istore 11, 2)) (hn : 11 < M.2.2.1) (hp : okc a10 = true) (h : AW K M T (pc + 2) (a0 :: a1 :: a2 :: a3 :: a4 :: a5 :: a6 :: a7 :: a8 :: a9 :: a10 :: some (.int x) :: r) st n R σ) : AW K M T pc (a0 :: a1 :: a2 :: a3 :: a4 :: a5 :: a6 :: a7 :: a8 :: a9 :: a10 :: o :: r) (.int x :: st) n R σ := by
  obtain ⟨⟨p, l, e, s, m⟩, ⟨args, below, meth, c⟩, D, g, ext, base, n0, rm⟩ := K
  intro ok H locs ls hW hS hl
  exact lv_istore (i := 11) ok.1 ok.2.1 hd hl hn rfl (fun ls' hl' => h ok H locs ls' hW hS (by have z := lvA_set1 (i := 11) (v := .int x) (fun w _ e => by simp at e; rw [← e]; exact hp) (by simp) hl'; simpa using z))
theorem aw_istore_12 {K : KT} {M : MT} {T : TT} {pc : Nat} {st : List Value} {n : Nat} {R : Rg} {σ : Sg} {a0 a1 a2 a3 a4 a5 a6 a7 a8 a9 a10 a11 o : Option Value} {r : List (Option Value)} {x : Int32} (hd : decode M.2.1 pc = .ok (.istore 12, 2)) (hn : 12 < M.2.2.1) (hp : okc a11 = true) (h : AW K M T (pc + 2) (a0 :: a1 :: a2 :: a3 :: a4 :: a5 :: a6 :: a7 :: a8 :: a9 :: a10 :: a11 :: some (.int x) :: r) st n R σ) : AW K M T pc (a0 :: a1 :: a2 :: a3 :: a4 :: a5 :: a6 :: a7 :: a8 :: a9 :: a10 :: a11 :: o :: r) (.int x :: st) n R σ := by
  obtain ⟨⟨p, l, e, s, m⟩, ⟨args, below, meth, c⟩, D, g, ext, base, n0, rm⟩ := K
  intro ok H locs ls hW hS hl
  exact lv_istore (i := 12) ok.1 ok.2.1 hd hl hn rfl (fun ls' hl' => h ok H locs ls' hW hS (by have z := lvA_set1 (i := 12) (v := .int x) (fun w _ e => by simp at e; rw [← e]; exact hp) (by simp) hl'; simpa using z))
theorem aw_lstore_0 {K : KT} {M : MT} {T : TT} {pc : Nat} {st : List Value} {n : Nat} {R : Rg} {σ : Sg} {o o2 : Option Value} {r : List (Option Value)} {x : Int64} (hd : decode M.2.1 pc = .ok (.lstore_n 0, 1)) (hn : 1 < M.2.2.1) (h : AW K M T (pc + 1) (some (.long x) :: none :: r) st n R σ) : AW K M T pc (o :: o2 :: r) (.long x :: st) n R σ := by
  obtain ⟨⟨p, l, e, s, m⟩, ⟨args, below, meth, c⟩, D, g, ext, base, n0, rm⟩ := K
  intro ok H locs ls hW hS hl
  exact lv_lstore_n (i := 0) ok.1 ok.2.1 hd rfl hl hn rfl (fun ls' hl' => h ok H locs ls' hW hS (by have z := lvA_set2 (i := 0) (v := .long x) (fun w q _ => absurd q (Nat.lt_irrefl 0)) (by simp) hl'; simpa using z))
theorem aw_lstore_1 {K : KT} {M : MT} {T : TT} {pc : Nat} {st : List Value} {n : Nat} {R : Rg} {σ : Sg} {a0 o o2 : Option Value} {r : List (Option Value)} {x : Int64} (hd : decode M.2.1 pc = .ok (.lstore_n 1, 1)) (hn : 2 < M.2.2.1) (hp : okc a0 = true) (h : AW K M T (pc + 1) (a0 :: some (.long x) :: none :: r) st n R σ) : AW K M T pc (a0 :: o :: o2 :: r) (.long x :: st) n R σ := by
  obtain ⟨⟨p, l, e, s, m⟩, ⟨args, below, meth, c⟩, D, g, ext, base, n0, rm⟩ := K
  intro ok H locs ls hW hS hl
  exact lv_lstore_n (i := 1) ok.1 ok.2.1 hd rfl hl hn rfl (fun ls' hl' => h ok H locs ls' hW hS (by have z := lvA_set2 (i := 1) (v := .long x) (fun w _ e => by simp at e; rw [← e]; exact hp) (by simp) hl'; simpa using z))
theorem aw_lstore_2 {K : KT} {M : MT} {T : TT} {pc : Nat} {st : List Value} {n : Nat} {R : Rg} {σ : Sg} {a0 a1 o o2 : Option Value} {r : List (Option Value)} {x : Int64} (hd : decode M.2.1 pc = .ok (.lstore_n 2, 1)) (hn : 3 < M.2.2.1) (hp : okc a1 = true) (h : AW K M T (pc + 1) (a0 :: a1 :: some (.long x) :: none :: r) st n R σ) : AW K M T pc (a0 :: a1 :: o :: o2 :: r) (.long x :: st) n R σ := by
  obtain ⟨⟨p, l, e, s, m⟩, ⟨args, below, meth, c⟩, D, g, ext, base, n0, rm⟩ := K
  intro ok H locs ls hW hS hl
  exact lv_lstore_n (i := 2) ok.1 ok.2.1 hd rfl hl hn rfl (fun ls' hl' => h ok H locs ls' hW hS (by have z := lvA_set2 (i := 2) (v := .long x) (fun w _ e => by simp at e; rw [← e]; exact hp) (by simp) hl'; simpa using z))
theorem aw_lstore_3 {K : KT} {M : MT} {T : TT} {pc : Nat} {st : List Value} {n : Nat} {R : Rg} {σ : Sg} {a0 a1 a2 o o2 : Option Value} {r : List (Option Value)} {x : Int64} (hd : decode M.2.1 pc = .ok (.lstore_n 3, 1)) (hn : 4 < M.2.2.1) (hp : okc a2 = true) (h : AW K M T (pc + 1) (a0 :: a1 :: a2 :: some (.long x) :: none :: r) st n R σ) : AW K M T pc (a0 :: a1 :: a2 :: o :: o2 :: r) (.long x :: st) n R σ := by
  obtain ⟨⟨p, l, e, s, m⟩, ⟨args, below, meth, c⟩, D, g, ext, base, n0, rm⟩ := K
  intro ok H locs ls hW hS hl
  exact lv_lstore_n (i := 3) ok.1 ok.2.1 hd rfl hl hn rfl (fun ls' hl' => h ok H locs ls' hW hS (by have z := lvA_set2 (i := 3) (v := .long x) (fun w _ e => by simp at e; rw [← e]; exact hp) (by simp) hl'; simpa using z))
theorem aw_lstore_4 {K : KT} {M : MT} {T : TT} {pc : Nat} {st : List Value} {n : Nat} {R : Rg} {σ : Sg} {a0 a1 a2 a3 o o2 : Option Value} {r : List (Option Value)} {x : Int64} (hd : decode M.2.1 pc = .ok (.lstore 4, 2)) (hn : 5 < M.2.2.1) (hp : okc a3 = true) (h : AW K M T (pc + 2) (a0 :: a1 :: a2 :: a3 :: some (.long x) :: none :: r) st n R σ) : AW K M T pc (a0 :: a1 :: a2 :: a3 :: o :: o2 :: r) (.long x :: st) n R σ := by
  obtain ⟨⟨p, l, e, s, m⟩, ⟨args, below, meth, c⟩, D, g, ext, base, n0, rm⟩ := K
  intro ok H locs ls hW hS hl
  exact lv_lstore (i := 4) ok.1 ok.2.1 hd hl hn rfl (fun ls' hl' => h ok H locs ls' hW hS (by have z := lvA_set2 (i := 4) (v := .long x) (fun w _ e => by simp at e; rw [← e]; exact hp) (by simp) hl'; simpa using z))
theorem aw_lstore_5 {K : KT} {M : MT} {T : TT} {pc : Nat} {st : List Value} {n : Nat} {R : Rg} {σ : Sg} {a0 a1 a2 a3 a4 o o2 : Option Value} {r : List (Option Value)} {x : Int64} (hd : decode M.2.1 pc = .ok (.lstore 5, 2)) (hn : 6 < M.2.2.1) (hp : okc a4 = true) (h : AW K M T (pc + 2) (a0 :: a1 :: a2 :: a3 :: a4 :: some (.long x) :: none :: r) st n R σ) : AW K M T pc (a0 :: a1 :: a2 :: a3 :: a4 :: o :: o2 :: r) (.long x :: st) n R σ := by
  obtain ⟨⟨p, l, e, s, m⟩, ⟨args, below, meth, c⟩, D, g, ext, base, n0, rm⟩ := K
  intro ok H locs ls hW hS hl
  exact lv_lstore (i := 5) ok.1 ok.2.1 hd hl hn rfl (fun ls' hl' => h ok H locs ls' hW hS (by have z := lvA_set2 (i := 5) (v := .long x) (fun w _ e => by simp at e; rw [← e]; exact hp) (by simp) hl'; simpa using z))
theorem aw_lstore_6 {K : KT} {M : MT} {T : TT} {pc : Nat} {st : List Value} {n : Nat} {R : Rg} {σ : Sg} {a0 a1 a2 a3 a4 a5 o o2 : Option Value} {r : List (Option Value)} {x : Int64} (hd : decode M.2.1 pc = .ok (.lstore 6, 2)) (hn : 7 < M.2.2.1) (hp : okc a5 = true) (h : AW K M T (pc + 2) (a0 :: a1 :: a2 :: a3 :: a4 :: a5 :: some (.long x) :: none :: r) st n R σ) : AW K M T pc (a0 :: a1 :: a2 :: a3 :: a4 :: a5 :: o :: o2 :: r) (.long x :: st) n R σ := by
  obtain ⟨⟨p, l, e, s, m⟩, ⟨args, below, meth, c⟩, D, g, ext, base, n0, rm⟩ := K
  intro ok H locs ls hW hS hl
  exact lv_lstore (i := 6) ok.1 ok.2.1 hd hl hn rfl (fun ls' hl' => h ok H locs ls' hW hS (by have z := lvA_set2 (i := 6) (v := .long x) (fun w _ e => by simp at e; rw [← e]; exact hp) (by simp) hl'; simpa using z))
theorem aw_lstore_7 {K : KT} {M : MT} {T : TT} {pc : Nat} {st : List Value} {n : Nat} {R : Rg} {σ : Sg} {a0 a1 a2 a3 a4 a5 a6 o o2 : Option Value} {r : List (Option Value)} {x : Int64} (hd : decode M.2.1 pc = .ok (.lstore 7, 2)) (hn : 8 < M.2.2.1) (hp : okc a6 = true) (h : AW K M T (pc + 2) (a0 :: a1 :: a2 :: a3 :: a4 :: a5 :: a6 :: some (.long x) :: none :: r) st n R σ) : AW K M T pc (a0 :: a1 :: a2 :: a3 :: a4 :: a5 :: a6 :: o :: o2 :: r) (.long x :: st) n R σ := by
  obtain ⟨⟨p, l, e, s, m⟩, ⟨args, below, meth, c⟩, D, g, ext, base, n0, rm⟩ := K
  intro ok H locs ls hW hS hl
  exact lv_lstore (i := 7) ok.1 ok.2.1 hd hl hn rfl (fun ls' hl' => h ok H locs ls' hW hS (by have z := lvA_set2 (i := 7) (v := .long x) (fun w _ e => by simp at e; rw [← e]; exact hp) (by simp) hl'; simpa using z))
theorem aw_lstore_8 {K : KT} {M : MT} {T : TT} {pc : Nat} {st : List Value} {n : Nat} {R : Rg} {σ : Sg} {a0 a1 a2 a3 a4 a5 a6 a7 o o2 : Option Value} {r : List (Option Value)} {x : Int64} (hd : decode M.2.1 pc = .ok (.lstore 8, 2)) (hn : 9 < M.2.2.1) (hp : okc a7 = true) (h : AW K M T (pc + 2) (a0 :: a1 :: a2 :: a3 :: a4 :: a5 :: a6 :: a7 :: some (.long x) :: none :: r) st n R σ) : AW K M T pc (a0 :: a1 :: a2 :: a3 :: a4 :: a5 :: a6 :: a7 :: o :: o2 :: r) (.long x :: st) n R σ := by
  obtain ⟨⟨p, l, e, s, m⟩, ⟨args, below, meth, c⟩, D, g, ext, base, n0, rm⟩ := K
  intro ok H locs ls hW hS hl
  exact lv_lstore (i := 8) ok.1 ok.2.1 hd hl hn rfl (fun ls' hl' => h ok H locs ls' hW hS (by have z := lvA_set2 (i := 8) (v := .long x) (fun w _ e => by simp at e; rw [← e]; exact hp) (by simp) hl'; simpa using z))
theorem aw_lstore_9 {K : KT} {M : MT} {T : TT} {pc : Nat} {st : List Value} {n : Nat} {R : Rg} {σ : Sg} {a0 a1 a2 a3 a4 a5 a6 a7 a8 o o2 : Option Value} {r : List (Option Value)} {x : Int64} (hd : decode M.2.1 pc = .ok (.lstore 9, 2)) (hn : 10 < M.2.2.1) (hp : okc a8 = true) (h : AW K M T (pc + 2) (a0 :: a1 :: a2 :: a3 :: a4 :: a5 :: a6 :: a7 :: a8 :: some (.long x) :: none :: r) st n R σ) : AW K M T pc (a0 :: a1 :: a2 :: a3 :: a4 :: a5 :: a6 :: a7 :: a8 :: o :: o2 :: r) (.long x :: st) n R σ := by
  obtain ⟨⟨p, l, e, s, m⟩, ⟨args, below, meth, c⟩, D, g, ext, base, n0, rm⟩ := K
  intro ok H locs ls hW hS hl
  exact lv_lstore (i := 9) ok.1 ok.2.1 hd hl hn rfl (fun ls' hl' => h ok H locs ls' hW hS (by have z := lvA_set2 (i := 9) (v := .long x) (fun w _ e => by simp at e; rw [← e]; exact hp) (by simp) hl'; simpa using z))
theorem aw_lstore_10 {K : KT} {M : MT} {T : TT} {pc : Nat} {st : List Value} {n : Nat} {R : Rg} {σ : Sg} {a0 a1 a2 a3 a4 a5 a6 a7 a8 a9 o o2 : Option Value} {r : List (Option Value)} {x : Int64} (hd : decode M.2.1 pc = .ok (.lstore 10, 2)) (hn : 11 < M.2.2.1) (hp : okc a9 = true) (h : AW K M T (pc + 2) (a0 :: a1 :: a2 :: a3 :: a4 :: a5 :: a6 :: a7 :: a8 :: a9 :: some (.long x) :: none :: r) st n R σ) : AW K M T pc (a0 :: a1 :: a2 :: a3 :: a4 :: a5 :: a6 :: a7 :: a8 :: a9 :: o :: o2 :: r) (.long x :: st) n R σ := by
  obtain ⟨⟨p, l, e, s, m⟩, ⟨args, below, meth, c⟩, D, g, ext, base, n0, rm⟩ := K
  intro ok H locs ls hW hS hl
  exact lv_lstore (i := 10) ok.1 ok.2.1 hd hl hn rfl (fun ls' hl' => h ok H locs ls' hW hS (by have z := lvA_set2 (i := 10) (v := .long x) (fun w _ e => by simp at e; rw [← e]; exact hp) (by simp) hl'; simpa using z))
theorem aw_lstore_11 {K : KT} {M : MT} {T : TT} {pc : Nat} {st : List Value} {n : Nat} {R : Rg} {σ : Sg} {a0 a1 a2 a3 a4 a5 a6 a7 a8 a9 a10 o o2 : Option Value} {r : List (Option Value)} {x : Int64} (hd : decode M.2.1 pc = .ok (.lstore 11, 2)) (hn : 12 < M.2.2.1) (hp : okc a10 = true) (h : AW K M T (pc + 2) (a0 :: a1 :: a2 :: a3 :: a4 :: a5 :: a6 :: a7 :: a8 :: a9 :: a10 :: some (.long x) :: none :: r) st n R σ) : AW K M T pc (a0 :: a1 :: a2 :: a3 :: a4 :: a5 :: a6 :: a7 :: a8 :: a9 :: a10 :: o :: o2 :: r) (.long x :: st) n R σ := by
  obtain ⟨⟨p, l, e, s, m⟩, ⟨args, below, meth, c⟩, D, g, ext, base, n0, rm⟩ := K
  intro ok H locs ls hW hS hl
  exact lv_lstore (i := 11) ok.1 ok.2.1 hd hl hn rfl (fun ls' hl' => h ok H locs ls' hW hS (by have z := lvA_set2 (i := 11) (v := .long x) (fun w _ e => by simp at e; rw [← e]; exact hp) (by simp) hl'; simpa using z))
theorem aw_lstore_12 {K : KT} {M : MT} {T : TT} {pc : Nat} {st : List Value} {n : Nat} {R : Rg} {σ : Sg} {a0 a1 a2 a3 a4 a5 a6 a7 a8 a9 a10 a11 o o2 : Option Value} {r : List (Option Value)} {x : Int64} (hd : decode M.2.1 pc = .ok (.lstore 12, 2)) (hn : 13 < M.2.2.1) (hp : okc a11 = true) (h : AW K M T (pc + 2) (a0 :: a1 :: a2 :: a3 :: a4 :: a5 :: a6 :: a7 :: a8 :: a9 :: a10 :: a11 :: some (.long x) :: none :: r) st n R σ) : AW K M T pc (a0 :: a1 :: a2 :: a3 :: a4 :: a5 :: a6 :: a7 :: a8 :: a9 :: a10 :: a11 :: o :: o2 :: r) (.long x :: st) n R σ := by
  obtain ⟨⟨p, l, e, s, m⟩, ⟨args, below, meth, c⟩, D, g, ext, base, n0, rm⟩ := K
  intro ok H locs ls hW hS hl
  exact lv_lstore (i := 12) ok.1 ok.2.1 hd hl hn rfl (fun ls' hl' => h ok H locs ls' hW hS (by have z := lvA_set2 (i := 12) (v := .long x) (fun w _ e => by simp at e; rw [← e]; exact hp) (by simp) hl'; simpa using z))
theorem aw_astore_0 {K : KT} {M : MT} {T : TT} {pc : Nat} {st : List Value} {n : Nat} {R : Rg} {σ : Sg} {o : Option Value} {r : List (Option Value)} {x : Nat} (hd : decode M.2.1 pc = .ok (.astore_n 0, 1)) (hn : 0 < M.2.2.1) (h : AW K M T (pc + 1) (some (.ref x) :: r) st n R σ) : AW K M T pc (o :: r) (.ref x :: st) n R σ := by
  obtain ⟨⟨p, l, e, s, m⟩, ⟨args, below, meth, c⟩, D, g, ext, base, n0, rm⟩ := K
  intro ok H locs ls hW hS hl
  exact lv_astore_n (i := 0) ok.1 ok.2.1 hd rfl hl hn rfl (fun ls' hl' => h ok H locs ls' hW hS (by have z := lvA_set1 (i := 0) (v := .ref x) (fun w q _ => absurd q (Nat.lt_irrefl 0)) (by simp) hl'; simpa using z))
theorem aw_astore_1 {K : KT} {M : MT} {T : TT} {pc : Nat} {st : List Value} {n : Nat} {R : Rg} {σ : Sg} {a0 o : Option Value} {r : List (Option Value)} {x : Nat} (hd : decode M.2.1 pc = .ok (.astore_n 1, 1)) (hn : 1 < M.2.2.1) (hp : okc a0 = true) (h : AW K M T (pc + 1) (a0 :: some (.ref x) :: r) st n R σ) : AW K M T pc (a0 :: o :: r) (.ref x :: st) n R σ := by
  obtain ⟨⟨p, l, e, s, m⟩, ⟨args, below, meth, c⟩, D, g, ext, base, n0, rm⟩ := K
  intro ok H locs ls hW hS hl
  exact lv_astore_n (i := 1) ok.1 ok.2.1 hd rfl hl hn rfl (fun ls' hl' => h ok H locs ls' hW hS (by have z := lvA_set1 (i := 1) (v := .ref x) (fun w _ e => by simp at e; rw [← e]; exact hp) (by simp) hl'; simpa using z))
theorem aw_astore_2 {K : KT} {M : MT} {T : TT} {pc : Nat} {st : List Value} {n : Nat} {R : Rg} {σ : Sg} {a0 a1 o : Option Value} {r : List (Option Value)} {x : Nat} (hd : decode M.2.1 pc = .ok (.astore_n 2, 1)) (hn : 2 < M.2.2.1) (hp : okc a1 = true) (h : AW K M T (pc + 1) (a0 :: a1 :: some (.ref x) :: r) st n R σ) : AW K M T pc (a0 :: a1 :: o :: r) (.ref x :: st) n R σ := by
  obtain ⟨⟨p, l, e, s, m⟩, ⟨args, below, meth, c⟩, D, g, ext, base, n0, rm⟩ := K
  intro ok H locs ls hW hS hl
  exact lv_astore_n (i := 2) ok.1 ok.2.1 hd rfl hl hn rfl (fun ls' hl' => h ok H locs ls' hW hS (by have z := lvA_set1 (i := 2) (v := .ref x) (fun w _ e => by simp at e; rw [← e]; exact hp) (by simp) hl'; simpa using z))
theorem aw_astore_3 {K : KT} {M : MT} {T : TT} {pc : Nat} {st : List Value} {n : Nat} {R : Rg} {σ : Sg} {a0 a1 a2 o : Option Value} {r : List (Option Value)} {x : Nat} (hd : decode M.2.1 pc = .ok (.astore_n 3, 1)) (hn : 3 < M.2.2.1) (hp : okc a2 = true) (h : AW K M T (pc + 1) (a0 :: a1 :: a2 :: some (.ref x) :: r) st n R σ) : AW K M T pc (a0 :: a1 :: a2 :: o :: r) (.ref x :: st) n R σ := by
  obtain ⟨⟨p, l, e, s, m⟩, ⟨args, below, meth, c⟩, D, g, ext, base, n0, rm⟩ := K
  intro ok H locs ls hW hS hl
  exact lv_astore_n (i := 3) ok.1 ok.2.1 hd rfl hl hn rfl (fun ls' hl' => h ok H locs ls' hW hS (by have z := lvA_set1 (i := 3) (v := .ref x) (fun w _ e => by simp at e; rw [← e]; exact hp) (by simp) hl'; simpa using z))
theorem aw_astore_4 {K : KT} {M : MT} {T : TT} {pc : Nat} {st : List Value} {n : Nat} {R : Rg} {σ : Sg} {a0 a1 a2 a3 o : Option Value} {r : List (Option Value)} {x : Nat} (hd : decode M.2.1 pc = .ok (.astore 4, 2)) (hn : 4 < M.2.2.1) (hp : okc a3 = true) (h : AW K M T (pc + 2) (a0 :: a1 :: a2 :: a3 :: some (.ref x) :: r) st n R σ) : AW K M T pc (a0 :: a1 :: a2 :: a3 :: o :: r) (.ref x :: st) n R σ := by
  obtain ⟨⟨p, l, e, s, m⟩, ⟨args, below, meth, c⟩, D, g, ext, base, n0, rm⟩ := K
  intro ok H locs ls hW hS hl
  exact lv_astore (i := 4) ok.1 ok.2.1 hd hl hn rfl (fun ls' hl' => h ok H locs ls' hW hS (by have z := lvA_set1 (i := 4) (v := .ref x) (fun w _ e => by simp at e; rw [← e]; exact hp) (by simp) hl'; simpa using z))
theorem aw_astore_5 {K : KT} {M : MT} {T : TT} {pc : Nat} {st : List Value} {n : Nat} {R : Rg} {σ : Sg} {a0 a1 a2 a3 a4 o : Option Value} {r : List (Option Value)} {x : Nat} (hd : decode M.2.1 pc = .ok (.astore 5, 2)) (hn : 5 < M.2.2.1) (hp : okc a4 = true) (h : AW K M T (pc + 2) (a0 :: a1 :: a2 :: a3 :: a4 :: some (.ref x) :: r) st n R σ) : AW K M T pc (a0 :: a1 :: a2 :: a3 :: a4 :: o :: r) (.ref x :: st) n R σ := by
  obtain ⟨⟨p, l, e, s, m⟩, ⟨args, below, meth, c⟩, D, g, ext, base, n0, rm⟩ := K
  intro ok H locs ls hW hS hl
  exact lv_astore (i := 5) ok.1 ok.2.1 hd hl hn rfl (fun ls' hl' => h ok H locs ls' hW hS (by have z := lvA_set1 (i := 5) (v := .ref x) (fun w _ e => by simp at e; rw [← e]; exact hp) (by simp) hl'; simpa using z))
theorem aw_astore_6 {K : KT} {M : MT} {T : TT} {pc : Nat} {st : List Value} {n : Nat} {R : Rg} {σ : Sg} {a0 a1 a2 a3 a4 a5 o : Option Value} {r : List (Option Value)} {x : Nat} (hd : decode M.2.1 pc = .ok (.astore 6, 2)) (hn : 6 < M.2.2.1) (hp : okc a5 = true) (h : AW K M T (pc + 2) (a0 :: a1 :: a2 :: a3 :: a4 :: a5 :: some (.ref x) :: r) st n R σ) : AW K M T pc (a0 :: a1 :: a2 :: a3 :: a4 :: a5 :: o :: r) (.ref x :: st) n R σ := by
  obtain ⟨⟨p, l, e, s, m⟩, ⟨args, below, meth, c⟩, D, g, ext, base, n0, rm⟩ := K
  intro ok H locs ls hW hS hl
  exact lv_astore (i := 6) ok.1 ok.2.1 hd hl hn rfl (fun ls' hl' => h ok H locs ls' hW hS (by have z := lvA_set1 (i := 6) (v := .ref x) (fun w _ e => by simp at e; rw [← e]; exact hp) (by simp) hl'; simpa using z))
theorem aw_astore_7 {K : KT} {M : MT} {T : TT} {pc : Nat} {st : List Value} {n : Nat} {R : Rg} {σ : Sg} {a0 a1 a2 a3 a4 a5 a6 o : Option Value} {r : List (Option Value)} {x : Nat} (hd : decode M.2.1 pc = .ok (.astore 7, 2)) (hn : 7 < M.2.2.1) (hp : okc a6 = true) (h : AW K M T (pc + 2) (a0 :: a1 :: a2 :: a3 :: a4 :: a5 :: a6 :: some (.ref x) :: r) st n R σ) : AW K M T pc (a0 :: a1 :: a2 :: a3 :: a4 :: a5 :: a6 :: o :: r) (.ref x :: st) n R σ := by
  obtain ⟨⟨p, l, e, s, m⟩, ⟨args, below, meth, c⟩, D, g, ext, base, n0, rm⟩ := K
  intro ok H locs ls hW hS hl
  exact lv_astore (i := 7) ok.1 ok.2.1 hd hl hn rfl (fun ls' hl' => h ok H locs ls' hW hS (by have z := lvA_set1 (i := 7) (v := .ref x) (fun w _ e => by simp at e; rw [← e]; exact hp) (by simp) hl'; simpa using z))
theorem aw_astore_8 {K : KT} {M : MT} {T : TT} {pc : Nat} {st : List Value} {n : Nat} {R : Rg} {σ : Sg} {a0 a1 a2 a3 a4 a5 a6 a7 o : Option Value} {r : List (Option Value)} {x : Nat} (hd : decode M.2.1 pc = .ok (.astore 8, 2)) (hn : 8 < M.2.2.1) (hp : okc a7 = true) (h : AW K M T (pc + 2) (a0 :: a1 :: a2 :: a3 :: a4 :: a5 :: a6 :: a7 :: some (.ref x) :: r) st n R σ) : AW K M T pc (a0 :: a1 :: a2 :: a3 :: a4 :: a5 :: a6 :: a7 :: o :: r) (.ref x :: st) n R σ := by
  obtain ⟨⟨p, l, e, s, m⟩, ⟨args, below, meth, c⟩, D, g, ext, base, n0, rm⟩ := K
  intro ok H locs ls hW hS hl
  exact lv_astore (i := 8) ok.1 ok.2.1 hd hl hn rfl (fun ls' hl' => h ok H locs ls' hW hS (by have z := lvA_set1 (i := 8) (v := .ref x) (fun w _ e => by simp at e; rw [← e]; exact hp) (by simp) hl'; simpa using z))
theorem aw_astore_9 {K : KT} {M : MT} {T : TT} {pc : Nat} {st : List Value} {n : Nat} {R : Rg} {σ : Sg} {a0 a1 a2 a3 a4 a5 a6 a7 a8 o : Option Value} {r : List (Option Value)} {x : Nat} (hd : decode M.2.1 pc = .ok (.astore 9, 2)) (hn : 9 < M.2.2.1) (hp : okc a8 = true) (h : AW K M T (pc + 2) (a0 :: a1 :: a2 :: a3 :: a4 :: a5 :: a6 :: a7 :: a8 :: some (.ref x) :: r) st n R σ) : AW K M T pc (a0 :: a1 :: a2 :: a3 :: a4 :: a5 :: a6 :: a7 :: a8 :: o :: r) (.ref x :: st) n R σ := by
  obtain ⟨⟨p, l, e, s, m⟩, ⟨args, below, meth, c⟩, D, g, ext, base, n0, rm⟩ := K
  intro ok H locs ls hW hS hl
  exact lv_astore (i := 9) ok.1 ok.2.1 hd hl hn rfl (fun ls' hl' => h ok H locs ls' hW hS (by have z := lvA_set1 (i := 9) (v := .ref x) (fun w _ e => by simp at e; rw [← e]; exact hp) (by simp) hl'; simpa using z))
theorem aw_astore_10 {K : KT} {M : MT} {T : TT} {pc : Nat} {st : List Value} {n : Nat} {R : Rg} {σ : Sg} {a0 a1 a2 a3 a4 a5 a6 a7 a8 a9 o : Option Value} {r : List (Option Value)} {x : Nat} (hd : decode M.2.1 pc = .ok (.astore 10, 2)) (hn : 10 < M.2.2.1) (hp : okc a9 = true) (h : AW K M T (pc + 2) (a0 :: a1 :: a2 :: a3 :: a4 :: a5 :: a6 :: a7 :: a8 :: a9 :: some (.ref x) :: r) st n R σ) : AW K M T pc (a0 :: a1 :: a2 :: a3 :: a4 :: a5 :: a6 :: a7 :: a8 :: a9 :: o :: r) (.ref x :: st) n R σ := by
  obtain ⟨⟨p, l, e, s, m⟩, ⟨args, below, meth, c⟩, D, g, ext, base, n0, rm⟩ := K
  intro ok H locs ls hW hS hl
  exact lv_astore (i := 10) ok.1 ok.2.1 hd hl hn rfl (fun ls' hl' => h ok H locs ls' hW hS (by have z := lvA_set1 (i := 10) (v := .ref x) (fun w _ e => by simp at e; rw [← e]; exact hp) (by simp) hl'; simpa using z))
theorem aw_astore_11 {K : KT} {M : MT} {T : TT} {pc : Nat} {st : List Value} {n : Nat} {R : Rg} {σ : Sg} {a0 a1 a2 a3 a4 a5 a6 a7 a8 a9 a10 o : Option Value} {r : List (Option Value)} {x : Nat} (hd : decode M.2.1 pc = .ok (.astore 11, 2)) (hn : 11 < M.2.2.1) (hp : okc a10 = true) (h : AW K M T (pc + 2) (a0 :: a1 :: a2 :: a3 :: a4 :: a5 :: a6 :: a7 :: a8 :: a9 :: a10 :: some (.ref x) :: r) st n R σ) : AW K M T pc (a0 :: a1 :: a2 :: a3 :: a4 :: a5 :: a6 :: a7 :: a8 :: a9 :: a10 :: o :: r) (.ref x :: st) n R σ := by
  obtain ⟨⟨p, l, e, s, m⟩, ⟨args, below, meth, c⟩, D, g, ext, base, n0, rm⟩ := K
  intro ok H locs ls hW hS hl
  exact lv_astore (i := 11) ok.1 ok.2.1 hd hl hn rfl (fun ls' hl' => h ok H locs ls' hW hS (by have z := lvA_set1 (i := 11) (v := .ref x) (fun w _ e => by simp at e; rw [← e]; exact hp) (by simp) hl'; simpa using z))
theorem aw_astore_12 {K : KT} {M : MT} {T : TT} {pc : Nat} {st : List Value} {n : Nat} {R : Rg} {σ : Sg} {a0 a1 a2 a3 a4 a5 a6 a7 a8 a9 a10 a11 o : Option Value} {r : List (Option Value)} {x : Nat} (hd : decode M.2.1 pc = .ok (.astore 12, 2)) (hn : 12 < M.2.2.1) (hp : okc a11 = true) (h : AW K M T (pc + 2) (a0 :: a1 :: a2 :: a3 :: a4 :: a5 :: a6 :: a7 :: a8 :: a9 :: a10 :: a11 :: some (.ref x) :: r) st n R σ) : AW K M T pc (a0 :: a1 :: a2 :: a3 :: a4 :: a5 :: a6 :: a7 :: a8 :: a9 :: a10 :: a11 :: o :: r) (.ref x :: st) n R σ := by
  obtain ⟨⟨p, l, e, s, m⟩, ⟨args, below, meth, c⟩, D, g, ext, base, n0, rm⟩ := K
  intro ok H locs ls hW hS hl
  exact lv_astore (i := 12) ok.1 ok.2.1 hd hl hn rfl (fun ls' hl' => h ok H locs ls' hW hS (by have z := lvA_set1 (i := 12) (v := .ref x) (fun w _ e => by simp at e; rw [← e]; exact hp) (by simp) hl'; simpa using z))
theorem aw_iinc_0 {K : KT} {M : MT} {T : TT} {pc : Nat} {st : List Value} {n : Nat} {R : Rg} {σ : Sg} {r : List (Option Value)} {x v : Int32} {k : Int} (hd : decode M.2.1 pc = .ok (.iinc 0 k, 3)) (hn : 0 < M.2.2.1) (hv : x + Int32.ofInt k = v) (h : AW K M T (pc + 3) (some (.int v) :: r) st n R σ) : AW K M T pc (some (.int x) :: r) st n R σ := by
  obtain ⟨⟨p, l, e, s, m⟩, ⟨args, below, meth, c⟩, D, g, ext, base, n0, rm⟩ := K
  intro ok H locs ls hW hS hl
  obtain ⟨z, hz⟩ : ∃ z : Nat, (lvA (base, ext) 0 (some (.int x) :: r))[z]? = some (0, .int x) := List.getElem?_of_mem (lvA_mem.mpr ⟨0, .int x, by simp, by simp [cv]⟩)
  exact lv_iinc ok.1 ok.2.1 hd hl hz hv hn rfl (fun ls' hl' => h ok H locs ls' hW hS (by have z := lvA_set1 (v := .int v) (fun w q _ => absurd q (Nat.lt_irrefl 0)) (by simp) hl'; simpa using z))
theorem aw_iinc_1 {K : KT} {M : MT} {T : TT} {pc : Nat} {st : List Value} {n : Nat} {R : Rg} {σ : Sg} {a0 : Option Value} {r : List (Option Value)} {x v : Int32} {k : Int} (hd : decode M.2.1 pc = .ok (.iinc 1 k, 3)) (hn : 1 < M.2.2.1) (hp : okc a0 = true) (hv : x + Int32.ofInt k = v) (h : AW K M T (pc + 3) (a0 :: some (.int v) :: r) st n R σ) : AW K M T pc (a0 :: some (.int x) :: r) st n R σ := by
  obtain ⟨⟨p, l, e, s, m⟩, ⟨args, below, meth, c⟩, D, g, ext, base, n0, rm⟩ := K
  intro ok H locs ls hW hS hl
  obtain ⟨z, hz⟩ : ∃ z : Nat, (lvA (base, ext) 0 (a0 :: some (.int x) :: r))[z]? = some (1, .int x) := List.getElem?_of_mem (lvA_mem.mpr ⟨1, .int x, by simp, by simp [cv]⟩)
  exact lv_iinc ok.1 ok.2.1 hd hl hz hv hn rfl (fun ls' hl' => h ok H locs ls' hW hS (by have z := lvA_set1 (v := .int v) (fun w _ e => by simp at e; rw [← e]; exact hp) (by simp) hl'; simpa using z))
theorem aw_iinc_2 {K : KT} {M : MT} {T : TT} {pc : Nat} {st : List Value} {n : Nat} {R : Rg} {σ : Sg} {a0 a1 : Option Value} {r : List (Option Value)} {x v : Int32} {k : Int} (hd : decode M.2.1 pc = .ok (.iinc 2 k, 3)) (hn : 2 < M.2.2.1) (hp : okc a1 = true) (hv : x + Int32.ofInt k = v) (h : AW K M T (pc + 3) (a0 :: a1 :: some (.int v) :: r) st n R σ) : AW K M T pc (a0 :: a1 :: some (.int x) :: r) st n R σ := by
  obtain ⟨⟨p, l, e, s, m⟩, ⟨args, below, meth, c⟩, D, g, ext, base, n0, rm⟩ := K
  intro ok H locs ls hW hS hl
  obtain ⟨z, hz⟩ : ∃ z : Nat, (lvA (base, ext) 0 (a0 :: a1 :: some (.int x) :: r))[z]? = some (2, .int x) := List.getElem?_of_mem (lvA_mem.mpr ⟨2, .int x, by simp, by simp [cv]⟩)
  exact lv_iinc ok.1 ok.2.1 hd hl hz hv hn rfl (fun ls' hl' => h ok H locs ls' hW hS (by have z := lvA_set1 (v := .int v) (fun w _ e => by simp at e; rw [← e]; exact hp) (by simp) hl'; simpa using z))
theorem aw_iinc_3 {K : KT} {M : MT} {T : TT} {pc : Nat} {st : List Value} {n : Nat} {R : Rg} {σ : Sg} {a0 a1 a2 : Option Value} {r : List (Option Value)} {x v : Int32} {k : Int} (hd : decode M.2.1 pc = .ok (.iinc 3 k, 3)) (hn : 3 < M.2.2.1) (hp : okc a2 = true) (hv : x + Int32.ofInt k = v) (h : AW K M T (pc + 3) (a0 :: a1 :: a2 :: some (.int v) :: r) st n R σ) : AW K M T pc (a0 :: a1 :: a2 :: some (.int x) :: r) st n R σ := by
  obtain ⟨⟨p, l, e, s, m⟩, ⟨args, below, meth, c⟩, D, g, ext, base, n0, rm⟩ := K
  intro ok H locs ls hW hS hl
  obtain ⟨z, hz⟩ : ∃ z : Nat, (lvA (base, ext) 0 (a0 :: a1 :: a2 :: some (.int x) :: r))[z]? = some (3, .int x) := List.getElem?_of_mem (lvA_mem.mpr ⟨3, .int x, by simp, by simp [cv]⟩)
  exact lv_iinc ok.1 ok.2.1 hd hl hz hv hn rfl (fun ls' hl' => h ok H locs ls' hW hS (by have z := lvA_set1 (v := .int v) (fun w _ e => by simp at e; rw [← e]; exact hp) (by simp) hl'; simpa using z))
theorem aw_iinc_4 {K : KT} {M : MT} {T : TT} {pc : Nat} {st : List Value} {n : Nat} {R : Rg} {σ : Sg} {a0 a1 a2 a3 : Option Value} {r : List (Option Value)} {x v : Int32} {k : Int} (hd : decode M.2.1 pc = .ok (.iinc 4 k, 3)) (hn : 4 < M.2.2.1) (hp : okc a3 = true) (hv : x + Int32.ofInt k = v) (h : AW K M T (pc + 3) (a0 :: a1 :: a2 :: a3 :: some (.int v) :: r) st n R σ) : AW K M T pc (a0 :: a1 :: a2 :: a3 :: some (.int x) :: r) st n R σ := by
  obtain ⟨⟨p, l, e, s, m⟩, ⟨args, below, meth, c⟩, D, g, ext, base, n0, rm⟩ := K
  intro ok H locs ls hW hS hl
  obtain ⟨z, hz⟩ : ∃ z : Nat, (lvA (base, ext) 0 (a0 :: a1 :: a2 :: a3 :: some (.int x) :: r))[z]? = some (4, .int x) := List.getElem?_of_mem (lvA_mem.mpr ⟨4, .int x, by simp, by simp [cv]⟩)
  exact lv_iinc ok.1 ok.2.1 hd hl hz hv hn rfl (fun ls' hl' => h ok H locs ls' hW hS (by have z := lvA_set1 (v := .int v) (fun w _ e => by simp at e; rw [← e]; exact hp) (by simp) hl'; simpa using z))
theorem aw_iinc_5 {K : KT} {M : MT} {T : TT} {pc : Nat} {st : List Value} {n : Nat} {R : Rg} {σ : Sg} {a0 a1 a2 a3 a4 : Option Value} {r : List (Option Value)} {x v : Int32} {k : Int} (hd : decode M.2.1 pc = .ok (.iinc 5 k, 3)) (hn : 5 < M.2.2.1) (hp : okc a4 = true) (hv : x + Int32.ofInt k = v) (h : AW K M T (pc + 3) (a0 :: a1 :: a2 :: a3 :: a4 :: some (.int v) :: r) st n R σ) : AW K M T pc (a0 :: a1 :: a2 :: a3 :: a4 :: some (.int x) :: r) st n R σ := by
  obtain ⟨⟨p, l, e, s, m⟩, ⟨args, below, meth, c⟩, D, g, ext, base, n0, rm⟩ := K
  intro ok H locs ls hW hS hl
  obtain ⟨z, hz⟩ : ∃ z : Nat, (lvA (base, ext) 0 (a0 :: a1 :: a2 :: a3 :: a4 :: some (.int x) :: r))[z]? = some (5, .int x) := List.getElem?_of_mem (lvA_mem.mpr ⟨5, .int x, by simp, by simp [cv]⟩)
  exact lv_iinc ok.1 ok.2.1 hd hl hz hv hn rfl (fun ls' hl' => h ok H locs ls' hW hS (by have z := lvA_set1 (v := .int v) (fun w _ e => by simp at e; rw [← e]; exact hp) (by simp) hl'; simpa using z))
theorem aw_iinc_6 {K : KT} {M : MT} {T : TT} {pc : Nat} {st : List Value} {n : Nat} {R : Rg} {σ : Sg} {a0 a1 a2 a3 a4 a5 : Option Value} {r : List (Option Value)} {x v : Int32} {k : Int} (hd : decode M.2.1 pc = .ok (.iinc 6 k, 3)) (hn : 6 < M.2.2.1) (hp : okc a5 = true) (hv : x + Int32.ofInt k = v) (h : AW K M T (pc + 3) (a0 :: a1 :: a2 :: a3 :: a4 :: a5 :: some (.int v) :: r) st n R σ) : AW K M T pc (a0 :: a1 :: a2 :: a3 :: a4 :: a5 :: some (.int x) :: r) st n R σ := by
  obtain ⟨⟨p, l, e, s, m⟩, ⟨args, below, meth, c⟩, D, g, ext, base, n0, rm⟩ := K
  intro ok H locs ls hW hS hl
  obtain ⟨z, hz⟩ : ∃ z : Nat, (lvA (base, ext) 0 (a0 :: a1 :: a2 :: a3 :: a4 :: a5 :: some (.int x) :: r))[z]? = some (6, .int x) := List.getElem?_of_mem (lvA_mem.mpr ⟨6, .int x, by simp, by simp [cv]⟩)
  exact lv_iinc ok.1 ok.2.1 hd hl hz hv hn rfl (fun ls' hl' => h ok H locs ls' hW hS (by have z := lvA_set1 (v := .int v) (fun w _ e => by simp at e; rw [← e]; exact hp) (by simp) hl'; simpa using z))
theorem aw_iinc_7 {K : KT} {M : MT} {T : TT} {pc : Nat} {st : List Value} {n : Nat} {R : Rg} {σ : Sg} {a0 a1 a2 a3 a4 a5 a6 : Option Value} {r : List (Option Value)} {x v : Int32} {k : Int} (hd : decode M.2.1 pc = .ok (.iinc 7 k, 3)) (hn : 7 < M.2.2.1) (hp : okc a6 = true) (hv : x + Int32.ofInt k = v) (h : AW K M T (pc + 3) (a0 :: a1 :: a2 :: a3 :: a4 :: a5 :: a6 :: some (.int v) :: r) st n R σ) : AW K M T pc (a0 :: a1 :: a2 :: a3 :: a4 :: a5 :: a6 :: some (.int x) :: r) st n R σ := by
  obtain ⟨⟨p, l, e, s, m⟩, ⟨args, below, meth, c⟩, D, g, ext, base, n0, rm⟩ := K
  intro ok H locs ls hW hS hl
  obtain ⟨z, hz⟩ : ∃ z : Nat, (lvA (base, ext) 0 (a0 :: a1 :: a2 :: a3 :: a4 :: a5 :: a6 :: some (.int x) :: r))[z]? = some (7, .int x) := List.getElem?_of_mem (lvA_mem.mpr ⟨7, .int x, by simp, by simp [cv]⟩)
  exact lv_iinc ok.1 ok.2.1 hd hl hz hv hn rfl (fun ls' hl' => h ok H locs ls' hW hS (by have z := lvA_set1 (v := .int v) (fun w _ e => by simp at e; rw [← e]; exact hp) (by simp) hl'; simpa using z))
theorem aw_iinc_8 {K : KT} {M : MT} {T : TT} {pc : Nat} {st : List Value} {n : Nat} {R : Rg} {σ : Sg} {a0 a1 a2 a3 a4 a5 a6 a7 : Option Value} {r : List (Option Value)} {x v : Int32} {k : Int} (hd : decode M.2.1 pc = .ok (.iinc 8 k, 3)) (hn : 8 < M.2.2.1) (hp : okc a7 = true) (hv : x + Int32.ofInt k = v) (h : AW K M T (pc + 3) (a0 :: a1 :: a2 :: a3 :: a4 :: a5 :: a6 :: a7 :: some (.int v) :: r) st n R σ) : AW K M T pc (a0 :: a1 :: a2 :: a3 :: a4 :: a5 :: a6 :: a7 :: some (.int x) :: r) st n R σ := by
  obtain ⟨⟨p, l, e, s, m⟩, ⟨args, below, meth, c⟩, D, g, ext, base, n0, rm⟩ := K
  intro ok H locs ls hW hS hl
  obtain ⟨z, hz⟩ : ∃ z : Nat, (lvA (base, ext) 0 (a0 :: a1 :: a2 :: a3 :: a4 :: a5 :: a6 :: a7 :: some (.int x) :: r))[z]? = some (8, .int x) := List.getElem?_of_mem (lvA_mem.mpr ⟨8, .int x, by simp, by simp [cv]⟩)
  exact lv_iinc ok.1 ok.2.1 hd hl hz hv hn rfl (fun ls' hl' => h ok H locs ls' hW hS (by have z := lvA_set1 (v := .int v) (fun w _ e => by simp at e; rw [← e]; exact hp) (by simp) hl'; simpa using z))
theorem aw_iinc_9 {K : KT} {M : MT} {T : TT} {pc : Nat} {st : List Value} {n : Nat} {R : Rg} {σ : Sg} {a0 a1 a2 a3 a4 a5 a6 a7 a8 : Option Value} {r : List (Option Value)} {x v : Int32} {k : Int} (hd : decode M.2.1 pc = .ok (.iinc 9 k, 3)) (hn : 9 < M.2.2.1) (hp : okc a8 = true) (hv : x + Int32.ofInt k = v) (h : AW K M T (pc + 3) (a0 :: a1 :: a2 :: a3 :: a4 :: a5 :: a6 :: a7 :: a8 :: some (.int v) :: r) st n R σ) : AW K M T pc (a0 :: a1 :: a2 :: a3 :: a4 :: a5 :: a6 :: a7 :: a8 :: some (.int x) :: r) st n R σ := by
  obtain ⟨⟨p, l, e, s, m⟩, ⟨args, below, meth, c⟩, D, g, ext, base, n0, rm⟩ := K
  intro ok H locs ls hW hS hl
  obtain ⟨z, hz⟩ : ∃ z : Nat, (lvA (base, ext) 0 (a0 :: a1 :: a2 :: a3 :: a4 :: a5 :: a6 :: a7 :: a8 :: some (.int x) :: r))[z]? = some (9, .int x) := List.getElem?_of_mem (lvA_mem.mpr ⟨9, .int x, by simp, by simp [cv]⟩)
  exact lv_iinc ok.1 ok.2.1 hd hl hz hv hn rfl (fun ls' hl' => h ok H locs ls' hW hS (by have z := lvA_set1 (v := .int v) (fun w _ e => by simp at e; rw [← e]; exact hp) (by simp) hl'; simpa using z))
theorem aw_iinc_10 {K : KT} {M : MT} {T : TT} {pc : Nat} {st : List Value} {n : Nat} {R : Rg} {σ : Sg} {a0 a1 a2 a3 a4 a5 a6 a7 a8 a9 : Option Value} {r : List (Option Value)} {x v : Int32} {k : Int} (hd : decode M.2.1 pc = .ok (.iinc 10 k, 3)) (hn : 10 < M.2.2.1) (hp : okc a9 = true) (hv : x + Int32.ofInt k = v) (h : AW K M T (pc + 3) (a0 :: a1 :: a2 :: a3 :: a4 :: a5 :: a6 :: a7 :: a8 :: a9 :: some (.int v) :: r) st n R σ) : AW K M T pc (a0 :: a1 :: a2 :: a3 :: a4 :: a5 :: a6 :: a7 :: a8 :: a9 :: some (.int x) :: r) st n R σ := by
  obtain ⟨⟨p, l, e, s, m⟩, ⟨args, below, meth, c⟩, D, g, ext, base, n0, rm⟩ := K
  intro ok H locs ls hW hS hl
  obtain ⟨z, hz⟩ : ∃ z : Nat, (lvA (base, ext) 0 (a0 :: a1 :: a2 :: a3 :: a4 :: a5 :: a6 :: a7 :: a8 :: a9 :: some (.int x) :: r))[z]? = some (10, .int x) := List.getElem?_of_mem (lvA_mem.mpr ⟨10, .int x, by simp, by simp [cv]⟩)
  exact lv_iinc ok.1 ok.2.1 hd hl hz hv hn rfl (fun ls' hl' => h ok H locs ls' hW hS (by have z := lvA_set1 (v := .int v) (fun w _ e => by simp at e; rw [← e]; exact hp) (by simp) hl'; simpa using z))
theorem aw_iinc_11 {K : KT} {M : MT} {T : TT} {pc : Nat} {st : List Value} {n : Nat} {R : Rg} {σ : Sg} {a0 a1 a2 a3 a4 a5 a6 a7 a8 a9 a10 : Option Value} {r : List (Option Value)} {x v : Int32} {k : Int} (hd : decode M.2.1 pc = .ok (.iinc 11 k, 3)) (hn : 11 < M.2.2.1) (hp : okc a10 = true) (hv : x + Int32.ofInt k = v) (h : AW K M T (pc + 3) (a0 :: a1 :: a2 :: a3 :: a4 :: a5 :: a6 :: a7 :: a8 :: a9 :: a10 :: some (.int v) :: r) st n R σ) : AW K M T pc (a0 :: a1 :: a2 :: a3 :: a4 :: a5 :: a6 :: a7 :: a8 :: a9 :: a10 :: some (.int x) :: r) st n R σ := by
  obtain ⟨⟨p, l, e, s, m⟩, ⟨args, below, meth, c⟩, D, g, ext, base, n0, rm⟩ := K
  intro ok H locs ls hW hS hl
  obtain ⟨z, hz⟩ : ∃ z : Nat, (lvA (base, ext) 0 (a0 :: a1 :: a2 :: a3 :: a4 :: a5 :: a6 :: a7 :: a8 :: a9 :: a10 :: some (.int x) :: r))[z]? = some (11, .int x) := List.getElem?_of_mem (lvA_mem.mpr ⟨11, .int x, by simp, by simp [cv]⟩)
  exact lv_iinc ok.1 ok.2.1 hd hl hz hv hn rfl (fun ls' hl' => h ok H locs ls' hW hS (by have z := lvA_set1 (v := .int v) (fun w _ e => by simp at e; rw [← e]; exact hp) (by simp) hl'; simpa using z))
theorem aw_iinc_12 {K : KT} {M : MT} {T : TT} {pc : Nat} {st : List Value} {n : Nat} {R : Rg} {σ : Sg} {a0 a1 a2 a3 a4 a5 a6 a7 a8 a9 a10 a11 : Option Value} {r : List (Option Value)} {x v : Int32} {k : Int} (hd : decode M.2.1 pc = .ok (.iinc 12 k, 3)) (hn : 12 < M.2.2.1) (hp : okc a11 = true) (hv : x + Int32.ofInt k = v) (h : AW K M T (pc + 3) (a0 :: a1 :: a2 :: a3 :: a4 :: a5 :: a6 :: a7 :: a8 :: a9 :: a10 :: a11 :: some (.int v) :: r) st n R σ) : AW K M T pc (a0 :: a1 :: a2 :: a3 :: a4 :: a5 :: a6 :: a7 :: a8 :: a9 :: a10 :: a11 :: some (.int x) :: r) st n R σ := by
  obtain ⟨⟨p, l, e, s, m⟩, ⟨args, below, meth, c⟩, D, g, ext, base, n0, rm⟩ := K
  intro ok H locs ls hW hS hl
  obtain ⟨z, hz⟩ : ∃ z : Nat, (lvA (base, ext) 0 (a0 :: a1 :: a2 :: a3 :: a4 :: a5 :: a6 :: a7 :: a8 :: a9 :: a10 :: a11 :: some (.int x) :: r))[z]? = some (12, .int x) := List.getElem?_of_mem (lvA_mem.mpr ⟨12, .int x, by simp, by simp [cv]⟩)
  exact lv_iinc ok.1 ok.2.1 hd hl hz hv hn rfl (fun ls' hl' => h ok H locs ls' hW hS (by have z := lvA_set1 (v := .int v) (fun w _ e => by simp at e; rw [← e]; exact hp) (by simp) hl'; simpa using z))
theorem aw_kill_0 {K : KT} {M : MT} {T : TT} {pc : Nat} {st : List Value} {n : Nat} {R : Rg} {σ : Sg} {o : Option Value} {r : List (Option Value)} (h : AW K M T pc (none :: r) st n R σ) : AW K M T pc (o :: r) st n R σ := by
  obtain ⟨⟨p, l, e, s, m⟩, ⟨args, below, meth, c⟩, D, g, ext, base, n0, rm⟩ := K
  intro ok H locs ls hW hS hl
  refine h ok H locs ls hW hS (lvA_drop (L := o :: r) (fun j w e => ?_) hl)
  by_cases hj : j = 0
  · subst hj; simp at e
  · have e2 : (none :: r) = (o :: r).set 0 none := by simp
    rw [e2, List.getElem?_set_ne (Ne.symm hj)] at e; exact e
theorem aw_kill_1 {K : KT} {M : MT} {T : TT} {pc : Nat} {st : List Value} {n : Nat} {R : Rg} {σ : Sg} {a0 o : Option Value} {r : List (Option Value)} (h : AW K M T pc (a0 :: none :: r) st n R σ) : AW K M T pc (a0 :: o :: r) st n R σ := by
  obtain ⟨⟨p, l, e, s, m⟩, ⟨args, below, meth, c⟩, D, g, ext, base, n0, rm⟩ := K
  intro ok H locs ls hW hS hl
  refine h ok H locs ls hW hS (lvA_drop (L := a0 :: o :: r) (fun j w e => ?_) hl)
  by_cases hj : j = 1
  · subst hj; simp at e
  · have e2 : (a0 :: none :: r) = (a0 :: o :: r).set 1 none := by simp
    rw [e2, List.getElem?_set_ne (Ne.symm hj)] at e; exact e
theorem aw_kill_2 {K : KT} {M : MT} {T : TT} {pc : Nat} {st : List Value} {n : Nat} {R : Rg} {σ : Sg} {a0 a1 o : Option Value} {r : List (Option Value)} (h : AW K M T pc (a0 :: a1 :: none :: r) st n R σ) : AW K M T pc (a0 :: a1 :: o :: r) st n R σ := by
  obtain ⟨⟨p, l, e, s, m⟩, ⟨args, below, meth, c⟩, D, g, ext, base, n0, rm⟩ := K
  intro ok H locs ls hW hS hl
  refine h ok H locs ls hW hS (lvA_drop (L := a0 :: a1 :: o :: r) (fun j w e => ?_) hl)
  by_cases hj : j = 2
  · subst hj; simp at e
  · have e2 : (a0 :: a1 :: none :: r) = (a0 :: a1 :: o :: r).set 2 none := by simp
    rw [e2, List.getElem?_set_ne (Ne.symm hj)] at e; exact e
theorem aw_kill_3 {K : KT} {M : MT} {T : TT} {pc : Nat} {st : List Value} {n : Nat} {R : Rg} {σ : Sg} {a0 a1 a2 o : Option Value} {r : List (Option Value)} (h : AW K M T pc (a0 :: a1 :: a2 :: none :: r) st n R σ) : AW K M T pc (a0 :: a1 :: a2 :: o :: r) st n R σ := by
  obtain ⟨⟨p, l, e, s, m⟩, ⟨args, below, meth, c⟩, D, g, ext, base, n0, rm⟩ := K
  intro ok H locs ls hW hS hl
  refine h ok H locs ls hW hS (lvA_drop (L := a0 :: a1 :: a2 :: o :: r) (fun j w e => ?_) hl)
  by_cases hj : j = 3
  · subst hj; simp at e
  · have e2 : (a0 :: a1 :: a2 :: none :: r) = (a0 :: a1 :: a2 :: o :: r).set 3 none := by simp
    rw [e2, List.getElem?_set_ne (Ne.symm hj)] at e; exact e
theorem aw_kill_4 {K : KT} {M : MT} {T : TT} {pc : Nat} {st : List Value} {n : Nat} {R : Rg} {σ : Sg} {a0 a1 a2 a3 o : Option Value} {r : List (Option Value)} (h : AW K M T pc (a0 :: a1 :: a2 :: a3 :: none :: r) st n R σ) : AW K M T pc (a0 :: a1 :: a2 :: a3 :: o :: r) st n R σ := by
  obtain ⟨⟨p, l, e, s, m⟩, ⟨args, below, meth, c⟩, D, g, ext, base, n0, rm⟩ := K
  intro ok H locs ls hW hS hl
  refine h ok H locs ls hW hS (lvA_drop (L := a0 :: a1 :: a2 :: a3 :: o :: r) (fun j w e => ?_) hl)
  by_cases hj : j = 4
  · subst hj; simp at e
  · have e2 : (a0 :: a1 :: a2 :: a3 :: none :: r) = (a0 :: a1 :: a2 :: a3 :: o :: r).set 4 none := by simp
    rw [e2, List.getElem?_set_ne (Ne.symm hj)] at e; exact e
theorem aw_kill_5 {K : KT} {M : MT} {T : TT} {pc : Nat} {st : List Value} {n : Nat} {R : Rg} {σ : Sg} {a0 a1 a2 a3 a4 o : Option Value} {r : List (Option Value)} (h : AW K M T pc (a0 :: a1 :: a2 :: a3 :: a4 :: none :: r) st n R σ) : AW K M T pc (a0 :: a1 :: a2 :: a3 :: a4 :: o :: r) st n R σ := by
  obtain ⟨⟨p, l, e, s, m⟩, ⟨args, below, meth, c⟩, D, g, ext, base, n0, rm⟩ := K
  intro ok H locs ls hW hS hl
  refine h ok H locs ls hW hS (lvA_drop (L := a0 :: a1 :: a2 :: a3 :: a4 :: o :: r) (fun j w e => ?_) hl)
  by_cases hj : j = 5
  · subst hj; simp at e
  · have e2 : (a0 :: a1 :: a2 :: a3 :: a4 :: none :: r) = (a0 :: a1 :: a2 :: a3 :: a4 :: o :: r).set 5 none := by simp
    rw [e2, List.getElem?_set_ne (Ne.symm hj)] at e; exact e
theorem aw_kill_6 {K : KT} {M : MT} {T : TT} {pc : Nat} {st : List Value} {n : Nat} {R : Rg} {σ : Sg} {a0 a1 a2 a3 a4 a5 o : Option Value} {r : List (Option Value)} (h : AW K M T pc (a0 :: a1 :: a2 :: a3 :: a4 :: a5 :: none :: r) st n R σ) : AW K M T pc (a0 :: a1 :: a2 :: a3 :: a4 :: a5 :: o :: r) st n R σ := by
  obtain ⟨⟨p, l, e, s, m⟩, ⟨args, below, meth, c⟩, D, g, ext, base, n0, rm⟩ := K
  intro ok H locs ls hW hS hl
  refine h ok H locs ls hW hS (lvA_drop (L := a0 :: a1 :: a2 :: a3 :: a4 :: a5 :: o :: r) (fun j w e => ?_) hl)
  by_cases hj : j = 6
  · subst hj; simp at e
  · have e2 : (a0 :: a1 :: a2 :: a3 :: a4 :: a5 :: none :: r) = (a0 :: a1 :: a2 :: a3 :: a4 :: a5 :: o :: r).set 6 none := by simp
    rw [e2, List.getElem?_set_ne (Ne.symm hj)] at e; exact e
theorem aw_kill_7 {K : KT} {M : MT} {T : TT} {pc : Nat} {st : List Value} {n : Nat} {R : Rg} {σ : Sg} {a0 a1 a2 a3 a4 a5 a6 o : Option Value} {r : List (Option Value)} (h : AW K M T pc (a0 :: a1 :: a2 :: a3 :: a4 :: a5 :: a6 :: none :: r) st n R σ) : AW K M T pc (a0 :: a1 :: a2 :: a3 :: a4 :: a5 :: a6 :: o :: r) st n R σ := by
  obtain ⟨⟨p, l, e, s, m⟩, ⟨args, below, meth, c⟩, D, g, ext, base, n0, rm⟩ := K
  intro ok H locs ls hW hS hl
  refine h ok H locs ls hW hS (lvA_drop (L := a0 :: a1 :: a2 :: a3 :: a4 :: a5 :: a6 :: o :: r) (fun j w e => ?_) hl)
  by_cases hj : j = 7
  · subst hj; simp at e
  · have e2 : (a0 :: a1 :: a2 :: a3 :: a4 :: a5 :: a6 :: none :: r) = (a0 :: a1 :: a2 :: a3 :: a4 :: a5 :: a6 :: o :: r).set 7 none := by simp
    rw [e2, List.getElem?_set_ne (Ne.symm hj)] at e; exact e
theorem aw_kill_8 {K : KT} {M : MT} {T : TT} {pc : Nat} {st : List Value} {n : Nat} {R : Rg} {σ : Sg} {a0 a1 a2 a3 a4 a5 a6 a7 o : Option Value} {r : List (Option Value)} (h : AW K M T pc (a0 :: a1 :: a2 :: a3 :: a4 :: a5 :: a6 :: a7 :: none :: r) st n R σ) : AW K M T pc (a0 :: a1 :: a2 :: a3 :: a4 :: a5 :: a6 :: a7 :: o :: r) st n R σ := by
  obtain ⟨⟨p, l, e, s, m⟩, ⟨args, below, meth, c⟩, D, g, ext, base, n0, rm⟩ := K
  intro ok H locs ls hW hS hl
  refine h ok H locs ls hW hS (lvA_drop (L := a0 :: a1 :: a2 :: a3 :: a4 :: a5 :: a6 :: a7 :: o :: r) (fun j w e => ?_) hl)
  by_cases hj : j = 8
  · subst hj; simp at e
  · have e2 : (a0 :: a1 :: a2 :: a3 :: a4 :: a5 :: a6 :: a7 :: none :: r) = (a0 :: a1 :: a2 :: a3 :: a4 :: a5 :: a6 :: a7 :: o :: r).set 8 none := by simp
    rw [e2, List.getElem?_set_ne (Ne.symm hj)] at e; exact e
theorem aw_kill_9 {K : KT} {M : MT} {T : TT} {pc : Nat} {st : List Value} {n : Nat} {R : Rg} {σ : Sg} {a0 a1 a2 a3 a4 a5 a6 a7 a8 o : Option Value} {r : List (Option Value)} (h : AW K M T pc (a0 :: a1 :: a2 :: a3 :: a4 :: a5 :: a6 :: a7 :: a8 :: none :: r) st n R σ) : AW K M T pc (a0 :: a1 :: a2 :: a3 :: a4 :: a5 :: a6 :: a7 :: a8 :: o :: r) st n R σ := by
  obtain ⟨⟨p, l, e, s, m⟩, ⟨args, below, meth, c⟩, D, g, ext, base, n0, rm⟩ := K
  intro ok H locs ls hW hS hl
  refine h ok H locs ls hW hS (lvA_drop (L := a0 :: a1 :: a2 :: a3 :: a4 :: a5 :: a6 :: a7 :: a8 :: o :: r) (fun j w e => ?_) hl)
  by_cases hj : j = 9
  · subst hj; simp at e
  · have e2 : (a0 :: a1 :: a2 :: a3 :: a4 :: a5 :: a6 :: a7 :: a8 :: none :: r) = (a0 :: a1 :: a2 :: a3 :: a4 :: a5 :: a6 :: a7 :: a8 :: o :: r).set 9 none := by simp
    rw [e2, List.getElem?_set_ne (Ne.symm hj)] at e; exact e
theorem aw_kill_10 {K : KT} {M : MT} {T : TT} {pc : Nat} {st : List Value} {n : Nat} {R : Rg} {σ : Sg} {a0 a1 a2 a3 a4 a5 a6 a7 a8 a9 o : Option Value} {r : List (Option Value)} (h : AW K M T pc (a0 :: a1 :: a2 :: a3 :: a4 :: a5 :: a6 :: a7 :: a8 :: a9 :: none :: r) st n R σ) : AW K M T pc (a0 :: a1 :: a2 :: a3 :: a4 :: a5 :: a6 :: a7 :: a8 :: a9 :: o :: r) st n R σ := by
  obtain ⟨⟨p, l, e, s, m⟩, ⟨args, below, meth, c⟩, D, g, ext, base, n0, rm⟩ := K
  intro ok H locs ls hW hS hl
  refine h ok H locs ls hW hS (lvA_drop (L := a0 :: a1 :: a2 :: a3 :: a4 :: a5 :: a6 :: a7 :: a8 :: a9 :: o :: r) (fun j w e => ?_) hl)
  by_cases hj : j = 10
  · subst hj; simp at e
  · have e2 : (a0 :: a1 :: a2 :: a3 :: a4 :: a5 :: a6 :: a7 :: a8 :: a9 :: none :: r) = (a0 :: a1 :: a2 :: a3 :: a4 :: a5 :: a6 :: a7 :: a8 :: a9 :: o :: r).set 10 none := by simp
    rw [e2, List.getElem?_set_ne (Ne.symm hj)] at e; exact e
theorem aw_kill_11 {K : KT} {M : MT} {T : TT} {pc : Nat} {st : List Value} {n : Nat} {R : Rg} {σ : Sg} {a0 a1 a2 a3 a4 a5 a6 a7 a8 a9 a10 o : Option Value} {r : List (Option Value)} (h : AW K M T pc (a0 :: a1 :: a2 :: a3 :: a4 :: a5 :: a6 :: a7 :: a8 :: a9 :: a10 :: none :: r) st n R σ) : AW K M T pc (a0 :: a1 :: a2 :: a3 :: a4 :: a5 :: a6 :: a7 :: a8 :: a9 :: a10 :: o :: r) st n R σ := by
  obtain ⟨⟨p, l, e, s, m⟩, ⟨args, below, meth, c⟩, D, g, ext, base, n0, rm⟩ := K
  intro ok H locs ls hW hS hl
  refine h ok H locs ls hW hS (lvA_drop (L := a0 :: a1 :: a2 :: a3 :: a4 :: a5 :: a6 :: a7 :: a8 :: a9 :: a10 :: o :: r) (fun j w e => ?_) hl)
  by_cases hj : j = 11
  · subst hj; simp at e
  · have e2 : (a0 :: a1 :: a2 :: a3 :: a4 :: a5 :: a6 :: a7 :: a8 :: a9 :: a10 :: none :: r) = (a0 :: a1 :: a2 :: a3 :: a4 :: a5 :: a6 :: a7 :: a8 :: a9 :: a10 :: o :: r).set 11 none := by simp
    rw [e2, List.getElem?_set_ne (Ne.symm hj)] at e; exact e
theorem aw_kill_12 {K : KT} {M : MT} {T : TT} {pc : Nat} {st : List Value} {n : Nat} {R : Rg} {σ : Sg} {a0 a1 a2 a3 a4 a5 a6 a7 a8 a9 a10 a11 o : Option Value} {r : List (Option Value)} (h : AW K M T pc (a0 :: a1 :: a2 :: a3 :: a4 :: a5 :: a6 :: a7 :: a8 :: a9 :: a10 :: a11 :: none :: r) st n R σ) : AW K M T pc (a0 :: a1 :: a2 :: a3 :: a4 :: a5 :: a6 :: a7 :: a8 :: a9 :: a10 :: a11 :: o :: r) st n R σ := by
  obtain ⟨⟨p, l, e, s, m⟩, ⟨args, below, meth, c⟩, D, g, ext, base, n0, rm⟩ := K
  intro ok H locs ls hW hS hl
  refine h ok H locs ls hW hS (lvA_drop (L := a0 :: a1 :: a2 :: a3 :: a4 :: a5 :: a6 :: a7 :: a8 :: a9 :: a10 :: a11 :: o :: r) (fun j w e => ?_) hl)
  by_cases hj : j = 12
  · subst hj; simp at e
  · have e2 : (a0 :: a1 :: a2 :: a3 :: a4 :: a5 :: a6 :: a7 :: a8 :: a9 :: a10 :: a11 :: none :: r) = (a0 :: a1 :: a2 :: a3 :: a4 :: a5 :: a6 :: a7 :: a8 :: a9 :: a10 :: a11 :: o :: r).set 12 none := by simp
    rw [e2, List.getElem?_set_ne (Ne.symm hj)] at e; exact e

/-! the heap: fields and arrays -/
theorem va_P1 {D : va_G} {cl : List vw_C} {q : Nat × va_E} {H : Heap} (h : va_at D cl q H) : va_P D cl [q] H := fun k x hx => by
  cases k with
  | zero => cases hx; exact h
  | succ k => simp at hx
def CFact (ci : Nat) (C : String) (Tb : u_T) (N : Nat) (ty : Nat → FieldType) : Prop := cls[ci]? = some (C, Tb, N) ∧ ci < 9 ∧ N = nf ci ∧ (∀ w ∈ u_ws C Tb N, w ∈ wT) ∧ (∀ k, k < N → parseFieldDescriptor (Tb k).2.2.1 = some (ty k)) ∧ (∀ a, a < N → ∀ b, b < N → a ≠ b → (Tb a).2.1 ≠ (Tb b).2.1) ∧ (∀ k, k < N → isr ci k = false → ty k = .int ∧ (Tb k).2.2.2 = false) ∧ (∀ k, k < N → (Tb k).1 = C)
def FL (own : String) (idx ci k : Nat) : Prop := ∃ C Tb N ty, CFact ci C Tb N ty ∧ k < N ∧ Cond.fieldLink own idx (Tb k).1 (Tb k).2.1 (Tb k).2.2.1 ∈ wT
theorem cE_obj {g : CG} {base : Nat} {R : Rg} {σ : Sg} {c ci : Nat} (hs : (sh c).1 = ci) (h9 : ci < 9) : cE g base R σ c = .inr (ci, (List.range (nf ci)).map (fv base R σ c)) := by
  unfold cE
  rw [if_pos (by rw [hs]; exact h9), hs]
theorem cE_int {g : CG} {base : Nat} {R : Rg} {σ : Sg} {c len : Nat} (hs : sh c = (9, len)) : cE g base R σ c = .inl (g.1, len, .inl (σ c)) := by
  unfold cE
  rw [hs]
  rfl
theorem cE_bool {g : CG} {base : Nat} {R : Rg} {σ : Sg} {c len : Nat} (hs : sh c = (10, len)) : cE g base R σ c = .inl (g.2.1, len, .inl (σ c)) := by
  unfold cE
  rw [hs]
  rfl
theorem cE_mdw {g : CG} {base : Nat} {R : Rg} {σ : Sg} {c len : Nat} (hs : sh c = (11, len)) : cE g base R σ c = .inl (g.2.2, len, .inr (.inr (.inr (.inr (fun j => (R c j).map (fun d => base + d)))))) := by
  unfold cE
  rw [hs]
  rfl
theorem cE_congr {g : CG} {base : Nat} {R R' : Rg} {σ σ' : Sg} {c : Nat} (h1 : σ c = σ' c) (h2 : R c = R' c) : cE g base R σ c = cE g base R' σ' c := by
  have h3 : fv base R σ c = fv base R' σ' c := by
    funext j
    simp [fv, h1, h2]
  unfold cE
  rw [h3, h1, h2]
theorem up_ne {σ : Sg} {c k a : Nat} {v : Int32} (h : a ≠ c) : up σ c k v a = σ a := by
  funext j
  simp [up, h]
theorem upr_ne {R : Rg} {c k a : Nat} {v : Option Nat} (h : a ≠ c) : upr R c k v a = R a := by
  funext j
  simp [upr, h]
theorem up_self {σ : Sg} {c k : Nat} {v : Int32} : up σ c k v c = upd (σ c) k v := by
  funext j
  simp [up, upd]
theorem WD.put {D : va_G} {g : CG} {base n : Nat} {R R' : Rg} {σ σ' : Sg} {H H1 : Heap} {c : Nat} (hW : WD D g base n R σ H) (z : H1.size = H.size) (oq : ∀ q : Nat, q ≠ base + c → H1[q]? = H[q]?) (h1 : ∀ a, a ≠ c → σ a = σ' a) (h2 : ∀ a, a ≠ c → R a = R' a) (hc : va_at D cls (base + c, cE g base R' σ' c) H1) : WD D g base n R' σ' H1 := by
  refine ⟨z.trans hW.1, fun a ha => ?_⟩
  by_cases e : a = c
  · subst e
    exact hc
  · rw [← cE_congr (h1 a e) (h2 a e)]
    exact (hW.2 a ha).kept (oq (base + a) (by omega))
theorem fs_setI {base N : Nat} {R : Rg} {σ : Sg} {c k : Nat} {v : Int32} (hi : isr (sh c).1 k = false) (hk : k < N) : ((List.range N).map (fv base R σ c)).set k (.int v) = (List.range N).map (fv base R (up σ c k v) c) := by
  apply List.ext_getElem?
  intro j
  by_cases hj : j = k
  · subst hj
    rw [List.getElem?_set_self (by simpa using hk), List.getElem?_map, List.getElem?_range hk]
    simp [fv, hi, up]
  · rw [List.getElem?_set_ne (Ne.symm hj), List.getElem?_map, List.getElem?_map]
    by_cases hN : j < N
    · rw [List.getElem?_range hN]
      simp [fv, up, hj]
    · rw [List.getElem?_eq_none (by simpa using Nat.le_of_not_lt hN)]
      rfl
theorem fs_setR {base N : Nat} {R : Rg} {σ : Sg} {c k d : Nat} (hi : isr (sh c).1 k = true) (hk : k < N) : ((List.range N).map (fv base R σ c)).set k (.ref (base + d)) = (List.range N).map (fv base (upr R c k (some d)) σ c) := by
  apply List.ext_getElem?
  intro j
  by_cases hj : j = k
  · subst hj
    rw [List.getElem?_set_self (by simpa using hk), List.getElem?_map, List.getElem?_range hk]
    simp [fv, hi, upr, va_rf]
  · rw [List.getElem?_set_ne (Ne.symm hj), List.getElem?_map, List.getElem?_map]
    by_cases hN : j < N
    · rw [List.getElem?_range hN]
      simp [fv, upr, hj]
    · rw [List.getElem?_eq_none (by simpa using Nat.le_of_not_lt hN)]
      rfl
section HEAP
variable {K : KT} {M : MT} {T : TT} {pc : Nat} {L : List (Option Value)} {st : List Value} {n : Nat} {R : Rg} {σ : Sg}
theorem aw_getI {c ci k idx : Nat} (hd : decode M.2.1 pc = .ok (.getfield idx, 3)) (hf : FL M.1 idx ci k) (hc : c < n) (hs : (sh c).1 = ci) (hi : isr ci k = false) (h : AW K M T (pc + 3) L (.int (σ c k) :: st) n R σ) : AW K M T pc L (.ref c :: st) n R σ := by
  obtain ⟨⟨p, l, e, s, m⟩, ⟨args, below, meth, c0⟩, D, g, ext, base, n0, rm⟩ := K
  intro ok H locs ls hW hS hl
  obtain ⟨C, Tb, N, ty, ⟨f1, f2, f3, f4, f5, f6, f7, f8⟩, hk, hlk⟩ := hf
  have hat := hW.2 c hc
  rw [cE_obj hs f2] at hat
  obtain ⟨hx, hb, hr, hml, hown, hts, hKS, hlo, hbs, hn0, hnT, hF, hLo, hCe, hSl⟩ := id ok
  have hv : ((List.range (nf ci)).map (fv base R σ c))[k]? = some (.int (σ c k)) := by
    rw [List.getElem?_map, List.getElem?_range (by omega)]
    simp [fv, hs, hi]
  exact va_get hx hb hts f4 hown hKS.1 (va_P1 hat) 0 rfl f1 k hk (hts _ hlk) (fun _ z => z) hv hd (h ok H locs ls hW hS hl)
theorem aw_getR {c ci k idx d : Nat} (hd : decode M.2.1 pc = .ok (.getfield idx, 3)) (hf : FL M.1 idx ci k) (hc : c < n) (hs : (sh c).1 = ci) (hi : isr ci k = true) (hr : R c k = some d) (h : AW K M T (pc + 3) L (.ref d :: st) n R σ) : AW K M T pc L (.ref c :: st) n R σ := by
  obtain ⟨⟨p, l, e, s, m⟩, ⟨args, below, meth, c0⟩, D, g, ext, base, n0, rm⟩ := K
  intro ok H locs ls hW hS hl
  obtain ⟨C, Tb, N, ty, ⟨f1, f2, f3, f4, f5, f6, f7, f8⟩, hk, hlk⟩ := hf
  have hat := hW.2 c hc
  rw [cE_obj hs f2] at hat
  obtain ⟨hx, hb, hr', hml, hown, hts, hKS, hlo, hbs, hn0, hnT, hF, hLo, hCe, hSl⟩ := id ok
  have hv : ((List.range (nf ci)).map (fv base R σ c))[k]? = some (.ref (base + d)) := by
    rw [List.getElem?_map, List.getElem?_range (by omega)]
    simp [fv, hs, hi, hr, va_rf]
  exact va_get hx hb hts f4 hown hKS.1 (va_P1 hat) 0 rfl f1 k hk (hts _ hlk) (fun _ z => z) hv hd (h ok H locs ls hW hS hl)
theorem aw_putI {c ci k idx : Nat} {v : Int32} (hd : decode M.2.1 pc = .ok (.putfield idx, 3)) (hf : FL M.1 idx ci k) (hc : c < n) (hs : (sh c).1 = ci) (hi : isr ci k = false) (h : AW K M T (pc + 3) L st n R (up σ c k v)) : AW K M T pc L (.int v :: .ref c :: st) n R σ := by
  obtain ⟨⟨p, l, e, s, m⟩, ⟨args, below, meth, c0⟩, D, g, ext, base, n0, rm⟩ := K
  intro ok H locs ls hW hS hl
  obtain ⟨C, Tb, N, ty, ⟨f1, f2, f3, f4, f5, f6, f7, f8⟩, hk, hlk⟩ := hf
  have hat := hW.2 c hc
  rw [cE_obj hs f2] at hat
  obtain ⟨hx, hb, hr', hml, hown, hts, hKS, hlo, hbs, hn0, hnT, hF, hLo, hCe, hSl⟩ := id ok
  have hap := va_apart (own := M.1) hts f4 ty f5 f6 hKS.1 f1
  obtain ⟨r, h1, cell, q1, q2, q3, q4⟩ := hat
  have hr : r = (C, Tb, N) := Option.some.inj (h1.symm.trans f1)
  subst hr
  obtain ⟨hSl, hfc, kC, hkC, hkind⟩ := hKS.1.1 ci _ f1
  obtain ⟨cf, kf, fi, f, hfi, hsl⟩ := hSl k hk
  have hlay := hts _ (f4 _ (u_in_lay hk))
  unfold u_lay at hlay
  rw [if_neg (by rw [(f7 k hk hi).2]; decide)] at hlay
  have hst := (u_facts hfc hkC (u_lays hts f4 hk) hfi).1
  have h6 := u_store (v := .int v) hfc hkC hkind hlay hfi (f5 k hk) (by rw [(f7 k hk hi).1]; rfl) (by rw [(f7 k hk hi).1]; rfl)
  have fin : ∀ H1 : Heap, H1[base + c]? = some (cell.setSlot f.slot (.int v)) → H1.size = H.size → (∀ q, q ≠ base + c → H1[q]? = H[q]?) → W p l e rm s m args below meth c0 H1 (locs ++ [⟨base + c, f.slot⟩]) (n - n0) (szs n - szs n0) (MQ below (QC D g base ext T) args s (T.2.1 - n0) (szs T.2.1 - szs n0) (fun q => base ≤ q)) (F0 m (pc + 3) ls (st.map (cv (base, ext)))) := by
    intro H1 e1 e2 e3
    rw [hsl] at e1 ⊢
    refine h ok H1 _ ls (hW.put e2 e3 (fun a ha => (up_ne ha).symm) (fun _ _ => rfl) ?_) (hS.put e2 e3 (Nat.le_add_right _ _)) hl
    rw [cE_obj hs f2]
    refine ⟨_, f1, t_OB.to (V := updV (vp_V ((List.range (nf ci)).map (fv base R σ c))) k (.int v)) ⟨_, e1, q2, q3, t_set q4 hap hk (.int v)⟩ (fun j _ => ?_)⟩
    rw [vp_updV_set (by simpa using (by omega : k < nf ci)), fs_setI (by rw [hs]; exact hi) (by omega)]
  exact W.putK hx hb (f := f) ⟨hown, hts _ hlk, ⟨_, _, _, hfi⟩, hst⟩ (by rw [q2]; exact h6) q1 q3 (by rw [hsl]; exact k2_hasslot (q4 k hk)) rfl rfl hd fin
def inb (i : Int32) (n : Nat) : Bool := decide (0 ≤ i) && decide (i.toNatClampNeg < n)
theorem inb_vp {i : Int32} {n : Nat} (h : inb i n = true) : vp_in i n := by
  simp only [inb, Bool.and_eq_true, decide_eq_true_eq] at h
  intro z
  rcases z with z | z
  · exact absurd h.1 (by simpa using z)
  · exact absurd h.2 (Nat.not_lt.mpr z)
theorem aw_iald {c len : Nat} {i : Int32} (hd : decode M.2.1 pc = .ok (.iaload, 1)) (hc : c < n) (hs : sh c = (9, len)) (hi : inb i len = true) (h : AW K M T (pc + 1) L (.int (σ c i.toNatClampNeg) :: st) n R σ) : AW K M T pc L (.int i :: .ref c :: st) n R σ := by
  obtain ⟨⟨p, l, e, s, m⟩, ⟨args, below, meth, c0⟩, D, g, ext, base, n0, rm⟩ := K
  intro ok H locs ls hW hS hl
  have hat := hW.2 c hc
  rw [cE_int hs] at hat
  obtain ⟨hx, hb, hr', hml, hown, hts, hKS, hlo, hbs, hn0, hnT, hF, hLo, hCe, hSl⟩ := id ok
  exact va_iald hx hb hKS.1 (va_P1 hat) 0 0 rfl rfl (inb_vp hi) hd (h ok H locs ls hW hS hl)
theorem aw_zald {c len : Nat} {i : Int32} (hd : decode M.2.1 pc = .ok (.baload, 1)) (hc : c < n) (hs : sh c = (10, len)) (hi : inb i len = true) (h : AW K M T (pc + 1) L (.int (σ c i.toNatClampNeg) :: st) n R σ) : AW K M T pc L (.int i :: .ref c :: st) n R σ := by
  obtain ⟨⟨p, l, e, s, m⟩, ⟨args, below, meth, c0⟩, D, g, ext, base, n0, rm⟩ := K
  intro ok H locs ls hW hS hl
  have hat := hW.2 c hc
  rw [cE_bool hs] at hat
  obtain ⟨hx, hb, hr', hml, hown, hts, hKS, hlo, hbs, hn0, hnT, hF, hLo, hCe, hSl⟩ := id ok
  exact va_zald hx hb hKS.1 (va_P1 hat) 0 1 rfl rfl (inb_vp hi) hd (h ok H locs ls hW hS hl)
theorem aw_aald {c len d : Nat} {i : Int32} (hd : decode M.2.1 pc = .ok (.aaload, 1)) (hc : c < n) (hs : sh c = (11, len)) (hi : inb i len = true) (hr : R c i.toNatClampNeg = some d) (h : AW K M T (pc + 1) L (.ref d :: st) n R σ) : AW K M T pc L (.int i :: .ref c :: st) n R σ := by
  obtain ⟨⟨p, l, e, s, m⟩, ⟨args, below, meth, c0⟩, D, g, ext, base, n0, rm⟩ := K
  intro ok H locs ls hW hS hl
  have hat := hW.2 c hc
  rw [cE_mdw hs] at hat
  obtain ⟨hx, hb, hr', hml, hown, hts, hKS, hlo, hbs, hn0, hnT, hF, hLo, hCe, hSl⟩ := id ok
  refine va_aldq hx hb hKS.1 (va_P1 hat) 0 2 rfl rfl (inb_vp hi) hd ?_
  rw [hr]
  exact h ok H locs ls hW hS hl
theorem aw_alen {c k len : Nat} {v : Int32} (hd : decode M.2.1 pc = .ok (.arraylength, 1)) (hc : c < n) (hs : sh c = (k, len)) (hk : k = 9 ∨ k = 11) (hv : Int32.ofNat len = v) (h : AW K M T (pc + 1) L (.int v :: st) n R σ) : AW K M T pc L (.ref c :: st) n R σ := by
  obtain ⟨⟨p, l, e, s, m⟩, ⟨args, below, meth, c0⟩, D, g, ext, base, n0, rm⟩ := K
  intro ok H locs ls hW hS hl
  have hat := hW.2 c hc
  obtain ⟨hx, hb, hr', hml, hown, hts, hKS, hlo, hbs, hn0, hnT, hF, hLo, hCe, hSl⟩ := id ok
  rcases hk with rfl | rfl
  · rw [cE_int hs] at hat
    exact va_alen hx hb hKS.1 (va_P1 hat) 0 0 rfl rfl hv hd (h ok H locs ls hW hS hl)
  · rw [cE_mdw hs] at hat
    exact va_alen hx hb hKS.1 (va_P1 hat) 0 2 rfl rfl hv hd (h ok H locs ls hW hS hl)
theorem aw_iast {c len : Nat} {i v : Int32} (hd : decode M.2.1 pc = .ok (.iastore, 1)) (hc : c < n) (hs : sh c = (9, len)) (hi : inb i len = true) (h : AW K M T (pc + 1) L st n R (up σ c i.toNatClampNeg v)) : AW K M T pc L (.int v :: .int i :: .ref c :: st) n R σ := by
  obtain ⟨⟨p, l, e, s, m⟩, ⟨args, below, meth, c0⟩, D, g, ext, base, n0, rm⟩ := K
  intro ok H locs ls hW hS hl
  have hat := hW.2 c hc
  rw [cE_int hs] at hat
  obtain ⟨hx, hb, hr', hml, hown, hts, hKS, hlo, hbs, hn0, hnT, hF, hLo, hCe, hSl⟩ := id ok
  refine W.iast hx hb hat ((hKS.1.2 0 _ rfl).1 len (fun j => .int (σ c j))) (fun q => by cases q) (by show ¬ (i < 0 ∨ (arrV _ _ _).slots.size ≤ _); rw [arrV_size]; exact inb_vp hi) rfl rfl hd fun H1 e1 e2 e3 => ?_
  refine h ok H1 _ ls (hW.put e2 e3 (fun a ha => (up_ne ha).symm) (fun _ _ => rfl) ?_) (hS.put e2 e3 (Nat.le_add_right _ _)) hl
  rw [cE_int hs]
  show H1[base + c]? = some (vp_cell _ _)
  rw [e1, vp_cell_i, vp_cell_i, arrV_store, up_self]
  congr 2
  funext q
  by_cases hq : q = i.toNatClampNeg
  · subst hq
    simp [updV, upd]
  · simp [updV, upd, hq]
theorem aw_zast {c len : Nat} {i v : Int32} (hd : decode M.2.1 pc = .ok (.bastore, 1)) (hc : c < n) (hs : sh c = (10, len)) (hi : inb i len = true) (h : AW K M T (pc + 1) L st n R (up σ c i.toNatClampNeg (vp_nar .boolean v))) : AW K M T pc L (.int v :: .int i :: .ref c :: st) n R σ := by
  obtain ⟨⟨p, l, e, s, m⟩, ⟨args, below, meth, c0⟩, D, g, ext, base, n0, rm⟩ := K
  intro ok H locs ls hW hS hl
  have hat := hW.2 c hc
  rw [cE_bool hs] at hat
  obtain ⟨hx, hb, hr', hml, hown, hts, hKS, hlo, hbs, hn0, hnT, hF, hLo, hCe, hSl⟩ := id ok
  refine W.zast hx hb hat ((hKS.1.2 1 _ rfl).1 len (fun j => .int (σ c j))) (fun q => by cases q) (by show ¬ (i < 0 ∨ (arrV _ _ _).slots.size ≤ _); rw [arrV_size]; exact inb_vp hi) rfl rfl hd fun H1 e1 e2 e3 => ?_
  refine h ok H1 _ ls (hW.put e2 e3 (fun a ha => (up_ne ha).symm) (fun _ _ => rfl) ?_) (hS.put e2 e3 (Nat.le_add_right _ _)) hl
  rw [cE_bool hs]
  show H1[base + c]? = some (vp_cell _ _)
  rw [e1, vp_cell_i, vp_cell_i, arrV_store, up_self]
  congr 2
  funext q
  by_cases hq : q = i.toNatClampNeg
  · subst hq
    simp [updV, upd, vp_nar]
    try rfl
  · simp [updV, upd, hq]
end HEAP

/-! entry, returns, calls -/
section RET
variable {K : KT} {M : MT} {T : TT} {pc : Nat} {L : List (Option Value)} {st : List Value} {n : Nat} {R : Rg} {σ : Sg}
theorem aw_iret {x : Int32} (hd : decode M.2.1 pc = .ok (.ireturn, 1)) (hr : M.2.2.2.1 = some .int) (hT : T = (some (.int x), n, R, σ)) : AW K M T pc L [.int x] n R σ := by
  subst hT
  obtain ⟨⟨p, l, e, s, m⟩, ⟨args, below, meth, c0⟩, D, g, ext, base, n0, rm⟩ := K
  intro ok H locs ls hW hS hl
  obtain ⟨hx, hb, hre, hml, hown, hts, hKS, hlo, hbs, hn0, hnT, hF, hLo, hCe, hSl⟩ := id ok
  exact W.iret hx hb (by rw [hre, hr]) (fun t ht _ => ⟨⟨rfl, by rw [ht]; exact hW⟩, hS.F ht⟩) hS.2.2 hd hlo
theorem aw_zret {x : Int32} (hd : decode M.2.1 pc = .ok (.ireturn, 1)) (hr : M.2.2.2.1 = some .boolean) (h01 : x = 0 ∨ x = 1) (hT : T = (some (.int x), n, R, σ)) : AW K M T pc L [.int x] n R σ := by
  subst hT
  obtain ⟨⟨p, l, e, s, m⟩, ⟨args, below, meth, c0⟩, D, g, ext, base, n0, rm⟩ := K
  intro ok H locs ls hW hS hl
  obtain ⟨hx, hb, hre, hml, hown, hts, hKS, hlo, hbs, hn0, hnT, hF, hLo, hCe, hSl⟩ := id ok
  exact W.zret (ty := .boolean) hx hb (by rw [hre, hr]) (by rcases h01 with rfl | rfl <;> rfl) (fun t ht _ => ⟨⟨rfl, by rw [ht]; exact hW⟩, hS.F ht⟩) hS.2.2 hd hlo
theorem aw_lret {x : Int64} (hd : decode M.2.1 pc = .ok (.lreturn, 1)) (hr : M.2.2.2.1 = some .long) (hT : T = (some (.long x), n, R, σ)) : AW K M T pc L [.long x] n R σ := by
  subst hT
  obtain ⟨⟨p, l, e, s, m⟩, ⟨args, below, meth, c0⟩, D, g, ext, base, n0, rm⟩ := K
  intro ok H locs ls hW hS hl
  obtain ⟨hx, hb, hre, hml, hown, hts, hKS, hlo, hbs, hn0, hnT, hF, hLo, hCe, hSl⟩ := id ok
  exact W.lret hx hb (by rw [hre, hr]) (fun t ht _ => ⟨⟨rfl, by rw [ht]; exact hW⟩, hS.F ht⟩) hS.2.2 hd hlo
theorem aw_aret {c : Nat} {C : String} (hd : decode M.2.1 pc = .ok (.areturn, 1)) (hr : M.2.2.2.1 = some (.object C)) (hT : T = (some (.ref c), n, R, σ)) : AW K M T pc L [.ref c] n R σ := by
  subst hT
  obtain ⟨⟨p, l, e, s, m⟩, ⟨args, below, meth, c0⟩, D, g, ext, base, n0, rm⟩ := K
  intro ok H locs ls hW hS hl
  obtain ⟨hx, hb, hre, hml, hown, hts, hKS, hlo, hbs, hn0, hnT, hF, hLo, hCe, hSl⟩ := id ok
  exact W.aret (v := .ref (base + c)) hx hb (by rw [hre, hr]) (Or.inl ⟨_, rfl⟩) (Or.inr ⟨_, rfl⟩) (fun t ht _ => ⟨⟨rfl, by rw [ht]; exact hW⟩, hS.F ht⟩) hS.2.2 hd hlo
theorem aw_vret (hd : decode M.2.1 pc = .ok (.return_, 1)) (hr : M.2.2.2.1 = none) (hT : T = (none, n, R, σ)) : AW K M T pc L [] n R σ := by
  subst hT
  obtain ⟨⟨p, l, e, s, m⟩, ⟨args, below, meth, c0⟩, D, g, ext, base, n0, rm⟩ := K
  intro ok H locs ls hW hS hl
  obtain ⟨hx, hb, hre, hml, hown, hts, hKS, hlo, hbs, hn0, hnT, hF, hLo, hCe, hSl⟩ := id ok
  exact W.vret hx hb (by rw [hre, hr]) (fun t ht _ => ⟨⟨rfl, by rw [ht]; exact hW⟩, hS.F ht⟩) hS.2.2 hd hlo
theorem AMc.of {y : MethodName} {av : List Value} (hy : plainName y.cls = true) (hM : y.cls = M.1) (hlv : ∀ bt, lvA bt 0 L = lv_args 0 (av.map (cv bt))) (hle : ∀ bt, (lg_sl (av.map (cv bt))).length ≤ M.2.2.1) (hn : n ≤ T.2.1) (h : ∀ K, AW K M T 0 L [] n R σ) : AMc y M av n R σ T := by
  intro l D g ext base
  refine Met.ofW (cc := M.2.1) (maxL := M.2.2.1) (ret := M.2.2.2.1) hy rfl ?_
  intro p e s m args below meth c s₁ B hml hv
  obtain ⟨rfl, hWD, hKS⟩ := hv
  have hts0 := atoms_spec (ws := Cond.code y M.2.1 M.2.2.1 M.2.2.2.1 :: wT) B.pre
  have hl := lv_entry (av.map (cv (base, ext))) (n := M.2.2.1) (hle (base, ext))
  rw [← hlv] at hl
  rw [lg_entry_eq]
  have hb : base ≤ s.heap.size := by rw [hWD.1]; omega
  have hown : s.vm.findClass M.1 = some m.cls := by rw [← hM]; exact findClass_of_methodNamed B.named
  have z := h ((p, l, e, s, m), ((av.map (cv (base, ext))).toArray, below, meth, c), D, g, ext, base, n, roomOf M.2.2.2.2 n T.2.1) ⟨B.exec, B.bytes, B.returns, hml, hown, fun w hw => hts0 w (List.mem_cons_of_mem _ hw), hKS, B.notSynchronized, hb, Nat.le_refl _, hn, Nat.le_refl _, Nat.le_refl _, Nat.le_refl _, Nat.le_refl _⟩ s.heap [] _ hWD va_S.rf hl
  rw [Nat.sub_self, Nat.sub_self] at z
  exact z
def LV (own : String) (idx : Nat) (y : MethodName) (M' : MT) (na ci : Nat) : Prop := (∀ w ∈ wsV own idx y.cls y [Cond.code y M'.2.1 M'.2.2.1 M'.2.2.2.1], w ∈ wT) ∧ (y.cls ≠ "java/lang/invoke/MethodHandle" ∧ y.cls ≠ "java/lang/invoke/VarHandle" ∧ (parseMethodDescriptor y.desc).map (fun d => d.parameters.length) = some na) ∧ ∃ Tb N, cls[ci]? = some (y.cls, Tb, N)
theorem cat_map {bt : Nat × (Nat → Nat)} : ∀ rest : List Value, ((rest.map (cv bt)).map fun v => v.category).sum = (rest.map fun v => v.category).sum
  | [] => rfl
  | v :: r => by
    rw [List.map_cons, List.map_cons, List.map_cons, List.sum_cons, List.sum_cons, cat_map r, cv_cat]
theorem aw_fin {K0 : Program × Launch × Env × State × MethodId} {args : Array Value} {below : List Frame} {meth : Method} {c0 : Code} {D : va_G} {g : CG} {ext : Nat → Nat} {base n0 : Nat} {rm : Room} {H : Heap} {locs : List Loc} {ls : Array Slot} {rest : List Value} {a : Array Value} {r : Option Value} {n1 : Nat} {R1 : Rg} {σ1 : Sg} (ok : KOK (K0, (args, below, meth, c0), D, g, ext, base, n0, rm) M T n) (hW : WD D g base n R σ H) (hS : va_S (fun q => base ≤ q) K0.2.2.2.1.heap H locs) (hl : lv_has ls M.2.2.1 (lvA (base, ext) 0 L)) (hn1 : n ≤ n1) (hn2 : n1 ≤ T.2.1)
    (hr : va_Run K0.1 K0.2.1 K0.2.2.1 rm K0.2.2.2.1 K0.2.2.2.2 args below meth c0 H locs (n - n0) (szs n - szs n0) (n1 - n) (szs n1 - szs n) (F0 K0.2.2.2.2 pc ls (st.map (cv (base, ext)))) (rest.map (cv (base, ext))) (QC D g base ext (r, n1, R1, σ1) a) (fun q => base ≤ q))
    (h : AW (K0, (args, below, meth, c0), D, g, ext, base, n0, rm) M T (pc + 3) L (r.toList ++ rest) n1 R1 σ1) : W K0.1 K0.2.1 K0.2.2.1 rm K0.2.2.2.1 K0.2.2.2.2 args below meth c0 H locs (n - n0) (szs n - szs n0) (MQ below (QC D g base ext T) args K0.2.2.2.1 (T.2.1 - n0) (szs T.2.1 - szs n0) (fun q => base ≤ q)) (F0 K0.2.2.2.2 pc ls (st.map (cv (base, ext)))) := by
  obtain ⟨p, l, e, s, m⟩ := K0
  obtain ⟨hx, hb, hre, hml, hown, hts, hKS, hlo, hbs, hn0, hnT, hF, hLo, hCe, hSl⟩ := id ok
  intro T0 hT0 X
  obtain ⟨v, st₀, t, T', L', h0, X', hL', e1, e2, ⟨⟨hv, hw'⟩, hz, hk⟩, stp⟩ := hr T0 hT0 X
  cases hv
  rw [h0] at hz hk
  have q1 := szs_le hn0
  have q2 := szs_le hn1
  have hc1 : n - n0 + (n1 - n) = n1 - n0 := by omega
  have hc2 : szs n - szs n0 + (szs n1 - szs n) = szs n1 - szs n0 := by omega
  rw [hc1, hc2] at X'
  obtain ⟨t2, a1, b1⟩ := h ⟨hx, hb, hre, hml, hown, hts, hKS, hlo, hbs, by omega, hn2, hF, hLo, hCe, hSl⟩ T'.heap (locs ++ L') ls (by rw [e1]; exact hw') ⟨Nat.le_trans hS.1 (by rw [e1]; exact hz), fun q h1 h2 => by rw [e1, hk q (Nat.lt_of_lt_of_le h1 hS.1) h2]; exact hS.2.1 q h1 h2, fun q hq => by
      rcases List.mem_append.mp hq with h | h
      · exact hS.2.2 q h
      · exact hL' q h⟩ hl T' rfl X'
  refine ⟨t2, stp t2 ?_, b1⟩
  rw [List.map_append] at a1
  cases r <;> exact a1
theorem KS.blind {D : va_G} {g : CG} {ext : Nat → Nat} {base : Nat} {av : List Value} : FrameBlind (va_Pc av (fun U => WD D g base n R σ U.heap ∧ KS D g ext base U U.heap)) := fun _ U _ _ q => ⟨q.1, q.2.1, KS.same (u := U) rfl q.2.2⟩
theorem aw_callV {y : MethodName} {M' : MT} {c ci idx : Nat} {av rest : List Value} {r : Option Value} {n1 : Nat} {R1 : Rg} {σ1 : Sg} (hd : decode M.2.1 pc = .ok (.invokevirtual idx, 3)) (hl0 : LV M.1 idx y M' av.length ci) (hm : AMc y M' (.ref c :: av) n R σ (r, n1, R1, σ1)) (hdep : M'.2.2.2.2 + 1 ≤ M.2.2.2.2) (hmx : M'.2.2.1 ≤ 60) (hc : c < n) (hs : (sh c).1 = ci) (h9 : ci < 9) (hn1 : n ≤ n1) (hn2 : n1 ≤ T.2.1) (hw8 : (rest.map fun v => v.category).sum ≤ 8) (hst : st = av.reverse ++ .ref c :: rest) (h : AW K M T (pc + 3) L (r.toList ++ rest) n1 R1 σ1) : AW K M T pc L st n R σ := by
  obtain ⟨⟨p, l, e, s, m⟩, ⟨args, below, meth, c0⟩, D, g, ext, base, n0, rm⟩ := K
  intro ok H locs ls hW hS hl
  obtain ⟨hx, hb, hre, hml, hown, hts, hKS, hlo, hbs, hn0, hnT, hF, hLo, hCe, hSl⟩ := id ok
  have q1 := szs_le hn0
  have q2 := szs_le hn1
  have q3 := szs_le hn2
  have hat := hW.2 c hc
  rw [cE_obj hs h9] at hat
  obtain ⟨Tb, N, hcl⟩ := hl0.2.2
  have hG : GoodIn wT (wsV M.1 idx y.cls y (Cond.code y M'.2.1 M'.2.2.1 M'.2.2.2.1 :: wT)) := gT fun w hw => by
    rcases List.mem_append.mp hw with h | h
    · exact hl0.1 w (List.mem_append_left _ h)
    · rcases List.mem_cons.mp h with h | h
      · exact hl0.1 w (List.mem_append_right _ (by rw [h]; exact List.mem_cons_self))
      · exact h
  have hr := va_runV (l := l) (e := e) (R := rm) (below := below) (meth := meth) (H := H) (locs := locs) (cells := n - n0) (slots := szs n - szs n0) (As := av.map (cv (base, ext))) (rest := rest.map (cv (base, ext))) (g := F0 m pc ls (st.map (cv (base, ext)))) ⟨hx, hb, hml, hown, hts⟩ (hm l D g ext base) (cwV av.length hts hG rfl rfl rfl ⟨rfl, hl0.2.1⟩ ⟨by show M'.2.2.2.2 + 1 ≤ rm.frames; omega, by show 8 + (M'.2.2.1 + 11) + 100 * M'.2.2.2.2 ≤ rm.locals; omega⟩)
    ⟨KS.blind, va_recv (q0 := 0) hKS.1 (va_P1 hat) hcl rfl, fun U hU hWm => ⟨rfl, by rw [hU]; exact hW, by rw [hU]; exact KS.moved hWm hKS hS.2.1⟩⟩ rfl (by simp) hl.1 (by subst hst; show List.map _ _ = _; rw [List.map_append, List.map_reverse]; rfl) (lv_room (by rw [cat_map]; exact hw8)) hd ⟨by show n - n0 + (n1 - n) ≤ rm.cells; omega, by show szs n - szs n0 + (szs n1 - szs n) ≤ rm.slots; omega⟩
  exact aw_fin (K0 := (p, l, e, s, m)) ok hW hS hl hn1 hn2 hr h
theorem LV5 {own : String} {idx : Nat} {y : MethodName} {cc : Cond} (h1 : Cond.methodLink own idx y ∈ wT) (h2 : Cond.instanceMethod y ∈ wT) (h3 : Cond.selects y.cls y y ∈ wT) (h4 : Cond.initialized y.cls ∈ wT) (h5 : cc ∈ wT) : ∀ w ∈ wsV own idx y.cls y [cc], w ∈ wT := by
  simp only [wsV, List.cons_append, List.nil_append, List.forall_mem_cons]
  exact ⟨h1, h2, h3, h4, h5, fun _ z => absurd z List.not_mem_nil⟩
theorem LS4 {own : String} {idx : Nat} {y : MethodName} {cc : Cond} (h1 : Cond.methodLink own idx y ∈ wT) (h2 : Cond.static y ∈ wT) (h4 : Cond.initialized y.cls ∈ wT) (h5 : cc ∈ wT) : ∀ w ∈ va_wsS own idx y [cc], w ∈ wT := by
  simp only [va_wsS, List.cons_append, List.nil_append, List.forall_mem_cons]
  exact ⟨h1, h2, h4, h5, fun _ z => absurd z List.not_mem_nil⟩
def LVS (own : String) (idx : Nat) (y : MethodName) (M' : MT) (na : Nat) : Prop := (∀ w ∈ va_wsS own idx y [Cond.code y M'.2.1 M'.2.2.1 M'.2.2.2.1], w ∈ wT) ∧ (y.cls ≠ "java/lang/invoke/MethodHandle" ∧ y.cls ≠ "java/lang/invoke/VarHandle" ∧ (parseMethodDescriptor y.desc).map (fun d => d.parameters.length) = some na)
theorem aw_callS {y : MethodName} {M' : MT} {idx : Nat} {av rest : List Value} {r : Option Value} {n1 : Nat} {R1 : Rg} {σ1 : Sg} (hd : decode M.2.1 pc = .ok (.invokestatic idx, 3)) (hl0 : LVS M.1 idx y M' av.length) (hm : AMc y M' av n R σ (r, n1, R1, σ1)) (hdep : M'.2.2.2.2 + 1 ≤ M.2.2.2.2) (hmx : M'.2.2.1 ≤ 60) (hn1 : n ≤ n1) (hn2 : n1 ≤ T.2.1) (hw8 : (rest.map fun v => v.category).sum ≤ 8) (hst : st = av.reverse ++ rest) (h : AW K M T (pc + 3) L (r.toList ++ rest) n1 R1 σ1) : AW K M T pc L st n R σ := by
  obtain ⟨⟨p, l, e, s, m⟩, ⟨args, below, meth, c0⟩, D, g, ext, base, n0, rm⟩ := K
  intro ok H locs ls hW hS hl
  obtain ⟨hx, hb, hre, hml, hown, hts, hKS, hlo, hbs, hn0, hnT, hF, hLo, hCe, hSl⟩ := id ok
  have q1 := szs_le hn0
  have q2 := szs_le hn1
  have q3 := szs_le hn2
  have hG : GoodIn wT (va_wsS M.1 idx y (Cond.code y M'.2.1 M'.2.2.1 M'.2.2.2.1 :: wT)) := gT fun w hw => by
    rcases List.mem_append.mp hw with h | h
    · exact hl0.1 w (List.mem_append_left _ h)
    · rcases List.mem_cons.mp h with h | h
      · exact hl0.1 w (List.mem_append_right _ (by rw [h]; exact List.mem_cons_self))
      · exact h
  have hr := va_runS (l := l) (e := e) (R := rm) (below := below) (meth := meth) (H := H) (locs := locs) (cells := n - n0) (slots := szs n - szs n0) (As := av.map (cv (base, ext))) (rest := rest.map (cv (base, ext))) (g := F0 m pc ls (st.map (cv (base, ext)))) ⟨hx, hb, hml, hown, hts⟩ (hm l D g ext base) (va_cwS av.length hts hG rfl rfl rfl hl0.2 ⟨by show M'.2.2.2.2 + 1 ≤ rm.frames; omega, by show 8 + (M'.2.2.1 + 11) + 100 * M'.2.2.2.2 ≤ rm.locals; omega⟩)
    ⟨KS.blind, fun U hU hWm => ⟨rfl, by rw [hU]; exact hW, by rw [hU]; exact KS.moved hWm hKS hS.2.1⟩⟩ rfl (by simp) hl.1 (by subst hst; show List.map _ _ = _; rw [List.map_append, List.map_reverse]) (lv_room (by rw [cat_map]; exact hw8)) hd ⟨by show n - n0 + (n1 - n) ≤ rm.cells; omega, by show szs n - szs n0 + (szs n1 - szs n) ≤ rm.slots; omega⟩
  exact aw_fin (K0 := (p, l, e, s, m)) ok hW hS hl hn1 hn2 hr h
/-- a private static method of a nest mate -/
def LN (own : String) (idx : Nat) (y : MethodName) (M' : MT) (na : Nat) : Prop := (∀ w ∈ ([.static y, .initialized y.cls, Cond.code y M'.2.1 M'.2.2.1 M'.2.2.2.1] : List Cond), w ∈ wT) ∧ (y.cls ≠ "java/lang/invoke/MethodHandle" ∧ y.cls ≠ "java/lang/invoke/VarHandle" ∧ (parseMethodDescriptor y.desc).map (fun d => d.parameters.length) = some na) ∧ ∃ host, Cond.methodLinkNest own idx y host ∈ nestW
theorem aw_callSN {y : MethodName} {M' : MT} {idx : Nat} {av rest : List Value} {r : Option Value} {n1 : Nat} {R1 : Rg} {σ1 : Sg} (hd : decode M.2.1 pc = .ok (.invokestatic idx, 3)) (hl0 : LN M.1 idx y M' av.length) (hm : AMc y M' av n R σ (r, n1, R1, σ1)) (hdep : M'.2.2.2.2 + 1 ≤ M.2.2.2.2) (hmx : M'.2.2.1 ≤ 60) (hn1 : n ≤ n1) (hn2 : n1 ≤ T.2.1) (hw8 : (rest.map fun v => v.category).sum ≤ 8) (hst : st = av.reverse ++ rest) (h : AW K M T (pc + 3) L (r.toList ++ rest) n1 R1 σ1) : AW K M T pc L st n R σ := by
  obtain ⟨⟨p, l, e, s, m⟩, ⟨args, below, meth, c0⟩, D, g, ext, base, n0, rm⟩ := K
  intro ok H locs ls hW hS hl
  obtain ⟨hx, hb, hre, hml, hown, hts, hKS, hlo, hbs, hn0, hnT, hF, hLo, hCe, hSl⟩ := id ok
  have q1 := szs_le hn0
  have q2 := szs_le hn1
  have q3 := szs_le hn2
  obtain ⟨host, hnest⟩ := hl0.2.2
  have hG : GoodIn wT (Cond.code y M'.2.1 M'.2.2.1 M'.2.2.2.1 :: wT) := gT fun w hw => by
    rcases List.mem_cons.mp hw with h | h
    · exact hl0.1 w (by rw [h]; simp)
    · exact h
  have hr := va_runSN (l := l) (e := e) (R := rm) (below := below) (meth := meth) (H := H) (locs := locs) (cells := n - n0) (slots := szs n - szs n0) (As := av.map (cv (base, ext))) (rest := rest.map (cv (base, ext))) (g := F0 m pc ls (st.map (cv (base, ext)))) (Ts := wT) ⟨hx, hb, hml, hown, hts⟩ (hm l D g ext base) ⟨va_cnB av.length hts hG rfl rfl rfl (hKS.2.2.2.1 _ hnest) (hts _ (hl0.1 _ (by simp))) hl0.2.1 ⟨by show M'.2.2.2.2 + 1 ≤ rm.frames; omega, by show 8 + (M'.2.2.1 + 11) + 100 * M'.2.2.2.2 ≤ rm.locals; omega⟩, hts _ (hl0.1 _ (by simp)), trivial⟩
    ⟨KS.blind, fun U hU hWm => ⟨rfl, by rw [hU]; exact hW, by rw [hU]; exact KS.moved hWm hKS hS.2.1⟩⟩ rfl (by simp) hl.1 (by subst hst; show List.map _ _ = _; rw [List.map_append, List.map_reverse]) (lv_room (by rw [cat_map]; exact hw8)) hd ⟨by show n - n0 + (n1 - n) ≤ rm.cells; omega, by show szs n - szs n0 + (szs n1 - szs n) ≤ rm.slots; omega⟩
  exact aw_fin (K0 := (p, l, e, s, m)) ok hW hS hl hn1 hn2 hr h
/-! statics, constants, the library's methods -/
theorem aw_ldc {idx : Nat} {v : Int32} (hd : decode M.2.1 pc = .ok (.ldc idx, 2)) (hc : Cond.constant M.1 idx v ∈ wT) (h : AW K M T (pc + 2) L (.int v :: st) n R σ) : AW K M T pc L st n R σ := by
  obtain ⟨⟨p, l, e, s, m⟩, ⟨args, below, meth, c0⟩, D, g, ext, base, n0, rm⟩ := K
  intro ok H locs ls hW hS hl
  obtain ⟨hx, hb, hre, hml, hown, hts, hKS, hlo, hbs, hn0, hnT, hF, hLo, hCe, hSl⟩ := id ok
  exact lv_ldc hx hb hown (hts _ hc) hd (h ok H locs ls hW hS hl)
theorem aw_ldc2 {idx : Nat} {v : Int64} (hd : decode M.2.1 pc = .ok (.ldc2_w idx, 3)) (hc : Cond.constantLong M.1 idx v ∈ wT) (h : AW K M T (pc + 3) L (.long v :: st) n R σ) : AW K M T pc L st n R σ := by
  obtain ⟨⟨p, l, e, s, m⟩, ⟨args, below, meth, c0⟩, D, g, ext, base, n0, rm⟩ := K
  intro ok H locs ls hW hS hl
  obtain ⟨hx, hb, hre, hml, hown, hts, hKS, hlo, hbs, hn0, hnT, hF, hLo, hCe, hSl⟩ := id ok
  exact lv_ldc2 hx hb hown (hts _ hc) hd (h ok H locs ls hW hS hl)
theorem aw_gstat {idx : Nat} (hd : decode M.2.1 pc = .ok (.getstatic idx, 3)) (hlk : (Cond.fieldLink M.1 idx "SheepChess" "WORTHS" "[I" ∈ wT) ∨ ∃ host, Cond.fieldLinkNest M.1 idx "SheepChess" "WORTHS" "[I" host ∈ nestW) (h : AW K M T (pc + 3) L (.retAddr 0 :: st) n R σ) : AW K M T pc L st n R σ := by
  obtain ⟨⟨p, l, e, s, m⟩, ⟨args, below, meth, c0⟩, D, g, ext, base, n0, rm⟩ := K
  intro ok H locs ls hW hS hl
  obtain ⟨hx, hb, hre, hml, hown, hts, hKS, hlo, hbs, hn0, hnT, hF, hLo, hCe, hSl⟩ := id ok
  rcases hlk with hlk | ⟨host, hlk⟩
  · exact va_gets hx hb hKS.2.1 hS hown (hts _ hlk) (fun _ z => z) hd (h ok H locs ls hW hS hl)
  · exact va_getsN hx hb hKS.2.1 hS hown (va_Nw.use rfl (hKS.2.2.2.1 _ hlk)) (fun _ z => z) hd (h ok H locs ls hW hS hl)
theorem aw_tlen (hd : decode M.2.1 pc = .ok (.arraylength, 1)) (h : AW K M T (pc + 1) L (.int 4 :: st) n R σ) : AW K M T pc L (.retAddr 0 :: st) n R σ := by
  obtain ⟨⟨p, l, e, s, m⟩, ⟨args, below, meth, c0⟩, D, g, ext, base, n0, rm⟩ := K
  intro ok H locs ls hW hS hl
  obtain ⟨hx, hb, hre, hml, hown, hts, hKS, hlo, hbs, hn0, hnT, hF, hLo, hCe, hSl⟩ := id ok
  exact va_tlen hx hb hKS.2.2.1 hS (v := 4) rfl hd (h ok H locs ls hW hS hl)
theorem aw_tld {i : Int32} (hd : decode M.2.1 pc = .ok (.iaload, 1)) (hi : inb i 4 = true) (h : AW K M T (pc + 1) L (.int (wsI i.toNatClampNeg) :: st) n R σ) : AW K M T pc L (.int i :: .retAddr 0 :: st) n R σ := by
  obtain ⟨⟨p, l, e, s, m⟩, ⟨args, below, meth, c0⟩, D, g, ext, base, n0, rm⟩ := K
  intro ok H locs ls hW hS hl
  obtain ⟨hx, hb, hre, hml, hown, hts, hKS, hlo, hbs, hn0, hnT, hF, hLo, hCe, hSl⟩ := id ok
  exact va_ti hx hb hKS.2.2.1 hS (inb_vp hi) rfl hd (h ok H locs ls hW hS hl)
/-- Math.abs -/
def absI (x : Int32) : Int32 := if 0 ≤ x then x else 0 - x
theorem aw_abs {idx : Nat} {x : Int32} (hd : decode M.2.1 pc = .ok (.invokestatic idx, 3)) (hlk : ∀ w ∈ ([Cond.methodLink M.1 idx Lib.Math.abs.name, Cond.static Lib.Math.abs.name, Cond.initialized "java/lang/Math", Cond.code Lib.Math.abs.name Lib.Math.abs.code 1 (some .int)] : List Cond), w ∈ wT) (hdep : 1 ≤ M.2.2.2.2) (hw8 : (st.map fun v => v.category).sum ≤ 8) (h : AW K M T (pc + 3) L (.int (absI x) :: st) n R σ) : AW K M T pc L (.int x :: st) n R σ := by
  obtain ⟨⟨p, l, e, s, m⟩, ⟨args, below, meth, c0⟩, D, g, ext, base, n0, rm⟩ := K
  intro ok H locs ls hW hS hl
  obtain ⟨hx, hb, hre, hml, hown, hts, hKS, hlo, hbs, hn0, hnT, hF, hLo, hCe, hSl⟩ := id ok
  have q1 := szs_le hnT
  exact va_mabs hx hb (hml.trans hl.1.symm) hown (hts _ (hlk _ (by simp))) (hts _ (hlk _ (by simp))) (hts _ (hlk _ (by simp))) (hts _ (hlk _ (by simp))) (by show 1 ≤ rm.frames; omega) (by rw [cat_map]; show _ ≤ rm.locals; omega) (by show n - n0 ≤ rm.cells; omega) (by show szs n - szs n0 ≤ rm.slots; omega) hd (h ok H locs ls hW hS hl)
/-- a whole array copied -/
def upc (σ : Sg) (c d : Nat) : Sg := fun a j => if a = c then σ d j else σ a j
theorem arrV_ext {cI : ClassId} {N : Nat} {f g : Nat → Value} (h : ∀ j, j < N → f j = g j) : arrV cI N f = arrV cI N g := by
  unfold arrV
  congr 2
  funext j
  exact h j.val j.isLt
theorem aw_acopy {idx a0 a1 len : Nat} {z1 z2 nn : Int32} (hd : decode M.2.1 pc = .ok (.invokestatic idx, 3)) (hlk : ∀ w ∈ ([Cond.methodLink M.1 idx arraycopyName, Cond.native arraycopyName, Cond.static arraycopyName, Cond.initialized "java/lang/System"] : List Cond), w ∈ wT) (hc0 : a0 < n) (hc1 : a1 < n) (hs0 : sh a0 = (9, len)) (hs1 : sh a1 = (9, len)) (hz1 : z1 = 0) (hz2 : z2 = 0) (hn1 : ¬ nn < 0) (hn2 : nn.toNatClampNeg = len) (hdep : 1 ≤ M.2.2.2.2) (hw8 : (st.map fun v => v.category).sum ≤ 8) (h : AW K M T (pc + 3) L st n R (upc σ a1 a0)) : AW K M T pc L (.int nn :: .int z2 :: .ref a1 :: .int z1 :: .ref a0 :: st) n R σ := by
  obtain ⟨⟨p, l, e, s, m⟩, ⟨args, below, meth, c0⟩, D, g, ext, base, n0, rm⟩ := K
  intro ok H locs ls hW hS hl
  obtain ⟨hx, hb, hre, hml, hown, hts, hKS, hlo, hbs, hn0, hnT, hF, hLo, hCe, hSl⟩ := id ok
  subst hz1; subst hz2
  have g0 := hW.2 a0 hc0
  have g1 := hW.2 a1 hc1
  rw [cE_int hs0] at g0
  rw [cE_int hs1] at g1
  have g0 : H[base + a0]? = some (vp_cell g.1 (len, .inl (σ a0))) := g0
  have g1 : H[base + a1]? = some (vp_cell g.1 (len, .inl (σ a1))) := g1
  have zz : (0 : Int32).toNatClampNeg = 0 := by decide
  have hnf : nativeFrameWords "java/lang/System" "arraycopy" 5 + 11 ≤ 60 := by decide +kernel
  have nn0 : nn.toInt = (len : Int) := by
    have hz0 : (0 : Int) ≤ nn.toInt := by
      have := Int32.not_lt.mp hn1
      simpa using Int32.le_iff_toInt_le.mp this
    rw [← hn2]
    show nn.toInt = ((nn.toInt.toNat : Nat) : Int)
    omega
  have fin : ∀ (H1 : Heap) (locs1 : List Loc), H1[base + a1]? = some (vp_cell g.1 (len, .inl (σ a0))) → H1.size = H.size → (∀ q, q ≠ base + a1 → H1[q]? = H[q]?) → va_S (fun q => base ≤ q) s.heap H1 locs1 → W p l e rm s m args below meth c0 H1 locs1 (n - n0) (szs n - szs n0) (MQ below (QC D g base ext T) args s (T.2.1 - n0) (szs T.2.1 - szs n0) (fun q => base ≤ q)) (F0 m (pc + 3) ls (st.map (cv (base, ext)))) := by
    intro H1 locs1 e1 e2 e3 hS1
    refine h ok H1 _ ls (hW.put e2 e3 (fun a ha => by funext j; simp [upc, ha]) (fun _ _ => rfl) ?_) hS1 hl
    rw [cE_int hs1]
    have eu : upc σ a1 a0 a1 = σ a0 := by
      funext j
      simp [upc]
    rw [eu]
    exact e1
  intro T0 hT0 X
  obtain ⟨-, k0, hk0, cm0, hkk0⟩ := (hKS.1.2 0 _ rfl).1 len (fun j => .int (σ a0 j))
  obtain ⟨-, k1, hk1, cm1, hkk1⟩ := (hKS.1.2 0 _ rfl).1 len (fun j => .int (σ a1 j))
  obtain ⟨vm', X', step⟩ := X.arraycopy (index := idx) hx hown (hts _ (hlk (Cond.methodLink M.1 idx arraycopyName) (by simp))) (hts _ (hlk (Cond.native arraycopyName) (by simp))) (hts _ (hlk (Cond.static arraycopyName) (by simp))) (hts _ (hlk (Cond.initialized "java/lang/System") (by simp))) (src := base + a0) (dst := base + a1) (cs := vp_cell g.1 (len, .inl (σ a0))) (cd := vp_cell g.1 (len, .inl (σ a1))) (srcPos := 0) (destPos := 0) (n := nn) (by rw [hT0]; exact g0) (by rw [hT0]; exact g1)
    (fun _ h => by cases h) (fun _ h => by cases h) (fun h => by cases h) (fun h => by cases h) hk0 hk1 hkk0 hkk1 (by simp) (by decide) (by decide) hn1
    (by rw [nn0]; show ¬ _ > ((arrV g.1 len (fun j => .int (σ a0 j))).slots.size : Int); rw [arrV_size]; simp)
    (by rw [nn0]; show ¬ _ > ((arrV g.1 len (fun j => .int (σ a1 j))).slots.size : Int); rw [arrV_size]; simp)
    (fun vm₁ _ i hi => by
      have e : (vp_cell g.1 (len, .inl (σ a0))).slots.getD ((0 : Int32).toNatClampNeg + i) .null = .int (σ a0 ((0 : Int32).toNatClampNeg + i)) := by
        show (arrV g.1 len (fun j => .int (σ a0 j))).slots.getD _ _ = _
        rw [Array.getD_eq_getD_getElem?, arrV_read _ _ (by rw [zz]; omega)]
        rfl
      refine ⟨?_, ?_⟩
      · rw [e]
        rfl
      · rw [e]
        exact trivial)
    (g := F0 m pc ls (.int nn :: .int 0 :: .ref (base + a1) :: .int 0 :: .ref (base + a0) :: st.map (cv (base, ext)))) rfl (by rw [hml]; exact hl.1) (rest := st.map (cv (base, ext))) rfl (by rw [hb]; exact hd) (by show 1 ≤ rm.frames; omega) (by rw [cat_map]; show 2 * 0 + _ + (nativeFrameWords "java/lang/System" "arraycopy" 5 + 11) ≤ rm.locals; omega)
  have e1 : copied (vp_cell g.1 (len, .inl (σ a0))) (vp_cell g.1 (len, .inl (σ a1))) 0 0 nn = vp_cell g.1 (len, .inl (σ a0)) := by
    have z := va_copied (n0 := len) (n1 := len) (sp := 0) (dp := 0) (n := len) (fun z => Value.int z) g.1 g.1 (σ a0) (σ a1) (by omega)
    have z2 : copied (vp_cell g.1 (len, .inl (σ a0))) (vp_cell g.1 (len, .inl (σ a1))) 0 0 nn = arrV g.1 len (fun j => .int (va_cpy (σ a0) (σ a1) 0 0 len j)) := by
      rw [← z]
      show Cell.storeRun _ (0 : Int32).toNatClampNeg (Cell.stretch _ (0 : Int32).toNatClampNeg nn.toNatClampNeg) = _
      rw [zz, hn2]
      rfl
    rw [z2]
    rw [vp_cell_i]
    exact arrV_ext (fun j hj => by simp [va_cpy, hj])
  rw [e1] at X' step
  have hl2 : base + a1 < H.size := (Array.getElem?_eq_some_iff.mp g1).1
  have hheap : ((T0.setVm vm').setCell (base + a1) (vp_cell g.1 (len, .inl (σ a0)))).heap = H.setIfInBounds (base + a1) (vp_cell g.1 (len, .inl (σ a0))) := by rw [← hT0]; rfl
  have oq : ∀ q : Nat, q ≠ base + a1 → (H.setIfInBounds (base + a1) (vp_cell g.1 (len, .inl (σ a0))))[q]? = H[q]? := fun q hq => by simp [Array.getElem?_setIfInBounds, Ne.symm hq]
  obtain ⟨t, b1, b2⟩ := fin _ _ (by simp [Array.getElem?_setIfInBounds, hl2]) (by simp) oq ⟨by simp; exact hS.1, fun q g1 g2 => by
      rw [oq q (fun e => g2 (by show base ≤ q; omega))]
      exact hS.2.1 q g1 g2, fun q hq => by
      rcases List.mem_append.mp hq with h | h
      · exact hS.2.2 q h
      · obtain ⟨z, -, hz⟩ := List.mem_map.mp h
        rw [← hz]
        exact Nat.le_add_right _ _⟩ _ hheap X'
  exact ⟨t, step t b1, b2⟩
theorem aw_ifnn {x tgt : Nat} {off : Int} (hd : decode M.2.1 pc = .ok (.ifnonnull off, 3)) (ht : (pc : Int) + off = (tgt : Int)) (h : AW K M T tgt L st n R σ) : AW K M T pc L (.ref x :: st) n R σ := by
  obtain ⟨⟨p, l, e, s, m⟩, ⟨args, below, meth, c0⟩, D, g, ext, base, n0, rm⟩ := K
  intro ok H locs ls hW hS hl
  exact lv_ifnonnull ok.1 ok.2.1 hd ht (h ok H locs ls hW hS hl)
/-! switches -/
theorem aw_tin {x k : Int32} {dflt lo hi off : Int} {offs : Array Int} {len tgt : Nat} (hd : decode M.2.1 pc = .ok (.tableswitch dflt lo hi offs, len)) (hx : x = k) (h1 : ¬ k.toInt < lo) (h2 : ¬ hi < k.toInt) (ho : offs[(k.toInt - lo).toNat]? = some off) (ht : (pc : Int) + off = (tgt : Int)) (h : AW K M T tgt L st n R σ) : AW K M T pc L (.int x :: st) n R σ := by
  subst hx
  obtain ⟨⟨p, l, e, s, m⟩, ⟨args, below, meth, c0⟩, D, g, ext, base, n0, rm⟩ := K
  intro ok H locs ls hW hS hl
  exact lv_tableIn ok.1 ok.2.1 hd h1 h2 ho ht (h ok H locs ls hW hS hl)
theorem aw_tout {x : Int32} {dflt lo hi : Int} {offs : Array Int} {len tgt : Nat} (hd : decode M.2.1 pc = .ok (.tableswitch dflt lo hi offs, len)) (hx : x.toInt < lo ∨ hi < x.toInt) (ht : (pc : Int) + dflt = (tgt : Int)) (h : AW K M T tgt L st n R σ) : AW K M T pc L (.int x :: st) n R σ := by
  obtain ⟨⟨p, l, e, s, m⟩, ⟨args, below, meth, c0⟩, D, g, ext, base, n0, rm⟩ := K
  intro ok H locs ls hW hS hl
  exact lv_tableOut ok.1 ok.2.1 hd hx ht (h ok H locs ls hW hS hl)
theorem aw_lsw {x : Int32} {dflt off : Int} {ps : Array (Int × Int)} {len tgt : Nat} (hd : decode M.2.1 pc = .ok (.lookupswitch dflt ps, len)) (hp : (ps.toList.zip (ps.toList.drop 1)).all (fun (a, next) => a.1 < next.1) = true) (ho : Op.lookupswitch.offset ps.toList dflt x.toInt = off) (ht : (pc : Int) + off = (tgt : Int)) (h : AW K M T tgt L st n R σ) : AW K M T pc L (.int x :: st) n R σ := by
  obtain ⟨⟨p, l, e, s, m⟩, ⟨args, below, meth, c0⟩, D, g, ext, base, n0, rm⟩ := K
  intro ok H locs ls hW hS hl
  exact lv_lookup ok.1 ok.2.1 hd hp ho ht (h ok H locs ls hW hS hl)
end RET
end
section
/-! words of the tables that the links use: one list, in the order of the tables; checked in one pass -/
theorem pd_0 : (parseMethodDescriptor "(I)Z").map (fun d => d.parameters.length) = some 1 := by decide +kernel
theorem pd_1 : (parseMethodDescriptor "()V").map (fun d => d.parameters.length) = some 0 := by decide +kernel
theorem pd_2 : (parseMethodDescriptor "(I)LSheepChess$Meadow;").map (fun d => d.parameters.length) = some 1 := by decide +kernel
theorem pd_3 : (parseMethodDescriptor "(LSheepChess$Meadow;)V").map (fun d => d.parameters.length) = some 1 := by decide +kernel
theorem pd_4 : (parseMethodDescriptor "(II)V").map (fun d => d.parameters.length) = some 2 := by decide +kernel
theorem pd_5 : (parseMethodDescriptor "(IIII)Z").map (fun d => d.parameters.length) = some 4 := by decide +kernel
theorem pd_6 : (parseMethodDescriptor "()I").map (fun d => d.parameters.length) = some 0 := by decide +kernel
theorem pd_7 : (parseMethodDescriptor "(I)I").map (fun d => d.parameters.length) = some 1 := by decide +kernel
theorem pd_8 : (parseMethodDescriptor "(III)LSheepChess$Meadow;").map (fun d => d.parameters.length) = some 3 := by decide +kernel
theorem pd_9 : (parseMethodDescriptor "(II)I").map (fun d => d.parameters.length) = some 2 := by decide +kernel
theorem pd_10 : (parseMethodDescriptor "(IIII)J").map (fun d => d.parameters.length) = some 4 := by decide +kernel
theorem pd_11 : (parseMethodDescriptor "(IIZ)I").map (fun d => d.parameters.length) = some 3 := by decide +kernel
theorem pd_12 : (parseMethodDescriptor "(II)Z").map (fun d => d.parameters.length) = some 2 := by decide +kernel
theorem pd_13 : (parseMethodDescriptor "(III)V").map (fun d => d.parameters.length) = some 3 := by decide +kernel
theorem pd_14 : (parseMethodDescriptor "(IIZ)Z").map (fun d => d.parameters.length) = some 3 := by decide +kernel
theorem pd_15 : (parseMethodDescriptor "()Z").map (fun d => d.parameters.length) = some 0 := by decide +kernel
theorem pd_16 : (parseMethodDescriptor "(I)V").map (fun d => d.parameters.length) = some 1 := by decide +kernel
theorem pd_17 : (parseMethodDescriptor "(IIII)V").map (fun d => d.parameters.length) = some 4 := by decide +kernel
theorem pd_18 : (parseMethodDescriptor "(LSheepChess$Meadow;I)V").map (fun d => d.parameters.length) = some 2 := by decide +kernel
theorem pd_19 : (parseMethodDescriptor "(LSheepChess$Meadow;I)I").map (fun d => d.parameters.length) = some 2 := by decide +kernel
theorem pd_20 : (parseMethodDescriptor "(IILSheepChess$Meadow;)Z").map (fun d => d.parameters.length) = some 3 := by decide +kernel
theorem pd_21 : (parseMethodDescriptor "(LSheepChess$Meadow;III)J").map (fun d => d.parameters.length) = some 4 := by decide +kernel
theorem pd_22 : (parseMethodDescriptor "(JJ)J").map (fun d => d.parameters.length) = some 2 := by decide +kernel
theorem pd_23 : (parseMethodDescriptor "(LSheepChess$Land;)V").map (fun d => d.parameters.length) = some 1 := by decide +kernel
theorem pd_24 : (parseMethodDescriptor "(III)Z").map (fun d => d.parameters.length) = some 3 := by decide +kernel
theorem pd_25 : (parseMethodDescriptor "([II[III)V").map (fun d => d.parameters.length) = some 5 := by decide +kernel
theorem pd_26 : (parseMethodDescriptor "(IIIZ)I").map (fun d => d.parameters.length) = some 4 := by decide +kernel
theorem pd_27 : (parseMethodDescriptor "(III)I").map (fun d => d.parameters.length) = some 3 := by decide +kernel
theorem pd_28 : (parseMethodDescriptor "(IIII)I").map (fun d => d.parameters.length) = some 4 := by decide +kernel
theorem ne_0 : (RX2 : String) ≠ "java/lang/invoke/MethodHandle" ∧ (RX2 : String) ≠ "java/lang/invoke/VarHandle" := by decide +kernel
theorem ne_1 : (RX4 : String) ≠ "java/lang/invoke/MethodHandle" ∧ (RX4 : String) ≠ "java/lang/invoke/VarHandle" := by decide +kernel
theorem ne_2 : (RX0 : String) ≠ "java/lang/invoke/MethodHandle" ∧ (RX0 : String) ≠ "java/lang/invoke/VarHandle" := by decide +kernel
theorem ne_3 : (RX1 : String) ≠ "java/lang/invoke/MethodHandle" ∧ (RX1 : String) ≠ "java/lang/invoke/VarHandle" := by decide +kernel
theorem ne_4 : ("java/lang/Math" : String) ≠ "java/lang/invoke/MethodHandle" ∧ ("java/lang/Math" : String) ≠ "java/lang/invoke/VarHandle" := by decide +kernel
theorem ne_5 : (RX3 : String) ≠ "java/lang/invoke/MethodHandle" ∧ (RX3 : String) ≠ "java/lang/invoke/VarHandle" := by decide +kernel
theorem ne_6 : (RX5 : String) ≠ "java/lang/invoke/MethodHandle" ∧ (RX5 : String) ≠ "java/lang/invoke/VarHandle" := by decide +kernel
theorem ne_7 : (RX7 : String) ≠ "java/lang/invoke/MethodHandle" ∧ (RX7 : String) ≠ "java/lang/invoke/VarHandle" := by decide +kernel
theorem ne_8 : (RX6 : String) ≠ "java/lang/invoke/MethodHandle" ∧ (RX6 : String) ≠ "java/lang/invoke/VarHandle" := by decide +kernel
theorem ne_9 : (RX8 : String) ≠ "java/lang/invoke/MethodHandle" ∧ (RX8 : String) ≠ "java/lang/invoke/VarHandle" := by decide +kernel
end
section
/-! facts of the cells: meadows, lands, piles; one cell, one reference slot; links -/
abbrev NC : Nat := 141
theorem nlt {a N : Nat} (h : a < NC) (hN : NC ≤ N) : a < N := Nat.lt_of_lt_of_le h hN
def FU : Nat := 1000
def FR : Nat := 12
def mds : List Nat := [9, 14, 19, 27, 33, 38, 43, 48, 53, 58, 63, 69, 75, 87, 95, 101, 106, 111, 116, 121, 126, 131, 136]
def lds : List Nat := [1, 6]
def pls : List Nat := [26, 68, 94]
def isM (c : Nat) : Bool := mds.contains c
def isL (c : Nat) : Bool := lds.contains c
def isP (c : Nat) : Bool := pls.contains c
def isA (c : Nat) : Bool := decide (c < NT) && decide ((sh c).1 = 9)
def aln (c : Nat) : Nat := (sh c).2
def lnd (c : Nat) : Nat := if c = 9 then 6 else 1
def pln (p : Nat) : Nat := (sh (p + 6)).2
def pm (p i : Nat) : Nat := if i = 0 then p + 1 else p + 2 + 5 * i
theorem isM_mem {c : Nat} (h : isM c = true) : c ∈ mds := by simpa [isM] using h
theorem isL_mem {c : Nat} (h : isL c = true) : c ∈ lds := by simpa [isL] using h
theorem isP_mem {c : Nat} (h : isP c = true) : c ∈ pls := by simpa [isP] using h
theorem mS {c : Nat} (h : isM c = true) : (sh c).1 = 2 := (by decide +kernel : ∀ c ∈ mds, (sh c).1 = 2) c (isM_mem h)
theorem mlt {c : Nat} (h : isM c = true) : c < NC := (by decide +kernel : ∀ c ∈ mds, c < NC) c (isM_mem h)
theorem lndL {c : Nat} (h : isM c = true) : isL (lnd c) = true := (by decide +kernel : ∀ c ∈ mds, isL (lnd c) = true) c (isM_mem h)
theorem mR0 {c : Nat} (h : isM c = true) : R0 c 0 = some (lnd c) := (by decide +kernel : ∀ c ∈ mds, R0 c 0 = some (lnd c)) c (isM_mem h)
theorem mA1 {c : Nat} (h : isM c = true) : sh (c + 1) = (9, 36) := (by decide +kernel : ∀ c ∈ mds, sh (c + 1) = (9, 36)) c (isM_mem h)
theorem mlt1 {c : Nat} (h : isM c = true) : c + 1 < NC := (by decide +kernel : ∀ c ∈ mds, c + 1 < NC) c (isM_mem h)
theorem mR1 {c : Nat} (h : isM c = true) : R0 c 1 = some (c + 1) := (by decide +kernel : ∀ c ∈ mds, R0 c 1 = some (c + 1)) c (isM_mem h)
theorem mA2 {c : Nat} (h : isM c = true) : sh (c + 2) = (9, 8) := (by decide +kernel : ∀ c ∈ mds, sh (c + 2) = (9, 8)) c (isM_mem h)
theorem mlt2 {c : Nat} (h : isM c = true) : c + 2 < NC := (by decide +kernel : ∀ c ∈ mds, c + 2 < NC) c (isM_mem h)
theorem mR2 {c : Nat} (h : isM c = true) : R0 c 2 = some (c + 2) := (by decide +kernel : ∀ c ∈ mds, R0 c 2 = some (c + 2)) c (isM_mem h)
theorem mA3 {c : Nat} (h : isM c = true) : sh (c + 3) = (9, 8) := (by decide +kernel : ∀ c ∈ mds, sh (c + 3) = (9, 8)) c (isM_mem h)
theorem mlt3 {c : Nat} (h : isM c = true) : c + 3 < NC := (by decide +kernel : ∀ c ∈ mds, c + 3 < NC) c (isM_mem h)
theorem mR3 {c : Nat} (h : isM c = true) : R0 c 3 = some (c + 3) := (by decide +kernel : ∀ c ∈ mds, R0 c 3 = some (c + 3)) c (isM_mem h)
theorem mA4 {c : Nat} (h : isM c = true) : sh (c + 4) = (9, 8) := (by decide +kernel : ∀ c ∈ mds, sh (c + 4) = (9, 8)) c (isM_mem h)
theorem mlt4 {c : Nat} (h : isM c = true) : c + 4 < NC := (by decide +kernel : ∀ c ∈ mds, c + 4 < NC) c (isM_mem h)
theorem mR4 {c : Nat} (h : isM c = true) : R0 c 4 = some (c + 4) := (by decide +kernel : ∀ c ∈ mds, R0 c 4 = some (c + 4)) c (isM_mem h)
theorem lS {c : Nat} (h : isL c = true) : (sh c).1 = 1 := (by decide +kernel : ∀ c ∈ lds, (sh c).1 = 1) c (isL_mem h)
theorem llt {c : Nat} (h : isL c = true) : c < NC := (by decide +kernel : ∀ c ∈ lds, c < NC) c (isL_mem h)
theorem lA1 {c : Nat} (h : isL c = true) : sh (c + 1) = (9, 8) := (by decide +kernel : ∀ c ∈ lds, sh (c + 1) = (9, 8)) c (isL_mem h)
theorem llt1 {c : Nat} (h : isL c = true) : c + 1 < NC := (by decide +kernel : ∀ c ∈ lds, c + 1 < NC) c (isL_mem h)
theorem lR1 {c : Nat} (h : isL c = true) : R0 c 7 = some (c + 1) := (by decide +kernel : ∀ c ∈ lds, R0 c 7 = some (c + 1)) c (isL_mem h)
theorem lA2 {c : Nat} (h : isL c = true) : sh (c + 2) = (9, 9) := (by decide +kernel : ∀ c ∈ lds, sh (c + 2) = (9, 9)) c (isL_mem h)
theorem llt2 {c : Nat} (h : isL c = true) : c + 2 < NC := (by decide +kernel : ∀ c ∈ lds, c + 2 < NC) c (isL_mem h)
theorem lR2 {c : Nat} (h : isL c = true) : R0 c 8 = some (c + 2) := (by decide +kernel : ∀ c ∈ lds, R0 c 8 = some (c + 2)) c (isL_mem h)
theorem pS {c : Nat} (h : isP c = true) : (sh c).1 = 4 := (by decide +kernel : ∀ c ∈ pls, (sh c).1 = 4) c (isP_mem h)
theorem plt {c : Nat} (h : isP c = true) : c < NC := (by decide +kernel : ∀ c ∈ pls, c < NC) c (isP_mem h)
theorem plt6 {c : Nat} (h : isP c = true) : c + 6 < NC := (by decide +kernel : ∀ c ∈ pls, c + 6 < NC) c (isP_mem h)
theorem pA {c : Nat} (h : isP c = true) : sh (c + 6) = (11, pln c) := (by decide +kernel : ∀ c ∈ pls, sh (c + 6) = (11, pln c)) c (isP_mem h)
theorem pR0 {c : Nat} (h : isP c = true) : R0 c 0 = some (c + 1) := (by decide +kernel : ∀ c ∈ pls, R0 c 0 = some (c + 1)) c (isP_mem h)
theorem pR1 {c : Nat} (h : isP c = true) : R0 c 1 = some (c + 6) := (by decide +kernel : ∀ c ∈ pls, R0 c 1 = some (c + 6)) c (isP_mem h)
theorem pM0 {c : Nat} (h : isP c = true) : isM (c + 1) = true := (by decide +kernel : ∀ c ∈ pls, isM (c + 1) = true) c (isP_mem h)
theorem inb_lt {i : Int32} {n : Nat} (z : inb i n = true) : i.toNatClampNeg < n := by
  simp only [inb, Bool.and_eq_true, decide_eq_true_eq] at z
  exact z.2
theorem pMi {p : Nat} {i : Int32} (h : isP p = true) (z : inb i (pln p) = true) : isM (pm p i.toNatClampNeg) = true := (by decide +kernel : ∀ p ∈ pls, ∀ k, k < pln p → isM (pm p k) = true) p (isP_mem h) _ (inb_lt z)
theorem pRA {p : Nat} {i : Int32} (h : isP p = true) (z : inb i (pln p) = true) : R0 (p + 6) i.toNatClampNeg = some (pm p i.toNatClampNeg) := (by decide +kernel : ∀ p ∈ pls, ∀ k, k < pln p → R0 (p + 6) k = some (pm p k)) p (isP_mem h) _ (inb_lt z)
theorem alt {c : Nat} (h : isA c = true) : c < NT := by
  simp only [isA, Bool.and_eq_true, decide_eq_true_eq] at h
  exact h.1
theorem aS {c : Nat} (h : isA c = true) : sh c = (9, aln c) := by
  simp only [isA, Bool.and_eq_true, decide_eq_true_eq] at h
  exact Prod.ext h.2 rfl
theorem s_0 : sh 0 = (7, 0) := by decide +kernel
theorem s_1 : sh 1 = (1, 0) := by decide +kernel
theorem s_4 : sh 4 = (5, 0) := by decide +kernel
theorem s_5 : sh 5 = (9, 200) := by decide +kernel
theorem s_6 : sh 6 = (1, 0) := by decide +kernel
theorem s_7 : sh 7 = (9, 8) := by decide +kernel
theorem s_8 : sh 8 = (9, 9) := by decide +kernel
theorem s_9 : sh 9 = (2, 0) := by decide +kernel
theorem s_10 : sh 10 = (9, 36) := by decide +kernel
theorem s_13 : sh 13 = (9, 8) := by decide +kernel
theorem s_14 : sh 14 = (2, 0) := by decide +kernel
theorem s_19 : sh 19 = (2, 0) := by decide +kernel
theorem s_24 : sh 24 = (3, 0) := by decide +kernel
theorem s_25 : sh 25 = (9, 8) := by decide +kernel
theorem s_26 : sh 26 = (4, 0) := by decide +kernel
theorem s_68 : sh 68 = (4, 0) := by decide +kernel
theorem s_80 : sh 80 = (6, 0) := by decide +kernel
theorem s_81 : sh 81 = (9, 72) := by decide +kernel
theorem s_82 : sh 82 = (9, 72) := by decide +kernel
theorem s_83 : sh 83 = (9, 72) := by decide +kernel
theorem s_84 : sh 84 = (9, 72) := by decide +kernel
theorem s_85 : sh 85 = (9, 72) := by decide +kernel
theorem s_86 : sh 86 = (10, 72) := by decide +kernel
theorem s_87 : sh 87 = (2, 0) := by decide +kernel
theorem s_92 : sh 92 = (0, 0) := by decide +kernel
theorem s_93 : sh 93 = (9, 5) := by decide +kernel
theorem s_94 : sh 94 = (4, 0) := by decide +kernel
theorem s_141 : sh 141 = (8, 0) := by decide +kernel
theorem s_142 : sh 142 = (9, 36) := by decide +kernel
theorem s_143 : sh 143 = (9, 8) := by decide +kernel
theorem s_144 : sh 144 = (9, 8) := by decide +kernel
theorem s_145 : sh 145 = (9, 9) := by decide +kernel
theorem s_146 : sh 146 = (9, 54) := by decide +kernel
theorem s_147 : sh 147 = (9, 432) := by decide +kernel
theorem s_148 : sh 148 = (9, 8) := by decide +kernel
theorem s_150 : sh 150 = (9, 200) := by decide +kernel
theorem s_151 : sh 151 = (9, 3) := by decide +kernel
theorem s_152 : sh 152 = (9, 36) := by decide +kernel
theorem s_153 : sh 153 = (9, 8) := by decide +kernel
theorem s_154 : sh 154 = (9, 8) := by decide +kernel
theorem s_155 : sh 155 = (9, 8) := by decide +kernel
theorem s_156 : sh 156 = (9, 9) := by decide +kernel
theorem s_157 : sh 157 = (9, 54) := by decide +kernel
theorem s_158 : sh 158 = (9, 72) := by decide +kernel
theorem s_159 : sh 159 = (9, 72) := by decide +kernel
theorem s_160 : sh 160 = (9, 72) := by decide +kernel
theorem s_161 : sh 161 = (9, 72) := by decide +kernel
theorem s_162 : sh 162 = (9, 324) := by decide +kernel
theorem s_163 : sh 163 = (9, 6) := by decide +kernel
theorem s_164 : sh 164 = (9, 6) := by decide +kernel
theorem r_0_0 : R0 0 0 = some 1 := by decide +kernel
theorem r_0_1 : R0 0 1 = some 4 := by decide +kernel
theorem r_0_2 : R0 0 2 = some 14 := by decide +kernel
theorem r_0_3 : R0 0 3 = some 19 := by decide +kernel
theorem r_0_4 : R0 0 4 = some 24 := by decide +kernel
theorem r_0_5 : R0 0 5 = some 68 := by decide +kernel
theorem r_0_6 : R0 0 6 = some 80 := by decide +kernel
theorem r_0_7 : R0 0 7 = some 92 := by decide +kernel
theorem r_4_0 : R0 4 0 = some 5 := by decide +kernel
theorem r_4_1 : R0 4 1 = some 6 := by decide +kernel
theorem r_4_2 : R0 4 2 = some 9 := by decide +kernel
theorem r_6_7 : R0 6 7 = some 7 := by decide +kernel
theorem r_6_8 : R0 6 8 = some 8 := by decide +kernel
theorem r_9_1 : R0 9 1 = some 10 := by decide +kernel
theorem r_9_4 : R0 9 4 = some 13 := by decide +kernel
theorem r_24_1 : R0 24 1 = some 26 := by decide +kernel
theorem r_24_2 : R0 24 2 = some 25 := by decide +kernel
theorem r_80_0 : R0 80 0 = some 87 := by decide +kernel
theorem r_80_1 : R0 80 1 = some 81 := by decide +kernel
theorem r_80_2 : R0 80 2 = some 82 := by decide +kernel
theorem r_80_3 : R0 80 3 = some 83 := by decide +kernel
theorem r_80_4 : R0 80 4 = some 84 := by decide +kernel
theorem r_80_5 : R0 80 5 = some 85 := by decide +kernel
theorem r_80_6 : R0 80 6 = some 86 := by decide +kernel
theorem r_92_0 : R0 92 0 = some 1 := by decide +kernel
theorem r_92_1 : R0 92 1 = some 94 := by decide +kernel
theorem r_92_2 : R0 92 2 = some 93 := by decide +kernel
theorem r_141_2 : R0 141 2 = some 142 := by decide +kernel
theorem r_141_4 : R0 141 4 = some 143 := by decide +kernel
theorem r_141_5 : R0 141 5 = some 144 := by decide +kernel
theorem r_141_9 : R0 141 9 = some 145 := by decide +kernel
theorem r_141_10 : R0 141 10 = some 146 := by decide +kernel
theorem r_141_12 : R0 141 12 = some 147 := by decide +kernel
theorem r_141_13 : R0 141 13 = some 148 := by decide +kernel
theorem r_141_15 : R0 141 15 = some 149 := by decide +kernel
theorem r_141_16 : R0 141 16 = some 150 := by decide +kernel
theorem r_141_19 : R0 141 19 = some 151 := by decide +kernel
theorem r_141_22 : R0 141 22 = some 152 := by decide +kernel
theorem r_141_24 : R0 141 24 = some 153 := by decide +kernel
theorem r_141_25 : R0 141 25 = some 154 := by decide +kernel
theorem r_141_26 : R0 141 26 = some 155 := by decide +kernel
theorem r_141_30 : R0 141 30 = some 156 := by decide +kernel
theorem r_141_31 : R0 141 31 = some 157 := by decide +kernel
theorem r_141_33 : R0 141 33 = some 158 := by decide +kernel
theorem r_141_34 : R0 141 34 = some 159 := by decide +kernel
theorem r_141_35 : R0 141 35 = some 160 := by decide +kernel
theorem r_141_36 : R0 141 36 = some 161 := by decide +kernel
theorem r_141_38 : R0 141 38 = some 162 := by decide +kernel
theorem r_141_39 : R0 141 39 = some 163 := by decide +kernel
theorem r_141_40 : R0 141 40 = some 164 := by decide +kernel
theorem cf0 : CFact 0 RX0 TX0 5 tyX0 := ⟨rfl, by decide, rfl, by decide +kernel, tyX0_ok, nmX0, by decide +kernel, by decide +kernel⟩
theorem cf1 : CFact 1 RX1 TX1 9 tyX1 := ⟨rfl, by decide, rfl, by decide +kernel, tyX1_ok, nmX1, by decide +kernel, by decide +kernel⟩
theorem cf2 : CFact 2 RX2 TX2 6 tyX2 := ⟨rfl, by decide, rfl, by decide +kernel, tyX2_ok, nmX2, by decide +kernel, by decide +kernel⟩
theorem cf3 : CFact 3 RX3 TX3 5 tyX3 := ⟨rfl, by decide, rfl, by decide +kernel, tyX3_ok, nmX3, by decide +kernel, by decide +kernel⟩
theorem cf4 : CFact 4 RX4 TX4 2 tyX4 := ⟨rfl, by decide, rfl, by decide +kernel, tyX4_ok, nmX4, by decide +kernel, by decide +kernel⟩
theorem cf5 : CFact 5 RX5 TX5 5 tyX5 := ⟨rfl, by decide, rfl, by decide +kernel, tyX5_ok, nmX5, by decide +kernel, by decide +kernel⟩
theorem cf6 : CFact 6 RX6 TX6 8 tyX6 := ⟨rfl, by decide, rfl, by decide +kernel, tyX6_ok, nmX6, by decide +kernel, by decide +kernel⟩
theorem cf7 : CFact 7 RX7 TX7 9 tyX7 := ⟨rfl, by decide, rfl, by decide +kernel, tyX7_ok, nmX7, by decide +kernel, by decide +kernel⟩
theorem cf8 : CFact 8 RX8 TX8 41 tyX8 := ⟨rfl, by decide, rfl, by decide +kernel, tyX8_ok, nmX8, by decide +kernel, by decide +kernel⟩
set_option maxRecDepth 100000 in
theorem fl0_15 : FL RX0 15 0 3 := ⟨_, _, _, _, cf0, by decide, (wTi 288 rfl rfl)⟩
set_option maxRecDepth 100000 in
theorem fl0_19 : FL RX0 19 0 4 := ⟨_, _, _, _, cf0, by decide, (wTi 289 rfl rfl)⟩
set_option maxRecDepth 100000 in
theorem fl0_22 : FL RX0 22 0 0 := ⟨_, _, _, _, cf0, by decide, (wTi 285 rfl rfl)⟩
set_option maxRecDepth 100000 in
theorem fl0_31 : FL RX0 31 0 1 := ⟨_, _, _, _, cf0, by decide, (wTi 286 rfl rfl)⟩
set_option maxRecDepth 100000 in
theorem fl0_75 : FL RX0 75 1 3 := ⟨_, _, _, _, cf1, by decide, (wTi 105 rfl rfl)⟩
set_option maxRecDepth 100000 in
theorem fl0_84 : FL RX0 84 1 4 := ⟨_, _, _, _, cf1, by decide, (wTi 109 rfl rfl)⟩
set_option maxRecDepth 100000 in
theorem fl0_9 : FL RX0 9 0 2 := ⟨_, _, _, _, cf0, by decide, (wTi 287 rfl rfl)⟩
set_option maxRecDepth 100000 in
theorem fl1_15 : FL RX1 15 1 1 := ⟨_, _, _, _, cf1, by decide, (wTi 97 rfl rfl)⟩
set_option maxRecDepth 100000 in
theorem fl1_18 : FL RX1 18 1 2 := ⟨_, _, _, _, cf1, by decide, (wTi 101 rfl rfl)⟩
set_option maxRecDepth 100000 in
theorem fl1_21 : FL RX1 21 1 3 := ⟨_, _, _, _, cf1, by decide, (wTi 103 rfl rfl)⟩
set_option maxRecDepth 100000 in
theorem fl1_24 : FL RX1 24 1 4 := ⟨_, _, _, _, cf1, by decide, (wTi 108 rfl rfl)⟩
set_option maxRecDepth 100000 in
theorem fl1_27 : FL RX1 27 1 5 := ⟨_, _, _, _, cf1, by decide, (wTi 113 rfl rfl)⟩
set_option maxRecDepth 100000 in
theorem fl1_30 : FL RX1 30 1 6 := ⟨_, _, _, _, cf1, by decide, (wTi 117 rfl rfl)⟩
set_option maxRecDepth 100000 in
theorem fl1_33 : FL RX1 33 1 7 := ⟨_, _, _, _, cf1, by decide, (wTi 119 rfl rfl)⟩
set_option maxRecDepth 100000 in
theorem fl1_37 : FL RX1 37 1 8 := ⟨_, _, _, _, cf1, by decide, (wTi 122 rfl rfl)⟩
set_option maxRecDepth 100000 in
theorem fl1_9 : FL RX1 9 1 0 := ⟨_, _, _, _, cf1, by decide, (wTi 93 rfl rfl)⟩
set_option maxRecDepth 100000 in
theorem fl2_130 : FL RX2 130 1 5 := ⟨_, _, _, _, cf1, by decide, (wTi 115 rfl rfl)⟩
set_option maxRecDepth 100000 in
theorem fl2_139 : FL RX2 139 1 4 := ⟨_, _, _, _, cf1, by decide, (wTi 112 rfl rfl)⟩
set_option maxRecDepth 100000 in
theorem fl2_15 : FL RX2 15 2 2 := ⟨_, _, _, _, cf2, by decide, (wTi 161 rfl rfl)⟩
set_option maxRecDepth 100000 in
theorem fl2_18 : FL RX2 18 2 3 := ⟨_, _, _, _, cf2, by decide, (wTi 162 rfl rfl)⟩
set_option maxRecDepth 100000 in
theorem fl2_21 : FL RX2 21 2 4 := ⟨_, _, _, _, cf2, by decide, (wTi 163 rfl rfl)⟩
set_option maxRecDepth 100000 in
theorem fl2_24 : FL RX2 24 2 5 := ⟨_, _, _, _, cf2, by decide, (wTi 165 rfl rfl)⟩
set_option maxRecDepth 100000 in
theorem fl2_28 : FL RX2 28 2 0 := ⟨_, _, _, _, cf2, by decide, (wTi 158 rfl rfl)⟩
set_option maxRecDepth 100000 in
theorem fl2_38 : FL RX2 38 1 0 := ⟨_, _, _, _, cf1, by decide, (wTi 94 rfl rfl)⟩
set_option maxRecDepth 100000 in
theorem fl2_43 : FL RX2 43 1 3 := ⟨_, _, _, _, cf1, by decide, (wTi 104 rfl rfl)⟩
set_option maxRecDepth 100000 in
theorem fl2_84 : FL RX2 84 1 1 := ⟨_, _, _, _, cf1, by decide, (wTi 99 rfl rfl)⟩
set_option maxRecDepth 100000 in
theorem fl2_87 : FL RX2 87 1 7 := ⟨_, _, _, _, cf1, by decide, (wTi 121 rfl rfl)⟩
set_option maxRecDepth 100000 in
theorem fl2_9 : FL RX2 9 2 1 := ⟨_, _, _, _, cf2, by decide, (wTi 159 rfl rfl)⟩
set_option maxRecDepth 100000 in
theorem fl3_15 : FL RX3 15 3 3 := ⟨_, _, _, _, cf3, by decide, (wTi 227 rfl rfl)⟩
set_option maxRecDepth 100000 in
theorem fl3_19 : FL RX3 19 3 4 := ⟨_, _, _, _, cf3, by decide, (wTi 229 rfl rfl)⟩
set_option maxRecDepth 100000 in
theorem fl3_31 : FL RX3 31 3 1 := ⟨_, _, _, _, cf3, by decide, (wTi 225 rfl rfl)⟩
set_option maxRecDepth 100000 in
theorem fl3_9 : FL RX3 9 3 2 := ⟨_, _, _, _, cf3, by decide, (wTi 226 rfl rfl)⟩
set_option maxRecDepth 100000 in
theorem fl4_12 : FL RX4 12 4 0 := ⟨_, _, _, _, cf4, by decide, (wTi 217 rfl rfl)⟩
set_option maxRecDepth 100000 in
theorem fl4_18 : FL RX4 18 4 1 := ⟨_, _, _, _, cf4, by decide, (wTi 218 rfl rfl)⟩
set_option maxRecDepth 100000 in
theorem fl5_102 : FL RX5 102 1 7 := ⟨_, _, _, _, cf1, by decide, (wTi 120 rfl rfl)⟩
set_option maxRecDepth 100000 in
theorem fl5_105 : FL RX5 105 2 4 := ⟨_, _, _, _, cf2, by decide, (wTi 164 rfl rfl)⟩
set_option maxRecDepth 100000 in
theorem fl5_112 : FL RX5 112 1 4 := ⟨_, _, _, _, cf1, by decide, (wTi 110 rfl rfl)⟩
set_option maxRecDepth 100000 in
theorem fl5_115 : FL RX5 115 1 5 := ⟨_, _, _, _, cf1, by decide, (wTi 114 rfl rfl)⟩
set_option maxRecDepth 100000 in
theorem fl5_118 : FL RX5 118 1 6 := ⟨_, _, _, _, cf1, by decide, (wTi 118 rfl rfl)⟩
set_option maxRecDepth 100000 in
theorem fl5_121 : FL RX5 121 1 8 := ⟨_, _, _, _, cf1, by decide, (wTi 123 rfl rfl)⟩
set_option maxRecDepth 100000 in
theorem fl5_18 : FL RX5 18 5 1 := ⟨_, _, _, _, cf5, by decide, (wTi 182 rfl rfl)⟩
set_option maxRecDepth 100000 in
theorem fl5_27 : FL RX5 27 5 2 := ⟨_, _, _, _, cf5, by decide, (wTi 184 rfl rfl)⟩
set_option maxRecDepth 100000 in
theorem fl5_31 : FL RX5 31 5 3 := ⟨_, _, _, _, cf5, by decide, (wTi 186 rfl rfl)⟩
set_option maxRecDepth 100000 in
theorem fl5_35 : FL RX5 35 5 4 := ⟨_, _, _, _, cf5, by decide, (wTi 188 rfl rfl)⟩
set_option maxRecDepth 100000 in
theorem fl5_41 : FL RX5 41 2 5 := ⟨_, _, _, _, cf2, by decide, (wTi 166 rfl rfl)⟩
set_option maxRecDepth 100000 in
theorem fl5_70 : FL RX5 70 1 2 := ⟨_, _, _, _, cf1, by decide, (wTi 102 rfl rfl)⟩
set_option maxRecDepth 100000 in
theorem fl5_73 : FL RX5 73 1 0 := ⟨_, _, _, _, cf1, by decide, (wTi 95 rfl rfl)⟩
set_option maxRecDepth 100000 in
theorem fl5_76 : FL RX5 76 2 1 := ⟨_, _, _, _, cf2, by decide, (wTi 160 rfl rfl)⟩
set_option maxRecDepth 100000 in
theorem fl5_79 : FL RX5 79 1 1 := ⟨_, _, _, _, cf1, by decide, (wTi 98 rfl rfl)⟩
set_option maxRecDepth 100000 in
theorem fl5_9 : FL RX5 9 5 0 := ⟨_, _, _, _, cf5, by decide, (wTi 181 rfl rfl)⟩
set_option maxRecDepth 100000 in
theorem fl5_92 : FL RX5 92 1 3 := ⟨_, _, _, _, cf1, by decide, (wTi 107 rfl rfl)⟩
set_option maxRecDepth 100000 in
theorem fl6_11 : FL RX6 11 6 1 := ⟨_, _, _, _, cf6, by decide, (wTi 252 rfl rfl)⟩
set_option maxRecDepth 100000 in
theorem fl6_15 : FL RX6 15 6 2 := ⟨_, _, _, _, cf6, by decide, (wTi 253 rfl rfl)⟩
set_option maxRecDepth 100000 in
theorem fl6_18 : FL RX6 18 6 3 := ⟨_, _, _, _, cf6, by decide, (wTi 254 rfl rfl)⟩
set_option maxRecDepth 100000 in
theorem fl6_21 : FL RX6 21 6 4 := ⟨_, _, _, _, cf6, by decide, (wTi 255 rfl rfl)⟩
set_option maxRecDepth 100000 in
theorem fl6_24 : FL RX6 24 6 5 := ⟨_, _, _, _, cf6, by decide, (wTi 256 rfl rfl)⟩
set_option maxRecDepth 100000 in
theorem fl6_27 : FL RX6 27 6 6 := ⟨_, _, _, _, cf6, by decide, (wTi 257 rfl rfl)⟩
set_option maxRecDepth 100000 in
theorem fl6_31 : FL RX6 31 6 7 := ⟨_, _, _, _, cf6, by decide, (wTi 258 rfl rfl)⟩
set_option maxRecDepth 100000 in
theorem fl6_40 : FL RX6 40 6 0 := ⟨_, _, _, _, cf6, by decide, (wTi 251 rfl rfl)⟩
set_option maxRecDepth 100000 in
theorem fl7_10 : FL RX7 10 7 0 := ⟨_, _, _, _, cf7, by decide, (wTi 438 rfl rfl)⟩
set_option maxRecDepth 100000 in
theorem fl7_152 : FL RX7 152 2 5 := ⟨_, _, _, _, cf2, by decide, (wTi 167 rfl rfl)⟩
set_option maxRecDepth 100000 in
theorem fl7_155 : FL RX7 155 3 3 := ⟨_, _, _, _, cf3, by decide, (wTi 228 rfl rfl)⟩
set_option maxRecDepth 100000 in
theorem fl7_184 : FL RX7 184 1 4 := ⟨_, _, _, _, cf1, by decide, (wTi 111 rfl rfl)⟩
set_option maxRecDepth 100000 in
theorem fl7_19 : FL RX7 19 7 1 := ⟨_, _, _, _, cf7, by decide, (wTi 439 rfl rfl)⟩
set_option maxRecDepth 100000 in
theorem fl7_197 : FL RX7 197 0 4 := ⟨_, _, _, _, cf0, by decide, (wTi 290 rfl rfl)⟩
set_option maxRecDepth 100000 in
theorem fl7_229 : FL RX7 229 1 0 := ⟨_, _, _, _, cf1, by decide, (wTi 96 rfl rfl)⟩
set_option maxRecDepth 100000 in
theorem fl7_232 : FL RX7 232 1 1 := ⟨_, _, _, _, cf1, by decide, (wTi 100 rfl rfl)⟩
set_option maxRecDepth 100000 in
theorem fl7_238 : FL RX7 238 1 5 := ⟨_, _, _, _, cf1, by decide, (wTi 116 rfl rfl)⟩
set_option maxRecDepth 100000 in
theorem fl7_241 : FL RX7 241 5 1 := ⟨_, _, _, _, cf5, by decide, (wTi 183 rfl rfl)⟩
set_option maxRecDepth 100000 in
theorem fl7_244 : FL RX7 244 5 2 := ⟨_, _, _, _, cf5, by decide, (wTi 185 rfl rfl)⟩
set_option maxRecDepth 100000 in
theorem fl7_28 : FL RX7 28 7 2 := ⟨_, _, _, _, cf7, by decide, (wTi 440 rfl rfl)⟩
set_option maxRecDepth 100000 in
theorem fl7_32 : FL RX7 32 7 3 := ⟨_, _, _, _, cf7, by decide, (wTi 441 rfl rfl)⟩
set_option maxRecDepth 100000 in
theorem fl7_38 : FL RX7 38 7 4 := ⟨_, _, _, _, cf7, by decide, (wTi 442 rfl rfl)⟩
set_option maxRecDepth 100000 in
theorem fl7_47 : FL RX7 47 7 5 := ⟨_, _, _, _, cf7, by decide, (wTi 443 rfl rfl)⟩
set_option maxRecDepth 100000 in
theorem fl7_54 : FL RX7 54 7 6 := ⟨_, _, _, _, cf7, by decide, (wTi 444 rfl rfl)⟩
set_option maxRecDepth 100000 in
theorem fl7_61 : FL RX7 61 7 7 := ⟨_, _, _, _, cf7, by decide, (wTi 445 rfl rfl)⟩
set_option maxRecDepth 100000 in
theorem fl7_65 : FL RX7 65 7 8 := ⟨_, _, _, _, cf7, by decide, (wTi 446 rfl rfl)⟩
set_option maxRecDepth 100000 in
theorem fl7_89 : FL RX7 89 5 3 := ⟨_, _, _, _, cf5, by decide, (wTi 187 rfl rfl)⟩
set_option maxRecDepth 100000 in
theorem fl7_94 : FL RX7 94 1 3 := ⟨_, _, _, _, cf1, by decide, (wTi 106 rfl rfl)⟩
set_option maxRecDepth 100000 in
theorem fl8_103 : FL RX8 103 8 21 := ⟨_, _, _, _, cf8, by decide, (wTi 857 rfl rfl)⟩
set_option maxRecDepth 100000 in
theorem fl8_106 : FL RX8 106 8 20 := ⟨_, _, _, _, cf8, by decide, (wTi 856 rfl rfl)⟩
set_option maxRecDepth 100000 in
theorem fl8_109 : FL RX8 109 8 23 := ⟨_, _, _, _, cf8, by decide, (wTi 859 rfl rfl)⟩
set_option maxRecDepth 100000 in
theorem fl8_112 : FL RX8 112 8 3 := ⟨_, _, _, _, cf8, by decide, (wTi 839 rfl rfl)⟩
set_option maxRecDepth 100000 in
theorem fl8_119 : FL RX8 119 8 0 := ⟨_, _, _, _, cf8, by decide, (wTi 836 rfl rfl)⟩
set_option maxRecDepth 100000 in
theorem fl8_122 : FL RX8 122 8 17 := ⟨_, _, _, _, cf8, by decide, (wTi 853 rfl rfl)⟩
set_option maxRecDepth 100000 in
theorem fl8_125 : FL RX8 125 8 18 := ⟨_, _, _, _, cf8, by decide, (wTi 854 rfl rfl)⟩
set_option maxRecDepth 100000 in
theorem fl8_13 : FL RX8 13 8 4 := ⟨_, _, _, _, cf8, by decide, (wTi 840 rfl rfl)⟩
set_option maxRecDepth 100000 in
theorem fl8_159 : FL RX8 159 8 1 := ⟨_, _, _, _, cf8, by decide, (wTi 837 rfl rfl)⟩
set_option maxRecDepth 100000 in
theorem fl8_16 : FL RX8 16 8 5 := ⟨_, _, _, _, cf8, by decide, (wTi 841 rfl rfl)⟩
set_option maxRecDepth 100000 in
theorem fl8_166 : FL RX8 166 8 6 := ⟨_, _, _, _, cf8, by decide, (wTi 842 rfl rfl)⟩
set_option maxRecDepth 100000 in
theorem fl8_169 : FL RX8 169 8 7 := ⟨_, _, _, _, cf8, by decide, (wTi 843 rfl rfl)⟩
set_option maxRecDepth 100000 in
theorem fl8_172 : FL RX8 172 8 8 := ⟨_, _, _, _, cf8, by decide, (wTi 844 rfl rfl)⟩
set_option maxRecDepth 100000 in
theorem fl8_175 : FL RX8 175 8 11 := ⟨_, _, _, _, cf8, by decide, (wTi 847 rfl rfl)⟩
set_option maxRecDepth 100000 in
theorem fl8_178 : FL RX8 178 8 14 := ⟨_, _, _, _, cf8, by decide, (wTi 850 rfl rfl)⟩
set_option maxRecDepth 100000 in
theorem fl8_19 : FL RX8 19 8 9 := ⟨_, _, _, _, cf8, by decide, (wTi 845 rfl rfl)⟩
set_option maxRecDepth 100000 in
theorem fl8_198 : FL RX8 198 8 32 := ⟨_, _, _, _, cf8, by decide, (wTi 868 rfl rfl)⟩
set_option maxRecDepth 100000 in
theorem fl8_22 : FL RX8 22 8 10 := ⟨_, _, _, _, cf8, by decide, (wTi 846 rfl rfl)⟩
set_option maxRecDepth 100000 in
theorem fl8_249 : FL RX8 249 8 37 := ⟨_, _, _, _, cf8, by decide, (wTi 873 rfl rfl)⟩
set_option maxRecDepth 100000 in
theorem fl8_25 : FL RX8 25 8 12 := ⟨_, _, _, _, cf8, by decide, (wTi 848 rfl rfl)⟩
set_option maxRecDepth 100000 in
theorem fl8_28 : FL RX8 28 8 13 := ⟨_, _, _, _, cf8, by decide, (wTi 849 rfl rfl)⟩
set_option maxRecDepth 100000 in
theorem fl8_31 : FL RX8 31 8 15 := ⟨_, _, _, _, cf8, by decide, (wTi 851 rfl rfl)⟩
set_option maxRecDepth 100000 in
theorem fl8_34 : FL RX8 34 8 16 := ⟨_, _, _, _, cf8, by decide, (wTi 852 rfl rfl)⟩
set_option maxRecDepth 100000 in
theorem fl8_37 : FL RX8 37 8 19 := ⟨_, _, _, _, cf8, by decide, (wTi 855 rfl rfl)⟩
set_option maxRecDepth 100000 in
theorem fl8_40 : FL RX8 40 8 22 := ⟨_, _, _, _, cf8, by decide, (wTi 858 rfl rfl)⟩
set_option maxRecDepth 100000 in
theorem fl8_43 : FL RX8 43 8 24 := ⟨_, _, _, _, cf8, by decide, (wTi 860 rfl rfl)⟩
set_option maxRecDepth 100000 in
theorem fl8_46 : FL RX8 46 8 25 := ⟨_, _, _, _, cf8, by decide, (wTi 861 rfl rfl)⟩
set_option maxRecDepth 100000 in
theorem fl8_49 : FL RX8 49 8 26 := ⟨_, _, _, _, cf8, by decide, (wTi 862 rfl rfl)⟩
set_option maxRecDepth 100000 in
theorem fl8_52 : FL RX8 52 8 30 := ⟨_, _, _, _, cf8, by decide, (wTi 866 rfl rfl)⟩
set_option maxRecDepth 100000 in
theorem fl8_55 : FL RX8 55 8 31 := ⟨_, _, _, _, cf8, by decide, (wTi 867 rfl rfl)⟩
set_option maxRecDepth 100000 in
theorem fl8_58 : FL RX8 58 8 33 := ⟨_, _, _, _, cf8, by decide, (wTi 869 rfl rfl)⟩
set_option maxRecDepth 100000 in
theorem fl8_61 : FL RX8 61 8 34 := ⟨_, _, _, _, cf8, by decide, (wTi 870 rfl rfl)⟩
set_option maxRecDepth 100000 in
theorem fl8_64 : FL RX8 64 8 35 := ⟨_, _, _, _, cf8, by decide, (wTi 871 rfl rfl)⟩
set_option maxRecDepth 100000 in
theorem fl8_67 : FL RX8 67 8 36 := ⟨_, _, _, _, cf8, by decide, (wTi 872 rfl rfl)⟩
set_option maxRecDepth 100000 in
theorem fl8_7 : FL RX8 7 8 2 := ⟨_, _, _, _, cf8, by decide, (wTi 838 rfl rfl)⟩
set_option maxRecDepth 100000 in
theorem fl8_70 : FL RX8 70 8 38 := ⟨_, _, _, _, cf8, by decide, (wTi 874 rfl rfl)⟩
set_option maxRecDepth 100000 in
theorem fl8_73 : FL RX8 73 8 39 := ⟨_, _, _, _, cf8, by decide, (wTi 875 rfl rfl)⟩
set_option maxRecDepth 100000 in
theorem fl8_76 : FL RX8 76 8 40 := ⟨_, _, _, _, cf8, by decide, (wTi 876 rfl rfl)⟩
set_option maxRecDepth 100000 in
theorem fl8_90 : FL RX8 90 8 27 := ⟨_, _, _, _, cf8, by decide, (wTi 863 rfl rfl)⟩
set_option maxRecDepth 100000 in
theorem fl8_94 : FL RX8 94 8 28 := ⟨_, _, _, _, cf8, by decide, (wTi 864 rfl rfl)⟩
set_option maxRecDepth 100000 in
theorem fl8_97 : FL RX8 97 8 29 := ⟨_, _, _, _, cf8, by decide, (wTi 865 rfl rfl)⟩
theorem ka2_90 : ∀ w ∈ ([Cond.methodLink RX2 90 Lib.Math.abs.name, Cond.static Lib.Math.abs.name, Cond.initialized "java/lang/Math", Cond.code Lib.Math.abs.name Lib.Math.abs.code 1 (some .int)] : List Cond), w ∈ wT := by decide +kernel
theorem kk1_40 : ∀ w ∈ ([Cond.methodLink RX1 40 arraycopyName, Cond.native arraycopyName, Cond.static arraycopyName, Cond.initialized "java/lang/System"] : List Cond), w ∈ wT := by decide +kernel
theorem kk2_32 : ∀ w ∈ ([Cond.methodLink RX2 32 arraycopyName, Cond.native arraycopyName, Cond.static arraycopyName, Cond.initialized "java/lang/System"] : List Cond), w ∈ wT := by decide +kernel
theorem kg2_136 : (Cond.fieldLink RX2 136 "SheepChess" "WORTHS" "[I" ∈ wT) ∨ ∃ host, Cond.fieldLinkNest RX2 136 "SheepChess" "WORTHS" "[I" host ∈ nestW := Or.inr ⟨"SheepChess", by decide +kernel⟩
theorem kc7_204 : Cond.constantLong RX7 204 (10 : Int64) ∈ wT := by decide +kernel
theorem kc7_247 : Cond.constantLong RX7 247 (7919 : Int64) ∈ wT := by decide +kernel
theorem kc7_249 : Cond.constantLong RX7 249 (6151 : Int64) ∈ wT := by decide +kernel
theorem kc7_251 : Cond.constantLong RX7 251 (65521 : Int64) ∈ wT := by decide +kernel
theorem kc8_296 : Cond.constantLong RX8 296 (7919 : Int64) ∈ wT := by decide +kernel
theorem kc8_298 : Cond.constantLong RX8 298 (6151 : Int64) ∈ wT := by decide +kernel
theorem kc8_300 : Cond.constantLong RX8 300 (65521 : Int64) ∈ wT := by decide +kernel
end
section
def mX4_get : MT := (RX4, cX4_get, 3, (some (.object "SheepChess$Meadow")), 1)
def mX2_copyFrom : MT := (RX2, cX2_copyFrom, 2, none, 1)
def mX2_occupant : MT := (RX2, cX2_occupant, 3, (some .int), 1)
def mX1_hasBeast : MT := (RX1, cX1_hasBeast, 2, (some .boolean), 1)
def mX2_kindOf : MT := (RX2, cX2_kindOf, 2, (some .int), 1)
def mX1_villageOf : MT := (RX1, cX1_villageOf, 2, (some .int), 1)
def mX1_turnsPawn : MT := (RX1, cX1_turnsPawn, 3, (some .boolean), 1)
def mX2_put : MT := (RX2, cX2_put, 4, none, 2)
def mX2_move : MT := (RX2, cX2_move, 5, none, 3)
def mX2_graze : MT := (RX2, cX2_graze, 3, none, 1)
def mX2_beginNextDay : MT := (RX2, cX2_beginNextDay, 2, none, 2)
def mX2_passDay : MT := (RX2, cX2_passDay, 1, none, 3)
def mX0_pass : MT := (RX0, cX0_pass, 5, (some (.object "SheepChess$Meadow")), 4)
def mX2_ramOnWell : MT := (RX2, cX2_ramOnWell, 3, (some .boolean), 2)
def mX2_lost : MT := (RX2, cX2_lost, 5, (some .int), 2)
def mX2_staying : MT := (RX2, cX2_staying, 4, (some .int), 2)
def mX2_turn : MT := (RX2, cX2_turn, 1, (some .int), 1)
def mX1_snowsOn : MT := (RX1, cX1_snowsOn, 2, (some .boolean), 1)
def mX2_snowing : MT := (RX2, cX2_snowing, 1, (some .boolean), 2)
def mX2_placeOf : MT := (RX2, cX2_placeOf, 2, (some .int), 1)
def mX2_isOff : MT := (RX2, cX2_isOff, 2, (some .boolean), 2)
def mX1_beside : MT := (RX1, cX1_beside, 3, (some .int), 1)
def mX2_grassOn : MT := (RX2, cX2_grassOn, 2, (some .int), 1)
def mX2_ramBeside : MT := (RX2, cX2_ramBeside, 7, (some .boolean), 1)
def mX2_isOpen : MT := (RX2, cX2_isOpen, 6, (some .boolean), 2)
def mX2_reach : MT := (RX2, cX2_reach, 8, (some .int), 3)
def mX2_driven : MT := (RX2, cX2_driven, 3, (some .int), 4)
def mX0_note : MT := (RX0, cX0_note, 3, none, 1)
def mX0_comesToWell (n : Nat) : MT := (RX0, cX0_comesToWell, 11, (some .boolean), 5 + n)
def mX0_daysToWell : MT := (RX0, cX0_daysToWell, 4, (some .int), 18)
def mX0_onOwnDay : MT := (RX0, cX0_onOwnDay, 2, (some .int), 1)
def mX2_worth : MT := (RX2, cX2_worth, 4, (some .int), 2)
def mX0_worthFrom (n : Nat) : MT := (RX0, cX0_worthFrom, 10, (some .int), 5 + n)
def mX0_worthBehind : MT := (RX0, cX0_worthBehind, 3, (some .int), 18)
def mX2_bogBeside : MT := (RX2, cX2_bogBeside, 4, (some .boolean), 2)
def mX2_wolfComes : MT := (RX2, cX2_wolfComes, 2, none, 3)
def mX0_stayingFrom (n : Nat) : MT := (RX0, cX0_stayingFrom, 9, (some .long), 4 + n)
def mX0_staying : MT := (RX0, cX0_staying, 5, (some .long), 17)
def mX1_clear : MT := (RX1, cX1_clear, 1, none, 1)
def mX1_copyFrom : MT := (RX1, cX1_copyFrom, 2, none, 1)
def mX1_hasSquare : MT := (RX1, cX1_hasSquare, 2, (some .boolean), 1)
def mX2_hungerOf : MT := (RX2, cX2_hungerOf, 2, (some .int), 1)
def mX2_live : MT := (RX2, cX2_live, 4, none, 5)
def mX2_allGrass : MT := (RX2, cX2_allGrass, 3, (some .int), 1)
def mJM_floorMod : MT := ("java/lang/Math", cJ9_floorMod_7cf53, 3, (some .int), 1)
def mX3_slot : MT := (RX3, cX3_slot, 2, (some .int), 2)
def mX3_before : MT := (RX3, cX3_before, 2, (some (.object "SheepChess$Meadow")), 3)
def mX3_add : MT := (RX3, cX3_add, 4, none, 3)
def mX3_otherwiseIs : MT := (RX3, cX3_otherwiseIs, 8, (some .boolean), 6)
def mX5_add : MT := (RX5, cX5_add, 2, (some .boolean), 1)
def mX5_letterAtHead : MT := (RX5, cX5_letterAtHead, 1, (some .int), 1)
def mX5_readFigure : MT := (RX5, cX5_readFigure, 2, (some .int), 1)
def mX5_passes : MT := (RX5, cX5_passes, 2, (some .boolean), 2)
def mX5_readRow : MT := (RX5, cX5_readRow, 5, (some .boolean), 3)
def mX5_readNumber : MT := (RX5, cX5_readNumber, 3, (some .int), 2)
def mX7_isVillage : MT := (RX7, cX7_isVillage, 1, (some .boolean), 1)
def mX5_readBeast : MT := (RX5, cX5_readBeast, 6, (some .boolean), 3)
def mX5_readWell : MT := (RX5, cX5_readWell, 2, (some .boolean), 3)
def mX5_readHunger : MT := (RX5, cX5_readHunger, 2, (some .boolean), 3)
def mX5_readSnow : MT := (RX5, cX5_readSnow, 2, (some .boolean), 3)
def mX5_readItem : MT := (RX5, cX5_readItem, 2, (some .boolean), 4)
def mX5_firstFault : MT := (RX5, cX5_firstFault, 3, (some .int), 5)
def mX6_add : MT := (RX6, cX6_add, 7, none, 2)
def mX6_from : MT := (RX6, cX6_from, 6, none, 4)
def mX6_first : MT := (RX6, cX6_first, 3, (some .int), 1)
def mX6_drivesTo : MT := (RX6, cX6_drivesTo, 2, (some .int), 1)
def mX6_wayTo : MT := (RX6, cX6_wayTo, 5, (some .int), 1)
def mX6_squaresWithin : MT := (RX6, cX6_squaresWithin, 5, (some .int), 2)
def mX7_write : MT := (RX7, cX7_write, 2, (some .int), 2)
def mX7_wipe : MT := (RX7, cX7_wipe, 2, (some .int), 1)
def mX7_fault : MT := (RX7, cX7_fault, 1, (some .int), 6)
def mX7_begin : MT := (RX7, cX7_begin, 1, (some .boolean), 6)
def mX7_lay : MT := (RX7, cX7_lay, 1, (some .int), 7)
def mX7_square : MT := (RX7, cX7_square, 3, (some .int), 2)
def mX7_beast : MT := (RX7, cX7_beast, 3, (some .int), 2)
def mX7_isWay : MT := (RX7, cX7_isWay, 1, (some .boolean), 1)
def mX7_goes : MT := (RX7, cX7_goes, 3, (some .int), 4)
def mX7_takes : MT := (RX7, cX7_takes, 3, (some .int), 4)
def mX7_drive : MT := (RX7, cX7_drive, 4, (some .int), 5)
def mX7_rest : MT := (RX7, cX7_rest, 1, (some .int), 4)
def mX7_undo : MT := (RX7, cX7_undo, 1, (some .int), 4)
def mX7_fewest : MT := (RX7, cX7_fewest, 5, (some .int), 5)
def mX7_stray : MT := (RX7, cX7_stray, 3, (some .int), 5)
def mX7_summer : MT := (RX7, cX7_summer, 4, (some .int), 19)
def mX7_game : MT := (RX7, cX7_game, 4, (some .int), 19)
def mX7_again : MT := (RX7, cX7_again, 3, (some .int), 4)
def mX7_starves : MT := (RX7, cX7_starves, 3, (some .int), 4)
def mX7_otherwise : MT := (RX7, cX7_otherwise, 8, (some .int), 7)
def mX7_commonPart : MT := (RX7, cX7_commonPart, 11, (some .long), 1)
def mX7_wolves : MT := (RX7, cX7_wolves, 12, (some .int), 18)
def mX7_draw : MT := (RX7, cX7_draw, 4, (some .int), 1)
def mX7_season : MT := (RX7, cX7_season, 7, (some .int), 6)
def mX7_keep : MT := (RX7, cX7_keep, 1, (some .int), 2)
def mX7_back : MT := (RX7, cX7_back, 1, (some .int), 2)
def mX7_count : MT := (RX7, cX7_count, 2, (some .int), 3)
def mX8_tellsRow : MT := (RX8, cX8_tellsRow, 4, none, 1)
def mX8_tellsBeast : MT := (RX8, cX8_tellsBeast, 4, none, 1)
def mX8_in : MT := (RX8, cX8_in, 3, (some .boolean), 1)
def mX8_has : MT := (RX8, cX8_has, 2, (some .boolean), 1)
def mX8_isBeast : MT := (RX8, cX8_isBeast, 2, (some .boolean), 2)
def mX8_isSquare : MT := (RX8, cX8_isSquare, 2, (some .boolean), 2)
def mX8_write : MT := (RX8, cX8_write, 2, (some .int), 2)
def mX8_wipe : MT := (RX8, cX8_wipe, 2, (some .int), 1)
def mX8_letterAt : MT := (RX8, cX8_letterAt, 2, (some .int), 1)
def mX8_isFigure : MT := (RX8, cX8_isFigure, 1, (some .boolean), 2)
def mX8_readNumbers : MT := (RX8, cX8_readNumbers, 3, (some .boolean), 3)
def mX8_isTold : MT := (RX8, cX8_isTold, 4, (some .boolean), 2)
def mX8_clearTold : MT := (RX8, cX8_clearTold, 2, none, 1)
def mX8_readRow : MT := (RX8, cX8_readRow, 3, (some .boolean), 3)
def mX8_isDry : MT := (RX8, cX8_isDry, 2, (some .boolean), 3)
def mX8_readBeastItem : MT := (RX8, cX8_readBeastItem, 3, (some .boolean), 4)
def mX8_readItem : MT := (RX8, cX8_readItem, 2, (some .boolean), 5)
def mX8_fault : MT := (RX8, cX8_fault, 2, (some .int), 6)
def mX8_copies : MT := (RX8, cX8_copies, 6, none, 1)
def mX8_settles : MT := (RX8, cX8_settles, 2, none, 2)
def mX8_lay : MT := (RX8, cX8_lay, 1, (some .int), 7)
def mX8_asItIs : MT := (RX8, cX8_asItIs, 1, none, 2)
def mX8_kindOf : MT := (RX8, cX8_kindOf, 2, (some .int), 2)
def mX8_nextTo : MT := (RX8, cX8_nextTo, 3, (some .int), 1)
def mX8_onIt : MT := (RX8, cX8_onIt, 4, (some .int), 1)
def mX8_isSnow : MT := (RX8, cX8_isSnow, 1, (some .boolean), 1)
def mX8_isNearRam : MT := (RX8, cX8_isNearRam, 7, (some .boolean), 3)
def mX8_stepTo : MT := (RX8, cX8_stepTo, 7, (some .int), 4)
def mX8_comesTo : MT := (RX8, cX8_comesTo, 9, (some .int), 5)
def mX8_stands : MT := (RX8, cX8_stands, 4, none, 1)
def mX8_grazes : MT := (RX8, cX8_grazes, 3, none, 1)
def mX8_nextDay : MT := (RX8, cX8_nextDay, 2, none, 2)
def mX8_goesBy : MT := (RX8, cX8_goesBy, 4, none, 6)
def mX8_lost : MT := (RX8, cX8_lost, 4, (some .int), 1)
def mX8_canDrive : MT := (RX8, cX8_canDrive, 3, (some .boolean), 6)
def mX8_worth : MT := (RX8, cX8_worth, 5, (some .int), 3)
def mX8_onMeadow : MT := (RX8, cX8_onMeadow, 4, (some .int), 1)
def mX8_orNone : MT := (RX8, cX8_orNone, 1, (some .int), 1)
def mX8_square : MT := (RX8, cX8_square, 3, (some .int), 3)
def mX8_beast : MT := (RX8, cX8_beast, 3, (some .int), 3)
def mX8_looksAt : MT := (RX8, cX8_looksAt, 3, (some .int), 3)
def mX8_goes : MT := (RX8, cX8_goes, 4, (some .int), 6)
def mX8_takes : MT := (RX8, cX8_takes, 5, (some .int), 6)
def mX8_does : MT := (RX8, cX8_does, 3, none, 7)
def mX8_drive : MT := (RX8, cX8_drive, 4, (some .int), 8)
def mX8_rest : MT := (RX8, cX8_rest, 1, (some .int), 8)
def mX8_undo : MT := (RX8, cX8_undo, 1, (some .int), 2)
def mX8_reaches : MT := (RX8, cX8_reaches, 4, none, 1)
def mX8_nowOne : MT := (RX8, cX8_nowOne, 2, (some .int), 2)
def mX8_strays : MT := (RX8, cX8_strays, 8, none, 6)
def mX8_fewest : MT := (RX8, cX8_fewest, 6, (some .int), 7)
def mX8_stray : MT := (RX8, cX8_stray, 5, (some .int), 7)
def mX8_nextDrive : MT := (RX8, cX8_nextDrive, 3, (some .int), 7)
def mX8_isWatered : MT := (RX8, cX8_isWatered, 4, (some .boolean), 1)
def mX8_isSummer : MT := (RX8, cX8_isSummer, 7, (some .boolean), 8)
def mX8_summer : MT := (RX8, cX8_summer, 5, (some .int), 9)
def mX8_isFirstOf : MT := (RX8, cX8_isFirstOf, 2, (some .boolean), 8)
def mX8_plays : MT := (RX8, cX8_plays, 9, (some .int), 9)
def mX8_game : MT := (RX8, cX8_game, 4, (some .int), 10)
def mX8_again : MT := (RX8, cX8_again, 3, (some .int), 7)
def mX8_starves : MT := (RX8, cX8_starves, 3, (some .int), 7)
def mX8_isOtherwise : MT := (RX8, cX8_isOtherwise, 6, (some .boolean), 7)
def mX8_otherwise : MT := (RX8, cX8_otherwise, 8, (some .int), 8)
def mX8_isNearBog : MT := (RX8, cX8_isNearBog, 5, (some .boolean), 2)
def mX8_wolf : MT := (RX8, cX8_wolf, 2, none, 3)
def mX8_lowest : MT := (RX8, cX8_lowest, 6, (some .int), 1)
def mX8_wolves : MT := (RX8, cX8_wolves, 10, (some .int), 4)
def mX8_season : MT := (RX8, cX8_season, 9, (some .int), 7)
def mX8_keep : MT := (RX8, cX8_keep, 1, (some .int), 2)
def mX8_back : MT := (RX8, cX8_back, 1, (some .int), 2)
def mX8_count : MT := (RX8, cX8_count, 4, (some .int), 4)
set_option maxRecDepth 100000 in
theorem co_X2_isOff : Cond.code yX2_isOff cX2_isOff 2 (some .boolean) ∈ wT := (wTi 524 rfl rfl)
set_option maxRecDepth 100000 in
theorem ini_2 : Cond.initialized RX2 ∈ wT := (wTi 67 rfl rfl)
set_option maxRecDepth 100000 in
theorem im_X2_isOff : Cond.instanceMethod yX2_isOff ∈ wT := (wTi 522 rfl rfl)
set_option maxRecDepth 100000 in
theorem se_X2_isOff : Cond.selects RX2 yX2_isOff yX2_isOff ∈ wT := (wTi 523 rfl rfl)
set_option maxRecDepth 100000 in
theorem lk0_103 : LV RX0 103 yX2_isOff mX2_isOff 1 2 := ⟨LV5 (wTi 767 rfl rfl) im_X2_isOff se_X2_isOff ini_2 co_X2_isOff, ⟨ne_0.1, ne_0.2, pd_0⟩, _, _, rfl⟩
set_option maxRecDepth 100000 in
theorem co_X2_graze : Cond.code yX2_graze cX2_graze 3 none ∈ wT := (wTi 612 rfl rfl)
set_option maxRecDepth 100000 in
theorem im_X2_graze : Cond.instanceMethod yX2_graze ∈ wT := (wTi 610 rfl rfl)
set_option maxRecDepth 100000 in
theorem se_X2_graze : Cond.selects RX2 yX2_graze yX2_graze ∈ wT := (wTi 611 rfl rfl)
set_option maxRecDepth 100000 in
theorem lk0_106 : LV RX0 106 yX2_graze mX2_graze 0 2 := ⟨LV5 (wTi 768 rfl rfl) im_X2_graze se_X2_graze ini_2 co_X2_graze, ⟨ne_0.1, ne_0.2, pd_1⟩, _, _, rfl⟩
set_option maxRecDepth 100000 in
theorem co_X2_wolfComes : Cond.code yX2_wolfComes cX2_wolfComes 2 none ∈ wT := (wTi 772 rfl rfl)
set_option maxRecDepth 100000 in
theorem im_X2_wolfComes : Cond.instanceMethod yX2_wolfComes ∈ wT := (wTi 770 rfl rfl)
set_option maxRecDepth 100000 in
theorem se_X2_wolfComes : Cond.selects RX2 yX2_wolfComes yX2_wolfComes ∈ wT := (wTi 771 rfl rfl)
set_option maxRecDepth 100000 in
theorem lk0_109 : LV RX0 109 yX2_wolfComes mX2_wolfComes 0 2 := ⟨LV5 (wTi 769 rfl rfl) im_X2_wolfComes se_X2_wolfComes ini_2 co_X2_wolfComes, ⟨ne_0.1, ne_0.2, pd_1⟩, _, _, rfl⟩
set_option maxRecDepth 100000 in
theorem co_X2_beginNextDay : Cond.code yX2_beginNextDay cX2_beginNextDay 2 none ∈ wT := (wTi 616 rfl rfl)
set_option maxRecDepth 100000 in
theorem im_X2_beginNextDay : Cond.instanceMethod yX2_beginNextDay ∈ wT := (wTi 614 rfl rfl)
set_option maxRecDepth 100000 in
theorem se_X2_beginNextDay : Cond.selects RX2 yX2_beginNextDay yX2_beginNextDay ∈ wT := (wTi 615 rfl rfl)
set_option maxRecDepth 100000 in
theorem lk0_112 : LV RX0 112 yX2_beginNextDay mX2_beginNextDay 0 2 := ⟨LV5 (wTi 777 rfl rfl) im_X2_beginNextDay se_X2_beginNextDay ini_2 co_X2_beginNextDay, ⟨ne_0.1, ne_0.2, pd_1⟩, _, _, rfl⟩
set_option maxRecDepth 100000 in
theorem co_X4_get : Cond.code yX4_get cX4_get 3 (some (.object "SheepChess$Meadow")) ∈ wT := (wTi 594 rfl rfl)
set_option maxRecDepth 100000 in
theorem ini_4 : Cond.initialized RX4 ∈ wT := (wTi 69 rfl rfl)
set_option maxRecDepth 100000 in
theorem im_X4_get : Cond.instanceMethod yX4_get ∈ wT := (wTi 592 rfl rfl)
set_option maxRecDepth 100000 in
theorem se_X4_get : Cond.selects RX4 yX4_get yX4_get ∈ wT := (wTi 593 rfl rfl)
set_option maxRecDepth 100000 in
theorem lk0_35 : LV RX0 35 yX4_get mX4_get 1 4 := ⟨LV5 (wTi 678 rfl rfl) im_X4_get se_X4_get ini_4 co_X4_get, ⟨ne_1.1, ne_1.2, pd_2⟩, _, _, rfl⟩
set_option maxRecDepth 100000 in
theorem co_X2_copyFrom : Cond.code yX2_copyFrom cX2_copyFrom 2 none ∈ wT := (wTi 436 rfl rfl)
set_option maxRecDepth 100000 in
theorem im_X2_copyFrom : Cond.instanceMethod yX2_copyFrom ∈ wT := (wTi 434 rfl rfl)
set_option maxRecDepth 100000 in
theorem se_X2_copyFrom : Cond.selects RX2 yX2_copyFrom yX2_copyFrom ∈ wT := (wTi 435 rfl rfl)
set_option maxRecDepth 100000 in
theorem lk0_39 : LV RX0 39 yX2_copyFrom mX2_copyFrom 1 2 := ⟨LV5 (wTi 679 rfl rfl) im_X2_copyFrom se_X2_copyFrom ini_2 co_X2_copyFrom, ⟨ne_0.1, ne_0.2, pd_3⟩, _, _, rfl⟩
set_option maxRecDepth 100000 in
theorem co_X2_move : Cond.code yX2_move cX2_move 5 none ∈ wT := (wTi 599 rfl rfl)
set_option maxRecDepth 100000 in
theorem im_X2_move : Cond.instanceMethod yX2_move ∈ wT := (wTi 597 rfl rfl)
set_option maxRecDepth 100000 in
theorem se_X2_move : Cond.selects RX2 yX2_move yX2_move ∈ wT := (wTi 598 rfl rfl)
set_option maxRecDepth 100000 in
theorem lk0_45 : LV RX0 45 yX2_move mX2_move 2 2 := ⟨LV5 (wTi 698 rfl rfl) im_X2_move se_X2_move ini_2 co_X2_move, ⟨ne_0.1, ne_0.2, pd_4⟩, _, _, rfl⟩
set_option maxRecDepth 100000 in
theorem co_X2_passDay : Cond.code yX2_passDay cX2_passDay 1 none ∈ wT := (wTi 608 rfl rfl)
set_option maxRecDepth 100000 in
theorem im_X2_passDay : Cond.instanceMethod yX2_passDay ∈ wT := (wTi 606 rfl rfl)
set_option maxRecDepth 100000 in
theorem se_X2_passDay : Cond.selects RX2 yX2_passDay yX2_passDay ∈ wT := (wTi 607 rfl rfl)
set_option maxRecDepth 100000 in
theorem lk0_49 : LV RX0 49 yX2_passDay mX2_passDay 0 2 := ⟨LV5 (wTi 699 rfl rfl) im_X2_passDay se_X2_passDay ini_2 co_X2_passDay, ⟨ne_0.1, ne_0.2, pd_1⟩, _, _, rfl⟩
set_option maxRecDepth 100000 in
theorem co_X0_comesToWell : Cond.code yX0_comesToWell cX0_comesToWell 11 (some .boolean) ∈ wT := (wTi 683 rfl rfl)
set_option maxRecDepth 100000 in
theorem ini_0 : Cond.initialized RX0 ∈ wT := (wTi 71 rfl rfl)
set_option maxRecDepth 100000 in
theorem im_X0_comesToWell : Cond.instanceMethod yX0_comesToWell ∈ wT := (wTi 682 rfl rfl)
set_option maxRecDepth 100000 in
theorem se_X0_comesToWell : Cond.selects RX0 yX0_comesToWell yX0_comesToWell ∈ wT := (wTi 15 rfl rfl)
set_option maxRecDepth 100000 in
theorem lk0_52 : LV RX0 52 yX0_comesToWell (mX0_comesToWell 0) 4 0 := ⟨LV5 (wTi 680 rfl rfl) im_X0_comesToWell se_X0_comesToWell ini_0 co_X0_comesToWell, ⟨ne_2.1, ne_2.2, pd_5⟩, _, _, rfl⟩
set_option maxRecDepth 100000 in
theorem co_X2_ramOnWell : Cond.code yX2_ramOnWell cX2_ramOnWell 3 (some .boolean) ∈ wT := (wTi 687 rfl rfl)
set_option maxRecDepth 100000 in
theorem im_X2_ramOnWell : Cond.instanceMethod yX2_ramOnWell ∈ wT := (wTi 685 rfl rfl)
set_option maxRecDepth 100000 in
theorem se_X2_ramOnWell : Cond.selects RX2 yX2_ramOnWell yX2_ramOnWell ∈ wT := (wTi 686 rfl rfl)
set_option maxRecDepth 100000 in
theorem lk0_56 : LV RX0 56 yX2_ramOnWell mX2_ramOnWell 1 2 := ⟨LV5 (wTi 684 rfl rfl) im_X2_ramOnWell se_X2_ramOnWell ini_2 co_X2_ramOnWell, ⟨ne_0.1, ne_0.2, pd_0⟩, _, _, rfl⟩
set_option maxRecDepth 100000 in
theorem co_X2_lost : Cond.code yX2_lost cX2_lost 5 (some .int) ∈ wT := (wTi 579 rfl rfl)
set_option maxRecDepth 100000 in
theorem im_X2_lost : Cond.instanceMethod yX2_lost ∈ wT := (wTi 577 rfl rfl)
set_option maxRecDepth 100000 in
theorem se_X2_lost : Cond.selects RX2 yX2_lost yX2_lost ∈ wT := (wTi 578 rfl rfl)
set_option maxRecDepth 100000 in
theorem lk0_60 : LV RX0 60 yX2_lost mX2_lost 0 2 := ⟨LV5 (wTi 688 rfl rfl) im_X2_lost se_X2_lost ini_2 co_X2_lost, ⟨ne_0.1, ne_0.2, pd_6⟩, _, _, rfl⟩
set_option maxRecDepth 100000 in
theorem co_X2_staying : Cond.code yX2_staying cX2_staying 4 (some .int) ∈ wT := (wTi 692 rfl rfl)
set_option maxRecDepth 100000 in
theorem im_X2_staying : Cond.instanceMethod yX2_staying ∈ wT := (wTi 690 rfl rfl)
set_option maxRecDepth 100000 in
theorem se_X2_staying : Cond.selects RX2 yX2_staying yX2_staying ∈ wT := (wTi 691 rfl rfl)
set_option maxRecDepth 100000 in
theorem lk0_64 : LV RX0 64 yX2_staying mX2_staying 1 2 := ⟨LV5 (wTi 689 rfl rfl) im_X2_staying se_X2_staying ini_2 co_X2_staying, ⟨ne_0.1, ne_0.2, pd_7⟩, _, _, rfl⟩
set_option maxRecDepth 100000 in
theorem co_X2_turn : Cond.code yX2_turn cX2_turn 1 (some .int) ∈ wT := (wTi 573 rfl rfl)
set_option maxRecDepth 100000 in
theorem im_X2_turn : Cond.instanceMethod yX2_turn ∈ wT := (wTi 571 rfl rfl)
set_option maxRecDepth 100000 in
theorem se_X2_turn : Cond.selects RX2 yX2_turn yX2_turn ∈ wT := (wTi 572 rfl rfl)
set_option maxRecDepth 100000 in
theorem lk0_68 : LV RX0 68 yX2_turn mX2_turn 0 2 := ⟨LV5 (wTi 693 rfl rfl) im_X2_turn se_X2_turn ini_2 co_X2_turn, ⟨ne_0.1, ne_0.2, pd_6⟩, _, _, rfl⟩
set_option maxRecDepth 100000 in
theorem co_X0_pass : Cond.code yX0_pass cX0_pass 5 (some (.object "SheepChess$Meadow")) ∈ wT := (wTi 697 rfl rfl)
set_option maxRecDepth 100000 in
theorem im_X0_pass : Cond.instanceMethod yX0_pass ∈ wT := (wTi 696 rfl rfl)
set_option maxRecDepth 100000 in
theorem se_X0_pass : Cond.selects RX0 yX0_pass yX0_pass ∈ wT := (wTi 16 rfl rfl)
set_option maxRecDepth 100000 in
theorem lk0_71 : LV RX0 71 yX0_pass mX0_pass 3 0 := ⟨LV5 (wTi 694 rfl rfl) im_X0_pass se_X0_pass ini_0 co_X0_pass, ⟨ne_2.1, ne_2.2, pd_8⟩, _, _, rfl⟩
set_option maxRecDepth 100000 in
theorem co_X2_driven : Cond.code yX2_driven cX2_driven 3 (some .int) ∈ wT := (wTi 569 rfl rfl)
set_option maxRecDepth 100000 in
theorem im_X2_driven : Cond.instanceMethod yX2_driven ∈ wT := (wTi 567 rfl rfl)
set_option maxRecDepth 100000 in
theorem se_X2_driven : Cond.selects RX2 yX2_driven yX2_driven ∈ wT := (wTi 568 rfl rfl)
set_option maxRecDepth 100000 in
theorem lk0_80 : LV RX0 80 yX2_driven mX2_driven 2 2 := ⟨LV5 (wTi 700 rfl rfl) im_X2_driven se_X2_driven ini_2 co_X2_driven, ⟨ne_0.1, ne_0.2, pd_9⟩, _, _, rfl⟩
set_option maxRecDepth 100000 in
theorem co_X2_kindOf : Cond.code yX2_kindOf cX2_kindOf 2 (some .int) ∈ wT := (wTi 501 rfl rfl)
set_option maxRecDepth 100000 in
theorem im_X2_kindOf : Cond.instanceMethod yX2_kindOf ∈ wT := (wTi 499 rfl rfl)
set_option maxRecDepth 100000 in
theorem se_X2_kindOf : Cond.selects RX2 yX2_kindOf yX2_kindOf ∈ wT := (wTi 500 rfl rfl)
set_option maxRecDepth 100000 in
theorem lk0_87 : LV RX0 87 yX2_kindOf mX2_kindOf 1 2 := ⟨LV5 (wTi 701 rfl rfl) im_X2_kindOf se_X2_kindOf ini_2 co_X2_kindOf, ⟨ne_0.1, ne_0.2, pd_7⟩, _, _, rfl⟩
set_option maxRecDepth 100000 in
theorem co_X0_note : Cond.code yX0_note cX0_note 3 none ∈ wT := (wTi 705 rfl rfl)
set_option maxRecDepth 100000 in
theorem im_X0_note : Cond.instanceMethod yX0_note ∈ wT := (wTi 704 rfl rfl)
set_option maxRecDepth 100000 in
theorem se_X0_note : Cond.selects RX0 yX0_note yX0_note ∈ wT := (wTi 17 rfl rfl)
set_option maxRecDepth 100000 in
theorem lk0_90 : LV RX0 90 yX0_note mX0_note 2 0 := ⟨LV5 (wTi 702 rfl rfl) im_X0_note se_X0_note ini_0 co_X0_note, ⟨ne_2.1, ne_2.2, pd_4⟩, _, _, rfl⟩
set_option maxRecDepth 100000 in
theorem co_X0_worthFrom : Cond.code yX0_worthFrom cX0_worthFrom 10 (some .int) ∈ wT := (wTi 721 rfl rfl)
set_option maxRecDepth 100000 in
theorem im_X0_worthFrom : Cond.instanceMethod yX0_worthFrom ∈ wT := (wTi 720 rfl rfl)
set_option maxRecDepth 100000 in
theorem se_X0_worthFrom : Cond.selects RX0 yX0_worthFrom yX0_worthFrom ∈ wT := (wTi 18 rfl rfl)
set_option maxRecDepth 100000 in
theorem lk0_93 : LV RX0 93 yX0_worthFrom (mX0_worthFrom 0) 2 0 := ⟨LV5 (wTi 718 rfl rfl) im_X0_worthFrom se_X0_worthFrom ini_0 co_X0_worthFrom, ⟨ne_2.1, ne_2.2, pd_9⟩, _, _, rfl⟩
set_option maxRecDepth 100000 in
theorem co_X2_worth : Cond.code yX2_worth cX2_worth 4 (some .int) ∈ wT := (wTi 725 rfl rfl)
set_option maxRecDepth 100000 in
theorem im_X2_worth : Cond.instanceMethod yX2_worth ∈ wT := (wTi 723 rfl rfl)
set_option maxRecDepth 100000 in
theorem se_X2_worth : Cond.selects RX2 yX2_worth yX2_worth ∈ wT := (wTi 724 rfl rfl)
set_option maxRecDepth 100000 in
theorem lk0_96 : LV RX0 96 yX2_worth mX2_worth 0 2 := ⟨LV5 (wTi 722 rfl rfl) im_X2_worth se_X2_worth ini_2 co_X2_worth, ⟨ne_0.1, ne_0.2, pd_6⟩, _, _, rfl⟩
set_option maxRecDepth 100000 in
theorem co_X0_stayingFrom : Cond.code yX0_stayingFrom cX0_stayingFrom 9 (some .long) ∈ wT := (wTi 766 rfl rfl)
set_option maxRecDepth 100000 in
theorem im_X0_stayingFrom : Cond.instanceMethod yX0_stayingFrom ∈ wT := (wTi 765 rfl rfl)
set_option maxRecDepth 100000 in
theorem se_X0_stayingFrom : Cond.selects RX0 yX0_stayingFrom yX0_stayingFrom ∈ wT := (wTi 19 rfl rfl)
set_option maxRecDepth 100000 in
theorem lk0_99 : LV RX0 99 yX0_stayingFrom (mX0_stayingFrom 0) 4 0 := ⟨LV5 (wTi 763 rfl rfl) im_X0_stayingFrom se_X0_stayingFrom ini_0 co_X0_stayingFrom, ⟨ne_2.1, ne_2.2, pd_10⟩, _, _, rfl⟩
set_option maxRecDepth 100000 in
theorem co_X2_reach : Cond.code yX2_reach cX2_reach 8 (some .int) ∈ wT := (wTi 537 rfl rfl)
set_option maxRecDepth 100000 in
theorem im_X2_reach : Cond.instanceMethod yX2_reach ∈ wT := (wTi 535 rfl rfl)
set_option maxRecDepth 100000 in
theorem se_X2_reach : Cond.selects RX2 yX2_reach yX2_reach ∈ wT := (wTi 536 rfl rfl)
set_option maxRecDepth 100000 in
theorem lk2_103 : LV RX2 103 yX2_reach mX2_reach 3 2 := ⟨LV5 (wTi 575 rfl rfl) im_X2_reach se_X2_reach ini_2 co_X2_reach, ⟨ne_0.1, ne_0.2, pd_11⟩, _, _, rfl⟩
set_option maxRecDepth 100000 in
theorem co_X1_turnsPawn : Cond.code yX1_turnsPawn cX1_turnsPawn 3 (some .boolean) ∈ wT := (wTi 603 rfl rfl)
set_option maxRecDepth 100000 in
theorem ini_1 : Cond.initialized RX1 ∈ wT := (wTi 65 rfl rfl)
set_option maxRecDepth 100000 in
theorem im_X1_turnsPawn : Cond.instanceMethod yX1_turnsPawn ∈ wT := (wTi 601 rfl rfl)
set_option maxRecDepth 100000 in
theorem se_X1_turnsPawn : Cond.selects RX1 yX1_turnsPawn yX1_turnsPawn ∈ wT := (wTi 602 rfl rfl)
set_option maxRecDepth 100000 in
theorem lk2_107 : LV RX2 107 yX1_turnsPawn mX1_turnsPawn 2 1 := ⟨LV5 (wTi 600 rfl rfl) im_X1_turnsPawn se_X1_turnsPawn ini_1 co_X1_turnsPawn, ⟨ne_3.1, ne_3.2, pd_12⟩, _, _, rfl⟩
set_option maxRecDepth 100000 in
theorem co_X2_put : Cond.code yX2_put cX2_put 4 none ∈ wT := (wTi 409 rfl rfl)
set_option maxRecDepth 100000 in
theorem im_X2_put : Cond.instanceMethod yX2_put ∈ wT := (wTi 407 rfl rfl)
set_option maxRecDepth 100000 in
theorem se_X2_put : Cond.selects RX2 yX2_put yX2_put ∈ wT := (wTi 408 rfl rfl)
set_option maxRecDepth 100000 in
theorem lk2_110 : LV RX2 110 yX2_put mX2_put 3 2 := ⟨LV5 (wTi 604 rfl rfl) im_X2_put se_X2_put ini_2 co_X2_put, ⟨ne_0.1, ne_0.2, pd_13⟩, _, _, rfl⟩
set_option maxRecDepth 100000 in
theorem lk2_114 : LV RX2 114 yX2_driven mX2_driven 2 2 := ⟨LV5 (wTi 750 rfl rfl) im_X2_driven se_X2_driven ini_2 co_X2_driven, ⟨ne_0.1, ne_0.2, pd_9⟩, _, _, rfl⟩
set_option maxRecDepth 100000 in
theorem lk2_117 : LV RX2 117 yX2_move mX2_move 2 2 := ⟨LV5 (wTi 751 rfl rfl) im_X2_move se_X2_move ini_2 co_X2_move, ⟨ne_0.1, ne_0.2, pd_4⟩, _, _, rfl⟩
set_option maxRecDepth 100000 in
theorem lk2_121 : LV RX2 121 yX2_passDay mX2_passDay 0 2 := ⟨LV5 (wTi 752 rfl rfl) im_X2_passDay se_X2_passDay ini_2 co_X2_passDay, ⟨ne_0.1, ne_0.2, pd_1⟩, _, _, rfl⟩
set_option maxRecDepth 100000 in
theorem lk2_124 : LV RX2 124 yX2_graze mX2_graze 0 2 := ⟨LV5 (wTi 609 rfl rfl) im_X2_graze se_X2_graze ini_2 co_X2_graze, ⟨ne_0.1, ne_0.2, pd_1⟩, _, _, rfl⟩
set_option maxRecDepth 100000 in
theorem lk2_127 : LV RX2 127 yX2_beginNextDay mX2_beginNextDay 0 2 := ⟨LV5 (wTi 613 rfl rfl) im_X2_beginNextDay se_X2_beginNextDay ini_2 co_X2_beginNextDay, ⟨ne_0.1, ne_0.2, pd_1⟩, _, _, rfl⟩
set_option maxRecDepth 100000 in
theorem co_X2_bogBeside : Cond.code yX2_bogBeside cX2_bogBeside 4 (some .boolean) ∈ wT := (wTi 776 rfl rfl)
set_option maxRecDepth 100000 in
theorem im_X2_bogBeside : Cond.instanceMethod yX2_bogBeside ∈ wT := (wTi 775 rfl rfl)
set_option maxRecDepth 100000 in
theorem se_X2_bogBeside : Cond.selects RX2 yX2_bogBeside yX2_bogBeside ∈ wT := (wTi 20 rfl rfl)
set_option maxRecDepth 100000 in
theorem lk2_133 : LV RX2 133 yX2_bogBeside mX2_bogBeside 1 2 := ⟨LV5 (wTi 773 rfl rfl) im_X2_bogBeside se_X2_bogBeside ini_2 co_X2_bogBeside, ⟨ne_0.1, ne_0.2, pd_0⟩, _, _, rfl⟩
set_option maxRecDepth 100000 in
theorem co_X2_placeOf : Cond.code yX2_placeOf cX2_placeOf 2 (some .int) ∈ wT := (wTi 509 rfl rfl)
set_option maxRecDepth 100000 in
theorem im_X2_placeOf : Cond.instanceMethod yX2_placeOf ∈ wT := (wTi 507 rfl rfl)
set_option maxRecDepth 100000 in
theorem se_X2_placeOf : Cond.selects RX2 yX2_placeOf yX2_placeOf ∈ wT := (wTi 508 rfl rfl)
set_option maxRecDepth 100000 in
theorem lk2_46 : LV RX2 46 yX2_placeOf mX2_placeOf 1 2 := ⟨LV5 (wTi 525 rfl rfl) im_X2_placeOf se_X2_placeOf ini_2 co_X2_placeOf, ⟨ne_0.1, ne_0.2, pd_7⟩, _, _, rfl⟩
set_option maxRecDepth 100000 in
theorem co_X1_snowsOn : Cond.code yX1_snowsOn cX1_snowsOn 2 (some .boolean) ∈ wT := (wTi 533 rfl rfl)
set_option maxRecDepth 100000 in
theorem im_X1_snowsOn : Cond.instanceMethod yX1_snowsOn ∈ wT := (wTi 531 rfl rfl)
set_option maxRecDepth 100000 in
theorem se_X1_snowsOn : Cond.selects RX1 yX1_snowsOn yX1_snowsOn ∈ wT := (wTi 532 rfl rfl)
set_option maxRecDepth 100000 in
theorem lk2_50 : LV RX2 50 yX1_snowsOn mX1_snowsOn 1 1 := ⟨LV5 (wTi 530 rfl rfl) im_X1_snowsOn se_X1_snowsOn ini_1 co_X1_snowsOn, ⟨ne_3.1, ne_3.2, pd_0⟩, _, _, rfl⟩
set_option maxRecDepth 100000 in
theorem co_X1_hasBeast : Cond.code yX1_hasBeast cX1_hasBeast 2 (some .boolean) ∈ wT := (wTi 413 rfl rfl)
set_option maxRecDepth 100000 in
theorem im_X1_hasBeast : Cond.instanceMethod yX1_hasBeast ∈ wT := (wTi 411 rfl rfl)
set_option maxRecDepth 100000 in
theorem se_X1_hasBeast : Cond.selects RX1 yX1_hasBeast yX1_hasBeast ∈ wT := (wTi 412 rfl rfl)
set_option maxRecDepth 100000 in
theorem lk2_54 : LV RX2 54 yX1_hasBeast mX1_hasBeast 1 1 := ⟨LV5 (wTi 410 rfl rfl) im_X1_hasBeast se_X1_hasBeast ini_1 co_X1_hasBeast, ⟨ne_3.1, ne_3.2, pd_0⟩, _, _, rfl⟩
set_option maxRecDepth 100000 in
theorem lk2_57 : LV RX2 57 yX2_kindOf mX2_kindOf 1 2 := ⟨LV5 (wTi 538 rfl rfl) im_X2_kindOf se_X2_kindOf ini_2 co_X2_kindOf, ⟨ne_0.1, ne_0.2, pd_7⟩, _, _, rfl⟩
set_option maxRecDepth 100000 in
theorem lk2_60 : LV RX2 60 yX2_isOff mX2_isOff 1 2 := ⟨LV5 (wTi 539 rfl rfl) im_X2_isOff se_X2_isOff ini_2 co_X2_isOff, ⟨ne_0.1, ne_0.2, pd_0⟩, _, _, rfl⟩
set_option maxRecDepth 100000 in
theorem co_X1_villageOf : Cond.code yX1_villageOf cX1_villageOf 2 (some .int) ∈ wT := (wTi 505 rfl rfl)
set_option maxRecDepth 100000 in
theorem im_X1_villageOf : Cond.instanceMethod yX1_villageOf ∈ wT := (wTi 503 rfl rfl)
set_option maxRecDepth 100000 in
theorem se_X1_villageOf : Cond.selects RX1 yX1_villageOf yX1_villageOf ∈ wT := (wTi 504 rfl rfl)
set_option maxRecDepth 100000 in
theorem lk2_63 : LV RX2 63 yX1_villageOf mX1_villageOf 1 1 := ⟨LV5 (wTi 540 rfl rfl) im_X1_villageOf se_X1_villageOf ini_1 co_X1_villageOf, ⟨ne_3.1, ne_3.2, pd_7⟩, _, _, rfl⟩
set_option maxRecDepth 100000 in
theorem co_X1_beside : Cond.code yX1_beside cX1_beside 3 (some .int) ∈ wT := (wTi 544 rfl rfl)
set_option maxRecDepth 100000 in
theorem im_X1_beside : Cond.instanceMethod yX1_beside ∈ wT := (wTi 542 rfl rfl)
set_option maxRecDepth 100000 in
theorem se_X1_beside : Cond.selects RX1 yX1_beside yX1_beside ∈ wT := (wTi 543 rfl rfl)
set_option maxRecDepth 100000 in
theorem lk2_66 : LV RX2 66 yX1_beside mX1_beside 2 1 := ⟨LV5 (wTi 541 rfl rfl) im_X1_beside se_X1_beside ini_1 co_X1_beside, ⟨ne_3.1, ne_3.2, pd_9⟩, _, _, rfl⟩
set_option maxRecDepth 100000 in
theorem co_X2_isOpen : Cond.code yX2_isOpen cX2_isOpen 6 (some .boolean) ∈ wT := (wTi 548 rfl rfl)
set_option maxRecDepth 100000 in
theorem im_X2_isOpen : Cond.instanceMethod yX2_isOpen ∈ wT := (wTi 547 rfl rfl)
set_option maxRecDepth 100000 in
theorem se_X2_isOpen : Cond.selects RX2 yX2_isOpen yX2_isOpen ∈ wT := (wTi 11 rfl rfl)
set_option maxRecDepth 100000 in
theorem lk2_70 : LV RX2 70 yX2_isOpen mX2_isOpen 3 2 := ⟨LV5 (wTi 545 rfl rfl) im_X2_isOpen se_X2_isOpen ini_2 co_X2_isOpen, ⟨ne_0.1, ne_0.2, pd_14⟩, _, _, rfl⟩
set_option maxRecDepth 100000 in
theorem co_X2_grassOn : Cond.code yX2_grassOn cX2_grassOn 2 (some .int) ∈ wT := (wTi 401 rfl rfl)
set_option maxRecDepth 100000 in
theorem im_X2_grassOn : Cond.instanceMethod yX2_grassOn ∈ wT := (wTi 399 rfl rfl)
set_option maxRecDepth 100000 in
theorem se_X2_grassOn : Cond.selects RX2 yX2_grassOn yX2_grassOn ∈ wT := (wTi 400 rfl rfl)
set_option maxRecDepth 100000 in
theorem lk2_74 : LV RX2 74 yX2_grassOn mX2_grassOn 1 2 := ⟨LV5 (wTi 549 rfl rfl) im_X2_grassOn se_X2_grassOn ini_2 co_X2_grassOn, ⟨ne_0.1, ne_0.2, pd_7⟩, _, _, rfl⟩
set_option maxRecDepth 100000 in
theorem co_X2_occupant : Cond.code yX2_occupant cX2_occupant 3 (some .int) ∈ wT := (wTi 405 rfl rfl)
set_option maxRecDepth 100000 in
theorem im_X2_occupant : Cond.instanceMethod yX2_occupant ∈ wT := (wTi 403 rfl rfl)
set_option maxRecDepth 100000 in
theorem se_X2_occupant : Cond.selects RX2 yX2_occupant yX2_occupant ∈ wT := (wTi 404 rfl rfl)
set_option maxRecDepth 100000 in
theorem lk2_77 : LV RX2 77 yX2_occupant mX2_occupant 1 2 := ⟨LV5 (wTi 550 rfl rfl) im_X2_occupant se_X2_occupant ini_2 co_X2_occupant, ⟨ne_0.1, ne_0.2, pd_7⟩, _, _, rfl⟩
set_option maxRecDepth 100000 in
theorem co_X2_ramBeside : Cond.code yX2_ramBeside cX2_ramBeside 7 (some .boolean) ∈ wT := (wTi 554 rfl rfl)
set_option maxRecDepth 100000 in
theorem im_X2_ramBeside : Cond.instanceMethod yX2_ramBeside ∈ wT := (wTi 553 rfl rfl)
set_option maxRecDepth 100000 in
theorem se_X2_ramBeside : Cond.selects RX2 yX2_ramBeside yX2_ramBeside ∈ wT := (wTi 12 rfl rfl)
set_option maxRecDepth 100000 in
theorem lk2_80 : LV RX2 80 yX2_ramBeside mX2_ramBeside 2 2 := ⟨LV5 (wTi 551 rfl rfl) im_X2_ramBeside se_X2_ramBeside ini_2 co_X2_ramBeside, ⟨ne_0.1, ne_0.2, pd_12⟩, _, _, rfl⟩
set_option maxRecDepth 100000 in
theorem lk2_95 : LV RX2 95 yX2_turn mX2_turn 0 2 := ⟨LV5 (wTi 570 rfl rfl) im_X2_turn se_X2_turn ini_2 co_X2_turn, ⟨ne_0.1, ne_0.2, pd_6⟩, _, _, rfl⟩
set_option maxRecDepth 100000 in
theorem co_X2_snowing : Cond.code yX2_snowing cX2_snowing 1 (some .boolean) ∈ wT := (wTi 529 rfl rfl)
set_option maxRecDepth 100000 in
theorem im_X2_snowing : Cond.instanceMethod yX2_snowing ∈ wT := (wTi 527 rfl rfl)
set_option maxRecDepth 100000 in
theorem se_X2_snowing : Cond.selects RX2 yX2_snowing yX2_snowing ∈ wT := (wTi 528 rfl rfl)
set_option maxRecDepth 100000 in
theorem lk2_99 : LV RX2 99 yX2_snowing mX2_snowing 0 2 := ⟨LV5 (wTi 574 rfl rfl) im_X2_snowing se_X2_snowing ini_2 co_X2_snowing, ⟨ne_0.1, ne_0.2, pd_15⟩, _, _, rfl⟩
set_option maxRecDepth 100000 in
theorem co_JM_floorMod : Cond.code yJ9_floorMod_7cf53 cJ9_floorMod_7cf53 3 (some .int) ∈ wT := (wTi 590 rfl rfl)
set_option maxRecDepth 100000 in
theorem ini_JM : Cond.initialized "java/lang/Math" ∈ wT := (wTi 78 rfl rfl)
set_option maxRecDepth 100000 in
theorem sm_JM_floorMod : Cond.static yJ9_floorMod_7cf53 ∈ wT := (wTi 589 rfl rfl)
set_option maxRecDepth 100000 in
theorem lk3_35 : LVS RX3 35 yJ9_floorMod_7cf53 mJM_floorMod 2 := ⟨LS4 (wTi 588 rfl rfl) sm_JM_floorMod ini_JM co_JM_floorMod, ⟨ne_4.1, ne_4.2, pd_9⟩⟩
set_option maxRecDepth 100000 in
theorem co_X3_slot : Cond.code yX3_slot cX3_slot 2 (some .int) ∈ wT := (wTi 587 rfl rfl)
set_option maxRecDepth 100000 in
theorem ini_3 : Cond.initialized RX3 ∈ wT := (wTi 68 rfl rfl)
set_option maxRecDepth 100000 in
theorem im_X3_slot : Cond.instanceMethod yX3_slot ∈ wT := (wTi 586 rfl rfl)
set_option maxRecDepth 100000 in
theorem se_X3_slot : Cond.selects RX3 yX3_slot yX3_slot ∈ wT := (wTi 13 rfl rfl)
set_option maxRecDepth 100000 in
theorem lk3_41 : LV RX3 41 yX3_slot mX3_slot 1 3 := ⟨LV5 (wTi 584 rfl rfl) im_X3_slot se_X3_slot ini_3 co_X3_slot, ⟨ne_5.1, ne_5.2, pd_7⟩, _, _, rfl⟩
set_option maxRecDepth 100000 in
theorem lk3_45 : LV RX3 45 yX4_get mX4_get 1 4 := ⟨LV5 (wTi 591 rfl rfl) im_X4_get se_X4_get ini_4 co_X4_get, ⟨ne_1.1, ne_1.2, pd_2⟩, _, _, rfl⟩
set_option maxRecDepth 100000 in
theorem lk3_49 : LV RX3 49 yX2_copyFrom mX2_copyFrom 1 2 := ⟨LV5 (wTi 595 rfl rfl) im_X2_copyFrom se_X2_copyFrom ini_2 co_X2_copyFrom, ⟨ne_0.1, ne_0.2, pd_3⟩, _, _, rfl⟩
set_option maxRecDepth 100000 in
theorem co_X3_before : Cond.code yX3_before cX3_before 2 (some (.object "SheepChess$Meadow")) ∈ wT := (wTi 628 rfl rfl)
set_option maxRecDepth 100000 in
theorem im_X3_before : Cond.instanceMethod yX3_before ∈ wT := (wTi 626 rfl rfl)
set_option maxRecDepth 100000 in
theorem se_X3_before : Cond.selects RX3 yX3_before yX3_before ∈ wT := (wTi 627 rfl rfl)
set_option maxRecDepth 100000 in
theorem lk3_55 : LV RX3 55 yX3_before mX3_before 1 3 := ⟨LV5 (wTi 744 rfl rfl) im_X3_before se_X3_before ini_3 co_X3_before, ⟨ne_5.1, ne_5.2, pd_2⟩, _, _, rfl⟩
set_option maxRecDepth 100000 in
theorem lk3_58 : LV RX3 58 yX2_driven mX2_driven 2 2 := ⟨LV5 (wTi 745 rfl rfl) im_X2_driven se_X2_driven ini_2 co_X2_driven, ⟨ne_0.1, ne_0.2, pd_9⟩, _, _, rfl⟩
set_option maxRecDepth 100000 in
theorem co_X2_live : Cond.code yX2_live cX2_live 4 none ∈ wT := (wTi 749 rfl rfl)
set_option maxRecDepth 100000 in
theorem im_X2_live : Cond.instanceMethod yX2_live ∈ wT := (wTi 747 rfl rfl)
set_option maxRecDepth 100000 in
theorem se_X2_live : Cond.selects RX2 yX2_live yX2_live ∈ wT := (wTi 748 rfl rfl)
set_option maxRecDepth 100000 in
theorem lk3_61 : LV RX3 61 yX2_live mX2_live 1 2 := ⟨LV5 (wTi 746 rfl rfl) im_X2_live se_X2_live ini_2 co_X2_live, ⟨ne_0.1, ne_0.2, pd_16⟩, _, _, rfl⟩
set_option maxRecDepth 100000 in
theorem lk3_65 : LV RX3 65 yX2_lost mX2_lost 0 2 := ⟨LV5 (wTi 753 rfl rfl) im_X2_lost se_X2_lost ini_2 co_X2_lost, ⟨ne_0.1, ne_0.2, pd_6⟩, _, _, rfl⟩
set_option maxRecDepth 100000 in
theorem lk5_108 : LV RX5 108 yX2_put mX2_put 3 2 := ⟨LV5 (wTi 406 rfl rfl) im_X2_put se_X2_put ini_2 co_X2_put, ⟨ne_0.1, ne_0.2, pd_13⟩, _, _, rfl⟩
set_option maxRecDepth 100000 in
theorem co_X1_clear : Cond.code yX1_clear cX1_clear 1 none ∈ wT := (wTi 366 rfl rfl)
set_option maxRecDepth 100000 in
theorem im_X1_clear : Cond.instanceMethod yX1_clear ∈ wT := (wTi 364 rfl rfl)
set_option maxRecDepth 100000 in
theorem se_X1_clear : Cond.selects RX1 yX1_clear yX1_clear ∈ wT := (wTi 365 rfl rfl)
set_option maxRecDepth 100000 in
theorem lk5_38 : LV RX5 38 yX1_clear mX1_clear 0 1 := ⟨LV5 (wTi 363 rfl rfl) im_X1_clear se_X1_clear ini_1 co_X1_clear, ⟨ne_3.1, ne_3.2, pd_1⟩, _, _, rfl⟩
set_option maxRecDepth 100000 in
theorem co_X5_readItem : Cond.code yX5_readItem cX5_readItem 2 (some .boolean) ∈ wT := (wTi 370 rfl rfl)
set_option maxRecDepth 100000 in
theorem ini_5 : Cond.initialized RX5 ∈ wT := (wTi 66 rfl rfl)
set_option maxRecDepth 100000 in
theorem im_X5_readItem : Cond.instanceMethod yX5_readItem ∈ wT := (wTi 369 rfl rfl)
set_option maxRecDepth 100000 in
theorem se_X5_readItem : Cond.selects RX5 yX5_readItem yX5_readItem ∈ wT := (wTi 1 rfl rfl)
set_option maxRecDepth 100000 in
theorem lk5_44 : LV RX5 44 yX5_readItem mX5_readItem 0 5 := ⟨LV5 (wTi 367 rfl rfl) im_X5_readItem se_X5_readItem ini_5 co_X5_readItem, ⟨ne_6.1, ne_6.2, pd_15⟩, _, _, rfl⟩
set_option maxRecDepth 100000 in
theorem co_X5_letterAtHead : Cond.code yX5_letterAtHead cX5_letterAtHead 1 (some .int) ∈ wT := (wTi 374 rfl rfl)
set_option maxRecDepth 100000 in
theorem im_X5_letterAtHead : Cond.instanceMethod yX5_letterAtHead ∈ wT := (wTi 373 rfl rfl)
set_option maxRecDepth 100000 in
theorem se_X5_letterAtHead : Cond.selects RX5 yX5_letterAtHead yX5_letterAtHead ∈ wT := (wTi 2 rfl rfl)
set_option maxRecDepth 100000 in
theorem lk5_48 : LV RX5 48 yX5_letterAtHead mX5_letterAtHead 0 5 := ⟨LV5 (wTi 371 rfl rfl) im_X5_letterAtHead se_X5_letterAtHead ini_5 co_X5_letterAtHead, ⟨ne_6.1, ne_6.2, pd_6⟩, _, _, rfl⟩
set_option maxRecDepth 100000 in
theorem co_X5_readRow : Cond.code yX5_readRow cX5_readRow 5 (some .boolean) ∈ wT := (wTi 378 rfl rfl)
set_option maxRecDepth 100000 in
theorem im_X5_readRow : Cond.instanceMethod yX5_readRow ∈ wT := (wTi 377 rfl rfl)
set_option maxRecDepth 100000 in
theorem se_X5_readRow : Cond.selects RX5 yX5_readRow yX5_readRow ∈ wT := (wTi 3 rfl rfl)
set_option maxRecDepth 100000 in
theorem lk5_52 : LV RX5 52 yX5_readRow mX5_readRow 0 5 := ⟨LV5 (wTi 375 rfl rfl) im_X5_readRow se_X5_readRow ini_5 co_X5_readRow, ⟨ne_6.1, ne_6.2, pd_15⟩, _, _, rfl⟩
set_option maxRecDepth 100000 in
theorem co_X5_readBeast : Cond.code yX5_readBeast cX5_readBeast 6 (some .boolean) ∈ wT := (wTi 390 rfl rfl)
set_option maxRecDepth 100000 in
theorem im_X5_readBeast : Cond.instanceMethod yX5_readBeast ∈ wT := (wTi 389 rfl rfl)
set_option maxRecDepth 100000 in
theorem se_X5_readBeast : Cond.selects RX5 yX5_readBeast yX5_readBeast ∈ wT := (wTi 6 rfl rfl)
set_option maxRecDepth 100000 in
theorem lk5_55 : LV RX5 55 yX5_readBeast mX5_readBeast 0 5 := ⟨LV5 (wTi 387 rfl rfl) im_X5_readBeast se_X5_readBeast ini_5 co_X5_readBeast, ⟨ne_6.1, ne_6.2, pd_15⟩, _, _, rfl⟩
set_option maxRecDepth 100000 in
theorem co_X5_readWell : Cond.code yX5_readWell cX5_readWell 2 (some .boolean) ∈ wT := (wTi 417 rfl rfl)
set_option maxRecDepth 100000 in
theorem im_X5_readWell : Cond.instanceMethod yX5_readWell ∈ wT := (wTi 416 rfl rfl)
set_option maxRecDepth 100000 in
theorem se_X5_readWell : Cond.selects RX5 yX5_readWell yX5_readWell ∈ wT := (wTi 8 rfl rfl)
set_option maxRecDepth 100000 in
theorem lk5_58 : LV RX5 58 yX5_readWell mX5_readWell 0 5 := ⟨LV5 (wTi 414 rfl rfl) im_X5_readWell se_X5_readWell ini_5 co_X5_readWell, ⟨ne_6.1, ne_6.2, pd_15⟩, _, _, rfl⟩
set_option maxRecDepth 100000 in
theorem co_X5_readHunger : Cond.code yX5_readHunger cX5_readHunger 2 (some .boolean) ∈ wT := (wTi 421 rfl rfl)
set_option maxRecDepth 100000 in
theorem im_X5_readHunger : Cond.instanceMethod yX5_readHunger ∈ wT := (wTi 420 rfl rfl)
set_option maxRecDepth 100000 in
theorem se_X5_readHunger : Cond.selects RX5 yX5_readHunger yX5_readHunger ∈ wT := (wTi 9 rfl rfl)
set_option maxRecDepth 100000 in
theorem lk5_61 : LV RX5 61 yX5_readHunger mX5_readHunger 0 5 := ⟨LV5 (wTi 418 rfl rfl) im_X5_readHunger se_X5_readHunger ini_5 co_X5_readHunger, ⟨ne_6.1, ne_6.2, pd_15⟩, _, _, rfl⟩
set_option maxRecDepth 100000 in
theorem co_X5_readSnow : Cond.code yX5_readSnow cX5_readSnow 2 (some .boolean) ∈ wT := (wTi 425 rfl rfl)
set_option maxRecDepth 100000 in
theorem im_X5_readSnow : Cond.instanceMethod yX5_readSnow ∈ wT := (wTi 424 rfl rfl)
set_option maxRecDepth 100000 in
theorem se_X5_readSnow : Cond.selects RX5 yX5_readSnow yX5_readSnow ∈ wT := (wTi 10 rfl rfl)
set_option maxRecDepth 100000 in
theorem lk5_64 : LV RX5 64 yX5_readSnow mX5_readSnow 0 5 := ⟨LV5 (wTi 422 rfl rfl) im_X5_readSnow se_X5_readSnow ini_5 co_X5_readSnow, ⟨ne_6.1, ne_6.2, pd_15⟩, _, _, rfl⟩
set_option maxRecDepth 100000 in
theorem co_X5_readFigure : Cond.code yX5_readFigure cX5_readFigure 2 (some .int) ∈ wT := (wTi 382 rfl rfl)
set_option maxRecDepth 100000 in
theorem im_X5_readFigure : Cond.instanceMethod yX5_readFigure ∈ wT := (wTi 381 rfl rfl)
set_option maxRecDepth 100000 in
theorem se_X5_readFigure : Cond.selects RX5 yX5_readFigure yX5_readFigure ∈ wT := (wTi 4 rfl rfl)
set_option maxRecDepth 100000 in
theorem lk5_67 : LV RX5 67 yX5_readFigure mX5_readFigure 0 5 := ⟨LV5 (wTi 379 rfl rfl) im_X5_readFigure se_X5_readFigure ini_5 co_X5_readFigure, ⟨ne_6.1, ne_6.2, pd_6⟩, _, _, rfl⟩
set_option maxRecDepth 100000 in
theorem co_X5_passes : Cond.code yX5_passes cX5_passes 2 (some .boolean) ∈ wT := (wTi 386 rfl rfl)
set_option maxRecDepth 100000 in
theorem im_X5_passes : Cond.instanceMethod yX5_passes ∈ wT := (wTi 385 rfl rfl)
set_option maxRecDepth 100000 in
theorem se_X5_passes : Cond.selects RX5 yX5_passes yX5_passes ∈ wT := (wTi 5 rfl rfl)
set_option maxRecDepth 100000 in
theorem lk5_82 : LV RX5 82 yX5_passes mX5_passes 1 5 := ⟨LV5 (wTi 383 rfl rfl) im_X5_passes se_X5_passes ini_5 co_X5_passes, ⟨ne_6.1, ne_6.2, pd_0⟩, _, _, rfl⟩
set_option maxRecDepth 100000 in
theorem co_X5_readNumber : Cond.code yX5_readNumber cX5_readNumber 3 (some .int) ∈ wT := (wTi 394 rfl rfl)
set_option maxRecDepth 100000 in
theorem im_X5_readNumber : Cond.instanceMethod yX5_readNumber ∈ wT := (wTi 393 rfl rfl)
set_option maxRecDepth 100000 in
theorem se_X5_readNumber : Cond.selects RX5 yX5_readNumber yX5_readNumber ∈ wT := (wTi 7 rfl rfl)
set_option maxRecDepth 100000 in
theorem lk5_86 : LV RX5 86 yX5_readNumber mX5_readNumber 0 5 := ⟨LV5 (wTi 391 rfl rfl) im_X5_readNumber se_X5_readNumber ini_5 co_X5_readNumber, ⟨ne_6.1, ne_6.2, pd_6⟩, _, _, rfl⟩
set_option maxRecDepth 100000 in
theorem co_X7_isVillage : Cond.code yX7_isVillage cX7_isVillage 1 (some .boolean) ∈ wT := (wTi 397 rfl rfl)
set_option maxRecDepth 100000 in
theorem ini_7 : Cond.initialized RX7 ∈ wT := (wTi 64 rfl rfl)
theorem lk5_89 : LN RX5 89 yX7_isVillage mX7_isVillage 1 := ⟨by decide +kernel, by decide +kernel, "SheepChess", by decide +kernel⟩
set_option maxRecDepth 100000 in
theorem lk5_95 : LV RX5 95 yX2_grassOn mX2_grassOn 1 2 := ⟨LV5 (wTi 398 rfl rfl) im_X2_grassOn se_X2_grassOn ini_2 co_X2_grassOn, ⟨ne_0.1, ne_0.2, pd_7⟩, _, _, rfl⟩
set_option maxRecDepth 100000 in
theorem lk5_99 : LV RX5 99 yX2_occupant mX2_occupant 1 2 := ⟨LV5 (wTi 402 rfl rfl) im_X2_occupant se_X2_occupant ini_2 co_X2_occupant, ⟨ne_0.1, ne_0.2, pd_7⟩, _, _, rfl⟩
set_option maxRecDepth 100000 in
theorem lk6_44 : LV RX6 44 yX2_copyFrom mX2_copyFrom 1 2 := ⟨LV5 (wTi 637 rfl rfl) im_X2_copyFrom se_X2_copyFrom ini_2 co_X2_copyFrom, ⟨ne_0.1, ne_0.2, pd_3⟩, _, _, rfl⟩
set_option maxRecDepth 100000 in
theorem co_X6_add : Cond.code yX6_add cX6_add 7 none ∈ wT := (wTi 641 rfl rfl)
set_option maxRecDepth 100000 in
theorem ini_6 : Cond.initialized RX6 ∈ wT := (wTi 70 rfl rfl)
set_option maxRecDepth 100000 in
theorem im_X6_add : Cond.instanceMethod yX6_add ∈ wT := (wTi 640 rfl rfl)
set_option maxRecDepth 100000 in
theorem se_X6_add : Cond.selects RX6 yX6_add yX6_add ∈ wT := (wTi 14 rfl rfl)
set_option maxRecDepth 100000 in
theorem lk6_48 : LV RX6 48 yX6_add mX6_add 4 6 := ⟨LV5 (wTi 638 rfl rfl) im_X6_add se_X6_add ini_6 co_X6_add, ⟨ne_8.1, ne_8.2, pd_17⟩, _, _, rfl⟩
set_option maxRecDepth 100000 in
theorem lk6_52 : LV RX6 52 yX2_put mX2_put 3 2 := ⟨LV5 (wTi 644 rfl rfl) im_X2_put se_X2_put ini_2 co_X2_put, ⟨ne_0.1, ne_0.2, pd_13⟩, _, _, rfl⟩
set_option maxRecDepth 100000 in
theorem lk6_56 : LV RX6 56 yX2_reach mX2_reach 3 2 := ⟨LV5 (wTi 645 rfl rfl) im_X2_reach se_X2_reach ini_2 co_X2_reach, ⟨ne_0.1, ne_0.2, pd_11⟩, _, _, rfl⟩
set_option maxRecDepth 100000 in
theorem lk6_60 : LV RX6 60 yX2_move mX2_move 2 2 := ⟨LV5 (wTi 646 rfl rfl) im_X2_move se_X2_move ini_2 co_X2_move, ⟨ne_0.1, ne_0.2, pd_4⟩, _, _, rfl⟩
set_option maxRecDepth 100000 in
theorem lk6_64 : LV RX6 64 yX2_placeOf mX2_placeOf 1 2 := ⟨LV5 (wTi 642 rfl rfl) im_X2_placeOf se_X2_placeOf ini_2 co_X2_placeOf, ⟨ne_0.1, ne_0.2, pd_7⟩, _, _, rfl⟩
set_option maxRecDepth 100000 in
theorem lk6_68 : LV RX6 68 yX2_kindOf mX2_kindOf 1 2 := ⟨LV5 (wTi 643 rfl rfl) im_X2_kindOf se_X2_kindOf ini_2 co_X2_kindOf, ⟨ne_0.1, ne_0.2, pd_7⟩, _, _, rfl⟩
set_option maxRecDepth 100000 in
theorem co_X6_first : Cond.code yX6_first cX6_first 3 (some .int) ∈ wT := (wTi 650 rfl rfl)
set_option maxRecDepth 100000 in
theorem im_X6_first : Cond.instanceMethod yX6_first ∈ wT := (wTi 648 rfl rfl)
set_option maxRecDepth 100000 in
theorem se_X6_first : Cond.selects RX6 yX6_first yX6_first ∈ wT := (wTi 649 rfl rfl)
set_option maxRecDepth 100000 in
theorem lk6_71 : LV RX6 71 yX6_first mX6_first 1 6 := ⟨LV5 (wTi 667 rfl rfl) im_X6_first se_X6_first ini_6 co_X6_first, ⟨ne_8.1, ne_8.2, pd_7⟩, _, _, rfl⟩
set_option maxRecDepth 100000 in
theorem co_X6_drivesTo : Cond.code yX6_drivesTo cX6_drivesTo 2 (some .int) ∈ wT := (wTi 654 rfl rfl)
set_option maxRecDepth 100000 in
theorem im_X6_drivesTo : Cond.instanceMethod yX6_drivesTo ∈ wT := (wTi 652 rfl rfl)
set_option maxRecDepth 100000 in
theorem se_X6_drivesTo : Cond.selects RX6 yX6_drivesTo yX6_drivesTo ∈ wT := (wTi 653 rfl rfl)
set_option maxRecDepth 100000 in
theorem lk6_74 : LV RX6 74 yX6_drivesTo mX6_drivesTo 1 6 := ⟨LV5 (wTi 668 rfl rfl) im_X6_drivesTo se_X6_drivesTo ini_6 co_X6_drivesTo, ⟨ne_8.1, ne_8.2, pd_7⟩, _, _, rfl⟩
set_option maxRecDepth 100000 in
theorem lk7_100 : LV RX7 100 yX2_grassOn mX2_grassOn 1 2 := ⟨LV5 (wTi 491 rfl rfl) im_X2_grassOn se_X2_grassOn ini_2 co_X2_grassOn, ⟨ne_0.1, ne_0.2, pd_7⟩, _, _, rfl⟩
set_option maxRecDepth 100000 in
theorem lk7_104 : LV RX7 104 yX2_occupant mX2_occupant 1 2 := ⟨LV5 (wTi 492 rfl rfl) im_X2_occupant se_X2_occupant ini_2 co_X2_occupant, ⟨ne_0.1, ne_0.2, pd_7⟩, _, _, rfl⟩
set_option maxRecDepth 100000 in
theorem lk7_107 : LV RX7 107 yX1_hasBeast mX1_hasBeast 1 1 := ⟨LV5 (wTi 497 rfl rfl) im_X1_hasBeast se_X1_hasBeast ini_1 co_X1_hasBeast, ⟨ne_3.1, ne_3.2, pd_0⟩, _, _, rfl⟩
set_option maxRecDepth 100000 in
theorem lk7_110 : LV RX7 110 yX2_kindOf mX2_kindOf 1 2 := ⟨LV5 (wTi 498 rfl rfl) im_X2_kindOf se_X2_kindOf ini_2 co_X2_kindOf, ⟨ne_0.1, ne_0.2, pd_7⟩, _, _, rfl⟩
set_option maxRecDepth 100000 in
theorem lk7_113 : LV RX7 113 yX1_villageOf mX1_villageOf 1 1 := ⟨LV5 (wTi 502 rfl rfl) im_X1_villageOf se_X1_villageOf ini_1 co_X1_villageOf, ⟨ne_3.1, ne_3.2, pd_7⟩, _, _, rfl⟩
set_option maxRecDepth 100000 in
theorem lk7_116 : LV RX7 116 yX2_placeOf mX2_placeOf 1 2 := ⟨LV5 (wTi 506 rfl rfl) im_X2_placeOf se_X2_placeOf ini_2 co_X2_placeOf, ⟨ne_0.1, ne_0.2, pd_7⟩, _, _, rfl⟩
set_option maxRecDepth 100000 in
theorem co_X2_hungerOf : Cond.code yX2_hungerOf cX2_hungerOf 2 (some .int) ∈ wT := (wTi 513 rfl rfl)
set_option maxRecDepth 100000 in
theorem im_X2_hungerOf : Cond.instanceMethod yX2_hungerOf ∈ wT := (wTi 511 rfl rfl)
set_option maxRecDepth 100000 in
theorem se_X2_hungerOf : Cond.selects RX2 yX2_hungerOf yX2_hungerOf ∈ wT := (wTi 512 rfl rfl)
set_option maxRecDepth 100000 in
theorem lk7_119 : LV RX7 119 yX2_hungerOf mX2_hungerOf 1 2 := ⟨LV5 (wTi 510 rfl rfl) im_X2_hungerOf se_X2_hungerOf ini_2 co_X2_hungerOf, ⟨ne_0.1, ne_0.2, pd_7⟩, _, _, rfl⟩
set_option maxRecDepth 100000 in
theorem co_X7_isWay : Cond.code yX7_isWay cX7_isWay 1 (some .boolean) ∈ wT := (wTi 520 rfl rfl)
set_option maxRecDepth 100000 in
theorem sm_X7_isWay : Cond.static yX7_isWay ∈ wT := (wTi 519 rfl rfl)
set_option maxRecDepth 100000 in
theorem lk7_122 : LVS RX7 122 yX7_isWay mX7_isWay 1 := ⟨LS4 (wTi 518 rfl rfl) sm_X7_isWay ini_7 co_X7_isWay, ⟨ne_7.1, ne_7.2, pd_0⟩⟩
set_option maxRecDepth 100000 in
theorem lk7_125 : LV RX7 125 yX2_isOff mX2_isOff 1 2 := ⟨LV5 (wTi 521 rfl rfl) im_X2_isOff se_X2_isOff ini_2 co_X2_isOff, ⟨ne_0.1, ne_0.2, pd_0⟩, _, _, rfl⟩
set_option maxRecDepth 100000 in
theorem lk7_128 : LV RX7 128 yX2_snowing mX2_snowing 0 2 := ⟨LV5 (wTi 526 rfl rfl) im_X2_snowing se_X2_snowing ini_2 co_X2_snowing, ⟨ne_0.1, ne_0.2, pd_15⟩, _, _, rfl⟩
set_option maxRecDepth 100000 in
theorem lk7_131 : LV RX7 131 yX2_reach mX2_reach 3 2 := ⟨LV5 (wTi 534 rfl rfl) im_X2_reach se_X2_reach ini_2 co_X2_reach, ⟨ne_0.1, ne_0.2, pd_11⟩, _, _, rfl⟩
set_option maxRecDepth 100000 in
theorem lk7_135 : LV RX7 135 yX2_driven mX2_driven 2 2 := ⟨LV5 (wTi 566 rfl rfl) im_X2_driven se_X2_driven ini_2 co_X2_driven, ⟨ne_0.1, ne_0.2, pd_9⟩, _, _, rfl⟩
set_option maxRecDepth 100000 in
theorem lk7_139 : LV RX7 139 yX2_lost mX2_lost 0 2 := ⟨LV5 (wTi 576 rfl rfl) im_X2_lost se_X2_lost ini_2 co_X2_lost, ⟨ne_0.1, ne_0.2, pd_6⟩, _, _, rfl⟩
set_option maxRecDepth 100000 in
theorem co_X3_add : Cond.code yX3_add cX3_add 4 none ∈ wT := (wTi 583 rfl rfl)
set_option maxRecDepth 100000 in
theorem im_X3_add : Cond.instanceMethod yX3_add ∈ wT := (wTi 581 rfl rfl)
set_option maxRecDepth 100000 in
theorem se_X3_add : Cond.selects RX3 yX3_add yX3_add ∈ wT := (wTi 582 rfl rfl)
set_option maxRecDepth 100000 in
theorem lk7_142 : LV RX7 142 yX3_add mX3_add 2 3 := ⟨LV5 (wTi 580 rfl rfl) im_X3_add se_X3_add ini_3 co_X3_add, ⟨ne_5.1, ne_5.2, pd_18⟩, _, _, rfl⟩
set_option maxRecDepth 100000 in
theorem lk7_145 : LV RX7 145 yX2_move mX2_move 2 2 := ⟨LV5 (wTi 596 rfl rfl) im_X2_move se_X2_move ini_2 co_X2_move, ⟨ne_0.1, ne_0.2, pd_4⟩, _, _, rfl⟩
set_option maxRecDepth 100000 in
theorem lk7_149 : LV RX7 149 yX2_passDay mX2_passDay 0 2 := ⟨LV5 (wTi 605 rfl rfl) im_X2_passDay se_X2_passDay ini_2 co_X2_passDay, ⟨ne_0.1, ne_0.2, pd_1⟩, _, _, rfl⟩
set_option maxRecDepth 100000 in
theorem lk7_158 : LV RX7 158 yX3_before mX3_before 1 3 := ⟨LV5 (wTi 625 rfl rfl) im_X3_before se_X3_before ini_3 co_X3_before, ⟨ne_5.1, ne_5.2, pd_2⟩, _, _, rfl⟩
set_option maxRecDepth 100000 in
theorem lk7_162 : LV RX7 162 yX2_copyFrom mX2_copyFrom 1 2 := ⟨LV5 (wTi 433 rfl rfl) im_X2_copyFrom se_X2_copyFrom ini_2 co_X2_copyFrom, ⟨ne_0.1, ne_0.2, pd_3⟩, _, _, rfl⟩
set_option maxRecDepth 100000 in
theorem co_X6_from : Cond.code yX6_from cX6_from 6 none ∈ wT := (wTi 636 rfl rfl)
set_option maxRecDepth 100000 in
theorem im_X6_from : Cond.instanceMethod yX6_from ∈ wT := (wTi 634 rfl rfl)
set_option maxRecDepth 100000 in
theorem se_X6_from : Cond.selects RX6 yX6_from yX6_from ∈ wT := (wTi 635 rfl rfl)
set_option maxRecDepth 100000 in
theorem lk7_166 : LV RX7 166 yX6_from mX6_from 2 6 := ⟨LV5 (wTi 633 rfl rfl) im_X6_from se_X6_from ini_6 co_X6_from, ⟨ne_8.1, ne_8.2, pd_18⟩, _, _, rfl⟩
set_option maxRecDepth 100000 in
theorem lk7_169 : LV RX7 169 yX6_first mX6_first 1 6 := ⟨LV5 (wTi 647 rfl rfl) im_X6_first se_X6_first ini_6 co_X6_first, ⟨ne_8.1, ne_8.2, pd_7⟩, _, _, rfl⟩
set_option maxRecDepth 100000 in
theorem lk7_172 : LV RX7 172 yX6_drivesTo mX6_drivesTo 1 6 := ⟨LV5 (wTi 651 rfl rfl) im_X6_drivesTo se_X6_drivesTo ini_6 co_X6_drivesTo, ⟨ne_8.1, ne_8.2, pd_7⟩, _, _, rfl⟩
set_option maxRecDepth 100000 in
theorem co_X6_wayTo : Cond.code yX6_wayTo cX6_wayTo 5 (some .int) ∈ wT := (wTi 658 rfl rfl)
set_option maxRecDepth 100000 in
theorem im_X6_wayTo : Cond.instanceMethod yX6_wayTo ∈ wT := (wTi 656 rfl rfl)
set_option maxRecDepth 100000 in
theorem se_X6_wayTo : Cond.selects RX6 yX6_wayTo yX6_wayTo ∈ wT := (wTi 657 rfl rfl)
set_option maxRecDepth 100000 in
theorem lk7_175 : LV RX7 175 yX6_wayTo mX6_wayTo 2 6 := ⟨LV5 (wTi 655 rfl rfl) im_X6_wayTo se_X6_wayTo ini_6 co_X6_wayTo, ⟨ne_8.1, ne_8.2, pd_9⟩, _, _, rfl⟩
set_option maxRecDepth 100000 in
theorem co_X6_squaresWithin : Cond.code yX6_squaresWithin cX6_squaresWithin 5 (some .int) ∈ wT := (wTi 666 rfl rfl)
set_option maxRecDepth 100000 in
theorem im_X6_squaresWithin : Cond.instanceMethod yX6_squaresWithin ∈ wT := (wTi 664 rfl rfl)
set_option maxRecDepth 100000 in
theorem se_X6_squaresWithin : Cond.selects RX6 yX6_squaresWithin yX6_squaresWithin ∈ wT := (wTi 665 rfl rfl)
set_option maxRecDepth 100000 in
theorem lk7_178 : LV RX7 178 yX6_squaresWithin mX6_squaresWithin 1 6 := ⟨LV5 (wTi 663 rfl rfl) im_X6_squaresWithin se_X6_squaresWithin ini_6 co_X6_squaresWithin, ⟨ne_8.1, ne_8.2, pd_7⟩, _, _, rfl⟩
set_option maxRecDepth 100000 in
theorem sm_X7_isVillage : Cond.static yX7_isVillage ∈ wT := (wTi 396 rfl rfl)
set_option maxRecDepth 100000 in
theorem lk7_181 : LVS RX7 181 yX7_isVillage mX7_isVillage 1 := ⟨LS4 (wTi 673 rfl rfl) sm_X7_isVillage ini_7 co_X7_isVillage, ⟨ne_7.1, ne_7.2, pd_0⟩⟩
set_option maxRecDepth 100000 in
theorem co_X0_daysToWell : Cond.code yX0_daysToWell cX0_daysToWell 4 (some .int) ∈ wT := (wTi 677 rfl rfl)
set_option maxRecDepth 100000 in
theorem im_X0_daysToWell : Cond.instanceMethod yX0_daysToWell ∈ wT := (wTi 675 rfl rfl)
set_option maxRecDepth 100000 in
theorem se_X0_daysToWell : Cond.selects RX0 yX0_daysToWell yX0_daysToWell ∈ wT := (wTi 676 rfl rfl)
set_option maxRecDepth 100000 in
theorem lk7_187 : LV RX7 187 yX0_daysToWell mX0_daysToWell 2 0 := ⟨LV5 (wTi 674 rfl rfl) im_X0_daysToWell se_X0_daysToWell ini_0 co_X0_daysToWell, ⟨ne_2.1, ne_2.2, pd_19⟩, _, _, rfl⟩
set_option maxRecDepth 100000 in
theorem co_X0_onOwnDay : Cond.code yX0_onOwnDay cX0_onOwnDay 2 (some .int) ∈ wT := (wTi 709 rfl rfl)
set_option maxRecDepth 100000 in
theorem im_X0_onOwnDay : Cond.instanceMethod yX0_onOwnDay ∈ wT := (wTi 707 rfl rfl)
set_option maxRecDepth 100000 in
theorem se_X0_onOwnDay : Cond.selects RX0 yX0_onOwnDay yX0_onOwnDay ∈ wT := (wTi 708 rfl rfl)
set_option maxRecDepth 100000 in
theorem lk7_191 : LV RX7 191 yX0_onOwnDay mX0_onOwnDay 1 0 := ⟨LV5 (wTi 706 rfl rfl) im_X0_onOwnDay se_X0_onOwnDay ini_0 co_X0_onOwnDay, ⟨ne_2.1, ne_2.2, pd_7⟩, _, _, rfl⟩
set_option maxRecDepth 100000 in
theorem co_X0_worthBehind : Cond.code yX0_worthBehind cX0_worthBehind 3 (some .int) ∈ wT := (wTi 717 rfl rfl)
set_option maxRecDepth 100000 in
theorem im_X0_worthBehind : Cond.instanceMethod yX0_worthBehind ∈ wT := (wTi 715 rfl rfl)
set_option maxRecDepth 100000 in
theorem se_X0_worthBehind : Cond.selects RX0 yX0_worthBehind yX0_worthBehind ∈ wT := (wTi 716 rfl rfl)
set_option maxRecDepth 100000 in
theorem lk7_194 : LV RX7 194 yX0_worthBehind mX0_worthBehind 2 0 := ⟨LV5 (wTi 714 rfl rfl) im_X0_worthBehind se_X0_worthBehind ini_0 co_X0_worthBehind, ⟨ne_2.1, ne_2.2, pd_19⟩, _, _, rfl⟩
set_option maxRecDepth 100000 in
theorem co_X3_otherwiseIs : Cond.code yX3_otherwiseIs cX3_otherwiseIs 8 (some .boolean) ∈ wT := (wTi 743 rfl rfl)
set_option maxRecDepth 100000 in
theorem im_X3_otherwiseIs : Cond.instanceMethod yX3_otherwiseIs ∈ wT := (wTi 741 rfl rfl)
set_option maxRecDepth 100000 in
theorem se_X3_otherwiseIs : Cond.selects RX3 yX3_otherwiseIs yX3_otherwiseIs ∈ wT := (wTi 742 rfl rfl)
set_option maxRecDepth 100000 in
theorem lk7_200 : LV RX7 200 yX3_otherwiseIs mX3_otherwiseIs 3 3 := ⟨LV5 (wTi 740 rfl rfl) im_X3_otherwiseIs se_X3_otherwiseIs ini_3 co_X3_otherwiseIs, ⟨ne_5.1, ne_5.2, pd_20⟩, _, _, rfl⟩
set_option maxRecDepth 100000 in
theorem co_X0_staying : Cond.code yX0_staying cX0_staying 5 (some .long) ∈ wT := (wTi 762 rfl rfl)
set_option maxRecDepth 100000 in
theorem im_X0_staying : Cond.instanceMethod yX0_staying ∈ wT := (wTi 760 rfl rfl)
set_option maxRecDepth 100000 in
theorem se_X0_staying : Cond.selects RX0 yX0_staying yX0_staying ∈ wT := (wTi 761 rfl rfl)
set_option maxRecDepth 100000 in
theorem lk7_206 : LV RX7 206 yX0_staying mX0_staying 4 0 := ⟨LV5 (wTi 759 rfl rfl) im_X0_staying se_X0_staying ini_0 co_X0_staying, ⟨ne_2.1, ne_2.2, pd_21⟩, _, _, rfl⟩
set_option maxRecDepth 100000 in
theorem co_X7_commonPart : Cond.code yX7_commonPart cX7_commonPart 11 (some .long) ∈ wT := (wTi 780 rfl rfl)
set_option maxRecDepth 100000 in
theorem sm_X7_commonPart : Cond.static yX7_commonPart ∈ wT := (wTi 779 rfl rfl)
set_option maxRecDepth 100000 in
theorem lk7_210 : LVS RX7 210 yX7_commonPart mX7_commonPart 2 := ⟨LS4 (wTi 778 rfl rfl) sm_X7_commonPart ini_7 co_X7_commonPart, ⟨ne_7.1, ne_7.2, pd_22⟩⟩
set_option maxRecDepth 100000 in
theorem co_X7_draw : Cond.code yX7_draw cX7_draw 4 (some .int) ∈ wT := (wTi 787 rfl rfl)
set_option maxRecDepth 100000 in
theorem sm_X7_draw : Cond.static yX7_draw ∈ wT := (wTi 786 rfl rfl)
set_option maxRecDepth 100000 in
theorem lk7_214 : LVS RX7 214 yX7_draw mX7_draw 2 := ⟨LS4 (wTi 785 rfl rfl) sm_X7_draw ini_7 co_X7_draw, ⟨ne_7.1, ne_7.2, pd_9⟩⟩
set_option maxRecDepth 100000 in
theorem lk7_217 : LV RX7 217 yX2_live mX2_live 1 2 := ⟨LV5 (wTi 791 rfl rfl) im_X2_live se_X2_live ini_2 co_X2_live, ⟨ne_0.1, ne_0.2, pd_16⟩, _, _, rfl⟩
set_option maxRecDepth 100000 in
theorem lk7_221 : LV RX7 221 yX2_worth mX2_worth 0 2 := ⟨LV5 (wTi 792 rfl rfl) im_X2_worth se_X2_worth ini_2 co_X2_worth, ⟨ne_0.1, ne_0.2, pd_6⟩, _, _, rfl⟩
set_option maxRecDepth 100000 in
theorem lk7_224 : LV RX7 224 yX2_staying mX2_staying 1 2 := ⟨LV5 (wTi 793 rfl rfl) im_X2_staying se_X2_staying ini_2 co_X2_staying, ⟨ne_0.1, ne_0.2, pd_7⟩, _, _, rfl⟩
set_option maxRecDepth 100000 in
theorem lk7_226 : LV RX7 226 yX4_get mX4_get 1 4 := ⟨LV5 (wTi 798 rfl rfl) im_X4_get se_X4_get ini_4 co_X4_get, ⟨ne_1.1, ne_1.2, pd_2⟩, _, _, rfl⟩
set_option maxRecDepth 100000 in
theorem co_X2_allGrass : Cond.code yX2_allGrass cX2_allGrass 3 (some .int) ∈ wT := (wTi 810 rfl rfl)
set_option maxRecDepth 100000 in
theorem im_X2_allGrass : Cond.instanceMethod yX2_allGrass ∈ wT := (wTi 808 rfl rfl)
set_option maxRecDepth 100000 in
theorem se_X2_allGrass : Cond.selects RX2 yX2_allGrass yX2_allGrass ∈ wT := (wTi 809 rfl rfl)
set_option maxRecDepth 100000 in
theorem lk7_235 : LV RX7 235 yX2_allGrass mX2_allGrass 0 2 := ⟨LV5 (wTi 807 rfl rfl) im_X2_allGrass se_X2_allGrass ini_2 co_X2_allGrass, ⟨ne_0.1, ne_0.2, pd_6⟩, _, _, rfl⟩
set_option maxRecDepth 100000 in
theorem co_X1_copyFrom : Cond.code yX1_copyFrom cX1_copyFrom 2 none ∈ wT := (wTi 429 rfl rfl)
set_option maxRecDepth 100000 in
theorem im_X1_copyFrom : Cond.instanceMethod yX1_copyFrom ∈ wT := (wTi 427 rfl rfl)
set_option maxRecDepth 100000 in
theorem se_X1_copyFrom : Cond.selects RX1 yX1_copyFrom yX1_copyFrom ∈ wT := (wTi 428 rfl rfl)
set_option maxRecDepth 100000 in
theorem lk7_242 : LV RX7 242 yX1_copyFrom mX1_copyFrom 1 1 := ⟨LV5 (wTi 426 rfl rfl) im_X1_copyFrom se_X1_copyFrom ini_1 co_X1_copyFrom, ⟨ne_3.1, ne_3.2, pd_23⟩, _, _, rfl⟩
set_option maxRecDepth 100000 in
theorem co_X5_add : Cond.code yX5_add cX5_add 2 (some .boolean) ∈ wT := (wTi 354 rfl rfl)
set_option maxRecDepth 100000 in
theorem im_X5_add : Cond.instanceMethod yX5_add ∈ wT := (wTi 352 rfl rfl)
set_option maxRecDepth 100000 in
theorem se_X5_add : Cond.selects RX5 yX5_add yX5_add ∈ wT := (wTi 353 rfl rfl)
set_option maxRecDepth 100000 in
theorem lk7_81 : LV RX7 81 yX5_add mX5_add 1 5 := ⟨LV5 (wTi 351 rfl rfl) im_X5_add se_X5_add ini_5 co_X5_add, ⟨ne_6.1, ne_6.2, pd_0⟩, _, _, rfl⟩
set_option maxRecDepth 100000 in
theorem co_X7_begin : Cond.code yX7_begin cX7_begin 1 (some .boolean) ∈ wT := (wTi 358 rfl rfl)
set_option maxRecDepth 100000 in
theorem im_X7_begin : Cond.instanceMethod yX7_begin ∈ wT := (wTi 357 rfl rfl)
set_option maxRecDepth 100000 in
theorem se_X7_begin : Cond.selects RX7 yX7_begin yX7_begin ∈ wT := (wTi 0 rfl rfl)
set_option maxRecDepth 100000 in
theorem lk7_85 : LV RX7 85 yX7_begin mX7_begin 0 7 := ⟨LV5 (wTi 355 rfl rfl) im_X7_begin se_X7_begin ini_7 co_X7_begin, ⟨ne_7.1, ne_7.2, pd_15⟩, _, _, rfl⟩
set_option maxRecDepth 100000 in
theorem co_X5_firstFault : Cond.code yX5_firstFault cX5_firstFault 3 (some .int) ∈ wT := (wTi 362 rfl rfl)
set_option maxRecDepth 100000 in
theorem im_X5_firstFault : Cond.instanceMethod yX5_firstFault ∈ wT := (wTi 360 rfl rfl)
set_option maxRecDepth 100000 in
theorem se_X5_firstFault : Cond.selects RX5 yX5_firstFault yX5_firstFault ∈ wT := (wTi 361 rfl rfl)
set_option maxRecDepth 100000 in
theorem lk7_91 : LV RX7 91 yX5_firstFault mX5_firstFault 0 5 := ⟨LV5 (wTi 359 rfl rfl) im_X5_firstFault se_X5_firstFault ini_5 co_X5_firstFault, ⟨ne_6.1, ne_6.2, pd_6⟩, _, _, rfl⟩
set_option maxRecDepth 100000 in
theorem co_X1_hasSquare : Cond.code yX1_hasSquare cX1_hasSquare 2 (some .boolean) ∈ wT := (wTi 490 rfl rfl)
set_option maxRecDepth 100000 in
theorem im_X1_hasSquare : Cond.instanceMethod yX1_hasSquare ∈ wT := (wTi 488 rfl rfl)
set_option maxRecDepth 100000 in
theorem se_X1_hasSquare : Cond.selects RX1 yX1_hasSquare yX1_hasSquare ∈ wT := (wTi 489 rfl rfl)
set_option maxRecDepth 100000 in
theorem lk7_97 : LV RX7 97 yX1_hasSquare mX1_hasSquare 1 1 := ⟨LV5 (wTi 487 rfl rfl) im_X1_hasSquare se_X1_hasSquare ini_1 co_X1_hasSquare, ⟨ne_3.1, ne_3.2, pd_0⟩, _, _, rfl⟩
set_option maxRecDepth 100000 in
theorem co_X8_settles : Cond.code yX8_settles cX8_settles 2 none ∈ wT := (wTi 832 rfl rfl)
set_option maxRecDepth 100000 in
theorem ini_8 : Cond.initialized RX8 ∈ wT := (wTi 77 rfl rfl)
set_option maxRecDepth 100000 in
theorem im_X8_settles : Cond.instanceMethod yX8_settles ∈ wT := (wTi 831 rfl rfl)
set_option maxRecDepth 100000 in
theorem se_X8_settles : Cond.selects RX8 yX8_settles yX8_settles ∈ wT := (wTi 24 rfl rfl)
set_option maxRecDepth 100000 in
theorem lk8_100 : LV RX8 100 yX8_settles mX8_settles 0 8 := ⟨LV5 (wTi 829 rfl rfl) im_X8_settles se_X8_settles ini_8 co_X8_settles, ⟨ne_9.1, ne_9.2, pd_1⟩, _, _, rfl⟩
set_option maxRecDepth 100000 in
theorem co_X8_in : Cond.code yX8_in cX8_in 3 (some .boolean) ∈ wT := (wTi 966 rfl rfl)
set_option maxRecDepth 100000 in
theorem sm_X8_in : Cond.static yX8_in ∈ wT := (wTi 965 rfl rfl)
set_option maxRecDepth 100000 in
theorem lk8_115 : LVS RX8 115 yX8_in mX8_in 3 := ⟨LS4 (wTi 964 rfl rfl) sm_X8_in ini_8 co_X8_in, ⟨ne_9.1, ne_9.2, pd_24⟩⟩
set_option maxRecDepth 100000 in
theorem co_X8_letterAt : Cond.code yX8_letterAt cX8_letterAt 2 (some .int) ∈ wT := (wTi 982 rfl rfl)
set_option maxRecDepth 100000 in
theorem im_X8_letterAt : Cond.instanceMethod yX8_letterAt ∈ wT := (wTi 981 rfl rfl)
set_option maxRecDepth 100000 in
theorem se_X8_letterAt : Cond.selects RX8 yX8_letterAt yX8_letterAt ∈ wT := (wTi 26 rfl rfl)
set_option maxRecDepth 100000 in
theorem lk8_128 : LV RX8 128 yX8_letterAt mX8_letterAt 1 8 := ⟨LV5 (wTi 979 rfl rfl) im_X8_letterAt se_X8_letterAt ini_8 co_X8_letterAt, ⟨ne_9.1, ne_9.2, pd_7⟩, _, _, rfl⟩
set_option maxRecDepth 100000 in
theorem co_X8_isFigure : Cond.code yX8_isFigure cX8_isFigure 1 (some .boolean) ∈ wT := (wTi 989 rfl rfl)
set_option maxRecDepth 100000 in
theorem sm_X8_isFigure : Cond.static yX8_isFigure ∈ wT := (wTi 988 rfl rfl)
set_option maxRecDepth 100000 in
theorem lk8_132 : LVS RX8 132 yX8_isFigure mX8_isFigure 1 := ⟨LS4 (wTi 987 rfl rfl) sm_X8_isFigure ini_8 co_X8_isFigure, ⟨ne_9.1, ne_9.2, pd_0⟩⟩
set_option maxRecDepth 100000 in
theorem co_X8_isTold : Cond.code yX8_isTold cX8_isTold 4 (some .boolean) ∈ wT := (wTi 1001 rfl rfl)
set_option maxRecDepth 100000 in
theorem im_X8_isTold : Cond.instanceMethod yX8_isTold ∈ wT := (wTi 1000 rfl rfl)
set_option maxRecDepth 100000 in
theorem se_X8_isTold : Cond.selects RX8 yX8_isTold yX8_isTold ∈ wT := (wTi 30 rfl rfl)
set_option maxRecDepth 100000 in
theorem lk8_136 : LV RX8 136 yX8_isTold mX8_isTold 3 8 := ⟨LV5 (wTi 998 rfl rfl) im_X8_isTold se_X8_isTold ini_8 co_X8_isTold, ⟨ne_9.1, ne_9.2, pd_24⟩, _, _, rfl⟩
set_option maxRecDepth 100000 in
theorem co_X8_readNumbers : Cond.code yX8_readNumbers cX8_readNumbers 3 (some .boolean) ∈ wT := (wTi 997 rfl rfl)
set_option maxRecDepth 100000 in
theorem im_X8_readNumbers : Cond.instanceMethod yX8_readNumbers ∈ wT := (wTi 996 rfl rfl)
set_option maxRecDepth 100000 in
theorem se_X8_readNumbers : Cond.selects RX8 yX8_readNumbers yX8_readNumbers ∈ wT := (wTi 29 rfl rfl)
set_option maxRecDepth 100000 in
theorem lk8_139 : LV RX8 139 yX8_readNumbers mX8_readNumbers 1 8 := ⟨LV5 (wTi 994 rfl rfl) im_X8_readNumbers se_X8_readNumbers ini_8 co_X8_readNumbers, ⟨ne_9.1, ne_9.2, pd_0⟩, _, _, rfl⟩
set_option maxRecDepth 100000 in
theorem co_X8_isDry : Cond.code yX8_isDry cX8_isDry 2 (some .boolean) ∈ wT := (wTi 1005 rfl rfl)
set_option maxRecDepth 100000 in
theorem im_X8_isDry : Cond.instanceMethod yX8_isDry ∈ wT := (wTi 1004 rfl rfl)
set_option maxRecDepth 100000 in
theorem se_X8_isDry : Cond.selects RX8 yX8_isDry yX8_isDry ∈ wT := (wTi 31 rfl rfl)
set_option maxRecDepth 100000 in
theorem lk8_142 : LV RX8 142 yX8_isDry mX8_isDry 1 8 := ⟨LV5 (wTi 1002 rfl rfl) im_X8_isDry se_X8_isDry ini_8 co_X8_isDry, ⟨ne_9.1, ne_9.2, pd_0⟩, _, _, rfl⟩
set_option maxRecDepth 100000 in
theorem co_X8_readRow : Cond.code yX8_readRow cX8_readRow 3 (some .boolean) ∈ wT := (wTi 986 rfl rfl)
set_option maxRecDepth 100000 in
theorem im_X8_readRow : Cond.instanceMethod yX8_readRow ∈ wT := (wTi 985 rfl rfl)
set_option maxRecDepth 100000 in
theorem se_X8_readRow : Cond.selects RX8 yX8_readRow yX8_readRow ∈ wT := (wTi 27 rfl rfl)
set_option maxRecDepth 100000 in
theorem lk8_145 : LV RX8 145 yX8_readRow mX8_readRow 0 8 := ⟨LV5 (wTi 983 rfl rfl) im_X8_readRow se_X8_readRow ini_8 co_X8_readRow, ⟨ne_9.1, ne_9.2, pd_15⟩, _, _, rfl⟩
set_option maxRecDepth 100000 in
theorem co_X8_readBeastItem : Cond.code yX8_readBeastItem cX8_readBeastItem 3 (some .boolean) ∈ wT := (wTi 993 rfl rfl)
set_option maxRecDepth 100000 in
theorem im_X8_readBeastItem : Cond.instanceMethod yX8_readBeastItem ∈ wT := (wTi 992 rfl rfl)
set_option maxRecDepth 100000 in
theorem se_X8_readBeastItem : Cond.selects RX8 yX8_readBeastItem yX8_readBeastItem ∈ wT := (wTi 28 rfl rfl)
set_option maxRecDepth 100000 in
theorem lk8_149 : LV RX8 149 yX8_readBeastItem mX8_readBeastItem 0 8 := ⟨LV5 (wTi 990 rfl rfl) im_X8_readBeastItem se_X8_readBeastItem ini_8 co_X8_readBeastItem, ⟨ne_9.1, ne_9.2, pd_15⟩, _, _, rfl⟩
set_option maxRecDepth 100000 in
theorem co_X8_readItem : Cond.code yX8_readItem cX8_readItem 2 (some .boolean) ∈ wT := (wTi 978 rfl rfl)
set_option maxRecDepth 100000 in
theorem im_X8_readItem : Cond.instanceMethod yX8_readItem ∈ wT := (wTi 977 rfl rfl)
set_option maxRecDepth 100000 in
theorem se_X8_readItem : Cond.selects RX8 yX8_readItem yX8_readItem ∈ wT := (wTi 25 rfl rfl)
set_option maxRecDepth 100000 in
theorem lk8_152 : LV RX8 152 yX8_readItem mX8_readItem 0 8 := ⟨LV5 (wTi 975 rfl rfl) im_X8_readItem se_X8_readItem ini_8 co_X8_readItem, ⟨ne_9.1, ne_9.2, pd_15⟩, _, _, rfl⟩
set_option maxRecDepth 100000 in
theorem co_X8_fault : Cond.code yX8_fault cX8_fault 2 (some .int) ∈ wT := (wTi 974 rfl rfl)
set_option maxRecDepth 100000 in
theorem im_X8_fault : Cond.instanceMethod yX8_fault ∈ wT := (wTi 972 rfl rfl)
set_option maxRecDepth 100000 in
theorem se_X8_fault : Cond.selects RX8 yX8_fault yX8_fault ∈ wT := (wTi 973 rfl rfl)
set_option maxRecDepth 100000 in
theorem lk8_155 : LV RX8 155 yX8_fault mX8_fault 0 8 := ⟨LV5 (wTi 1010 rfl rfl) im_X8_fault se_X8_fault ini_8 co_X8_fault, ⟨ne_9.1, ne_9.2, pd_6⟩, _, _, rfl⟩
set_option maxRecDepth 100000 in
theorem co_X8_copies : Cond.code yX8_copies cX8_copies 6 none ∈ wT := (wTi 835 rfl rfl)
set_option maxRecDepth 100000 in
theorem sm_X8_copies : Cond.static yX8_copies ∈ wT := (wTi 834 rfl rfl)
set_option maxRecDepth 100000 in
theorem lk8_162 : LVS RX8 162 yX8_copies mX8_copies 5 := ⟨LS4 (wTi 833 rfl rfl) sm_X8_copies ini_8 co_X8_copies, ⟨ne_9.1, ne_9.2, pd_25⟩⟩
set_option maxRecDepth 100000 in
theorem co_X8_has : Cond.code yX8_has cX8_has 2 (some .boolean) ∈ wT := (wTi 1041 rfl rfl)
set_option maxRecDepth 100000 in
theorem sm_X8_has : Cond.static yX8_has ∈ wT := (wTi 1040 rfl rfl)
set_option maxRecDepth 100000 in
theorem lk8_181 : LVS RX8 181 yX8_has mX8_has 2 := ⟨LS4 (wTi 1039 rfl rfl) sm_X8_has ini_8 co_X8_has, ⟨ne_9.1, ne_9.2, pd_12⟩⟩
set_option maxRecDepth 100000 in
theorem co_X8_nextTo : Cond.code yX8_nextTo cX8_nextTo 3 (some .int) ∈ wT := (wTi 1068 rfl rfl)
set_option maxRecDepth 100000 in
theorem im_X8_nextTo : Cond.instanceMethod yX8_nextTo ∈ wT := (wTi 1067 rfl rfl)
set_option maxRecDepth 100000 in
theorem se_X8_nextTo : Cond.selects RX8 yX8_nextTo yX8_nextTo ∈ wT := (wTi 41 rfl rfl)
set_option maxRecDepth 100000 in
theorem lk8_185 : LV RX8 185 yX8_nextTo mX8_nextTo 2 8 := ⟨LV5 (wTi 1065 rfl rfl) im_X8_nextTo se_X8_nextTo ini_8 co_X8_nextTo, ⟨ne_9.1, ne_9.2, pd_9⟩, _, _, rfl⟩
set_option maxRecDepth 100000 in
theorem co_X8_onIt : Cond.code yX8_onIt cX8_onIt 4 (some .int) ∈ wT := (wTi 1026 rfl rfl)
set_option maxRecDepth 100000 in
theorem im_X8_onIt : Cond.instanceMethod yX8_onIt ∈ wT := (wTi 1025 rfl rfl)
set_option maxRecDepth 100000 in
theorem se_X8_onIt : Cond.selects RX8 yX8_onIt yX8_onIt ∈ wT := (wTi 34 rfl rfl)
set_option maxRecDepth 100000 in
theorem lk8_189 : LV RX8 189 yX8_onIt mX8_onIt 1 8 := ⟨LV5 (wTi 1023 rfl rfl) im_X8_onIt se_X8_onIt ini_8 co_X8_onIt, ⟨ne_9.1, ne_9.2, pd_7⟩, _, _, rfl⟩
set_option maxRecDepth 100000 in
theorem co_X8_kindOf : Cond.code yX8_kindOf cX8_kindOf 2 (some .int) ∈ wT := (wTi 1038 rfl rfl)
set_option maxRecDepth 100000 in
theorem im_X8_kindOf : Cond.instanceMethod yX8_kindOf ∈ wT := (wTi 1037 rfl rfl)
set_option maxRecDepth 100000 in
theorem se_X8_kindOf : Cond.selects RX8 yX8_kindOf yX8_kindOf ∈ wT := (wTi 36 rfl rfl)
set_option maxRecDepth 100000 in
theorem lk8_192 : LV RX8 192 yX8_kindOf mX8_kindOf 1 8 := ⟨LV5 (wTi 1035 rfl rfl) im_X8_kindOf se_X8_kindOf ini_8 co_X8_kindOf, ⟨ne_9.1, ne_9.2, pd_7⟩, _, _, rfl⟩
set_option maxRecDepth 100000 in
theorem co_X8_isNearRam : Cond.code yX8_isNearRam cX8_isNearRam 7 (some .boolean) ∈ wT := (wTi 1072 rfl rfl)
set_option maxRecDepth 100000 in
theorem im_X8_isNearRam : Cond.instanceMethod yX8_isNearRam ∈ wT := (wTi 1071 rfl rfl)
set_option maxRecDepth 100000 in
theorem se_X8_isNearRam : Cond.selects RX8 yX8_isNearRam yX8_isNearRam ∈ wT := (wTi 42 rfl rfl)
set_option maxRecDepth 100000 in
theorem lk8_195 : LV RX8 195 yX8_isNearRam mX8_isNearRam 2 8 := ⟨LV5 (wTi 1069 rfl rfl) im_X8_isNearRam se_X8_isNearRam ini_8 co_X8_isNearRam, ⟨ne_9.1, ne_9.2, pd_12⟩, _, _, rfl⟩
set_option maxRecDepth 100000 in
theorem co_X8_isSnow : Cond.code yX8_isSnow cX8_isSnow 1 (some .boolean) ∈ wT := (wTi 1060 rfl rfl)
set_option maxRecDepth 100000 in
theorem im_X8_isSnow : Cond.instanceMethod yX8_isSnow ∈ wT := (wTi 1059 rfl rfl)
set_option maxRecDepth 100000 in
theorem se_X8_isSnow : Cond.selects RX8 yX8_isSnow yX8_isSnow ∈ wT := (wTi 39 rfl rfl)
set_option maxRecDepth 100000 in
theorem lk8_201 : LV RX8 201 yX8_isSnow mX8_isSnow 0 8 := ⟨LV5 (wTi 1057 rfl rfl) im_X8_isSnow se_X8_isSnow ini_8 co_X8_isSnow, ⟨ne_9.1, ne_9.2, pd_15⟩, _, _, rfl⟩
set_option maxRecDepth 100000 in
theorem co_X8_stepTo : Cond.code yX8_stepTo cX8_stepTo 7 (some .int) ∈ wT := (wTi 1064 rfl rfl)
set_option maxRecDepth 100000 in
theorem im_X8_stepTo : Cond.instanceMethod yX8_stepTo ∈ wT := (wTi 1063 rfl rfl)
set_option maxRecDepth 100000 in
theorem se_X8_stepTo : Cond.selects RX8 yX8_stepTo yX8_stepTo ∈ wT := (wTi 40 rfl rfl)
set_option maxRecDepth 100000 in
theorem lk8_204 : LV RX8 204 yX8_stepTo mX8_stepTo 4 8 := ⟨LV5 (wTi 1061 rfl rfl) im_X8_stepTo se_X8_stepTo ini_8 co_X8_stepTo, ⟨ne_9.1, ne_9.2, pd_26⟩, _, _, rfl⟩
set_option maxRecDepth 100000 in
theorem co_X8_comesTo : Cond.code yX8_comesTo cX8_comesTo 9 (some .int) ∈ wT := (wTi 1056 rfl rfl)
set_option maxRecDepth 100000 in
theorem im_X8_comesTo : Cond.instanceMethod yX8_comesTo ∈ wT := (wTi 1055 rfl rfl)
set_option maxRecDepth 100000 in
theorem se_X8_comesTo : Cond.selects RX8 yX8_comesTo yX8_comesTo ∈ wT := (wTi 38 rfl rfl)
set_option maxRecDepth 100000 in
theorem lk8_208 : LV RX8 208 yX8_comesTo mX8_comesTo 3 8 := ⟨LV5 (wTi 1053 rfl rfl) im_X8_comesTo se_X8_comesTo ini_8 co_X8_comesTo, ⟨ne_9.1, ne_9.2, pd_11⟩, _, _, rfl⟩
set_option maxRecDepth 100000 in
theorem co_X8_stands : Cond.code yX8_stands cX8_stands 4 none ∈ wT := (wTi 1100 rfl rfl)
set_option maxRecDepth 100000 in
theorem im_X8_stands : Cond.instanceMethod yX8_stands ∈ wT := (wTi 1099 rfl rfl)
set_option maxRecDepth 100000 in
theorem se_X8_stands : Cond.selects RX8 yX8_stands yX8_stands ∈ wT := (wTi 47 rfl rfl)
set_option maxRecDepth 100000 in
theorem lk8_212 : LV RX8 212 yX8_stands mX8_stands 2 8 := ⟨LV5 (wTi 1097 rfl rfl) im_X8_stands se_X8_stands ini_8 co_X8_stands, ⟨ne_9.1, ne_9.2, pd_4⟩, _, _, rfl⟩
set_option maxRecDepth 100000 in
theorem co_X8_grazes : Cond.code yX8_grazes cX8_grazes 3 none ∈ wT := (wTi 1104 rfl rfl)
set_option maxRecDepth 100000 in
theorem im_X8_grazes : Cond.instanceMethod yX8_grazes ∈ wT := (wTi 1103 rfl rfl)
set_option maxRecDepth 100000 in
theorem se_X8_grazes : Cond.selects RX8 yX8_grazes yX8_grazes ∈ wT := (wTi 48 rfl rfl)
set_option maxRecDepth 100000 in
theorem lk8_216 : LV RX8 216 yX8_grazes mX8_grazes 0 8 := ⟨LV5 (wTi 1101 rfl rfl) im_X8_grazes se_X8_grazes ini_8 co_X8_grazes, ⟨ne_9.1, ne_9.2, pd_1⟩, _, _, rfl⟩
set_option maxRecDepth 100000 in
theorem co_X8_nextDay : Cond.code yX8_nextDay cX8_nextDay 2 none ∈ wT := (wTi 1108 rfl rfl)
set_option maxRecDepth 100000 in
theorem im_X8_nextDay : Cond.instanceMethod yX8_nextDay ∈ wT := (wTi 1107 rfl rfl)
set_option maxRecDepth 100000 in
theorem se_X8_nextDay : Cond.selects RX8 yX8_nextDay yX8_nextDay ∈ wT := (wTi 49 rfl rfl)
set_option maxRecDepth 100000 in
theorem lk8_219 : LV RX8 219 yX8_nextDay mX8_nextDay 0 8 := ⟨LV5 (wTi 1105 rfl rfl) im_X8_nextDay se_X8_nextDay ini_8 co_X8_nextDay, ⟨ne_9.1, ne_9.2, pd_1⟩, _, _, rfl⟩
set_option maxRecDepth 100000 in
theorem co_X8_lost : Cond.code yX8_lost cX8_lost 4 (some .int) ∈ wT := (wTi 1088 rfl rfl)
set_option maxRecDepth 100000 in
theorem im_X8_lost : Cond.instanceMethod yX8_lost ∈ wT := (wTi 1087 rfl rfl)
set_option maxRecDepth 100000 in
theorem se_X8_lost : Cond.selects RX8 yX8_lost yX8_lost ∈ wT := (wTi 44 rfl rfl)
set_option maxRecDepth 100000 in
theorem lk8_222 : LV RX8 222 yX8_lost mX8_lost 0 8 := ⟨LV5 (wTi 1085 rfl rfl) im_X8_lost se_X8_lost ini_8 co_X8_lost, ⟨ne_9.1, ne_9.2, pd_6⟩, _, _, rfl⟩
set_option maxRecDepth 100000 in
theorem co_X8_isSquare : Cond.code yX8_isSquare cX8_isSquare 2 (some .boolean) ∈ wT := (wTi 1018 rfl rfl)
set_option maxRecDepth 100000 in
theorem im_X8_isSquare : Cond.instanceMethod yX8_isSquare ∈ wT := (wTi 1017 rfl rfl)
set_option maxRecDepth 100000 in
theorem se_X8_isSquare : Cond.selects RX8 yX8_isSquare yX8_isSquare ∈ wT := (wTi 32 rfl rfl)
set_option maxRecDepth 100000 in
theorem lk8_225 : LV RX8 225 yX8_isSquare mX8_isSquare 1 8 := ⟨LV5 (wTi 1015 rfl rfl) im_X8_isSquare se_X8_isSquare ini_8 co_X8_isSquare, ⟨ne_9.1, ne_9.2, pd_0⟩, _, _, rfl⟩
set_option maxRecDepth 100000 in
theorem co_X8_asItIs : Cond.code yX8_asItIs cX8_asItIs 1 none ∈ wT := (wTi 1022 rfl rfl)
set_option maxRecDepth 100000 in
theorem im_X8_asItIs : Cond.instanceMethod yX8_asItIs ∈ wT := (wTi 1021 rfl rfl)
set_option maxRecDepth 100000 in
theorem se_X8_asItIs : Cond.selects RX8 yX8_asItIs yX8_asItIs ∈ wT := (wTi 33 rfl rfl)
set_option maxRecDepth 100000 in
theorem lk8_228 : LV RX8 228 yX8_asItIs mX8_asItIs 0 8 := ⟨LV5 (wTi 1019 rfl rfl) im_X8_asItIs se_X8_asItIs ini_8 co_X8_asItIs, ⟨ne_9.1, ne_9.2, pd_1⟩, _, _, rfl⟩
set_option maxRecDepth 100000 in
theorem co_X8_isBeast : Cond.code yX8_isBeast cX8_isBeast 2 (some .boolean) ∈ wT := (wTi 1034 rfl rfl)
set_option maxRecDepth 100000 in
theorem im_X8_isBeast : Cond.instanceMethod yX8_isBeast ∈ wT := (wTi 1033 rfl rfl)
set_option maxRecDepth 100000 in
theorem se_X8_isBeast : Cond.selects RX8 yX8_isBeast yX8_isBeast ∈ wT := (wTi 35 rfl rfl)
set_option maxRecDepth 100000 in
theorem lk8_231 : LV RX8 231 yX8_isBeast mX8_isBeast 1 8 := ⟨LV5 (wTi 1031 rfl rfl) im_X8_isBeast se_X8_isBeast ini_8 co_X8_isBeast, ⟨ne_9.1, ne_9.2, pd_0⟩, _, _, rfl⟩
set_option maxRecDepth 100000 in
theorem co_X8_orNone : Cond.code yX8_orNone cX8_orNone 1 (some .int) ∈ wT := (wTi 1044 rfl rfl)
set_option maxRecDepth 100000 in
theorem sm_X8_orNone : Cond.static yX8_orNone ∈ wT := (wTi 1043 rfl rfl)
set_option maxRecDepth 100000 in
theorem lk8_234 : LVS RX8 234 yX8_orNone mX8_orNone 1 := ⟨LS4 (wTi 1042 rfl rfl) sm_X8_orNone ini_8 co_X8_orNone, ⟨ne_9.1, ne_9.2, pd_7⟩⟩
set_option maxRecDepth 100000 in
theorem co_X8_looksAt : Cond.code yX8_looksAt cX8_looksAt 3 (some .int) ∈ wT := (wTi 1052 rfl rfl)
set_option maxRecDepth 100000 in
theorem im_X8_looksAt : Cond.instanceMethod yX8_looksAt ∈ wT := (wTi 1051 rfl rfl)
set_option maxRecDepth 100000 in
theorem se_X8_looksAt : Cond.selects RX8 yX8_looksAt yX8_looksAt ∈ wT := (wTi 37 rfl rfl)
set_option maxRecDepth 100000 in
theorem lk8_237 : LV RX8 237 yX8_looksAt mX8_looksAt 2 8 := ⟨LV5 (wTi 1049 rfl rfl) im_X8_looksAt se_X8_looksAt ini_8 co_X8_looksAt, ⟨ne_9.1, ne_9.2, pd_9⟩, _, _, rfl⟩
set_option maxRecDepth 100000 in
theorem co_X8_goesBy : Cond.code yX8_goesBy cX8_goesBy 4 none ∈ wT := (wTi 1096 rfl rfl)
set_option maxRecDepth 100000 in
theorem im_X8_goesBy : Cond.instanceMethod yX8_goesBy ∈ wT := (wTi 1095 rfl rfl)
set_option maxRecDepth 100000 in
theorem se_X8_goesBy : Cond.selects RX8 yX8_goesBy yX8_goesBy ∈ wT := (wTi 46 rfl rfl)
set_option maxRecDepth 100000 in
theorem lk8_240 : LV RX8 240 yX8_goesBy mX8_goesBy 1 8 := ⟨LV5 (wTi 1093 rfl rfl) im_X8_goesBy se_X8_goesBy ini_8 co_X8_goesBy, ⟨ne_9.1, ne_9.2, pd_16⟩, _, _, rfl⟩
set_option maxRecDepth 100000 in
theorem co_X8_canDrive : Cond.code yX8_canDrive cX8_canDrive 3 (some .boolean) ∈ wT := (wTi 1084 rfl rfl)
set_option maxRecDepth 100000 in
theorem im_X8_canDrive : Cond.instanceMethod yX8_canDrive ∈ wT := (wTi 1083 rfl rfl)
set_option maxRecDepth 100000 in
theorem se_X8_canDrive : Cond.selects RX8 yX8_canDrive yX8_canDrive ∈ wT := (wTi 43 rfl rfl)
set_option maxRecDepth 100000 in
theorem lk8_243 : LV RX8 243 yX8_canDrive mX8_canDrive 1 8 := ⟨LV5 (wTi 1081 rfl rfl) im_X8_canDrive se_X8_canDrive ini_8 co_X8_canDrive, ⟨ne_9.1, ne_9.2, pd_0⟩, _, _, rfl⟩
set_option maxRecDepth 100000 in
theorem co_X8_does : Cond.code yX8_does cX8_does 3 none ∈ wT := (wTi 1092 rfl rfl)
set_option maxRecDepth 100000 in
theorem im_X8_does : Cond.instanceMethod yX8_does ∈ wT := (wTi 1091 rfl rfl)
set_option maxRecDepth 100000 in
theorem se_X8_does : Cond.selects RX8 yX8_does yX8_does ∈ wT := (wTi 45 rfl rfl)
set_option maxRecDepth 100000 in
theorem lk8_246 : LV RX8 246 yX8_does mX8_does 1 8 := ⟨LV5 (wTi 1089 rfl rfl) im_X8_does se_X8_does ini_8 co_X8_does, ⟨ne_9.1, ne_9.2, pd_16⟩, _, _, rfl⟩
set_option maxRecDepth 100000 in
theorem co_X8_nowOne : Cond.code yX8_nowOne cX8_nowOne 2 (some .int) ∈ wT := (wTi 1128 rfl rfl)
set_option maxRecDepth 100000 in
theorem im_X8_nowOne : Cond.instanceMethod yX8_nowOne ∈ wT := (wTi 1127 rfl rfl)
set_option maxRecDepth 100000 in
theorem se_X8_nowOne : Cond.selects RX8 yX8_nowOne yX8_nowOne ∈ wT := (wTi 51 rfl rfl)
set_option maxRecDepth 100000 in
theorem lk8_252 : LV RX8 252 yX8_nowOne mX8_nowOne 1 8 := ⟨LV5 (wTi 1125 rfl rfl) im_X8_nowOne se_X8_nowOne ini_8 co_X8_nowOne, ⟨ne_9.1, ne_9.2, pd_7⟩, _, _, rfl⟩
set_option maxRecDepth 100000 in
theorem co_X8_reaches : Cond.code yX8_reaches cX8_reaches 4 none ∈ wT := (wTi 1132 rfl rfl)
set_option maxRecDepth 100000 in
theorem im_X8_reaches : Cond.instanceMethod yX8_reaches ∈ wT := (wTi 1131 rfl rfl)
set_option maxRecDepth 100000 in
theorem se_X8_reaches : Cond.selects RX8 yX8_reaches yX8_reaches ∈ wT := (wTi 52 rfl rfl)
set_option maxRecDepth 100000 in
theorem lk8_255 : LV RX8 255 yX8_reaches mX8_reaches 3 8 := ⟨LV5 (wTi 1129 rfl rfl) im_X8_reaches se_X8_reaches ini_8 co_X8_reaches, ⟨ne_9.1, ne_9.2, pd_13⟩, _, _, rfl⟩
set_option maxRecDepth 100000 in
theorem co_X8_strays : Cond.code yX8_strays cX8_strays 8 none ∈ wT := (wTi 1124 rfl rfl)
set_option maxRecDepth 100000 in
theorem im_X8_strays : Cond.instanceMethod yX8_strays ∈ wT := (wTi 1123 rfl rfl)
set_option maxRecDepth 100000 in
theorem se_X8_strays : Cond.selects RX8 yX8_strays yX8_strays ∈ wT := (wTi 50 rfl rfl)
set_option maxRecDepth 100000 in
theorem lk8_258 : LV RX8 258 yX8_strays mX8_strays 2 8 := ⟨LV5 (wTi 1121 rfl rfl) im_X8_strays se_X8_strays ini_8 co_X8_strays, ⟨ne_9.1, ne_9.2, pd_4⟩, _, _, rfl⟩
set_option maxRecDepth 100000 in
theorem co_X8_isWatered : Cond.code yX8_isWatered cX8_isWatered 4 (some .boolean) ∈ wT := (wTi 1148 rfl rfl)
set_option maxRecDepth 100000 in
theorem im_X8_isWatered : Cond.instanceMethod yX8_isWatered ∈ wT := (wTi 1147 rfl rfl)
set_option maxRecDepth 100000 in
theorem se_X8_isWatered : Cond.selects RX8 yX8_isWatered yX8_isWatered ∈ wT := (wTi 54 rfl rfl)
set_option maxRecDepth 100000 in
theorem lk8_261 : LV RX8 261 yX8_isWatered mX8_isWatered 1 8 := ⟨LV5 (wTi 1145 rfl rfl) im_X8_isWatered se_X8_isWatered ini_8 co_X8_isWatered, ⟨ne_9.1, ne_9.2, pd_0⟩, _, _, rfl⟩
set_option maxRecDepth 100000 in
theorem co_X8_nextDrive : Cond.code yX8_nextDrive cX8_nextDrive 3 (some .int) ∈ wT := (wTi 1152 rfl rfl)
set_option maxRecDepth 100000 in
theorem im_X8_nextDrive : Cond.instanceMethod yX8_nextDrive ∈ wT := (wTi 1151 rfl rfl)
set_option maxRecDepth 100000 in
theorem se_X8_nextDrive : Cond.selects RX8 yX8_nextDrive yX8_nextDrive ∈ wT := (wTi 55 rfl rfl)
set_option maxRecDepth 100000 in
theorem lk8_264 : LV RX8 264 yX8_nextDrive mX8_nextDrive 1 8 := ⟨LV5 (wTi 1149 rfl rfl) im_X8_nextDrive se_X8_nextDrive ini_8 co_X8_nextDrive, ⟨ne_9.1, ne_9.2, pd_7⟩, _, _, rfl⟩
set_option maxRecDepth 100000 in
theorem co_X8_onMeadow : Cond.code yX8_onMeadow cX8_onMeadow 4 (some .int) ∈ wT := (wTi 1156 rfl rfl)
set_option maxRecDepth 100000 in
theorem im_X8_onMeadow : Cond.instanceMethod yX8_onMeadow ∈ wT := (wTi 1155 rfl rfl)
set_option maxRecDepth 100000 in
theorem se_X8_onMeadow : Cond.selects RX8 yX8_onMeadow yX8_onMeadow ∈ wT := (wTi 56 rfl rfl)
set_option maxRecDepth 100000 in
theorem lk8_267 : LV RX8 267 yX8_onMeadow mX8_onMeadow 1 8 := ⟨LV5 (wTi 1153 rfl rfl) im_X8_onMeadow se_X8_onMeadow ini_8 co_X8_onMeadow, ⟨ne_9.1, ne_9.2, pd_7⟩, _, _, rfl⟩
set_option maxRecDepth 100000 in
theorem co_X8_isSummer : Cond.code yX8_isSummer cX8_isSummer 7 (some .boolean) ∈ wT := (wTi 1144 rfl rfl)
set_option maxRecDepth 100000 in
theorem im_X8_isSummer : Cond.instanceMethod yX8_isSummer ∈ wT := (wTi 1143 rfl rfl)
set_option maxRecDepth 100000 in
theorem se_X8_isSummer : Cond.selects RX8 yX8_isSummer yX8_isSummer ∈ wT := (wTi 53 rfl rfl)
set_option maxRecDepth 100000 in
theorem lk8_270 : LV RX8 270 yX8_isSummer mX8_isSummer 2 8 := ⟨LV5 (wTi 1141 rfl rfl) im_X8_isSummer se_X8_isSummer ini_8 co_X8_isSummer, ⟨ne_9.1, ne_9.2, pd_12⟩, _, _, rfl⟩
set_option maxRecDepth 100000 in
theorem co_X8_worth : Cond.code yX8_worth cX8_worth 5 (some .int) ∈ wT := (wTi 1168 rfl rfl)
set_option maxRecDepth 100000 in
theorem im_X8_worth : Cond.instanceMethod yX8_worth ∈ wT := (wTi 1167 rfl rfl)
set_option maxRecDepth 100000 in
theorem se_X8_worth : Cond.selects RX8 yX8_worth yX8_worth ∈ wT := (wTi 58 rfl rfl)
set_option maxRecDepth 100000 in
theorem lk8_273 : LV RX8 273 yX8_worth mX8_worth 0 8 := ⟨LV5 (wTi 1165 rfl rfl) im_X8_worth se_X8_worth ini_8 co_X8_worth, ⟨ne_9.1, ne_9.2, pd_6⟩, _, _, rfl⟩
set_option maxRecDepth 100000 in
theorem co_X8_isFirstOf : Cond.code yX8_isFirstOf cX8_isFirstOf 2 (some .boolean) ∈ wT := (wTi 1172 rfl rfl)
set_option maxRecDepth 100000 in
theorem im_X8_isFirstOf : Cond.instanceMethod yX8_isFirstOf ∈ wT := (wTi 1171 rfl rfl)
set_option maxRecDepth 100000 in
theorem se_X8_isFirstOf : Cond.selects RX8 yX8_isFirstOf yX8_isFirstOf ∈ wT := (wTi 59 rfl rfl)
set_option maxRecDepth 100000 in
theorem lk8_276 : LV RX8 276 yX8_isFirstOf mX8_isFirstOf 1 8 := ⟨LV5 (wTi 1169 rfl rfl) im_X8_isFirstOf se_X8_isFirstOf ini_8 co_X8_isFirstOf, ⟨ne_9.1, ne_9.2, pd_0⟩, _, _, rfl⟩
set_option maxRecDepth 100000 in
theorem co_X8_plays : Cond.code yX8_plays cX8_plays 9 (some .int) ∈ wT := (wTi 1164 rfl rfl)
set_option maxRecDepth 100000 in
theorem im_X8_plays : Cond.instanceMethod yX8_plays ∈ wT := (wTi 1163 rfl rfl)
set_option maxRecDepth 100000 in
theorem se_X8_plays : Cond.selects RX8 yX8_plays yX8_plays ∈ wT := (wTi 57 rfl rfl)
set_option maxRecDepth 100000 in
theorem lk8_279 : LV RX8 279 yX8_plays mX8_plays 1 8 := ⟨LV5 (wTi 1161 rfl rfl) im_X8_plays se_X8_plays ini_8 co_X8_plays, ⟨ne_9.1, ne_9.2, pd_7⟩, _, _, rfl⟩
set_option maxRecDepth 100000 in
theorem co_X8_isOtherwise : Cond.code yX8_isOtherwise cX8_isOtherwise 6 (some .boolean) ∈ wT := (wTi 1188 rfl rfl)
set_option maxRecDepth 100000 in
theorem im_X8_isOtherwise : Cond.instanceMethod yX8_isOtherwise ∈ wT := (wTi 1187 rfl rfl)
set_option maxRecDepth 100000 in
theorem se_X8_isOtherwise : Cond.selects RX8 yX8_isOtherwise yX8_isOtherwise ∈ wT := (wTi 60 rfl rfl)
set_option maxRecDepth 100000 in
theorem lk8_282 : LV RX8 282 yX8_isOtherwise mX8_isOtherwise 4 8 := ⟨LV5 (wTi 1185 rfl rfl) im_X8_isOtherwise se_X8_isOtherwise ini_8 co_X8_isOtherwise, ⟨ne_9.1, ne_9.2, pd_5⟩, _, _, rfl⟩
set_option maxRecDepth 100000 in
theorem co_X8_isNearBog : Cond.code yX8_isNearBog cX8_isNearBog 5 (some .boolean) ∈ wT := (wTi 1200 rfl rfl)
set_option maxRecDepth 100000 in
theorem im_X8_isNearBog : Cond.instanceMethod yX8_isNearBog ∈ wT := (wTi 1199 rfl rfl)
set_option maxRecDepth 100000 in
theorem se_X8_isNearBog : Cond.selects RX8 yX8_isNearBog yX8_isNearBog ∈ wT := (wTi 62 rfl rfl)
set_option maxRecDepth 100000 in
theorem lk8_286 : LV RX8 286 yX8_isNearBog mX8_isNearBog 1 8 := ⟨LV5 (wTi 1197 rfl rfl) im_X8_isNearBog se_X8_isNearBog ini_8 co_X8_isNearBog, ⟨ne_9.1, ne_9.2, pd_0⟩, _, _, rfl⟩
set_option maxRecDepth 100000 in
theorem co_X8_wolf : Cond.code yX8_wolf cX8_wolf 2 none ∈ wT := (wTi 1196 rfl rfl)
set_option maxRecDepth 100000 in
theorem im_X8_wolf : Cond.instanceMethod yX8_wolf ∈ wT := (wTi 1195 rfl rfl)
set_option maxRecDepth 100000 in
theorem se_X8_wolf : Cond.selects RX8 yX8_wolf yX8_wolf ∈ wT := (wTi 61 rfl rfl)
set_option maxRecDepth 100000 in
theorem lk8_289 : LV RX8 289 yX8_wolf mX8_wolf 0 8 := ⟨LV5 (wTi 1193 rfl rfl) im_X8_wolf se_X8_wolf ini_8 co_X8_wolf, ⟨ne_9.1, ne_9.2, pd_1⟩, _, _, rfl⟩
set_option maxRecDepth 100000 in
theorem co_X8_lowest : Cond.code yX8_lowest cX8_lowest 6 (some .int) ∈ wT := (wTi 1203 rfl rfl)
set_option maxRecDepth 100000 in
theorem sm_X8_lowest : Cond.static yX8_lowest ∈ wT := (wTi 1202 rfl rfl)
set_option maxRecDepth 100000 in
theorem lk8_292 : LVS RX8 292 yX8_lowest mX8_lowest 3 := ⟨LS4 (wTi 1201 rfl rfl) sm_X8_lowest ini_8 co_X8_lowest, ⟨ne_9.1, ne_9.2, pd_27⟩⟩
set_option maxRecDepth 100000 in
theorem co_X8_clearTold : Cond.code yX8_clearTold cX8_clearTold 2 none ∈ wT := (wTi 820 rfl rfl)
set_option maxRecDepth 100000 in
theorem im_X8_clearTold : Cond.instanceMethod yX8_clearTold ∈ wT := (wTi 819 rfl rfl)
set_option maxRecDepth 100000 in
theorem se_X8_clearTold : Cond.selects RX8 yX8_clearTold yX8_clearTold ∈ wT := (wTi 21 rfl rfl)
set_option maxRecDepth 100000 in
theorem lk8_79 : LV RX8 79 yX8_clearTold mX8_clearTold 0 8 := ⟨LV5 (wTi 817 rfl rfl) im_X8_clearTold se_X8_clearTold ini_8 co_X8_clearTold, ⟨ne_9.1, ne_9.2, pd_1⟩, _, _, rfl⟩
set_option maxRecDepth 100000 in
theorem co_X8_tellsBeast : Cond.code yX8_tellsBeast cX8_tellsBeast 4 none ∈ wT := (wTi 828 rfl rfl)
set_option maxRecDepth 100000 in
theorem im_X8_tellsBeast : Cond.instanceMethod yX8_tellsBeast ∈ wT := (wTi 827 rfl rfl)
set_option maxRecDepth 100000 in
theorem se_X8_tellsBeast : Cond.selects RX8 yX8_tellsBeast yX8_tellsBeast ∈ wT := (wTi 23 rfl rfl)
set_option maxRecDepth 100000 in
theorem lk8_86 : LV RX8 86 yX8_tellsBeast mX8_tellsBeast 3 8 := ⟨LV5 (wTi 825 rfl rfl) im_X8_tellsBeast se_X8_tellsBeast ini_8 co_X8_tellsBeast, ⟨ne_9.1, ne_9.2, pd_13⟩, _, _, rfl⟩
end
