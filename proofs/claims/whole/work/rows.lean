section
-- ===== PART A: goes FIRST, ahead of the names: the tables' words, and 'selects' of the private methods out of them =====
/-- a private method of a class that the tables say can be made, by its rows of tables_1 -/
def lw_okq (q : MethodName × Nat) : Prop := (q.1.cls ≠ "java/lang/invoke/MethodHandle" ∧ q.1.cls ≠ "java/lang/invoke/VarHandle") ∧ Cond.instantiable q.1.cls q.2 ∈ tables_1 ∧ Cond.privateMethod q.1 ∈ tables_1 ∧ Cond.instanceMethod q.1 ∈ tables_1
theorem lw_p0 : lw_okq (⟨"java/lang/Throwable", "fillInStackTrace", "(I)Ljava/lang/Throwable;"⟩, 6) := ⟨⟨by decide +kernel, by decide +kernel⟩, List.mem_of_getElem? (i := 326) (by decide +kernel), List.mem_of_getElem? (i := 324) (by decide +kernel), List.mem_of_getElem? (i := 325) (by decide +kernel)⟩
theorem lw_p1 : lw_okq (⟨"CoapDesk$Reader", "parseHead", "(LCoapDesk$Bytes;LCoapDesk$Message;)I"⟩, 2) := ⟨⟨by decide +kernel, by decide +kernel⟩, List.mem_of_getElem? (i := 47) (by decide +kernel), List.mem_of_getElem? (i := 500) (by decide +kernel), List.mem_of_getElem? (i := 501) (by decide +kernel)⟩
theorem lw_p2 : lw_okq (⟨"CoapDesk$Reader", "parseOption", "(LCoapDesk$Bytes;LCoapDesk$Message;)Z"⟩, 2) := ⟨⟨by decide +kernel, by decide +kernel⟩, List.mem_of_getElem? (i := 47) (by decide +kernel), List.mem_of_getElem? (i := 507) (by decide +kernel), List.mem_of_getElem? (i := 508) (by decide +kernel)⟩
theorem lw_p3 : lw_okq (⟨"CoapDesk$Reader", "told", "(LCoapDesk$Bytes;I)I"⟩, 2) := ⟨⟨by decide +kernel, by decide +kernel⟩, List.mem_of_getElem? (i := 47) (by decide +kernel), List.mem_of_getElem? (i := 511) (by decide +kernel), List.mem_of_getElem? (i := 512) (by decide +kernel)⟩
theorem lw_p4 : lw_okq (⟨"CoapDesk$Reader", "parsePayload", "(LCoapDesk$Bytes;LCoapDesk$Message;)Z"⟩, 2) := ⟨⟨by decide +kernel, by decide +kernel⟩, List.mem_of_getElem? (i := 47) (by decide +kernel), List.mem_of_getElem? (i := 517) (by decide +kernel), List.mem_of_getElem? (i := 518) (by decide +kernel)⟩
theorem lw_p5 : lw_okq (⟨"CoapDesk$Server", "sendReset", "(ILCoapDesk$Bytes;)I"⟩, 8) := ⟨⟨by decide +kernel, by decide +kernel⟩, List.mem_of_getElem? (i := 60) (by decide +kernel), List.mem_of_getElem? (i := 584) (by decide +kernel), List.mem_of_getElem? (i := 585) (by decide +kernel)⟩
theorem lw_p6 : lw_okq (⟨"CoapDesk$Server", "beginAnswer", "(LCoapDesk$Message;)V"⟩, 8) := ⟨⟨by decide +kernel, by decide +kernel⟩, List.mem_of_getElem? (i := 60) (by decide +kernel), List.mem_of_getElem? (i := 599) (by decide +kernel), List.mem_of_getElem? (i := 600) (by decide +kernel)⟩
theorem lw_p7 : lw_okq (⟨"CoapDesk$Server", "decide", "(LCoapDesk$Message;)I"⟩, 8) := ⟨⟨by decide +kernel, by decide +kernel⟩, List.mem_of_getElem? (i := 60) (by decide +kernel), List.mem_of_getElem? (i := 605) (by decide +kernel), List.mem_of_getElem? (i := 606) (by decide +kernel)⟩
theorem lw_p8 : lw_okq (⟨"CoapDesk$Server", "takePath", "(LCoapDesk$Message;)V"⟩, 8) := ⟨⟨by decide +kernel, by decide +kernel⟩, List.mem_of_getElem? (i := 60) (by decide +kernel), List.mem_of_getElem? (i := 619) (by decide +kernel), List.mem_of_getElem? (i := 620) (by decide +kernel)⟩
theorem lw_p9 : lw_okq (⟨"CoapDesk$Server", "answerGet", "(LCoapDesk$Message;LCoapDesk$Resource;)I"⟩, 8) := ⟨⟨by decide +kernel, by decide +kernel⟩, List.mem_of_getElem? (i := 60) (by decide +kernel), List.mem_of_getElem? (i := 633) (by decide +kernel), List.mem_of_getElem? (i := 634) (by decide +kernel)⟩
theorem lw_p10 : lw_okq (⟨"CoapDesk$Server", "addNumber", "(III)V"⟩, 8) := ⟨⟨by decide +kernel, by decide +kernel⟩, List.mem_of_getElem? (i := 60) (by decide +kernel), List.mem_of_getElem? (i := 645) (by decide +kernel), List.mem_of_getElem? (i := 646) (by decide +kernel)⟩
theorem lw_p11 : lw_okq (⟨"CoapDesk$Server", "answerBlock", "(ILCoapDesk$Resource;)I"⟩, 8) := ⟨⟨by decide +kernel, by decide +kernel⟩, List.mem_of_getElem? (i := 60) (by decide +kernel), List.mem_of_getElem? (i := 654) (by decide +kernel), List.mem_of_getElem? (i := 655) (by decide +kernel)⟩
theorem lw_p12 : lw_okq (⟨"CoapDesk$Server", "answerPost", "(LCoapDesk$Message;LCoapDesk$Resource;)I"⟩, 8) := ⟨⟨by decide +kernel, by decide +kernel⟩, List.mem_of_getElem? (i := 60) (by decide +kernel), List.mem_of_getElem? (i := 671) (by decide +kernel), List.mem_of_getElem? (i := 672) (by decide +kernel)⟩
theorem lw_p13 : lw_okq (⟨"CoapDesk$Server", "change", "(LCoapDesk$Resource;LCoapDesk$Bytes;I)I"⟩, 8) := ⟨⟨by decide +kernel, by decide +kernel⟩, List.mem_of_getElem? (i := 60) (by decide +kernel), List.mem_of_getElem? (i := 676) (by decide +kernel), List.mem_of_getElem? (i := 677) (by decide +kernel)⟩
theorem lw_p14 : lw_okq (⟨"CoapDesk$Server", "answerPut", "(LCoapDesk$Message;LCoapDesk$Resource;)I"⟩, 8) := ⟨⟨by decide +kernel, by decide +kernel⟩, List.mem_of_getElem? (i := 60) (by decide +kernel), List.mem_of_getElem? (i := 685) (by decide +kernel), List.mem_of_getElem? (i := 686) (by decide +kernel)⟩
theorem lw_p15 : lw_okq (⟨"CoapDesk$Server", "answerDelete", "(LCoapDesk$Resource;)I"⟩, 8) := ⟨⟨by decide +kernel, by decide +kernel⟩, List.mem_of_getElem? (i := 60) (by decide +kernel), List.mem_of_getElem? (i := 695) (by decide +kernel), List.mem_of_getElem? (i := 696) (by decide +kernel)⟩
def lw_privs_1 : List (MethodName × Nat) := [(⟨"java/lang/Throwable", "fillInStackTrace", "(I)Ljava/lang/Throwable;"⟩, 6), (⟨"CoapDesk$Reader", "parseHead", "(LCoapDesk$Bytes;LCoapDesk$Message;)I"⟩, 2), (⟨"CoapDesk$Reader", "parseOption", "(LCoapDesk$Bytes;LCoapDesk$Message;)Z"⟩, 2), (⟨"CoapDesk$Reader", "told", "(LCoapDesk$Bytes;I)I"⟩, 2), (⟨"CoapDesk$Reader", "parsePayload", "(LCoapDesk$Bytes;LCoapDesk$Message;)Z"⟩, 2), (⟨"CoapDesk$Server", "sendReset", "(ILCoapDesk$Bytes;)I"⟩, 8), (⟨"CoapDesk$Server", "beginAnswer", "(LCoapDesk$Message;)V"⟩, 8), (⟨"CoapDesk$Server", "decide", "(LCoapDesk$Message;)I"⟩, 8), (⟨"CoapDesk$Server", "takePath", "(LCoapDesk$Message;)V"⟩, 8), (⟨"CoapDesk$Server", "answerGet", "(LCoapDesk$Message;LCoapDesk$Resource;)I"⟩, 8), (⟨"CoapDesk$Server", "addNumber", "(III)V"⟩, 8), (⟨"CoapDesk$Server", "answerBlock", "(ILCoapDesk$Resource;)I"⟩, 8), (⟨"CoapDesk$Server", "answerPost", "(LCoapDesk$Message;LCoapDesk$Resource;)I"⟩, 8), (⟨"CoapDesk$Server", "change", "(LCoapDesk$Resource;LCoapDesk$Bytes;I)I"⟩, 8), (⟨"CoapDesk$Server", "answerPut", "(LCoapDesk$Message;LCoapDesk$Resource;)I"⟩, 8), (⟨"CoapDesk$Server", "answerDelete", "(LCoapDesk$Resource;)I"⟩, 8)]
theorem lw_r1 : ∀ q ∈ lw_privs_1, lw_okq q := List.forall_mem_cons.mpr ⟨lw_p0, List.forall_mem_cons.mpr ⟨lw_p1, List.forall_mem_cons.mpr ⟨lw_p2, List.forall_mem_cons.mpr ⟨lw_p3, List.forall_mem_cons.mpr ⟨lw_p4, List.forall_mem_cons.mpr ⟨lw_p5, List.forall_mem_cons.mpr ⟨lw_p6, List.forall_mem_cons.mpr ⟨lw_p7, List.forall_mem_cons.mpr ⟨lw_p8, List.forall_mem_cons.mpr ⟨lw_p9, List.forall_mem_cons.mpr ⟨lw_p10, List.forall_mem_cons.mpr ⟨lw_p11, List.forall_mem_cons.mpr ⟨lw_p12, List.forall_mem_cons.mpr ⟨lw_p13, List.forall_mem_cons.mpr ⟨lw_p14, List.forall_mem_cons.mpr ⟨lw_p15, fun _ h => absurd h List.not_mem_nil⟩⟩⟩⟩⟩⟩⟩⟩⟩⟩⟩⟩⟩⟩⟩⟩
theorem lw_p16 : lw_okq (⟨"CoapDeskModel", "refuses", "(I)Z"⟩, 32) := ⟨⟨by decide +kernel, by decide +kernel⟩, List.mem_of_getElem? (i := 723) (by decide +kernel), List.mem_of_getElem? (i := 838) (by decide +kernel), List.mem_of_getElem? (i := 839) (by decide +kernel)⟩
theorem lw_p17 : lw_okq (⟨"CoapDeskModel", "begins", "(IIII)V"⟩, 32) := ⟨⟨by decide +kernel, by decide +kernel⟩, List.mem_of_getElem? (i := 723) (by decide +kernel), List.mem_of_getElem? (i := 842) (by decide +kernel), List.mem_of_getElem? (i := 843) (by decide +kernel)⟩
theorem lw_p18 : lw_okq (⟨"CoapDeskModel", "place", "(II)I"⟩, 32) := ⟨⟨by decide +kernel, by decide +kernel⟩, List.mem_of_getElem? (i := 723) (by decide +kernel), List.mem_of_getElem? (i := 854) (by decide +kernel), List.mem_of_getElem? (i := 855) (by decide +kernel)⟩
theorem lw_p19 : lw_okq (⟨"CoapDeskModel", "longer", "(II)V"⟩, 32) := ⟨⟨by decide +kernel, by decide +kernel⟩, List.mem_of_getElem? (i := 723) (by decide +kernel), List.mem_of_getElem? (i := 858) (by decide +kernel), List.mem_of_getElem? (i := 859) (by decide +kernel)⟩
theorem lw_p20 : lw_okq (⟨"CoapDeskModel", "size", "(I)I"⟩, 32) := ⟨⟨by decide +kernel, by decide +kernel⟩, List.mem_of_getElem? (i := 723) (by decide +kernel), List.mem_of_getElem? (i := 874) (by decide +kernel), List.mem_of_getElem? (i := 875) (by decide +kernel)⟩
theorem lw_p21 : lw_okq (⟨"CoapDeskModel", "writes", "(I)V"⟩, 32) := ⟨⟨by decide +kernel, by decide +kernel⟩, List.mem_of_getElem? (i := 723) (by decide +kernel), List.mem_of_getElem? (i := 881) (by decide +kernel), List.mem_of_getElem? (i := 882) (by decide +kernel)⟩
theorem lw_p22 : lw_okq (⟨"CoapDeskModel", "put", "(I)V"⟩, 32) := ⟨⟨by decide +kernel, by decide +kernel⟩, List.mem_of_getElem? (i := 723) (by decide +kernel), List.mem_of_getElem? (i := 885) (by decide +kernel), List.mem_of_getElem? (i := 886) (by decide +kernel)⟩
theorem lw_p23 : lw_okq (⟨"CoapDeskModel", "extra", "(I)V"⟩, 32) := ⟨⟨by decide +kernel, by decide +kernel⟩, List.mem_of_getElem? (i := 723) (by decide +kernel), List.mem_of_getElem? (i := 892) (by decide +kernel), List.mem_of_getElem? (i := 893) (by decide +kernel)⟩
theorem lw_p24 : lw_okq (⟨"CoapDeskModel", "fault", "()I"⟩, 32) := ⟨⟨by decide +kernel, by decide +kernel⟩, List.mem_of_getElem? (i := 723) (by decide +kernel), List.mem_of_getElem? (i := 908) (by decide +kernel), List.mem_of_getElem? (i := 909) (by decide +kernel)⟩
theorem lw_p25 : lw_okq (⟨"CoapDeskModel", "told", "(II)I"⟩, 32) := ⟨⟨by decide +kernel, by decide +kernel⟩, List.mem_of_getElem? (i := 723) (by decide +kernel), List.mem_of_getElem? (i := 912) (by decide +kernel), List.mem_of_getElem? (i := 913) (by decide +kernel)⟩
theorem lw_p26 : lw_okq (⟨"CoapDeskModel", "copies", "(II)V"⟩, 32) := ⟨⟨by decide +kernel, by decide +kernel⟩, List.mem_of_getElem? (i := 723) (by decide +kernel), List.mem_of_getElem? (i := 916) (by decide +kernel), List.mem_of_getElem? (i := 917) (by decide +kernel)⟩
theorem lw_p27 : lw_okq (⟨"CoapDeskModel", "whole", "(I)J"⟩, 32) := ⟨⟨by decide +kernel, by decide +kernel⟩, List.mem_of_getElem? (i := 723) (by decide +kernel), List.mem_of_getElem? (i := 932) (by decide +kernel), List.mem_of_getElem? (i := 933) (by decide +kernel)⟩
theorem lw_p28 : lw_okq (⟨"CoapDeskModel", "nothing", "()I"⟩, 32) := ⟨⟨by decide +kernel, by decide +kernel⟩, List.mem_of_getElem? (i := 723) (by decide +kernel), List.mem_of_getElem? (i := 942) (by decide +kernel), List.mem_of_getElem? (i := 943) (by decide +kernel)⟩
theorem lw_p29 : lw_okq (⟨"CoapDeskModel", "resets", "()I"⟩, 32) := ⟨⟨by decide +kernel, by decide +kernel⟩, List.mem_of_getElem? (i := 723) (by decide +kernel), List.mem_of_getElem? (i := 946) (by decide +kernel), List.mem_of_getElem? (i := 947) (by decide +kernel)⟩
theorem lw_p30 : lw_okq (⟨"CoapDeskModel", "answer", "()I"⟩, 32) := ⟨⟨by decide +kernel, by decide +kernel⟩, List.mem_of_getElem? (i := 723) (by decide +kernel), List.mem_of_getElem? (i := 950) (by decide +kernel), List.mem_of_getElem? (i := 951) (by decide +kernel)⟩
theorem lw_p31 : lw_okq (⟨"CoapDeskModel", "isBad", "()Z"⟩, 32) := ⟨⟨by decide +kernel, by decide +kernel⟩, List.mem_of_getElem? (i := 723) (by decide +kernel), List.mem_of_getElem? (i := 954) (by decide +kernel), List.mem_of_getElem? (i := 955) (by decide +kernel)⟩
def lw_privs_2 : List (MethodName × Nat) := [(⟨"CoapDeskModel", "refuses", "(I)Z"⟩, 32), (⟨"CoapDeskModel", "begins", "(IIII)V"⟩, 32), (⟨"CoapDeskModel", "place", "(II)I"⟩, 32), (⟨"CoapDeskModel", "longer", "(II)V"⟩, 32), (⟨"CoapDeskModel", "size", "(I)I"⟩, 32), (⟨"CoapDeskModel", "writes", "(I)V"⟩, 32), (⟨"CoapDeskModel", "put", "(I)V"⟩, 32), (⟨"CoapDeskModel", "extra", "(I)V"⟩, 32), (⟨"CoapDeskModel", "fault", "()I"⟩, 32), (⟨"CoapDeskModel", "told", "(II)I"⟩, 32), (⟨"CoapDeskModel", "copies", "(II)V"⟩, 32), (⟨"CoapDeskModel", "whole", "(I)J"⟩, 32), (⟨"CoapDeskModel", "nothing", "()I"⟩, 32), (⟨"CoapDeskModel", "resets", "()I"⟩, 32), (⟨"CoapDeskModel", "answer", "()I"⟩, 32), (⟨"CoapDeskModel", "isBad", "()Z"⟩, 32)]
theorem lw_r2 : ∀ q ∈ lw_privs_2, lw_okq q := List.forall_mem_cons.mpr ⟨lw_p16, List.forall_mem_cons.mpr ⟨lw_p17, List.forall_mem_cons.mpr ⟨lw_p18, List.forall_mem_cons.mpr ⟨lw_p19, List.forall_mem_cons.mpr ⟨lw_p20, List.forall_mem_cons.mpr ⟨lw_p21, List.forall_mem_cons.mpr ⟨lw_p22, List.forall_mem_cons.mpr ⟨lw_p23, List.forall_mem_cons.mpr ⟨lw_p24, List.forall_mem_cons.mpr ⟨lw_p25, List.forall_mem_cons.mpr ⟨lw_p26, List.forall_mem_cons.mpr ⟨lw_p27, List.forall_mem_cons.mpr ⟨lw_p28, List.forall_mem_cons.mpr ⟨lw_p29, List.forall_mem_cons.mpr ⟨lw_p30, List.forall_mem_cons.mpr ⟨lw_p31, fun _ h => absurd h List.not_mem_nil⟩⟩⟩⟩⟩⟩⟩⟩⟩⟩⟩⟩⟩⟩⟩⟩
theorem lw_p32 : lw_okq (⟨"CoapDeskModel", "found", "()I"⟩, 32) := ⟨⟨by decide +kernel, by decide +kernel⟩, List.mem_of_getElem? (i := 723) (by decide +kernel), List.mem_of_getElem? (i := 961) (by decide +kernel), List.mem_of_getElem? (i := 962) (by decide +kernel)⟩
theorem lw_p33 : lw_okq (⟨"CoapDeskModel", "get", "(I)I"⟩, 32) := ⟨⟨by decide +kernel, by decide +kernel⟩, List.mem_of_getElem? (i := 723) (by decide +kernel), List.mem_of_getElem? (i := 965) (by decide +kernel), List.mem_of_getElem? (i := 966) (by decide +kernel)⟩
theorem lw_p34 : lw_okq (⟨"CoapDeskModel", "isValue", "(III)Z"⟩, 32) := ⟨⟨by decide +kernel, by decide +kernel⟩, List.mem_of_getElem? (i := 723) (by decide +kernel), List.mem_of_getElem? (i := 969) (by decide +kernel), List.mem_of_getElem? (i := 970) (by decide +kernel)⟩
theorem lw_p35 : lw_okq (⟨"CoapDeskModel", "tells", "(I)V"⟩, 32) := ⟨⟨by decide +kernel, by decide +kernel⟩, List.mem_of_getElem? (i := 723) (by decide +kernel), List.mem_of_getElem? (i := 973) (by decide +kernel), List.mem_of_getElem? (i := 974) (by decide +kernel)⟩
theorem lw_p36 : lw_okq (⟨"CoapDeskModel", "sends", "(III)V"⟩, 32) := ⟨⟨by decide +kernel, by decide +kernel⟩, List.mem_of_getElem? (i := 723) (by decide +kernel), List.mem_of_getElem? (i := 977) (by decide +kernel), List.mem_of_getElem? (i := 978) (by decide +kernel)⟩
theorem lw_p37 : lw_okq (⟨"CoapDeskModel", "goes", "(I)V"⟩, 32) := ⟨⟨by decide +kernel, by decide +kernel⟩, List.mem_of_getElem? (i := 723) (by decide +kernel), List.mem_of_getElem? (i := 982) (by decide +kernel), List.mem_of_getElem? (i := 983) (by decide +kernel)⟩
theorem lw_p38 : lw_okq (⟨"CoapDeskModel", "makes", "()I"⟩, 32) := ⟨⟨by decide +kernel, by decide +kernel⟩, List.mem_of_getElem? (i := 723) (by decide +kernel), List.mem_of_getElem? (i := 986) (by decide +kernel), List.mem_of_getElem? (i := 987) (by decide +kernel)⟩
def lw_privs_3 : List (MethodName × Nat) := [(⟨"CoapDeskModel", "found", "()I"⟩, 32), (⟨"CoapDeskModel", "get", "(I)I"⟩, 32), (⟨"CoapDeskModel", "isValue", "(III)Z"⟩, 32), (⟨"CoapDeskModel", "tells", "(I)V"⟩, 32), (⟨"CoapDeskModel", "sends", "(III)V"⟩, 32), (⟨"CoapDeskModel", "goes", "(I)V"⟩, 32), (⟨"CoapDeskModel", "makes", "()I"⟩, 32)]
theorem lw_r3 : ∀ q ∈ lw_privs_3, lw_okq q := List.forall_mem_cons.mpr ⟨lw_p32, List.forall_mem_cons.mpr ⟨lw_p33, List.forall_mem_cons.mpr ⟨lw_p34, List.forall_mem_cons.mpr ⟨lw_p35, List.forall_mem_cons.mpr ⟨lw_p36, List.forall_mem_cons.mpr ⟨lw_p37, List.forall_mem_cons.mpr ⟨lw_p38, fun _ h => absurd h List.not_mem_nil⟩⟩⟩⟩⟩⟩⟩
def lw_privs : List (MethodName × Nat) := lw_privs_1 ++ (lw_privs_2 ++ (lw_privs_3))
def lw_tbl : List Cond := k2_sels lw_privs ++ tables_1
theorem lw_privs_ok : ∀ q ∈ lw_privs, lw_okq q := by
  show ∀ q ∈ lw_privs_1 ++ (lw_privs_2 ++ (lw_privs_3)), lw_okq q
  exact List.forall_mem_append.mpr ⟨lw_r1, List.forall_mem_append.mpr ⟨lw_r2, lw_r3⟩⟩
-- ===== end of PART A; then your names; then what follows =====
end
section
/-! ===== BEGIN words of one list among another's, by their places ===== -/
theorem goodIn_r {big : List Cond} (ws : List Cond) (ps : List Nat) (hp : ws = ps.filterMap (fun i => big[i]?)) (h : ws.all goodWord = true) : GoodIn big ws := by
  intro w hw
  have h1 := List.all_eq_true.mp h w hw
  rw [hp] at hw
  obtain ⟨i, -, hi⟩ := List.mem_filterMap.mp hw
  have hm : w ∈ big := by first | exact List.mem_of_getElem? hi | exact List.getElem?_mem hi
  exact ⟨hm, good_of_word h1⟩
theorem goodIn_app {big a b : List Cond} (ha : GoodIn big a) (hb : GoodIn big b) : GoodIn big (a ++ b) := fun w h => (List.mem_append.mp h).elim (ha w) (hb w)
theorem goodIn_ca {big a b : List Cond} {c : Cond} (ha : GoodIn big (c :: a)) (hb : GoodIn big b) : GoodIn big (c :: (a ++ b)) := fun w h => (List.mem_cons.mp h).elim (fun e => ha w (List.mem_cons.mpr (Or.inl e))) (fun h => (List.mem_append.mp h).elim (fun h => ha w (List.mem_cons.mpr (Or.inr h))) (hb w))
theorem goodIn_sub {big ws : List Cond} (hm : ∀ w ∈ ws, w ∈ big) (h : ws.all goodWord = true) : GoodIn big ws := fun w hw => ⟨hm w hw, good_of_word (List.all_eq_true.mp h w hw)⟩
/-! ===== END ===== -/

/-! ===== BEGIN exceptions that leave a method, and their catching by the caller (launches without stack traces) ===== -/
section VXA
/-! The laws vx_back, vx_callV, vx_callS, vx_callSW, vx_throw0, vx_throwS follow proofs of the library, with one case more: JvmDerived/Free/Laws.lean (Back.of_free), Shelf42/LK1.lean (callV, callS), Shelf/KitTraced.lean (throwNew0V, throwNewS). -/
def vx_T (XC : String → State → State → Prop) (st : State) (q : Addr) (t : State) (mc ms : Nat) (free : Addr → Prop) : Prop :=
  ∃ (E : String) (ce : Cell) (L : List Loc), XC E st t ∧ t.heap[q]? = some ce ∧ ce.vm = .none ∧ st.vm.findClass E = some ce.cls ∧ st.WarmedH t.vm ∧ st.sameButNew ({ t with vm := st.vm } : State) L mc ms ∧ ∀ z ∈ L, free z.base
def vx_Q (Qc : Array Value → State → Outcome → State → Prop) (XC : String → State → State → Prop) (mc ms : Nat) (free : Addr → Prop) : Array Value → State → Outcome → State → Prop := fun a st o t =>
  (Qc a st o t ∧ ∃ L, FrameEnd st o t L mc ms ∧ ∀ q ∈ L, free q.base) ∨ ∃ q, o = .threw q ∧ vx_T XC st q t mc ms free
def vx_Met (l : Launch) (y : MethodName) (ws : List Cond) (rm : Room) (Pc : Array Value → State → Prop) (Qc : Array Value → State → Outcome → State → Prop) (XC : String → State → State → Prop) (mc ms : Nat) (free : Addr → Prop) : Prop :=
  MetFree l y (headSpec ws rm) Pc (fun _ _ _ _ _ => True) (vx_Q Qc XC mc ms free)
def vx_Post (XC : String → State → State → Prop) (mc ms : Nat) (free : Addr → Prop) : Pt → Array Value → Addr → Pt → Prop := fun A a q B =>
  ∃ (g : JFrame) (mk : MethodId) (t : State) (L : List Loc) (E : String) (ce : Cell), B.U.heap = t.heap ∧ B.U.vm = t.vm ∧ XC E (A.U.calling g mk a) t ∧ t.heap[q]? = some ce ∧ ce.vm = .none ∧ A.U.vm.findClass E = some ce.cls ∧ B.locs = A.locs ++ L ∧ (∀ z ∈ L, free z.base) ∧ B.cells = A.cells + mc ∧ B.slots = A.slots + ms
def vx_Back (l : Launch) (R : Room) (p : Program) (e : Env) (below : List Frame) (s : State) (sargs : Array Value) (y : MethodName) (len W9 : Nat)
    (Pre : Pt → Array Value → Prop) (Post : Pt → Array Value → Option Value → Pt → Prop) (PostX : Pt → Array Value → Addr → Pt → Prop) : Prop :=
  ∀ (m : MethodId) (meth : Method) (c : Code) (A : Pt) (g : JFrame) (ig : Instr) (mk : MethodId) (a : Array Value),
    Stand p l e R s m sargs below meth c A.U A.locs A.cells A.slots → g.method = m → g.locals.size = c.maxLocals → decode c.code g.pc = .ok (ig, len) →
    2 * g.monitorRoom + (g.stack.map fun v => v.category).sum ≤ W9 → A.U.methodNamed? y = some mk → Pre A a →
    (∃ (v : Option Value) (B : Pt), Stand p l e R s m sargs below meth c B.U B.locs B.cells B.slots ∧ Post A a v B ∧
      Steps p.tables e below (doInvoke e (A.U.setTop g) [] mk a).1 (B.U.setTop { g with pc := g.pc + len, stack := v.toList ++ g.stack })) ∨
    (∃ (q : Addr) (B : Pt), Stand p l e R s m sargs below meth c B.U B.locs B.cells B.slots ∧ PostX A a q B ∧
      Steps p.tables e below (doInvoke e (A.U.setTop g) [] mk a).1 ((B.U.setTop g).pushFrame (.throwing q)))
section Payer
variable {l : Launch} {R : Room} {p : Program} {e : Env} {below : List Frame} {s : State} {sargs : Array Value} {y : MethodName} {len W9 : Nat}
theorem vx_back {ws : List Cond} {rm : Room} {Pc : Array Value → State → Prop} {Qc : Array Value → State → Outcome → State → Prop} {XC : String → State → State → Prop} {mc ms : Nat} {free : Addr → Prop} {bytes : ByteArray} {maxL : Nat} {ret : Option FieldType}
    (hM : vx_Met l y ws rm Pc Qc XC mc ms free) (hblind : FrameBlind Pc) (hrc : rm.cells = mc) (hrs : rm.slots = ms)
    (hframes : rm.frames + 1 ≤ R.frames) (hlocals : W9 + (maxL + 11) + rm.locals ≤ R.locals)
    (hws : ∀ w ∈ ws, ∀ a' U, s.WarmedH U.vm → w.before a' U = true) (hcode : Cond.code y bytes maxL ret ∈ ws) (hinit : ∀ a' U, s.WarmedH U.vm → (Cond.initialized y.cls).before a' U = true) :
    vx_Back l R p e below s sargs y len W9 (PreOf R mc ms Pc) (PostOf Qc mc ms free) (vx_Post XC mc ms free) := by
  intro m meth c A g ig mk a X hg hsize hdg hW hn hp
  have h1 : (headSpec ws rm).pre.before a A.U = true := atoms_intro fun w hw => hws w hw _ _ X.warmed
  have h2 : (Cond.code y bytes maxL ret).before a A.U = true := hws _ hcode _ _ X.warmed
  have h3 : (Cond.initialized y.cls).before a A.U = true := hinit _ _ X.warmed
  have h4 : A.cells + (headSpec ws rm).room.cells ≤ R.cells := by rw [show (headSpec ws rm).room.cells = mc from hrc]; exact hp.1
  have h5 : A.slots + (headSpec ws rm).room.slots ≤ R.slots := by rw [show (headSpec ws rm).room.slots = ms from hrs]; exact hp.2.1
  have hPc : Pc a (A.U.calling g mk a) := hblind _ _ _ _ hp.2.2
  obtain ⟨U, Ls, c0, s0⟩ := A
  dsimp only [Pt.U, Pt.locs, Pt.cells, Pt.slots] at h1 h2 h3 h4 h5 X hn hPc ⊢
  obtain ⟨methY, cY, hmY, hcY, -, hlY, -, -, -, -⟩ := Cond.code_spec hn h2
  obtain ⟨kY, hkY, -⟩ := className_of_methodNamed hn
  have hinitY : kY.init = .initialized := Cond.initialized_spec (findClass_of_methodNamed hn) hkY h3
  have h : At U g.method c below := by rw [hg]; exact X.here
  have hlocals9 : W9 + (maxL + 11) + (headSpec ws rm).room.locals ≤ R.locals := hlocals
  have happ : (headSpec ws rm).appliesLoose y e.platform (U.calling g mk a) = true :=
    Spec.appliesLoose_calling (g := g) h hdg hn hkY hinitY
      (X.room_calling (g := g) (R' := (headSpec ws rm).room) hsize hmY hcY hframes (by rw [hlY]; omega) h4 h5) h1
  obtain ⟨mid, hmid⟩ := h.above
  have hfr : (U.setTop g).frames = (.java g :: mid) ++ below := by rw [State.frames_setTop' g h.top, hmid]; rfl
  obtain ⟨o, s₂, hsteps, -, hend, hq⟩ := Steps.callFree hM p X.admits X.cas X.clock (acts := []) hfr happ hPc trivial
  have hq' : vx_Q Qc XC mc ms free a (U.calling g mk a) o s₂ := hq
  rw [State.frames_setTop' g h.top] at hend
  obtain ⟨g₀, hg0⟩ := Option.isSome_iff_exists.mp h.top
  obtain ⟨r, hr⟩ := State.topJava?_eq_some.mp hg0
  have hr' : (({ U with heap := s₂.heap, slotsUsed := s₂.slotsUsed } : State).setVm s₂.vm).frames = .java g₀ :: r := hr
  rcases hq' with ⟨hqc, L, hfe, hL⟩ | ⟨q, rfl, E, ce, L, hx, hce, hcv, hcl, hW₂, hsm, hL⟩
  · obtain ⟨⟨v, rfl⟩, hW₂, e2, q2, q3, q4, q5, q6⟩ := id hfe
    have e3 : s₂ = ({ (U.calling g mk a).setFrames s₂.frames with heap := s₂.heap, slotsUsed := s₂.slotsUsed } : State).setVm s₂.vm := by
      have : s₂ = ({ s₂ with vm := (U.calling g mk a).vm } : State).setVm s₂.vm := rfl
      rw [e2] at this
      exact this
    obtain ⟨c₂, i₂, len₂, hc₂, hd₂, hf₂⟩ := hend
    have hW' : U.WarmedH s₂.vm := hW₂
    have hcc : c₂ = c := by
      have h1 : s₂.code? g.method = U.code? g.method := by
        rw [State.code?_eq, State.code?_eq, hW'.alike.method?]
      exact Option.some.inj (hc₂.symm.trans (h1.trans h.code))
    subst hcc
    have hlen : len₂ = len := by rw [hdg] at hd₂; cases hd₂; rfl
    subst hlen
    have hs₂ : s₂ = (({ U with heap := s₂.heap, slotsUsed := s₂.slotsUsed } : State).setVm s₂.vm).setTop { g with pc := g.pc + len₂, stack := v.toList ++ g.stack } := by
      refine e3.trans ?_
      rw [hf₂, State.calling_eq h.top, State.setFrames_setFrames, State.setTop_of_frames _ hr', hr]
      rfl
    have hsame : U.sameButNew ({ U with heap := s₂.heap, slotsUsed := s₂.slotsUsed } : State) L mc ms := by
      refine ⟨?_, q2, q3, q4, q5, q6⟩
      obtain ⟨t, ht, -⟩ := State.frames_cons hr
      show ({ U with heap := s₂.heap, slotsUsed := s₂.slotsUsed } : State) = { U.setFrames U.frames with heap := s₂.heap, slotsUsed := s₂.slotsUsed }
      rw [State.setFrames_self ht]
    subst hg
    refine Or.inl ⟨v, ⟨(({ U with heap := s₂.heap, slotsUsed := s₂.slotsUsed } : State).setVm s₂.vm), Ls ++ L, c0 + mc, s0 + ms⟩,
      ⟨X.admits, X.cas, X.clock, X.frames, X.room, X.hears, X.method, X.code, (X.here.setHeapUsed s₂.heap s₂.slotsUsed).setVm hW'.alike, X.tail, State.WarmedH.trans X.warmed hW', X.limits, X.bytes, X.same.trans (hsame.setVm s.vm)⟩,
      ⟨g, mk, s₂, L, rfl, rfl, hqc, rfl, hL, rfl, rfl⟩, ?_⟩
    show Steps p.tables e below _ ((({ U with heap := s₂.heap, slotsUsed := s₂.slotsUsed } : State).setVm s₂.vm).setTop { g with pc := g.pc + len₂, stack := v.toList ++ g.stack })
    rw [← hs₂]
    exact hsteps
  · obtain ⟨e2, q2, q3, q4, q5, q6⟩ := id hsm
    have e3 : s₂ = ({ (U.calling g mk a).setFrames s₂.frames with heap := s₂.heap, slotsUsed := s₂.slotsUsed } : State).setVm s₂.vm := by
      have : s₂ = ({ s₂ with vm := (U.calling g mk a).vm } : State).setVm s₂.vm := rfl
      rw [e2] at this
      exact this
    have hf₂ : s₂.frames = .throwing q :: .java g :: U.frames.tail := hend
    have hW' : U.WarmedH s₂.vm := hW₂
    have hs₂ : s₂ = ((({ U with heap := s₂.heap, slotsUsed := s₂.slotsUsed } : State).setVm s₂.vm).setTop g).pushFrame (.throwing q) := by
      refine e3.trans ?_
      rw [hf₂, State.calling_eq h.top, State.setFrames_setFrames, State.pushFrame, State.frames_setTop _ hr', State.setTop_of_frames _ hr', State.setFrames_setFrames, hr]
      rfl
    have hsame : U.sameButNew ({ U with heap := s₂.heap, slotsUsed := s₂.slotsUsed } : State) L mc ms := by
      refine ⟨?_, q2, q3, q4, q5, q6⟩
      obtain ⟨t, ht, -⟩ := State.frames_cons hr
      show ({ U with heap := s₂.heap, slotsUsed := s₂.slotsUsed } : State) = { U.setFrames U.frames with heap := s₂.heap, slotsUsed := s₂.slotsUsed }
      rw [State.setFrames_self ht]
    subst hg
    refine Or.inr ⟨q, ⟨(({ U with heap := s₂.heap, slotsUsed := s₂.slotsUsed } : State).setVm s₂.vm), Ls ++ L, c0 + mc, s0 + ms⟩,
      ⟨X.admits, X.cas, X.clock, X.frames, X.room, X.hears, X.method, X.code, (X.here.setHeapUsed s₂.heap s₂.slotsUsed).setVm hW'.alike, X.tail, State.WarmedH.trans X.warmed hW', X.limits, X.bytes, X.same.trans (hsame.setVm s.vm)⟩,
      ⟨g, mk, s₂, L, E, ce, rfl, rfl, hx, hce, hcv, hcl, rfl, hL, rfl, rfl⟩, ?_⟩
    show Steps p.tables e below _ (((({ U with heap := s₂.heap, slotsUsed := s₂.slotsUsed } : State).setVm s₂.vm).setTop g).pushFrame (.throwing q))
    rw [← hs₂]
    exact hsteps
end Payer
section Calls
variable {p : Program} {l : Launch} {e : Env} {R : Room} {s : State} {m : MethodId} {args : Array Value} {below : List Frame} {meth : Method} {c : Code} {T : State} {locs : List Loc} {cells slots : Nat}
theorem vx_callV (X : Stand p l e R s m args below meth c T locs cells slots) (hexec : p.tables.exec = Jvm.exec) {own C : String} {index : Nat} {y : MethodName} {bytes : ByteArray} {maxL : Nat} {ret : Option FieldType}
    (hown : s.vm.findClass own = some m.cls) (hlink : (Cond.methodLink own index y).before args s = true) (hinst : (Cond.instanceMethod y).before args s = true) (hsel : (Cond.selects C y y).before args s = true)
    (hcode : (Cond.code y bytes maxL ret).before args s = true) (hy : y.cls ≠ "java/lang/invoke/MethodHandle" ∧ y.cls ≠ "java/lang/invoke/VarHandle")
    {W9 : Nat} {Pre : Pt → Array Value → Prop} {Post : Pt → Array Value → Option Value → Pt → Prop} {PostX : Pt → Array Value → Addr → Pt → Prop} (hK : vx_Back l R p e below s args y 3 W9 Pre Post PostX)
    {b : Addr} {cellB : Cell} (hcell : T.heap[b]? = some cellB) (hobj : cellB.vm.isStatics = false) (hcls : s.vm.findClass C = some cellB.cls)
    {g : JFrame} (hg : g.method = m) (hsize : g.locals.size = c.maxLocals) {argsL rest : List Value} (hlen : ∀ sig, parseMethodDescriptor y.desc = some sig → argsL.length = sig.parameters.length)
    (hstack : g.stack = argsL.reverse ++ .ref b :: rest) (hW : 2 * g.monitorRoom + (rest.map fun v => v.category).sum ≤ W9) (hdg : decode c.code g.pc = .ok (.invokevirtual index, 3))
    (hpre : ∀ vm₁, s.WarmedH vm₁ → Pre ⟨T.setVm vm₁, locs, cells, slots⟩ (Value.ref b :: argsL).toArray) :
    (∃ (v : Option Value) (vm₁ : Vm) (B : Pt), s.WarmedH vm₁ ∧ Stand p l e R s m args below meth c B.U B.locs B.cells B.slots ∧ Post ⟨T.setVm vm₁, locs, cells, slots⟩ (Value.ref b :: argsL).toArray v B ∧
      ∀ target, Steps p.tables e below (B.U.setTop { g with pc := g.pc + 3, stack := v.toList ++ rest }) target → Steps p.tables e below (T.setTop g) target) ∨
    (∃ (q : Addr) (vm₁ : Vm) (B : Pt), s.WarmedH vm₁ ∧ Stand p l e R s m args below meth c B.U B.locs B.cells B.slots ∧ PostX ⟨T.setVm vm₁, locs, cells, slots⟩ (Value.ref b :: argsL).toArray q B ∧
      Steps p.tables e below (T.setTop g) ((B.U.setTop { g with stack := rest }).pushFrame (.throwing q))) := by
  obtain ⟨mk, methM, hnamed, hmethM, hstM, habM⟩ := Cond.instanceMethod_spec hinst
  obtain ⟨methM', cM, hmethM', -, -, -, -, -, -, hsigM⟩ := Cond.code_spec hnamed hcode
  cases hmethM.symm.trans hmethM'
  obtain ⟨c2, r2, m2, q1, q2, q3, q4, kP, hkP, hkPi⟩ := Cond.selects_spec hsel
  cases hcls.symm.trans q1
  cases (State.methodFound?_of_named hnamed hy).symm.trans q2
  cases hnamed.symm.trans q3
  have hselP : selectMethod e.platform s.vm cellB.cls mk = .method mk := by rw [Launch.admits_selectMethod X.admits]; exact q4
  obtain ⟨vm₁, X₁, hstep₁⟩ := X.invokevirtual hexec hown hlink hnamed hmethM hstM hkP hkPi hy (a := b) (cell := cellB) hcell
    (fun z h => by rw [h] at hobj; cases hobj) hselP hmethM habM hkP hkPi (g := g) hg (argsL := argsL) (rest := rest) (hlen _ hsigM) hstack hdg
  rcases hK m meth c ⟨T.setVm vm₁, locs, cells, slots⟩ { g with stack := rest } (.invokevirtual index) mk (Value.ref b :: argsL).toArray X₁ hg hsize hdg hW (X₁.named hnamed) (hpre vm₁ X₁.warmed) with ⟨v, B, X', hpost, hsteps⟩ | ⟨q, B, X', hpost, hsteps⟩
  · exact Or.inl ⟨v, vm₁, B, X₁.warmed, X', hpost, fun target h => hstep₁ _ fun acts => by rw [doInvoke_state]; exact hsteps.trans h⟩
  · exact Or.inr ⟨q, vm₁, B, X₁.warmed, X', hpost, hstep₁ _ fun acts => by rw [doInvoke_state]; exact hsteps⟩
theorem vx_callS (X : Stand p l e R s m args below meth c T locs cells slots) (hexec : p.tables.exec = Jvm.exec) {own : String} {index : Nat} {y : MethodName} {bytes : ByteArray} {maxL : Nat} {ret : Option FieldType}
    (hown : s.vm.findClass own = some m.cls) (hlink : (Cond.methodLink own index y).before args s = true) (hstat : (Cond.static y).before args s = true) (hinit : (Cond.initialized y.cls).before args s = true)
    (hcode : (Cond.code y bytes maxL ret).before args s = true) (hy : y.cls ≠ "java/lang/invoke/MethodHandle" ∧ y.cls ≠ "java/lang/invoke/VarHandle")
    {W9 : Nat} {Pre : Pt → Array Value → Prop} {Post : Pt → Array Value → Option Value → Pt → Prop} {PostX : Pt → Array Value → Addr → Pt → Prop} (hK : vx_Back l R p e below s args y 3 W9 Pre Post PostX)
    {g : JFrame} (hg : g.method = m) (hsize : g.locals.size = c.maxLocals) {argsL rest : List Value} (hlen : ∀ sig, parseMethodDescriptor y.desc = some sig → argsL.length = sig.parameters.length)
    (hstack : g.stack = argsL.reverse ++ rest) (hW : 2 * g.monitorRoom + (rest.map fun v => v.category).sum ≤ W9) (hdg : decode c.code g.pc = .ok (.invokestatic index, 3))
    (hpre : ∀ vm₁, s.WarmedH vm₁ → Pre ⟨T.setVm vm₁, locs, cells, slots⟩ argsL.toArray) :
    (∃ (v : Option Value) (vm₁ : Vm) (B : Pt), s.WarmedH vm₁ ∧ Stand p l e R s m args below meth c B.U B.locs B.cells B.slots ∧ Post ⟨T.setVm vm₁, locs, cells, slots⟩ argsL.toArray v B ∧
      ∀ target, Steps p.tables e below (B.U.setTop { g with pc := g.pc + 3, stack := v.toList ++ rest }) target → Steps p.tables e below (T.setTop g) target) ∨
    (∃ (q : Addr) (vm₁ : Vm) (B : Pt), s.WarmedH vm₁ ∧ Stand p l e R s m args below meth c B.U B.locs B.cells B.slots ∧ PostX ⟨T.setVm vm₁, locs, cells, slots⟩ argsL.toArray q B ∧
      Steps p.tables e below (T.setTop g) ((B.U.setTop { g with stack := rest }).pushFrame (.throwing q))) := by
  obtain ⟨mk, hnamed⟩ := Cond.code_named hcode
  obtain ⟨methM, cM, hmethM, -, -, -, -, -, -, hsigM⟩ := Cond.code_spec hnamed hcode
  have hstatic : methM.isStatic = true := Cond.static_spec hnamed hmethM hstat
  obtain ⟨kP, hkP, -⟩ := className_of_methodNamed hnamed
  have hinitP : kP.init = .initialized := Cond.initialized_spec (findClass_of_methodNamed hnamed) hkP hinit
  obtain ⟨vm₁, X₁, hstep₁⟩ := X.invokestatic hexec hown hlink hnamed hmethM hstatic hkP hinitP hy (g := g) hg (argsL := argsL) (rest := rest) (hlen _ hsigM) hstack hdg
  rcases hK m meth c ⟨T.setVm vm₁, locs, cells, slots⟩ { g with stack := rest } (.invokestatic index) mk argsL.toArray X₁ hg hsize hdg hW (X₁.named hnamed) (hpre vm₁ X₁.warmed) with ⟨v, B, X', hpost, hsteps⟩ | ⟨q, B, X', hpost, hsteps⟩
  · exact Or.inl ⟨v, vm₁, B, X₁.warmed, X', hpost, fun target h => hstep₁ _ fun acts => by rw [doInvoke_state]; exact hsteps.trans h⟩
  · exact Or.inr ⟨q, vm₁, B, X₁.warmed, X', hpost, hstep₁ _ fun acts => by rw [doInvoke_state]; exact hsteps⟩
end Calls
theorem vx_cls {s : State} {T : State} {vm₁ : Vm} {E : String} {k : ClassId} (hW : s.WarmedH vm₁) (h : (T.setVm vm₁).vm.findClass E = some k) : s.vm.findClass E = some k := by
  have h1 : vm₁.findClass E = some k := h
  rw [hW.alike.findClass] at h1
  exact h1
def vx_W (p : Program) (l : Launch) (e : Env) (R : Room) (s : State) (m : MethodId) (args : Array Value) (below : List Frame) (meth : Method) (c : Code) (H : Heap) (locs : List Loc) (cells slots : Nat) (Q : State → Prop) (g : JFrame) (q : Addr) : Prop :=
  ∀ T : State, T.heap = H → Stand p l e R s m args below meth c T locs cells slots → ∃ t, Steps p.tables e below ((T.setTop g).pushFrame (.throwing q)) t ∧ Q t
def vx_Run (p : Program) (l : Launch) (e : Env) (R : Room) (s : State) (m : MethodId) (args : Array Value) (below : List Frame) (meth : Method) (c : Code) (H : Heap) (locs : List Loc) (cells slots mc ms : Nat) (g : JFrame) (rest : List Value) (Qa : State → Outcome → State → Prop) (XC : String → State → State → Prop) (free : Addr → Prop) : Prop :=
  ∀ T : State, T.heap = H → Stand p l e R s m args below meth c T locs cells slots →
    (∃ (v : Option Value) (st₀ t T' : State) (L : List Loc), st₀.heap = H ∧ Stand p l e R s m args below meth c T' (locs ++ L) (cells + mc) (slots + ms) ∧ (∀ q ∈ L, free q.base) ∧ T'.heap = t.heap ∧ T'.vm = t.vm ∧ Qa st₀ (.returned v) t ∧
      Goes p e below T g T' { g with pc := g.pc + 3, stack := v.toList ++ rest }) ∨
    (∃ (q : Addr) (st₀ t T' : State) (L : List Loc) (E : String) (ce : Cell), st₀.heap = H ∧ Stand p l e R s m args below meth c T' (locs ++ L) (cells + mc) (slots + ms) ∧ (∀ z ∈ L, free z.base) ∧ T'.heap = t.heap ∧ T'.vm = t.vm ∧ XC E st₀ t ∧ t.heap[q]? = some ce ∧ ce.vm = .none ∧ s.vm.findClass E = some ce.cls ∧
      Steps p.tables e below (T.setTop g) ((T'.setTop { g with stack := rest }).pushFrame (.throwing q)))
def vx_X {S : Type} (px : S → Prop) (B : String → S → State → Prop) (A : Nat → Prop) : String → State → State → Prop := fun E st t => ∃ u : S, px u ∧ B E u t ∧ va_F A st t
section Runs
variable {p : Program} {l : Launch} {e : Env} {R : Room} {s : State} {m : MethodId} {args : Array Value} {below : List Frame} {meth : Method} {c : Code} {H : Heap} {locs : List Loc} {cells slots : Nat}
variable {y : MethodName} {bytes cc : ByteArray} {maxL nL mc ms n index : Nat} {ret : Option FieldType} {ws : List Cond} {rm : Room} {Pc : Array Value → State → Prop} {Qc : Array Value → State → Outcome → State → Prop} {XC : String → State → State → Prop} {free : Addr → Prop} {Ts : List Cond} {own C : String} {b : Addr} {As rest : List Value} {g : JFrame}
theorem vx_callBack (cb : CallB R s args own index y bytes maxL ret ws rm mc ms n) (hM : vx_Met l y ws rm Pc Qc XC mc ms free) (hbl : FrameBlind Pc) : vx_Back l R p e below s args y 3 8 (PreOf R mc ms Pc) (PostOf Qc mc ms free) (vx_Post XC mc ms free) := by
  obtain ⟨hrc, hrs, hfr, hlo, hws, hcw, -, hini, -⟩ := cb
  exact vx_back (bytes := bytes) (maxL := maxL) (ret := ret) hM hbl hrc hrs hfr hlo hws hcw (fun a' U hW => word_at hW (Or.inl (by first | rfl | simp [Cond.onTables, Cond.keeps, Cond.steady])) hini)
theorem vx_runV (S : CallFix p m c cc nL s args Ts own) (hM : vx_Met l y ws rm Pc Qc XC mc ms free) (cw : CallW R s args own C index y bytes maxL ret ws rm mc ms n) (hp : PreV s H C b Pc As)
    (hg : g.method = m) (hn : As.length = n) (hsize : g.locals.size = nL) (hstack : g.stack = As.reverse ++ .ref b :: rest) (hW : 2 * g.monitorRoom + (rest.map fun v => v.category).sum ≤ 8) (hdg : decode cc g.pc = .ok (.invokevirtual index, 3)) (hf : cells + mc ≤ R.cells ∧ slots + ms ≤ R.slots) :
    vx_Run p l e R s m args below meth c H locs cells slots mc ms g rest (Qc (Value.ref b :: As).toArray) XC free := by
  have hK : vx_Back l R p e below s args y 3 8 (PreOf R mc ms Pc) (PostOf Qc mc ms free) (vx_Post XC mc ms free) := vx_callBack cw.1 hM hp.1
  obtain ⟨⟨-, -, -, -, -, -, hcode, -, hy, hlen, hl⟩, hin, hse⟩ := cw
  obtain ⟨hx, hb, hml, ho, -⟩ := S
  obtain ⟨-, ⟨cellB, hcB, hoB, hclB⟩, hPc⟩ := hp
  intro T hT X
  rcases vx_callV X hx (C := C) (bytes := bytes) (maxL := maxL) (ret := ret) ho hl hin hse hcode hy hK (by rw [hT]; exact hcB) hoB hclB hg (hsize.trans hml.symm) (argsL := As) (rest := rest) (fun sig h => hn.trans (hlen sig h)) hstack hW (by rw [hb]; exact hdg)
    (fun vm₁ hW₁ => ⟨hf.1, hf.2, hPc (T.setVm vm₁) hT hW₁⟩) with ⟨v, vm₁, ⟨U', l2, c2, s2⟩, hW₁, X', ⟨g', mk, t, L, e1, e2, hq, h1, hL, h2, h3⟩, st⟩ | ⟨q, vm₁, ⟨U', l2, c2, s2⟩, hW₁, X', ⟨g', mk, t, L, E, ce, e1, e2, hq, hce, hcv, hcl, h1, hL, h2, h3⟩, st⟩
  · dsimp only [Pt.U, Pt.locs, Pt.cells, Pt.slots] at X' e1 e2 h1 h2 h3 st
    subst h1; subst h2; subst h3
    exact Or.inl ⟨v, (T.setVm vm₁).calling g' mk (Value.ref b :: As).toArray, t, U', L, hT, X', hL, e1, e2, hq, st⟩
  · dsimp only [Pt.U, Pt.locs, Pt.cells, Pt.slots] at X' e1 e2 h1 h2 h3 st hcl
    subst h1; subst h2; subst h3
    exact Or.inr ⟨q, (T.setVm vm₁).calling g' mk (Value.ref b :: As).toArray, t, U', L, E, ce, hT, X', hL, e1, e2, hq, hce, hcv, vx_cls hW₁ hcl, st⟩
theorem vx_runS (S : CallFix p m c cc nL s args Ts own) (hM : vx_Met l y ws rm Pc Qc XC mc ms free) (cw : CallB R s args own index y bytes maxL ret ws rm mc ms n ∧ (Cond.static y).before args s = true) (hp : PreS s H Pc As)
    (hg : g.method = m) (hn : As.length = n) (hsize : g.locals.size = nL) (hstack : g.stack = As.reverse ++ rest) (hW : 2 * g.monitorRoom + (rest.map fun v => v.category).sum ≤ 8) (hdg : decode cc g.pc = .ok (.invokestatic index, 3)) (hf : cells + mc ≤ R.cells ∧ slots + ms ≤ R.slots) :
    vx_Run p l e R s m args below meth c H locs cells slots mc ms g rest (Qc As.toArray) XC free := by
  have hK : vx_Back l R p e below s args y 3 8 (PreOf R mc ms Pc) (PostOf Qc mc ms free) (vx_Post XC mc ms free) := vx_callBack cw.1 hM hp.1
  obtain ⟨⟨-, -, -, -, -, -, hcode, hini, hy, hlen, hl⟩, hstt⟩ := cw
  obtain ⟨hx, hb, hml, ho, -⟩ := S
  intro T hT X
  rcases vx_callS X hx (bytes := bytes) (maxL := maxL) (ret := ret) ho hl hstt hini hcode hy hK hg (hsize.trans hml.symm) (argsL := As) (rest := rest) (fun sig h => hn.trans (hlen sig h)) hstack hW (by rw [hb]; exact hdg)
    (fun vm₁ hW₁ => ⟨hf.1, hf.2, hp.2 (T.setVm vm₁) hT hW₁⟩) with ⟨v, vm₁, ⟨U', l2, c2, s2⟩, hW₁, X', ⟨g', mk, t, L, e1, e2, hq, h1, hL, h2, h3⟩, st⟩ | ⟨q, vm₁, ⟨U', l2, c2, s2⟩, hW₁, X', ⟨g', mk, t, L, E, ce, e1, e2, hq, hce, hcv, hcl, h1, hL, h2, h3⟩, st⟩
  · dsimp only [Pt.U, Pt.locs, Pt.cells, Pt.slots] at X' e1 e2 h1 h2 h3 st
    subst h1; subst h2; subst h3
    exact Or.inl ⟨v, (T.setVm vm₁).calling g' mk As.toArray, t, U', L, hT, X', hL, e1, e2, hq, st⟩
  · dsimp only [Pt.U, Pt.locs, Pt.cells, Pt.slots] at X' e1 e2 h1 h2 h3 st hcl
    subst h1; subst h2; subst h3
    exact Or.inr ⟨q, (T.setVm vm₁).calling g' mk As.toArray, t, U', L, E, ce, hT, X', hL, e1, e2, hq, hce, hcv, vx_cls hW₁ hcl, st⟩
end Runs
section Rows
variable {p : Program} {l : Launch} {e : Env} {R : Room} {s : State} {m : MethodId} {args : Array Value} {below : List Frame} {meth : Method} {c : Code} {H : Heap} {locs : List Loc} {cells slots : Nat} {Q : State → Prop}
variable {mc ms : Nat} {free : Addr → Prop} {A0 A1 : Nat → Prop} {H0 : Heap} {a : Array Value} {pc : Nat} {ls : Array Slot} {st0 rest : List Value}
theorem vx_keep {st₀ t T' : State} {L : List Loc} (h0 : st₀.heap = H) (e1 : T'.heap = t.heap) (hS : va_S A0 H0 H locs) (hA : ∀ q, q < H.size → A1 q → A0 q) (hf : ∀ q, free q → A0 q) (hL : ∀ q ∈ L, free q.base) (hF : va_F A1 st₀ t) :
    H.size ≤ T'.heap.size ∧ (∀ q : Nat, q < H.size → ¬ A1 q → T'.heap[q]? = H[q]?) ∧ va_S A0 H0 T'.heap (locs ++ L) := by
  obtain ⟨hz, hk⟩ := hF
  rw [h0] at hz hk
  exact ⟨by rw [e1]; exact hz, fun q h1 h2 => by rw [e1]; exact hk q h1 h2,
    ⟨Nat.le_trans hS.1 (by rw [e1]; exact hz), fun q h1 h2 => by rw [e1, hk q (Nat.lt_of_lt_of_le h1 hS.1) (fun z => h2 (hA q (Nat.lt_of_lt_of_le h1 hS.1) z))]; exact hS.2.1 q h1 h2, fun q hq => by
      rcases List.mem_append.mp hq with h | h
      · exact hS.2.2 q h
      · exact hf _ (hL q h)⟩⟩
theorem vx_calli {S SX : Type} {post : Int32 → S → Prop} {px : SX → Prop} {B : S → State → Prop} {BX : String → SX → State → Prop} {AX : Nat → Prop} (hr : vx_Run p l e R s m args below meth c H locs cells slots mc ms (F0 m pc ls st0) rest (va_Qi post B A1 a) (vx_X px BX AX) free) (hS : va_S A0 H0 H locs) (hA : ∀ q, q < H.size → A1 q → A0 q) (hf : ∀ q, free q → A0 q) (hAX : ∀ q, q < H.size → AX q → A0 q)
    (kx : ∀ (E : String) (ce : Cell) (q9 : Addr) (u : SX) (t : State) (H1 : Heap) (locs1 : List Loc), t.heap = H1 → s.vm.Alike t.vm → px u → BX E u t → H.size ≤ H1.size → (∀ q : Nat, q < H.size → ¬ AX q → H1[q]? = H[q]?) → va_S A0 H0 H1 locs1 → H1[q9]? = some ce → ce.vm = .none → s.vm.findClass E = some ce.cls → vx_W p l e R s m args below meth c H1 locs1 (cells + mc) (slots + ms) Q (F0 m pc ls rest) q9)
    (kk : ∀ (r : Int32) (u : S) (t : State) (H1 : Heap) (locs1 : List Loc), t.heap = H1 → s.vm.Alike t.vm → post r u → B u t → H.size ≤ H1.size → (∀ q : Nat, q < H.size → ¬ A1 q → H1[q]? = H[q]?) → va_S A0 H0 H1 locs1 → W p l e R s m args below meth c H1 locs1 (cells + mc) (slots + ms) Q (F0 m (pc + 3) ls (.int r :: rest))) : W p l e R s m args below meth c H locs cells slots Q (F0 m pc ls st0) := by
  intro T hT X
  rcases hr T hT X with ⟨v, st₀, t, T', L, h0, X', hL, e1, e2, ⟨⟨r, u, hv, hp, hb⟩, hF⟩, st⟩ | ⟨q, st₀, t, T', L, E, ce, h0, X', hL, e1, e2, ⟨u, hp, hb, hF⟩, hce, hcv, hcl, st⟩
  · cases hv
    obtain ⟨k1, k2, k3⟩ := vx_keep h0 e1 hS hA hf hL hF
    obtain ⟨t2, a1, b1⟩ := kk r u t T'.heap (locs ++ L) e1.symm (by rw [← e2]; exact X'.warmed.alike) hp hb k1 k2 k3 T' rfl X'
    exact ⟨t2, st t2 a1, b1⟩
  · obtain ⟨k1, k2, k3⟩ := vx_keep h0 e1 hS hAX hf hL hF
    obtain ⟨t2, a1, b1⟩ := kx E ce q u t T'.heap (locs ++ L) e1.symm (by rw [← e2]; exact X'.warmed.alike) hp hb k1 k2 k3 (by rw [e1]; exact hce) hcv hcl T' rfl X'
    exact ⟨t2, st.trans a1, b1⟩
theorem vx_calll {S SX : Type} {post : Int64 → S → Prop} {px : SX → Prop} {B : S → State → Prop} {BX : String → SX → State → Prop} {AX : Nat → Prop} (hr : vx_Run p l e R s m args below meth c H locs cells slots mc ms (F0 m pc ls st0) rest (va_Ql post B A1 a) (vx_X px BX AX) free) (hS : va_S A0 H0 H locs) (hA : ∀ q, q < H.size → A1 q → A0 q) (hf : ∀ q, free q → A0 q) (hAX : ∀ q, q < H.size → AX q → A0 q)
    (kx : ∀ (E : String) (ce : Cell) (q9 : Addr) (u : SX) (t : State) (H1 : Heap) (locs1 : List Loc), t.heap = H1 → s.vm.Alike t.vm → px u → BX E u t → H.size ≤ H1.size → (∀ q : Nat, q < H.size → ¬ AX q → H1[q]? = H[q]?) → va_S A0 H0 H1 locs1 → H1[q9]? = some ce → ce.vm = .none → s.vm.findClass E = some ce.cls → vx_W p l e R s m args below meth c H1 locs1 (cells + mc) (slots + ms) Q (F0 m pc ls rest) q9)
    (kk : ∀ (r : Int64) (u : S) (t : State) (H1 : Heap) (locs1 : List Loc), t.heap = H1 → s.vm.Alike t.vm → post r u → B u t → H.size ≤ H1.size → (∀ q : Nat, q < H.size → ¬ A1 q → H1[q]? = H[q]?) → va_S A0 H0 H1 locs1 → W p l e R s m args below meth c H1 locs1 (cells + mc) (slots + ms) Q (F0 m (pc + 3) ls (.long r :: rest))) : W p l e R s m args below meth c H locs cells slots Q (F0 m pc ls st0) := by
  intro T hT X
  rcases hr T hT X with ⟨v, st₀, t, T', L, h0, X', hL, e1, e2, ⟨⟨r, u, hv, hp, hb⟩, hF⟩, st⟩ | ⟨q, st₀, t, T', L, E, ce, h0, X', hL, e1, e2, ⟨u, hp, hb, hF⟩, hce, hcv, hcl, st⟩
  · cases hv
    obtain ⟨k1, k2, k3⟩ := vx_keep h0 e1 hS hA hf hL hF
    obtain ⟨t2, a1, b1⟩ := kk r u t T'.heap (locs ++ L) e1.symm (by rw [← e2]; exact X'.warmed.alike) hp hb k1 k2 k3 T' rfl X'
    exact ⟨t2, st t2 a1, b1⟩
  · obtain ⟨k1, k2, k3⟩ := vx_keep h0 e1 hS hAX hf hL hF
    obtain ⟨t2, a1, b1⟩ := kx E ce q u t T'.heap (locs ++ L) e1.symm (by rw [← e2]; exact X'.warmed.alike) hp hb k1 k2 k3 (by rw [e1]; exact hce) hcv hcl T' rfl X'
    exact ⟨t2, st.trans a1, b1⟩
theorem vx_callf {S SX : Type} {post : UInt32 → S → Prop} {px : SX → Prop} {B : S → State → Prop} {BX : String → SX → State → Prop} {AX : Nat → Prop} (hr : vx_Run p l e R s m args below meth c H locs cells slots mc ms (F0 m pc ls st0) rest (va_Qf post B A1 a) (vx_X px BX AX) free) (hS : va_S A0 H0 H locs) (hA : ∀ q, q < H.size → A1 q → A0 q) (hf : ∀ q, free q → A0 q) (hAX : ∀ q, q < H.size → AX q → A0 q)
    (kx : ∀ (E : String) (ce : Cell) (q9 : Addr) (u : SX) (t : State) (H1 : Heap) (locs1 : List Loc), t.heap = H1 → s.vm.Alike t.vm → px u → BX E u t → H.size ≤ H1.size → (∀ q : Nat, q < H.size → ¬ AX q → H1[q]? = H[q]?) → va_S A0 H0 H1 locs1 → H1[q9]? = some ce → ce.vm = .none → s.vm.findClass E = some ce.cls → vx_W p l e R s m args below meth c H1 locs1 (cells + mc) (slots + ms) Q (F0 m pc ls rest) q9)
    (kk : ∀ (r : UInt32) (u : S) (t : State) (H1 : Heap) (locs1 : List Loc), t.heap = H1 → s.vm.Alike t.vm → post r u → B u t → H.size ≤ H1.size → (∀ q : Nat, q < H.size → ¬ A1 q → H1[q]? = H[q]?) → va_S A0 H0 H1 locs1 → W p l e R s m args below meth c H1 locs1 (cells + mc) (slots + ms) Q (F0 m (pc + 3) ls (.float r :: rest))) : W p l e R s m args below meth c H locs cells slots Q (F0 m pc ls st0) := by
  intro T hT X
  rcases hr T hT X with ⟨v, st₀, t, T', L, h0, X', hL, e1, e2, ⟨⟨r, u, hv, hp, hb⟩, hF⟩, st⟩ | ⟨q, st₀, t, T', L, E, ce, h0, X', hL, e1, e2, ⟨u, hp, hb, hF⟩, hce, hcv, hcl, st⟩
  · cases hv
    obtain ⟨k1, k2, k3⟩ := vx_keep h0 e1 hS hA hf hL hF
    obtain ⟨t2, a1, b1⟩ := kk r u t T'.heap (locs ++ L) e1.symm (by rw [← e2]; exact X'.warmed.alike) hp hb k1 k2 k3 T' rfl X'
    exact ⟨t2, st t2 a1, b1⟩
  · obtain ⟨k1, k2, k3⟩ := vx_keep h0 e1 hS hAX hf hL hF
    obtain ⟨t2, a1, b1⟩ := kx E ce q u t T'.heap (locs ++ L) e1.symm (by rw [← e2]; exact X'.warmed.alike) hp hb k1 k2 k3 (by rw [e1]; exact hce) hcv hcl T' rfl X'
    exact ⟨t2, st.trans a1, b1⟩
theorem vx_calld {S SX : Type} {post : UInt64 → S → Prop} {px : SX → Prop} {B : S → State → Prop} {BX : String → SX → State → Prop} {AX : Nat → Prop} (hr : vx_Run p l e R s m args below meth c H locs cells slots mc ms (F0 m pc ls st0) rest (va_Qd post B A1 a) (vx_X px BX AX) free) (hS : va_S A0 H0 H locs) (hA : ∀ q, q < H.size → A1 q → A0 q) (hf : ∀ q, free q → A0 q) (hAX : ∀ q, q < H.size → AX q → A0 q)
    (kx : ∀ (E : String) (ce : Cell) (q9 : Addr) (u : SX) (t : State) (H1 : Heap) (locs1 : List Loc), t.heap = H1 → s.vm.Alike t.vm → px u → BX E u t → H.size ≤ H1.size → (∀ q : Nat, q < H.size → ¬ AX q → H1[q]? = H[q]?) → va_S A0 H0 H1 locs1 → H1[q9]? = some ce → ce.vm = .none → s.vm.findClass E = some ce.cls → vx_W p l e R s m args below meth c H1 locs1 (cells + mc) (slots + ms) Q (F0 m pc ls rest) q9)
    (kk : ∀ (r : UInt64) (u : S) (t : State) (H1 : Heap) (locs1 : List Loc), t.heap = H1 → s.vm.Alike t.vm → post r u → B u t → H.size ≤ H1.size → (∀ q : Nat, q < H.size → ¬ A1 q → H1[q]? = H[q]?) → va_S A0 H0 H1 locs1 → W p l e R s m args below meth c H1 locs1 (cells + mc) (slots + ms) Q (F0 m (pc + 3) ls (.double r :: rest))) : W p l e R s m args below meth c H locs cells slots Q (F0 m pc ls st0) := by
  intro T hT X
  rcases hr T hT X with ⟨v, st₀, t, T', L, h0, X', hL, e1, e2, ⟨⟨r, u, hv, hp, hb⟩, hF⟩, st⟩ | ⟨q, st₀, t, T', L, E, ce, h0, X', hL, e1, e2, ⟨u, hp, hb, hF⟩, hce, hcv, hcl, st⟩
  · cases hv
    obtain ⟨k1, k2, k3⟩ := vx_keep h0 e1 hS hA hf hL hF
    obtain ⟨t2, a1, b1⟩ := kk r u t T'.heap (locs ++ L) e1.symm (by rw [← e2]; exact X'.warmed.alike) hp hb k1 k2 k3 T' rfl X'
    exact ⟨t2, st t2 a1, b1⟩
  · obtain ⟨k1, k2, k3⟩ := vx_keep h0 e1 hS hAX hf hL hF
    obtain ⟨t2, a1, b1⟩ := kx E ce q u t T'.heap (locs ++ L) e1.symm (by rw [← e2]; exact X'.warmed.alike) hp hb k1 k2 k3 (by rw [e1]; exact hce) hcv hcl T' rfl X'
    exact ⟨t2, st.trans a1, b1⟩
theorem vx_callv {S SX : Type} {post : S → Prop} {px : SX → Prop} {B : S → State → Prop} {BX : String → SX → State → Prop} {AX : Nat → Prop} (hr : vx_Run p l e R s m args below meth c H locs cells slots mc ms (F0 m pc ls st0) rest (va_Qv post B A1 a) (vx_X px BX AX) free) (hS : va_S A0 H0 H locs) (hA : ∀ q, q < H.size → A1 q → A0 q) (hf : ∀ q, free q → A0 q) (hAX : ∀ q, q < H.size → AX q → A0 q)
    (kx : ∀ (E : String) (ce : Cell) (q9 : Addr) (u : SX) (t : State) (H1 : Heap) (locs1 : List Loc), t.heap = H1 → s.vm.Alike t.vm → px u → BX E u t → H.size ≤ H1.size → (∀ q : Nat, q < H.size → ¬ AX q → H1[q]? = H[q]?) → va_S A0 H0 H1 locs1 → H1[q9]? = some ce → ce.vm = .none → s.vm.findClass E = some ce.cls → vx_W p l e R s m args below meth c H1 locs1 (cells + mc) (slots + ms) Q (F0 m pc ls rest) q9)
    (kk : ∀ (u : S) (t : State) (H1 : Heap) (locs1 : List Loc), t.heap = H1 → s.vm.Alike t.vm → post u → B u t → H.size ≤ H1.size → (∀ q : Nat, q < H.size → ¬ A1 q → H1[q]? = H[q]?) → va_S A0 H0 H1 locs1 → W p l e R s m args below meth c H1 locs1 (cells + mc) (slots + ms) Q (F0 m (pc + 3) ls (rest))) : W p l e R s m args below meth c H locs cells slots Q (F0 m pc ls st0) := by
  intro T hT X
  rcases hr T hT X with ⟨v, st₀, t, T', L, h0, X', hL, e1, e2, ⟨⟨u, hv, hp, hb⟩, hF⟩, st⟩ | ⟨q, st₀, t, T', L, E, ce, h0, X', hL, e1, e2, ⟨u, hp, hb, hF⟩, hce, hcv, hcl, st⟩
  · cases hv
    obtain ⟨k1, k2, k3⟩ := vx_keep h0 e1 hS hA hf hL hF
    obtain ⟨t2, a1, b1⟩ := kk u t T'.heap (locs ++ L) e1.symm (by rw [← e2]; exact X'.warmed.alike) hp hb k1 k2 k3 T' rfl X'
    exact ⟨t2, st t2 a1, b1⟩
  · obtain ⟨k1, k2, k3⟩ := vx_keep h0 e1 hS hAX hf hL hF
    obtain ⟨t2, a1, b1⟩ := kx E ce q u t T'.heap (locs ++ L) e1.symm (by rw [← e2]; exact X'.warmed.alike) hp hb k1 k2 k3 (by rw [e1]; exact hce) hcv hcl T' rfl X'
    exact ⟨t2, st.trans a1, b1⟩
end Rows
section Ends
variable {p : Program} {l : Launch} {e : Env} {R : Room} {s : State} {m : MethodId} {args : Array Value} {below : List Frame} {meth : Method} {c : Code} {H : Heap} {locs : List Loc} {cells slots : Nat} {Q : State → Prop}
variable {mc ms : Nat} {free : Addr → Prop} {A0 A1 : Nat → Prop} {H0 : Heap} {a : Array Value} {ls : Array Slot} {st0 rest : List Value}
variable {Qc : Array Value → State → Outcome → State → Prop} {XC : String → State → State → Prop}
def vx_MQ (below : List Frame) (Qc : Array Value → State → Outcome → State → Prop) (XC : String → State → State → Prop) (a : Array Value) (s : State) (mc ms : Nat) (free : Addr → Prop) : State → Prop := fun t =>
  ∃ o, t.status = .running ∧ Ended t below o ∧ vx_Q Qc XC mc ms free a s o t
theorem vx_ret {g : JFrame} {mc ms : Nat} (k : W p l e R s m args below meth c H locs cells slots (MQ below Qc args s mc ms free) g) : W p l e R s m args below meth c H locs cells slots (vx_MQ below Qc XC args s mc ms free) g := by
  intro T hT X
  obtain ⟨t, a1, o, b1, b2, b3, b4⟩ := k T hT X
  exact ⟨t, a1, o, b1, b2, Or.inl ⟨b3, b4⟩⟩
theorem vx_widen {g : JFrame} {q : Addr} {k n : Nat} (h1 : cells ≤ k) (h2 : slots ≤ n) (kk : vx_W p l e R s m args below meth c H locs k n Q g q) : vx_W p l e R s m args below meth c H locs cells slots Q g q := fun T hT X => kk T hT (stand_widen X h1 h2)
theorem vx_out {pc : Nat} {E : String} {ce : Cell} {q : Addr} {mc ms : Nat} (hout : ∀ x ∈ c.exceptionTable.toList, covers x pc = false) (hlocks : meth.locks = false) (hcell : H[q]? = some ce) (hv : ce.vm = .none) (hcl : s.vm.findClass E = some ce.cls)
    (hx : ∀ t : State, t.heap = H → s.vm.Alike t.vm → XC E s t) (hf : ∀ z ∈ locs, free z.base) (hc : cells ≤ mc) (hs : slots ≤ ms) :
    vx_W p l e R s m args below meth c H locs cells slots (vx_MQ below Qc XC args s mc ms free) (F0 m pc ls rest) q := by
  intro T hT X
  obtain ⟨st1, hrun, hend, hW, hsm⟩ := X.leaveThrown q (g := F0 m pc ls rest) rfl rfl rfl hout hlocks
  have hcell9 : (T.setFrames (.throwing q :: below)).heap[q]? = some ce := by
    show T.heap[q]? = some ce
    rw [hT]; exact hcell
  exact ⟨_, st1, .threw q, hrun, hend, Or.inr ⟨q, rfl, E, ce, locs, hx _ hT hW.alike, hcell9, hv, hcl, hW, hsm.mono hc hs, hf⟩⟩
theorem vx_frame {U : State} {k n : Nat} (h : s.sameButNew ({ U with vm := s.vm } : State) locs k n) : s.heap.size ≤ U.heap.size ∧ ∀ q : Nat, q < s.heap.size → (∀ z ∈ locs, z.base ≠ q) → U.heap[q]? = s.heap[q]? := by
  obtain ⟨-, h2, -, -, -, h6⟩ := h
  refine ⟨h2, fun q hq hz => ?_⟩
  obtain ⟨c9, e1, e2, e3, e4⟩ := h6 q _ (Array.getElem?_eq_getElem hq)
  have hs : c9.slots = (s.heap[q]).slots := Array.ext_getElem? fun i => e4 i fun hm => hz _ hm rfl
  have h9 : c9 = s.heap[q] := by
    rw [hs] at e2
    exact e2
  have e5 : U.heap[q]? = some c9 := e1
  rw [e5, h9, Array.getElem?_eq_getElem hq]
def vx_no (w : Cond) : Bool := decide (w ≠ .isRef (.static Bundle.tN "UNASSIGNED_STACK" Bundle.steD)) && decide (w ≠ .isRef (.static Bundle.tN "SUPPRESSED_SENTINEL" Bundle.listD)) && decide (w ≠ .laysStatic Bundle.tN "UNASSIGNED_STACK" Bundle.steD) && decide (w ≠ .laysStatic Bundle.tN "SUPPRESSED_SENTINEL" Bundle.listD)
def vx_at0 (own : String) (ic : Nat) (X : String) (names : List String) : List Cond := (Bundle.ownAtoms0 own ic X names).filter vx_no
def vx_atS (own : String) (ic : Nat) (X : String) (names : List String) : List Cond := (Bundle.ownAtoms own ic X names).filter vx_no
def vx_ot (w : Cond) : Bool := w.onTables || goodWord w
theorem vx_ot_at {args a' : Array Value} {s U : State} {w : Cond} (hW : s.WarmedH U.vm) (hvm : s.vm = U.vm) (hg : vx_ot w = true) (h : w.before args s = true) : w.before a' U = true := by
  simp only [vx_ot, Bool.or_eq_true] at hg
  rcases hg with hg | hg
  · exact va_tabs hg hvm h
  · exact word_at hW (good_of_word hg) h
theorem vx_hat {args : Array Value} {s : State} {L B : List Cond} (h1 : ∀ w ∈ L.filter goodWord, w.before args s = true) (h2 : ∀ w ∈ L.filter (fun w => !goodWord w), w ∈ B) (h3 : ∀ w ∈ B, w.before args s = true) : ∀ w ∈ L, w.before args s = true := by
  intro w hw
  by_cases g : goodWord w = true
  · exact h1 w (List.mem_filter.mpr ⟨hw, g⟩)
  · refine h3 w (h2 w (List.mem_filter.mpr ⟨hw, ?_⟩))
    show (!goodWord w) = true
    cases hgw : goodWord w
    · rfl
    · exact absurd hgw g
theorem vx_c {args : Array Value} {s : State} {w : Cond} {B : List Cond} (h : w.before args s = true) (t : ∀ w ∈ B, w.before args s = true) : ∀ w' ∈ w :: B, w'.before args s = true := fun w' h' => (List.mem_cons.mp h').elim (fun e => by rw [e]; exact h) (t w')
theorem vx_n {args : Array Value} {s : State} : ∀ w ∈ ([] : List Cond), w.before args s = true := fun _ h => nomatch h
theorem vx_own {args : Array Value} {s : State} {L : List Cond} (h1 : ∀ w ∈ L.filter vx_no, w.before args s = true)
    (hU : (Cond.isRef (.static Bundle.tN "UNASSIGNED_STACK" Bundle.steD)).before args s = true) (hN : (Cond.isRef (.static Bundle.tN "SUPPRESSED_SENTINEL" Bundle.listD)).before args s = true)
    (lU : (Cond.laysStatic Bundle.tN "UNASSIGNED_STACK" Bundle.steD).before args s = true) (lN : (Cond.laysStatic Bundle.tN "SUPPRESSED_SENTINEL" Bundle.listD).before args s = true) : ∀ w ∈ L, w.before args s = true := by
  intro w hw
  by_cases e1 : w = .isRef (.static Bundle.tN "UNASSIGNED_STACK" Bundle.steD)
  · rw [e1]; exact hU
  · by_cases e2 : w = .isRef (.static Bundle.tN "SUPPRESSED_SENTINEL" Bundle.listD)
    · rw [e2]; exact hN
    · by_cases e3 : w = .laysStatic Bundle.tN "UNASSIGNED_STACK" Bundle.steD
      · rw [e3]; exact lU
      · by_cases e4 : w = .laysStatic Bundle.tN "SUPPRESSED_SENTINEL" Bundle.listD
        · rw [e4]; exact lN
        · exact h1 w (List.mem_filter.mpr ⟨hw, by unfold vx_no; rw [decide_eq_true e1, decide_eq_true e2, decide_eq_true e3, decide_eq_true e4]; rfl⟩)
def vx_L (C n d : String) (A : Nat → Prop) (U : State) (H : Heap) : Prop := ∃ (c : ClassId) (k : Class) (i : Nat) (f : Field) (a : Nat) (cell : Cell), U.vm.findClass C = some c ∧ U.fieldFound? C n d = some (c, k, i, f) ∧ f.isStatic = true ∧ k.statics = some a ∧ H[a]? = some cell ∧ cell.vm.isStatics = true ∧ cell.cls = c ∧ f.slot < cell.slots.size ∧ k.staticTypes[f.slot]? = some f.type ∧ ¬ A a
theorem vx_L.moved {C n d : String} {A : Nat → Prop} {u U : State} {H : Heap} (hvm : u.vm.Alike U.vm) (h : vx_L C n d A u H) : vx_L C n d A U H := by
  obtain ⟨c, k, i, f, a, cell, h1, h2, h3, h4, h5, h6, h7, h8, h9, h10⟩ := h
  obtain ⟨k', hi', he⟩ := State.fieldFound?_setVm hvm h2
  exact ⟨c, k', i, f, a, cell, by rw [hvm.findClass]; exact h1, hi', h3, by rw [he]; exact h4, h5, h6, h7, h8, by rw [he]; exact h9, h10⟩
theorem vx_L.kept {C n d : String} {A : Nat → Prop} {U : State} {H H1 : Heap} (h : vx_L C n d A U H) (hq : ∀ a : Nat, a < H.size → ¬ A a → H1[a]? = H[a]?) : vx_L C n d A U H1 := by
  obtain ⟨c, k, i, f, a, cell, h1, h2, h3, h4, h5, h6, h7, h8, h9, h10⟩ := h
  exact ⟨c, k, i, f, a, cell, h1, h2, h3, h4, by rw [hq a (Array.getElem?_eq_some_iff.mp h5).1 h10]; exact h5, h6, h7, h8, h9, h10⟩
theorem vx_L.narrow {C n d : String} {A B : Nat → Prop} {U : State} {H : Heap} (h : vx_L C n d A U H) (hAB : ∀ q, B q → A q) : vx_L C n d B U H := by
  obtain ⟨c, k, i, f, a, cell, h1, h2, h3, h4, h5, h6, h7, h8, h9, h10⟩ := h
  exact ⟨c, k, i, f, a, cell, h1, h2, h3, h4, h5, h6, h7, h8, h9, fun z => h10 (hAB _ z)⟩
theorem vx_L.word {C n d : String} {A : Nat → Prop} {s : State} {args : Array Value} (h : vx_L C n d A s s.heap) : (Cond.laysStatic C n d).before args s = true := by
  obtain ⟨c, k, i, f, a, cell, h1, h2, h3, h4, h5, h6, h7, h8, h9, -⟩ := h
  show (Cond.laysStatic C n d).holds args s none s [] = true
  exact Cond.laysStatic_of h1 h2 h3 h4 h5 h6 h7 h8 h9
def vx_Zq (C n d : String) (A : Nat → Prop) (U : State) (H : Heap) : Prop := va_Zq C n d A U H ∧ vx_L C n d A U H
theorem vx_Zq.moved {C n d : String} {A : Nat → Prop} {u U : State} {H : Heap} (hvm : u.vm.Alike U.vm) (h : vx_Zq C n d A u H) : vx_Zq C n d A U H := ⟨va_Zq.moved hvm h.1, vx_L.moved hvm h.2⟩
theorem vx_Zq.kept {C n d : String} {A : Nat → Prop} {U : State} {H H1 : Heap} (h : vx_Zq C n d A U H) (hq : ∀ a : Nat, a < H.size → ¬ A a → H1[a]? = H[a]?) : vx_Zq C n d A U H1 := ⟨va_Zq.kept h.1 hq, vx_L.kept h.2 hq⟩
theorem vx_Zq.narrow {C n d : String} {A B : Nat → Prop} {U : State} {H : Heap} (h : vx_Zq C n d A U H) (hAB : ∀ q, B q → A q) : vx_Zq C n d B U H := ⟨va_Zq.narrow h.1 hAB, vx_L.narrow h.2 hAB⟩
theorem vx_Zqof {args : Array Value} {s : State} {C n d : String} {A : Nat → Prop} (hl : (Cond.laysStatic C n d).before args s = true) (hini : (Cond.initialized C).before args s = true) (h : (Cond.isRef (.static C n d)).before args s = true) (hA : ∀ a : Nat, a < s.heap.size → ¬ A a) : vx_Zq C n d A s s.heap := by
  refine ⟨va_Zqof hl hini h hA, ?_⟩
  obtain ⟨c, k, i, f, a, cell, h1, h2, h3, h4, h5, h6, h7, h8, h9⟩ := Cond.laysStatic_spec hl
  exact ⟨c, k, i, f, a, cell, h1, h2, h3, h4, h5, h6, h7, h8, h9, hA a (Array.getElem?_eq_some_iff.mp h5).1⟩
theorem vx_isRef {C n d : String} {v : Value} {A : Nat → Prop} {s : State} {args : Array Value} (h : va_Z C n d v A s s.heap) (hv : v.isRef = true) : (Cond.isRef (.static C n d)).before args s = true := by
  obtain ⟨cf, kf, fi, f, a, cell, h1, h2, h3, h4, h5, h6, h7, -⟩ := h
  have he : (Term.static C n d).eval args s none [] s = some v := by
    simp [Term.eval, State.fieldNamed?, h1, h2, h4, h5, h6, h7]
  simp only [Cond.before, Cond.holds, Cond.value, he]
  cases v <;> simp_all [Value.isRef]
theorem vx_isRefq {C n d : String} {A : Nat → Prop} {s : State} {args : Array Value} (h : va_Zq C n d A s s.heap) : (Cond.isRef (.static C n d)).before args s = true := by
  rcases h with h | ⟨t, h⟩
  · exact vx_isRef h rfl
  · exact vx_isRef h rfl
theorem vx_rebase {T : State} (X : Stand p l e R s m args below meth c T locs cells slots) {R' : Room} (hf : R'.frames ≤ R.frames) (hl : R'.locals ≤ R.locals) (hc : cells + R'.cells ≤ R.cells) (hs : slots + R'.slots ≤ R.slots) :
    Stand p l e R' ((T.setVm s.vm).setFrames (.invoking m args :: below)) m args below meth c T [] 0 0 := by
  have htop : (T.setVm s.vm).topJava?.isSome := X.here.top
  have hF : ((T.setVm s.vm).setFrames (.invoking m args :: below)).frames = .invoking m args :: below := State.frames_setFrames _ (State.cur_lt_of_top htop)
  obtain ⟨g₀, hg0⟩ := Option.isSome_iff_exists.mp htop
  obtain ⟨r, hr⟩ := State.topJava?_eq_some.mp hg0
  have hl9 : e.platform.stackLimits (T.setVm s.vm).me = e.platform.stackLimits s.me := X.limits
  have hb9 : (T.setVm s.vm).me.stackBytes = s.me.stackBytes := X.bytes
  refine ⟨X.admits, X.cas, X.clock, hF, ?_, X.hears, X.method, X.code, X.here, X.tail, X.warmed, ?_, ?_, ?_⟩
  · have h := X.room
    have hU : ((T.setVm s.vm).setFrames (.invoking m args :: below)).localsInUse = s.localsInUse := by
      rw [State.localsInUse_invoking hF (meth := meth) (c := c) X.method X.code, State.localsInUse_invoking X.frames X.method X.code]
    simp only [State.hasRoom, Bool.and_eq_true, decide_eq_true_eq] at h ⊢
    obtain ⟨⟨⟨⟨h1, h2, h3, h4, h5, h6⟩, h7⟩, h8⟩, h9⟩ := h
    rw [X.frames, List.length_cons] at h2 h3
    have q1 := X.heapSize
    have q2 := X.used
    simp only [hF, hU, List.length_cons, State.stackLimits_setFrames, State.stackBytes_setFrames, hl9, hb9]
    refine ⟨⟨⟨⟨by omega, by omega, by omega, by omega, by omega, h6⟩, ?_⟩, ?_⟩, X.book⟩
    · show T.heap.size + R'.cells ≤ e.platform.maxCells
      omega
    · show T.slotsUsed + R'.slots ≤ e.platform.maxSlots
      omega
  · rw [State.stackLimits_setFrames]; rfl
  · rw [State.stackBytes_setFrames]; rfl
  · refine ⟨?_, Nat.le_refl _, Nat.le_refl _, ?_, ?_, fun a c9 h9 => ⟨c9, h9, rfl, rfl, fun _ _ => rfl⟩⟩
    · obtain ⟨t, ht, -⟩ := State.frames_cons hr
      show T.setVm s.vm = { ((T.setVm s.vm).setFrames (.invoking m args :: below)).setFrames (T.setVm s.vm).frames with heap := T.heap, slotsUsed := T.slotsUsed }
      rw [State.setFrames_setFrames, State.setFrames_self ht]
      rfl
    · show T.slotsUsed = T.slotsUsed + ((T.heap.toList.drop T.heap.size).map (·.slots.size)).sum
      rw [List.drop_eq_nil_of_le (Nat.le_of_eq Array.length_toList)]
      rfl
    · show ((T.heap.toList.drop T.heap.size).map (·.slots.size)).sum ≤ 0
      rw [List.drop_eq_nil_of_le (Nat.le_of_eq Array.length_toList)]
      exact Nat.le_refl _
theorem vx_throw0 {cc : ByteArray} {pc : Nat} (hexec : p.tables.exec = Jvm.exec) (hb : c.code = cc) (hl : l.stackTraces = false) {own cls : String} {names : List String} {ik ic mc ms : Nat} {A : Nat → Prop}
    (hown : s.vm.findClass own = some m.cls) (hcls : Bundle.fit cls = true) (hnames : ∀ n ∈ names, Bundle.fit n = true)
    (hk : (Cond.classLink own ik cls).before args s = true) (hini : (Cond.initialized cls).before args s = true) (hat : ∀ w ∈ vx_at0 own ic cls names, w.before args s = true)
    (hgood : ∀ w ∈ Cond.classLink own ik cls :: Cond.initialized cls :: vx_at0 own ic cls names, vx_ot w = true)
    (hU : vx_Zq Bundle.tN "UNASSIGNED_STACK" Bundle.steD A s s.heap) (hN : vx_Zq Bundle.tN "SUPPRESSED_SENTINEL" Bundle.listD A s s.heap) (hS : va_S A s.heap H locs) (hsize : ls.size = c.maxLocals)
    (d0 : decode cc pc = .ok (.new ik, 3)) (d3 : decode cc (pc + 3) = .ok (.dup, 1)) (d4 : decode cc (pc + 4) = .ok (.invokespecial ic, 3)) (d7 : decode cc (pc + 7) = .ok (.athrow, 1))
    (hout : ∀ x ∈ c.exceptionTable.toList, covers x (pc + 7) = false)
    (hRframes : names.length + 3 < R.frames) (hRlocals : (rest.map fun v => v.category).sum + (13 * (names.length + 1) + 42) ≤ R.locals) (hRcells : cells + 1 ≤ R.cells) (hRslots : slots + 6 ≤ R.slots) (hlocks : meth.locks = false)
    (hx : ∀ t : State, s.vm.Alike t.vm → H.size ≤ t.heap.size → (∀ q : Nat, q < H.size → t.heap[q]? = H[q]?) → XC cls s t)
    (hf : ∀ z ∈ locs, free z.base) (hc : cells + 1 ≤ mc) (hs : slots + 6 ≤ ms) :
    W p l e R s m args below meth c H locs cells slots (vx_MQ below Qc XC args s mc ms free) (F0 m pc ls rest) := by
  intro T hT X
  have htr : e.platform.stackTraces = false := (show e.platform.stackTraces = l.stackTraces by rw [X.admits.platform]).trans hl
  have Y := vx_rebase X (R' := { frames := R.frames, locals := R.locals, cells := 1, slots := 6 }) (Nat.le_refl _) (Nat.le_refl _) hRcells hRslots
  obtain ⟨s', hA⟩ : ∃ z, z = (T.setVm s.vm).setFrames (.invoking m args :: below) := ⟨_, rfl⟩
  rw [← hA] at Y
  have hvm : s'.vm = s.vm := by rw [hA]; rfl
  have hhp : s'.heap = H := by rw [hA]; exact hT
  have hW0 : s.WarmedH s'.vm := by rw [hvm]; exact State.WarmedH.refl s
  have hat' : ∀ w ∈ vx_at0 own ic cls names, w.before args s' = true := fun w hw => vx_ot_at hW0 hvm.symm (hgood w (List.mem_cons_of_mem _ (List.mem_cons_of_mem _ hw))) (hat w hw)
  have hk' : (Cond.classLink own ik cls).before args s' = true := vx_ot_at hW0 hvm.symm (hgood _ List.mem_cons_self) hk
  have hini' : (Cond.initialized cls).before args s' = true := vx_ot_at hW0 hvm.symm (hgood _ (List.mem_cons_of_mem _ List.mem_cons_self)) hini
  have hU' : vx_Zq Bundle.tN "UNASSIGNED_STACK" Bundle.steD A s' s'.heap := by rw [hhp]; exact vx_Zq.moved hW0.alike (hU.kept hS.2.1)
  have hN' : vx_Zq Bundle.tN "SUPPRESSED_SENTINEL" Bundle.listD A s' s'.heap := by rw [hhp]; exact vx_Zq.moved hW0.alike (hN.kept hS.2.1)
  have h : ∀ w ∈ Bundle.ownAtoms0 own ic cls names, w.before args s' = true := vx_own hat' (vx_isRefq hU'.1) (vx_isRefq hN'.1) hU'.2.word hN'.2.word
  have hown' : s'.vm.findClass own = some m.cls := by rw [hvm]; exact hown
  have hins : (Cond.instantiable cls 6).before args s' = true := h _ (by simp [Bundle.ownAtoms0])
  obtain ⟨vm₁, cX, kX, hfX, hkX, -, -, X₁, st1⟩ := Y.newCold hexec (own := own) (C := cls) (index := ik) (n := 6) hown' hk' hins hini'
    (g := F0 m pc ls rest) rfl (by rw [hb]; exact d0) (Nat.le_refl _) (Nat.le_refl _)
  generalize hT1 : (T.setVm vm₁).pushCell { cls := cX, slots := kX.instanceTypes.map defaultValue, vm := .none } = T1 at X₁ st1
  have hcat : (Value.ref T.heap.size).category = 1 := rfl
  have hcellA : T1.heap[T.heap.size]? = some (freshCell cX kX) := by rw [← hT1]; exact State.heap_pushCell_size _ _
  have d3' : decode c.code (pc + 3) = .ok (.dup, 1) := by rw [hb]; exact d3
  obtain ⟨U, hsteps, hrun, hend, hW, hsame, ce, hce, hO⟩ := X₁.ctorThrow0 hexec htr (own := own) (cls := cls) (names := names) (ic := ic) hown' hcls hnames h (fun x hx => nomatch hx) hfX hkX hcellA (by rw [hhp, hT]; exact Nat.le_refl _)
    (g := { method := m, pc := pc + 4, locals := ls, stack := .ref T.heap.size :: .ref T.heap.size :: rest, locked := none }) rfl hsize rfl rfl (rest := rest) rfl
    (by rw [hb]; exact d4) (by rw [hb]; exact d7) hout hRframes (by simp only [List.map_cons, List.sum_cons, hcat]; omega) hlocks
  obtain ⟨f1, f2⟩ := vx_frame hsame
  rw [hhp] at f1 f2
  have hWs : s.WarmedH U.vm := State.WarmedH.trans hW0 hW
  have hcl : s.vm.findClass cls = some ce.cls := by
    have h9 := hO.cls
    rw [hvm] at h9
    exact h9
  have hall : s.sameButNew ({ U with vm := s.vm } : State) locs mc ms := by
    subst hA
    obtain ⟨e1, e2⟩ := hsame
    rw [State.setFrames_setFrames] at e1
    have h2 : (T.setVm s.vm).sameButNew ({ U with vm := s.vm } : State) [] (0 + 1) (0 + 6) := ⟨e1, e2⟩
    have h3 := X.same.trans h2
    rw [List.append_nil] at h3
    exact h3.mono hc hs
  refine ⟨U, ?_, .threw T.heap.size, hrun, hend, Or.inr ⟨T.heap.size, rfl, cls, ce, locs, hx U hWs.alike f1 (fun q hq => f2 q hq (fun z hz => nomatch hz)), hce, hO.vm, hcl, hWs, hall, hf⟩⟩
  refine st1 _ ?_
  show Steps p.tables e below (T1.setTop { method := m, pc := pc + 3, locals := ls, stack := .ref T.heap.size :: rest, locked := none }) _
  jvm_step X₁.here [X₁.here.top, hexec, d3', Value.category]
  exact hsteps
theorem vx_throwS {cc : ByteArray} {pc : Nat} (hexec : p.tables.exec = Jvm.exec) (hb : c.code = cc) (hl : l.stackTraces = false) {own cls text : String} {names : List String} {ik is ic mc ms sa : Nat} {A : Nat → Prop}
    (hown : s.vm.findClass own = some m.cls) (hcls : Bundle.fit cls = true) (hnames : ∀ n ∈ names, Bundle.fit n = true)
    (hk : (Cond.classLink own ik cls).before args s = true) (hini : (Cond.initialized cls).before args s = true) (hstr : vk_R own is text sa s) (hat : ∀ w ∈ vx_atS own ic cls names, w.before args s = true)
    (hgood : ∀ w ∈ Cond.classLink own ik cls :: Cond.initialized cls :: vx_atS own ic cls names, vx_ot w = true)
    (hU : vx_Zq Bundle.tN "UNASSIGNED_STACK" Bundle.steD A s s.heap) (hN : vx_Zq Bundle.tN "SUPPRESSED_SENTINEL" Bundle.listD A s s.heap) (hS : va_S A s.heap H locs) (hsize : ls.size = c.maxLocals)
    (d0 : decode cc pc = .ok (.new ik, 3)) (d3 : decode cc (pc + 3) = .ok (.dup, 1)) (d4 : decode cc (pc + 4) = .ok (.ldc is, 2)) (d6 : decode cc (pc + 6) = .ok (.invokespecial ic, 3)) (d9 : decode cc (pc + 9) = .ok (.athrow, 1))
    (hout : ∀ x ∈ c.exceptionTable.toList, covers x (pc + 9) = false)
    (hRframes : names.length + 3 < R.frames) (hRlocals : (rest.map fun v => v.category).sum + (13 * (names.length + 1) + 43) ≤ R.locals) (hRcells : cells + 1 ≤ R.cells) (hRslots : slots + 6 ≤ R.slots) (hlocks : meth.locks = false)
    (hx : ∀ t : State, s.vm.Alike t.vm → H.size ≤ t.heap.size → (∀ q : Nat, q < H.size → t.heap[q]? = H[q]?) → XC cls s t)
    (hf : ∀ z ∈ locs, free z.base) (hc : cells + 1 ≤ mc) (hs : slots + 6 ≤ ms) :
    W p l e R s m args below meth c H locs cells slots (vx_MQ below Qc XC args s mc ms free) (F0 m pc ls rest) := by
  intro T hT X
  have htr : e.platform.stackTraces = false := (show e.platform.stackTraces = l.stackTraces by rw [X.admits.platform]).trans hl
  have Y := vx_rebase X (R' := { frames := R.frames, locals := R.locals, cells := 1, slots := 6 }) (Nat.le_refl _) (Nat.le_refl _) hRcells hRslots
  obtain ⟨s', hA⟩ : ∃ z, z = (T.setVm s.vm).setFrames (.invoking m args :: below) := ⟨_, rfl⟩
  rw [← hA] at Y
  have hvm : s'.vm = s.vm := by rw [hA]; rfl
  have hhp : s'.heap = H := by rw [hA]; exact hT
  have hW0 : s.WarmedH s'.vm := by rw [hvm]; exact State.WarmedH.refl s
  have hat' : ∀ w ∈ vx_atS own ic cls names, w.before args s' = true := fun w hw => vx_ot_at hW0 hvm.symm (hgood w (List.mem_cons_of_mem _ (List.mem_cons_of_mem _ hw))) (hat w hw)
  have hk' : (Cond.classLink own ik cls).before args s' = true := vx_ot_at hW0 hvm.symm (hgood _ List.mem_cons_self) hk
  have hini' : (Cond.initialized cls).before args s' = true := vx_ot_at hW0 hvm.symm (hgood _ (List.mem_cons_of_mem _ List.mem_cons_self)) hini
  have hU' : vx_Zq Bundle.tN "UNASSIGNED_STACK" Bundle.steD A s' s'.heap := by rw [hhp]; exact vx_Zq.moved hW0.alike (hU.kept hS.2.1)
  have hN' : vx_Zq Bundle.tN "SUPPRESSED_SENTINEL" Bundle.listD A s' s'.heap := by rw [hhp]; exact vx_Zq.moved hW0.alike (hN.kept hS.2.1)
  have h : ∀ w ∈ Bundle.ownAtoms own ic cls names, w.before args s' = true := vx_own hat' (vx_isRefq hU'.1) (vx_isRefq hN'.1) hU'.2.word hN'.2.word
  have hown' : s'.vm.findClass own = some m.cls := by rw [hvm]; exact hown
  have hins : (Cond.instantiable cls 6).before args s' = true := h _ (by simp [Bundle.ownAtoms])
  obtain ⟨vm₁, cX, kX, hfX, hkX, -, -, X₁, st1⟩ := Y.newCold hexec (own := own) (C := cls) (index := ik) (n := 6) hown' hk' hins hini'
    (g := F0 m pc ls rest) rfl (by rw [hb]; exact d0) (Nat.le_refl _) (Nat.le_refl _)
  generalize hT1 : (T.setVm vm₁).pushCell { cls := cX, slots := kX.instanceTypes.map defaultValue, vm := .none } = T1 at X₁ st1
  have hcat : (Value.ref T.heap.size).category = 1 := rfl
  have hcellA : T1.heap[T.heap.size]? = some (freshCell cX kX) := by rw [← hT1]; exact State.heap_pushCell_size _ _
  have d3' : decode c.code (pc + 3) = .ok (.dup, 1) := by rw [hb]; exact d3
  have d4' : decode c.code (pc + 4) = .ok (.ldc is, 2) := by rw [hb]; exact d4
  have hstr' : vk_R own is text sa s' := vk_R.warm hW0 hstr
  obtain ⟨U, hsteps, hrun, hend, hW, hsame, ce, hce, hO⟩ := X₁.ctorThrowS hexec htr (own := own) (cls := cls) (names := names) (ic := ic) hown' hcls hnames h (fun x hx => nomatch hx) hfX hkX hcellA (by rw [hhp, hT]; exact Nat.le_refl _) (msg := .ref sa) rfl
    (g := { method := m, pc := pc + 6, locals := ls, stack := .ref sa :: .ref T.heap.size :: .ref T.heap.size :: rest, locked := none }) rfl hsize rfl rfl (rest := rest) rfl
    (by rw [hb]; exact d6) (by rw [hb]; exact d9) hout hRframes (by simp only [List.map_cons, List.sum_cons, hcat]; omega) hlocks
  obtain ⟨f1, f2⟩ := vx_frame hsame
  rw [hhp] at f1 f2
  have hWs : s.WarmedH U.vm := State.WarmedH.trans hW0 hW
  have hcl : s.vm.findClass cls = some ce.cls := by
    have h9 := hO.cls
    rw [hvm] at h9
    exact h9
  have hall : s.sameButNew ({ U with vm := s.vm } : State) locs mc ms := by
    subst hA
    obtain ⟨e1, e2⟩ := hsame
    rw [State.setFrames_setFrames] at e1
    have h2 : (T.setVm s.vm).sameButNew ({ U with vm := s.vm } : State) [] (0 + 1) (0 + 6) := ⟨e1, e2⟩
    have h3 := X.same.trans h2
    rw [List.append_nil] at h3
    exact h3.mono hc hs
  refine ⟨U, ?_, .threw T.heap.size, hrun, hend, Or.inr ⟨T.heap.size, rfl, cls, ce, locs, hx U hWs.alike f1 (fun q hq => f2 q hq (fun z hz => nomatch hz)), hce, hO.vm, hcl, hWs, hall, hf⟩⟩
  refine st1 _ ?_
  show Steps p.tables e below (T1.setTop { method := m, pc := pc + 3, locals := ls, stack := .ref T.heap.size :: rest, locked := none }) _
  jvm_step X₁.here [X₁.here.top, hexec, d3', Value.category]
  exact X₁.ldcString hexec (own := own) (text := text) (index := is) (a := sa) hown' hstr'.1 hstr'.2
    (g := { method := m, pc := pc + 4, locals := ls, stack := .ref T.heap.size :: .ref T.heap.size :: rest, locked := none }) rfl d4' _ hsteps
theorem vx_throwSW {cc : ByteArray} {pc : Nat} (hexec : p.tables.exec = Jvm.exec) (hb : c.code = cc) (hl : l.stackTraces = false) {own cls text : String} {names : List String} {ik is ic mc ms sa : Nat} {A : Nat → Prop}
    (hown : s.vm.findClass own = some m.cls) (hcls : Bundle.fit cls = true) (hnames : ∀ n ∈ names, Bundle.fit n = true)
    (hk : (Cond.classLink own ik cls).before args s = true) (hini : (Cond.initialized cls).before args s = true) (hstr : vk_R own is text sa s) (hat : ∀ w ∈ vx_atS own ic cls names, w.before args s = true)
    (hgood : ∀ w ∈ Cond.classLink own ik cls :: Cond.initialized cls :: vx_atS own ic cls names, vx_ot w = true)
    (hU : vx_Zq Bundle.tN "UNASSIGNED_STACK" Bundle.steD A s s.heap) (hN : vx_Zq Bundle.tN "SUPPRESSED_SENTINEL" Bundle.listD A s s.heap) (hS : va_S A s.heap H locs) (hsize : ls.size = c.maxLocals)
    (d0 : decode cc pc = .ok (.new ik, 3)) (d3 : decode cc (pc + 3) = .ok (.dup, 1)) (d4 : decode cc (pc + 4) = .ok (.ldc_w is, 3)) (d7 : decode cc (pc + 7) = .ok (.invokespecial ic, 3)) (d10 : decode cc (pc + 10) = .ok (.athrow, 1))
    (hout : ∀ x ∈ c.exceptionTable.toList, covers x (pc + 10) = false)
    (hRframes : names.length + 3 < R.frames) (hRlocals : (rest.map fun v => v.category).sum + (13 * (names.length + 1) + 43) ≤ R.locals) (hRcells : cells + 1 ≤ R.cells) (hRslots : slots + 6 ≤ R.slots) (hlocks : meth.locks = false)
    (hx : ∀ t : State, s.vm.Alike t.vm → H.size ≤ t.heap.size → (∀ q : Nat, q < H.size → t.heap[q]? = H[q]?) → XC cls s t)
    (hf : ∀ z ∈ locs, free z.base) (hc : cells + 1 ≤ mc) (hs : slots + 6 ≤ ms) :
    W p l e R s m args below meth c H locs cells slots (vx_MQ below Qc XC args s mc ms free) (F0 m pc ls rest) := by
  intro T hT X
  have htr : e.platform.stackTraces = false := (show e.platform.stackTraces = l.stackTraces by rw [X.admits.platform]).trans hl
  have Y := vx_rebase X (R' := { frames := R.frames, locals := R.locals, cells := 1, slots := 6 }) (Nat.le_refl _) (Nat.le_refl _) hRcells hRslots
  obtain ⟨s', hA⟩ : ∃ z, z = (T.setVm s.vm).setFrames (.invoking m args :: below) := ⟨_, rfl⟩
  rw [← hA] at Y
  have hvm : s'.vm = s.vm := by rw [hA]; rfl
  have hhp : s'.heap = H := by rw [hA]; exact hT
  have hW0 : s.WarmedH s'.vm := by rw [hvm]; exact State.WarmedH.refl s
  have hat' : ∀ w ∈ vx_atS own ic cls names, w.before args s' = true := fun w hw => vx_ot_at hW0 hvm.symm (hgood w (List.mem_cons_of_mem _ (List.mem_cons_of_mem _ hw))) (hat w hw)
  have hk' : (Cond.classLink own ik cls).before args s' = true := vx_ot_at hW0 hvm.symm (hgood _ List.mem_cons_self) hk
  have hini' : (Cond.initialized cls).before args s' = true := vx_ot_at hW0 hvm.symm (hgood _ (List.mem_cons_of_mem _ List.mem_cons_self)) hini
  have hU' : vx_Zq Bundle.tN "UNASSIGNED_STACK" Bundle.steD A s' s'.heap := by rw [hhp]; exact vx_Zq.moved hW0.alike (hU.kept hS.2.1)
  have hN' : vx_Zq Bundle.tN "SUPPRESSED_SENTINEL" Bundle.listD A s' s'.heap := by rw [hhp]; exact vx_Zq.moved hW0.alike (hN.kept hS.2.1)
  have h : ∀ w ∈ Bundle.ownAtoms own ic cls names, w.before args s' = true := vx_own hat' (vx_isRefq hU'.1) (vx_isRefq hN'.1) hU'.2.word hN'.2.word
  have hown' : s'.vm.findClass own = some m.cls := by rw [hvm]; exact hown
  have hins : (Cond.instantiable cls 6).before args s' = true := h _ (by simp [Bundle.ownAtoms])
  obtain ⟨vm₁, cX, kX, hfX, hkX, -, -, X₁, st1⟩ := Y.newCold hexec (own := own) (C := cls) (index := ik) (n := 6) hown' hk' hins hini'
    (g := F0 m pc ls rest) rfl (by rw [hb]; exact d0) (Nat.le_refl _) (Nat.le_refl _)
  generalize hT1 : (T.setVm vm₁).pushCell { cls := cX, slots := kX.instanceTypes.map defaultValue, vm := .none } = T1 at X₁ st1
  have hcat : (Value.ref T.heap.size).category = 1 := rfl
  have hcellA : T1.heap[T.heap.size]? = some (freshCell cX kX) := by rw [← hT1]; exact State.heap_pushCell_size _ _
  have d3' : decode c.code (pc + 3) = .ok (.dup, 1) := by rw [hb]; exact d3
  have d4' : decode c.code (pc + 4) = .ok (.ldc_w is, 3) := by rw [hb]; exact d4
  have hstr' : vk_R own is text sa s' := vk_R.warm hW0 hstr
  obtain ⟨U, hsteps, hrun, hend, hW, hsame, ce, hce, hO⟩ := X₁.ctorThrowS hexec htr (own := own) (cls := cls) (names := names) (ic := ic) hown' hcls hnames h (fun x hx => nomatch hx) hfX hkX hcellA (by rw [hhp, hT]; exact Nat.le_refl _) (msg := .ref sa) rfl
    (g := { method := m, pc := pc + 7, locals := ls, stack := .ref sa :: .ref T.heap.size :: .ref T.heap.size :: rest, locked := none }) rfl hsize rfl rfl (rest := rest) rfl
    (by rw [hb]; exact d7) (by rw [hb]; exact d10) hout hRframes (by simp only [List.map_cons, List.sum_cons, hcat]; omega) hlocks
  obtain ⟨f1, f2⟩ := vx_frame hsame
  rw [hhp] at f1 f2
  have hWs : s.WarmedH U.vm := State.WarmedH.trans hW0 hW
  have hcl : s.vm.findClass cls = some ce.cls := by
    have h9 := hO.cls
    rw [hvm] at h9
    exact h9
  have hall : s.sameButNew ({ U with vm := s.vm } : State) locs mc ms := by
    subst hA
    obtain ⟨e1, e2⟩ := hsame
    rw [State.setFrames_setFrames] at e1
    have h2 : (T.setVm s.vm).sameButNew ({ U with vm := s.vm } : State) [] (0 + 1) (0 + 6) := ⟨e1, e2⟩
    have h3 := X.same.trans h2
    rw [List.append_nil] at h3
    exact h3.mono hc hs
  refine ⟨U, ?_, .threw T.heap.size, hrun, hend, Or.inr ⟨T.heap.size, rfl, cls, ce, locs, hx U hWs.alike f1 (fun q hq => f2 q hq (fun z hz => nomatch hz)), hce, hO.vm, hcl, hWs, hall, hf⟩⟩
  refine st1 _ ?_
  show Steps p.tables e below (T1.setTop { method := m, pc := pc + 3, locals := ls, stack := .ref T.heap.size :: rest, locked := none }) _
  jvm_step X₁.here [X₁.here.top, hexec, d3', Value.category]
  exact X₁.ldcStringW hexec (own := own) (text := text) (index := is) (a := sa) hown' hstr'.1 hstr'.2
    (g := { method := m, pc := pc + 4, locals := ls, stack := .ref T.heap.size :: .ref T.heap.size :: rest, locked := none }) rfl d4' _ hsteps
end Ends
section Bodies
variable {l : Launch}
theorem vx_ofW {y : MethodName} {ws ws' : List Cond} {rm : Room} {Pc : Array Value → State → Prop} {Qc : Array Value → State → Outcome → State → Prop} {XC : String → State → State → Prop} {mc ms : Nat} {free : Addr → Prop} {cc : ByteArray} {maxL : Nat} {ret : Option FieldType}
    (hy : plainName y.cls = true) (hw : ws = Cond.code y cc maxL ret :: ws')
    (body : ∀ p e s m args below meth c s₁, BodyLoose p l y (headSpec ws rm) cc maxL ret e s m args below meth c s₁ → c.maxLocals = maxL → (∀ x ∈ c.exceptionTable.toList, False) → Pc args s →
      W p l e (headSpec ws rm).room s m args below meth c s.heap [] 0 0 (vx_MQ below Qc XC args s mc ms free) (entryFrame m args maxL)) : vx_Met l y ws rm Pc Qc XC mc ms free := by
  refine MetFree.of_bodyS (code := cc) (maxLocals := maxL) (ret := ret) hy ?_ ?_
  · intro args s m h hn
    obtain ⟨meth, c, h1, h2, h3, h4, h5, h6, -, -⟩ := Cond.code_spec hn (atoms_spec (ws := ws) h _ (by rw [hw]; exact List.mem_cons_self))
    exact ⟨meth, c, h1, h2, h3, h4, h5, h6⟩
  · intro p e s m args below meth c s₁ B hml hP _
    have hh0 : s₁.heap = s.heap := by rw [B.state]; rfl
    have ht : ∀ x ∈ c.exceptionTable.toList, False := by
      obtain ⟨meth9, c9, h1, h2, -, -, -, -, h7, -⟩ := Cond.code_spec B.named (atoms_spec (ws := ws) B.pre _ (by rw [hw]; exact List.mem_cons_self))
      cases Option.some.inj (h1.symm.trans B.method)
      cases Option.some.inj (h2.symm.trans (Stand.of_body B).code)
      intro x hx
      rw [Array.isEmpty_iff.mp h7] at hx
      cases hx
    obtain ⟨t, a1, o, b1, b2, b3⟩ := body p e s m args below meth c s₁ B hml ht hP s₁ hh0 (Stand.of_body B)
    exact ⟨t, o, a1, b1, b2, b3⟩
theorem vx_table {p : Program} {x y : MethodName} {S : Spec} {cc bytes : ByteArray} {maxL maxL' : Nat} {ret ret' : Option FieldType} {e : Env} {s s₁ : State} {m : MethodId} {args : Array Value} {below : List Frame} {meth : Method} {c : Code} {hh : List (Nat × Nat × Nat × Nat)}
    (B : BodyLoose p l y S cc maxL ret e s m args below meth c s₁) (h : (Cond.codeWith y bytes maxL' ret' hh).before args s = true) : c.exceptionTable.toList = tableOf hh := by
  obtain ⟨m9, meth9, c9, hn9, h1, h2, -, -, h6, -⟩ := Cond.codeWith_spec h
  cases Option.some.inj (hn9.symm.trans B.named)
  cases Option.some.inj (h1.symm.trans B.method)
  cases Option.some.inj (h2.symm.trans (Stand.of_body B).code)
  rw [← h6, table_eq]
end Bodies
end VXA
/-! ===== END ===== -/
/-! ===== BEGIN a static call of a method with an exception table ===== -/
section VXS
variable {p : Program} {l : Launch} {e : Env} {R : Room} {s : State} {m : MethodId} {args : Array Value} {below : List Frame} {meth : Method} {c : Code} {T : State} {H : Heap} {locs : List Loc} {cells slots : Nat}
abbrev vx_CSW (R : Room) (s : State) (args : Array Value) (own : String) (index : Nat) (y : MethodName) (bytes : ByteArray) (maxL : Nat) (ret : Option FieldType) (hh : List (Nat × Nat × Nat × Nat)) (ws : List Cond) (rm : Room) (mc ms n : Nat) : Prop :=
  (rm.cells = mc ∧ rm.slots = ms ∧ rm.frames + 1 ≤ R.frames ∧ 8 + (maxL + 11) + rm.locals ≤ R.locals ∧ (∀ w ∈ ws, ∀ (a' : Array Value) (U : State), s.WarmedH U.vm → w.before a' U = true) ∧ Cond.codeWith y bytes maxL ret hh ∈ ws) ∧
  (Cond.codeWith y bytes maxL ret hh).before args s = true ∧ (Cond.initialized y.cls).before args s = true ∧ (y.cls ≠ "java/lang/invoke/MethodHandle" ∧ y.cls ≠ "java/lang/invoke/VarHandle") ∧
  (∀ sig, parseMethodDescriptor y.desc = some sig → n = sig.parameters.length) ∧ (Cond.methodLink own index y).before args s = true ∧ (Cond.static y).before args s = true
theorem vx_cwSW {own : String} {index maxL mc ms : Nat} {y : MethodName} {bytes : ByteArray} {ret : Option FieldType} {hh : List (Nat × Nat × Nat × Nat)} {Ts ws ws' : List Cond} {rm : Room} (n : Nat) (ht : ∀ w ∈ Ts, w.before args s = true) (hT : GoodIn Ts (va_wsS own index y ws)) (hw : ws = Cond.codeWith y bytes maxL ret hh :: ws') (hrc : rm.cells = mc) (hrs : rm.slots = ms)
    (hd : y.cls ≠ "java/lang/invoke/MethodHandle" ∧ y.cls ≠ "java/lang/invoke/VarHandle" ∧ (parseMethodDescriptor y.desc).map (fun d => d.parameters.length) = some n) (hR : rm.frames + 1 ≤ R.frames ∧ 8 + (maxL + 11) + rm.locals ≤ R.locals) :
    vx_CSW R s args own index y bytes maxL ret hh ws rm mc ms n := by
  have ok : ∀ w ∈ va_wsS own index y ws, w.before args s = true := fun w h => ht w (hT w h).1
  have hG : GoodIn Ts ws := fun w h => hT w (by unfold va_wsS; exact List.mem_append_right _ h)
  have hc : Cond.codeWith y bytes maxL ret hh ∈ ws := by rw [hw]; exact List.mem_cons_self
  refine ⟨⟨hrc, hrs, hR.1, hR.2, pay_in ht hG, hc⟩, ht _ (hG _ hc).1, ok _ (by simp [va_wsS]), ⟨hd.1, hd.2.1⟩, fun sig h => ?_, ok _ (by simp [va_wsS]), ok _ (by simp [va_wsS])⟩
  have h2 := hd.2.2
  rw [h] at h2
  exact (Option.some.inj h2).symm
theorem vx_callSW (X : Stand p l e R s m args below meth c T locs cells slots) (hexec : p.tables.exec = Jvm.exec) {own : String} {index : Nat} {y : MethodName} {bytes : ByteArray} {maxL : Nat} {ret : Option FieldType} {hh : List (Nat × Nat × Nat × Nat)}
    (hown : s.vm.findClass own = some m.cls) (hlink : (Cond.methodLink own index y).before args s = true) (hstat : (Cond.static y).before args s = true) (hinit : (Cond.initialized y.cls).before args s = true)
    (hcode : (Cond.codeWith y bytes maxL ret hh).before args s = true) (hy : y.cls ≠ "java/lang/invoke/MethodHandle" ∧ y.cls ≠ "java/lang/invoke/VarHandle")
    {W9 : Nat} {Pre : Pt → Array Value → Prop} {Post : Pt → Array Value → Option Value → Pt → Prop} (hK : Back l R p e below s args y 3 W9 Pre Post)
    {g : JFrame} (hg : g.method = m) (hsize : g.locals.size = c.maxLocals) {argsL rest : List Value} (hlen : ∀ sig, parseMethodDescriptor y.desc = some sig → argsL.length = sig.parameters.length)
    (hstack : g.stack = argsL.reverse ++ rest) (hW : 2 * g.monitorRoom + (rest.map fun v => v.category).sum ≤ W9) (hdg : decode c.code g.pc = .ok (.invokestatic index, 3))
    (hpre : ∀ vm₁, s.WarmedH vm₁ → Pre ⟨T.setVm vm₁, locs, cells, slots⟩ argsL.toArray) :
    ∃ (v : Option Value) (vm₁ : Vm) (B : Pt), s.WarmedH vm₁ ∧ Stand p l e R s m args below meth c B.U B.locs B.cells B.slots ∧ Post ⟨T.setVm vm₁, locs, cells, slots⟩ argsL.toArray v B ∧
      ∀ target, Steps p.tables e below (B.U.setTop { g with pc := g.pc + 3, stack := v.toList ++ rest }) target → Steps p.tables e below (T.setTop g) target := by
  obtain ⟨mk, methM, cM, hnamed, hmethM, -, -, -, -, -, -, hsigM⟩ := Cond.codeWith_spec hcode
  have hstatic : methM.isStatic = true := Cond.static_spec hnamed hmethM hstat
  obtain ⟨kP, hkP, -⟩ := className_of_methodNamed hnamed
  have hinitP : kP.init = .initialized := Cond.initialized_spec (findClass_of_methodNamed hnamed) hkP hinit
  obtain ⟨vm₁, X₁, hstep₁⟩ := X.invokestatic hexec hown hlink hnamed hmethM hstatic hkP hinitP hy (g := g) hg (argsL := argsL) (rest := rest) (hlen _ hsigM) hstack hdg
  obtain ⟨v, B, X', hpost, hsteps⟩ := hK m meth c ⟨T.setVm vm₁, locs, cells, slots⟩ { g with stack := rest } (.invokestatic index) mk argsL.toArray X₁ hg hsize hdg hW (X₁.named hnamed) (hpre vm₁ X₁.warmed)
  exact ⟨v, vm₁, B, X₁.warmed, X', hpost, fun target h => hstep₁ _ fun acts => by rw [doInvoke_state]; exact hsteps.trans h⟩
theorem vx_runSW {y : MethodName} {bytes cc : ByteArray} {maxL nL mc ms n index : Nat} {ret : Option FieldType} {hh : List (Nat × Nat × Nat × Nat)} {ws : List Cond} {rm : Room} {Pc : Array Value → State → Prop} {Qc : Array Value → State → Outcome → State → Prop} {free : Addr → Prop} {Ts : List Cond} {own : String} {As rest : List Value} {g : JFrame}
    (S : CallFix p m c cc nL s args Ts own) (hM : Met l y ws rm Pc Qc mc ms free) (cw : vx_CSW R s args own index y bytes maxL ret hh ws rm mc ms n) (hp : PreS s H Pc As)
    (hg : g.method = m) (hn : As.length = n) (hsize : g.locals.size = nL) (hstack : g.stack = As.reverse ++ rest) (hW : 2 * g.monitorRoom + (rest.map fun v => v.category).sum ≤ 8) (hdg : decode cc g.pc = .ok (.invokestatic index, 3)) (hf : cells + mc ≤ R.cells ∧ slots + ms ≤ R.slots) :
    va_Run p l e R s m args below meth c H locs cells slots mc ms g rest (Qc As.toArray) (free) := by
  obtain ⟨⟨hrc, hrs, hfr, hlo, hws, hcw⟩, hcode, hini, hy, hlen, hl, hstt⟩ := cw
  have hK : Back l R p e below s args y 3 8 (PreOf R mc ms Pc) (PostOf Qc mc ms free) := va_backW (hh := hh) (bytes := bytes) (maxL := maxL) (ret := ret) hM hp.1 hrc hrs hfr hlo hws hcw (fun a' U hW => word_at hW (Or.inl (by first | rfl | simp [Cond.onTables, Cond.keeps, Cond.steady])) hini)
  obtain ⟨hx, hb, hml, ho, -⟩ := S
  intro T hT X
  obtain ⟨v, vm₁, ⟨U', l2, c2, s2⟩, hW₁, X', ⟨g', mk, t, L, e1, e2, hq, h1, hL, h2, h3⟩, st⟩ := vx_callSW X hx (hh := hh) (bytes := bytes) (maxL := maxL) (ret := ret) ho hl hstt hini hcode hy hK hg (hsize.trans hml.symm) (argsL := As) (rest := rest) (fun sig h => hn.trans (hlen sig h)) hstack hW (by rw [hb]; exact hdg)
    (fun vm₁ hW₁ => ⟨hf.1, hf.2, hp.2 (T.setVm vm₁) hT hW₁⟩)
  dsimp only [Pt.U, Pt.locs, Pt.cells, Pt.slots] at X' e1 e2 h1 h2 h3 st
  subst h1; subst h2; subst h3
  exact ⟨v, (T.setVm vm₁).calling g' mk As.toArray, t, U', L, hT, X', hL, e1, e2, hq, st⟩
theorem vx_lt {D : va_G} {cl : List vw_C} {ws : va_W} {H1 : Heap} (h : va_P D cl ws H1) {k : Nat} {q : Nat × va_E} (hk : ws[k]? = some q) : q.1 < H1.size := (h k q hk).lt
end VXS
/-! ===== END ===== -/
/-! ===== BEGIN methods with a table of their own: called by a name, returning or throwing ===== -/
section VXH
/-! vx_backW, vx_callVX, vx_callSX, vx_callVW, vx_runVW, vx_runVX, vx_runSX, vx_ofWH follow the same proofs as their sisters above (Free/Laws.lean, Shelf42/LK1.lean); vx_outP calls Shelf42/NT130.lean (outThrough). -/
section
variable {l : Launch} {R : Room} {p : Program} {e : Env} {below : List Frame} {s : State} {sargs : Array Value} {y : MethodName} {len W9 : Nat}
theorem vx_backW {ws : List Cond} {rm : Room} {Pc : Array Value → State → Prop} {Qc : Array Value → State → Outcome → State → Prop} {XC : String → State → State → Prop} {mc ms : Nat} {free : Addr → Prop} {bytes : ByteArray} {maxL : Nat} {ret : Option FieldType} {hh : List (Nat × Nat × Nat × Nat)}
    (hM : vx_Met l y ws rm Pc Qc XC mc ms free) (hblind : FrameBlind Pc) (hrc : rm.cells = mc) (hrs : rm.slots = ms)
    (hframes : rm.frames + 1 ≤ R.frames) (hlocals : W9 + (maxL + 11) + rm.locals ≤ R.locals)
    (hws : ∀ w ∈ ws, ∀ a' U, s.WarmedH U.vm → w.before a' U = true) (hcode : Cond.codeWith y bytes maxL ret hh ∈ ws) (hinit : ∀ a' U, s.WarmedH U.vm → (Cond.initialized y.cls).before a' U = true) :
    vx_Back l R p e below s sargs y len W9 (PreOf R mc ms Pc) (PostOf Qc mc ms free) (vx_Post XC mc ms free) := by
  intro m meth c A g ig mk a X hg hsize hdg hW hn hp
  have h1 : (headSpec ws rm).pre.before a A.U = true := atoms_intro fun w hw => hws w hw _ _ X.warmed
  have h2 : (Cond.codeWith y bytes maxL ret hh).before a A.U = true := hws _ hcode _ _ X.warmed
  have h3 : (Cond.initialized y.cls).before a A.U = true := hinit _ _ X.warmed
  have h4 : A.cells + (headSpec ws rm).room.cells ≤ R.cells := by rw [show (headSpec ws rm).room.cells = mc from hrc]; exact hp.1
  have h5 : A.slots + (headSpec ws rm).room.slots ≤ R.slots := by rw [show (headSpec ws rm).room.slots = ms from hrs]; exact hp.2.1
  have hPc : Pc a (A.U.calling g mk a) := hblind _ _ _ _ hp.2.2
  obtain ⟨U, Ls, c0, s0⟩ := A
  dsimp only [Pt.U, Pt.locs, Pt.cells, Pt.slots] at h1 h2 h3 h4 h5 X hn hPc ⊢
  obtain ⟨m9, methY, cY, hn9, hmY, hcY, -, hlY, -⟩ := Cond.codeWith_spec h2
  cases Option.some.inj (hn9.symm.trans hn)
  obtain ⟨kY, hkY, -⟩ := className_of_methodNamed hn
  have hinitY : kY.init = .initialized := Cond.initialized_spec (findClass_of_methodNamed hn) hkY h3
  have h : At U g.method c below := by rw [hg]; exact X.here
  have hlocals9 : W9 + (maxL + 11) + (headSpec ws rm).room.locals ≤ R.locals := hlocals
  have happ : (headSpec ws rm).appliesLoose y e.platform (U.calling g mk a) = true :=
    Spec.appliesLoose_calling (g := g) h hdg hn hkY hinitY
      (X.room_calling (g := g) (R' := (headSpec ws rm).room) hsize hmY hcY hframes (by rw [hlY]; omega) h4 h5) h1
  obtain ⟨mid, hmid⟩ := h.above
  have hfr : (U.setTop g).frames = (.java g :: mid) ++ below := by rw [State.frames_setTop' g h.top, hmid]; rfl
  obtain ⟨o, s₂, hsteps, -, hend, hq⟩ := Steps.callFree hM p X.admits X.cas X.clock (acts := []) hfr happ hPc trivial
  have hq' : vx_Q Qc XC mc ms free a (U.calling g mk a) o s₂ := hq
  rw [State.frames_setTop' g h.top] at hend
  obtain ⟨g₀, hg0⟩ := Option.isSome_iff_exists.mp h.top
  obtain ⟨r, hr⟩ := State.topJava?_eq_some.mp hg0
  have hr' : (({ U with heap := s₂.heap, slotsUsed := s₂.slotsUsed } : State).setVm s₂.vm).frames = .java g₀ :: r := hr
  rcases hq' with ⟨hqc, L, hfe, hL⟩ | ⟨q, rfl, E, ce, L, hx, hce, hcv, hcl, hW₂, hsm, hL⟩
  · obtain ⟨⟨v, rfl⟩, hW₂, e2, q2, q3, q4, q5, q6⟩ := id hfe
    have e3 : s₂ = ({ (U.calling g mk a).setFrames s₂.frames with heap := s₂.heap, slotsUsed := s₂.slotsUsed } : State).setVm s₂.vm := by
      have : s₂ = ({ s₂ with vm := (U.calling g mk a).vm } : State).setVm s₂.vm := rfl
      rw [e2] at this
      exact this
    obtain ⟨c₂, i₂, len₂, hc₂, hd₂, hf₂⟩ := hend
    have hW' : U.WarmedH s₂.vm := hW₂
    have hcc : c₂ = c := by
      have h1 : s₂.code? g.method = U.code? g.method := by
        rw [State.code?_eq, State.code?_eq, hW'.alike.method?]
      exact Option.some.inj (hc₂.symm.trans (h1.trans h.code))
    subst hcc
    have hlen : len₂ = len := by rw [hdg] at hd₂; cases hd₂; rfl
    subst hlen
    have hs₂ : s₂ = (({ U with heap := s₂.heap, slotsUsed := s₂.slotsUsed } : State).setVm s₂.vm).setTop { g with pc := g.pc + len₂, stack := v.toList ++ g.stack } := by
      refine e3.trans ?_
      rw [hf₂, State.calling_eq h.top, State.setFrames_setFrames, State.setTop_of_frames _ hr', hr]
      rfl
    have hsame : U.sameButNew ({ U with heap := s₂.heap, slotsUsed := s₂.slotsUsed } : State) L mc ms := by
      refine ⟨?_, q2, q3, q4, q5, q6⟩
      obtain ⟨t, ht, -⟩ := State.frames_cons hr
      show ({ U with heap := s₂.heap, slotsUsed := s₂.slotsUsed } : State) = { U.setFrames U.frames with heap := s₂.heap, slotsUsed := s₂.slotsUsed }
      rw [State.setFrames_self ht]
    subst hg
    refine Or.inl ⟨v, ⟨(({ U with heap := s₂.heap, slotsUsed := s₂.slotsUsed } : State).setVm s₂.vm), Ls ++ L, c0 + mc, s0 + ms⟩,
      ⟨X.admits, X.cas, X.clock, X.frames, X.room, X.hears, X.method, X.code, (X.here.setHeapUsed s₂.heap s₂.slotsUsed).setVm hW'.alike, X.tail, State.WarmedH.trans X.warmed hW', X.limits, X.bytes, X.same.trans (hsame.setVm s.vm)⟩,
      ⟨g, mk, s₂, L, rfl, rfl, hqc, rfl, hL, rfl, rfl⟩, ?_⟩
    show Steps p.tables e below _ ((({ U with heap := s₂.heap, slotsUsed := s₂.slotsUsed } : State).setVm s₂.vm).setTop { g with pc := g.pc + len₂, stack := v.toList ++ g.stack })
    rw [← hs₂]
    exact hsteps
  · obtain ⟨e2, q2, q3, q4, q5, q6⟩ := id hsm
    have e3 : s₂ = ({ (U.calling g mk a).setFrames s₂.frames with heap := s₂.heap, slotsUsed := s₂.slotsUsed } : State).setVm s₂.vm := by
      have : s₂ = ({ s₂ with vm := (U.calling g mk a).vm } : State).setVm s₂.vm := rfl
      rw [e2] at this
      exact this
    have hf₂ : s₂.frames = .throwing q :: .java g :: U.frames.tail := hend
    have hW' : U.WarmedH s₂.vm := hW₂
    have hs₂ : s₂ = ((({ U with heap := s₂.heap, slotsUsed := s₂.slotsUsed } : State).setVm s₂.vm).setTop g).pushFrame (.throwing q) := by
      refine e3.trans ?_
      rw [hf₂, State.calling_eq h.top, State.setFrames_setFrames, State.pushFrame, State.frames_setTop _ hr', State.setTop_of_frames _ hr', State.setFrames_setFrames, hr]
      rfl
    have hsame : U.sameButNew ({ U with heap := s₂.heap, slotsUsed := s₂.slotsUsed } : State) L mc ms := by
      refine ⟨?_, q2, q3, q4, q5, q6⟩
      obtain ⟨t, ht, -⟩ := State.frames_cons hr
      show ({ U with heap := s₂.heap, slotsUsed := s₂.slotsUsed } : State) = { U.setFrames U.frames with heap := s₂.heap, slotsUsed := s₂.slotsUsed }
      rw [State.setFrames_self ht]
    subst hg
    refine Or.inr ⟨q, ⟨(({ U with heap := s₂.heap, slotsUsed := s₂.slotsUsed } : State).setVm s₂.vm), Ls ++ L, c0 + mc, s0 + ms⟩,
      ⟨X.admits, X.cas, X.clock, X.frames, X.room, X.hears, X.method, X.code, (X.here.setHeapUsed s₂.heap s₂.slotsUsed).setVm hW'.alike, X.tail, State.WarmedH.trans X.warmed hW', X.limits, X.bytes, X.same.trans (hsame.setVm s.vm)⟩,
      ⟨g, mk, s₂, L, E, ce, rfl, rfl, hx, hce, hcv, hcl, rfl, hL, rfl, rfl⟩, ?_⟩
    show Steps p.tables e below _ (((({ U with heap := s₂.heap, slotsUsed := s₂.slotsUsed } : State).setVm s₂.vm).setTop g).pushFrame (.throwing q))
    rw [← hs₂]
    exact hsteps
end
variable {p : Program} {l : Launch} {e : Env} {R : Room} {s : State} {m : MethodId} {args : Array Value} {below : List Frame} {meth : Method} {c : Code} {T : State} {H : Heap} {locs : List Loc} {cells slots : Nat}
theorem vx_callVX (X : Stand p l e R s m args below meth c T locs cells slots) (hexec : p.tables.exec = Jvm.exec) {own C : String} {index : Nat} {y : MethodName} {bytes : ByteArray} {maxL : Nat} {ret : Option FieldType} {hh : List (Nat × Nat × Nat × Nat)}
    (hown : s.vm.findClass own = some m.cls) (hlink : (Cond.methodLink own index y).before args s = true) (hinst : (Cond.instanceMethod y).before args s = true) (hsel : (Cond.selects C y y).before args s = true)
    (hcode : (Cond.codeWith y bytes maxL ret hh).before args s = true) (hy : y.cls ≠ "java/lang/invoke/MethodHandle" ∧ y.cls ≠ "java/lang/invoke/VarHandle")
    {W9 : Nat} {Pre : Pt → Array Value → Prop} {Post : Pt → Array Value → Option Value → Pt → Prop} {PostX : Pt → Array Value → Addr → Pt → Prop} (hK : vx_Back l R p e below s args y 3 W9 Pre Post PostX)
    {b : Addr} {cellB : Cell} (hcell : T.heap[b]? = some cellB) (hobj : cellB.vm.isStatics = false) (hcls : s.vm.findClass C = some cellB.cls)
    {g : JFrame} (hg : g.method = m) (hsize : g.locals.size = c.maxLocals) {argsL rest : List Value} (hlen : ∀ sig, parseMethodDescriptor y.desc = some sig → argsL.length = sig.parameters.length)
    (hstack : g.stack = argsL.reverse ++ .ref b :: rest) (hW : 2 * g.monitorRoom + (rest.map fun v => v.category).sum ≤ W9) (hdg : decode c.code g.pc = .ok (.invokevirtual index, 3))
    (hpre : ∀ vm₁, s.WarmedH vm₁ → Pre ⟨T.setVm vm₁, locs, cells, slots⟩ (Value.ref b :: argsL).toArray) :
    (∃ (v : Option Value) (vm₁ : Vm) (B : Pt), s.WarmedH vm₁ ∧ Stand p l e R s m args below meth c B.U B.locs B.cells B.slots ∧ Post ⟨T.setVm vm₁, locs, cells, slots⟩ (Value.ref b :: argsL).toArray v B ∧
      ∀ target, Steps p.tables e below (B.U.setTop { g with pc := g.pc + 3, stack := v.toList ++ rest }) target → Steps p.tables e below (T.setTop g) target) ∨
    (∃ (q : Addr) (vm₁ : Vm) (B : Pt), s.WarmedH vm₁ ∧ Stand p l e R s m args below meth c B.U B.locs B.cells B.slots ∧ PostX ⟨T.setVm vm₁, locs, cells, slots⟩ (Value.ref b :: argsL).toArray q B ∧
      Steps p.tables e below (T.setTop g) ((B.U.setTop { g with stack := rest }).pushFrame (.throwing q))) := by
  obtain ⟨mk, methM, hnamed, hmethM, hstM, habM⟩ := Cond.instanceMethod_spec hinst
  obtain ⟨m8, methM', cM, hn8, hmethM', -, -, -, -, -, -, hsigM⟩ := Cond.codeWith_spec hcode
  cases Option.some.inj (hn8.symm.trans hnamed)
  cases hmethM.symm.trans hmethM'
  obtain ⟨c2, r2, m2, q1, q2, q3, q4, kP, hkP, hkPi⟩ := Cond.selects_spec hsel
  cases hcls.symm.trans q1
  cases (State.methodFound?_of_named hnamed hy).symm.trans q2
  cases hnamed.symm.trans q3
  have hselP : selectMethod e.platform s.vm cellB.cls mk = .method mk := by rw [Launch.admits_selectMethod X.admits]; exact q4
  obtain ⟨vm₁, X₁, hstep₁⟩ := X.invokevirtual hexec hown hlink hnamed hmethM hstM hkP hkPi hy (a := b) (cell := cellB) hcell
    (fun z h => by rw [h] at hobj; cases hobj) hselP hmethM habM hkP hkPi (g := g) hg (argsL := argsL) (rest := rest) (hlen _ hsigM) hstack hdg
  rcases hK m meth c ⟨T.setVm vm₁, locs, cells, slots⟩ { g with stack := rest } (.invokevirtual index) mk (Value.ref b :: argsL).toArray X₁ hg hsize hdg hW (X₁.named hnamed) (hpre vm₁ X₁.warmed) with ⟨v, B, X', hpost, hsteps⟩ | ⟨q, B, X', hpost, hsteps⟩
  · exact Or.inl ⟨v, vm₁, B, X₁.warmed, X', hpost, fun target h => hstep₁ _ fun acts => by rw [doInvoke_state]; exact hsteps.trans h⟩
  · exact Or.inr ⟨q, vm₁, B, X₁.warmed, X', hpost, hstep₁ _ fun acts => by rw [doInvoke_state]; exact hsteps⟩
theorem vx_callSX (X : Stand p l e R s m args below meth c T locs cells slots) (hexec : p.tables.exec = Jvm.exec) {own : String} {index : Nat} {y : MethodName} {bytes : ByteArray} {maxL : Nat} {ret : Option FieldType} {hh : List (Nat × Nat × Nat × Nat)}
    (hown : s.vm.findClass own = some m.cls) (hlink : (Cond.methodLink own index y).before args s = true) (hstat : (Cond.static y).before args s = true) (hinit : (Cond.initialized y.cls).before args s = true)
    (hcode : (Cond.codeWith y bytes maxL ret hh).before args s = true) (hy : y.cls ≠ "java/lang/invoke/MethodHandle" ∧ y.cls ≠ "java/lang/invoke/VarHandle")
    {W9 : Nat} {Pre : Pt → Array Value → Prop} {Post : Pt → Array Value → Option Value → Pt → Prop} {PostX : Pt → Array Value → Addr → Pt → Prop} (hK : vx_Back l R p e below s args y 3 W9 Pre Post PostX)
    {g : JFrame} (hg : g.method = m) (hsize : g.locals.size = c.maxLocals) {argsL rest : List Value} (hlen : ∀ sig, parseMethodDescriptor y.desc = some sig → argsL.length = sig.parameters.length)
    (hstack : g.stack = argsL.reverse ++ rest) (hW : 2 * g.monitorRoom + (rest.map fun v => v.category).sum ≤ W9) (hdg : decode c.code g.pc = .ok (.invokestatic index, 3))
    (hpre : ∀ vm₁, s.WarmedH vm₁ → Pre ⟨T.setVm vm₁, locs, cells, slots⟩ argsL.toArray) :
    (∃ (v : Option Value) (vm₁ : Vm) (B : Pt), s.WarmedH vm₁ ∧ Stand p l e R s m args below meth c B.U B.locs B.cells B.slots ∧ Post ⟨T.setVm vm₁, locs, cells, slots⟩ argsL.toArray v B ∧
      ∀ target, Steps p.tables e below (B.U.setTop { g with pc := g.pc + 3, stack := v.toList ++ rest }) target → Steps p.tables e below (T.setTop g) target) ∨
    (∃ (q : Addr) (vm₁ : Vm) (B : Pt), s.WarmedH vm₁ ∧ Stand p l e R s m args below meth c B.U B.locs B.cells B.slots ∧ PostX ⟨T.setVm vm₁, locs, cells, slots⟩ argsL.toArray q B ∧
      Steps p.tables e below (T.setTop g) ((B.U.setTop { g with stack := rest }).pushFrame (.throwing q))) := by
  obtain ⟨mk, methM, cM, hnamed, hmethM, -, -, -, -, -, -, hsigM⟩ := Cond.codeWith_spec hcode
  have hstatic : methM.isStatic = true := Cond.static_spec hnamed hmethM hstat
  obtain ⟨kP, hkP, -⟩ := className_of_methodNamed hnamed
  have hinitP : kP.init = .initialized := Cond.initialized_spec (findClass_of_methodNamed hnamed) hkP hinit
  obtain ⟨vm₁, X₁, hstep₁⟩ := X.invokestatic hexec hown hlink hnamed hmethM hstatic hkP hinitP hy (g := g) hg (argsL := argsL) (rest := rest) (hlen _ hsigM) hstack hdg
  rcases hK m meth c ⟨T.setVm vm₁, locs, cells, slots⟩ { g with stack := rest } (.invokestatic index) mk argsL.toArray X₁ hg hsize hdg hW (X₁.named hnamed) (hpre vm₁ X₁.warmed) with ⟨v, B, X', hpost, hsteps⟩ | ⟨q, B, X', hpost, hsteps⟩
  · exact Or.inl ⟨v, vm₁, B, X₁.warmed, X', hpost, fun target h => hstep₁ _ fun acts => by rw [doInvoke_state]; exact hsteps.trans h⟩
  · exact Or.inr ⟨q, vm₁, B, X₁.warmed, X', hpost, hstep₁ _ fun acts => by rw [doInvoke_state]; exact hsteps⟩
theorem vx_callVW (X : Stand p l e R s m args below meth c T locs cells slots) (hexec : p.tables.exec = Jvm.exec) {own C : String} {index : Nat} {y : MethodName} {bytes : ByteArray} {maxL : Nat} {ret : Option FieldType} {hh : List (Nat × Nat × Nat × Nat)}
    (hown : s.vm.findClass own = some m.cls) (hlink : (Cond.methodLink own index y).before args s = true) (hinst : (Cond.instanceMethod y).before args s = true) (hsel : (Cond.selects C y y).before args s = true)
    (hcode : (Cond.codeWith y bytes maxL ret hh).before args s = true) (hy : y.cls ≠ "java/lang/invoke/MethodHandle" ∧ y.cls ≠ "java/lang/invoke/VarHandle")
    {W9 : Nat} {Pre : Pt → Array Value → Prop} {Post : Pt → Array Value → Option Value → Pt → Prop} (hK : Back l R p e below s args y 3 W9 Pre Post)
    {b : Addr} {cellB : Cell} (hcell : T.heap[b]? = some cellB) (hobj : cellB.vm.isStatics = false) (hcls : s.vm.findClass C = some cellB.cls)
    {g : JFrame} (hg : g.method = m) (hsize : g.locals.size = c.maxLocals) {argsL rest : List Value} (hlen : ∀ sig, parseMethodDescriptor y.desc = some sig → argsL.length = sig.parameters.length)
    (hstack : g.stack = argsL.reverse ++ .ref b :: rest) (hW : 2 * g.monitorRoom + (rest.map fun v => v.category).sum ≤ W9) (hdg : decode c.code g.pc = .ok (.invokevirtual index, 3))
    (hpre : ∀ vm₁, s.WarmedH vm₁ → Pre ⟨T.setVm vm₁, locs, cells, slots⟩ (Value.ref b :: argsL).toArray) :
    ∃ (v : Option Value) (vm₁ : Vm) (B : Pt), s.WarmedH vm₁ ∧ Stand p l e R s m args below meth c B.U B.locs B.cells B.slots ∧ Post ⟨T.setVm vm₁, locs, cells, slots⟩ (Value.ref b :: argsL).toArray v B ∧
      ∀ target, Steps p.tables e below (B.U.setTop { g with pc := g.pc + 3, stack := v.toList ++ rest }) target → Steps p.tables e below (T.setTop g) target := by
  obtain ⟨mk, methM, hnamed, hmethM, hstM, habM⟩ := Cond.instanceMethod_spec hinst
  obtain ⟨m8, methM', cM, hn8, hmethM', -, -, -, -, -, -, hsigM⟩ := Cond.codeWith_spec hcode
  cases Option.some.inj (hn8.symm.trans hnamed)
  cases hmethM.symm.trans hmethM'
  obtain ⟨c2, r2, m2, q1, q2, q3, q4, kP, hkP, hkPi⟩ := Cond.selects_spec hsel
  cases hcls.symm.trans q1
  cases (State.methodFound?_of_named hnamed hy).symm.trans q2
  cases hnamed.symm.trans q3
  have hselP : selectMethod e.platform s.vm cellB.cls mk = .method mk := by rw [Launch.admits_selectMethod X.admits]; exact q4
  obtain ⟨vm₁, X₁, hstep₁⟩ := X.invokevirtual hexec hown hlink hnamed hmethM hstM hkP hkPi hy (a := b) (cell := cellB) hcell
    (fun z h => by rw [h] at hobj; cases hobj) hselP hmethM habM hkP hkPi (g := g) hg (argsL := argsL) (rest := rest) (hlen _ hsigM) hstack hdg
  obtain ⟨v, B, X', hpost, hsteps⟩ := hK m meth c ⟨T.setVm vm₁, locs, cells, slots⟩ { g with stack := rest } (.invokevirtual index) mk (Value.ref b :: argsL).toArray X₁ hg hsize hdg hW (X₁.named hnamed) (hpre vm₁ X₁.warmed)
  exact ⟨v, vm₁, B, X₁.warmed, X', hpost, fun target h => hstep₁ _ fun acts => by rw [doInvoke_state]; exact hsteps.trans h⟩
abbrev vx_CVW (R : Room) (s : State) (args : Array Value) (own C : String) (index : Nat) (y : MethodName) (bytes : ByteArray) (maxL : Nat) (ret : Option FieldType) (hh : List (Nat × Nat × Nat × Nat)) (ws : List Cond) (rm : Room) (mc ms n : Nat) : Prop :=
  (rm.cells = mc ∧ rm.slots = ms ∧ rm.frames + 1 ≤ R.frames ∧ 8 + (maxL + 11) + rm.locals ≤ R.locals ∧ (∀ w ∈ ws, ∀ (a' : Array Value) (U : State), s.WarmedH U.vm → w.before a' U = true) ∧ Cond.codeWith y bytes maxL ret hh ∈ ws) ∧
  (Cond.codeWith y bytes maxL ret hh).before args s = true ∧ (Cond.initialized y.cls).before args s = true ∧ (y.cls ≠ "java/lang/invoke/MethodHandle" ∧ y.cls ≠ "java/lang/invoke/VarHandle") ∧
  (∀ sig, parseMethodDescriptor y.desc = some sig → n = sig.parameters.length) ∧ (Cond.methodLink own index y).before args s = true ∧ (Cond.instanceMethod y).before args s = true ∧ (Cond.selects C y y).before args s = true
theorem vx_cwVW {own C : String} {index maxL mc ms : Nat} {y : MethodName} {bytes : ByteArray} {ret : Option FieldType} {hh : List (Nat × Nat × Nat × Nat)} {Ts ws ws' : List Cond} {rm : Room} (n : Nat) (ht : ∀ w ∈ Ts, w.before args s = true) (hT : GoodIn Ts (wsV own index C y ws)) (hw : ws = Cond.codeWith y bytes maxL ret hh :: ws') (hrc : rm.cells = mc) (hrs : rm.slots = ms)
    (hd : y.cls = C ∧ y.cls ≠ "java/lang/invoke/MethodHandle" ∧ y.cls ≠ "java/lang/invoke/VarHandle" ∧ (parseMethodDescriptor y.desc).map (fun d => d.parameters.length) = some n) (hR : rm.frames + 1 ≤ R.frames ∧ 8 + (maxL + 11) + rm.locals ≤ R.locals) :
    vx_CVW R s args own C index y bytes maxL ret hh ws rm mc ms n := by
  obtain ⟨hC, hd⟩ := hd
  subst hC
  have ok : ∀ w ∈ wsV own index y.cls y ws, w.before args s = true := fun w h => ht w (hT w h).1
  have hG : GoodIn Ts ws := fun w h => hT w (by unfold wsV; exact List.mem_append_right _ h)
  have hc : Cond.codeWith y bytes maxL ret hh ∈ ws := by rw [hw]; exact List.mem_cons_self
  refine ⟨⟨hrc, hrs, hR.1, hR.2, pay_in ht hG, hc⟩, ht _ (hG _ hc).1, ok _ (by simp [wsV]), ⟨hd.1, hd.2.1⟩, fun sig h => ?_, ok _ (by simp [wsV]), ok _ (by simp [wsV]), ok _ (by simp [wsV])⟩
  have h2 := hd.2.2
  rw [h] at h2
  exact (Option.some.inj h2).symm
theorem vx_runVW {y : MethodName} {bytes cc : ByteArray} {maxL nL mc ms n index : Nat} {ret : Option FieldType} {hh : List (Nat × Nat × Nat × Nat)} {ws : List Cond} {rm : Room} {Pc : Array Value → State → Prop} {Qc : Array Value → State → Outcome → State → Prop} {free : Addr → Prop} {Ts : List Cond} {own C : String} {b : Addr} {As rest : List Value} {g : JFrame}
    (S : CallFix p m c cc nL s args Ts own) (hM : Met l y ws rm Pc Qc mc ms free) (cw : vx_CVW R s args own C index y bytes maxL ret hh ws rm mc ms n) (hp : PreV s H C b Pc As)
    (hg : g.method = m) (hn : As.length = n) (hsize : g.locals.size = nL) (hstack : g.stack = As.reverse ++ .ref b :: rest) (hW : 2 * g.monitorRoom + (rest.map fun v => v.category).sum ≤ 8) (hdg : decode cc g.pc = .ok (.invokevirtual index, 3)) (hf : cells + mc ≤ R.cells ∧ slots + ms ≤ R.slots) :
    va_Run p l e R s m args below meth c H locs cells slots mc ms g rest (Qc (Value.ref b :: As).toArray) free := by
  obtain ⟨⟨hrc, hrs, hfr, hlo, hws, hcw⟩, hcode, hini, hy, hlen, hl, hin, hse⟩ := cw
  have hK : Back l R p e below s args y 3 8 (PreOf R mc ms Pc) (PostOf Qc mc ms free) := va_backW (hh := hh) (bytes := bytes) (maxL := maxL) (ret := ret) hM hp.1 hrc hrs hfr hlo hws hcw (fun a' U hW => word_at hW (Or.inl (by first | rfl | simp [Cond.onTables, Cond.keeps, Cond.steady])) hini)
  obtain ⟨hx, hb, hml, ho, -⟩ := S
  obtain ⟨-, ⟨cellB, hcB, hoB, hclB⟩, hPc⟩ := hp
  intro T hT X
  obtain ⟨v, vm₁, ⟨U', l2, c2, s2⟩, hW₁, X', ⟨g', mk, t, L, e1, e2, hq, h1, hL, h2, h3⟩, st⟩ := vx_callVW X hx (C := C) (hh := hh) (bytes := bytes) (maxL := maxL) (ret := ret) ho hl hin hse hcode hy hK (by rw [hT]; exact hcB) hoB hclB hg (hsize.trans hml.symm) (argsL := As) (rest := rest) (fun sig h => hn.trans (hlen sig h)) hstack hW (by rw [hb]; exact hdg)
    (fun vm₁ hW₁ => ⟨hf.1, hf.2, hPc (T.setVm vm₁) hT hW₁⟩)
  dsimp only [Pt.U, Pt.locs, Pt.cells, Pt.slots] at X' e1 e2 h1 h2 h3 st
  subst h1; subst h2; subst h3
  exact ⟨v, (T.setVm vm₁).calling g' mk (Value.ref b :: As).toArray, t, U', L, hT, X', hL, e1, e2, hq, st⟩
section
variable {y : MethodName} {bytes cc : ByteArray} {maxL nL mc ms n index : Nat} {ret : Option FieldType} {ws : List Cond} {rm : Room} {Pc : Array Value → State → Prop} {Qc : Array Value → State → Outcome → State → Prop} {XC : String → State → State → Prop} {free : Addr → Prop} {Ts : List Cond} {own C : String} {b : Addr} {As rest : List Value} {g : JFrame}
theorem vx_runVX {hh : List (Nat × Nat × Nat × Nat)} (S : CallFix p m c cc nL s args Ts own) (hM : vx_Met l y ws rm Pc Qc XC mc ms free) (cw : vx_CVW R s args own C index y bytes maxL ret hh ws rm mc ms n) (hp : PreV s H C b Pc As)
    (hg : g.method = m) (hn : As.length = n) (hsize : g.locals.size = nL) (hstack : g.stack = As.reverse ++ .ref b :: rest) (hW : 2 * g.monitorRoom + (rest.map fun v => v.category).sum ≤ 8) (hdg : decode cc g.pc = .ok (.invokevirtual index, 3)) (hf : cells + mc ≤ R.cells ∧ slots + ms ≤ R.slots) :
    vx_Run p l e R s m args below meth c H locs cells slots mc ms g rest (Qc (Value.ref b :: As).toArray) XC free := by
  obtain ⟨⟨hrc, hrs, hfr, hlo, hws, hcw⟩, hcode, hini, hy, hlen, hl, hin, hse⟩ := cw
  have hK : vx_Back l R p e below s args y 3 8 (PreOf R mc ms Pc) (PostOf Qc mc ms free) (vx_Post XC mc ms free) := vx_backW (hh := hh) (bytes := bytes) (maxL := maxL) (ret := ret) hM hp.1 hrc hrs hfr hlo hws hcw (fun a' U hW => word_at hW (Or.inl (by first | rfl | simp [Cond.onTables, Cond.keeps, Cond.steady])) hini)
  obtain ⟨hx, hb, hml, ho, -⟩ := S
  obtain ⟨-, ⟨cellB, hcB, hoB, hclB⟩, hPc⟩ := hp
  intro T hT X
  rcases vx_callVX X hx (C := C) (hh := hh) (bytes := bytes) (maxL := maxL) (ret := ret) ho hl hin hse hcode hy hK (by rw [hT]; exact hcB) hoB hclB hg (hsize.trans hml.symm) (argsL := As) (rest := rest) (fun sig h => hn.trans (hlen sig h)) hstack hW (by rw [hb]; exact hdg)
    (fun vm₁ hW₁ => ⟨hf.1, hf.2, hPc (T.setVm vm₁) hT hW₁⟩) with ⟨v, vm₁, ⟨U', l2, c2, s2⟩, hW₁, X', ⟨g', mk, t, L, e1, e2, hq, h1, hL, h2, h3⟩, st⟩ | ⟨q, vm₁, ⟨U', l2, c2, s2⟩, hW₁, X', ⟨g', mk, t, L, E, ce, e1, e2, hq, hce, hcv, hcl, h1, hL, h2, h3⟩, st⟩
  · dsimp only [Pt.U, Pt.locs, Pt.cells, Pt.slots] at X' e1 e2 h1 h2 h3 st
    subst h1; subst h2; subst h3
    exact Or.inl ⟨v, (T.setVm vm₁).calling g' mk (Value.ref b :: As).toArray, t, U', L, hT, X', hL, e1, e2, hq, st⟩
  · dsimp only [Pt.U, Pt.locs, Pt.cells, Pt.slots] at X' e1 e2 h1 h2 h3 st hcl
    subst h1; subst h2; subst h3
    exact Or.inr ⟨q, (T.setVm vm₁).calling g' mk (Value.ref b :: As).toArray, t, U', L, E, ce, hT, X', hL, e1, e2, hq, hce, hcv, vx_cls hW₁ hcl, st⟩
theorem vx_runSX {hh : List (Nat × Nat × Nat × Nat)} (S : CallFix p m c cc nL s args Ts own) (hM : vx_Met l y ws rm Pc Qc XC mc ms free) (cw : vx_CSW R s args own index y bytes maxL ret hh ws rm mc ms n) (hp : PreS s H Pc As)
    (hg : g.method = m) (hn : As.length = n) (hsize : g.locals.size = nL) (hstack : g.stack = As.reverse ++ rest) (hW : 2 * g.monitorRoom + (rest.map fun v => v.category).sum ≤ 8) (hdg : decode cc g.pc = .ok (.invokestatic index, 3)) (hf : cells + mc ≤ R.cells ∧ slots + ms ≤ R.slots) :
    vx_Run p l e R s m args below meth c H locs cells slots mc ms g rest (Qc As.toArray) XC free := by
  obtain ⟨⟨hrc, hrs, hfr, hlo, hws, hcw⟩, hcode, hini, hy, hlen, hl, hstt⟩ := cw
  have hK : vx_Back l R p e below s args y 3 8 (PreOf R mc ms Pc) (PostOf Qc mc ms free) (vx_Post XC mc ms free) := vx_backW (hh := hh) (bytes := bytes) (maxL := maxL) (ret := ret) hM hp.1 hrc hrs hfr hlo hws hcw (fun a' U hW => word_at hW (Or.inl (by first | rfl | simp [Cond.onTables, Cond.keeps, Cond.steady])) hini)
  obtain ⟨hx, hb, hml, ho, -⟩ := S
  intro T hT X
  rcases vx_callSX X hx (hh := hh) (bytes := bytes) (maxL := maxL) (ret := ret) ho hl hstt hini hcode hy hK hg (hsize.trans hml.symm) (argsL := As) (rest := rest) (fun sig h => hn.trans (hlen sig h)) hstack hW (by rw [hb]; exact hdg)
    (fun vm₁ hW₁ => ⟨hf.1, hf.2, hp.2 (T.setVm vm₁) hT hW₁⟩) with ⟨v, vm₁, ⟨U', l2, c2, s2⟩, hW₁, X', ⟨g', mk, t, L, e1, e2, hq, h1, hL, h2, h3⟩, st⟩ | ⟨q, vm₁, ⟨U', l2, c2, s2⟩, hW₁, X', ⟨g', mk, t, L, E, ce, e1, e2, hq, hce, hcv, hcl, h1, hL, h2, h3⟩, st⟩
  · dsimp only [Pt.U, Pt.locs, Pt.cells, Pt.slots] at X' e1 e2 h1 h2 h3 st
    subst h1; subst h2; subst h3
    exact Or.inl ⟨v, (T.setVm vm₁).calling g' mk As.toArray, t, U', L, hT, X', hL, e1, e2, hq, st⟩
  · dsimp only [Pt.U, Pt.locs, Pt.cells, Pt.slots] at X' e1 e2 h1 h2 h3 st hcl
    subst h1; subst h2; subst h3
    exact Or.inr ⟨q, (T.setVm vm₁).calling g' mk As.toArray, t, U', L, E, ce, hT, X', hL, e1, e2, hq, hce, hcv, vx_cls hW₁ hcl, st⟩
end
end VXH
theorem vx_ofWH {l : Launch} {y : MethodName} {ws ws' : List Cond} {rm : Room} {Pc : Array Value → State → Prop} {Qc : Array Value → State → Outcome → State → Prop} {XC : String → State → State → Prop} {mc ms : Nat} {free : Addr → Prop} {cc : ByteArray} {maxL : Nat} {ret : Option FieldType} {hh : List (Nat × Nat × Nat × Nat)}
    (hy : plainName y.cls = true) (hw : ws = Cond.codeWith y cc maxL ret hh :: ws')
    (body : ∀ p e s m args below meth c s₁, BodyLoose p l y (headSpec ws rm) cc maxL ret e s m args below meth c s₁ → c.maxLocals = maxL → Pc args s →
      W p l e (headSpec ws rm).room s m args below meth c s.heap [] 0 0 (vx_MQ below Qc XC args s mc ms free) (entryFrame m args maxL)) : vx_Met l y ws rm Pc Qc XC mc ms free := by
  refine MetFree.of_bodyS (code := cc) (maxLocals := maxL) (ret := ret) hy ?_ ?_
  · intro args s m h hn
    obtain ⟨m9, meth, c, hn9, h1, h2, h3, h4, -, h5, h6, -⟩ := Cond.codeWith_spec (atoms_spec (ws := ws) h _ (by rw [hw]; exact List.mem_cons_self))
    cases hn.symm.trans hn9
    exact ⟨meth, c, h1, h2, h3, h4, h5, h6⟩
  · intro p e s m args below meth c s₁ B hml hP _
    have hh0 : s₁.heap = s.heap := by rw [B.state]; rfl
    obtain ⟨t, a1, o, b1, b2, b3⟩ := body p e s m args below meth c s₁ B hml hP s₁ hh0 (Stand.of_body B)
    exact ⟨t, o, a1, b1, b2, b3⟩
/-! ===== END ===== -/
end
section
/-! names: printed by wip/gen.py out of claim/NAMES.whole.lean.txt -/
def RX0 : String := "CoapDesk$Bytes"
def TX0 : u_T := fun k => match k with
  | 0 => ("CoapDesk$Bytes", "cells", "[B", true)
  | _ => ("CoapDesk$Bytes", "size", "I", false)
def tyX0 : Nat → FieldType := fun k => match k with
  | 0 => .array .byte
  | _ => .int
theorem nmX0 : ∀ a, a < 2 → ∀ b, b < 2 → a ≠ b → (TX0 a).2.1 ≠ (TX0 b).2.1 := by decide +kernel
theorem tyX0_ok : ∀ k, k < 2 → parseFieldDescriptor (TX0 k).2.2.1 = some (tyX0 k) := by decide +kernel
abbrev cX0_init : ByteArray := prog_2_method_1_code
def yX0_init : MethodName := ⟨RX0, "<init>", "(I)V"⟩
abbrev cX0_at : ByteArray := prog_2_method_2_code
def yX0_at : MethodName := ⟨RX0, "at", "(I)I"⟩
abbrev cX0_hasRoom : ByteArray := prog_2_method_3_code
def yX0_hasRoom : MethodName := ⟨RX0, "hasRoom", "(I)Z"⟩
abbrev cX0_clear : ByteArray := prog_2_method_4_code
def yX0_clear : MethodName := ⟨RX0, "clear", "()V"⟩
abbrev cX0_keepFirst : ByteArray := prog_2_method_5_code
def yX0_keepFirst : MethodName := ⟨RX0, "keepFirst", "(I)V"⟩
abbrev cX0_add : ByteArray := prog_2_method_6_code
def yX0_add : MethodName := ⟨RX0, "add", "(I)V"⟩
abbrev cX0_addLowFirst : ByteArray := prog_2_method_7_code
def yX0_addLowFirst : MethodName := ⟨RX0, "addLowFirst", "(JI)V"⟩
abbrev cX0_addHighFirst : ByteArray := prog_2_method_8_code
def yX0_addHighFirst : MethodName := ⟨RX0, "addHighFirst", "(II)V"⟩
abbrev cX0_addPart : ByteArray := prog_2_method_9_code
def yX0_addPart : MethodName := ⟨RX0, "addPart", "(LCoapDesk$Bytes;II)V"⟩
abbrev cX0_addAll : ByteArray := prog_2_method_10_code
def yX0_addAll : MethodName := ⟨RX0, "addAll", "(LCoapDesk$Bytes;)V"⟩
abbrev cX0_isSameAs : ByteArray := prog_2_method_11_code
def yX0_isSameAs : MethodName := ⟨RX0, "isSameAs", "(LCoapDesk$Bytes;)Z"⟩
abbrev cX0_isTag : ByteArray := prog_2_method_12_code
def yX0_isTag : MethodName := ⟨RX0, "isTag", "(I)Z"⟩
abbrev cX0_wholeNumber : ByteArray := prog_2_method_13_code
def yX0_wholeNumber : MethodName := ⟨RX0, "wholeNumber", "()J"⟩
def RX1 : String := "CoapDesk$Message"
def TX1 : u_T := fun k => match k with
  | 0 => ("CoapDesk$Message", "token", "LCoapDesk$Bytes;", true)
  | 1 => ("CoapDesk$Message", "body", "LCoapDesk$Bytes;", true)
  | 2 => ("CoapDesk$Message", "options", "[LCoapDesk$Option;", true)
  | 3 => ("CoapDesk$Message", "count", "I", false)
  | 4 => ("CoapDesk$Message", "latest", "LCoapDesk$Option;", false)
  | 5 => ("CoapDesk$Message", "type", "I", false)
  | 6 => ("CoapDesk$Message", "code", "I", false)
  | _ => ("CoapDesk$Message", "id", "I", false)
def tyX1 : Nat → FieldType := fun k => match k with
  | 0 => .object "CoapDesk$Bytes"
  | 1 => .object "CoapDesk$Bytes"
  | 2 => .array (.object "CoapDesk$Option")
  | 3 => .int
  | 4 => .object "CoapDesk$Option"
  | 5 => .int
  | 6 => .int
  | _ => .int
theorem nmX1 : ∀ a, a < 8 → ∀ b, b < 8 → a ≠ b → (TX1 a).2.1 ≠ (TX1 b).2.1 := by decide +kernel
theorem tyX1_ok : ∀ k, k < 8 → parseFieldDescriptor (TX1 k).2.2.1 = some (tyX1 k) := by decide +kernel
abbrev cX1_init : ByteArray := prog_3_method_1_code
def yX1_init : MethodName := ⟨RX1, "<init>", "(I)V"⟩
abbrev cX1_restart : ByteArray := prog_3_method_2_code
def yX1_restart : MethodName := ⟨RX1, "restart", "(III)V"⟩
abbrev cX1_at : ByteArray := prog_3_method_3_code
def yX1_at : MethodName := ⟨RX1, "at", "(I)LCoapDesk$Option;"⟩
abbrev cX1_first : ByteArray := prog_3_method_4_code
def yX1_first : MethodName := ⟨RX1, "first", "(I)LCoapDesk$Option;"⟩
abbrev cX1_put : ByteArray := prog_3_method_5_code
def yX1_put : MethodName := ⟨RX1, "put", "(I)LCoapDesk$Option;"⟩
abbrev cX1_writtenSize : ByteArray := prog_3_method_6_code
def yX1_writtenSize : MethodName := ⟨RX1, "writtenSize", "()I"⟩
abbrev cX1_writeBehind : ByteArray := prog_3_method_7_code
def yX1_writeBehind : MethodName := ⟨RX1, "writeBehind", "(LCoapDesk$Bytes;)V"⟩
abbrev cX1_writeOption : ByteArray := prog_3_method_8_code
def yX1_writeOption : MethodName := ⟨RX1, "writeOption", "(LCoapDesk$Option;ILCoapDesk$Bytes;)V"⟩
abbrev cX1_moreBytes : ByteArray := prog_3_method_9_code
def yX1_moreBytes : MethodName := ⟨RX1, "moreBytes", "(I)I"⟩
abbrev cX1_shortForm : ByteArray := prog_3_method_10_code
def yX1_shortForm : MethodName := ⟨RX1, "shortForm", "(I)I"⟩
abbrev cX1_writeMore : ByteArray := prog_3_method_11_code
def yX1_writeMore : MethodName := ⟨RX1, "writeMore", "(ILCoapDesk$Bytes;)V"⟩
def RX2 : String := "CoapDesk$Option"
def TX2 : u_T := fun k => match k with
  | 0 => ("CoapDesk$Option", "value", "LCoapDesk$Bytes;", true)
  | _ => ("CoapDesk$Option", "number", "I", false)
def tyX2 : Nat → FieldType := fun k => match k with
  | 0 => .object "CoapDesk$Bytes"
  | _ => .int
theorem nmX2 : ∀ a, a < 2 → ∀ b, b < 2 → a ≠ b → (TX2 a).2.1 ≠ (TX2 b).2.1 := by decide +kernel
theorem tyX2_ok : ∀ k, k < 2 → parseFieldDescriptor (TX2 k).2.2.1 = some (tyX2 k) := by decide +kernel
abbrev cX2_init : ByteArray := prog_4_method_1_code
def yX2_init : MethodName := ⟨RX2, "<init>", "()V"⟩
def RX3 : String := "CoapDesk$Peer"
def TX3 : u_T := fun k => match k with
  | 0 => ("CoapDesk$Peer", "latest", "[LCoapDesk$Sent;", true)
  | _ => ("CoapDesk$Peer", "oldest", "I", false)
def tyX3 : Nat → FieldType := fun k => match k with
  | 0 => .array (.object "CoapDesk$Sent")
  | _ => .int
theorem nmX3 : ∀ a, a < 2 → ∀ b, b < 2 → a ≠ b → (TX3 a).2.1 ≠ (TX3 b).2.1 := by decide +kernel
theorem tyX3_ok : ∀ k, k < 2 → parseFieldDescriptor (TX3 k).2.2.1 = some (tyX3 k) := by decide +kernel
abbrev cX3_init : ByteArray := prog_5_method_1_code
def yX3_init : MethodName := ⟨RX3, "<init>", "()V"⟩
abbrev cX3_find : ByteArray := prog_5_method_2_code
def yX3_find : MethodName := ⟨RX3, "find", "(I)LCoapDesk$Sent;"⟩
abbrev cX3_remember : ByteArray := prog_5_method_3_code
def yX3_remember : MethodName := ⟨RX3, "remember", "(I)LCoapDesk$Sent;"⟩
def RX4 : String := "CoapDesk$Reader"
def TX4 : u_T := fun k => match k with
  | 0 => ("CoapDesk$Reader", "place", "I", false)
  | _ => ("CoapDesk$Reader", "number", "I", false)
def tyX4 : Nat → FieldType := fun k => match k with
  | 0 => .int
  | _ => .int
theorem nmX4 : ∀ a, a < 2 → ∀ b, b < 2 → a ≠ b → (TX4 a).2.1 ≠ (TX4 b).2.1 := by decide +kernel
theorem tyX4_ok : ∀ k, k < 2 → parseFieldDescriptor (TX4 k).2.2.1 = some (tyX4 k) := by decide +kernel
abbrev cX4_init : ByteArray := prog_6_method_1_code
def yX4_init : MethodName := ⟨RX4, "<init>", "()V"⟩
abbrev cX4_parse : ByteArray := prog_6_method_2_code
def yX4_parse : MethodName := ⟨RX4, "parse", "(LCoapDesk$Bytes;LCoapDesk$Message;)I"⟩
abbrev cX4_parseHead : ByteArray := prog_6_method_3_code
def yX4_parseHead : MethodName := ⟨RX4, "parseHead", "(LCoapDesk$Bytes;LCoapDesk$Message;)I"⟩
abbrev cX4_parseOption : ByteArray := prog_6_method_4_code
def yX4_parseOption : MethodName := ⟨RX4, "parseOption", "(LCoapDesk$Bytes;LCoapDesk$Message;)Z"⟩
abbrev cX4_told : ByteArray := prog_6_method_5_code
def yX4_told : MethodName := ⟨RX4, "told", "(LCoapDesk$Bytes;I)I"⟩
abbrev cX4_parsePayload : ByteArray := prog_6_method_6_code
def yX4_parsePayload : MethodName := ⟨RX4, "parsePayload", "(LCoapDesk$Bytes;LCoapDesk$Message;)Z"⟩
def RX5 : String := "CoapDesk$Resource"
def TX5 : u_T := fun k => match k with
  | 0 => ("CoapDesk$Resource", "path", "LCoapDesk$Bytes;", true)
  | 1 => ("CoapDesk$Resource", "contents", "LCoapDesk$Bytes;", true)
  | 2 => ("CoapDesk$Resource", "pathLength", "I", false)
  | _ => ("CoapDesk$Resource", "tag", "I", false)
def tyX5 : Nat → FieldType := fun k => match k with
  | 0 => .object "CoapDesk$Bytes"
  | 1 => .object "CoapDesk$Bytes"
  | 2 => .int
  | _ => .int
theorem nmX5 : ∀ a, a < 4 → ∀ b, b < 4 → a ≠ b → (TX5 a).2.1 ≠ (TX5 b).2.1 := by decide +kernel
theorem tyX5_ok : ∀ k, k < 4 → parseFieldDescriptor (TX5 k).2.2.1 = some (tyX5 k) := by decide +kernel
abbrev cX5_init : ByteArray := prog_7_method_1_code
def yX5_init : MethodName := ⟨RX5, "<init>", "()V"⟩
def RX6 : String := "CoapDesk$Sent"
def TX6 : u_T := fun k => match k with
  | 0 => ("CoapDesk$Sent", "bytes", "LCoapDesk$Bytes;", true)
  | _ => ("CoapDesk$Sent", "id", "I", false)
def tyX6 : Nat → FieldType := fun k => match k with
  | 0 => .object "CoapDesk$Bytes"
  | _ => .int
theorem nmX6 : ∀ a, a < 2 → ∀ b, b < 2 → a ≠ b → (TX6 a).2.1 ≠ (TX6 b).2.1 := by decide +kernel
theorem tyX6_ok : ∀ k, k < 2 → parseFieldDescriptor (TX6 k).2.2.1 = some (tyX6 k) := by decide +kernel
abbrev cX6_init : ByteArray := prog_8_method_1_code
def yX6_init : MethodName := ⟨RX6, "<init>", "()V"⟩
def RX7 : String := "CoapDesk$Server"
def TX7 : u_T := fun k => match k with
  | 0 => ("CoapDesk$Server", "store", "LCoapDesk$Store;", true)
  | 1 => ("CoapDesk$Server", "peers", "[LCoapDesk$Peer;", true)
  | 2 => ("CoapDesk$Server", "answer", "LCoapDesk$Message;", true)
  | 3 => ("CoapDesk$Server", "path", "LCoapDesk$Bytes;", true)
  | 4 => ("CoapDesk$Server", "pathLength", "I", false)
  | 5 => ("CoapDesk$Server", "served", "I", false)
  | 6 => ("CoapDesk$Server", "repeated", "I", false)
  | _ => ("CoapDesk$Server", "nextId", "I", false)
def tyX7 : Nat → FieldType := fun k => match k with
  | 0 => .object "CoapDesk$Store"
  | 1 => .array (.object "CoapDesk$Peer")
  | 2 => .object "CoapDesk$Message"
  | 3 => .object "CoapDesk$Bytes"
  | 4 => .int
  | 5 => .int
  | 6 => .int
  | _ => .int
theorem nmX7 : ∀ a, a < 8 → ∀ b, b < 8 → a ≠ b → (TX7 a).2.1 ≠ (TX7 b).2.1 := by decide +kernel
theorem tyX7_ok : ∀ k, k < 8 → parseFieldDescriptor (TX7 k).2.2.1 = some (tyX7 k) := by decide +kernel
abbrev cX7_init : ByteArray := prog_9_method_1_code
def yX7_init : MethodName := ⟨RX7, "<init>", "()V"⟩
abbrev cX7_take : ByteArray := prog_9_method_2_code
def yX7_take : MethodName := ⟨RX7, "take", "(LCoapDesk$Message;ILCoapDesk$Bytes;)I"⟩
abbrev cX7_sendReset : ByteArray := prog_9_method_3_code
def yX7_sendReset : MethodName := ⟨RX7, "sendReset", "(ILCoapDesk$Bytes;)I"⟩
abbrev cX7_beginAnswer : ByteArray := prog_9_method_4_code
def yX7_beginAnswer : MethodName := ⟨RX7, "beginAnswer", "(LCoapDesk$Message;)V"⟩
abbrev cX7_decide : ByteArray := prog_9_method_5_code
def yX7_decide : MethodName := ⟨RX7, "decide", "(LCoapDesk$Message;)I"⟩
abbrev cX7_hasBadOption : ByteArray := prog_9_method_6_code
def yX7_hasBadOption : MethodName := ⟨RX7, "hasBadOption", "(LCoapDesk$Message;)Z"⟩
abbrev cX7_isBad : ByteArray := prog_9_method_7_code
def yX7_isBad : MethodName := ⟨RX7, "isBad", "(LCoapDesk$Option;)Z"⟩
abbrev cX7_takePath : ByteArray := prog_9_method_8_code
def yX7_takePath : MethodName := ⟨RX7, "takePath", "(LCoapDesk$Message;)V"⟩
abbrev cX7_failsCondition : ByteArray := prog_9_method_9_code
def yX7_failsCondition : MethodName := ⟨RX7, "failsCondition", "(LCoapDesk$Message;LCoapDesk$Resource;)Z"⟩
abbrev cX7_matches : ByteArray := prog_9_method_10_code
def yX7_matches : MethodName := ⟨RX7, "matches", "(LCoapDesk$Message;I)Z"⟩
abbrev cX7_knowsTag : ByteArray := prog_9_method_11_code
def yX7_knowsTag : MethodName := ⟨RX7, "knowsTag", "(LCoapDesk$Message;I)Z"⟩
abbrev cX7_answerGet : ByteArray := prog_9_method_12_code
def yX7_answerGet : MethodName := ⟨RX7, "answerGet", "(LCoapDesk$Message;LCoapDesk$Resource;)I"⟩
abbrev cX7_answerBlock : ByteArray := prog_9_method_13_code
def yX7_answerBlock : MethodName := ⟨RX7, "answerBlock", "(ILCoapDesk$Resource;)I"⟩
abbrev cX7_fewestBytes : ByteArray := prog_9_method_14_code
def yX7_fewestBytes : MethodName := ⟨RX7, "fewestBytes", "(I)I"⟩
abbrev cX7_addNumber : ByteArray := prog_9_method_15_code
def yX7_addNumber : MethodName := ⟨RX7, "addNumber", "(III)V"⟩
abbrev cX7_answerPut : ByteArray := prog_9_method_16_code
def yX7_answerPut : MethodName := ⟨RX7, "answerPut", "(LCoapDesk$Message;LCoapDesk$Resource;)I"⟩
abbrev cX7_answerPost : ByteArray := prog_9_method_17_code
def yX7_answerPost : MethodName := ⟨RX7, "answerPost", "(LCoapDesk$Message;LCoapDesk$Resource;)I"⟩
abbrev cX7_change : ByteArray := prog_9_method_18_code
def yX7_change : MethodName := ⟨RX7, "change", "(LCoapDesk$Resource;LCoapDesk$Bytes;I)I"⟩
abbrev cX7_answerDelete : ByteArray := prog_9_method_19_code
def yX7_answerDelete : MethodName := ⟨RX7, "answerDelete", "(LCoapDesk$Resource;)I"⟩
def RX8 : String := "CoapDesk$Store"
def TX8 : u_T := fun k => match k with
  | 0 => ("CoapDesk$Store", "resources", "[LCoapDesk$Resource;", true)
  | 1 => ("CoapDesk$Store", "count", "I", false)
  | _ => ("CoapDesk$Store", "tags", "I", false)
def tyX8 : Nat → FieldType := fun k => match k with
  | 0 => .array (.object "CoapDesk$Resource")
  | 1 => .int
  | _ => .int
theorem nmX8 : ∀ a, a < 3 → ∀ b, b < 3 → a ≠ b → (TX8 a).2.1 ≠ (TX8 b).2.1 := by decide +kernel
theorem tyX8_ok : ∀ k, k < 3 → parseFieldDescriptor (TX8 k).2.2.1 = some (tyX8 k) := by decide +kernel
abbrev cX8_init : ByteArray := prog_10_method_1_code
def yX8_init : MethodName := ⟨RX8, "<init>", "()V"⟩
abbrev cX8_at : ByteArray := prog_10_method_2_code
def yX8_at : MethodName := ⟨RX8, "at", "(I)LCoapDesk$Resource;"⟩
abbrev cX8_find : ByteArray := prog_10_method_3_code
def yX8_find : MethodName := ⟨RX8, "find", "(LCoapDesk$Bytes;)LCoapDesk$Resource;"⟩
abbrev cX8_make : ByteArray := prog_10_method_4_code
def yX8_make : MethodName := ⟨RX8, "make", "(LCoapDesk$Bytes;I)LCoapDesk$Resource;"⟩
abbrev cX8_remove : ByteArray := prog_10_method_5_code
def yX8_remove : MethodName := ⟨RX8, "remove", "(LCoapDesk$Resource;)V"⟩
abbrev cX8_giveNextTag : ByteArray := prog_10_method_6_code
def yX8_giveNextTag : MethodName := ⟨RX8, "giveNextTag", "(LCoapDesk$Resource;)V"⟩
def RX9 : String := "CoapDesk"
def TX9 : u_T := fun k => match k with
  | 0 => ("CoapDesk", "atHand", "LCoapDesk$Bytes;", true)
  | 1 => ("CoapDesk", "reader", "LCoapDesk$Reader;", true)
  | 2 => ("CoapDesk", "server", "LCoapDesk$Server;", true)
  | 3 => ("CoapDesk", "begun", "LCoapDesk$Message;", false)
  | _ => ("CoapDesk", "spare", "LCoapDesk$Message;", false)
def tyX9 : Nat → FieldType := fun k => match k with
  | 0 => .object "CoapDesk$Bytes"
  | 1 => .object "CoapDesk$Reader"
  | 2 => .object "CoapDesk$Server"
  | 3 => .object "CoapDesk$Message"
  | _ => .object "CoapDesk$Message"
theorem nmX9 : ∀ a, a < 5 → ∀ b, b < 5 → a ≠ b → (TX9 a).2.1 ≠ (TX9 b).2.1 := by decide +kernel
theorem tyX9_ok : ∀ k, k < 5 → parseFieldDescriptor (TX9 k).2.2.1 = some (tyX9 k) := by decide +kernel
abbrev cX9_init : ByteArray := prog_1_method_1_code
def yX9_init : MethodName := ⟨RX9, "<init>", "()V"⟩
abbrev cX9_begin : ByteArray := prog_1_method_2_code
def yX9_begin : MethodName := ⟨RX9, "begin", "(IIIJI)V"⟩
abbrev cX9_option : ByteArray := prog_1_method_3_code
def yX9_option : MethodName := ⟨RX9, "option", "(IJI)I"⟩
abbrev cX9_longer : ByteArray := prog_1_method_4_code
def yX9_longer : MethodName := ⟨RX9, "longer", "(JI)I"⟩
abbrev cX9_payload : ByteArray := prog_1_method_5_code
def yX9_payload : MethodName := ⟨RX9, "payload", "(JI)I"⟩
abbrev cX9_write : ByteArray := prog_1_method_6_code
def yX9_write : MethodName := ⟨RX9, "write", "()I"⟩
abbrev cX9_feed : ByteArray := prog_1_method_7_code
def yX9_feed : MethodName := ⟨RX9, "feed", "(JI)I"⟩
abbrev cX9_end : ByteArray := prog_1_method_8_code
def yX9_end : MethodName := ⟨RX9, "end", "(I)V"⟩
abbrev cX9_read : ByteArray := prog_1_method_9_code
def yX9_read : MethodName := ⟨RX9, "read", "()I"⟩
abbrev cX9_about : ByteArray := prog_1_method_10_code
def yX9_about : MethodName := ⟨RX9, "about", "(I)I"⟩
abbrev cX9_byteOf : ByteArray := prog_1_method_11_code
def yX9_byteOf : MethodName := ⟨RX9, "byteOf", "(II)I"⟩
abbrev cX9_optionAt : ByteArray := prog_1_method_12_code
def yX9_optionAt : MethodName := ⟨RX9, "optionAt", "(II)I"⟩
abbrev cX9_serve : ByteArray := prog_1_method_13_code
def yX9_serve : MethodName := ⟨RX9, "serve", "(I)I"⟩
abbrev cX9_hand : ByteArray := prog_1_method_14_code
def yX9_hand : MethodName := ⟨RX9, "hand", "(I)I"⟩
abbrev cX9_total : ByteArray := prog_1_method_15_code
def yX9_total : MethodName := ⟨RX9, "total", "(I)I"⟩
abbrev cX9_resource : ByteArray := prog_1_method_16_code
def yX9_resource : MethodName := ⟨RX9, "resource", "(II)I"⟩
abbrev cX9_within : ByteArray := prog_1_method_17_code
def yX9_within : MethodName := ⟨RX9, "within", "(II)Z"⟩
abbrev cX9_extend : ByteArray := prog_1_method_18_code
def yX9_extend : MethodName := ⟨RX9, "extend", "(LCoapDesk$Bytes;JI)I"⟩
def RX10 : String := "CoapDeskModel"
def TX10 : u_T := fun k => match k with
  | 0 => ("CoapDeskModel", "code", "I", false)
  | 1 => ("CoapDeskModel", "type", "[I", true)
  | 2 => ("CoapDeskModel", "codeOf", "[I", true)
  | 3 => ("CoapDeskModel", "id", "[I", true)
  | 4 => ("CoapDeskModel", "tokenLength", "[I", true)
  | 5 => ("CoapDeskModel", "token", "[I", true)
  | 6 => ("CoapDeskModel", "many", "[I", true)
  | 7 => ("CoapDeskModel", "number", "[I", true)
  | 8 => ("CoapDeskModel", "valueLength", "[I", true)
  | 9 => ("CoapDeskModel", "value", "[I", true)
  | 10 => ("CoapDeskModel", "payloadLength", "[I", true)
  | 11 => ("CoapDeskModel", "payload", "[I", true)
  | 12 => ("CoapDeskModel", "latest", "I", false)
  | 13 => ("CoapDeskModel", "length", "I", false)
  | 14 => ("CoapDeskModel", "hand", "[I", true)
  | 15 => ("CoapDeskModel", "tooMany", "Z", false)
  | 16 => ("CoapDeskModel", "resources", "I", false)
  | 17 => ("CoapDeskModel", "tags", "I", false)
  | 18 => ("CoapDeskModel", "pathMany", "[I", true)
  | 19 => ("CoapDeskModel", "pathLength", "[I", true)
  | 20 => ("CoapDeskModel", "path", "[I", true)
  | 21 => ("CoapDeskModel", "contentLength", "[I", true)
  | 22 => ("CoapDeskModel", "content", "[I", true)
  | 23 => ("CoapDeskModel", "tag", "[I", true)
  | 24 => ("CoapDeskModel", "served", "I", false)
  | 25 => ("CoapDeskModel", "repeated", "I", false)
  | 26 => ("CoapDeskModel", "own", "I", false)
  | 27 => ("CoapDeskModel", "seen", "[I", true)
  | 28 => ("CoapDeskModel", "seenId", "[I", true)
  | 29 => ("CoapDeskModel", "seenLength", "[I", true)
  | 30 => ("CoapDeskModel", "seenCode", "[I", true)
  | _ => ("CoapDeskModel", "seenBytes", "[I", true)
def tyX10 : Nat → FieldType := fun k => match k with
  | 0 => .int
  | 1 => .array .int
  | 2 => .array .int
  | 3 => .array .int
  | 4 => .array .int
  | 5 => .array .int
  | 6 => .array .int
  | 7 => .array .int
  | 8 => .array .int
  | 9 => .array .int
  | 10 => .array .int
  | 11 => .array .int
  | 12 => .int
  | 13 => .int
  | 14 => .array .int
  | 15 => .boolean
  | 16 => .int
  | 17 => .int
  | 18 => .array .int
  | 19 => .array .int
  | 20 => .array .int
  | 21 => .array .int
  | 22 => .array .int
  | 23 => .array .int
  | 24 => .int
  | 25 => .int
  | 26 => .int
  | 27 => .array .int
  | 28 => .array .int
  | 29 => .array .int
  | 30 => .array .int
  | _ => .array .int
theorem nmX10 : ∀ a, a < 32 → ∀ b, b < 32 → a ≠ b → (TX10 a).2.1 ≠ (TX10 b).2.1 := by decide +kernel
theorem tyX10_ok : ∀ k, k < 32 → parseFieldDescriptor (TX10 k).2.2.1 = some (tyX10 k) := by decide +kernel
abbrev cX10_init : ByteArray := prog_12_method_1_code
def yX10_init : MethodName := ⟨RX10, "<init>", "()V"⟩
abbrev cX10_thrown : ByteArray := prog_12_method_2_code
def yX10_thrown : MethodName := ⟨RX10, "thrown", "()I"⟩
abbrev cX10_refuses : ByteArray := prog_12_method_3_code
def yX10_refuses : MethodName := ⟨RX10, "refuses", "(I)Z"⟩
abbrev cX10_begins : ByteArray := prog_12_method_4_code
def yX10_begins : MethodName := ⟨RX10, "begins", "(IIII)V"⟩
abbrev cX10_low : ByteArray := prog_12_method_5_code
def yX10_low : MethodName := ⟨RX10, "low", "(JI)I"⟩
abbrev cX10_begin : ByteArray := prog_12_method_6_code
def yX10_begin : MethodName := ⟨RX10, "begin", "(IIIJI)V"⟩
abbrev cX10_place : ByteArray := prog_12_method_7_code
def yX10_place : MethodName := ⟨RX10, "place", "(II)I"⟩
abbrev cX10_longer : ByteArray := prog_12_method_8_code
def yX10_longer : MethodName := ⟨RX10, "longer", "(II)V"⟩
abbrev cX10_option : ByteArray := prog_12_method_9_code
def yX10_option : MethodName := ⟨RX10, "option", "(IJI)I"⟩
abbrev cX10_longer_ : ByteArray := prog_12_method_10_code
def yX10_longer_ : MethodName := ⟨RX10, "longer", "(JI)I"⟩
abbrev cX10_payload : ByteArray := prog_12_method_11_code
def yX10_payload : MethodName := ⟨RX10, "payload", "(JI)I"⟩
abbrev cX10_more : ByteArray := prog_12_method_12_code
def yX10_more : MethodName := ⟨RX10, "more", "(I)I"⟩
abbrev cX10_size : ByteArray := prog_12_method_13_code
def yX10_size : MethodName := ⟨RX10, "size", "(I)I"⟩
abbrev cX10_put : ByteArray := prog_12_method_14_code
def yX10_put : MethodName := ⟨RX10, "put", "(I)V"⟩
abbrev cX10_nibble : ByteArray := prog_12_method_15_code
def yX10_nibble : MethodName := ⟨RX10, "nibble", "(I)I"⟩
abbrev cX10_extra : ByteArray := prog_12_method_16_code
def yX10_extra : MethodName := ⟨RX10, "extra", "(I)V"⟩
abbrev cX10_writes : ByteArray := prog_12_method_17_code
def yX10_writes : MethodName := ⟨RX10, "writes", "(I)V"⟩
abbrev cX10_write : ByteArray := prog_12_method_18_code
def yX10_write : MethodName := ⟨RX10, "write", "()I"⟩
abbrev cX10_feed : ByteArray := prog_12_method_19_code
def yX10_feed : MethodName := ⟨RX10, "feed", "(JI)I"⟩
abbrev cX10_end : ByteArray := prog_12_method_20_code
def yX10_end : MethodName := ⟨RX10, "end", "(I)V"⟩
abbrev cX10_told : ByteArray := prog_12_method_21_code
def yX10_told : MethodName := ⟨RX10, "told", "(II)I"⟩
abbrev cX10_fault : ByteArray := prog_12_method_22_code
def yX10_fault : MethodName := ⟨RX10, "fault", "()I"⟩
abbrev cX10_read : ByteArray := prog_12_method_23_code
def yX10_read : MethodName := ⟨RX10, "read", "()I"⟩
abbrev cX10_copies : ByteArray := prog_12_method_24_code
def yX10_copies : MethodName := ⟨RX10, "copies", "(II)V"⟩
abbrev cX10_about : ByteArray := prog_12_method_25_code
def yX10_about : MethodName := ⟨RX10, "about", "(I)I"⟩
abbrev cX10_byteOf : ByteArray := prog_12_method_26_code
def yX10_byteOf : MethodName := ⟨RX10, "byteOf", "(II)I"⟩
abbrev cX10_whole : ByteArray := prog_12_method_27_code
def yX10_whole : MethodName := ⟨RX10, "whole", "(I)J"⟩
abbrev cX10_optionAt : ByteArray := prog_12_method_28_code
def yX10_optionAt : MethodName := ⟨RX10, "optionAt", "(II)I"⟩
abbrev cX10_isValue : ByteArray := prog_12_method_29_code
def yX10_isValue : MethodName := ⟨RX10, "isValue", "(III)Z"⟩
abbrev cX10_found : ByteArray := prog_12_method_30_code
def yX10_found : MethodName := ⟨RX10, "found", "()I"⟩
abbrev cX10_isBad : ByteArray := prog_12_method_31_code
def yX10_isBad : MethodName := ⟨RX10, "isBad", "()Z"⟩
abbrev cX10_tells : ByteArray := prog_12_method_32_code
def yX10_tells : MethodName := ⟨RX10, "tells", "(I)V"⟩
abbrev cX10_answer : ByteArray := prog_12_method_33_code
def yX10_answer : MethodName := ⟨RX10, "answer", "()I"⟩
abbrev cX10_get : ByteArray := prog_12_method_34_code
def yX10_get : MethodName := ⟨RX10, "get", "(I)I"⟩
abbrev cX10_sends : ByteArray := prog_12_method_35_code
def yX10_sends : MethodName := ⟨RX10, "sends", "(III)V"⟩
abbrev cX10_makes : ByteArray := prog_12_method_36_code
def yX10_makes : MethodName := ⟨RX10, "makes", "()I"⟩
abbrev cX10_goes : ByteArray := prog_12_method_37_code
def yX10_goes : MethodName := ⟨RX10, "goes", "(I)V"⟩
abbrev cX10_resets : ByteArray := prog_12_method_38_code
def yX10_resets : MethodName := ⟨RX10, "resets", "()I"⟩
abbrev cX10_nothing : ByteArray := prog_12_method_39_code
def yX10_nothing : MethodName := ⟨RX10, "nothing", "()I"⟩
abbrev cX10_serve : ByteArray := prog_12_method_40_code
def yX10_serve : MethodName := ⟨RX10, "serve", "(I)I"⟩
abbrev cX10_hand : ByteArray := prog_12_method_41_code
def yX10_hand : MethodName := ⟨RX10, "hand", "(I)I"⟩
abbrev cX10_total : ByteArray := prog_12_method_42_code
def yX10_total : MethodName := ⟨RX10, "total", "(I)I"⟩
abbrev cX10_resource : ByteArray := prog_12_method_43_code
def yX10_resource : MethodName := ⟨RX10, "resource", "(II)I"⟩
def RL : String := "CoapDeskLaw"
abbrev cL_begin : ByteArray := method_3_code
def yL_begin : MethodName := ⟨RL, "begin", "(LCoapDesk;IIIJI)I"⟩
abbrev cL_option : ByteArray := method_4_code
def yL_option : MethodName := ⟨RL, "option", "(LCoapDesk;IJI[J)I"⟩
abbrev cL_longer : ByteArray := method_5_code
def yL_longer : MethodName := ⟨RL, "longer", "(LCoapDesk;JI[J)I"⟩
abbrev cL_payload : ByteArray := method_6_code
def yL_payload : MethodName := ⟨RL, "payload", "(LCoapDesk;JI[J)I"⟩
abbrev cL_write : ByteArray := method_7_code
def yL_write : MethodName := ⟨RL, "write", "(LCoapDesk;[J)I"⟩
abbrev cL_feed : ByteArray := method_8_code
def yL_feed : MethodName := ⟨RL, "feed", "(LCoapDesk;JI[J)I"⟩
abbrev cL_end : ByteArray := method_9_code
def yL_end : MethodName := ⟨RL, "end", "(LCoapDesk;I)I"⟩
abbrev cL_read : ByteArray := method_10_code
def yL_read : MethodName := ⟨RL, "read", "(LCoapDesk;[J)I"⟩
abbrev cL_about : ByteArray := method_11_code
def yL_about : MethodName := ⟨RL, "about", "(LCoapDesk;I[J)I"⟩
abbrev cL_byteOf : ByteArray := method_12_code
def yL_byteOf : MethodName := ⟨RL, "byteOf", "(LCoapDesk;II[J)I"⟩
abbrev cL_optionAt : ByteArray := method_13_code
def yL_optionAt : MethodName := ⟨RL, "optionAt", "(LCoapDesk;II[J)I"⟩
abbrev cL_serve : ByteArray := method_14_code
def yL_serve : MethodName := ⟨RL, "serve", "(LCoapDesk;I[J)I"⟩
abbrev cL_total : ByteArray := method_15_code
def yL_total : MethodName := ⟨RL, "total", "(LCoapDesk;I[J)I"⟩
abbrev cL_resource : ByteArray := method_16_code
def yL_resource : MethodName := ⟨RL, "resource", "(LCoapDesk;II[J)I"⟩
abbrev cL_law : ByteArray := code
def yL_law : MethodName := ⟨RL, "law", "([I)Z"⟩
abbrev vwCl : List vw_C := [(RX0, TX0, 2), (RX1, TX1, 8), (RX2, TX2, 2), (RX3, TX3, 2), (RX4, TX4, 2), (RX5, TX5, 4), (RX6, TX6, 2), (RX7, TX7, 8), (RX8, TX8, 3), (RX9, TX9, 5), (RX10, TX10, 32)]
def xRn (c : Nat) : String := match c with
  | 0 => RX0
  | 1 => RX1
  | 2 => RX2
  | 3 => RX3
  | 4 => RX4
  | 5 => RX5
  | 6 => RX6
  | 7 => RX7
  | 8 => RX8
  | 9 => RX9
  | 10 => RX10
  | _ => RL
def xTT (c : Nat) : u_T := match c with
  | 0 => TX0
  | 1 => TX1
  | 2 => TX2
  | 3 => TX3
  | 4 => TX4
  | 5 => TX5
  | 6 => TX6
  | 7 => TX7
  | 8 => TX8
  | 9 => TX9
  | _ => TX10
def xty (c : Nat) : Nat → FieldType := match c with
  | 0 => tyX0
  | 1 => tyX1
  | 2 => tyX2
  | 3 => tyX3
  | 4 => tyX4
  | 5 => tyX5
  | 6 => tyX6
  | 7 => tyX7
  | 8 => tyX8
  | 9 => tyX9
  | _ => tyX10
def xNN (c : Nat) : Nat := match c with
  | 0 => 2
  | 1 => 8
  | 2 => 2
  | 3 => 2
  | 4 => 2
  | 5 => 4
  | 6 => 2
  | 7 => 8
  | 8 => 3
  | 9 => 5
  | _ => 32
end
section
/-! the methods: name, bytes, locals, answer, class, instructions; by wip/gen.py -/
abbrev xM : Type := MethodName × ByteArray × Nat × Option FieldType × Nat × List (Nat × Instr × Nat)
def qX0_init : List (Nat × Instr × Nat) := [(0, .aload_n 0, 1), (1, .invokespecial 3, 3), (4, .aload_n 0, 1), (5, .iload_n 1, 1), (6, .newarray .byte, 2), (8, .putfield 9, 3), (11, .return_, 1)]
theorem okX0_init : ∀ e ∈ qX0_init, decode cX0_init e.1 = .ok (e.2.1, e.2.2) := by decide +kernel
def mX0_init : xM := (yX0_init, cX0_init, 2, none, 0, qX0_init)
def qX0_at : List (Nat × Instr × Nat) := [(0, .iload_n 1, 1), (1, .ifCond .lt 24, 3), (4, .iload_n 1, 1), (5, .aload_n 0, 1), (6, .getfield 15, 3), (9, .if_icmp .ge 16, 3), (12, .aload_n 0, 1), (13, .getfield 9, 3), (16, .iload_n 1, 1), (17, .baload, 1), (18, .sipush 255, 3), (21, .iand, 1), (22, .goto 4, 3), (25, .iconst (-1), 1), (26, .ireturn, 1)]
theorem okX0_at : ∀ e ∈ qX0_at, decode cX0_at e.1 = .ok (e.2.1, e.2.2) := by decide +kernel
def mX0_at : xM := (yX0_at, cX0_at, 2, (some .int), 0, qX0_at)
def qX0_hasRoom : List (Nat × Instr × Nat) := [(0, .iload_n 1, 1), (1, .aload_n 0, 1), (2, .getfield 9, 3), (5, .arraylength, 1), (6, .aload_n 0, 1), (7, .getfield 15, 3), (10, .isub, 1), (11, .if_icmp .gt 7, 3), (14, .iconst 1, 1), (15, .goto 4, 3), (18, .iconst 0, 1), (19, .ireturn, 1)]
theorem okX0_hasRoom : ∀ e ∈ qX0_hasRoom, decode cX0_hasRoom e.1 = .ok (e.2.1, e.2.2) := by decide +kernel
def mX0_hasRoom : xM := (yX0_hasRoom, cX0_hasRoom, 2, (some .boolean), 0, qX0_hasRoom)
def qX0_clear : List (Nat × Instr × Nat) := [(0, .aload_n 0, 1), (1, .iconst 0, 1), (2, .putfield 15, 3), (5, .return_, 1)]
theorem okX0_clear : ∀ e ∈ qX0_clear, decode cX0_clear e.1 = .ok (e.2.1, e.2.2) := by decide +kernel
def mX0_clear : xM := (yX0_clear, cX0_clear, 1, none, 0, qX0_clear)
def qX0_keepFirst : List (Nat × Instr × Nat) := [(0, .iload_n 1, 1), (1, .ifCond .lt 16, 3), (4, .iload_n 1, 1), (5, .aload_n 0, 1), (6, .getfield 15, 3), (9, .if_icmp .ge 8, 3), (12, .aload_n 0, 1), (13, .iload_n 1, 1), (14, .putfield 15, 3), (17, .return_, 1)]
theorem okX0_keepFirst : ∀ e ∈ qX0_keepFirst, decode cX0_keepFirst e.1 = .ok (e.2.1, e.2.2) := by decide +kernel
def mX0_keepFirst : xM := (yX0_keepFirst, cX0_keepFirst, 2, none, 0, qX0_keepFirst)
def qX0_add : List (Nat × Instr × Nat) := [(0, .aload_n 0, 1), (1, .getfield 15, 3), (4, .aload_n 0, 1), (5, .getfield 9, 3), (8, .arraylength, 1), (9, .if_icmp .ge 24, 3), (12, .aload_n 0, 1), (13, .getfield 9, 3), (16, .aload_n 0, 1), (17, .getfield 15, 3), (20, .iload_n 1, 1), (21, .i2b, 1), (22, .bastore, 1), (23, .aload_n 0, 1), (24, .dup, 1), (25, .getfield 15, 3), (28, .iconst 1, 1), (29, .iadd, 1), (30, .putfield 15, 3), (33, .return_, 1)]
theorem okX0_add : ∀ e ∈ qX0_add, decode cX0_add e.1 = .ok (e.2.1, e.2.2) := by decide +kernel
def mX0_add : xM := (yX0_add, cX0_add, 2, none, 0, qX0_add)
def qX0_addLowFirst : List (Nat × Instr × Nat) := [(0, .iconst 0, 1), (1, .istore 4, 2), (3, .iload 4, 2), (5, .iload_n 3, 1), (6, .if_icmp .ge 49, 3), (9, .aload_n 0, 1), (10, .getfield 15, 3), (13, .aload_n 0, 1), (14, .getfield 9, 3), (17, .arraylength, 1), (18, .if_icmp .ge 37, 3), (21, .aload_n 0, 1), (22, .getfield 9, 3), (25, .aload_n 0, 1), (26, .getfield 15, 3), (29, .lload_n 1, 1), (30, .bipush 8, 2), (32, .iload 4, 2), (34, .imul, 1), (35, .lushr, 1), (36, .l2i, 1), (37, .i2b, 1), (38, .bastore, 1), (39, .aload_n 0, 1), (40, .dup, 1), (41, .getfield 15, 3), (44, .iconst 1, 1), (45, .iadd, 1), (46, .putfield 15, 3), (49, .iinc 4 1, 3), (52, .goto (-49), 3), (55, .return_, 1)]
theorem okX0_addLowFirst : ∀ e ∈ qX0_addLowFirst, decode cX0_addLowFirst e.1 = .ok (e.2.1, e.2.2) := by decide +kernel
def mX0_addLowFirst : xM := (yX0_addLowFirst, cX0_addLowFirst, 5, none, 0, qX0_addLowFirst)
def qX0_addHighFirst : List (Nat × Instr × Nat) := [(0, .iload_n 2, 1), (1, .iconst 1, 1), (2, .isub, 1), (3, .istore_n 3, 1), (4, .iload_n 3, 1), (5, .ifCond .lt 47, 3), (8, .aload_n 0, 1), (9, .getfield 15, 3), (12, .aload_n 0, 1), (13, .getfield 9, 3), (16, .arraylength, 1), (17, .if_icmp .ge 35, 3), (20, .aload_n 0, 1), (21, .getfield 9, 3), (24, .aload_n 0, 1), (25, .getfield 15, 3), (28, .iload_n 1, 1), (29, .bipush 8, 2), (31, .iload_n 3, 1), (32, .imul, 1), (33, .iushr, 1), (34, .i2b, 1), (35, .bastore, 1), (36, .aload_n 0, 1), (37, .dup, 1), (38, .getfield 15, 3), (41, .iconst 1, 1), (42, .iadd, 1), (43, .putfield 15, 3), (46, .iinc 3 (-1), 3), (49, .goto (-45), 3), (52, .return_, 1)]
theorem okX0_addHighFirst : ∀ e ∈ qX0_addHighFirst, decode cX0_addHighFirst e.1 = .ok (e.2.1, e.2.2) := by decide +kernel
def mX0_addHighFirst : xM := (yX0_addHighFirst, cX0_addHighFirst, 4, none, 0, qX0_addHighFirst)
def qX0_addPart : List (Nat × Instr × Nat) := [(0, .iload_n 2, 1), (1, .ifCond .lt 52, 3), (4, .iload_n 3, 1), (5, .ifCond .le 48, 3), (8, .iload_n 3, 1), (9, .aload_n 1, 1), (10, .getfield 15, 3), (13, .iload_n 2, 1), (14, .isub, 1), (15, .if_icmp .gt 38, 3), (18, .aload_n 0, 1), (19, .iload_n 3, 1), (20, .invokevirtual 19, 3), (23, .ifCond .eq 30, 3), (26, .aload_n 1, 1), (27, .getfield 9, 3), (30, .iload_n 2, 1), (31, .aload_n 0, 1), (32, .getfield 9, 3), (35, .aload_n 0, 1), (36, .getfield 15, 3), (39, .iload_n 3, 1), (40, .invokestatic 23, 3), (43, .aload_n 0, 1), (44, .dup, 1), (45, .getfield 15, 3), (48, .iload_n 3, 1), (49, .iadd, 1), (50, .putfield 15, 3), (53, .return_, 1)]
theorem okX0_addPart : ∀ e ∈ qX0_addPart, decode cX0_addPart e.1 = .ok (e.2.1, e.2.2) := by decide +kernel
def mX0_addPart : xM := (yX0_addPart, cX0_addPart, 4, none, 0, qX0_addPart)
def qX0_addAll : List (Nat × Instr × Nat) := [(0, .aload_n 0, 1), (1, .aload_n 1, 1), (2, .iconst 0, 1), (3, .aload_n 1, 1), (4, .getfield 15, 3), (7, .invokevirtual 29, 3), (10, .return_, 1)]
theorem okX0_addAll : ∀ e ∈ qX0_addAll, decode cX0_addAll e.1 = .ok (e.2.1, e.2.2) := by decide +kernel
def mX0_addAll : xM := (yX0_addAll, cX0_addAll, 2, none, 0, qX0_addAll)
def qX0_isSameAs : List (Nat × Instr × Nat) := [(0, .aload_n 0, 1), (1, .getfield 15, 3), (4, .aload_n 1, 1), (5, .getfield 15, 3), (8, .if_icmp .eq 5, 3), (11, .iconst 0, 1), (12, .ireturn, 1), (13, .iconst 0, 1), (14, .istore_n 2, 1), (15, .iload_n 2, 1), (16, .aload_n 0, 1), (17, .getfield 15, 3), (20, .if_icmp .ge 24, 3), (23, .aload_n 0, 1), (24, .iload_n 2, 1), (25, .invokevirtual 33, 3), (28, .aload_n 1, 1), (29, .iload_n 2, 1), (30, .invokevirtual 33, 3), (33, .if_icmp .eq 5, 3), (36, .iconst 0, 1), (37, .ireturn, 1), (38, .iinc 2 1, 3), (41, .goto (-26), 3), (44, .iconst 1, 1), (45, .ireturn, 1)]
theorem okX0_isSameAs : ∀ e ∈ qX0_isSameAs, decode cX0_isSameAs e.1 = .ok (e.2.1, e.2.2) := by decide +kernel
def mX0_isSameAs : xM := (yX0_isSameAs, cX0_isSameAs, 3, (some .boolean), 0, qX0_isSameAs)
def qX0_isTag : List (Nat × Instr × Nat) := [(0, .aload_n 0, 1), (1, .getfield 15, 3), (4, .iconst 2, 1), (5, .if_icmp .ne 17, 3), (8, .aload_n 0, 1), (9, .invokevirtual 37, 3), (12, .iload_n 1, 1), (13, .i2l, 1), (14, .lcmp, 1), (15, .ifCond .ne 7, 3), (18, .iconst 1, 1), (19, .goto 4, 3), (22, .iconst 0, 1), (23, .ireturn, 1)]
theorem okX0_isTag : ∀ e ∈ qX0_isTag, decode cX0_isTag e.1 = .ok (e.2.1, e.2.2) := by decide +kernel
def mX0_isTag : xM := (yX0_isTag, cX0_isTag, 2, (some .boolean), 0, qX0_isTag)
def qX0_wholeNumber : List (Nat × Instr × Nat) := [(0, .aload_n 0, 1), (1, .getfield 15, 3), (4, .iconst 4, 1), (5, .if_icmp .le 7, 3), (8, .ldc2_w 41, 3), (11, .lreturn, 1), (12, .lconst 0, 1), (13, .lstore_n 1, 1), (14, .iconst 0, 1), (15, .istore_n 3, 1), (16, .iload_n 3, 1), (17, .aload_n 0, 1), (18, .getfield 15, 3), (21, .if_icmp .ge 22, 3), (24, .lload_n 1, 1), (25, .ldc2_w 43, 3), (28, .lmul, 1), (29, .aload_n 0, 1), (30, .iload_n 3, 1), (31, .invokevirtual 33, 3), (34, .i2l, 1), (35, .ladd, 1), (36, .lstore_n 1, 1), (37, .iinc 3 1, 3), (40, .goto (-24), 3), (43, .lload_n 1, 1), (44, .lreturn, 1)]
theorem okX0_wholeNumber : ∀ e ∈ qX0_wholeNumber, decode cX0_wholeNumber e.1 = .ok (e.2.1, e.2.2) := by decide +kernel
def mX0_wholeNumber : xM := (yX0_wholeNumber, cX0_wholeNumber, 4, (some .long), 0, qX0_wholeNumber)
def qX1_init : List (Nat × Instr × Nat) := [(0, .aload_n 0, 1), (1, .invokespecial 3, 3), (4, .aload_n 0, 1), (5, .new 9, 3), (8, .dup, 1), (9, .bipush 8, 2), (11, .invokespecial 11, 3), (14, .putfield 14, 3), (17, .aload_n 0, 1), (18, .new 9, 3), (21, .dup, 1), (22, .sipush 400, 3), (25, .invokespecial 11, 3), (28, .putfield 20, 3), (31, .aload_n 0, 1), (32, .iload_n 1, 1), (33, .anewarray 23, 3), (36, .putfield 25, 3), (39, .iconst 0, 1), (40, .istore_n 2, 1), (41, .iload_n 2, 1), (42, .iload_n 1, 1), (43, .if_icmp .ge 22, 3), (46, .aload_n 0, 1), (47, .getfield 25, 3), (50, .iload_n 2, 1), (51, .new 23, 3), (54, .dup, 1), (55, .invokespecial 29, 3), (58, .aastore, 1), (59, .iinc 2 1, 3), (62, .goto (-21), 3), (65, .return_, 1)]
theorem okX1_init : ∀ e ∈ qX1_init, decode cX1_init e.1 = .ok (e.2.1, e.2.2) := by decide +kernel
def mX1_init : xM := (yX1_init, cX1_init, 3, none, 1, qX1_init)
def qX1_restart : List (Nat × Instr × Nat) := [(0, .aload_n 0, 1), (1, .iload_n 1, 1), (2, .putfield 30, 3), (5, .aload_n 0, 1), (6, .iload_n 2, 1), (7, .putfield 34, 3), (10, .aload_n 0, 1), (11, .iload_n 3, 1), (12, .putfield 37, 3), (15, .aload_n 0, 1), (16, .getfield 14, 3), (19, .invokevirtual 40, 3), (22, .aload_n 0, 1), (23, .getfield 20, 3), (26, .invokevirtual 40, 3), (29, .aload_n 0, 1), (30, .iconst 0, 1), (31, .putfield 43, 3), (34, .aload_n 0, 1), (35, .aconst_null, 1), (36, .putfield 46, 3), (39, .return_, 1)]
theorem okX1_restart : ∀ e ∈ qX1_restart, decode cX1_restart e.1 = .ok (e.2.1, e.2.2) := by decide +kernel
def mX1_restart : xM := (yX1_restart, cX1_restart, 4, none, 1, qX1_restart)
def qX1_at : List (Nat × Instr × Nat) := [(0, .iload_n 1, 1), (1, .ifCond .lt 20, 3), (4, .iload_n 1, 1), (5, .aload_n 0, 1), (6, .getfield 43, 3), (9, .if_icmp .ge 12, 3), (12, .aload_n 0, 1), (13, .getfield 25, 3), (16, .iload_n 1, 1), (17, .aaload, 1), (18, .goto 4, 3), (21, .aconst_null, 1), (22, .areturn, 1)]
theorem okX1_at : ∀ e ∈ qX1_at, decode cX1_at e.1 = .ok (e.2.1, e.2.2) := by decide +kernel
def mX1_at : xM := (yX1_at, cX1_at, 2, (some (.object "CoapDesk$Option")), 1, qX1_at)
def qX1_first : List (Nat × Instr × Nat) := [(0, .iconst 0, 1), (1, .istore_n 2, 1), (2, .iload_n 2, 1), (3, .aload_n 0, 1), (4, .getfield 43, 3), (7, .if_icmp .ge 29, 3), (10, .aload_n 0, 1), (11, .getfield 25, 3), (14, .iload_n 2, 1), (15, .aaload, 1), (16, .getfield 50, 3), (19, .iload_n 1, 1), (20, .if_icmp .ne 10, 3), (23, .aload_n 0, 1), (24, .getfield 25, 3), (27, .iload_n 2, 1), (28, .aaload, 1), (29, .areturn, 1), (30, .iinc 2 1, 3), (33, .goto (-31), 3), (36, .aconst_null, 1), (37, .areturn, 1)]
theorem okX1_first : ∀ e ∈ qX1_first, decode cX1_first e.1 = .ok (e.2.1, e.2.2) := by decide +kernel
def mX1_first : xM := (yX1_first, cX1_first, 3, (some (.object "CoapDesk$Option")), 1, qX1_first)
def qX1_put_0 : List (Nat × Instr × Nat) := [(0, .aload_n 0, 1), (1, .getfield 43, 3), (4, .aload_n 0, 1), (5, .getfield 25, 3), (8, .arraylength, 1), (9, .if_icmp .lt 5, 3), (12, .aconst_null, 1), (13, .areturn, 1), (14, .aload_n 0, 1), (15, .getfield 25, 3), (18, .aload_n 0, 1), (19, .getfield 43, 3), (22, .aaload, 1), (23, .astore_n 2, 1), (24, .aload_n 0, 1), (25, .getfield 43, 3), (28, .istore_n 3, 1), (29, .iload_n 3, 1), (30, .ifCond .le 38, 3), (33, .aload_n 0, 1), (34, .getfield 25, 3), (37, .iload_n 3, 1), (38, .iconst 1, 1), (39, .isub, 1), (40, .aaload, 1), (41, .getfield 50, 3), (44, .iload_n 1, 1), (45, .if_icmp .le 23, 3), (48, .aload_n 0, 1), (49, .getfield 25, 3), (52, .iload_n 3, 1), (53, .aload_n 0, 1), (54, .getfield 25, 3), (57, .iload_n 3, 1), (58, .iconst 1, 1), (59, .isub, 1), (60, .aaload, 1), (61, .aastore, 1), (62, .iinc 3 (-1), 3), (65, .goto (-36), 3)]
theorem okX1_put_0 : ∀ e ∈ qX1_put_0, decode cX1_put e.1 = .ok (e.2.1, e.2.2) := by decide +kernel
def qX1_put_1 : List (Nat × Instr × Nat) := [(68, .aload_n 0, 1), (69, .getfield 25, 3), (72, .iload_n 3, 1), (73, .aload_n 2, 1), (74, .aastore, 1), (75, .aload_n 2, 1), (76, .iload_n 1, 1), (77, .putfield 50, 3), (80, .aload_n 2, 1), (81, .getfield 53, 3), (84, .invokevirtual 40, 3), (87, .aload_n 0, 1), (88, .dup, 1), (89, .getfield 43, 3), (92, .iconst 1, 1), (93, .iadd, 1), (94, .putfield 43, 3), (97, .aload_n 0, 1), (98, .aload_n 2, 1), (99, .putfield 46, 3), (102, .aload_n 2, 1), (103, .areturn, 1)]
theorem okX1_put_1 : ∀ e ∈ qX1_put_1, decode cX1_put e.1 = .ok (e.2.1, e.2.2) := by decide +kernel
def qX1_put : List (Nat × Instr × Nat) := qX1_put_0 ++ (qX1_put_1)
theorem okX1_put : ∀ e ∈ qX1_put, decode cX1_put e.1 = .ok (e.2.1, e.2.2) := List.forall_mem_append.mpr ⟨okX1_put_0, okX1_put_1⟩
def mX1_put : xM := (yX1_put, cX1_put, 4, (some (.object "CoapDesk$Option")), 1, qX1_put)
def qX1_writtenSize_0 : List (Nat × Instr × Nat) := [(0, .iconst 4, 1), (1, .aload_n 0, 1), (2, .getfield 14, 3), (5, .getfield 56, 3), (8, .iadd, 1), (9, .istore_n 1, 1), (10, .iconst 0, 1), (11, .istore_n 2, 1), (12, .iconst 0, 1), (13, .istore_n 3, 1), (14, .iload_n 3, 1), (15, .aload_n 0, 1), (16, .getfield 43, 3), (19, .if_icmp .ge 61, 3), (22, .aload_n 0, 1), (23, .getfield 25, 3), (26, .iload_n 3, 1), (27, .aaload, 1), (28, .getfield 53, 3), (31, .getfield 56, 3), (34, .istore 4, 2), (36, .iload_n 1, 1), (37, .iconst 1, 1), (38, .aload_n 0, 1), (39, .getfield 25, 3), (42, .iload_n 3, 1), (43, .aaload, 1), (44, .getfield 50, 3), (47, .iload_n 2, 1), (48, .isub, 1), (49, .invokestatic 59, 3), (52, .iadd, 1), (53, .iload 4, 2), (55, .invokestatic 59, 3), (58, .iadd, 1), (59, .iload 4, 2), (61, .iadd, 1), (62, .iadd, 1), (63, .istore_n 1, 1), (64, .aload_n 0, 1)]
theorem okX1_writtenSize_0 : ∀ e ∈ qX1_writtenSize_0, decode cX1_writtenSize e.1 = .ok (e.2.1, e.2.2) := by decide +kernel
def qX1_writtenSize_1 : List (Nat × Instr × Nat) := [(65, .getfield 25, 3), (68, .iload_n 3, 1), (69, .aaload, 1), (70, .getfield 50, 3), (73, .istore_n 2, 1), (74, .iinc 3 1, 3), (77, .goto (-63), 3), (80, .aload_n 0, 1), (81, .getfield 20, 3), (84, .getfield 56, 3), (87, .ifCond .ne 7, 3), (90, .iload_n 1, 1), (91, .goto 14, 3), (94, .iload_n 1, 1), (95, .iconst 1, 1), (96, .iadd, 1), (97, .aload_n 0, 1), (98, .getfield 20, 3), (101, .getfield 56, 3), (104, .iadd, 1), (105, .ireturn, 1)]
theorem okX1_writtenSize_1 : ∀ e ∈ qX1_writtenSize_1, decode cX1_writtenSize e.1 = .ok (e.2.1, e.2.2) := by decide +kernel
def qX1_writtenSize : List (Nat × Instr × Nat) := qX1_writtenSize_0 ++ (qX1_writtenSize_1)
theorem okX1_writtenSize : ∀ e ∈ qX1_writtenSize, decode cX1_writtenSize e.1 = .ok (e.2.1, e.2.2) := List.forall_mem_append.mpr ⟨okX1_writtenSize_0, okX1_writtenSize_1⟩
def mX1_writtenSize : xM := (yX1_writtenSize, cX1_writtenSize, 5, (some .int), 1, qX1_writtenSize)
def qX1_writeBehind : List (Nat × Instr × Nat) := [(0, .aload_n 1, 1), (1, .bipush 64, 2), (3, .bipush 16, 2), (5, .aload_n 0, 1), (6, .getfield 30, 3), (9, .imul, 1), (10, .iadd, 1), (11, .aload_n 0, 1), (12, .getfield 14, 3), (15, .getfield 56, 3), (18, .iadd, 1), (19, .invokevirtual 63, 3), (22, .aload_n 1, 1), (23, .aload_n 0, 1), (24, .getfield 34, 3), (27, .invokevirtual 63, 3), (30, .aload_n 1, 1), (31, .aload_n 0, 1), (32, .getfield 37, 3), (35, .iconst 2, 1), (36, .invokevirtual 66, 3), (39, .aload_n 1, 1), (40, .aload_n 0, 1), (41, .getfield 14, 3), (44, .invokevirtual 70, 3), (47, .iconst 0, 1), (48, .istore_n 2, 1), (49, .iconst 0, 1), (50, .istore_n 3, 1), (51, .iload_n 3, 1), (52, .aload_n 0, 1), (53, .getfield 43, 3), (56, .if_icmp .ge 30, 3), (59, .aload_n 0, 1), (60, .getfield 25, 3), (63, .iload_n 3, 1), (64, .aaload, 1), (65, .iload_n 2, 1), (66, .aload_n 1, 1), (67, .invokestatic 74, 3), (70, .aload_n 0, 1), (71, .getfield 25, 3), (74, .iload_n 3, 1), (75, .aaload, 1), (76, .getfield 50, 3), (79, .istore_n 2, 1), (80, .iinc 3 1, 3), (83, .goto (-32), 3), (86, .aload_n 0, 1), (87, .getfield 20, 3), (90, .getfield 56, 3), (93, .ifCond .le 18, 3), (96, .aload_n 1, 1), (97, .sipush 255, 3), (100, .invokevirtual 63, 3), (103, .aload_n 1, 1), (104, .aload_n 0, 1), (105, .getfield 20, 3), (108, .invokevirtual 70, 3), (111, .return_, 1)]
theorem okX1_writeBehind : ∀ e ∈ qX1_writeBehind, decode cX1_writeBehind e.1 = .ok (e.2.1, e.2.2) := by decide +kernel
def mX1_writeBehind : xM := (yX1_writeBehind, cX1_writeBehind, 4, none, 1, qX1_writeBehind)
def qX1_writeOption : List (Nat × Instr × Nat) := [(0, .aload_n 0, 1), (1, .getfield 50, 3), (4, .iload_n 1, 1), (5, .isub, 1), (6, .istore_n 3, 1), (7, .aload_n 0, 1), (8, .getfield 53, 3), (11, .getfield 56, 3), (14, .istore 4, 2), (16, .aload_n 2, 1), (17, .bipush 16, 2), (19, .iload_n 3, 1), (20, .invokestatic 78, 3), (23, .imul, 1), (24, .iload 4, 2), (26, .invokestatic 78, 3), (29, .iadd, 1), (30, .invokevirtual 63, 3), (33, .iload_n 3, 1), (34, .aload_n 2, 1), (35, .invokestatic 81, 3), (38, .iload 4, 2), (40, .aload_n 2, 1), (41, .invokestatic 81, 3), (44, .aload_n 2, 1), (45, .aload_n 0, 1), (46, .getfield 53, 3), (49, .invokevirtual 70, 3), (52, .return_, 1)]
theorem okX1_writeOption : ∀ e ∈ qX1_writeOption, decode cX1_writeOption e.1 = .ok (e.2.1, e.2.2) := by decide +kernel
def mX1_writeOption : xM := (yX1_writeOption, cX1_writeOption, 5, none, 1, qX1_writeOption)
def qX1_moreBytes : List (Nat × Instr × Nat) := [(0, .iload_n 0, 1), (1, .bipush 13, 2), (3, .if_icmp .ge 5, 3), (6, .iconst 0, 1), (7, .ireturn, 1), (8, .iload_n 0, 1), (9, .sipush 269, 3), (12, .if_icmp .ge 7, 3), (15, .iconst 1, 1), (16, .goto 4, 3), (19, .iconst 2, 1), (20, .ireturn, 1)]
theorem okX1_moreBytes : ∀ e ∈ qX1_moreBytes, decode cX1_moreBytes e.1 = .ok (e.2.1, e.2.2) := by decide +kernel
def mX1_moreBytes : xM := (yX1_moreBytes, cX1_moreBytes, 1, (some .int), 1, qX1_moreBytes)
def qX1_shortForm : List (Nat × Instr × Nat) := [(0, .iload_n 0, 1), (1, .bipush 13, 2), (3, .if_icmp .ge 7, 3), (6, .iload_n 0, 1), (7, .goto 10, 3), (10, .bipush 12, 2), (12, .iload_n 0, 1), (13, .invokestatic 59, 3), (16, .iadd, 1), (17, .ireturn, 1)]
theorem okX1_shortForm : ∀ e ∈ qX1_shortForm, decode cX1_shortForm e.1 = .ok (e.2.1, e.2.2) := by decide +kernel
def mX1_shortForm : xM := (yX1_shortForm, cX1_shortForm, 1, (some .int), 1, qX1_shortForm)
def qX1_writeMore : List (Nat × Instr × Nat) := [(0, .iload_n 0, 1), (1, .invokestatic 59, 3), (4, .istore_n 2, 1), (5, .aload_n 1, 1), (6, .iload_n 0, 1), (7, .iload_n 2, 1), (8, .iconst 1, 1), (9, .if_icmp .ne 8, 3), (12, .bipush 13, 2), (14, .goto 6, 3), (17, .sipush 269, 3), (20, .isub, 1), (21, .iload_n 2, 1), (22, .invokevirtual 66, 3), (25, .return_, 1)]
theorem okX1_writeMore : ∀ e ∈ qX1_writeMore, decode cX1_writeMore e.1 = .ok (e.2.1, e.2.2) := by decide +kernel
def mX1_writeMore : xM := (yX1_writeMore, cX1_writeMore, 3, none, 1, qX1_writeMore)
def qX2_init : List (Nat × Instr × Nat) := [(0, .aload_n 0, 1), (1, .invokespecial 3, 3), (4, .aload_n 0, 1), (5, .new 9, 3), (8, .dup, 1), (9, .sipush 400, 3), (12, .invokespecial 11, 3), (15, .putfield 14, 3), (18, .return_, 1)]
theorem okX2_init : ∀ e ∈ qX2_init, decode cX2_init e.1 = .ok (e.2.1, e.2.2) := by decide +kernel
def mX2_init : xM := (yX2_init, cX2_init, 1, none, 2, qX2_init)
def qX3_init : List (Nat × Instr × Nat) := [(0, .aload_n 0, 1), (1, .invokespecial 1, 3), (4, .aload_n 0, 1), (5, .bipush 8, 2), (7, .anewarray 9, 3), (10, .putfield 11, 3), (13, .iconst 0, 1), (14, .istore_n 1, 1), (15, .iload_n 1, 1), (16, .bipush 8, 2), (18, .if_icmp .ge 22, 3), (21, .aload_n 0, 1), (22, .getfield 11, 3), (25, .iload_n 1, 1), (26, .new 9, 3), (29, .dup, 1), (30, .invokespecial 15, 3), (33, .aastore, 1), (34, .iinc 1 1, 3), (37, .goto (-22), 3), (40, .return_, 1)]
theorem okX3_init : ∀ e ∈ qX3_init, decode cX3_init e.1 = .ok (e.2.1, e.2.2) := by decide +kernel
def mX3_init : xM := (yX3_init, cX3_init, 2, none, 3, qX3_init)
def qX3_find : List (Nat × Instr × Nat) := [(0, .iconst 0, 1), (1, .istore_n 2, 1), (2, .iload_n 2, 1), (3, .bipush 8, 2), (5, .if_icmp .ge 29, 3), (8, .aload_n 0, 1), (9, .getfield 11, 3), (12, .iload_n 2, 1), (13, .aaload, 1), (14, .getfield 16, 3), (17, .iload_n 1, 1), (18, .if_icmp .ne 10, 3), (21, .aload_n 0, 1), (22, .getfield 11, 3), (25, .iload_n 2, 1), (26, .aaload, 1), (27, .areturn, 1), (28, .iinc 2 1, 3), (31, .goto (-29), 3), (34, .aconst_null, 1), (35, .areturn, 1)]
theorem okX3_find : ∀ e ∈ qX3_find, decode cX3_find e.1 = .ok (e.2.1, e.2.2) := by decide +kernel
def mX3_find : xM := (yX3_find, cX3_find, 3, (some (.object "CoapDesk$Sent")), 3, qX3_find)
def qX3_remember : List (Nat × Instr × Nat) := [(0, .aload_n 0, 1), (1, .getfield 11, 3), (4, .aload_n 0, 1), (5, .getfield 20, 3), (8, .aaload, 1), (9, .astore_n 2, 1), (10, .aload_n 0, 1), (11, .aload_n 0, 1), (12, .getfield 20, 3), (15, .iconst 1, 1), (16, .iadd, 1), (17, .bipush 7, 2), (19, .iand, 1), (20, .putfield 20, 3), (23, .aload_n 2, 1), (24, .iload_n 1, 1), (25, .putfield 16, 3), (28, .aload_n 2, 1), (29, .getfield 23, 3), (32, .invokevirtual 27, 3), (35, .aload_n 2, 1), (36, .areturn, 1)]
theorem okX3_remember : ∀ e ∈ qX3_remember, decode cX3_remember e.1 = .ok (e.2.1, e.2.2) := by decide +kernel
def mX3_remember : xM := (yX3_remember, cX3_remember, 3, (some (.object "CoapDesk$Sent")), 3, qX3_remember)
def qX4_init : List (Nat × Instr × Nat) := [(0, .aload_n 0, 1), (1, .invokespecial 3, 3), (4, .return_, 1)]
theorem okX4_init : ∀ e ∈ qX4_init, decode cX4_init e.1 = .ok (e.2.1, e.2.2) := by decide +kernel
def mX4_init : xM := (yX4_init, cX4_init, 1, none, 4, qX4_init)
def qX4_parse_0 : List (Nat × Instr × Nat) := [(0, .aload_n 0, 1), (1, .aload_n 1, 1), (2, .aload_n 2, 1), (3, .invokevirtual 9, 3), (6, .istore_n 3, 1), (7, .iload_n 3, 1), (8, .ifCond .ge 5, 3), (11, .iload_n 3, 1), (12, .ireturn, 1), (13, .iconst 0, 1), (14, .istore 4, 2), (16, .aload_n 0, 1), (17, .iconst 0, 1), (18, .putfield 15, 3), (21, .iconst 0, 1), (22, .istore 5, 2), (24, .iload 5, 2), (26, .aload_n 1, 1), (27, .getfield 19, 3), (30, .if_icmp .ge 49, 3), (33, .aload_n 0, 1), (34, .getfield 24, 3), (37, .aload_n 1, 1), (38, .getfield 19, 3), (41, .if_icmp .ge 38, 3), (44, .aload_n 1, 1), (45, .aload_n 0, 1), (46, .getfield 24, 3), (49, .invokevirtual 27, 3), (52, .sipush 255, 3), (55, .if_icmp .eq 24, 3), (58, .aload_n 0, 1), (59, .aload_n 1, 1), (60, .aload_n 2, 1), (61, .invokevirtual 31, 3), (64, .ifCond .ne 6, 3), (67, .bipush (-4), 2), (69, .ireturn, 1), (70, .iinc 4 1, 3), (73, .iinc 5 1, 3)]
theorem okX4_parse_0 : ∀ e ∈ qX4_parse_0, decode cX4_parse e.1 = .ok (e.2.1, e.2.2) := by decide +kernel
def qX4_parse_1 : List (Nat × Instr × Nat) := [(76, .goto (-52), 3), (79, .aload_n 2, 1), (80, .aconst_null, 1), (81, .putfield 35, 3), (84, .aload_n 0, 1), (85, .getfield 24, 3), (88, .aload_n 1, 1), (89, .getfield 19, 3), (92, .if_icmp .ge 15, 3), (95, .aload_n 0, 1), (96, .aload_n 1, 1), (97, .aload_n 2, 1), (98, .invokevirtual 41, 3), (101, .ifCond .ne 6, 3), (104, .bipush (-5), 2), (106, .ireturn, 1), (107, .aload_n 2, 1), (108, .getfield 44, 3), (111, .ifCond .ne 16, 3), (114, .aload_n 1, 1), (115, .getfield 19, 3), (118, .iconst 4, 1), (119, .if_icmp .le 8, 3), (122, .bipush (-6), 2), (124, .goto 5, 3), (127, .iload 4, 2), (129, .ireturn, 1)]
theorem okX4_parse_1 : ∀ e ∈ qX4_parse_1, decode cX4_parse e.1 = .ok (e.2.1, e.2.2) := by decide +kernel
def qX4_parse : List (Nat × Instr × Nat) := qX4_parse_0 ++ (qX4_parse_1)
theorem okX4_parse : ∀ e ∈ qX4_parse, decode cX4_parse e.1 = .ok (e.2.1, e.2.2) := List.forall_mem_append.mpr ⟨okX4_parse_0, okX4_parse_1⟩
def mX4_parse : xM := (yX4_parse, cX4_parse, 6, (some .int), 4, qX4_parse)
def qX4_parseHead_0 : List (Nat × Instr × Nat) := [(0, .aload_n 1, 1), (1, .getfield 19, 3), (4, .iconst 4, 1), (5, .if_icmp .ge 5, 3), (8, .iconst (-1), 1), (9, .ireturn, 1), (10, .aload_n 1, 1), (11, .iconst 0, 1), (12, .invokevirtual 27, 3), (15, .istore_n 3, 1), (16, .iload_n 3, 1), (17, .bipush 6, 2), (19, .ishr, 1), (20, .iconst 1, 1), (21, .if_icmp .eq 6, 3), (24, .bipush (-2), 2), (26, .ireturn, 1), (27, .iload_n 3, 1), (28, .bipush 15, 2), (30, .iand, 1), (31, .istore 4, 2), (33, .iload 4, 2), (35, .bipush 8, 2), (37, .if_icmp .gt 14, 3), (40, .iload 4, 2), (42, .aload_n 1, 1), (43, .getfield 19, 3), (46, .iconst 4, 1), (47, .isub, 1), (48, .if_icmp .le 6, 3), (51, .bipush (-3), 2), (53, .ireturn, 1), (54, .aload_n 2, 1), (55, .iload_n 3, 1), (56, .iconst 4, 1), (57, .ishr, 1), (58, .iconst 3, 1), (59, .iand, 1), (60, .aload_n 1, 1), (61, .iconst 1, 1)]
theorem okX4_parseHead_0 : ∀ e ∈ qX4_parseHead_0, decode cX4_parseHead e.1 = .ok (e.2.1, e.2.2) := by decide +kernel
def qX4_parseHead_1 : List (Nat × Instr × Nat) := [(62, .invokevirtual 27, 3), (65, .aload_n 1, 1), (66, .iconst 2, 1), (67, .invokevirtual 27, 3), (70, .sipush 256, 3), (73, .imul, 1), (74, .aload_n 1, 1), (75, .iconst 3, 1), (76, .invokevirtual 27, 3), (79, .iadd, 1), (80, .invokevirtual 47, 3), (83, .aload_n 2, 1), (84, .getfield 51, 3), (87, .aload_n 1, 1), (88, .iconst 4, 1), (89, .iload 4, 2), (91, .invokevirtual 55, 3), (94, .aload_n 0, 1), (95, .iconst 4, 1), (96, .iload 4, 2), (98, .iadd, 1), (99, .putfield 24, 3), (102, .iconst 0, 1), (103, .ireturn, 1)]
theorem okX4_parseHead_1 : ∀ e ∈ qX4_parseHead_1, decode cX4_parseHead e.1 = .ok (e.2.1, e.2.2) := by decide +kernel
def qX4_parseHead : List (Nat × Instr × Nat) := qX4_parseHead_0 ++ (qX4_parseHead_1)
theorem okX4_parseHead : ∀ e ∈ qX4_parseHead, decode cX4_parseHead e.1 = .ok (e.2.1, e.2.2) := List.forall_mem_append.mpr ⟨okX4_parseHead_0, okX4_parseHead_1⟩
def mX4_parseHead : xM := (yX4_parseHead, cX4_parseHead, 5, (some .int), 4, qX4_parseHead)
def qX4_parseOption_0 : List (Nat × Instr × Nat) := [(0, .aload_n 1, 1), (1, .aload_n 0, 1), (2, .getfield 24, 3), (5, .invokevirtual 27, 3), (8, .istore_n 3, 1), (9, .aload_n 0, 1), (10, .dup, 1), (11, .getfield 24, 3), (14, .iconst 1, 1), (15, .iadd, 1), (16, .putfield 24, 3), (19, .aload_n 0, 1), (20, .aload_n 1, 1), (21, .iload_n 3, 1), (22, .iconst 4, 1), (23, .ishr, 1), (24, .invokevirtual 59, 3), (27, .istore 4, 2), (29, .aload_n 0, 1), (30, .aload_n 1, 1), (31, .iload_n 3, 1), (32, .bipush 15, 2), (34, .iand, 1), (35, .invokevirtual 59, 3), (38, .istore 5, 2), (40, .iload 4, 2), (42, .iconst (-1), 1), (43, .if_icmp .eq 9, 3), (46, .iload 5, 2), (48, .iconst (-1), 1), (49, .if_icmp .ne 5, 3), (52, .iconst 0, 1), (53, .ireturn, 1), (54, .aload_n 0, 1), (55, .dup, 1), (56, .getfield 15, 3), (59, .iload 4, 2), (61, .iadd, 1), (62, .putfield 15, 3), (65, .aload_n 0, 1)]
theorem okX4_parseOption_0 : ∀ e ∈ qX4_parseOption_0, decode cX4_parseOption e.1 = .ok (e.2.1, e.2.2) := by decide +kernel
def qX4_parseOption_1 : List (Nat × Instr × Nat) := [(66, .getfield 15, 3), (69, .ldc 63, 2), (71, .if_icmp .gt 25, 3), (74, .iload 5, 2), (76, .sipush 400, 3), (79, .if_icmp .gt 17, 3), (82, .iload 5, 2), (84, .aload_n 1, 1), (85, .getfield 19, 3), (88, .aload_n 0, 1), (89, .getfield 24, 3), (92, .isub, 1), (93, .if_icmp .le 5, 3), (96, .iconst 0, 1), (97, .ireturn, 1), (98, .aload_n 2, 1), (99, .aload_n 0, 1), (100, .getfield 15, 3), (103, .invokevirtual 64, 3), (106, .astore 6, 2), (108, .aload 6, 2), (110, .ifnull 18, 3), (113, .aload 6, 2), (115, .getfield 68, 3), (118, .aload_n 1, 1), (119, .aload_n 0, 1), (120, .getfield 24, 3), (123, .iload 5, 2), (125, .invokevirtual 55, 3), (128, .aload_n 0, 1), (129, .dup, 1), (130, .getfield 24, 3), (133, .iload 5, 2), (135, .iadd, 1), (136, .putfield 24, 3), (139, .iconst 1, 1), (140, .ireturn, 1)]
theorem okX4_parseOption_1 : ∀ e ∈ qX4_parseOption_1, decode cX4_parseOption e.1 = .ok (e.2.1, e.2.2) := by decide +kernel
def qX4_parseOption : List (Nat × Instr × Nat) := qX4_parseOption_0 ++ (qX4_parseOption_1)
theorem okX4_parseOption : ∀ e ∈ qX4_parseOption, decode cX4_parseOption e.1 = .ok (e.2.1, e.2.2) := List.forall_mem_append.mpr ⟨okX4_parseOption_0, okX4_parseOption_1⟩
def mX4_parseOption : xM := (yX4_parseOption, cX4_parseOption, 7, (some .boolean), 4, qX4_parseOption)
def qX4_told : List (Nat × Instr × Nat) := [(0, .iload_n 2, 1), (1, .bipush 13, 2), (3, .if_icmp .ge 5, 3), (6, .iload_n 2, 1), (7, .ireturn, 1), (8, .iload_n 2, 1), (9, .bipush 12, 2), (11, .isub, 1), (12, .istore_n 3, 1), (13, .iload_n 3, 1), (14, .iconst 2, 1), (15, .if_icmp .gt 16, 3), (18, .iload_n 3, 1), (19, .aload_n 1, 1), (20, .getfield 19, 3), (23, .aload_n 0, 1), (24, .getfield 24, 3), (27, .isub, 1), (28, .if_icmp .le 5, 3), (31, .iconst (-1), 1), (32, .ireturn, 1), (33, .aload_n 1, 1), (34, .aload_n 0, 1), (35, .getfield 24, 3), (38, .invokevirtual 27, 3), (41, .istore 4, 2), (43, .aload_n 1, 1), (44, .aload_n 0, 1), (45, .getfield 24, 3), (48, .iconst 1, 1), (49, .iadd, 1), (50, .invokevirtual 27, 3), (53, .istore 5, 2), (55, .aload_n 0, 1), (56, .dup, 1), (57, .getfield 24, 3), (60, .iload_n 3, 1), (61, .iadd, 1), (62, .putfield 24, 3), (65, .iload_n 3, 1), (66, .iconst 1, 1), (67, .if_icmp .ne 11, 3), (70, .bipush 13, 2), (72, .iload 4, 2), (74, .iadd, 1), (75, .goto 16, 3), (78, .sipush 269, 3), (81, .sipush 256, 3), (84, .iload 4, 2), (86, .imul, 1), (87, .iadd, 1), (88, .iload 5, 2), (90, .iadd, 1), (91, .ireturn, 1)]
theorem okX4_told : ∀ e ∈ qX4_told, decode cX4_told e.1 = .ok (e.2.1, e.2.2) := by decide +kernel
def mX4_told : xM := (yX4_told, cX4_told, 6, (some .int), 4, qX4_told)
def qX4_parsePayload : List (Nat × Instr × Nat) := [(0, .aload_n 1, 1), (1, .getfield 19, 3), (4, .aload_n 0, 1), (5, .getfield 24, 3), (8, .isub, 1), (9, .iconst 1, 1), (10, .isub, 1), (11, .istore_n 3, 1), (12, .aload_n 2, 1), (13, .getfield 73, 3), (16, .aload_n 1, 1), (17, .aload_n 0, 1), (18, .getfield 24, 3), (21, .iconst 1, 1), (22, .iadd, 1), (23, .iload_n 3, 1), (24, .invokevirtual 55, 3), (27, .iload_n 3, 1), (28, .ifCond .le 14, 3), (31, .iload_n 3, 1), (32, .sipush 400, 3), (35, .if_icmp .gt 7, 3), (38, .iconst 1, 1), (39, .goto 4, 3), (42, .iconst 0, 1), (43, .ireturn, 1)]
theorem okX4_parsePayload : ∀ e ∈ qX4_parsePayload, decode cX4_parsePayload e.1 = .ok (e.2.1, e.2.2) := by decide +kernel
def mX4_parsePayload : xM := (yX4_parsePayload, cX4_parsePayload, 4, (some .boolean), 4, qX4_parsePayload)
def qX5_init : List (Nat × Instr × Nat) := [(0, .aload_n 0, 1), (1, .invokespecial 3, 3), (4, .aload_n 0, 1), (5, .new 9, 3), (8, .dup, 1), (9, .sipush 2040, 3), (12, .invokespecial 13, 3), (15, .putfield 16, 3), (18, .aload_n 0, 1), (19, .new 9, 3), (22, .dup, 1), (23, .sipush 400, 3), (26, .invokespecial 13, 3), (29, .putfield 20, 3), (32, .return_, 1)]
theorem okX5_init : ∀ e ∈ qX5_init, decode cX5_init e.1 = .ok (e.2.1, e.2.2) := by decide +kernel
def mX5_init : xM := (yX5_init, cX5_init, 1, none, 5, qX5_init)
def qX6_init : List (Nat × Instr × Nat) := [(0, .aload_n 0, 1), (1, .invokespecial 3, 3), (4, .aload_n 0, 1), (5, .new 9, 3), (8, .dup, 1), (9, .sipush 421, 3), (12, .invokespecial 13, 3), (15, .putfield 16, 3), (18, .aload_n 0, 1), (19, .iconst (-1), 1), (20, .putfield 20, 3), (23, .return_, 1)]
theorem okX6_init : ∀ e ∈ qX6_init, decode cX6_init e.1 = .ok (e.2.1, e.2.2) := by decide +kernel
def mX6_init : xM := (yX6_init, cX6_init, 1, none, 6, qX6_init)
def qX7_init : List (Nat × Instr × Nat) := [(0, .aload_n 0, 1), (1, .invokespecial 3, 3), (4, .aload_n 0, 1), (5, .new 9, 3), (8, .dup, 1), (9, .invokespecial 11, 3), (12, .putfield 12, 3), (15, .aload_n 0, 1), (16, .bipush 10, 2), (18, .anewarray 18, 3), (21, .putfield 20, 3), (24, .aload_n 0, 1), (25, .new 24, 3), (28, .dup, 1), (29, .iconst 2, 1), (30, .invokespecial 26, 3), (33, .putfield 29, 3), (36, .aload_n 0, 1), (37, .new 33, 3), (40, .dup, 1), (41, .sipush 2040, 3), (44, .invokespecial 37, 3), (47, .putfield 38, 3), (50, .iconst 0, 1), (51, .istore_n 1, 1), (52, .iload_n 1, 1), (53, .bipush 9, 2), (55, .if_icmp .gt 22, 3), (58, .aload_n 0, 1), (59, .getfield 20, 3), (62, .iload_n 1, 1), (63, .new 18, 3), (66, .dup, 1), (67, .invokespecial 42, 3), (70, .aastore, 1), (71, .iinc 1 1, 3), (74, .goto (-22), 3), (77, .return_, 1)]
theorem okX7_init : ∀ e ∈ qX7_init, decode cX7_init e.1 = .ok (e.2.1, e.2.2) := by decide +kernel
def mX7_init : xM := (yX7_init, cX7_init, 2, none, 7, qX7_init)
def qX7_take_0 : List (Nat × Instr × Nat) := [(0, .aload_n 1, 1), (1, .getfield 43, 3), (4, .iconst 1, 1), (5, .if_icmp .le 5, 3), (8, .iconst (-1), 1), (9, .ireturn, 1), (10, .aload_n 1, 1), (11, .getfield 47, 3), (14, .ifCond .eq 12, 3), (17, .aload_n 1, 1), (18, .getfield 47, 3), (21, .bipush 31, 2), (23, .if_icmp .le 24, 3), (26, .aload_n 1, 1), (27, .getfield 43, 3), (30, .ifCond .ne 15, 3), (33, .aload_n 0, 1), (34, .aload_n 1, 1), (35, .getfield 50, 3), (38, .aload_n 3, 1), (39, .invokevirtual 53, 3), (42, .goto 4, 3), (45, .iconst (-1), 1), (46, .ireturn, 1), (47, .aload_n 0, 1), (48, .getfield 20, 3), (51, .iload_n 2, 1), (52, .aaload, 1), (53, .aload_n 1, 1), (54, .getfield 50, 3), (57, .invokevirtual 57, 3), (60, .astore 4, 2), (62, .aload 4, 2), (64, .ifnull 16, 3), (67, .aload_n 0, 1), (68, .dup, 1), (69, .getfield 61, 3), (72, .iconst 1, 1), (73, .iadd, 1), (74, .putfield 61, 3)]
theorem okX7_take_0 : ∀ e ∈ qX7_take_0, decode cX7_take e.1 = .ok (e.2.1, e.2.2) := by decide +kernel
def qX7_take_1 : List (Nat × Instr × Nat) := [(77, .goto 57, 3), (80, .aload_n 0, 1), (81, .dup, 1), (82, .getfield 64, 3), (85, .iconst 1, 1), (86, .iadd, 1), (87, .putfield 64, 3), (90, .aload_n 0, 1), (91, .getfield 20, 3), (94, .iload_n 2, 1), (95, .aaload, 1), (96, .aload_n 1, 1), (97, .getfield 50, 3), (100, .invokevirtual 67, 3), (103, .astore 4, 2), (105, .aload_n 0, 1), (106, .aload_n 1, 1), (107, .invokevirtual 70, 3), (110, .aload_n 0, 1), (111, .getfield 29, 3), (114, .aload_n 0, 1), (115, .aload_n 1, 1), (116, .invokevirtual 74, 3), (119, .putfield 47, 3), (122, .aload_n 0, 1), (123, .getfield 29, 3), (126, .aload 4, 2), (128, .getfield 78, 3), (131, .invokevirtual 83, 3), (134, .aload_n 3, 1), (135, .aload 4, 2), (137, .getfield 78, 3), (140, .invokevirtual 87, 3), (143, .aload 4, 2), (145, .getfield 78, 3), (148, .iconst 1, 1), (149, .invokevirtual 90, 3), (152, .ireturn, 1)]
theorem okX7_take_1 : ∀ e ∈ qX7_take_1, decode cX7_take e.1 = .ok (e.2.1, e.2.2) := by decide +kernel
def qX7_take : List (Nat × Instr × Nat) := qX7_take_0 ++ (qX7_take_1)
theorem okX7_take : ∀ e ∈ qX7_take, decode cX7_take e.1 = .ok (e.2.1, e.2.2) := List.forall_mem_append.mpr ⟨okX7_take_0, okX7_take_1⟩
def mX7_take : xM := (yX7_take, cX7_take, 5, (some .int), 7, qX7_take)
def qX7_sendReset : List (Nat × Instr × Nat) := [(0, .aload_n 0, 1), (1, .getfield 29, 3), (4, .iconst 3, 1), (5, .iconst 0, 1), (6, .iload_n 1, 1), (7, .invokevirtual 94, 3), (10, .aload_n 0, 1), (11, .getfield 29, 3), (14, .aload_n 2, 1), (15, .invokevirtual 83, 3), (18, .iconst 0, 1), (19, .ireturn, 1)]
theorem okX7_sendReset : ∀ e ∈ qX7_sendReset, decode cX7_sendReset e.1 = .ok (e.2.1, e.2.2) := by decide +kernel
def mX7_sendReset : xM := (yX7_sendReset, cX7_sendReset, 3, (some .int), 7, qX7_sendReset)
def qX7_beginAnswer : List (Nat × Instr × Nat) := [(0, .aload_n 1, 1), (1, .getfield 43, 3), (4, .ifCond .ne 19, 3), (7, .aload_n 0, 1), (8, .getfield 29, 3), (11, .iconst 2, 1), (12, .iconst 0, 1), (13, .aload_n 1, 1), (14, .getfield 50, 3), (17, .invokevirtual 94, 3), (20, .goto 29, 3), (23, .aload_n 0, 1), (24, .getfield 29, 3), (27, .iconst 1, 1), (28, .iconst 0, 1), (29, .aload_n 0, 1), (30, .getfield 98, 3), (33, .invokevirtual 94, 3), (36, .aload_n 0, 1), (37, .aload_n 0, 1), (38, .getfield 98, 3), (41, .iconst 1, 1), (42, .iadd, 1), (43, .ldc 101, 2), (45, .iand, 1), (46, .putfield 98, 3), (49, .aload_n 0, 1), (50, .getfield 29, 3), (53, .getfield 102, 3), (56, .aload_n 1, 1), (57, .getfield 102, 3), (60, .invokevirtual 87, 3), (63, .return_, 1)]
theorem okX7_beginAnswer : ∀ e ∈ qX7_beginAnswer, decode cX7_beginAnswer e.1 = .ok (e.2.1, e.2.2) := by decide +kernel
def mX7_beginAnswer : xM := (yX7_beginAnswer, cX7_beginAnswer, 2, none, 7, qX7_beginAnswer)
def qX7_decide : List (Nat × Instr × Nat) := [(0, .aload_n 1, 1), (1, .invokestatic 105, 3), (4, .ifCond .eq 7, 3), (7, .sipush 130, 3), (10, .ireturn, 1), (11, .aload_n 1, 1), (12, .getfield 47, 3), (15, .iconst 4, 1), (16, .if_icmp .le 7, 3), (19, .sipush 133, 3), (22, .ireturn, 1), (23, .aload_n 0, 1), (24, .aload_n 1, 1), (25, .invokevirtual 109, 3), (28, .aload_n 0, 1), (29, .getfield 12, 3), (32, .aload_n 0, 1), (33, .getfield 38, 3), (36, .invokevirtual 112, 3), (39, .astore_n 2, 1), (40, .aload_n 1, 1), (41, .getfield 47, 3), (44, .iconst 1, 1), (45, .if_icmp .ne 10, 3), (48, .aload_n 0, 1), (49, .aload_n 1, 1), (50, .aload_n 2, 1), (51, .invokevirtual 115, 3), (54, .ireturn, 1), (55, .aload_n 1, 1), (56, .aload_n 2, 1), (57, .invokestatic 119, 3), (60, .ifCond .eq 7, 3), (63, .sipush 140, 3), (66, .ireturn, 1), (67, .aload_n 1, 1), (68, .getfield 47, 3), (71, .iconst 2, 1), (72, .if_icmp .ne 10, 3), (75, .aload_n 0, 1), (76, .aload_n 1, 1), (77, .aload_n 2, 1), (78, .invokevirtual 123, 3), (81, .ireturn, 1), (82, .aload_n 1, 1), (83, .getfield 47, 3), (86, .iconst 3, 1), (87, .if_icmp .ne 12, 3), (90, .aload_n 0, 1), (91, .aload_n 1, 1), (92, .aload_n 2, 1), (93, .invokevirtual 126, 3), (96, .goto 8, 3), (99, .aload_n 0, 1), (100, .aload_n 2, 1), (101, .invokevirtual 129, 3), (104, .ireturn, 1)]
theorem okX7_decide : ∀ e ∈ qX7_decide, decode cX7_decide e.1 = .ok (e.2.1, e.2.2) := by decide +kernel
def mX7_decide : xM := (yX7_decide, cX7_decide, 3, (some .int), 7, qX7_decide)
def qX7_hasBadOption : List (Nat × Instr × Nat) := [(0, .iconst 0, 1), (1, .istore_n 1, 1), (2, .iconst 0, 1), (3, .istore_n 2, 1), (4, .iconst 0, 1), (5, .istore_n 3, 1), (6, .iload_n 3, 1), (7, .aload_n 0, 1), (8, .getfield 133, 3), (11, .if_icmp .ge 62, 3), (14, .aload_n 0, 1), (15, .getfield 136, 3), (18, .iload_n 3, 1), (19, .aaload, 1), (20, .astore 4, 2), (22, .aload 4, 2), (24, .invokestatic 140, 3), (27, .ifCond .eq 5, 3), (30, .iconst 1, 1), (31, .ireturn, 1), (32, .iload_n 1, 1), (33, .aload 4, 2), (35, .getfield 144, 3), (38, .iconst 5, 1), (39, .if_icmp .ne 7, 3), (42, .iconst 1, 1), (43, .goto 4, 3), (46, .iconst 0, 1), (47, .iadd, 1), (48, .istore_n 1, 1), (49, .iload_n 2, 1), (50, .aload 4, 2), (52, .getfield 144, 3), (55, .bipush 23, 2), (57, .if_icmp .ne 7, 3), (60, .iconst 1, 1), (61, .goto 4, 3), (64, .iconst 0, 1), (65, .iadd, 1), (66, .istore_n 2, 1), (67, .iinc 3 1, 3), (70, .goto (-64), 3), (73, .iload_n 1, 1), (74, .iconst 1, 1), (75, .if_icmp .gt 8, 3), (78, .iload_n 2, 1), (79, .iconst 1, 1), (80, .if_icmp .le 7, 3), (83, .iconst 1, 1), (84, .goto 4, 3), (87, .iconst 0, 1), (88, .ireturn, 1)]
theorem okX7_hasBadOption : ∀ e ∈ qX7_hasBadOption, decode cX7_hasBadOption e.1 = .ok (e.2.1, e.2.2) := by decide +kernel
def mX7_hasBadOption : xM := (yX7_hasBadOption, cX7_hasBadOption, 5, (some .boolean), 7, qX7_hasBadOption)
def qX7_isBad : List (Nat × Instr × Nat) := [(0, .aload_n 0, 1), (1, .getfield 144, 3), (4, .lookupswitch 114 #[(1, 52), (5, 112), (11, 112), (15, 112), (23, 70)], 52), (56, .aload_n 0, 1), (57, .getfield 149, 3), (60, .getfield 152, 3), (63, .bipush 8, 2), (65, .if_icmp .le 7, 3), (68, .iconst 1, 1), (69, .goto 4, 3), (72, .iconst 0, 1), (73, .ireturn, 1), (74, .aload_n 0, 1), (75, .getfield 149, 3), (78, .invokevirtual 155, 3), (81, .lstore_n 1, 1), (82, .lload_n 1, 1), (83, .ldc2_w 159, 3), (86, .lcmp, 1), (87, .ifCond .eq 23, 3), (90, .lload_n 1, 1), (91, .ldc2_w 161, 3), (94, .lcmp, 1), (95, .ifCond .gt 15, 3), (98, .lload_n 1, 1), (99, .ldc2_w 163, 3), (102, .land, 1), (103, .ldc2_w 163, 3), (106, .lcmp, 1), (107, .ifCond .ne 7, 3), (110, .iconst 1, 1), (111, .goto 4, 3), (114, .iconst 0, 1), (115, .ireturn, 1), (116, .iconst 0, 1), (117, .ireturn, 1), (118, .aload_n 0, 1), (119, .getfield 144, 3), (122, .iconst 1, 1), (123, .iand, 1), (124, .iconst 1, 1), (125, .if_icmp .ne 7, 3), (128, .iconst 1, 1), (129, .goto 4, 3), (132, .iconst 0, 1), (133, .ireturn, 1)]
theorem okX7_isBad : ∀ e ∈ qX7_isBad, decode cX7_isBad e.1 = .ok (e.2.1, e.2.2) := by decide +kernel
def mX7_isBad : xM := (yX7_isBad, cX7_isBad, 3, (some .boolean), 7, qX7_isBad)
def qX7_takePath : List (Nat × Instr × Nat) := [(0, .aload_n 0, 1), (1, .getfield 38, 3), (4, .invokevirtual 165, 3), (7, .aload_n 0, 1), (8, .iconst 0, 1), (9, .putfield 168, 3), (12, .iconst 0, 1), (13, .istore_n 2, 1), (14, .iload_n 2, 1), (15, .aload_n 1, 1), (16, .getfield 133, 3), (19, .if_icmp .ge 61, 3), (22, .aload_n 1, 1), (23, .getfield 136, 3), (26, .iload_n 2, 1), (27, .aaload, 1), (28, .astore_n 3, 1), (29, .aload_n 3, 1), (30, .getfield 144, 3), (33, .bipush 11, 2), (35, .if_icmp .ne 39, 3), (38, .aload_n 0, 1), (39, .getfield 38, 3), (42, .aload_n 3, 1), (43, .getfield 149, 3), (46, .getfield 152, 3), (49, .iconst 2, 1), (50, .invokevirtual 171, 3), (53, .aload_n 0, 1), (54, .getfield 38, 3), (57, .aload_n 3, 1), (58, .getfield 149, 3), (61, .invokevirtual 87, 3), (64, .aload_n 0, 1), (65, .dup, 1), (66, .getfield 168, 3), (69, .iconst 1, 1), (70, .iadd, 1), (71, .putfield 168, 3), (74, .iinc 2 1, 3), (77, .goto (-63), 3), (80, .return_, 1)]
theorem okX7_takePath : ∀ e ∈ qX7_takePath, decode cX7_takePath e.1 = .ok (e.2.1, e.2.2) := by decide +kernel
def mX7_takePath : xM := (yX7_takePath, cX7_takePath, 4, none, 7, qX7_takePath)
def qX7_failsCondition : List (Nat × Instr × Nat) := [(0, .aload_n 1, 1), (1, .ifnull 13, 3), (4, .aload_n 0, 1), (5, .iconst 5, 1), (6, .invokevirtual 175, 3), (9, .ifnull 5, 3), (12, .iconst 1, 1), (13, .ireturn, 1), (14, .aload_n 0, 1), (15, .iconst 1, 1), (16, .invokevirtual 175, 3), (19, .ifnonnull 5, 3), (22, .iconst 0, 1), (23, .ireturn, 1), (24, .aload_n 1, 1), (25, .ifnull 14, 3), (28, .aload_n 0, 1), (29, .aload_n 1, 1), (30, .getfield 179, 3), (33, .invokestatic 182, 3), (36, .ifCond .ne 7, 3), (39, .iconst 1, 1), (40, .goto 4, 3), (43, .iconst 0, 1), (44, .ireturn, 1)]
theorem okX7_failsCondition : ∀ e ∈ qX7_failsCondition, decode cX7_failsCondition e.1 = .ok (e.2.1, e.2.2) := by decide +kernel
def mX7_failsCondition : xM := (yX7_failsCondition, cX7_failsCondition, 2, (some .boolean), 7, qX7_failsCondition)
def qX7_matches : List (Nat × Instr × Nat) := [(0, .iconst 0, 1), (1, .istore_n 2, 1), (2, .iload_n 2, 1), (3, .aload_n 0, 1), (4, .getfield 133, 3), (7, .if_icmp .ge 47, 3), (10, .aload_n 0, 1), (11, .getfield 136, 3), (14, .iload_n 2, 1), (15, .aaload, 1), (16, .astore_n 3, 1), (17, .aload_n 3, 1), (18, .getfield 144, 3), (21, .iconst 1, 1), (22, .if_icmp .ne 26, 3), (25, .aload_n 3, 1), (26, .getfield 149, 3), (29, .getfield 152, 3), (32, .ifCond .eq 14, 3), (35, .aload_n 3, 1), (36, .getfield 149, 3), (39, .iload_n 1, 1), (40, .invokevirtual 186, 3), (43, .ifCond .eq 5, 3), (46, .iconst 1, 1), (47, .ireturn, 1), (48, .iinc 2 1, 3), (51, .goto (-49), 3), (54, .iconst 0, 1), (55, .ireturn, 1)]
theorem okX7_matches : ∀ e ∈ qX7_matches, decode cX7_matches e.1 = .ok (e.2.1, e.2.2) := by decide +kernel
def mX7_matches : xM := (yX7_matches, cX7_matches, 4, (some .boolean), 7, qX7_matches)
def qX7_knowsTag : List (Nat × Instr × Nat) := [(0, .iconst 0, 1), (1, .istore_n 2, 1), (2, .iload_n 2, 1), (3, .aload_n 0, 1), (4, .getfield 133, 3), (7, .if_icmp .ge 37, 3), (10, .aload_n 0, 1), (11, .getfield 136, 3), (14, .iload_n 2, 1), (15, .aaload, 1), (16, .astore_n 3, 1), (17, .aload_n 3, 1), (18, .getfield 144, 3), (21, .iconst 4, 1), (22, .if_icmp .ne 16, 3), (25, .aload_n 3, 1), (26, .getfield 149, 3), (29, .iload_n 1, 1), (30, .invokevirtual 186, 3), (33, .ifCond .eq 5, 3), (36, .iconst 1, 1), (37, .ireturn, 1), (38, .iinc 2 1, 3), (41, .goto (-39), 3), (44, .iconst 0, 1), (45, .ireturn, 1)]
theorem okX7_knowsTag : ∀ e ∈ qX7_knowsTag, decode cX7_knowsTag e.1 = .ok (e.2.1, e.2.2) := by decide +kernel
def mX7_knowsTag : xM := (yX7_knowsTag, cX7_knowsTag, 4, (some .boolean), 7, qX7_knowsTag)
def qX7_answerGet : List (Nat × Instr × Nat) := [(0, .aload_n 2, 1), (1, .ifnonnull 7, 3), (4, .sipush 132, 3), (7, .ireturn, 1), (8, .aload_n 1, 1), (9, .aload_n 2, 1), (10, .getfield 179, 3), (13, .invokestatic 190, 3), (16, .ifCond .eq 16, 3), (19, .aload_n 0, 1), (20, .iconst 4, 1), (21, .aload_n 2, 1), (22, .getfield 179, 3), (25, .iconst 2, 1), (26, .invokevirtual 193, 3), (29, .bipush 67, 2), (31, .ireturn, 1), (32, .aload_n 1, 1), (33, .bipush 23, 2), (35, .invokevirtual 175, 3), (38, .astore_n 3, 1), (39, .aload_n 3, 1), (40, .ifnull 17, 3), (43, .aload_n 0, 1), (44, .aload_n 3, 1), (45, .getfield 149, 3), (48, .invokevirtual 155, 3), (51, .l2i, 1), (52, .aload_n 2, 1), (53, .invokevirtual 196, 3), (56, .ireturn, 1), (57, .aload_n 2, 1), (58, .getfield 200, 3), (61, .getfield 152, 3), (64, .bipush 64, 2), (66, .if_icmp .le 10, 3), (69, .aload_n 0, 1), (70, .iconst 2, 1), (71, .aload_n 2, 1), (72, .invokevirtual 196, 3), (75, .ireturn, 1), (76, .aload_n 0, 1), (77, .iconst 4, 1), (78, .aload_n 2, 1), (79, .getfield 179, 3), (82, .iconst 2, 1), (83, .invokevirtual 193, 3), (86, .aload_n 0, 1), (87, .getfield 29, 3), (90, .getfield 203, 3), (93, .aload_n 2, 1), (94, .getfield 200, 3), (97, .invokevirtual 87, 3), (100, .bipush 69, 2), (102, .ireturn, 1)]
theorem okX7_answerGet : ∀ e ∈ qX7_answerGet, decode cX7_answerGet e.1 = .ok (e.2.1, e.2.2) := by decide +kernel
def mX7_answerGet : xM := (yX7_answerGet, cX7_answerGet, 4, (some .int), 7, qX7_answerGet)
def qX7_answerBlock_0 : List (Nat × Instr × Nat) := [(0, .iload_n 1, 1), (1, .bipush 7, 2), (3, .iand, 1), (4, .istore_n 3, 1), (5, .bipush 16, 2), (7, .iload_n 3, 1), (8, .ishl, 1), (9, .istore 4, 2), (11, .iload_n 1, 1), (12, .iconst 4, 1), (13, .ishr, 1), (14, .istore 5, 2), (16, .iload 5, 2), (18, .iload 4, 2), (20, .imul, 1), (21, .istore 6, 2), (23, .aload_n 2, 1), (24, .getfield 200, 3), (27, .getfield 152, 3), (30, .iload 6, 2), (32, .isub, 1), (33, .istore 7, 2), (35, .iload 5, 2), (37, .ifCond .le 12, 3), (40, .iload 7, 2), (42, .ifCond .gt 7, 3), (45, .sipush 130, 3), (48, .ireturn, 1), (49, .bipush 16, 2), (51, .iload 5, 2), (53, .imul, 1), (54, .iload 7, 2), (56, .iload 4, 2), (58, .if_icmp .le 8, 3), (61, .bipush 8, 2), (63, .goto 4, 3), (66, .iconst 0, 1), (67, .iadd, 1), (68, .iload_n 3, 1), (69, .iadd, 1)]
theorem okX7_answerBlock_0 : ∀ e ∈ qX7_answerBlock_0, decode cX7_answerBlock e.1 = .ok (e.2.1, e.2.2) := by decide +kernel
def qX7_answerBlock_1 : List (Nat × Instr × Nat) := [(70, .istore 8, 2), (72, .aload_n 0, 1), (73, .iconst 4, 1), (74, .aload_n 2, 1), (75, .getfield 179, 3), (78, .iconst 2, 1), (79, .invokevirtual 193, 3), (82, .aload_n 0, 1), (83, .bipush 23, 2), (85, .iload 8, 2), (87, .iload 8, 2), (89, .invokestatic 206, 3), (92, .invokevirtual 193, 3), (95, .aload_n 0, 1), (96, .getfield 29, 3), (99, .getfield 203, 3), (102, .aload_n 2, 1), (103, .getfield 200, 3), (106, .iload 6, 2), (108, .iload 7, 2), (110, .iload 4, 2), (112, .invokestatic 209, 3), (115, .invokevirtual 215, 3), (118, .bipush 69, 2), (120, .ireturn, 1)]
theorem okX7_answerBlock_1 : ∀ e ∈ qX7_answerBlock_1, decode cX7_answerBlock e.1 = .ok (e.2.1, e.2.2) := by decide +kernel
def qX7_answerBlock : List (Nat × Instr × Nat) := qX7_answerBlock_0 ++ (qX7_answerBlock_1)
theorem okX7_answerBlock : ∀ e ∈ qX7_answerBlock, decode cX7_answerBlock e.1 = .ok (e.2.1, e.2.2) := List.forall_mem_append.mpr ⟨okX7_answerBlock_0, okX7_answerBlock_1⟩
def mX7_answerBlock : xM := (yX7_answerBlock, cX7_answerBlock, 9, (some .int), 7, qX7_answerBlock)
def qX7_fewestBytes : List (Nat × Instr × Nat) := [(0, .iconst 0, 1), (1, .istore_n 1, 1), (2, .iload_n 1, 1), (3, .iconst 4, 1), (4, .if_icmp .ge 18, 3), (7, .iload_n 0, 1), (8, .bipush 8, 2), (10, .iload_n 1, 1), (11, .imul, 1), (12, .iushr, 1), (13, .ifCond .eq 9, 3), (16, .iinc 1 1, 3), (19, .goto (-17), 3), (22, .iload_n 1, 1), (23, .ireturn, 1)]
theorem okX7_fewestBytes : ∀ e ∈ qX7_fewestBytes, decode cX7_fewestBytes e.1 = .ok (e.2.1, e.2.2) := by decide +kernel
def mX7_fewestBytes : xM := (yX7_fewestBytes, cX7_fewestBytes, 2, (some .int), 7, qX7_fewestBytes)
def qX7_addNumber : List (Nat × Instr × Nat) := [(0, .aload_n 0, 1), (1, .getfield 29, 3), (4, .iload_n 1, 1), (5, .invokevirtual 219, 3), (8, .astore 4, 2), (10, .aload 4, 2), (12, .ifnull 13, 3), (15, .aload 4, 2), (17, .getfield 149, 3), (20, .iload_n 2, 1), (21, .iload_n 3, 1), (22, .invokevirtual 171, 3), (25, .return_, 1)]
theorem okX7_addNumber : ∀ e ∈ qX7_addNumber, decode cX7_addNumber e.1 = .ok (e.2.1, e.2.2) := by decide +kernel
def mX7_addNumber : xM := (yX7_addNumber, cX7_addNumber, 5, none, 7, qX7_addNumber)
def qX7_answerPut : List (Nat × Instr × Nat) := [(0, .aload_n 2, 1), (1, .ifnonnull 21, 3), (4, .aload_n 0, 1), (5, .getfield 12, 3), (8, .aload_n 0, 1), (9, .getfield 38, 3), (12, .aload_n 0, 1), (13, .getfield 168, 3), (16, .invokevirtual 222, 3), (19, .goto 4, 3), (22, .aload_n 2, 1), (23, .astore_n 3, 1), (24, .aload_n 3, 1), (25, .ifnonnull 7, 3), (28, .sipush 143, 3), (31, .ireturn, 1), (32, .aload_n 3, 1), (33, .getfield 200, 3), (36, .invokevirtual 165, 3), (39, .aload_n 0, 1), (40, .aload_n 3, 1), (41, .aload_n 1, 1), (42, .getfield 203, 3), (45, .aload_n 2, 1), (46, .ifnonnull 8, 3), (49, .bipush 65, 2), (51, .goto 5, 3), (54, .bipush 68, 2), (56, .invokevirtual 226, 3), (59, .ireturn, 1)]
theorem okX7_answerPut : ∀ e ∈ qX7_answerPut, decode cX7_answerPut e.1 = .ok (e.2.1, e.2.2) := by decide +kernel
def mX7_answerPut : xM := (yX7_answerPut, cX7_answerPut, 4, (some .int), 7, qX7_answerPut)
def qX7_answerPost : List (Nat × Instr × Nat) := [(0, .aload_n 2, 1), (1, .ifnonnull 7, 3), (4, .sipush 132, 3), (7, .ireturn, 1), (8, .aload_n 2, 1), (9, .getfield 200, 3), (12, .aload_n 1, 1), (13, .getfield 203, 3), (16, .getfield 152, 3), (19, .invokevirtual 230, 3), (22, .ifCond .ne 7, 3), (25, .sipush 141, 3), (28, .ireturn, 1), (29, .aload_n 0, 1), (30, .aload_n 2, 1), (31, .aload_n 1, 1), (32, .getfield 203, 3), (35, .bipush 68, 2), (37, .invokevirtual 226, 3), (40, .ireturn, 1)]
theorem okX7_answerPost : ∀ e ∈ qX7_answerPost, decode cX7_answerPost e.1 = .ok (e.2.1, e.2.2) := by decide +kernel
def mX7_answerPost : xM := (yX7_answerPost, cX7_answerPost, 3, (some .int), 7, qX7_answerPost)
def qX7_change : List (Nat × Instr × Nat) := [(0, .aload_n 1, 1), (1, .getfield 200, 3), (4, .aload_n 2, 1), (5, .invokevirtual 87, 3), (8, .aload_n 0, 1), (9, .getfield 12, 3), (12, .aload_n 1, 1), (13, .invokevirtual 233, 3), (16, .aload_n 0, 1), (17, .iconst 4, 1), (18, .aload_n 1, 1), (19, .getfield 179, 3), (22, .iconst 2, 1), (23, .invokevirtual 193, 3), (26, .iload_n 3, 1), (27, .ireturn, 1)]
theorem okX7_change : ∀ e ∈ qX7_change, decode cX7_change e.1 = .ok (e.2.1, e.2.2) := by decide +kernel
def mX7_change : xM := (yX7_change, cX7_change, 4, (some .int), 7, qX7_change)
def qX7_answerDelete : List (Nat × Instr × Nat) := [(0, .aload_n 1, 1), (1, .ifnull 11, 3), (4, .aload_n 0, 1), (5, .getfield 12, 3), (8, .aload_n 1, 1), (9, .invokevirtual 237, 3), (12, .bipush 66, 2), (14, .ireturn, 1)]
theorem okX7_answerDelete : ∀ e ∈ qX7_answerDelete, decode cX7_answerDelete e.1 = .ok (e.2.1, e.2.2) := by decide +kernel
def mX7_answerDelete : xM := (yX7_answerDelete, cX7_answerDelete, 2, (some .int), 7, qX7_answerDelete)
def qX8_init : List (Nat × Instr × Nat) := [(0, .aload_n 0, 1), (1, .invokespecial 3, 3), (4, .aload_n 0, 1), (5, .bipush 16, 2), (7, .anewarray 9, 3), (10, .putfield 11, 3), (13, .iconst 0, 1), (14, .istore_n 1, 1), (15, .iload_n 1, 1), (16, .bipush 16, 2), (18, .if_icmp .ge 22, 3), (21, .aload_n 0, 1), (22, .getfield 11, 3), (25, .iload_n 1, 1), (26, .new 9, 3), (29, .dup, 1), (30, .invokespecial 17, 3), (33, .aastore, 1), (34, .iinc 1 1, 3), (37, .goto (-22), 3), (40, .return_, 1)]
theorem okX8_init : ∀ e ∈ qX8_init, decode cX8_init e.1 = .ok (e.2.1, e.2.2) := by decide +kernel
def mX8_init : xM := (yX8_init, cX8_init, 2, none, 8, qX8_init)
def qX8_at : List (Nat × Instr × Nat) := [(0, .iload_n 1, 1), (1, .ifCond .lt 20, 3), (4, .iload_n 1, 1), (5, .aload_n 0, 1), (6, .getfield 18, 3), (9, .if_icmp .ge 12, 3), (12, .aload_n 0, 1), (13, .getfield 11, 3), (16, .iload_n 1, 1), (17, .aaload, 1), (18, .goto 4, 3), (21, .aconst_null, 1), (22, .areturn, 1)]
theorem okX8_at : ∀ e ∈ qX8_at, decode cX8_at e.1 = .ok (e.2.1, e.2.2) := by decide +kernel
def mX8_at : xM := (yX8_at, cX8_at, 2, (some (.object "CoapDesk$Resource")), 8, qX8_at)
def qX8_find : List (Nat × Instr × Nat) := [(0, .iconst 0, 1), (1, .istore_n 2, 1), (2, .iload_n 2, 1), (3, .aload_n 0, 1), (4, .getfield 18, 3), (7, .if_icmp .ge 32, 3), (10, .aload_n 0, 1), (11, .getfield 11, 3), (14, .iload_n 2, 1), (15, .aaload, 1), (16, .getfield 22, 3), (19, .aload_n 1, 1), (20, .invokevirtual 26, 3), (23, .ifCond .eq 10, 3), (26, .aload_n 0, 1), (27, .getfield 11, 3), (30, .iload_n 2, 1), (31, .aaload, 1), (32, .areturn, 1), (33, .iinc 2 1, 3), (36, .goto (-34), 3), (39, .aconst_null, 1), (40, .areturn, 1)]
theorem okX8_find : ∀ e ∈ qX8_find, decode cX8_find e.1 = .ok (e.2.1, e.2.2) := by decide +kernel
def mX8_find : xM := (yX8_find, cX8_find, 3, (some (.object "CoapDesk$Resource")), 8, qX8_find)
def qX8_make : List (Nat × Instr × Nat) := [(0, .aload_n 0, 1), (1, .getfield 18, 3), (4, .bipush 16, 2), (6, .if_icmp .lt 5, 3), (9, .aconst_null, 1), (10, .areturn, 1), (11, .aload_n 0, 1), (12, .getfield 11, 3), (15, .aload_n 0, 1), (16, .getfield 18, 3), (19, .aaload, 1), (20, .astore_n 3, 1), (21, .aload_n 0, 1), (22, .dup, 1), (23, .getfield 18, 3), (26, .iconst 1, 1), (27, .iadd, 1), (28, .putfield 18, 3), (31, .aload_n 3, 1), (32, .getfield 22, 3), (35, .invokevirtual 32, 3), (38, .aload_n 3, 1), (39, .getfield 22, 3), (42, .aload_n 1, 1), (43, .invokevirtual 35, 3), (46, .aload_n 3, 1), (47, .iload_n 2, 1), (48, .putfield 39, 3), (51, .aload_n 3, 1), (52, .getfield 42, 3), (55, .invokevirtual 32, 3), (58, .aload_n 3, 1), (59, .areturn, 1)]
theorem okX8_make : ∀ e ∈ qX8_make, decode cX8_make e.1 = .ok (e.2.1, e.2.2) := by decide +kernel
def mX8_make : xM := (yX8_make, cX8_make, 4, (some (.object "CoapDesk$Resource")), 8, qX8_make)
def qX8_remove : List (Nat × Instr × Nat) := [(0, .iconst 0, 1), (1, .istore_n 2, 1), (2, .iconst 0, 1), (3, .istore_n 3, 1), (4, .iload_n 3, 1), (5, .aload_n 0, 1), (6, .getfield 18, 3), (9, .if_icmp .ge 34, 3), (12, .aload_n 0, 1), (13, .getfield 11, 3), (16, .iload_n 3, 1), (17, .aaload, 1), (18, .aload_n 1, 1), (19, .if_acmp .eq 18, 3), (22, .aload_n 0, 1), (23, .getfield 11, 3), (26, .iload_n 2, 1), (27, .aload_n 0, 1), (28, .getfield 11, 3), (31, .iload_n 3, 1), (32, .aaload, 1), (33, .aastore, 1), (34, .iinc 2 1, 3), (37, .iinc 3 1, 3), (40, .goto (-36), 3), (43, .iload_n 2, 1), (44, .aload_n 0, 1), (45, .getfield 18, 3), (48, .if_icmp .ge 15, 3), (51, .aload_n 0, 1), (52, .getfield 11, 3), (55, .iload_n 2, 1), (56, .aload_n 1, 1), (57, .aastore, 1), (58, .aload_n 0, 1), (59, .iload_n 2, 1), (60, .putfield 18, 3), (63, .return_, 1)]
theorem okX8_remove : ∀ e ∈ qX8_remove, decode cX8_remove e.1 = .ok (e.2.1, e.2.2) := by decide +kernel
def mX8_remove : xM := (yX8_remove, cX8_remove, 4, none, 8, qX8_remove)
def qX8_giveNextTag : List (Nat × Instr × Nat) := [(0, .aload_n 0, 1), (1, .aload_n 0, 1), (2, .getfield 45, 3), (5, .iconst 1, 1), (6, .iadd, 1), (7, .ldc 48, 2), (9, .iand, 1), (10, .putfield 45, 3), (13, .aload_n 1, 1), (14, .aload_n 0, 1), (15, .getfield 45, 3), (18, .putfield 49, 3), (21, .return_, 1)]
theorem okX8_giveNextTag : ∀ e ∈ qX8_giveNextTag, decode cX8_giveNextTag e.1 = .ok (e.2.1, e.2.2) := by decide +kernel
def mX8_giveNextTag : xM := (yX8_giveNextTag, cX8_giveNextTag, 2, none, 8, qX8_giveNextTag)
def qX9_init : List (Nat × Instr × Nat) := [(0, .aload_n 0, 1), (1, .invokespecial 3, 3), (4, .aload_n 0, 1), (5, .new 9, 3), (8, .dup, 1), (9, .sipush 2000, 3), (12, .invokespecial 11, 3), (15, .putfield 14, 3), (18, .aload_n 0, 1), (19, .new 18, 3), (22, .dup, 1), (23, .invokespecial 20, 3), (26, .putfield 21, 3), (29, .aload_n 0, 1), (30, .new 25, 3), (33, .dup, 1), (34, .invokespecial 27, 3), (37, .putfield 28, 3), (40, .aload_n 0, 1), (41, .new 32, 3), (44, .dup, 1), (45, .bipush 20, 2), (47, .invokespecial 34, 3), (50, .putfield 35, 3), (53, .aload_n 0, 1), (54, .new 32, 3), (57, .dup, 1), (58, .bipush 20, 2), (60, .invokespecial 34, 3), (63, .putfield 39, 3), (66, .return_, 1)]
theorem okX9_init : ∀ e ∈ qX9_init, decode cX9_init e.1 = .ok (e.2.1, e.2.2) := by decide +kernel
def mX9_init : xM := (yX9_init, cX9_init, 1, none, 9, qX9_init)
def qX9_begin : List (Nat × Instr × Nat) := [(0, .iload_n 1, 1), (1, .iconst 3, 1), (2, .invokestatic 42, 3), (5, .ifCond .eq 26, 3), (8, .iload_n 2, 1), (9, .sipush 255, 3), (12, .invokestatic 42, 3), (15, .ifCond .eq 16, 3), (18, .iload_n 3, 1), (19, .ldc 46, 2), (21, .invokestatic 42, 3), (24, .ifCond .eq 7, 3), (27, .iconst 1, 1), (28, .goto 4, 3), (31, .iconst 0, 1), (32, .istore 7, 2), (34, .iload 7, 2), (36, .ifCond .eq 13, 3), (39, .iload 6, 2), (41, .bipush 8, 2), (43, .invokestatic 42, 3), (46, .ifCond .ne 13, 3), (49, .new 47, 3), (52, .dup, 1), (53, .ldc 49, 2), (55, .invokespecial 51, 3), (58, .athrow, 1), (59, .aload_n 0, 1), (60, .getfield 35, 3), (63, .iload_n 1, 1), (64, .iload_n 2, 1), (65, .iload_n 3, 1), (66, .invokevirtual 54, 3), (69, .aload_n 0, 1), (70, .getfield 35, 3), (73, .getfield 58, 3), (76, .lload 4, 2), (78, .iload 6, 2), (80, .invokevirtual 61, 3), (83, .return_, 1)]
theorem okX9_begin : ∀ e ∈ qX9_begin, decode cX9_begin e.1 = .ok (e.2.1, e.2.2) := by decide +kernel
def mX9_begin : xM := (yX9_begin, cX9_begin, 8, none, 9, qX9_begin)
def qX9_option : List (Nat × Instr × Nat) := [(0, .iload_n 1, 1), (1, .ldc 46, 2), (3, .invokestatic 42, 3), (6, .ifCond .eq 13, 3), (9, .iload 4, 2), (11, .bipush 8, 2), (13, .invokestatic 42, 3), (16, .ifCond .ne 13, 3), (19, .new 47, 3), (22, .dup, 1), (23, .ldc 65, 2), (25, .invokespecial 51, 3), (28, .athrow, 1), (29, .aload_n 0, 1), (30, .getfield 35, 3), (33, .iload_n 1, 1), (34, .invokevirtual 67, 3), (37, .astore 5, 2), (39, .aload 5, 2), (41, .ifnonnull 13, 3), (44, .new 71, 3), (47, .dup, 1), (48, .ldc 73, 2), (50, .invokespecial 75, 3), (53, .athrow, 1), (54, .aload 5, 2), (56, .getfield 76, 3), (59, .lload_n 2, 1), (60, .iload 4, 2), (62, .invokevirtual 61, 3), (65, .aload_n 0, 1), (66, .getfield 35, 3), (69, .getfield 81, 3), (72, .ireturn, 1)]
theorem okX9_option : ∀ e ∈ qX9_option, decode cX9_option e.1 = .ok (e.2.1, e.2.2) := by decide +kernel
def mX9_option : xM := (yX9_option, cX9_option, 6, (some .int), 9, qX9_option)
def qX9_longer : List (Nat × Instr × Nat) := [(0, .iload_n 3, 1), (1, .bipush 8, 2), (3, .invokestatic 42, 3), (6, .ifCond .ne 13, 3), (9, .new 47, 3), (12, .dup, 1), (13, .ldc 85, 2), (15, .invokespecial 51, 3), (18, .athrow, 1), (19, .aload_n 0, 1), (20, .getfield 35, 3), (23, .getfield 87, 3), (26, .astore 4, 2), (28, .aload 4, 2), (30, .ifnull 15, 3), (33, .aload 4, 2), (35, .getfield 76, 3), (38, .iload_n 3, 1), (39, .invokevirtual 91, 3), (42, .ifCond .ne 13, 3), (45, .new 71, 3), (48, .dup, 1), (49, .ldc 95, 2), (51, .invokespecial 75, 3), (54, .athrow, 1), (55, .aload 4, 2), (57, .getfield 76, 3), (60, .lload_n 1, 1), (61, .iload_n 3, 1), (62, .invokevirtual 61, 3), (65, .aload 4, 2), (67, .getfield 76, 3), (70, .getfield 97, 3), (73, .ireturn, 1)]
theorem okX9_longer : ∀ e ∈ qX9_longer, decode cX9_longer e.1 = .ok (e.2.1, e.2.2) := by decide +kernel
def mX9_longer : xM := (yX9_longer, cX9_longer, 5, (some .int), 9, qX9_longer)
def qX9_payload : List (Nat × Instr × Nat) := [(0, .aload_n 0, 1), (1, .getfield 35, 3), (4, .getfield 100, 3), (7, .lload_n 1, 1), (8, .iload_n 3, 1), (9, .invokestatic 103, 3), (12, .ireturn, 1)]
theorem okX9_payload : ∀ e ∈ qX9_payload, decode cX9_payload e.1 = .ok (e.2.1, e.2.2) := by decide +kernel
def mX9_payload : xM := (yX9_payload, cX9_payload, 4, (some .int), 9, qX9_payload)
def qX9_write : List (Nat × Instr × Nat) := [(0, .aload_n 0, 1), (1, .getfield 35, 3), (4, .invokevirtual 107, 3), (7, .sipush 2000, 3), (10, .if_icmp .le 13, 3), (13, .new 71, 3), (16, .dup, 1), (17, .ldc 111, 2), (19, .invokespecial 75, 3), (22, .athrow, 1), (23, .aload_n 0, 1), (24, .getfield 14, 3), (27, .invokevirtual 113, 3), (30, .aload_n 0, 1), (31, .getfield 35, 3), (34, .aload_n 0, 1), (35, .getfield 14, 3), (38, .invokevirtual 116, 3), (41, .aload_n 0, 1), (42, .getfield 14, 3), (45, .getfield 97, 3), (48, .ireturn, 1)]
theorem okX9_write : ∀ e ∈ qX9_write, decode cX9_write e.1 = .ok (e.2.1, e.2.2) := by decide +kernel
def mX9_write : xM := (yX9_write, cX9_write, 1, (some .int), 9, qX9_write)
def qX9_feed : List (Nat × Instr × Nat) := [(0, .aload_n 0, 1), (1, .getfield 14, 3), (4, .lload_n 1, 1), (5, .iload_n 3, 1), (6, .invokestatic 103, 3), (9, .ireturn, 1)]
theorem okX9_feed : ∀ e ∈ qX9_feed, decode cX9_feed e.1 = .ok (e.2.1, e.2.2) := by decide +kernel
def mX9_feed : xM := (yX9_feed, cX9_feed, 4, (some .int), 9, qX9_feed)
def qX9_end : List (Nat × Instr × Nat) := [(0, .iload_n 1, 1), (1, .aload_n 0, 1), (2, .getfield 14, 3), (5, .getfield 97, 3), (8, .invokestatic 42, 3), (11, .ifCond .ne 13, 3), (14, .new 47, 3), (17, .dup, 1), (18, .ldc 120, 2), (20, .invokespecial 51, 3), (23, .athrow, 1), (24, .aload_n 0, 1), (25, .getfield 14, 3), (28, .iload_n 1, 1), (29, .invokevirtual 122, 3), (32, .return_, 1)]
theorem okX9_end : ∀ e ∈ qX9_end, decode cX9_end e.1 = .ok (e.2.1, e.2.2) := by decide +kernel
def mX9_end : xM := (yX9_end, cX9_end, 2, none, 9, qX9_end)
def qX9_read : List (Nat × Instr × Nat) := [(0, .aload_n 0, 1), (1, .getfield 21, 3), (4, .aload_n 0, 1), (5, .getfield 14, 3), (8, .aload_n 0, 1), (9, .getfield 39, 3), (12, .invokevirtual 125, 3), (15, .istore_n 1, 1), (16, .iload_n 1, 1), (17, .bipush 20, 2), (19, .if_icmp .le 13, 3), (22, .new 129, 3), (25, .dup, 1), (26, .ldc 131, 2), (28, .invokespecial 133, 3), (31, .athrow, 1), (32, .iload_n 1, 1), (33, .ifCond .lt 21, 3), (36, .aload_n 0, 1), (37, .getfield 35, 3), (40, .astore_n 2, 1), (41, .aload_n 0, 1), (42, .aload_n 0, 1), (43, .getfield 39, 3), (46, .putfield 35, 3), (49, .aload_n 0, 1), (50, .aload_n 2, 1), (51, .putfield 39, 3), (54, .iload_n 1, 1), (55, .ireturn, 1)]
theorem okX9_read : ∀ e ∈ qX9_read, decode cX9_read e.1 = .ok (e.2.1, e.2.2) := by decide +kernel
def mX9_read : xM := (yX9_read, cX9_read, 3, (some .int), 9, qX9_read)
def qX9_about : List (Nat × Instr × Nat) := [(0, .iload_n 1, 1), (1, .tableswitch 93 0 5 #[39, 47, 55, 63, 74, 82], 39), (40, .aload_n 0, 1), (41, .getfield 35, 3), (44, .getfield 134, 3), (47, .ireturn, 1), (48, .aload_n 0, 1), (49, .getfield 35, 3), (52, .getfield 137, 3), (55, .ireturn, 1), (56, .aload_n 0, 1), (57, .getfield 35, 3), (60, .getfield 140, 3), (63, .ireturn, 1), (64, .aload_n 0, 1), (65, .getfield 35, 3), (68, .getfield 58, 3), (71, .getfield 97, 3), (74, .ireturn, 1), (75, .aload_n 0, 1), (76, .getfield 35, 3), (79, .getfield 81, 3), (82, .ireturn, 1), (83, .aload_n 0, 1), (84, .getfield 35, 3), (87, .getfield 100, 3), (90, .getfield 97, 3), (93, .ireturn, 1), (94, .new 47, 3), (97, .dup, 1), (98, .ldc 143, 2), (100, .invokespecial 51, 3), (103, .athrow, 1)]
theorem okX9_about : ∀ e ∈ qX9_about, decode cX9_about e.1 = .ok (e.2.1, e.2.2) := by decide +kernel
def mX9_about : xM := (yX9_about, cX9_about, 2, (some .int), 9, qX9_about)
def qX9_byteOf : List (Nat × Instr × Nat) := [(0, .iload_n 1, 1), (1, .iconst (-1), 1), (2, .if_icmp .ne 15, 3), (5, .aload_n 0, 1), (6, .getfield 35, 3), (9, .getfield 58, 3), (12, .iload_n 2, 1), (13, .invokevirtual 145, 3), (16, .ireturn, 1), (17, .iload_n 1, 1), (18, .bipush (-2), 2), (20, .if_icmp .ne 15, 3), (23, .aload_n 0, 1), (24, .getfield 35, 3), (27, .getfield 100, 3), (30, .iload_n 2, 1), (31, .invokevirtual 145, 3), (34, .ireturn, 1), (35, .aload_n 0, 1), (36, .getfield 35, 3), (39, .iload_n 1, 1), (40, .invokevirtual 149, 3), (43, .astore_n 3, 1), (44, .aload_n 3, 1), (45, .ifnonnull 13, 3), (48, .new 47, 3), (51, .dup, 1), (52, .ldc 151, 2), (54, .invokespecial 51, 3), (57, .athrow, 1), (58, .aload_n 3, 1), (59, .getfield 76, 3), (62, .iload_n 2, 1), (63, .invokevirtual 145, 3), (66, .ireturn, 1)]
theorem okX9_byteOf : ∀ e ∈ qX9_byteOf, decode cX9_byteOf e.1 = .ok (e.2.1, e.2.2) := by decide +kernel
def mX9_byteOf : xM := (yX9_byteOf, cX9_byteOf, 4, (some .int), 9, qX9_byteOf)
def qX9_optionAt : List (Nat × Instr × Nat) := [(0, .aload_n 0, 1), (1, .getfield 35, 3), (4, .iload_n 1, 1), (5, .invokevirtual 149, 3), (8, .astore_n 3, 1), (9, .aload_n 3, 1), (10, .ifnull 11, 3), (13, .iload_n 2, 1), (14, .iconst 2, 1), (15, .invokestatic 42, 3), (18, .ifCond .ne 13, 3), (21, .new 47, 3), (24, .dup, 1), (25, .ldc 153, 2), (27, .invokespecial 51, 3), (30, .athrow, 1), (31, .iload_n 2, 1), (32, .ifCond .ne 8, 3), (35, .aload_n 3, 1), (36, .getfield 155, 3), (39, .ireturn, 1), (40, .iload_n 2, 1), (41, .iconst 1, 1), (42, .if_icmp .ne 13, 3), (45, .aload_n 3, 1), (46, .getfield 76, 3), (49, .getfield 97, 3), (52, .goto 11, 3), (55, .aload_n 3, 1), (56, .getfield 76, 3), (59, .invokevirtual 158, 3), (62, .l2i, 1), (63, .ireturn, 1)]
theorem okX9_optionAt : ∀ e ∈ qX9_optionAt, decode cX9_optionAt e.1 = .ok (e.2.1, e.2.2) := by decide +kernel
def mX9_optionAt : xM := (yX9_optionAt, cX9_optionAt, 4, (some .int), 9, qX9_optionAt)
def qX9_serve : List (Nat × Instr × Nat) := [(0, .iload_n 1, 1), (1, .bipush 9, 2), (3, .invokestatic 42, 3), (6, .ifCond .ne 13, 3), (9, .new 47, 3), (12, .dup, 1), (13, .ldc 162, 2), (15, .invokespecial 51, 3), (18, .athrow, 1), (19, .aload_n 0, 1), (20, .getfield 21, 3), (23, .aload_n 0, 1), (24, .getfield 14, 3), (27, .aload_n 0, 1), (28, .getfield 39, 3), (31, .invokevirtual 125, 3), (34, .istore_n 2, 1), (35, .aload_n 0, 1), (36, .getfield 14, 3), (39, .invokevirtual 113, 3), (42, .iload_n 2, 1), (43, .ifCond .lt 9, 3), (46, .iload_n 2, 1), (47, .bipush 20, 2), (49, .if_icmp .le 5, 3), (52, .iconst (-1), 1), (53, .ireturn, 1), (54, .aload_n 0, 1), (55, .getfield 28, 3), (58, .aload_n 0, 1), (59, .getfield 39, 3), (62, .iload_n 1, 1), (63, .aload_n 0, 1), (64, .getfield 14, 3), (67, .invokevirtual 164, 3), (70, .ireturn, 1)]
theorem okX9_serve : ∀ e ∈ qX9_serve, decode cX9_serve e.1 = .ok (e.2.1, e.2.2) := by decide +kernel
def mX9_serve : xM := (yX9_serve, cX9_serve, 3, (some .int), 9, qX9_serve)
def qX9_hand : List (Nat × Instr × Nat) := [(0, .aload_n 0, 1), (1, .getfield 14, 3), (4, .iload_n 1, 1), (5, .invokevirtual 145, 3), (8, .ireturn, 1)]
theorem okX9_hand : ∀ e ∈ qX9_hand, decode cX9_hand e.1 = .ok (e.2.1, e.2.2) := by decide +kernel
def mX9_hand : xM := (yX9_hand, cX9_hand, 2, (some .int), 9, qX9_hand)
def qX9_total : List (Nat × Instr × Nat) := [(0, .iload_n 1, 1), (1, .tableswitch 93 0 5 #[39, 47, 58, 69, 77, 85], 39), (40, .aload_n 0, 1), (41, .getfield 14, 3), (44, .getfield 97, 3), (47, .ireturn, 1), (48, .aload_n 0, 1), (49, .getfield 28, 3), (52, .getfield 168, 3), (55, .getfield 172, 3), (58, .ireturn, 1), (59, .aload_n 0, 1), (60, .getfield 28, 3), (63, .getfield 168, 3), (66, .getfield 175, 3), (69, .ireturn, 1), (70, .aload_n 0, 1), (71, .getfield 28, 3), (74, .getfield 178, 3), (77, .ireturn, 1), (78, .aload_n 0, 1), (79, .getfield 28, 3), (82, .getfield 181, 3), (85, .ireturn, 1), (86, .aload_n 0, 1), (87, .getfield 28, 3), (90, .getfield 184, 3), (93, .ireturn, 1), (94, .new 47, 3), (97, .dup, 1), (98, .ldc 143, 2), (100, .invokespecial 51, 3), (103, .athrow, 1)]
theorem okX9_total : ∀ e ∈ qX9_total, decode cX9_total e.1 = .ok (e.2.1, e.2.2) := by decide +kernel
def mX9_total : xM := (yX9_total, cX9_total, 2, (some .int), 9, qX9_total)
def qX9_resource : List (Nat × Instr × Nat) := [(0, .aload_n 0, 1), (1, .getfield 28, 3), (4, .getfield 168, 3), (7, .iload_n 1, 1), (8, .invokevirtual 187, 3), (11, .astore_n 3, 1), (12, .aload_n 3, 1), (13, .ifnull 11, 3), (16, .iload_n 2, 1), (17, .iconst 2, 1), (18, .invokestatic 42, 3), (21, .ifCond .ne 13, 3), (24, .new 47, 3), (27, .dup, 1), (28, .ldc 190, 2), (30, .invokespecial 51, 3), (33, .athrow, 1), (34, .iload_n 2, 1), (35, .ifCond .ne 8, 3), (38, .aload_n 3, 1), (39, .getfield 192, 3), (42, .ireturn, 1), (43, .iload_n 2, 1), (44, .iconst 1, 1), (45, .if_icmp .ne 13, 3), (48, .aload_n 3, 1), (49, .getfield 197, 3), (52, .getfield 97, 3), (55, .goto 7, 3), (58, .aload_n 3, 1), (59, .getfield 200, 3), (62, .ireturn, 1)]
theorem okX9_resource : ∀ e ∈ qX9_resource, decode cX9_resource e.1 = .ok (e.2.1, e.2.2) := by decide +kernel
def mX9_resource : xM := (yX9_resource, cX9_resource, 4, (some .int), 9, qX9_resource)
def qX9_within : List (Nat × Instr × Nat) := [(0, .iload_n 0, 1), (1, .ifCond .lt 12, 3), (4, .iload_n 0, 1), (5, .iload_n 1, 1), (6, .if_icmp .gt 7, 3), (9, .iconst 1, 1), (10, .goto 4, 3), (13, .iconst 0, 1), (14, .ireturn, 1)]
theorem okX9_within : ∀ e ∈ qX9_within, decode cX9_within e.1 = .ok (e.2.1, e.2.2) := by decide +kernel
def mX9_within : xM := (yX9_within, cX9_within, 2, (some .boolean), 9, qX9_within)
def qX9_extend : List (Nat × Instr × Nat) := [(0, .iload_n 3, 1), (1, .bipush 8, 2), (3, .invokestatic 42, 3), (6, .ifCond .ne 13, 3), (9, .new 47, 3), (12, .dup, 1), (13, .ldc 85, 2), (15, .invokespecial 51, 3), (18, .athrow, 1), (19, .aload_n 0, 1), (20, .iload_n 3, 1), (21, .invokevirtual 91, 3), (24, .ifCond .ne 13, 3), (27, .new 71, 3), (30, .dup, 1), (31, .ldc 203, 2), (33, .invokespecial 75, 3), (36, .athrow, 1), (37, .aload_n 0, 1), (38, .lload_n 1, 1), (39, .iload_n 3, 1), (40, .invokevirtual 61, 3), (43, .aload_n 0, 1), (44, .getfield 97, 3), (47, .ireturn, 1)]
theorem okX9_extend : ∀ e ∈ qX9_extend, decode cX9_extend e.1 = .ok (e.2.1, e.2.2) := by decide +kernel
def mX9_extend : xM := (yX9_extend, cX9_extend, 4, (some .int), 9, qX9_extend)
/-- field entries: class, pool entry, class number, field, a nest mate's -/
def xfr (o : Nat) : List (Nat × Nat × Nat × Bool) := match o with
  | 0 => [(9, 0, 0, false), (15, 0, 1, false)]
  | 1 => [(56, 0, 1, true), (53, 2, 0, true), (50, 2, 1, true), (14, 1, 0, false), (20, 1, 1, false), (25, 1, 2, false), (43, 1, 3, false), (46, 1, 4, false), (30, 1, 5, false), (34, 1, 6, false), (37, 1, 7, false)]
  | 2 => [(14, 2, 0, false)]
  | 3 => [(23, 6, 0, true), (16, 6, 1, true), (11, 3, 0, false), (20, 3, 1, false)]
  | 4 => [(19, 0, 1, true), (24, 4, 0, false), (15, 4, 1, false), (68, 2, 0, true), (51, 1, 0, true), (73, 1, 1, true), (35, 1, 4, true), (44, 1, 6, true)]
  | 5 => [(16, 5, 0, false), (20, 5, 1, false)]
  | 6 => [(16, 6, 0, false), (20, 6, 1, false)]
  | 7 => [(152, 0, 1, true), (200, 5, 1, true), (179, 5, 3, true), (149, 2, 0, true), (144, 2, 1, true), (102, 1, 0, true), (203, 1, 1, true), (136, 1, 2, true), (133, 1, 3, true), (43, 1, 5, true), (47, 1, 6, true), (50, 1, 7, true), (78, 6, 0, true), (12, 7, 0, false), (20, 7, 1, false), (29, 7, 2, false), (38, 7, 3, false), (168, 7, 4, false), (64, 7, 5, false), (61, 7, 6, false), (98, 7, 7, false)]
  | 8 => [(22, 5, 0, true), (42, 5, 1, true), (39, 5, 2, true), (49, 5, 3, true), (11, 8, 0, false), (18, 8, 1, false), (45, 8, 2, false)]
  | 9 => [(97, 0, 1, true), (197, 5, 1, true), (192, 5, 2, true), (200, 5, 3, true), (172, 8, 1, true), (175, 8, 2, true), (76, 2, 0, true), (155, 2, 1, true), (58, 1, 0, true), (100, 1, 1, true), (81, 1, 3, true), (87, 1, 4, true), (134, 1, 5, true), (137, 1, 6, true), (140, 1, 7, true), (168, 7, 0, true), (178, 7, 5, true), (181, 7, 6, true), (184, 7, 7, true), (14, 9, 0, false), (21, 9, 1, false), (28, 9, 2, false), (35, 9, 3, false), (39, 9, 4, false)]
  | 10 => [(85, 10, 0, false), (7, 10, 1, false), (13, 10, 2, false), (16, 10, 3, false), (19, 10, 4, false), (22, 10, 5, false), (25, 10, 6, false), (28, 10, 7, false), (31, 10, 8, false), (34, 10, 9, false), (37, 10, 10, false), (40, 10, 11, false), (43, 10, 12, false), (115, 10, 13, false), (47, 10, 14, false), (134, 10, 15, false), (156, 10, 16, false), (185, 10, 17, false), (50, 10, 18, false), (53, 10, 19, false), (57, 10, 20, false), (60, 10, 21, false), (63, 10, 22, false), (66, 10, 23, false), (206, 10, 24, false), (203, 10, 25, false), (209, 10, 26, false), (69, 10, 27, false), (72, 10, 28, false), (75, 10, 29, false), (78, 10, 30, false), (82, 10, 31, false)]
  | _ => []
def xcr (o : Nat) : List (Nat × Int) := match o with
  | 0 => []
  | 1 => []
  | 2 => []
  | 3 => []
  | 4 => [(63, 65535)]
  | 5 => []
  | 6 => []
  | 7 => [(101, 65535)]
  | 8 => [(48, 65535)]
  | 9 => [(46, 65535)]
  | 10 => [(56, 128000), (81, 160000), (90, 65535)]
  | _ => []
def xlr (o : Nat) : List (Nat × Int) := match o with
  | 0 => [(41, -1), (43, 256)]
  | 1 => []
  | 2 => []
  | 3 => []
  | 4 => []
  | 5 => []
  | 6 => []
  | 7 => [(159, -1), (161, 1048575), (163, 7)]
  | 8 => []
  | 9 => []
  | 10 => [(88, 255), (148, -1), (150, 256), (159, 1048575), (161, 8), (163, 7), (195, 16)]
  | _ => [(68, 4294967295)]
end
section
def qX10_init_0 : List (Nat × Instr × Nat) := [(0, .aload_n 0, 1), (1, .invokespecial 1, 3), (4, .aload_n 0, 1), (5, .iconst 3, 1), (6, .newarray .int, 2), (8, .putfield 7, 3), (11, .aload_n 0, 1), (12, .iconst 3, 1), (13, .newarray .int, 2), (15, .putfield 13, 3), (18, .aload_n 0, 1), (19, .iconst 3, 1), (20, .newarray .int, 2), (22, .putfield 16, 3), (25, .aload_n 0, 1), (26, .iconst 3, 1), (27, .newarray .int, 2), (29, .putfield 19, 3), (32, .aload_n 0, 1), (33, .bipush 24, 2), (35, .newarray .int, 2), (37, .putfield 22, 3), (40, .aload_n 0, 1), (41, .iconst 3, 1), (42, .newarray .int, 2), (44, .putfield 25, 3), (47, .aload_n 0, 1), (48, .bipush 63, 2), (50, .newarray .int, 2), (52, .putfield 28, 3), (55, .aload_n 0, 1), (56, .bipush 63, 2), (58, .newarray .int, 2), (60, .putfield 31, 3), (63, .aload_n 0, 1), (64, .sipush 25200, 3), (67, .newarray .int, 2), (69, .putfield 34, 3), (72, .aload_n 0, 1), (73, .iconst 3, 1)]
theorem okX10_init_0 : ∀ e ∈ qX10_init_0, decode cX10_init e.1 = .ok (e.2.1, e.2.2) := by decide +kernel
def qX10_init_1 : List (Nat × Instr × Nat) := [(74, .newarray .int, 2), (76, .putfield 37, 3), (79, .aload_n 0, 1), (80, .sipush 1200, 3), (83, .newarray .int, 2), (85, .putfield 40, 3), (88, .aload_n 0, 1), (89, .iconst (-1), 1), (90, .putfield 43, 3), (93, .aload_n 0, 1), (94, .sipush 2000, 3), (97, .newarray .int, 2), (99, .putfield 47, 3), (102, .aload_n 0, 1), (103, .bipush 16, 2), (105, .newarray .int, 2), (107, .putfield 50, 3), (110, .aload_n 0, 1), (111, .sipush 320, 3), (114, .newarray .int, 2), (116, .putfield 53, 3), (119, .aload_n 0, 1), (120, .ldc 56, 2), (122, .newarray .int, 2), (124, .putfield 57, 3), (127, .aload_n 0, 1), (128, .bipush 16, 2), (130, .newarray .int, 2), (132, .putfield 60, 3), (135, .aload_n 0, 1), (136, .sipush 6400, 3), (139, .newarray .int, 2), (141, .putfield 63, 3), (144, .aload_n 0, 1), (145, .bipush 16, 2), (147, .newarray .int, 2), (149, .putfield 66, 3), (152, .aload_n 0, 1), (153, .bipush 10, 2), (155, .newarray .int, 2)]
theorem okX10_init_1 : ∀ e ∈ qX10_init_1, decode cX10_init e.1 = .ok (e.2.1, e.2.2) := by decide +kernel
def qX10_init_2 : List (Nat × Instr × Nat) := [(157, .putfield 69, 3), (160, .aload_n 0, 1), (161, .bipush 80, 2), (163, .newarray .int, 2), (165, .putfield 72, 3), (168, .aload_n 0, 1), (169, .bipush 80, 2), (171, .newarray .int, 2), (173, .putfield 75, 3), (176, .aload_n 0, 1), (177, .bipush 80, 2), (179, .newarray .int, 2), (181, .putfield 78, 3), (184, .aload_n 0, 1), (185, .ldc 81, 2), (187, .newarray .int, 2), (189, .putfield 82, 3), (192, .return_, 1)]
theorem okX10_init_2 : ∀ e ∈ qX10_init_2, decode cX10_init e.1 = .ok (e.2.1, e.2.2) := by decide +kernel
def qX10_init : List (Nat × Instr × Nat) := qX10_init_0 ++ (qX10_init_1 ++ (qX10_init_2))
theorem okX10_init : ∀ e ∈ qX10_init, decode cX10_init e.1 = .ok (e.2.1, e.2.2) := List.forall_mem_append.mpr ⟨okX10_init_0, List.forall_mem_append.mpr ⟨okX10_init_1, okX10_init_2⟩⟩
def mX10_init : xM := (yX10_init, cX10_init, 1, none, 10, qX10_init)
def qX10_thrown : List (Nat × Instr × Nat) := [(0, .aload_n 0, 1), (1, .getfield 85, 3), (4, .ireturn, 1)]
theorem okX10_thrown : ∀ e ∈ qX10_thrown, decode cX10_thrown e.1 = .ok (e.2.1, e.2.2) := by decide +kernel
def mX10_thrown : xM := (yX10_thrown, cX10_thrown, 1, (some .int), 10, qX10_thrown)
def qX10_refuses : List (Nat × Instr × Nat) := [(0, .aload_n 0, 1), (1, .iload_n 1, 1), (2, .putfield 85, 3), (5, .iload_n 1, 1), (6, .ifCond .le 7, 3), (9, .iconst 1, 1), (10, .goto 4, 3), (13, .iconst 0, 1), (14, .ireturn, 1)]
theorem okX10_refuses : ∀ e ∈ qX10_refuses, decode cX10_refuses e.1 = .ok (e.2.1, e.2.2) := by decide +kernel
def mX10_refuses : xM := (yX10_refuses, cX10_refuses, 2, (some .boolean), 10, qX10_refuses)
def qX10_begins : List (Nat × Instr × Nat) := [(0, .aload_n 0, 1), (1, .getfield 7, 3), (4, .iload_n 1, 1), (5, .iload_n 2, 1), (6, .iastore, 1), (7, .aload_n 0, 1), (8, .getfield 13, 3), (11, .iload_n 1, 1), (12, .iload_n 3, 1), (13, .iastore, 1), (14, .aload_n 0, 1), (15, .getfield 16, 3), (18, .iload_n 1, 1), (19, .iload 4, 2), (21, .iastore, 1), (22, .aload_n 0, 1), (23, .getfield 19, 3), (26, .iload_n 1, 1), (27, .iconst 0, 1), (28, .iastore, 1), (29, .aload_n 0, 1), (30, .getfield 25, 3), (33, .iload_n 1, 1), (34, .iconst 0, 1), (35, .iastore, 1), (36, .aload_n 0, 1), (37, .getfield 37, 3), (40, .iload_n 1, 1), (41, .iconst 0, 1), (42, .iastore, 1), (43, .return_, 1)]
theorem okX10_begins : ∀ e ∈ qX10_begins, decode cX10_begins e.1 = .ok (e.2.1, e.2.2) := by decide +kernel
def mX10_begins : xM := (yX10_begins, cX10_begins, 5, none, 10, qX10_begins)
def qX10_low : List (Nat × Instr × Nat) := [(0, .lload_n 0, 1), (1, .bipush 8, 2), (3, .iload_n 2, 1), (4, .imul, 1), (5, .lushr, 1), (6, .ldc2_w 88, 3), (9, .land, 1), (10, .l2i, 1), (11, .ireturn, 1)]
theorem okX10_low : ∀ e ∈ qX10_low, decode cX10_low e.1 = .ok (e.2.1, e.2.2) := by decide +kernel
def mX10_low : xM := (yX10_low, cX10_low, 3, (some .int), 10, qX10_low)
def qX10_begin_0 : List (Nat × Instr × Nat) := [(0, .iload_n 1, 1), (1, .ifCond .lt 45, 3), (4, .iload_n 1, 1), (5, .iconst 3, 1), (6, .if_icmp .gt 40, 3), (9, .iload_n 2, 1), (10, .ifCond .lt 36, 3), (13, .iload_n 2, 1), (14, .sipush 255, 3), (17, .if_icmp .gt 29, 3), (20, .iload_n 3, 1), (21, .ifCond .lt 25, 3), (24, .iload_n 3, 1), (25, .ldc 90, 2), (27, .if_icmp .gt 19, 3), (30, .iload 6, 2), (32, .ifCond .lt 14, 3), (35, .iload 6, 2), (37, .bipush 8, 2), (39, .if_icmp .gt 7, 3), (42, .iconst 1, 1), (43, .goto 4, 3), (46, .iconst 0, 1), (47, .istore 7, 2), (49, .aload_n 0, 1), (50, .iload 7, 2), (52, .ifCond .eq 7, 3), (55, .iconst 0, 1), (56, .goto 4, 3), (59, .iconst 1, 1), (60, .invokevirtual 91, 3), (63, .ifCond .eq 4, 3), (66, .return_, 1), (67, .aload_n 0, 1), (68, .iconst 0, 1), (69, .iload_n 1, 1), (70, .iload_n 2, 1), (71, .iload_n 3, 1), (72, .invokevirtual 95, 3), (75, .aload_n 0, 1)]
theorem okX10_begin_0 : ∀ e ∈ qX10_begin_0, decode cX10_begin e.1 = .ok (e.2.1, e.2.2) := by decide +kernel
def qX10_begin_1 : List (Nat × Instr × Nat) := [(76, .iconst (-1), 1), (77, .putfield 43, 3), (80, .aload_n 0, 1), (81, .getfield 19, 3), (84, .iconst 0, 1), (85, .iload 6, 2), (87, .iastore, 1), (88, .iconst 0, 1), (89, .istore 8, 2), (91, .iload 8, 2), (93, .iload 6, 2), (95, .if_icmp .ge 23, 3), (98, .aload_n 0, 1), (99, .getfield 22, 3), (102, .iload 8, 2), (104, .lload 4, 2), (106, .iload 8, 2), (108, .invokestatic 99, 3), (111, .iastore, 1), (112, .iinc 8 1, 3), (115, .goto (-24), 3), (118, .return_, 1)]
theorem okX10_begin_1 : ∀ e ∈ qX10_begin_1, decode cX10_begin e.1 = .ok (e.2.1, e.2.2) := by decide +kernel
def qX10_begin : List (Nat × Instr × Nat) := qX10_begin_0 ++ (qX10_begin_1)
theorem okX10_begin : ∀ e ∈ qX10_begin, decode cX10_begin e.1 = .ok (e.2.1, e.2.2) := List.forall_mem_append.mpr ⟨okX10_begin_0, okX10_begin_1⟩
def mX10_begin : xM := (yX10_begin, cX10_begin, 9, none, 10, qX10_begin)
def qX10_place_0 : List (Nat × Instr × Nat) := [(0, .aload_n 0, 1), (1, .getfield 25, 3), (4, .iload_n 1, 1), (5, .iaload, 1), (6, .istore_n 3, 1), (7, .iload_n 3, 1), (8, .ifCond .le 119, 3), (11, .aload_n 0, 1), (12, .getfield 28, 3), (15, .bipush 21, 2), (17, .iload_n 1, 1), (18, .imul, 1), (19, .iload_n 3, 1), (20, .iadd, 1), (21, .iconst 1, 1), (22, .isub, 1), (23, .iaload, 1), (24, .iload_n 2, 1), (25, .if_icmp .le 102, 3), (28, .bipush 21, 2), (30, .iload_n 1, 1), (31, .imul, 1), (32, .iload_n 3, 1), (33, .iadd, 1), (34, .istore 4, 2), (36, .aload_n 0, 1), (37, .getfield 28, 3), (40, .iload 4, 2), (42, .aload_n 0, 1), (43, .getfield 28, 3), (46, .iload 4, 2), (48, .iconst 1, 1), (49, .isub, 1), (50, .iaload, 1), (51, .iastore, 1), (52, .aload_n 0, 1), (53, .getfield 31, 3), (56, .iload 4, 2), (58, .aload_n 0, 1), (59, .getfield 31, 3)]
theorem okX10_place_0 : ∀ e ∈ qX10_place_0, decode cX10_place e.1 = .ok (e.2.1, e.2.2) := by decide +kernel
def qX10_place_1 : List (Nat × Instr × Nat) := [(62, .iload 4, 2), (64, .iconst 1, 1), (65, .isub, 1), (66, .iaload, 1), (67, .iastore, 1), (68, .iconst 0, 1), (69, .istore 5, 2), (71, .iload 5, 2), (73, .aload_n 0, 1), (74, .getfield 31, 3), (77, .iload 4, 2), (79, .iaload, 1), (80, .if_icmp .ge 41, 3), (83, .aload_n 0, 1), (84, .getfield 34, 3), (87, .sipush 400, 3), (90, .iload 4, 2), (92, .imul, 1), (93, .iload 5, 2), (95, .iadd, 1), (96, .aload_n 0, 1), (97, .getfield 34, 3), (100, .sipush 400, 3), (103, .iload 4, 2), (105, .imul, 1), (106, .sipush 400, 3), (109, .isub, 1), (110, .iload 5, 2), (112, .iadd, 1), (113, .iaload, 1), (114, .iastore, 1), (115, .iinc 5 1, 3), (118, .goto (-47), 3), (121, .iinc 3 (-1), 3), (124, .goto (-117), 3), (127, .aload_n 0, 1), (128, .getfield 25, 3), (131, .iload_n 1, 1), (132, .dup2, 1), (133, .iaload, 1)]
theorem okX10_place_1 : ∀ e ∈ qX10_place_1, decode cX10_place e.1 = .ok (e.2.1, e.2.2) := by decide +kernel
def qX10_place_2 : List (Nat × Instr × Nat) := [(134, .iconst 1, 1), (135, .iadd, 1), (136, .iastore, 1), (137, .aload_n 0, 1), (138, .getfield 28, 3), (141, .bipush 21, 2), (143, .iload_n 1, 1), (144, .imul, 1), (145, .iload_n 3, 1), (146, .iadd, 1), (147, .iload_n 2, 1), (148, .iastore, 1), (149, .aload_n 0, 1), (150, .getfield 31, 3), (153, .bipush 21, 2), (155, .iload_n 1, 1), (156, .imul, 1), (157, .iload_n 3, 1), (158, .iadd, 1), (159, .iconst 0, 1), (160, .iastore, 1), (161, .bipush 21, 2), (163, .iload_n 1, 1), (164, .imul, 1), (165, .iload_n 3, 1), (166, .iadd, 1), (167, .ireturn, 1)]
theorem okX10_place_2 : ∀ e ∈ qX10_place_2, decode cX10_place e.1 = .ok (e.2.1, e.2.2) := by decide +kernel
def qX10_place : List (Nat × Instr × Nat) := qX10_place_0 ++ (qX10_place_1 ++ (qX10_place_2))
theorem okX10_place : ∀ e ∈ qX10_place, decode cX10_place e.1 = .ok (e.2.1, e.2.2) := List.forall_mem_append.mpr ⟨okX10_place_0, List.forall_mem_append.mpr ⟨okX10_place_1, okX10_place_2⟩⟩
def mX10_place : xM := (yX10_place, cX10_place, 6, (some .int), 10, qX10_place)
def qX10_longer : List (Nat × Instr × Nat) := [(0, .aload_n 0, 1), (1, .getfield 34, 3), (4, .sipush 400, 3), (7, .iload_n 1, 1), (8, .imul, 1), (9, .aload_n 0, 1), (10, .getfield 31, 3), (13, .iload_n 1, 1), (14, .iaload, 1), (15, .iadd, 1), (16, .iload_n 2, 1), (17, .iastore, 1), (18, .aload_n 0, 1), (19, .getfield 31, 3), (22, .iload_n 1, 1), (23, .dup2, 1), (24, .iaload, 1), (25, .iconst 1, 1), (26, .iadd, 1), (27, .iastore, 1), (28, .return_, 1)]
theorem okX10_longer : ∀ e ∈ qX10_longer, decode cX10_longer e.1 = .ok (e.2.1, e.2.2) := by decide +kernel
def mX10_longer : xM := (yX10_longer, cX10_longer, 3, none, 10, qX10_longer)
def qX10_option : List (Nat × Instr × Nat) := [(0, .iload_n 1, 1), (1, .ifCond .lt 25, 3), (4, .iload_n 1, 1), (5, .ldc 90, 2), (7, .if_icmp .gt 19, 3), (10, .iload 4, 2), (12, .ifCond .lt 14, 3), (15, .iload 4, 2), (17, .bipush 8, 2), (19, .if_icmp .gt 7, 3), (22, .iconst 1, 1), (23, .goto 4, 3), (26, .iconst 0, 1), (27, .istore 5, 2), (29, .aload_n 0, 1), (30, .iload 5, 2), (32, .ifCond .ne 7, 3), (35, .iconst 1, 1), (36, .goto 19, 3), (39, .aload_n 0, 1), (40, .getfield 25, 3), (43, .iconst 0, 1), (44, .iaload, 1), (45, .bipush 20, 2), (47, .if_icmp .ne 7, 3), (50, .iconst 2, 1), (51, .goto 4, 3), (54, .iconst 0, 1), (55, .invokevirtual 91, 3), (58, .ifCond .eq 5, 3), (61, .iconst 0, 1), (62, .ireturn, 1), (63, .aload_n 0, 1), (64, .aload_n 0, 1), (65, .iconst 0, 1), (66, .iload_n 1, 1), (67, .invokevirtual 103, 3), (70, .putfield 43, 3), (73, .iconst 0, 1), (74, .istore 6, 2), (76, .iload 6, 2), (78, .iload 4, 2), (80, .if_icmp .ge 23, 3), (83, .aload_n 0, 1), (84, .aload_n 0, 1), (85, .getfield 43, 3), (88, .lload_n 2, 1), (89, .iload 6, 2), (91, .invokestatic 99, 3), (94, .invokevirtual 107, 3), (97, .iinc 6 1, 3), (100, .goto (-24), 3), (103, .aload_n 0, 1), (104, .getfield 25, 3), (107, .iconst 0, 1), (108, .iaload, 1), (109, .ireturn, 1)]
theorem okX10_option : ∀ e ∈ qX10_option, decode cX10_option e.1 = .ok (e.2.1, e.2.2) := by decide +kernel
def mX10_option : xM := (yX10_option, cX10_option, 7, (some .int), 10, qX10_option)
def qX10_longer_ : List (Nat × Instr × Nat) := [(0, .aload_n 0, 1), (1, .iload_n 3, 1), (2, .ifCond .lt 9, 3), (5, .iload_n 3, 1), (6, .bipush 8, 2), (8, .if_icmp .le 7, 3), (11, .iconst 1, 1), (12, .goto 33, 3), (15, .aload_n 0, 1), (16, .getfield 43, 3), (19, .iconst (-1), 1), (20, .if_icmp .eq 20, 3), (23, .aload_n 0, 1), (24, .getfield 31, 3), (27, .aload_n 0, 1), (28, .getfield 43, 3), (31, .iaload, 1), (32, .iload_n 3, 1), (33, .iadd, 1), (34, .sipush 400, 3), (37, .if_icmp .le 7, 3), (40, .iconst 2, 1), (41, .goto 4, 3), (44, .iconst 0, 1), (45, .invokevirtual 91, 3), (48, .ifCond .eq 5, 3), (51, .iconst 0, 1), (52, .ireturn, 1), (53, .iconst 0, 1), (54, .istore 4, 2), (56, .iload 4, 2), (58, .iload_n 3, 1), (59, .if_icmp .ge 23, 3), (62, .aload_n 0, 1), (63, .aload_n 0, 1), (64, .getfield 43, 3), (67, .lload_n 1, 1), (68, .iload 4, 2), (70, .invokestatic 99, 3), (73, .invokevirtual 107, 3), (76, .iinc 4 1, 3), (79, .goto (-23), 3), (82, .aload_n 0, 1), (83, .getfield 31, 3), (86, .aload_n 0, 1), (87, .getfield 43, 3), (90, .iaload, 1), (91, .ireturn, 1)]
theorem okX10_longer_ : ∀ e ∈ qX10_longer_, decode cX10_longer_ e.1 = .ok (e.2.1, e.2.2) := by decide +kernel
def mX10_longer_ : xM := (yX10_longer_, cX10_longer_, 5, (some .int), 10, qX10_longer_)
def qX10_payload : List (Nat × Instr × Nat) := [(0, .aload_n 0, 1), (1, .iload_n 3, 1), (2, .ifCond .lt 9, 3), (5, .iload_n 3, 1), (6, .bipush 8, 2), (8, .if_icmp .le 7, 3), (11, .iconst 1, 1), (12, .goto 22, 3), (15, .aload_n 0, 1), (16, .getfield 37, 3), (19, .iconst 0, 1), (20, .iaload, 1), (21, .iload_n 3, 1), (22, .iadd, 1), (23, .sipush 400, 3), (26, .if_icmp .le 7, 3), (29, .iconst 2, 1), (30, .goto 4, 3), (33, .iconst 0, 1), (34, .invokevirtual 91, 3), (37, .ifCond .eq 5, 3), (40, .iconst 0, 1), (41, .ireturn, 1), (42, .iconst 0, 1), (43, .istore 4, 2), (45, .iload 4, 2), (47, .iload_n 3, 1), (48, .if_icmp .ge 36, 3), (51, .aload_n 0, 1), (52, .getfield 40, 3), (55, .aload_n 0, 1), (56, .getfield 37, 3), (59, .iconst 0, 1), (60, .iaload, 1), (61, .lload_n 1, 1), (62, .iload 4, 2), (64, .invokestatic 99, 3), (67, .iastore, 1), (68, .aload_n 0, 1), (69, .getfield 37, 3), (72, .iconst 0, 1), (73, .dup2, 1), (74, .iaload, 1), (75, .iconst 1, 1), (76, .iadd, 1), (77, .iastore, 1), (78, .iinc 4 1, 3), (81, .goto (-36), 3), (84, .aload_n 0, 1), (85, .getfield 37, 3), (88, .iconst 0, 1), (89, .iaload, 1), (90, .ireturn, 1)]
theorem okX10_payload : ∀ e ∈ qX10_payload, decode cX10_payload e.1 = .ok (e.2.1, e.2.2) := by decide +kernel
def mX10_payload : xM := (yX10_payload, cX10_payload, 5, (some .int), 10, qX10_payload)
def qX10_more : List (Nat × Instr × Nat) := [(0, .iload_n 0, 1), (1, .bipush 13, 2), (3, .if_icmp .ge 7, 3), (6, .iconst 0, 1), (7, .goto 15, 3), (10, .iload_n 0, 1), (11, .sipush 269, 3), (14, .if_icmp .ge 7, 3), (17, .iconst 1, 1), (18, .goto 4, 3), (21, .iconst 2, 1), (22, .ireturn, 1)]
theorem okX10_more : ∀ e ∈ qX10_more, decode cX10_more e.1 = .ok (e.2.1, e.2.2) := by decide +kernel
def mX10_more : xM := (yX10_more, cX10_more, 1, (some .int), 10, qX10_more)
def qX10_size_0 : List (Nat × Instr × Nat) := [(0, .iconst 4, 1), (1, .aload_n 0, 1), (2, .getfield 19, 3), (5, .iload_n 1, 1), (6, .iaload, 1), (7, .iadd, 1), (8, .aload_n 0, 1), (9, .getfield 37, 3), (12, .iload_n 1, 1), (13, .iaload, 1), (14, .ifCond .le 14, 3), (17, .iconst 1, 1), (18, .aload_n 0, 1), (19, .getfield 37, 3), (22, .iload_n 1, 1), (23, .iaload, 1), (24, .iadd, 1), (25, .goto 4, 3), (28, .iconst 0, 1), (29, .iadd, 1), (30, .istore_n 2, 1), (31, .iconst 0, 1), (32, .istore_n 3, 1), (33, .bipush 21, 2), (35, .iload_n 1, 1), (36, .imul, 1), (37, .istore 4, 2), (39, .iload 4, 2), (41, .bipush 21, 2), (43, .iload_n 1, 1), (44, .imul, 1), (45, .aload_n 0, 1), (46, .getfield 25, 3), (49, .iload_n 1, 1), (50, .iaload, 1), (51, .iadd, 1), (52, .if_icmp .ge 53, 3), (55, .iload_n 2, 1), (56, .iconst 1, 1), (57, .aload_n 0, 1)]
theorem okX10_size_0 : ∀ e ∈ qX10_size_0, decode cX10_size e.1 = .ok (e.2.1, e.2.2) := by decide +kernel
def qX10_size_1 : List (Nat × Instr × Nat) := [(58, .getfield 28, 3), (61, .iload 4, 2), (63, .iaload, 1), (64, .iload_n 3, 1), (65, .isub, 1), (66, .invokestatic 111, 3), (69, .iadd, 1), (70, .aload_n 0, 1), (71, .getfield 31, 3), (74, .iload 4, 2), (76, .iaload, 1), (77, .invokestatic 111, 3), (80, .iadd, 1), (81, .aload_n 0, 1), (82, .getfield 31, 3), (85, .iload 4, 2), (87, .iaload, 1), (88, .iadd, 1), (89, .iadd, 1), (90, .istore_n 2, 1), (91, .aload_n 0, 1), (92, .getfield 28, 3), (95, .iload 4, 2), (97, .iaload, 1), (98, .istore_n 3, 1), (99, .iinc 4 1, 3), (102, .goto (-63), 3), (105, .iload_n 2, 1), (106, .ireturn, 1)]
theorem okX10_size_1 : ∀ e ∈ qX10_size_1, decode cX10_size e.1 = .ok (e.2.1, e.2.2) := by decide +kernel
def qX10_size : List (Nat × Instr × Nat) := qX10_size_0 ++ (qX10_size_1)
theorem okX10_size : ∀ e ∈ qX10_size, decode cX10_size e.1 = .ok (e.2.1, e.2.2) := List.forall_mem_append.mpr ⟨okX10_size_0, okX10_size_1⟩
def mX10_size : xM := (yX10_size, cX10_size, 5, (some .int), 10, qX10_size)
def qX10_put : List (Nat × Instr × Nat) := [(0, .aload_n 0, 1), (1, .getfield 47, 3), (4, .aload_n 0, 1), (5, .getfield 115, 3), (8, .iload_n 1, 1), (9, .iastore, 1), (10, .aload_n 0, 1), (11, .dup, 1), (12, .getfield 115, 3), (15, .iconst 1, 1), (16, .iadd, 1), (17, .putfield 115, 3), (20, .return_, 1)]
theorem okX10_put : ∀ e ∈ qX10_put, decode cX10_put e.1 = .ok (e.2.1, e.2.2) := by decide +kernel
def mX10_put : xM := (yX10_put, cX10_put, 2, none, 10, qX10_put)
def qX10_nibble : List (Nat × Instr × Nat) := [(0, .iload_n 0, 1), (1, .bipush 13, 2), (3, .if_icmp .ge 7, 3), (6, .iload_n 0, 1), (7, .goto 10, 3), (10, .bipush 12, 2), (12, .iload_n 0, 1), (13, .invokestatic 111, 3), (16, .iadd, 1), (17, .ireturn, 1)]
theorem okX10_nibble : ∀ e ∈ qX10_nibble, decode cX10_nibble e.1 = .ok (e.2.1, e.2.2) := by decide +kernel
def mX10_nibble : xM := (yX10_nibble, cX10_nibble, 1, (some .int), 10, qX10_nibble)
def qX10_extra : List (Nat × Instr × Nat) := [(0, .iload_n 1, 1), (1, .sipush 268, 3), (4, .if_icmp .le 31, 3), (7, .aload_n 0, 1), (8, .iload_n 1, 1), (9, .sipush 269, 3), (12, .isub, 1), (13, .bipush 8, 2), (15, .ishr, 1), (16, .invokevirtual 118, 3), (19, .aload_n 0, 1), (20, .iload_n 1, 1), (21, .sipush 269, 3), (24, .isub, 1), (25, .sipush 255, 3), (28, .iand, 1), (29, .invokevirtual 118, 3), (32, .goto 17, 3), (35, .iload_n 1, 1), (36, .bipush 12, 2), (38, .if_icmp .le 11, 3), (41, .aload_n 0, 1), (42, .iload_n 1, 1), (43, .bipush 13, 2), (45, .isub, 1), (46, .invokevirtual 118, 3), (49, .return_, 1)]
theorem okX10_extra : ∀ e ∈ qX10_extra, decode cX10_extra e.1 = .ok (e.2.1, e.2.2) := by decide +kernel
def mX10_extra : xM := (yX10_extra, cX10_extra, 2, none, 10, qX10_extra)
def qX10_writes_0 : List (Nat × Instr × Nat) := [(0, .aload_n 0, 1), (1, .iconst 0, 1), (2, .putfield 115, 3), (5, .aload_n 0, 1), (6, .bipush 64, 2), (8, .bipush 16, 2), (10, .aload_n 0, 1), (11, .getfield 7, 3), (14, .iload_n 1, 1), (15, .iaload, 1), (16, .imul, 1), (17, .iadd, 1), (18, .aload_n 0, 1), (19, .getfield 19, 3), (22, .iload_n 1, 1), (23, .iaload, 1), (24, .iadd, 1), (25, .invokevirtual 118, 3), (28, .aload_n 0, 1), (29, .aload_n 0, 1), (30, .getfield 13, 3), (33, .iload_n 1, 1), (34, .iaload, 1), (35, .invokevirtual 118, 3), (38, .aload_n 0, 1), (39, .aload_n 0, 1), (40, .getfield 16, 3), (43, .iload_n 1, 1), (44, .iaload, 1), (45, .bipush 8, 2), (47, .ishr, 1), (48, .invokevirtual 118, 3), (51, .aload_n 0, 1), (52, .aload_n 0, 1), (53, .getfield 16, 3), (56, .iload_n 1, 1), (57, .iaload, 1), (58, .sipush 255, 3), (61, .iand, 1), (62, .invokevirtual 118, 3)]
theorem okX10_writes_0 : ∀ e ∈ qX10_writes_0, decode cX10_writes e.1 = .ok (e.2.1, e.2.2) := by decide +kernel
def qX10_writes_1 : List (Nat × Instr × Nat) := [(65, .iconst 0, 1), (66, .istore_n 2, 1), (67, .iload_n 2, 1), (68, .aload_n 0, 1), (69, .getfield 19, 3), (72, .iload_n 1, 1), (73, .iaload, 1), (74, .if_icmp .ge 24, 3), (77, .aload_n 0, 1), (78, .aload_n 0, 1), (79, .getfield 22, 3), (82, .bipush 8, 2), (84, .iload_n 1, 1), (85, .imul, 1), (86, .iload_n 2, 1), (87, .iadd, 1), (88, .iaload, 1), (89, .invokevirtual 118, 3), (92, .iinc 2 1, 3), (95, .goto (-28), 3), (98, .iconst 0, 1), (99, .istore_n 2, 1), (100, .bipush 21, 2), (102, .iload_n 1, 1), (103, .imul, 1), (104, .istore_n 3, 1), (105, .iload_n 3, 1), (106, .bipush 21, 2), (108, .iload_n 1, 1), (109, .imul, 1), (110, .aload_n 0, 1), (111, .getfield 25, 3), (114, .iload_n 1, 1), (115, .iaload, 1), (116, .iadd, 1), (117, .if_icmp .ge 101, 3), (120, .aload_n 0, 1), (121, .getfield 28, 3), (124, .iload_n 3, 1), (125, .iaload, 1)]
theorem okX10_writes_1 : ∀ e ∈ qX10_writes_1, decode cX10_writes e.1 = .ok (e.2.1, e.2.2) := by decide +kernel
def qX10_writes_2 : List (Nat × Instr × Nat) := [(126, .iload_n 2, 1), (127, .isub, 1), (128, .istore 4, 2), (130, .aload_n 0, 1), (131, .bipush 16, 2), (133, .iload 4, 2), (135, .invokestatic 122, 3), (138, .imul, 1), (139, .aload_n 0, 1), (140, .getfield 31, 3), (143, .iload_n 3, 1), (144, .iaload, 1), (145, .invokestatic 122, 3), (148, .iadd, 1), (149, .invokevirtual 118, 3), (152, .aload_n 0, 1), (153, .iload 4, 2), (155, .invokevirtual 125, 3), (158, .aload_n 0, 1), (159, .aload_n 0, 1), (160, .getfield 31, 3), (163, .iload_n 3, 1), (164, .iaload, 1), (165, .invokevirtual 125, 3), (168, .iconst 0, 1), (169, .istore 5, 2), (171, .iload 5, 2), (173, .aload_n 0, 1), (174, .getfield 31, 3), (177, .iload_n 3, 1), (178, .iaload, 1), (179, .if_icmp .ge 26, 3), (182, .aload_n 0, 1), (183, .aload_n 0, 1), (184, .getfield 34, 3), (187, .sipush 400, 3), (190, .iload_n 3, 1), (191, .imul, 1), (192, .iload 5, 2), (194, .iadd, 1)]
theorem okX10_writes_2 : ∀ e ∈ qX10_writes_2, decode cX10_writes e.1 = .ok (e.2.1, e.2.2) := by decide +kernel
def qX10_writes_3 : List (Nat × Instr × Nat) := [(195, .iaload, 1), (196, .invokevirtual 118, 3), (199, .iinc 5 1, 3), (202, .goto (-31), 3), (205, .aload_n 0, 1), (206, .getfield 28, 3), (209, .iload_n 3, 1), (210, .iaload, 1), (211, .istore_n 2, 1), (212, .iinc 3 1, 3), (215, .goto (-110), 3), (218, .aload_n 0, 1), (219, .getfield 37, 3), (222, .iload_n 1, 1), (223, .iaload, 1), (224, .ifCond .le 44, 3), (227, .aload_n 0, 1), (228, .sipush 255, 3), (231, .invokevirtual 118, 3), (234, .iconst 0, 1), (235, .istore_n 3, 1), (236, .iload_n 3, 1), (237, .aload_n 0, 1), (238, .getfield 37, 3), (241, .iload_n 1, 1), (242, .iaload, 1), (243, .if_icmp .ge 25, 3), (246, .aload_n 0, 1), (247, .aload_n 0, 1), (248, .getfield 40, 3), (251, .sipush 400, 3), (254, .iload_n 1, 1), (255, .imul, 1), (256, .iload_n 3, 1), (257, .iadd, 1), (258, .iaload, 1), (259, .invokevirtual 118, 3), (262, .iinc 3 1, 3), (265, .goto (-29), 3), (268, .return_, 1)]
theorem okX10_writes_3 : ∀ e ∈ qX10_writes_3, decode cX10_writes e.1 = .ok (e.2.1, e.2.2) := by decide +kernel
def qX10_writes : List (Nat × Instr × Nat) := qX10_writes_0 ++ (qX10_writes_1 ++ (qX10_writes_2 ++ (qX10_writes_3)))
theorem okX10_writes : ∀ e ∈ qX10_writes, decode cX10_writes e.1 = .ok (e.2.1, e.2.2) := List.forall_mem_append.mpr ⟨okX10_writes_0, List.forall_mem_append.mpr ⟨okX10_writes_1, List.forall_mem_append.mpr ⟨okX10_writes_2, okX10_writes_3⟩⟩⟩
def mX10_writes : xM := (yX10_writes, cX10_writes, 6, none, 10, qX10_writes)
def qX10_write : List (Nat × Instr × Nat) := [(0, .aload_n 0, 1), (1, .aload_n 0, 1), (2, .iconst 0, 1), (3, .invokevirtual 128, 3), (6, .sipush 2000, 3), (9, .if_icmp .le 7, 3), (12, .iconst 1, 1), (13, .goto 4, 3), (16, .iconst 0, 1), (17, .invokevirtual 91, 3), (20, .ifCond .eq 5, 3), (23, .iconst 0, 1), (24, .ireturn, 1), (25, .aload_n 0, 1), (26, .iconst 0, 1), (27, .invokevirtual 131, 3), (30, .aload_n 0, 1), (31, .getfield 115, 3), (34, .ireturn, 1)]
theorem okX10_write : ∀ e ∈ qX10_write, decode cX10_write e.1 = .ok (e.2.1, e.2.2) := by decide +kernel
def mX10_write : xM := (yX10_write, cX10_write, 1, (some .int), 10, qX10_write)
def qX10_feed : List (Nat × Instr × Nat) := [(0, .aload_n 0, 1), (1, .iload_n 3, 1), (2, .ifCond .lt 9, 3), (5, .iload_n 3, 1), (6, .bipush 8, 2), (8, .if_icmp .le 7, 3), (11, .iconst 1, 1), (12, .goto 20, 3), (15, .aload_n 0, 1), (16, .getfield 115, 3), (19, .iload_n 3, 1), (20, .iadd, 1), (21, .sipush 2000, 3), (24, .if_icmp .le 7, 3), (27, .iconst 2, 1), (28, .goto 4, 3), (31, .iconst 0, 1), (32, .invokevirtual 91, 3), (35, .ifCond .eq 5, 3), (38, .iconst 0, 1), (39, .ireturn, 1), (40, .iconst 0, 1), (41, .istore 4, 2), (43, .iload 4, 2), (45, .iload_n 3, 1), (46, .if_icmp .ge 19, 3), (49, .aload_n 0, 1), (50, .lload_n 1, 1), (51, .iload 4, 2), (53, .invokestatic 99, 3), (56, .invokevirtual 118, 3), (59, .iinc 4 1, 3), (62, .goto (-19), 3), (65, .aload_n 0, 1), (66, .getfield 115, 3), (69, .ireturn, 1)]
theorem okX10_feed : ∀ e ∈ qX10_feed, decode cX10_feed e.1 = .ok (e.2.1, e.2.2) := by decide +kernel
def mX10_feed : xM := (yX10_feed, cX10_feed, 5, (some .int), 10, qX10_feed)
def qX10_end : List (Nat × Instr × Nat) := [(0, .aload_n 0, 1), (1, .iload_n 1, 1), (2, .ifCond .lt 11, 3), (5, .iload_n 1, 1), (6, .aload_n 0, 1), (7, .getfield 115, 3), (10, .if_icmp .le 7, 3), (13, .iconst 1, 1), (14, .goto 4, 3), (17, .iconst 0, 1), (18, .invokevirtual 91, 3), (21, .ifCond .ne 8, 3), (24, .aload_n 0, 1), (25, .iload_n 1, 1), (26, .putfield 115, 3), (29, .return_, 1)]
theorem okX10_end : ∀ e ∈ qX10_end, decode cX10_end e.1 = .ok (e.2.1, e.2.2) := by decide +kernel
def mX10_end : xM := (yX10_end, cX10_end, 2, none, 10, qX10_end)
def qX10_told : List (Nat × Instr × Nat) := [(0, .iload_n 1, 1), (1, .bipush 13, 2), (3, .if_icmp .ge 5, 3), (6, .iload_n 1, 1), (7, .ireturn, 1), (8, .iload_n 1, 1), (9, .bipush 15, 2), (11, .if_icmp .eq 16, 3), (14, .iload_n 2, 1), (15, .iload_n 1, 1), (16, .iadd, 1), (17, .bipush 12, 2), (19, .isub, 1), (20, .aload_n 0, 1), (21, .getfield 115, 3), (24, .if_icmp .le 5, 3), (27, .iconst (-1), 1), (28, .ireturn, 1), (29, .iload_n 1, 1), (30, .bipush 13, 2), (32, .if_icmp .ne 15, 3), (35, .bipush 13, 2), (37, .aload_n 0, 1), (38, .getfield 47, 3), (41, .iload_n 2, 1), (42, .iaload, 1), (43, .iadd, 1), (44, .goto 26, 3), (47, .sipush 269, 3), (50, .sipush 256, 3), (53, .aload_n 0, 1), (54, .getfield 47, 3), (57, .iload_n 2, 1), (58, .iaload, 1), (59, .imul, 1), (60, .iadd, 1), (61, .aload_n 0, 1), (62, .getfield 47, 3), (65, .iload_n 2, 1), (66, .iconst 1, 1), (67, .iadd, 1), (68, .iaload, 1), (69, .iadd, 1), (70, .ireturn, 1)]
theorem okX10_told : ∀ e ∈ qX10_told, decode cX10_told e.1 = .ok (e.2.1, e.2.2) := by decide +kernel
def mX10_told : xM := (yX10_told, cX10_told, 3, (some .int), 10, qX10_told)
def qX10_fault_0 : List (Nat × Instr × Nat) := [(0, .aload_n 0, 1), (1, .iconst 0, 1), (2, .putfield 134, 3), (5, .aload_n 0, 1), (6, .getfield 115, 3), (9, .iconst 4, 1), (10, .if_icmp .ge 5, 3), (13, .iconst 1, 1), (14, .ireturn, 1), (15, .aload_n 0, 1), (16, .getfield 47, 3), (19, .iconst 0, 1), (20, .iaload, 1), (21, .bipush 6, 2), (23, .ishr, 1), (24, .iconst 1, 1), (25, .if_icmp .eq 5, 3), (28, .iconst 2, 1), (29, .ireturn, 1), (30, .aload_n 0, 1), (31, .getfield 47, 3), (34, .iconst 0, 1), (35, .iaload, 1), (36, .bipush 15, 2), (38, .iand, 1), (39, .istore_n 1, 1), (40, .iload_n 1, 1), (41, .bipush 8, 2), (43, .if_icmp .gt 13, 3), (46, .iconst 4, 1), (47, .iload_n 1, 1), (48, .iadd, 1), (49, .aload_n 0, 1), (50, .getfield 115, 3), (53, .if_icmp .le 5, 3), (56, .iconst 3, 1), (57, .ireturn, 1), (58, .aload_n 0, 1), (59, .iconst 1, 1), (60, .aload_n 0, 1)]
theorem okX10_fault_0 : ∀ e ∈ qX10_fault_0, decode cX10_fault e.1 = .ok (e.2.1, e.2.2) := by decide +kernel
def qX10_fault_1 : List (Nat × Instr × Nat) := [(61, .getfield 47, 3), (64, .iconst 0, 1), (65, .iaload, 1), (66, .iconst 4, 1), (67, .ishr, 1), (68, .iconst 3, 1), (69, .iand, 1), (70, .aload_n 0, 1), (71, .getfield 47, 3), (74, .iconst 1, 1), (75, .iaload, 1), (76, .sipush 256, 3), (79, .aload_n 0, 1), (80, .getfield 47, 3), (83, .iconst 2, 1), (84, .iaload, 1), (85, .imul, 1), (86, .aload_n 0, 1), (87, .getfield 47, 3), (90, .iconst 3, 1), (91, .iaload, 1), (92, .iadd, 1), (93, .invokevirtual 95, 3), (96, .aload_n 0, 1), (97, .getfield 19, 3), (100, .iconst 1, 1), (101, .iload_n 1, 1), (102, .iastore, 1), (103, .iconst 0, 1), (104, .istore_n 2, 1), (105, .iload_n 2, 1), (106, .iload_n 1, 1), (107, .if_icmp .ge 26, 3), (110, .aload_n 0, 1), (111, .getfield 22, 3), (114, .bipush 8, 2), (116, .iload_n 2, 1), (117, .iadd, 1), (118, .aload_n 0, 1), (119, .getfield 47, 3)]
theorem okX10_fault_1 : ∀ e ∈ qX10_fault_1, decode cX10_fault e.1 = .ok (e.2.1, e.2.2) := by decide +kernel
def qX10_fault_2 : List (Nat × Instr × Nat) := [(122, .iconst 4, 1), (123, .iload_n 2, 1), (124, .iadd, 1), (125, .iaload, 1), (126, .iastore, 1), (127, .iinc 2 1, 3), (130, .goto (-25), 3), (133, .iconst 4, 1), (134, .iload_n 1, 1), (135, .iadd, 1), (136, .istore_n 2, 1), (137, .iconst 0, 1), (138, .istore_n 3, 1), (139, .iload_n 2, 1), (140, .aload_n 0, 1), (141, .getfield 115, 3), (144, .if_icmp .ge 218, 3), (147, .aload_n 0, 1), (148, .getfield 47, 3), (151, .iload_n 2, 1), (152, .iaload, 1), (153, .sipush 255, 3), (156, .if_icmp .eq 206, 3), (159, .aload_n 0, 1), (160, .getfield 47, 3), (163, .iload_n 2, 1), (164, .iaload, 1), (165, .iconst 4, 1), (166, .ishr, 1), (167, .istore 4, 2), (169, .aload_n 0, 1), (170, .getfield 47, 3), (173, .iload_n 2, 1), (174, .iaload, 1), (175, .bipush 15, 2), (177, .iand, 1), (178, .istore 5, 2), (180, .aload_n 0, 1), (181, .iload 4, 2), (183, .iload_n 2, 1)]
theorem okX10_fault_2 : ∀ e ∈ qX10_fault_2, decode cX10_fault e.1 = .ok (e.2.1, e.2.2) := by decide +kernel
def qX10_fault_3 : List (Nat × Instr × Nat) := [(184, .iconst 1, 1), (185, .iadd, 1), (186, .invokevirtual 138, 3), (189, .istore 6, 2), (191, .iload_n 2, 1), (192, .iconst 1, 1), (193, .iadd, 1), (194, .iload 4, 2), (196, .bipush 13, 2), (198, .if_icmp .ge 7, 3), (201, .iconst 0, 1), (202, .goto 8, 3), (205, .iload 4, 2), (207, .bipush 12, 2), (209, .isub, 1), (210, .iadd, 1), (211, .istore 7, 2), (213, .iload 6, 2), (215, .ifCond .ge 7, 3), (218, .iconst (-1), 1), (219, .goto 11, 3), (222, .aload_n 0, 1), (223, .iload 5, 2), (225, .iload 7, 2), (227, .invokevirtual 138, 3), (230, .istore 8, 2), (232, .iload 7, 2), (234, .iload 5, 2), (236, .bipush 13, 2), (238, .if_icmp .ge 7, 3), (241, .iconst 0, 1), (242, .goto 8, 3), (245, .iload 5, 2), (247, .bipush 12, 2), (249, .isub, 1), (250, .iadd, 1), (251, .istore 7, 2), (253, .iload 8, 2), (255, .ifCond .lt 32, 3), (258, .iload_n 3, 1)]
theorem okX10_fault_3 : ∀ e ∈ qX10_fault_3, decode cX10_fault e.1 = .ok (e.2.1, e.2.2) := by decide +kernel
def qX10_fault_4 : List (Nat × Instr × Nat) := [(259, .iload 6, 2), (261, .iadd, 1), (262, .ldc 90, 2), (264, .if_icmp .gt 23, 3), (267, .iload 8, 2), (269, .sipush 400, 3), (272, .if_icmp .gt 15, 3), (275, .iload 7, 2), (277, .iload 8, 2), (279, .iadd, 1), (280, .aload_n 0, 1), (281, .getfield 115, 3), (284, .if_icmp .le 5, 3), (287, .iconst 4, 1), (288, .ireturn, 1), (289, .iload_n 3, 1), (290, .iload 6, 2), (292, .iadd, 1), (293, .istore_n 3, 1), (294, .aload_n 0, 1), (295, .getfield 25, 3), (298, .iconst 1, 1), (299, .iaload, 1), (300, .bipush 20, 2), (302, .if_icmp .ne 11, 3), (305, .aload_n 0, 1), (306, .iconst 1, 1), (307, .putfield 134, 3), (310, .goto 43, 3), (313, .aload_n 0, 1), (314, .iconst 1, 1), (315, .iload_n 3, 1), (316, .invokevirtual 103, 3), (319, .istore 9, 2), (321, .iconst 0, 1), (322, .istore 10, 2), (324, .iload 10, 2), (326, .iload 8, 2), (328, .if_icmp .ge 25, 3), (331, .aload_n 0, 1)]
theorem okX10_fault_4 : ∀ e ∈ qX10_fault_4, decode cX10_fault e.1 = .ok (e.2.1, e.2.2) := by decide +kernel
def qX10_fault_5 : List (Nat × Instr × Nat) := [(332, .iload 9, 2), (334, .aload_n 0, 1), (335, .getfield 47, 3), (338, .iload 7, 2), (340, .iload 10, 2), (342, .iadd, 1), (343, .iaload, 1), (344, .invokevirtual 107, 3), (347, .iinc 10 1, 3), (350, .goto (-26), 3), (353, .iload 7, 2), (355, .iload 8, 2), (357, .iadd, 1), (358, .istore_n 2, 1), (359, .goto (-220), 3), (362, .iload_n 2, 1), (363, .aload_n 0, 1), (364, .getfield 115, 3), (367, .if_icmp .ge 74, 3), (370, .aload_n 0, 1), (371, .getfield 115, 3), (374, .iload_n 2, 1), (375, .isub, 1), (376, .iconst 1, 1), (377, .isub, 1), (378, .istore 4, 2), (380, .iload 4, 2), (382, .ifCond .eq 11, 3), (385, .iload 4, 2), (387, .sipush 400, 3), (390, .if_icmp .le 5, 3), (393, .iconst 5, 1), (394, .ireturn, 1), (395, .aload_n 0, 1), (396, .getfield 37, 3), (399, .iconst 1, 1), (400, .iload 4, 2), (402, .iastore, 1), (403, .iconst 0, 1), (404, .istore 5, 2)]
theorem okX10_fault_5 : ∀ e ∈ qX10_fault_5, decode cX10_fault e.1 = .ok (e.2.1, e.2.2) := by decide +kernel
def qX10_fault_6 : List (Nat × Instr × Nat) := [(406, .iload 5, 2), (408, .iload 4, 2), (410, .if_icmp .ge 31, 3), (413, .aload_n 0, 1), (414, .getfield 40, 3), (417, .sipush 400, 3), (420, .iload 5, 2), (422, .iadd, 1), (423, .aload_n 0, 1), (424, .getfield 47, 3), (427, .iload_n 2, 1), (428, .iconst 1, 1), (429, .iadd, 1), (430, .iload 5, 2), (432, .iadd, 1), (433, .iaload, 1), (434, .iastore, 1), (435, .iinc 5 1, 3), (438, .goto (-32), 3), (441, .aload_n 0, 1), (442, .getfield 13, 3), (445, .iconst 1, 1), (446, .iaload, 1), (447, .ifCond .ne 16, 3), (450, .aload_n 0, 1), (451, .getfield 115, 3), (454, .iconst 4, 1), (455, .if_icmp .le 8, 3), (458, .bipush 6, 2), (460, .goto 4, 3), (463, .iconst 0, 1), (464, .ireturn, 1)]
theorem okX10_fault_6 : ∀ e ∈ qX10_fault_6, decode cX10_fault e.1 = .ok (e.2.1, e.2.2) := by decide +kernel
def qX10_fault : List (Nat × Instr × Nat) := qX10_fault_0 ++ (qX10_fault_1 ++ (qX10_fault_2 ++ (qX10_fault_3 ++ (qX10_fault_4 ++ (qX10_fault_5 ++ (qX10_fault_6))))))
theorem okX10_fault : ∀ e ∈ qX10_fault, decode cX10_fault e.1 = .ok (e.2.1, e.2.2) := List.forall_mem_append.mpr ⟨okX10_fault_0, List.forall_mem_append.mpr ⟨okX10_fault_1, List.forall_mem_append.mpr ⟨okX10_fault_2, List.forall_mem_append.mpr ⟨okX10_fault_3, List.forall_mem_append.mpr ⟨okX10_fault_4, List.forall_mem_append.mpr ⟨okX10_fault_5, okX10_fault_6⟩⟩⟩⟩⟩⟩
def mX10_fault : xM := (yX10_fault, cX10_fault, 11, (some .int), 10, qX10_fault)
def qX10_read_0 : List (Nat × Instr × Nat) := [(0, .aload_n 0, 1), (1, .invokevirtual 141, 3), (4, .istore_n 1, 1), (5, .aload_n 0, 1), (6, .iload_n 1, 1), (7, .ifCond .ne 14, 3), (10, .aload_n 0, 1), (11, .getfield 134, 3), (14, .ifCond .eq 7, 3), (17, .iconst 1, 1), (18, .goto 4, 3), (21, .iconst 0, 1), (22, .invokevirtual 91, 3), (25, .ifCond .eq 5, 3), (28, .iconst 0, 1), (29, .ireturn, 1), (30, .iload_n 1, 1), (31, .ifCond .le 6, 3), (34, .iload_n 1, 1), (35, .ineg, 1), (36, .ireturn, 1), (37, .aload_n 0, 1), (38, .iconst 0, 1), (39, .aload_n 0, 1), (40, .getfield 7, 3), (43, .iconst 1, 1), (44, .iaload, 1), (45, .aload_n 0, 1), (46, .getfield 13, 3), (49, .iconst 1, 1), (50, .iaload, 1), (51, .aload_n 0, 1), (52, .getfield 16, 3), (55, .iconst 1, 1), (56, .iaload, 1), (57, .invokevirtual 95, 3), (60, .aload_n 0, 1), (61, .iconst (-1), 1), (62, .putfield 43, 3), (65, .aload_n 0, 1)]
theorem okX10_read_0 : ∀ e ∈ qX10_read_0, decode cX10_read e.1 = .ok (e.2.1, e.2.2) := by decide +kernel
def qX10_read_1 : List (Nat × Instr × Nat) := [(66, .getfield 19, 3), (69, .iconst 0, 1), (70, .aload_n 0, 1), (71, .getfield 19, 3), (74, .iconst 1, 1), (75, .iaload, 1), (76, .iastore, 1), (77, .iconst 0, 1), (78, .istore_n 2, 1), (79, .iload_n 2, 1), (80, .bipush 8, 2), (82, .if_icmp .ge 24, 3), (85, .aload_n 0, 1), (86, .getfield 22, 3), (89, .iload_n 2, 1), (90, .aload_n 0, 1), (91, .getfield 22, 3), (94, .bipush 8, 2), (96, .iload_n 2, 1), (97, .iadd, 1), (98, .iaload, 1), (99, .iastore, 1), (100, .iinc 2 1, 3), (103, .goto (-24), 3), (106, .aload_n 0, 1), (107, .getfield 25, 3), (110, .iconst 0, 1), (111, .aload_n 0, 1), (112, .getfield 25, 3), (115, .iconst 1, 1), (116, .iaload, 1), (117, .iastore, 1), (118, .iconst 0, 1), (119, .istore_n 2, 1), (120, .iload_n 2, 1), (121, .aload_n 0, 1), (122, .getfield 25, 3), (125, .iconst 1, 1), (126, .iaload, 1), (127, .if_icmp .ge 18, 3)]
theorem okX10_read_1 : ∀ e ∈ qX10_read_1, decode cX10_read e.1 = .ok (e.2.1, e.2.2) := by decide +kernel
def qX10_read_2 : List (Nat × Instr × Nat) := [(130, .aload_n 0, 1), (131, .bipush 21, 2), (133, .iload_n 2, 1), (134, .iadd, 1), (135, .iload_n 2, 1), (136, .invokevirtual 145, 3), (139, .iinc 2 1, 3), (142, .goto (-22), 3), (145, .aload_n 0, 1), (146, .getfield 37, 3), (149, .iconst 0, 1), (150, .aload_n 0, 1), (151, .getfield 37, 3), (154, .iconst 1, 1), (155, .iaload, 1), (156, .iastore, 1), (157, .iconst 0, 1), (158, .istore_n 2, 1), (159, .iload_n 2, 1), (160, .aload_n 0, 1), (161, .getfield 37, 3), (164, .iconst 1, 1), (165, .iaload, 1), (166, .if_icmp .ge 25, 3), (169, .aload_n 0, 1), (170, .getfield 40, 3), (173, .iload_n 2, 1), (174, .aload_n 0, 1), (175, .getfield 40, 3), (178, .sipush 400, 3), (181, .iload_n 2, 1), (182, .iadd, 1), (183, .iaload, 1), (184, .iastore, 1), (185, .iinc 2 1, 3), (188, .goto (-29), 3), (191, .aload_n 0, 1), (192, .getfield 25, 3), (195, .iconst 0, 1), (196, .iaload, 1)]
theorem okX10_read_2 : ∀ e ∈ qX10_read_2, decode cX10_read e.1 = .ok (e.2.1, e.2.2) := by decide +kernel
def qX10_read_3 : List (Nat × Instr × Nat) := [(197, .ireturn, 1)]
theorem okX10_read_3 : ∀ e ∈ qX10_read_3, decode cX10_read e.1 = .ok (e.2.1, e.2.2) := by decide +kernel
def qX10_read : List (Nat × Instr × Nat) := qX10_read_0 ++ (qX10_read_1 ++ (qX10_read_2 ++ (qX10_read_3)))
theorem okX10_read : ∀ e ∈ qX10_read, decode cX10_read e.1 = .ok (e.2.1, e.2.2) := List.forall_mem_append.mpr ⟨okX10_read_0, List.forall_mem_append.mpr ⟨okX10_read_1, List.forall_mem_append.mpr ⟨okX10_read_2, okX10_read_3⟩⟩⟩
def mX10_read : xM := (yX10_read, cX10_read, 3, (some .int), 10, qX10_read)
def qX10_copies : List (Nat × Instr × Nat) := [(0, .aload_n 0, 1), (1, .getfield 28, 3), (4, .iload_n 2, 1), (5, .aload_n 0, 1), (6, .getfield 28, 3), (9, .iload_n 1, 1), (10, .iaload, 1), (11, .iastore, 1), (12, .aload_n 0, 1), (13, .getfield 31, 3), (16, .iload_n 2, 1), (17, .aload_n 0, 1), (18, .getfield 31, 3), (21, .iload_n 1, 1), (22, .iaload, 1), (23, .iastore, 1), (24, .iconst 0, 1), (25, .istore_n 3, 1), (26, .iload_n 3, 1), (27, .aload_n 0, 1), (28, .getfield 31, 3), (31, .iload_n 1, 1), (32, .iaload, 1), (33, .if_icmp .ge 33, 3), (36, .aload_n 0, 1), (37, .getfield 34, 3), (40, .sipush 400, 3), (43, .iload_n 2, 1), (44, .imul, 1), (45, .iload_n 3, 1), (46, .iadd, 1), (47, .aload_n 0, 1), (48, .getfield 34, 3), (51, .sipush 400, 3), (54, .iload_n 1, 1), (55, .imul, 1), (56, .iload_n 3, 1), (57, .iadd, 1), (58, .iaload, 1), (59, .iastore, 1), (60, .iinc 3 1, 3), (63, .goto (-37), 3), (66, .return_, 1)]
theorem okX10_copies : ∀ e ∈ qX10_copies, decode cX10_copies e.1 = .ok (e.2.1, e.2.2) := by decide +kernel
def mX10_copies : xM := (yX10_copies, cX10_copies, 4, none, 10, qX10_copies)
def qX10_about : List (Nat × Instr × Nat) := [(0, .aload_n 0, 1), (1, .iload_n 1, 1), (2, .ifCond .lt 8, 3), (5, .iload_n 1, 1), (6, .iconst 5, 1), (7, .if_icmp .le 7, 3), (10, .iconst 1, 1), (11, .goto 4, 3), (14, .iconst 0, 1), (15, .invokevirtual 91, 3), (18, .ifCond .eq 5, 3), (21, .iconst 0, 1), (22, .ireturn, 1), (23, .iload_n 1, 1), (24, .ifCond .ne 12, 3), (27, .aload_n 0, 1), (28, .getfield 7, 3), (31, .iconst 0, 1), (32, .iaload, 1), (33, .goto 65, 3), (36, .iload_n 1, 1), (37, .iconst 1, 1), (38, .if_icmp .ne 12, 3), (41, .aload_n 0, 1), (42, .getfield 13, 3), (45, .iconst 0, 1), (46, .iaload, 1), (47, .goto 51, 3), (50, .iload_n 1, 1), (51, .iconst 2, 1), (52, .if_icmp .ne 12, 3), (55, .aload_n 0, 1), (56, .getfield 16, 3), (59, .iconst 0, 1), (60, .iaload, 1), (61, .goto 37, 3), (64, .iload_n 1, 1), (65, .iconst 3, 1), (66, .if_icmp .ne 12, 3), (69, .aload_n 0, 1), (70, .getfield 19, 3), (73, .iconst 0, 1), (74, .iaload, 1), (75, .goto 23, 3), (78, .iload_n 1, 1), (79, .iconst 4, 1), (80, .if_icmp .ne 12, 3), (83, .aload_n 0, 1), (84, .getfield 25, 3), (87, .iconst 0, 1), (88, .iaload, 1), (89, .goto 9, 3), (92, .aload_n 0, 1), (93, .getfield 37, 3), (96, .iconst 0, 1), (97, .iaload, 1), (98, .ireturn, 1)]
theorem okX10_about : ∀ e ∈ qX10_about, decode cX10_about e.1 = .ok (e.2.1, e.2.2) := by decide +kernel
def mX10_about : xM := (yX10_about, cX10_about, 2, (some .int), 10, qX10_about)
def qX10_byteOf_0 : List (Nat × Instr × Nat) := [(0, .aload_n 0, 1), (1, .iload_n 1, 1), (2, .bipush (-2), 2), (4, .if_icmp .lt 13, 3), (7, .iload_n 1, 1), (8, .aload_n 0, 1), (9, .getfield 25, 3), (12, .iconst 0, 1), (13, .iaload, 1), (14, .if_icmp .lt 7, 3), (17, .iconst 1, 1), (18, .goto 4, 3), (21, .iconst 0, 1), (22, .invokevirtual 91, 3), (25, .ifCond .eq 5, 3), (28, .iconst 0, 1), (29, .ireturn, 1), (30, .iload_n 1, 1), (31, .bipush (-2), 2), (33, .if_icmp .ne 12, 3), (36, .aload_n 0, 1), (37, .getfield 37, 3), (40, .iconst 0, 1), (41, .iaload, 1), (42, .goto 23, 3), (45, .iload_n 1, 1), (46, .iconst (-1), 1), (47, .if_icmp .ne 12, 3), (50, .aload_n 0, 1), (51, .getfield 19, 3), (54, .iconst 0, 1), (55, .iaload, 1), (56, .goto 9, 3), (59, .aload_n 0, 1), (60, .getfield 31, 3), (63, .iload_n 1, 1), (64, .iaload, 1), (65, .istore_n 3, 1), (66, .iload_n 2, 1), (67, .ifCond .lt 8, 3)]
theorem okX10_byteOf_0 : ∀ e ∈ qX10_byteOf_0, decode cX10_byteOf e.1 = .ok (e.2.1, e.2.2) := by decide +kernel
def qX10_byteOf_1 : List (Nat × Instr × Nat) := [(70, .iload_n 2, 1), (71, .iload_n 3, 1), (72, .if_icmp .lt 5, 3), (75, .iconst (-1), 1), (76, .ireturn, 1), (77, .iload_n 1, 1), (78, .bipush (-2), 2), (80, .if_icmp .ne 12, 3), (83, .aload_n 0, 1), (84, .getfield 40, 3), (87, .iload_n 2, 1), (88, .iaload, 1), (89, .goto 29, 3), (92, .iload_n 1, 1), (93, .iconst (-1), 1), (94, .if_icmp .ne 12, 3), (97, .aload_n 0, 1), (98, .getfield 22, 3), (101, .iload_n 2, 1), (102, .iaload, 1), (103, .goto 15, 3), (106, .aload_n 0, 1), (107, .getfield 34, 3), (110, .sipush 400, 3), (113, .iload_n 1, 1), (114, .imul, 1), (115, .iload_n 2, 1), (116, .iadd, 1), (117, .iaload, 1), (118, .ireturn, 1)]
theorem okX10_byteOf_1 : ∀ e ∈ qX10_byteOf_1, decode cX10_byteOf e.1 = .ok (e.2.1, e.2.2) := by decide +kernel
def qX10_byteOf : List (Nat × Instr × Nat) := qX10_byteOf_0 ++ (qX10_byteOf_1)
theorem okX10_byteOf : ∀ e ∈ qX10_byteOf, decode cX10_byteOf e.1 = .ok (e.2.1, e.2.2) := List.forall_mem_append.mpr ⟨okX10_byteOf_0, okX10_byteOf_1⟩
def mX10_byteOf : xM := (yX10_byteOf, cX10_byteOf, 4, (some .int), 10, qX10_byteOf)
def qX10_whole : List (Nat × Instr × Nat) := [(0, .aload_n 0, 1), (1, .getfield 31, 3), (4, .iload_n 1, 1), (5, .iaload, 1), (6, .iconst 4, 1), (7, .if_icmp .le 7, 3), (10, .ldc2_w 148, 3), (13, .lreturn, 1), (14, .lconst 0, 1), (15, .lstore_n 2, 1), (16, .iconst 0, 1), (17, .istore 4, 2), (19, .iload 4, 2), (21, .aload_n 0, 1), (22, .getfield 31, 3), (25, .iload_n 1, 1), (26, .iaload, 1), (27, .if_icmp .ge 30, 3), (30, .ldc2_w 150, 3), (33, .lload_n 2, 1), (34, .lmul, 1), (35, .aload_n 0, 1), (36, .getfield 34, 3), (39, .sipush 400, 3), (42, .iload_n 1, 1), (43, .imul, 1), (44, .iload 4, 2), (46, .iadd, 1), (47, .iaload, 1), (48, .i2l, 1), (49, .ladd, 1), (50, .lstore_n 2, 1), (51, .iinc 4 1, 3), (54, .goto (-35), 3), (57, .lload_n 2, 1), (58, .lreturn, 1)]
theorem okX10_whole : ∀ e ∈ qX10_whole, decode cX10_whole e.1 = .ok (e.2.1, e.2.2) := by decide +kernel
def mX10_whole : xM := (yX10_whole, cX10_whole, 5, (some .long), 10, qX10_whole)
def qX10_optionAt : List (Nat × Instr × Nat) := [(0, .aload_n 0, 1), (1, .iload_n 1, 1), (2, .ifCond .lt 22, 3), (5, .iload_n 1, 1), (6, .aload_n 0, 1), (7, .getfield 25, 3), (10, .iconst 0, 1), (11, .iaload, 1), (12, .if_icmp .ge 12, 3), (15, .iload_n 2, 1), (16, .ifCond .lt 8, 3), (19, .iload_n 2, 1), (20, .iconst 2, 1), (21, .if_icmp .le 7, 3), (24, .iconst 1, 1), (25, .goto 4, 3), (28, .iconst 0, 1), (29, .invokevirtual 91, 3), (32, .ifCond .eq 5, 3), (35, .iconst 0, 1), (36, .ireturn, 1), (37, .iload_n 2, 1), (38, .ifCond .ne 12, 3), (41, .aload_n 0, 1), (42, .getfield 28, 3), (45, .iload_n 1, 1), (46, .iaload, 1), (47, .goto 23, 3), (50, .iload_n 2, 1), (51, .iconst 1, 1), (52, .if_icmp .ne 12, 3), (55, .aload_n 0, 1), (56, .getfield 31, 3), (59, .iload_n 1, 1), (60, .iaload, 1), (61, .goto 9, 3), (64, .aload_n 0, 1), (65, .iload_n 1, 1), (66, .invokevirtual 152, 3), (69, .l2i, 1), (70, .ireturn, 1)]
theorem okX10_optionAt : ∀ e ∈ qX10_optionAt, decode cX10_optionAt e.1 = .ok (e.2.1, e.2.2) := by decide +kernel
def mX10_optionAt : xM := (yX10_optionAt, cX10_optionAt, 3, (some .int), 10, qX10_optionAt)
def qX10_isValue : List (Nat × Instr × Nat) := [(0, .aload_n 0, 1), (1, .getfield 31, 3), (4, .iload_n 1, 1), (5, .iaload, 1), (6, .iconst 2, 1), (7, .if_icmp .ne 37, 3), (10, .aload_n 0, 1), (11, .getfield 34, 3), (14, .sipush 400, 3), (17, .iload_n 1, 1), (18, .imul, 1), (19, .iaload, 1), (20, .iload_n 2, 1), (21, .if_icmp .ne 23, 3), (24, .aload_n 0, 1), (25, .getfield 34, 3), (28, .sipush 400, 3), (31, .iload_n 1, 1), (32, .imul, 1), (33, .iconst 1, 1), (34, .iadd, 1), (35, .iaload, 1), (36, .iload_n 3, 1), (37, .if_icmp .ne 7, 3), (40, .iconst 1, 1), (41, .goto 4, 3), (44, .iconst 0, 1), (45, .ireturn, 1)]
theorem okX10_isValue : ∀ e ∈ qX10_isValue, decode cX10_isValue e.1 = .ok (e.2.1, e.2.2) := by decide +kernel
def mX10_isValue : xM := (yX10_isValue, cX10_isValue, 4, (some .boolean), 10, qX10_isValue)
def qX10_found_0 : List (Nat × Instr × Nat) := [(0, .iconst 0, 1), (1, .istore_n 1, 1), (2, .iload_n 1, 1), (3, .aload_n 0, 1), (4, .getfield 156, 3), (7, .if_icmp .ge 178, 3), (10, .iconst 0, 1), (11, .istore_n 2, 1), (12, .iconst 1, 1), (13, .istore_n 3, 1), (14, .bipush 21, 2), (16, .istore 4, 2), (18, .iload 4, 2), (20, .bipush 21, 2), (22, .aload_n 0, 1), (23, .getfield 25, 3), (26, .iconst 1, 1), (27, .iaload, 1), (28, .iadd, 1), (29, .if_icmp .ge 134, 3), (32, .iload_n 3, 1), (33, .ifCond .eq 130, 3), (36, .aload_n 0, 1), (37, .getfield 28, 3), (40, .iload 4, 2), (42, .iaload, 1), (43, .bipush 11, 2), (45, .if_icmp .eq 6, 3), (48, .goto 109, 3), (51, .bipush 20, 2), (53, .iload_n 1, 1), (54, .imul, 1), (55, .iload_n 2, 1), (56, .iadd, 1), (57, .istore 5, 2), (59, .iload_n 2, 1), (60, .aload_n 0, 1), (61, .getfield 50, 3), (64, .iload_n 1, 1), (65, .iaload, 1)]
theorem okX10_found_0 : ∀ e ∈ qX10_found_0, decode cX10_found e.1 = .ok (e.2.1, e.2.2) := by decide +kernel
def qX10_found_1 : List (Nat × Instr × Nat) := [(66, .if_icmp .ge 24, 3), (69, .aload_n 0, 1), (70, .getfield 53, 3), (73, .iload 5, 2), (75, .iaload, 1), (76, .aload_n 0, 1), (77, .getfield 31, 3), (80, .iload 4, 2), (82, .iaload, 1), (83, .if_icmp .ne 7, 3), (86, .iconst 1, 1), (87, .goto 4, 3), (90, .iconst 0, 1), (91, .istore_n 3, 1), (92, .iconst 0, 1), (93, .istore 6, 2), (95, .iload 6, 2), (97, .aload_n 0, 1), (98, .getfield 31, 3), (101, .iload 4, 2), (103, .iaload, 1), (104, .if_icmp .ge 50, 3), (107, .iload_n 3, 1), (108, .ifCond .eq 46, 3), (111, .aload_n 0, 1), (112, .getfield 57, 3), (115, .sipush 400, 3), (118, .iload 5, 2), (120, .imul, 1), (121, .iload 6, 2), (123, .iadd, 1), (124, .iaload, 1), (125, .aload_n 0, 1), (126, .getfield 34, 3), (129, .sipush 400, 3), (132, .iload 4, 2), (134, .imul, 1), (135, .iload 6, 2), (137, .iadd, 1), (138, .iaload, 1)]
theorem okX10_found_1 : ∀ e ∈ qX10_found_1, decode cX10_found e.1 = .ok (e.2.1, e.2.2) := by decide +kernel
def qX10_found_2 : List (Nat × Instr × Nat) := [(139, .if_icmp .ne 7, 3), (142, .iconst 1, 1), (143, .goto 4, 3), (146, .iconst 0, 1), (147, .istore_n 3, 1), (148, .iinc 6 1, 3), (151, .goto (-56), 3), (154, .iinc 2 1, 3), (157, .iinc 4 1, 3), (160, .goto (-142), 3), (163, .iload_n 3, 1), (164, .ifCond .eq 15, 3), (167, .iload_n 2, 1), (168, .aload_n 0, 1), (169, .getfield 50, 3), (172, .iload_n 1, 1), (173, .iaload, 1), (174, .if_icmp .ne 5, 3), (177, .iload_n 1, 1), (178, .ireturn, 1), (179, .iinc 1 1, 3), (182, .goto (-180), 3), (185, .iconst (-1), 1), (186, .ireturn, 1)]
theorem okX10_found_2 : ∀ e ∈ qX10_found_2, decode cX10_found e.1 = .ok (e.2.1, e.2.2) := by decide +kernel
def qX10_found : List (Nat × Instr × Nat) := qX10_found_0 ++ (qX10_found_1 ++ (qX10_found_2))
theorem okX10_found : ∀ e ∈ qX10_found, decode cX10_found e.1 = .ok (e.2.1, e.2.2) := List.forall_mem_append.mpr ⟨okX10_found_0, List.forall_mem_append.mpr ⟨okX10_found_1, okX10_found_2⟩⟩
def mX10_found : xM := (yX10_found, cX10_found, 7, (some .int), 10, qX10_found)
def qX10_isBad_0 : List (Nat × Instr × Nat) := [(0, .iconst 0, 1), (1, .istore_n 1, 1), (2, .iconst 0, 1), (3, .istore_n 2, 1), (4, .iconst 0, 1), (5, .istore_n 3, 1), (6, .bipush 21, 2), (8, .istore 4, 2), (10, .iload 4, 2), (12, .bipush 21, 2), (14, .aload_n 0, 1), (15, .getfield 25, 3), (18, .iconst 1, 1), (19, .iaload, 1), (20, .iadd, 1), (21, .if_icmp .ge 174, 3), (24, .aload_n 0, 1), (25, .getfield 28, 3), (28, .iload 4, 2), (30, .iaload, 1), (31, .istore 5, 2), (33, .iload_n 1, 1), (34, .iload 5, 2), (36, .iconst 5, 1), (37, .if_icmp .ne 7, 3), (40, .iconst 1, 1), (41, .goto 4, 3), (44, .iconst 0, 1), (45, .iadd, 1), (46, .istore_n 1, 1), (47, .iload_n 2, 1), (48, .iload 5, 2), (50, .bipush 23, 2), (52, .if_icmp .ne 7, 3), (55, .iconst 1, 1), (56, .goto 4, 3), (59, .iconst 0, 1), (60, .iadd, 1), (61, .istore_n 2, 1), (62, .iload_n 3, 1)]
theorem okX10_isBad_0 : ∀ e ∈ qX10_isBad_0, decode cX10_isBad e.1 = .ok (e.2.1, e.2.2) := by decide +kernel
def qX10_isBad_1 : List (Nat × Instr × Nat) := [(63, .ifCond .ne 44, 3), (66, .iload 5, 2), (68, .iconst 2, 1), (69, .irem, 1), (70, .iconst 1, 1), (71, .if_icmp .ne 40, 3), (74, .iload 5, 2), (76, .iconst 1, 1), (77, .if_icmp .eq 34, 3), (80, .iload 5, 2), (82, .iconst 5, 1), (83, .if_icmp .eq 28, 3), (86, .iload 5, 2), (88, .bipush 11, 2), (90, .if_icmp .eq 21, 3), (93, .iload 5, 2), (95, .bipush 15, 2), (97, .if_icmp .eq 14, 3), (100, .iload 5, 2), (102, .bipush 23, 2), (104, .if_icmp .eq 7, 3), (107, .iconst 1, 1), (108, .goto 4, 3), (111, .iconst 0, 1), (112, .istore_n 3, 1), (113, .iload_n 3, 1), (114, .ifCond .ne 69, 3), (117, .iload 5, 2), (119, .bipush 23, 2), (121, .if_icmp .ne 44, 3), (124, .aload_n 0, 1), (125, .iload 4, 2), (127, .invokevirtual 152, 3), (130, .lconst 0, 1), (131, .lcmp, 1), (132, .ifCond .lt 51, 3), (135, .aload_n 0, 1), (136, .iload 4, 2), (138, .invokevirtual 152, 3), (141, .ldc2_w 159, 3)]
theorem okX10_isBad_1 : ∀ e ∈ qX10_isBad_1, decode cX10_isBad e.1 = .ok (e.2.1, e.2.2) := by decide +kernel
def qX10_isBad_2 : List (Nat × Instr × Nat) := [(144, .lcmp, 1), (145, .ifCond .gt 38, 3), (148, .aload_n 0, 1), (149, .iload 4, 2), (151, .invokevirtual 152, 3), (154, .ldc2_w 161, 3), (157, .lrem, 1), (158, .ldc2_w 163, 3), (161, .lcmp, 1), (162, .ifCond .eq 21, 3), (165, .iload 5, 2), (167, .iconst 1, 1), (168, .if_icmp .ne 19, 3), (171, .aload_n 0, 1), (172, .getfield 31, 3), (175, .iload 4, 2), (177, .iaload, 1), (178, .bipush 8, 2), (180, .if_icmp .le 7, 3), (183, .iconst 1, 1), (184, .goto 4, 3), (187, .iconst 0, 1), (188, .istore_n 3, 1), (189, .iinc 4 1, 3), (192, .goto (-182), 3), (195, .iload_n 3, 1), (196, .ifCond .ne 13, 3), (199, .iload_n 1, 1), (200, .iconst 1, 1), (201, .if_icmp .gt 8, 3), (204, .iload_n 2, 1), (205, .iconst 1, 1), (206, .if_icmp .le 7, 3), (209, .iconst 1, 1), (210, .goto 4, 3), (213, .iconst 0, 1), (214, .ireturn, 1)]
theorem okX10_isBad_2 : ∀ e ∈ qX10_isBad_2, decode cX10_isBad e.1 = .ok (e.2.1, e.2.2) := by decide +kernel
def qX10_isBad : List (Nat × Instr × Nat) := qX10_isBad_0 ++ (qX10_isBad_1 ++ (qX10_isBad_2))
theorem okX10_isBad : ∀ e ∈ qX10_isBad, decode cX10_isBad e.1 = .ok (e.2.1, e.2.2) := List.forall_mem_append.mpr ⟨okX10_isBad_0, List.forall_mem_append.mpr ⟨okX10_isBad_1, okX10_isBad_2⟩⟩
def mX10_isBad : xM := (yX10_isBad, cX10_isBad, 6, (some .boolean), 10, qX10_isBad)
def qX10_tells : List (Nat × Instr × Nat) := [(0, .aload_n 0, 1), (1, .iconst 2, 1), (2, .iconst 4, 1), (3, .invokevirtual 103, 3), (6, .istore_n 2, 1), (7, .aload_n 0, 1), (8, .iload_n 2, 1), (9, .aload_n 0, 1), (10, .getfield 66, 3), (13, .iload_n 1, 1), (14, .iaload, 1), (15, .bipush 8, 2), (17, .ishr, 1), (18, .invokevirtual 107, 3), (21, .aload_n 0, 1), (22, .iload_n 2, 1), (23, .aload_n 0, 1), (24, .getfield 66, 3), (27, .iload_n 1, 1), (28, .iaload, 1), (29, .sipush 255, 3), (32, .iand, 1), (33, .invokevirtual 107, 3), (36, .return_, 1)]
theorem okX10_tells : ∀ e ∈ qX10_tells, decode cX10_tells e.1 = .ok (e.2.1, e.2.2) := by decide +kernel
def mX10_tells : xM := (yX10_tells, cX10_tells, 3, none, 10, qX10_tells)
def qX10_answer_0 : List (Nat × Instr × Nat) := [(0, .aload_n 0, 1), (1, .invokevirtual 165, 3), (4, .ifCond .eq 7, 3), (7, .sipush 130, 3), (10, .ireturn, 1), (11, .aload_n 0, 1), (12, .getfield 13, 3), (15, .iconst 1, 1), (16, .iaload, 1), (17, .iconst 4, 1), (18, .if_icmp .le 7, 3), (21, .sipush 133, 3), (24, .ireturn, 1), (25, .aload_n 0, 1), (26, .invokevirtual 169, 3), (29, .istore_n 1, 1), (30, .aload_n 0, 1), (31, .getfield 13, 3), (34, .iconst 1, 1), (35, .iaload, 1), (36, .iconst 1, 1), (37, .if_icmp .ne 20, 3), (40, .iload_n 1, 1), (41, .iconst (-1), 1), (42, .if_icmp .ne 9, 3), (45, .sipush 132, 3), (48, .goto 8, 3), (51, .aload_n 0, 1), (52, .iload_n 1, 1), (53, .invokevirtual 172, 3), (56, .ireturn, 1), (57, .iconst 0, 1), (58, .istore_n 2, 1), (59, .iconst 0, 1), (60, .istore_n 3, 1), (61, .bipush 21, 2), (63, .istore 4, 2), (65, .iload 4, 2), (67, .bipush 21, 2), (69, .aload_n 0, 1)]
theorem okX10_answer_0 : ∀ e ∈ qX10_answer_0, decode cX10_answer e.1 = .ok (e.2.1, e.2.2) := by decide +kernel
def qX10_answer_1 : List (Nat × Instr × Nat) := [(70, .getfield 25, 3), (73, .iconst 1, 1), (74, .iaload, 1), (75, .iadd, 1), (76, .if_icmp .ge 114, 3), (79, .iload_n 2, 1), (80, .ifCond .ne 14, 3), (83, .aload_n 0, 1), (84, .getfield 28, 3), (87, .iload 4, 2), (89, .iaload, 1), (90, .iconst 1, 1), (91, .if_icmp .ne 7, 3), (94, .iconst 1, 1), (95, .goto 4, 3), (98, .iconst 0, 1), (99, .istore_n 2, 1), (100, .iload_n 3, 1), (101, .ifCond .ne 57, 3), (104, .aload_n 0, 1), (105, .getfield 28, 3), (108, .iload 4, 2), (110, .iaload, 1), (111, .iconst 1, 1), (112, .if_icmp .ne 50, 3), (115, .iload_n 1, 1), (116, .iconst (-1), 1), (117, .if_icmp .eq 45, 3), (120, .aload_n 0, 1), (121, .getfield 31, 3), (124, .iload 4, 2), (126, .iaload, 1), (127, .ifCond .eq 31, 3), (130, .aload_n 0, 1), (131, .iload 4, 2), (133, .aload_n 0, 1), (134, .getfield 66, 3), (137, .iload_n 1, 1), (138, .iaload, 1), (139, .bipush 8, 2)]
theorem okX10_answer_1 : ∀ e ∈ qX10_answer_1, decode cX10_answer e.1 = .ok (e.2.1, e.2.2) := by decide +kernel
def qX10_answer_2 : List (Nat × Instr × Nat) := [(141, .ishr, 1), (142, .aload_n 0, 1), (143, .getfield 66, 3), (146, .iload_n 1, 1), (147, .iaload, 1), (148, .sipush 255, 3), (151, .iand, 1), (152, .invokevirtual 175, 3), (155, .ifCond .eq 7, 3), (158, .iconst 1, 1), (159, .goto 4, 3), (162, .iconst 0, 1), (163, .istore_n 3, 1), (164, .aload_n 0, 1), (165, .getfield 28, 3), (168, .iload 4, 2), (170, .iaload, 1), (171, .iconst 5, 1), (172, .if_icmp .ne 12, 3), (175, .iload_n 1, 1), (176, .iconst (-1), 1), (177, .if_icmp .eq 7, 3), (180, .sipush 140, 3), (183, .ireturn, 1), (184, .iinc 4 1, 3), (187, .goto (-122), 3), (190, .iload_n 2, 1), (191, .ifCond .eq 11, 3), (194, .iload_n 3, 1), (195, .ifCond .ne 7, 3), (198, .sipush 140, 3), (201, .ireturn, 1), (202, .aload_n 0, 1), (203, .getfield 13, 3), (206, .iconst 1, 1), (207, .iaload, 1), (208, .iconst 4, 1), (209, .if_icmp .ne 16, 3), (212, .iload_n 1, 1), (213, .iconst (-1), 1)]
theorem okX10_answer_2 : ∀ e ∈ qX10_answer_2, decode cX10_answer e.1 = .ok (e.2.1, e.2.2) := by decide +kernel
def qX10_answer_3 : List (Nat × Instr × Nat) := [(214, .if_icmp .eq 8, 3), (217, .aload_n 0, 1), (218, .iload_n 1, 1), (219, .invokevirtual 179, 3), (222, .bipush 66, 2), (224, .ireturn, 1), (225, .aload_n 0, 1), (226, .getfield 13, 3), (229, .iconst 1, 1), (230, .iaload, 1), (231, .iconst 2, 1), (232, .if_icmp .ne 17, 3), (235, .iload_n 1, 1), (236, .iconst (-1), 1), (237, .if_icmp .eq 12, 3), (240, .aload_n 0, 1), (241, .getfield 60, 3), (244, .iload_n 1, 1), (245, .iaload, 1), (246, .goto 4, 3), (249, .iconst 0, 1), (250, .istore 4, 2), (252, .aload_n 0, 1), (253, .getfield 13, 3), (256, .iconst 1, 1), (257, .iaload, 1), (258, .iconst 2, 1), (259, .if_icmp .ne 38, 3), (262, .iload_n 1, 1), (263, .iconst (-1), 1), (264, .if_icmp .eq 18, 3), (267, .iload 4, 2), (269, .aload_n 0, 1), (270, .getfield 37, 3), (273, .iconst 1, 1), (274, .iaload, 1), (275, .iadd, 1), (276, .sipush 400, 3), (279, .if_icmp .le 18, 3), (282, .iload_n 1, 1)]
theorem okX10_answer_3 : ∀ e ∈ qX10_answer_3, decode cX10_answer e.1 = .ok (e.2.1, e.2.2) := by decide +kernel
def qX10_answer_4 : List (Nat × Instr × Nat) := [(283, .iconst (-1), 1), (284, .if_icmp .ne 9, 3), (287, .sipush 132, 3), (290, .goto 6, 3), (293, .sipush 141, 3), (296, .ireturn, 1), (297, .iload_n 1, 1), (298, .iconst (-1), 1), (299, .if_icmp .ne 7, 3), (302, .iconst 1, 1), (303, .goto 4, 3), (306, .iconst 0, 1), (307, .istore 5, 2), (309, .iload 5, 2), (311, .ifCond .eq 16, 3), (314, .aload_n 0, 1), (315, .getfield 156, 3), (318, .bipush 16, 2), (320, .if_icmp .ne 7, 3), (323, .sipush 143, 3), (326, .ireturn, 1), (327, .iload 5, 2), (329, .ifCond .eq 8, 3), (332, .aload_n 0, 1), (333, .invokevirtual 182, 3), (336, .istore_n 1, 1), (337, .iconst 0, 1), (338, .istore 6, 2), (340, .iload 6, 2), (342, .aload_n 0, 1), (343, .getfield 37, 3), (346, .iconst 1, 1), (347, .iaload, 1), (348, .if_icmp .ge 36, 3), (351, .aload_n 0, 1), (352, .getfield 63, 3), (355, .sipush 400, 3), (358, .iload_n 1, 1), (359, .imul, 1), (360, .iload 4, 2)]
theorem okX10_answer_4 : ∀ e ∈ qX10_answer_4, decode cX10_answer e.1 = .ok (e.2.1, e.2.2) := by decide +kernel
def qX10_answer_5 : List (Nat × Instr × Nat) := [(362, .iadd, 1), (363, .iload 6, 2), (365, .iadd, 1), (366, .aload_n 0, 1), (367, .getfield 40, 3), (370, .sipush 400, 3), (373, .iload 6, 2), (375, .iadd, 1), (376, .iaload, 1), (377, .iastore, 1), (378, .iinc 6 1, 3), (381, .goto (-41), 3), (384, .aload_n 0, 1), (385, .getfield 60, 3), (388, .iload_n 1, 1), (389, .iload 4, 2), (391, .aload_n 0, 1), (392, .getfield 37, 3), (395, .iconst 1, 1), (396, .iaload, 1), (397, .iadd, 1), (398, .iastore, 1), (399, .aload_n 0, 1), (400, .aload_n 0, 1), (401, .getfield 185, 3), (404, .iconst 1, 1), (405, .iadd, 1), (406, .ldc 90, 2), (408, .iand, 1), (409, .putfield 185, 3), (412, .aload_n 0, 1), (413, .getfield 66, 3), (416, .iload_n 1, 1), (417, .aload_n 0, 1), (418, .getfield 185, 3), (421, .iastore, 1), (422, .aload_n 0, 1), (423, .iload_n 1, 1), (424, .invokevirtual 188, 3), (427, .iload 5, 2)]
theorem okX10_answer_5 : ∀ e ∈ qX10_answer_5, decode cX10_answer e.1 = .ok (e.2.1, e.2.2) := by decide +kernel
def qX10_answer_6 : List (Nat × Instr × Nat) := [(429, .ifCond .eq 8, 3), (432, .bipush 65, 2), (434, .goto 5, 3), (437, .bipush 68, 2), (439, .ireturn, 1)]
theorem okX10_answer_6 : ∀ e ∈ qX10_answer_6, decode cX10_answer e.1 = .ok (e.2.1, e.2.2) := by decide +kernel
def qX10_answer : List (Nat × Instr × Nat) := qX10_answer_0 ++ (qX10_answer_1 ++ (qX10_answer_2 ++ (qX10_answer_3 ++ (qX10_answer_4 ++ (qX10_answer_5 ++ (qX10_answer_6))))))
theorem okX10_answer : ∀ e ∈ qX10_answer, decode cX10_answer e.1 = .ok (e.2.1, e.2.2) := List.forall_mem_append.mpr ⟨okX10_answer_0, List.forall_mem_append.mpr ⟨okX10_answer_1, List.forall_mem_append.mpr ⟨okX10_answer_2, List.forall_mem_append.mpr ⟨okX10_answer_3, List.forall_mem_append.mpr ⟨okX10_answer_4, List.forall_mem_append.mpr ⟨okX10_answer_5, okX10_answer_6⟩⟩⟩⟩⟩⟩
def mX10_answer : xM := (yX10_answer, cX10_answer, 7, (some .int), 10, qX10_answer)
def qX10_get_0 : List (Nat × Instr × Nat) := [(0, .ldc2_w 148, 3), (3, .lstore_n 2, 1), (4, .bipush 21, 2), (6, .istore 4, 2), (8, .iload 4, 2), (10, .bipush 21, 2), (12, .aload_n 0, 1), (13, .getfield 25, 3), (16, .iconst 1, 1), (17, .iaload, 1), (18, .iadd, 1), (19, .if_icmp .ge 79, 3), (22, .aload_n 0, 1), (23, .getfield 28, 3), (26, .iload 4, 2), (28, .iaload, 1), (29, .iconst 4, 1), (30, .if_icmp .ne 39, 3), (33, .aload_n 0, 1), (34, .iload 4, 2), (36, .aload_n 0, 1), (37, .getfield 66, 3), (40, .iload_n 1, 1), (41, .iaload, 1), (42, .bipush 8, 2), (44, .ishr, 1), (45, .aload_n 0, 1), (46, .getfield 66, 3), (49, .iload_n 1, 1), (50, .iaload, 1), (51, .sipush 255, 3), (54, .iand, 1), (55, .invokevirtual 175, 3), (58, .ifCond .eq 11, 3), (61, .aload_n 0, 1), (62, .iload_n 1, 1), (63, .invokevirtual 188, 3), (66, .bipush 67, 2), (68, .ireturn, 1), (69, .aload_n 0, 1)]
theorem okX10_get_0 : ∀ e ∈ qX10_get_0, decode cX10_get e.1 = .ok (e.2.1, e.2.2) := by decide +kernel
def qX10_get_1 : List (Nat × Instr × Nat) := [(70, .getfield 28, 3), (73, .iload 4, 2), (75, .iaload, 1), (76, .bipush 23, 2), (78, .if_icmp .ne 12, 3), (81, .aload_n 0, 1), (82, .iload 4, 2), (84, .invokevirtual 152, 3), (87, .goto 4, 3), (90, .lload_n 2, 1), (91, .lstore_n 2, 1), (92, .iinc 4 1, 3), (95, .goto (-87), 3), (98, .aload_n 0, 1), (99, .getfield 60, 3), (102, .iload_n 1, 1), (103, .iaload, 1), (104, .istore 4, 2), (106, .lload_n 2, 1), (107, .lconst 0, 1), (108, .lcmp, 1), (109, .ifCond .ge 26, 3), (112, .iload 4, 2), (114, .bipush 64, 2), (116, .if_icmp .gt 19, 3), (119, .aload_n 0, 1), (120, .iload_n 1, 1), (121, .invokevirtual 188, 3), (124, .aload_n 0, 1), (125, .iload_n 1, 1), (126, .iconst 0, 1), (127, .iload 4, 2), (129, .invokevirtual 191, 3), (132, .bipush 69, 2), (134, .ireturn, 1), (135, .lload_n 2, 1), (136, .lconst 0, 1), (137, .lcmp, 1), (138, .ifCond .ge 7, 3), (141, .iconst 2, 1)]
theorem okX10_get_1 : ∀ e ∈ qX10_get_1, decode cX10_get e.1 = .ok (e.2.1, e.2.2) := by decide +kernel
def qX10_get_2 : List (Nat × Instr × Nat) := [(142, .goto 9, 3), (145, .lload_n 2, 1), (146, .ldc2_w 161, 3), (149, .lrem, 1), (150, .l2i, 1), (151, .istore 5, 2), (153, .lload_n 2, 1), (154, .lconst 0, 1), (155, .lcmp, 1), (156, .ifCond .ge 7, 3), (159, .iconst 0, 1), (160, .goto 9, 3), (163, .lload_n 2, 1), (164, .ldc2_w 195, 3), (167, .ldiv, 1), (168, .l2i, 1), (169, .istore 6, 2), (171, .bipush 16, 2), (173, .iload 5, 2), (175, .ishl, 1), (176, .istore 7, 2), (178, .iload 6, 2), (180, .ifCond .le 22, 3), (183, .iload 6, 2), (185, .iload 4, 2), (187, .iload 7, 2), (189, .iadd, 1), (190, .iconst 1, 1), (191, .isub, 1), (192, .iload 7, 2), (194, .idiv, 1), (195, .if_icmp .lt 7, 3), (198, .sipush 130, 3), (201, .ireturn, 1), (202, .iload 6, 2), (204, .iload 7, 2), (206, .imul, 1), (207, .istore 8, 2), (209, .iload 8, 2), (211, .iload 7, 2)]
theorem okX10_get_2 : ∀ e ∈ qX10_get_2, decode cX10_get e.1 = .ok (e.2.1, e.2.2) := by decide +kernel
def qX10_get_3 : List (Nat × Instr × Nat) := [(213, .iadd, 1), (214, .iload 4, 2), (216, .if_icmp .ge 11, 3), (219, .iload 8, 2), (221, .iload 7, 2), (223, .iadd, 1), (224, .goto 5, 3), (227, .iload 4, 2), (229, .istore 9, 2), (231, .aload_n 0, 1), (232, .iload_n 1, 1), (233, .invokevirtual 188, 3), (236, .bipush 16, 2), (238, .iload 6, 2), (240, .imul, 1), (241, .iload 9, 2), (243, .iload 4, 2), (245, .if_icmp .ge 8, 3), (248, .bipush 8, 2), (250, .goto 4, 3), (253, .iconst 0, 1), (254, .iadd, 1), (255, .iload 5, 2), (257, .iadd, 1), (258, .istore 10, 2), (260, .aload_n 0, 1), (261, .iconst 2, 1), (262, .bipush 23, 2), (264, .invokevirtual 103, 3), (267, .istore 11, 2), (269, .bipush 16, 2), (271, .istore 12, 2), (273, .iload 12, 2), (275, .ifCond .lt 32, 3), (278, .iload 10, 2), (280, .iload 12, 2), (282, .ishr, 1), (283, .ifCond .le 18, 3), (286, .aload_n 0, 1), (287, .iload 11, 2)]
theorem okX10_get_3 : ∀ e ∈ qX10_get_3, decode cX10_get e.1 = .ok (e.2.1, e.2.2) := by decide +kernel
def qX10_get_4 : List (Nat × Instr × Nat) := [(289, .iload 10, 2), (291, .iload 12, 2), (293, .ishr, 1), (294, .sipush 255, 3), (297, .iand, 1), (298, .invokevirtual 107, 3), (301, .iinc 12 (-8), 3), (304, .goto (-31), 3), (307, .aload_n 0, 1), (308, .iload_n 1, 1), (309, .iload 8, 2), (311, .iload 9, 2), (313, .invokevirtual 191, 3), (316, .bipush 69, 2), (318, .ireturn, 1)]
theorem okX10_get_4 : ∀ e ∈ qX10_get_4, decode cX10_get e.1 = .ok (e.2.1, e.2.2) := by decide +kernel
def qX10_get : List (Nat × Instr × Nat) := qX10_get_0 ++ (qX10_get_1 ++ (qX10_get_2 ++ (qX10_get_3 ++ (qX10_get_4))))
theorem okX10_get : ∀ e ∈ qX10_get, decode cX10_get e.1 = .ok (e.2.1, e.2.2) := List.forall_mem_append.mpr ⟨okX10_get_0, List.forall_mem_append.mpr ⟨okX10_get_1, List.forall_mem_append.mpr ⟨okX10_get_2, List.forall_mem_append.mpr ⟨okX10_get_3, okX10_get_4⟩⟩⟩⟩
def mX10_get : xM := (yX10_get, cX10_get, 13, (some .int), 10, qX10_get)
def qX10_sends : List (Nat × Instr × Nat) := [(0, .aload_n 0, 1), (1, .getfield 37, 3), (4, .iconst 2, 1), (5, .iload_n 3, 1), (6, .iload_n 2, 1), (7, .isub, 1), (8, .iastore, 1), (9, .iload_n 2, 1), (10, .istore 4, 2), (12, .iload 4, 2), (14, .iload_n 3, 1), (15, .if_icmp .ge 35, 3), (18, .aload_n 0, 1), (19, .getfield 40, 3), (22, .sipush 800, 3), (25, .iload 4, 2), (27, .iadd, 1), (28, .iload_n 2, 1), (29, .isub, 1), (30, .aload_n 0, 1), (31, .getfield 63, 3), (34, .sipush 400, 3), (37, .iload_n 1, 1), (38, .imul, 1), (39, .iload 4, 2), (41, .iadd, 1), (42, .iaload, 1), (43, .iastore, 1), (44, .iinc 4 1, 3), (47, .goto (-35), 3), (50, .return_, 1)]
theorem okX10_sends : ∀ e ∈ qX10_sends, decode cX10_sends e.1 = .ok (e.2.1, e.2.2) := by decide +kernel
def mX10_sends : xM := (yX10_sends, cX10_sends, 5, none, 10, qX10_sends)
def qX10_makes_0 : List (Nat × Instr × Nat) := [(0, .aload_n 0, 1), (1, .getfield 156, 3), (4, .istore_n 1, 1), (5, .aload_n 0, 1), (6, .dup, 1), (7, .getfield 156, 3), (10, .iconst 1, 1), (11, .iadd, 1), (12, .putfield 156, 3), (15, .aload_n 0, 1), (16, .getfield 50, 3), (19, .iload_n 1, 1), (20, .iconst 0, 1), (21, .iastore, 1), (22, .bipush 21, 2), (24, .istore_n 2, 1), (25, .iload_n 2, 1), (26, .bipush 21, 2), (28, .aload_n 0, 1), (29, .getfield 25, 3), (32, .iconst 1, 1), (33, .iaload, 1), (34, .iadd, 1), (35, .if_icmp .ge 100, 3), (38, .aload_n 0, 1), (39, .getfield 28, 3), (42, .iload_n 2, 1), (43, .iaload, 1), (44, .bipush 11, 2), (46, .if_icmp .ne 83, 3), (49, .bipush 20, 2), (51, .iload_n 1, 1), (52, .imul, 1), (53, .aload_n 0, 1), (54, .getfield 50, 3), (57, .iload_n 1, 1), (58, .iaload, 1), (59, .iadd, 1), (60, .istore_n 3, 1), (61, .aload_n 0, 1)]
theorem okX10_makes_0 : ∀ e ∈ qX10_makes_0, decode cX10_makes e.1 = .ok (e.2.1, e.2.2) := by decide +kernel
def qX10_makes_1 : List (Nat × Instr × Nat) := [(62, .getfield 53, 3), (65, .iload_n 3, 1), (66, .aload_n 0, 1), (67, .getfield 31, 3), (70, .iload_n 2, 1), (71, .iaload, 1), (72, .iastore, 1), (73, .iconst 0, 1), (74, .istore 4, 2), (76, .iload 4, 2), (78, .aload_n 0, 1), (79, .getfield 31, 3), (82, .iload_n 2, 1), (83, .iaload, 1), (84, .if_icmp .ge 35, 3), (87, .aload_n 0, 1), (88, .getfield 57, 3), (91, .sipush 400, 3), (94, .iload_n 3, 1), (95, .imul, 1), (96, .iload 4, 2), (98, .iadd, 1), (99, .aload_n 0, 1), (100, .getfield 34, 3), (103, .sipush 400, 3), (106, .iload_n 2, 1), (107, .imul, 1), (108, .iload 4, 2), (110, .iadd, 1), (111, .iaload, 1), (112, .iastore, 1), (113, .iinc 4 1, 3), (116, .goto (-40), 3), (119, .aload_n 0, 1), (120, .getfield 50, 3), (123, .iload_n 1, 1), (124, .dup2, 1), (125, .iaload, 1), (126, .iconst 1, 1), (127, .iadd, 1)]
theorem okX10_makes_1 : ∀ e ∈ qX10_makes_1, decode cX10_makes e.1 = .ok (e.2.1, e.2.2) := by decide +kernel
def qX10_makes_2 : List (Nat × Instr × Nat) := [(128, .iastore, 1), (129, .iinc 2 1, 3), (132, .goto (-107), 3), (135, .iload_n 1, 1), (136, .ireturn, 1)]
theorem okX10_makes_2 : ∀ e ∈ qX10_makes_2, decode cX10_makes e.1 = .ok (e.2.1, e.2.2) := by decide +kernel
def qX10_makes : List (Nat × Instr × Nat) := qX10_makes_0 ++ (qX10_makes_1 ++ (qX10_makes_2))
theorem okX10_makes : ∀ e ∈ qX10_makes, decode cX10_makes e.1 = .ok (e.2.1, e.2.2) := List.forall_mem_append.mpr ⟨okX10_makes_0, List.forall_mem_append.mpr ⟨okX10_makes_1, okX10_makes_2⟩⟩
def mX10_makes : xM := (yX10_makes, cX10_makes, 5, (some .int), 10, qX10_makes)
def qX10_goes_0 : List (Nat × Instr × Nat) := [(0, .iload_n 1, 1), (1, .istore_n 2, 1), (2, .iload_n 2, 1), (3, .iconst 1, 1), (4, .iadd, 1), (5, .aload_n 0, 1), (6, .getfield 156, 3), (9, .if_icmp .ge 204, 3), (12, .aload_n 0, 1), (13, .getfield 50, 3), (16, .iload_n 2, 1), (17, .aload_n 0, 1), (18, .getfield 50, 3), (21, .iload_n 2, 1), (22, .iconst 1, 1), (23, .iadd, 1), (24, .iaload, 1), (25, .iastore, 1), (26, .iconst 0, 1), (27, .istore_n 3, 1), (28, .iload_n 3, 1), (29, .aload_n 0, 1), (30, .getfield 50, 3), (33, .iload_n 2, 1), (34, .iaload, 1), (35, .if_icmp .ge 98, 3), (38, .aload_n 0, 1), (39, .getfield 53, 3), (42, .bipush 20, 2), (44, .iload_n 2, 1), (45, .imul, 1), (46, .iload_n 3, 1), (47, .iadd, 1), (48, .aload_n 0, 1), (49, .getfield 53, 3), (52, .bipush 20, 2), (54, .iload_n 2, 1), (55, .imul, 1), (56, .bipush 20, 2), (58, .iadd, 1)]
theorem okX10_goes_0 : ∀ e ∈ qX10_goes_0, decode cX10_goes e.1 = .ok (e.2.1, e.2.2) := by decide +kernel
def qX10_goes_1 : List (Nat × Instr × Nat) := [(59, .iload_n 3, 1), (60, .iadd, 1), (61, .iaload, 1), (62, .iastore, 1), (63, .iconst 0, 1), (64, .istore 4, 2), (66, .iload 4, 2), (68, .aload_n 0, 1), (69, .getfield 53, 3), (72, .bipush 20, 2), (74, .iload_n 2, 1), (75, .imul, 1), (76, .iload_n 3, 1), (77, .iadd, 1), (78, .iaload, 1), (79, .if_icmp .ge 48, 3), (82, .aload_n 0, 1), (83, .getfield 57, 3), (86, .sipush 400, 3), (89, .bipush 20, 2), (91, .iload_n 2, 1), (92, .imul, 1), (93, .iload_n 3, 1), (94, .iadd, 1), (95, .imul, 1), (96, .iload 4, 2), (98, .iadd, 1), (99, .aload_n 0, 1), (100, .getfield 57, 3), (103, .sipush 400, 3), (106, .bipush 20, 2), (108, .iload_n 2, 1), (109, .imul, 1), (110, .bipush 20, 2), (112, .iadd, 1), (113, .iload_n 3, 1), (114, .iadd, 1), (115, .imul, 1), (116, .iload 4, 2), (118, .iadd, 1)]
theorem okX10_goes_1 : ∀ e ∈ qX10_goes_1, decode cX10_goes e.1 = .ok (e.2.1, e.2.2) := by decide +kernel
def qX10_goes_2 : List (Nat × Instr × Nat) := [(119, .iaload, 1), (120, .iastore, 1), (121, .iinc 4 1, 3), (124, .goto (-58), 3), (127, .iinc 3 1, 3), (130, .goto (-102), 3), (133, .aload_n 0, 1), (134, .getfield 60, 3), (137, .iload_n 2, 1), (138, .aload_n 0, 1), (139, .getfield 60, 3), (142, .iload_n 2, 1), (143, .iconst 1, 1), (144, .iadd, 1), (145, .iaload, 1), (146, .iastore, 1), (147, .iconst 0, 1), (148, .istore_n 3, 1), (149, .iload_n 3, 1), (150, .aload_n 0, 1), (151, .getfield 60, 3), (154, .iload_n 2, 1), (155, .iaload, 1), (156, .if_icmp .ge 37, 3), (159, .aload_n 0, 1), (160, .getfield 63, 3), (163, .sipush 400, 3), (166, .iload_n 2, 1), (167, .imul, 1), (168, .iload_n 3, 1), (169, .iadd, 1), (170, .aload_n 0, 1), (171, .getfield 63, 3), (174, .sipush 400, 3), (177, .iload_n 2, 1), (178, .imul, 1), (179, .sipush 400, 3), (182, .iadd, 1), (183, .iload_n 3, 1), (184, .iadd, 1)]
theorem okX10_goes_2 : ∀ e ∈ qX10_goes_2, decode cX10_goes e.1 = .ok (e.2.1, e.2.2) := by decide +kernel
def qX10_goes_3 : List (Nat × Instr × Nat) := [(185, .iaload, 1), (186, .iastore, 1), (187, .iinc 3 1, 3), (190, .goto (-41), 3), (193, .aload_n 0, 1), (194, .getfield 66, 3), (197, .iload_n 2, 1), (198, .aload_n 0, 1), (199, .getfield 66, 3), (202, .iload_n 2, 1), (203, .iconst 1, 1), (204, .iadd, 1), (205, .iaload, 1), (206, .iastore, 1), (207, .iinc 2 1, 3), (210, .goto (-208), 3), (213, .aload_n 0, 1), (214, .dup, 1), (215, .getfield 156, 3), (218, .iconst 1, 1), (219, .isub, 1), (220, .putfield 156, 3), (223, .return_, 1)]
theorem okX10_goes_3 : ∀ e ∈ qX10_goes_3, decode cX10_goes e.1 = .ok (e.2.1, e.2.2) := by decide +kernel
def qX10_goes : List (Nat × Instr × Nat) := qX10_goes_0 ++ (qX10_goes_1 ++ (qX10_goes_2 ++ (qX10_goes_3)))
theorem okX10_goes : ∀ e ∈ qX10_goes, decode cX10_goes e.1 = .ok (e.2.1, e.2.2) := List.forall_mem_append.mpr ⟨okX10_goes_0, List.forall_mem_append.mpr ⟨okX10_goes_1, List.forall_mem_append.mpr ⟨okX10_goes_2, okX10_goes_3⟩⟩⟩
def mX10_goes : xM := (yX10_goes, cX10_goes, 5, none, 10, qX10_goes)
def qX10_resets : List (Nat × Instr × Nat) := [(0, .aload_n 0, 1), (1, .iconst 2, 1), (2, .iconst 3, 1), (3, .iconst 0, 1), (4, .aload_n 0, 1), (5, .getfield 16, 3), (8, .iconst 1, 1), (9, .iaload, 1), (10, .invokevirtual 95, 3), (13, .aload_n 0, 1), (14, .iconst 2, 1), (15, .invokevirtual 131, 3), (18, .iconst 0, 1), (19, .ireturn, 1)]
theorem okX10_resets : ∀ e ∈ qX10_resets, decode cX10_resets e.1 = .ok (e.2.1, e.2.2) := by decide +kernel
def mX10_resets : xM := (yX10_resets, cX10_resets, 1, (some .int), 10, qX10_resets)
def qX10_nothing : List (Nat × Instr × Nat) := [(0, .aload_n 0, 1), (1, .iconst 0, 1), (2, .putfield 115, 3), (5, .iconst (-1), 1), (6, .ireturn, 1)]
theorem okX10_nothing : ∀ e ∈ qX10_nothing, decode cX10_nothing e.1 = .ok (e.2.1, e.2.2) := by decide +kernel
def mX10_nothing : xM := (yX10_nothing, cX10_nothing, 1, (some .int), 10, qX10_nothing)
def qX10_serve_0 : List (Nat × Instr × Nat) := [(0, .aload_n 0, 1), (1, .iload_n 1, 1), (2, .ifCond .lt 9, 3), (5, .iload_n 1, 1), (6, .bipush 9, 2), (8, .if_icmp .le 7, 3), (11, .iconst 1, 1), (12, .goto 4, 3), (15, .iconst 0, 1), (16, .invokevirtual 91, 3), (19, .ifCond .eq 5, 3), (22, .iconst 0, 1), (23, .ireturn, 1), (24, .aload_n 0, 1), (25, .invokevirtual 141, 3), (28, .istore_n 2, 1), (29, .iload_n 2, 1), (30, .ifCond .gt 20, 3), (33, .aload_n 0, 1), (34, .getfield 134, 3), (37, .ifCond .ne 13, 3), (40, .aload_n 0, 1), (41, .getfield 7, 3), (44, .iconst 1, 1), (45, .iaload, 1), (46, .iconst 1, 1), (47, .if_icmp .le 8, 3), (50, .aload_n 0, 1), (51, .invokevirtual 197, 3), (54, .ireturn, 1), (55, .aload_n 0, 1), (56, .getfield 13, 3), (59, .iconst 1, 1), (60, .iaload, 1), (61, .ifCond .eq 14, 3), (64, .aload_n 0, 1), (65, .getfield 13, 3), (68, .iconst 1, 1), (69, .iaload, 1), (70, .bipush 31, 2)]
theorem okX10_serve_0 : ∀ e ∈ qX10_serve_0, decode cX10_serve e.1 = .ok (e.2.1, e.2.2) := by decide +kernel
def qX10_serve_1 : List (Nat × Instr × Nat) := [(72, .if_icmp .le 24, 3), (75, .aload_n 0, 1), (76, .getfield 7, 3), (79, .iconst 1, 1), (80, .iaload, 1), (81, .ifCond .ne 10, 3), (84, .aload_n 0, 1), (85, .invokevirtual 200, 3), (88, .goto 7, 3), (91, .aload_n 0, 1), (92, .invokevirtual 197, 3), (95, .ireturn, 1), (96, .iconst 0, 1), (97, .istore_n 3, 1), (98, .iload_n 3, 1), (99, .bipush 8, 2), (101, .if_icmp .ge 111, 3), (104, .iload_n 3, 1), (105, .aload_n 0, 1), (106, .getfield 69, 3), (109, .iload_n 1, 1), (110, .iaload, 1), (111, .if_icmp .ge 101, 3), (114, .bipush 8, 2), (116, .iload_n 1, 1), (117, .imul, 1), (118, .iload_n 3, 1), (119, .iadd, 1), (120, .istore 4, 2), (122, .aload_n 0, 1), (123, .getfield 72, 3), (126, .iload 4, 2), (128, .iaload, 1), (129, .aload_n 0, 1), (130, .getfield 16, 3), (133, .iconst 1, 1), (134, .iaload, 1), (135, .if_icmp .ne 71, 3), (138, .aload_n 0, 1), (139, .dup, 1)]
theorem okX10_serve_1 : ∀ e ∈ qX10_serve_1, decode cX10_serve e.1 = .ok (e.2.1, e.2.2) := by decide +kernel
def qX10_serve_2 : List (Nat × Instr × Nat) := [(140, .getfield 203, 3), (143, .iconst 1, 1), (144, .iadd, 1), (145, .putfield 203, 3), (148, .aload_n 0, 1), (149, .aload_n 0, 1), (150, .getfield 75, 3), (153, .iload 4, 2), (155, .iaload, 1), (156, .putfield 115, 3), (159, .iconst 0, 1), (160, .istore 5, 2), (162, .iload 5, 2), (164, .aload_n 0, 1), (165, .getfield 115, 3), (168, .if_icmp .ge 30, 3), (171, .aload_n 0, 1), (172, .getfield 47, 3), (175, .iload 5, 2), (177, .aload_n 0, 1), (178, .getfield 82, 3), (181, .sipush 2000, 3), (184, .iload 4, 2), (186, .imul, 1), (187, .iload 5, 2), (189, .iadd, 1), (190, .iaload, 1), (191, .iastore, 1), (192, .iinc 5 1, 3), (195, .goto (-33), 3), (198, .aload_n 0, 1), (199, .getfield 78, 3), (202, .iload 4, 2), (204, .iaload, 1), (205, .ireturn, 1), (206, .iinc 3 1, 3), (209, .goto (-111), 3), (212, .aload_n 0, 1), (213, .dup, 1), (214, .getfield 206, 3)]
theorem okX10_serve_2 : ∀ e ∈ qX10_serve_2, decode cX10_serve e.1 = .ok (e.2.1, e.2.2) := by decide +kernel
def qX10_serve_3 : List (Nat × Instr × Nat) := [(217, .iconst 1, 1), (218, .iadd, 1), (219, .putfield 206, 3), (222, .aload_n 0, 1), (223, .getfield 16, 3), (226, .iconst 1, 1), (227, .iaload, 1), (228, .istore_n 3, 1), (229, .aload_n 0, 1), (230, .iconst 2, 1), (231, .aload_n 0, 1), (232, .getfield 7, 3), (235, .iconst 1, 1), (236, .iaload, 1), (237, .ifCond .ne 7, 3), (240, .iconst 2, 1), (241, .goto 4, 3), (244, .iconst 1, 1), (245, .iconst 0, 1), (246, .aload_n 0, 1), (247, .getfield 7, 3), (250, .iconst 1, 1), (251, .iaload, 1), (252, .ifCond .ne 7, 3), (255, .iload_n 3, 1), (256, .goto 7, 3), (259, .aload_n 0, 1), (260, .getfield 209, 3), (263, .invokevirtual 95, 3), (266, .aload_n 0, 1), (267, .aload_n 0, 1), (268, .getfield 7, 3), (271, .iconst 1, 1), (272, .iaload, 1), (273, .ifCond .ne 10, 3), (276, .aload_n 0, 1), (277, .getfield 209, 3), (280, .goto 12, 3), (283, .aload_n 0, 1), (284, .getfield 209, 3)]
theorem okX10_serve_3 : ∀ e ∈ qX10_serve_3, decode cX10_serve e.1 = .ok (e.2.1, e.2.2) := by decide +kernel
def qX10_serve_4 : List (Nat × Instr × Nat) := [(287, .iconst 1, 1), (288, .iadd, 1), (289, .ldc 90, 2), (291, .iand, 1), (292, .putfield 209, 3), (295, .aload_n 0, 1), (296, .getfield 19, 3), (299, .iconst 2, 1), (300, .aload_n 0, 1), (301, .getfield 19, 3), (304, .iconst 1, 1), (305, .iaload, 1), (306, .iastore, 1), (307, .iconst 0, 1), (308, .istore 4, 2), (310, .iload 4, 2), (312, .aload_n 0, 1), (313, .getfield 19, 3), (316, .iconst 1, 1), (317, .iaload, 1), (318, .if_icmp .ge 29, 3), (321, .aload_n 0, 1), (322, .getfield 22, 3), (325, .bipush 16, 2), (327, .iload 4, 2), (329, .iadd, 1), (330, .aload_n 0, 1), (331, .getfield 22, 3), (334, .bipush 8, 2), (336, .iload 4, 2), (338, .iadd, 1), (339, .iaload, 1), (340, .iastore, 1), (341, .iinc 4 1, 3), (344, .goto (-34), 3), (347, .aload_n 0, 1), (348, .getfield 13, 3), (351, .iconst 2, 1), (352, .aload_n 0, 1), (353, .invokevirtual 212, 3)]
theorem okX10_serve_4 : ∀ e ∈ qX10_serve_4, decode cX10_serve e.1 = .ok (e.2.1, e.2.2) := by decide +kernel
def qX10_serve_5 : List (Nat × Instr × Nat) := [(356, .iastore, 1), (357, .aload_n 0, 1), (358, .iconst 2, 1), (359, .invokevirtual 131, 3), (362, .bipush 8, 2), (364, .iload_n 1, 1), (365, .imul, 1), (366, .aload_n 0, 1), (367, .getfield 69, 3), (370, .iload_n 1, 1), (371, .iaload, 1), (372, .bipush 8, 2), (374, .irem, 1), (375, .iadd, 1), (376, .istore 4, 2), (378, .aload_n 0, 1), (379, .getfield 69, 3), (382, .iload_n 1, 1), (383, .dup2, 1), (384, .iaload, 1), (385, .iconst 1, 1), (386, .iadd, 1), (387, .iastore, 1), (388, .aload_n 0, 1), (389, .getfield 72, 3), (392, .iload 4, 2), (394, .iload_n 3, 1), (395, .iastore, 1), (396, .aload_n 0, 1), (397, .getfield 78, 3), (400, .iload 4, 2), (402, .aload_n 0, 1), (403, .getfield 13, 3), (406, .iconst 2, 1), (407, .iaload, 1), (408, .iastore, 1), (409, .aload_n 0, 1), (410, .getfield 75, 3), (413, .iload 4, 2), (415, .aload_n 0, 1)]
theorem okX10_serve_5 : ∀ e ∈ qX10_serve_5, decode cX10_serve e.1 = .ok (e.2.1, e.2.2) := by decide +kernel
def qX10_serve_6 : List (Nat × Instr × Nat) := [(416, .getfield 115, 3), (419, .iastore, 1), (420, .iconst 0, 1), (421, .istore 5, 2), (423, .iload 5, 2), (425, .aload_n 0, 1), (426, .getfield 115, 3), (429, .if_icmp .ge 30, 3), (432, .aload_n 0, 1), (433, .getfield 82, 3), (436, .sipush 2000, 3), (439, .iload 4, 2), (441, .imul, 1), (442, .iload 5, 2), (444, .iadd, 1), (445, .aload_n 0, 1), (446, .getfield 47, 3), (449, .iload 5, 2), (451, .iaload, 1), (452, .iastore, 1), (453, .iinc 5 1, 3), (456, .goto (-33), 3), (459, .aload_n 0, 1), (460, .getfield 13, 3), (463, .iconst 2, 1), (464, .iaload, 1), (465, .ireturn, 1)]
theorem okX10_serve_6 : ∀ e ∈ qX10_serve_6, decode cX10_serve e.1 = .ok (e.2.1, e.2.2) := by decide +kernel
def qX10_serve : List (Nat × Instr × Nat) := qX10_serve_0 ++ (qX10_serve_1 ++ (qX10_serve_2 ++ (qX10_serve_3 ++ (qX10_serve_4 ++ (qX10_serve_5 ++ (qX10_serve_6))))))
theorem okX10_serve : ∀ e ∈ qX10_serve, decode cX10_serve e.1 = .ok (e.2.1, e.2.2) := List.forall_mem_append.mpr ⟨okX10_serve_0, List.forall_mem_append.mpr ⟨okX10_serve_1, List.forall_mem_append.mpr ⟨okX10_serve_2, List.forall_mem_append.mpr ⟨okX10_serve_3, List.forall_mem_append.mpr ⟨okX10_serve_4, List.forall_mem_append.mpr ⟨okX10_serve_5, okX10_serve_6⟩⟩⟩⟩⟩⟩
def mX10_serve : xM := (yX10_serve, cX10_serve, 6, (some .int), 10, qX10_serve)
def qX10_hand : List (Nat × Instr × Nat) := [(0, .aload_n 0, 1), (1, .iconst 0, 1), (2, .putfield 85, 3), (5, .iload_n 1, 1), (6, .ifCond .lt 20, 3), (9, .iload_n 1, 1), (10, .aload_n 0, 1), (11, .getfield 115, 3), (14, .if_icmp .ge 12, 3), (17, .aload_n 0, 1), (18, .getfield 47, 3), (21, .iload_n 1, 1), (22, .iaload, 1), (23, .goto 4, 3), (26, .iconst (-1), 1), (27, .ireturn, 1)]
theorem okX10_hand : ∀ e ∈ qX10_hand, decode cX10_hand e.1 = .ok (e.2.1, e.2.2) := by decide +kernel
def mX10_hand : xM := (yX10_hand, cX10_hand, 2, (some .int), 10, qX10_hand)
def qX10_total : List (Nat × Instr × Nat) := [(0, .aload_n 0, 1), (1, .iload_n 1, 1), (2, .ifCond .lt 8, 3), (5, .iload_n 1, 1), (6, .iconst 5, 1), (7, .if_icmp .le 7, 3), (10, .iconst 1, 1), (11, .goto 4, 3), (14, .iconst 0, 1), (15, .invokevirtual 91, 3), (18, .ifCond .eq 5, 3), (21, .iconst 0, 1), (22, .ireturn, 1), (23, .iload_n 1, 1), (24, .ifCond .ne 10, 3), (27, .aload_n 0, 1), (28, .getfield 115, 3), (31, .goto 55, 3), (34, .iload_n 1, 1), (35, .iconst 1, 1), (36, .if_icmp .ne 10, 3), (39, .aload_n 0, 1), (40, .getfield 156, 3), (43, .goto 43, 3), (46, .iload_n 1, 1), (47, .iconst 2, 1), (48, .if_icmp .ne 10, 3), (51, .aload_n 0, 1), (52, .getfield 185, 3), (55, .goto 31, 3), (58, .iload_n 1, 1), (59, .iconst 3, 1), (60, .if_icmp .ne 10, 3), (63, .aload_n 0, 1), (64, .getfield 206, 3), (67, .goto 19, 3), (70, .iload_n 1, 1), (71, .iconst 4, 1), (72, .if_icmp .ne 10, 3), (75, .aload_n 0, 1), (76, .getfield 203, 3), (79, .goto 7, 3), (82, .aload_n 0, 1), (83, .getfield 209, 3), (86, .ireturn, 1)]
theorem okX10_total : ∀ e ∈ qX10_total, decode cX10_total e.1 = .ok (e.2.1, e.2.2) := by decide +kernel
def mX10_total : xM := (yX10_total, cX10_total, 2, (some .int), 10, qX10_total)
def qX10_resource : List (Nat × Instr × Nat) := [(0, .aload_n 0, 1), (1, .iload_n 1, 1), (2, .ifCond .lt 20, 3), (5, .iload_n 1, 1), (6, .aload_n 0, 1), (7, .getfield 156, 3), (10, .if_icmp .ge 12, 3), (13, .iload_n 2, 1), (14, .ifCond .lt 8, 3), (17, .iload_n 2, 1), (18, .iconst 2, 1), (19, .if_icmp .le 7, 3), (22, .iconst 1, 1), (23, .goto 4, 3), (26, .iconst 0, 1), (27, .invokevirtual 91, 3), (30, .ifCond .eq 5, 3), (33, .iconst 0, 1), (34, .ireturn, 1), (35, .iload_n 2, 1), (36, .ifCond .ne 12, 3), (39, .aload_n 0, 1), (40, .getfield 50, 3), (43, .iload_n 1, 1), (44, .iaload, 1), (45, .goto 23, 3), (48, .iload_n 2, 1), (49, .iconst 1, 1), (50, .if_icmp .ne 12, 3), (53, .aload_n 0, 1), (54, .getfield 60, 3), (57, .iload_n 1, 1), (58, .iaload, 1), (59, .goto 9, 3), (62, .aload_n 0, 1), (63, .getfield 66, 3), (66, .iload_n 1, 1), (67, .iaload, 1), (68, .ireturn, 1)]
theorem okX10_resource : ∀ e ∈ qX10_resource, decode cX10_resource e.1 = .ok (e.2.1, e.2.2) := by decide +kernel
def mX10_resource : xM := (yX10_resource, cX10_resource, 3, (some .int), 10, qX10_resource)
end
section
def qL_begin : List (Nat × Instr × Nat) := [(0, .aload_n 0, 1), (1, .iload_n 1, 1), (2, .iload_n 2, 1), (3, .iload_n 3, 1), (4, .lload 4, 2), (6, .iload 6, 2), (8, .invokevirtual 7, 3), (11, .goto 7, 3), (14, .astore 7, 2), (16, .iconst 1, 1), (17, .ireturn, 1), (18, .iconst 0, 1), (19, .ireturn, 1)]
theorem okL_begin : ∀ e ∈ qL_begin, decode cL_begin e.1 = .ok (e.2.1, e.2.2) := by decide +kernel
def mL_begin : xM := (yL_begin, cL_begin, 8, (some .int), 11, qL_begin)
def qL_option : List (Nat × Instr × Nat) := [(0, .aload 5, 2), (2, .iconst 0, 1), (3, .aload_n 0, 1), (4, .iload_n 1, 1), (5, .lload_n 2, 1), (6, .iload 4, 2), (8, .invokevirtual 15, 3), (11, .i2l, 1), (12, .lastore, 1), (13, .goto 11, 3), (16, .astore 6, 2), (18, .iconst 1, 1), (19, .ireturn, 1), (20, .astore 6, 2), (22, .iconst 2, 1), (23, .ireturn, 1), (24, .iconst 0, 1), (25, .ireturn, 1)]
theorem okL_option : ∀ e ∈ qL_option, decode cL_option e.1 = .ok (e.2.1, e.2.2) := by decide +kernel
def mL_option : xM := (yL_option, cL_option, 7, (some .int), 11, qL_option)
def qL_longer : List (Nat × Instr × Nat) := [(0, .aload 4, 2), (2, .iconst 0, 1), (3, .aload_n 0, 1), (4, .lload_n 1, 1), (5, .iload_n 3, 1), (6, .invokevirtual 21, 3), (9, .i2l, 1), (10, .lastore, 1), (11, .goto 11, 3), (14, .astore 5, 2), (16, .iconst 1, 1), (17, .ireturn, 1), (18, .astore 5, 2), (20, .iconst 2, 1), (21, .ireturn, 1), (22, .iconst 0, 1), (23, .ireturn, 1)]
theorem okL_longer : ∀ e ∈ qL_longer, decode cL_longer e.1 = .ok (e.2.1, e.2.2) := by decide +kernel
def mL_longer : xM := (yL_longer, cL_longer, 6, (some .int), 11, qL_longer)
def qL_payload : List (Nat × Instr × Nat) := [(0, .aload 4, 2), (2, .iconst 0, 1), (3, .aload_n 0, 1), (4, .lload_n 1, 1), (5, .iload_n 3, 1), (6, .invokevirtual 25, 3), (9, .i2l, 1), (10, .lastore, 1), (11, .goto 11, 3), (14, .astore 5, 2), (16, .iconst 1, 1), (17, .ireturn, 1), (18, .astore 5, 2), (20, .iconst 2, 1), (21, .ireturn, 1), (22, .iconst 0, 1), (23, .ireturn, 1)]
theorem okL_payload : ∀ e ∈ qL_payload, decode cL_payload e.1 = .ok (e.2.1, e.2.2) := by decide +kernel
def mL_payload : xM := (yL_payload, cL_payload, 6, (some .int), 11, qL_payload)
def qL_write : List (Nat × Instr × Nat) := [(0, .aload_n 1, 1), (1, .iconst 0, 1), (2, .aload_n 0, 1), (3, .invokevirtual 28, 3), (6, .i2l, 1), (7, .lastore, 1), (8, .goto 6, 3), (11, .astore_n 2, 1), (12, .iconst 1, 1), (13, .ireturn, 1), (14, .iconst 0, 1), (15, .ireturn, 1)]
theorem okL_write : ∀ e ∈ qL_write, decode cL_write e.1 = .ok (e.2.1, e.2.2) := by decide +kernel
def mL_write : xM := (yL_write, cL_write, 3, (some .int), 11, qL_write)
def qL_feed : List (Nat × Instr × Nat) := [(0, .aload 4, 2), (2, .iconst 0, 1), (3, .aload_n 0, 1), (4, .lload_n 1, 1), (5, .iload_n 3, 1), (6, .invokevirtual 32, 3), (9, .i2l, 1), (10, .lastore, 1), (11, .goto 11, 3), (14, .astore 5, 2), (16, .iconst 1, 1), (17, .ireturn, 1), (18, .astore 5, 2), (20, .iconst 2, 1), (21, .ireturn, 1), (22, .iconst 0, 1), (23, .ireturn, 1)]
theorem okL_feed : ∀ e ∈ qL_feed, decode cL_feed e.1 = .ok (e.2.1, e.2.2) := by decide +kernel
def mL_feed : xM := (yL_feed, cL_feed, 6, (some .int), 11, qL_feed)
def qL_end : List (Nat × Instr × Nat) := [(0, .aload_n 0, 1), (1, .iload_n 1, 1), (2, .invokevirtual 35, 3), (5, .goto 6, 3), (8, .astore_n 2, 1), (9, .iconst 1, 1), (10, .ireturn, 1), (11, .iconst 0, 1), (12, .ireturn, 1)]
theorem okL_end : ∀ e ∈ qL_end, decode cL_end e.1 = .ok (e.2.1, e.2.2) := by decide +kernel
def mL_end : xM := (yL_end, cL_end, 3, (some .int), 11, qL_end)
def qL_read : List (Nat × Instr × Nat) := [(0, .aload_n 1, 1), (1, .iconst 0, 1), (2, .aload_n 0, 1), (3, .invokevirtual 39, 3), (6, .i2l, 1), (7, .lastore, 1), (8, .goto 6, 3), (11, .astore_n 2, 1), (12, .iconst 1, 1), (13, .ireturn, 1), (14, .iconst 0, 1), (15, .ireturn, 1)]
theorem okL_read : ∀ e ∈ qL_read, decode cL_read e.1 = .ok (e.2.1, e.2.2) := by decide +kernel
def mL_read : xM := (yL_read, cL_read, 3, (some .int), 11, qL_read)
def qL_about : List (Nat × Instr × Nat) := [(0, .aload_n 2, 1), (1, .iconst 0, 1), (2, .aload_n 0, 1), (3, .iload_n 1, 1), (4, .invokevirtual 44, 3), (7, .i2l, 1), (8, .lastore, 1), (9, .goto 6, 3), (12, .astore_n 3, 1), (13, .iconst 1, 1), (14, .ireturn, 1), (15, .iconst 0, 1), (16, .ireturn, 1)]
theorem okL_about : ∀ e ∈ qL_about, decode cL_about e.1 = .ok (e.2.1, e.2.2) := by decide +kernel
def mL_about : xM := (yL_about, cL_about, 4, (some .int), 11, qL_about)
def qL_byteOf : List (Nat × Instr × Nat) := [(0, .aload_n 3, 1), (1, .iconst 0, 1), (2, .aload_n 0, 1), (3, .iload_n 1, 1), (4, .iload_n 2, 1), (5, .invokevirtual 48, 3), (8, .i2l, 1), (9, .lastore, 1), (10, .goto 7, 3), (13, .astore 4, 2), (15, .iconst 1, 1), (16, .ireturn, 1), (17, .iconst 0, 1), (18, .ireturn, 1)]
theorem okL_byteOf : ∀ e ∈ qL_byteOf, decode cL_byteOf e.1 = .ok (e.2.1, e.2.2) := by decide +kernel
def mL_byteOf : xM := (yL_byteOf, cL_byteOf, 5, (some .int), 11, qL_byteOf)
def qL_optionAt : List (Nat × Instr × Nat) := [(0, .aload_n 3, 1), (1, .iconst 0, 1), (2, .aload_n 0, 1), (3, .iload_n 1, 1), (4, .iload_n 2, 1), (5, .invokevirtual 52, 3), (8, .i2l, 1), (9, .lastore, 1), (10, .goto 7, 3), (13, .astore 4, 2), (15, .iconst 1, 1), (16, .ireturn, 1), (17, .iconst 0, 1), (18, .ireturn, 1)]
theorem okL_optionAt : ∀ e ∈ qL_optionAt, decode cL_optionAt e.1 = .ok (e.2.1, e.2.2) := by decide +kernel
def mL_optionAt : xM := (yL_optionAt, cL_optionAt, 5, (some .int), 11, qL_optionAt)
def qL_serve : List (Nat × Instr × Nat) := [(0, .aload_n 2, 1), (1, .iconst 0, 1), (2, .aload_n 0, 1), (3, .iload_n 1, 1), (4, .invokevirtual 55, 3), (7, .i2l, 1), (8, .lastore, 1), (9, .goto 6, 3), (12, .astore_n 3, 1), (13, .iconst 1, 1), (14, .ireturn, 1), (15, .iconst 0, 1), (16, .ireturn, 1)]
theorem okL_serve : ∀ e ∈ qL_serve, decode cL_serve e.1 = .ok (e.2.1, e.2.2) := by decide +kernel
def mL_serve : xM := (yL_serve, cL_serve, 4, (some .int), 11, qL_serve)
def qL_total : List (Nat × Instr × Nat) := [(0, .aload_n 2, 1), (1, .iconst 0, 1), (2, .aload_n 0, 1), (3, .iload_n 1, 1), (4, .invokevirtual 58, 3), (7, .i2l, 1), (8, .lastore, 1), (9, .goto 6, 3), (12, .astore_n 3, 1), (13, .iconst 1, 1), (14, .ireturn, 1), (15, .iconst 0, 1), (16, .ireturn, 1)]
theorem okL_total : ∀ e ∈ qL_total, decode cL_total e.1 = .ok (e.2.1, e.2.2) := by decide +kernel
def mL_total : xM := (yL_total, cL_total, 4, (some .int), 11, qL_total)
def qL_resource : List (Nat × Instr × Nat) := [(0, .aload_n 3, 1), (1, .iconst 0, 1), (2, .aload_n 0, 1), (3, .iload_n 1, 1), (4, .iload_n 2, 1), (5, .invokevirtual 61, 3), (8, .i2l, 1), (9, .lastore, 1), (10, .goto 7, 3), (13, .astore 4, 2), (15, .iconst 1, 1), (16, .ireturn, 1), (17, .iconst 0, 1), (18, .ireturn, 1)]
theorem okL_resource : ∀ e ∈ qL_resource, decode cL_resource e.1 = .ok (e.2.1, e.2.2) := by decide +kernel
def mL_resource : xM := (yL_resource, cL_resource, 5, (some .int), 11, qL_resource)
def qL_law_0 : List (Nat × Instr × Nat) := [(0, .new 8, 3), (3, .dup, 1), (4, .invokespecial 64, 3), (7, .astore_n 1, 1), (8, .new 65, 3), (11, .dup, 1), (12, .invokespecial 67, 3), (15, .astore_n 2, 1), (16, .iconst 1, 1), (17, .newarray .long, 2), (19, .astore_n 3, 1), (20, .iconst 0, 1), (21, .istore 4, 2), (23, .iload 4, 2), (25, .aload_n 0, 1), (26, .arraylength, 1), (27, .bipush 7, 2), (29, .isub, 1), (30, .if_icmp .gt 1143, 3), (33, .aload_n 0, 1), (34, .iload 4, 2), (36, .iaload, 1), (37, .bipush 15, 2), (39, .iand, 1), (40, .tableswitch 1127 0 14 #[76, 194, 306, 406, 506, 550, 650, 686, 730, 786, 854, 922, 978, 1003, 1059], 76), (116, .aload_n 1, 1), (117, .aload_n 0, 1), (118, .iload 4, 2), (120, .iconst 1, 1), (121, .iadd, 1), (122, .iaload, 1), (123, .aload_n 0, 1), (124, .iload 4, 2), (126, .iconst 2, 1), (127, .iadd, 1), (128, .iaload, 1), (129, .aload_n 0, 1), (130, .iload 4, 2), (132, .iconst 3, 1), (133, .iadd, 1)]
theorem okL_law_0 : ∀ e ∈ qL_law_0, decode cL_law e.1 = .ok (e.2.1, e.2.2) := by decide +kernel
def qL_law_1 : List (Nat × Instr × Nat) := [(134, .iaload, 1), (135, .aload_n 0, 1), (136, .iload 4, 2), (138, .iconst 4, 1), (139, .iadd, 1), (140, .iaload, 1), (141, .i2l, 1), (142, .bipush 32, 2), (144, .lshl, 1), (145, .aload_n 0, 1), (146, .iload 4, 2), (148, .iconst 5, 1), (149, .iadd, 1), (150, .iaload, 1), (151, .i2l, 1), (152, .ldc2_w 68, 3), (155, .land, 1), (156, .lor, 1), (157, .aload_n 0, 1), (158, .iload 4, 2), (160, .bipush 6, 2), (162, .iadd, 1), (163, .iaload, 1), (164, .invokestatic 70, 3), (167, .istore 5, 2), (169, .aload_n 2, 1), (170, .aload_n 0, 1), (171, .iload 4, 2), (173, .iconst 1, 1), (174, .iadd, 1), (175, .iaload, 1), (176, .aload_n 0, 1), (177, .iload 4, 2), (179, .iconst 2, 1), (180, .iadd, 1), (181, .iaload, 1), (182, .aload_n 0, 1), (183, .iload 4, 2), (185, .iconst 3, 1), (186, .iadd, 1)]
theorem okL_law_1 : ∀ e ∈ qL_law_1, decode cL_law e.1 = .ok (e.2.1, e.2.2) := by decide +kernel
def qL_law_2 : List (Nat × Instr × Nat) := [(187, .iaload, 1), (188, .aload_n 0, 1), (189, .iload 4, 2), (191, .iconst 4, 1), (192, .iadd, 1), (193, .iaload, 1), (194, .i2l, 1), (195, .bipush 32, 2), (197, .lshl, 1), (198, .aload_n 0, 1), (199, .iload 4, 2), (201, .iconst 5, 1), (202, .iadd, 1), (203, .iaload, 1), (204, .i2l, 1), (205, .ldc2_w 68, 3), (208, .land, 1), (209, .lor, 1), (210, .aload_n 0, 1), (211, .iload 4, 2), (213, .bipush 6, 2), (215, .iadd, 1), (216, .iaload, 1), (217, .invokevirtual 75, 3), (220, .aload_n 2, 1), (221, .invokevirtual 76, 3), (224, .iload 5, 2), (226, .if_icmp .eq 5, 3), (229, .iconst 0, 1), (230, .ireturn, 1), (231, .goto 936, 3), (234, .aload_n 1, 1), (235, .aload_n 0, 1), (236, .iload 4, 2), (238, .iconst 1, 1), (239, .iadd, 1), (240, .iaload, 1), (241, .aload_n 0, 1), (242, .iload 4, 2), (244, .iconst 2, 1)]
theorem okL_law_2 : ∀ e ∈ qL_law_2, decode cL_law e.1 = .ok (e.2.1, e.2.2) := by decide +kernel
def qL_law_3 : List (Nat × Instr × Nat) := [(245, .iadd, 1), (246, .iaload, 1), (247, .i2l, 1), (248, .bipush 32, 2), (250, .lshl, 1), (251, .aload_n 0, 1), (252, .iload 4, 2), (254, .iconst 3, 1), (255, .iadd, 1), (256, .iaload, 1), (257, .i2l, 1), (258, .ldc2_w 68, 3), (261, .land, 1), (262, .lor, 1), (263, .aload_n 0, 1), (264, .iload 4, 2), (266, .iconst 4, 1), (267, .iadd, 1), (268, .iaload, 1), (269, .aload_n 3, 1), (270, .invokestatic 79, 3), (273, .istore 5, 2), (275, .aload_n 2, 1), (276, .aload_n 0, 1), (277, .iload 4, 2), (279, .iconst 1, 1), (280, .iadd, 1), (281, .iaload, 1), (282, .aload_n 0, 1), (283, .iload 4, 2), (285, .iconst 2, 1), (286, .iadd, 1), (287, .iaload, 1), (288, .i2l, 1), (289, .bipush 32, 2), (291, .lshl, 1), (292, .aload_n 0, 1), (293, .iload 4, 2), (295, .iconst 3, 1), (296, .iadd, 1)]
theorem okL_law_3 : ∀ e ∈ qL_law_3, decode cL_law e.1 = .ok (e.2.1, e.2.2) := by decide +kernel
def qL_law_4 : List (Nat × Instr × Nat) := [(297, .iaload, 1), (298, .i2l, 1), (299, .ldc2_w 68, 3), (302, .land, 1), (303, .lor, 1), (304, .aload_n 0, 1), (305, .iload 4, 2), (307, .iconst 4, 1), (308, .iadd, 1), (309, .iaload, 1), (310, .invokevirtual 82, 3), (313, .istore 6, 2), (315, .aload_n 2, 1), (316, .invokevirtual 76, 3), (319, .iload 5, 2), (321, .if_icmp .eq 5, 3), (324, .iconst 0, 1), (325, .ireturn, 1), (326, .iload 5, 2), (328, .ifCond .ne 15, 3), (331, .aload_n 3, 1), (332, .iconst 0, 1), (333, .laload, 1), (334, .iload 6, 2), (336, .i2l, 1), (337, .lcmp, 1), (338, .ifCond .eq 5, 3), (341, .iconst 0, 1), (342, .ireturn, 1), (343, .goto 824, 3), (346, .aload_n 1, 1), (347, .aload_n 0, 1), (348, .iload 4, 2), (350, .iconst 1, 1), (351, .iadd, 1), (352, .iaload, 1), (353, .i2l, 1), (354, .bipush 32, 2), (356, .lshl, 1), (357, .aload_n 0, 1)]
theorem okL_law_4 : ∀ e ∈ qL_law_4, decode cL_law e.1 = .ok (e.2.1, e.2.2) := by decide +kernel
def qL_law_5 : List (Nat × Instr × Nat) := [(358, .iload 4, 2), (360, .iconst 2, 1), (361, .iadd, 1), (362, .iaload, 1), (363, .i2l, 1), (364, .ldc2_w 68, 3), (367, .land, 1), (368, .lor, 1), (369, .aload_n 0, 1), (370, .iload 4, 2), (372, .iconst 3, 1), (373, .iadd, 1), (374, .iaload, 1), (375, .aload_n 3, 1), (376, .invokestatic 83, 3), (379, .istore 5, 2), (381, .aload_n 2, 1), (382, .aload_n 0, 1), (383, .iload 4, 2), (385, .iconst 1, 1), (386, .iadd, 1), (387, .iaload, 1), (388, .i2l, 1), (389, .bipush 32, 2), (391, .lshl, 1), (392, .aload_n 0, 1), (393, .iload 4, 2), (395, .iconst 2, 1), (396, .iadd, 1), (397, .iaload, 1), (398, .i2l, 1), (399, .ldc2_w 68, 3), (402, .land, 1), (403, .lor, 1), (404, .aload_n 0, 1), (405, .iload 4, 2), (407, .iconst 3, 1), (408, .iadd, 1), (409, .iaload, 1), (410, .invokevirtual 86, 3)]
theorem okL_law_5 : ∀ e ∈ qL_law_5, decode cL_law e.1 = .ok (e.2.1, e.2.2) := by decide +kernel
def qL_law_6 : List (Nat × Instr × Nat) := [(413, .istore 6, 2), (415, .aload_n 2, 1), (416, .invokevirtual 76, 3), (419, .iload 5, 2), (421, .if_icmp .eq 5, 3), (424, .iconst 0, 1), (425, .ireturn, 1), (426, .iload 5, 2), (428, .ifCond .ne 15, 3), (431, .aload_n 3, 1), (432, .iconst 0, 1), (433, .laload, 1), (434, .iload 6, 2), (436, .i2l, 1), (437, .lcmp, 1), (438, .ifCond .eq 5, 3), (441, .iconst 0, 1), (442, .ireturn, 1), (443, .goto 724, 3), (446, .aload_n 1, 1), (447, .aload_n 0, 1), (448, .iload 4, 2), (450, .iconst 1, 1), (451, .iadd, 1), (452, .iaload, 1), (453, .i2l, 1), (454, .bipush 32, 2), (456, .lshl, 1), (457, .aload_n 0, 1), (458, .iload 4, 2), (460, .iconst 2, 1), (461, .iadd, 1), (462, .iaload, 1), (463, .i2l, 1), (464, .ldc2_w 68, 3), (467, .land, 1), (468, .lor, 1), (469, .aload_n 0, 1), (470, .iload 4, 2), (472, .iconst 3, 1)]
theorem okL_law_6 : ∀ e ∈ qL_law_6, decode cL_law e.1 = .ok (e.2.1, e.2.2) := by decide +kernel
def qL_law_7 : List (Nat × Instr × Nat) := [(473, .iadd, 1), (474, .iaload, 1), (475, .aload_n 3, 1), (476, .invokestatic 87, 3), (479, .istore 5, 2), (481, .aload_n 2, 1), (482, .aload_n 0, 1), (483, .iload 4, 2), (485, .iconst 1, 1), (486, .iadd, 1), (487, .iaload, 1), (488, .i2l, 1), (489, .bipush 32, 2), (491, .lshl, 1), (492, .aload_n 0, 1), (493, .iload 4, 2), (495, .iconst 2, 1), (496, .iadd, 1), (497, .iaload, 1), (498, .i2l, 1), (499, .ldc2_w 68, 3), (502, .land, 1), (503, .lor, 1), (504, .aload_n 0, 1), (505, .iload 4, 2), (507, .iconst 3, 1), (508, .iadd, 1), (509, .iaload, 1), (510, .invokevirtual 89, 3), (513, .istore 6, 2), (515, .aload_n 2, 1), (516, .invokevirtual 76, 3), (519, .iload 5, 2), (521, .if_icmp .eq 5, 3), (524, .iconst 0, 1), (525, .ireturn, 1), (526, .iload 5, 2), (528, .ifCond .ne 15, 3), (531, .aload_n 3, 1), (532, .iconst 0, 1)]
theorem okL_law_7 : ∀ e ∈ qL_law_7, decode cL_law e.1 = .ok (e.2.1, e.2.2) := by decide +kernel
def qL_law_8 : List (Nat × Instr × Nat) := [(533, .laload, 1), (534, .iload 6, 2), (536, .i2l, 1), (537, .lcmp, 1), (538, .ifCond .eq 5, 3), (541, .iconst 0, 1), (542, .ireturn, 1), (543, .goto 624, 3), (546, .aload_n 1, 1), (547, .aload_n 3, 1), (548, .invokestatic 90, 3), (551, .istore 5, 2), (553, .aload_n 2, 1), (554, .invokevirtual 93, 3), (557, .istore 6, 2), (559, .aload_n 2, 1), (560, .invokevirtual 76, 3), (563, .iload 5, 2), (565, .if_icmp .eq 5, 3), (568, .iconst 0, 1), (569, .ireturn, 1), (570, .iload 5, 2), (572, .ifCond .ne 15, 3), (575, .aload_n 3, 1), (576, .iconst 0, 1), (577, .laload, 1), (578, .iload 6, 2), (580, .i2l, 1), (581, .lcmp, 1), (582, .ifCond .eq 5, 3), (585, .iconst 0, 1), (586, .ireturn, 1), (587, .goto 580, 3), (590, .aload_n 1, 1), (591, .aload_n 0, 1), (592, .iload 4, 2), (594, .iconst 1, 1), (595, .iadd, 1), (596, .iaload, 1), (597, .i2l, 1)]
theorem okL_law_8 : ∀ e ∈ qL_law_8, decode cL_law e.1 = .ok (e.2.1, e.2.2) := by decide +kernel
def qL_law_9 : List (Nat × Instr × Nat) := [(598, .bipush 32, 2), (600, .lshl, 1), (601, .aload_n 0, 1), (602, .iload 4, 2), (604, .iconst 2, 1), (605, .iadd, 1), (606, .iaload, 1), (607, .i2l, 1), (608, .ldc2_w 68, 3), (611, .land, 1), (612, .lor, 1), (613, .aload_n 0, 1), (614, .iload 4, 2), (616, .iconst 3, 1), (617, .iadd, 1), (618, .iaload, 1), (619, .aload_n 3, 1), (620, .invokestatic 94, 3), (623, .istore 5, 2), (625, .aload_n 2, 1), (626, .aload_n 0, 1), (627, .iload 4, 2), (629, .iconst 1, 1), (630, .iadd, 1), (631, .iaload, 1), (632, .i2l, 1), (633, .bipush 32, 2), (635, .lshl, 1), (636, .aload_n 0, 1), (637, .iload 4, 2), (639, .iconst 2, 1), (640, .iadd, 1), (641, .iaload, 1), (642, .i2l, 1), (643, .ldc2_w 68, 3), (646, .land, 1), (647, .lor, 1), (648, .aload_n 0, 1), (649, .iload 4, 2), (651, .iconst 3, 1)]
theorem okL_law_9 : ∀ e ∈ qL_law_9, decode cL_law e.1 = .ok (e.2.1, e.2.2) := by decide +kernel
def qL_law_10 : List (Nat × Instr × Nat) := [(652, .iadd, 1), (653, .iaload, 1), (654, .invokevirtual 96, 3), (657, .istore 6, 2), (659, .aload_n 2, 1), (660, .invokevirtual 76, 3), (663, .iload 5, 2), (665, .if_icmp .eq 5, 3), (668, .iconst 0, 1), (669, .ireturn, 1), (670, .iload 5, 2), (672, .ifCond .ne 15, 3), (675, .aload_n 3, 1), (676, .iconst 0, 1), (677, .laload, 1), (678, .iload 6, 2), (680, .i2l, 1), (681, .lcmp, 1), (682, .ifCond .eq 5, 3), (685, .iconst 0, 1), (686, .ireturn, 1), (687, .goto 480, 3), (690, .aload_n 1, 1), (691, .aload_n 0, 1), (692, .iload 4, 2), (694, .iconst 1, 1), (695, .iadd, 1), (696, .iaload, 1), (697, .invokestatic 97, 3), (700, .istore 5, 2), (702, .aload_n 2, 1), (703, .aload_n 0, 1), (704, .iload 4, 2), (706, .iconst 1, 1), (707, .iadd, 1), (708, .iaload, 1), (709, .invokevirtual 100, 3), (712, .aload_n 2, 1), (713, .invokevirtual 76, 3), (716, .iload 5, 2)]
theorem okL_law_10 : ∀ e ∈ qL_law_10, decode cL_law e.1 = .ok (e.2.1, e.2.2) := by decide +kernel
def qL_law_11 : List (Nat × Instr × Nat) := [(718, .if_icmp .eq 5, 3), (721, .iconst 0, 1), (722, .ireturn, 1), (723, .goto 444, 3), (726, .aload_n 1, 1), (727, .aload_n 3, 1), (728, .invokestatic 101, 3), (731, .istore 5, 2), (733, .aload_n 2, 1), (734, .invokevirtual 103, 3), (737, .istore 6, 2), (739, .aload_n 2, 1), (740, .invokevirtual 76, 3), (743, .iload 5, 2), (745, .if_icmp .eq 5, 3), (748, .iconst 0, 1), (749, .ireturn, 1), (750, .iload 5, 2), (752, .ifCond .ne 15, 3), (755, .aload_n 3, 1), (756, .iconst 0, 1), (757, .laload, 1), (758, .iload 6, 2), (760, .i2l, 1), (761, .lcmp, 1), (762, .ifCond .eq 5, 3), (765, .iconst 0, 1), (766, .ireturn, 1), (767, .goto 400, 3), (770, .aload_n 1, 1), (771, .aload_n 0, 1), (772, .iload 4, 2), (774, .iconst 1, 1), (775, .iadd, 1), (776, .iaload, 1), (777, .aload_n 3, 1), (778, .invokestatic 104, 3), (781, .istore 5, 2), (783, .aload_n 2, 1), (784, .aload_n 0, 1)]
theorem okL_law_11 : ∀ e ∈ qL_law_11, decode cL_law e.1 = .ok (e.2.1, e.2.2) := by decide +kernel
def qL_law_12 : List (Nat × Instr × Nat) := [(785, .iload 4, 2), (787, .iconst 1, 1), (788, .iadd, 1), (789, .iaload, 1), (790, .invokevirtual 107, 3), (793, .istore 6, 2), (795, .aload_n 2, 1), (796, .invokevirtual 76, 3), (799, .iload 5, 2), (801, .if_icmp .eq 5, 3), (804, .iconst 0, 1), (805, .ireturn, 1), (806, .iload 5, 2), (808, .ifCond .ne 15, 3), (811, .aload_n 3, 1), (812, .iconst 0, 1), (813, .laload, 1), (814, .iload 6, 2), (816, .i2l, 1), (817, .lcmp, 1), (818, .ifCond .eq 5, 3), (821, .iconst 0, 1), (822, .ireturn, 1), (823, .goto 344, 3), (826, .aload_n 1, 1), (827, .aload_n 0, 1), (828, .iload 4, 2), (830, .iconst 1, 1), (831, .iadd, 1), (832, .iaload, 1), (833, .aload_n 0, 1), (834, .iload 4, 2), (836, .iconst 2, 1), (837, .iadd, 1), (838, .iaload, 1), (839, .aload_n 3, 1), (840, .invokestatic 108, 3), (843, .istore 5, 2), (845, .aload_n 2, 1), (846, .aload_n 0, 1)]
theorem okL_law_12 : ∀ e ∈ qL_law_12, decode cL_law e.1 = .ok (e.2.1, e.2.2) := by decide +kernel
def qL_law_13 : List (Nat × Instr × Nat) := [(847, .iload 4, 2), (849, .iconst 1, 1), (850, .iadd, 1), (851, .iaload, 1), (852, .aload_n 0, 1), (853, .iload 4, 2), (855, .iconst 2, 1), (856, .iadd, 1), (857, .iaload, 1), (858, .invokevirtual 111, 3), (861, .istore 6, 2), (863, .aload_n 2, 1), (864, .invokevirtual 76, 3), (867, .iload 5, 2), (869, .if_icmp .eq 5, 3), (872, .iconst 0, 1), (873, .ireturn, 1), (874, .iload 5, 2), (876, .ifCond .ne 15, 3), (879, .aload_n 3, 1), (880, .iconst 0, 1), (881, .laload, 1), (882, .iload 6, 2), (884, .i2l, 1), (885, .lcmp, 1), (886, .ifCond .eq 5, 3), (889, .iconst 0, 1), (890, .ireturn, 1), (891, .goto 276, 3), (894, .aload_n 1, 1), (895, .aload_n 0, 1), (896, .iload 4, 2), (898, .iconst 1, 1), (899, .iadd, 1), (900, .iaload, 1), (901, .aload_n 0, 1), (902, .iload 4, 2), (904, .iconst 2, 1), (905, .iadd, 1), (906, .iaload, 1)]
theorem okL_law_13 : ∀ e ∈ qL_law_13, decode cL_law e.1 = .ok (e.2.1, e.2.2) := by decide +kernel
def qL_law_14 : List (Nat × Instr × Nat) := [(907, .aload_n 3, 1), (908, .invokestatic 112, 3), (911, .istore 5, 2), (913, .aload_n 2, 1), (914, .aload_n 0, 1), (915, .iload 4, 2), (917, .iconst 1, 1), (918, .iadd, 1), (919, .iaload, 1), (920, .aload_n 0, 1), (921, .iload 4, 2), (923, .iconst 2, 1), (924, .iadd, 1), (925, .iaload, 1), (926, .invokevirtual 114, 3), (929, .istore 6, 2), (931, .aload_n 2, 1), (932, .invokevirtual 76, 3), (935, .iload 5, 2), (937, .if_icmp .eq 5, 3), (940, .iconst 0, 1), (941, .ireturn, 1), (942, .iload 5, 2), (944, .ifCond .ne 15, 3), (947, .aload_n 3, 1), (948, .iconst 0, 1), (949, .laload, 1), (950, .iload 6, 2), (952, .i2l, 1), (953, .lcmp, 1), (954, .ifCond .eq 5, 3), (957, .iconst 0, 1), (958, .ireturn, 1), (959, .goto 208, 3), (962, .aload_n 1, 1), (963, .aload_n 0, 1), (964, .iload 4, 2), (966, .iconst 1, 1), (967, .iadd, 1), (968, .iaload, 1)]
theorem okL_law_14 : ∀ e ∈ qL_law_14, decode cL_law e.1 = .ok (e.2.1, e.2.2) := by decide +kernel
def qL_law_15 : List (Nat × Instr × Nat) := [(969, .aload_n 3, 1), (970, .invokestatic 115, 3), (973, .istore 5, 2), (975, .aload_n 2, 1), (976, .aload_n 0, 1), (977, .iload 4, 2), (979, .iconst 1, 1), (980, .iadd, 1), (981, .iaload, 1), (982, .invokevirtual 117, 3), (985, .istore 6, 2), (987, .aload_n 2, 1), (988, .invokevirtual 76, 3), (991, .iload 5, 2), (993, .if_icmp .eq 5, 3), (996, .iconst 0, 1), (997, .ireturn, 1), (998, .iload 5, 2), (1000, .ifCond .ne 15, 3), (1003, .aload_n 3, 1), (1004, .iconst 0, 1), (1005, .laload, 1), (1006, .iload 6, 2), (1008, .i2l, 1), (1009, .lcmp, 1), (1010, .ifCond .eq 5, 3), (1013, .iconst 0, 1), (1014, .ireturn, 1), (1015, .goto 152, 3), (1018, .aload_n 1, 1), (1019, .aload_n 0, 1), (1020, .iload 4, 2), (1022, .iconst 1, 1), (1023, .iadd, 1), (1024, .iaload, 1), (1025, .invokevirtual 118, 3), (1028, .aload_n 2, 1), (1029, .aload_n 0, 1), (1030, .iload 4, 2), (1032, .iconst 1, 1)]
theorem okL_law_15 : ∀ e ∈ qL_law_15, decode cL_law e.1 = .ok (e.2.1, e.2.2) := by decide +kernel
def qL_law_16 : List (Nat × Instr × Nat) := [(1033, .iadd, 1), (1034, .iaload, 1), (1035, .invokevirtual 121, 3), (1038, .if_icmp .eq 129, 3), (1041, .iconst 0, 1), (1042, .ireturn, 1), (1043, .aload_n 1, 1), (1044, .aload_n 0, 1), (1045, .iload 4, 2), (1047, .iconst 1, 1), (1048, .iadd, 1), (1049, .iaload, 1), (1050, .aload_n 3, 1), (1051, .invokestatic 122, 3), (1054, .istore 5, 2), (1056, .aload_n 2, 1), (1057, .aload_n 0, 1), (1058, .iload 4, 2), (1060, .iconst 1, 1), (1061, .iadd, 1), (1062, .iaload, 1), (1063, .invokevirtual 124, 3), (1066, .istore 6, 2), (1068, .aload_n 2, 1), (1069, .invokevirtual 76, 3), (1072, .iload 5, 2), (1074, .if_icmp .eq 5, 3), (1077, .iconst 0, 1), (1078, .ireturn, 1), (1079, .iload 5, 2), (1081, .ifCond .ne 15, 3), (1084, .aload_n 3, 1), (1085, .iconst 0, 1), (1086, .laload, 1), (1087, .iload 6, 2), (1089, .i2l, 1), (1090, .lcmp, 1), (1091, .ifCond .eq 5, 3), (1094, .iconst 0, 1), (1095, .ireturn, 1)]
theorem okL_law_16 : ∀ e ∈ qL_law_16, decode cL_law e.1 = .ok (e.2.1, e.2.2) := by decide +kernel
def qL_law_17 : List (Nat × Instr × Nat) := [(1096, .goto 71, 3), (1099, .aload_n 1, 1), (1100, .aload_n 0, 1), (1101, .iload 4, 2), (1103, .iconst 1, 1), (1104, .iadd, 1), (1105, .iaload, 1), (1106, .aload_n 0, 1), (1107, .iload 4, 2), (1109, .iconst 2, 1), (1110, .iadd, 1), (1111, .iaload, 1), (1112, .aload_n 3, 1), (1113, .invokestatic 125, 3), (1116, .istore 5, 2), (1118, .aload_n 2, 1), (1119, .aload_n 0, 1), (1120, .iload 4, 2), (1122, .iconst 1, 1), (1123, .iadd, 1), (1124, .iaload, 1), (1125, .aload_n 0, 1), (1126, .iload 4, 2), (1128, .iconst 2, 1), (1129, .iadd, 1), (1130, .iaload, 1), (1131, .invokevirtual 127, 3), (1134, .istore 6, 2), (1136, .aload_n 2, 1), (1137, .invokevirtual 76, 3), (1140, .iload 5, 2), (1142, .if_icmp .eq 5, 3), (1145, .iconst 0, 1), (1146, .ireturn, 1), (1147, .iload 5, 2), (1149, .ifCond .ne 15, 3), (1152, .aload_n 3, 1), (1153, .iconst 0, 1), (1154, .laload, 1), (1155, .iload 6, 2)]
theorem okL_law_17 : ∀ e ∈ qL_law_17, decode cL_law e.1 = .ok (e.2.1, e.2.2) := by decide +kernel
def qL_law_18 : List (Nat × Instr × Nat) := [(1157, .i2l, 1), (1158, .lcmp, 1), (1159, .ifCond .eq 5, 3), (1162, .iconst 0, 1), (1163, .ireturn, 1), (1164, .goto 3, 3), (1167, .iinc 4 7, 3), (1170, .goto (-1147), 3), (1173, .iconst 1, 1), (1174, .ireturn, 1)]
theorem okL_law_18 : ∀ e ∈ qL_law_18, decode cL_law e.1 = .ok (e.2.1, e.2.2) := by decide +kernel
def qL_law : List (Nat × Instr × Nat) := qL_law_0 ++ (qL_law_1 ++ (qL_law_2 ++ (qL_law_3 ++ (qL_law_4 ++ (qL_law_5 ++ (qL_law_6 ++ (qL_law_7 ++ (qL_law_8 ++ (qL_law_9 ++ (qL_law_10 ++ (qL_law_11 ++ (qL_law_12 ++ (qL_law_13 ++ (qL_law_14 ++ (qL_law_15 ++ (qL_law_16 ++ (qL_law_17 ++ (qL_law_18))))))))))))))))))
theorem okL_law : ∀ e ∈ qL_law, decode cL_law e.1 = .ok (e.2.1, e.2.2) := List.forall_mem_append.mpr ⟨okL_law_0, List.forall_mem_append.mpr ⟨okL_law_1, List.forall_mem_append.mpr ⟨okL_law_2, List.forall_mem_append.mpr ⟨okL_law_3, List.forall_mem_append.mpr ⟨okL_law_4, List.forall_mem_append.mpr ⟨okL_law_5, List.forall_mem_append.mpr ⟨okL_law_6, List.forall_mem_append.mpr ⟨okL_law_7, List.forall_mem_append.mpr ⟨okL_law_8, List.forall_mem_append.mpr ⟨okL_law_9, List.forall_mem_append.mpr ⟨okL_law_10, List.forall_mem_append.mpr ⟨okL_law_11, List.forall_mem_append.mpr ⟨okL_law_12, List.forall_mem_append.mpr ⟨okL_law_13, List.forall_mem_append.mpr ⟨okL_law_14, List.forall_mem_append.mpr ⟨okL_law_15, List.forall_mem_append.mpr ⟨okL_law_16, List.forall_mem_append.mpr ⟨okL_law_17, okL_law_18⟩⟩⟩⟩⟩⟩⟩⟩⟩⟩⟩⟩⟩⟩⟩⟩⟩⟩
def mL_law : xM := (yL_law, cL_law, 7, (some .boolean), 11, qL_law)
end
section
/-! the words of methods and calls; by wip/gen.py -/
def xMb (M : xM) (n : Nat) : Prop := Cond.code M.1 M.2.1 M.2.2.1 M.2.2.2.1 ∈ lw_tbl ∧ Cond.initialized M.1.cls ∈ lw_tbl ∧ (M.1.cls ≠ "java/lang/invoke/MethodHandle" ∧ M.1.cls ≠ "java/lang/invoke/VarHandle") ∧ (parseMethodDescriptor M.1.desc).map (fun d => d.parameters.length) = some n ∧ M.2.2.1 ≤ 13 ∧ xRn M.2.2.2.2.1 = M.1.cls ∧ M.2.2.2.2.1 < 12
def xMv (M : xM) (n : Nat) : Prop := xMb M n ∧ Cond.instanceMethod M.1 ∈ lw_tbl ∧ Cond.selects M.1.cls M.1 M.1 ∈ lw_tbl ∧ M.2.2.2.2.1 < 11
def xMs (M : xM) (n : Nat) : Prop := xMb M n ∧ Cond.static M.1 ∈ lw_tbl
def xMi (M : xM) (n : Nat) : Prop := xMb M n ∧ Cond.instanceMethod M.1 ∈ lw_tbl ∧ M.1.name = "<init>" ∧ M.2.2.2.1 = none
theorem mwX0_init : xMi mX0_init 1 := ⟨⟨List.mem_append_right _ (List.mem_of_getElem? (i := 32) (by decide +kernel)), List.mem_append_right _ (List.mem_of_getElem? (i := 2) (by decide +kernel)), by decide +kernel, by decide +kernel, by decide +kernel, by decide +kernel, by decide +kernel⟩, List.mem_append_right _ (List.mem_of_getElem? (i := 31) (by decide +kernel)), rfl, rfl⟩
theorem mwX0_at : xMv mX0_at 1 := ⟨⟨List.mem_append_right _ (List.mem_of_getElem? (i := 274) (by decide +kernel)), List.mem_append_right _ (List.mem_of_getElem? (i := 2) (by decide +kernel)), by decide +kernel, by decide +kernel, by decide +kernel, by decide +kernel, by decide +kernel⟩, List.mem_append_right _ (List.mem_of_getElem? (i := 272) (by decide +kernel)), List.mem_append_right _ (List.mem_of_getElem? (i := 273) (by decide +kernel)), by decide +kernel⟩
theorem mwX0_hasRoom : xMv mX0_hasRoom 1 := ⟨⟨List.mem_append_right _ (List.mem_of_getElem? (i := 406) (by decide +kernel)), List.mem_append_right _ (List.mem_of_getElem? (i := 2) (by decide +kernel)), by decide +kernel, by decide +kernel, by decide +kernel, by decide +kernel, by decide +kernel⟩, List.mem_append_right _ (List.mem_of_getElem? (i := 404) (by decide +kernel)), List.mem_append_right _ (List.mem_of_getElem? (i := 405) (by decide +kernel)), by decide +kernel⟩
theorem mwX0_clear : xMv mX0_clear 0 := ⟨⟨List.mem_append_right _ (List.mem_of_getElem? (i := 361) (by decide +kernel)), List.mem_append_right _ (List.mem_of_getElem? (i := 2) (by decide +kernel)), by decide +kernel, by decide +kernel, by decide +kernel, by decide +kernel, by decide +kernel⟩, List.mem_append_right _ (List.mem_of_getElem? (i := 359) (by decide +kernel)), List.mem_append_right _ (List.mem_of_getElem? (i := 360) (by decide +kernel)), by decide +kernel⟩
theorem mwX0_keepFirst : xMv mX0_keepFirst 1 := ⟨⟨List.mem_append_right _ (List.mem_of_getElem? (i := 486) (by decide +kernel)), List.mem_append_right _ (List.mem_of_getElem? (i := 2) (by decide +kernel)), by decide +kernel, by decide +kernel, by decide +kernel, by decide +kernel, by decide +kernel⟩, List.mem_append_right _ (List.mem_of_getElem? (i := 484) (by decide +kernel)), List.mem_append_right _ (List.mem_of_getElem? (i := 485) (by decide +kernel)), by decide +kernel⟩
theorem mwX0_add : xMv mX0_add 1 := ⟨⟨List.mem_append_right _ (List.mem_of_getElem? (i := 442) (by decide +kernel)), List.mem_append_right _ (List.mem_of_getElem? (i := 2) (by decide +kernel)), by decide +kernel, by decide +kernel, by decide +kernel, by decide +kernel, by decide +kernel⟩, List.mem_append_right _ (List.mem_of_getElem? (i := 440) (by decide +kernel)), List.mem_append_right _ (List.mem_of_getElem? (i := 441) (by decide +kernel)), by decide +kernel⟩
theorem mwX0_addLowFirst : xMv mX0_addLowFirst 2 := ⟨⟨List.mem_append_right _ (List.mem_of_getElem? (i := 365) (by decide +kernel)), List.mem_append_right _ (List.mem_of_getElem? (i := 2) (by decide +kernel)), by decide +kernel, by decide +kernel, by decide +kernel, by decide +kernel, by decide +kernel⟩, List.mem_append_right _ (List.mem_of_getElem? (i := 363) (by decide +kernel)), List.mem_append_right _ (List.mem_of_getElem? (i := 364) (by decide +kernel)), by decide +kernel⟩
theorem mwX0_addHighFirst : xMv mX0_addHighFirst 2 := ⟨⟨List.mem_append_right _ (List.mem_of_getElem? (i := 446) (by decide +kernel)), List.mem_append_right _ (List.mem_of_getElem? (i := 2) (by decide +kernel)), by decide +kernel, by decide +kernel, by decide +kernel, by decide +kernel, by decide +kernel⟩, List.mem_append_right _ (List.mem_of_getElem? (i := 444) (by decide +kernel)), List.mem_append_right _ (List.mem_of_getElem? (i := 445) (by decide +kernel)), by decide +kernel⟩
theorem mwX0_addPart : xMv mX0_addPart 3 := ⟨⟨List.mem_append_right _ (List.mem_of_getElem? (i := 454) (by decide +kernel)), List.mem_append_right _ (List.mem_of_getElem? (i := 2) (by decide +kernel)), by decide +kernel, by decide +kernel, by decide +kernel, by decide +kernel, by decide +kernel⟩, List.mem_append_right _ (List.mem_of_getElem? (i := 452) (by decide +kernel)), List.mem_append_right _ (List.mem_of_getElem? (i := 453) (by decide +kernel)), by decide +kernel⟩
theorem mwX0_addAll : xMv mX0_addAll 1 := ⟨⟨List.mem_append_right _ (List.mem_of_getElem? (i := 450) (by decide +kernel)), List.mem_append_right _ (List.mem_of_getElem? (i := 2) (by decide +kernel)), by decide +kernel, by decide +kernel, by decide +kernel, by decide +kernel, by decide +kernel⟩, List.mem_append_right _ (List.mem_of_getElem? (i := 448) (by decide +kernel)), List.mem_append_right _ (List.mem_of_getElem? (i := 449) (by decide +kernel)), by decide +kernel⟩
theorem mwX0_isSameAs : xMv mX0_isSameAs 1 := ⟨⟨List.mem_append_right _ (List.mem_of_getElem? (i := 631) (by decide +kernel)), List.mem_append_right _ (List.mem_of_getElem? (i := 2) (by decide +kernel)), by decide +kernel, by decide +kernel, by decide +kernel, by decide +kernel, by decide +kernel⟩, List.mem_append_right _ (List.mem_of_getElem? (i := 629) (by decide +kernel)), List.mem_append_right _ (List.mem_of_getElem? (i := 630) (by decide +kernel)), by decide +kernel⟩
theorem mwX0_isTag : xMv mX0_isTag 1 := ⟨⟨List.mem_append_right _ (List.mem_of_getElem? (i := 642) (by decide +kernel)), List.mem_append_right _ (List.mem_of_getElem? (i := 2) (by decide +kernel)), by decide +kernel, by decide +kernel, by decide +kernel, by decide +kernel, by decide +kernel⟩, List.mem_append_right _ (List.mem_of_getElem? (i := 640) (by decide +kernel)), List.mem_append_right _ (List.mem_of_getElem? (i := 641) (by decide +kernel)), by decide +kernel⟩
theorem mwX0_wholeNumber : xMv mX0_wholeNumber 0 := ⟨⟨List.mem_append_right _ (List.mem_of_getElem? (i := 567) (by decide +kernel)), List.mem_append_right _ (List.mem_of_getElem? (i := 2) (by decide +kernel)), by decide +kernel, by decide +kernel, by decide +kernel, by decide +kernel, by decide +kernel⟩, List.mem_append_right _ (List.mem_of_getElem? (i := 565) (by decide +kernel)), List.mem_append_right _ (List.mem_of_getElem? (i := 566) (by decide +kernel)), by decide +kernel⟩
theorem mwX1_init : xMi mX1_init 1 := ⟨⟨List.mem_append_right _ (List.mem_of_getElem? (i := 118) (by decide +kernel)), List.mem_append_right _ (List.mem_of_getElem? (i := 7) (by decide +kernel)), by decide +kernel, by decide +kernel, by decide +kernel, by decide +kernel, by decide +kernel⟩, List.mem_append_right _ (List.mem_of_getElem? (i := 117) (by decide +kernel)), rfl, rfl⟩
theorem mwX1_restart : xMv mX1_restart 3 := ⟨⟨List.mem_append_right _ (List.mem_of_getElem? (i := 357) (by decide +kernel)), List.mem_append_right _ (List.mem_of_getElem? (i := 7) (by decide +kernel)), by decide +kernel, by decide +kernel, by decide +kernel, by decide +kernel, by decide +kernel⟩, List.mem_append_right _ (List.mem_of_getElem? (i := 355) (by decide +kernel)), List.mem_append_right _ (List.mem_of_getElem? (i := 356) (by decide +kernel)), by decide +kernel⟩
theorem mwX1_at : xMv mX1_at 1 := ⟨⟨List.mem_append_right _ (List.mem_of_getElem? (i := 554) (by decide +kernel)), List.mem_append_right _ (List.mem_of_getElem? (i := 7) (by decide +kernel)), by decide +kernel, by decide +kernel, by decide +kernel, by decide +kernel, by decide +kernel⟩, List.mem_append_right _ (List.mem_of_getElem? (i := 552) (by decide +kernel)), List.mem_append_right _ (List.mem_of_getElem? (i := 553) (by decide +kernel)), by decide +kernel⟩
theorem mwX1_first : xMv mX1_first 1 := ⟨⟨List.mem_append_right _ (List.mem_of_getElem? (i := 652) (by decide +kernel)), List.mem_append_right _ (List.mem_of_getElem? (i := 7) (by decide +kernel)), by decide +kernel, by decide +kernel, by decide +kernel, by decide +kernel, by decide +kernel⟩, List.mem_append_right _ (List.mem_of_getElem? (i := 650) (by decide +kernel)), List.mem_append_right _ (List.mem_of_getElem? (i := 651) (by decide +kernel)), by decide +kernel⟩
theorem mwX1_put : xMv mX1_put 1 := ⟨⟨List.mem_append_right _ (List.mem_of_getElem? (i := 378) (by decide +kernel)), List.mem_append_right _ (List.mem_of_getElem? (i := 7) (by decide +kernel)), by decide +kernel, by decide +kernel, by decide +kernel, by decide +kernel, by decide +kernel⟩, List.mem_append_right _ (List.mem_of_getElem? (i := 376) (by decide +kernel)), List.mem_append_right _ (List.mem_of_getElem? (i := 377) (by decide +kernel)), by decide +kernel⟩
theorem mwX1_writtenSize : xMv mX1_writtenSize 0 := ⟨⟨List.mem_append_right _ (List.mem_of_getElem? (i := 429) (by decide +kernel)), List.mem_append_right _ (List.mem_of_getElem? (i := 7) (by decide +kernel)), by decide +kernel, by decide +kernel, by decide +kernel, by decide +kernel, by decide +kernel⟩, List.mem_append_right _ (List.mem_of_getElem? (i := 427) (by decide +kernel)), List.mem_append_right _ (List.mem_of_getElem? (i := 428) (by decide +kernel)), by decide +kernel⟩
theorem mwX1_writeBehind : xMv mX1_writeBehind 1 := ⟨⟨List.mem_append_right _ (List.mem_of_getElem? (i := 438) (by decide +kernel)), List.mem_append_right _ (List.mem_of_getElem? (i := 7) (by decide +kernel)), by decide +kernel, by decide +kernel, by decide +kernel, by decide +kernel, by decide +kernel⟩, List.mem_append_right _ (List.mem_of_getElem? (i := 436) (by decide +kernel)), List.mem_append_right _ (List.mem_of_getElem? (i := 437) (by decide +kernel)), by decide +kernel⟩
theorem mwX1_writeOption : xMs mX1_writeOption 3 := ⟨⟨List.mem_append_right _ (List.mem_of_getElem? (i := 461) (by decide +kernel)), List.mem_append_right _ (List.mem_of_getElem? (i := 7) (by decide +kernel)), by decide +kernel, by decide +kernel, by decide +kernel, by decide +kernel, by decide +kernel⟩, List.mem_append_right _ (List.mem_of_getElem? (i := 460) (by decide +kernel))⟩
theorem mwX1_moreBytes : xMs mX1_moreBytes 1 := ⟨⟨List.mem_append_right _ (List.mem_of_getElem? (i := 432) (by decide +kernel)), List.mem_append_right _ (List.mem_of_getElem? (i := 7) (by decide +kernel)), by decide +kernel, by decide +kernel, by decide +kernel, by decide +kernel, by decide +kernel⟩, List.mem_append_right _ (List.mem_of_getElem? (i := 431) (by decide +kernel))⟩
theorem mwX1_shortForm : xMs mX1_shortForm 1 := ⟨⟨List.mem_append_right _ (List.mem_of_getElem? (i := 464) (by decide +kernel)), List.mem_append_right _ (List.mem_of_getElem? (i := 7) (by decide +kernel)), by decide +kernel, by decide +kernel, by decide +kernel, by decide +kernel, by decide +kernel⟩, List.mem_append_right _ (List.mem_of_getElem? (i := 463) (by decide +kernel))⟩
theorem mwX1_writeMore : xMs mX1_writeMore 2 := ⟨⟨List.mem_append_right _ (List.mem_of_getElem? (i := 467) (by decide +kernel)), List.mem_append_right _ (List.mem_of_getElem? (i := 7) (by decide +kernel)), by decide +kernel, by decide +kernel, by decide +kernel, by decide +kernel, by decide +kernel⟩, List.mem_append_right _ (List.mem_of_getElem? (i := 466) (by decide +kernel))⟩
theorem mwX2_init : xMi mX2_init 0 := ⟨⟨List.mem_append_right _ (List.mem_of_getElem? (i := 127) (by decide +kernel)), List.mem_append_right _ (List.mem_of_getElem? (i := 8) (by decide +kernel)), by decide +kernel, by decide +kernel, by decide +kernel, by decide +kernel, by decide +kernel⟩, List.mem_append_right _ (List.mem_of_getElem? (i := 126) (by decide +kernel)), rfl, rfl⟩
theorem mwX3_init : xMi mX3_init 0 := ⟨⟨List.mem_append_right _ (List.mem_of_getElem? (i := 192) (by decide +kernel)), List.mem_append_right _ (List.mem_of_getElem? (i := 9) (by decide +kernel)), by decide +kernel, by decide +kernel, by decide +kernel, by decide +kernel, by decide +kernel⟩, List.mem_append_right _ (List.mem_of_getElem? (i := 191) (by decide +kernel)), rfl, rfl⟩
theorem mwX3_find : xMv mX3_find 1 := ⟨⟨List.mem_append_right _ (List.mem_of_getElem? (i := 592) (by decide +kernel)), List.mem_append_right _ (List.mem_of_getElem? (i := 9) (by decide +kernel)), by decide +kernel, by decide +kernel, by decide +kernel, by decide +kernel, by decide +kernel⟩, List.mem_append_right _ (List.mem_of_getElem? (i := 590) (by decide +kernel)), List.mem_append_right _ (List.mem_of_getElem? (i := 591) (by decide +kernel)), by decide +kernel⟩
theorem mwX3_remember : xMv mX3_remember 1 := ⟨⟨List.mem_append_right _ (List.mem_of_getElem? (i := 596) (by decide +kernel)), List.mem_append_right _ (List.mem_of_getElem? (i := 9) (by decide +kernel)), by decide +kernel, by decide +kernel, by decide +kernel, by decide +kernel, by decide +kernel⟩, List.mem_append_right _ (List.mem_of_getElem? (i := 594) (by decide +kernel)), List.mem_append_right _ (List.mem_of_getElem? (i := 595) (by decide +kernel)), by decide +kernel⟩
theorem mwX4_init : xMi mX4_init 0 := ⟨⟨List.mem_append_right _ (List.mem_of_getElem? (i := 50) (by decide +kernel)), List.mem_append_right _ (List.mem_of_getElem? (i := 3) (by decide +kernel)), by decide +kernel, by decide +kernel, by decide +kernel, by decide +kernel, by decide +kernel⟩, List.mem_append_right _ (List.mem_of_getElem? (i := 49) (by decide +kernel)), rfl, rfl⟩
theorem mwX4_parse : xMv mX4_parse 2 := ⟨⟨List.mem_append_right _ (List.mem_of_getElem? (i := 498) (by decide +kernel)), List.mem_append_right _ (List.mem_of_getElem? (i := 3) (by decide +kernel)), by decide +kernel, by decide +kernel, by decide +kernel, by decide +kernel, by decide +kernel⟩, List.mem_append_right _ (List.mem_of_getElem? (i := 496) (by decide +kernel)), List.mem_append_right _ (List.mem_of_getElem? (i := 497) (by decide +kernel)), by decide +kernel⟩
theorem mwX4_parseHead : xMv mX4_parseHead 2 := ⟨⟨List.mem_append_right _ (List.mem_of_getElem? (i := 502) (by decide +kernel)), List.mem_append_right _ (List.mem_of_getElem? (i := 3) (by decide +kernel)), by decide +kernel, by decide +kernel, by decide +kernel, by decide +kernel, by decide +kernel⟩, List.mem_append_right _ (List.mem_of_getElem? (i := 501) (by decide +kernel)), (by decide +kernel), by decide +kernel⟩
theorem mwX4_parseOption : xMv mX4_parseOption 2 := ⟨⟨List.mem_append_right _ (List.mem_of_getElem? (i := 509) (by decide +kernel)), List.mem_append_right _ (List.mem_of_getElem? (i := 3) (by decide +kernel)), by decide +kernel, by decide +kernel, by decide +kernel, by decide +kernel, by decide +kernel⟩, List.mem_append_right _ (List.mem_of_getElem? (i := 508) (by decide +kernel)), (by decide +kernel), by decide +kernel⟩
theorem mwX4_told : xMv mX4_told 2 := ⟨⟨List.mem_append_right _ (List.mem_of_getElem? (i := 513) (by decide +kernel)), List.mem_append_right _ (List.mem_of_getElem? (i := 3) (by decide +kernel)), by decide +kernel, by decide +kernel, by decide +kernel, by decide +kernel, by decide +kernel⟩, List.mem_append_right _ (List.mem_of_getElem? (i := 512) (by decide +kernel)), (by decide +kernel), by decide +kernel⟩
theorem mwX4_parsePayload : xMv mX4_parsePayload 2 := ⟨⟨List.mem_append_right _ (List.mem_of_getElem? (i := 519) (by decide +kernel)), List.mem_append_right _ (List.mem_of_getElem? (i := 3) (by decide +kernel)), by decide +kernel, by decide +kernel, by decide +kernel, by decide +kernel, by decide +kernel⟩, List.mem_append_right _ (List.mem_of_getElem? (i := 518) (by decide +kernel)), (by decide +kernel), by decide +kernel⟩
theorem mwX5_init : xMi mX5_init 0 := ⟨⟨List.mem_append_right _ (List.mem_of_getElem? (i := 76) (by decide +kernel)), List.mem_append_right _ (List.mem_of_getElem? (i := 6) (by decide +kernel)), by decide +kernel, by decide +kernel, by decide +kernel, by decide +kernel, by decide +kernel⟩, List.mem_append_right _ (List.mem_of_getElem? (i := 75) (by decide +kernel)), rfl, rfl⟩
theorem mwX6_init : xMi mX6_init 0 := ⟨⟨List.mem_append_right _ (List.mem_of_getElem? (i := 199) (by decide +kernel)), List.mem_append_right _ (List.mem_of_getElem? (i := 10) (by decide +kernel)), by decide +kernel, by decide +kernel, by decide +kernel, by decide +kernel, by decide +kernel⟩, List.mem_append_right _ (List.mem_of_getElem? (i := 198) (by decide +kernel)), rfl, rfl⟩
theorem mwX7_init : xMi mX7_init 0 := ⟨⟨List.mem_append_right _ (List.mem_of_getElem? (i := 63) (by decide +kernel)), List.mem_append_right _ (List.mem_of_getElem? (i := 4) (by decide +kernel)), by decide +kernel, by decide +kernel, by decide +kernel, by decide +kernel, by decide +kernel⟩, List.mem_append_right _ (List.mem_of_getElem? (i := 62) (by decide +kernel)), rfl, rfl⟩
theorem mwX7_take : xMv mX7_take 3 := ⟨⟨List.mem_append_right _ (List.mem_of_getElem? (i := 582) (by decide +kernel)), List.mem_append_right _ (List.mem_of_getElem? (i := 4) (by decide +kernel)), by decide +kernel, by decide +kernel, by decide +kernel, by decide +kernel, by decide +kernel⟩, List.mem_append_right _ (List.mem_of_getElem? (i := 580) (by decide +kernel)), List.mem_append_right _ (List.mem_of_getElem? (i := 581) (by decide +kernel)), by decide +kernel⟩
theorem mwX7_sendReset : xMv mX7_sendReset 2 := ⟨⟨List.mem_append_right _ (List.mem_of_getElem? (i := 586) (by decide +kernel)), List.mem_append_right _ (List.mem_of_getElem? (i := 4) (by decide +kernel)), by decide +kernel, by decide +kernel, by decide +kernel, by decide +kernel, by decide +kernel⟩, List.mem_append_right _ (List.mem_of_getElem? (i := 585) (by decide +kernel)), (by decide +kernel), by decide +kernel⟩
theorem mwX7_beginAnswer : xMv mX7_beginAnswer 1 := ⟨⟨List.mem_append_right _ (List.mem_of_getElem? (i := 601) (by decide +kernel)), List.mem_append_right _ (List.mem_of_getElem? (i := 4) (by decide +kernel)), by decide +kernel, by decide +kernel, by decide +kernel, by decide +kernel, by decide +kernel⟩, List.mem_append_right _ (List.mem_of_getElem? (i := 600) (by decide +kernel)), (by decide +kernel), by decide +kernel⟩
theorem mwX7_decide : xMv mX7_decide 1 := ⟨⟨List.mem_append_right _ (List.mem_of_getElem? (i := 607) (by decide +kernel)), List.mem_append_right _ (List.mem_of_getElem? (i := 4) (by decide +kernel)), by decide +kernel, by decide +kernel, by decide +kernel, by decide +kernel, by decide +kernel⟩, List.mem_append_right _ (List.mem_of_getElem? (i := 606) (by decide +kernel)), (by decide +kernel), by decide +kernel⟩
theorem mwX7_hasBadOption : xMs mX7_hasBadOption 1 := ⟨⟨List.mem_append_right _ (List.mem_of_getElem? (i := 610) (by decide +kernel)), List.mem_append_right _ (List.mem_of_getElem? (i := 4) (by decide +kernel)), by decide +kernel, by decide +kernel, by decide +kernel, by decide +kernel, by decide +kernel⟩, List.mem_append_right _ (List.mem_of_getElem? (i := 609) (by decide +kernel))⟩
theorem mwX7_isBad : xMs mX7_isBad 1 := ⟨⟨List.mem_append_right _ (List.mem_of_getElem? (i := 613) (by decide +kernel)), List.mem_append_right _ (List.mem_of_getElem? (i := 4) (by decide +kernel)), by decide +kernel, by decide +kernel, by decide +kernel, by decide +kernel, by decide +kernel⟩, List.mem_append_right _ (List.mem_of_getElem? (i := 612) (by decide +kernel))⟩
theorem mwX7_takePath : xMv mX7_takePath 1 := ⟨⟨List.mem_append_right _ (List.mem_of_getElem? (i := 621) (by decide +kernel)), List.mem_append_right _ (List.mem_of_getElem? (i := 4) (by decide +kernel)), by decide +kernel, by decide +kernel, by decide +kernel, by decide +kernel, by decide +kernel⟩, List.mem_append_right _ (List.mem_of_getElem? (i := 620) (by decide +kernel)), (by decide +kernel), by decide +kernel⟩
theorem mwX7_failsCondition : xMs mX7_failsCondition 2 := ⟨⟨List.mem_append_right _ (List.mem_of_getElem? (i := 666) (by decide +kernel)), List.mem_append_right _ (List.mem_of_getElem? (i := 4) (by decide +kernel)), by decide +kernel, by decide +kernel, by decide +kernel, by decide +kernel, by decide +kernel⟩, List.mem_append_right _ (List.mem_of_getElem? (i := 665) (by decide +kernel))⟩
theorem mwX7_matches : xMs mX7_matches 2 := ⟨⟨List.mem_append_right _ (List.mem_of_getElem? (i := 669) (by decide +kernel)), List.mem_append_right _ (List.mem_of_getElem? (i := 4) (by decide +kernel)), by decide +kernel, by decide +kernel, by decide +kernel, by decide +kernel, by decide +kernel⟩, List.mem_append_right _ (List.mem_of_getElem? (i := 668) (by decide +kernel))⟩
theorem mwX7_knowsTag : xMs mX7_knowsTag 2 := ⟨⟨List.mem_append_right _ (List.mem_of_getElem? (i := 638) (by decide +kernel)), List.mem_append_right _ (List.mem_of_getElem? (i := 4) (by decide +kernel)), by decide +kernel, by decide +kernel, by decide +kernel, by decide +kernel, by decide +kernel⟩, List.mem_append_right _ (List.mem_of_getElem? (i := 637) (by decide +kernel))⟩
theorem mwX7_answerGet : xMv mX7_answerGet 2 := ⟨⟨List.mem_append_right _ (List.mem_of_getElem? (i := 635) (by decide +kernel)), List.mem_append_right _ (List.mem_of_getElem? (i := 4) (by decide +kernel)), by decide +kernel, by decide +kernel, by decide +kernel, by decide +kernel, by decide +kernel⟩, List.mem_append_right _ (List.mem_of_getElem? (i := 634) (by decide +kernel)), (by decide +kernel), by decide +kernel⟩
theorem mwX7_answerBlock : xMv mX7_answerBlock 2 := ⟨⟨List.mem_append_right _ (List.mem_of_getElem? (i := 656) (by decide +kernel)), List.mem_append_right _ (List.mem_of_getElem? (i := 4) (by decide +kernel)), by decide +kernel, by decide +kernel, by decide +kernel, by decide +kernel, by decide +kernel⟩, List.mem_append_right _ (List.mem_of_getElem? (i := 655) (by decide +kernel)), (by decide +kernel), by decide +kernel⟩
theorem mwX7_fewestBytes : xMs mX7_fewestBytes 1 := ⟨⟨List.mem_append_right _ (List.mem_of_getElem? (i := 659) (by decide +kernel)), List.mem_append_right _ (List.mem_of_getElem? (i := 4) (by decide +kernel)), by decide +kernel, by decide +kernel, by decide +kernel, by decide +kernel, by decide +kernel⟩, List.mem_append_right _ (List.mem_of_getElem? (i := 658) (by decide +kernel))⟩
theorem mwX7_addNumber : xMv mX7_addNumber 3 := ⟨⟨List.mem_append_right _ (List.mem_of_getElem? (i := 647) (by decide +kernel)), List.mem_append_right _ (List.mem_of_getElem? (i := 4) (by decide +kernel)), by decide +kernel, by decide +kernel, by decide +kernel, by decide +kernel, by decide +kernel⟩, List.mem_append_right _ (List.mem_of_getElem? (i := 646) (by decide +kernel)), (by decide +kernel), by decide +kernel⟩
theorem mwX7_answerPut : xMv mX7_answerPut 2 := ⟨⟨List.mem_append_right _ (List.mem_of_getElem? (i := 687) (by decide +kernel)), List.mem_append_right _ (List.mem_of_getElem? (i := 4) (by decide +kernel)), by decide +kernel, by decide +kernel, by decide +kernel, by decide +kernel, by decide +kernel⟩, List.mem_append_right _ (List.mem_of_getElem? (i := 686) (by decide +kernel)), (by decide +kernel), by decide +kernel⟩
theorem mwX7_answerPost : xMv mX7_answerPost 2 := ⟨⟨List.mem_append_right _ (List.mem_of_getElem? (i := 673) (by decide +kernel)), List.mem_append_right _ (List.mem_of_getElem? (i := 4) (by decide +kernel)), by decide +kernel, by decide +kernel, by decide +kernel, by decide +kernel, by decide +kernel⟩, List.mem_append_right _ (List.mem_of_getElem? (i := 672) (by decide +kernel)), (by decide +kernel), by decide +kernel⟩
theorem mwX7_change : xMv mX7_change 3 := ⟨⟨List.mem_append_right _ (List.mem_of_getElem? (i := 678) (by decide +kernel)), List.mem_append_right _ (List.mem_of_getElem? (i := 4) (by decide +kernel)), by decide +kernel, by decide +kernel, by decide +kernel, by decide +kernel, by decide +kernel⟩, List.mem_append_right _ (List.mem_of_getElem? (i := 677) (by decide +kernel)), (by decide +kernel), by decide +kernel⟩
theorem mwX7_answerDelete : xMv mX7_answerDelete 1 := ⟨⟨List.mem_append_right _ (List.mem_of_getElem? (i := 697) (by decide +kernel)), List.mem_append_right _ (List.mem_of_getElem? (i := 4) (by decide +kernel)), by decide +kernel, by decide +kernel, by decide +kernel, by decide +kernel, by decide +kernel⟩, List.mem_append_right _ (List.mem_of_getElem? (i := 696) (by decide +kernel)), (by decide +kernel), by decide +kernel⟩
theorem mwX8_init : xMi mX8_init 0 := ⟨⟨List.mem_append_right _ (List.mem_of_getElem? (i := 69) (by decide +kernel)), List.mem_append_right _ (List.mem_of_getElem? (i := 5) (by decide +kernel)), by decide +kernel, by decide +kernel, by decide +kernel, by decide +kernel, by decide +kernel⟩, List.mem_append_right _ (List.mem_of_getElem? (i := 68) (by decide +kernel)), rfl, rfl⟩
theorem mwX8_at : xMv mX8_at 1 := ⟨⟨List.mem_append_right _ (List.mem_of_getElem? (i := 720) (by decide +kernel)), List.mem_append_right _ (List.mem_of_getElem? (i := 5) (by decide +kernel)), by decide +kernel, by decide +kernel, by decide +kernel, by decide +kernel, by decide +kernel⟩, List.mem_append_right _ (List.mem_of_getElem? (i := 718) (by decide +kernel)), List.mem_append_right _ (List.mem_of_getElem? (i := 719) (by decide +kernel)), by decide +kernel⟩
theorem mwX8_find : xMv mX8_find 1 := ⟨⟨List.mem_append_right _ (List.mem_of_getElem? (i := 627) (by decide +kernel)), List.mem_append_right _ (List.mem_of_getElem? (i := 5) (by decide +kernel)), by decide +kernel, by decide +kernel, by decide +kernel, by decide +kernel, by decide +kernel⟩, List.mem_append_right _ (List.mem_of_getElem? (i := 625) (by decide +kernel)), List.mem_append_right _ (List.mem_of_getElem? (i := 626) (by decide +kernel)), by decide +kernel⟩
theorem mwX8_make : xMv mX8_make 2 := ⟨⟨List.mem_append_right _ (List.mem_of_getElem? (i := 691) (by decide +kernel)), List.mem_append_right _ (List.mem_of_getElem? (i := 5) (by decide +kernel)), by decide +kernel, by decide +kernel, by decide +kernel, by decide +kernel, by decide +kernel⟩, List.mem_append_right _ (List.mem_of_getElem? (i := 689) (by decide +kernel)), List.mem_append_right _ (List.mem_of_getElem? (i := 690) (by decide +kernel)), by decide +kernel⟩
theorem mwX8_remove : xMv mX8_remove 1 := ⟨⟨List.mem_append_right _ (List.mem_of_getElem? (i := 701) (by decide +kernel)), List.mem_append_right _ (List.mem_of_getElem? (i := 5) (by decide +kernel)), by decide +kernel, by decide +kernel, by decide +kernel, by decide +kernel, by decide +kernel⟩, List.mem_append_right _ (List.mem_of_getElem? (i := 699) (by decide +kernel)), List.mem_append_right _ (List.mem_of_getElem? (i := 700) (by decide +kernel)), by decide +kernel⟩
theorem mwX8_giveNextTag : xMv mX8_giveNextTag 1 := ⟨⟨List.mem_append_right _ (List.mem_of_getElem? (i := 682) (by decide +kernel)), List.mem_append_right _ (List.mem_of_getElem? (i := 5) (by decide +kernel)), by decide +kernel, by decide +kernel, by decide +kernel, by decide +kernel, by decide +kernel⟩, List.mem_append_right _ (List.mem_of_getElem? (i := 680) (by decide +kernel)), List.mem_append_right _ (List.mem_of_getElem? (i := 681) (by decide +kernel)), by decide +kernel⟩
theorem mwX9_init : xMi mX9_init 0 := ⟨⟨List.mem_append_right _ (List.mem_of_getElem? (i := 24) (by decide +kernel)), List.mem_append_right _ (List.mem_of_getElem? (i := 1) (by decide +kernel)), by decide +kernel, by decide +kernel, by decide +kernel, by decide +kernel, by decide +kernel⟩, List.mem_append_right _ (List.mem_of_getElem? (i := 23) (by decide +kernel)), rfl, rfl⟩
theorem mwX9_begin : xMv mX9_begin 5 := ⟨⟨List.mem_append_right _ (List.mem_of_getElem? (i := 282) (by decide +kernel)), List.mem_append_right _ (List.mem_of_getElem? (i := 1) (by decide +kernel)), by decide +kernel, by decide +kernel, by decide +kernel, by decide +kernel, by decide +kernel⟩, List.mem_append_right _ (List.mem_of_getElem? (i := 280) (by decide +kernel)), List.mem_append_right _ (List.mem_of_getElem? (i := 281) (by decide +kernel)), by decide +kernel⟩
theorem mwX9_option : xMv mX9_option 3 := ⟨⟨List.mem_append_right _ (List.mem_of_getElem? (i := 373) (by decide +kernel)), List.mem_append_right _ (List.mem_of_getElem? (i := 1) (by decide +kernel)), by decide +kernel, by decide +kernel, by decide +kernel, by decide +kernel, by decide +kernel⟩, List.mem_append_right _ (List.mem_of_getElem? (i := 371) (by decide +kernel)), List.mem_append_right _ (List.mem_of_getElem? (i := 372) (by decide +kernel)), by decide +kernel⟩
theorem mwX9_longer : xMv mX9_longer 2 := ⟨⟨List.mem_append_right _ (List.mem_of_getElem? (i := 401) (by decide +kernel)), List.mem_append_right _ (List.mem_of_getElem? (i := 1) (by decide +kernel)), by decide +kernel, by decide +kernel, by decide +kernel, by decide +kernel, by decide +kernel⟩, List.mem_append_right _ (List.mem_of_getElem? (i := 399) (by decide +kernel)), List.mem_append_right _ (List.mem_of_getElem? (i := 400) (by decide +kernel)), by decide +kernel⟩
theorem mwX9_payload : xMv mX9_payload 2 := ⟨⟨List.mem_append_right _ (List.mem_of_getElem? (i := 414) (by decide +kernel)), List.mem_append_right _ (List.mem_of_getElem? (i := 1) (by decide +kernel)), by decide +kernel, by decide +kernel, by decide +kernel, by decide +kernel, by decide +kernel⟩, List.mem_append_right _ (List.mem_of_getElem? (i := 412) (by decide +kernel)), List.mem_append_right _ (List.mem_of_getElem? (i := 413) (by decide +kernel)), by decide +kernel⟩
theorem mwX9_write : xMv mX9_write 0 := ⟨⟨List.mem_append_right _ (List.mem_of_getElem? (i := 425) (by decide +kernel)), List.mem_append_right _ (List.mem_of_getElem? (i := 1) (by decide +kernel)), by decide +kernel, by decide +kernel, by decide +kernel, by decide +kernel, by decide +kernel⟩, List.mem_append_right _ (List.mem_of_getElem? (i := 423) (by decide +kernel)), List.mem_append_right _ (List.mem_of_getElem? (i := 424) (by decide +kernel)), by decide +kernel⟩
theorem mwX9_feed : xMv mX9_feed 2 := ⟨⟨List.mem_append_right _ (List.mem_of_getElem? (i := 474) (by decide +kernel)), List.mem_append_right _ (List.mem_of_getElem? (i := 1) (by decide +kernel)), by decide +kernel, by decide +kernel, by decide +kernel, by decide +kernel, by decide +kernel⟩, List.mem_append_right _ (List.mem_of_getElem? (i := 472) (by decide +kernel)), List.mem_append_right _ (List.mem_of_getElem? (i := 473) (by decide +kernel)), by decide +kernel⟩
theorem mwX9_end : xMv mX9_end 1 := ⟨⟨List.mem_append_right _ (List.mem_of_getElem? (i := 481) (by decide +kernel)), List.mem_append_right _ (List.mem_of_getElem? (i := 1) (by decide +kernel)), by decide +kernel, by decide +kernel, by decide +kernel, by decide +kernel, by decide +kernel⟩, List.mem_append_right _ (List.mem_of_getElem? (i := 479) (by decide +kernel)), List.mem_append_right _ (List.mem_of_getElem? (i := 480) (by decide +kernel)), by decide +kernel⟩
theorem mwX9_read : xMv mX9_read 0 := ⟨⟨List.mem_append_right _ (List.mem_of_getElem? (i := 494) (by decide +kernel)), List.mem_append_right _ (List.mem_of_getElem? (i := 1) (by decide +kernel)), by decide +kernel, by decide +kernel, by decide +kernel, by decide +kernel, by decide +kernel⟩, List.mem_append_right _ (List.mem_of_getElem? (i := 492) (by decide +kernel)), List.mem_append_right _ (List.mem_of_getElem? (i := 493) (by decide +kernel)), by decide +kernel⟩
theorem mwX9_about : xMv mX9_about 1 := ⟨⟨List.mem_append_right _ (List.mem_of_getElem? (i := 542) (by decide +kernel)), List.mem_append_right _ (List.mem_of_getElem? (i := 1) (by decide +kernel)), by decide +kernel, by decide +kernel, by decide +kernel, by decide +kernel, by decide +kernel⟩, List.mem_append_right _ (List.mem_of_getElem? (i := 540) (by decide +kernel)), List.mem_append_right _ (List.mem_of_getElem? (i := 541) (by decide +kernel)), by decide +kernel⟩
theorem mwX9_byteOf : xMv mX9_byteOf 2 := ⟨⟨List.mem_append_right _ (List.mem_of_getElem? (i := 550) (by decide +kernel)), List.mem_append_right _ (List.mem_of_getElem? (i := 1) (by decide +kernel)), by decide +kernel, by decide +kernel, by decide +kernel, by decide +kernel, by decide +kernel⟩, List.mem_append_right _ (List.mem_of_getElem? (i := 548) (by decide +kernel)), List.mem_append_right _ (List.mem_of_getElem? (i := 549) (by decide +kernel)), by decide +kernel⟩
theorem mwX9_optionAt : xMv mX9_optionAt 2 := ⟨⟨List.mem_append_right _ (List.mem_of_getElem? (i := 562) (by decide +kernel)), List.mem_append_right _ (List.mem_of_getElem? (i := 1) (by decide +kernel)), by decide +kernel, by decide +kernel, by decide +kernel, by decide +kernel, by decide +kernel⟩, List.mem_append_right _ (List.mem_of_getElem? (i := 560) (by decide +kernel)), List.mem_append_right _ (List.mem_of_getElem? (i := 561) (by decide +kernel)), by decide +kernel⟩
theorem mwX9_serve : xMv mX9_serve 1 := ⟨⟨List.mem_append_right _ (List.mem_of_getElem? (i := 577) (by decide +kernel)), List.mem_append_right _ (List.mem_of_getElem? (i := 1) (by decide +kernel)), by decide +kernel, by decide +kernel, by decide +kernel, by decide +kernel, by decide +kernel⟩, List.mem_append_right _ (List.mem_of_getElem? (i := 575) (by decide +kernel)), List.mem_append_right _ (List.mem_of_getElem? (i := 576) (by decide +kernel)), by decide +kernel⟩
theorem mwX9_hand : xMv mX9_hand 1 := ⟨⟨List.mem_append_right _ (List.mem_of_getElem? (i := 270) (by decide +kernel)), List.mem_append_right _ (List.mem_of_getElem? (i := 1) (by decide +kernel)), by decide +kernel, by decide +kernel, by decide +kernel, by decide +kernel, by decide +kernel⟩, List.mem_append_right _ (List.mem_of_getElem? (i := 268) (by decide +kernel)), List.mem_append_right _ (List.mem_of_getElem? (i := 269) (by decide +kernel)), by decide +kernel⟩
theorem mwX9_total : xMv mX9_total 1 := ⟨⟨List.mem_append_right _ (List.mem_of_getElem? (i := 709) (by decide +kernel)), List.mem_append_right _ (List.mem_of_getElem? (i := 1) (by decide +kernel)), by decide +kernel, by decide +kernel, by decide +kernel, by decide +kernel, by decide +kernel⟩, List.mem_append_right _ (List.mem_of_getElem? (i := 707) (by decide +kernel)), List.mem_append_right _ (List.mem_of_getElem? (i := 708) (by decide +kernel)), by decide +kernel⟩
theorem mwX9_resource : xMv mX9_resource 2 := ⟨⟨List.mem_append_right _ (List.mem_of_getElem? (i := 716) (by decide +kernel)), List.mem_append_right _ (List.mem_of_getElem? (i := 1) (by decide +kernel)), by decide +kernel, by decide +kernel, by decide +kernel, by decide +kernel, by decide +kernel⟩, List.mem_append_right _ (List.mem_of_getElem? (i := 714) (by decide +kernel)), List.mem_append_right _ (List.mem_of_getElem? (i := 715) (by decide +kernel)), by decide +kernel⟩
theorem mwX9_within : xMs mX9_within 2 := ⟨⟨List.mem_append_right _ (List.mem_of_getElem? (i := 285) (by decide +kernel)), List.mem_append_right _ (List.mem_of_getElem? (i := 1) (by decide +kernel)), by decide +kernel, by decide +kernel, by decide +kernel, by decide +kernel, by decide +kernel⟩, List.mem_append_right _ (List.mem_of_getElem? (i := 284) (by decide +kernel))⟩
theorem mwX9_extend : xMs mX9_extend 3 := ⟨⟨List.mem_append_right _ (List.mem_of_getElem? (i := 417) (by decide +kernel)), List.mem_append_right _ (List.mem_of_getElem? (i := 1) (by decide +kernel)), by decide +kernel, by decide +kernel, by decide +kernel, by decide +kernel, by decide +kernel⟩, List.mem_append_right _ (List.mem_of_getElem? (i := 416) (by decide +kernel))⟩
theorem mwX10_init : xMi mX10_init 0 := ⟨⟨List.mem_append_right _ (List.mem_of_getElem? (i := 726) (by decide +kernel)), List.mem_append_right _ (List.mem_of_getElem? (i := 11) (by decide +kernel)), by decide +kernel, by decide +kernel, by decide +kernel, by decide +kernel, by decide +kernel⟩, List.mem_append_right _ (List.mem_of_getElem? (i := 725) (by decide +kernel)), rfl, rfl⟩
theorem mwX10_thrown : xMv mX10_thrown 0 := ⟨⟨List.mem_append_right _ (List.mem_of_getElem? (i := 831) (by decide +kernel)), List.mem_append_right _ (List.mem_of_getElem? (i := 11) (by decide +kernel)), by decide +kernel, by decide +kernel, by decide +kernel, by decide +kernel, by decide +kernel⟩, List.mem_append_right _ (List.mem_of_getElem? (i := 829) (by decide +kernel)), List.mem_append_right _ (List.mem_of_getElem? (i := 830) (by decide +kernel)), by decide +kernel⟩
theorem mwX10_refuses : xMv mX10_refuses 1 := ⟨⟨List.mem_append_right _ (List.mem_of_getElem? (i := 840) (by decide +kernel)), List.mem_append_right _ (List.mem_of_getElem? (i := 11) (by decide +kernel)), by decide +kernel, by decide +kernel, by decide +kernel, by decide +kernel, by decide +kernel⟩, List.mem_append_right _ (List.mem_of_getElem? (i := 839) (by decide +kernel)), (by decide +kernel), by decide +kernel⟩
theorem mwX10_begins : xMv mX10_begins 4 := ⟨⟨List.mem_append_right _ (List.mem_of_getElem? (i := 844) (by decide +kernel)), List.mem_append_right _ (List.mem_of_getElem? (i := 11) (by decide +kernel)), by decide +kernel, by decide +kernel, by decide +kernel, by decide +kernel, by decide +kernel⟩, List.mem_append_right _ (List.mem_of_getElem? (i := 843) (by decide +kernel)), (by decide +kernel), by decide +kernel⟩
theorem mwX10_low : xMs mX10_low 2 := ⟨⟨List.mem_append_right _ (List.mem_of_getElem? (i := 847) (by decide +kernel)), List.mem_append_right _ (List.mem_of_getElem? (i := 11) (by decide +kernel)), by decide +kernel, by decide +kernel, by decide +kernel, by decide +kernel, by decide +kernel⟩, List.mem_append_right _ (List.mem_of_getElem? (i := 846) (by decide +kernel))⟩
theorem mwX10_begin : xMv mX10_begin 5 := ⟨⟨List.mem_append_right _ (List.mem_of_getElem? (i := 835) (by decide +kernel)), List.mem_append_right _ (List.mem_of_getElem? (i := 11) (by decide +kernel)), by decide +kernel, by decide +kernel, by decide +kernel, by decide +kernel, by decide +kernel⟩, List.mem_append_right _ (List.mem_of_getElem? (i := 833) (by decide +kernel)), List.mem_append_right _ (List.mem_of_getElem? (i := 834) (by decide +kernel)), by decide +kernel⟩
theorem mwX10_place : xMv mX10_place 2 := ⟨⟨List.mem_append_right _ (List.mem_of_getElem? (i := 856) (by decide +kernel)), List.mem_append_right _ (List.mem_of_getElem? (i := 11) (by decide +kernel)), by decide +kernel, by decide +kernel, by decide +kernel, by decide +kernel, by decide +kernel⟩, List.mem_append_right _ (List.mem_of_getElem? (i := 855) (by decide +kernel)), (by decide +kernel), by decide +kernel⟩
theorem mwX10_longer : xMv mX10_longer 2 := ⟨⟨List.mem_append_right _ (List.mem_of_getElem? (i := 860) (by decide +kernel)), List.mem_append_right _ (List.mem_of_getElem? (i := 11) (by decide +kernel)), by decide +kernel, by decide +kernel, by decide +kernel, by decide +kernel, by decide +kernel⟩, List.mem_append_right _ (List.mem_of_getElem? (i := 859) (by decide +kernel)), (by decide +kernel), by decide +kernel⟩
theorem mwX10_option : xMv mX10_option 3 := ⟨⟨List.mem_append_right _ (List.mem_of_getElem? (i := 852) (by decide +kernel)), List.mem_append_right _ (List.mem_of_getElem? (i := 11) (by decide +kernel)), by decide +kernel, by decide +kernel, by decide +kernel, by decide +kernel, by decide +kernel⟩, List.mem_append_right _ (List.mem_of_getElem? (i := 850) (by decide +kernel)), List.mem_append_right _ (List.mem_of_getElem? (i := 851) (by decide +kernel)), by decide +kernel⟩
theorem mwX10_longer_ : xMv mX10_longer_ 2 := ⟨⟨List.mem_append_right _ (List.mem_of_getElem? (i := 864) (by decide +kernel)), List.mem_append_right _ (List.mem_of_getElem? (i := 11) (by decide +kernel)), by decide +kernel, by decide +kernel, by decide +kernel, by decide +kernel, by decide +kernel⟩, List.mem_append_right _ (List.mem_of_getElem? (i := 862) (by decide +kernel)), List.mem_append_right _ (List.mem_of_getElem? (i := 863) (by decide +kernel)), by decide +kernel⟩
theorem mwX10_payload : xMv mX10_payload 2 := ⟨⟨List.mem_append_right _ (List.mem_of_getElem? (i := 868) (by decide +kernel)), List.mem_append_right _ (List.mem_of_getElem? (i := 11) (by decide +kernel)), by decide +kernel, by decide +kernel, by decide +kernel, by decide +kernel, by decide +kernel⟩, List.mem_append_right _ (List.mem_of_getElem? (i := 866) (by decide +kernel)), List.mem_append_right _ (List.mem_of_getElem? (i := 867) (by decide +kernel)), by decide +kernel⟩
theorem mwX10_more : xMs mX10_more 1 := ⟨⟨List.mem_append_right _ (List.mem_of_getElem? (i := 879) (by decide +kernel)), List.mem_append_right _ (List.mem_of_getElem? (i := 11) (by decide +kernel)), by decide +kernel, by decide +kernel, by decide +kernel, by decide +kernel, by decide +kernel⟩, List.mem_append_right _ (List.mem_of_getElem? (i := 878) (by decide +kernel))⟩
theorem mwX10_size : xMv mX10_size 1 := ⟨⟨List.mem_append_right _ (List.mem_of_getElem? (i := 876) (by decide +kernel)), List.mem_append_right _ (List.mem_of_getElem? (i := 11) (by decide +kernel)), by decide +kernel, by decide +kernel, by decide +kernel, by decide +kernel, by decide +kernel⟩, List.mem_append_right _ (List.mem_of_getElem? (i := 875) (by decide +kernel)), (by decide +kernel), by decide +kernel⟩
theorem mwX10_put : xMv mX10_put 1 := ⟨⟨List.mem_append_right _ (List.mem_of_getElem? (i := 887) (by decide +kernel)), List.mem_append_right _ (List.mem_of_getElem? (i := 11) (by decide +kernel)), by decide +kernel, by decide +kernel, by decide +kernel, by decide +kernel, by decide +kernel⟩, List.mem_append_right _ (List.mem_of_getElem? (i := 886) (by decide +kernel)), (by decide +kernel), by decide +kernel⟩
theorem mwX10_nibble : xMs mX10_nibble 1 := ⟨⟨List.mem_append_right _ (List.mem_of_getElem? (i := 890) (by decide +kernel)), List.mem_append_right _ (List.mem_of_getElem? (i := 11) (by decide +kernel)), by decide +kernel, by decide +kernel, by decide +kernel, by decide +kernel, by decide +kernel⟩, List.mem_append_right _ (List.mem_of_getElem? (i := 889) (by decide +kernel))⟩
theorem mwX10_extra : xMv mX10_extra 1 := ⟨⟨List.mem_append_right _ (List.mem_of_getElem? (i := 894) (by decide +kernel)), List.mem_append_right _ (List.mem_of_getElem? (i := 11) (by decide +kernel)), by decide +kernel, by decide +kernel, by decide +kernel, by decide +kernel, by decide +kernel⟩, List.mem_append_right _ (List.mem_of_getElem? (i := 893) (by decide +kernel)), (by decide +kernel), by decide +kernel⟩
theorem mwX10_writes : xMv mX10_writes 1 := ⟨⟨List.mem_append_right _ (List.mem_of_getElem? (i := 883) (by decide +kernel)), List.mem_append_right _ (List.mem_of_getElem? (i := 11) (by decide +kernel)), by decide +kernel, by decide +kernel, by decide +kernel, by decide +kernel, by decide +kernel⟩, List.mem_append_right _ (List.mem_of_getElem? (i := 882) (by decide +kernel)), (by decide +kernel), by decide +kernel⟩
theorem mwX10_write : xMv mX10_write 0 := ⟨⟨List.mem_append_right _ (List.mem_of_getElem? (i := 872) (by decide +kernel)), List.mem_append_right _ (List.mem_of_getElem? (i := 11) (by decide +kernel)), by decide +kernel, by decide +kernel, by decide +kernel, by decide +kernel, by decide +kernel⟩, List.mem_append_right _ (List.mem_of_getElem? (i := 870) (by decide +kernel)), List.mem_append_right _ (List.mem_of_getElem? (i := 871) (by decide +kernel)), by decide +kernel⟩
theorem mwX10_feed : xMv mX10_feed 2 := ⟨⟨List.mem_append_right _ (List.mem_of_getElem? (i := 898) (by decide +kernel)), List.mem_append_right _ (List.mem_of_getElem? (i := 11) (by decide +kernel)), by decide +kernel, by decide +kernel, by decide +kernel, by decide +kernel, by decide +kernel⟩, List.mem_append_right _ (List.mem_of_getElem? (i := 896) (by decide +kernel)), List.mem_append_right _ (List.mem_of_getElem? (i := 897) (by decide +kernel)), by decide +kernel⟩
theorem mwX10_end : xMv mX10_end 1 := ⟨⟨List.mem_append_right _ (List.mem_of_getElem? (i := 902) (by decide +kernel)), List.mem_append_right _ (List.mem_of_getElem? (i := 11) (by decide +kernel)), by decide +kernel, by decide +kernel, by decide +kernel, by decide +kernel, by decide +kernel⟩, List.mem_append_right _ (List.mem_of_getElem? (i := 900) (by decide +kernel)), List.mem_append_right _ (List.mem_of_getElem? (i := 901) (by decide +kernel)), by decide +kernel⟩
theorem mwX10_told : xMv mX10_told 2 := ⟨⟨List.mem_append_right _ (List.mem_of_getElem? (i := 914) (by decide +kernel)), List.mem_append_right _ (List.mem_of_getElem? (i := 11) (by decide +kernel)), by decide +kernel, by decide +kernel, by decide +kernel, by decide +kernel, by decide +kernel⟩, List.mem_append_right _ (List.mem_of_getElem? (i := 913) (by decide +kernel)), (by decide +kernel), by decide +kernel⟩
theorem mwX10_fault : xMv mX10_fault 0 := ⟨⟨List.mem_append_right _ (List.mem_of_getElem? (i := 910) (by decide +kernel)), List.mem_append_right _ (List.mem_of_getElem? (i := 11) (by decide +kernel)), by decide +kernel, by decide +kernel, by decide +kernel, by decide +kernel, by decide +kernel⟩, List.mem_append_right _ (List.mem_of_getElem? (i := 909) (by decide +kernel)), (by decide +kernel), by decide +kernel⟩
theorem mwX10_read : xMv mX10_read 0 := ⟨⟨List.mem_append_right _ (List.mem_of_getElem? (i := 906) (by decide +kernel)), List.mem_append_right _ (List.mem_of_getElem? (i := 11) (by decide +kernel)), by decide +kernel, by decide +kernel, by decide +kernel, by decide +kernel, by decide +kernel⟩, List.mem_append_right _ (List.mem_of_getElem? (i := 904) (by decide +kernel)), List.mem_append_right _ (List.mem_of_getElem? (i := 905) (by decide +kernel)), by decide +kernel⟩
theorem mwX10_copies : xMv mX10_copies 2 := ⟨⟨List.mem_append_right _ (List.mem_of_getElem? (i := 918) (by decide +kernel)), List.mem_append_right _ (List.mem_of_getElem? (i := 11) (by decide +kernel)), by decide +kernel, by decide +kernel, by decide +kernel, by decide +kernel, by decide +kernel⟩, List.mem_append_right _ (List.mem_of_getElem? (i := 917) (by decide +kernel)), (by decide +kernel), by decide +kernel⟩
theorem mwX10_about : xMv mX10_about 1 := ⟨⟨List.mem_append_right _ (List.mem_of_getElem? (i := 922) (by decide +kernel)), List.mem_append_right _ (List.mem_of_getElem? (i := 11) (by decide +kernel)), by decide +kernel, by decide +kernel, by decide +kernel, by decide +kernel, by decide +kernel⟩, List.mem_append_right _ (List.mem_of_getElem? (i := 920) (by decide +kernel)), List.mem_append_right _ (List.mem_of_getElem? (i := 921) (by decide +kernel)), by decide +kernel⟩
theorem mwX10_byteOf : xMv mX10_byteOf 2 := ⟨⟨List.mem_append_right _ (List.mem_of_getElem? (i := 926) (by decide +kernel)), List.mem_append_right _ (List.mem_of_getElem? (i := 11) (by decide +kernel)), by decide +kernel, by decide +kernel, by decide +kernel, by decide +kernel, by decide +kernel⟩, List.mem_append_right _ (List.mem_of_getElem? (i := 924) (by decide +kernel)), List.mem_append_right _ (List.mem_of_getElem? (i := 925) (by decide +kernel)), by decide +kernel⟩
theorem mwX10_whole : xMv mX10_whole 1 := ⟨⟨List.mem_append_right _ (List.mem_of_getElem? (i := 934) (by decide +kernel)), List.mem_append_right _ (List.mem_of_getElem? (i := 11) (by decide +kernel)), by decide +kernel, by decide +kernel, by decide +kernel, by decide +kernel, by decide +kernel⟩, List.mem_append_right _ (List.mem_of_getElem? (i := 933) (by decide +kernel)), (by decide +kernel), by decide +kernel⟩
theorem mwX10_optionAt : xMv mX10_optionAt 2 := ⟨⟨List.mem_append_right _ (List.mem_of_getElem? (i := 930) (by decide +kernel)), List.mem_append_right _ (List.mem_of_getElem? (i := 11) (by decide +kernel)), by decide +kernel, by decide +kernel, by decide +kernel, by decide +kernel, by decide +kernel⟩, List.mem_append_right _ (List.mem_of_getElem? (i := 928) (by decide +kernel)), List.mem_append_right _ (List.mem_of_getElem? (i := 929) (by decide +kernel)), by decide +kernel⟩
theorem mwX10_isValue : xMv mX10_isValue 3 := ⟨⟨List.mem_append_right _ (List.mem_of_getElem? (i := 971) (by decide +kernel)), List.mem_append_right _ (List.mem_of_getElem? (i := 11) (by decide +kernel)), by decide +kernel, by decide +kernel, by decide +kernel, by decide +kernel, by decide +kernel⟩, List.mem_append_right _ (List.mem_of_getElem? (i := 970) (by decide +kernel)), (by decide +kernel), by decide +kernel⟩
theorem mwX10_found : xMv mX10_found 0 := ⟨⟨List.mem_append_right _ (List.mem_of_getElem? (i := 963) (by decide +kernel)), List.mem_append_right _ (List.mem_of_getElem? (i := 11) (by decide +kernel)), by decide +kernel, by decide +kernel, by decide +kernel, by decide +kernel, by decide +kernel⟩, List.mem_append_right _ (List.mem_of_getElem? (i := 962) (by decide +kernel)), (by decide +kernel), by decide +kernel⟩
theorem mwX10_isBad : xMv mX10_isBad 0 := ⟨⟨List.mem_append_right _ (List.mem_of_getElem? (i := 956) (by decide +kernel)), List.mem_append_right _ (List.mem_of_getElem? (i := 11) (by decide +kernel)), by decide +kernel, by decide +kernel, by decide +kernel, by decide +kernel, by decide +kernel⟩, List.mem_append_right _ (List.mem_of_getElem? (i := 955) (by decide +kernel)), (by decide +kernel), by decide +kernel⟩
theorem mwX10_tells : xMv mX10_tells 1 := ⟨⟨List.mem_append_right _ (List.mem_of_getElem? (i := 975) (by decide +kernel)), List.mem_append_right _ (List.mem_of_getElem? (i := 11) (by decide +kernel)), by decide +kernel, by decide +kernel, by decide +kernel, by decide +kernel, by decide +kernel⟩, List.mem_append_right _ (List.mem_of_getElem? (i := 974) (by decide +kernel)), (by decide +kernel), by decide +kernel⟩
theorem mwX10_answer : xMv mX10_answer 0 := ⟨⟨List.mem_append_right _ (List.mem_of_getElem? (i := 952) (by decide +kernel)), List.mem_append_right _ (List.mem_of_getElem? (i := 11) (by decide +kernel)), by decide +kernel, by decide +kernel, by decide +kernel, by decide +kernel, by decide +kernel⟩, List.mem_append_right _ (List.mem_of_getElem? (i := 951) (by decide +kernel)), (by decide +kernel), by decide +kernel⟩
theorem mwX10_get : xMv mX10_get 1 := ⟨⟨List.mem_append_right _ (List.mem_of_getElem? (i := 967) (by decide +kernel)), List.mem_append_right _ (List.mem_of_getElem? (i := 11) (by decide +kernel)), by decide +kernel, by decide +kernel, by decide +kernel, by decide +kernel, by decide +kernel⟩, List.mem_append_right _ (List.mem_of_getElem? (i := 966) (by decide +kernel)), (by decide +kernel), by decide +kernel⟩
theorem mwX10_sends : xMv mX10_sends 3 := ⟨⟨List.mem_append_right _ (List.mem_of_getElem? (i := 979) (by decide +kernel)), List.mem_append_right _ (List.mem_of_getElem? (i := 11) (by decide +kernel)), by decide +kernel, by decide +kernel, by decide +kernel, by decide +kernel, by decide +kernel⟩, List.mem_append_right _ (List.mem_of_getElem? (i := 978) (by decide +kernel)), (by decide +kernel), by decide +kernel⟩
theorem mwX10_makes : xMv mX10_makes 0 := ⟨⟨List.mem_append_right _ (List.mem_of_getElem? (i := 988) (by decide +kernel)), List.mem_append_right _ (List.mem_of_getElem? (i := 11) (by decide +kernel)), by decide +kernel, by decide +kernel, by decide +kernel, by decide +kernel, by decide +kernel⟩, List.mem_append_right _ (List.mem_of_getElem? (i := 987) (by decide +kernel)), (by decide +kernel), by decide +kernel⟩
theorem mwX10_goes : xMv mX10_goes 1 := ⟨⟨List.mem_append_right _ (List.mem_of_getElem? (i := 984) (by decide +kernel)), List.mem_append_right _ (List.mem_of_getElem? (i := 11) (by decide +kernel)), by decide +kernel, by decide +kernel, by decide +kernel, by decide +kernel, by decide +kernel⟩, List.mem_append_right _ (List.mem_of_getElem? (i := 983) (by decide +kernel)), (by decide +kernel), by decide +kernel⟩
theorem mwX10_resets : xMv mX10_resets 0 := ⟨⟨List.mem_append_right _ (List.mem_of_getElem? (i := 948) (by decide +kernel)), List.mem_append_right _ (List.mem_of_getElem? (i := 11) (by decide +kernel)), by decide +kernel, by decide +kernel, by decide +kernel, by decide +kernel, by decide +kernel⟩, List.mem_append_right _ (List.mem_of_getElem? (i := 947) (by decide +kernel)), (by decide +kernel), by decide +kernel⟩
theorem mwX10_nothing : xMv mX10_nothing 0 := ⟨⟨List.mem_append_right _ (List.mem_of_getElem? (i := 944) (by decide +kernel)), List.mem_append_right _ (List.mem_of_getElem? (i := 11) (by decide +kernel)), by decide +kernel, by decide +kernel, by decide +kernel, by decide +kernel, by decide +kernel⟩, List.mem_append_right _ (List.mem_of_getElem? (i := 943) (by decide +kernel)), (by decide +kernel), by decide +kernel⟩
theorem mwX10_serve : xMv mX10_serve 1 := ⟨⟨List.mem_append_right _ (List.mem_of_getElem? (i := 940) (by decide +kernel)), List.mem_append_right _ (List.mem_of_getElem? (i := 11) (by decide +kernel)), by decide +kernel, by decide +kernel, by decide +kernel, by decide +kernel, by decide +kernel⟩, List.mem_append_right _ (List.mem_of_getElem? (i := 938) (by decide +kernel)), List.mem_append_right _ (List.mem_of_getElem? (i := 939) (by decide +kernel)), by decide +kernel⟩
theorem mwX10_hand : xMv mX10_hand 1 := ⟨⟨List.mem_append_right _ (List.mem_of_getElem? (i := 992) (by decide +kernel)), List.mem_append_right _ (List.mem_of_getElem? (i := 11) (by decide +kernel)), by decide +kernel, by decide +kernel, by decide +kernel, by decide +kernel, by decide +kernel⟩, List.mem_append_right _ (List.mem_of_getElem? (i := 990) (by decide +kernel)), List.mem_append_right _ (List.mem_of_getElem? (i := 991) (by decide +kernel)), by decide +kernel⟩
theorem mwX10_total : xMv mX10_total 1 := ⟨⟨List.mem_append_right _ (List.mem_of_getElem? (i := 996) (by decide +kernel)), List.mem_append_right _ (List.mem_of_getElem? (i := 11) (by decide +kernel)), by decide +kernel, by decide +kernel, by decide +kernel, by decide +kernel, by decide +kernel⟩, List.mem_append_right _ (List.mem_of_getElem? (i := 994) (by decide +kernel)), List.mem_append_right _ (List.mem_of_getElem? (i := 995) (by decide +kernel)), by decide +kernel⟩
theorem mwX10_resource : xMv mX10_resource 2 := ⟨⟨List.mem_append_right _ (List.mem_of_getElem? (i := 1000) (by decide +kernel)), List.mem_append_right _ (List.mem_of_getElem? (i := 11) (by decide +kernel)), by decide +kernel, by decide +kernel, by decide +kernel, by decide +kernel, by decide +kernel⟩, List.mem_append_right _ (List.mem_of_getElem? (i := 998) (by decide +kernel)), List.mem_append_right _ (List.mem_of_getElem? (i := 999) (by decide +kernel)), by decide +kernel⟩
theorem lkL_X9_init : Cond.methodLink RL 64 yX9_init ∈ lw_tbl := List.mem_append_right _ (List.mem_of_getElem? (i := 22) (by decide +kernel))
theorem lkX9_obj : Cond.methodLink RX9 3 objectInit ∈ lw_tbl := List.mem_append_right _ (List.mem_of_getElem? (i := 25) (by decide +kernel))
theorem lkX9_X0_init : Cond.methodLink RX9 11 yX0_init ∈ lw_tbl := List.mem_append_right _ (List.mem_of_getElem? (i := 30) (by decide +kernel))
theorem lkX0_obj : Cond.methodLink RX0 3 objectInit ∈ lw_tbl := List.mem_append_right _ (List.mem_of_getElem? (i := 33) (by decide +kernel))
theorem lkX9_X4_init : Cond.methodLinkNest RX9 20 yX4_init "CoapDesk" ∈ lw_tbl := List.mem_append_right _ (List.mem_of_getElem? (i := 48) (by decide +kernel))
theorem lkX4_obj : Cond.methodLink RX4 3 objectInit ∈ lw_tbl := List.mem_append_right _ (List.mem_of_getElem? (i := 51) (by decide +kernel))
theorem lkX9_X7_init : Cond.methodLink RX9 27 yX7_init ∈ lw_tbl := List.mem_append_right _ (List.mem_of_getElem? (i := 61) (by decide +kernel))
theorem lkX7_obj : Cond.methodLink RX7 3 objectInit ∈ lw_tbl := List.mem_append_right _ (List.mem_of_getElem? (i := 64) (by decide +kernel))
theorem lkX7_X8_init : Cond.methodLink RX7 11 yX8_init ∈ lw_tbl := List.mem_append_right _ (List.mem_of_getElem? (i := 67) (by decide +kernel))
theorem lkX8_obj : Cond.methodLink RX8 3 objectInit ∈ lw_tbl := List.mem_append_right _ (List.mem_of_getElem? (i := 70) (by decide +kernel))
theorem lkX8_X5_init : Cond.methodLinkNest RX8 17 yX5_init "CoapDesk" ∈ lw_tbl := List.mem_append_right _ (List.mem_of_getElem? (i := 74) (by decide +kernel))
theorem lkX5_obj : Cond.methodLink RX5 3 objectInit ∈ lw_tbl := List.mem_append_right _ (List.mem_of_getElem? (i := 77) (by decide +kernel))
theorem lkX5_X0_init : Cond.methodLink RX5 13 yX0_init ∈ lw_tbl := List.mem_append_right _ (List.mem_of_getElem? (i := 79) (by decide +kernel))
theorem lkX7_X1_init : Cond.methodLink RX7 26 yX1_init ∈ lw_tbl := List.mem_append_right _ (List.mem_of_getElem? (i := 116) (by decide +kernel))
theorem lkX1_obj : Cond.methodLink RX1 3 objectInit ∈ lw_tbl := List.mem_append_right _ (List.mem_of_getElem? (i := 119) (by decide +kernel))
theorem lkX1_X0_init : Cond.methodLink RX1 11 yX0_init ∈ lw_tbl := List.mem_append_right _ (List.mem_of_getElem? (i := 121) (by decide +kernel))
theorem lkX1_X2_init : Cond.methodLinkNest RX1 29 yX2_init "CoapDesk" ∈ lw_tbl := List.mem_append_right _ (List.mem_of_getElem? (i := 125) (by decide +kernel))
theorem lkX2_obj : Cond.methodLink RX2 3 objectInit ∈ lw_tbl := List.mem_append_right _ (List.mem_of_getElem? (i := 128) (by decide +kernel))
theorem lkX2_X0_init : Cond.methodLink RX2 11 yX0_init ∈ lw_tbl := List.mem_append_right _ (List.mem_of_getElem? (i := 130) (by decide +kernel))
theorem lkX7_X0_init : Cond.methodLink RX7 37 yX0_init ∈ lw_tbl := List.mem_append_right _ (List.mem_of_getElem? (i := 188) (by decide +kernel))
theorem lkX7_X3_init : Cond.methodLink RX7 42 yX3_init ∈ lw_tbl := List.mem_append_right _ (List.mem_of_getElem? (i := 190) (by decide +kernel))
theorem lkX3_obj : Cond.methodLink RX3 1 objectInit ∈ lw_tbl := List.mem_append_right _ (List.mem_of_getElem? (i := 193) (by decide +kernel))
theorem lkX3_X6_init : Cond.methodLinkNest RX3 15 yX6_init "CoapDesk" ∈ lw_tbl := List.mem_append_right _ (List.mem_of_getElem? (i := 197) (by decide +kernel))
theorem lkX6_obj : Cond.methodLink RX6 3 objectInit ∈ lw_tbl := List.mem_append_right _ (List.mem_of_getElem? (i := 200) (by decide +kernel))
theorem lkX6_X0_init : Cond.methodLink RX6 13 yX0_init ∈ lw_tbl := List.mem_append_right _ (List.mem_of_getElem? (i := 202) (by decide +kernel))
theorem lkX9_X1_init : Cond.methodLink RX9 34 yX1_init ∈ lw_tbl := List.mem_append_right _ (List.mem_of_getElem? (i := 250) (by decide +kernel))
theorem lkL_X9_hand : Cond.methodLink RL 118 yX9_hand ∈ lw_tbl := List.mem_append_right _ (List.mem_of_getElem? (i := 267) (by decide +kernel))
theorem lkX9_X0_at : Cond.methodLink RX9 145 yX0_at ∈ lw_tbl := List.mem_append_right _ (List.mem_of_getElem? (i := 271) (by decide +kernel))
theorem lkL_L_begin : Cond.methodLink RL 70 yL_begin ∈ lw_tbl := List.mem_append_right _ (List.mem_of_getElem? (i := 275) (by decide +kernel))
theorem lkL_X9_begin : Cond.methodLink RL 7 yX9_begin ∈ lw_tbl := List.mem_append_right _ (List.mem_of_getElem? (i := 279) (by decide +kernel))
theorem lkX9_X9_within : Cond.methodLink RX9 42 yX9_within ∈ lw_tbl := List.mem_append_right _ (List.mem_of_getElem? (i := 283) (by decide +kernel))
theorem lkX9_X1_restart : Cond.methodLink RX9 54 yX1_restart ∈ lw_tbl := List.mem_append_right _ (List.mem_of_getElem? (i := 354) (by decide +kernel))
theorem lkX1_X0_clear : Cond.methodLink RX1 40 yX0_clear ∈ lw_tbl := List.mem_append_right _ (List.mem_of_getElem? (i := 358) (by decide +kernel))
theorem lkX9_X0_addLowFirst : Cond.methodLink RX9 61 yX0_addLowFirst ∈ lw_tbl := List.mem_append_right _ (List.mem_of_getElem? (i := 362) (by decide +kernel))
theorem lkL_L_option : Cond.methodLink RL 79 yL_option ∈ lw_tbl := List.mem_append_right _ (List.mem_of_getElem? (i := 366) (by decide +kernel))
theorem lkL_X9_option : Cond.methodLink RL 15 yX9_option ∈ lw_tbl := List.mem_append_right _ (List.mem_of_getElem? (i := 370) (by decide +kernel))
theorem lkX9_X1_put : Cond.methodLink RX9 67 yX1_put ∈ lw_tbl := List.mem_append_right _ (List.mem_of_getElem? (i := 375) (by decide +kernel))
theorem lkL_L_longer : Cond.methodLink RL 83 yL_longer ∈ lw_tbl := List.mem_append_right _ (List.mem_of_getElem? (i := 395) (by decide +kernel))
theorem lkL_X9_longer : Cond.methodLink RL 21 yX9_longer ∈ lw_tbl := List.mem_append_right _ (List.mem_of_getElem? (i := 398) (by decide +kernel))
theorem lkX9_X0_hasRoom : Cond.methodLink RX9 91 yX0_hasRoom ∈ lw_tbl := List.mem_append_right _ (List.mem_of_getElem? (i := 403) (by decide +kernel))
theorem lkL_L_payload : Cond.methodLink RL 87 yL_payload ∈ lw_tbl := List.mem_append_right _ (List.mem_of_getElem? (i := 408) (by decide +kernel))
theorem lkL_X9_payload : Cond.methodLink RL 25 yX9_payload ∈ lw_tbl := List.mem_append_right _ (List.mem_of_getElem? (i := 411) (by decide +kernel))
theorem lkX9_X9_extend : Cond.methodLink RX9 103 yX9_extend ∈ lw_tbl := List.mem_append_right _ (List.mem_of_getElem? (i := 415) (by decide +kernel))
theorem lkL_L_write : Cond.methodLink RL 90 yL_write ∈ lw_tbl := List.mem_append_right _ (List.mem_of_getElem? (i := 419) (by decide +kernel))
theorem lkL_X9_write : Cond.methodLink RL 28 yX9_write ∈ lw_tbl := List.mem_append_right _ (List.mem_of_getElem? (i := 422) (by decide +kernel))
theorem lkX9_X1_writtenSize : Cond.methodLink RX9 107 yX1_writtenSize ∈ lw_tbl := List.mem_append_right _ (List.mem_of_getElem? (i := 426) (by decide +kernel))
theorem lkX1_X1_moreBytes : Cond.methodLink RX1 59 yX1_moreBytes ∈ lw_tbl := List.mem_append_right _ (List.mem_of_getElem? (i := 430) (by decide +kernel))
theorem lkX9_X0_clear : Cond.methodLink RX9 113 yX0_clear ∈ lw_tbl := List.mem_append_right _ (List.mem_of_getElem? (i := 434) (by decide +kernel))
theorem lkX9_X1_writeBehind : Cond.methodLink RX9 116 yX1_writeBehind ∈ lw_tbl := List.mem_append_right _ (List.mem_of_getElem? (i := 435) (by decide +kernel))
theorem lkX1_X0_add : Cond.methodLink RX1 63 yX0_add ∈ lw_tbl := List.mem_append_right _ (List.mem_of_getElem? (i := 439) (by decide +kernel))
theorem lkX1_X0_addHighFirst : Cond.methodLink RX1 66 yX0_addHighFirst ∈ lw_tbl := List.mem_append_right _ (List.mem_of_getElem? (i := 443) (by decide +kernel))
theorem lkX1_X0_addAll : Cond.methodLink RX1 70 yX0_addAll ∈ lw_tbl := List.mem_append_right _ (List.mem_of_getElem? (i := 447) (by decide +kernel))
theorem lkX0_X0_addPart : Cond.methodLink RX0 29 yX0_addPart ∈ lw_tbl := List.mem_append_right _ (List.mem_of_getElem? (i := 451) (by decide +kernel))
theorem lkX0_X0_hasRoom : Cond.methodLink RX0 19 yX0_hasRoom ∈ lw_tbl := List.mem_append_right _ (List.mem_of_getElem? (i := 455) (by decide +kernel))
theorem lkX0_arraycopy : Cond.methodLink RX0 23 arraycopyName ∈ lw_tbl := List.mem_append_right _ (List.mem_of_getElem? (i := 456) (by decide +kernel))
theorem lkX1_X1_writeOption : Cond.methodLink RX1 74 yX1_writeOption ∈ lw_tbl := List.mem_append_right _ (List.mem_of_getElem? (i := 459) (by decide +kernel))
theorem lkX1_X1_shortForm : Cond.methodLink RX1 78 yX1_shortForm ∈ lw_tbl := List.mem_append_right _ (List.mem_of_getElem? (i := 462) (by decide +kernel))
theorem lkX1_X1_writeMore : Cond.methodLink RX1 81 yX1_writeMore ∈ lw_tbl := List.mem_append_right _ (List.mem_of_getElem? (i := 465) (by decide +kernel))
theorem lkL_L_feed : Cond.methodLink RL 94 yL_feed ∈ lw_tbl := List.mem_append_right _ (List.mem_of_getElem? (i := 468) (by decide +kernel))
theorem lkL_X9_feed : Cond.methodLink RL 32 yX9_feed ∈ lw_tbl := List.mem_append_right _ (List.mem_of_getElem? (i := 471) (by decide +kernel))
theorem lkL_L_end : Cond.methodLink RL 97 yL_end ∈ lw_tbl := List.mem_append_right _ (List.mem_of_getElem? (i := 475) (by decide +kernel))
theorem lkL_X9_end : Cond.methodLink RL 35 yX9_end ∈ lw_tbl := List.mem_append_right _ (List.mem_of_getElem? (i := 478) (by decide +kernel))
theorem lkX9_X0_keepFirst : Cond.methodLink RX9 122 yX0_keepFirst ∈ lw_tbl := List.mem_append_right _ (List.mem_of_getElem? (i := 483) (by decide +kernel))
theorem lkL_L_read : Cond.methodLink RL 101 yL_read ∈ lw_tbl := List.mem_append_right _ (List.mem_of_getElem? (i := 487) (by decide +kernel))
theorem lkL_X9_read : Cond.methodLink RL 39 yX9_read ∈ lw_tbl := List.mem_append_right _ (List.mem_of_getElem? (i := 491) (by decide +kernel))
theorem lkX9_X4_parse : Cond.methodLink RX9 125 yX4_parse ∈ lw_tbl := List.mem_append_right _ (List.mem_of_getElem? (i := 495) (by decide +kernel))
theorem lkX4_X4_parseHead : Cond.methodLink RX4 9 yX4_parseHead ∈ lw_tbl := List.mem_append_right _ (List.mem_of_getElem? (i := 499) (by decide +kernel))
theorem lkX4_X0_at : Cond.methodLink RX4 27 yX0_at ∈ lw_tbl := List.mem_append_right _ (List.mem_of_getElem? (i := 503) (by decide +kernel))
theorem lkX4_X1_restart : Cond.methodLink RX4 47 yX1_restart ∈ lw_tbl := List.mem_append_right _ (List.mem_of_getElem? (i := 504) (by decide +kernel))
theorem lkX4_X0_addPart : Cond.methodLink RX4 55 yX0_addPart ∈ lw_tbl := List.mem_append_right _ (List.mem_of_getElem? (i := 505) (by decide +kernel))
theorem lkX4_X4_parseOption : Cond.methodLink RX4 31 yX4_parseOption ∈ lw_tbl := List.mem_append_right _ (List.mem_of_getElem? (i := 506) (by decide +kernel))
theorem lkX4_X4_told : Cond.methodLink RX4 59 yX4_told ∈ lw_tbl := List.mem_append_right _ (List.mem_of_getElem? (i := 510) (by decide +kernel))
theorem lkX4_X1_put : Cond.methodLink RX4 64 yX1_put ∈ lw_tbl := List.mem_append_right _ (List.mem_of_getElem? (i := 515) (by decide +kernel))
theorem lkX4_X4_parsePayload : Cond.methodLink RX4 41 yX4_parsePayload ∈ lw_tbl := List.mem_append_right _ (List.mem_of_getElem? (i := 516) (by decide +kernel))
theorem lkL_L_about : Cond.methodLink RL 104 yL_about ∈ lw_tbl := List.mem_append_right _ (List.mem_of_getElem? (i := 536) (by decide +kernel))
theorem lkL_X9_about : Cond.methodLink RL 44 yX9_about ∈ lw_tbl := List.mem_append_right _ (List.mem_of_getElem? (i := 539) (by decide +kernel))
theorem lkL_L_byteOf : Cond.methodLink RL 108 yL_byteOf ∈ lw_tbl := List.mem_append_right _ (List.mem_of_getElem? (i := 544) (by decide +kernel))
theorem lkL_X9_byteOf : Cond.methodLink RL 48 yX9_byteOf ∈ lw_tbl := List.mem_append_right _ (List.mem_of_getElem? (i := 547) (by decide +kernel))
theorem lkX9_X1_at : Cond.methodLink RX9 149 yX1_at ∈ lw_tbl := List.mem_append_right _ (List.mem_of_getElem? (i := 551) (by decide +kernel))
theorem lkL_L_optionAt : Cond.methodLink RL 112 yL_optionAt ∈ lw_tbl := List.mem_append_right _ (List.mem_of_getElem? (i := 556) (by decide +kernel))
theorem lkL_X9_optionAt : Cond.methodLink RL 52 yX9_optionAt ∈ lw_tbl := List.mem_append_right _ (List.mem_of_getElem? (i := 559) (by decide +kernel))
theorem lkX9_X0_wholeNumber : Cond.methodLink RX9 158 yX0_wholeNumber ∈ lw_tbl := List.mem_append_right _ (List.mem_of_getElem? (i := 564) (by decide +kernel))
theorem lkX0_X0_at : Cond.methodLink RX0 33 yX0_at ∈ lw_tbl := List.mem_append_right _ (List.mem_of_getElem? (i := 570) (by decide +kernel))
theorem lkL_L_serve : Cond.methodLink RL 115 yL_serve ∈ lw_tbl := List.mem_append_right _ (List.mem_of_getElem? (i := 571) (by decide +kernel))
theorem lkL_X9_serve : Cond.methodLink RL 55 yX9_serve ∈ lw_tbl := List.mem_append_right _ (List.mem_of_getElem? (i := 574) (by decide +kernel))
theorem lkX9_X7_take : Cond.methodLink RX9 164 yX7_take ∈ lw_tbl := List.mem_append_right _ (List.mem_of_getElem? (i := 579) (by decide +kernel))
theorem lkX7_X7_sendReset : Cond.methodLink RX7 53 yX7_sendReset ∈ lw_tbl := List.mem_append_right _ (List.mem_of_getElem? (i := 583) (by decide +kernel))
theorem lkX7_X1_restart : Cond.methodLink RX7 94 yX1_restart ∈ lw_tbl := List.mem_append_right _ (List.mem_of_getElem? (i := 587) (by decide +kernel))
theorem lkX7_X1_writeBehind : Cond.methodLink RX7 83 yX1_writeBehind ∈ lw_tbl := List.mem_append_right _ (List.mem_of_getElem? (i := 588) (by decide +kernel))
theorem lkX7_X3_find : Cond.methodLink RX7 57 yX3_find ∈ lw_tbl := List.mem_append_right _ (List.mem_of_getElem? (i := 589) (by decide +kernel))
theorem lkX7_X3_remember : Cond.methodLink RX7 67 yX3_remember ∈ lw_tbl := List.mem_append_right _ (List.mem_of_getElem? (i := 593) (by decide +kernel))
theorem lkX3_X0_clear : Cond.methodLink RX3 27 yX0_clear ∈ lw_tbl := List.mem_append_right _ (List.mem_of_getElem? (i := 597) (by decide +kernel))
theorem lkX7_X7_beginAnswer : Cond.methodLink RX7 70 yX7_beginAnswer ∈ lw_tbl := List.mem_append_right _ (List.mem_of_getElem? (i := 598) (by decide +kernel))
theorem lkX7_X0_addAll : Cond.methodLink RX7 87 yX0_addAll ∈ lw_tbl := List.mem_append_right _ (List.mem_of_getElem? (i := 603) (by decide +kernel))
theorem lkX7_X7_decide : Cond.methodLink RX7 74 yX7_decide ∈ lw_tbl := List.mem_append_right _ (List.mem_of_getElem? (i := 604) (by decide +kernel))
theorem lkX7_X7_hasBadOption : Cond.methodLink RX7 105 yX7_hasBadOption ∈ lw_tbl := List.mem_append_right _ (List.mem_of_getElem? (i := 608) (by decide +kernel))
theorem lkX7_X7_isBad : Cond.methodLink RX7 140 yX7_isBad ∈ lw_tbl := List.mem_append_right _ (List.mem_of_getElem? (i := 611) (by decide +kernel))
theorem lkX7_X0_wholeNumber : Cond.methodLink RX7 155 yX0_wholeNumber ∈ lw_tbl := List.mem_append_right _ (List.mem_of_getElem? (i := 614) (by decide +kernel))
theorem lkX7_X7_takePath : Cond.methodLink RX7 109 yX7_takePath ∈ lw_tbl := List.mem_append_right _ (List.mem_of_getElem? (i := 618) (by decide +kernel))
theorem lkX7_X0_clear : Cond.methodLink RX7 165 yX0_clear ∈ lw_tbl := List.mem_append_right _ (List.mem_of_getElem? (i := 622) (by decide +kernel))
theorem lkX7_X0_addHighFirst : Cond.methodLink RX7 171 yX0_addHighFirst ∈ lw_tbl := List.mem_append_right _ (List.mem_of_getElem? (i := 623) (by decide +kernel))
theorem lkX7_X8_find : Cond.methodLink RX7 112 yX8_find ∈ lw_tbl := List.mem_append_right _ (List.mem_of_getElem? (i := 624) (by decide +kernel))
theorem lkX8_X0_isSameAs : Cond.methodLink RX8 26 yX0_isSameAs ∈ lw_tbl := List.mem_append_right _ (List.mem_of_getElem? (i := 628) (by decide +kernel))
theorem lkX7_X7_answerGet : Cond.methodLink RX7 115 yX7_answerGet ∈ lw_tbl := List.mem_append_right _ (List.mem_of_getElem? (i := 632) (by decide +kernel))
theorem lkX7_X7_knowsTag : Cond.methodLink RX7 190 yX7_knowsTag ∈ lw_tbl := List.mem_append_right _ (List.mem_of_getElem? (i := 636) (by decide +kernel))
theorem lkX7_X0_isTag : Cond.methodLink RX7 186 yX0_isTag ∈ lw_tbl := List.mem_append_right _ (List.mem_of_getElem? (i := 639) (by decide +kernel))
theorem lkX0_X0_wholeNumber : Cond.methodLink RX0 37 yX0_wholeNumber ∈ lw_tbl := List.mem_append_right _ (List.mem_of_getElem? (i := 643) (by decide +kernel))
theorem lkX7_X7_addNumber : Cond.methodLink RX7 193 yX7_addNumber ∈ lw_tbl := List.mem_append_right _ (List.mem_of_getElem? (i := 644) (by decide +kernel))
theorem lkX7_X1_put : Cond.methodLink RX7 219 yX1_put ∈ lw_tbl := List.mem_append_right _ (List.mem_of_getElem? (i := 648) (by decide +kernel))
theorem lkX7_X1_first : Cond.methodLink RX7 175 yX1_first ∈ lw_tbl := List.mem_append_right _ (List.mem_of_getElem? (i := 649) (by decide +kernel))
theorem lkX7_X7_answerBlock : Cond.methodLink RX7 196 yX7_answerBlock ∈ lw_tbl := List.mem_append_right _ (List.mem_of_getElem? (i := 653) (by decide +kernel))
theorem lkX7_X7_fewestBytes : Cond.methodLink RX7 206 yX7_fewestBytes ∈ lw_tbl := List.mem_append_right _ (List.mem_of_getElem? (i := 657) (by decide +kernel))
theorem lkX7_min : Cond.methodLink RX7 209 Lib.Math.min.name ∈ lw_tbl := List.mem_append_right _ (List.mem_of_getElem? (i := 660) (by decide +kernel))
theorem lkX7_X0_addPart : Cond.methodLink RX7 215 yX0_addPart ∈ lw_tbl := List.mem_append_right _ (List.mem_of_getElem? (i := 663) (by decide +kernel))
theorem lkX7_X7_failsCondition : Cond.methodLink RX7 119 yX7_failsCondition ∈ lw_tbl := List.mem_append_right _ (List.mem_of_getElem? (i := 664) (by decide +kernel))
theorem lkX7_X7_matches : Cond.methodLink RX7 182 yX7_matches ∈ lw_tbl := List.mem_append_right _ (List.mem_of_getElem? (i := 667) (by decide +kernel))
theorem lkX7_X7_answerPost : Cond.methodLink RX7 123 yX7_answerPost ∈ lw_tbl := List.mem_append_right _ (List.mem_of_getElem? (i := 670) (by decide +kernel))
theorem lkX7_X0_hasRoom : Cond.methodLink RX7 230 yX0_hasRoom ∈ lw_tbl := List.mem_append_right _ (List.mem_of_getElem? (i := 674) (by decide +kernel))
theorem lkX7_X7_change : Cond.methodLink RX7 226 yX7_change ∈ lw_tbl := List.mem_append_right _ (List.mem_of_getElem? (i := 675) (by decide +kernel))
theorem lkX7_X8_giveNextTag : Cond.methodLink RX7 233 yX8_giveNextTag ∈ lw_tbl := List.mem_append_right _ (List.mem_of_getElem? (i := 679) (by decide +kernel))
theorem lkX7_X7_answerPut : Cond.methodLink RX7 126 yX7_answerPut ∈ lw_tbl := List.mem_append_right _ (List.mem_of_getElem? (i := 684) (by decide +kernel))
theorem lkX7_X8_make : Cond.methodLink RX7 222 yX8_make ∈ lw_tbl := List.mem_append_right _ (List.mem_of_getElem? (i := 688) (by decide +kernel))
theorem lkX8_X0_clear : Cond.methodLink RX8 32 yX0_clear ∈ lw_tbl := List.mem_append_right _ (List.mem_of_getElem? (i := 692) (by decide +kernel))
theorem lkX8_X0_addAll : Cond.methodLink RX8 35 yX0_addAll ∈ lw_tbl := List.mem_append_right _ (List.mem_of_getElem? (i := 693) (by decide +kernel))
theorem lkX7_X7_answerDelete : Cond.methodLink RX7 129 yX7_answerDelete ∈ lw_tbl := List.mem_append_right _ (List.mem_of_getElem? (i := 694) (by decide +kernel))
theorem lkX7_X8_remove : Cond.methodLink RX7 237 yX8_remove ∈ lw_tbl := List.mem_append_right _ (List.mem_of_getElem? (i := 698) (by decide +kernel))
theorem lkX7_X0_at : Cond.methodLink RX7 90 yX0_at ∈ lw_tbl := List.mem_append_right _ (List.mem_of_getElem? (i := 702) (by decide +kernel))
theorem lkL_L_total : Cond.methodLink RL 122 yL_total ∈ lw_tbl := List.mem_append_right _ (List.mem_of_getElem? (i := 703) (by decide +kernel))
theorem lkL_X9_total : Cond.methodLink RL 58 yX9_total ∈ lw_tbl := List.mem_append_right _ (List.mem_of_getElem? (i := 706) (by decide +kernel))
theorem lkL_L_resource : Cond.methodLink RL 125 yL_resource ∈ lw_tbl := List.mem_append_right _ (List.mem_of_getElem? (i := 710) (by decide +kernel))
theorem lkL_X9_resource : Cond.methodLink RL 61 yX9_resource ∈ lw_tbl := List.mem_append_right _ (List.mem_of_getElem? (i := 713) (by decide +kernel))
theorem lkX9_X8_at : Cond.methodLink RX9 187 yX8_at ∈ lw_tbl := List.mem_append_right _ (List.mem_of_getElem? (i := 717) (by decide +kernel))
theorem lkL_X10_init : Cond.methodLink RL 67 yX10_init ∈ lw_tbl := List.mem_append_right _ (List.mem_of_getElem? (i := 724) (by decide +kernel))
theorem lkX10_obj : Cond.methodLink RX10 1 objectInit ∈ lw_tbl := List.mem_append_right _ (List.mem_of_getElem? (i := 727) (by decide +kernel))
theorem lkL_X10_thrown : Cond.methodLink RL 76 yX10_thrown ∈ lw_tbl := List.mem_append_right _ (List.mem_of_getElem? (i := 828) (by decide +kernel))
theorem lkL_X10_begin : Cond.methodLink RL 75 yX10_begin ∈ lw_tbl := List.mem_append_right _ (List.mem_of_getElem? (i := 832) (by decide +kernel))
theorem lkX10_X10_refuses : Cond.methodLink RX10 91 yX10_refuses ∈ lw_tbl := List.mem_append_right _ (List.mem_of_getElem? (i := 837) (by decide +kernel))
theorem lkX10_X10_begins : Cond.methodLink RX10 95 yX10_begins ∈ lw_tbl := List.mem_append_right _ (List.mem_of_getElem? (i := 841) (by decide +kernel))
theorem lkX10_X10_low : Cond.methodLink RX10 99 yX10_low ∈ lw_tbl := List.mem_append_right _ (List.mem_of_getElem? (i := 845) (by decide +kernel))
theorem lkL_X10_option : Cond.methodLink RL 82 yX10_option ∈ lw_tbl := List.mem_append_right _ (List.mem_of_getElem? (i := 849) (by decide +kernel))
theorem lkX10_X10_place : Cond.methodLink RX10 103 yX10_place ∈ lw_tbl := List.mem_append_right _ (List.mem_of_getElem? (i := 853) (by decide +kernel))
theorem lkX10_X10_longer : Cond.methodLink RX10 107 yX10_longer ∈ lw_tbl := List.mem_append_right _ (List.mem_of_getElem? (i := 857) (by decide +kernel))
theorem lkL_X10_longer_ : Cond.methodLink RL 86 yX10_longer_ ∈ lw_tbl := List.mem_append_right _ (List.mem_of_getElem? (i := 861) (by decide +kernel))
theorem lkL_X10_payload : Cond.methodLink RL 89 yX10_payload ∈ lw_tbl := List.mem_append_right _ (List.mem_of_getElem? (i := 865) (by decide +kernel))
theorem lkL_X10_write : Cond.methodLink RL 93 yX10_write ∈ lw_tbl := List.mem_append_right _ (List.mem_of_getElem? (i := 869) (by decide +kernel))
theorem lkX10_X10_size : Cond.methodLink RX10 128 yX10_size ∈ lw_tbl := List.mem_append_right _ (List.mem_of_getElem? (i := 873) (by decide +kernel))
theorem lkX10_X10_more : Cond.methodLink RX10 111 yX10_more ∈ lw_tbl := List.mem_append_right _ (List.mem_of_getElem? (i := 877) (by decide +kernel))
theorem lkX10_X10_writes : Cond.methodLink RX10 131 yX10_writes ∈ lw_tbl := List.mem_append_right _ (List.mem_of_getElem? (i := 880) (by decide +kernel))
theorem lkX10_X10_put : Cond.methodLink RX10 118 yX10_put ∈ lw_tbl := List.mem_append_right _ (List.mem_of_getElem? (i := 884) (by decide +kernel))
theorem lkX10_X10_nibble : Cond.methodLink RX10 122 yX10_nibble ∈ lw_tbl := List.mem_append_right _ (List.mem_of_getElem? (i := 888) (by decide +kernel))
theorem lkX10_X10_extra : Cond.methodLink RX10 125 yX10_extra ∈ lw_tbl := List.mem_append_right _ (List.mem_of_getElem? (i := 891) (by decide +kernel))
theorem lkL_X10_feed : Cond.methodLink RL 96 yX10_feed ∈ lw_tbl := List.mem_append_right _ (List.mem_of_getElem? (i := 895) (by decide +kernel))
theorem lkL_X10_end : Cond.methodLink RL 100 yX10_end ∈ lw_tbl := List.mem_append_right _ (List.mem_of_getElem? (i := 899) (by decide +kernel))
theorem lkL_X10_read : Cond.methodLink RL 103 yX10_read ∈ lw_tbl := List.mem_append_right _ (List.mem_of_getElem? (i := 903) (by decide +kernel))
theorem lkX10_X10_fault : Cond.methodLink RX10 141 yX10_fault ∈ lw_tbl := List.mem_append_right _ (List.mem_of_getElem? (i := 907) (by decide +kernel))
theorem lkX10_X10_told : Cond.methodLink RX10 138 yX10_told ∈ lw_tbl := List.mem_append_right _ (List.mem_of_getElem? (i := 911) (by decide +kernel))
theorem lkX10_X10_copies : Cond.methodLink RX10 145 yX10_copies ∈ lw_tbl := List.mem_append_right _ (List.mem_of_getElem? (i := 915) (by decide +kernel))
theorem lkL_X10_about : Cond.methodLink RL 107 yX10_about ∈ lw_tbl := List.mem_append_right _ (List.mem_of_getElem? (i := 919) (by decide +kernel))
theorem lkL_X10_byteOf : Cond.methodLink RL 111 yX10_byteOf ∈ lw_tbl := List.mem_append_right _ (List.mem_of_getElem? (i := 923) (by decide +kernel))
theorem lkL_X10_optionAt : Cond.methodLink RL 114 yX10_optionAt ∈ lw_tbl := List.mem_append_right _ (List.mem_of_getElem? (i := 927) (by decide +kernel))
theorem lkX10_X10_whole : Cond.methodLink RX10 152 yX10_whole ∈ lw_tbl := List.mem_append_right _ (List.mem_of_getElem? (i := 931) (by decide +kernel))
theorem lkL_X10_serve : Cond.methodLink RL 117 yX10_serve ∈ lw_tbl := List.mem_append_right _ (List.mem_of_getElem? (i := 937) (by decide +kernel))
theorem lkX10_X10_nothing : Cond.methodLink RX10 197 yX10_nothing ∈ lw_tbl := List.mem_append_right _ (List.mem_of_getElem? (i := 941) (by decide +kernel))
theorem lkX10_X10_resets : Cond.methodLink RX10 200 yX10_resets ∈ lw_tbl := List.mem_append_right _ (List.mem_of_getElem? (i := 945) (by decide +kernel))
theorem lkX10_X10_answer : Cond.methodLink RX10 212 yX10_answer ∈ lw_tbl := List.mem_append_right _ (List.mem_of_getElem? (i := 949) (by decide +kernel))
theorem lkX10_X10_isBad : Cond.methodLink RX10 165 yX10_isBad ∈ lw_tbl := List.mem_append_right _ (List.mem_of_getElem? (i := 953) (by decide +kernel))
theorem lkX10_X10_found : Cond.methodLink RX10 169 yX10_found ∈ lw_tbl := List.mem_append_right _ (List.mem_of_getElem? (i := 960) (by decide +kernel))
theorem lkX10_X10_get : Cond.methodLink RX10 172 yX10_get ∈ lw_tbl := List.mem_append_right _ (List.mem_of_getElem? (i := 964) (by decide +kernel))
theorem lkX10_X10_isValue : Cond.methodLink RX10 175 yX10_isValue ∈ lw_tbl := List.mem_append_right _ (List.mem_of_getElem? (i := 968) (by decide +kernel))
theorem lkX10_X10_tells : Cond.methodLink RX10 188 yX10_tells ∈ lw_tbl := List.mem_append_right _ (List.mem_of_getElem? (i := 972) (by decide +kernel))
theorem lkX10_X10_sends : Cond.methodLink RX10 191 yX10_sends ∈ lw_tbl := List.mem_append_right _ (List.mem_of_getElem? (i := 976) (by decide +kernel))
theorem lkX10_X10_goes : Cond.methodLink RX10 179 yX10_goes ∈ lw_tbl := List.mem_append_right _ (List.mem_of_getElem? (i := 981) (by decide +kernel))
theorem lkX10_X10_makes : Cond.methodLink RX10 182 yX10_makes ∈ lw_tbl := List.mem_append_right _ (List.mem_of_getElem? (i := 985) (by decide +kernel))
theorem lkL_X10_hand : Cond.methodLink RL 121 yX10_hand ∈ lw_tbl := List.mem_append_right _ (List.mem_of_getElem? (i := 989) (by decide +kernel))
theorem lkL_X10_total : Cond.methodLink RL 124 yX10_total ∈ lw_tbl := List.mem_append_right _ (List.mem_of_getElem? (i := 993) (by decide +kernel))
theorem lkL_X10_resource : Cond.methodLink RL 127 yX10_resource ∈ lw_tbl := List.mem_append_right _ (List.mem_of_getElem? (i := 997) (by decide +kernel))
theorem ckL_X9 : Cond.classLink RL 8 RX9 ∈ lw_tbl := List.mem_append_right _ (List.mem_of_getElem? (i := 20) (by decide +kernel))
theorem ckX9_X0 : Cond.classLink RX9 9 RX0 ∈ lw_tbl := List.mem_append_right _ (List.mem_of_getElem? (i := 28) (by decide +kernel))
theorem ckX9_X4 : Cond.classLink RX9 18 RX4 ∈ lw_tbl := List.mem_append_right _ (List.mem_of_getElem? (i := 46) (by decide +kernel))
theorem ckX9_X7 : Cond.classLink RX9 25 RX7 ∈ lw_tbl := List.mem_append_right _ (List.mem_of_getElem? (i := 59) (by decide +kernel))
theorem ckX7_X8 : Cond.classLink RX7 9 RX8 ∈ lw_tbl := List.mem_append_right _ (List.mem_of_getElem? (i := 65) (by decide +kernel))
theorem ckX8_X5 : Cond.classLink RX8 9 RX5 ∈ lw_tbl := List.mem_append_right _ (List.mem_of_getElem? (i := 71) (by decide +kernel))
theorem ckX5_X0 : Cond.classLink RX5 9 RX0 ∈ lw_tbl := List.mem_append_right _ (List.mem_of_getElem? (i := 78) (by decide +kernel))
theorem ckX7_X3 : Cond.classLink RX7 18 RX3 ∈ lw_tbl := List.mem_append_right _ (List.mem_of_getElem? (i := 112) (by decide +kernel))
theorem ckX7_X1 : Cond.classLink RX7 24 RX1 ∈ lw_tbl := List.mem_append_right _ (List.mem_of_getElem? (i := 114) (by decide +kernel))
theorem ckX1_X0 : Cond.classLink RX1 9 RX0 ∈ lw_tbl := List.mem_append_right _ (List.mem_of_getElem? (i := 120) (by decide +kernel))
theorem ckX1_X2 : Cond.classLink RX1 23 RX2 ∈ lw_tbl := List.mem_append_right _ (List.mem_of_getElem? (i := 122) (by decide +kernel))
theorem ckX2_X0 : Cond.classLink RX2 9 RX0 ∈ lw_tbl := List.mem_append_right _ (List.mem_of_getElem? (i := 129) (by decide +kernel))
theorem ckX7_X0 : Cond.classLink RX7 33 RX0 ∈ lw_tbl := List.mem_append_right _ (List.mem_of_getElem? (i := 187) (by decide +kernel))
theorem ckX3_X6 : Cond.classLink RX3 9 RX6 ∈ lw_tbl := List.mem_append_right _ (List.mem_of_getElem? (i := 194) (by decide +kernel))
theorem ckX6_X0 : Cond.classLink RX6 9 RX0 ∈ lw_tbl := List.mem_append_right _ (List.mem_of_getElem? (i := 201) (by decide +kernel))
theorem ckX9_X1 : Cond.classLink RX9 32 RX1 ∈ lw_tbl := List.mem_append_right _ (List.mem_of_getElem? (i := 249) (by decide +kernel))
theorem ckL_IllegalArgumentException : Cond.classLink RL 13 "java/lang/IllegalArgumentException" ∈ lw_tbl := List.mem_append_right _ (List.mem_of_getElem? (i := 278) (by decide +kernel))
theorem ckX9_IllegalArgumentException : Cond.classLink RX9 47 "java/lang/IllegalArgumentException" ∈ lw_tbl := List.mem_append_right _ (List.mem_of_getElem? (i := 287) (by decide +kernel))
theorem ckL_IllegalStateException : Cond.classLink RL 19 "java/lang/IllegalStateException" ∈ lw_tbl := List.mem_append_right _ (List.mem_of_getElem? (i := 369) (by decide +kernel))
theorem ckX9_IllegalStateException : Cond.classLink RX9 71 "java/lang/IllegalStateException" ∈ lw_tbl := List.mem_append_right _ (List.mem_of_getElem? (i := 379) (by decide +kernel))
theorem ckL_UnsupportedOperationException : Cond.classLink RL 42 "java/lang/UnsupportedOperationException" ∈ lw_tbl := List.mem_append_right _ (List.mem_of_getElem? (i := 490) (by decide +kernel))
theorem ckX9_UnsupportedOperationException : Cond.classLink RX9 129 "java/lang/UnsupportedOperationException" ∈ lw_tbl := List.mem_append_right _ (List.mem_of_getElem? (i := 520) (by decide +kernel))
theorem ckL_X10 : Cond.classLink RL 65 RX10 ∈ lw_tbl := List.mem_append_right _ (List.mem_of_getElem? (i := 722) (by decide +kernel))
theorem xnew_in : ∀ c ∈ List.range 11, Cond.instantiable (xRn c) (xNN c) ∈ lw_tbl ∧ Cond.initialized (xRn c) ∈ lw_tbl := by decide +kernel
theorem xarc_in : ∀ t ∈ ([.byte, .int, .long] : List FieldType), Cond.arrayClass t ∈ lw_tbl := by decide +kernel
theorem xaro_in : ∀ t ∈ ([RX2, RX5, RX6, RX3] : List String), Cond.arrayOver (.object t) ∈ lw_tbl := by decide +kernel
theorem xobj_in : Cond.instanceMethod objectInit ∈ lw_tbl ∧ Cond.code objectInit ⟨#[0xb1]⟩ 1 none ∈ lw_tbl := by decide +kernel
theorem xcpy_in : Cond.native arraycopyName ∈ lw_tbl ∧ Cond.static arraycopyName ∈ lw_tbl ∧ Cond.initialized "java/lang/System" ∈ lw_tbl := by decide +kernel
theorem xmin_in : Cond.static Lib.Math.min.name ∈ lw_tbl ∧ Cond.initialized "java/lang/Math" ∈ lw_tbl ∧ Cond.code Lib.Math.min.name Lib.Math.min.code 2 (some .int) ∈ lw_tbl := by decide +kernel
end
section
/-! the world: values are numbers, a heap is its size, what lies where, numbers and references -/
abbrev xV : Type := Int ⊕ (Int ⊕ Nat)
abbrev xT : Type := (Nat × Nat) ⊕ Nat
abbrev xL : Type := Nat → Option xV
abbrev xI : Type := Nat → Nat → Int
abbrev xN : Type := Nat → Nat → Nat
abbrev xY : Type := Nat → Option xT
abbrev xE : Type := va_G × (Nat → ClassId) × Nat
abbrev xG : Type := Program × Launch × Env × Room × State × MethodId × Array Value × List Frame × Method × Code
def xr (a : Nat) : Value := if a = 0 then .null else .ref a
def xv (v : xV) : Value := match v with
  | .inl z => .int (Int32.ofInt z)
  | .inr (.inl z) => .long (Int64.ofInt z)
  | .inr (.inr a) => xr a
theorem xr_pos {a : Nat} (h : 0 < a) : xr a = .ref a := by unfold xr; rw [if_neg (by omega)]
theorem xr_0 : xr 0 = .null := rfl
theorem xr_cat (a : Nat) : (xr a).category = 1 := by unfold xr; split <;> rfl
theorem xr_isRef (a : Nat) : (xr a).isRef = true := by unfold xr; split <;> rfl
/-- the types of arrays -/
def xat (k : Nat) : FieldType := match k with
  | 0 => .byte
  | 1 => .int
  | 2 => .long
  | 3 => .object RX2
  | 4 => .object RX5
  | 5 => .object RX6
  | _ => .object RX3
/-- a field's kind: 0 int, 1 reference, 2 boolean -/
def xfk (c k : Nat) : Nat := match xty c k with
  | .int => 0
  | .boolean => 2
  | _ => 1
def xfv (t : Nat) (z : Int) (a : Nat) : Value := if t = 1 then xr a else .int (Int32.ofInt z)
def xav (k : Nat) (z : Int) (a : Nat) : Value := if k ≤ 1 then .int (Int32.ofInt z) else if k = 2 then .long (Int64.ofInt z) else xr a
def xAt (E : xE) (T : xY) (I : xI) (N : xN) (H : Heap) (a : Nat) : Prop := match T a with
  | none => True
  | some (.inl (k, n)) => H[a]? = some (arrV (E.2.1 k) n (fun j => xav k (I a j) (N a j))) ∧ n < 2147483648 ∧ E.2.2 ≤ a ∧ k < 7
  | some (.inr c) => c < 11 ∧ t_OB a (E.1.1 c) (xNN c) (E.1.2 c) H (fun k => xfv (xfk c k) (I a k) (N a k)) ∧ E.2.2 ≤ a
def xR (E : xE) (z : Nat) (T : xY) (I : xI) (N : xN) (H : Heap) : Prop := H.size = z ∧ E.2.2 ≤ z ∧ 1 ≤ E.2.2 ∧ ∀ a, xAt E T I N H a
def xty7 (E : xE) : List (ClassId × FieldType) := [(E.2.1 0, xat 0), (E.2.1 1, xat 1), (E.2.1 2, xat 2), (E.2.1 3, xat 3), (E.2.1 4, xat 4), (E.2.1 5, xat 5), (E.2.1 6, xat 6)]
def xK (E : xE) (U : State) : Prop := va_K E.1 vwCl (xty7 E) U
theorem xty7_at (E : xE) {k : Nat} (h : k < 7) : (xty7 E)[k]? = some (E.2.1 k, xat k) := by
  rcases (by omega : k = 0 ∨ k = 1 ∨ k = 2 ∨ k = 3 ∨ k = 4 ∨ k = 5 ∨ k = 6) with h | h | h | h | h | h | h <;> subst h <;> rfl
theorem xcl_at {c : Nat} (h : c < 11) : vwCl[c]? = some (xRn c, xTT c, xNN c) := by
  rcases (by omega : c = 0 ∨ c = 1 ∨ c = 2 ∨ c = 3 ∨ c = 4 ∨ c = 5 ∨ c = 6 ∨ c = 7 ∨ c = 8 ∨ c = 9 ∨ c = 10) with h | h | h | h | h | h | h | h | h | h | h <;> subst h <;> rfl
theorem xty_ok {c : Nat} (h : c < 11) : ∀ k, k < xNN c → parseFieldDescriptor (xTT c k).2.2.1 = some (xty c k) := by
  rcases (by omega : c = 0 ∨ c = 1 ∨ c = 2 ∨ c = 3 ∨ c = 4 ∨ c = 5 ∨ c = 6 ∨ c = 7 ∨ c = 8 ∨ c = 9 ∨ c = 10) with h | h | h | h | h | h | h | h | h | h | h <;> subst h
  · exact tyX0_ok
  · exact tyX1_ok
  · exact tyX2_ok
  · exact tyX3_ok
  · exact tyX4_ok
  · exact tyX5_ok
  · exact tyX6_ok
  · exact tyX7_ok
  · exact tyX8_ok
  · exact tyX9_ok
  · exact tyX10_ok
theorem xnm_ok {c : Nat} (h : c < 11) : ∀ a, a < xNN c → ∀ b, b < xNN c → a ≠ b → (xTT c a).2.1 ≠ (xTT c b).2.1 := by
  rcases (by omega : c = 0 ∨ c = 1 ∨ c = 2 ∨ c = 3 ∨ c = 4 ∨ c = 5 ∨ c = 6 ∨ c = 7 ∨ c = 8 ∨ c = 9 ∨ c = 10) with h | h | h | h | h | h | h | h | h | h | h <;> subst h
  · exact nmX0
  · exact nmX1
  · exact nmX2
  · exact nmX3
  · exact nmX4
  · exact nmX5
  · exact nmX6
  · exact nmX7
  · exact nmX8
  · exact nmX9
  · exact nmX10
theorem xK.cls {E : xE} {U : State} (h : xK E U) {c : Nat} (hc : c < 11) : u_Kn U (xRn c) (xTT c) (xNN c) (E.1.1 c) (E.1.2 c) := h.1 c _ (xcl_at hc)
theorem xK.arr {E : xE} {U : State} (h : xK E U) {k : Nat} (hk : k < 7) : ArrOfT U (E.2.1 k) (xat k) ∧ va_RA U (E.2.1 k) (xat k) := h.2 k _ (xty7_at E hk)
theorem xK.moved {E : xE} {u U : State} (hvm : u.vm.Alike U.vm) (h : xK E u) : xK E U := va_K.moved hvm h
/-- the words that hold on -/
def xok (w : Cond) : Bool := (w.onTables && w.keeps) || (match w with
  | .arrayClass _ => true
  | .arrayOver (.object _) => true
  | .fieldLinkNest .. => true
  | .methodLinkNest .. => true
  | .declares _ => true
  | .castable _ _ => true
  | .privateMethod _ => true
  | _ => false)
def xW (U : State) : Prop := ∀ w ∈ lw_tbl, xok w = true → w.before #[] U = true
theorem xok_at {w : Cond} (hw : xok w = true) {A A' : Array Value} {s U : State} (hW : s.WarmedH U.vm) (h : w.before A s = true) : w.before A' U = true := by
  by_cases hk : (w.onTables && w.keeps) = true
  · exact word_at hW (Or.inl hk) h
  · have hk' : (w.onTables && w.keeps) = false := by simpa using hk
    unfold xok at hw
    rw [hk', Bool.false_or] at hw
    cases w with
    | arrayClass ty => exact word_at hW (Or.inr ⟨ty, rfl⟩) h
    | arrayOver ty =>
      cases ty with
      | object C => exact va_AO.use (A := A') (va_AO.moved hW.alike (va_AO.of h))
      | _ => simp at hw
    | fieldLinkNest a i b n d h' => exact va_Nw.use rfl (va_Nw.warmF hW (va_Nw.of rfl h))
    | methodLinkNest a i x h' => exact va_Nw.use rfl (va_Nw.warmM hW (va_Nw.of rfl h))
    | declares x => exact va_Nw.use rfl (va_Nw.warmD hW (va_Nw.of rfl h))
    | castable a b => exact va_Nw.use rfl (va_Nw.warmC hW (va_Nw.of rfl h))
    | privateMethod x => exact va_tabs (u := s.setVm U.vm) (A := A) rfl rfl (by rw [Cond.privateMethod_setVm hW.alike]; exact h)
    | _ => simp at hw
theorem xW.at {s U : State} (h : xW s) (hW : s.WarmedH U.vm) {w : Cond} (hw : w ∈ lw_tbl) (hk : xok w = true) (A : Array Value) : w.before A U = true := xok_at hk hW (h w hw hk)
theorem xW.warm {s U : State} (h : xW s) (hW : s.WarmedH U.vm) : xW U := fun _ hw hk => h.at hW hw hk _
theorem xW.use {s : State} (h : xW s) {w : Cond} (hw : w ∈ lw_tbl) (hk : xok w = true) {A : Array Value} : w.before A s = true := h.at (State.WarmedH.refl s) hw hk A
def xus (c : Nat) : List Cond := u_ws (xRn c) (xTT c) (xNN c)
theorem xus_in : ∀ c ∈ List.range 11, ∀ w ∈ xus c, w ∈ lw_tbl ∧ xok w = true := by decide +kernel
theorem xfr_in : ∀ o ∈ List.range 12, ∀ e ∈ xfr o, (if e.2.2.2 then Cond.fieldLinkNest (xRn o) e.1 (xTT e.2.1 e.2.2.1).1 (xTT e.2.1 e.2.2.1).2.1 (xTT e.2.1 e.2.2.1).2.2.1 "CoapDesk" else Cond.fieldLink (xRn o) e.1 (xTT e.2.1 e.2.2.1).1 (xTT e.2.1 e.2.2.1).2.1 (xTT e.2.1 e.2.2.1).2.2.1) ∈ lw_tbl ∧ e.2.1 < 11 ∧ e.2.2.1 < xNN e.2.1 := by decide +kernel
theorem xcr_in : ∀ o ∈ List.range 12, ∀ e ∈ xcr o, Cond.constant (xRn o) e.1 (Int32.ofInt e.2) ∈ lw_tbl := by decide +kernel
theorem xlr_in : ∀ o ∈ List.range 12, ∀ e ∈ xlr o, Cond.constantLong (xRn o) e.1 (Int64.ofInt e.2) ∈ lw_tbl := by decide +kernel
theorem xW.us {s : State} (h : xW s) {c : Nat} (hc : c < 11) {A : Array Value} : ∀ w ∈ xus c, w.before A s = true := fun w hw => h.use (xus_in c (List.mem_range.mpr hc) w hw).1 (xus_in c (List.mem_range.mpr hc) w hw).2
end
section
/-! the walk of a method over the world, and a program that walks its straight stretches -/
def xLs (ls : Array Slot) (n : Nat) (lv : xL) : Prop := ls.size = n ∧ lv_wf ls ∧ ∀ i v, lv i = some v → ls[i]? = some (.val (xv v))
def xkl (o : Option xV) : Option xV := match o with
  | some (.inl x) => some (.inl x)
  | some (.inr (.inr a)) => some (.inr (.inr a))
  | _ => none
def xset (lv : xL) (i : Nat) (v : xV) : xL := fun j => if j = i then some v else if j + 1 = i then xkl (lv j) else lv j
def xset2 (lv : xL) (i : Nat) (v : xV) : xL := fun j => if j = i then some v else if j = i + 1 then none else if j + 1 = i then xkl (lv j) else lv j
theorem xkl_some {o : Option xV} {w : xV} (h : xkl o = some w) : o = some w ∧ (xv w).category = 1 := by
  unfold xkl at h
  split at h
  · cases h; exact ⟨rfl, rfl⟩
  · cases h; exact ⟨rfl, xr_cat _⟩
  · cases h
theorem xset_ok {ls : Array Slot} {n : Nat} {lv : xL} {i : Nat} {v : xV} (h : xLs ls n lv) (hi : i < n) (hc : (xv v).category = 1) : ∃ ls', storeLocals ls i (xv v) = some ls' ∧ xLs ls' n (xset lv i v) := by
  obtain ⟨ls', e, h0⟩ := lv_store1 (l := []) (v := xv v) ⟨h.1, h.2.1, fun q hq => nomatch hq⟩ hi hc
  have key : ∀ (j : Nat) (w : xV), lv j = some w → j ≠ i → (j + 1 = i → (xv w).category = 1) → ls'[j]? = some (.val (xv w)) := by
    intro j w hj hne hcat
    obtain ⟨ls2, e2, h2⟩ := lv_store1 (l := [(j, xv w)]) (v := xv v) ⟨h.1, h.2.1, fun q hq => by rw [List.mem_singleton.mp hq]; exact h.2.2 j w hj⟩ hi hc
    cases Option.some.inj (e.symm.trans e2)
    refine h2.2.2 (j, xv w) (List.mem_cons_of_mem _ (List.mem_filter.mpr ⟨List.mem_singleton.mpr rfl, ?_⟩))
    simp only [Bool.and_eq_true, Bool.not_eq_true', beq_eq_false_iff_ne, ne_eq, Bool.and_eq_false_iff]
    refine ⟨hne, ?_⟩
    by_cases h1 : j + 1 = i
    · exact Or.inr (by rw [hcat h1]; decide)
    · exact Or.inl h1
  refine ⟨ls', e, h0.1, h0.2.1, fun j w hj => ?_⟩
  unfold xset at hj
  split at hj
  · rename_i hji
    cases hj
    subst hji
    exact h0.2.2 (j, xv v) (List.mem_cons_self ..)
  · rename_i hji
    split at hj
    · obtain ⟨h1, h2⟩ := xkl_some hj
      exact key j w h1 hji (fun _ => h2)
    · rename_i h1
      exact key j w hj hji (fun h => absurd h h1)
theorem xset2_ok {ls : Array Slot} {n : Nat} {lv : xL} {i : Nat} {v : xV} (h : xLs ls n lv) (hi : i + 1 < n) (hc : (xv v).category = 2) : ∃ ls', storeLocals ls i (xv v) = some ls' ∧ xLs ls' n (xset2 lv i v) := by
  obtain ⟨ls', e, h0⟩ := lv_store2 (l := []) (v := xv v) ⟨h.1, h.2.1, fun q hq => nomatch hq⟩ hi hc
  have key : ∀ (j : Nat) (w : xV), lv j = some w → j ≠ i → j ≠ i + 1 → (j + 1 = i → (xv w).category = 1) → ls'[j]? = some (.val (xv w)) := by
    intro j w hj hne hne2 hcat
    obtain ⟨ls2, e2, h2⟩ := lv_store2 (l := [(j, xv w)]) (v := xv v) ⟨h.1, h.2.1, fun q hq => by rw [List.mem_singleton.mp hq]; exact h.2.2 j w hj⟩ hi hc
    cases Option.some.inj (e.symm.trans e2)
    refine h2.2.2 (j, xv w) (List.mem_cons_of_mem _ (List.mem_filter.mpr ⟨List.mem_singleton.mpr rfl, ?_⟩))
    simp only [Bool.and_eq_true, Bool.not_eq_true', beq_eq_false_iff_ne, ne_eq, Bool.and_eq_false_iff]
    refine ⟨hne, hne2, ?_⟩
    by_cases h1 : j + 1 = i
    · exact Or.inr (by rw [hcat h1]; decide)
    · exact Or.inl h1
  refine ⟨ls', e, h0.1, h0.2.1, fun j w hj => ?_⟩
  unfold xset2 at hj
  split at hj
  · rename_i hji
    cases hj
    subst hji
    exact h0.2.2 (j, xv v) (List.mem_cons_self ..)
  · rename_i hji
    split at hj
    · cases hj
    · rename_i hj2
      split at hj
      · obtain ⟨h1, h2⟩ := xkl_some hj
        exact key j w h1 hji hj2 (fun _ => h2)
      · rename_i h1
        exact key j w hj hji hj2 (fun h => absurd h h1)
abbrev gp (Γ : xG) : Program := Γ.1
abbrev gl (Γ : xG) : Launch := Γ.2.1
abbrev ge (Γ : xG) : Env := Γ.2.2.1
abbrev gR (Γ : xG) : Room := Γ.2.2.2.1
abbrev gs (Γ : xG) : State := Γ.2.2.2.2.1
abbrev gm (Γ : xG) : MethodId := Γ.2.2.2.2.2.1
abbrev ga (Γ : xG) : Array Value := Γ.2.2.2.2.2.2.1
abbrev gb (Γ : xG) : List Frame := Γ.2.2.2.2.2.2.2.1
abbrev gt (Γ : xG) : Method := Γ.2.2.2.2.2.2.2.2.1
abbrev gc (Γ : xG) : Code := Γ.2.2.2.2.2.2.2.2.2
/-- what the start must say of the JDK's statics, and of the texts -/
def xX (E : xE) (U : State) (H : Heap) : Prop := vx_Zq Bundle.tN "UNASSIGNED_STACK" Bundle.steD (fun q => E.2.2 ≤ q) U H ∧ vx_Zq Bundle.tN "SUPPRESSED_SENTINEL" Bundle.listD (fun q => E.2.2 ≤ q) U H
def xC (Γ : xG) (E : xE) (M : xM) : Prop :=
  ((gp Γ).tables.exec = Jvm.exec ∧ (gc Γ).code = M.2.1 ∧ (gt Γ).sig.returnType = M.2.2.2.1 ∧ (gc Γ).maxLocals = M.2.2.1 ∧ (gs Γ).vm.findClass (xRn M.2.2.2.2.1) = some (gm Γ).cls ∧ (gt Γ).locks = false ∧ (gt Γ).name = M.1.name) ∧
  (∀ e ∈ M.2.2.2.2.2, decode M.2.1 e.1 = .ok (e.2.1, e.2.2)) ∧ M.2.2.2.2.1 < 12 ∧ xK E (gs Γ) ∧ xW (gs Γ) ∧ xX E (gs Γ) (gs Γ).heap ∧ E.2.2 ≤ (gs Γ).heap.size
def V (Γ : xG) (E : xE) (Q : State → Prop) (z : Nat) (T : xY) (I : xI) (N : xN) (ce sl pc : Nat) (lv : xL) (st : List xV) : Prop :=
  ∀ (H : Heap) (locs : List Loc) (ls : Array Slot), xR E z T I N H → va_S (fun q => E.2.2 ≤ q) (gs Γ).heap H locs → xLs ls (gc Γ).maxLocals lv →
    W (gp Γ) (gl Γ) (ge Γ) (gR Γ) (gs Γ) (gm Γ) (ga Γ) (gb Γ) (gt Γ) (gc Γ) H locs ce sl Q (F0 (gm Γ) pc ls (st.map xv))
abbrev xF : Type := Nat × xL × List xV × xI × xN
def xup {α : Type} (f : Nat → Nat → α) (a k : Nat) (v : α) : Nat → Nat → α := va_up f a (va_up (f a) k v)
abbrev xIn (x : Int) : Prop := -2147483648 ≤ x ∧ x ≤ 2147483647
abbrev xIl (x : Int) : Prop := -9223372036854775808 ≤ x ∧ x ≤ 9223372036854775807
def xAr (T : xY) (a k : Nat) (i : Int) : Prop := ∃ n, T a = some (.inl (k, n)) ∧ 0 ≤ i ∧ i < n
def xlen (T : xY) (a : Nat) : Nat := match T a with
  | some (.inl (_, n)) => n
  | _ => 0
/-- the class of what an array of references holds -/
def xec (k : Nat) : Nat := match k with
  | 3 => 2
  | 4 => 5
  | 5 => 6
  | _ => 3
def zAnd (x y : Int) : Int := (Int32.ofInt x &&& Int32.ofInt y).toInt
def zShl (x y : Int) : Int := (Int32.ofInt x <<< (Int32.ofInt y &&& 31)).toInt
def zShr (x y : Int) : Int := (Int32.ofInt x >>> (Int32.ofInt y &&& 31)).toInt
def zUsh (x y : Int) : Int := (((Int32.ofInt x).toUInt32 >>> ((Int32.ofInt y).toUInt32 &&& Int32.toUInt32 31)).toInt32).toInt
def zB (x : Int) : Int := ((Int32.ofInt x).toInt8.toInt32).toInt
def zLand (x y : Int) : Int := (Int64.ofInt x &&& Int64.ofInt y).toInt
def zLor (x y : Int) : Int := (Int64.ofInt x ||| Int64.ofInt y).toInt
def zLsh (x y : Int) : Int := (Int64.ofInt x <<< ((Int32.ofInt y).toInt64 &&& 63)).toInt
def zLus (x y : Int) : Int := (((Int64.ofInt x).toUInt64 >>> ((Int32.ofInt y).toInt64.toUInt64 &&& Int64.toUInt64 63)).toInt64).toInt
def zCmp (x y : Int) : Int := if y < x then 1 else if x = y then 0 else -1
def xi1 (st : List xV) (f : Int → List xV → Option (Option Prop × xF)) : Option (Option Prop × xF) := match st with
  | .inl x :: r => f x r
  | _ => none
def xi2 (st : List xV) (f : Int → Int → List xV → Option (Option Prop × xF)) : Option (Option Prop × xF) := match st with
  | .inl y :: .inl x :: r => f x y r
  | _ => none
def xl1 (st : List xV) (f : Int → List xV → Option (Option Prop × xF)) : Option (Option Prop × xF) := match st with
  | .inr (.inl x) :: r => f x r
  | _ => none
def xl2 (st : List xV) (f : Int → Int → List xV → Option (Option Prop × xF)) : Option (Option Prop × xF) := match st with
  | .inr (.inl y) :: .inr (.inl x) :: r => f x y r
  | _ => none
def xil (st : List xV) (f : Int → Int → List xV → Option (Option Prop × xF)) : Option (Option Prop × xF) := match st with
  | .inl y :: .inr (.inl x) :: r => f x y r
  | _ => none
def xa1 (st : List xV) (f : Nat → List xV → Option (Option Prop × xF)) : Option (Option Prop × xF) := match st with
  | .inr (.inr a) :: r => f a r
  | _ => none
def xia (st : List xV) (f : Nat → Int → List xV → Option (Option Prop × xF)) : Option (Option Prop × xF) := match st with
  | .inl i :: .inr (.inr a) :: r => f a i r
  | _ => none
theorem xi1_some {st : List xV} {f : Int → List xV → Option (Option Prop × xF)} {o : Option Prop × xF} (h : xi1 st f = some o) : ∃ x r, st = .inl x :: r ∧ f x r = some o := by
  unfold xi1 at h; split at h
  · exact ⟨_, _, rfl, h⟩
  · cases h
theorem xi2_some {st : List xV} {f : Int → Int → List xV → Option (Option Prop × xF)} {o : Option Prop × xF} (h : xi2 st f = some o) : ∃ x y r, st = .inl y :: .inl x :: r ∧ f x y r = some o := by
  unfold xi2 at h; split at h
  · exact ⟨_, _, _, rfl, h⟩
  · cases h
theorem xl1_some {st : List xV} {f : Int → List xV → Option (Option Prop × xF)} {o : Option Prop × xF} (h : xl1 st f = some o) : ∃ x r, st = .inr (.inl x) :: r ∧ f x r = some o := by
  unfold xl1 at h; split at h
  · exact ⟨_, _, rfl, h⟩
  · cases h
theorem xl2_some {st : List xV} {f : Int → Int → List xV → Option (Option Prop × xF)} {o : Option Prop × xF} (h : xl2 st f = some o) : ∃ x y r, st = .inr (.inl y) :: .inr (.inl x) :: r ∧ f x y r = some o := by
  unfold xl2 at h; split at h
  · exact ⟨_, _, _, rfl, h⟩
  · cases h
theorem xil_some {st : List xV} {f : Int → Int → List xV → Option (Option Prop × xF)} {o : Option Prop × xF} (h : xil st f = some o) : ∃ x y r, st = .inl y :: .inr (.inl x) :: r ∧ f x y r = some o := by
  unfold xil at h; split at h
  · exact ⟨_, _, _, rfl, h⟩
  · cases h
theorem xa1_some {st : List xV} {f : Nat → List xV → Option (Option Prop × xF)} {o : Option Prop × xF} (h : xa1 st f = some o) : ∃ x r, st = .inr (.inr x) :: r ∧ f x r = some o := by
  unfold xa1 at h; split at h
  · exact ⟨_, _, rfl, h⟩
  · cases h
theorem xia_some {st : List xV} {f : Nat → Int → List xV → Option (Option Prop × xF)} {o : Option Prop × xF} (h : xia st f = some o) : ∃ a i r, st = .inl i :: .inr (.inr a) :: r ∧ f a i r = some o := by
  unfold xia at h; split at h
  · exact ⟨_, _, _, rfl, h⟩
  · cases h
def xfe (M : xM) (pc : Nat) : Option (Instr × Nat) := M.2.2.2.2.2.lookup pc
theorem xlook {l : List (Nat × Instr × Nat)} {k : Nat} {v : Instr × Nat} (h : l.lookup k = some v) : (k, v.1, v.2) ∈ l := by
  induction l with
  | nil => simp at h
  | cons a t ih =>
    obtain ⟨k', v'⟩ := a
    rw [List.lookup_cons] at h
    cases hb : k == k' with
    | true =>
      rw [hb] at h
      cases h
      rw [beq_iff_eq.mp hb]
      exact List.mem_cons_self ..
    | false =>
      rw [hb] at h
      exact List.mem_cons_of_mem _ (ih h)
theorem xlook2 {α : Type} {l : List (Nat × α)} {k : Nat} {v : α} (h : l.lookup k = some v) : (k, v) ∈ l := by
  induction l with
  | nil => simp at h
  | cons a t ih =>
    obtain ⟨k', v'⟩ := a
    rw [List.lookup_cons] at h
    cases hb : k == k' with
    | true =>
      rw [hb] at h
      cases h
      rw [beq_iff_eq.mp hb]
      exact List.mem_cons_self ..
    | false =>
      rw [hb] at h
      exact List.mem_cons_of_mem _ (ih h)
theorem xC.dec {Γ : xG} {E : xE} {M : xM} (C : xC Γ E M) {pc : Nat} {i : Instr} {n : Nat} (h : xfe M pc = some (i, n)) : decode M.2.1 pc = .ok (i, n) := by
  have h1 := C.2.1 (pc, i, n) (xlook h)
  dsimp only at h1
  exact h1
/-- one straight step: what must hold, and where it leads -/
def xs2 (M : xM) (T : xY) (pc : Nat) (lv : xL) (st : List xV) (I : xI) (N : xN) (len : Nat) (i : Instr) : Option (Option Prop × xF) :=
  if len = 1 then match i with
    | .iconst n => some (none, pc + 1, lv, .inl n :: st, I, N)
    | .lconst n => some (none, pc + 1, lv, .inr (.inl ((n : Nat) : Int)) :: st, I, N)
    | .aconst_null => some (none, pc + 1, lv, .inr (.inr 0) :: st, I, N)
    | .iload_n k => match lv k.val with
      | some (.inl x) => some (none, pc + 1, lv, .inl x :: st, I, N)
      | _ => none
    | .lload_n k => match lv k.val with
      | some (.inr (.inl x)) => some (none, pc + 1, lv, .inr (.inl x) :: st, I, N)
      | _ => none
    | .aload_n k => match lv k.val with
      | some (.inr (.inr x)) => some (none, pc + 1, lv, .inr (.inr x) :: st, I, N)
      | _ => none
    | .istore_n k => if k.val < M.2.2.1 then xi1 st fun x r => some (none, pc + 1, xset lv k.val (.inl x), r, I, N) else none
    | .astore_n k => if k.val < M.2.2.1 then xa1 st fun x r => some (none, pc + 1, xset lv k.val (.inr (.inr x)), r, I, N) else none
    | .lstore_n k => if k.val + 1 < M.2.2.1 then xl1 st fun x r => some (none, pc + 1, xset2 lv k.val (.inr (.inl x)), r, I, N) else none
    | .iadd => xi2 st fun x y r => some (none, pc + 1, lv, .inl (x + y) :: r, I, N)
    | .isub => xi2 st fun x y r => some (none, pc + 1, lv, .inl (x - y) :: r, I, N)
    | .imul => xi2 st fun x y r => some (none, pc + 1, lv, .inl (x * y) :: r, I, N)
    | .ineg => xi1 st fun x r => some (none, pc + 1, lv, .inl (-x) :: r, I, N)
    | .iand => xi2 st fun x y r => some (none, pc + 1, lv, .inl (zAnd x y) :: r, I, N)
    | .ishl => xi2 st fun x y r => some (none, pc + 1, lv, .inl (zShl x y) :: r, I, N)
    | .ishr => xi2 st fun x y r => some (none, pc + 1, lv, .inl (zShr x y) :: r, I, N)
    | .iushr => xi2 st fun x y r => some (none, pc + 1, lv, .inl (zUsh x y) :: r, I, N)
    | .idiv => xi2 st fun x y r => some (some ((0 ≤ x ∧ x ≤ 2147483647) ∧ 0 < y ∧ y ≤ 2147483647), pc + 1, lv, .inl (x / y) :: r, I, N)
    | .irem => xi2 st fun x y r => some (some ((0 ≤ x ∧ x ≤ 2147483647) ∧ 0 < y ∧ y ≤ 2147483647), pc + 1, lv, .inl (x % y) :: r, I, N)
    | .ladd => xl2 st fun x y r => some (none, pc + 1, lv, .inr (.inl (x + y)) :: r, I, N)
    | .lmul => xl2 st fun x y r => some (none, pc + 1, lv, .inr (.inl (x * y)) :: r, I, N)
    | .land => xl2 st fun x y r => some (none, pc + 1, lv, .inr (.inl (zLand x y)) :: r, I, N)
    | .lor => xl2 st fun x y r => some (none, pc + 1, lv, .inr (.inl (zLor x y)) :: r, I, N)
    | .ldiv => xl2 st fun x y r => some (some ((0 ≤ x ∧ x ≤ 9223372036854775807) ∧ 0 < y ∧ y ≤ 9223372036854775807), pc + 1, lv, .inr (.inl (x / y)) :: r, I, N)
    | .lrem => xl2 st fun x y r => some (some ((0 ≤ x ∧ x ≤ 9223372036854775807) ∧ 0 < y ∧ y ≤ 9223372036854775807), pc + 1, lv, .inr (.inl (x % y)) :: r, I, N)
    | .lshl => xil st fun x y r => some (none, pc + 1, lv, .inr (.inl (zLsh x y)) :: r, I, N)
    | .lushr => xil st fun x y r => some (none, pc + 1, lv, .inr (.inl (zLus x y)) :: r, I, N)
    | .lcmp => xl2 st fun x y r => some (some (xIl x ∧ xIl y), pc + 1, lv, .inl (zCmp x y) :: r, I, N)
    | .i2l => xi1 st fun x r => some (some (xIn x), pc + 1, lv, .inr (.inl x) :: r, I, N)
    | .l2i => xl1 st fun x r => some (none, pc + 1, lv, .inl x :: r, I, N)
    | .i2b => xi1 st fun x r => some (none, pc + 1, lv, .inl (zB x) :: r, I, N)
    | .dup => match st with
      | .inl x :: r => some (none, pc + 1, lv, .inl x :: .inl x :: r, I, N)
      | .inr (.inr a) :: r => some (none, pc + 1, lv, .inr (.inr a) :: .inr (.inr a) :: r, I, N)
      | _ => none
    | .dup2 => match st with
      | .inl x :: .inr (.inr a) :: r => some (none, pc + 1, lv, .inl x :: .inr (.inr a) :: .inl x :: .inr (.inr a) :: r, I, N)
      | _ => none
    | .iaload => xia st fun a i r => some (some (xAr T a 1 i), pc + 1, lv, .inl (I a i.toNat) :: r, I, N)
    | .baload => xia st fun a i r => some (some (xAr T a 0 i), pc + 1, lv, .inl (I a i.toNat) :: r, I, N)
    | .laload => xia st fun a i r => some (some (xAr T a 2 i), pc + 1, lv, .inr (.inl (I a i.toNat)) :: r, I, N)
    | .aaload => xia st fun a i r => some (some ((∃ k, 3 ≤ k ∧ xAr T a k i)), pc + 1, lv, .inr (.inr (N a i.toNat)) :: r, I, N)
    | .iastore => xi1 st fun x st => xia st fun a i r => some (some (xAr T a 1 i), pc + 1, lv, r, xup I a i.toNat x, N)
    | .bastore => xi1 st fun x st => xia st fun a i r => some (some (xAr T a 0 i), pc + 1, lv, r, xup I a i.toNat (zB x), N)
    | .lastore => xl1 st fun x st => xia st fun a i r => some (some (xAr T a 2 i), pc + 1, lv, r, xup I a i.toNat x, N)
    | .aastore => xa1 st fun x st => xia st fun a i r => some (some ((∃ k, 3 ≤ k ∧ xAr T a k i ∧ T x = some (.inr (xec k)))), pc + 1, lv, r, I, xup N a i.toNat x)
    | .arraylength => xa1 st fun a r => some (some ((∃ k n, T a = some (.inl (k, n)))), pc + 1, lv, .inl ((xlen T a : Nat) : Int) :: r, I, N)
    | _ => none
  else if len = 2 then match i with
    | .bipush n => if -128 ≤ n ∧ n ≤ 127 then some (none, pc + 2, lv, .inl n :: st, I, N) else none
    | .ldc k => match (xcr M.2.2.2.2.1).lookup k with
      | some x => some (none, pc + 2, lv, .inl x :: st, I, N)
      | none => none
    | .iload k => match lv k with
      | some (.inl x) => some (none, pc + 2, lv, .inl x :: st, I, N)
      | _ => none
    | .lload k => match lv k with
      | some (.inr (.inl x)) => some (none, pc + 2, lv, .inr (.inl x) :: st, I, N)
      | _ => none
    | .aload k => match lv k with
      | some (.inr (.inr x)) => some (none, pc + 2, lv, .inr (.inr x) :: st, I, N)
      | _ => none
    | .istore k => if k < M.2.2.1 then xi1 st fun x r => some (none, pc + 2, xset lv k (.inl x), r, I, N) else none
    | .astore k => if k < M.2.2.1 then xa1 st fun x r => some (none, pc + 2, xset lv k (.inr (.inr x)), r, I, N) else none
    | _ => none
  else if len = 3 then match i with
    | .sipush n => if -32768 ≤ n ∧ n ≤ 32767 then some (none, pc + 3, lv, .inl n :: st, I, N) else none
    | .ldc2_w k => match (xlr M.2.2.2.2.1).lookup k with
      | some x => some (none, pc + 3, lv, .inr (.inl x) :: st, I, N)
      | none => none
    | .iinc k n => if k < M.2.2.1 then (match lv k with
      | some (.inl x) => some (none, pc + 3, xset lv k (.inl (x + n)), st, I, N)
      | _ => none) else none
    | .goto off => match (pc : Int) + off with
      | .ofNat t => some (none, t, lv, st, I, N)
      | _ => none
    | .getfield k => match (xfr M.2.2.2.2.1).lookup k with
      | some (c, f, _) => xa1 st fun a r => some (some (T a = some (.inr c)), pc + 3, lv, (match xfk c f with
        | 1 => .inr (.inr (N a f))
        | _ => .inl (I a f)) :: r, I, N)
      | none => none
    | .putfield k => match (xfr M.2.2.2.2.1).lookup k with
      | some (c, f, _) => if (xTT c f).2.2.2 then none else (match xfk c f with
        | 0 => xi1 st fun x st => xa1 st fun a r => some (some (T a = some (.inr c)), pc + 3, lv, r, xup I a f x, N)
        | 1 => xa1 st fun x st => xa1 st fun a r => some (some (T a = some (.inr c)), pc + 3, lv, r, I, xup N a f x)
        | _ => xi1 st fun x st => xa1 st fun a r => some (some (T a = some (.inr c) ∧ (x = 0 ∨ x = 1)), pc + 3, lv, r, xup I a f x, N))
      | none => none
    | _ => none
  else none
def xp (P : Option Prop) : Prop := match P with
  | none => True
  | some p => p
def xgo (M : xM) (T : xY) (stop : List Nat) : Nat → Prop → Nat → xL → List xV → xI → xN → Option (Prop × xF)
  | 0, P, pc, lv, st, I, N => some (P, pc, lv, st, I, N)
  | n + 1, P, pc, lv, st, I, N => match xfe M pc with
    | none => some (P, pc, lv, st, I, N)
    | some (i, len) => match xs2 M T pc lv st I N len i with
      | none => some (P, pc, lv, st, I, N)
      | some (none, pc', lv', st', I', N') => (match stop.elem pc' with
        | true => some (P, pc', lv', st', I', N')
        | false => xgo M T stop n P pc' lv' st' I' N')
      | some (some p, pc', lv', st', I', N') => (match stop.elem pc' with
        | true => some (p ∧ P, pc', lv', st', I', N')
        | false => xgo M T stop n (p ∧ P) pc' lv' st' I' N')
end
section
/-! rows of the machine under the world -/
theorem xup_ne {α : Type} {f : Nat → Nat → α} {a k : Nat} {v : α} {q : Nat} (h : q ≠ a) : xup f a k v q = f q := by unfold xup va_up; rw [if_neg h]
theorem xup_at {α : Type} {f : Nat → Nat → α} {a k : Nat} {v : α} : xup f a k v a = va_up (f a) k v := by unfold xup va_up; rw [if_pos rfl]
theorem xAt.kept {E : xE} {T : xY} {I I' : xI} {N N' : xN} {H H' : Heap} {a : Nat} (h : xAt E T I N H a) (hH : H'[a]? = H[a]?) (hI : I' a = I a) (hN : N' a = N a) : xAt E T I' N' H' a := by
  unfold xAt at h ⊢
  rw [hI, hN]
  cases hT : T a with
  | none => trivial
  | some t =>
    rw [hT] at h
    cases t with
    | inl q =>
      obtain ⟨k, n⟩ := q
      exact ⟨by rw [hH]; exact h.1, h.2⟩
    | inr c => exact ⟨h.1, h.2.1.kept hH, h.2.2⟩
theorem xR.put {E : xE} {z : Nat} {T : xY} {I I' : xI} {N N' : xN} {H H' : Heap} (h : xR E z T I N H) {a : Nat} (hs : H'.size = H.size) (ho : ∀ q : Nat, q ≠ a → H'[q]? = H[q]?) (hI : ∀ q : Nat, q ≠ a → I' q = I q) (hN : ∀ q : Nat, q ≠ a → N' q = N q) (ha : xAt E T I' N' H' a) : xR E z T I' N' H' := by
  refine ⟨hs.trans h.1, h.2.1, h.2.2.1, fun q => ?_⟩
  by_cases hq : q = a
  · rw [hq]; exact ha
  · exact (h.2.2.2 q).kept (ho q hq) (hI q hq) (hN q hq)
theorem xR.obj {E : xE} {z : Nat} {T : xY} {I : xI} {N : xN} {H : Heap} (h : xR E z T I N H) {a c : Nat} (hT : T a = some (.inr c)) : c < 11 ∧ t_OB a (E.1.1 c) (xNN c) (E.1.2 c) H (fun k => xfv (xfk c k) (I a k) (N a k)) ∧ E.2.2 ≤ a ∧ 0 < a := by
  have h1 := h.2.2.2 a
  unfold xAt at h1
  rw [hT] at h1
  exact ⟨h1.1, h1.2.1, h1.2.2, Nat.lt_of_lt_of_le h.2.2.1 h1.2.2⟩
theorem xR.arr {E : xE} {z : Nat} {T : xY} {I : xI} {N : xN} {H : Heap} (h : xR E z T I N H) {a k n : Nat} (hT : T a = some (.inl (k, n))) : H[a]? = some (arrV (E.2.1 k) n (fun j => xav k (I a j) (N a j))) ∧ n < 2147483648 ∧ k < 7 ∧ E.2.2 ≤ a ∧ 0 < a := by
  have h1 := h.2.2.2 a
  unfold xAt at h1
  rw [hT] at h1
  exact ⟨h1.1, h1.2.1, h1.2.2.2, h1.2.2.1, Nat.lt_of_lt_of_le h.2.2.1 h1.2.2.1⟩
theorem xidx {i : Int} {n : Nat} (h0 : 0 ≤ i) (h1 : i < n) (hn : n < 2147483648) : (Int32.ofInt i).toNatClampNeg = i.toNat ∧ i.toNat < n ∧ ¬ (Int32.ofInt i < 0 ∨ n ≤ (Int32.ofInt i).toNatClampNeg) := by
  obtain ⟨j, rfl⟩ := Int.eq_ofNat_of_zero_le h0
  have hj : j < n := by omega
  have e : Int32.ofInt (j : Int) = nI j := Int32.ofInt_eq_ofNat
  rw [e, nI_clamp (by omega)]
  refine ⟨by simp, by simpa using hj, ?_⟩
  have := nI_in (c := j) (N := n) hj (by omega)
  rwa [nI_clamp (by omega)] at this
theorem xfk0 {c k : Nat} (h : xfk c k = 0) : xty c k = .int := by
  unfold xfk at h
  split at h
  · assumption
  · cases h
  · cases h
theorem xfk2 {c k : Nat} (h : xfk c k = 2) : xty c k = .boolean := by
  unfold xfk at h
  split at h
  · cases h
  · assumption
  · cases h
theorem xfk_cases (c k : Nat) : xfk c k = 0 ∨ xfk c k = 1 ∨ xfk c k = 2 := by
  unfold xfk
  split
  · exact Or.inl rfl
  · exact Or.inr (Or.inr rfl)
  · exact Or.inr (Or.inl rfl)
theorem xfk1_all : ∀ c ∈ List.range 11, ∀ k ∈ List.range (xNN c), xfk c k = 1 → (xty c k).isReference = true := by decide +kernel
theorem xnar_ref {t : FieldType} (h : t.isReference = true) (a : Nat) : narrow t (xr a) = xr a ∧ fits t (xr a) = true := by
  unfold xr
  cases t <;> simp [FieldType.isReference] at h <;> split <;> exact ⟨rfl, rfl⟩
theorem xnar_bool {x : Int} (h : x = 0 ∨ x = 1) : narrow .boolean (.int (Int32.ofInt x)) = .int (Int32.ofInt x) ∧ fits .boolean (.int (Int32.ofInt x)) = true := by
  rcases h with rfl | rfl <;> decide
theorem xfit_of {c k : Nat} (hc : c < 11) (hk : k < xNN c) {z : Int} {a : Nat} (hz : xfk c k = 2 → z = 0 ∨ z = 1) : narrow (xty c k) (xfv (xfk c k) z a) = xfv (xfk c k) z a ∧ fits (xty c k) (xfv (xfk c k) z a) = true := by
  rcases xfk_cases c k with h | h | h
  · rw [h, xfk0 h]; exact ⟨rfl, rfl⟩
  · rw [h]
    exact xnar_ref (xfk1_all c (List.mem_range.mpr hc) k (List.mem_range.mpr hk) h) a
  · rw [h, xfk2 h]
    exact xnar_bool (hz h)
section XRows
variable {Γ : xG} {E : xE} {M : xM} {T : xY} {I : xI} {N : xN} {z : Nat} {H : Heap} {locs : List Loc} {ce sl pc : Nat} {Q : State → Prop} {ls : Array Slot} {rest : List Value}
theorem x_fld (C : xC Γ E M) {k c f : Nat} {b : Bool} (hf : (xfr M.2.2.2.2.1).lookup k = some (c, f, b)) : (if b then Cond.fieldLinkNest (xRn M.2.2.2.2.1) k (xTT c f).1 (xTT c f).2.1 (xTT c f).2.2.1 "CoapDesk" else Cond.fieldLink (xRn M.2.2.2.2.1) k (xTT c f).1 (xTT c f).2.1 (xTT c f).2.2.1).before (ga Γ) (gs Γ) = true ∧ c < 11 ∧ f < xNN c := by
  have h := xfr_in M.2.2.2.2.1 (List.mem_range.mpr C.2.2.1) (k, c, f, b) (xlook2 hf)
  refine ⟨C.2.2.2.2.1.use h.1 ?_, h.2⟩
  cases b <;> rfl
theorem x_getf (C : xC Γ E M) (hR : xR E z T I N H) {k c f : Nat} {b : Bool} {a : Nat} (hf : (xfr M.2.2.2.2.1).lookup k = some (c, f, b)) (hT : T a = some (.inr c)) (hd : decode M.2.1 pc = .ok (.getfield k, 3))
    (kk : W (gp Γ) (gl Γ) (ge Γ) (gR Γ) (gs Γ) (gm Γ) (ga Γ) (gb Γ) (gt Γ) (gc Γ) H locs ce sl Q (F0 (gm Γ) (pc + 3) ls (xfv (xfk c f) (I a f) (N a f) :: rest))) :
    W (gp Γ) (gl Γ) (ge Γ) (gR Γ) (gs Γ) (gm Γ) (ga Γ) (gb Γ) (gt Γ) (gc Γ) H locs ce sl Q (F0 (gm Γ) pc ls (xr a :: rest)) := by
  obtain ⟨⟨hx, hb, hr, hml, hown, hlocks, hname⟩, -, ho, hK, hW, hX, hz⟩ := id C
  obtain ⟨hw, hc, hfN⟩ := x_fld C hf
  obtain ⟨-, ⟨cell, q1, q2, q3, q4⟩, -, hpos⟩ := hR.obj hT
  obtain ⟨hS, hfc, kC, hkC, hkind⟩ := hK.cls hc
  obtain ⟨cf, kf, fi, fd, hi, hsl⟩ := hS f hfN
  have hst := (u_facts hfc hkC (u_lays (args := ga Γ) (hW.us hc) (fun w h => h) hfN) hi).1
  rw [xr_pos hpos]
  cases b
  · exact W.getf hx hb hown hw hi hst q1 (by rw [q3]; exact fun h => by cases h) (by rw [hsl]; exact q4 f hfN) rfl rfl hd kk
  · exact va_Wgetf hx hb hown hw hi hst q1 (by rw [q3]; exact fun h => by cases h) (by rw [hsl]; exact q4 f hfN) rfl rfl hd kk
theorem x_putf (C : xC Γ E M) (hR : xR E z T I N H) (hS0 : va_S (fun q => E.2.2 ≤ q) (gs Γ).heap H locs) {k c f : Nat} {b : Bool} {a : Nat} (hf : (xfr M.2.2.2.2.1).lookup k = some (c, f, b)) (hfin : (xTT c f).2.2.2 = false) (hT : T a = some (.inr c)) (hd : decode M.2.1 pc = .ok (.putfield k, 3)) {v : Int} {w : Nat} {I' : xI} {N' : xN}
    (hv : xfk c f = 2 → v = 0 ∨ v = 1) (hI : ∀ q, q ≠ a → I' q = I q) (hN : ∀ q, q ≠ a → N' q = N q) (hIa : ∀ j, j ≠ f → I' a j = I a j) (hNa : ∀ j, j ≠ f → N' a j = N a j) (hIf : xfk c f ≠ 1 → I' a f = v) (hNf : xfk c f = 1 → N' a f = w)
    (kk : ∀ (H' : Heap) (locs' : List Loc), xR E z T I' N' H' → va_S (fun q => E.2.2 ≤ q) (gs Γ).heap H' locs' → W (gp Γ) (gl Γ) (ge Γ) (gR Γ) (gs Γ) (gm Γ) (ga Γ) (gb Γ) (gt Γ) (gc Γ) H' locs' ce sl Q (F0 (gm Γ) (pc + 3) ls rest)) :
    W (gp Γ) (gl Γ) (ge Γ) (gR Γ) (gs Γ) (gm Γ) (ga Γ) (gb Γ) (gt Γ) (gc Γ) H locs ce sl Q (F0 (gm Γ) pc ls (xfv (xfk c f) v w :: xr a :: rest)) := by
  obtain ⟨⟨hx, hb, hr, hml, hown, hlocks, hname⟩, -, ho, hK, hW, hX, hz⟩ := id C
  obtain ⟨hw, hc, hfN⟩ := x_fld C hf
  obtain ⟨-, ⟨cell, q1, q2, q3, q4⟩, hA, hpos⟩ := hR.obj hT
  have hap := va_apart (own := xRn M.2.2.2.2.1) (args := ga Γ) (hW.us hc) (fun w h => h) (xty c) (xty_ok hc) (xnm_ok hc) hK (xcl_at hc)
  obtain ⟨hS, hfc, kC, hkC, hkind⟩ := hK.cls hc
  obtain ⟨cf, kf, fi, fd, hi, hsl⟩ := hS f hfN
  have hlay := hW.us (A := ga Γ) hc _ (u_in_lay hfN)
  unfold u_lay at hlay
  rw [if_neg (by rw [hfin]; decide)] at hlay
  have hst := (u_facts hfc hkC (Or.inl hlay) hi).1
  have h6 := u_store hfc hkC hkind hlay hi (xty_ok hc f hfN) (xfit_of (a := w) hc hfN hv).1 (xfit_of (a := w) hc hfN hv).2
  have fin : ∀ H' : Heap, H'[a]? = some (cell.setSlot fd.slot (xfv (xfk c f) v w)) → H'.size = H.size → (∀ q : Nat, q ≠ a → H'[q]? = H[q]?) → W (gp Γ) (gl Γ) (ge Γ) (gR Γ) (gs Γ) (gm Γ) (ga Γ) (gb Γ) (gt Γ) (gc Γ) H' (locs ++ [⟨a, fd.slot⟩]) ce sl Q (F0 (gm Γ) (pc + 3) ls rest) := by
    intro H' e1 e2 e3
    refine kk H' _ (hR.put e2 e3 hI hN ?_) (hS0.put e2 e3 hA)
    unfold xAt
    rw [hT]
    refine ⟨hc, t_OB.to (V := updV (fun k => xfv (xfk c k) (I a k) (N a k)) f (xfv (xfk c f) v w)) ⟨_, e1, q2, q3, ?_⟩ (fun j _ => ?_), hA⟩
    · rw [hsl]; exact t_set q4 hap hfN _
    · unfold updV
      by_cases hj : j = f
      · subst hj
        rw [if_pos rfl]
        by_cases h1 : xfk c j = 1
        · rw [h1, hNf h1]; rfl
        · rw [hIf h1]; unfold xfv; rw [if_neg h1, if_neg h1]
      · rw [if_neg hj, hIa j hj, hNa j hj]
  rw [xr_pos hpos]
  cases b
  · exact W.putK hx hb (f := fd) ⟨hown, hw, ⟨_, _, _, hi⟩, hst⟩ (by rw [q2]; exact h6) q1 q3 (by rw [hsl]; exact k2_hasslot (q4 f hfN)) rfl rfl hd fin
  · exact va_WputK hx hb hown hw hi hst (by rw [q2]; exact h6) q1 q3 (by rw [hsl]; exact k2_hasslot (q4 f hfN)) rfl rfl hd fin
theorem x_arr_put (hR : xR E z T I N H) (hS0 : va_S (fun q => E.2.2 ≤ q) (gs Γ).heap H locs) {a k n : Nat} {j i : Nat} {v : Value} (hT : T a = some (.inl (k, n))) {I' : xI} {N' : xN}
    (hI : ∀ q, q ≠ a → I' q = I q) (hN : ∀ q, q ≠ a → N' q = N q) (hv : ∀ q, xav k (I' a q) (N' a q) = if q = j then v else xav k (I a q) (N a q))
    {H' : Heap} (e1 : H'[a]? = some ((arrV (E.2.1 k) n (fun j => xav k (I a j) (N a j))).setSlot j v)) (e2 : H'.size = H.size) (e3 : ∀ q : Nat, q ≠ a → H'[q]? = H[q]?) :
    xR E z T I' N' H' ∧ va_S (fun q => E.2.2 ≤ q) (gs Γ).heap H' (locs ++ [⟨a, i⟩]) := by
  obtain ⟨q1, q2, q3, hA, hpos⟩ := hR.arr hT
  refine ⟨hR.put e2 e3 hI hN ?_, hS0.put e2 e3 hA⟩
  unfold xAt
  rw [hT]
  refine ⟨?_, q2, hA, q3⟩
  rw [e1, arrV_store]
  congr 2
  funext q
  rw [hv q]
  rfl
section
variable {p : Program} {l : Launch} {e : Env} {R : Room} {s : State} {m : MethodId} {args : Array Value} {below : List Frame} {meth : Method} {c : Code} {cells slots : Nat} {cc : ByteArray} {ls' : Array Slot}
theorem ws_istore_n (hexec : p.tables.exec = Jvm.exec) (hb : c.code = cc) {k : Fin 4} {x : Int32} (hdg : decode cc pc = .ok (.istore_n k, 1)) (e' : storeLocals ls k.val (.int x) = some ls')
    (kk : W p l e R s m args below meth c H locs cells slots Q (F0 m (pc + 1) ls' rest)) : W p l e R s m args below meth c H locs cells slots Q (F0 m pc ls (.int x :: rest)) := by
  intro T hT X
  obtain ⟨t, a, b⟩ := kk T hT X
  refine ⟨t, ?_, b⟩
  jvm_step X.here [X.here.top, ↓top_set X.here.top, hexec, hb, hdg, e']
  exact a
theorem ws_istore (hexec : p.tables.exec = Jvm.exec) (hb : c.code = cc) {k : Nat} {x : Int32} (hdg : decode cc pc = .ok (.istore k, 2)) (e' : storeLocals ls k (.int x) = some ls')
    (kk : W p l e R s m args below meth c H locs cells slots Q (F0 m (pc + 2) ls' rest)) : W p l e R s m args below meth c H locs cells slots Q (F0 m pc ls (.int x :: rest)) := by
  intro T hT X
  obtain ⟨t, a, b⟩ := kk T hT X
  refine ⟨t, ?_, b⟩
  jvm_step X.here [X.here.top, ↓top_set X.here.top, hexec, hb, hdg, e']
  exact a
theorem ws_lstore_n (hexec : p.tables.exec = Jvm.exec) (hb : c.code = cc) {k : Fin 4} {x : Int64} (hdg : decode cc pc = .ok (.lstore_n k, 1)) (e' : storeLocals ls k.val (.long x) = some ls')
    (kk : W p l e R s m args below meth c H locs cells slots Q (F0 m (pc + 1) ls' rest)) : W p l e R s m args below meth c H locs cells slots Q (F0 m pc ls (.long x :: rest)) := by
  intro T hT X
  obtain ⟨t, a, b⟩ := kk T hT X
  refine ⟨t, ?_, b⟩
  jvm_step X.here [X.here.top, ↓top_set X.here.top, hexec, hb, hdg, e']
  exact a
theorem ws_astore_n (hexec : p.tables.exec = Jvm.exec) (hb : c.code = cc) {k : Fin 4} {x : Nat} (hdg : decode cc pc = .ok (.astore_n k, 1)) (e' : storeLocals ls k.val (xr x) = some ls')
    (kk : W p l e R s m args below meth c H locs cells slots Q (F0 m (pc + 1) ls' rest)) : W p l e R s m args below meth c H locs cells slots Q (F0 m pc ls (xr x :: rest)) := by
  intro T hT X
  obtain ⟨t, a, b⟩ := kk T hT X
  refine ⟨t, ?_, b⟩
  by_cases hx : x = 0
  · subst hx
    rw [xr_0] at e' ⊢
    jvm_step X.here [X.here.top, ↓top_set X.here.top, hexec, hb, hdg, e', Value.isRef]
    exact a
  · rw [xr_pos (by omega)] at e' ⊢
    jvm_step X.here [X.here.top, ↓top_set X.here.top, hexec, hb, hdg, e', Value.isRef]
    exact a
theorem ws_astore (hexec : p.tables.exec = Jvm.exec) (hb : c.code = cc) {k : Nat} {x : Nat} (hdg : decode cc pc = .ok (.astore k, 2)) (e' : storeLocals ls k (xr x) = some ls')
    (kk : W p l e R s m args below meth c H locs cells slots Q (F0 m (pc + 2) ls' rest)) : W p l e R s m args below meth c H locs cells slots Q (F0 m pc ls (xr x :: rest)) := by
  intro T hT X
  obtain ⟨t, a, b⟩ := kk T hT X
  refine ⟨t, ?_, b⟩
  by_cases hx : x = 0
  · subst hx
    rw [xr_0] at e' ⊢
    jvm_step X.here [X.here.top, ↓top_set X.here.top, hexec, hb, hdg, e', Value.isRef]
    exact a
  · rw [xr_pos (by omega)] at e' ⊢
    jvm_step X.here [X.here.top, ↓top_set X.here.top, hexec, hb, hdg, e', Value.isRef]
    exact a
theorem ws_iinc (hexec : p.tables.exec = Jvm.exec) (hb : c.code = cc) {i : Nat} {n : Int} {x : Int32} (hdg : decode cc pc = .ok (.iinc i n, 3)) (hg : ls[i]? = some (.val (.int x))) (e' : storeLocals ls i (.int (x + Int32.ofInt n)) = some ls')
    (kk : W p l e R s m args below meth c H locs cells slots Q (F0 m (pc + 3) ls' rest)) : W p l e R s m args below meth c H locs cells slots Q (F0 m pc ls rest) := by
  intro T hT X
  obtain ⟨t, a, b⟩ := kk T hT X
  refine ⟨t, ?_, b⟩
  jvm_step X.here [X.here.top, ↓top_set X.here.top, hexec, hb, hdg, hg, e']
  exact a
theorem ws_aload_n (hexec : p.tables.exec = Jvm.exec) (hb : c.code = cc) {k : Fin 4} {x : Nat} (hdg : decode cc pc = .ok (.aload_n k, 1)) (hl : ls[k.val]? = some (.val (xr x)))
    (kk : W p l e R s m args below meth c H locs cells slots Q (F0 m (pc + 1) ls (xr x :: rest))) : W p l e R s m args below meth c H locs cells slots Q (F0 m pc ls rest) := by
  by_cases hx : x = 0
  · subst hx
    exact lv_aload_nN hexec hb hdg rfl hl kk
  · rw [xr_pos (by omega)] at hl kk
    exact lv_aload_n hexec hb hdg rfl hl kk
theorem ws_aload (hexec : p.tables.exec = Jvm.exec) (hb : c.code = cc) {k : Nat} {x : Nat} (hdg : decode cc pc = .ok (.aload k, 2)) (hl : ls[k]? = some (.val (xr x)))
    (kk : W p l e R s m args below meth c H locs cells slots Q (F0 m (pc + 2) ls (xr x :: rest))) : W p l e R s m args below meth c H locs cells slots Q (F0 m pc ls rest) := by
  by_cases hx : x = 0
  · subst hx
    exact lv_aloadN hexec hb hdg hl kk
  · rw [xr_pos (by omega)] at hl kk
    exact lv_aload hexec hb hdg hl kk
end
end XRows
end
section
/-! a straight step is a step of the machine -/
theorem zAnd_of (x y : Int) : Int32.ofInt (zAnd x y) = Int32.ofInt x &&& Int32.ofInt y := Int32.ofInt_toInt _
theorem zShl_of (x y : Int) : Int32.ofInt (zShl x y) = Int32.ofInt x <<< (Int32.ofInt y &&& 31) := Int32.ofInt_toInt _
theorem zShr_of (x y : Int) : Int32.ofInt (zShr x y) = Int32.ofInt x >>> (Int32.ofInt y &&& 31) := Int32.ofInt_toInt _
theorem zUsh_of (x y : Int) : Int32.ofInt (zUsh x y) = ((Int32.ofInt x).toUInt32 >>> ((Int32.ofInt y).toUInt32 &&& Int32.toUInt32 31)).toInt32 := Int32.ofInt_toInt _
theorem zB_of (x : Int) : Int32.ofInt (zB x) = (Int32.ofInt x).toInt8.toInt32 := Int32.ofInt_toInt _
theorem zLand_of (x y : Int) : Int64.ofInt (zLand x y) = Int64.ofInt x &&& Int64.ofInt y := Int64.ofInt_toInt _
theorem zLor_of (x y : Int) : Int64.ofInt (zLor x y) = Int64.ofInt x ||| Int64.ofInt y := Int64.ofInt_toInt _
theorem zLsh_of (x y : Int) : Int64.ofInt (zLsh x y) = Int64.ofInt x <<< ((Int32.ofInt y).toInt64 &&& 63) := Int64.ofInt_toInt _
theorem zLus_of (x y : Int) : Int64.ofInt (zLus x y) = ((Int64.ofInt x).toUInt64 >>> ((Int32.ofInt y).toInt64.toUInt64 &&& Int64.toUInt64 63)).toInt64 := Int64.ofInt_toInt _
theorem x32 {x : Int} (h : xIn x) : (Int32.ofInt x).toInt = x := by unfold xIn at h; exact Int32.toInt_ofInt_of_le (by omega) (by omega)
theorem x64 {x : Int} (h : xIl x) : (Int64.ofInt x).toInt = x := by unfold xIl at h; exact Int64.toInt_ofInt_of_le (by omega) (by omega)
theorem zCmp_of {x y : Int} (hx : xIl x) (hy : xIl y) : Int32.ofInt (zCmp x y) = lg_cmp (Int64.ofInt x) (Int64.ofInt y) := by
  have e1 : (Int64.ofInt y < Int64.ofInt x) ↔ y < x := by rw [Int64.lt_iff_toInt_lt, x64 hx, x64 hy]
  have e2 : (Int64.ofInt x = Int64.ofInt y) ↔ x = y := by rw [← Int64.toInt_inj, x64 hx, x64 hy]
  unfold zCmp lg_cmp
  by_cases h1 : y < x
  · rw [if_pos h1, if_pos (e1.mpr h1)]; rfl
  · rw [if_neg h1, if_neg (fun h => h1 (e1.mp h))]
    by_cases h2 : x = y
    · rw [if_pos h2]
      first | rw [if_pos (e2.mpr h2)] | simp [e2.mpr h2]
      rfl
    · rw [if_neg h2]
      first | rw [if_neg (fun h => h2 (e2.mp h))] | simp [fun h => h2 (e2.mp h)]
      rfl
theorem xdiv32 {x y : Int} (hx : 0 ≤ x ∧ x ≤ 2147483647) (hy : 0 < y ∧ y ≤ 2147483647) : Int32.ofInt x / Int32.ofInt y = Int32.ofInt (x / y) ∧ Int32.ofInt x - Int32.ofInt x / Int32.ofInt y * Int32.ofInt y = Int32.ofInt (x % y) ∧ ¬ Int32.ofInt y = 0 := by
  obtain ⟨a, rfl⟩ := Int.eq_ofNat_of_zero_le hx.1
  obtain ⟨b, rfl⟩ := Int.eq_ofNat_of_zero_le (Int.le_of_lt hy.1)
  have ea : Int32.ofInt (a : Int) = nI a := Int32.ofInt_eq_ofNat
  have eb : Int32.ofInt (b : Int) = nI b := Int32.ofInt_eq_ofNat
  have h1 := pk_div (a := a) (d := b) (by omega) (by omega) (by omega)
  have h2 := pk_rem (a := a) (d := b) (by omega) (by omega) (by omega)
  have h3 := nI_ne0 (n := b) (by omega) (by omega)
  rw [ea, eb]
  refine ⟨?_, ?_, h3⟩
  · rw [h1, ← Int.natCast_ediv]; exact Int32.ofInt_eq_ofNat.symm
  · rw [h2, ← Int.natCast_emod]; exact Int32.ofInt_eq_ofNat.symm
theorem xdiv64 {x y : Int} (hx : 0 ≤ x ∧ x ≤ 9223372036854775807) (hy : 0 < y ∧ y ≤ 9223372036854775807) : Int64.ofInt x / Int64.ofInt y = Int64.ofInt (x / y) ∧ Int64.ofInt x - Int64.ofInt x / Int64.ofInt y * Int64.ofInt y = Int64.ofInt (x % y) ∧ ¬ Int64.ofInt y = 0 := by
  obtain ⟨a, rfl⟩ := Int.eq_ofNat_of_zero_le hx.1
  obtain ⟨b, rfl⟩ := Int.eq_ofNat_of_zero_le (Int.le_of_lt hy.1)
  have ea : Int64.ofInt (a : Int) = lN a := Int64.ofInt_eq_ofNat
  have eb : Int64.ofInt (b : Int) = lN b := Int64.ofInt_eq_ofNat
  have h1 := pk_lDiv (a := a) (b := b) (by omega) (by omega) (by omega)
  have h2 := pk_lRem (a := a) (b := b) (by omega) (by omega) (by omega)
  have h3 : ¬ lN b = 0 := fun h => by
    have := (pk_lEQ (a := b) (b := 0) (by omega) (by omega)).mp h
    omega
  rw [ea, eb]
  refine ⟨?_, ?_, h3⟩
  · rw [h1, ← Int.natCast_ediv]; exact Int64.ofInt_eq_ofNat.symm
  · rw [h2, ← Int.natCast_emod]; exact Int64.ofInt_eq_ofNat.symm
section XWalk
variable {Γ : xG} {E : xE} {M : xM} {T : xY} {I : xI} {N : xN} {z : Nat} {ce sl pc : Nat} {Q : State → Prop} {lv : xL} {st : List xV}
set_option maxHeartbeats 4000000 in
theorem V_2 (C : xC Γ E M) {len : Nat} {i : Instr} {P : Option Prop} {g : xF} (hd : decode M.2.1 pc = .ok (i, len)) (h : xs2 M T pc lv st I N len i = some (P, g)) (hP : xp P) (k : V Γ E Q z T g.2.2.2.1 g.2.2.2.2 ce sl g.1 g.2.1 g.2.2.1) : V Γ E Q z T I N ce sl pc lv st := by
  intro H locs ls hR hS hl
  obtain ⟨⟨hx, hb, hr, hml, hown, hlocks, hname⟩, -, ho, hK, hW, hX, hz⟩ := id C
  unfold xs2 at h
  split at h
  · rename_i hlen
    subst hlen
    split at h
    · cases h; exact lv_iconst hx hb hd rfl (k H locs ls hR hS hl)
    · cases h; exact lv_lconst hx hb hd (by rw [← Int64.ofInt_eq_ofNat]) (k H locs ls hR hS hl)
    · cases h; exact lv_null hx hb hd (k H locs ls hR hS hl)
    · split at h
      · rename_i x hx1; cases h; exact lv_iload_n hx hb hd rfl (hl.2.2 _ _ hx1) (k H locs ls hR hS hl)
      · cases h
    · split at h
      · rename_i x hx1; cases h; exact lv_lload_n hx hb hd rfl (hl.2.2 _ _ hx1) (k H locs ls hR hS hl)
      · cases h
    · split at h
      · rename_i x hx1; cases h; exact ws_aload_n hx hb hd (hl.2.2 _ _ hx1) (k H locs ls hR hS hl)
      · cases h
    · split at h
      · rename_i hk
        obtain ⟨x, r, rfl, h⟩ := xi1_some h
        cases h
        obtain ⟨ls', e, hl'⟩ := xset_ok (v := .inl x) hl (hml ▸ hk) rfl
        exact ws_istore_n hx hb hd e (k H locs ls' hR hS hl')
      · cases h
    · split at h
      · rename_i hk
        obtain ⟨x, r, rfl, h⟩ := xa1_some h
        cases h
        obtain ⟨ls', e, hl'⟩ := xset_ok (v := .inr (.inr x)) hl (hml ▸ hk) (xr_cat x)
        exact ws_astore_n hx hb hd e (k H locs ls' hR hS hl')
      · cases h
    · split at h
      · rename_i hk
        obtain ⟨x, r, rfl, h⟩ := xl1_some h
        cases h
        obtain ⟨ls', e, hl'⟩ := xset2_ok (v := .inr (.inl x)) hl (hml ▸ hk) rfl
        exact ws_lstore_n hx hb hd e (k H locs ls' hR hS hl')
      · cases h
    · obtain ⟨x, y, r, rfl, h⟩ := xi2_some h; cases h
      refine lv_iadd hx hb hd ?_
      rw [← Int32.ofInt_add]; exact k H locs ls hR hS hl
    · obtain ⟨x, y, r, rfl, h⟩ := xi2_some h; cases h
      refine lv_isub hx hb hd ?_
      rw [← Int32.ofInt_sub]; exact k H locs ls hR hS hl
    · obtain ⟨x, y, r, rfl, h⟩ := xi2_some h; cases h
      refine lv_imul hx hb hd ?_
      rw [← Int32.ofInt_mul]; exact k H locs ls hR hS hl
    · obtain ⟨x, r, rfl, h⟩ := xi1_some h; cases h
      refine lv_ineg hx hb hd ?_
      rw [← Int32.ofInt_neg]; exact k H locs ls hR hS hl
    · obtain ⟨x, y, r, rfl, h⟩ := xi2_some h; cases h
      refine lv_iand hx hb hd ?_
      rw [← zAnd_of]; exact k H locs ls hR hS hl
    · obtain ⟨x, y, r, rfl, h⟩ := xi2_some h; cases h
      refine lv_ishl hx hb hd ?_
      rw [← zShl_of]; exact k H locs ls hR hS hl
    · obtain ⟨x, y, r, rfl, h⟩ := xi2_some h; cases h
      refine lv_ishr hx hb hd ?_
      rw [← zShr_of]; exact k H locs ls hR hS hl
    · obtain ⟨x, y, r, rfl, h⟩ := xi2_some h; cases h
      exact lv_iushr hx hb hd (zUsh_of x y).symm (k H locs ls hR hS hl)
    · obtain ⟨x, y, r, rfl, h⟩ := xi2_some h; cases h
      obtain ⟨e1, e2, e3⟩ := xdiv32 (And.left hP) (And.right hP)
      refine lv_idiv hx hb hd e3 ?_
      rw [e1]; exact k H locs ls hR hS hl
    · obtain ⟨x, y, r, rfl, h⟩ := xi2_some h; cases h
      obtain ⟨e1, e2, e3⟩ := xdiv32 (And.left hP) (And.right hP)
      refine lv_irem hx hb hd e3 ?_
      rw [e2]; exact k H locs ls hR hS hl
    · obtain ⟨x, y, r, rfl, h⟩ := xl2_some h; cases h
      refine lv_ladd hx hb hd ?_
      rw [← Int64.ofInt_add]; exact k H locs ls hR hS hl
    · obtain ⟨x, y, r, rfl, h⟩ := xl2_some h; cases h
      refine lv_lmul hx hb hd ?_
      rw [← Int64.ofInt_mul]; exact k H locs ls hR hS hl
    · obtain ⟨x, y, r, rfl, h⟩ := xl2_some h; cases h
      refine lv_land hx hb hd ?_
      rw [← zLand_of]; exact k H locs ls hR hS hl
    · obtain ⟨x, y, r, rfl, h⟩ := xl2_some h; cases h
      refine lv_lor hx hb hd ?_
      rw [← zLor_of]; exact k H locs ls hR hS hl
    · obtain ⟨x, y, r, rfl, h⟩ := xl2_some h; cases h
      obtain ⟨e1, e2, e3⟩ := xdiv64 (And.left hP) (And.right hP)
      refine lv_ldiv hx hb hd e3 ?_
      rw [e1]; exact k H locs ls hR hS hl
    · obtain ⟨x, y, r, rfl, h⟩ := xl2_some h; cases h
      obtain ⟨e1, e2, e3⟩ := xdiv64 (And.left hP) (And.right hP)
      refine lv_lrem hx hb hd e3 ?_
      rw [e2]; exact k H locs ls hR hS hl
    · obtain ⟨x, y, r, rfl, h⟩ := xil_some h; cases h
      exact lv_lshl hx hb hd (zLsh_of x y).symm (k H locs ls hR hS hl)
    · obtain ⟨x, y, r, rfl, h⟩ := xil_some h; cases h
      exact lv_lushr hx hb hd (zLus_of x y).symm (k H locs ls hR hS hl)
    · obtain ⟨x, y, r, rfl, h⟩ := xl2_some h; cases h
      refine W.lcmp hx hb hd ?_
      rw [← zCmp_of (And.left hP) (And.right hP)]; exact k H locs ls hR hS hl
    · obtain ⟨x, r, rfl, h⟩ := xi1_some h; cases h
      exact lv_i2l hx hb hd (by rw [← Int64.toInt_inj, Int32.toInt_toInt64, x32 (show xIn x from hP), x64 (by have hP : xIn x := hP; unfold xIl; unfold xIn at hP; omega)]) (k H locs ls hR hS hl)
    · obtain ⟨x, r, rfl, h⟩ := xl1_some h; cases h
      exact lv_l2i hx hb hd (Int64.toInt32_ofInt ..) (k H locs ls hR hS hl)
    · obtain ⟨x, r, rfl, h⟩ := xi1_some h; cases h
      exact lv_i2b hx hb hd (zB_of x).symm (k H locs ls hR hS hl)
    · split at h
      · cases h; exact lv_dup hx hb hd rfl (k H locs ls hR hS hl)
      · cases h; exact lv_dup hx hb hd (xr_cat _) (k H locs ls hR hS hl)
      · cases h
    · split at h
      · cases h; exact lv_dup2_11 hx hb hd rfl (xr_cat _) (k H locs ls hR hS hl)
      · cases h
    · obtain ⟨a, j, r, rfl, h⟩ := xia_some h; cases h
      obtain ⟨n, hT, h0, h1⟩ := hP
      obtain ⟨q1, q2, q3, q4, q5⟩ := hR.arr hT
      obtain ⟨i1, i2, i3⟩ := xidx h0 h1 q2
      show W _ _ _ _ _ _ _ _ _ _ _ _ _ _ _ (F0 _ _ _ (.int (Int32.ofInt j) :: xr a :: r.map xv))
      rw [xr_pos q5]
      exact W.iald hx hb q1 ((hK.arr q3).1 n _) (fun q => by cases q) (by rw [arrV_size]; exact i3) (by rw [i1]; exact arrV_read _ _ i2) rfl rfl hd (k H locs ls hR hS hl)
    · obtain ⟨a, j, r, rfl, h⟩ := xia_some h; cases h
      obtain ⟨n, hT, h0, h1⟩ := hP
      obtain ⟨q1, q2, q3, q4, q5⟩ := hR.arr hT
      obtain ⟨i1, i2, i3⟩ := xidx h0 h1 q2
      show W _ _ _ _ _ _ _ _ _ _ _ _ _ _ _ (F0 _ _ _ (.int (Int32.ofInt j) :: xr a :: r.map xv))
      rw [xr_pos q5]
      exact W.bald hx hb q1 ((hK.arr q3).1 n _) (fun q => by cases q) (by rw [arrV_size]; exact i3) (by rw [i1]; exact arrV_read _ _ i2) rfl rfl hd (k H locs ls hR hS hl)
    · obtain ⟨a, j, r, rfl, h⟩ := xia_some h; cases h
      obtain ⟨n, hT, h0, h1⟩ := hP
      obtain ⟨q1, q2, q3, q4, q5⟩ := hR.arr hT
      obtain ⟨i1, i2, i3⟩ := xidx h0 h1 q2
      show W _ _ _ _ _ _ _ _ _ _ _ _ _ _ _ (F0 _ _ _ (.int (Int32.ofInt j) :: xr a :: r.map xv))
      rw [xr_pos q5]
      exact W.lald hx hb q1 ((hK.arr q3).1 n _) (fun q => by cases q) (by rw [arrV_size]; exact i3) (by rw [i1]; exact arrV_read _ _ i2) rfl rfl hd (k H locs ls hR hS hl)
    · obtain ⟨a, j, r, rfl, h⟩ := xia_some h; cases h
      obtain ⟨kk, hk3, n, hT, h0, h1⟩ := hP
      obtain ⟨q1, q2, q3, q4, q5⟩ := hR.arr hT
      obtain ⟨i1, i2, i3⟩ := xidx h0 h1 q2
      show W _ _ _ _ _ _ _ _ _ _ _ _ _ _ _ (F0 _ _ _ (.int (Int32.ofInt j) :: xr a :: r.map xv))
      rw [xr_pos q5]
      have hav : ∀ (x : Int) (y : Nat), xav kk x y = xr y := fun x y => by unfold xav; rw [if_neg (by omega), if_neg (by omega)]
      have href : (xat kk).isReference = true := by
        rcases (by omega : kk = 3 ∨ kk = 4 ∨ kk = 5 ∨ kk = 6) with h | h | h | h <;> subst h <;> rfl
      exact W.aald hx hb q1 ((hK.arr q3).1 n _) href (fun q => by cases q) (by rw [arrV_size]; exact i3) (by rw [i1, arrV_read _ _ i2, hav]; rfl) rfl rfl hd (k H locs ls hR hS hl)
    · obtain ⟨x, st', rfl, h⟩ := xi1_some h
      obtain ⟨a, j, r, rfl, h⟩ := xia_some h; cases h
      obtain ⟨n, hT, h0, h1⟩ := hP
      obtain ⟨q1, q2, q3, q4, q5⟩ := hR.arr hT
      obtain ⟨i1, i2, i3⟩ := xidx h0 h1 q2
      show W _ _ _ _ _ _ _ _ _ _ _ _ _ _ _ (F0 _ _ _ (.int (Int32.ofInt x) :: .int (Int32.ofInt j) :: xr a :: r.map xv))
      rw [xr_pos q5]
      refine W.iast hx hb q1 ((hK.arr q3).1 n _) (fun q => by cases q) (by rw [arrV_size]; exact i3) rfl rfl hd fun H' e1 e2 e3 => ?_
      obtain ⟨r1, r2⟩ := x_arr_put (Γ := Γ) (i := (Int32.ofInt j).toNatClampNeg) (I' := xup I a j.toNat x) (N' := N) (j := j.toNat) (v := .int (Int32.ofInt x)) hR hS hT (fun q hq => xup_ne hq) (fun q hq => rfl) (fun q => by rw [xup_at]; unfold va_up; by_cases hq : q = j.toNat <;> simp [hq, xav]) (by rw [← i1]; exact e1) e2 e3
      exact k H' _ ls r1 r2 hl
    · obtain ⟨x, st', rfl, h⟩ := xi1_some h
      obtain ⟨a, j, r, rfl, h⟩ := xia_some h; cases h
      obtain ⟨n, hT, h0, h1⟩ := hP
      obtain ⟨q1, q2, q3, q4, q5⟩ := hR.arr hT
      obtain ⟨i1, i2, i3⟩ := xidx h0 h1 q2
      show W _ _ _ _ _ _ _ _ _ _ _ _ _ _ _ (F0 _ _ _ (.int (Int32.ofInt x) :: .int (Int32.ofInt j) :: xr a :: r.map xv))
      rw [xr_pos q5]
      refine W.bast hx hb q1 ((hK.arr q3).1 n _) (fun q => by cases q) (by rw [arrV_size]; exact i3) rfl rfl hd fun H' e1 e2 e3 => ?_
      obtain ⟨r1, r2⟩ := x_arr_put (Γ := Γ) (i := (Int32.ofInt j).toNatClampNeg) (I' := xup I a j.toNat (zB x)) (N' := N) (j := j.toNat) (v := narrow .byte (.int (Int32.ofInt x))) hR hS hT (fun q hq => xup_ne hq) (fun q hq => rfl) (fun q => by rw [xup_at]; unfold va_up; by_cases hq : q = j.toNat <;> simp [hq, xav, narrow, zB_of]) (by rw [← i1]; exact e1) e2 e3
      exact k H' _ ls r1 r2 hl
    · obtain ⟨x, st', rfl, h⟩ := xl1_some h
      obtain ⟨a, j, r, rfl, h⟩ := xia_some h; cases h
      obtain ⟨n, hT, h0, h1⟩ := hP
      obtain ⟨q1, q2, q3, q4, q5⟩ := hR.arr hT
      obtain ⟨i1, i2, i3⟩ := xidx h0 h1 q2
      show W _ _ _ _ _ _ _ _ _ _ _ _ _ _ _ (F0 _ _ _ (.long (Int64.ofInt x) :: .int (Int32.ofInt j) :: xr a :: r.map xv))
      rw [xr_pos q5]
      refine W.last hx hb q1 ((hK.arr q3).1 n _) (fun q => by cases q) (by rw [arrV_size]; exact i3) rfl rfl hd fun H' e1 e2 e3 => ?_
      obtain ⟨r1, r2⟩ := x_arr_put (Γ := Γ) (i := (Int32.ofInt j).toNatClampNeg) (I' := xup I a j.toNat x) (N' := N) (j := j.toNat) (v := .long (Int64.ofInt x)) hR hS hT (fun q hq => xup_ne hq) (fun q hq => rfl) (fun q => by rw [xup_at]; unfold va_up; by_cases hq : q = j.toNat <;> simp [hq, xav]) (by rw [← i1]; exact e1) e2 e3
      exact k H' _ ls r1 r2 hl
    · obtain ⟨x, st', rfl, h⟩ := xa1_some h
      obtain ⟨a, j, r, rfl, h⟩ := xia_some h; cases h
      obtain ⟨kk, hk3, ⟨n, hT, h0, h1⟩, hTx⟩ := hP
      obtain ⟨q1, q2, q3, q4, q5⟩ := hR.arr hT
      obtain ⟨i1, i2, i3⟩ := xidx h0 h1 q2
      obtain ⟨hc, ⟨cellV, g1, g2, g3, -⟩, -, hxp⟩ := hR.obj hTx
      show W _ _ _ _ _ _ _ _ _ _ _ _ _ _ _ (F0 _ _ _ (xr x :: .int (Int32.ofInt j) :: xr a :: r.map xv))
      rw [xr_pos q5, xr_pos hxp]
      have hav : ∀ (x : Int) (y : Nat), xav kk x y = xr y := fun x y => by unfold xav; rw [if_neg (by omega), if_neg (by omega)]
      have hcls := (hK.cls hc).2
      have hra : ∃ (kA : Class) (comp : ClassId), (gs Γ).vm.classes[E.2.1 kk]? = some kA ∧ kA.kind = .array comp (xat kk) ∧ (gs Γ).vm.findClass (xRn (xec kk)) = some comp ∧ (xat kk).isReference = true := by
        have h9 := (hK.arr q3).2
        rcases (by omega : kk = 3 ∨ kk = 4 ∨ kk = 5 ∨ kk = 6) with h | h | h | h <;> subst h <;> (obtain ⟨kA, comp, k1, k2, k3, -⟩ := h9; exact ⟨kA, comp, k1, k2, k3, rfl⟩)
      obtain ⟨kA, comp, k1, k2, k3, k4⟩ := hra
      have hcomp : comp = E.1.1 (xec kk) := Option.some.inj (k3.symm.trans hcls.1)
      subst hcomp
      obtain ⟨kC, hkC, hkd⟩ := hcls.2
      refine W.aast hx hb q1 (fun q h => by cases h) (fun h => by cases h) k1 k2 k4 hkC ⟨fun h => i3 (Or.inl h), by rw [arrV_size, i1]; exact i2⟩ g1 (fun q h => by rw [g3] at h; cases h) (by rw [g2]; exact hkC) (by rw [g2]; exact va_assign hcls) rfl rfl hd fun H' e1 e2 e3 => ?_
      obtain ⟨r1, r2⟩ := x_arr_put (Γ := Γ) (i := (Int32.ofInt j).toNatClampNeg) (I' := I) (N' := xup N a j.toNat x) (j := j.toNat) (v := .ref x) hR hS hT (fun q hq => rfl) (fun q hq => xup_ne hq) (fun q => by rw [hav, hav, xup_at]; unfold va_up; by_cases hq : q = j.toNat <;> simp [hq, xr_pos hxp]) (by rw [← i1]; exact e1) e2 e3
      exact k H' _ ls r1 r2 hl
    · obtain ⟨a, r, rfl, h⟩ := xa1_some h; cases h
      obtain ⟨kk, n, hT⟩ := hP
      obtain ⟨q1, q2, q3, q4, q5⟩ := hR.arr hT
      show W _ _ _ _ _ _ _ _ _ _ _ _ _ _ _ (F0 _ _ _ (xr a :: r.map xv))
      rw [xr_pos q5]
      have hlen : xlen T a = n := by unfold xlen; rw [hT]
      rw [hlen] at k
      exact W.alen (n := Int32.ofInt (n : Int)) hx hb q1 ((hK.arr q3).1 n _) (by rw [arrV_size]; exact Int32.ofInt_eq_ofNat.symm) rfl rfl hd (k H locs ls hR hS hl)
    · cases h
  · split at h
    · rename_i hlen
      subst hlen
      split at h
      · split at h
        · rename_i hn
          cases h
          exact lv_bipush hx hb hd (by rw [← Int32.toInt_inj, Int8.toInt_toInt32, Int8.toInt_ofInt_of_le (by omega) (by omega), x32 (by unfold xIn; omega)]) (k H locs ls hR hS hl)
        · cases h
      · split at h
        · rename_i x hx1; cases h
          exact lv_ldc hx hb hown (hW.use (xcr_in _ (List.mem_range.mpr ho) _ (xlook2 hx1)) rfl) hd (k H locs ls hR hS hl)
        · cases h
      · split at h
        · rename_i x hx1; cases h; exact lv_iload hx hb hd (hl.2.2 _ _ hx1) (k H locs ls hR hS hl)
        · cases h
      · split at h
        · rename_i x hx1; cases h; exact lv_lload hx hb hd (hl.2.2 _ _ hx1) (k H locs ls hR hS hl)
        · cases h
      · split at h
        · rename_i x hx1; cases h; exact ws_aload hx hb hd (hl.2.2 _ _ hx1) (k H locs ls hR hS hl)
        · cases h
      · split at h
        · rename_i hk
          obtain ⟨x, r, rfl, h⟩ := xi1_some h
          cases h
          obtain ⟨ls', e, hl'⟩ := xset_ok (v := .inl x) hl (hml ▸ hk) rfl
          exact ws_istore hx hb hd e (k H locs ls' hR hS hl')
        · cases h
      · split at h
        · rename_i hk
          obtain ⟨x, r, rfl, h⟩ := xa1_some h
          cases h
          obtain ⟨ls', e, hl'⟩ := xset_ok (v := .inr (.inr x)) hl (hml ▸ hk) (xr_cat x)
          exact ws_astore hx hb hd e (k H locs ls' hR hS hl')
        · cases h
      · cases h
    · split at h
      · rename_i hlen
        subst hlen
        split at h
        · split at h
          · rename_i hn
            cases h
            exact lv_sipush hx hb hd (by rw [← Int32.toInt_inj, Int16.toInt_toInt32, Int16.toInt_ofInt_of_le (by omega) (by omega), x32 (by unfold xIn; omega)]) (k H locs ls hR hS hl)
          · cases h
        · split at h
          · rename_i x hx1; cases h
            exact lv_ldc2 hx hb hown (hW.use (xlr_in _ (List.mem_range.mpr ho) _ (xlook2 hx1)) rfl) hd (k H locs ls hR hS hl)
          · cases h
        · split at h
          · rename_i hk
            split at h
            · rename_i x hx1
              cases h
              obtain ⟨ls', e, hl'⟩ := xset_ok (v := .inl (x + _)) hl (hml ▸ hk) rfl
              refine ws_iinc hx hb hd (hl.2.2 _ _ hx1) ?_ (k H locs ls' hR hS hl')
              rw [← Int32.ofInt_add]; exact e
            · cases h
          · cases h
        · split at h
          · rename_i t ht
            cases h
            exact lv_goto hx hb hd ht (k H locs ls hR hS hl)
          · cases h
        · split at h
          · rename_i c f b hf
            obtain ⟨a, r, rfl, h⟩ := xa1_some h; cases h
            refine x_getf C hR hf hP hd ?_
            have := k H locs ls hR hS hl
            rcases xfk_cases c f with h1 | h1 | h1 <;> rw [h1] at this ⊢ <;> exact this
          · cases h
        · split at h
          · rename_i c f b hf
            split at h
            · cases h
            · rename_i hfin
              have hfin : (xTT c f).2.2.2 = false := by simpa using hfin
              split at h
              · rename_i h1
                obtain ⟨x, st', rfl, h⟩ := xi1_some h
                obtain ⟨a, r, rfl, h⟩ := xa1_some h; cases h
                have h2 := x_putf (I' := xup I a f x) (N' := N) (v := x) (w := 0) (rest := r.map xv) (ls := ls) (pc := pc) C hR hS hf hfin hP hd (fun h => by rw [h1] at h; cases h) (fun q hq => xup_ne hq) (fun _ _ => rfl) (fun j hj => by rw [xup_at]; unfold va_up; rw [if_neg hj]) (fun _ _ => rfl) (fun _ => by rw [xup_at]; unfold va_up; rw [if_pos rfl]) (fun h => by rw [h1] at h; cases h) (fun H' locs' r1 r2 => k H' locs' ls r1 r2 hl)
                rw [h1] at h2
                exact h2
              · rename_i h1
                obtain ⟨x, st', rfl, h9⟩ := xa1_some h
                obtain ⟨a, r, rfl, h8⟩ := xa1_some h9; cases h8
                have h2 := x_putf (I' := I) (N' := xup N a f x) (v := 0) (w := x) (rest := r.map xv) (ls := ls) (pc := pc) C hR hS hf hfin hP hd (fun h => by rw [h1] at h; cases h) (fun _ _ => rfl) (fun q hq => xup_ne hq) (fun _ _ => rfl) (fun j hj => by rw [xup_at]; unfold va_up; rw [if_neg hj]) (fun h => absurd h1 h) (fun _ => by rw [xup_at]; unfold va_up; rw [if_pos rfl]) (fun H' locs' r1 r2 => k H' locs' ls r1 r2 hl)
                rw [h1] at h2
                exact h2
              · rename_i h0 h1
                obtain ⟨x, st', rfl, h⟩ := xi1_some h
                obtain ⟨a, r, rfl, h⟩ := xa1_some h; cases h
                have hk2 : xfk c f = 2 := by
                  rcases xfk_cases c f with h | h | h
                  · exact absurd h h0
                  · exact absurd h h1
                  · exact h
                have h2 := x_putf (I' := xup I a f x) (N' := N) (v := x) (w := 0) (rest := r.map xv) (ls := ls) (pc := pc) C hR hS hf hfin (And.left hP) hd (fun _ => And.right hP) (fun q hq => xup_ne hq) (fun _ _ => rfl) (fun j hj => by rw [xup_at]; unfold va_up; rw [if_neg hj]) (fun _ _ => rfl) (fun _ => by rw [xup_at]; unfold va_up; rw [if_pos rfl]) (fun h => by rw [hk2] at h; cases h) (fun H' locs' r1 r2 => k H' locs' ls r1 r2 hl)
                rw [hk2] at h2
                exact h2
          · cases h
        · cases h
      · cases h
theorem xgo_ok (C : xC Γ E M) (stop : List Nat) : ∀ (n : Nat) (P0 : Prop) (pc : Nat) (lv : xL) (st : List xV) (I : xI) (N : xN) (P : Prop) (g : xF), xgo M T stop n P0 pc lv st I N = some (P, g) → P → P0 ∧ (V Γ E Q z T g.2.2.2.1 g.2.2.2.2 ce sl g.1 g.2.1 g.2.2.1 → V Γ E Q z T I N ce sl pc lv st)
  | 0, P0, pc, lv, st, I, N, P, g, h, hP => by
    cases h
    exact ⟨hP, id⟩
  | n + 1, P0, pc, lv, st, I, N, P, g, h, hP => by
    unfold xgo at h
    split at h
    · cases h; exact ⟨hP, id⟩
    · rename_i i len hf
      split at h
      · cases h; exact ⟨hP, id⟩
      · rename_i pc' lv' st' I' N' h1
        split at h
        · cases h
          exact ⟨hP, fun k => V_2 C (C.dec hf) h1 trivial k⟩
        · obtain ⟨h3, h4⟩ := xgo_ok C stop n P0 pc' lv' st' I' N' P g h hP
          exact ⟨h3, fun k => V_2 C (C.dec hf) h1 trivial (h4 k)⟩
      · rename_i p pc' lv' st' I' N' h1
        split at h
        · cases h
          exact ⟨hP.2, fun k => V_2 C (C.dec hf) h1 hP.1 k⟩
        · obtain ⟨⟨h2, h3⟩, h4⟩ := xgo_ok C stop n (p ∧ P0) pc' lv' st' I' N' P g h hP
          exact ⟨h3, fun k => V_2 C (C.dec hf) h1 h2 (h4 k)⟩
/-- a straight stretch -/
theorem V_go (C : xC Γ E M) (stop : List Nat) (pc' : Nat) {P : Prop} {lv' : xL} {st' : List xV} {I' : xI} {N' : xN} (h : xgo M T stop 90 True pc lv st I N = some (P, pc', lv', st', I', N')) (hP : P) (k : V Γ E Q z T I' N' ce sl pc' lv' st') : V Γ E Q z T I N ce sl pc lv st :=
  (xgo_ok C stop 90 True _ _ _ _ _ P _ h hP).2 k
end XWalk
end
section
/-! branches, answers, contracts and calls -/
/-- the room of a method: its level -/
def xRm (lev mc ms : Nat) : Room := { frames := lev, cells := mc, slots := ms, locals := 32 * lev }
def xD (Γ : xG) (E : xE) (M : xM) (lev mc ms : Nat) : Prop := xC Γ E M ∧ gR Γ = xRm lev mc ms
def xent : List xV → Nat → xL
  | [], _ => fun _ => none
  | .inl x :: r, k => fun j => if j = k then some (.inl x) else xent r (k + 1) j
  | .inr (.inl x) :: r, k => fun j => if j = k then some (.inr (.inl x)) else xent r (k + 2) j
  | .inr (.inr x) :: r, k => fun j => if j = k then some (.inr (.inr x)) else xent r (k + 1) j
theorem xent_in : ∀ (av : List xV) (k i : Nat) (v : xV), xent av k i = some v → (i, xv v) ∈ lv_args k (av.map xv)
  | [], _, _, _, h => by cases h
  | .inl x :: r, k, i, v, h => by
    unfold xent at h
    split at h
    · rename_i hi; cases h; rw [hi]; exact List.mem_cons_self ..
    · exact List.mem_cons_of_mem _ (xent_in r (k + 1) i v h)
  | .inr (.inl x) :: r, k, i, v, h => by
    unfold xent at h
    split at h
    · rename_i hi; cases h; rw [hi]; exact List.mem_cons_self ..
    · exact List.mem_cons_of_mem _ (xent_in r (k + 2) i v h)
  | .inr (.inr x) :: r, k, i, v, h => by
    unfold xent at h
    split at h
    · rename_i hi; cases h; rw [hi]; exact List.mem_cons_self ..
    · refine List.mem_cons_of_mem _ ?_
      have h2 := xent_in r (k + 1) i v h
      have h3 : (if (xv (.inr (.inr x))).category = 2 then k + 2 else k + 1) = k + 1 := by rw [if_neg]; show ¬ (xr x).category = 2; rw [xr_cat]; decide
      rw [h3]
      exact h2
def xwd : List xV → Nat
  | [] => 0
  | .inr (.inl _) :: r => xwd r + 2
  | _ :: r => xwd r + 1
theorem xwd_len : ∀ av : List xV, (lg_sl (av.map xv)).length = xwd av
  | [] => rfl
  | .inl x :: r => by
    have h := xwd_len r
    simp [lg_sl, xwd, xv, Value.category] at h ⊢
    omega
  | .inr (.inl x) :: r => by
    have h := xwd_len r
    simp [lg_sl, xwd, xv, Value.category] at h ⊢
    omega
  | .inr (.inr x) :: r => by
    have h := xwd_len r
    have hc := xr_cat x
    simp [lg_sl, xwd, xv, hc] at h ⊢
    omega
abbrev xPo : Type := Option xV → Nat → xY → xI → xN → Prop
def xPre (E : xE) (z : Nat) (T : xY) (I : xI) (N : xN) (U : State) : Prop := xR E z T I N U.heap ∧ xK E U ∧ xW U ∧ xX E U U.heap
def xPost (E : xE) (post : xPo) : Array Value → State → Outcome → State → Prop := fun _ st oc t => (∃ (r : Option xV) (z : Nat) (T : xY) (I : xI) (N : xN), oc = .returned (r.map xv) ∧ post r z T I N ∧ xR E z T I N t.heap) ∧ va_F (fun q => E.2.2 ≤ q) st t
def xws (M : xM) : List Cond := [.code M.1 M.2.1 M.2.2.1 M.2.2.2.1]
/-- THE CONTRACT of a method at a level: from arguments and world, at most mc cells of ms slots made, to an answer and a world -/
def Spec (M : xM) (lev : Nat) (av : List xV) (z : Nat) (T : xY) (I : xI) (N : xN) (mc ms : Nat) (post : xPo) : Prop :=
  ∀ (l : Launch) (E : xE), Met l M.1 (xws M) (xRm lev mc ms) (va_Pc (av.map xv) (xPre E z T I N)) (xPost E post) mc ms (fun q => E.2.2 ≤ q)
def xQ (Γ : xG) (E : xE) (post : xPo) (mc ms : Nat) : State → Prop := MQ (gb Γ) (xPost E post) (ga Γ) (gs Γ) mc ms (fun q => E.2.2 ≤ q)
theorem xX.moved {E : xE} {u U : State} {H H' : Heap} (hvm : u.vm.Alike U.vm) (hq : ∀ a : Nat, a < H.size → ¬ E.2.2 ≤ a → H'[a]? = H[a]?) (h : xX E u H) : xX E U H' := ⟨(vx_Zq.moved hvm h.1).kept hq, (vx_Zq.moved hvm h.2).kept hq⟩
theorem xPre.blind {E : xE} {z : Nat} {T : xY} {I : xI} {N : xN} {av : List Value} : FrameBlind (va_Pc av (xPre E z T I N)) := by
  intro a U g mk ⟨h0, h1, h2, h3, h4⟩
  exact ⟨h0, h1, xK.moved (u := U) (U := U.calling g mk a) (Vm.Alike.refl U.vm) h2, xW.warm (s := U) (U := U.calling g mk a) h3 (State.WarmedH.refl U), xX.moved (u := U) (U := U.calling g mk a) (Vm.Alike.refl U.vm) (fun _ _ _ => rfl) h4⟩
/-- a contract out of a walk -/
theorem Spec_of {M : xM} {lev : Nat} {av : List xV} {z : Nat} {T : xY} {I : xI} {N : xN} {mc ms : Nat} {post : xPo} (hok : ∀ e ∈ M.2.2.2.2.2, decode M.2.1 e.1 = .ok (e.2.1, e.2.2)) (hpl : plainName M.1.cls = true) (hcls : xRn M.2.2.2.2.1 = M.1.cls ∧ M.2.2.2.2.1 < 12) (hlen : xwd av ≤ M.2.2.1)
    (h : ∀ (Γ : xG) (E : xE), xD Γ E M lev mc ms → V Γ E (xQ Γ E post mc ms) z T I N 0 0 0 (xent av 0) []) : Spec M lev av z T I N mc ms post := by
  intro l E
  refine Met.ofW (cc := M.2.1) (maxL := M.2.2.1) (ret := M.2.2.2.1) hpl rfl ?_
  intro p e s m args below meth c s₁ B hml hv
  obtain ⟨rfl, hR, hK, hW, hX⟩ := hv
  have hown : s.vm.findClass M.1.cls = some m.cls := findClass_of_methodNamed B.named
  have C : xD (p, l, e, (headSpec (xws M) (xRm lev mc ms)).room, s, m, (av.map xv).toArray, below, meth, c) E M lev mc ms :=
    ⟨⟨⟨B.exec, B.bytes, B.returns, hml, by rw [hcls.1]; exact hown, B.notSynchronized, (name_of_methodNamed B.named B.method).1⟩, hok, hcls.2, hK, hW, hX, by rw [hR.1]; exact hR.2.1⟩, rfl⟩
  have hl := lv_entry (av.map xv) (n := M.2.2.1) (by rw [xwd_len]; exact hlen)
  rw [lg_entry_eq]
  exact h _ E C s.heap [] _ hR va_S.rf ⟨hl.1.trans hml.symm, hl.2.1, fun i v hi => hl.2.2 _ (xent_in av 0 i v hi)⟩
theorem Spec.mono {M : xM} {lev : Nat} {av : List xV} {z : Nat} {T : xY} {I : xI} {N : xN} {mc ms : Nat} {post post' : xPo} (h : Spec M lev av z T I N mc ms post) (hp : ∀ r z T I N, post r z T I N → post' r z T I N) : Spec M lev av z T I N mc ms post' := by
  intro l E p e ha hc hk s m args below hf happ hpre hK
  obtain ⟨k, o, h1, h2, h3, ⟨⟨r, z', T', I', N', e1, e2, e3⟩, hF⟩, hL⟩ := h l E p e ha hc hk s m args below hf happ hpre hK
  exact ⟨k, o, h1, h2, h3, ⟨⟨r, z', T', I', N', e1, hp _ _ _ _ _ e2, e3⟩, hF⟩, hL⟩
section XRules
variable {Γ : xG} {E : xE} {M : xM} {T : xY} {I : xI} {N : xN} {z : Nat} {ce sl pc lev mc ms : Nat} {Q : State → Prop} {lv : xL} {st : List xV} {post : xPo}
theorem V_run (D : xD Γ E M lev mc ms) (stop : List Nat) (pc' : Nat) {P : Prop} {lv' : xL} {st' : List xV} {I' : xI} {N' : xN} (h : xgo M T stop 90 True pc lv st I N = some (P, pc', lv', st', I', N')) (hP : P) (k : V Γ E Q z T I' N' ce sl pc' lv' st') : V Γ E Q z T I N ce sl pc lv st := V_go D.1 stop pc' h hP k
theorem V_wide {k n : Nat} (h1 : ce ≤ k) (h2 : sl ≤ n) (h : V Γ E Q z T I N k n pc lv st) : V Γ E Q z T I N ce sl pc lv st := fun H locs ls hR hS hl => W.widen h1 h2 (h H locs ls hR hS hl)
theorem V_lv {lv' : xL} (hl : ∀ i v, lv' i = some v → lv i = some v) (h : V Γ E Q z T I N ce sl pc lv' st) : V Γ E Q z T I N ce sl pc lv st := fun H locs ls hR hS hls => h H locs ls hR hS ⟨hls.1, hls.2.1, fun i v hi => hls.2.2 i v (hl i v hi)⟩

theorem V_eq (D : xD Γ E M lev mc ms) (tgt : Nat) {off : Int} {x : Int} (h : xfe M pc = some (.ifCond .eq off, 3)) (ht : (pc : Int) + off = (tgt : Int)) (hx : xIn x) (kt : x = 0 → V Γ E Q z T I N ce sl tgt lv st) (kf : ¬ (x = 0) → V Γ E Q z T I N ce sl (pc + 3) lv st) : V Γ E Q z T I N ce sl pc lv (.inl x :: st) := by
  intro H locs ls hR hS hl
  have e : (Int32.ofInt x = 0) ↔ (x = 0) := by rw [← Int32.toInt_inj, x32 hx, Int32.toInt_zero]
  exact lv_if_eq D.1.1.1 D.1.1.2.1 (D.1.dec h) ht (fun c => kt (e.mp c) H locs ls hR hS hl) (fun c => kf (fun q => c (e.mpr q)) H locs ls hR hS hl)
theorem V_ieq (D : xD Γ E M lev mc ms) (tgt : Nat) {off : Int} {x y : Int} (h : xfe M pc = some (.if_icmp .eq off, 3)) (ht : (pc : Int) + off = (tgt : Int)) (hx : xIn x) (hy : xIn y) (kt : x = y → V Γ E Q z T I N ce sl tgt lv st) (kf : ¬ (x = y) → V Γ E Q z T I N ce sl (pc + 3) lv st) : V Γ E Q z T I N ce sl pc lv (.inl y :: .inl x :: st) := by
  intro H locs ls hR hS hl
  have e : (Int32.ofInt x = Int32.ofInt y) ↔ (x = y) := by rw [← Int32.toInt_inj, x32 hx, x32 hy]
  exact lv_icmp_eq D.1.1.1 D.1.1.2.1 (D.1.dec h) ht (fun c => kt (e.mp c) H locs ls hR hS hl) (fun c => kf (fun q => c (e.mpr q)) H locs ls hR hS hl)
theorem V_ne (D : xD Γ E M lev mc ms) (tgt : Nat) {off : Int} {x : Int} (h : xfe M pc = some (.ifCond .ne off, 3)) (ht : (pc : Int) + off = (tgt : Int)) (hx : xIn x) (kt : ¬ x = 0 → V Γ E Q z T I N ce sl tgt lv st) (kf : x = 0 → V Γ E Q z T I N ce sl (pc + 3) lv st) : V Γ E Q z T I N ce sl pc lv (.inl x :: st) := by
  intro H locs ls hR hS hl
  have e : (Int32.ofInt x = 0) ↔ (x = 0) := by rw [← Int32.toInt_inj, x32 hx, Int32.toInt_zero]
  exact lv_if_ne D.1.1.1 D.1.1.2.1 (D.1.dec h) ht (fun c => kt (fun q => c (e.mpr q)) H locs ls hR hS hl) (fun c => kf (e.mp c) H locs ls hR hS hl)
theorem V_ine (D : xD Γ E M lev mc ms) (tgt : Nat) {off : Int} {x y : Int} (h : xfe M pc = some (.if_icmp .ne off, 3)) (ht : (pc : Int) + off = (tgt : Int)) (hx : xIn x) (hy : xIn y) (kt : ¬ x = y → V Γ E Q z T I N ce sl tgt lv st) (kf : x = y → V Γ E Q z T I N ce sl (pc + 3) lv st) : V Γ E Q z T I N ce sl pc lv (.inl y :: .inl x :: st) := by
  intro H locs ls hR hS hl
  have e : (Int32.ofInt x = Int32.ofInt y) ↔ (x = y) := by rw [← Int32.toInt_inj, x32 hx, x32 hy]
  exact lv_icmp_ne D.1.1.1 D.1.1.2.1 (D.1.dec h) ht (fun c => kt (fun q => c (e.mpr q)) H locs ls hR hS hl) (fun c => kf (e.mp c) H locs ls hR hS hl)
theorem V_lt (D : xD Γ E M lev mc ms) (tgt : Nat) {off : Int} {x : Int} (h : xfe M pc = some (.ifCond .lt off, 3)) (ht : (pc : Int) + off = (tgt : Int)) (hx : xIn x) (kt : x < 0 → V Γ E Q z T I N ce sl tgt lv st) (kf : ¬ (x < 0) → V Γ E Q z T I N ce sl (pc + 3) lv st) : V Γ E Q z T I N ce sl pc lv (.inl x :: st) := by
  intro H locs ls hR hS hl
  have e : (Int32.ofInt x < 0) ↔ (x < 0) := by rw [Int32.lt_iff_toInt_lt, x32 hx, Int32.toInt_zero]
  exact lv_if_lt D.1.1.1 D.1.1.2.1 (D.1.dec h) ht (fun c => kt (e.mp c) H locs ls hR hS hl) (fun c => kf (fun q => c (e.mpr q)) H locs ls hR hS hl)
theorem V_ilt (D : xD Γ E M lev mc ms) (tgt : Nat) {off : Int} {x y : Int} (h : xfe M pc = some (.if_icmp .lt off, 3)) (ht : (pc : Int) + off = (tgt : Int)) (hx : xIn x) (hy : xIn y) (kt : x < y → V Γ E Q z T I N ce sl tgt lv st) (kf : ¬ (x < y) → V Γ E Q z T I N ce sl (pc + 3) lv st) : V Γ E Q z T I N ce sl pc lv (.inl y :: .inl x :: st) := by
  intro H locs ls hR hS hl
  have e : (Int32.ofInt x < Int32.ofInt y) ↔ (x < y) := by rw [Int32.lt_iff_toInt_lt, x32 hx, x32 hy]
  exact lv_icmp_lt D.1.1.1 D.1.1.2.1 (D.1.dec h) ht (fun c => kt (e.mp c) H locs ls hR hS hl) (fun c => kf (fun q => c (e.mpr q)) H locs ls hR hS hl)
theorem V_ge (D : xD Γ E M lev mc ms) (tgt : Nat) {off : Int} {x : Int} (h : xfe M pc = some (.ifCond .ge off, 3)) (ht : (pc : Int) + off = (tgt : Int)) (hx : xIn x) (kt : 0 ≤ x → V Γ E Q z T I N ce sl tgt lv st) (kf : ¬ (0 ≤ x) → V Γ E Q z T I N ce sl (pc + 3) lv st) : V Γ E Q z T I N ce sl pc lv (.inl x :: st) := by
  intro H locs ls hR hS hl
  have e : (0 ≤ Int32.ofInt x) ↔ (0 ≤ x) := by rw [Int32.le_iff_toInt_le, x32 hx, Int32.toInt_zero]
  exact lv_if_ge D.1.1.1 D.1.1.2.1 (D.1.dec h) ht (fun c => kt (e.mp c) H locs ls hR hS hl) (fun c => kf (fun q => c (e.mpr q)) H locs ls hR hS hl)
theorem V_ige (D : xD Γ E M lev mc ms) (tgt : Nat) {off : Int} {x y : Int} (h : xfe M pc = some (.if_icmp .ge off, 3)) (ht : (pc : Int) + off = (tgt : Int)) (hx : xIn x) (hy : xIn y) (kt : y ≤ x → V Γ E Q z T I N ce sl tgt lv st) (kf : ¬ (y ≤ x) → V Γ E Q z T I N ce sl (pc + 3) lv st) : V Γ E Q z T I N ce sl pc lv (.inl y :: .inl x :: st) := by
  intro H locs ls hR hS hl
  have e : (Int32.ofInt y ≤ Int32.ofInt x) ↔ (y ≤ x) := by rw [Int32.le_iff_toInt_le, x32 hx, x32 hy]
  exact lv_icmp_ge D.1.1.1 D.1.1.2.1 (D.1.dec h) ht (fun c => kt (e.mp c) H locs ls hR hS hl) (fun c => kf (fun q => c (e.mpr q)) H locs ls hR hS hl)
theorem V_gt (D : xD Γ E M lev mc ms) (tgt : Nat) {off : Int} {x : Int} (h : xfe M pc = some (.ifCond .gt off, 3)) (ht : (pc : Int) + off = (tgt : Int)) (hx : xIn x) (kt : 0 < x → V Γ E Q z T I N ce sl tgt lv st) (kf : ¬ (0 < x) → V Γ E Q z T I N ce sl (pc + 3) lv st) : V Γ E Q z T I N ce sl pc lv (.inl x :: st) := by
  intro H locs ls hR hS hl
  have e : (0 < Int32.ofInt x) ↔ (0 < x) := by rw [Int32.lt_iff_toInt_lt, x32 hx, Int32.toInt_zero]
  exact lv_if_gt D.1.1.1 D.1.1.2.1 (D.1.dec h) ht (fun c => kt (e.mp c) H locs ls hR hS hl) (fun c => kf (fun q => c (e.mpr q)) H locs ls hR hS hl)
theorem V_igt (D : xD Γ E M lev mc ms) (tgt : Nat) {off : Int} {x y : Int} (h : xfe M pc = some (.if_icmp .gt off, 3)) (ht : (pc : Int) + off = (tgt : Int)) (hx : xIn x) (hy : xIn y) (kt : y < x → V Γ E Q z T I N ce sl tgt lv st) (kf : ¬ (y < x) → V Γ E Q z T I N ce sl (pc + 3) lv st) : V Γ E Q z T I N ce sl pc lv (.inl y :: .inl x :: st) := by
  intro H locs ls hR hS hl
  have e : (Int32.ofInt y < Int32.ofInt x) ↔ (y < x) := by rw [Int32.lt_iff_toInt_lt, x32 hx, x32 hy]
  exact lv_icmp_gt D.1.1.1 D.1.1.2.1 (D.1.dec h) ht (fun c => kt (e.mp c) H locs ls hR hS hl) (fun c => kf (fun q => c (e.mpr q)) H locs ls hR hS hl)
theorem V_le (D : xD Γ E M lev mc ms) (tgt : Nat) {off : Int} {x : Int} (h : xfe M pc = some (.ifCond .le off, 3)) (ht : (pc : Int) + off = (tgt : Int)) (hx : xIn x) (kt : x ≤ 0 → V Γ E Q z T I N ce sl tgt lv st) (kf : ¬ (x ≤ 0) → V Γ E Q z T I N ce sl (pc + 3) lv st) : V Γ E Q z T I N ce sl pc lv (.inl x :: st) := by
  intro H locs ls hR hS hl
  have e : (Int32.ofInt x ≤ 0) ↔ (x ≤ 0) := by rw [Int32.le_iff_toInt_le, x32 hx, Int32.toInt_zero]
  exact lv_if_le D.1.1.1 D.1.1.2.1 (D.1.dec h) ht (fun c => kt (e.mp c) H locs ls hR hS hl) (fun c => kf (fun q => c (e.mpr q)) H locs ls hR hS hl)
theorem V_ile (D : xD Γ E M lev mc ms) (tgt : Nat) {off : Int} {x y : Int} (h : xfe M pc = some (.if_icmp .le off, 3)) (ht : (pc : Int) + off = (tgt : Int)) (hx : xIn x) (hy : xIn y) (kt : x ≤ y → V Γ E Q z T I N ce sl tgt lv st) (kf : ¬ (x ≤ y) → V Γ E Q z T I N ce sl (pc + 3) lv st) : V Γ E Q z T I N ce sl pc lv (.inl y :: .inl x :: st) := by
  intro H locs ls hR hS hl
  have e : (Int32.ofInt x ≤ Int32.ofInt y) ↔ (x ≤ y) := by rw [Int32.le_iff_toInt_le, x32 hx, x32 hy]
  exact lv_icmp_le D.1.1.1 D.1.1.2.1 (D.1.dec h) ht (fun c => kt (e.mp c) H locs ls hR hS hl) (fun c => kf (fun q => c (e.mpr q)) H locs ls hR hS hl)
theorem V_null (D : xD Γ E M lev mc ms) (tgt : Nat) {off : Int} {x : Nat} (h : xfe M pc = some (.ifnull off, 3)) (ht : (pc : Int) + off = (tgt : Int)) (kt : x = 0 → V Γ E Q z T I N ce sl tgt lv st) (kf : 0 < x → V Γ E Q z T I N ce sl (pc + 3) lv st) : V Γ E Q z T I N ce sl pc lv (.inr (.inr x) :: st) := by
  intro H locs ls hR hS hl
  show W _ _ _ _ _ _ _ _ _ _ _ _ _ _ _ (F0 _ _ _ (xr x :: st.map xv))
  by_cases hx : x = 0
  · rw [hx, xr_0]; exact lv_ifnullN D.1.1.1 D.1.1.2.1 (D.1.dec h) ht (kt hx H locs ls hR hS hl)
  · rw [xr_pos (by omega)]; exact lv_ifnull D.1.1.1 D.1.1.2.1 (D.1.dec h) (kf (by omega) H locs ls hR hS hl)
theorem V_nonnull (D : xD Γ E M lev mc ms) (tgt : Nat) {off : Int} {x : Nat} (h : xfe M pc = some (.ifnonnull off, 3)) (ht : (pc : Int) + off = (tgt : Int)) (kt : 0 < x → V Γ E Q z T I N ce sl tgt lv st) (kf : x = 0 → V Γ E Q z T I N ce sl (pc + 3) lv st) : V Γ E Q z T I N ce sl pc lv (.inr (.inr x) :: st) := by
  intro H locs ls hR hS hl
  show W _ _ _ _ _ _ _ _ _ _ _ _ _ _ _ (F0 _ _ _ (xr x :: st.map xv))
  by_cases hx : x = 0
  · rw [hx, xr_0]; exact lv_ifnonnullN D.1.1.1 D.1.1.2.1 (D.1.dec h) (kf hx H locs ls hR hS hl)
  · rw [xr_pos (by omega)]; exact lv_ifnonnull D.1.1.1 D.1.1.2.1 (D.1.dec h) ht (kt (by omega) H locs ls hR hS hl)
theorem xr_rf (x : Nat) : xr x = va_rf (if x = 0 then none else some x) := by
  unfold xr; by_cases h : x = 0 <;> simp [h, va_rf]
theorem xrf_inj {x y : Nat} : ((if x = 0 then none else some x : Option Nat) = (if y = 0 then none else some y)) ↔ x = y := by
  by_cases h : x = 0 <;> by_cases h2 : y = 0 <;> simp [h, h2] <;> omega
theorem V_aeq (D : xD Γ E M lev mc ms) (tgt : Nat) {off : Int} {x y : Nat} (h : xfe M pc = some (.if_acmp .eq off, 3)) (ht : (pc : Int) + off = (tgt : Int)) (kt : x = y → V Γ E Q z T I N ce sl tgt lv st) (kf : ¬ x = y → V Γ E Q z T I N ce sl (pc + 3) lv st) : V Γ E Q z T I N ce sl pc lv (.inr (.inr y) :: .inr (.inr x) :: st) := by
  intro H locs ls hR hS hl
  show W _ _ _ _ _ _ _ _ _ _ _ _ _ _ _ (F0 _ _ _ (xr y :: xr x :: st.map xv))
  rw [xr_rf x, xr_rf y]
  exact lv_acmp_eq D.1.1.1 D.1.1.2.1 (D.1.dec h) ht (fun c => kt (xrf_inj.mp c) H locs ls hR hS hl) (fun c => kf (fun q => c (xrf_inj.mpr q)) H locs ls hR hS hl)
theorem V_ane (D : xD Γ E M lev mc ms) (tgt : Nat) {off : Int} {x y : Nat} (h : xfe M pc = some (.if_acmp .ne off, 3)) (ht : (pc : Int) + off = (tgt : Int)) (kt : ¬ x = y → V Γ E Q z T I N ce sl tgt lv st) (kf : x = y → V Γ E Q z T I N ce sl (pc + 3) lv st) : V Γ E Q z T I N ce sl pc lv (.inr (.inr y) :: .inr (.inr x) :: st) := by
  intro H locs ls hR hS hl
  show W _ _ _ _ _ _ _ _ _ _ _ _ _ _ _ (F0 _ _ _ (xr y :: xr x :: st.map xv))
  rw [xr_rf x, xr_rf y]
  exact lv_acmp_ne D.1.1.1 D.1.1.2.1 (D.1.dec h) ht (fun c => kt (fun q => c (xrf_inj.mpr q)) H locs ls hR hS hl) (fun c => kf (by first | exact xrf_inj.mp c | exact xrf_inj.mp (Classical.not_not.mp c)) H locs ls hR hS hl)
/-! answers -/
theorem V_iret (D : xD Γ E M lev mc ms) {x : Int} (h : xfe M pc = some (.ireturn, 1)) (hr : M.2.2.2.1 = some .int) (hp : post (some (.inl x)) z T I N) : V Γ E (xQ Γ E post mc ms) z T I N mc ms pc lv [.inl x] := by
  intro H locs ls hR hS hl
  exact W.iret (v := Int32.ofInt x) D.1.1.1 D.1.1.2.1 (by rw [D.1.1.2.2.1, hr]) (fun t ht hW => ⟨⟨some (.inl x), z, T, I, N, rfl, hp, by rw [ht]; exact hR⟩, hS.F ht⟩) hS.2.2 (D.1.dec h) D.1.1.2.2.2.2.2.1
theorem V_zret (D : xD Γ E M lev mc ms) {x : Int} (h : xfe M pc = some (.ireturn, 1)) (hr : M.2.2.2.1 = some .boolean) (hx : x = 0 ∨ x = 1) (hp : post (some (.inl x)) z T I N) : V Γ E (xQ Γ E post mc ms) z T I N mc ms pc lv [.inl x] := by
  intro H locs ls hR hS hl
  exact W.zret (v := Int32.ofInt x) (ty := .boolean) D.1.1.1 D.1.1.2.1 (by rw [D.1.1.2.2.1, hr]) (xnar_bool hx).1 (fun t ht hW => ⟨⟨some (.inl x), z, T, I, N, rfl, hp, by rw [ht]; exact hR⟩, hS.F ht⟩) hS.2.2 (D.1.dec h) D.1.1.2.2.2.2.2.1
theorem V_lret (D : xD Γ E M lev mc ms) {x : Int} (h : xfe M pc = some (.lreturn, 1)) (hr : M.2.2.2.1 = some .long) (hp : post (some (.inr (.inl x))) z T I N) : V Γ E (xQ Γ E post mc ms) z T I N mc ms pc lv [.inr (.inl x)] := by
  intro H locs ls hR hS hl
  exact W.lret (v := Int64.ofInt x) D.1.1.1 D.1.1.2.1 (by rw [D.1.1.2.2.1, hr]) (fun t ht hW => ⟨⟨some (.inr (.inl x)), z, T, I, N, rfl, hp, by rw [ht]; exact hR⟩, hS.F ht⟩) hS.2.2 (D.1.dec h) D.1.1.2.2.2.2.2.1
theorem V_aret (D : xD Γ E M lev mc ms) {x : Nat} {n : String} (h : xfe M pc = some (.areturn, 1)) (hr : M.2.2.2.1 = some (.object n)) (hp : post (some (.inr (.inr x))) z T I N) : V Γ E (xQ Γ E post mc ms) z T I N mc ms pc lv [.inr (.inr x)] := by
  intro H locs ls hR hS hl
  exact W.aret (v := xr x) (rt := .object n) D.1.1.1 D.1.1.2.1 (by rw [D.1.1.2.2.1, hr]) (Or.inl ⟨n, rfl⟩) (by unfold xr; split; exact Or.inl rfl; exact Or.inr ⟨x, rfl⟩) (fun t ht hW => ⟨⟨some (.inr (.inr x)), z, T, I, N, rfl, hp, by rw [ht]; exact hR⟩, hS.F ht⟩) hS.2.2 (D.1.dec h) D.1.1.2.2.2.2.2.1
theorem V_vret (D : xD Γ E M lev mc ms) (h : xfe M pc = some (.return_, 1)) (hr : M.2.2.2.1 = none) (hp : post none z T I N) : V Γ E (xQ Γ E post mc ms) z T I N mc ms pc lv [] := by
  intro H locs ls hR hS hl
  exact W.vret D.1.1.1 D.1.1.2.1 (by rw [D.1.1.2.2.1, hr]) (fun t ht hW => ⟨⟨none, z, T, I, N, rfl, hp, by rw [ht]; exact hR⟩, hS.F ht⟩) hS.2.2 (D.1.dec h) D.1.1.2.2.2.2.2.1
end XRules
end
section
/-! calls and makings -/
theorem xwd_sum : ∀ st : List xV, ((st.map xv).map fun v => v.category).sum = xwd st
  | [] => rfl
  | .inl x :: r => by
    have h := xwd_sum r
    simp only [List.map_cons, List.sum_cons, xwd, h]
    show 1 + _ = _
    omega
  | .inr (.inl x) :: r => by
    have h := xwd_sum r
    simp only [List.map_cons, List.sum_cons, xwd, h]
    show 2 + _ = _
    omega
  | .inr (.inr x) :: r => by
    have h := xwd_sum r
    simp only [List.map_cons, List.sum_cons, xwd, h]
    show (xr x).category + _ = _
    rw [xr_cat]
    omega
section XCalls
variable {Γ : xG} {E : xE} {M M' : xM} {T : xY} {I : xI} {N : xN} {z : Nat} {ce sl pc lev lev' mc ms mc' ms' n idx : Nat} {Q : State → Prop} {lv : xL} {st : List xV} {post post' : xPo} {av : List xV}
theorem x_pre (C : xC Γ E M) {H : Heap} {locs : List Loc} (hR : xR E z T I N H) (hS : va_S (fun q => E.2.2 ≤ q) (gs Γ).heap H locs) {avv : List Value} : ∀ U : State, U.heap = H → (gs Γ).WarmedH U.vm → va_Pc avv (xPre E z T I N) avv.toArray U := by
  obtain ⟨-, -, ho, hK, hW, hX, hz⟩ := id C
  intro U hU hWm
  refine ⟨rfl, by rw [hU]; exact hR, xK.moved hWm.alike hK, xW.warm hW hWm, xX.moved hWm.alike (fun a h1 h2 => ?_) hX⟩
  rw [hU]
  exact hS.2.1 a h1 h2
theorem x_cb (D : xD Γ E M lev mc ms) (hb : xMb M' n) (hl : (Cond.methodLink (xRn M.2.2.2.2.1) idx M'.1).before (ga Γ) (gs Γ) = true) (hlev : lev' < lev) :
    CallB (gR Γ) (gs Γ) (ga Γ) (xRn M.2.2.2.2.1) idx M'.1 M'.2.1 M'.2.2.1 M'.2.2.2.1 (xws M') (xRm lev' mc' ms') mc' ms' n := by
  obtain ⟨-, -, ho, hK, hW, hX, hz⟩ := D.1
  have hR := D.2
  refine ⟨rfl, rfl, ?_, ?_, ?_, List.mem_singleton.mpr rfl, hW.use hb.1 rfl, hW.use hb.2.1 rfl, hb.2.2.1, fun sig h => ?_, hl⟩
  · rw [hR]; exact hlev
  · rw [hR]; show 8 + (M'.2.2.1 + 11) + 32 * lev' ≤ 32 * lev
    have := hb.2.2.2.2.1
    omega
  · intro w hw a' U hWm
    rw [List.mem_singleton.mp hw]
    exact hW.at hWm hb.1 rfl a'
  · have h2 := hb.2.2.2.1
    rw [h] at h2
    exact (Option.some.inj h2).symm
theorem x_after {H : Heap} {locs L : List Loc} {ls : Array Slot} {p : Program} {T9 : State} {r : Option xV} (hk : ∀ r z' T' I' N', post' r z' T' I' N' → V Γ E Q z' T' I' N' (ce + mc') (sl + ms') (pc + 3) lv (r.toList ++ st))
    (hS : va_S (fun q => E.2.2 ≤ q) (gs Γ).heap H locs) (hl : xLs ls (gc Γ).maxLocals lv) {v : Option Value} {st₀ t T' : State} (h0 : st₀.heap = H) (hL : ∀ q ∈ L, E.2.2 ≤ q.base) (e1 : T'.heap = t.heap) (hq : xPost E post' (ga Γ) st₀ (.returned v) t) (X' : Stand (gp Γ) (gl Γ) (ge Γ) (gR Γ) (gs Γ) (gm Γ) (ga Γ) (gb Γ) (gt Γ) (gc Γ) T' (locs ++ L) (ce + mc') (sl + ms')) :
    ∃ t2, Steps (gp Γ).tables (ge Γ) (gb Γ) (T'.setTop (F0 (gm Γ) (pc + 3) ls (v.toList ++ st.map xv))) t2 ∧ Q t2 := by
  obtain ⟨⟨r, z', T1, I1, N1, ev, hp, hR'⟩, hF⟩ := hq
  have hv : v = r.map xv := by injection ev
  subst hv
  obtain ⟨hz, hkp⟩ := hF
  rw [h0] at hz hkp
  have h2 := hk r z' T1 I1 N1 hp T'.heap (locs ++ L) ls (by rw [e1]; exact hR')
    ⟨Nat.le_trans hS.1 (by rw [e1]; exact hz), fun q g1 g2 => by rw [e1, hkp q (Nat.lt_of_lt_of_le g1 hS.1) g2]; exact hS.2.1 q g1 g2, fun q hq => by
      rcases List.mem_append.mp hq with h | h
      · exact hS.2.2 q h
      · exact hL q h⟩ hl T' rfl X'
  have e2 : (r.toList ++ st).map xv = (r.map xv).toList ++ st.map xv := by cases r <;> simp
  rw [e2] at h2
  exact h2
theorem V_callV (D : xD Γ E M lev mc ms) (hm : xMv M' n) (hf : xfe M pc = some (.invokevirtual idx, 3)) (hlk : Cond.methodLink (xRn M.2.2.2.2.1) idx M'.1 ∈ lw_tbl) {a : Nat} (hS : Spec M' lev' (.inr (.inr a) :: av) z T I N mc' ms' post') (hT : T a = some (.inr M'.2.2.2.2.1))
    (hr : (Nat.blt lev' lev && av.length.beq n && (xwd st).ble 8) = true) (hc : ce + mc' ≤ mc ∧ sl + ms' ≤ ms) (k : ∀ r z' T' I' N', post' r z' T' I' N' → V Γ E Q z' T' I' N' (ce + mc') (sl + ms') (pc + 3) lv (r.toList ++ st)) : V Γ E Q z T I N ce sl pc lv (av.reverse ++ .inr (.inr a) :: st) := by
  intro H locs ls hR hSS hl
  simp only [Bool.and_eq_true] at hr
  obtain ⟨⟨hr1, hr2⟩, hr3⟩ := hr
  have hr1 : lev' < lev := Nat.le_of_ble_eq_true hr1
  have hr2 : av.length = n := Nat.eq_of_beq_eq_true hr2
  have hr3 : xwd st ≤ 8 := Nat.le_of_ble_eq_true hr3
  obtain ⟨⟨hx, hb, -, hml, hown, -⟩, -, ho, hK, hW, hX, hz⟩ := id D.1
  obtain ⟨-, ⟨cell, q1, q2, q3, -⟩, -, hpos⟩ := hR.obj hT
  have hc11 := hm.2.2.2
  have hp : PreV (gs Γ) H (xRn M'.2.2.2.2.1) a (va_Pc ((.inr (.inr a) :: av : List xV).map xv) (xPre E z T I N)) (av.map xv) := by
    refine ⟨xPre.blind, ⟨cell, q1, by rw [q3]; rfl, by rw [q2]; exact (hK.cls hc11).2.1⟩, ?_⟩
    have h1 := x_pre D.1 hR hSS (avv := (.inr (.inr a) :: av : List xV).map xv)
    have e : (Value.ref a :: av.map xv) = (.inr (.inr a) :: av : List xV).map xv := by show _ = xr a :: _; rw [xr_pos hpos]
    rw [e]
    exact h1
  have cw : CallW (gR Γ) (gs Γ) (ga Γ) (xRn M.2.2.2.2.1) (xRn M'.2.2.2.2.1) idx M'.1 M'.2.1 M'.2.2.1 M'.2.2.2.1 (xws M') (xRm lev' mc' ms') mc' ms' n :=
    ⟨x_cb D hm.1 (hW.use hlk rfl) hr1, hW.use hm.2.1 rfl, by rw [hm.1.2.2.2.2.2.1]; exact hW.use hm.2.2.1 rfl⟩
  have run := va_runV (e := ge Γ) (below := gb Γ) (meth := gt Γ) (locs := locs) (cells := ce) (slots := sl) (g := F0 (gm Γ) pc ls ((av.reverse ++ .inr (.inr a) :: st).map xv)) (rest := st.map xv) (Ts := []) ⟨hx, hb, hml, hown, fun _ h => nomatch h⟩ (hS (gl Γ) E) cw hp rfl (by rw [List.length_map]; exact hr2) (hl.1.trans hml) (by rw [List.map_append, List.map_reverse]; show _ ++ xr a :: _ = _; rw [xr_pos hpos]) (lv_room (by rw [xwd_sum]; exact hr3)) (D.1.dec hf) (by rw [D.2]; exact hc)
  intro T9 hT9 X
  obtain ⟨v, st₀, t, T', L, h0, X', hL, e1, e2, hq, st9⟩ := run T9 hT9 X
  obtain ⟨t2, a1, b1⟩ := x_after (p := gp Γ) (T9 := T9) (r := none) k hSS hl h0 hL e1 hq X'
  exact ⟨t2, st9 t2 a1, b1⟩
theorem V_callS (D : xD Γ E M lev mc ms) (hm : xMs M' n) (hf : xfe M pc = some (.invokestatic idx, 3)) (hlk : Cond.methodLink (xRn M.2.2.2.2.1) idx M'.1 ∈ lw_tbl) (hS : Spec M' lev' av z T I N mc' ms' post')
    (hr : (Nat.blt lev' lev && av.length.beq n && (xwd st).ble 8) = true) (hc : ce + mc' ≤ mc ∧ sl + ms' ≤ ms) (k : ∀ r z' T' I' N', post' r z' T' I' N' → V Γ E Q z' T' I' N' (ce + mc') (sl + ms') (pc + 3) lv (r.toList ++ st)) : V Γ E Q z T I N ce sl pc lv (av.reverse ++ st) := by
  intro H locs ls hR hSS hl
  simp only [Bool.and_eq_true] at hr
  obtain ⟨⟨hr1, hr2⟩, hr3⟩ := hr
  have hr1 : lev' < lev := Nat.le_of_ble_eq_true hr1
  have hr2 : av.length = n := Nat.eq_of_beq_eq_true hr2
  have hr3 : xwd st ≤ 8 := Nat.le_of_ble_eq_true hr3
  obtain ⟨⟨hx, hb, -, hml, hown, -⟩, -, ho, hK, hW, hX, hz⟩ := id D.1
  have hp : PreS (gs Γ) H (va_Pc (av.map xv) (xPre E z T I N)) (av.map xv) := ⟨xPre.blind, x_pre D.1 hR hSS⟩
  have run := va_runS (e := ge Γ) (below := gb Γ) (meth := gt Γ) (locs := locs) (cells := ce) (slots := sl) (g := F0 (gm Γ) pc ls ((av.reverse ++ st).map xv)) (rest := st.map xv) (Ts := []) ⟨hx, hb, hml, hown, fun _ h => nomatch h⟩ (hS (gl Γ) E) ⟨x_cb (mc' := mc') (ms' := ms') D hm.1 (hW.use hlk rfl) hr1, hW.use hm.2 rfl⟩ hp rfl (by rw [List.length_map]; exact hr2) (hl.1.trans hml) (by rw [List.map_append, List.map_reverse]) (lv_room (by rw [xwd_sum]; exact hr3)) (D.1.dec hf) (by rw [D.2]; exact hc)
  intro T9 hT9 X
  obtain ⟨v, st₀, t, T', L, h0, X', hL, e1, e2, hq, st9⟩ := run T9 hT9 X
  obtain ⟨t2, a1, b1⟩ := x_after (p := gp Γ) (T9 := T9) (r := none) k hSS hl h0 hL e1 hq X'
  exact ⟨t2, st9 t2 a1, b1⟩
theorem V_callI (D : xD Γ E M lev mc ms) (hm : xMi M' n) (hf : xfe M pc = some (.invokespecial idx, 3)) (hlk : Cond.methodLink (xRn M.2.2.2.2.1) idx M'.1 ∈ lw_tbl) {a : Nat} (ha : 0 < a) (hS : Spec M' lev' (.inr (.inr a) :: av) z T I N mc' ms' post')
    (hr : (Nat.blt lev' lev && av.length.beq n && (xwd st).ble 8) = true) (hc : ce + mc' ≤ mc ∧ sl + ms' ≤ ms) (k : ∀ r z' T' I' N', post' r z' T' I' N' → V Γ E Q z' T' I' N' (ce + mc') (sl + ms') (pc + 3) lv (r.toList ++ st)) : V Γ E Q z T I N ce sl pc lv (av.reverse ++ .inr (.inr a) :: st) := by
  intro H locs ls hR hSS hl
  simp only [Bool.and_eq_true] at hr
  obtain ⟨⟨hr1, hr2⟩, hr3⟩ := hr
  have hr1 : lev' < lev := Nat.le_of_ble_eq_true hr1
  have hr2 : av.length = n := Nat.eq_of_beq_eq_true hr2
  have hr3 : xwd st ≤ 8 := Nat.le_of_ble_eq_true hr3
  obtain ⟨⟨hx, hb, -, hml, hown, -⟩, -, ho, hK, hW, hX, hz⟩ := id D.1
  have e : (Value.ref a :: av.map xv) = (.inr (.inr a) :: av : List xV).map xv := by show _ = xr a :: _; rw [xr_pos ha]
  have hp : PreS (gs Γ) H (va_Pc ((.inr (.inr a) :: av : List xV).map xv) (xPre E z T I N)) (Value.ref a :: av.map xv) := ⟨xPre.blind, by rw [e]; exact x_pre D.1 hR hSS⟩
  have cb := x_cb (mc' := mc') (ms' := ms') D hm.1 (hW.use hlk rfl) hr1
  rw [hm.2.2.2] at cb
  have run := va_runI (e := ge Γ) (below := gb Γ) (meth := gt Γ) (locs := locs) (cells := ce) (slots := sl) (g := F0 (gm Γ) pc ls ((av.reverse ++ .inr (.inr a) :: st).map xv)) (rest := st.map xv) (Ts := []) ⟨hx, hb, hml, hown, fun _ h => nomatch h⟩ (hS (gl Γ) E) ⟨cb, hm.2.2.1, hW.use hm.2.1 rfl⟩ hp rfl (by rw [List.length_map]; exact hr2) (hl.1.trans hml) (by rw [List.map_append, List.map_reverse]; show _ ++ xr a :: _ = _; rw [xr_pos ha]) (lv_room (by rw [xwd_sum]; exact hr3)) (D.1.dec hf) (by rw [D.2]; exact hc)
  intro T9 hT9 X
  obtain ⟨v, st₀, t, T', L, h0, X', hL, e1, e2, hq, st9⟩ := run T9 hT9 X
  obtain ⟨t2, a1, b1⟩ := x_after (p := gp Γ) (T9 := T9) (r := none) k hSS hl h0 hL e1 hq X'
  exact ⟨t2, st9 t2 a1, b1⟩
theorem V_callN (D : xD Γ E M lev mc ms) (hm : xMi M' n) (hf : xfe M pc = some (.invokespecial idx, 3)) (hlk : Cond.methodLinkNest (xRn M.2.2.2.2.1) idx M'.1 "CoapDesk" ∈ lw_tbl) {a : Nat} (ha : 0 < a) (hS : Spec M' lev' (.inr (.inr a) :: av) z T I N mc' ms' post')
    (hr : (Nat.blt lev' lev && av.length.beq n && (xwd st).ble 8) = true) (hc : ce + mc' ≤ mc ∧ sl + ms' ≤ ms) (k : ∀ r z' T' I' N', post' r z' T' I' N' → V Γ E Q z' T' I' N' (ce + mc') (sl + ms') (pc + 3) lv (r.toList ++ st)) : V Γ E Q z T I N ce sl pc lv (av.reverse ++ .inr (.inr a) :: st) := by
  intro H locs ls hR hSS hl
  simp only [Bool.and_eq_true] at hr
  obtain ⟨⟨hr1, hr2⟩, hr3⟩ := hr
  have hr1 : lev' < lev := Nat.le_of_ble_eq_true hr1
  have hr2 : av.length = n := Nat.eq_of_beq_eq_true hr2
  have hr3 : xwd st ≤ 8 := Nat.le_of_ble_eq_true hr3
  obtain ⟨⟨hx, hb, -, hml, hown, -⟩, -, ho, hK, hW, hX, hz⟩ := id D.1
  have e : (Value.ref a :: av.map xv) = (.inr (.inr a) :: av : List xV).map xv := by show _ = xr a :: _; rw [xr_pos ha]
  have hp : PreS (gs Γ) H (va_Pc ((.inr (.inr a) :: av : List xV).map xv) (xPre E z T I N)) (Value.ref a :: av.map xv) := ⟨xPre.blind, by rw [e]; exact x_pre D.1 hR hSS⟩
  have hb9 := hm.1
  have cn : va_CN (gR Γ) (gs Γ) (ga Γ) (xRn M.2.2.2.2.1) idx M'.1 "CoapDesk" M'.2.1 M'.2.2.1 none (xws M') (xRm lev' mc' ms') mc' ms' n := by
    have hR9 := D.2
    refine ⟨⟨rfl, rfl, ?_, ?_, ?_, ?_⟩, ?_, hW.use hb9.2.1 rfl, hb9.2.2.1, fun sig h => ?_, hW.use hlk rfl⟩
    · rw [hR9]; exact hr1
    · rw [hR9]; show 8 + (M'.2.2.1 + 11) + 32 * lev' ≤ 32 * lev
      have := hb9.2.2.2.2.1
      omega
    · intro w hw a' U hWm
      rw [List.mem_singleton.mp hw]
      exact hW.at hWm hb9.1 rfl a'
    · rw [← hm.2.2.2]; exact List.mem_singleton.mpr rfl
    · rw [← hm.2.2.2]; exact hW.use hb9.1 rfl
    · have h2 := hb9.2.2.2.1
      rw [h] at h2
      exact (Option.some.inj h2).symm
  have run := va_runIN (e := ge Γ) (below := gb Γ) (meth := gt Γ) (locs := locs) (cells := ce) (slots := sl) (g := F0 (gm Γ) pc ls ((av.reverse ++ .inr (.inr a) :: st).map xv)) (rest := st.map xv) (Ts := []) ⟨hx, hb, hml, hown, fun _ h => nomatch h⟩ (hS (gl Γ) E) ⟨cn, hm.2.2.1, hW.use hm.2.1 rfl⟩ hp rfl (by rw [List.length_map]; exact hr2) (hl.1.trans hml) (by rw [List.map_append, List.map_reverse]; show _ ++ xr a :: _ = _; rw [xr_pos ha]) (lv_room (by rw [xwd_sum]; exact hr3)) (D.1.dec hf) (by rw [D.2]; exact hc)
  intro T9 hT9 X
  obtain ⟨v, st₀, t, T', L, h0, X', hL, e1, e2, hq, st9⟩ := run T9 hT9 X
  obtain ⟨t2, a1, b1⟩ := x_after (p := gp Γ) (T9 := T9) (r := none) k hSS hl h0 hL e1 hq X'
  exact ⟨t2, st9 t2 a1, b1⟩
end XCalls
end
section
/-! makings, switches, the JDK's own -/
theorem xfv_default {c k : Nat} (hc : c < 11) (hk : k < xNN c) : defaultValue (xty c k) = xfv (xfk c k) 0 0 := by
  rcases xfk_cases c k with h | h | h
  · rw [h, xfk0 h]; rfl
  · rw [h]
    have h1 := xfk1_all c (List.mem_range.mpr hc) k (List.mem_range.mpr hk) h
    cases hh : xty c k <;> rw [hh] at h1 <;> simp [FieldType.isReference] at h1 <;> rfl
  · rw [h, xfk2 h]; rfl
theorem xR.lt {E : xE} {z : Nat} {T : xY} {I : xI} {N : xN} {H : Heap} (h : xR E z T I N H) {a : Nat} (ha : T a ≠ none) : a < z := by
  rw [← h.1]
  cases hT : T a with
  | none => exact absurd hT ha
  | some t =>
    cases t with
    | inl q =>
      obtain ⟨k, n⟩ := q
      exact (Array.getElem?_eq_some_iff.mp (h.arr hT).1).1
    | inr c =>
      obtain ⟨-, ⟨cell, q1, -⟩, -⟩ := h.obj hT
      exact (Array.getElem?_eq_some_iff.mp q1).1
theorem xR.grow {E : xE} {z : Nat} {T : xY} {I : xI} {N : xN} {H H' : Heap} (h : xR E z T I N H) (hs : H'.size = z + 1) (ho : ∀ q : Nat, q < z → H'[q]? = H[q]?) {t : xT} {i : Nat → Int} {n : Nat → Nat} (hz : xAt E (va_up T z (some t)) (va_up I z i) (va_up N z n) H' z) : xR E (z + 1) (va_up T z (some t)) (va_up I z i) (va_up N z n) H' := by
  refine ⟨hs, by have := h.2.1; omega, h.2.2.1, fun a => ?_⟩
  by_cases ha : a = z
  · rw [ha]; exact hz
  · have h1 := h.2.2.2 a
    have e1 : va_up T z (some t) a = T a := by unfold va_up; rw [if_neg ha]
    have e2 : va_up I z i a = I a := by unfold va_up; rw [if_neg ha]
    have e3 : va_up N z n a = N a := by unfold va_up; rw [if_neg ha]
    cases hT : T a with
    | none =>
      unfold xAt
      rw [e1, hT]
      trivial
    | some t' =>
      have hl := h.lt (a := a) (by rw [hT]; exact fun h => by cases h)
      have h2 := h1.kept (H' := H') (I' := va_up I z i) (N' := va_up N z n) (ho a hl) e2 e3
      unfold xAt at h2 ⊢
      rw [e1]
      exact h2
section XMakes
variable {Γ : xG} {E : xE} {M M' : xM} {T : xY} {I : xI} {N : xN} {z : Nat} {ce sl pc lev lev' mc ms mc' ms' n idx : Nat} {Q : State → Prop} {lv : xL} {st : List xV} {post post' : xPo} {av : List xV}
theorem V_obj (D : xD Γ E M lev mc ms) (hf : xfe M pc = some (.invokespecial idx, 3)) (hlk : Cond.methodLink (xRn M.2.2.2.2.1) idx objectInit ∈ lw_tbl) {a : Nat} (ha : 0 < a) (hr : ((1).ble lev && (xwd st).ble 8) = true) (k : V Γ E Q z T I N ce sl (pc + 3) lv st) : V Γ E Q z T I N ce sl pc lv (.inr (.inr a) :: st) := by
  intro H locs ls hR hSS hl
  simp only [Bool.and_eq_true] at hr
  have hr1 : 1 ≤ lev := Nat.le_of_ble_eq_true hr.1
  have hr3 : xwd st ≤ 8 := Nat.le_of_ble_eq_true hr.2
  obtain ⟨⟨hx, hb, -, hml, hown, -⟩, -, ho, hK, hW, hX, hz⟩ := id D.1
  exact W.objInit (a := a) (rest := st.map xv) (g := F0 (gm Γ) pc ls ((.inr (.inr a) :: st : List xV).map xv)) hx hb hown (hW.use hlk rfl) (hW.use xobj_in.1 rfl) (hW.use xobj_in.2 rfl) rfl hl.1 (by show xr a :: _ = _; rw [xr_pos ha]) (D.1.dec hf) (by rw [D.2]; exact hr1) (by rw [D.2, xwd_sum]; show 2 * 0 + _ + 12 ≤ 32 * lev; omega) (k H locs ls hR hSS hl)
theorem V_new (D : xD Γ E M lev mc ms) (c : Nat) (hf : xfe M pc = some (.new idx, 3)) (hlk : Cond.classLink (xRn M.2.2.2.2.1) idx (xRn c) ∈ lw_tbl) (hc : c < 11) (hm : ce + 1 ≤ mc ∧ sl + xNN c ≤ ms)
    (k : V Γ E Q (z + 1) (va_up T z (some (.inr c))) (va_up I z (fun _ => 0)) (va_up N z (fun _ => 0)) (ce + 1) (sl + xNN c) (pc + 3) lv (.inr (.inr z) :: st)) : V Γ E Q z T I N ce sl pc lv st := by
  intro H locs ls hR hSS hl
  obtain ⟨⟨hx, hb, -, hml, hown, -⟩, -, ho, hK, hW, hX, hz⟩ := id D.1
  have hKn := hK.cls hc
  have hin := xnew_in c (List.mem_range.mpr hc)
  have hz1 : 0 < z := Nat.lt_of_lt_of_le hR.2.2.1 hR.2.1
  refine W.newcK hx hb hown (hW.use hlk rfl) (hW.use hin.1 rfl) (hW.use hin.2 rfl) (g := F0 (gm Γ) pc ls (st.map xv)) rfl (D.1.dec hf) (by rw [D.2]; exact hm.1) (by rw [D.2]; exact hm.2) hKn.2.1 hR.1 fun H1 kC hkC e1 z1 o1 => ?_
  have h2 := k H1 locs ls (hR.grow z1 o1 ?_) ⟨Nat.le_trans hSS.1 (by rw [z1, hR.1]; omega), fun q h1 h2 => (o1 q (by rw [← hR.1]; exact Nat.lt_of_lt_of_le h1 hSS.1)).trans (hSS.2.1 q h1 h2), hSS.2.2⟩ hl
  · have e : xv (.inr (.inr z)) = .ref z := xr_pos hz1
    rw [List.map_cons, e] at h2
    exact h2
  · unfold xAt
    have e1' : va_up T z (some (.inr c)) z = some (.inr c) := by unfold va_up; rw [if_pos rfl]
    rw [e1']
    refine ⟨hc, (u_born (args := ga Γ) (xty c) (hW.us hc) (fun w h => h) hKn hkC e1 (xty_ok hc)).to fun j hj => ?_, hR.2.1⟩
    have e2 : va_up I z (fun _ => 0) z j = 0 := by unfold va_up; rw [if_pos rfl]
    have e3 : va_up N z (fun _ => 0) z j = 0 := by unfold va_up; rw [if_pos rfl]
    rw [e2, e3]
    exact xfv_default hc hj
theorem V_newa (D : xD Γ E M lev mc ms) (kd : Nat) {ty : ArrayType} {x : Int} (hf : xfe M pc = some (.newarray ty, 2)) (hk : kd < 3 ∧ newarray.typeOf ty = xat kd) (hx0 : 0 ≤ x ∧ x ≤ 1000000) (hm : ce + 1 ≤ mc ∧ sl + x.toNat ≤ ms)
    (k : V Γ E Q (z + 1) (va_up T z (some (.inl (kd, x.toNat)))) (va_up I z (fun _ => 0)) (va_up N z (fun _ => 0)) (ce + 1) (sl + x.toNat) (pc + 2) lv (.inr (.inr z) :: st)) : V Γ E Q z T I N ce sl pc lv (.inl x :: st) := by
  intro H locs ls hR hSS hl
  obtain ⟨⟨hx, hb, -, hml, hown, -⟩, -, ho, hK, hW, hX, hz⟩ := id D.1
  have hz1 : 0 < z := Nat.lt_of_lt_of_le hR.2.2.1 hR.2.1
  obtain ⟨i1, i2, i3⟩ := xidx (i := x) (n := 1000001) hx0.1 (by omega) (by omega)
  have hin : Cond.arrayClass (newarray.typeOf ty) ∈ lw_tbl := by
    rw [hk.2]
    refine xarc_in _ ?_
    rcases (by omega : kd = 0 ∨ kd = 1 ∨ kd = 2) with h | h | h <;> subst h <;> decide
  have hcb : x.toNat * componentBytes (newarray.typeOf ty) ≤ 536870912 := by
    have h9 : x.toNat ≤ 1000000 := by omega
    rw [hk.2]
    rcases (by omega : kd = 0 ∨ kd = 1 ∨ kd = 2) with h | h | h <;> subst h <;> simp only [xat, componentBytes] <;> omega
  refine va_newaK hx hb (hW.use hin rfl) (g := F0 (gm Γ) pc ls ((.inl x :: st : List xV).map xv)) rfl (D.1.dec hf) (n := Int32.ofInt x) (N := x.toNat) (rest := st.map xv) rfl (fun h => i3 (Or.inl h)) i1 hcb (by rw [D.2]; exact hm.1) (by rw [D.2]; exact hm.2) hR.1 fun H1 cA e1 z1 o1 hA hfc => ?_
  have hcA : cA = E.2.1 kd := by
    have h9 := (hK.arr (k := kd) (by omega)).2
    rw [hk.2] at hfc
    rcases (by omega : kd = 0 ∨ kd = 1 ∨ kd = 2) with h | h | h <;> subst h <;> exact Option.some.inj (hfc.symm.trans h9)
  subst hcA
  have h2 := k H1 locs ls (hR.grow z1 o1 ?_) ⟨Nat.le_trans hSS.1 (by rw [z1, hR.1]; omega), fun q h1 h2 => (o1 q (by rw [← hR.1]; exact Nat.lt_of_lt_of_le h1 hSS.1)).trans (hSS.2.1 q h1 h2), hSS.2.2⟩ hl
  · have e : xv (.inr (.inr z)) = .ref z := xr_pos hz1
    rw [List.map_cons, e] at h2
    exact h2
  · unfold xAt
    have e1' : va_up T z (some (.inl (kd, x.toNat))) z = some (.inl (kd, x.toNat)) := by unfold va_up; rw [if_pos rfl]
    rw [e1']
    refine ⟨?_, by omega, hR.2.1, by omega⟩
    rw [e1, hk.2]
    congr 2
    funext j
    have e2 : va_up I z (fun _ => 0) z j = 0 := by unfold va_up; rw [if_pos rfl]
    have e3 : va_up N z (fun _ => 0) z j = 0 := by unfold va_up; rw [if_pos rfl]
    rw [e2, e3]
    rcases (by omega : kd = 0 ∨ kd = 1 ∨ kd = 2) with h | h | h <;> subst h <;> rfl
theorem V_newq (D : xD Γ E M lev mc ms) (kd : Nat) {x : Int} (hf : xfe M pc = some (.anewarray idx, 3)) (hlk : Cond.classLink (xRn M.2.2.2.2.1) idx (xRn (xec kd)) ∈ lw_tbl) (hk : 3 ≤ kd ∧ kd < 7) (hx0 : 0 ≤ x ∧ x ≤ 1000000) (hm : ce + 1 ≤ mc ∧ sl + x.toNat ≤ ms)
    (k : V Γ E Q (z + 1) (va_up T z (some (.inl (kd, x.toNat)))) (va_up I z (fun _ => 0)) (va_up N z (fun _ => 0)) (ce + 1) (sl + x.toNat) (pc + 3) lv (.inr (.inr z) :: st)) : V Γ E Q z T I N ce sl pc lv (.inl x :: st) := by
  intro H locs ls hR hSS hl
  obtain ⟨⟨hx, hb, -, hml, hown, -⟩, -, ho, hK, hW, hX, hz⟩ := id D.1
  have hz1 : 0 < z := Nat.lt_of_lt_of_le hR.2.2.1 hR.2.1
  obtain ⟨i1, i2, i3⟩ := xidx (i := x) (n := 1000001) hx0.1 (by omega) (by omega)
  have hty : xat kd = .object (xRn (xec kd)) := by
    rcases (by omega : kd = 3 ∨ kd = 4 ∨ kd = 5 ∨ kd = 6) with h | h | h | h <;> subst h <;> rfl
  have hin : Cond.arrayOver (.object (xRn (xec kd))) ∈ lw_tbl := by
    refine xaro_in _ ?_
    rcases (by omega : kd = 3 ∨ kd = 4 ∨ kd = 5 ∨ kd = 6) with h | h | h | h <;> subst h <;> decide
  have hcb : (Int32.ofInt x).toNatClampNeg * 4 ≤ 536870912 := by rw [i1]; omega
  refine W.anew hx hb hown (hW.use hlk rfl) (hW.use hin rfl) (g := F0 (gm Γ) pc ls ((.inl x :: st : List xV).map xv)) rfl (D.1.dec hf) (n := Int32.ofInt x) (rest := st.map xv) rfl (fun h => i3 (Or.inl h)) hcb (by rw [D.2]; exact hm.1) (by rw [D.2, i1]; exact hm.2) fun cA kA comp f1 f2 f3 f4 => ?_
  have hcA : cA = E.2.1 kd := by
    have h9 := (hK.arr (k := kd) (by omega)).2
    rw [hty] at h9
    obtain ⟨-, -, -, -, -, k4⟩ := h9
    exact Option.some.inj (f1.symm.trans k4)
  subst hcA
  rw [i1]
  generalize hH1 : H.push ({ cls := E.2.1 kd, slots := Array.replicate x.toNat .null, vm := .none } : Cell) = H1
  have z1 : H1.size = z + 1 := by rw [← hH1, Array.size_push, hR.1]
  have e1 : H1[z]? = some (arrV (E.2.1 kd) x.toNat (fun _ => .null)) := by rw [← hH1, ← hR.1, Array.getElem?_push_size, ← arrV_new]
  have o1 : ∀ q : Nat, q < z → H1[q]? = H[q]? := fun q hq => by rw [← hH1, Array.getElem?_push, if_neg (by rw [hR.1]; exact Nat.ne_of_lt hq)]
  have h2 := k H1 locs ls (hR.grow z1 o1 ?_) ⟨Nat.le_trans hSS.1 (by rw [z1, hR.1]; omega), fun q h1 h2 => (o1 q (by rw [← hR.1]; exact Nat.lt_of_lt_of_le h1 hSS.1)).trans (hSS.2.1 q h1 h2), hSS.2.2⟩ hl
  · have e : xv (.inr (.inr z)) = .ref z := xr_pos hz1
    rw [List.map_cons, e, ← hR.1] at h2
    exact h2
  · unfold xAt
    have e1' : va_up T z (some (.inl (kd, x.toNat))) z = some (.inl (kd, x.toNat)) := by unfold va_up; rw [if_pos rfl]
    rw [e1']
    refine ⟨?_, by omega, hR.2.1, by omega⟩
    rw [e1]
    congr 2
    funext j
    have e2 : va_up I z (fun _ => 0) z j = 0 := by unfold va_up; rw [if_pos rfl]
    have e3 : va_up N z (fun _ => 0) z j = 0 := by unfold va_up; rw [if_pos rfl]
    rw [e2, e3]
    unfold xav
    rw [if_neg (by omega), if_neg (by omega)]
    rfl
/-- a final field, in the constructor of its class -/
theorem V_putF (D : xD Γ E M lev mc ms) {c f : Nat} {a w : Nat} (hf : xfe M pc = some (.putfield idx, 3)) (hfr : (xfr M.2.2.2.2.1).lookup idx = some (c, f, false)) (hfin : (xTT c f).2.2.2 = true) (hown2 : (xTT c f).1 = xRn M.2.2.2.2.1) (hini : M.1.name = "<init>") (hk1 : xfk c f = 1) (hT : T a = some (.inr c))
    (k : V Γ E Q z T I (xup N a f w) ce sl (pc + 3) lv st) : V Γ E Q z T I N ce sl pc lv (.inr (.inr w) :: .inr (.inr a) :: st) := by
  intro H locs ls hR hS0 hl
  obtain ⟨⟨hx, hb, hr, hml, hown, hlocks, hname⟩, -, ho, hK, hW, hX, hz⟩ := id D.1
  obtain ⟨hw, hc, hfN⟩ := x_fld D.1 hfr
  obtain ⟨-, ⟨cell, q1, q2, q3, q4⟩, hA, hpos⟩ := hR.obj hT
  have hap := va_apart (own := xRn M.2.2.2.2.1) (args := ga Γ) (hW.us hc) (fun w h => h) (xty c) (xty_ok hc) (xnm_ok hc) hK (xcl_at hc)
  obtain ⟨hS, hfc, kC, hkC, hkind⟩ := hK.cls hc
  obtain ⟨cf, kf, fi, fd, hi, hsl⟩ := hS f hfN
  have hlay := hW.us (A := ga Γ) hc _ (u_in_lay hfN)
  unfold u_lay at hlay
  rw [if_pos hfin] at hlay
  have hst := (u_facts hfc hkC (Or.inr hlay) hi).1
  have hcf : (gm Γ).cls = cf := by
    obtain ⟨_, _, c', _, _, _, -, -, hf', -, -, -, hown2', -⟩ := Cond.laysFinal_spec hlay
    have e1 : c' = cf := by have := hi.symm.trans hf'; simp at this; exact this.1.symm
    rw [hown2] at hown2'
    rw [← e1]; exact Option.some.inj (hown.symm.trans hown2')
  have hfit := xfit_of (z := 0) (a := w) hc hfN (fun h => by rw [hk1] at h; cases h)
  rw [hk1] at hfit
  have h6 := u_fits hfc hkC hkind (Or.inr hlay) hi (xty_ok hc f hfN) hfit.1 hfit.2
  show W _ _ _ _ _ _ _ _ _ _ _ _ _ _ _ (F0 _ _ _ (xr w :: xr a :: st.map xv))
  rw [xr_pos hpos]
  refine W.putFinK hx hb hown hw hi hst hcf (by rw [hname]; exact hini) (by rw [q2]; exact h6) q1 q3 (by rw [hsl]; exact k2_hasslot (q4 f hfN)) rfl rfl (D.1.dec hf) fun H' e1 e2 e3 => ?_
  refine k H' _ ls (hR.put e2 e3 (fun _ _ => rfl) (fun q hq => xup_ne hq) ?_) (hS0.put e2 e3 hA) hl
  unfold xAt
  rw [hT]
  refine ⟨hc, t_OB.to (V := updV (fun k => xfv (xfk c k) (I a k) (N a k)) f (xr w)) ⟨_, e1, q2, q3, ?_⟩ (fun j _ => ?_), hA⟩
  · rw [hsl]; exact t_set q4 hap hfN _
  · rw [xup_at]
    unfold updV va_up
    by_cases hj : j = f
    · subst hj
      rw [if_pos rfl, if_pos rfl, hk1]; rfl
    · rw [if_neg hj, if_neg hj]
theorem V_tswIn (D : xD Γ E M lev mc ms) (tgt : Nat) {dflt lo hi off x : Int} {offs : Array Int} {len : Nat} (h : xfe M pc = some (.tableswitch dflt lo hi offs, len)) (hx : xIn x) (h1 : lo ≤ x ∧ x ≤ hi) (ho : offs[(x - lo).toNat]? = some off) (ht : (pc : Int) + off = (tgt : Int)) (k : V Γ E Q z T I N ce sl tgt lv st) : V Γ E Q z T I N ce sl pc lv (.inl x :: st) := by
  intro H locs ls hR hS hl
  exact lv_tableIn D.1.1.1 D.1.1.2.1 (D.1.dec h) (by rw [x32 hx]; omega) (by rw [x32 hx]; omega) (by rw [x32 hx]; exact ho) ht (k H locs ls hR hS hl)
theorem V_tswOut (D : xD Γ E M lev mc ms) (tgt : Nat) {dflt lo hi x : Int} {offs : Array Int} {len : Nat} (h : xfe M pc = some (.tableswitch dflt lo hi offs, len)) (hx : xIn x) (h1 : x < lo ∨ hi < x) (ht : (pc : Int) + dflt = (tgt : Int)) (k : V Γ E Q z T I N ce sl tgt lv st) : V Γ E Q z T I N ce sl pc lv (.inl x :: st) := by
  intro H locs ls hR hS hl
  exact lv_tableOut D.1.1.1 D.1.1.2.1 (D.1.dec h) (by rw [x32 hx]; exact h1) ht (k H locs ls hR hS hl)
theorem V_lsw (D : xD Γ E M lev mc ms) (tgt : Nat) {dflt off x : Int} {ps : Array (Int × Int)} {len : Nat} (h : xfe M pc = some (.lookupswitch dflt ps, len)) (hp : (ps.toList.zip (ps.toList.drop 1)).all (fun (a, next) => a.1 < next.1) = true) (hx : xIn x) (ho : Op.lookupswitch.offset ps.toList dflt x = off) (ht : (pc : Int) + off = (tgt : Int)) (k : V Γ E Q z T I N ce sl tgt lv st) : V Γ E Q z T I N ce sl pc lv (.inl x :: st) := by
  intro H locs ls hR hS hl
  exact lv_lookup D.1.1.1 D.1.1.2.1 (D.1.dec h) hp (by rw [x32 hx]; exact ho) ht (k H locs ls hR hS hl)
theorem V_min (D : xD Γ E M lev mc ms) {x y : Int} (hf : xfe M pc = some (.invokestatic idx, 3)) (hlk : Cond.methodLink (xRn M.2.2.2.2.1) idx Lib.Math.min.name ∈ lw_tbl) (hr : ((1).ble lev && (xwd st).ble 8) = true) (hxy : xIn x ∧ xIn y) (hc : ce ≤ mc ∧ sl ≤ ms) (k : V Γ E Q z T I N ce sl (pc + 3) lv (.inl (if y < x then y else x) :: st)) : V Γ E Q z T I N ce sl pc lv (.inl y :: .inl x :: st) := by
  intro H locs ls hR hSS hl
  simp only [Bool.and_eq_true] at hr
  have hr1 : 1 ≤ lev := Nat.le_of_ble_eq_true hr.1
  have hr3 : xwd st ≤ 8 := Nat.le_of_ble_eq_true hr.2
  obtain ⟨⟨hx, hb, -, hml, hown, -⟩, -, ho, hK, hW, hX, hz⟩ := id D.1
  have e : (Int32.ofInt y < Int32.ofInt x) ↔ y < x := by rw [Int32.lt_iff_toInt_lt, x32 hxy.1, x32 hxy.2]
  refine va_mmin hx hb hl.1.symm hown (hW.use hlk rfl) (hW.use xmin_in.1 rfl) (hW.use xmin_in.2.1 rfl) (hW.use xmin_in.2.2 rfl) (by rw [D.2]; exact hr1) (by rw [D.2, xwd_sum]; show _ + 13 ≤ 32 * lev; omega) (by rw [D.2]; exact hc.1) (by rw [D.2]; exact hc.2) (D.1.dec hf) ?_
  have h2 := k H locs ls hR hSS hl
  by_cases h : y < x
  · rw [if_pos (e.mpr h)]; rw [if_pos h] at h2; exact h2
  · rw [if_neg (fun q => h (e.mp q))]; rw [if_neg h] at h2; exact h2
end XMakes
end
section
/-! System.arraycopy of bytes -/
theorem V_copy {Γ : xG} {E : xE} {M : xM} {T : xY} {I : xI} {N : xN} {z : Nat} {ce sl pc lev mc ms idx : Nat} {Q : State → Prop} {lv : xL} {st : List xV} (D : xD Γ E M lev mc ms) (hf : xfe M pc = some (.invokestatic idx, 3)) (hlk : Cond.methodLink (xRn M.2.2.2.2.1) idx arraycopyName ∈ lw_tbl) {a0 a n0 n1 : Nat} {sp dp n : Int}
    (hT0 : T a0 = some (.inl (0, n0))) (hT1 : T a = some (.inl (0, n1))) (h1 : 0 ≤ sp ∧ 0 ≤ dp ∧ 0 ≤ n) (hn : n0 ≤ 1000000 ∧ n1 ≤ 1000000) (h2 : sp + n ≤ n0 ∧ dp + n ≤ n1) (hfit : ∀ i : Nat, (i : Int) < n → -128 ≤ I a0 (sp.toNat + i) ∧ I a0 (sp.toNat + i) ≤ 127)
    (hr : ((1).ble lev && (xwd st + (nativeFrameWords "java/lang/System" "arraycopy" 5 + 11)).ble (32 * lev)) = true)
    (k : V Γ E Q z T (va_up I a (va_cpy (I a0) (I a) sp.toNat dp.toNat n.toNat)) N ce sl (pc + 3) lv st) : V Γ E Q z T I N ce sl pc lv (.inl n :: .inl dp :: .inr (.inr a) :: .inl sp :: .inr (.inr a0) :: st) := by
  intro H locs ls hR hSS hl
  simp only [Bool.and_eq_true] at hr
  have hr1 : 1 ≤ lev := Nat.le_of_ble_eq_true hr.1
  have hr3 := Nat.le_of_ble_eq_true hr.2
  obtain ⟨⟨hx, hb, -, hml, hown, -⟩, -, ho, hK, hW, hX, hz⟩ := id D.1
  obtain ⟨q1, q2, q3, q4, q5⟩ := hR.arr hT0
  obtain ⟨r1, r2, r3, r4, r5⟩ := hR.arr hT1
  obtain ⟨s1, s2, s3⟩ := xidx (i := sp) (n := n0 + 1) h1.1 (by omega) (by omega)
  obtain ⟨d1, d2, d3⟩ := xidx (i := dp) (n := n1 + 1) h1.2.1 (by omega) (by omega)
  obtain ⟨m1, m2, m3⟩ := xidx (i := n) (n := n0 + 1) h1.2.2 (by omega) (by omega)
  have tS : (Int32.ofInt sp).toInt = sp := x32 (by constructor <;> omega)
  have tD : (Int32.ofInt dp).toInt = dp := x32 (by constructor <;> omega)
  have tN : (Int32.ofInt n).toInt = n := x32 (by constructor <;> omega)
  have hc0 : H[a0]? = some (vp_cell (E.2.1 0) (n0, .inl (fun j => Int32.ofInt (I a0 j)))) := q1
  have hc1 : H[a]? = some (vp_cell (E.2.1 0) (n1, .inl (fun j => Int32.ofInt (I a j)))) := r1
  show W _ _ _ _ _ _ _ _ _ _ _ _ _ _ _ (F0 _ _ _ (.int (Int32.ofInt n) :: .int (Int32.ofInt dp) :: xr a :: .int (Int32.ofInt sp) :: xr a0 :: st.map xv))
  rw [xr_pos q5, xr_pos r5]
  obtain ⟨-, k0, hk0, cm0, hkk0⟩ := (hK.arr q3).1 n0 (fun j => .int (Int32.ofInt (I a0 j)))
  intro T9 hT X
  obtain ⟨vm', X', step⟩ := X.arraycopy hx hown (hW.use hlk rfl) (hW.use xcpy_in.1 rfl) (hW.use xcpy_in.2.1 rfl) (hW.use xcpy_in.2.2 rfl) (src := a0) (dst := a) (cs := vp_cell (E.2.1 0) (n0, .inl (fun j => Int32.ofInt (I a0 j)))) (cd := vp_cell (E.2.1 0) (n1, .inl (fun j => Int32.ofInt (I a j)))) (srcPos := Int32.ofInt sp) (destPos := Int32.ofInt dp) (n := Int32.ofInt n) (by rw [hT]; exact hc0) (by rw [hT]; exact hc1)
    (fun _ h => by cases h) (fun _ h => by cases h) (fun h => by cases h) (fun h => by cases h) hk0 hk0 hkk0 hkk0 (by simp [xat, refKind]) (fun h => s3 (Or.inl h)) (fun h => d3 (Or.inl h)) (fun h => m3 (Or.inl h))
    (by rw [tS, tN]; show ¬ _ > ((arrV (E.2.1 0) n0 (fun j => .int (Int32.ofInt (I a0 j)))).slots.size : Int); rw [arrV_size]; omega)
    (by rw [tD, tN]; show ¬ _ > ((arrV (E.2.1 0) n1 (fun j => .int (Int32.ofInt (I a j)))).slots.size : Int); rw [arrV_size]; omega)
    (fun vm₁ _ i hi => by
      rw [m1] at hi
      have e : (vp_cell (E.2.1 0) (n0, .inl (fun j => Int32.ofInt (I a0 j)))).slots.getD ((Int32.ofInt sp).toNatClampNeg + i) .null = .int (Int32.ofInt (I a0 (sp.toNat + i))) := by
        show (arrV (E.2.1 0) n0 (fun j => .int (Int32.ofInt (I a0 j)))).slots.getD _ _ = _
        rw [Array.getD_eq_getD_getElem?, s1, arrV_read _ _ (by omega)]
        rfl
      have hf9 := hfit i (by omega)
      refine ⟨?_, ?_⟩
      · rw [e]
        show (decide ((-128 : Int32) ≤ Int32.ofInt (I a0 (sp.toNat + i))) && decide (Int32.ofInt (I a0 (sp.toNat + i)) ≤ 127)) = true
        have t9 : (Int32.ofInt (I a0 (sp.toNat + i))).toInt = I a0 (sp.toNat + i) := x32 (by constructor <;> omega)
        rw [Bool.and_eq_true, decide_eq_true_eq, decide_eq_true_eq, Int32.le_iff_toInt_le, Int32.le_iff_toInt_le, t9]
        exact ⟨hf9.1, hf9.2⟩
      · rw [e]
        exact trivial)
    (g := F0 (gm Γ) pc ls (.int (Int32.ofInt n) :: .int (Int32.ofInt dp) :: .ref a :: .int (Int32.ofInt sp) :: .ref a0 :: st.map xv)) rfl hl.1 (rest := st.map xv) rfl (by rw [hb]; exact D.1.dec hf) (by rw [D.2]; exact hr1) (by rw [D.2, xwd_sum]; show 2 * 0 + _ + _ ≤ 32 * lev; omega)
  have h4 : (Int32.ofInt sp).toNatClampNeg + (Int32.ofInt n).toNatClampNeg ≤ n0 := by rw [s1, m1]; omega
  have e1 : copied (vp_cell (E.2.1 0) (n0, .inl (fun j => Int32.ofInt (I a0 j)))) (vp_cell (E.2.1 0) (n1, .inl (fun j => Int32.ofInt (I a j)))) (Int32.ofInt sp) (Int32.ofInt dp) (Int32.ofInt n) = vp_cell (E.2.1 0) (n1, .inl (va_cpy (fun j => Int32.ofInt (I a0 j)) (fun j => Int32.ofInt (I a j)) (Int32.ofInt sp).toNatClampNeg (Int32.ofInt dp).toNatClampNeg (Int32.ofInt n).toNatClampNeg)) := va_copied (fun z => .int z) (E.2.1 0) (E.2.1 0) (fun j => Int32.ofInt (I a0 j)) (fun j => Int32.ofInt (I a j)) h4
  rw [e1] at X' step
  have hlt : a < H.size := (Array.getElem?_eq_some_iff.mp hc1).1
  generalize hcell : vp_cell (E.2.1 0) (n1, .inl (va_cpy (fun j => Int32.ofInt (I a0 j)) (fun j => Int32.ofInt (I a j)) (Int32.ofInt sp).toNatClampNeg (Int32.ofInt dp).toNatClampNeg (Int32.ofInt n).toNatClampNeg)) = cellN at X' step
  have hheap : ((T9.setVm vm').setCell a cellN).heap = H.setIfInBounds a cellN := by rw [← hT]; rfl
  have hat : (H.setIfInBounds a cellN)[a]? = some cellN := by simp [Array.getElem?_setIfInBounds, hlt]
  have hsz : (H.setIfInBounds a cellN).size = H.size := by simp
  have oq : ∀ q : Nat, q ≠ a → (H.setIfInBounds a cellN)[q]? = H[q]? := fun q hq => by simp [Array.getElem?_setIfInBounds, Ne.symm hq]
  have hxa : xAt E T (va_up I a (va_cpy (I a0) (I a) sp.toNat dp.toNat n.toNat)) N (H.setIfInBounds a cellN) a := by
    unfold xAt
    rw [hT1]
    refine ⟨?_, r2, r4, by omega⟩
    rw [hat, ← hcell]
    rw [vp_cell_i]
    congr 2
    funext j
    have e9 : va_up I a (va_cpy (I a0) (I a) sp.toNat dp.toNat n.toNat) a = va_cpy (I a0) (I a) sp.toNat dp.toNat n.toNat := by unfold va_up; rw [if_pos rfl]
    rw [e9, s1, d1, m1]
    unfold va_cpy
    by_cases h : dp.toNat ≤ j ∧ j < dp.toNat + n.toNat
    · rw [if_pos h, if_pos h]; rfl
    · rw [if_neg h, if_neg h]; rfl
  obtain ⟨t, a1, b1⟩ := k (H.setIfInBounds a cellN) _ ls (hR.put hsz oq (fun q hq => by unfold va_up; rw [if_neg hq]) (fun _ _ => rfl) hxa) ⟨by rw [hsz]; exact hSS.1, fun q g1 g2 => by
      rw [oq q (fun e => g2 (by rw [e]; exact r4))]
      exact hSS.2.1 q g1 g2, fun q hq => by
      rcases List.mem_append.mp hq with h | h
      · exact hSS.2.2 q h
      · first
        | (obtain ⟨i, -, rfl⟩ := List.mem_map.mp h; exact r4)
        | (simp at h; obtain ⟨i, -, rfl⟩ := h; exact r4)⟩ hl ((T9.setVm vm').setCell a cellN) hheap X'
  exact ⟨t, step t a1, b1⟩
end
section
/-! numbers and lists -/
/-- a byte as it is stored -/
def sg (v : Int) : Int := if v < 128 then v else v - 256
theorem x32b {x : Int} : (Int32.ofInt x).toInt = x.bmod 4294967296 := Int32.toInt_ofInt
theorem zAnd255 (x : Int) : zAnd x 255 = x % 256 := by
  unfold zAnd
  obtain ⟨n, hn, e⟩ : ∃ n : Nat, n < 2 ^ 32 ∧ Int32.ofInt x = nI n := ⟨(Int32.ofInt x).toBitVec.toNat, BitVec.isLt _, by
    rw [← Int32.toBitVec_inj]
    show _ = BitVec.ofNat 32 (Int32.ofInt x).toBitVec.toNat
    rw [BitVec.ofNat_toNat, BitVec.setWidth_eq]⟩
  have e2 : (Int32.ofInt (255 : Int)).toBitVec.toNat = 2 ^ 8 - 1 := by decide
  have h1 := pk_andN hn (m := Int32.ofInt 255) 8 e2
  rw [e, h1, nI_toInt (by have : n % 2 ^ 8 < 2 ^ 8 := Nat.mod_lt _ (by decide); omega)]
  have h2 : (Int32.ofInt x).toBitVec.toNat = n := by rw [e]; exact pk_tn hn
  have h3 : (Int32.ofInt x).toBitVec.toNat = (x % 4294967296).toNat := by
    rw [Int32.toBitVec_ofInt, BitVec.toNat_ofInt]; rfl
  omega
theorem zAndM (x : Int) (k : Nat) (m : Int) (hk : k ≤ 30) (hm : (Int32.ofInt m).toBitVec.toNat = 2 ^ k - 1) : zAnd x m = x % (2 ^ k : Nat) := by
  unfold zAnd
  obtain ⟨n, hn, e⟩ : ∃ n : Nat, n < 2 ^ 32 ∧ Int32.ofInt x = nI n := ⟨(Int32.ofInt x).toBitVec.toNat, BitVec.isLt _, by
    rw [← Int32.toBitVec_inj]
    show _ = BitVec.ofNat 32 (Int32.ofInt x).toBitVec.toNat
    rw [BitVec.ofNat_toNat, BitVec.setWidth_eq]⟩
  have h1 := pk_andN hn (m := Int32.ofInt m) k hm
  have hlt : n % 2 ^ k < 2 ^ k := Nat.mod_lt _ (Nat.two_pow_pos k)
  have hp : 2 ^ k ≤ 2 ^ 30 := Nat.pow_le_pow_right (by decide) hk
  rw [e, h1, nI_toInt (by omega)]
  have h2 : (Int32.ofInt x).toBitVec.toNat = n := by rw [e]; exact pk_tn hn
  have h3 : (Int32.ofInt x).toBitVec.toNat = (x % 4294967296).toNat := by
    rw [Int32.toBitVec_ofInt, BitVec.toNat_ofInt]; rfl
  have h4 : (n : Int) = x % 4294967296 := by omega
  rw [Int.natCast_emod, h4]
  have hd : ((2 ^ k : Nat) : Int) ∣ 4294967296 := by
    have : (2 ^ k : Nat) ∣ 4294967296 := by
      have e : (4294967296 : Nat) = 2 ^ k * 2 ^ (32 - k) := by rw [← Nat.pow_add, show k + (32 - k) = 32 by omega]
      rw [e]; exact Nat.dvd_mul_right _ _
    exact Int.natCast_dvd_natCast.mpr this
  exact Int.emod_emod_of_dvd x hd
theorem zB_eq (x : Int) : zB x = sg (x % 256) := by
  unfold zB
  rw [Int32.toInt8_ofInt, Int8.toInt_toInt32, Int8.toInt_ofInt]
  show x.bmod 256 = _
  rw [Int.bmod_def]
  unfold sg
  by_cases h : x % 256 < 128
  · rw [if_pos (by simpa using h), if_pos h]
    simp
  · rw [if_neg (by simpa using h), if_neg h]
    simp
theorem sg_rng {v : Int} (h : 0 ≤ v ∧ v < 256) : -128 ≤ sg v ∧ sg v ≤ 127 := by unfold sg; split <;> omega
theorem sg_and {v : Int} (h : 0 ≤ v ∧ v < 256) : zAnd (sg v) 255 = v := by
  rw [zAnd255]; unfold sg; split <;> omega
theorem sg_inj {v w : Int} (hv : 0 ≤ v ∧ v < 256) (hw : 0 ≤ w ∧ w < 256) (h : sg v = sg w) : v = w := by
  unfold sg at h; split at h <;> split at h <;> omega
/-- byte i of a long, the lowest first -/
def lowb (w : Int) (i : Nat) : Int := w / (256 ^ i : Nat) % 256
theorem lowb_rng (w : Int) (i : Nat) : 0 ≤ lowb w i ∧ lowb w i < 256 := by unfold lowb; omega
theorem zLus_tn (x : Int) {y : Nat} (hy : y < 64) : (Int64.ofInt (zLus x (y : Int))).toBitVec.toNat = (x % 18446744073709551616).toNat / 2 ^ y := by
  rw [zLus_of]
  have e1 : (Int32.ofInt (y : Int)) = nI y := Int32.ofInt_eq_ofNat
  have e2 : Int64.ofInt x = lN (x % 18446744073709551616).toNat := by
    rw [← Int64.toBitVec_inj]
    unfold lN
    rw [Int64.toBitVec_ofInt, Int64.toBitVec_ofNat']
    apply BitVec.eq_of_toNat_eq
    rw [BitVec.toNat_ofInt, BitVec.toNat_ofNat]
    have : (x % 18446744073709551616).toNat < 18446744073709551616 := by omega
    show (x % 18446744073709551616).toNat = _
    rw [Nat.mod_eq_of_lt this]
  have hs : ((nI y).toInt64.toUInt64 &&& Int64.toUInt64 63) = UInt64.ofNat y := by
    have h9 : ∀ k, k < 64 → ((nI k).toInt64.toUInt64 &&& Int64.toUInt64 63) = UInt64.ofNat k := by decide +kernel
    exact h9 y hy
  rw [e1, e2, hs]
  generalize hn : (x % 18446744073709551616).toNat = n
  have hn2 : n < 18446744073709551616 := by omega
  have h1 : (lN n).toUInt64.toNat = n := by
    unfold lN
    show (Int64.ofNat n).toBitVec.toNat = n
    rw [Int64.toBitVec_ofNat', BitVec.toNat_ofNat]
    exact Nat.mod_eq_of_lt hn2
  show ((lN n).toUInt64 >>> UInt64.ofNat y).toNat = n / 2 ^ y
  rw [UInt64.toNat_shiftRight, h1]
  have h2 : (UInt64.ofNat y).toNat = y := by
    rw [UInt64.toNat_ofNat']; exact Nat.mod_eq_of_lt (by omega)
  rw [h2, Nat.mod_eq_of_lt hy, Nat.shiftRight_eq_div_pow]
theorem x64b (x : Int) : (Int64.ofInt x).toBitVec.toNat = (x % 18446744073709551616).toNat := by
  rw [Int64.toBitVec_ofInt, BitVec.toNat_ofInt]; rfl
theorem lus_mod (w : Int) {i : Nat} (hi : i < 8) : zLus w (8 * (i : Int)) % 256 = lowb w i := by
  have h1 := zLus_tn w (y := 8 * i) (by omega)
  have e : ((8 * i : Nat) : Int) = 8 * (i : Int) := by omega
  rw [e, x64b] at h1
  have h2 : (zLus w (8 * (i : Int)) % 18446744073709551616) = ((w % 18446744073709551616).toNat / 2 ^ (8 * i) : Nat) := by omega
  have h3 : zLus w (8 * (i : Int)) % 256 = (zLus w (8 * (i : Int)) % 18446744073709551616) % 256 := by omega
  rw [h3, h2]
  unfold lowb
  have e3 : (256 : Nat) ^ i = 2 ^ (8 * i) := by rw [Nat.pow_mul]
  rw [e3]
  rcases (by omega : i = 0 ∨ i = 1 ∨ i = 2 ∨ i = 3 ∨ i = 4 ∨ i = 5 ∨ i = 6 ∨ i = 7) with h | h | h | h | h | h | h | h <;> subst h <;> simp only [Nat.reduceMul, Nat.reducePow] <;> omega
end
section
/-! rows of bytes: CoapDesk$Bytes -/
def xSame (z : Nat) (T : xY) (I : xI) (N : xN) (r : Option xV) : xPo := fun r' z' T' I' N' => r' = r ∧ z' = z ∧ T' = T ∧ I' = I ∧ N' = N
section XS
variable {Γ : xG} {E : xE} {M M' : xM} {T : xY} {I : xI} {N : xN} {z : Nat} {ce sl pc lev lev' mc ms n idx : Nat} {Q : State → Prop} {lv : xL} {st : List xV} {av : List xV} {r : Option xV}
theorem V_askV (D : xD Γ E M lev mc ms) (hm : xMv M' n) (hf : xfe M pc = some (.invokevirtual idx, 3)) (hlk : Cond.methodLink (xRn M.2.2.2.2.1) idx M'.1 ∈ lw_tbl) {a : Nat} (hS : Spec M' lev' (.inr (.inr a) :: av) z T I N 0 0 (xSame z T I N r)) (hT : T a = some (.inr M'.2.2.2.2.1))
    (hr : (Nat.blt lev' lev && av.length.beq n && (xwd st).ble 8) = true) (hc : ce ≤ mc ∧ sl ≤ ms) (k : V Γ E Q z T I N ce sl (pc + 3) lv (r.toList ++ st)) : V Γ E Q z T I N ce sl pc lv (av.reverse ++ .inr (.inr a) :: st) :=
  V_callV D hm hf hlk hS hT hr hc (fun r' z' T' I' N' h => by obtain ⟨rfl, rfl, rfl, rfl, rfl⟩ := h; exact k)
theorem V_askS (D : xD Γ E M lev mc ms) (hm : xMs M' n) (hf : xfe M pc = some (.invokestatic idx, 3)) (hlk : Cond.methodLink (xRn M.2.2.2.2.1) idx M'.1 ∈ lw_tbl) (hS : Spec M' lev' av z T I N 0 0 (xSame z T I N r))
    (hr : (Nat.blt lev' lev && av.length.beq n && (xwd st).ble 8) = true) (hc : ce ≤ mc ∧ sl ≤ ms) (k : V Γ E Q z T I N ce sl (pc + 3) lv (r.toList ++ st)) : V Γ E Q z T I N ce sl pc lv (av.reverse ++ st) :=
  V_callS D hm hf hlk hS hr hc (fun r' z' T' I' N' h => by obtain ⟨rfl, rfl, rfl, rfl, rfl⟩ := h; exact k)
end XS
/-- at b a row of bytes with that room, and what it holds -/
def BAt (T : xY) (I : xI) (N : xN) (b room : Nat) (xs : List Int) : Prop :=
  T b = some (.inr 0) ∧ T (b + 1) = some (.inl (0, room)) ∧ N b 0 = b + 1 ∧ I b 1 = (xs.length : Int) ∧ xs.length ≤ room ∧ room ≤ 5000 ∧ (∀ v ∈ xs, 0 ≤ v ∧ v < 256) ∧ ∀ j, j < xs.length → I (b + 1) j = sg (xs.getD j 0)
theorem BAt.kept {T : xY} {I I' : xI} {N N' : xN} {b room : Nat} {xs : List Int} (h : BAt T I N b room xs) (h1 : I' b = I b) (h2 : I' (b + 1) = I (b + 1)) (h3 : N' b = N b) : BAt T I' N' b room xs := by
  obtain ⟨a1, a2, a3, a4, a5, a6, a7, a8⟩ := h
  exact ⟨a1, a2, by rw [h3]; exact a3, by rw [h1]; exact a4, a5, a6, a7, fun j hj => by rw [h2]; exact a8 j hj⟩
def BCh (z : Nat) (T : xY) (I : xI) (N : xN) (b room : Nat) (ys : List Int) : xPo := fun r z' T' I' N' => r = none ∧ z' = z ∧ T' = T ∧ N' = N ∧ (∀ a, a ≠ b → a ≠ b + 1 → I' a = I a) ∧ BAt T I' N b room ys
def bat (xs : List Int) (i : Int) : Int := if 0 ≤ i ∧ i < xs.length then xs.getD i.toNat 0 else -1
theorem getD_mem {xs : List Int} {j : Nat} (h : j < xs.length) : xs.getD j 0 ∈ xs := by
  rw [List.getD_eq_getElem?_getD, List.getElem?_eq_getElem h]; exact List.getElem_mem h
theorem bat_rng {xs : List Int} (h : ∀ v ∈ xs, 0 ≤ v ∧ v < 256) (i : Int) : -1 ≤ bat xs i ∧ bat xs i < 256 := by
  unfold bat
  split
  · rename_i h1
    have := h _ (getD_mem (xs := xs) (j := i.toNat) (by omega))
    omega
  · omega
section XB
variable {z : Nat} {T : xY} {I : xI} {N : xN} {b room : Nat} {xs : List Int}
theorem s_at {i : Int} (hB : BAt T I N b room xs) (hi : xIn i) : Spec mX0_at 0 [.inr (.inr b), .inl i] z T I N 0 0 (xSame z T I N (some (.inl (bat xs i)))) := by
  obtain ⟨hT, hT1, hN, hI, h5, h6, h7, h8⟩ := hB
  refine Spec_of okX0_at (by decide) (by decide) (Nat.le_of_ble_eq_true rfl) fun Γ E D => ?_
  refine V_run D [] 1 rfl trivial ?_
  refine V_lt D 25 rfl rfl hi (fun c1 => ?_) (fun c1 => ?_)
  · refine V_run D [] 26 rfl trivial ?_
    exact V_iret D rfl rfl ⟨by unfold bat; rw [if_neg (by omega)], rfl, rfl, rfl, rfl⟩
  · refine V_run D [] 9 rfl ⟨hT, trivial⟩ ?_
    rw [hI]
    refine V_ige D 25 rfl rfl hi (by omega) (fun c2 => ?_) (fun c2 => ?_)
    · refine V_run D [] 26 rfl trivial ?_
      exact V_iret D rfl rfl ⟨by unfold bat; rw [if_neg (by omega)], rfl, rfl, rfl, rfl⟩
    · refine V_run D [] 26 rfl ⟨by rw [hN]; exact ⟨room, hT1, by omega, by omega⟩, hT, trivial⟩ ?_
      rw [hN, h8 i.toNat (by omega), sg_and (h7 _ (getD_mem (by omega)))]
      exact V_iret D rfl rfl ⟨by unfold bat; rw [if_pos (by omega)], rfl, rfl, rfl, rfl⟩
theorem s_hasRoom {n : Int} (hB : BAt T I N b room xs) (hn : xIn n) : Spec mX0_hasRoom 0 [.inr (.inr b), .inl n] z T I N 0 0 (xSame z T I N (some (.inl (if n ≤ (room : Int) - xs.length then 1 else 0)))) := by
  obtain ⟨hT, hT1, hN, hI, h5, h6, h7, h8⟩ := hB
  refine Spec_of okX0_hasRoom (by decide) (by decide) (Nat.le_of_ble_eq_true rfl) fun Γ E D => ?_
  have hlen : xlen T (b + 1) = room := by unfold xlen; rw [hT1]
  refine V_run D [] 11 rfl ⟨hT, ⟨_, _, by rw [hN]; exact hT1⟩, hT, trivial⟩ ?_
  rw [hI, hN, hlen]
  refine V_igt D 18 rfl rfl hn (by omega) (fun c1 => ?_) (fun c1 => ?_)
  · refine V_run D [] 19 rfl trivial ?_
    exact V_zret D rfl rfl (Or.inl rfl) ⟨by rw [if_neg (by omega)], rfl, rfl, rfl, rfl⟩
  · refine V_run D [] 19 rfl trivial ?_
    exact V_zret D rfl rfl (Or.inr rfl) ⟨by rw [if_pos (by omega)], rfl, rfl, rfl, rfl⟩
theorem s_clear (hB : BAt T I N b room xs) : Spec mX0_clear 0 [.inr (.inr b)] z T I N 0 0 (BCh z T I N b room []) := by
  obtain ⟨hT, hT1, hN, hI, h5, h6, h7, h8⟩ := hB
  refine Spec_of okX0_clear (by decide) (by decide) (Nat.le_of_ble_eq_true rfl) fun Γ E D => ?_
  refine V_run D [] 5 rfl ⟨hT, trivial⟩ ?_
  exact V_vret D rfl rfl ⟨rfl, rfl, rfl, rfl, fun a h1 h2 => xup_ne h1, hT, hT1, hN, by rw [xup_at]; rfl, by simp, h6, (fun _ h => nomatch h), (fun _ h => nomatch h)⟩
theorem s_keepFirst {n : Int} (hB : BAt T I N b room xs) (hn : xIn n) : Spec mX0_keepFirst 0 [.inr (.inr b), .inl n] z T I N 0 0 (BCh z T I N b room (if 0 ≤ n then xs.take n.toNat else xs)) := by
  have hB0 := hB
  obtain ⟨hT, hT1, hN, hI, h5, h6, h7, h8⟩ := hB
  refine Spec_of okX0_keepFirst (by decide) (by decide) (Nat.le_of_ble_eq_true rfl) fun Γ E D => ?_
  refine V_run D [] 1 rfl trivial ?_
  refine V_lt D 17 rfl rfl hn (fun c1 => ?_) (fun c1 => ?_)
  · exact V_vret D rfl rfl ⟨rfl, rfl, rfl, rfl, fun a h1 h2 => rfl, by rw [if_neg (by omega)]; exact hB0⟩
  · rw [if_pos (by omega)]
    refine V_run D [] 9 rfl ⟨hT, trivial⟩ ?_
    rw [hI]
    refine V_ige D 17 rfl rfl hn (by omega) (fun c2 => ?_) (fun c2 => ?_)
    · exact V_vret D rfl rfl ⟨rfl, rfl, rfl, rfl, fun a h1 h2 => rfl, by rw [List.take_of_length_le (by omega)]; exact hB0⟩
    · refine V_run D [] 17 rfl ⟨hT, trivial⟩ ?_
      refine V_vret D rfl rfl ⟨rfl, rfl, rfl, rfl, fun a h1 h2 => xup_ne h1, hT, hT1, hN, ?_, ?_, h6, fun v hv => h7 v (List.mem_of_mem_take hv), fun j hj => ?_⟩
      · rw [xup_at, List.length_take]; unfold va_up; rw [if_pos rfl]; omega
      · rw [List.length_take]; omega
      · rw [List.length_take] at hj
        rw [xup_ne (by omega), h8 j (by omega)]
        congr 1
        rw [List.getD_eq_getElem?_getD, List.getD_eq_getElem?_getD, List.getElem?_take_of_lt (by omega)]
/-- one byte comes behind: as all the loops have it -/
theorem BAt.push (hB : BAt T I N b room xs) {v w : Int} (hlt : xs.length < room) (hw : 0 ≤ w ∧ w < 256) (hv : v = sg w) : BAt T (xup (xup I (b + 1) xs.length v) b 1 ((xs.length : Int) + 1)) N b room (xs ++ [w]) := by
  obtain ⟨hT, hT1, hN, hI, h5, h6, h7, h8⟩ := hB
  refine ⟨hT, hT1, hN, ?_, ?_, h6, ?_, ?_⟩
  · rw [xup_at, List.length_append]; unfold va_up; rw [if_pos rfl]; simp
  · rw [List.length_append]; simp; omega
  · intro u hu
    rcases List.mem_append.mp hu with h | h
    · exact h7 u h
    · rw [List.mem_singleton.mp h]; exact hw
  · intro j hj
    rw [List.length_append] at hj
    simp at hj
    rw [xup_ne (by omega), xup_at]
    unfold va_up
    by_cases hjl : j = xs.length
    · rw [if_pos hjl, hv, hjl]
      congr 1
      rw [List.getD_eq_getElem?_getD, List.getElem?_append_right (by omega)]
      simp
    · rw [if_neg hjl, h8 j (by omega)]
      congr 1
      rw [List.getD_eq_getElem?_getD, List.getD_eq_getElem?_getD, List.getElem?_append_left (by omega)]
theorem push_frame {a : Nat} {v : Int} {k : Nat} {u : Int} (h1 : a ≠ b) (h2 : a ≠ b + 1) : xup (xup I (b + 1) k v) b 1 u a = I a := by rw [xup_ne h1, xup_ne h2]
theorem s_add {x : Int} (hB : BAt T I N b room xs) : Spec mX0_add 0 [.inr (.inr b), .inl x] z T I N 0 0 (BCh z T I N b room (if xs.length < room then xs ++ [x % 256] else xs)) := by
  have hB0 := hB
  obtain ⟨hT, hT1, hN, hI, h5, h6, h7, h8⟩ := hB
  have hlen : xlen T (b + 1) = room := by unfold xlen; rw [hT1]
  refine Spec_of okX0_add (by decide) (by decide) (Nat.le_of_ble_eq_true rfl) fun Γ E D => ?_
  refine V_run D [] 9 rfl ⟨⟨_, _, by rw [hN]; exact hT1⟩, hT, hT, trivial⟩ ?_
  rw [hI, hN, hlen]
  refine V_ige D 33 rfl rfl (by omega) (by omega) (fun c1 => ?_) (fun c1 => ?_)
  · exact V_vret D rfl rfl ⟨rfl, rfl, rfl, rfl, fun a h1 h2 => rfl, by rw [if_neg (by omega)]; exact hB0⟩
  · refine V_run D [] 33 rfl ⟨hT, hT, ⟨room, by rw [hN]; exact hT1, by rw [hI]; omega, by rw [hI]; omega⟩, hT, hT, trivial⟩ ?_
    rw [hN, hI]
    have e1 : xup I (b + 1) ((xs.length : Int)).toNat (zB (zB x)) b 1 = (xs.length : Int) := by rw [xup_ne (by omega), hI]
    rw [e1, if_pos (by omega)]
    have e2 : zB (zB x) = sg (x % 256) := by rw [zB_eq, zB_eq]; unfold sg; split <;> split <;> omega
    exact V_vret D rfl rfl ⟨rfl, rfl, rfl, rfl, fun a h1 h2 => push_frame h1 h2, by rw [Int.toNat_natCast]; exact hB0.push (by omega) (by omega) e2⟩
end XB
end
section
/-! loops: locals by a list -/
def xlv : List (Option xV) → xL
  | [], _ => none
  | o :: _, 0 => o
  | _ :: r, j + 1 => xlv r j
def xmk (lv : xL) : Nat → List (Option xV) → List (Option xV)
  | _, [] => []
  | k, none :: r => none :: xmk lv (k + 1) r
  | k, some _ :: r => lv k :: xmk lv (k + 1) r
theorem xmk_ok (lv : xL) : ∀ (l : List (Option xV)) (k : Nat), xmk lv k l = l → ∀ j v, xlv l j = some v → lv (k + j) = some v
  | [], _, _, _, _, h => by cases h
  | none :: r, k, hk, 0, v, h => by cases h
  | none :: r, k, hk, j + 1, v, h => by
    have := xmk_ok lv r (k + 1) (List.cons.inj hk).2 j v h
    rw [show k + (j + 1) = k + 1 + j by omega]; exact this
  | some w :: r, k, hk, 0, v, h => by
    rw [← h]; exact (List.cons.inj hk).1
  | some w :: r, k, hk, j + 1, v, h => by
    have := xmk_ok lv r (k + 1) (List.cons.inj hk).2 j v h
    rw [show k + (j + 1) = k + 1 + j by omega]; exact this
theorem V_loc {Γ : xG} {E : xE} {Q : State → Prop} {z : Nat} {T : xY} {I : xI} {N : xN} {ce sl pc : Nat} {lv : xL} {st : List xV} (l : List (Option xV)) (h : xmk lv 0 l = l) (k : V Γ E Q z T I N ce sl pc (xlv l) st) : V Γ E Q z T I N ce sl pc lv st :=
  V_lv (fun i v hi => by have := xmk_ok lv l 0 h i v hi; rwa [Nat.zero_add] at this) k
section XB2
variable {Γ : xG} {E : xE} {z : Nat} {T : xY} {I : xI} {N : xN} {b room lev : Nat} {xs : List Int}
theorem l_addLow {w : Int} {n : Nat} (D : xD Γ E mX0_addLowFirst lev 0 0) (hn : n ≤ 8) (hfit : xs.length + n ≤ room) : ∀ (d i : Nat) (I' : xI), i + d = n → BAt T I' N b room (xs ++ (List.range i).map (lowb w)) → (∀ a, a ≠ b → a ≠ b + 1 → I' a = I a) →
    V Γ E (xQ Γ E (BCh z T I N b room (xs ++ (List.range n).map (lowb w))) 0 0) z T I' N 0 0 3 (xlv [some (.inr (.inr b)), some (.inr (.inl w)), none, some (.inl (n : Int)), some (.inl (i : Int))]) []
  | 0, i, I', hi, hB, hfr => by
    obtain rfl : i = n := by omega
    refine V_run D [] 6 rfl trivial ?_
    refine V_ige D 55 rfl rfl (by omega) (by omega) (fun c1 => ?_) (fun c1 => absurd (Int.le_refl _) c1)
    exact V_vret D rfl rfl ⟨rfl, rfl, rfl, rfl, hfr, hB⟩
  | d + 1, i, I', hi, hB, hfr => by
    have hB0 := hB
    obtain ⟨hT, hT1, hN, hI, h5, h6, h7, h8⟩ := hB
    have hl : (xs ++ (List.range i).map (lowb w)).length = xs.length + i := by simp
    rw [hl] at hI
    have hlen : xlen T (b + 1) = room := by unfold xlen; rw [hT1]
    refine V_run D [] 6 rfl trivial ?_
    refine V_ige D 55 rfl rfl (by omega) (by omega) (fun c1 => absurd c1 (by omega)) (fun c1 => ?_)
    refine V_run D [] 18 rfl ⟨⟨_, _, by rw [hN]; exact hT1⟩, hT, hT, trivial⟩ ?_
    rw [hI, hN, hlen]
    refine V_ige D 55 rfl rfl (by omega) (by omega) (fun c2 => absurd c2 (by omega)) (fun c2 => ?_)
    refine V_run D [3] 3 rfl ⟨hT, hT, ⟨room, by rw [hN]; exact hT1, by rw [hI]; omega, by rw [hI]; omega⟩, hT, hT, trivial⟩ ?_
    rw [hN, hI]
    generalize hv : zB (zB (zLus w (8 * (i : Int)))) = v
    have e1 : xup I' (b + 1) (((xs.length + i : Nat) : Int)).toNat v b 1 = ((xs.length + i : Nat) : Int) := by rw [xup_ne (by omega), hI]
    rw [e1, Int.toNat_natCast]
    refine V_loc [some (.inr (.inr b)), some (.inr (.inl w)), none, some (.inl (n : Int)), some (.inl ((i + 1 : Nat) : Int))] rfl ?_
    have e2 : v = sg (lowb w i) := by rw [← hv, zB_eq, zB_eq, lus_mod w (by omega)]; have := lowb_rng w i; unfold sg; split <;> split <;> omega
    have hp := hB0.push (v := v) (w := lowb w i) (by rw [hl]; omega) (lowb_rng w i) e2
    rw [hl] at hp
    refine l_addLow D hn hfit d (i + 1) _ (by omega) ?_ (fun a h1 h2 => by rw [push_frame h1 h2]; exact hfr a h1 h2)
    rw [List.range_succ, List.map_append, ← List.append_assoc]
    exact hp
theorem s_addLow {w : Int} {n : Nat} (hB : BAt T I N b room xs) (hn : n ≤ 8) (hfit : xs.length + n ≤ room) : Spec mX0_addLowFirst 0 [.inr (.inr b), .inr (.inl w), .inl (n : Int)] z T I N 0 0 (BCh z T I N b room (xs ++ (List.range n).map (lowb w))) := by
  refine Spec_of okX0_addLowFirst (by decide) (by decide) (Nat.le_of_ble_eq_true rfl) fun Γ E D => ?_
  refine V_run D [3] 3 rfl trivial ?_
  refine V_loc [some (.inr (.inr b)), some (.inr (.inl w)), none, some (.inl (n : Int)), some (.inl ((0 : Nat) : Int))] rfl ?_
  exact l_addLow D hn hfit n 0 I (by omega) (by simpa using hB) (fun _ _ _ => rfl)
end XB2
end
section
theorem ush_mod (x : Int) {i : Nat} (hi : i < 4) : zUsh x (8 * (i : Int)) % 256 = lowb x i := by
  have e : ((8 * i : Nat) : Int) = 8 * (i : Int) := by omega
  obtain ⟨n, hn, en⟩ : ∃ n : Nat, n < 2 ^ 32 ∧ Int32.ofInt x = nI n := ⟨(Int32.ofInt x).toBitVec.toNat, BitVec.isLt _, by
    rw [← Int32.toBitVec_inj]
    show _ = BitVec.ofNat 32 (Int32.ofInt x).toBitVec.toNat
    rw [BitVec.ofNat_toNat, BitVec.setWidth_eq]⟩
  have h3 : (Int32.ofInt x).toBitVec.toNat = (x % 4294967296).toNat := by
    rw [Int32.toBitVec_ofInt, BitVec.toNat_ofInt]; rfl
  have h2 : (Int32.ofInt x).toBitVec.toNat = n := by rw [en]; exact pk_tn hn
  have hs : ∀ k : Nat, k < 32 → (((nI k).toUInt32 &&& Int32.toUInt32 31).toBitVec % 32).toNat = k := by decide +kernel
  have h4 : Int32.ofInt (zUsh x (8 * (i : Int))) = nI (n / 2 ^ (8 * i)) := by
    rw [zUsh_of, en, ← e]
    have e5 : Int32.ofInt ((8 * i : Nat) : Int) = nI (8 * i) := Int32.ofInt_eq_ofNat
    rw [e5]
    exact pk_ushrN hn (nI (8 * i)) (8 * i) (hs _ (by omega))
  have h5 : (zUsh x (8 * (i : Int)) % 4294967296).toNat = n / 2 ^ (8 * i) := by
    have h6 : (Int32.ofInt (zUsh x (8 * (i : Int)))).toBitVec.toNat = (zUsh x (8 * (i : Int)) % 4294967296).toNat := by
      rw [Int32.toBitVec_ofInt, BitVec.toNat_ofInt]; rfl
    rw [← h6, h4]
    exact pk_tn (Nat.lt_of_le_of_lt (Nat.div_le_self _ _) hn)
  unfold lowb
  have e3 : (256 : Nat) ^ i = 2 ^ (8 * i) := by rw [Nat.pow_mul]
  rw [e3]
  rcases (by omega : i = 0 ∨ i = 1 ∨ i = 2 ∨ i = 3) with h | h | h | h <;> subst h <;> simp only [Nat.reduceMul, Nat.reducePow] at h5 ⊢ <;> omega
/-- the bytes of a number, the high ones first -/
def hib (x : Int) (n : Nat) : List Int := ((List.range n).map (lowb x)).reverse
def hibK (x : Int) (n k : Nat) : List Int := (((List.range n).drop k).map (lowb x)).reverse
theorem hibK_step (x : Int) {n k : Nat} (h : k < n) : hibK x n k = hibK x n (k + 1) ++ [lowb x k] := by
  unfold hibK
  rw [List.drop_eq_getElem_cons (by simpa using h)]
  simp
theorem hib_rng (x : Int) (n : Nat) : ∀ v ∈ hib x n, 0 ≤ v ∧ v < 256 := by
  intro v hv
  unfold hib at hv
  rw [List.mem_reverse] at hv
  obtain ⟨i, -, rfl⟩ := List.mem_map.mp hv
  exact lowb_rng x i
section XB3
variable {Γ : xG} {E : xE} {z : Nat} {T : xY} {I : xI} {N : xN} {b room lev : Nat} {xs : List Int}
theorem l_addHigh {x : Int} {n : Nat} (D : xD Γ E mX0_addHighFirst lev 0 0) (hn : n ≤ 4) (hfit : xs.length + n ≤ room) : ∀ (k : Nat) (I' : xI), k ≤ n → BAt T I' N b room (xs ++ hibK x n k) → (∀ a, a ≠ b → a ≠ b + 1 → I' a = I a) →
    V Γ E (xQ Γ E (BCh z T I N b room (xs ++ hib x n)) 0 0) z T I' N 0 0 4 (xlv [some (.inr (.inr b)), some (.inl x), none, some (.inl ((k : Int) - 1))]) []
  | 0, I', hk, hB, hfr => by
    refine V_run D [] 5 rfl trivial ?_
    refine V_lt D 52 rfl rfl (by omega) (fun c1 => ?_) (fun c1 => absurd c1 (by omega))
    refine V_vret D rfl rfl ⟨rfl, rfl, rfl, rfl, hfr, ?_⟩
    unfold hibK at hB
    unfold hib
    rwa [List.drop_zero] at hB
  | k + 1, I', hk, hB, hfr => by
    have hB0 := hB
    obtain ⟨hT, hT1, hN, hI, h5, h6, h7, h8⟩ := hB
    have hl : (xs ++ hibK x n (k + 1)).length = xs.length + (n - (k + 1)) := by unfold hibK; simp
    rw [hl] at hI
    have hlen : xlen T (b + 1) = room := by unfold xlen; rw [hT1]
    refine V_run D [] 5 rfl trivial ?_
    refine V_lt D 52 rfl rfl (by omega) (fun c1 => absurd c1 (by omega)) (fun c1 => ?_)
    refine V_run D [] 17 rfl ⟨⟨_, _, by rw [hN]; exact hT1⟩, hT, hT, trivial⟩ ?_
    rw [hI, hN, hlen]
    refine V_ige D 52 rfl rfl (by omega) (by omega) (fun c2 => absurd c2 (by omega)) (fun c2 => ?_)
    refine V_run D [4] 4 rfl ⟨hT, hT, ⟨room, by rw [hN]; exact hT1, by rw [hI]; omega, by rw [hI]; omega⟩, hT, hT, trivial⟩ ?_
    rw [hN, hI]
    generalize hv : zB (zB (zUsh x (8 * (((k + 1 : Nat) : Int) - 1)))) = v
    have e1 : xup I' (b + 1) (((xs.length + (n - (k + 1)) : Nat) : Int)).toNat v b 1 = ((xs.length + (n - (k + 1)) : Nat) : Int) := by rw [xup_ne (by omega), hI]
    rw [e1, Int.toNat_natCast]
    have e4 : ((k + 1 : Nat) : Int) - 1 + (-1) = (k : Int) - 1 := by omega
    rw [e4]
    refine V_loc [some (.inr (.inr b)), some (.inl x), none, some (.inl ((k : Int) - 1))] rfl ?_
    have e2 : v = sg (lowb x k) := by
      have e5 : ((k + 1 : Nat) : Int) - 1 = (k : Int) := by omega
      rw [← hv, zB_eq, zB_eq, e5, ush_mod x (by omega)]; have := lowb_rng x k; unfold sg; split <;> split <;> omega
    have hp := hB0.push (v := v) (w := lowb x k) (by rw [hl]; omega) (lowb_rng x k) e2
    rw [hl, List.append_assoc, ← hibK_step x (by omega)] at hp
    exact l_addHigh D hn hfit k _ (by omega) hp (fun a h1 h2 => by rw [push_frame h1 h2]; exact hfr a h1 h2)
theorem s_addHigh {x : Int} {n : Nat} (hB : BAt T I N b room xs) (hn : n ≤ 4) (hfit : xs.length + n ≤ room) : Spec mX0_addHighFirst 0 [.inr (.inr b), .inl x, .inl (n : Int)] z T I N 0 0 (BCh z T I N b room (xs ++ hib x n)) := by
  refine Spec_of okX0_addHighFirst (by decide) (by decide) (Nat.le_of_ble_eq_true rfl) fun Γ E D => ?_
  refine V_run D [4] 4 rfl trivial ?_
  refine V_loc [some (.inr (.inr b)), some (.inl x), none, some (.inl ((n : Int) - 1))] rfl ?_
  refine l_addHigh D hn hfit n I (Nat.le_refl _) ?_ (fun _ _ _ => rfl)
  have e : hibK x n n = [] := by unfold hibK; simp
  rw [e, List.append_nil]; exact hB
/-- n bytes of another row, from a place on -/
theorem BAt.part {b' room' : Nat} {ys : List Int} (hB : BAt T I N b room xs) (hB' : BAt T I N b' room' ys) {f n : Nat} (h1 : f + n ≤ ys.length) (h2 : xs.length + n ≤ room) :
    BAt T (xup (va_up I (b + 1) (va_cpy (I (b' + 1)) (I (b + 1)) f xs.length n)) b 1 ((xs.length : Int) + n)) N b room (xs ++ (ys.drop f).take n) := by
  obtain ⟨hT, hT1, hN, hI, h5, h6, h7, h8⟩ := hB
  obtain ⟨gT, gT1, gN, gI, g5, g6, g7, g8⟩ := hB'
  have hl : (xs ++ (ys.drop f).take n).length = xs.length + n := by simp; omega
  refine ⟨hT, hT1, hN, ?_, by omega, h6, ?_, ?_⟩
  · rw [xup_at, hl]; unfold va_up; rw [if_pos rfl]; simp
  · intro u hu
    rcases List.mem_append.mp hu with h | h
    · exact h7 u h
    · exact g7 u (List.mem_of_mem_drop (List.mem_of_mem_take h))
  · intro j hj
    rw [hl] at hj
    rw [xup_ne (by omega)]
    have e : va_up I (b + 1) (va_cpy (I (b' + 1)) (I (b + 1)) f xs.length n) (b + 1) = va_cpy (I (b' + 1)) (I (b + 1)) f xs.length n := by unfold va_up; rw [if_pos rfl]
    rw [e]
    unfold va_cpy
    by_cases hjl : j < xs.length
    · rw [if_neg (by omega), h8 j hjl]
      congr 1
      rw [List.getD_eq_getElem?_getD, List.getD_eq_getElem?_getD, List.getElem?_append_left hjl]
    · rw [if_pos (by omega), g8 _ (by omega)]
      congr 1
      rw [List.getD_eq_getElem?_getD, List.getD_eq_getElem?_getD, List.getElem?_append_right (by omega), List.getElem?_take_of_lt (by omega), List.getElem?_drop]
theorem part_frame {a c n f : Nat} {u : Int} {g : Nat → Int} (h1 : a ≠ b) (h2 : a ≠ b + 1) : xup (va_up I (b + 1) g) b 1 u a = I a := by rw [xup_ne h1]; unfold va_up; rw [if_neg h2]
/-- addPart: where it isn't all there, or there is no room, nothing comes -/
theorem s_addPart {b' room' : Nat} {ys : List Int} {f n : Int} (hB : BAt T I N b room xs) (hB' : BAt T I N b' room' ys) (hne : b ≠ b') (hf : xIn f) (hn : xIn n) :
    Spec mX0_addPart 1 [.inr (.inr b), .inr (.inr b'), .inl f, .inl n] z T I N 0 0 (BCh z T I N b room (if 0 ≤ f ∧ 0 ≤ n ∧ f + n ≤ ys.length ∧ xs.length + n ≤ room then xs ++ (ys.drop f.toNat).take n.toNat else xs)) := by
  have hB0 := hB
  have hB1 := hB'
  obtain ⟨hT, hT1, hN, hI, h5, h6, h7, h8⟩ := hB
  obtain ⟨gT, gT1, gN, gI, g5, g6, g7, g8⟩ := hB'
  refine Spec_of okX0_addPart (by decide) (by decide) (Nat.le_of_ble_eq_true rfl) fun Γ E D => ?_
  refine V_run D [] 1 rfl trivial ?_
  refine V_lt D 53 rfl rfl hf (fun c1 => ?_) (fun c1 => ?_)
  · exact V_vret D rfl rfl ⟨rfl, rfl, rfl, rfl, fun _ _ _ => rfl, by rw [if_neg (by omega)]; exact hB0⟩
  · refine V_run D [] 5 rfl trivial ?_
    refine V_le D 53 rfl rfl hn (fun c2 => ?_) (fun c2 => ?_)
    · refine V_vret D rfl rfl ⟨rfl, rfl, rfl, rfl, fun _ _ _ => rfl, ?_⟩
      split
      · rw [show n.toNat = 0 by omega, List.take_zero, List.append_nil]; exact hB0
      · exact hB0
    · refine V_run D [] 15 rfl ⟨gT, trivial⟩ ?_
      rw [gI]
      refine V_igt D 53 rfl rfl hn (by omega) (fun c3 => ?_) (fun c3 => ?_)
      · exact V_vret D rfl rfl ⟨rfl, rfl, rfl, rfl, fun _ _ _ => rfl, by rw [if_neg (by omega)]; exact hB0⟩
      · refine V_run D [] 20 rfl trivial ?_
        refine V_askV (av := [.inl n]) (st := []) D mwX0_hasRoom rfl lkX0_X0_hasRoom (s_hasRoom hB0 hn) hT rfl ⟨Nat.le_refl _, Nat.le_refl _⟩ ?_
        refine V_eq D 53 rfl rfl (by split <;> omega) (fun c4 => ?_) (fun c4 => ?_)
        · exact V_vret D rfl rfl ⟨rfl, rfl, rfl, rfl, fun _ _ _ => rfl, by rw [if_neg (by intro h; rw [if_pos (by omega)] at c4; omega)]; exact hB0⟩
        · have hroom : n ≤ (room : Int) - xs.length := by
            by_cases h : n ≤ (room : Int) - xs.length
            · exact h
            · rw [if_neg h] at c4; exact absurd rfl c4
          refine V_run D [] 40 rfl ⟨hT, hT, gT, trivial⟩ ?_
          rw [hI, hN, gN]
          refine V_copy (st := []) D rfl lkX0_arraycopy gT1 hT1 (by omega) (by omega) (by omega) (fun i hi => ?_) rfl ?_
          · rw [g8 _ (by omega)]
            exact sg_rng (g7 _ (getD_mem (by omega)))
          · refine V_run D [] 53 rfl ⟨hT, hT, trivial⟩ ?_
            have e1 : va_up I (b + 1) (va_cpy (I (b' + 1)) (I (b + 1)) f.toNat ((xs.length : Int)).toNat n.toNat) b 1 = (xs.length : Int) := by unfold va_up; rw [if_neg (by omega), hI]
            rw [e1, Int.toNat_natCast, if_pos (by omega)]
            have h9 := hB0.part hB1 (f := f.toNat) (n := n.toNat) (by omega) (by omega)
            rw [show ((n.toNat : Nat) : Int) = n by omega] at h9
            exact V_vret D rfl rfl ⟨rfl, rfl, rfl, rfl, fun a h1 h2 => part_frame (c := 0) (n := 0) (f := 0) h1 h2, h9⟩
theorem s_addAll {b' room' : Nat} {ys : List Int} (hB : BAt T I N b room xs) (hB' : BAt T I N b' room' ys) (hne : b ≠ b') :
    Spec mX0_addAll 2 [.inr (.inr b), .inr (.inr b')] z T I N 0 0 (BCh z T I N b room (if xs.length + ys.length ≤ room then xs ++ ys else xs)) := by
  have hB0 := hB
  have hB1 := hB'
  obtain ⟨hT, hT1, hN, hI, h5, h6, h7, h8⟩ := hB
  obtain ⟨gT, gT1, gN, gI, g5, g6, g7, g8⟩ := hB'
  refine Spec_of okX0_addAll (by decide) (by decide) (Nat.le_of_ble_eq_true rfl) fun Γ E D => ?_
  refine V_run D [] 7 rfl ⟨gT, trivial⟩ ?_
  rw [gI]
  refine V_callV (av := [.inr (.inr b'), .inl 0, .inl (ys.length : Int)]) (st := []) D mwX0_addPart rfl lkX0_X0_addPart (s_addPart hB0 hB1 hne (by omega) (by omega)) hT rfl ⟨Nat.le_refl _, Nat.le_refl _⟩ (fun r z' T' I' N' h => ?_)
  obtain ⟨rfl, rfl, rfl, rfl, hfr, hB2⟩ := h
  refine V_vret D rfl rfl ⟨rfl, rfl, rfl, rfl, hfr, ?_⟩
  by_cases h : xs.length + ys.length ≤ room
  · rw [if_pos h]
    rw [if_pos (by omega)] at hB2
    simpa using hB2
  · rw [if_neg h]
    rw [if_neg (by omega)] at hB2
    exact hB2
end XB3
end
section
/-- a whole number's bytes, high ones first -/
def wfold (xs : List Int) : Int := xs.foldl (fun a v => 256 * a + v) 0
def wn (xs : List Int) : Int := if xs.length > 4 then -1 else wfold xs
theorem wfold_snoc (xs : List Int) (v : Int) : wfold (xs ++ [v]) = 256 * wfold xs + v := by unfold wfold; rw [List.foldl_append]; rfl
theorem take_snoc {xs : List Int} {i : Nat} (h : i < xs.length) : xs.take (i + 1) = xs.take i ++ [xs.getD i 0] := by
  rw [List.take_succ, List.getD_eq_getElem?_getD, List.getElem?_eq_getElem h]; rfl
theorem bat_in {xs : List Int} {i : Nat} (h : i < xs.length) : bat xs (i : Int) = xs.getD i 0 := by
  unfold bat; rw [if_pos (by omega), Int.toNat_natCast]
section XB4
variable {Γ : xG} {E : xE} {z : Nat} {T : xY} {I : xI} {N : xN} {b room lev : Nat} {xs : List Int}
theorem l_whole (D : xD Γ E mX0_wholeNumber 1 0 0) (hB : BAt T I N b room xs) (h4 : xs.length ≤ 4) : ∀ (d i : Nat), i + d = xs.length →
    V Γ E (xQ Γ E (xSame z T I N (some (.inr (.inl (wn xs))))) 0 0) z T I N 0 0 16 (xlv [some (.inr (.inr b)), some (.inr (.inl (wfold (xs.take i)))), none, some (.inl (i : Int))]) []
  | 0, i, hi => by
    have hB0 := hB
    obtain ⟨hT, hT1, hN, hI, h5, h6, h7, h8⟩ := hB
    obtain rfl : i = xs.length := by omega
    refine V_run D [] 21 rfl ⟨hT, trivial⟩ ?_
    rw [hI]
    refine V_ige D 43 rfl rfl (by omega) (by omega) (fun c1 => ?_) (fun c1 => absurd (Int.le_refl _) c1)
    refine V_run D [] 44 rfl trivial ?_
    exact V_lret D rfl rfl ⟨by unfold wn; rw [if_neg (by omega), List.take_length], rfl, rfl, rfl, rfl⟩
  | d + 1, i, hi => by
    have hB0 := hB
    obtain ⟨hT, hT1, hN, hI, h5, h6, h7, h8⟩ := hB
    refine V_run D [] 21 rfl ⟨hT, trivial⟩ ?_
    rw [hI]
    refine V_ige D 43 rfl rfl (by omega) (by omega) (fun c1 => absurd c1 (by omega)) (fun c1 => ?_)
    refine V_run D [] 31 rfl trivial ?_
    refine V_askV (av := [.inl (i : Int)]) (st := [.inr (.inl (wfold (xs.take i) * 256))]) D mwX0_at rfl lkX0_X0_at (s_at hB0 (by omega)) hT rfl ⟨Nat.le_refl _, Nat.le_refl _⟩ ?_
    have hb := bat_rng h7 (i : Int)
    refine V_run D [16] 16 rfl ⟨by constructor <;> omega, trivial⟩ ?_
    have e : wfold (xs.take i) * 256 + bat xs (i : Int) = wfold (xs.take (i + 1)) := by rw [take_snoc (by omega), wfold_snoc, bat_in (by omega)]; omega
    rw [e]
    refine V_loc [some (.inr (.inr b)), some (.inr (.inl (wfold (xs.take (i + 1))))), none, some (.inl ((i + 1 : Nat) : Int))] rfl ?_
    exact l_whole D hB0 h4 d (i + 1) (by omega)
theorem s_whole (hB : BAt T I N b room xs) : Spec mX0_wholeNumber 1 [.inr (.inr b)] z T I N 0 0 (xSame z T I N (some (.inr (.inl (wn xs))))) := by
  have hB0 := hB
  obtain ⟨hT, hT1, hN, hI, h5, h6, h7, h8⟩ := hB
  refine Spec_of okX0_wholeNumber (by decide) (by decide) (Nat.le_of_ble_eq_true rfl) fun Γ E D => ?_
  refine V_run D [] 5 rfl ⟨hT, trivial⟩ ?_
  rw [hI]
  refine V_ile D 12 rfl rfl (by omega) (by omega) (fun c1 => ?_) (fun c1 => ?_)
  · refine V_run D [16] 16 rfl trivial ?_
    refine V_loc [some (.inr (.inr b)), some (.inr (.inl (wfold (xs.take 0)))), none, some (.inl ((0 : Nat) : Int))] rfl ?_
    exact l_whole D hB0 (by omega) xs.length 0 (by omega)
  · refine V_run D [] 11 rfl trivial ?_
    exact V_lret D rfl rfl ⟨by unfold wn; rw [if_pos (by omega)], rfl, rfl, rfl, rfl⟩
theorem wfold_rng : ∀ (xs : List Int), (∀ v ∈ xs, 0 ≤ v ∧ v < 256) → xs.length ≤ 4 → 0 ≤ wfold xs ∧ wfold xs < 4294967296
  | [], _, _ => by unfold wfold; simp
  | [a], h, _ => by have := h a (by simp); unfold wfold; simp; omega
  | [a, b], h, _ => by have := h a (by simp); have := h b (by simp); unfold wfold; simp; omega
  | [a, b, c], h, _ => by have := h a (by simp); have := h b (by simp); have := h c (by simp); unfold wfold; simp; omega
  | [a, b, c, d], h, _ => by have := h a (by simp); have := h b (by simp); have := h c (by simp); have := h d (by simp); unfold wfold; simp; omega
  | a :: b :: c :: d :: e :: r, _, h => by simp at h
theorem wn_rng {xs : List Int} (h : ∀ v ∈ xs, 0 ≤ v ∧ v < 256) : -1 ≤ wn xs ∧ wn xs < 4294967296 := by
  unfold wn
  split
  · omega
  · have := wfold_rng xs h (by omega); omega
theorem s_isTag {t : Int} (hB : BAt T I N b room xs) (ht : xIn t) : Spec mX0_isTag 2 [.inr (.inr b), .inl t] z T I N 0 0 (xSame z T I N (some (.inl (if xs.length = 2 ∧ wfold xs = t then 1 else 0)))) := by
  have hB0 := hB
  obtain ⟨hT, hT1, hN, hI, h5, h6, h7, h8⟩ := hB
  refine Spec_of okX0_isTag (by decide) (by decide) (Nat.le_of_ble_eq_true rfl) fun Γ E D => ?_
  refine V_run D [] 5 rfl ⟨hT, trivial⟩ ?_
  rw [hI]
  refine V_ine D 22 rfl rfl (by omega) (by omega) (fun c1 => ?_) (fun c1 => ?_)
  · refine V_run D [] 23 rfl trivial ?_
    exact V_zret D rfl rfl (Or.inl rfl) ⟨by rw [if_neg (by omega)], rfl, rfl, rfl, rfl⟩
  · refine V_run D [] 9 rfl trivial ?_
    refine V_askV (av := []) (st := []) D mwX0_wholeNumber rfl lkX0_X0_wholeNumber (s_whole hB0) hT rfl ⟨Nat.le_refl _, Nat.le_refl _⟩ ?_
    have hw := wn_rng h7
    refine V_run D [] 15 rfl ⟨⟨by constructor <;> omega, by constructor <;> omega⟩, ht, trivial⟩ ?_
    have e : wn xs = wfold xs := by unfold wn; rw [if_neg (by omega)]
    rw [e]
    have hz : xIn (zCmp (wfold xs) t) := by unfold zCmp; split; omega; split <;> omega
    refine V_ne D 22 rfl rfl hz (fun c2 => ?_) (fun c2 => ?_)
    · refine V_run D [] 23 rfl trivial ?_
      refine V_zret D rfl rfl (Or.inl rfl) ⟨?_, rfl, rfl, rfl, rfl⟩
      rw [if_neg]
      intro h
      apply c2
      unfold zCmp
      rw [if_neg (by omega), if_pos h.2]
    · refine V_run D [] 23 rfl trivial ?_
      refine V_zret D rfl rfl (Or.inr rfl) ⟨?_, rfl, rfl, rfl, rfl⟩
      rw [if_pos]
      refine ⟨by omega, ?_⟩
      unfold zCmp at c2
      split at c2
      · omega
      · split at c2
        · assumption
        · omega
theorem l_same {b' room' : Nat} {ys : List Int} (D : xD Γ E mX0_isSameAs 1 0 0) (hB : BAt T I N b room xs) (hB' : BAt T I N b' room' ys) (hl : xs.length = ys.length) : ∀ (d i : Nat), i + d = xs.length → xs.take i = ys.take i →
    V Γ E (xQ Γ E (xSame z T I N (some (.inl (if xs = ys then 1 else 0)))) 0 0) z T I N 0 0 15 (xlv [some (.inr (.inr b)), some (.inr (.inr b')), some (.inl (i : Int))]) []
  | 0, i, hi, he => by
    have hB0 := hB
    obtain ⟨hT, hT1, hN, hI, h5, h6, h7, h8⟩ := hB
    obtain rfl : i = xs.length := by omega
    refine V_run D [] 20 rfl ⟨hT, trivial⟩ ?_
    rw [hI]
    refine V_ige D 44 rfl rfl (by omega) (by omega) (fun c1 => ?_) (fun c1 => absurd (Int.le_refl _) c1)
    refine V_run D [] 45 rfl trivial ?_
    refine V_zret D rfl rfl (Or.inr rfl) ⟨?_, rfl, rfl, rfl, rfl⟩
    rw [List.take_length, hl, List.take_length] at he
    rw [if_pos he]
  | d + 1, i, hi, he => by
    have hB0 := hB
    have hB1 := hB'
    obtain ⟨hT, hT1, hN, hI, h5, h6, h7, h8⟩ := hB
    obtain ⟨gT, gT1, gN, gI, g5, g6, g7, g8⟩ := hB'
    refine V_run D [] 20 rfl ⟨hT, trivial⟩ ?_
    rw [hI]
    refine V_ige D 44 rfl rfl (by omega) (by omega) (fun c1 => absurd c1 (by omega)) (fun c1 => ?_)
    refine V_run D [] 25 rfl trivial ?_
    refine V_askV (av := [.inl (i : Int)]) (st := []) D mwX0_at rfl lkX0_X0_at (s_at hB0 (by omega)) hT rfl ⟨Nat.le_refl _, Nat.le_refl _⟩ ?_
    refine V_run D [] 30 rfl trivial ?_
    refine V_askV (av := [.inl (i : Int)]) (st := [.inl (bat xs (i : Int))]) D mwX0_at rfl lkX0_X0_at (s_at hB1 (by omega)) gT rfl ⟨Nat.le_refl _, Nat.le_refl _⟩ ?_
    have hb := bat_rng h7 (i : Int)
    have hb2 := bat_rng g7 (i : Int)
    refine V_ieq D 38 rfl rfl (by omega) (by omega) (fun c2 => ?_) (fun c2 => ?_)
    · refine V_run D [15] 15 rfl trivial ?_
      refine V_loc [some (.inr (.inr b)), some (.inr (.inr b')), some (.inl ((i + 1 : Nat) : Int))] rfl ?_
      rw [bat_in (by omega), bat_in (by omega)] at c2
      exact l_same D hB0 hB1 hl d (i + 1) (by omega) (by rw [take_snoc (by omega), take_snoc (by omega), he, c2])
    · refine V_run D [] 37 rfl trivial ?_
      refine V_zret D rfl rfl (Or.inl rfl) ⟨?_, rfl, rfl, rfl, rfl⟩
      rw [if_neg]
      intro h
      apply c2
      rw [h]
theorem s_same {b' room' : Nat} {ys : List Int} (hB : BAt T I N b room xs) (hB' : BAt T I N b' room' ys) : Spec mX0_isSameAs 1 [.inr (.inr b), .inr (.inr b')] z T I N 0 0 (xSame z T I N (some (.inl (if xs = ys then 1 else 0)))) := by
  have hB0 := hB
  have hB1 := hB'
  obtain ⟨hT, hT1, hN, hI, h5, h6, h7, h8⟩ := hB
  obtain ⟨gT, gT1, gN, gI, g5, g6, g7, g8⟩ := hB'
  refine Spec_of okX0_isSameAs (by decide) (by decide) (Nat.le_of_ble_eq_true rfl) fun Γ E D => ?_
  refine V_run D [] 8 rfl ⟨gT, hT, trivial⟩ ?_
  rw [hI, gI]
  refine V_ieq D 13 rfl rfl (by omega) (by omega) (fun c1 => ?_) (fun c1 => ?_)
  · refine V_run D [15] 15 rfl trivial ?_
    refine V_loc [some (.inr (.inr b)), some (.inr (.inr b')), some (.inl ((0 : Nat) : Int))] rfl ?_
    exact l_same D hB0 hB1 (by omega) xs.length 0 (by omega) (by simp)
  · refine V_run D [] 12 rfl trivial ?_
    refine V_zret D rfl rfl (Or.inl rfl) ⟨?_, rfl, rfl, rfl, rfl⟩
    rw [if_neg]
    intro h
    apply c1
    rw [h]
/-- new Bytes(room): its row lies right behind it -/
theorem s_Bytes_init {room : Nat} (hr : room ≤ 5000) (hz : z = b + 1) (hb : 0 < b) (hT : T b = some (.inr 0)) (hI : I b 1 = 0) : Spec mX0_init 1 [.inr (.inr b), .inl (room : Int)] z T I N 1 room
    (fun r z' T' I' N' => r = none ∧ z' = b + 2 ∧ T' = va_up T (b + 1) (some (.inl (0, room))) ∧ I' = va_up I (b + 1) (fun _ => 0) ∧ N' = xup (va_up N (b + 1) (fun _ => 0)) b 0 (b + 1)) := by
  subst hz
  refine Spec_of okX0_init (by decide) (by decide) (Nat.le_of_ble_eq_true rfl) fun Γ E D => ?_
  refine V_run D [] 1 rfl trivial ?_
  refine V_obj D rfl lkX0_obj hb rfl ?_
  refine V_run D [] 6 rfl trivial ?_
  refine V_newa D 0 rfl ⟨by omega, rfl⟩ (by omega) (by omega) ?_
  rw [Int.toNat_natCast]
  have hT' : va_up T (b + 1) (some (.inl (0, room))) b = some (.inr 0) := by unfold va_up; rw [if_neg (by omega), hT]
  refine V_putF (c := 0) (f := 0) D rfl rfl rfl rfl rfl rfl hT' ?_
  refine V_wide (k := 1) (n := room) (by omega) (by omega) ?_
  exact V_vret D rfl rfl ⟨rfl, rfl, rfl, rfl, rfl⟩
end XB4
end
section
/-! messages: CoapDesk$Message, CoapDesk$Option -/
/-- nothing made: an answer, numbers and references -/
def xCg (z : Nat) (T : xY) (P : Option xV → xI → xN → Prop) : xPo := fun r z' T' I' N' => z' = z ∧ T' = T ∧ P r I' N'
section XCg
variable {Γ : xG} {E : xE} {M M' : xM} {T : xY} {I : xI} {N : xN} {z : Nat} {ce sl pc lev lev' mc ms n idx : Nat} {Q : State → Prop} {lv : xL} {st : List xV} {av : List xV} {P : Option xV → xI → xN → Prop}
theorem V_chV (D : xD Γ E M lev mc ms) (hm : xMv M' n) (hf : xfe M pc = some (.invokevirtual idx, 3)) (hlk : Cond.methodLink (xRn M.2.2.2.2.1) idx M'.1 ∈ lw_tbl) {a : Nat} (hS : Spec M' lev' (.inr (.inr a) :: av) z T I N 0 0 (xCg z T P)) (hT : T a = some (.inr M'.2.2.2.2.1))
    (hr : (Nat.blt lev' lev && av.length.beq n && (xwd st).ble 8) = true) (hc : ce ≤ mc ∧ sl ≤ ms) (k : ∀ r I' N', P r I' N' → V Γ E Q z T I' N' ce sl (pc + 3) lv (r.toList ++ st)) : V Γ E Q z T I N ce sl pc lv (av.reverse ++ .inr (.inr a) :: st) :=
  V_callV D hm hf hlk hS hT hr hc (fun r z' T' I' N' h => by obtain ⟨h1, h2, h3⟩ := h; rw [h1, h2]; exact k r I' N' h3)
theorem V_chS (D : xD Γ E M lev mc ms) (hm : xMs M' n) (hf : xfe M pc = some (.invokestatic idx, 3)) (hlk : Cond.methodLink (xRn M.2.2.2.2.1) idx M'.1 ∈ lw_tbl) (hS : Spec M' lev' av z T I N 0 0 (xCg z T P))
    (hr : (Nat.blt lev' lev && av.length.beq n && (xwd st).ble 8) = true) (hc : ce ≤ mc ∧ sl ≤ ms) (k : ∀ r I' N', P r I' N' → V Γ E Q z T I' N' ce sl (pc + 3) lv (r.toList ++ st)) : V Γ E Q z T I N ce sl pc lv (av.reverse ++ st) :=
  V_callS D hm hf hlk hS hr hc (fun r z' T' I' N' h => by obtain ⟨h1, h2, h3⟩ := h; rw [h1, h2]; exact k r I' N' h3)
/-- a call that changes one row of bytes -/
theorem V_putB (D : xD Γ E M lev mc ms) (hm : xMv M' n) (hf : xfe M pc = some (.invokevirtual idx, 3)) (hlk : Cond.methodLink (xRn M.2.2.2.2.1) idx M'.1 ∈ lw_tbl) {a b room : Nat} {ys : List Int} (hS : Spec M' lev' (.inr (.inr a) :: av) z T I N 0 0 (BCh z T I N b room ys)) (hT : T a = some (.inr M'.2.2.2.2.1))
    (hr : (Nat.blt lev' lev && av.length.beq n && (xwd st).ble 8) = true) (hc : ce ≤ mc ∧ sl ≤ ms) (k : ∀ I', (∀ a, a ≠ b → a ≠ b + 1 → I' a = I a) → BAt T I' N b room ys → V Γ E Q z T I' N ce sl (pc + 3) lv st) : V Γ E Q z T I N ce sl pc lv (av.reverse ++ .inr (.inr a) :: st) :=
  V_callV D hm hf hlk hS hT hr hc (fun r z' T' I' N' h => by obtain ⟨h1, h2, h3, h4, h5, h6⟩ := h; rw [h1, h2, h3, h4]; exact k I' h5 h6)
end XCg
abbrev Opt : Type := Int × List Int
/-- type, code, ID, token, options, payload -/
abbrev Msg : Type := Int × Int × Int × List Int × List Opt × List Int
def od (os : List Opt) (k : Nat) : Opt := os.getD k (0, [])
def OAt (T : xY) (I : xI) (N : xN) (o : Nat) (n : Int) (v : List Int) : Prop := T o = some (.inr 2) ∧ N o 0 = o + 1 ∧ I o 1 = n ∧ BAt T I N (o + 1) 400 v
def MAt (T : xY) (I : xI) (N : xN) (m most : Nat) (g : Msg) (lat : Option Nat) : Prop :=
  (T m = some (.inr 1) ∧ N m 0 = m + 1 ∧ N m 1 = m + 3 ∧ N m 2 = m + 5 ∧ T (m + 5) = some (.inl (3, most)) ∧ most ≤ 20 ∧ I m 3 = (g.2.2.2.2.1.length : Int) ∧ g.2.2.2.2.1.length ≤ most) ∧ (I m 5 = g.1 ∧ I m 6 = g.2.1 ∧ I m 7 = g.2.2.1) ∧
  BAt T I N (m + 1) 8 g.2.2.2.1 ∧ BAt T I N (m + 3) 400 g.2.2.2.2.2 ∧
  (∃ f : Nat → Nat, (∀ j, j < most → f j < most ∧ N (m + 5) j = m + 6 + 3 * f j) ∧ (∀ i j, i < most → j < most → f i = f j → i = j) ∧ (∀ k, k < most → ∃ n v, OAt T I N (m + 6 + 3 * k) n v) ∧ ∀ j, j < g.2.2.2.2.1.length → OAt T I N (m + 6 + 3 * f j) (od g.2.2.2.2.1 j).1 (od g.2.2.2.2.1 j).2) ∧
  (match lat with
    | none => N m 4 = 0
    | some l => l < g.2.2.2.2.1.length ∧ N m 4 = N (m + 5) l)
/-- only the cells of a stretch may have changed -/
def RCh (lo hi : Nat) (I : xI) (N : xN) (I' : xI) (N' : xN) : Prop := ∀ a, (a < lo ∨ hi ≤ a) → I' a = I a ∧ N' a = N a
theorem RCh.rf {lo hi : Nat} {I : xI} {N : xN} : RCh lo hi I N I N := fun _ _ => ⟨rfl, rfl⟩
theorem RCh.trans {lo hi : Nat} {I I' I'' : xI} {N N' N'' : xN} (h : RCh lo hi I N I' N') (h' : RCh lo hi I' N' I'' N'') : RCh lo hi I N I'' N'' := fun a ha => ⟨(h' a ha).1.trans (h a ha).1, (h' a ha).2.trans (h a ha).2⟩
theorem RCh.wide {lo hi lo' hi' : Nat} {I I' : xI} {N N' : xN} (h : RCh lo hi I N I' N') (h1 : lo' ≤ lo) (h2 : hi ≤ hi') : RCh lo' hi' I N I' N' := fun a ha => h a (by omega)
theorem RCh.ofB {b : Nat} {I I' : xI} {N : xN} (h : ∀ a, a ≠ b → a ≠ b + 1 → I' a = I a) : RCh b (b + 2) I N I' N := fun a ha => ⟨h a (by omega) (by omega), rfl⟩
theorem OAt.kept {T : xY} {I I' : xI} {N N' : xN} {o : Nat} {n : Int} {v : List Int} (h : OAt T I N o n v) (hk : ∀ a, o ≤ a → a < o + 3 → I' a = I a ∧ N' a = N a) : OAt T I' N' o n v := by
  obtain ⟨h1, h2, h3, h4⟩ := h
  refine ⟨h1, ?_, ?_, h4.kept (hk _ (by omega) (by omega)).1 (hk _ (by omega) (by omega)).1 (hk _ (by omega) (by omega)).2⟩
  · rw [(hk o (by omega) (by omega)).2]; exact h2
  · rw [(hk o (by omega) (by omega)).1]; exact h3
theorem MAt.kept {T : xY} {I I' : xI} {N N' : xN} {m most : Nat} {g : Msg} {lat : Option Nat} (h : MAt T I N m most g lat) (hk : ∀ a, m ≤ a → a < m + 6 + 3 * most → I' a = I a ∧ N' a = N a) : MAt T I' N' m most g lat := by
  obtain ⟨⟨a1, a2, a3, a4, a5, a6, a7, a8⟩, ⟨b1, b2, b3⟩, c1, c2, ⟨f, f1, f2, f3, f4⟩, l1⟩ := h
  have km := hk m (by omega) (by omega)
  have k5 := hk (m + 5) (by omega) (by omega)
  refine ⟨⟨a1, by rw [km.2]; exact a2, by rw [km.2]; exact a3, by rw [km.2]; exact a4, a5, a6, by rw [km.1]; exact a7, a8⟩, ⟨by rw [km.1]; exact b1, by rw [km.1]; exact b2, by rw [km.1]; exact b3⟩, c1.kept (hk _ (by omega) (by omega)).1 (hk _ (by omega) (by omega)).1 (hk _ (by omega) (by omega)).2, c2.kept (hk _ (by omega) (by omega)).1 (hk _ (by omega) (by omega)).1 (hk _ (by omega) (by omega)).2, ⟨f, ?_, f2, ?_, ?_⟩, ?_⟩
  · intro j hj; rw [k5.2]; exact f1 j hj
  · intro k hk1
    obtain ⟨n, v, h⟩ := f3 k hk1
    exact ⟨n, v, h.kept (fun a h1 h2 => hk a (by omega) (by omega))⟩
  · intro j hj
    have := (f1 j (by omega)).1
    exact (f4 j hj).kept (fun a h1 h2 => hk a (by omega) (by omega))
  · cases lat with
    | none => show N' m 4 = 0; rw [km.2]; exact l1
    | some l => exact ⟨l1.1, by rw [km.2, k5.2]; exact l1.2⟩
/-- where a new option goes: from the end, past those with a higher number -/
def ipos (n : Int) (os : List Opt) : Nat → Nat
  | 0 => 0
  | k + 1 => if n < (od os k).1 then ipos n os k else k + 1
theorem ipos_le (n : Int) (os : List Opt) : ∀ k, ipos n os k ≤ k
  | 0 => Nat.le_refl _
  | k + 1 => by
    unfold ipos
    split
    · have := ipos_le n os k; omega
    · omega
def inso (p : Nat) (q : Opt) (os : List Opt) : List Opt := os.take p ++ q :: os.drop p
theorem inso_len {p : Nat} {q : Opt} {os : List Opt} (h : p ≤ os.length) : (inso p q os).length = os.length + 1 := by unfold inso; simp; omega
theorem inso_at {p : Nat} {q : Opt} {os : List Opt} (h : p ≤ os.length) (j : Nat) : od (inso p q os) j = if j < p then od os j else if j = p then q else od os (j - 1) := by
  unfold od inso
  simp only [List.getD_eq_getElem?_getD]
  by_cases h1 : j < p
  · rw [if_pos h1, List.getElem?_append_left (by simp; omega), List.getElem?_take_of_lt h1]
  · rw [if_neg h1, List.getElem?_append_right (by simp; omega)]
    have e : j - (os.take p).length = j - p := by simp; omega
    rw [e]
    by_cases h2 : j = p
    · rw [if_pos h2]; simp [h2]
    · rw [if_neg h2, show j - p = (j - p - 1) + 1 by omega, List.getElem?_cons_succ, List.getElem?_drop]
      rw [show p + (j - p - 1) = j - 1 by omega]
section XM1
variable {Γ : xG} {E : xE} {z : Nat} {T : xY} {I : xI} {N : xN} {m most lev : Nat} {g : Msg} {lat : Option Nat}
theorem s_restart {ty co id : Int} (h : MAt T I N m most g lat) : Spec mX1_restart 1 [.inr (.inr m), .inl ty, .inl co, .inl id] z T I N 0 0
    (xCg z T fun r I' N' => r = none ∧ RCh m (m + 5) I N I' N' ∧ MAt T I' N' m most (ty, co, id, [], [], []) none) := by
  obtain ⟨⟨a1, a2, a3, a4, a5, a6, a7, a8⟩, ⟨b1, b2, b3⟩, c1, c2, ⟨f, f1, f2, f3, f4⟩, l1⟩ := h
  refine Spec_of okX1_restart (by decide) (by decide) (Nat.le_of_ble_eq_true rfl) fun Γ E D => ?_
  refine V_run D [] 19 rfl ⟨a1, a1, a1, a1, trivial⟩ ?_
  rw [a2]
  generalize hI1 : xup (xup (xup I m 5 ty) m 6 co) m 7 id = I1
  have e1 : ∀ a, a ≠ m → I1 a = I a := fun a ha => by rw [← hI1, xup_ne ha, xup_ne ha, xup_ne ha]
  have c1' : BAt T I1 N (m + 1) 8 g.2.2.2.1 := c1.kept (e1 _ (by omega)) (e1 _ (by omega)) rfl
  refine V_putB (av := []) (st := []) D mwX0_clear rfl lkX1_X0_clear (s_clear c1') c1.1 rfl ⟨Nat.le_refl _, Nat.le_refl _⟩ (fun I2 e2 d1 => ?_)
  refine V_run D [] 26 rfl ⟨a1, trivial⟩ ?_
  rw [a3]
  have c2' : BAt T I2 N (m + 3) 400 g.2.2.2.2.2 := c2.kept (by rw [e2 _ (by omega) (by omega), e1 _ (by omega)]) (by rw [e2 _ (by omega) (by omega), e1 _ (by omega)]) rfl
  refine V_putB (av := []) (st := []) D mwX0_clear rfl lkX1_X0_clear (s_clear c2') c2.1 rfl ⟨Nat.le_refl _, Nat.le_refl _⟩ (fun I3 e3 d2 => ?_)
  refine V_run D [] 39 rfl ⟨a1, a1, trivial⟩ ?_
  have fr : ∀ a, (a < m ∨ m + 5 ≤ a) → xup I3 m 3 0 a = I a := fun a ha => by rw [xup_ne (by omega), e3 _ (by omega) (by omega), e2 _ (by omega) (by omega), e1 _ (by omega)]
  have frN : ∀ a, a ≠ m → xup N m 4 0 a = N a := fun a ha => xup_ne ha
  have im : I3 m = I1 m := by rw [e3 _ (by omega) (by omega), e2 _ (by omega) (by omega)]
  refine V_vret D rfl rfl ⟨rfl, rfl, rfl, fun a ha => ⟨fr a ha, frN a (by omega)⟩, ⟨a1, ?_, ?_, ?_, a5, a6, ?_, by simp⟩, ⟨?_, ?_, ?_⟩, d1.kept ?_ ?_ (frN _ (by omega)), d2.kept (xup_ne (by omega)) (xup_ne (by omega)) (frN _ (by omega)), ⟨f, ?_, f2, ?_, ?_⟩, ?_⟩
  · rw [xup_at]; exact a2
  · rw [xup_at]; exact a3
  · rw [xup_at]; exact a4
  · rw [xup_at]; rfl
  · rw [xup_at]; show I3 m 5 = ty; rw [im, ← hI1]; simp [xup, va_up]
  · rw [xup_at]; show I3 m 6 = co; rw [im, ← hI1]; simp [xup, va_up]
  · rw [xup_at]; show I3 m 7 = id; rw [im, ← hI1]; simp [xup, va_up]
  · rw [xup_ne (by omega), e3 _ (by omega) (by omega)]
  · rw [xup_ne (by omega), e3 _ (by omega) (by omega)]
  · intro j hj; rw [frN _ (by omega)]; exact f1 j hj
  · intro k hk
    obtain ⟨n, v, h⟩ := f3 k hk
    exact ⟨n, v, h.kept (fun a h1 h2 => ⟨fr a (by omega), frN a (by omega)⟩)⟩
  · intro j hj; simp at hj
  · show xup N m 4 0 m 4 = 0
    rw [xup_at]; rfl
/-- at(k): the option, or null -/
def oref (N : xN) (m : Nat) (os : List Opt) (k : Int) : Nat := if 0 ≤ k ∧ k < os.length then N (m + 5) k.toNat else 0
theorem s_mat {k : Int} (h : MAt T I N m most g lat) (hk : xIn k) : Spec mX1_at 0 [.inr (.inr m), .inl k] z T I N 0 0 (xSame z T I N (some (.inr (.inr (oref N m g.2.2.2.2.1 k))))) := by
  obtain ⟨⟨a1, a2, a3, a4, a5, a6, a7, a8⟩, ⟨b1, b2, b3⟩, c1, c2, ⟨f, f1, f2, f3, f4⟩, l1⟩ := h
  refine Spec_of okX1_at (by decide) (by decide) (Nat.le_of_ble_eq_true rfl) fun Γ E D => ?_
  refine V_run D [] 1 rfl trivial ?_
  refine V_lt D 21 rfl rfl hk (fun q1 => ?_) (fun q1 => ?_)
  · refine V_run D [] 22 rfl trivial ?_
    exact V_aret D rfl rfl ⟨by unfold oref; rw [if_neg (by omega)], rfl, rfl, rfl, rfl⟩
  · refine V_run D [] 9 rfl ⟨a1, trivial⟩ ?_
    rw [a7]
    refine V_ige D 21 rfl rfl hk (by omega) (fun q2 => ?_) (fun q2 => ?_)
    · refine V_run D [] 22 rfl trivial ?_
      exact V_aret D rfl rfl ⟨by unfold oref; rw [if_neg (by omega)], rfl, rfl, rfl, rfl⟩
    · refine V_run D [] 22 rfl ⟨⟨3, Nat.le_refl _, most, by rw [a4]; exact a5, by omega, by omega⟩, a1, trivial⟩ ?_
      rw [a4]
      exact V_aret D rfl rfl ⟨by unfold oref; rw [if_pos (by omega)], rfl, rfl, rfl, rfl⟩
/-- the first option with a number: its place -/
def ofirst (n : Int) (os : List Opt) : Option Nat := os.findIdx? (fun q => q.1 == n)
end XM1
end
section
/-- the place of the first option with a number; how many there are, if none has it -/
def fi (n : Int) (os : List Opt) : Nat := os.findIdx (fun q => q.1 == n)
theorem fi_le (n : Int) (os : List Opt) : fi n os ≤ os.length := List.findIdx_le_length
theorem od_get {os : List Opt} {i : Nat} (h : i < os.length) : od os i = os[i] := by unfold od; rw [List.getD_eq_getElem?_getD, List.getElem?_eq_getElem h]; rfl
theorem fi_hit {n : Int} {os : List Opt} {i : Nat} (h : i ≤ fi n os) (hi : i < os.length) (he : (od os i).1 = n) : fi n os = i := by
  have h1 : ¬ i < fi n os := fun hlt => by
    have := List.not_of_lt_findIdx (p := fun q : Opt => q.1 == n) (xs := os) (i := i) hlt
    rw [od_get hi] at he
    simp [he] at this
  omega
theorem fi_next {n : Int} {os : List Opt} {i : Nat} (h : i ≤ fi n os) (hi : i < os.length) (he : ¬ (od os i).1 = n) : i + 1 ≤ fi n os := by
  rcases Nat.lt_or_ge i (fi n os) with h1 | h1
  · exact h1
  · have e : fi n os = i := by omega
    have hlt : fi n os < os.length := by omega
    have h2 := List.findIdx_getElem (p := fun q : Opt => q.1 == n) (xs := os) (w := hlt)
    have h3 : os[fi n os] = od os i := by rw [od_get hi]; congr 1
    have h4 : (os[fi n os].1 == n) = true := h2
    rw [h3] at h4
    exact absurd (by simpa using h4) he
theorem fi_at {n : Int} {os : List Opt} (h : fi n os < os.length) : (od os (fi n os)).1 = n := by
  have h2 := List.findIdx_getElem (p := fun q : Opt => q.1 == n) (xs := os) (w := h)
  have h4 : (os[fi n os].1 == n) = true := h2
  rw [od_get h]
  simpa using h4
theorem fi_none {n : Int} {os : List Opt} (h : fi n os = os.length) : ∀ q ∈ os, ¬ q.1 = n := by
  intro q hq he
  have := List.findIdx_lt_length_of_exists (p := fun q : Opt => q.1 == n) (xs := os) ⟨q, hq, by simp [he]⟩
  unfold fi at h
  omega
section XM2
variable {Γ : xG} {E : xE} {z : Nat} {T : xY} {I : xI} {N : xN} {m most lev : Nat} {g : Msg} {lat : Option Nat}
theorem l_first {n : Int} (D : xD Γ E mX1_first 0 0 0) (h : MAt T I N m most g lat) (hn : xIn n) (hr : ∀ q ∈ g.2.2.2.2.1, xIn q.1) : ∀ (d i : Nat), i + d = g.2.2.2.2.1.length → i ≤ fi n g.2.2.2.2.1 →
    V Γ E (xQ Γ E (xSame z T I N (some (.inr (.inr (oref N m g.2.2.2.2.1 (fi n g.2.2.2.2.1)))))) 0 0) z T I N 0 0 2 (xlv [some (.inr (.inr m)), some (.inl n), some (.inl (i : Int))]) []
  | 0, i, hi, hf => by
    obtain ⟨⟨a1, a2, a3, a4, a5, a6, a7, a8⟩, ⟨b1, b2, b3⟩, c1, c2, ⟨f, f1, f2, f3, f4⟩, l1⟩ := h
    refine V_run D [] 7 rfl ⟨a1, trivial⟩ ?_
    rw [a7]
    refine V_ige D 36 rfl rfl (by omega) (by omega) (fun q1 => ?_) (fun q1 => absurd q1 (by omega))
    refine V_run D [] 37 rfl trivial ?_
    have := fi_le n g.2.2.2.2.1
    exact V_aret D rfl rfl ⟨by unfold oref; rw [if_neg (by omega)], rfl, rfl, rfl, rfl⟩
  | d + 1, i, hi, hf => by
    have h0 := h
    obtain ⟨⟨a1, a2, a3, a4, a5, a6, a7, a8⟩, ⟨b1, b2, b3⟩, c1, c2, ⟨f, f1, f2, f3, f4⟩, l1⟩ := h
    refine V_run D [] 7 rfl ⟨a1, trivial⟩ ?_
    rw [a7]
    refine V_ige D 36 rfl rfl (by omega) (by omega) (fun q1 => absurd q1 (by omega)) (fun q1 => ?_)
    have e1 := (f1 i (by omega)).2
    obtain ⟨o1, o2, o3, o4⟩ := f4 i (by omega)
    refine V_run D [] 20 rfl ⟨by rw [a4, Int.toNat_natCast, e1]; exact o1, ⟨3, Nat.le_refl _, most, by rw [a4]; exact a5, by omega, by omega⟩, a1, trivial⟩ ?_
    rw [a4, Int.toNat_natCast, e1, o3]
    have hx := hr (od g.2.2.2.2.1 i) (by rw [od_get (by omega)]; exact List.getElem_mem _)
    refine V_ine D 30 rfl rfl hx hn (fun q2 => ?_) (fun q2 => ?_)
    · refine V_run D [2] 2 rfl trivial ?_
      refine V_loc [some (.inr (.inr m)), some (.inl n), some (.inl ((i + 1 : Nat) : Int))] rfl ?_
      exact l_first D h0 hn hr d (i + 1) (by omega) (fi_next hf (by omega) q2)
    · refine V_run D [] 29 rfl ⟨⟨3, Nat.le_refl _, most, by rw [a4]; exact a5, by omega, by omega⟩, a1, trivial⟩ ?_
      rw [a4, Int.toNat_natCast]
      have e2 := fi_hit hf (by omega) q2
      exact V_aret D rfl rfl ⟨by rw [e2]; unfold oref; rw [if_pos (by omega), Int.toNat_natCast], rfl, rfl, rfl, rfl⟩
theorem s_first {n : Int} (h : MAt T I N m most g lat) (hn : xIn n) (hr : ∀ q ∈ g.2.2.2.2.1, xIn q.1) : Spec mX1_first 0 [.inr (.inr m), .inl n] z T I N 0 0 (xSame z T I N (some (.inr (.inr (oref N m g.2.2.2.2.1 (fi n g.2.2.2.2.1)))))) := by
  refine Spec_of okX1_first (by decide) (by decide) (Nat.le_of_ble_eq_true rfl) fun Γ E D => ?_
  refine V_run D [2] 2 rfl trivial ?_
  refine V_loc [some (.inr (.inr m)), some (.inl n), some (.inl ((0 : Nat) : Int))] rfl ?_
  exact l_first D h hn hr _ 0 (Nat.zero_add _) (Nat.zero_le _)
/-- the row of options while a place is made -/
def shf (A : Nat → Nat) (p c : Nat) : Nat → Nat := fun j => if p < j ∧ j ≤ c then A (j - 1) else A j
theorem shf_0 (A : Nat → Nat) (c : Nat) : shf A c c = A := by funext j; unfold shf; rw [if_neg (by omega)]
theorem shf_step (A : Nat → Nat) {p c : Nat} (h : p < c) : va_up (shf A (p + 1) c) (p + 1) (shf A (p + 1) c p) = shf A p c := by
  funext j
  unfold va_up shf
  by_cases h1 : j = p + 1
  · rw [if_pos h1, if_neg (by omega), if_pos (by omega)]; congr 1; omega
  · rw [if_neg h1]
    by_cases h2 : p + 1 < j ∧ j ≤ c
    · rw [if_pos h2, if_pos (by omega)]
    · rw [if_neg h2, if_neg (by omega)]
theorem l_put {n : Int} (D : xD Γ E mX1_put 1 0 0) (h : MAt T I N m most g lat) (hlt : g.2.2.2.2.1.length < most) (hn : xIn n) (hr : ∀ q ∈ g.2.2.2.2.1, xIn q.1) {Q : State → Prop}
    (k : ∀ N', N' = va_up N (m + 5) (shf (N (m + 5)) (ipos n g.2.2.2.2.1 g.2.2.2.2.1.length) g.2.2.2.2.1.length) → V Γ E Q z T I N' 0 0 68 (xlv [some (.inr (.inr m)), some (.inl n), some (.inr (.inr (N (m + 5) g.2.2.2.2.1.length))), some (.inl ((ipos n g.2.2.2.2.1 g.2.2.2.2.1.length : Nat) : Int))]) []) :
    ∀ (p : Nat) (N' : xN), p ≤ g.2.2.2.2.1.length → ipos n g.2.2.2.2.1 g.2.2.2.2.1.length = ipos n g.2.2.2.2.1 p → N' = va_up N (m + 5) (shf (N (m + 5)) p g.2.2.2.2.1.length) →
      V Γ E Q z T I N' 0 0 29 (xlv [some (.inr (.inr m)), some (.inl n), some (.inr (.inr (N (m + 5) g.2.2.2.2.1.length))), some (.inl (p : Int))]) []
  | 0, N', hp, he, hN' => by
    refine V_run D [] 30 rfl trivial ?_
    refine V_le D 68 rfl rfl (by omega) (fun q1 => ?_) (fun q1 => absurd q1 (by omega))
    have e0 : ipos n g.2.2.2.2.1 g.2.2.2.2.1.length = 0 := he
    have hk := k N' (by rw [e0]; exact hN')
    rw [e0] at hk
    exact hk
  | p + 1, N', hp, he, hN' => by
    have h0 := h
    obtain ⟨⟨a1, a2, a3, a4, a5, a6, a7, a8⟩, ⟨b1, b2, b3⟩, c1, c2, ⟨f, f1, f2, f3, f4⟩, l1⟩ := h
    have n5 : N' (m + 5) = shf (N (m + 5)) (p + 1) g.2.2.2.2.1.length := by rw [hN']; unfold va_up; rw [if_pos rfl]
    have nm : ∀ a, a ≠ m + 5 → N' a = N a := fun a ha => by rw [hN']; unfold va_up; rw [if_neg ha]
    have a4' : N' m 2 = m + 5 := by rw [nm m (by omega)]; exact a4
    have np : N' (m + 5) p = N (m + 5) p := by rw [n5]; unfold shf; rw [if_neg (by omega)]
    have e1 := (f1 p (by omega)).2
    obtain ⟨o1, o2, o3, o4⟩ := f4 p (by omega)
    refine V_run D [] 30 rfl trivial ?_
    refine V_le D 68 rfl rfl (by omega) (fun q1 => absurd q1 (by omega)) (fun q1 => ?_)
    have ep : (((p + 1 : Nat) : Int) - 1).toNat = p := by omega
    refine V_run D [] 45 rfl ⟨by rw [a4', ep, np, e1]; exact o1, ⟨3, Nat.le_refl _, most, by rw [a4']; exact a5, by omega, by omega⟩, a1, trivial⟩ ?_
    rw [a4', ep, np, e1, o3]
    have hx := hr (od g.2.2.2.2.1 p) (by rw [od_get (by omega)]; exact List.getElem_mem _)
    refine V_ile D 68 rfl rfl hx hn (fun q2 => ?_) (fun q2 => ?_)
    · have e0 : ipos n g.2.2.2.2.1 g.2.2.2.2.1.length = p + 1 := by rw [he]; unfold ipos; rw [if_neg (by omega)]
      have hk := k N' (by rw [e0]; exact hN')
      rw [e0] at hk
      exact hk
    · have hT2 : T (N' (m + 5) p) = some (.inr 2) := by rw [np, e1]; exact o1
      refine V_run D [29] 29 rfl ⟨⟨3, Nat.le_refl _, ⟨most, by rw [a4']; exact a5, by omega, by omega⟩, by rw [a4', ep]; exact hT2⟩, ⟨3, Nat.le_refl _, most, by rw [a4']; exact a5, by omega, by omega⟩, a1, a1, trivial⟩ ?_
      rw [a4', ep]
      have e4 : ((p + 1 : Nat) : Int) + (-1) = (p : Int) := by omega
      rw [e4]
      refine V_loc [some (.inr (.inr m)), some (.inl n), some (.inr (.inr (N (m + 5) g.2.2.2.2.1.length))), some (.inl (p : Int))] rfl ?_
      refine l_put D h0 hlt hn hr k p _ (by omega) ?_ ?_
      · rw [he]; conv => lhs; unfold ipos
        rw [if_pos (by omega)]
      · unfold xup
        rw [Int.toNat_natCast, n5, shf_step _ (by omega), hN']
        funext a
        unfold va_up
        by_cases ha : a = m + 5
        · rw [if_pos ha, if_pos ha]
        · rw [if_neg ha, if_neg ha, if_neg ha]
end XM2
end
section
section XM3
variable {Γ : xG} {E : xE} {z : Nat} {T : xY} {I : xI} {N : xN} {m most lev : Nat} {g : Msg} {lat : Option Nat}
theorem s_putFull {n : Int} (h : MAt T I N m most g lat) (hlt : ¬ g.2.2.2.2.1.length < most) : Spec mX1_put 1 [.inr (.inr m), .inl n] z T I N 0 0 (xSame z T I N (some (.inr (.inr 0)))) := by
  obtain ⟨⟨a1, a2, a3, a4, a5, a6, a7, a8⟩, ⟨b1, b2, b3⟩, c1, c2, ⟨f, f1, f2, f3, f4⟩, l1⟩ := h
  have hlen : xlen T (m + 5) = most := by unfold xlen; rw [a5]
  refine Spec_of okX1_put (by decide) (by decide) (Nat.le_of_ble_eq_true rfl) fun Γ E D => ?_
  refine V_run D [] 9 rfl ⟨⟨_, _, by rw [a4]; exact a5⟩, a1, a1, trivial⟩ ?_
  rw [a7, a4, hlen]
  refine V_ilt D 14 rfl rfl (by omega) (by omega) (fun q1 => absurd q1 (by omega)) (fun q1 => ?_)
  refine V_run D [] 13 rfl trivial ?_
  exact V_aret D rfl rfl ⟨rfl, rfl, rfl, rfl, rfl⟩
/-- put: the new option, without a value, at its place; it is the latest -/
def putPost (T : xY) (I : xI) (N : xN) (m most : Nat) (g : Msg) (n : Int) : Option xV → xI → xN → Prop := fun r I' N' =>
  r = some (.inr (.inr (N' (m + 5) (ipos n g.2.2.2.2.1 g.2.2.2.2.1.length)))) ∧ RCh m (m + 6 + 3 * most) I N I' N' ∧ MAt T I' N' m most (g.1, g.2.1, g.2.2.1, g.2.2.2.1, inso (ipos n g.2.2.2.2.1 g.2.2.2.2.1.length) (n, []) g.2.2.2.2.1, g.2.2.2.2.2) (some (ipos n g.2.2.2.2.1 g.2.2.2.2.1.length))
set_option maxHeartbeats 1000000 in
theorem s_put {n : Int} (h : MAt T I N m most g lat) (hlt : g.2.2.2.2.1.length < most) (hn : xIn n) (hr : ∀ q ∈ g.2.2.2.2.1, xIn q.1) : Spec mX1_put 1 [.inr (.inr m), .inl n] z T I N 0 0 (xCg z T (putPost T I N m most g n)) := by
  have h0 := h
  obtain ⟨⟨a1, a2, a3, a4, a5, a6, a7, a8⟩, ⟨b1, b2, b3⟩, c1, c2, ⟨f, f1, f2, f3, f4⟩, l1⟩ := h
  have hlen : xlen T (m + 5) = most := by unfold xlen; rw [a5]
  refine Spec_of okX1_put (by decide) (by decide) (Nat.le_of_ble_eq_true rfl) fun Γ E D => ?_
  refine V_run D [] 9 rfl ⟨⟨_, _, by rw [a4]; exact a5⟩, a1, a1, trivial⟩ ?_
  rw [a7, a4, hlen]
  refine V_ilt D 14 rfl rfl (by omega) (by omega) (fun q1 => ?_) (fun q1 => absurd q1 (by omega))
  refine V_run D [29] 29 rfl ⟨a1, ⟨3, Nat.le_refl _, most, by rw [a4]; exact a5, by rw [a7]; omega, by rw [a7]; omega⟩, a1, a1, trivial⟩ ?_
  rw [a7, a4, Int.toNat_natCast]
  refine V_loc [some (.inr (.inr m)), some (.inl n), some (.inr (.inr (N (m + 5) g.2.2.2.2.1.length))), some (.inl ((g.2.2.2.2.1.length : Nat) : Int))] rfl ?_
  refine l_put D h0 hlt hn hr (fun N1 hN1 => ?_) _ N (Nat.le_refl _) rfl ?_
  · generalize hp : ipos n g.2.2.2.2.1 g.2.2.2.2.1.length = p at hN1 ⊢
    generalize hc : g.2.2.2.2.1.length = c at hN1 ⊢ hlt a7 a8 f4
    have hpc : p ≤ c := by rw [← hp, ← hc]; exact ipos_le _ _ _
    obtain ⟨fc, eo⟩ := f1 c hlt
    generalize ho : N (m + 5) c = o at eo ⊢
    obtain ⟨nu, v, o1, o2, o3, o4⟩ := f3 (f c) fc
    rw [← eo] at o1 o2 o3 o4
    have n5 : N1 (m + 5) = shf (N (m + 5)) p c := by rw [hN1]; unfold va_up; rw [if_pos rfl]
    have nm : ∀ a, a ≠ m + 5 → N1 a = N a := fun a ha => by rw [hN1]; unfold va_up; rw [if_neg ha]
    have a4' : N1 m 2 = m + 5 := by rw [nm m (by omega)]; exact a4
    have hx1 : ∀ a, a ≠ m + 5 → xup N1 (m + 5) ((p : Int)).toNat o a = N a := fun a ha => by rw [xup_ne ha]; exact nm a ha
    refine V_run D [] 84 rfl ⟨o1, o1, ⟨3, Nat.le_refl _, ⟨most, by rw [a4']; exact a5, by omega, by omega⟩, o1⟩, a1, trivial⟩ ?_
    rw [a4', hx1 o (by omega), o2]
    have o4' : BAt T (xup I o 1 n) (xup N1 (m + 5) ((p : Int)).toNat o) (o + 1) 400 v := o4.kept (xup_ne (by omega)) (xup_ne (by omega)) (hx1 _ (by omega))
    refine V_putB (av := []) (st := []) D mwX0_clear rfl lkX1_X0_clear (s_clear o4') o4.1 rfl ⟨Nat.le_refl _, Nat.le_refl _⟩ (fun I2 e2 d1 => ?_)
    have i2 : ∀ a, a ≠ o → a ≠ o + 1 → a ≠ o + 2 → I2 a = I a := fun a h1 h2 h3 => by rw [e2 a h2 h3, xup_ne h1]
    refine V_run D [] 103 rfl ⟨a1, a1, a1, trivial⟩ ?_
    rw [i2 m (by omega) (by omega) (by omega), a7, Int.toNat_natCast]
    generalize hN3 : xup (xup N1 (m + 5) p o) m 4 o = N3
    generalize hI3 : xup I2 m 3 ((c : Int) + 1) = I3
    have j5 : ∀ j, N3 (m + 5) j = if j = p then o else shf (N (m + 5)) p c j := fun j => by
      rw [← hN3, xup_ne (by omega), xup_at, n5]; unfold va_up; rfl
    have nO : ∀ a, a ≠ m → a ≠ m + 5 → N3 a = N a := fun a h1 h2 => by rw [← hN3, xup_ne h1, xup_ne h2, nm a h2]
    have nM : ∀ j, N3 m j = if j = 4 then o else N m j := fun j => by
      rw [← hN3, xup_at, xup_ne (by omega), nm m (by omega)]; unfold va_up; rfl
    have iO : ∀ a, a ≠ m → a ≠ o → a ≠ o + 1 → a ≠ o + 2 → I3 a = I a := fun a h1 h2 h3 h4 => by rw [← hI3, xup_ne h1, i2 a h2 h3 h4]
    have iM : ∀ j, I3 m j = if j = 3 then (c : Int) + 1 else I m j := fun j => by
      rw [← hI3, xup_at, i2 m (by omega) (by omega) (by omega)]; unfold va_up; rfl
    have hOo : OAt T I3 N3 o n [] := by
      refine ⟨o1, by rw [nO o (by omega) (by omega)]; exact o2, ?_, d1.kept (by rw [← hI3, xup_ne (by omega)]) (by rw [← hI3, xup_ne (by omega)]) (by rw [← hN3, xup_ne (by omega), Int.toNat_natCast])⟩
      rw [← hI3, xup_ne (by omega), e2 o (by omega) (by omega), xup_at]; unfold va_up; rw [if_pos rfl]
    have keepO : ∀ k, k < most → k ≠ f c → ∀ {nu : Int} {v : List Int}, OAt T I N (m + 6 + 3 * k) nu v → OAt T I3 N3 (m + 6 + 3 * k) nu v := fun k hk hne _ _ hh =>
      hh.kept (fun a h1 h2 => ⟨iO a (by omega) (by omega) (by omega) (by omega), nO a (by omega) (by omega)⟩)
    refine V_aret D rfl rfl ⟨rfl, rfl, ?_, ?_, ?_⟩
    · rw [hp]; rw [j5 p, if_pos rfl]
    · intro a ha
      exact ⟨iO a (by omega) (by omega) (by omega) (by omega), nO a (by omega) (by omega)⟩
    · rw [hp]
      have hil : (inso p (n, []) g.2.2.2.2.1).length = c + 1 := by rw [inso_len (by omega), hc]
      refine ⟨⟨a1, ?_, ?_, ?_, a5, a6, ?_, ?_⟩, ⟨?_, ?_, ?_⟩, c1.kept ?_ ?_ ?_, c2.kept ?_ ?_ ?_, ⟨fun j => if j = p then f c else if p < j ∧ j ≤ c then f (j - 1) else f j, ?_, ?_, ?_, ?_⟩, ?_⟩
      · rw [nM, if_neg (by omega)]; exact a2
      · rw [nM, if_neg (by omega)]; exact a3
      · rw [nM, if_neg (by omega)]; exact a4
      · rw [iM, if_pos rfl]; show (c : Int) + 1 = ((inso p (n, []) g.2.2.2.2.1).length : Int); rw [hil]; omega
      · show (inso p (n, []) g.2.2.2.2.1).length ≤ most; omega
      · rw [iM, if_neg (by omega)]; exact b1
      · rw [iM, if_neg (by omega)]; exact b2
      · rw [iM, if_neg (by omega)]; exact b3
      · exact iO _ (by omega) (by omega) (by omega) (by omega)
      · exact iO _ (by omega) (by omega) (by omega) (by omega)
      · exact nO _ (by omega) (by omega)
      · exact iO _ (by omega) (by omega) (by omega) (by omega)
      · exact iO _ (by omega) (by omega) (by omega) (by omega)
      · exact nO _ (by omega) (by omega)
      · intro j hj
        show (if j = p then f c else if p < j ∧ j ≤ c then f (j - 1) else f j) < most ∧ N3 (m + 5) j = m + 6 + 3 * (if j = p then f c else if p < j ∧ j ≤ c then f (j - 1) else f j)
        rw [j5 j]
        unfold shf
        by_cases h1 : j = p
        · rw [if_pos h1, if_pos h1]; exact ⟨fc, eo⟩
        · rw [if_neg h1, if_neg h1]
          by_cases h2 : p < j ∧ j ≤ c
          · rw [if_pos h2, if_pos h2]; exact f1 (j - 1) (by omega)
          · rw [if_neg h2, if_neg h2]; exact f1 j hj
      · intro i j hi hj hij
        dsimp only at hij
        have key : ∀ x y, x < most → y < most → f x = f y → x = y := f2
        by_cases i1 : i = p
        · rw [if_pos i1] at hij
          by_cases j1 : j = p
          · omega
          · rw [if_neg j1] at hij
            by_cases j2 : p < j ∧ j ≤ c
            · rw [if_pos j2] at hij; have := key _ _ hlt (by omega) hij; omega
            · rw [if_neg j2] at hij; have := key _ _ hlt hj hij; omega
        · rw [if_neg i1] at hij
          by_cases i2' : p < i ∧ i ≤ c
          · rw [if_pos i2'] at hij
            by_cases j1 : j = p
            · rw [if_pos j1] at hij; have := key _ _ (by omega) hlt hij; omega
            · rw [if_neg j1] at hij
              by_cases j2 : p < j ∧ j ≤ c
              · rw [if_pos j2] at hij; have := key _ _ (by omega) (by omega) hij; omega
              · rw [if_neg j2] at hij; have := key _ _ (by omega) hj hij; omega
          · rw [if_neg i2'] at hij
            by_cases j1 : j = p
            · rw [if_pos j1] at hij; have := key _ _ hi hlt hij; omega
            · rw [if_neg j1] at hij
              by_cases j2 : p < j ∧ j ≤ c
              · rw [if_pos j2] at hij; have := key _ _ hi (by omega) hij; omega
              · rw [if_neg j2] at hij; exact key _ _ hi hj hij
      · intro k hk
        by_cases hkc : k = f c
        · exact ⟨n, [], by rw [hkc, ← eo]; exact hOo⟩
        · obtain ⟨nu', v', hh⟩ := f3 k hk
          exact ⟨nu', v', keepO k hk hkc hh⟩
      · intro j hj
        have hj' : j < c + 1 := by rw [← hil]; exact hj
        show OAt T I3 N3 (m + 6 + 3 * (if j = p then f c else if p < j ∧ j ≤ c then f (j - 1) else f j)) (od (inso p (n, []) g.2.2.2.2.1) j).1 (od (inso p (n, []) g.2.2.2.2.1) j).2
        rw [inso_at (by omega) j]
        by_cases h1 : j = p
        · rw [if_pos h1, if_neg (by omega), if_pos h1, ← eo]; exact hOo
        · rw [if_neg h1]
          by_cases h2 : p < j ∧ j ≤ c
          · rw [if_pos h2, if_neg (by omega), if_neg h1]
            exact keepO _ (f1 (j - 1) (by omega)).1 (fun e => by have := f2 _ _ (by omega) hlt e; omega) (f4 (j - 1) (by omega))
          · rw [if_neg h2, if_pos (by omega)]
            exact keepO _ (f1 j (by omega)).1 (fun e => by have := f2 _ _ (by omega) hlt e; omega) (f4 j (by omega))
      · refine ⟨by show p < (inso p (n, []) g.2.2.2.2.1).length; omega, ?_⟩
        rw [nM, if_pos rfl, j5, if_pos rfl]
  · rw [shf_0]
    funext a
    unfold va_up
    by_cases ha : a = m + 5
    · rw [if_pos ha, ha]
    · rw [if_neg ha]
end XM3
end
section
/-! how a message is WRITTEN -/
def mb (x : Int) : Nat := if x < 13 then 0 else if x < 269 then 1 else 2
def sf (x : Int) : Int := if x < 13 then x else 12 + mb x
def wm (x : Int) : List Int := hib (x - (if mb x = 1 then 13 else 269)) (mb x)
def wo (before : Int) (q : Opt) : List Int := (16 * sf (q.1 - before) + sf q.2.length) :: (wm (q.1 - before) ++ (wm q.2.length ++ q.2))
def wos (before : Int) : List Opt → List Int
  | [] => []
  | q :: r => wo before q ++ wos q.1 r
def wr (g : Msg) : List Int := (64 + 16 * g.1 + g.2.2.2.1.length) :: g.2.1 :: (hib g.2.2.1 2 ++ (g.2.2.2.1 ++ (wos 0 g.2.2.2.2.1 ++ (if g.2.2.2.2.2 = [] then [] else 255 :: g.2.2.2.2.2))))
def BsOk (xs : List Int) : Prop := ∀ v ∈ xs, 0 ≤ v ∧ v < 256
/-- numbers in order, from before on; values of bytes -/
def OsOk (before : Int) : List Opt → Prop
  | [] => True
  | q :: r => before ≤ q.1 ∧ q.1 ≤ 65535 ∧ BsOk q.2 ∧ q.2.length ≤ 400 ∧ OsOk q.1 r
def MOk (g : Msg) : Prop := (0 ≤ g.1 ∧ g.1 ≤ 3) ∧ (0 ≤ g.2.1 ∧ g.2.1 ≤ 255) ∧ (0 ≤ g.2.2.1 ∧ g.2.2.1 ≤ 65535) ∧ (BsOk g.2.2.2.1 ∧ g.2.2.2.1.length ≤ 8) ∧ OsOk 0 g.2.2.2.2.1 ∧ BsOk g.2.2.2.2.2 ∧ g.2.2.2.2.2.length ≤ 400
theorem mb_le (x : Int) : mb x ≤ 2 := by unfold mb; split; omega; split <;> omega
theorem hib_len (x : Int) (n : Nat) : (hib x n).length = n := by unfold hib; simp
theorem wm_len (x : Int) : (wm x).length = mb x := hib_len _ _
theorem sf_rng {x : Int} (h : 0 ≤ x) : 0 ≤ sf x ∧ sf x ≤ 14 := by
  unfold sf mb
  split
  · omega
  · split <;> omega
theorem OsOk.mem : ∀ {os : List Opt} {b : Int}, OsOk b os → 0 ≤ b → ∀ q ∈ os, 0 ≤ q.1 ∧ q.1 ≤ 65535 ∧ BsOk q.2 ∧ q.2.length ≤ 400
  | [], _, _, _, _, h => nomatch h
  | q :: r, b, h, hb, q', hq => by
    obtain ⟨h1, h2, h3, h4, h5⟩ := h
    rcases List.mem_cons.mp hq with rfl | hq
    · exact ⟨by omega, h2, h3, h4⟩
    · exact h5.mem (by omega) q' hq
theorem OsOk.xin {os : List Opt} {b : Int} (h : OsOk b os) (hb : 0 ≤ b) : ∀ q ∈ os, xIn q.1 := fun q hq => by have := h.mem hb q hq; constructor <;> omega
/-- two rows of bytes lie apart, if they aren't one -/
theorem BAt.other {T : xY} {I I' I0 : xI} {N N0 : xN} {b room b' room' : Nat} {xs ys : List Int} (hB' : BAt T I N b' room' ys) (hB : BAt T I0 N0 b room xs) (hne : b ≠ b') (hfr : ∀ a, a ≠ b → a ≠ b + 1 → I' a = I a) : BAt T I' N b' room' ys := by
  have h1 : b' ≠ b + 1 := fun e => by have := hB.2.1; rw [← e, hB'.1] at this; cases this
  have h2 : b' + 1 ≠ b := fun e => by have := hB.1; rw [← e, hB'.2.1] at this; cases this
  exact hB'.kept (hfr _ (by omega) h1) (hfr _ h2 (by omega)) rfl
section XW
variable {Γ : xG} {E : xE} {z : Nat} {T : xY} {I : xI} {N : xN} {m most lev b room o : Nat} {xs v : List Int} {g : Msg} {lat : Option Nat}
theorem s_moreBytes {x : Int} (hx : xIn x) : Spec mX1_moreBytes 0 [.inl x] z T I N 0 0 (xSame z T I N (some (.inl (mb x : Int)))) := by
  refine Spec_of okX1_moreBytes (by decide) (by decide) (Nat.le_of_ble_eq_true rfl) fun Γ E D => ?_
  refine V_run D [] 3 rfl trivial ?_
  refine V_ige D 8 rfl rfl hx (by omega) (fun c1 => ?_) (fun c1 => ?_)
  · refine V_run D [] 12 rfl trivial ?_
    refine V_ige D 19 rfl rfl hx (by omega) (fun c2 => ?_) (fun c2 => ?_)
    · refine V_run D [] 20 rfl trivial ?_
      exact V_iret D rfl rfl ⟨by unfold mb; rw [if_neg (by omega), if_neg (by omega)]; rfl, rfl, rfl, rfl, rfl⟩
    · refine V_run D [] 20 rfl trivial ?_
      exact V_iret D rfl rfl ⟨by unfold mb; rw [if_neg (by omega), if_pos (by omega)]; rfl, rfl, rfl, rfl, rfl⟩
  · refine V_run D [] 7 rfl trivial ?_
    exact V_iret D rfl rfl ⟨by unfold mb; rw [if_pos (by omega)]; rfl, rfl, rfl, rfl, rfl⟩
theorem s_shortForm {x : Int} (hx : xIn x) : Spec mX1_shortForm 1 [.inl x] z T I N 0 0 (xSame z T I N (some (.inl (sf x)))) := by
  refine Spec_of okX1_shortForm (by decide) (by decide) (Nat.le_of_ble_eq_true rfl) fun Γ E D => ?_
  refine V_run D [] 3 rfl trivial ?_
  refine V_ige D 10 rfl rfl hx (by omega) (fun c1 => ?_) (fun c1 => ?_)
  · refine V_run D [] 13 rfl trivial ?_
    refine V_askS (av := [.inl x]) (st := [.inl 12]) D mwX1_moreBytes rfl lkX1_X1_moreBytes (s_moreBytes hx) rfl ⟨Nat.le_refl _, Nat.le_refl _⟩ ?_
    refine V_run D [] 17 rfl trivial ?_
    exact V_iret D rfl rfl ⟨by unfold sf; rw [if_neg (by omega)], rfl, rfl, rfl, rfl⟩
  · refine V_run D [] 17 rfl trivial ?_
    exact V_iret D rfl rfl ⟨by unfold sf; rw [if_pos (by omega)], rfl, rfl, rfl, rfl⟩
theorem s_writeMore {x : Int} (hB : BAt T I N b room xs) (hx : xIn x ∧ 0 ≤ x) (hfit : xs.length + mb x ≤ room) : Spec mX1_writeMore 1 [.inl x, .inr (.inr b)] z T I N 0 0 (BCh z T I N b room (xs ++ wm x)) := by
  refine Spec_of okX1_writeMore (by decide) (by decide) (Nat.le_of_ble_eq_true rfl) fun Γ E D => ?_
  refine V_run D [] 1 rfl trivial ?_
  refine V_askS (av := [.inl x]) (st := []) D mwX1_moreBytes rfl lkX1_X1_moreBytes (s_moreBytes hx.1) rfl ⟨Nat.le_refl _, Nat.le_refl _⟩ ?_
  have hm := mb_le x
  refine V_run D [] 9 rfl trivial ?_
  refine V_ine D 17 rfl rfl (by omega) (by omega) (fun c1 => ?_) (fun c1 => ?_)
  · refine V_run D [] 22 rfl trivial ?_
    refine V_putB (av := [.inl (x - 269), .inl (mb x : Int)]) (st := []) D mwX0_addHighFirst rfl lkX1_X0_addHighFirst (s_addHigh hB (by omega) hfit) hB.1 rfl ⟨Nat.le_refl _, Nat.le_refl _⟩ (fun I2 e2 d1 => ?_)
    exact V_vret D rfl rfl ⟨rfl, rfl, rfl, rfl, e2, by unfold wm; rw [if_neg (by omega)]; exact d1⟩
  · refine V_run D [] 22 rfl trivial ?_
    refine V_putB (av := [.inl (x - 13), .inl (mb x : Int)]) (st := []) D mwX0_addHighFirst rfl lkX1_X0_addHighFirst (s_addHigh hB (by omega) hfit) hB.1 rfl ⟨Nat.le_refl _, Nat.le_refl _⟩ (fun I2 e2 d1 => ?_)
    exact V_vret D rfl rfl ⟨rfl, rfl, rfl, rfl, e2, by unfold wm; rw [if_pos (by omega)]; exact d1⟩
/-- a static call that changes one row of bytes -/
theorem V_putBS {M M' : xM} {Q : State → Prop} {ce sl pc lev' mc ms n idx : Nat} {lv : xL} {st av : List xV} (D : xD Γ E M lev mc ms) (hm : xMs M' n) (hf : xfe M pc = some (.invokestatic idx, 3)) (hlk : Cond.methodLink (xRn M.2.2.2.2.1) idx M'.1 ∈ lw_tbl) {ys : List Int} (hS : Spec M' lev' av z T I N 0 0 (BCh z T I N b room ys))
    (hr : (Nat.blt lev' lev && av.length.beq n && (xwd st).ble 8) = true) (hc : ce ≤ mc ∧ sl ≤ ms) (k : ∀ I', (∀ a, a ≠ b → a ≠ b + 1 → I' a = I a) → BAt T I' N b room ys → V Γ E Q z T I' N ce sl (pc + 3) lv st) : V Γ E Q z T I N ce sl pc lv (av.reverse ++ st) :=
  V_callS D hm hf hlk hS hr hc (fun r z' T' I' N' h => by obtain ⟨h1, h2, h3, h4, h5, h6⟩ := h; rw [h1, h2, h3, h4]; exact k I' h5 h6)
theorem s_writeOption {before n : Int} (hO : OAt T I N o n v) (hB : BAt T I N b room xs) (hne : b ≠ o + 1) (hd : 0 ≤ n - before ∧ n - before ≤ 65535) (hfit : xs.length + (wo before (n, v)).length ≤ room) :
    Spec mX1_writeOption 3 [.inr (.inr o), .inl before, .inr (.inr b)] z T I N 0 0 (BCh z T I N b room (xs ++ wo before (n, v))) := by
  obtain ⟨o1, o2, o3, o4⟩ := hO
  have v1 := o4.2.2.2.2.1
  have hlen : (wo before (n, v)).length = 1 + mb (n - before) + mb v.length + v.length := by unfold wo; simp [wm_len]; omega
  rw [hlen] at hfit
  refine Spec_of okX1_writeOption (by decide) (by decide) (Nat.le_of_ble_eq_true rfl) fun Γ E D => ?_
  refine V_run D [] 20 rfl ⟨by rw [o2]; exact o4.1, o1, o1, trivial⟩ ?_
  rw [o2, o3, o4.2.2.2.1]
  refine V_askS (av := [.inl (n - before)]) (st := [.inl 16, .inr (.inr b)]) D mwX1_shortForm rfl lkX1_X1_shortForm (s_shortForm (by omega)) rfl ⟨Nat.le_refl _, Nat.le_refl _⟩ ?_
  refine V_run D [] 26 rfl trivial ?_
  refine V_askS (av := [.inl (v.length : Int)]) (st := [.inl (16 * sf (n - before)), .inr (.inr b)]) D mwX1_shortForm rfl lkX1_X1_shortForm (s_shortForm (by omega)) rfl ⟨Nat.le_refl _, Nat.le_refl _⟩ ?_
  have s1 := sf_rng hd.1
  have s2 := sf_rng (x := (v.length : Int)) (by omega)
  refine V_run D [] 30 rfl trivial ?_
  refine V_putB (av := [.inl (16 * sf (n - before) + sf (v.length : Int))]) (st := []) D mwX0_add rfl lkX1_X0_add (s_add hB) hB.1 rfl ⟨Nat.le_refl _, Nat.le_refl _⟩ (fun I2 e2 d1 => ?_)
  rw [if_pos (by omega), Int.emod_eq_of_lt (by omega) (by omega)] at d1
  refine V_run D [] 35 rfl trivial ?_
  refine V_putBS (av := [.inl (n - before), .inr (.inr b)]) (st := []) D mwX1_writeMore rfl lkX1_X1_writeMore (s_writeMore d1 (by omega) (by simp; omega)) rfl ⟨Nat.le_refl _, Nat.le_refl _⟩ (fun I3 e3 d2 => ?_)
  refine V_run D [] 41 rfl trivial ?_
  refine V_putBS (av := [.inl (v.length : Int), .inr (.inr b)]) (st := []) D mwX1_writeMore rfl lkX1_X1_writeMore (s_writeMore d2 (by omega) (by simp [wm_len]; omega)) rfl ⟨Nat.le_refl _, Nat.le_refl _⟩ (fun I4 e4 d3 => ?_)
  refine V_run D [] 49 rfl ⟨o1, trivial⟩ ?_
  rw [o2]
  have fr : ∀ a, a ≠ b → a ≠ b + 1 → I4 a = I a := fun a h1 h2 => by rw [e4 a h1 h2, e3 a h1 h2, e2 a h1 h2]
  refine V_putB (av := [.inr (.inr (o + 1))]) (st := []) D mwX0_addAll rfl lkX1_X0_addAll (s_addAll d3 (o4.other hB hne fr) hne) hB.1 rfl ⟨Nat.le_refl _, Nat.le_refl _⟩ (fun I5 e5 d4 => ?_)
  rw [if_pos (by simp [wm_len]; omega)] at d4
  refine V_vret D rfl rfl ⟨rfl, rfl, rfl, rfl, fun a h1 h2 => by rw [e5 a h1 h2, fr a h1 h2], ?_⟩
  unfold wo
  simpa using d4
end XW
end
section
def lastn (b : Int) : List Opt → Int
  | [] => b
  | q :: r => lastn q.1 r
theorem lastn_snoc (b : Int) (os : List Opt) (q : Opt) : lastn b (os ++ [q]) = q.1 := by
  induction os generalizing b with
  | nil => rfl
  | cons a r ih => exact ih a.1
theorem wos_snoc (b : Int) (os : List Opt) (q : Opt) : wos b (os ++ [q]) = wos b os ++ wo (lastn b os) q := by
  induction os generalizing b with
  | nil => simp [wos, lastn]
  | cons a r ih => simp [wos, lastn, ih a.1]
theorem otake_snoc {os : List Opt} {i : Nat} (h : i < os.length) : os.take (i + 1) = os.take i ++ [od os i] := by
  rw [List.take_succ, od_get h, List.getElem?_eq_getElem h]; rfl
theorem OsOk.at : ∀ {os : List Opt} {b : Int} {i : Nat}, OsOk b os → i < os.length → b ≤ lastn b (os.take i) ∧ lastn b (os.take i) ≤ (od os i).1 ∧ (od os i).1 ≤ 65535
  | [], _, _, _, h => by simp at h
  | q :: r, b, 0, h, _ => by
    obtain ⟨h1, h2, h3, h4, h5⟩ := h
    exact ⟨by simp [lastn], by simpa [lastn, od] using h1, by simpa [od] using h2⟩
  | q :: r, b, i + 1, h, hi => by
    obtain ⟨h1, h2, h3, h4, h5⟩ := h
    have := h5.at (i := i) (by simpa using hi)
    have e : od (q :: r) (i + 1) = od r i := by unfold od; simp
    rw [e, List.take_succ_cons]
    show b ≤ lastn q.1 (r.take i) ∧ lastn q.1 (r.take i) ≤ _ ∧ _
    omega
theorem wo_len (b : Int) (q : Opt) : (wo b q).length = 1 + mb (q.1 - b) + mb q.2.length + q.2.length := by unfold wo; simp [wm_len]; omega
theorem wos_take_le (b : Int) (os : List Opt) (i : Nat) : (wos b (os.take i)).length ≤ (wos b os).length := by
  induction os generalizing b i with
  | nil => simp
  | cons a r ih =>
    cases i with
    | zero => simp [wos]
    | succ i => simp [wos]; exact ih a.1 i
theorem wr_len (g : Msg) : (wr g).length = 4 + g.2.2.2.1.length + (wos 0 g.2.2.2.2.1).length + (if g.2.2.2.2.2 = [] then 0 else 1 + g.2.2.2.2.2.length) := by
  unfold wr
  split <;> simp [hib_len] <;> omega
section XW2
variable {Γ : xG} {E : xE} {z : Nat} {T : xY} {I : xI} {N : xN} {m most lev b room o : Nat} {xs v : List Int} {g : Msg} {lat : Option Nat}
theorem l_size (D : xD Γ E mX1_writtenSize 1 0 0) (h : MAt T I N m most g lat) (hok : MOk g) : ∀ (d i : Nat), i + d = g.2.2.2.2.1.length →
    V Γ E (xQ Γ E (xSame z T I N (some (.inl ((wr g).length : Int)))) 0 0) z T I N 0 0 14 (xlv [some (.inr (.inr m)), some (.inl ((4 + g.2.2.2.1.length + (wos 0 (g.2.2.2.2.1.take i)).length : Nat) : Int)), some (.inl (lastn 0 (g.2.2.2.2.1.take i))), some (.inl (i : Int))]) []
  | 0, i, hi => by
    obtain ⟨⟨a1, a2, a3, a4, a5, a6, a7, a8⟩, ⟨b1, b2, b3⟩, c1, c2, ⟨f, f1, f2, f3, f4⟩, l1⟩ := h
    obtain rfl : i = g.2.2.2.2.1.length := by omega
    refine V_run D [] 19 rfl ⟨a1, trivial⟩ ?_
    rw [a7]
    refine V_ige D 80 rfl rfl (by omega) (by omega) (fun q1 => ?_) (fun q1 => absurd q1 (by omega))
    refine V_run D [] 87 rfl ⟨by rw [a3]; exact c2.1, a1, trivial⟩ ?_
    rw [a3, c2.2.2.2.1]
    have hp := c2.2.2.2.2.1
    refine V_ne D 94 rfl rfl (by omega) (fun q2 => ?_) (fun q2 => ?_)
    · refine V_run D [] 105 rfl ⟨by rw [a3]; exact c2.1, a1, trivial⟩ ?_
      rw [a3, c2.2.2.2.1, List.take_length]
      refine V_iret D rfl rfl ⟨?_, rfl, rfl, rfl, rfl⟩
      rw [wr_len, if_neg (by intro e; rw [e] at q2; exact q2 rfl)]
      congr 2
      omega
    · refine V_run D [] 105 rfl trivial ?_
      rw [List.take_length]
      refine V_iret D rfl rfl ⟨?_, rfl, rfl, rfl, rfl⟩
      rw [wr_len, if_pos (List.length_eq_zero_iff.mp (by omega))]
      rfl
  | d + 1, i, hi => by
    have h0 := h
    obtain ⟨⟨a1, a2, a3, a4, a5, a6, a7, a8⟩, ⟨b1, b2, b3⟩, c1, c2, ⟨f, f1, f2, f3, f4⟩, l1⟩ := h
    have e1 := (f1 i (by omega)).2
    obtain ⟨o1, o2, o3, o4⟩ := f4 i (by omega)
    have hat := hok.2.2.2.2.1.at (i := i) (by omega)
    have hv := o4.2.2.2.2.1
    refine V_run D [] 19 rfl ⟨a1, trivial⟩ ?_
    rw [a7]
    refine V_ige D 80 rfl rfl (by omega) (by omega) (fun q1 => absurd q1 (by omega)) (fun q1 => ?_)
    have ar : ∃ k, 3 ≤ k ∧ xAr T (N m 2) k (i : Int) := ⟨3, Nat.le_refl _, most, by rw [a4]; exact a5, by omega, by omega⟩
    have to : T (N (N m 2) ((i : Int)).toNat) = some (.inr 2) := by rw [a4, Int.toNat_natCast, e1]; exact o1
    refine V_run D [] 49 rfl ⟨to, ar, a1, by rw [a4, Int.toNat_natCast, e1, o2]; exact o4.1, to, ar, a1, trivial⟩ ?_
    rw [a4, Int.toNat_natCast, e1, o2, o3, o4.2.2.2.1]
    refine V_askS (av := [.inl ((od g.2.2.2.2.1 i).1 - lastn 0 (g.2.2.2.2.1.take i))]) (st := [.inl 1, .inl ((4 + g.2.2.2.1.length + (wos 0 (g.2.2.2.2.1.take i)).length : Nat) : Int)]) D mwX1_moreBytes rfl lkX1_X1_moreBytes (s_moreBytes (by omega)) rfl ⟨Nat.le_refl _, Nat.le_refl _⟩ ?_
    refine V_run D [] 55 rfl trivial ?_
    refine V_askS (av := [.inl ((od g.2.2.2.2.1 i).2.length : Int)]) (st := [.inl (1 + (mb ((od g.2.2.2.2.1 i).1 - lastn 0 (g.2.2.2.2.1.take i)) : Int)), .inl ((4 + g.2.2.2.1.length + (wos 0 (g.2.2.2.2.1.take i)).length : Nat) : Int)]) D mwX1_moreBytes rfl lkX1_X1_moreBytes (s_moreBytes (by omega)) rfl ⟨Nat.le_refl _, Nat.le_refl _⟩ ?_
    refine V_run D [14] 14 rfl ⟨to, ar, a1, trivial⟩ ?_
    rw [a4, Int.toNat_natCast, e1, o3]
    have e2 : ((4 + g.2.2.2.1.length + (wos 0 (g.2.2.2.2.1.take i)).length : Nat) : Int) + (1 + (mb ((od g.2.2.2.2.1 i).1 - lastn 0 (g.2.2.2.2.1.take i)) : Int) + (mb ((od g.2.2.2.2.1 i).2.length : Int) : Int) + ((od g.2.2.2.2.1 i).2.length : Int)) = ((4 + g.2.2.2.1.length + (wos 0 (g.2.2.2.2.1.take (i + 1))).length : Nat) : Int) := by
      rw [otake_snoc (by omega), wos_snoc, List.length_append, wo_len]; omega
    have e3 : (od g.2.2.2.2.1 i).1 = lastn 0 (g.2.2.2.2.1.take (i + 1)) := by rw [otake_snoc (by omega), lastn_snoc]
    rw [e2, e3]
    refine V_loc [some (.inr (.inr m)), some (.inl ((4 + g.2.2.2.1.length + (wos 0 (g.2.2.2.2.1.take (i + 1))).length : Nat) : Int)), some (.inl (lastn 0 (g.2.2.2.2.1.take (i + 1)))), some (.inl ((i + 1 : Nat) : Int))] rfl ?_
    exact l_size D h0 hok d (i + 1) (by omega)
theorem s_size (h : MAt T I N m most g lat) (hok : MOk g) : Spec mX1_writtenSize 1 [.inr (.inr m)] z T I N 0 0 (xSame z T I N (some (.inl ((wr g).length : Int)))) := by
  have h0 := h
  obtain ⟨⟨a1, a2, a3, a4, a5, a6, a7, a8⟩, ⟨b1, b2, b3⟩, c1, c2, ⟨f, f1, f2, f3, f4⟩, l1⟩ := h
  refine Spec_of okX1_writtenSize (by decide) (by decide) (Nat.le_of_ble_eq_true rfl) fun Γ E D => ?_
  refine V_run D [14] 14 rfl ⟨by rw [a2]; exact c1.1, a1, trivial⟩ ?_
  rw [a2, c1.2.2.2.1]
  have e : (4 : Int) + (g.2.2.2.1.length : Int) = ((4 + g.2.2.2.1.length + (wos 0 (g.2.2.2.2.1.take 0)).length : Nat) : Int) := by simp [wos]
  rw [e]
  refine V_loc [some (.inr (.inr m)), some (.inl ((4 + g.2.2.2.1.length + (wos 0 (g.2.2.2.2.1.take 0)).length : Nat) : Int)), some (.inl (lastn 0 (g.2.2.2.2.1.take 0))), some (.inl ((0 : Nat) : Int))] rfl ?_
  exact l_size D h0 hok _ 0 (Nat.zero_add _)
/-- what stands ahead of the options -/
def whd (g : Msg) : List Int := (64 + 16 * g.1 + g.2.2.2.1.length) :: g.2.1 :: (hib g.2.2.1 2 ++ g.2.2.2.1)
theorem whd_len (g : Msg) : (whd g).length = 4 + g.2.2.2.1.length := by unfold whd; simp [hib_len]; omega
theorem wr_eq (g : Msg) : wr g = whd g ++ (wos 0 g.2.2.2.2.1 ++ (if g.2.2.2.2.2 = [] then [] else 255 :: g.2.2.2.2.2)) := by unfold wr whd; simp
theorem l_behind (D : xD Γ E mX1_writeBehind 4 0 0) (h : MAt T I N m most g lat) (hok : MOk g) (hb : b + 2 ≤ m ∨ m + 6 + 3 * most ≤ b) (hfit : xs.length + (wr g).length ≤ room) : ∀ (d i : Nat) (I' : xI), i + d = g.2.2.2.2.1.length → (∀ a, a ≠ b → a ≠ b + 1 → I' a = I a) → BAt T I' N b room (xs ++ (whd g ++ wos 0 (g.2.2.2.2.1.take i))) →
    V Γ E (xQ Γ E (BCh z T I N b room (xs ++ wr g)) 0 0) z T I' N 0 0 51 (xlv [some (.inr (.inr m)), some (.inr (.inr b)), some (.inl (lastn 0 (g.2.2.2.2.1.take i))), some (.inl (i : Int))]) []
  | 0, i, I', hi, hfr, hB => by
    have h' : MAt T I' N m most g lat := h.kept (fun a h1 h2 => ⟨hfr a (by omega) (by omega), rfl⟩)
    obtain ⟨⟨a1, a2, a3, a4, a5, a6, a7, a8⟩, ⟨b1, b2, b3⟩, c1, c2, ⟨f, f1, f2, f3, f4⟩, l1⟩ := h'
    obtain rfl : i = g.2.2.2.2.1.length := by omega
    rw [List.take_length] at hB
    have hl := wr_len g
    refine V_run D [] 56 rfl ⟨a1, trivial⟩ ?_
    rw [a7]
    refine V_ige D 86 rfl rfl (by omega) (by omega) (fun q1 => ?_) (fun q1 => absurd q1 (by omega))
    refine V_run D [] 93 rfl ⟨by rw [a3]; exact c2.1, a1, trivial⟩ ?_
    rw [a3, c2.2.2.2.1]
    have hp := c2.2.2.2.2.1
    refine V_le D 111 rfl rfl (by omega) (fun q2 => ?_) (fun q2 => ?_)
    · have e : g.2.2.2.2.2 = [] := List.length_eq_zero_iff.mp (by omega)
      refine V_vret D rfl rfl ⟨rfl, rfl, rfl, rfl, hfr, ?_⟩
      rw [wr_eq, if_pos e, List.append_nil]
      exact hB
    · have e : ¬ g.2.2.2.2.2 = [] := by intro e; rw [e] at q2; exact q2 (by simp)
      rw [if_neg e] at hl
      have hwl := whd_len g
      refine V_run D [] 100 rfl trivial ?_
      refine V_putB (av := [.inl 255]) (st := []) D mwX0_add rfl lkX1_X0_add (s_add hB) hB.1 rfl ⟨Nat.le_refl _, Nat.le_refl _⟩ (fun I2 e2 d1 => ?_)
      rw [if_pos (by simp; omega), Int.emod_eq_of_lt (by omega) (by omega)] at d1
      refine V_run D [] 108 rfl ⟨a1, trivial⟩ ?_
      rw [a3]
      have c2' : BAt T I2 N (m + 3) 400 g.2.2.2.2.2 := c2.kept (e2 _ (by omega) (by omega)) (e2 _ (by omega) (by omega)) rfl
      refine V_putB (av := [.inr (.inr (m + 3))]) (st := []) D mwX0_addAll rfl lkX1_X0_addAll (s_addAll d1 c2' (by omega)) hB.1 rfl ⟨Nat.le_refl _, Nat.le_refl _⟩ (fun I3 e3 d2 => ?_)
      rw [if_pos (by simp; omega)] at d2
      refine V_vret D rfl rfl ⟨rfl, rfl, rfl, rfl, fun a h1 h2 => by rw [e3 a h1 h2, e2 a h1 h2, hfr a h1 h2], ?_⟩
      rw [wr_eq, if_neg e]
      simpa using d2
  | d + 1, i, I', hi, hfr, hB => by
    have h' : MAt T I' N m most g lat := h.kept (fun a h1 h2 => ⟨hfr a (by omega) (by omega), rfl⟩)
    obtain ⟨⟨a1, a2, a3, a4, a5, a6, a7, a8⟩, ⟨b1, b2, b3⟩, c1, c2, ⟨f, f1, f2, f3, f4⟩, l1⟩ := h'
    obtain ⟨fi1, e1⟩ := f1 i (by omega)
    have hO := f4 i (by omega)
    obtain ⟨o1, o2, o3, o4⟩ := id hO
    have hat := hok.2.2.2.2.1.at (i := i) (by omega)
    have hl := wr_len g
    have hwl := whd_len g
    have hpl := wos_take_le 0 g.2.2.2.2.1 (i + 1)
    have hsn : (wos 0 (g.2.2.2.2.1.take (i + 1))) = wos 0 (g.2.2.2.2.1.take i) ++ wo (lastn 0 (g.2.2.2.2.1.take i)) (od g.2.2.2.2.1 i) := by rw [otake_snoc (by omega), wos_snoc]
    rw [hsn, List.length_append] at hpl
    refine V_run D [] 56 rfl ⟨a1, trivial⟩ ?_
    rw [a7]
    refine V_ige D 86 rfl rfl (by omega) (by omega) (fun q1 => absurd q1 (by omega)) (fun q1 => ?_)
    have ar : ∃ k, 3 ≤ k ∧ xAr T (N m 2) k (i : Int) := ⟨3, Nat.le_refl _, most, by rw [a4]; exact a5, by omega, by omega⟩
    have to : T (N (N m 2) ((i : Int)).toNat) = some (.inr 2) := by rw [a4, Int.toNat_natCast, e1]; exact o1
    refine V_run D [] 67 rfl ⟨ar, a1, trivial⟩ ?_
    rw [a4, Int.toNat_natCast, e1]
    refine V_putBS (av := [.inr (.inr (m + 6 + 3 * f i)), .inl (lastn 0 (g.2.2.2.2.1.take i)), .inr (.inr b)]) (st := []) D mwX1_writeOption rfl lkX1_X1_writeOption (s_writeOption hO hB (by omega) (by omega) (by show _ + (wo (lastn 0 (g.2.2.2.2.1.take i)) (od g.2.2.2.2.1 i)).length ≤ room; rw [List.length_append, List.length_append]; omega)) rfl ⟨Nat.le_refl _, Nat.le_refl _⟩ (fun I2 e2 d1 => ?_)
    have i9 : I2 (m + 6 + 3 * f i) = I' (m + 6 + 3 * f i) := e2 _ (by omega) (by omega)
    refine V_run D [51] 51 rfl ⟨to, ar, a1, trivial⟩ ?_
    rw [a4, Int.toNat_natCast, e1, i9, o3]
    have e3 : (od g.2.2.2.2.1 i).1 = lastn 0 (g.2.2.2.2.1.take (i + 1)) := by rw [otake_snoc (by omega), lastn_snoc]
    rw [e3]
    refine V_loc [some (.inr (.inr m)), some (.inr (.inr b)), some (.inl (lastn 0 (g.2.2.2.2.1.take (i + 1)))), some (.inl ((i + 1 : Nat) : Int))] rfl ?_
    refine l_behind D h hok hb hfit d (i + 1) I2 (by omega) (fun a h1 h2 => by rw [e2 a h1 h2, hfr a h1 h2]) ?_
    rw [hsn]
    simpa using d1
theorem s_behind (h : MAt T I N m most g lat) (hok : MOk g) (hB : BAt T I N b room xs) (hb : b + 2 ≤ m ∨ m + 6 + 3 * most ≤ b) (hfit : xs.length + (wr g).length ≤ room) : Spec mX1_writeBehind 4 [.inr (.inr m), .inr (.inr b)] z T I N 0 0 (BCh z T I N b room (xs ++ wr g)) := by
  have h0 := h
  obtain ⟨⟨a1, a2, a3, a4, a5, a6, a7, a8⟩, ⟨b1, b2, b3⟩, c1, c2, ⟨f, f1, f2, f3, f4⟩, l1⟩ := h
  have hl := wr_len g
  obtain ⟨k1, k2, k3, ⟨k4, k4l⟩, k5, k6, k7⟩ := hok
  refine Spec_of okX1_writeBehind (by decide) (by decide) (Nat.le_of_ble_eq_true rfl) fun Γ E D => ?_
  refine V_run D [] 19 rfl ⟨by rw [a2]; exact c1.1, a1, a1, trivial⟩ ?_
  rw [a2, c1.2.2.2.1, b1]
  refine V_putB (av := [.inl (64 + 16 * g.1 + (g.2.2.2.1.length : Int))]) (st := []) D mwX0_add rfl lkX1_X0_add (s_add hB) hB.1 rfl ⟨Nat.le_refl _, Nat.le_refl _⟩ (fun I2 e2 d1 => ?_)
  rw [if_pos (by omega), Int.emod_eq_of_lt (by omega) (by omega)] at d1
  refine V_run D [] 27 rfl ⟨a1, trivial⟩ ?_
  rw [e2 m (by omega) (by omega), b2]
  refine V_putB (av := [.inl g.2.1]) (st := []) D mwX0_add rfl lkX1_X0_add (s_add d1) hB.1 rfl ⟨Nat.le_refl _, Nat.le_refl _⟩ (fun I3 e3 d2 => ?_)
  rw [if_pos (by simp; omega), Int.emod_eq_of_lt (by omega) (by omega)] at d2
  refine V_run D [] 36 rfl ⟨a1, trivial⟩ ?_
  rw [e3 m (by omega) (by omega), e2 m (by omega) (by omega), b3]
  refine V_putB (av := [.inl g.2.2.1, .inl ((2 : Nat) : Int)]) (st := []) D mwX0_addHighFirst rfl lkX1_X0_addHighFirst (s_addHigh d2 (by omega) (by simp; omega)) hB.1 rfl ⟨Nat.le_refl _, Nat.le_refl _⟩ (fun I4 e4 d3 => ?_)
  refine V_run D [] 44 rfl ⟨a1, trivial⟩ ?_
  rw [a2]
  have fr : ∀ a, a ≠ b → a ≠ b + 1 → I4 a = I a := fun a h1 h2 => by rw [e4 a h1 h2, e3 a h1 h2, e2 a h1 h2]
  have c1' : BAt T I4 N (m + 1) 8 g.2.2.2.1 := c1.kept (fr _ (by omega) (by omega)) (fr _ (by omega) (by omega)) rfl
  refine V_putB (av := [.inr (.inr (m + 1))]) (st := []) D mwX0_addAll rfl lkX1_X0_addAll (s_addAll d3 c1' (by omega)) hB.1 rfl ⟨Nat.le_refl _, Nat.le_refl _⟩ (fun I5 e5 d4 => ?_)
  rw [if_pos (by simp [hib_len]; omega)] at d4
  refine V_run D [51] 51 rfl trivial ?_
  refine V_loc [some (.inr (.inr m)), some (.inr (.inr b)), some (.inl (lastn 0 (g.2.2.2.2.1.take 0))), some (.inl ((0 : Nat) : Int))] rfl ?_
  refine l_behind D h0 ⟨k1, k2, k3, ⟨k4, k4l⟩, k5, k6, k7⟩ hb hfit _ 0 I5 (Nat.zero_add _) (fun a h1 h2 => by rw [e5 a h1 h2, fr a h1 h2]) ?_
  unfold whd
  simpa [wos] using d4
end XW2
end
section
/-! READING: what bytes tell -/
def tdv (xs : List Int) (bits : Int) (p : Nat) : Option (Int × Nat) :=
  if bits < 13 then some (bits, p) else if bits = 15 ∨ (p : Int) + (bits - 12) > xs.length then none else if bits = 13 then some (13 + xs.getD p 0, p + 1) else some (269 + 256 * xs.getD p 0 + xs.getD (p + 1) 0, p + 2)
def pst2 (xs : List Int) (num : Int) (d : Int) (n : Int × Nat) : Option (Int × Nat × Nat) :=
  if num + d > 65535 ∨ n.1 > 400 ∨ (n.2 : Int) + n.1 > xs.length then none else some (num + d, n.2, n.1.toNat)
/-- an option at p: its number, where its value begins, how long it is -/
def pstep (xs : List Int) (p : Nat) (num : Int) : Option (Int × Nat × Nat) := match tdv xs (xs.getD p 0 / 16) (p + 1) with
  | none => none
  | some d => match tdv xs (xs.getD p 0 % 16) d.2 with
    | none => none
    | some n => pst2 xs num d.1 n
def prun (xs : List Int) : Nat → Nat → Int → List Opt → Option (Nat × List Opt)
  | 0, p, _, acc => some (p, acc)
  | k + 1, p, num, acc => if p < xs.length ∧ ¬ xs.getD p 0 = 255 then (match pstep xs p num with
      | none => none
      | some (num', fr, n) => prun xs k (fr + n) num' (acc ++ [(num', (xs.drop fr).take n)])) else some (p, acc)
def rdP (xs : List Int) (p : Nat) : List Int := if p < xs.length then xs.drop (p + 1) else []
def rdE (xs : List Int) (p : Nat) (os : List Opt) : Int × Msg :=
  if p < xs.length ∧ ((rdP xs p).length = 0 ∨ (rdP xs p).length > 400) then (-5, 0, 0, 0, [], [], []) else
  if xs.getD 1 0 = 0 ∧ xs.length > 4 then (-6, 0, 0, 0, [], [], []) else
  (0, xs.getD 0 0 / 16 % 4, xs.getD 1 0, 256 * xs.getD 2 0 + xs.getD 3 0, (xs.drop 4).take (xs.getD 0 0 % 16).toNat, os, rdP xs p)
/-- the FAULT below 0, or 0 and the message, with all its options -/
def rd (xs : List Int) : Int × Msg :=
  if xs.length < 4 then (-1, 0, 0, 0, [], [], []) else
  if ¬ xs.getD 0 0 / 64 = 1 then (-2, 0, 0, 0, [], [], []) else
  if xs.getD 0 0 % 16 > 8 ∨ 4 + xs.getD 0 0 % 16 > xs.length then (-3, 0, 0, 0, [], [], []) else
  match prun xs xs.length (4 + (xs.getD 0 0 % 16).toNat) 0 [] with
  | none => (-4, 0, 0, 0, [], [], [])
  | some (p, os) => rdE xs p os
theorem tdv_in {xs : List Int} (hx : BsOk xs) {bits : Int} {p : Nat} {v : Int} {p' : Nat} (hb : 0 ≤ bits ∧ bits ≤ 15) (hp : p ≤ xs.length) (h : tdv xs bits p = some (v, p')) : 0 ≤ v ∧ v ≤ 65804 ∧ p ≤ p' ∧ p' ≤ xs.length := by
  unfold tdv at h
  split at h
  · cases h; omega
  · split at h
    · cases h
    · split at h
      · cases h
        have := hx _ (getD_mem (xs := xs) (j := p) (by omega))
        omega
      · cases h
        have := hx _ (getD_mem (xs := xs) (j := p) (by omega))
        have := hx _ (getD_mem (xs := xs) (j := p + 1) (by omega))
        omega
theorem pst2_in {xs : List Int} {num d : Int} {n : Int × Nat} {num' : Int} {fr k : Nat} (h0 : 0 ≤ n.1) (h : pst2 xs num d n = some (num', fr, k)) : num' = num + d ∧ num' ≤ 65535 ∧ fr = n.2 ∧ (k : Int) = n.1 ∧ k ≤ 400 ∧ fr + k ≤ xs.length := by
  unfold pst2 at h
  split at h
  · cases h
  · cases h; omega
theorem pstep_in {xs : List Int} (hx : BsOk xs) {p : Nat} {num : Int} {num' : Int} {fr n : Nat} (hp : p < xs.length) (h : pstep xs p num = some (num', fr, n)) : num ≤ num' ∧ num' ≤ 65535 ∧ p < fr ∧ n ≤ 400 ∧ fr + n ≤ xs.length := by
  have hb := hx _ (getD_mem hp)
  unfold pstep at h
  split at h
  · cases h
  · rename_i d hd
    obtain ⟨d1, d2⟩ := d
    have i1 := tdv_in hx (by omega) (by omega) hd
    split at h
    · cases h
    · rename_i e he
      obtain ⟨e1, e2⟩ := e
      have i2 := tdv_in hx (by omega) (by omega) he
      have := pst2_in (by omega) h
      dsimp only at this i1 i2
      omega
section XMs
variable {T : xY} {I I' : xI} {N : xN} {m most : Nat} {g : Msg} {lat : Option Nat}
theorem MAt.setVal (h : MAt T I N m most g lat) {p o : Nat} {v' : List Int} (hp : p < g.2.2.2.2.1.length) (ho : o = N (m + 5) p) (hfr : ∀ a, a ≠ o + 1 → a ≠ o + 2 → I' a = I a) (hB : BAt T I' N (o + 1) 400 v') : MAt T I' N m most (g.1, g.2.1, g.2.2.1, g.2.2.2.1, g.2.2.2.2.1.set p ((od g.2.2.2.2.1 p).1, v'), g.2.2.2.2.2) lat := by
  obtain ⟨⟨a1, a2, a3, a4, a5, a6, a7, a8⟩, ⟨b1, b2, b3⟩, c1, c2, ⟨f, f1, f2, f3, f4⟩, l1⟩ := h
  obtain ⟨fp, eo⟩ := f1 p (by omega)
  rw [← ho] at eo
  obtain ⟨o1, o2, o3, o4⟩ := f4 p hp
  rw [← eo] at o1 o2 o3 o4
  have hO : OAt T I' N o (od g.2.2.2.2.1 p).1 v' := ⟨o1, o2, by rw [hfr o (by omega) (by omega)]; exact o3, hB⟩
  have keepO : ∀ k, k < most → k ≠ f p → ∀ {nu : Int} {v : List Int}, OAt T I N (m + 6 + 3 * k) nu v → OAt T I' N (m + 6 + 3 * k) nu v := fun k hk hne _ _ hh =>
    hh.kept (fun a h1 h2 => ⟨hfr a (by omega) (by omega), rfl⟩)
  have hsl : (g.2.2.2.2.1.set p ((od g.2.2.2.2.1 p).1, v')).length = g.2.2.2.2.1.length := List.length_set
  refine ⟨⟨a1, a2, a3, a4, a5, a6, ?_, ?_⟩, ⟨?_, ?_, ?_⟩, c1.kept (hfr _ (by omega) (by omega)) (hfr _ (by omega) (by omega)) rfl, c2.kept (hfr _ (by omega) (by omega)) (hfr _ (by omega) (by omega)) rfl, ⟨f, f1, f2, ?_, ?_⟩, ?_⟩
  · show I' m 3 = ((g.2.2.2.2.1.set p ((od g.2.2.2.2.1 p).1, v')).length : Int)
    rw [hsl, hfr m (by omega) (by omega)]; exact a7
  · show (g.2.2.2.2.1.set p ((od g.2.2.2.2.1 p).1, v')).length ≤ most
    omega
  · rw [hfr m (by omega) (by omega)]; exact b1
  · rw [hfr m (by omega) (by omega)]; exact b2
  · rw [hfr m (by omega) (by omega)]; exact b3
  · intro k hk
    by_cases hkp : k = f p
    · exact ⟨_, _, by rw [hkp, ← eo]; exact hO⟩
    · obtain ⟨nu, v, hh⟩ := f3 k hk
      exact ⟨nu, v, keepO k hk hkp hh⟩
  · intro j hj
    have hj' : j < g.2.2.2.2.1.length := by rw [← hsl]; exact hj
    show OAt T I' N (m + 6 + 3 * f j) (od (g.2.2.2.2.1.set p ((od g.2.2.2.2.1 p).1, v')) j).1 (od (g.2.2.2.2.1.set p ((od g.2.2.2.2.1 p).1, v')) j).2
    have e : od (g.2.2.2.2.1.set p ((od g.2.2.2.2.1 p).1, v')) j = if j = p then ((od g.2.2.2.2.1 p).1, v') else od g.2.2.2.2.1 j := by
      unfold od
      rw [List.getD_eq_getElem?_getD, List.getD_eq_getElem?_getD, List.getElem?_set]
      by_cases h : p = j
      · rw [if_pos h, if_pos h.symm, if_pos (by omega)]; simp [List.getD_eq_getElem?_getD]
      · rw [if_neg h, if_neg (fun q => h q.symm), List.getD_eq_getElem?_getD]
    rw [e]
    by_cases h : j = p
    · rw [if_pos h, h, ← eo]; exact hO
    · rw [if_neg h]
      exact keepO _ (f1 j (by omega)).1 (fun q => h (f2 _ _ (by omega) (by omega) q)) (f4 j hj')
  · cases lat with
    | none => exact l1
    | some l => exact ⟨by show l < (g.2.2.2.2.1.set p ((od g.2.2.2.2.1 p).1, v')).length; rw [hsl]; exact l1.1, l1.2⟩
theorem MAt.setPay (h : MAt T I N m most g lat) {v' : List Int} (hfr : ∀ a, a ≠ m + 3 → a ≠ m + 4 → I' a = I a) (hB : BAt T I' N (m + 3) 400 v') : MAt T I' N m most (g.1, g.2.1, g.2.2.1, g.2.2.2.1, g.2.2.2.2.1, v') lat := by
  obtain ⟨⟨a1, a2, a3, a4, a5, a6, a7, a8⟩, ⟨b1, b2, b3⟩, c1, c2, ⟨f, f1, f2, f3, f4⟩, l1⟩ := h
  have e0 := hfr m (by omega) (by omega)
  refine ⟨⟨a1, a2, a3, a4, a5, a6, by rw [e0]; exact a7, a8⟩, ⟨by rw [e0]; exact b1, by rw [e0]; exact b2, by rw [e0]; exact b3⟩, c1.kept (hfr _ (by omega) (by omega)) (hfr _ (by omega) (by omega)) rfl, hB, ⟨f, f1, f2, ?_, ?_⟩, l1⟩
  · intro k hk
    obtain ⟨nu, v, hh⟩ := f3 k hk
    exact ⟨nu, v, hh.kept (fun a h1 h2 => ⟨hfr a (by omega) (by omega), rfl⟩)⟩
  · intro j hj
    exact (f4 j hj).kept (fun a h1 h2 => ⟨hfr a (by omega) (by omega), rfl⟩)
theorem MAt.setTok (h : MAt T I N m most g lat) {v' : List Int} (hfr : ∀ a, a ≠ m + 1 → a ≠ m + 2 → I' a = I a) (hB : BAt T I' N (m + 1) 8 v') : MAt T I' N m most (g.1, g.2.1, g.2.2.1, v', g.2.2.2.2.1, g.2.2.2.2.2) lat := by
  obtain ⟨⟨a1, a2, a3, a4, a5, a6, a7, a8⟩, ⟨b1, b2, b3⟩, c1, c2, ⟨f, f1, f2, f3, f4⟩, l1⟩ := h
  have e0 := hfr m (by omega) (by omega)
  refine ⟨⟨a1, a2, a3, a4, a5, a6, by rw [e0]; exact a7, a8⟩, ⟨by rw [e0]; exact b1, by rw [e0]; exact b2, by rw [e0]; exact b3⟩, hB, c2.kept (hfr _ (by omega) (by omega)) (hfr _ (by omega) (by omega)) rfl, ⟨f, f1, f2, ?_, ?_⟩, l1⟩
  · intro k hk
    obtain ⟨nu, v, hh⟩ := f3 k hk
    exact ⟨nu, v, hh.kept (fun a h1 h2 => ⟨hfr a (by omega) (by omega), rfl⟩)⟩
  · intro j hj
    exact (f4 j hj).kept (fun a h1 h2 => ⟨hfr a (by omega) (by omega), rfl⟩)
theorem MAt.unlatest (h : MAt T I N m most g lat) : MAt T I (xup N m 4 0) m most g none := by
  obtain ⟨⟨a1, a2, a3, a4, a5, a6, a7, a8⟩, ⟨b1, b2, b3⟩, c1, c2, ⟨f, f1, f2, f3, f4⟩, l1⟩ := h
  have e : ∀ a, a ≠ m → xup N m 4 0 a = N a := fun a ha => xup_ne ha
  refine ⟨⟨a1, by rw [xup_at]; exact a2, by rw [xup_at]; exact a3, by rw [xup_at]; exact a4, a5, a6, a7, a8⟩, ⟨b1, b2, b3⟩, c1.kept rfl rfl (e _ (by omega)), c2.kept rfl rfl (e _ (by omega)), ⟨f, ?_, f2, ?_, ?_⟩, ?_⟩
  · intro j hj; rw [e _ (by omega)]; exact f1 j hj
  · intro k hk
    obtain ⟨nu, v, hh⟩ := f3 k hk
    exact ⟨nu, v, hh.kept (fun a h1 h2 => ⟨rfl, e _ (by omega)⟩)⟩
  · intro j hj
    exact (f4 j hj).kept (fun a h1 h2 => ⟨rfl, e _ (by omega)⟩)
  · show xup N m 4 0 m 4 = 0
    rw [xup_at]; rfl
end XMs
end
section
theorem zShr_nat {x : Int} (hx : 0 ≤ x ∧ x < 2147483648) {k : Nat} (hk : k < 32) : zShr x (k : Int) = x / (2 ^ k : Nat) := by
  obtain ⟨n, rfl⟩ := Int.eq_ofNat_of_zero_le hx.1
  unfold zShr
  have e1 : Int32.ofInt (n : Int) = nI n := Int32.ofInt_eq_ofNat
  have e2 : Int32.ofInt (k : Int) = nI k := Int32.ofInt_eq_ofNat
  have hs : ∀ k : Nat, k < 32 → ((nI k &&& 31).toBitVec.smod 32).toNat = k := by decide +kernel
  rw [e1, e2, pk_shrN (by omega) _ k (hs k hk), nI_toInt (Nat.lt_of_le_of_lt (Nat.div_le_self _ _) (by omega))]
  simp
section XRd
variable {Γ : xG} {E : xE} {z : Nat} {T : xY} {I : xI} {N : xN} {r b room s : Nat} {xs : List Int} {g : Msg} {lat : Option Nat}
def toldPost (I : xI) (N : xN) (r : Nat) (o : Option (Int × Nat)) : Option xV → xI → xN → Prop := fun rr I' N' => N' = N ∧ match o with
  | none => rr = some (.inl (-1)) ∧ I' = I
  | some (v, p') => rr = some (.inl v) ∧ I' = xup I r 0 (p' : Int)
theorem s_told {bits : Int} {p : Nat} (hT : T r = some (.inr 4)) (hB : BAt T I N b room xs) (hp : I r 0 = (p : Int)) (hpl : p ≤ xs.length) (hb : 0 ≤ bits ∧ bits ≤ 15) : Spec mX4_told 1 [.inr (.inr r), .inr (.inr b), .inl bits] z T I N 0 0 (xCg z T (toldPost I N r (tdv xs bits p))) := by
  have h5 := hB.2.2.2.2.1
  have h6 := hB.2.2.2.2.2.1
  have h7 := hB.2.2.2.2.2.2.1
  refine Spec_of okX4_told (by decide) (by decide) (Nat.le_of_ble_eq_true rfl) fun Γ E D => ?_
  refine V_run D [] 3 rfl trivial ?_
  refine V_ige D 8 rfl rfl (by omega) (by omega) (fun c1 => ?_) (fun c1 => ?_)
  · refine V_run D [] 15 rfl trivial ?_
    refine V_igt D 31 rfl rfl (by omega) (by omega) (fun c2 => ?_) (fun c2 => ?_)
    · refine V_run D [] 32 rfl trivial ?_
      refine V_iret D rfl rfl ⟨rfl, rfl, rfl, ?_⟩
      have e : tdv xs bits p = none := by unfold tdv; rw [if_neg (by omega), if_pos (by omega)]
      rw [e]; exact ⟨rfl, rfl⟩
    · refine V_run D [] 28 rfl ⟨hT, hB.1, trivial⟩ ?_
      rw [hp, hB.2.2.2.1]
      refine V_ile D 33 rfl rfl (by omega) (by omega) (fun c3 => ?_) (fun c3 => ?_)
      · refine V_run D [] 38 rfl ⟨hT, trivial⟩ ?_
        rw [hp]
        refine V_askV (av := [.inl (p : Int)]) (st := []) D mwX0_at rfl lkX4_X0_at (s_at hB (by omega)) hB.1 rfl ⟨Nat.le_refl _, Nat.le_refl _⟩ ?_
        refine V_run D [] 50 rfl ⟨hT, trivial⟩ ?_
        rw [hp]
        refine V_askV (av := [.inl ((p : Int) + 1)]) (st := []) D mwX0_at rfl lkX4_X0_at (s_at hB (by omega)) hB.1 rfl ⟨Nat.le_refl _, Nat.le_refl _⟩ ?_
        refine V_run D [] 67 rfl ⟨hT, hT, trivial⟩ ?_
        rw [hp]
        have b1 : bat xs (p : Int) = xs.getD p 0 := bat_in (by omega)
        refine V_ine D 78 rfl rfl (by omega) (by omega) (fun c4 => ?_) (fun c4 => ?_)
        · have b2 : bat xs ((p : Int) + 1) = xs.getD (p + 1) 0 := by have := bat_in (xs := xs) (i := p + 1) (by omega); rw [← this]; congr 1
          refine V_run D [] 91 rfl trivial ?_
          rw [b1, b2]
          refine V_iret D rfl rfl ⟨rfl, rfl, rfl, ?_⟩
          have e : tdv xs bits p = some (269 + 256 * xs.getD p 0 + xs.getD (p + 1) 0, p + 2) := by unfold tdv; rw [if_neg (by omega), if_neg (by omega), if_neg (by omega)]
          rw [e]
          exact ⟨rfl, by congr 1; omega⟩
        · refine V_run D [] 91 rfl trivial ?_
          rw [b1]
          refine V_iret D rfl rfl ⟨rfl, rfl, rfl, ?_⟩
          have e : tdv xs bits p = some (13 + xs.getD p 0, p + 1) := by unfold tdv; rw [if_neg (by omega), if_neg (by omega), if_pos (by omega)]
          rw [e]
          exact ⟨rfl, by congr 1; omega⟩
      · refine V_run D [] 32 rfl trivial ?_
        refine V_iret D rfl rfl ⟨rfl, rfl, rfl, ?_⟩
        have e : tdv xs bits p = none := by unfold tdv; rw [if_neg (by omega), if_pos (by omega)]
        rw [e]; exact ⟨rfl, rfl⟩
  · refine V_run D [] 7 rfl trivial ?_
    refine V_iret D rfl rfl ⟨rfl, rfl, rfl, ?_⟩
    have e : tdv xs bits p = some (bits, p) := by unfold tdv; rw [if_pos (by omega)]
    rw [e]
    refine ⟨rfl, ?_⟩
    funext a
    unfold xup va_up
    by_cases ha : a = r
    · rw [if_pos ha, ha]; funext j; by_cases hj : j = 0
      · rw [if_pos hj, hj, hp]
      · rw [if_neg hj]
    · rw [if_neg ha]
/-- the reader, and what it reads into, may have changed -/
def R2 (r lo hi : Nat) (I : xI) (N : xN) (I' : xI) (N' : xN) : Prop := (∀ a, a ≠ r → (a < lo ∨ hi ≤ a) → I' a = I a) ∧ ∀ a, (a < lo ∨ hi ≤ a) → N' a = N a
theorem R2.trans {r lo hi : Nat} {I I' I'' : xI} {N N' N'' : xN} (h : R2 r lo hi I N I' N') (h' : R2 r lo hi I' N' I'' N'') : R2 r lo hi I N I'' N'' :=
  ⟨fun a h1 h2 => (h'.1 a h1 h2).trans (h.1 a h1 h2), fun a h2 => (h'.2 a h2).trans (h.2 a h2)⟩
theorem R2.ofRCh {r lo hi lo' hi' : Nat} {I I' : xI} {N N' : xN} (h : RCh lo hi I N I' N') (h1 : lo' ≤ lo) (h2 : hi ≤ hi') : R2 r lo' hi' I N I' N' :=
  ⟨fun a _ h3 => (h a (by omega)).1, fun a h3 => (h a (by omega)).2⟩
def headPost (T : xY) (I : xI) (N : xN) (r s : Nat) (xs : List Int) : Option xV → xI → xN → Prop := fun rr I' N' =>
  if xs.length < 4 then rr = some (.inl (-1)) ∧ I' = I ∧ N' = N else if ¬ xs.getD 0 0 / 64 = 1 then rr = some (.inl (-2)) ∧ I' = I ∧ N' = N else
  if xs.getD 0 0 % 16 > 8 ∨ 4 + xs.getD 0 0 % 16 > xs.length then rr = some (.inl (-3)) ∧ I' = I ∧ N' = N else
  rr = some (.inl 0) ∧ R2 r s (s + 66) I N I' N' ∧ I' r 0 = ((4 + (xs.getD 0 0 % 16).toNat : Nat) : Int) ∧ MAt T I' N' s 20 (xs.getD 0 0 / 16 % 4, xs.getD 1 0, 256 * xs.getD 2 0 + xs.getD 3 0, (xs.drop 4).take (xs.getD 0 0 % 16).toNat, [], []) none
theorem s_parseHead (hT : T r = some (.inr 4)) (hr : r < s ∨ s + 66 ≤ r) (hB : BAt T I N b room xs) (hb : b + 2 ≤ s ∨ s + 66 ≤ b) (h : MAt T I N s 20 g lat) : Spec mX4_parseHead 2 [.inr (.inr r), .inr (.inr b), .inr (.inr s)] z T I N 0 0 (xCg z T (headPost T I N r s xs)) := by
  have h5 := hB.2.2.2.2.1
  have h6 := hB.2.2.2.2.2.1
  have h7 := hB.2.2.2.2.2.2.1
  have hrb : r ≠ b := fun e => by have := hB.1; rw [← e, hT] at this; cases this
  have hrb1 : r ≠ b + 1 := fun e => by have := hB.2.1; rw [← e, hT] at this; cases this
  refine Spec_of okX4_parseHead (by decide) (by decide) (Nat.le_of_ble_eq_true rfl) fun Γ E D => ?_
  refine V_run D [] 5 rfl ⟨hB.1, trivial⟩ ?_
  rw [hB.2.2.2.1]
  refine V_ige D 10 rfl rfl (by omega) (by omega) (fun c1 => ?_) (fun c1 => ?_)
  · refine V_run D [] 12 rfl trivial ?_
    refine V_askV (av := [.inl ((0 : Nat) : Int)]) (st := []) D mwX0_at rfl lkX4_X0_at (s_at hB (by omega)) hB.1 rfl ⟨Nat.le_refl _, Nat.le_refl _⟩ ?_
    rw [bat_in (by omega)]
    have hx := h7 _ (getD_mem (xs := xs) (j := 0) (by omega))
    generalize ha : xs.getD 0 0 = a at hx ⊢
    refine V_run D [] 21 rfl trivial ?_
    have e6 : zShr a 6 = a / 64 := zShr_nat (k := 6) (by omega) (by omega)
    rw [e6]
    refine V_ieq D 27 rfl rfl (by omega) (by omega) (fun c2 => ?_) (fun c2 => ?_)
    · refine V_run D [] 37 rfl trivial ?_
      have e15 : zAnd a 15 = a % 16 := zAndM a 4 15 (by omega) (by decide)
      rw [e15]
      have bad : a % 16 > 8 ∨ 4 + a % 16 > xs.length → V Γ E (xQ Γ E (xCg z T (headPost T I N r s xs)) 0 0) z T I N 0 0 51 (xset (xset (xent [.inr (.inr r), .inr (.inr b), .inr (.inr s)] 0) 3 (.inl a)) 4 (.inl (a % 16))) [] := fun hbad => by
        refine V_run D [] 53 rfl trivial ?_
        refine V_iret D rfl rfl ⟨rfl, rfl, ?_⟩
        unfold headPost
        rw [if_neg (by omega), ha, if_neg (by omega), if_pos hbad]
        exact ⟨rfl, rfl, rfl⟩
      refine V_igt D 51 rfl rfl (by omega) (by omega) (fun c3 => bad (Or.inl (by omega))) (fun c3 => ?_)
      refine V_run D [] 48 rfl ⟨hB.1, trivial⟩ ?_
      rw [hB.2.2.2.1]
      refine V_ile D 54 rfl rfl (by omega) (by omega) (fun c4 => ?_) (fun c4 => bad (Or.inr (by omega)))
      refine V_run D [] 62 rfl trivial ?_
      refine V_askV (av := [.inl ((1 : Nat) : Int)]) (st := [.inl (zAnd (zShr a 4) 3), .inr (.inr s)]) D mwX0_at rfl lkX4_X0_at (s_at hB (by omega)) hB.1 rfl ⟨Nat.le_refl _, Nat.le_refl _⟩ ?_
      refine V_run D [] 67 rfl trivial ?_
      refine V_askV (av := [.inl ((2 : Nat) : Int)]) (st := [.inl (bat xs ((1 : Nat) : Int)), .inl (zAnd (zShr a 4) 3), .inr (.inr s)]) D mwX0_at rfl lkX4_X0_at (s_at hB (by omega)) hB.1 rfl ⟨Nat.le_refl _, Nat.le_refl _⟩ ?_
      refine V_run D [] 76 rfl trivial ?_
      refine V_askV (av := [.inl ((3 : Nat) : Int)]) (st := [.inl (bat xs ((2 : Nat) : Int) * 256), .inl (bat xs ((1 : Nat) : Int)), .inl (zAnd (zShr a 4) 3), .inr (.inr s)]) D mwX0_at rfl lkX4_X0_at (s_at hB (by omega)) hB.1 rfl ⟨Nat.le_refl _, Nat.le_refl _⟩ ?_
      refine V_run D [] 80 rfl trivial ?_
      have e4 : zShr a 4 = a / 16 := zShr_nat (k := 4) (by omega) (by omega)
      have e3 : zAnd (a / 16) 3 = a / 16 % 4 := zAndM (a / 16) 2 3 (by omega) (by decide)
      rw [bat_in (by omega), bat_in (by omega), bat_in (by omega), e4, e3]
      refine V_chV (av := [.inl (a / 16 % 4), .inl (xs.getD 1 0), .inl (xs.getD 2 0 * 256 + xs.getD 3 0)]) (st := []) D mwX1_restart rfl lkX4_X1_restart (s_restart h) h.1.1 rfl ⟨Nat.le_refl _, Nat.le_refl _⟩ (fun rr I2 N2 hh => ?_)
      obtain ⟨rfl, hch, hM⟩ := hh
      have kN : ∀ a, (a < s ∨ s + 5 ≤ a) → N2 a = N a := fun a ha => (hch a ha).2
      have kI : ∀ a, (a < s ∨ s + 5 ≤ a) → I2 a = I a := fun a ha => (hch a ha).1
      have hB2 : BAt T I2 N2 b room xs := hB.kept (kI _ (by omega)) (kI _ (by omega)) (kN _ (by omega))
      obtain ⟨⟨a1, a2, -⟩, -, d1, -⟩ := id hM
      refine V_run D [] 91 rfl ⟨a1, trivial⟩ ?_
      rw [a2]
      refine V_putB (av := [.inr (.inr b), .inl 4, .inl (a % 16)]) (st := []) D mwX0_addPart rfl lkX4_X0_addPart (s_addPart d1 hB2 (by omega) (by omega) (by omega)) d1.1 rfl ⟨Nat.le_refl _, Nat.le_refl _⟩ (fun I3 f3 d3 => ?_)
      rw [if_pos (by simp; omega)] at d3
      have hM3 := hM.setTok f3 d3
      refine V_run D [] 103 rfl ⟨hT, trivial⟩ ?_
      refine V_iret D rfl rfl ⟨rfl, rfl, ?_⟩
      unfold headPost
      rw [if_neg (by omega), ha, if_neg (by omega), if_neg (by omega)]
      refine ⟨rfl, ⟨fun q h1 h2 => ?_, fun q h2 => kN q (by omega)⟩, ?_, ?_⟩
      · rw [xup_ne h1, f3 q (by omega) (by omega), kI q (by omega)]
      · rw [xup_at]; unfold va_up; rw [if_pos rfl]; omega
      · have h9 := hM3.kept (I' := xup I3 r 0 (4 + a % 16)) (N' := N2) (fun q h1 h2 => ⟨xup_ne (by omega), rfl⟩)
        have e9 : xs.getD 2 0 * 256 + xs.getD 3 0 = 256 * xs.getD 2 0 + xs.getD 3 0 := by omega
        rw [e9] at h9
        simpa using h9
    · refine V_run D [] 26 rfl trivial ?_
      refine V_iret D rfl rfl ⟨rfl, rfl, ?_⟩
      unfold headPost
      rw [if_neg (by omega), ha, if_pos c2]
      exact ⟨rfl, rfl, rfl⟩
  · refine V_run D [] 9 rfl trivial ?_
    refine V_iret D rfl rfl ⟨rfl, rfl, ?_⟩
    unfold headPost
    rw [if_pos (by omega)]
    exact ⟨rfl, rfl, rfl⟩
end XRd
end
section
theorem ipos_end {n : Int} {os : List Opt} (h : ∀ q ∈ os, q.1 ≤ n) : ipos n os os.length = os.length := by
  rcases Nat.eq_zero_or_pos os.length with h0 | h0
  · rw [h0]; rfl
  · obtain ⟨k, hk⟩ : ∃ k, os.length = k + 1 := ⟨os.length - 1, by omega⟩
    rw [hk]
    unfold ipos
    rw [if_neg]
    have := h (od os k) (by rw [od_get (by omega)]; exact List.getElem_mem _)
    omega
theorem inso_end (q : Opt) (os : List Opt) : inso os.length q os = os ++ [q] := by unfold inso; simp
theorem od_last (os : List Opt) (q : Opt) : od (os ++ [q]) os.length = q := by unfold od; simp [List.getD_eq_getElem?_getD]
section XRd2
variable {Γ : xG} {E : xE} {z : Nat} {T : xY} {I : xI} {N : xN} {r b room s : Nat} {xs : List Int} {g : Msg} {lat : Option Nat}
def optPost (T : xY) (I : xI) (N : xN) (r s : Nat) (xs : List Int) (g : Msg) (lat : Option Nat) (o : Option (Int × Nat × Nat)) : Option xV → xI → xN → Prop := fun rr I' N' => R2 r s (s + 66) I N I' N' ∧ match o with
  | none => rr = some (.inl 0) ∧ MAt T I' N' s 20 g lat
  | some (num', fr, n) => rr = some (.inl 1) ∧ I' r 0 = ((fr + n : Nat) : Int) ∧ I' r 1 = num' ∧ ∃ lat', MAt T I' N' s 20 (g.1, g.2.1, g.2.2.1, g.2.2.2.1, if g.2.2.2.2.1.length < 20 then g.2.2.2.2.1 ++ [(num', (xs.drop fr).take n)] else g.2.2.2.2.1, g.2.2.2.2.2) lat'
set_option maxHeartbeats 1000000 in
theorem s_parseOption {p : Nat} {num : Int} (hT : T r = some (.inr 4)) (hr : r < s ∨ s + 66 ≤ r) (hB : BAt T I N b room xs) (hb : b + 2 ≤ s ∨ s + 66 ≤ b) (h : MAt T I N s 20 g lat) (hp : I r 0 = (p : Int)) (hpl : p < xs.length) (hn : I r 1 = num) (hnum : 0 ≤ num ∧ num ≤ 65535) (hle : ∀ q ∈ g.2.2.2.2.1, 0 ≤ q.1 ∧ q.1 ≤ num) :
    Spec mX4_parseOption 2 [.inr (.inr r), .inr (.inr b), .inr (.inr s)] z T I N 0 0 (xCg z T (optPost T I N r s xs g lat (pstep xs p num))) := by
  have h5 := hB.2.2.2.2.1
  have h6 := hB.2.2.2.2.2.1
  have h7 := hB.2.2.2.2.2.2.1
  have hrb : r ≠ b := fun e => by have := hB.1; rw [← e, hT] at this; cases this
  have hrb1 : r ≠ b + 1 := fun e => by have := hB.2.1; rw [← e, hT] at this; cases this
  have hx := h7 _ (getD_mem (xs := xs) (j := p) hpl)
  have kB : ∀ J : xI, (∀ a, a ≠ r → J a = I a) → BAt T J N b room xs := fun J hJ => hB.kept (hJ _ (by omega)) (hJ _ (by omega)) rfl
  have kM : ∀ J : xI, (∀ a, a ≠ r → J a = I a) → MAt T J N s 20 g lat := fun J hJ => h.kept (fun a h1 h2 => ⟨hJ a (by omega), rfl⟩)
  refine Spec_of okX4_parseOption (by decide) (by decide) (Nat.le_of_ble_eq_true rfl) fun Γ E D => ?_
  refine V_run D [] 5 rfl ⟨hT, trivial⟩ ?_
  rw [hp]
  refine V_askV (av := [.inl (p : Int)]) (st := []) D mwX0_at rfl lkX4_X0_at (s_at hB (by omega)) hB.1 rfl ⟨Nat.le_refl _, Nat.le_refl _⟩ ?_
  rw [bat_in hpl]
  generalize ha : xs.getD p 0 = a at hx ⊢
  refine V_run D [] 24 rfl ⟨hT, hT, trivial⟩ ?_
  have e4 : zShr a 4 = a / 16 := zShr_nat (k := 4) (by omega) (by omega)
  rw [hp, e4]
  generalize hI1 : xup I r 0 ((p : Int) + 1) = I1
  have i1 : ∀ a, a ≠ r → I1 a = I a := fun a h => by rw [← hI1, xup_ne h]
  have i1p : I1 r 0 = ((p + 1 : Nat) : Int) := by rw [← hI1, xup_at]; unfold va_up; rw [if_pos rfl]; omega
  have i1n : I1 r 1 = num := by rw [← hI1, xup_at]; unfold va_up; rw [if_neg (by omega)]; exact hn
  refine V_chV (av := [.inr (.inr b), .inl (a / 16)]) (st := []) D mwX4_told rfl lkX4_X4_told (s_told (p := p + 1) hT (kB I1 i1) i1p (by omega) (by omega)) hT rfl ⟨Nat.le_refl _, Nat.le_refl _⟩ (fun rr I2 N2 hh => ?_)
  obtain ⟨rfl, hh⟩ := hh
  have ps : pstep xs p num = match tdv xs (a / 16) (p + 1) with
      | none => none
      | some d => match tdv xs (a % 16) d.2 with
        | none => none
        | some n => pst2 xs num d.1 n := by unfold pstep; rw [ha]; rfl
  have e15 : zAnd a 15 = a % 16 := zAndM a 4 15 (by omega) (by decide)
  cases h1 : tdv xs (a / 16) (p + 1) with
  | none =>
    rw [h1] at hh ps
    obtain ⟨rfl, rfl⟩ := hh
    refine V_run D [] 35 rfl trivial ?_
    rw [e15]
    refine V_chV (av := [.inr (.inr b), .inl (a % 16)]) (st := []) D mwX4_told rfl lkX4_X4_told (s_told (p := p + 1) hT (kB I2 i1) i1p (by omega) (by omega)) hT rfl ⟨Nat.le_refl _, Nat.le_refl _⟩ (fun rr I3 N3 hh => ?_)
    obtain ⟨rfl, hh⟩ := hh
    have hi3 : (∀ q, q ≠ r → I3 q = I q) ∧ ∃ v : Int, rr = some (.inl v) := by
      cases h2 : tdv xs (a % 16) (p + 1) with
      | none => rw [h2] at hh; obtain ⟨rfl, rfl⟩ := hh; exact ⟨i1, _, rfl⟩
      | some q => obtain ⟨v, p'⟩ := q; rw [h2] at hh; obtain ⟨rfl, rfl⟩ := hh; exact ⟨fun q hq => by rw [xup_ne hq, i1 q hq], _, rfl⟩
    obtain ⟨i3, v, rfl⟩ := hi3
    refine V_run D [] 43 rfl trivial ?_
    refine V_ieq D 52 rfl rfl (by omega) (by omega) (fun c1 => ?_) (fun c1 => absurd rfl c1)
    refine V_run D [] 53 rfl trivial ?_
    refine V_zret D rfl rfl (Or.inl rfl) ⟨rfl, rfl, ⟨fun q q1 q2 => i3 q q1, fun q q2 => rfl⟩, ?_⟩
    rw [ps]
    exact ⟨rfl, kM I3 i3⟩
  | some d =>
    obtain ⟨d1, d2⟩ := d
    rw [h1] at hh ps
    obtain ⟨rfl, rfl⟩ := hh
    have hd := tdv_in h7 (by omega) (by omega) h1
    generalize hI2 : xup I1 r 0 (d2 : Int) = I2
    have i2 : ∀ a, a ≠ r → I2 a = I a := fun a h => by rw [← hI2, xup_ne h, i1 a h]
    have i2p : I2 r 0 = (d2 : Int) := by rw [← hI2, xup_at]; unfold va_up; rw [if_pos rfl]
    have i2n : I2 r 1 = num := by rw [← hI2, xup_at]; unfold va_up; rw [if_neg (by omega)]; exact i1n
    refine V_run D [] 35 rfl trivial ?_
    rw [e15]
    refine V_chV (av := [.inr (.inr b), .inl (a % 16)]) (st := []) D mwX4_told rfl lkX4_X4_told (s_told (p := d2) hT (kB I2 i2) i2p (by omega) (by omega)) hT rfl ⟨Nat.le_refl _, Nat.le_refl _⟩ (fun rr I3 N3 hh => ?_)
    obtain ⟨rfl, hh⟩ := hh
    dsimp only at ps
    cases h2 : tdv xs (a % 16) d2 with
    | none =>
      rw [h2] at hh ps
      obtain ⟨rfl, rfl⟩ := hh
      refine V_run D [] 43 rfl trivial ?_
      refine V_ieq D 52 rfl rfl (by omega) (by omega) (fun c1 => absurd c1 (by omega)) (fun c1 => ?_)
      refine V_run D [] 49 rfl trivial ?_
      refine V_ine D 54 rfl rfl (by omega) (by omega) (fun c2 => absurd rfl c2) (fun c2 => ?_)
      refine V_run D [] 53 rfl trivial ?_
      refine V_zret D rfl rfl (Or.inl rfl) ⟨rfl, rfl, ⟨fun q q1 q2 => i2 q q1, fun q q2 => rfl⟩, ?_⟩
      rw [ps]
      exact ⟨rfl, kM _ i2⟩
    | some e =>
      obtain ⟨n1, n2⟩ := e
      rw [h2] at hh ps
      dsimp only at ps
      obtain ⟨rfl, rfl⟩ := hh
      have he := tdv_in h7 (by omega) (by omega) h2
      generalize hI3 : xup I2 r 0 (n2 : Int) = I3
      have i3 : ∀ a, a ≠ r → I3 a = I a := fun a h => by rw [← hI3, xup_ne h, i2 a h]
      have i3p : I3 r 0 = (n2 : Int) := by rw [← hI3, xup_at]; unfold va_up; rw [if_pos rfl]
      have i3n : I3 r 1 = num := by rw [← hI3, xup_at]; unfold va_up; rw [if_neg (by omega)]; exact i2n
      refine V_run D [] 43 rfl trivial ?_
      refine V_ieq D 52 rfl rfl (by omega) (by omega) (fun c1 => absurd c1 (by omega)) (fun c1 => ?_)
      refine V_run D [] 49 rfl trivial ?_
      refine V_ine D 54 rfl rfl (by omega) (by omega) (fun c2 => ?_) (fun c2 => absurd c2 (by omega))
      refine V_run D [] 71 rfl ⟨hT, hT, hT, trivial⟩ ?_
      rw [i3n]
      generalize hI4 : xup I3 r 1 (num + d1) = I4
      have i4 : ∀ a, a ≠ r → I4 a = I a := fun a h => by rw [← hI4, xup_ne h, i3 a h]
      have i4p : I4 r 0 = (n2 : Int) := by rw [← hI4, xup_at]; unfold va_up; rw [if_neg (by omega)]; exact i3p
      have i4n : I4 r 1 = num + d1 := by rw [← hI4, xup_at]; unfold va_up; rw [if_pos rfl]
      have ib : I4 b 1 = (xs.length : Int) := by rw [i4 b (by omega)]; exact hB.2.2.2.1
      rw [i4n]
      have bad : pst2 xs num d1 (n1, n2) = none → ∀ lv, V Γ E (xQ Γ E (xCg z T (optPost T I N3 r s xs g lat (pstep xs p num))) 0 0) z T I4 N3 0 0 96 lv [] := fun hbad lv => by
        refine V_run D [] 97 rfl trivial ?_
        refine V_zret D rfl rfl (Or.inl rfl) ⟨rfl, rfl, ⟨fun q q1 q2 => i4 q q1, fun q q2 => rfl⟩, ?_⟩
        rw [ps, hbad]
        exact ⟨rfl, kM _ i4⟩
      refine V_igt D 96 rfl rfl (by omega) (by omega) (fun c3 => bad (by unfold pst2; rw [if_pos (by omega)]) _) (fun c3 => ?_)
      refine V_run D [] 79 rfl trivial ?_
      refine V_igt D 96 rfl rfl (by omega) (by omega) (fun c4 => bad (by unfold pst2; rw [if_pos (by omega)]) _) (fun c4 => ?_)
      refine V_run D [] 93 rfl ⟨hT, hB.1, trivial⟩ ?_
      rw [i4p, ib]
      refine V_ile D 98 rfl rfl (by omega) (by omega) (fun c5 => ?_) (fun c5 => bad (by unfold pst2; rw [if_pos (by dsimp only; omega)]) _)
      have hgood : pst2 xs num d1 (n1, n2) = some (num + d1, n2, n1.toNat) := by unfold pst2; rw [if_neg (by dsimp only; omega)]
      rw [hgood] at ps
      refine V_run D [] 103 rfl ⟨hT, trivial⟩ ?_
      rw [i4n]
      by_cases hc : g.2.2.2.2.1.length < 20
      · refine V_chV (av := [.inl (num + d1)]) (st := []) D mwX1_put rfl lkX4_X1_put (s_put (kM I4 i4) hc (by omega) (fun q hq => by have := hle q hq; constructor <;> omega)) h.1.1 rfl ⟨Nat.le_refl _, Nat.le_refl _⟩ (fun rr I5 N5 hh => ?_)
        obtain ⟨hrr, hch, hM5⟩ := hh
        have hip : ipos (num + d1) g.2.2.2.2.1 g.2.2.2.2.1.length = g.2.2.2.2.1.length := ipos_end (fun q hq => by have := hle q hq; omega)
        rw [hip, inso_end] at hM5
        rw [hip] at hrr
        subst hrr
        obtain ⟨⟨a1, a2, a3, a4, a5, a6, a7, a8⟩, ⟨b1, b2, b3⟩, c1', c2', ⟨f, f1, f2, f3, f4⟩, l1⟩ := id hM5
        obtain ⟨fo, eo⟩ := f1 g.2.2.2.2.1.length hc
        have hO := f4 g.2.2.2.2.1.length (by show _ < (g.2.2.2.2.1 ++ [(num + d1, [])]).length; simp)
        generalize hoo : N5 (s + 5) g.2.2.2.2.1.length = o at eo ⊢
        rw [← eo] at hO
        have hod : od (g.2.2.2.2.1 ++ [(num + d1, [])]) g.2.2.2.2.1.length = (num + d1, []) := od_last _ _
        have hO' : OAt T I5 N5 o (num + d1) [] := by
          have : OAt T I5 N5 o (od (g.2.2.2.2.1 ++ [(num + d1, [])]) g.2.2.2.2.1.length).1 (od (g.2.2.2.2.1 ++ [(num + d1, [])]) g.2.2.2.2.1.length).2 := hO
          rw [hod] at this; exact this
        obtain ⟨o1, o2, o3, o4⟩ := hO'
        have i5p : I5 r 0 = (n2 : Int) := by rw [(hch r (by omega)).1]; exact i4p
        have i5n : I5 r 1 = num + d1 := by rw [(hch r (by omega)).1]; exact i4n
        refine V_run D [] 110 rfl trivial ?_
        refine V_null D 128 rfl rfl (fun q1 => absurd q1 (by omega)) (fun q1 => ?_)
        refine V_run D [] 125 rfl ⟨hT, o1, trivial⟩ ?_
        rw [o2, i5p]
        have hB5 : BAt T I5 N5 b room xs := hB.kept (by rw [(hch b (by omega)).1, i4 b (by omega)]) (by rw [(hch (b + 1) (by omega)).1, i4 (b + 1) (by omega)]) ((hch b (by omega)).2)
        refine V_putB (av := [.inr (.inr b), .inl (n2 : Int), .inl n1]) (st := []) D mwX0_addPart rfl lkX4_X0_addPart (s_addPart o4 hB5 (by omega) (by omega) (by omega)) o4.1 rfl ⟨Nat.le_refl _, Nat.le_refl _⟩ (fun I6 e6 d6 => ?_)
        rw [if_pos (by simp; omega)] at d6
        have hM6 := hM5.setVal (p := g.2.2.2.2.1.length) (o := o) (v' := (xs.drop n2).take n1.toNat) (by show _ < (g.2.2.2.2.1 ++ [(num + d1, [])]).length; simp) hoo.symm e6 (by simpa using d6)
        have i6p : I6 r 0 = (n2 : Int) := by rw [e6 r (by omega) (by omega)]; exact i5p
        refine V_run D [] 140 rfl ⟨hT, hT, trivial⟩ ?_
        rw [i6p]
        refine V_zret D rfl rfl (Or.inr rfl) ⟨rfl, rfl, ⟨fun q q1 q2 => ?_, fun q q2 => (hch q (by omega)).2⟩, ?_⟩
        · rw [xup_ne q1, e6 q (by omega) (by omega), (hch q (by omega)).1, i4 q q1]
        · rw [ps]
          refine ⟨rfl, ?_, ?_, some g.2.2.2.2.1.length, ?_⟩
          · rw [xup_at]; unfold va_up; rw [if_pos rfl]; omega
          · rw [xup_at]; unfold va_up; rw [if_neg (by omega), e6 r (by omega) (by omega)]; exact i5n
          · rw [if_pos hc]
            have h9 := hM6.kept (I' := xup I6 r 0 ((n2 : Int) + n1)) (N' := N5) (fun q h1 h2 => ⟨xup_ne (by omega), rfl⟩)
            have e9 : (g.2.2.2.2.1 ++ [(num + d1, [])]).set g.2.2.2.2.1.length ((od (g.2.2.2.2.1 ++ [(num + d1, [])]) g.2.2.2.2.1.length).1, (xs.drop n2).take n1.toNat) = g.2.2.2.2.1 ++ [(num + d1, (xs.drop n2).take n1.toNat)] := by
              rw [hod, List.set_append_right _ _ (Nat.le_refl _)]; simp
            dsimp only at h9
            rw [e9] at h9
            exact h9
      · refine V_askV (av := [.inl (num + d1)]) (st := []) D mwX1_put rfl lkX4_X1_put (s_putFull (kM I4 i4) hc) h.1.1 rfl ⟨Nat.le_refl _, Nat.le_refl _⟩ ?_
        refine V_run D [] 110 rfl trivial ?_
        refine V_null D 128 rfl rfl (fun q1 => ?_) (fun q1 => absurd q1 (by omega))
        refine V_run D [] 140 rfl ⟨hT, hT, trivial⟩ ?_
        rw [i4p]
        refine V_zret D rfl rfl (Or.inr rfl) ⟨rfl, rfl, ⟨fun q q1 q2 => by rw [xup_ne q1, i4 q q1], fun q q2 => rfl⟩, ?_⟩
        rw [ps]
        refine ⟨rfl, ?_, ?_, lat, ?_⟩
        · rw [xup_at]; unfold va_up; rw [if_pos rfl]; omega
        · rw [xup_at]; unfold va_up; rw [if_neg (by omega)]; exact i4n
        · rw [if_neg hc]
          exact kM _ (fun q hq => by rw [xup_ne hq, i4 q hq])
end XRd2
end
section
section XRd3
variable {Γ : xG} {E : xE} {z : Nat} {T : xY} {I : xI} {N : xN} {r b room s : Nat} {xs : List Int} {g : Msg} {lat : Option Nat}
def payPost (T : xY) (I : xI) (N : xN) (r s : Nat) (xs : List Int) (p : Nat) (g : Msg) (lat : Option Nat) : Option xV → xI → xN → Prop := fun rr I' N' => R2 r s (s + 66) I N I' N' ∧
  rr = some (.inl (if 0 < (rdP xs p).length ∧ (rdP xs p).length ≤ 400 then 1 else 0)) ∧ MAt T I' N' s 20 (g.1, g.2.1, g.2.2.1, g.2.2.2.1, g.2.2.2.2.1, if (rdP xs p).length ≤ 400 then rdP xs p else []) lat
theorem s_parsePayload {p : Nat} (hT : T r = some (.inr 4)) (hB : BAt T I N b room xs) (hb : b + 2 ≤ s ∨ s + 66 ≤ b) (h : MAt T I N s 20 g lat) (hp : I r 0 = (p : Int)) (hpl : p < xs.length) (hpay : g.2.2.2.2.2 = []) :
    Spec mX4_parsePayload 2 [.inr (.inr r), .inr (.inr b), .inr (.inr s)] z T I N 0 0 (xCg z T (payPost T I N r s xs p g lat)) := by
  have h5 := hB.2.2.2.2.1
  have h6 := hB.2.2.2.2.2.1
  obtain ⟨⟨a1, a2, a3, a4, a5, a6, a7, a8⟩, ⟨b1, b2, b3⟩, c1, c2, ⟨f, f1, f2, f3, f4⟩, l1⟩ := id h
  rw [hpay] at c2
  have hl : (rdP xs p).length = xs.length - p - 1 := by unfold rdP; rw [if_pos hpl, List.length_drop]; omega
  refine Spec_of okX4_parsePayload (by decide) (by decide) (Nat.le_of_ble_eq_true rfl) fun Γ E D => ?_
  refine V_run D [] 24 rfl ⟨hT, a1, hT, hB.1, trivial⟩ ?_
  rw [hp, hB.2.2.2.1, a3]
  refine V_putB (av := [.inr (.inr b), .inl ((p : Int) + 1), .inl ((xs.length : Int) - p - 1)]) (st := []) D mwX0_addPart rfl lkX4_X0_addPart (s_addPart c2 hB (by omega) (by omega) (by omega)) c2.1 rfl ⟨Nat.le_refl _, Nat.le_refl _⟩ (fun I2 e2 d2 => ?_)
  have d3 : BAt T I2 N (s + 3) 400 (if (rdP xs p).length ≤ 400 then rdP xs p else []) := by
    by_cases hc : (rdP xs p).length ≤ 400
    · rw [if_pos hc]
      rw [if_pos (by simp; omega)] at d2
      have e : ([] : List Int) ++ (xs.drop ((p : Int) + 1).toNat).take ((xs.length : Int) - p - 1).toNat = rdP xs p := by
        unfold rdP
        rw [if_pos hpl, List.nil_append, show ((p : Int) + 1).toNat = p + 1 by omega, List.take_of_length_le (by rw [List.length_drop]; omega)]
      rw [e] at d2
      exact d2
    · rw [if_neg hc]
      rw [if_neg (by simp; omega)] at d2
      exact d2
  have hM := h.setPay e2 d3
  have hR : R2 r s (s + 66) I N I2 N := ⟨fun q q1 q2 => e2 q (by omega) (by omega), fun q q2 => rfl⟩
  refine V_run D [] 28 rfl trivial ?_
  refine V_le D 42 rfl rfl (by omega) (fun q1 => ?_) (fun q1 => ?_)
  · refine V_run D [] 43 rfl trivial ?_
    exact V_zret D rfl rfl (Or.inl rfl) ⟨rfl, rfl, hR, by rw [if_neg (by omega)], hM⟩
  · refine V_run D [] 35 rfl trivial ?_
    refine V_igt D 42 rfl rfl (by omega) (by omega) (fun q2 => ?_) (fun q2 => ?_)
    · refine V_run D [] 43 rfl trivial ?_
      exact V_zret D rfl rfl (Or.inl rfl) ⟨rfl, rfl, hR, by rw [if_neg (by omega)], hM⟩
    · refine V_run D [] 43 rfl trivial ?_
      exact V_zret D rfl rfl (Or.inr rfl) ⟨rfl, rfl, hR, by rw [if_pos (by omega)], hM⟩
/-- what comes of reading into s: how many options, or the fault -/
def parsePost (T : xY) (I : xI) (N : xN) (r s : Nat) (xs : List Int) : Option xV → xI → xN → Prop := fun rr I' N' => R2 r s (s + 66) I N I' N' ∧ ∃ g lat, MAt T I' N' s 20 g lat ∧
  ((rd xs).1 < 0 ∧ rr = some (.inl (rd xs).1) ∨ (rd xs).1 = 0 ∧ rr = some (.inl ((rd xs).2.2.2.2.2.1.length : Int)) ∧ lat = none ∧ g = ((rd xs).2.1, (rd xs).2.2.1, (rd xs).2.2.2.1, (rd xs).2.2.2.2.1, (rd xs).2.2.2.2.2.1.take 20, (rd xs).2.2.2.2.2.2))
theorem otake20 (acc : List Opt) (q : Opt) : (if (acc.take 20).length < 20 then acc.take 20 ++ [q] else acc.take 20) = (acc ++ [q]).take 20 := by
  by_cases h : acc.length < 20
  · rw [List.take_of_length_le (by omega), if_pos h, List.take_of_length_le (by simp; omega)]
  · rw [if_neg (by simp; omega), List.take_append_of_le_length (by omega)]
theorem l_parse {p0 : Nat} {ty co id : Int} {tok : List Int} (D : xD Γ E mX4_parse 3 0 0) (hT : T r = some (.inr 4)) (hr : r < s ∨ s + 66 ≤ r) (hb : b + 2 ≤ s ∨ s + 66 ≤ b) (hbs : T b = some (.inr 0) ∧ T (b + 1) = some (.inl (0, room)))
    (hrd : rd xs = match prun xs xs.length p0 0 [] with
      | none => (-4, 0, 0, 0, [], [], [])
      | some (p, os) => rdE xs p os)
    (hg : ty = xs.getD 0 0 / 16 % 4 ∧ co = xs.getD 1 0 ∧ id = 256 * xs.getD 2 0 + xs.getD 3 0 ∧ tok = (xs.drop 4).take (xs.getD 0 0 % 16).toNat) (hco : 0 ≤ co ∧ co < 256) :
    ∀ (k p : Nat) (num : Int) (acc : List Opt) (I1 : xI) (N1 : xN) (lat : Option Nat), k + acc.length = xs.length → acc.length + 4 ≤ p → p ≤ xs.length → prun xs xs.length p0 0 [] = prun xs k p num acc → 0 ≤ num ∧ num ≤ 65535 → (∀ q ∈ acc, 0 ≤ q.1 ∧ q.1 ≤ num) →
      R2 r s (s + 66) I N I1 N1 → BAt T I1 N1 b room xs → I1 r 0 = (p : Int) → I1 r 1 = num → MAt T I1 N1 s 20 (ty, co, id, tok, acc.take 20, []) lat →
      V Γ E (xQ Γ E (xCg z T (parsePost T I N r s xs)) 0 0) z T I1 N1 0 0 24 (xlv [some (.inr (.inr r)), some (.inr (.inr b)), some (.inr (.inr s)), some (.inl 0), some (.inl (acc.length : Int)), some (.inl (acc.length : Int))]) []
  | 0, p, num, acc, I1, N1, lat, hk, hp4, hpl, hpr, hnum, hle, hR, hB, hip, hin, hM => by omega
  | k + 1, p, num, acc, I1, N1, lat, hk, hp4, hpl, hpr, hnum, hle, hR, hB, hip, hin, hM => by
    have h5 := hB.2.2.2.2.1
    have h6 := hB.2.2.2.2.2.1
    have h7 := hB.2.2.2.2.2.2.1
    -- behind the options
    have out : ¬ (p < xs.length ∧ ¬ xs.getD p 0 = 255) → V Γ E (xQ Γ E (xCg z T (parsePost T I N r s xs)) 0 0) z T I1 N1 0 0 79 (xlv [some (.inr (.inr r)), some (.inr (.inr b)), some (.inr (.inr s)), some (.inl 0), some (.inl (acc.length : Int)), some (.inl (acc.length : Int))]) [] := fun hstop => by
      have hpe : prun xs (k + 1) p num acc = some (p, acc) := by unfold prun; rw [if_neg hstop]
      rw [hpr, hpe] at hrd
      dsimp only at hrd
      have hM' := hM.unlatest
      have n' : ∀ a, a ≠ s → xup N1 s 4 0 a = N1 a := fun a ha => xup_ne ha
      have hR' : R2 r s (s + 66) I N I1 (xup N1 s 4 0) := ⟨hR.1, fun a ha => by rw [n' a (by omega)]; exact hR.2 a ha⟩
      have hB' : BAt T I1 (xup N1 s 4 0) b room xs := hB.kept rfl rfl (n' _ (by omega))
      refine V_run D [] 92 rfl ⟨hbs.1, hT, hM.1.1, trivial⟩ ?_
      rw [hip, hB.2.2.2.1]
      -- the end, with the payload read
      have fin : ∀ (I2 : xI) (N2 : xN) (pay : List Int), R2 r s (s + 66) I N I2 N2 → BAt T I2 N2 b room xs → MAt T I2 N2 s 20 (ty, co, id, tok, acc.take 20, pay) none → ¬ (p < xs.length ∧ ((rdP xs p).length = 0 ∨ (rdP xs p).length > 400)) → pay = rdP xs p →
          V Γ E (xQ Γ E (xCg z T (parsePost T I N r s xs)) 0 0) z T I2 N2 0 0 107 (xlv [some (.inr (.inr r)), some (.inr (.inr b)), some (.inr (.inr s)), some (.inl 0), some (.inl (acc.length : Int)), some (.inl (acc.length : Int))]) [] := fun I2 N2 pay hR2 hB2 hM2 hno hpay => by
        have hrd' := hrd
        unfold rdE at hrd'
        rw [if_neg hno] at hrd'
        refine V_run D [] 111 rfl ⟨hM2.1.1, trivial⟩ ?_
        rw [hM2.2.1.2.1]
        show V _ _ _ _ _ _ _ _ _ _ _ (Sum.inl co :: _)
        have good : ¬ (co = 0 ∧ xs.length > 4) → V Γ E (xQ Γ E (xCg z T (parsePost T I N r s xs)) 0 0) z T I2 N2 0 0 127 (xlv [some (.inr (.inr r)), some (.inr (.inr b)), some (.inr (.inr s)), some (.inl 0), some (.inl (acc.length : Int)), some (.inl (acc.length : Int))]) [] := fun hne => by
          rw [if_neg (by rw [← hg.2.1]; exact hne)] at hrd'
          refine V_run D [] 129 rfl trivial ?_
          refine V_iret D rfl rfl ⟨rfl, rfl, hR2, _, _, hM2, Or.inr ?_⟩
          rw [hrd']
          exact ⟨rfl, rfl, rfl, by rw [hpay, ← hg.1, ← hg.2.1, ← hg.2.2.1, ← hg.2.2.2]⟩
        refine V_ne D 127 rfl rfl (by omega) (fun q1 => good (fun h => q1 h.1)) (fun q1 => ?_)
        refine V_run D [] 119 rfl ⟨hbs.1, trivial⟩ ?_
        rw [hB2.2.2.2.1]
        refine V_ile D 127 rfl rfl (by omega) (by omega) (fun q2 => good (fun h => by omega)) (fun q2 => ?_)
        refine V_run D [] 129 rfl trivial ?_
        rw [if_pos (by rw [← hg.2.1]; omega)] at hrd'
        refine V_iret D rfl rfl ⟨rfl, rfl, hR2, _, _, hM2, Or.inl ?_⟩
        rw [hrd']
        exact ⟨by decide, rfl⟩
      refine V_ige D 107 rfl rfl (by omega) (by omega) (fun q1 => ?_) (fun q1 => ?_)
      · exact fin I1 _ [] hR' hB' hM' (by omega) (by unfold rdP; rw [if_neg (by omega)])
      · refine V_run D [] 98 rfl trivial ?_
        refine V_chV (av := [.inr (.inr b), .inr (.inr s)]) (st := []) D mwX4_parsePayload rfl lkX4_X4_parsePayload (s_parsePayload (p := p) hT hB' hb hM' hip (by omega) rfl) hT rfl ⟨Nat.le_refl _, Nat.le_refl _⟩ (fun rr I2 N2 hh => ?_)
        obtain ⟨hR2, rfl, hM2⟩ := hh
        have hR3 := hR'.trans hR2
        have hrb : r ≠ b := fun e => by have := hbs.1; rw [← e, hT] at this; cases this
        have hrb1 : r ≠ b + 1 := fun e => by have := hbs.2; rw [← e, hT] at this; cases this
        have hB2 : BAt T I2 N2 b room xs := hB'.kept (hR2.1 _ (by omega) (by omega)) (hR2.1 _ (by omega) (by omega)) (hR2.2 _ (by omega))
        refine V_ne D 107 rfl rfl (by split <;> omega) (fun q2 => ?_) (fun q2 => ?_)
        · have hc : 0 < (rdP xs p).length ∧ (rdP xs p).length ≤ 400 := by
            by_cases h : 0 < (rdP xs p).length ∧ (rdP xs p).length ≤ 400
            · exact h
            · rw [if_neg h] at q2; exact absurd rfl q2
          rw [if_pos hc.2] at hM2
          exact fin I2 N2 (rdP xs p) hR3 hB2 hM2 (by omega) rfl
        · have hc : ¬ (0 < (rdP xs p).length ∧ (rdP xs p).length ≤ 400) := by
            intro h
            rw [if_pos h] at q2
            omega
          refine V_run D [] 106 rfl trivial ?_
          refine V_iret D rfl rfl ⟨rfl, rfl, hR3, _, _, hM2, Or.inl ?_⟩
          rw [hrd]
          unfold rdE
          rw [if_pos (by omega)]
          exact ⟨by decide, rfl⟩
    refine V_run D [] 30 rfl ⟨hbs.1, trivial⟩ ?_
    rw [hB.2.2.2.1]
    refine V_ige D 79 rfl rfl (by omega) (by omega) (fun c1 => absurd c1 (by omega)) (fun c1 => ?_)
    refine V_run D [] 41 rfl ⟨hbs.1, hT, trivial⟩ ?_
    rw [hip, hB.2.2.2.1]
    refine V_ige D 79 rfl rfl (by omega) (by omega) (fun c2 => out (by omega)) (fun c2 => ?_)
    refine V_run D [] 49 rfl ⟨hT, trivial⟩ ?_
    rw [hip]
    refine V_askV (av := [.inl (p : Int)]) (st := []) D mwX0_at rfl lkX4_X0_at (s_at hB (by omega)) hB.1 rfl ⟨Nat.le_refl _, Nat.le_refl _⟩ ?_
    rw [bat_in (by omega)]
    have hx := h7 _ (getD_mem (xs := xs) (j := p) (by omega))
    refine V_run D [] 55 rfl trivial ?_
    refine V_ieq D 79 rfl rfl (by omega) (by omega) (fun c3 => out (by omega)) (fun c3 => ?_)
    refine V_run D [] 61 rfl trivial ?_
    have hpe : prun xs (k + 1) p num acc = match pstep xs p num with
        | none => none
        | some (num', fr, n) => prun xs k (fr + n) num' (acc ++ [(num', (xs.drop fr).take n)]) := by
      conv => lhs; unfold prun
      rw [if_pos (by omega)]
      rfl
    refine V_chV (av := [.inr (.inr b), .inr (.inr s)]) (st := []) D mwX4_parseOption rfl lkX4_X4_parseOption (s_parseOption (p := p) (num := num) hT hr hB hb hM hip (by omega) hin hnum (fun q hq => hle q (List.mem_of_mem_take hq))) hT rfl ⟨Nat.le_refl _, Nat.le_refl _⟩ (fun rr I2 N2 hh => ?_)
    obtain ⟨hR2, hh⟩ := hh
    have hR3 := hR.trans hR2
    have hrb : r ≠ b := fun e => by have := hbs.1; rw [← e, hT] at this; cases this
    have hrb1 : r ≠ b + 1 := fun e => by have := hbs.2; rw [← e, hT] at this; cases this
    have hB2 : BAt T I2 N2 b room xs := hB.kept (hR2.1 _ (by omega) (by omega)) (hR2.1 _ (by omega) (by omega)) (hR2.2 _ (by omega))
    cases hps : pstep xs p num with
    | none =>
      rw [hps] at hh hpe
      obtain ⟨rfl, hM2⟩ := hh
      refine V_ne D 70 rfl rfl (by omega) (fun q1 => absurd rfl q1) (fun q1 => ?_)
      refine V_run D [] 69 rfl trivial ?_
      refine V_iret D rfl rfl ⟨rfl, rfl, hR3, _, _, hM2, Or.inl ?_⟩
      rw [hpr, hpe] at hrd
      dsimp only at hrd
      rw [hrd]
      exact ⟨by decide, rfl⟩
    | some w =>
      obtain ⟨num', fr, n⟩ := w
      rw [hps] at hh hpe
      obtain ⟨rfl, i2p, i2n, lat', hM2⟩ := hh
      have hin2 := pstep_in h7 (by omega) hps
      refine V_ne D 70 rfl rfl (by omega) (fun q1 => ?_) (fun q1 => absurd q1 (by omega))
      refine V_run D [24] 24 rfl trivial ?_
      have el : (acc.length : Int) + 1 = ((acc ++ [(num', (xs.drop fr).take n)]).length : Int) := by simp
      rw [el]
      refine V_loc [some (.inr (.inr r)), some (.inr (.inr b)), some (.inr (.inr s)), some (.inl 0), some (.inl ((acc ++ [(num', (xs.drop fr).take n)]).length : Int)), some (.inl ((acc ++ [(num', (xs.drop fr).take n)]).length : Int))] rfl ?_
      dsimp only at hM2
      rw [otake20] at hM2
      refine l_parse D hT hr hb hbs hrd hg hco k (fr + n) num' _ I2 N2 lat' (by simp; omega) (by simp; omega) (by omega) (by rw [hpr, hpe]) (by omega) ?_ hR3 hB2 i2p i2n hM2
      intro q hq
      rcases List.mem_append.mp hq with h | h
      · have := hle q h; omega
      · rw [List.mem_singleton.mp h]; dsimp only; omega
theorem s_parse (hT : T r = some (.inr 4)) (hr : r < s ∨ s + 66 ≤ r) (hB : BAt T I N b room xs) (hb : b + 2 ≤ s ∨ s + 66 ≤ b) (h : MAt T I N s 20 g lat) :
    Spec mX4_parse 3 [.inr (.inr r), .inr (.inr b), .inr (.inr s)] z T I N 0 0 (xCg z T (parsePost T I N r s xs)) := by
  have h5 := hB.2.2.2.2.1
  have h6 := hB.2.2.2.2.2.1
  have h7 := hB.2.2.2.2.2.2.1
  refine Spec_of okX4_parse (by decide) (by decide) (Nat.le_of_ble_eq_true rfl) fun Γ E D => ?_
  refine V_run D [] 3 rfl trivial ?_
  refine V_chV (av := [.inr (.inr b), .inr (.inr s)]) (st := []) D mwX4_parseHead rfl lkX4_X4_parseHead (s_parseHead hT hr hB hb h) hT rfl ⟨Nat.le_refl _, Nat.le_refl _⟩ (fun rr I2 N2 hh => ?_)
  unfold headPost at hh
  have bad : ∀ f : Int, f < 0 → xIn f → rd xs = (f, 0, 0, 0, [], [], []) → (rr = some (.inl f) ∧ I2 = I ∧ N2 = N) → V Γ E (xQ Γ E (xCg z T (parsePost T I N r s xs)) 0 0) z T I2 N2 0 0 (3 + 3) (xent [.inr (.inr r), .inr (.inr b), .inr (.inr s)] 0) (rr.toList ++ []) := fun f hf hx hrd hh => by
    obtain ⟨rfl, rfl, rfl⟩ := hh
    refine V_run D [] 8 rfl trivial ?_
    refine V_ge D 13 rfl rfl hx (fun q1 => absurd q1 (by omega)) (fun q1 => ?_)
    refine V_run D [] 12 rfl trivial ?_
    refine V_iret D rfl rfl ⟨rfl, rfl, ⟨fun _ _ _ => rfl, fun _ _ => rfl⟩, _, _, h, Or.inl ?_⟩
    rw [hrd]
    exact ⟨hf, rfl⟩
  by_cases g1 : xs.length < 4
  · rw [if_pos g1] at hh
    exact bad (-1) (by omega) (by omega) (by unfold rd; rw [if_pos g1]) hh
  · rw [if_neg g1] at hh
    by_cases g2 : ¬ xs.getD 0 0 / 64 = 1
    · rw [if_pos g2] at hh
      exact bad (-2) (by omega) (by omega) (by unfold rd; rw [if_neg g1, if_pos g2]) hh
    · rw [if_neg g2] at hh
      by_cases g3 : xs.getD 0 0 % 16 > 8 ∨ 4 + xs.getD 0 0 % 16 > xs.length
      · rw [if_pos g3] at hh
        exact bad (-3) (by omega) (by omega) (by unfold rd; rw [if_neg g1, if_neg g2, if_pos g3]) hh
      · rw [if_neg g3] at hh
        obtain ⟨rfl, hR, hip, hM⟩ := hh
        have hrb : r ≠ b := fun e => by have := hB.1; rw [← e, hT] at this; cases this
        have hrb1 : r ≠ b + 1 := fun e => by have := hB.2.1; rw [← e, hT] at this; cases this
        refine V_run D [] 8 rfl trivial ?_
        refine V_ge D 13 rfl rfl (by omega) (fun q1 => ?_) (fun q1 => absurd q1 (by omega))
        refine V_run D [24] 24 rfl ⟨hT, trivial⟩ ?_
        refine V_loc [some (.inr (.inr r)), some (.inr (.inr b)), some (.inr (.inr s)), some (.inl 0), some (.inl ((([] : List Opt).length : Nat) : Int)), some (.inl ((([] : List Opt).length : Nat) : Int))] rfl ?_
        have i3 : ∀ a, a ≠ r → xup I2 r 1 0 a = I2 a := fun a ha => xup_ne ha
        have hx1 := h7 _ (getD_mem (xs := xs) (j := 1) (by omega))
        refine l_parse (p0 := 4 + (xs.getD 0 0 % 16).toNat) D hT hr hb ⟨hB.1, hB.2.1⟩ ?_ ⟨rfl, rfl, rfl, rfl⟩ (by omega) xs.length (4 + (xs.getD 0 0 % 16).toNat) 0 [] _ N2 none (by simp) (by simp) (by omega) rfl (by omega) (fun _ h => nomatch h) ⟨fun a h1 h2 => by rw [i3 a h1]; exact hR.1 a h1 h2, hR.2⟩ ?_ ?_ ?_ ?_
        · unfold rd
          rw [if_neg g1, if_neg g2, if_neg g3]
          rfl
        · exact hB.kept (by rw [i3 _ (by omega)]; exact hR.1 _ (by omega) (by omega)) (by rw [i3 _ (by omega)]; exact hR.1 _ (by omega) (by omega)) (hR.2 _ (by omega))
        · rw [xup_at]; unfold va_up; rw [if_neg (by omega)]; exact hip
        · rw [xup_at]; unfold va_up; rw [if_pos rfl]
        · exact hM.kept (fun a h1 h2 => ⟨i3 a (by omega), rfl⟩)
end XRd3
end
section
/-! CoapDesk$Sent, CoapDesk$Peer: what was sent for the latest eight -/
def SnAt (T : xY) (I : xI) (N : xN) (q : Nat) (id : Int) (v : List Int) : Prop := T q = some (.inr 6) ∧ N q 0 = q + 1 ∧ I q 1 = id ∧ BAt T I N (q + 1) 421 v
def PAt (T : xY) (I : xI) (N : xN) (q : Nat) (ring : List Opt) (old : Nat) : Prop :=
  T q = some (.inr 3) ∧ N q 0 = q + 1 ∧ T (q + 1) = some (.inl (5, 8)) ∧ I q 1 = (old : Int) ∧ old < 8 ∧ ring.length = 8 ∧ (∀ k, k < 8 → N (q + 1) k = q + 2 + 3 * k) ∧ ∀ k, k < 8 → SnAt T I N (q + 2 + 3 * k) (od ring k).1 (od ring k).2
theorem SnAt.kept {T : xY} {I I' : xI} {N N' : xN} {o : Nat} {n : Int} {v : List Int} (h : SnAt T I N o n v) (hk : ∀ a, o ≤ a → a < o + 3 → I' a = I a ∧ N' a = N a) : SnAt T I' N' o n v := by
  obtain ⟨h1, h2, h3, h4⟩ := h
  refine ⟨h1, ?_, ?_, h4.kept (hk _ (by omega) (by omega)).1 (hk _ (by omega) (by omega)).1 (hk _ (by omega) (by omega)).2⟩
  · rw [(hk o (by omega) (by omega)).2]; exact h2
  · rw [(hk o (by omega) (by omega)).1]; exact h3
theorem PAt.kept {T : xY} {I I' : xI} {N N' : xN} {q : Nat} {ring : List Opt} {old : Nat} (h : PAt T I N q ring old) (hk : ∀ a, q ≤ a → a < q + 26 → I' a = I a ∧ N' a = N a) : PAt T I' N' q ring old := by
  obtain ⟨a1, a2, a3, a4, a5, a6, a7, a8⟩ := h
  refine ⟨a1, by rw [(hk q (by omega) (by omega)).2]; exact a2, a3, by rw [(hk q (by omega) (by omega)).1]; exact a4, a5, a6, fun k h => by rw [(hk (q + 1) (by omega) (by omega)).2]; exact a7 k h, fun k h => (a8 k h).kept (fun a h1 h2 => hk a (by omega) (by omega))⟩
theorem od_set {os : List Opt} {p : Nat} (hp : p < os.length) (v : Opt) (j : Nat) : od (os.set p v) j = if j = p then v else od os j := by
  unfold od
  rw [List.getD_eq_getElem?_getD, List.getD_eq_getElem?_getD, List.getElem?_set]
  by_cases h : p = j
  · rw [if_pos h, if_pos h.symm, if_pos (by omega)]; rfl
  · rw [if_neg h, if_neg (fun q => h q.symm)]
theorem PAt.setBytes {T : xY} {I I' : xI} {N : xN} {q : Nat} {ring : List Opt} {old : Nat} (h : PAt T I N q ring old) {k : Nat} {v' : List Int} (hk : k < 8) (hfr : ∀ a, a ≠ q + 2 + 3 * k + 1 → a ≠ q + 2 + 3 * k + 2 → I' a = I a) (hB : BAt T I' N (q + 2 + 3 * k + 1) 421 v') : PAt T I' N q (ring.set k ((od ring k).1, v')) old := by
  obtain ⟨a1, a2, a3, a4, a5, a6, a7, a8⟩ := h
  refine ⟨a1, a2, a3, by rw [hfr q (by omega) (by omega)]; exact a4, a5, by simpa using a6, a7, fun j hj => ?_⟩
  rw [od_set (by omega)]
  by_cases h : j = k
  · rw [if_pos h, h]
    obtain ⟨s1, s2, s3, s4⟩ := a8 k hk
    exact ⟨s1, s2, by rw [hfr _ (by omega) (by omega)]; exact s3, hB⟩
  · rw [if_neg h]
    exact (a8 j hj).kept (fun a h1 h2 => ⟨hfr a (by omega) (by omega), rfl⟩)
section XP
variable {Γ : xG} {E : xE} {z : Nat} {T : xY} {I : xI} {N : xN} {q old : Nat} {ring : List Opt}
def pref (q : Nat) (ring : List Opt) (id : Int) : Nat := if fi id ring < 8 then q + 2 + 3 * fi id ring else 0
theorem l_pfind {id : Int} (D : xD Γ E mX3_find 0 0 0) (h : PAt T I N q ring old) (hid : xIn id) (hr : ∀ w ∈ ring, xIn w.1) : ∀ (d i : Nat), i + d = 8 → i ≤ fi id ring →
    V Γ E (xQ Γ E (xSame z T I N (some (.inr (.inr (pref q ring id))))) 0 0) z T I N 0 0 2 (xlv [some (.inr (.inr q)), some (.inl id), some (.inl (i : Int))]) []
  | 0, i, hi, hf => by
    refine V_run D [] 5 rfl trivial ?_
    refine V_ige D 34 rfl rfl (by omega) (by omega) (fun q1 => ?_) (fun q1 => absurd q1 (by omega))
    refine V_run D [] 35 rfl trivial ?_
    exact V_aret D rfl rfl ⟨by unfold pref; rw [if_neg (by omega)], rfl, rfl, rfl, rfl⟩
  | d + 1, i, hi, hf => by
    obtain ⟨a1, a2, a3, a4, a5, a6, a7, a8⟩ := _root_.id h
    refine V_run D [] 5 rfl trivial ?_
    refine V_ige D 34 rfl rfl (by omega) (by omega) (fun q1 => absurd q1 (by omega)) (fun q1 => ?_)
    obtain ⟨s1, s2, s3, s4⟩ := a8 i (by omega)
    have e1 := a7 i (by omega)
    refine V_run D [] 18 rfl ⟨by rw [a2, Int.toNat_natCast, e1]; exact s1, ⟨5, by omega, 8, by rw [a2]; exact a3, by omega, by omega⟩, a1, trivial⟩ ?_
    rw [a2, Int.toNat_natCast, e1, s3]
    have hx := hr (od ring i) (by rw [od_get (by omega)]; exact List.getElem_mem _)
    refine V_ine D 28 rfl rfl hx hid (fun q2 => ?_) (fun q2 => ?_)
    · refine V_run D [2] 2 rfl trivial ?_
      refine V_loc [some (.inr (.inr q)), some (.inl id), some (.inl ((i + 1 : Nat) : Int))] rfl ?_
      exact l_pfind D h hid hr d (i + 1) (by omega) (fi_next hf (by omega) q2)
    · refine V_run D [] 27 rfl ⟨⟨5, by omega, 8, by rw [a2]; exact a3, by omega, by omega⟩, a1, trivial⟩ ?_
      rw [a2, Int.toNat_natCast, e1]
      have e2 := fi_hit hf (by omega) q2
      exact V_aret D rfl rfl ⟨by unfold pref; rw [e2, if_pos (by omega)], rfl, rfl, rfl, rfl⟩
theorem s_pfind {id : Int} (h : PAt T I N q ring old) (hid : xIn id) (hr : ∀ w ∈ ring, xIn w.1) : Spec mX3_find 0 [.inr (.inr q), .inl id] z T I N 0 0 (xSame z T I N (some (.inr (.inr (pref q ring id))))) := by
  refine Spec_of okX3_find (by decide) (by decide) (Nat.le_of_ble_eq_true rfl) fun Γ E D => ?_
  refine V_run D [2] 2 rfl trivial ?_
  refine V_loc [some (.inr (.inr q)), some (.inl id), some (.inl ((0 : Nat) : Int))] rfl ?_
  exact l_pfind D h hid hr 8 0 (by omega) (Nat.zero_le _)
theorem s_remember {id : Int} (h : PAt T I N q ring old) : Spec mX3_remember 1 [.inr (.inr q), .inl id] z T I N 0 0
    (xCg z T fun r I' N' => r = some (.inr (.inr (q + 2 + 3 * old))) ∧ RCh q (q + 26) I N I' N' ∧ PAt T I' N' q (ring.set old (id, [])) ((old + 1) % 8)) := by
  obtain ⟨a1, a2, a3, a4, a5, a6, a7, a8⟩ := _root_.id h
  obtain ⟨s1, s2, s3, s4⟩ := a8 old a5
  have e1 := a7 old a5
  refine Spec_of okX3_remember (by decide) (by decide) (Nat.le_of_ble_eq_true rfl) fun Γ E D => ?_
  have ar : ∃ k, 3 ≤ k ∧ xAr T (N q 0) k (I q 1) := ⟨5, by omega, 8, by rw [a2]; exact a3, by rw [a4]; omega, by rw [a4]; omega⟩
  have to : T (N (N q 0) (I q 1).toNat) = some (.inr 6) := by rw [a2, a4, Int.toNat_natCast, e1]; exact s1
  refine V_run D [] 32 rfl ⟨to, to, a1, a1, ar, a1, a1, trivial⟩ ?_
  rw [a4, a2, Int.toNat_natCast, e1, s2]
  have e7 : zAnd ((old : Int) + 1) 7 = (((old + 1) % 8 : Nat) : Int) := by rw [zAndM _ 3 7 (by omega) (by decide)]; omega
  rw [e7]
  generalize hI1 : xup (xup I q 1 (((old + 1) % 8 : Nat) : Int)) (q + 2 + 3 * old) 1 id = I1
  have i1 : ∀ a, a ≠ q → a ≠ q + 2 + 3 * old → I1 a = I a := fun a h1 h2 => by rw [← hI1, xup_ne h2, xup_ne h1]
  have s4' : BAt T I1 N (q + 2 + 3 * old + 1) 421 (od ring old).2 := s4.kept (i1 _ (by omega) (by omega)) (i1 _ (by omega) (by omega)) rfl
  refine V_putB (av := []) (st := []) D mwX0_clear rfl lkX3_X0_clear (s_clear s4') s4.1 rfl ⟨Nat.le_refl _, Nat.le_refl _⟩ (fun I2 e2 d1 => ?_)
  refine V_run D [] 36 rfl trivial ?_
  refine V_aret D rfl rfl ⟨rfl, rfl, rfl, fun a ha => ⟨by rw [e2 a (by omega) (by omega), i1 a (by omega) (by omega)], rfl⟩, a1, a2, a3, ?_, by omega, by simpa using a6, a7, fun k hk => ?_⟩
  · rw [e2 q (by omega) (by omega), ← hI1, xup_ne (by omega), xup_at]; unfold va_up; rw [if_pos rfl]
  · rw [od_set (by omega)]
    by_cases hko : k = old
    · rw [if_pos hko, hko]
      refine ⟨s1, s2, ?_, d1⟩
      rw [e2 _ (by omega) (by omega), ← hI1, xup_at]; unfold va_up; rw [if_pos rfl]
    · rw [if_neg hko]
      exact (a8 k hk).kept (fun a h1 h2 => ⟨by rw [e2 a (by omega) (by omega), i1 a (by omega) (by omega)], rfl⟩)
end XP
end
section
/-! CoapDesk$Resource, CoapDesk$Store -/
/-- path, contents, tag -/
abbrev Res : Type := List (List Int) × List Int × Int
def pe (p : List (List Int)) : List Int := p.flatMap (fun v => hib v.length 2 ++ v)
def rsd (rs : List Res) (k : Nat) : Res := rs.getD k ([], [], 0)
def RsAt (T : xY) (I : xI) (N : xN) (q : Nat) (x : Res) : Prop := T q = some (.inr 5) ∧ N q 0 = q + 1 ∧ N q 1 = q + 3 ∧ I q 2 = (x.1.length : Int) ∧ I q 3 = x.2.2 ∧ BAt T I N (q + 1) 2040 (pe x.1) ∧ BAt T I N (q + 3) 400 x.2.1
/-- a resource's cells, whatever they hold -/
def RsAny (T : xY) (I : xI) (N : xN) (q : Nat) : Prop := T q = some (.inr 5) ∧ N q 0 = q + 1 ∧ N q 1 = q + 3 ∧ (∃ v, BAt T I N (q + 1) 2040 v) ∧ ∃ w, BAt T I N (q + 3) 400 w
def StAt (T : xY) (I : xI) (N : xN) (q : Nat) (rs : List Res) (tags : Int) : Prop :=
  (T q = some (.inr 8) ∧ N q 0 = q + 1 ∧ T (q + 1) = some (.inl (4, 16)) ∧ I q 1 = (rs.length : Int) ∧ rs.length ≤ 16 ∧ I q 2 = tags) ∧
  ∃ f : Nat → Nat, (∀ j, j < 16 → f j < 16 ∧ N (q + 1) j = q + 2 + 5 * f j) ∧ (∀ i j, i < 16 → j < 16 → f i = f j → i = j) ∧ (∀ k, k < 16 → RsAny T I N (q + 2 + 5 * k)) ∧ ∀ j, j < rs.length → RsAt T I N (q + 2 + 5 * f j) (rsd rs j)
theorem RsAt.any {T : xY} {I : xI} {N : xN} {q : Nat} {x : Res} (h : RsAt T I N q x) : RsAny T I N q := ⟨h.1, h.2.1, h.2.2.1, ⟨_, h.2.2.2.2.2.1⟩, ⟨_, h.2.2.2.2.2.2⟩⟩
theorem RsAt.kept {T : xY} {I I' : xI} {N N' : xN} {o : Nat} {x : Res} (h : RsAt T I N o x) (hk : ∀ a, o ≤ a → a < o + 5 → I' a = I a ∧ N' a = N a) : RsAt T I' N' o x := by
  obtain ⟨h1, h2, h3, h4, h5, h6, h7⟩ := h
  have k0 := hk o (by omega) (by omega)
  exact ⟨h1, by rw [k0.2]; exact h2, by rw [k0.2]; exact h3, by rw [k0.1]; exact h4, by rw [k0.1]; exact h5, h6.kept (hk _ (by omega) (by omega)).1 (hk _ (by omega) (by omega)).1 (hk _ (by omega) (by omega)).2, h7.kept (hk _ (by omega) (by omega)).1 (hk _ (by omega) (by omega)).1 (hk _ (by omega) (by omega)).2⟩
theorem RsAny.kept {T : xY} {I I' : xI} {N N' : xN} {o : Nat} (h : RsAny T I N o) (hk : ∀ a, o ≤ a → a < o + 5 → I' a = I a ∧ N' a = N a) : RsAny T I' N' o := by
  obtain ⟨h1, h2, h3, ⟨v, h6⟩, w, h7⟩ := h
  have k0 := hk o (by omega) (by omega)
  exact ⟨h1, by rw [k0.2]; exact h2, by rw [k0.2]; exact h3, ⟨v, h6.kept (hk _ (by omega) (by omega)).1 (hk _ (by omega) (by omega)).1 (hk _ (by omega) (by omega)).2⟩, w, h7.kept (hk _ (by omega) (by omega)).1 (hk _ (by omega) (by omega)).1 (hk _ (by omega) (by omega)).2⟩
theorem StAt.kept {T : xY} {I I' : xI} {N N' : xN} {q : Nat} {rs : List Res} {tags : Int} (h : StAt T I N q rs tags) (hk : ∀ a, q ≤ a → a < q + 82 → I' a = I a ∧ N' a = N a) : StAt T I' N' q rs tags := by
  obtain ⟨⟨a1, a2, a3, a4, a5, a6⟩, f, f1, f2, f3, f4⟩ := h
  have k0 := hk q (by omega) (by omega)
  refine ⟨⟨a1, by rw [k0.2]; exact a2, a3, by rw [k0.1]; exact a4, a5, by rw [k0.1]; exact a6⟩, f, fun j hj => by rw [(hk (q + 1) (by omega) (by omega)).2]; exact f1 j hj, f2, fun k h => (f3 k h).kept (fun a h1 h2 => hk a (by omega) (by omega)), fun j hj => ?_⟩
  have := (f1 j (by omega)).1
  exact (f4 j hj).kept (fun a h1 h2 => hk a (by omega) (by omega))
theorem rsd_get {rs : List Res} {i : Nat} (h : i < rs.length) : rsd rs i = rs[i] := by unfold rsd; rw [List.getD_eq_getElem?_getD, List.getElem?_eq_getElem h]; rfl
/-- the place of the resource of a path; how many there are, if none is -/
def rfi (ys : List Int) (rs : List Res) : Nat := rs.findIdx (fun x => pe x.1 == ys)
theorem rfi_le (ys : List Int) (rs : List Res) : rfi ys rs ≤ rs.length := List.findIdx_le_length
theorem rfi_hit {ys : List Int} {rs : List Res} {i : Nat} (h : i ≤ rfi ys rs) (hi : i < rs.length) (he : pe (rsd rs i).1 = ys) : rfi ys rs = i := by
  have h1 : ¬ i < rfi ys rs := fun hlt => by
    have := List.not_of_lt_findIdx (p := fun x : Res => pe x.1 == ys) (xs := rs) (i := i) hlt
    rw [rsd_get hi] at he
    simp [he] at this
  omega
theorem rfi_next {ys : List Int} {rs : List Res} {i : Nat} (h : i ≤ rfi ys rs) (hi : i < rs.length) (he : ¬ pe (rsd rs i).1 = ys) : i + 1 ≤ rfi ys rs := by
  rcases Nat.lt_or_ge i (rfi ys rs) with h1 | h1
  · exact h1
  · have e : rfi ys rs = i := by omega
    have hlt : rfi ys rs < rs.length := by omega
    have h2 := List.findIdx_getElem (p := fun x : Res => pe x.1 == ys) (xs := rs) (w := hlt)
    have h3 : rs[rfi ys rs] = rsd rs i := by rw [rsd_get hi]; congr 1
    have h4 : (pe rs[rfi ys rs].1 == ys) = true := h2
    rw [h3] at h4
    exact absurd (by simpa using h4) he
section XSt
variable {Γ : xG} {E : xE} {z : Nat} {T : xY} {I : xI} {N : xN} {q b : Nat} {rs : List Res} {tags : Int} {ys : List Int}
def rref (N : xN) (q : Nat) (rs : List Res) (k : Int) : Nat := if 0 ≤ k ∧ k < rs.length then N (q + 1) k.toNat else 0
theorem s_stat {k : Int} (h : StAt T I N q rs tags) (hk : xIn k) : Spec mX8_at 0 [.inr (.inr q), .inl k] z T I N 0 0 (xSame z T I N (some (.inr (.inr (rref N q rs k))))) := by
  obtain ⟨⟨a1, a2, a3, a4, a5, a6⟩, f, f1, f2, f3, f4⟩ := h
  refine Spec_of okX8_at (by decide) (by decide) (Nat.le_of_ble_eq_true rfl) fun Γ E D => ?_
  refine V_run D [] 1 rfl trivial ?_
  refine V_lt D 21 rfl rfl hk (fun q1 => ?_) (fun q1 => ?_)
  · refine V_run D [] 22 rfl trivial ?_
    exact V_aret D rfl rfl ⟨by unfold rref; rw [if_neg (by omega)], rfl, rfl, rfl, rfl⟩
  · refine V_run D [] 9 rfl ⟨a1, trivial⟩ ?_
    rw [a4]
    refine V_ige D 21 rfl rfl hk (by omega) (fun q2 => ?_) (fun q2 => ?_)
    · refine V_run D [] 22 rfl trivial ?_
      exact V_aret D rfl rfl ⟨by unfold rref; rw [if_neg (by omega)], rfl, rfl, rfl, rfl⟩
    · refine V_run D [] 22 rfl ⟨⟨4, by omega, 16, by rw [a2]; exact a3, by omega, by omega⟩, a1, trivial⟩ ?_
      rw [a2]
      exact V_aret D rfl rfl ⟨by unfold rref; rw [if_pos (by omega)], rfl, rfl, rfl, rfl⟩
theorem l_sfind (D : xD Γ E mX8_find 2 0 0) (h : StAt T I N q rs tags) (hB : BAt T I N b 2040 ys) : ∀ (d i : Nat), i + d = rs.length → i ≤ rfi ys rs →
    V Γ E (xQ Γ E (xSame z T I N (some (.inr (.inr (rref N q rs (rfi ys rs)))))) 0 0) z T I N 0 0 2 (xlv [some (.inr (.inr q)), some (.inr (.inr b)), some (.inl (i : Int))]) []
  | 0, i, hi, hf => by
    obtain ⟨⟨a1, a2, a3, a4, a5, a6⟩, f, f1, f2, f3, f4⟩ := h
    refine V_run D [] 7 rfl ⟨a1, trivial⟩ ?_
    rw [a4]
    refine V_ige D 39 rfl rfl (by omega) (by omega) (fun q1 => ?_) (fun q1 => absurd q1 (by omega))
    refine V_run D [] 40 rfl trivial ?_
    have := rfi_le ys rs
    exact V_aret D rfl rfl ⟨by unfold rref; rw [if_neg (by omega)], rfl, rfl, rfl, rfl⟩
  | d + 1, i, hi, hf => by
    obtain ⟨⟨a1, a2, a3, a4, a5, a6⟩, f, f1, f2, f3, f4⟩ := id h
    refine V_run D [] 7 rfl ⟨a1, trivial⟩ ?_
    rw [a4]
    refine V_ige D 39 rfl rfl (by omega) (by omega) (fun q1 => absurd q1 (by omega)) (fun q1 => ?_)
    have e1 := (f1 i (by omega)).2
    obtain ⟨r1, r2, r3, r4, r5, r6, r7⟩ := f4 i (by omega)
    refine V_run D [] 20 rfl ⟨by rw [a2, Int.toNat_natCast, e1]; exact r1, ⟨4, by omega, 16, by rw [a2]; exact a3, by omega, by omega⟩, a1, trivial⟩ ?_
    rw [a2, Int.toNat_natCast, e1, r2]
    refine V_askV (av := [.inr (.inr b)]) (st := []) D mwX0_isSameAs rfl lkX8_X0_isSameAs (s_same r6 hB) r6.1 rfl ⟨Nat.le_refl _, Nat.le_refl _⟩ ?_
    refine V_eq D 33 rfl rfl (by split <;> omega) (fun q2 => ?_) (fun q2 => ?_)
    · refine V_run D [2] 2 rfl trivial ?_
      refine V_loc [some (.inr (.inr q)), some (.inr (.inr b)), some (.inl ((i + 1 : Nat) : Int))] rfl ?_
      exact l_sfind D h hB d (i + 1) (by omega) (rfi_next hf (by omega) (fun e => by rw [if_pos e] at q2; omega))
    · refine V_run D [] 32 rfl ⟨⟨4, by omega, 16, by rw [a2]; exact a3, by omega, by omega⟩, a1, trivial⟩ ?_
      rw [a2, Int.toNat_natCast]
      have hpe : pe (rsd rs i).1 = ys := by
        by_cases e : pe (rsd rs i).1 = ys
        · exact e
        · rw [if_neg e] at q2; exact absurd rfl q2
      have e2 := rfi_hit hf (by omega) hpe
      exact V_aret D rfl rfl ⟨by rw [e2]; unfold rref; rw [if_pos (by omega), Int.toNat_natCast], rfl, rfl, rfl, rfl⟩
theorem s_sfind (h : StAt T I N q rs tags) (hB : BAt T I N b 2040 ys) : Spec mX8_find 2 [.inr (.inr q), .inr (.inr b)] z T I N 0 0 (xSame z T I N (some (.inr (.inr (rref N q rs (rfi ys rs)))))) := by
  refine Spec_of okX8_find (by decide) (by decide) (Nat.le_of_ble_eq_true rfl) fun Γ E D => ?_
  refine V_run D [2] 2 rfl trivial ?_
  refine V_loc [some (.inr (.inr q)), some (.inr (.inr b)), some (.inl ((0 : Nat) : Int))] rfl ?_
  exact l_sfind D h hB _ 0 (Nat.zero_add _) (Nat.zero_le _)
end XSt
end
section
theorem rsd_set {rs : List Res} {p : Nat} (hp : p < rs.length) (v : Res) (j : Nat) : rsd (rs.set p v) j = if j = p then v else rsd rs j := by
  unfold rsd
  rw [List.getD_eq_getElem?_getD, List.getD_eq_getElem?_getD, List.getElem?_set]
  by_cases h : p = j
  · rw [if_pos h, if_pos h.symm, if_pos (by omega)]; rfl
  · rw [if_neg h, if_neg (fun q => h q.symm)]
theorem rsd_app (rs : List Res) (v : Res) (j : Nat) : rsd (rs ++ [v]) j = if j < rs.length then rsd rs j else if j = rs.length then v else ([], [], 0) := by
  unfold rsd
  rw [List.getD_eq_getElem?_getD, List.getD_eq_getElem?_getD]
  by_cases h : j < rs.length
  · rw [if_pos h, List.getElem?_append_left h]
  · rw [if_neg h, List.getElem?_append_right (by omega)]
    by_cases h2 : j = rs.length
    · rw [if_pos h2, h2]; simp
    · rw [if_neg h2, List.getElem?_eq_none (by simp; omega)]; rfl
section XSt2
variable {Γ : xG} {E : xE} {z : Nat} {T : xY} {I : xI} {N : xN} {q b : Nat} {rs : List Res} {tags : Int} {ys : List Int}
/-- one resource has changed, of those there are -/
theorem StAt.set1 {I' : xI} (h : StAt T I N q rs tags) {k o : Nat} {x : Res} {tags' : Int} (hk : k < rs.length) (ho : o = N (q + 1) k) (hfr : ∀ a, a ≠ q → (a < o ∨ o + 5 ≤ a) → I' a = I a) (hq1 : I' q 1 = I q 1) (hq2 : I' q 2 = tags') (hx : RsAt T I' N o x) : StAt T I' N q (rs.set k x) tags' := by
  obtain ⟨⟨a1, a2, a3, a4, a5, a6⟩, f, f1, f2, f3, f4⟩ := h
  obtain ⟨fk, eo⟩ := f1 k (by omega)
  rw [← ho] at eo
  have hfr' : ∀ a, a ≠ q → (a < o ∨ o + 5 ≤ a) → I' a = I a ∧ N a = N a := fun a h1 h2 => ⟨hfr a h1 h2, rfl⟩
  refine ⟨⟨a1, a2, a3, by rw [hq1, List.length_set]; exact a4, by simpa using a5, hq2⟩, f, f1, f2, fun j hj => ?_, fun j hj => ?_⟩
  · by_cases hjk : j = f k
    · rw [hjk, ← eo]; exact hx.any
    · exact (f3 j hj).kept (fun a h1 h2 => hfr' a (by omega) (by omega))
  · rw [List.length_set] at hj
    rw [rsd_set hk]
    by_cases hjk : j = k
    · rw [if_pos hjk, hjk, ← eo]; exact hx
    · rw [if_neg hjk]
      have : f j ≠ f k := fun e => hjk (f2 _ _ (by omega) (by omega) e)
      exact (f4 j hj).kept (fun a h1 h2 => hfr' a (by omega) (by omega))
theorem StAt.res (h : StAt T I N q rs tags) {k : Nat} (hk : k < rs.length) : RsAt T I N (N (q + 1) k) (rsd rs k) ∧ q + 2 ≤ N (q + 1) k ∧ N (q + 1) k + 5 ≤ q + 82 := by
  obtain ⟨⟨a1, a2, a3, a4, a5, a6⟩, f, f1, f2, f3, f4⟩ := h
  obtain ⟨fk, eo⟩ := f1 k (by omega)
  rw [eo]
  exact ⟨f4 k hk, by omega, by omega⟩
theorem StAt.setCont {I' : xI} (h : StAt T I N q rs tags) {k o : Nat} {v : List Int} (hk : k < rs.length) (ho : o = N (q + 1) k) (hfr : ∀ a, a ≠ o + 3 → a ≠ o + 4 → I' a = I a) (hB : BAt T I' N (o + 3) 400 v) : StAt T I' N q (rs.set k ((rsd rs k).1, v, (rsd rs k).2.2)) tags := by
  obtain ⟨hx, h1, h2⟩ := h.res hk
  rw [← ho] at hx h1 h2
  have hq := hfr q (by omega) (by omega)
  refine h.set1 hk ho (fun a _ ha => hfr a (by omega) (by omega)) (by rw [hq]) (by rw [hq]; exact h.1.2.2.2.2.2) ?_
  obtain ⟨r1, r2, r3, r4, r5, r6, r7⟩ := hx
  have e := hfr o (by omega) (by omega)
  exact ⟨r1, r2, r3, by rw [e]; exact r4, by rw [e]; exact r5, r6.kept (hfr _ (by omega) (by omega)) (hfr _ (by omega) (by omega)) rfl, hB⟩
theorem s_nextTag {k o : Nat} (h : StAt T I N q rs tags) (ht : 0 ≤ tags ∧ tags ≤ 65535) (hk : k < rs.length) (ho : o = N (q + 1) k) : Spec mX8_giveNextTag 0 [.inr (.inr q), .inr (.inr o)] z T I N 0 0
    (xCg z T fun r I' N' => r = none ∧ N' = N ∧ (∀ a, a ≠ q → a ≠ o → I' a = I a) ∧ StAt T I' N q (rs.set k ((rsd rs k).1, (rsd rs k).2.1, (tags + 1) % 65536)) ((tags + 1) % 65536)) := by
  obtain ⟨hx, h1, h2⟩ := h.res hk
  rw [← ho] at hx h1 h2
  obtain ⟨r1, r2, r3, r4, r5, r6, r7⟩ := hx
  have a1 := h.1.1
  have a6 := h.1.2.2.2.2.2
  refine Spec_of okX8_giveNextTag (by decide) (by decide) (Nat.le_of_ble_eq_true rfl) fun Γ E D => ?_
  refine V_run D [] 21 rfl ⟨r1, a1, a1, a1, trivial⟩ ?_
  have e1 : zAnd (I q 2 + 1) 65535 = (tags + 1) % 65536 := by rw [a6, zAndM _ 16 65535 (by omega) (by decide)]; omega
  rw [e1]
  have e2 : xup I q 2 ((tags + 1) % 65536) q 2 = (tags + 1) % 65536 := by rw [xup_at]; unfold va_up; rw [if_pos rfl]
  rw [e2]
  generalize hI : xup (xup I q 2 ((tags + 1) % 65536)) o 3 ((tags + 1) % 65536) = I'
  have fr : ∀ a, a ≠ q → a ≠ o → I' a = I a := fun a g1 g2 => by rw [← hI, xup_ne g2, xup_ne g1]
  refine V_vret D rfl rfl ⟨rfl, rfl, rfl, rfl, fr, h.set1 hk ho (fun a g1 g2 => fr a g1 (by omega)) ?_ ?_ ⟨r1, r2, r3, ?_, ?_, r6.kept (fr _ (by omega) (by omega)) (fr _ (by omega) (by omega)) rfl, r7.kept (fr _ (by omega) (by omega)) (fr _ (by omega) (by omega)) rfl⟩⟩
  · rw [← hI, xup_ne (by omega), xup_at]; rfl
  · rw [← hI, xup_ne (by omega)]; exact e2
  · rw [← hI, xup_at, xup_ne (by omega)]; exact r4
  · rw [← hI, xup_at]; rfl
theorem s_makeFull {n : Int} (h : StAt T I N q rs tags) (hl : ¬ rs.length < 16) : Spec mX8_make 3 [.inr (.inr q), .inr (.inr b), .inl n] z T I N 0 0 (xSame z T I N (some (.inr (.inr 0)))) := by
  obtain ⟨⟨a1, a2, a3, a4, a5, a6⟩, f, f1, f2, f3, f4⟩ := h
  refine Spec_of okX8_make (by decide) (by decide) (Nat.le_of_ble_eq_true rfl) fun Γ E D => ?_
  refine V_run D [] 6 rfl ⟨a1, trivial⟩ ?_
  rw [a4]
  refine V_ilt D 11 rfl rfl (by omega) (by omega) (fun q1 => absurd q1 (by omega)) (fun q1 => ?_)
  refine V_run D [] 10 rfl trivial ?_
  exact V_aret D rfl rfl ⟨rfl, rfl, rfl, rfl, rfl⟩
theorem s_make {p : List (List Int)} (h : StAt T I N q rs tags) (hl : rs.length < 16) (hB : BAt T I N b 2040 (pe p)) (hb : b + 2 ≤ q ∨ q + 82 ≤ b) : Spec mX8_make 3 [.inr (.inr q), .inr (.inr b), .inl (p.length : Int)] z T I N 0 0
    (xCg z T fun r I' N' => r = some (.inr (.inr (N (q + 1) rs.length))) ∧ N' = N ∧ RCh q (q + 82) I N I' N ∧ ∃ t, StAt T I' N q (rs ++ [(p, [], t)]) tags) := by
  obtain ⟨⟨a1, a2, a3, a4, a5, a6⟩, f, f1, f2, f3, f4⟩ := id h
  obtain ⟨fc, eo⟩ := f1 rs.length hl
  generalize ho : N (q + 1) rs.length = o at eo ⊢
  obtain ⟨r1, r2, r3, ⟨v, r6⟩, w, r7⟩ := f3 (f rs.length) fc
  rw [← eo] at r1 r2 r3 r6 r7
  have hp5 := hB.2.2.2.2.1
  refine Spec_of okX8_make (by decide) (by decide) (Nat.le_of_ble_eq_true rfl) fun Γ E D => ?_
  refine V_run D [] 6 rfl ⟨a1, trivial⟩ ?_
  rw [a4]
  refine V_ilt D 11 rfl rfl (by omega) (by omega) (fun q1 => ?_) (fun q1 => absurd q1 (by omega))
  have eo2 : N (N q 0) (I q 1).toNat = o := by rw [a2, a4, Int.toNat_natCast, ho]
  refine V_run D [] 35 rfl ⟨by rw [eo2]; exact r1, a1, a1, ⟨4, by omega, 16, by rw [a2]; exact a3, by rw [a4]; omega, by rw [a4]; omega⟩, a1, a1, trivial⟩ ?_
  rw [eo2, r2, a4]
  generalize hI1 : xup I q 1 ((rs.length : Int) + 1) = I1
  have i1 : ∀ a, a ≠ q → I1 a = I a := fun a g => by rw [← hI1, xup_ne g]
  refine V_putB (av := []) (st := []) D mwX0_clear rfl lkX8_X0_clear (s_clear (r6.kept (i1 _ (by omega)) (i1 _ (by omega)) rfl)) r6.1 rfl ⟨Nat.le_refl _, Nat.le_refl _⟩ (fun I2 e2 d2 => ?_)
  refine V_run D [] 43 rfl ⟨r1, trivial⟩ ?_
  rw [r2]
  have hB2 : BAt T I2 N b 2040 (pe p) := hB.kept (by rw [e2 _ (by omega) (by omega), i1 _ (by omega)]) (by rw [e2 _ (by omega) (by omega), i1 _ (by omega)]) rfl
  refine V_putB (av := [.inr (.inr b)]) (st := []) D mwX0_addAll rfl lkX8_X0_addAll (s_addAll d2 hB2 (by omega)) r6.1 rfl ⟨Nat.le_refl _, Nat.le_refl _⟩ (fun I3 e3 d3 => ?_)
  rw [if_pos (by simp; omega), List.nil_append] at d3
  refine V_run D [] 55 rfl ⟨r1, r1, trivial⟩ ?_
  rw [r3]
  generalize hI4 : xup I3 o 2 (p.length : Int) = I4
  have i4 : ∀ a, a ≠ o → I4 a = I3 a := fun a g => by rw [← hI4, xup_ne g]
  have r7' : BAt T I4 N (o + 3) 400 w := r7.kept (by rw [i4 _ (by omega), e3 _ (by omega) (by omega), e2 _ (by omega) (by omega), i1 _ (by omega)]) (by rw [i4 _ (by omega), e3 _ (by omega) (by omega), e2 _ (by omega) (by omega), i1 _ (by omega)]) rfl
  refine V_putB (av := []) (st := []) D mwX0_clear rfl lkX8_X0_clear (s_clear r7') r7.1 rfl ⟨Nat.le_refl _, Nat.le_refl _⟩ (fun I5 e5 d5 => ?_)
  refine V_run D [] 59 rfl trivial ?_
  have fr : ∀ a, a ≠ q → (a < o ∨ o + 5 ≤ a) → I5 a = I a := fun a g1 g2 => by rw [e5 a (by omega) (by omega), i4 a (by omega), e3 a (by omega) (by omega), e2 a (by omega) (by omega), i1 a g1]
  have iq : I5 q = I1 q := by rw [e5 q (by omega) (by omega), i4 q (by omega), e3 q (by omega) (by omega), e2 q (by omega) (by omega)]
  refine V_aret D rfl rfl ⟨rfl, rfl, rfl, rfl, fun a g => ⟨fr a (by omega) (by omega), rfl⟩, I o 3, ⟨a1, a2, a3, ?_, by simp; omega, ?_⟩, f, f1, f2, fun j hj => ?_, fun j hj => ?_⟩
  · rw [iq, ← hI1, xup_at]; unfold va_up; rw [if_pos rfl]; simp
  · rw [iq, ← hI1, xup_at]; exact a6
  · by_cases hjf : j = f rs.length
    · rw [hjf, ← eo]
      exact ⟨r1, r2, r3, ⟨_, d3.kept (by rw [e5 _ (by omega) (by omega), i4 _ (by omega)]) (by rw [e5 _ (by omega) (by omega), i4 _ (by omega)]) rfl⟩, _, d5⟩
    · exact (f3 j hj).kept (fun a h1 h2 => ⟨fr a (by omega) (by omega), rfl⟩)
  · rw [rsd_app]
    simp at hj
    by_cases hjl : j < rs.length
    · rw [if_pos hjl]
      have : f j ≠ f rs.length := fun e => by have := f2 _ _ (by omega) hl e; omega
      have := (f1 j (by omega)).1
      exact (f4 j hjl).kept (fun a h1 h2 => ⟨fr a (by omega) (by omega), rfl⟩)
    · obtain rfl : j = rs.length := by omega
      rw [if_neg hjl, if_pos rfl, ← eo]
      refine ⟨r1, r2, r3, ?_, ?_, d3.kept (by rw [e5 _ (by omega) (by omega), i4 _ (by omega)]) (by rw [e5 _ (by omega) (by omega), i4 _ (by omega)]) rfl, d5⟩
      · rw [e5 _ (by omega) (by omega), ← hI4, xup_at]; rfl
      · rw [e5 _ (by omega) (by omega), ← hI4, xup_at]
        show I3 o 3 = I o 3
        rw [e3 _ (by omega) (by omega), e2 _ (by omega) (by omega), i1 _ (by omega)]
/-- the row of resources while one goes -/
def rmv (A : Nat → Nat) (g c : Nat) : Nat → Nat := fun j => if g ≤ j ∧ j < c then A (j + 1) else A j
theorem rmv_step (A : Nat → Nat) {g k : Nat} (h : g < k) : va_up (rmv A g (k - 1)) (k - 1) (A k) = rmv A g k := by
  funext j
  unfold va_up rmv
  by_cases h1 : j = k - 1
  · rw [if_pos h1, if_pos (by omega)]; congr 1; omega
  · rw [if_neg h1]
    by_cases h2 : g ≤ j ∧ j < k - 1
    · rw [if_pos h2, if_pos (by omega)]
    · rw [if_neg h2, if_neg (by omega)]
end XSt2
end
section
theorem rmv_lo (A : Nat → Nat) {g c : Nat} (h : c ≤ g) : rmv A g c = A := by funext j; unfold rmv; rw [if_neg (by omega)]
theorem rsd_erase (rs : List Res) (g j : Nat) : rsd (rs.eraseIdx g) j = if j < g then rsd rs j else rsd rs (j + 1) := by
  unfold rsd
  rw [List.getD_eq_getElem?_getD, List.getElem?_eraseIdx]
  by_cases h : j < g
  · rw [if_pos h, if_pos h, List.getD_eq_getElem?_getD]
  · rw [if_neg h, if_neg h, List.getD_eq_getElem?_getD]
section XSt3
variable {Γ : xG} {E : xE} {z : Nat} {T : xY} {I : xI} {N : xN} {q b : Nat} {rs : List Res} {tags : Int} {ys : List Int}
theorem l_remove {g : Nat} (D : xD Γ E mX8_remove 0 0 0) (h : StAt T I N q rs tags) (hg : g < rs.length) {Q : State → Prop}
    (kk : ∀ N', N' = va_up N (q + 1) (rmv (N (q + 1)) g (rs.length - 1)) → V Γ E Q z T I N' 0 0 43 (xlv [some (.inr (.inr q)), some (.inr (.inr (N (q + 1) g))), some (.inl ((rs.length - 1 : Nat) : Int)), some (.inl ((rs.length : Nat) : Int))]) []) :
    ∀ (d k : Nat) (N' : xN), k + d = rs.length → N' = va_up N (q + 1) (rmv (N (q + 1)) g (k - 1)) →
      V Γ E Q z T I N' 0 0 4 (xlv [some (.inr (.inr q)), some (.inr (.inr (N (q + 1) g))), some (.inl ((if k ≤ g then k else k - 1 : Nat) : Int)), some (.inl (k : Int))]) []
  | 0, k, N', hk, hN' => by
    obtain ⟨⟨a1, a2, a3, a4, a5, a6⟩, f, f1, f2, f3, f4⟩ := id h
    obtain rfl : k = rs.length := by omega
    refine V_run D [] 9 rfl ⟨a1, trivial⟩ ?_
    rw [a4]
    refine V_ige D 43 rfl rfl (by omega) (by omega) (fun q1 => ?_) (fun q1 => absurd q1 (by omega))
    rw [if_neg (by omega)]
    exact kk N' hN'
  | d + 1, k, N', hk, hN' => by
    obtain ⟨⟨a1, a2, a3, a4, a5, a6⟩, f, f1, f2, f3, f4⟩ := id h
    have n1 : N' (q + 1) = rmv (N (q + 1)) g (k - 1) := by rw [hN']; unfold va_up; rw [if_pos rfl]
    have nm : ∀ a, a ≠ q + 1 → N' a = N a := fun a ha => by rw [hN']; unfold va_up; rw [if_neg ha]
    have a2' : N' q 0 = q + 1 := by rw [nm q (by omega)]; exact a2
    have nk : N' (q + 1) k = N (q + 1) k := by rw [n1]; unfold rmv; rw [if_neg (by omega)]
    obtain ⟨fk, ek⟩ := f1 k (by omega)
    obtain ⟨fg, eg⟩ := f1 g (by omega)
    refine V_run D [] 9 rfl ⟨a1, trivial⟩ ?_
    rw [a4]
    refine V_ige D 43 rfl rfl (by omega) (by omega) (fun q1 => absurd q1 (by omega)) (fun q1 => ?_)
    have ar : ∃ kd, 3 ≤ kd ∧ xAr T (N' q 0) kd (k : Int) := ⟨4, by omega, 16, by rw [a2']; exact a3, by omega, by omega⟩
    refine V_run D [] 19 rfl ⟨ar, a1, trivial⟩ ?_
    rw [a2', Int.toNat_natCast, nk]
    refine V_aeq D 37 rfl rfl (fun q2 => ?_) (fun q2 => ?_)
    · have hkg : k = g := f2 k g (by omega) (by omega) (by omega)
      refine V_run D [4] 4 rfl trivial ?_
      have e : (if k ≤ g then k else k - 1) = (if k + 1 ≤ g then k + 1 else k + 1 - 1) := by rw [if_pos (by omega), if_neg (by omega)]; omega
      rw [e]
      refine V_loc [some (.inr (.inr q)), some (.inr (.inr (N (q + 1) g))), some (.inl ((if k + 1 ≤ g then k + 1 else k + 1 - 1 : Nat) : Int)), some (.inl ((k + 1 : Nat) : Int))] rfl ?_
      refine l_remove D h hg kk d (k + 1) N' (by omega) ?_
      rw [hN', rmv_lo _ (by omega), rmv_lo _ (by omega)]
    · have hkg : k ≠ g := fun e => q2 (by rw [e])
      have hT5 : T (N (q + 1) k) = some (.inr 5) := by rw [ek]; exact (f4 k (by omega)).1
      generalize hkp : (if k ≤ g then k else k - 1) = kp
      have hkp2 : kp ≤ k := by rw [← hkp]; split <;> omega
      refine V_run D [4] 4 rfl ⟨⟨4, by omega, ⟨16, by rw [a2']; exact a3, by omega, by omega⟩, by rw [a2', Int.toNat_natCast, nk]; exact hT5⟩, ar, a1, a1, trivial⟩ ?_
      rw [a2', Int.toNat_natCast, Int.toNat_natCast, nk]
      have e : (kp : Int) + 1 = ((if k + 1 ≤ g then k + 1 else k + 1 - 1 : Nat) : Int) := by
        rw [← hkp]
        by_cases h1 : k + 1 ≤ g
        · rw [if_pos (by omega), if_pos h1]; omega
        · rw [if_neg (by omega), if_neg h1]; omega
      rw [e]
      refine V_loc [some (.inr (.inr q)), some (.inr (.inr (N (q + 1) g))), some (.inl ((if k + 1 ≤ g then k + 1 else k + 1 - 1 : Nat) : Int)), some (.inl ((k + 1 : Nat) : Int))] rfl ?_
      refine l_remove D h hg kk d (k + 1) _ (by omega) ?_
      unfold xup
      rw [n1]
      have e2 : va_up (rmv (N (q + 1)) g (k - 1)) kp (N (q + 1) k) = rmv (N (q + 1)) g (k + 1 - 1) := by
        rw [← hkp]
        by_cases h1 : k ≤ g
        · rw [if_pos h1, rmv_lo _ (by omega), rmv_lo _ (by omega)]
          funext j; unfold va_up; by_cases h2 : j = k
          · rw [if_pos h2, h2]
          · rw [if_neg h2]
        · rw [if_neg h1]; exact rmv_step _ (by omega)
      rw [e2, hN']
      funext a
      unfold va_up
      by_cases ha : a = q + 1
      · rw [if_pos ha, if_pos ha]
      · rw [if_neg ha, if_neg ha, if_neg ha]
theorem s_remove {g : Nat} (h : StAt T I N q rs tags) (hg : g < rs.length) : Spec mX8_remove 0 [.inr (.inr q), .inr (.inr (N (q + 1) g))] z T I N 0 0
    (xCg z T fun r I' N' => r = none ∧ RCh q (q + 82) I N I' N' ∧ StAt T I' N' q (rs.eraseIdx g) tags) := by
  obtain ⟨⟨a1, a2, a3, a4, a5, a6⟩, f, f1, f2, f3, f4⟩ := id h
  refine Spec_of okX8_remove (by decide) (by decide) (Nat.le_of_ble_eq_true rfl) fun Γ E D => ?_
  refine V_run D [4] 4 rfl trivial ?_
  have e0 : (0 : Int) = ((if 0 ≤ g then 0 else 0 - 1 : Nat) : Int) := by simp
  refine V_loc [some (.inr (.inr q)), some (.inr (.inr (N (q + 1) g))), some (.inl ((if 0 ≤ g then 0 else 0 - 1 : Nat) : Int)), some (.inl ((0 : Nat) : Int))] (by rw [← e0]; rfl) ?_
  refine l_remove D h hg (fun N1 hN1 => ?_) rs.length 0 N (by omega) ?_
  · obtain ⟨fg, eg⟩ := f1 g (by omega)
    have n1 : N1 (q + 1) = rmv (N (q + 1)) g (rs.length - 1) := by rw [hN1]; unfold va_up; rw [if_pos rfl]
    have nm : ∀ a, a ≠ q + 1 → N1 a = N a := fun a ha => by rw [hN1]; unfold va_up; rw [if_neg ha]
    have a2' : N1 q 0 = q + 1 := by rw [nm q (by omega)]; exact a2
    have hT5 : T (N (q + 1) g) = some (.inr 5) := by rw [eg]; exact (f4 g hg).1
    refine V_run D [] 48 rfl ⟨a1, trivial⟩ ?_
    rw [a4]
    refine V_ige D 63 rfl rfl (by omega) (by omega) (fun q1 => absurd q1 (by omega)) (fun q1 => ?_)
    refine V_run D [] 63 rfl ⟨a1, ⟨4, by omega, ⟨16, by rw [a2']; exact a3, by omega, by omega⟩, hT5⟩, a1, trivial⟩ ?_
    rw [a2', Int.toNat_natCast]
    generalize hN2 : xup N1 (q + 1) (rs.length - 1) (N (q + 1) g) = N2
    have m1 : ∀ j, N2 (q + 1) j = if j = rs.length - 1 then N (q + 1) g else rmv (N (q + 1)) g (rs.length - 1) j := fun j => by rw [← hN2, xup_at, n1]; rfl
    have mo : ∀ a, a ≠ q + 1 → N2 a = N a := fun a ha => by rw [← hN2, xup_ne ha, nm a ha]
    have io : ∀ a, a ≠ q → xup I q 1 ((rs.length - 1 : Nat) : Int) a = I a := fun a ha => xup_ne ha
    have hel : (rs.eraseIdx g).length = rs.length - 1 := by rw [List.length_eraseIdx, if_pos hg]
    refine V_vret D rfl rfl ⟨rfl, rfl, rfl, fun a ha => ⟨io a (by omega), mo a (by omega)⟩, ⟨a1, by rw [mo q (by omega)]; exact a2, a3, ?_, by omega, by rw [xup_at]; exact a6⟩, fun j => if j = rs.length - 1 then f g else if g ≤ j ∧ j < rs.length - 1 then f (j + 1) else f j, ?_, ?_, fun k hk => (f3 k hk).kept (fun a h1 h2 => ⟨io a (by omega), mo a (by omega)⟩), ?_⟩
    · rw [xup_at, hel]; rfl
    · intro j hj
      show (if j = rs.length - 1 then f g else if g ≤ j ∧ j < rs.length - 1 then f (j + 1) else f j) < 16 ∧ N2 (q + 1) j = q + 2 + 5 * (if j = rs.length - 1 then f g else if g ≤ j ∧ j < rs.length - 1 then f (j + 1) else f j)
      rw [m1 j]
      unfold rmv
      by_cases h1 : j = rs.length - 1
      · rw [if_pos h1, if_pos h1]; exact ⟨fg, eg⟩
      · rw [if_neg h1, if_neg h1]
        by_cases h2 : g ≤ j ∧ j < rs.length - 1
        · rw [if_pos h2, if_pos h2]; exact f1 (j + 1) (by omega)
        · rw [if_neg h2, if_neg h2]; exact f1 j hj
    · intro i j hi hj hij
      dsimp only at hij
      by_cases i1 : i = rs.length - 1
      · rw [if_pos i1] at hij
        by_cases j1 : j = rs.length - 1
        · omega
        · rw [if_neg j1] at hij
          by_cases j2 : g ≤ j ∧ j < rs.length - 1
          · rw [if_pos j2] at hij; have := f2 _ _ (by omega) (by omega) hij; omega
          · rw [if_neg j2] at hij; have := f2 _ _ (by omega) hj hij; omega
      · rw [if_neg i1] at hij
        by_cases i2 : g ≤ i ∧ i < rs.length - 1
        · rw [if_pos i2] at hij
          by_cases j1 : j = rs.length - 1
          · rw [if_pos j1] at hij; have := f2 _ _ (by omega) (by omega) hij; omega
          · rw [if_neg j1] at hij
            by_cases j2 : g ≤ j ∧ j < rs.length - 1
            · rw [if_pos j2] at hij; have := f2 _ _ (by omega) (by omega) hij; omega
            · rw [if_neg j2] at hij; have := f2 _ _ (by omega) hj hij; omega
        · rw [if_neg i2] at hij
          by_cases j1 : j = rs.length - 1
          · rw [if_pos j1] at hij; have := f2 _ _ hi (by omega) hij; omega
          · rw [if_neg j1] at hij
            by_cases j2 : g ≤ j ∧ j < rs.length - 1
            · rw [if_pos j2] at hij; have := f2 _ _ hi (by omega) hij; omega
            · rw [if_neg j2] at hij; exact f2 _ _ hi hj hij
    · intro j hj
      rw [hel] at hj
      rw [rsd_erase]
      dsimp only
      rw [if_neg (by omega)]
      by_cases h1 : j < g
      · rw [if_pos h1, if_neg (by omega)]
        have := (f1 j (by omega)).1
        exact (f4 j (by omega)).kept (fun a h1 h2 => ⟨io a (by omega), mo a (by omega)⟩)
      · rw [if_neg h1, if_pos (by omega)]
        have := (f1 (j + 1) (by omega)).1
        exact (f4 (j + 1) (by omega)).kept (fun a h1 h2 => ⟨io a (by omega), mo a (by omega)⟩)
  · rw [rmv_lo _ (by omega)]
    funext a
    unfold va_up
    by_cases ha : a = q + 1
    · rw [if_pos ha, ha]
    · rw [if_neg ha]
end XSt3
end
section
/-! CoapDesk$Server: what it asks of a request -/
theorem MAt.opt {T : xY} {I : xI} {N : xN} {m most : Nat} {g : Msg} {lat : Option Nat} (h : MAt T I N m most g lat) {j : Nat} (hj : j < g.2.2.2.2.1.length) : OAt T I N (N (m + 5) j) (od g.2.2.2.2.1 j).1 (od g.2.2.2.2.1 j).2 ∧ m + 6 ≤ N (m + 5) j ∧ N (m + 5) j + 3 ≤ m + 6 + 3 * most := by
  obtain ⟨⟨a1, a2, a3, a4, a5, a6, a7, a8⟩, ⟨b1, b2, b3⟩, c1, c2, ⟨f, f1, f2, f3, f4⟩, l1⟩ := h
  have h1 := f1 j (by omega)
  rw [h1.2]
  exact ⟨f4 j hj, by omega, by omega⟩
theorem zLand7 (x : Int) : zLand x 7 = x % 8 := by
  unfold zLand
  have h : (Int64.ofInt x &&& Int64.ofInt 7).toBitVec.toNat = (x % 18446744073709551616).toNat % 8 := by
    rw [Int64.toBitVec_and, BitVec.toNat_and, x64b]
    have e : (Int64.ofInt (7 : Int)).toBitVec.toNat = 2 ^ 3 - 1 := by decide
    rw [e, Nat.and_two_pow_sub_one_eq_mod]
  show (Int64.ofInt x &&& Int64.ofInt 7).toBitVec.toInt = _
  rw [BitVec.toInt_eq_toNat_of_lt (by rw [h]; omega), h]
  omega
def oBad (q : Opt) : Bool := if q.1 = 1 then decide (8 < q.2.length) else if q.1 = 23 then decide (wn q.2 = -1 ∨ 1048575 < wn q.2 ∨ wn q.2 % 8 = 7) else if q.1 = 5 ∨ q.1 = 11 ∨ q.1 = 15 then false else decide (q.1 % 2 = 1)
theorem zCmp_in (x y : Int) : xIn (zCmp x y) := by unfold zCmp; split; omega; split <;> omega
theorem zCmp_0 {x y : Int} : zCmp x y = 0 ↔ x = y := by
  unfold zCmp
  split
  · constructor <;> intro h <;> omega
  · split
    · constructor <;> intro h <;> omega
    · constructor <;> intro h <;> omega
theorem zCmp_gt {x y : Int} : 0 < zCmp x y ↔ y < x := by
  unfold zCmp
  split
  · constructor <;> intro h <;> omega
  · split
    · constructor <;> intro h <;> omega
    · constructor <;> intro h <;> omega
def b01 (b : Bool) : Int := if b then 1 else 0
theorem b01_in (b : Bool) : xIn (b01 b) := by unfold b01; split <;> omega
theorem b01_or (b : Bool) : b01 b = 0 ∨ b01 b = 1 := by unfold b01; split; exact Or.inr rfl; exact Or.inl rfl
theorem b01_0 {b : Bool} : b01 b = 0 ↔ b = false := by cases b <;> simp [b01]
section XSv1
variable {Γ : xG} {E : xE} {z : Nat} {T : xY} {I : xI} {N : xN} {o m most : Nat} {n : Int} {v : List Int} {g : Msg} {lat : Option Nat}
theorem s_isBad (h : OAt T I N o n v) (hn : xIn n) : Spec mX7_isBad 2 [.inr (.inr o)] z T I N 0 0 (xSame z T I N (some (.inl (b01 (oBad (n, v)))))) := by
  obtain ⟨h1, h2, h3, h4⟩ := h
  have hv := wn_rng h4.2.2.2.2.2.2.1
  refine Spec_of okX7_isBad (by decide) (by decide) (Nat.le_of_ble_eq_true rfl) fun Γ E D => ?_
  refine V_run D [] 4 rfl ⟨h1, trivial⟩ ?_
  rw [h3]
  by_cases c1 : n = 1
  · subst c1
    refine V_lsw D 56 rfl (by decide) hn rfl rfl ?_
    refine V_run D [] 65 rfl ⟨by rw [h2]; exact h4.1, h1, trivial⟩ ?_
    rw [h2, h4.2.2.2.1]
    have h5 := h4.2.2.2.2.1
    refine V_ile D 72 rfl rfl (by omega) (by omega) (fun q1 => ?_) (fun q1 => ?_)
    · refine V_run D [] 73 rfl trivial ?_
      exact V_zret D rfl rfl (Or.inl rfl) ⟨by unfold oBad b01; rw [if_pos rfl, if_neg (by simp; omega)], rfl, rfl, rfl, rfl⟩
    · refine V_run D [] 73 rfl trivial ?_
      exact V_zret D rfl rfl (Or.inr rfl) ⟨by unfold oBad b01; rw [if_pos rfl, if_pos (by simp; omega)], rfl, rfl, rfl, rfl⟩
  · by_cases c2 : n = 23
    · subst c2
      refine V_lsw D 74 rfl (by decide) hn rfl rfl ?_
      refine V_run D [] 78 rfl ⟨h1, trivial⟩ ?_
      rw [h2]
      refine V_askV (av := []) (st := []) D mwX0_wholeNumber rfl lkX7_X0_wholeNumber (s_whole h4) h4.1 rfl ⟨Nat.le_refl _, Nat.le_refl _⟩ ?_
      have e0 : oBad (23, v) = decide (wn v = -1 ∨ 1048575 < wn v ∨ wn v % 8 = 7) := by unfold oBad; rw [if_neg (by show ¬ (23 : Int) = 1; decide), if_pos rfl]
      rw [e0]
      refine V_run D [] 87 rfl ⟨⟨by constructor <;> omega, by decide⟩, trivial⟩ ?_
      refine V_eq D 110 rfl rfl (zCmp_in _ _) (fun q1 => ?_) (fun q1 => ?_)
      · rw [zCmp_0] at q1
        refine V_run D [] 115 rfl trivial ?_
        exact V_zret D rfl rfl (Or.inr rfl) ⟨by unfold b01; rw [if_pos (by simp; omega)], rfl, rfl, rfl, rfl⟩
      · rw [zCmp_0] at q1
        refine V_run D [] 95 rfl ⟨⟨by constructor <;> omega, by decide⟩, trivial⟩ ?_
        refine V_gt D 110 rfl rfl (zCmp_in _ _) (fun q2 => ?_) (fun q2 => ?_)
        · rw [zCmp_gt] at q2
          refine V_run D [] 115 rfl trivial ?_
          exact V_zret D rfl rfl (Or.inr rfl) ⟨by unfold b01; rw [if_pos (by simp; omega)], rfl, rfl, rfl, rfl⟩
        · rw [zCmp_gt] at q2
          refine V_run D [] 107 rfl ⟨⟨by rw [zLand7]; constructor <;> omega, by decide⟩, trivial⟩ ?_
          rw [zLand7]
          refine V_ne D 114 rfl rfl (zCmp_in _ _) (fun q3 => ?_) (fun q3 => ?_)
          · rw [zCmp_0] at q3
            refine V_run D [] 115 rfl trivial ?_
            exact V_zret D rfl rfl (Or.inl rfl) ⟨by unfold b01; rw [if_neg (by simp; omega)], rfl, rfl, rfl, rfl⟩
          · rw [zCmp_0] at q3
            refine V_run D [] 115 rfl trivial ?_
            exact V_zret D rfl rfl (Or.inr rfl) ⟨by unfold b01; rw [if_pos (by simp; omega)], rfl, rfl, rfl, rfl⟩
    · by_cases c3 : n = 5 ∨ n = 11 ∨ n = 15
      · have e0 : oBad (n, v) = false := by unfold oBad; rw [if_neg c1, if_neg c2, if_pos c3]
        rw [e0]
        rcases c3 with c3 | c3 | c3 <;> subst c3 <;> refine V_lsw D 116 rfl (by decide) hn rfl rfl ?_ <;> refine V_run D [] 117 rfl trivial ?_ <;> exact V_zret D rfl rfl (Or.inl rfl) ⟨rfl, rfl, rfl, rfl, rfl⟩
      · have e0 : oBad (n, v) = decide (n % 2 = 1) := by unfold oBad; rw [if_neg c1, if_neg c2, if_neg c3]
        rw [e0]
        refine V_lsw D 118 (off := 114) rfl (by decide) hn ?_ rfl ?_
        · simp [Op.lookupswitch.offset, show ¬ 1 = n by omega, show ¬ 5 = n by omega, show ¬ 11 = n by omega, show ¬ 15 = n by omega, show ¬ 23 = n by omega]
        refine V_run D [] 125 rfl ⟨h1, trivial⟩ ?_
        rw [h3, zAndM _ 1 1 (by omega) (by decide)]
        refine V_ine D 132 rfl rfl (by omega) (by omega) (fun q1 => ?_) (fun q1 => ?_)
        · refine V_run D [] 133 rfl trivial ?_
          exact V_zret D rfl rfl (Or.inl rfl) ⟨by unfold b01; rw [if_neg (by simp; omega)], rfl, rfl, rfl, rfl⟩
        · refine V_run D [] 133 rfl trivial ?_
          exact V_zret D rfl rfl (Or.inr rfl) ⟨by unfold b01; rw [if_pos (by simp; omega)], rfl, rfl, rfl, rfl⟩
def cnt (k : Int) (os : List Opt) : Nat := os.countP (fun q => q.1 == k)
def hBad (os : List Opt) : Bool := os.any oBad || decide (1 < cnt 5 os) || decide (1 < cnt 23 os)
theorem cnt_snoc (k : Int) (os : List Opt) (q : Opt) : (cnt k (os ++ [q]) : Int) = cnt k os + (if q.1 = k then 1 else 0) := by
  unfold cnt
  rw [List.countP_append]
  by_cases h : q.1 = k
  · simp [h]
  · simp [h]
theorem cnt_le (k : Int) (os : List Opt) : cnt k os ≤ os.length := List.countP_le_length
theorem any_take {os : List Opt} {i : Nat} (hi : i < os.length) (p : Opt → Bool) (h : p (od os i) = true) : os.any p = true := by
  rw [List.any_eq_true]
  exact ⟨od os i, by rw [od_get hi]; exact List.getElem_mem _, h⟩
theorem l_hasBad (D : xD Γ E mX7_hasBadOption 3 0 0) (h : MAt T I N m most g lat) (hr : ∀ q ∈ g.2.2.2.2.1, xIn q.1) : ∀ (d i : Nat), i + d = g.2.2.2.2.1.length → (g.2.2.2.2.1.take i).any oBad = false →
    V Γ E (xQ Γ E (xSame z T I N (some (.inl (b01 (hBad g.2.2.2.2.1))))) 0 0) z T I N 0 0 6 (xlv [some (.inr (.inr m)), some (.inl ((cnt 5 (g.2.2.2.2.1.take i) : Nat) : Int)), some (.inl ((cnt 23 (g.2.2.2.2.1.take i) : Nat) : Int)), some (.inl (i : Int))]) []
  | 0, i, hi, hb => by
    obtain ⟨⟨a1, a2, a3, a4, a5, a6, a7, a8⟩, -⟩ := h
    obtain rfl : i = g.2.2.2.2.1.length := by omega
    rw [List.take_length] at hb ⊢
    have l5 := cnt_le 5 g.2.2.2.2.1
    have l23 := cnt_le 23 g.2.2.2.2.1
    refine V_run D [] 11 rfl ⟨a1, trivial⟩ ?_
    rw [a7]
    refine V_ige D 73 rfl rfl (by omega) (by omega) (fun q1 => ?_) (fun q1 => absurd (Int.le_refl _) q1)
    refine V_run D [] 75 rfl trivial ?_
    refine V_igt D 83 rfl rfl (by omega) (by omega) (fun q2 => ?_) (fun q2 => ?_)
    · refine V_run D [] 88 rfl trivial ?_
      exact V_zret D rfl rfl (Or.inr rfl) ⟨by unfold b01 hBad; rw [if_pos (by simp; omega)], rfl, rfl, rfl, rfl⟩
    · refine V_run D [] 80 rfl trivial ?_
      refine V_ile D 87 rfl rfl (by omega) (by omega) (fun q3 => ?_) (fun q3 => ?_)
      · refine V_run D [] 88 rfl trivial ?_
        exact V_zret D rfl rfl (Or.inl rfl) ⟨by unfold b01 hBad; rw [hb, if_neg (by simp; omega)], rfl, rfl, rfl, rfl⟩
      · refine V_run D [] 88 rfl trivial ?_
        exact V_zret D rfl rfl (Or.inr rfl) ⟨by unfold b01 hBad; rw [if_pos (by simp; omega)], rfl, rfl, rfl, rfl⟩
  | d + 1, i, hi, hb => by
    obtain ⟨⟨a1, a2, a3, a4, a5, a6, a7, a8⟩, -⟩ := id h
    obtain ⟨o1, -, -⟩ := h.opt (j := i) (by omega)
    have hx := hr (od g.2.2.2.2.1 i) (by rw [od_get (by omega)]; exact List.getElem_mem _)
    refine V_run D [] 11 rfl ⟨a1, trivial⟩ ?_
    rw [a7]
    refine V_ige D 73 rfl rfl (by omega) (by omega) (fun q1 => absurd q1 (by omega)) (fun q1 => ?_)
    refine V_run D [] 24 rfl ⟨⟨3, by omega, most, by rw [a4]; exact a5, by omega, by omega⟩, a1, trivial⟩ ?_
    rw [a4, Int.toNat_natCast]
    refine V_askS (av := [.inr (.inr (N (m + 5) i))]) (st := []) D mwX7_isBad rfl lkX7_X7_isBad (s_isBad o1 hx) rfl ⟨Nat.le_refl _, Nat.le_refl _⟩ ?_
    refine V_eq D 32 rfl rfl (b01_in _) (fun q2 => ?_) (fun q2 => ?_)
    · rw [b01_0] at q2
      have e5 := cnt_snoc 5 (g.2.2.2.2.1.take i) (od g.2.2.2.2.1 i)
      have e23 := cnt_snoc 23 (g.2.2.2.2.1.take i) (od g.2.2.2.2.1 i)
      rw [← otake_snoc (by omega)] at e5 e23
      have hb' : (g.2.2.2.2.1.take (i + 1)).any oBad = false := by rw [otake_snoc (by omega), List.any_append, hb]; simpa using q2
      have next : ∀ (c5 c23 : Int), c5 = (cnt 5 (g.2.2.2.2.1.take (i + 1)) : Int) → c23 = (cnt 23 (g.2.2.2.2.1.take (i + 1)) : Int) → V Γ E (xQ Γ E (xSame z T I N (some (.inl (b01 (hBad g.2.2.2.2.1))))) 0 0) z T I N 0 0 6 (xlv [some (.inr (.inr m)), some (.inl c5), some (.inl c23), some (.inl ((i + 1 : Nat) : Int))]) [] := fun c5 c23 h5 h23 => by
        rw [h5, h23]; exact l_hasBad D h hr d (i + 1) (by omega) hb'
      refine V_run D [] 39 rfl ⟨o1.1, trivial⟩ ?_
      rw [o1.2.2.1]
      refine V_ine D 46 rfl rfl hx (by omega) (fun q3 => ?_) (fun q3 => ?_)
      · rw [if_neg q3] at e5
        refine V_run D [] 57 rfl ⟨o1.1, trivial⟩ ?_
        rw [o1.2.2.1]
        refine V_ine D 64 rfl rfl hx (by omega) (fun q4 => ?_) (fun q4 => ?_)
        · rw [if_neg q4] at e23
          refine V_run D [6] 6 rfl trivial ?_
          refine V_loc [some (.inr (.inr m)), some (.inl ((cnt 5 (g.2.2.2.2.1.take i) : Nat) + 0 : Int)), some (.inl ((cnt 23 (g.2.2.2.2.1.take i) : Nat) + 0 : Int)), some (.inl ((i + 1 : Nat) : Int))] rfl ?_
          exact next _ _ e5.symm e23.symm
        · rw [if_pos q4] at e23
          refine V_run D [6] 6 rfl trivial ?_
          refine V_loc [some (.inr (.inr m)), some (.inl ((cnt 5 (g.2.2.2.2.1.take i) : Nat) + 0 : Int)), some (.inl ((cnt 23 (g.2.2.2.2.1.take i) : Nat) + 1 : Int)), some (.inl ((i + 1 : Nat) : Int))] rfl ?_
          exact next _ _ e5.symm e23.symm
      · rw [if_pos q3] at e5
        refine V_run D [] 57 rfl ⟨o1.1, trivial⟩ ?_
        rw [o1.2.2.1]
        refine V_ine D 64 rfl rfl hx (by omega) (fun q4 => ?_) (fun q4 => ?_)
        · rw [if_neg q4] at e23
          refine V_run D [6] 6 rfl trivial ?_
          refine V_loc [some (.inr (.inr m)), some (.inl ((cnt 5 (g.2.2.2.2.1.take i) : Nat) + 1 : Int)), some (.inl ((cnt 23 (g.2.2.2.2.1.take i) : Nat) + 0 : Int)), some (.inl ((i + 1 : Nat) : Int))] rfl ?_
          exact next _ _ e5.symm e23.symm
        · rw [if_pos q4] at e23
          refine V_run D [6] 6 rfl trivial ?_
          refine V_loc [some (.inr (.inr m)), some (.inl ((cnt 5 (g.2.2.2.2.1.take i) : Nat) + 1 : Int)), some (.inl ((cnt 23 (g.2.2.2.2.1.take i) : Nat) + 1 : Int)), some (.inl ((i + 1 : Nat) : Int))] rfl ?_
          exact next _ _ e5.symm e23.symm
    · refine V_run D [] 31 rfl trivial ?_
      have hq : oBad (od g.2.2.2.2.1 i) = true := by
        cases hh : oBad (od g.2.2.2.2.1 i)
        · exact absurd (b01_0.mpr hh) q2
        · rfl
      exact V_zret D rfl rfl (Or.inr rfl) ⟨by unfold b01 hBad; rw [any_take (by omega) oBad hq]; rfl, rfl, rfl, rfl, rfl⟩
theorem s_hasBad (h : MAt T I N m most g lat) (hr : ∀ q ∈ g.2.2.2.2.1, xIn q.1) : Spec mX7_hasBadOption 3 [.inr (.inr m)] z T I N 0 0 (xSame z T I N (some (.inl (b01 (hBad g.2.2.2.2.1))))) := by
  refine Spec_of okX7_hasBadOption (by decide) (by decide) (Nat.le_of_ble_eq_true rfl) fun Γ E D => ?_
  refine V_run D [6] 6 rfl trivial ?_
  refine V_loc [some (.inr (.inr m)), some (.inl ((cnt 5 (g.2.2.2.2.1.take 0) : Nat) : Int)), some (.inl ((cnt 23 (g.2.2.2.2.1.take 0) : Nat) : Int)), some (.inl ((0 : Nat) : Int))] rfl ?_
  exact l_hasBad D h hr _ 0 (Nat.zero_add _) rfl
end XSv1
end
section
def pth (os : List Opt) : List (List Int) := (os.filter (fun q => q.1 == 11)).map (fun q => q.2)
theorem pth_snoc (os : List Opt) (q : Opt) : pth (os ++ [q]) = if q.1 = 11 then pth os ++ [q.2] else pth os := by
  unfold pth
  by_cases h : q.1 = 11
  · rw [if_pos h]; simp [h]
  · rw [if_neg h]; simp [h]
theorem pe_snoc (p : List (List Int)) (v : List Int) : pe (p ++ [v]) = pe p ++ (hib v.length 2 ++ v) := by unfold pe; simp
theorem pe_app (p p' : List (List Int)) : pe (p ++ p') = pe p ++ pe p' := by unfold pe; simp
theorem pth_app (os os' : List Opt) : pth (os ++ os') = pth os ++ pth os' := by unfold pth; simp
theorem pe_take_le (os : List Opt) (i : Nat) : (pe (pth (os.take i))).length ≤ (pe (pth os)).length := by
  have h : pe (pth os) = pe (pth (os.take i)) ++ pe (pth (os.drop i)) := by rw [← pe_app, ← pth_app, List.take_append_drop]
  rw [h, List.length_append]; omega
theorem pth_len_le (os : List Opt) : (pth os).length ≤ os.length := by unfold pth; rw [List.length_map]; exact List.length_filter_le _ _
def isT (v : List Int) (t : Int) : Bool := decide (v.length = 2 ∧ wfold v = t)
def mtc (os : List Opt) (t : Int) : Bool := os.any (fun q => q.1 == 1 && (q.2.length == 0 || isT q.2 t))
def kno (os : List Opt) (t : Int) : Bool := os.any (fun q => q.1 == 4 && isT q.2 t)
def has (n : Int) (os : List Opt) : Bool := os.any (fun q => q.1 == n)
theorem has_fi {n : Int} {os : List Opt} : has n os = true ↔ fi n os < os.length := by
  unfold has
  constructor
  · intro h
    have h1 := fi_le n os
    rcases Nat.lt_or_ge (fi n os) os.length with h2 | h2
    · exact h2
    · have h3 := fi_none (n := n) (os := os) (by omega)
      rw [List.any_eq_true] at h
      obtain ⟨q, hq, e⟩ := h
      exact absurd (by simpa using e) (h3 q hq)
  · intro h
    exact any_take h _ (by simpa using fi_at h)
def fails (os : List Opt) (x : Option Int) : Bool := match x with
  | some t => has 5 os || (has 1 os && !mtc os t)
  | none => has 1 os
theorem any_snoc (p : Opt → Bool) {os : List Opt} {i : Nat} (hi : i < os.length) (h : (os.take i).any p = false) (h' : p (od os i) = false) : (os.take (i + 1)).any p = false := by
  rw [otake_snoc hi, List.any_append, h]; simpa using h'
theorem zUsh_nat {x : Int} (hx : 0 ≤ x ∧ x < 2147483648) {k : Nat} (hk : k < 32) : zUsh x (k : Int) = x / (2 ^ k : Nat) := by
  obtain ⟨n, rfl⟩ := Int.eq_ofNat_of_zero_le hx.1
  unfold zUsh
  have e1 : Int32.ofInt (n : Int) = nI n := Int32.ofInt_eq_ofNat
  have e2 : Int32.ofInt (k : Int) = nI k := Int32.ofInt_eq_ofNat
  have hs : ∀ k : Nat, k < 32 → (((nI k).toUInt32 &&& Int32.toUInt32 31).toBitVec % 32).toNat = k := by decide +kernel
  rw [e1, e2, pk_ushrN (by omega) _ k (hs k hk), nI_toInt (Nat.lt_of_le_of_lt (Nat.div_le_self _ _) (by omega))]
  simp
def fwb (x : Int) : Nat := if x = 0 then 0 else if x < 256 then 1 else if x < 65536 then 2 else if x < 16777216 then 3 else 4
section XSv2
variable {Γ : xG} {E : xE} {z : Nat} {T : xY} {I : xI} {N : xN} {q o m most : Nat} {n : Int} {v : List Int} {g : Msg} {lat : Option Nat}
theorem l_takePath (D : xD Γ E mX7_takePath 3 0 0) (hT : T q = some (.inr 7)) (hN : N q 3 = q + 96) (hm : m + 66 ≤ q ∨ q + 98 ≤ m) (h : MAt T I N m 20 g lat) (hr : ∀ q ∈ g.2.2.2.2.1, xIn q.1) (hfit : (pe (pth g.2.2.2.2.1)).length ≤ 2040) : ∀ (d i : Nat) (I' : xI), i + d = g.2.2.2.2.1.length → (∀ a, a ≠ q → a ≠ q + 96 → a ≠ q + 97 → I' a = I a) → (∀ j, j ≠ 4 → I' q j = I q j) → I' q 4 = ((pth (g.2.2.2.2.1.take i)).length : Int) → BAt T I' N (q + 96) 2040 (pe (pth (g.2.2.2.2.1.take i))) →
    V Γ E (xQ Γ E (xCg z T fun r I' N' => r = none ∧ N' = N ∧ (∀ a, a ≠ q → a ≠ q + 96 → a ≠ q + 97 → I' a = I a) ∧ (∀ j, j ≠ 4 → I' q j = I q j) ∧ I' q 4 = ((pth g.2.2.2.2.1).length : Int) ∧ BAt T I' N (q + 96) 2040 (pe (pth g.2.2.2.2.1))) 0 0) z T I' N 0 0 14 (xlv [some (.inr (.inr q)), some (.inr (.inr m)), some (.inl (i : Int))]) []
  | 0, i, I', hi, f1, f2, f3, f4 => by
    have h' : MAt T I' N m 20 g lat := h.kept (fun a h1 h2 => ⟨f1 a (by omega) (by omega) (by omega), rfl⟩)
    obtain ⟨⟨a1, a2, a3, a4, a5, a6, a7, a8⟩, -⟩ := h'
    obtain rfl : i = g.2.2.2.2.1.length := by omega
    rw [List.take_length] at f3 f4
    refine V_run D [] 19 rfl ⟨a1, trivial⟩ ?_
    rw [a7]
    refine V_ige D 80 rfl rfl (by omega) (by omega) (fun q1 => ?_) (fun q1 => absurd (Int.le_refl _) q1)
    exact V_vret D rfl rfl ⟨rfl, rfl, rfl, rfl, f1, f2, f3, f4⟩
  | d + 1, i, I', hi, f1, f2, f3, f4 => by
    have h' : MAt T I' N m 20 g lat := h.kept (fun a h1 h2 => ⟨f1 a (by omega) (by omega) (by omega), rfl⟩)
    obtain ⟨⟨a1, a2, a3, a4, a5, a6, a7, a8⟩, -⟩ := id h'
    obtain ⟨o1, o2, o3⟩ := h'.opt (j := i) (by omega)
    have hx := hr (od g.2.2.2.2.1 i) (by rw [od_get (by omega)]; exact List.getElem_mem _)
    refine V_run D [] 19 rfl ⟨a1, trivial⟩ ?_
    rw [a7]
    refine V_ige D 80 rfl rfl (by omega) (by omega) (fun q1 => absurd q1 (by omega)) (fun q1 => ?_)
    have ep := pth_snoc (g.2.2.2.2.1.take i) (od g.2.2.2.2.1 i)
    rw [← otake_snoc (by omega)] at ep
    generalize ho : N (m + 5) i = o at o1 o2 o3
    obtain ⟨p1, p2, p3, p4⟩ := o1
    refine V_run D [] 35 rfl ⟨by rw [a4, Int.toNat_natCast, ho]; exact p1, ⟨3, by omega, 20, by rw [a4]; exact a5, by omega, by omega⟩, a1, trivial⟩ ?_
    rw [a4, Int.toNat_natCast, ho, p3]
    refine V_ine D 74 rfl rfl hx (by omega) (fun q2 => ?_) (fun q2 => ?_)
    · rw [if_neg q2] at ep
      refine V_run D [14] 14 rfl trivial ?_
      refine V_loc [some (.inr (.inr q)), some (.inr (.inr m)), some (.inl ((i + 1 : Nat) : Int))] rfl ?_
      exact l_takePath D hT hN hm h hr hfit d (i + 1) I' (by omega) f1 f2 (by rw [ep]; exact f3) (by rw [ep]; exact f4)
    · rw [if_pos q2] at ep
      have hle := pe_take_le g.2.2.2.2.1 (i + 1)
      rw [ep, pe_snoc, List.length_append, List.length_append, hib_len] at hle
      refine V_run D [] 50 rfl ⟨by rw [p2]; exact p4.1, p1, hT, trivial⟩ ?_
      rw [p2, hN, p4.2.2.2.1]
      refine V_putB (av := [.inl ((od g.2.2.2.2.1 i).2.length : Int), .inl ((2 : Nat) : Int)]) (st := []) D mwX0_addHighFirst rfl lkX7_X0_addHighFirst (s_addHigh f4 (by omega) (by omega)) f4.1 rfl ⟨Nat.le_refl _, Nat.le_refl _⟩ (fun I2 e2 d2 => ?_)
      have p4' : BAt T I2 N (o + 1) 400 (od g.2.2.2.2.1 i).2 := p4.kept (e2 _ (by omega) (by omega)) (e2 _ (by omega) (by omega)) rfl
      refine V_run D [] 61 rfl ⟨p1, hT, trivial⟩ ?_
      rw [p2, hN]
      refine V_putB (av := [.inr (.inr (o + 1))]) (st := []) D mwX0_addAll rfl lkX7_X0_addAll (s_addAll d2 p4' (by omega)) f4.1 rfl ⟨Nat.le_refl _, Nat.le_refl _⟩ (fun I3 e3 d3 => ?_)
      rw [if_pos (by rw [List.length_append, hib_len]; omega), List.append_assoc, ← pe_snoc, ← ep] at d3
      refine V_run D [14] 14 rfl ⟨hT, hT, trivial⟩ ?_
      refine V_loc [some (.inr (.inr q)), some (.inr (.inr m)), some (.inl ((i + 1 : Nat) : Int))] rfl ?_
      have e4 : I3 q = I' q := by rw [e3 _ (by omega) (by omega), e2 _ (by omega) (by omega)]
      refine l_takePath D hT hN hm h hr hfit d (i + 1) _ (by omega) (fun a g1 g2 g3 => ?_) (fun j hj => ?_) ?_ (d3.kept (xup_ne (by omega)) (xup_ne (by omega)) rfl)
      · rw [xup_ne g1, e3 _ g2 g3, e2 _ g2 g3]; exact f1 a g1 g2 g3
      · rw [xup_at, e4]; unfold va_up; rw [if_neg hj]; exact f2 j hj
      · rw [xup_at, e4]; unfold va_up; rw [if_pos rfl, f3, ep]; simp
theorem s_takePath (hT : T q = some (.inr 7)) (hN : N q 3 = q + 96) (hm : m + 66 ≤ q ∨ q + 98 ≤ m) (h : MAt T I N m 20 g lat) (hr : ∀ q ∈ g.2.2.2.2.1, xIn q.1) (hfit : (pe (pth g.2.2.2.2.1)).length ≤ 2040) (hB : BAt T I N (q + 96) 2040 v) : Spec mX7_takePath 3 [.inr (.inr q), .inr (.inr m)] z T I N 0 0
    (xCg z T fun r I' N' => r = none ∧ N' = N ∧ (∀ a, a ≠ q → a ≠ q + 96 → a ≠ q + 97 → I' a = I a) ∧ (∀ j, j ≠ 4 → I' q j = I q j) ∧ I' q 4 = ((pth g.2.2.2.2.1).length : Int) ∧ BAt T I' N (q + 96) 2040 (pe (pth g.2.2.2.2.1))) := by
  refine Spec_of okX7_takePath (by decide) (by decide) (Nat.le_of_ble_eq_true rfl) fun Γ E D => ?_
  refine V_run D [] 4 rfl ⟨hT, trivial⟩ ?_
  rw [hN]
  refine V_putB (av := []) (st := []) D mwX0_clear rfl lkX7_X0_clear (s_clear hB) hB.1 rfl ⟨Nat.le_refl _, Nat.le_refl _⟩ (fun I2 e2 d2 => ?_)
  refine V_run D [14] 14 rfl ⟨hT, trivial⟩ ?_
  refine V_loc [some (.inr (.inr q)), some (.inr (.inr m)), some (.inl ((0 : Nat) : Int))] rfl ?_
  refine l_takePath D hT hN hm h hr hfit _ 0 _ (Nat.zero_add _) (fun a g1 g2 g3 => ?_) (fun j hj => ?_) ?_ (d2.kept (xup_ne (by omega)) (xup_ne (by omega)) rfl)
  · rw [xup_ne g1, e2 _ g2 g3]
  · rw [xup_at, e2 _ (by omega) (by omega)]; unfold va_up; rw [if_neg hj]
  · rw [xup_at]; rfl
theorem l_matches {t : Int} (D : xD Γ E mX7_matches 3 0 0) (h : MAt T I N m most g lat) (ht : xIn t) (hr : ∀ q ∈ g.2.2.2.2.1, xIn q.1) : ∀ (d i : Nat), i + d = g.2.2.2.2.1.length → mtc (g.2.2.2.2.1.take i) t = false →
    V Γ E (xQ Γ E (xSame z T I N (some (.inl (b01 (mtc g.2.2.2.2.1 t))))) 0 0) z T I N 0 0 2 (xlv [some (.inr (.inr m)), some (.inl t), some (.inl (i : Int))]) []
  | 0, i, hi, hb => by
    obtain ⟨⟨a1, a2, a3, a4, a5, a6, a7, a8⟩, -⟩ := h
    obtain rfl : i = g.2.2.2.2.1.length := by omega
    rw [List.take_length] at hb
    refine V_run D [] 7 rfl ⟨a1, trivial⟩ ?_
    rw [a7]
    refine V_ige D 54 rfl rfl (by omega) (by omega) (fun q1 => ?_) (fun q1 => absurd (Int.le_refl _) q1)
    refine V_run D [] 55 rfl trivial ?_
    exact V_zret D rfl rfl (Or.inl rfl) ⟨by rw [hb]; rfl, rfl, rfl, rfl, rfl⟩
  | d + 1, i, hi, hb => by
    obtain ⟨⟨a1, a2, a3, a4, a5, a6, a7, a8⟩, -⟩ := id h
    obtain ⟨o1, -, -⟩ := h.opt (j := i) (by omega)
    have hx := hr (od g.2.2.2.2.1 i) (by rw [od_get (by omega)]; exact List.getElem_mem _)
    refine V_run D [] 7 rfl ⟨a1, trivial⟩ ?_
    rw [a7]
    refine V_ige D 54 rfl rfl (by omega) (by omega) (fun q1 => absurd q1 (by omega)) (fun q1 => ?_)
    generalize ho : N (m + 5) i = o at o1
    obtain ⟨p1, p2, p3, p4⟩ := o1
    have next : (od g.2.2.2.2.1 i).1 ≠ 1 ∨ ((od g.2.2.2.2.1 i).2.length ≠ 0 ∧ isT (od g.2.2.2.2.1 i).2 t = false) → V Γ E (xQ Γ E (xSame z T I N (some (.inl (b01 (mtc g.2.2.2.2.1 t))))) 0 0) z T I N 0 0 48 (xlv [some (.inr (.inr m)), some (.inl t), some (.inl (i : Int))]) [] := fun hc => by
      refine V_run D [2] 2 rfl trivial ?_
      refine V_loc [some (.inr (.inr m)), some (.inl t), some (.inl ((i + 1 : Nat) : Int))] rfl ?_
      refine l_matches D h ht hr d (i + 1) (by omega) (any_snoc _ (by omega) hb ?_)
      rcases hc with hc | hc
      · simp [hc]
      · simp [hc.2]; intro _ h9; exact absurd (by rw [h9]; rfl) hc.1
    have yes : (od g.2.2.2.2.1 i).1 = 1 → ((od g.2.2.2.2.1 i).2.length = 0 ∨ isT (od g.2.2.2.2.1 i).2 t = true) → b01 (mtc g.2.2.2.2.1 t) = 1 := fun h1 h2 => by
      unfold b01 mtc
      rw [any_take (i := i) (by omega)]
      · rfl
      · rcases h2 with h2 | h2
        · simp [h1, h2]
        · simp [h1, h2]
    refine V_run D [] 22 rfl ⟨by rw [a4, Int.toNat_natCast, ho]; exact p1, ⟨3, by omega, most, by rw [a4]; exact a5, by omega, by omega⟩, a1, trivial⟩ ?_
    rw [a4, Int.toNat_natCast, ho, p3]
    refine V_ine D 48 rfl rfl hx (by omega) (fun q2 => ?_) (fun q2 => ?_)
    · exact V_loc [some (.inr (.inr m)), some (.inl t), some (.inl (i : Int))] rfl (next (Or.inl q2))
    · refine V_run D [] 32 rfl ⟨by rw [p2]; exact p4.1, p1, trivial⟩ ?_
      rw [p2, p4.2.2.2.1]
      have hl := p4.2.2.2.2.1
      refine V_eq D 46 rfl rfl (by omega) (fun q3 => ?_) (fun q3 => ?_)
      · refine V_run D [] 47 rfl trivial ?_
        exact V_zret D rfl rfl (Or.inr rfl) ⟨by rw [yes q2 (Or.inl (by omega))], rfl, rfl, rfl, rfl⟩
      · refine V_run D [] 40 rfl ⟨p1, trivial⟩ ?_
        rw [p2]
        refine V_askV (av := [.inl t]) (st := []) D mwX0_isTag rfl lkX7_X0_isTag (s_isTag p4 ht) p4.1 rfl ⟨Nat.le_refl _, Nat.le_refl _⟩ ?_
        refine V_eq D 48 rfl rfl (by split <;> omega) (fun q4 => ?_) (fun q4 => ?_)
        · refine V_loc [some (.inr (.inr m)), some (.inl t), some (.inl (i : Int))] rfl (next (Or.inr ⟨by omega, ?_⟩))
          unfold isT
          by_cases h9 : (od g.2.2.2.2.1 i).2.length = 2 ∧ wfold (od g.2.2.2.2.1 i).2 = t
          · rw [if_pos h9] at q4; omega
          · simpa using h9
        · refine V_run D [] 47 rfl trivial ?_
          have h8 : isT (od g.2.2.2.2.1 i).2 t = true := by
            unfold isT
            by_cases h9 : (od g.2.2.2.2.1 i).2.length = 2 ∧ wfold (od g.2.2.2.2.1 i).2 = t
            · simpa using h9
            · rw [if_neg h9] at q4; omega
          exact V_zret D rfl rfl (Or.inr rfl) ⟨by rw [yes q2 (Or.inr h8)], rfl, rfl, rfl, rfl⟩
theorem s_matches {t : Int} (h : MAt T I N m most g lat) (ht : xIn t) (hr : ∀ q ∈ g.2.2.2.2.1, xIn q.1) : Spec mX7_matches 3 [.inr (.inr m), .inl t] z T I N 0 0 (xSame z T I N (some (.inl (b01 (mtc g.2.2.2.2.1 t))))) := by
  refine Spec_of okX7_matches (by decide) (by decide) (Nat.le_of_ble_eq_true rfl) fun Γ E D => ?_
  refine V_run D [2] 2 rfl trivial ?_
  refine V_loc [some (.inr (.inr m)), some (.inl t), some (.inl ((0 : Nat) : Int))] rfl ?_
  exact l_matches D h ht hr _ 0 (Nat.zero_add _) rfl
theorem l_knows {t : Int} (D : xD Γ E mX7_knowsTag 3 0 0) (h : MAt T I N m most g lat) (ht : xIn t) (hr : ∀ q ∈ g.2.2.2.2.1, xIn q.1) : ∀ (d i : Nat), i + d = g.2.2.2.2.1.length → kno (g.2.2.2.2.1.take i) t = false →
    V Γ E (xQ Γ E (xSame z T I N (some (.inl (b01 (kno g.2.2.2.2.1 t))))) 0 0) z T I N 0 0 2 (xlv [some (.inr (.inr m)), some (.inl t), some (.inl (i : Int))]) []
  | 0, i, hi, hb => by
    obtain ⟨⟨a1, a2, a3, a4, a5, a6, a7, a8⟩, -⟩ := h
    obtain rfl : i = g.2.2.2.2.1.length := by omega
    rw [List.take_length] at hb
    refine V_run D [] 7 rfl ⟨a1, trivial⟩ ?_
    rw [a7]
    refine V_ige D 44 rfl rfl (by omega) (by omega) (fun q1 => ?_) (fun q1 => absurd (Int.le_refl _) q1)
    refine V_run D [] 45 rfl trivial ?_
    exact V_zret D rfl rfl (Or.inl rfl) ⟨by rw [hb]; rfl, rfl, rfl, rfl, rfl⟩
  | d + 1, i, hi, hb => by
    obtain ⟨⟨a1, a2, a3, a4, a5, a6, a7, a8⟩, -⟩ := id h
    obtain ⟨o1, -, -⟩ := h.opt (j := i) (by omega)
    have hx := hr (od g.2.2.2.2.1 i) (by rw [od_get (by omega)]; exact List.getElem_mem _)
    refine V_run D [] 7 rfl ⟨a1, trivial⟩ ?_
    rw [a7]
    refine V_ige D 44 rfl rfl (by omega) (by omega) (fun q1 => absurd q1 (by omega)) (fun q1 => ?_)
    generalize ho : N (m + 5) i = o at o1
    obtain ⟨p1, p2, p3, p4⟩ := o1
    have next : (od g.2.2.2.2.1 i).1 ≠ 4 ∨ isT (od g.2.2.2.2.1 i).2 t = false → V Γ E (xQ Γ E (xSame z T I N (some (.inl (b01 (kno g.2.2.2.2.1 t))))) 0 0) z T I N 0 0 38 (xlv [some (.inr (.inr m)), some (.inl t), some (.inl (i : Int))]) [] := fun hc => by
      refine V_run D [2] 2 rfl trivial ?_
      refine V_loc [some (.inr (.inr m)), some (.inl t), some (.inl ((i + 1 : Nat) : Int))] rfl ?_
      refine l_knows D h ht hr d (i + 1) (by omega) (any_snoc _ (by omega) hb ?_)
      rcases hc with hc | hc
      · simp [hc]
      · simp [hc]
    refine V_run D [] 22 rfl ⟨by rw [a4, Int.toNat_natCast, ho]; exact p1, ⟨3, by omega, most, by rw [a4]; exact a5, by omega, by omega⟩, a1, trivial⟩ ?_
    rw [a4, Int.toNat_natCast, ho, p3]
    refine V_ine D 38 rfl rfl hx (by omega) (fun q2 => ?_) (fun q2 => ?_)
    · exact V_loc [some (.inr (.inr m)), some (.inl t), some (.inl (i : Int))] rfl (next (Or.inl q2))
    · refine V_run D [] 30 rfl ⟨p1, trivial⟩ ?_
      rw [p2]
      refine V_askV (av := [.inl t]) (st := []) D mwX0_isTag rfl lkX7_X0_isTag (s_isTag p4 ht) p4.1 rfl ⟨Nat.le_refl _, Nat.le_refl _⟩ ?_
      refine V_eq D 38 rfl rfl (by split <;> omega) (fun q4 => ?_) (fun q4 => ?_)
      · refine V_loc [some (.inr (.inr m)), some (.inl t), some (.inl (i : Int))] rfl (next (Or.inr ?_))
        unfold isT
        by_cases h9 : (od g.2.2.2.2.1 i).2.length = 2 ∧ wfold (od g.2.2.2.2.1 i).2 = t
        · rw [if_pos h9] at q4; omega
        · simpa using h9
      · refine V_run D [] 37 rfl trivial ?_
        refine V_zret D rfl rfl (Or.inr rfl) ⟨?_, rfl, rfl, rfl, rfl⟩
        have h9 : isT (od g.2.2.2.2.1 i).2 t = true := by
          unfold isT
          by_cases h9 : (od g.2.2.2.2.1 i).2.length = 2 ∧ wfold (od g.2.2.2.2.1 i).2 = t
          · simpa using h9
          · rw [if_neg h9] at q4; omega
        unfold b01 kno
        rw [any_take (i := i) (by omega)]
        · rfl
        · simp [q2, h9]
theorem s_knows {t : Int} (h : MAt T I N m most g lat) (ht : xIn t) (hr : ∀ q ∈ g.2.2.2.2.1, xIn q.1) : Spec mX7_knowsTag 3 [.inr (.inr m), .inl t] z T I N 0 0 (xSame z T I N (some (.inl (b01 (kno g.2.2.2.2.1 t))))) := by
  refine Spec_of okX7_knowsTag (by decide) (by decide) (Nat.le_of_ble_eq_true rfl) fun Γ E D => ?_
  refine V_run D [2] 2 rfl trivial ?_
  refine V_loc [some (.inr (.inr m)), some (.inl t), some (.inl ((0 : Nat) : Int))] rfl ?_
  exact l_knows D h ht hr _ 0 (Nat.zero_add _) rfl
end XSv2
end
section
theorem oref_fi {N : xN} {m : Nat} {os : List Opt} {n : Int} (h : fi n os < os.length) : oref N m os (fi n os : Nat) = N (m + 5) (fi n os) := by
  unfold oref; rw [if_pos (by omega), Int.toNat_natCast]
theorem oref_no {N : xN} {m : Nat} {os : List Opt} {n : Int} (h : ¬ fi n os < os.length) : oref N m os (fi n os : Nat) = 0 := by
  unfold oref; rw [if_neg (by omega)]
theorem set_last (os : List Opt) (q q' : Opt) : (os ++ [q]).set os.length q' = os ++ [q'] := by simp
def AnP (T : xY) (I : xI) (N : xN) (q : Nat) (r : Option xV) (a : Msg) : Option xV → xI → xN → Prop := fun rr I' N' => rr = r ∧ RCh (q + 84) (q + 96) I N I' N' ∧ ∃ lat, MAt T I' N' (q + 84) 2 a lat
def blL (x : Int) : Int := 16 * (2 ^ (x % 8).toNat : Nat)
def blT (x : Int) (l : Nat) : Int := 16 * (x / 16) + (if blL x < (l : Int) - x / 16 * blL x then 8 else 0) + x % 8
def blk (x : Int) (w : Res) : Int × List Opt × List Int :=
  if 0 < x / 16 ∧ (w.2.1.length : Int) - x / 16 * blL x ≤ 0 then (130, [], []) else
  (69, [(4, hib w.2.2 2), (23, hib (blT x w.2.1.length) (fwb (blT x w.2.1.length)))], (w.2.1.drop (x / 16 * blL x).toNat).take (if blL x < (w.2.1.length : Int) - x / 16 * blL x then blL x else (w.2.1.length : Int) - x / 16 * blL x).toNat)
def getA (os : List Opt) (w : Res) : Int × List Opt × List Int :=
  if kno os w.2.2 then (67, [(4, hib w.2.2 2)], []) else
  if fi 23 os < os.length then blk (wn (od os (fi 23 os)).2) w else
  if 64 < w.2.1.length then blk 2 w else (69, [(4, hib w.2.2 2)], w.2.1)
theorem blL_rng {x : Int} (h : x % 8 ≤ 6) : 16 ≤ blL x ∧ blL x ≤ 1024 := by
  unfold blL
  rcases (by omega : x % 8 = 0 ∨ x % 8 = 1 ∨ x % 8 = 2 ∨ x % 8 = 3 ∨ x % 8 = 4 ∨ x % 8 = 5 ∨ x % 8 = 6) with e | e | e | e | e | e | e <;> rw [e] <;> decide
theorem blL_shl {x : Int} (h : x % 8 ≤ 6) : zShl 16 (x % 8) = blL x := by
  unfold blL
  rcases (by omega : x % 8 = 0 ∨ x % 8 = 1 ∨ x % 8 = 2 ∨ x % 8 = 3 ∨ x % 8 = 4 ∨ x % 8 = 5 ∨ x % 8 = 6) with e | e | e | e | e | e | e <;> rw [e] <;> decide
theorem fwb_cases {x : Int} (h : 0 ≤ x) : (x = 0 ∧ fwb x = 0) ∨ (0 < x ∧ x < 256 ∧ fwb x = 1) ∨ (256 ≤ x ∧ x < 65536 ∧ fwb x = 2) ∨ (65536 ≤ x ∧ x < 16777216 ∧ fwb x = 3) ∨ (16777216 ≤ x ∧ fwb x = 4) := by
  unfold fwb
  split
  · omega
  · split
    · omega
    · split
      · omega
      · split <;> omega
section XSv3
variable {Γ : xG} {E : xE} {z : Nat} {T : xY} {I : xI} {N : xN} {q o m most : Nat} {n : Int} {v : List Int} {g : Msg} {lat : Option Nat} {x : Res}
theorem s_failsSome {t : Int} (h : MAt T I N m most g lat) (hr : ∀ q ∈ g.2.2.2.2.1, xIn q.1) (ho : 0 < o) (hx : T o = some (.inr 5)) (ht : I o 3 = t) (hti : xIn t) : Spec mX7_failsCondition 4 [.inr (.inr m), .inr (.inr o)] z T I N 0 0 (xSame z T I N (some (.inl (b01 (fails g.2.2.2.2.1 (some t)))))) := by
  have hT := h.1.1
  refine Spec_of okX7_failsCondition (by decide) (by decide) (Nat.le_of_ble_eq_true rfl) fun Γ E D => ?_
  have main : has 5 g.2.2.2.2.1 = false → V Γ E (xQ Γ E (xSame z T I N (some (.inl (b01 (fails g.2.2.2.2.1 (some t)))))) 0 0) z T I N 0 0 14 (xlv [some (.inr (.inr m)), some (.inr (.inr o))]) [] := fun h5 => by
    refine V_run D [] 16 rfl trivial ?_
    refine V_askV (av := [.inl 1]) (st := []) D mwX1_first rfl lkX7_X1_first (s_first h (by omega) hr) hT rfl ⟨Nat.le_refl _, Nat.le_refl _⟩ ?_
    by_cases c : fi 1 g.2.2.2.2.1 < g.2.2.2.2.1.length
    · have h1 : has 1 g.2.2.2.2.1 = true := has_fi.mpr c
      have := h.opt c
      rw [oref_fi c]
      refine V_nonnull D 24 rfl rfl (fun q1 => ?_) (fun q1 => absurd q1 (by omega))
      refine V_run D [] 25 rfl trivial ?_
      refine V_null D 39 rfl rfl (fun q2 => absurd q2 (by omega)) (fun q2 => ?_)
      refine V_run D [] 33 rfl ⟨hx, trivial⟩ ?_
      rw [ht]
      refine V_askS (av := [.inr (.inr m), .inl t]) (st := []) D mwX7_matches rfl lkX7_X7_matches (s_matches h hti hr) rfl ⟨Nat.le_refl _, Nat.le_refl _⟩ ?_
      refine V_ne D 43 rfl rfl (b01_in _) (fun q3 => ?_) (fun q3 => ?_)
      · have h4 : mtc g.2.2.2.2.1 t = true := by cases hh : mtc g.2.2.2.2.1 t; exact absurd (b01_0.mpr hh) q3; rfl
        refine V_run D [] 44 rfl trivial ?_
        exact V_zret D rfl rfl (Or.inl rfl) ⟨by simp [fails, h5, h1, h4, b01], rfl, rfl, rfl, rfl⟩
      · rw [b01_0] at q3
        refine V_run D [] 44 rfl trivial ?_
        exact V_zret D rfl rfl (Or.inr rfl) ⟨by simp [fails, h1, q3, b01], rfl, rfl, rfl, rfl⟩
    · have h1 : has 1 g.2.2.2.2.1 = false := by cases hh : has 1 g.2.2.2.2.1; rfl; exact absurd (has_fi.mp hh) c
      rw [oref_no c]
      refine V_nonnull D 24 rfl rfl (fun q1 => absurd q1 (by omega)) (fun q1 => ?_)
      refine V_run D [] 23 rfl trivial ?_
      exact V_zret D rfl rfl (Or.inl rfl) ⟨by simp [fails, h5, h1, b01], rfl, rfl, rfl, rfl⟩
  refine V_run D [] 1 rfl trivial ?_
  refine V_null D 14 rfl rfl (fun q2 => absurd q2 (by omega)) (fun q2 => ?_)
  refine V_run D [] 6 rfl trivial ?_
  refine V_askV (av := [.inl 5]) (st := []) D mwX1_first rfl lkX7_X1_first (s_first h (by omega) hr) hT rfl ⟨Nat.le_refl _, Nat.le_refl _⟩ ?_
  by_cases c : fi 5 g.2.2.2.2.1 < g.2.2.2.2.1.length
  · have h1 : has 5 g.2.2.2.2.1 = true := has_fi.mpr c
    have := h.opt c
    rw [oref_fi c]
    refine V_null D 14 rfl rfl (fun q1 => absurd q1 (by omega)) (fun q1 => ?_)
    refine V_run D [] 13 rfl trivial ?_
    exact V_zret D rfl rfl (Or.inr rfl) ⟨by simp [fails, h1, b01], rfl, rfl, rfl, rfl⟩
  · have h1 : has 5 g.2.2.2.2.1 = false := by cases hh : has 5 g.2.2.2.2.1; rfl; exact absurd (has_fi.mp hh) c
    rw [oref_no c]
    refine V_null D 14 rfl rfl (fun q1 => ?_) (fun q1 => absurd q1 (by omega))
    exact V_loc [some (.inr (.inr m)), some (.inr (.inr o))] rfl (main h1)
theorem s_failsNone (h : MAt T I N m most g lat) (hr : ∀ q ∈ g.2.2.2.2.1, xIn q.1) : Spec mX7_failsCondition 4 [.inr (.inr m), .inr (.inr 0)] z T I N 0 0 (xSame z T I N (some (.inl (b01 (fails g.2.2.2.2.1 none))))) := by
  have hT := h.1.1
  refine Spec_of okX7_failsCondition (by decide) (by decide) (Nat.le_of_ble_eq_true rfl) fun Γ E D => ?_
  refine V_run D [] 1 rfl trivial ?_
  refine V_null D 14 rfl rfl (fun q2 => ?_) (fun q2 => absurd q2 (by omega))
  refine V_run D [] 16 rfl trivial ?_
  refine V_askV (av := [.inl 1]) (st := []) D mwX1_first rfl lkX7_X1_first (s_first h (by omega) hr) hT rfl ⟨Nat.le_refl _, Nat.le_refl _⟩ ?_
  by_cases c : fi 1 g.2.2.2.2.1 < g.2.2.2.2.1.length
  · have h1 : has 1 g.2.2.2.2.1 = true := has_fi.mpr c
    have := h.opt c
    rw [oref_fi c]
    refine V_nonnull D 24 rfl rfl (fun q1 => ?_) (fun q1 => absurd q1 (by omega))
    refine V_run D [] 25 rfl trivial ?_
    refine V_null D 39 rfl rfl (fun q2 => ?_) (fun q2 => absurd q2 (by omega))
    refine V_run D [] 44 rfl trivial ?_
    exact V_zret D rfl rfl (Or.inr rfl) ⟨by simp [fails, h1, b01], rfl, rfl, rfl, rfl⟩
  · have h1 : has 1 g.2.2.2.2.1 = false := by cases hh : has 1 g.2.2.2.2.1; rfl; exact absurd (has_fi.mp hh) c
    rw [oref_no c]
    refine V_nonnull D 24 rfl rfl (fun q1 => absurd q1 (by omega)) (fun q1 => ?_)
    refine V_run D [] 23 rfl trivial ?_
    exact V_zret D rfl rfl (Or.inl rfl) ⟨by simp [fails, h1, b01], rfl, rfl, rfl, rfl⟩
theorem l_few {x : Int} (D : xD Γ E mX7_fewestBytes 0 0 0) (hx : 0 ≤ x ∧ x < 2147483648) : ∀ (d i : Nat), i + d = 4 → i ≤ fwb x →
    V Γ E (xQ Γ E (xSame z T I N (some (.inl (fwb x : Int)))) 0 0) z T I N 0 0 2 (xlv [some (.inl x), some (.inl (i : Int))]) []
  | 0, i, hi, hf => by
    have h4 := fwb_cases hx.1
    refine V_run D [] 4 rfl trivial ?_
    refine V_ige D 22 rfl rfl (by omega) (by omega) (fun q1 => ?_) (fun q1 => absurd q1 (by omega))
    refine V_run D [] 23 rfl trivial ?_
    exact V_iret D rfl rfl ⟨by rw [show i = fwb x by omega], rfl, rfl, rfl, rfl⟩
  | d + 1, i, hi, hf => by
    refine V_run D [] 4 rfl trivial ?_
    refine V_ige D 22 rfl rfl (by omega) (by omega) (fun q1 => absurd q1 (by omega)) (fun q1 => ?_)
    refine V_run D [] 13 rfl trivial ?_
    have e : (8 : Int) * (i : Int) = ((8 * i : Nat) : Int) := by omega
    rw [e, zUsh_nat hx (by omega)]
    have hb : 0 ≤ x / ((2 ^ (8 * i) : Nat) : Int) ∧ x / ((2 ^ (8 * i) : Nat) : Int) ≤ x := by
      rcases (by omega : i = 0 ∨ i = 1 ∨ i = 2 ∨ i = 3) with h | h | h | h <;> subst h <;> simp only [Nat.reduceMul, Nat.reducePow] <;> omega
    have hc : x / ((2 ^ (8 * i) : Nat) : Int) = 0 ↔ fwb x = i := by
      have h9 := fwb_cases hx.1
      rcases (by omega : i = 0 ∨ i = 1 ∨ i = 2 ∨ i = 3) with h | h | h | h <;> subst h <;> simp only [Nat.reduceMul, Nat.reducePow] <;> omega
    refine V_eq D 22 rfl rfl (by constructor <;> omega) (fun q2 => ?_) (fun q2 => ?_)
    · refine V_run D [] 23 rfl trivial ?_
      exact V_iret D rfl rfl ⟨by rw [hc.mp q2], rfl, rfl, rfl, rfl⟩
    · refine V_run D [2] 2 rfl trivial ?_
      refine V_loc [some (.inl x), some (.inl ((i + 1 : Nat) : Int))] rfl ?_
      exact l_few D hx d (i + 1) (by omega) (by have : ¬ fwb x = i := fun h => q2 (hc.mpr h); omega)
theorem s_fewest {x : Int} (hx : 0 ≤ x ∧ x < 2147483648) : Spec mX7_fewestBytes 0 [.inl x] z T I N 0 0 (xSame z T I N (some (.inl (fwb x : Int)))) := by
  refine Spec_of okX7_fewestBytes (by decide) (by decide) (Nat.le_of_ble_eq_true rfl) fun Γ E D => ?_
  refine V_run D [2] 2 rfl trivial ?_
  refine V_loc [some (.inl x), some (.inl ((0 : Nat) : Int))] rfl ?_
  exact l_few D hx 4 0 (by omega) (Nat.zero_le _)
theorem s_addNumber {k y : Int} {c : Nat} (hT : T q = some (.inr 7)) (hN : N q 2 = q + 84) (h : MAt T I N (q + 84) 2 g lat) (hl : g.2.2.2.2.1.length < 2) (hk : 0 ≤ k ∧ k ≤ 65535) (hle : ∀ w ∈ g.2.2.2.2.1, 0 ≤ w.1 ∧ w.1 ≤ k) (hc : c ≤ 4) :
    Spec mX7_addNumber 2 [.inr (.inr q), .inl k, .inl y, .inl (c : Int)] z T I N 0 0 (xCg z T (AnP T I N q none (g.1, g.2.1, g.2.2.1, g.2.2.2.1, g.2.2.2.2.1 ++ [(k, hib y c)], g.2.2.2.2.2))) := by
  have hm := h.1.1
  refine Spec_of okX7_addNumber (by decide) (by decide) (Nat.le_of_ble_eq_true rfl) fun Γ E D => ?_
  refine V_run D [] 5 rfl ⟨hT, trivial⟩ ?_
  rw [hN]
  refine V_chV (av := [.inl k]) (st := []) D mwX1_put rfl lkX7_X1_put (s_put h hl (by omega) (fun w hw => by have := hle w hw; omega)) hm rfl ⟨Nat.le_refl _, Nat.le_refl _⟩ (fun r I1 N1 P1 => ?_)
  obtain ⟨rfl, c1, m1⟩ := P1
  have ep : ipos k g.2.2.2.2.1 g.2.2.2.2.1.length = g.2.2.2.2.1.length := ipos_end (fun w hw => (hle w hw).2)
  rw [ep, inso_end] at m1
  rw [ep]
  have hlen : g.2.2.2.2.1.length < (g.2.2.2.2.1 ++ [(k, ([] : List Int))]).length := by simp
  obtain ⟨o1, o2, o3⟩ := m1.opt (j := g.2.2.2.2.1.length) hlen
  generalize ho : N1 (q + 84 + 5) g.2.2.2.2.1.length = o at o1 o2 o3
  obtain ⟨p1, p2, p3, p4⟩ := o1
  have e1 : (od (g.1, g.2.1, g.2.2.1, g.2.2.2.1, g.2.2.2.2.1 ++ [(k, ([] : List Int))], g.2.2.2.2.2).2.2.2.2.1 g.2.2.2.2.1.length) = (k, []) := od_last _ _
  rw [e1] at p4
  refine V_run D [] 12 rfl trivial ?_
  refine V_null D 25 rfl rfl (fun q1 => absurd q1 (by omega)) (fun q1 => ?_)
  refine V_run D [] 22 rfl ⟨p1, trivial⟩ ?_
  rw [p2]
  refine V_putB (av := [.inl y, .inl (c : Int)]) (st := []) D mwX0_addHighFirst rfl lkX7_X0_addHighFirst (s_addHigh p4 hc (by simp; omega)) p4.1 rfl ⟨Nat.le_refl _, Nat.le_refl _⟩ (fun I2 e2 d2 => ?_)
  have m2 := m1.setVal (p := g.2.2.2.2.1.length) hlen ho.symm e2 d2
  rw [e1] at m2
  dsimp only at m2
  rw [set_last, List.nil_append] at m2
  refine V_vret D rfl rfl ⟨rfl, rfl, rfl, fun a ha => ⟨?_, ?_⟩, _, m2⟩
  · rw [e2 a (by omega) (by omega)]; exact (c1 a (by omega)).1
  · exact (c1 a (by omega)).2
end XSv3
end
section
section XSv4
variable {Γ : xG} {E : xE} {z : Nat} {T : xY} {I : xI} {N : xN} {q o m most : Nat} {n : Int} {v : List Int} {g : Msg} {lat : Option Nat} {w : Res} {ty co id : Int} {tok : List Int}
theorem RsAt.ank (h : RsAt T I N o w) {I' : xI} {N' : xN} (hc : RCh (q + 84) (q + 96) I N I' N') (ho : o + 5 ≤ q + 84) : RsAt T I' N' o w := h.kept (fun a _ _ => hc a (by omega))
theorem s_answerBlock {x : Int} (hT : T q = some (.inr 7)) (hN : N q 2 = q + 84) (h : MAt T I N (q + 84) 2 (ty, co, id, tok, [], []) lat) (hw : RsAt T I N o w) (ho : q < o ∧ o + 5 ≤ q + 84) (hx : 0 ≤ x ∧ x ≤ 1048575 ∧ x % 8 ≤ 6) :
    Spec mX7_answerBlock 3 [.inr (.inr q), .inl x, .inr (.inr o)] z T I N 0 0 (xCg z T (AnP T I N q (some (.inl (blk x w).1)) (ty, co, id, tok, (blk x w).2.1, (blk x w).2.2))) := by
  obtain ⟨w1, w2, w3, w4, w5, w6, w7⟩ := _root_.id hw
  have hL := blL_rng hx.2.2
  have hlen := w7.2.2.2.2.1
  have e7 : zAnd x 7 = x % 8 := by rw [zAndM _ 3 7 (by omega) (by decide)]; rfl
  have e4 : zShr x 4 = x / 16 := by rw [show (4 : Int) = ((4 : Nat) : Int) from rfl, zShr_nat (by omega) (by omega)]; rfl
  have hst : 0 ≤ x / 16 * blL x ∧ x / 16 * blL x ≤ 67108864 := by
    have h1 : x / 16 ≤ 65535 := by omega
    have h0 : 0 ≤ x / 16 := by omega
    constructor
    · exact Int.mul_nonneg h0 (by omega)
    · have := Int.mul_le_mul h1 hL.2 (by omega) (by omega); omega
  refine Spec_of okX7_answerBlock (by decide) (by decide) (Nat.le_of_ble_eq_true rfl) fun Γ E D => ?_
  refine V_run D [] 37 rfl ⟨by rw [w3]; exact w7.1, w1, trivial⟩ ?_
  rw [w3, w7.2.2.2.1, e7, e4, blL_shl hx.2.2]
  have main2 : ¬ (0 < x / 16 ∧ (w.2.1.length : Int) - x / 16 * blL x ≤ 0) → V Γ E (xQ Γ E (xCg z T (AnP T I N q (some (.inl (blk x w).1)) (ty, co, id, tok, (blk x w).2.1, (blk x w).2.2))) 0 0) z T I N 0 0 72 (xlv [some (.inr (.inr q)), some (.inl x), some (.inr (.inr o)), some (.inl (x % 8)), some (.inl (blL x)), some (.inl (x / 16)), some (.inl (x / 16 * blL x)), some (.inl ((w.2.1.length : Int) - x / 16 * blL x)), some (.inl (blT x w.2.1.length))]) [] := fun hc => by
    have eb : blk x w = (69, [(4, hib w.2.2 2), (23, hib (blT x w.2.1.length) (fwb (blT x w.2.1.length)))], (w.2.1.drop (x / 16 * blL x).toNat).take (if blL x < (w.2.1.length : Int) - x / 16 * blL x then blL x else (w.2.1.length : Int) - x / 16 * blL x).toNat) := by unfold blk; rw [if_neg hc]
    rw [eb]
    have hbT : 0 ≤ blT x w.2.1.length ∧ blT x w.2.1.length < 16777216 := by unfold blT; split <;> omega
    have hfw := fwb_cases hbT.1
    refine V_run D [] 79 rfl ⟨w1, trivial⟩ ?_
    rw [w5]
    refine V_chV (av := [.inl 4, .inl w.2.2, .inl ((2 : Nat) : Int)]) (st := []) D mwX7_addNumber rfl lkX7_X7_addNumber (s_addNumber hT hN h (by simp) (by omega) (fun _ h => nomatch h) (by omega)) hT rfl ⟨Nat.le_refl _, Nat.le_refl _⟩ (fun r I1 N1 P1 => ?_)
    obtain ⟨rfl, c1, lat1, m1⟩ := P1
    refine V_run D [] 89 rfl trivial ?_
    refine V_askS (av := [.inl (blT x w.2.1.length)]) (st := [.inl (blT x w.2.1.length), .inl 23, .inr (.inr q)]) D mwX7_fewestBytes rfl lkX7_X7_fewestBytes (s_fewest (by omega)) rfl ⟨Nat.le_refl _, Nat.le_refl _⟩ ?_
    have hN1 : N1 q 2 = q + 84 := by rw [(c1 q (by omega)).2]; exact hN
    refine V_chV (av := [.inl 23, .inl (blT x w.2.1.length), .inl (fwb (blT x w.2.1.length) : Int)]) (st := []) D mwX7_addNumber rfl lkX7_X7_addNumber (s_addNumber hT hN1 m1 (by simp) (by omega) (fun w hw => by simp at hw; rw [hw]; show 0 ≤ (4 : Int) ∧ (4 : Int) ≤ 23; decide) (by omega)) hT rfl ⟨Nat.le_refl _, Nat.le_refl _⟩ (fun r I2 N2 P2 => ?_)
    obtain ⟨rfl, c2, lat2, m2⟩ := P2
    have c12 := c1.trans c2
    have hN2 : N2 q 2 = q + 84 := by rw [(c2 q (by omega)).2]; exact hN1
    have hw2 := hw.ank c12 ho.2
    obtain ⟨u1, u2, u3, u4, u5, u6, u7⟩ := hw2
    have hb2 := m2.2.2.2.1
    have hq2 := m2.1.2.2.1
    refine V_run D [] 112 rfl ⟨w1, by rw [hN2]; exact m2.1.1, hT, trivial⟩ ?_
    rw [hN2, hq2, u3]
    refine V_min D rfl lkX7_min rfl (by constructor <;> constructor <;> omega) ⟨Nat.le_refl _, Nat.le_refl _⟩ ?_
    have hmn : xIn (if blL x < (w.2.1.length : Int) - x / 16 * blL x then blL x else (w.2.1.length : Int) - x / 16 * blL x) := by split <;> constructor <;> omega
    refine V_putB (av := [.inr (.inr (o + 3)), .inl (x / 16 * blL x), .inl _]) (st := []) D mwX0_addPart rfl lkX7_X0_addPart (s_addPart hb2 u7 (by omega) (by omega) hmn) hb2.1 rfl ⟨Nat.le_refl _, Nat.le_refl _⟩ (fun I3 e3 d3 => ?_)
    have h16 : ¬ 0 < x / 16 → x / 16 * blL x = 0 := fun h => by rw [show x / 16 = 0 by omega, Int.zero_mul]
    have hm2 : 0 ≤ (if blL x < (w.2.1.length : Int) - x / 16 * blL x then blL x else (w.2.1.length : Int) - x / 16 * blL x) ∧ x / 16 * blL x + (if blL x < (w.2.1.length : Int) - x / 16 * blL x then blL x else (w.2.1.length : Int) - x / 16 * blL x) ≤ w.2.1.length ∧ ((0 : Nat) : Int) + (if blL x < (w.2.1.length : Int) - x / 16 * blL x then blL x else (w.2.1.length : Int) - x / 16 * blL x) ≤ ((400 : Nat) : Int) := by
      by_cases hp : 0 < x / 16
      · split <;> omega
      · have := h16 hp
        split <;> omega
    rw [if_pos ⟨hst.1, hm2⟩] at d3
    have m3 := m2.setPay e3 d3
    refine V_run D [] 120 rfl trivial ?_
    refine V_iret D rfl rfl ⟨rfl, rfl, rfl, fun a ha => ⟨?_, (c12 a ha).2⟩, _, m3⟩
    rw [e3 a (by omega) (by omega)]; exact (c12 a ha).1
  have main : ¬ (0 < x / 16 ∧ (w.2.1.length : Int) - x / 16 * blL x ≤ 0) → V Γ E (xQ Γ E (xCg z T (AnP T I N q (some (.inl (blk x w).1)) (ty, co, id, tok, (blk x w).2.1, (blk x w).2.2))) 0 0) z T I N 0 0 49 (xlv [some (.inr (.inr q)), some (.inl x), some (.inr (.inr o)), some (.inl (x % 8)), some (.inl (blL x)), some (.inl (x / 16)), some (.inl (x / 16 * blL x)), some (.inl ((w.2.1.length : Int) - x / 16 * blL x))]) [] := fun hc => by
    refine V_run D [] 58 rfl trivial ?_
    refine V_ile D 66 rfl rfl (by omega) (by omega) (fun q1 => ?_) (fun q1 => ?_)
    · refine V_run D [72] 72 rfl trivial ?_
      refine V_loc [some (.inr (.inr q)), some (.inl x), some (.inr (.inr o)), some (.inl (x % 8)), some (.inl (blL x)), some (.inl (x / 16)), some (.inl (x / 16 * blL x)), some (.inl ((w.2.1.length : Int) - x / 16 * blL x)), some (.inl (16 * (x / 16) + 0 + x % 8))] rfl ?_
      have e : 16 * (x / 16) + 0 + x % 8 = blT x w.2.1.length := by unfold blT; rw [if_neg (by omega)]
      rw [e]
      exact main2 hc
    · refine V_run D [72] 72 rfl trivial ?_
      refine V_loc [some (.inr (.inr q)), some (.inl x), some (.inr (.inr o)), some (.inl (x % 8)), some (.inl (blL x)), some (.inl (x / 16)), some (.inl (x / 16 * blL x)), some (.inl ((w.2.1.length : Int) - x / 16 * blL x)), some (.inl (16 * (x / 16) + 8 + x % 8))] rfl ?_
      have e : 16 * (x / 16) + 8 + x % 8 = blT x w.2.1.length := by unfold blT; rw [if_pos (by omega)]
      rw [e]
      exact main2 hc
  refine V_le D 49 rfl rfl (by omega) (fun q1 => ?_) (fun q1 => ?_)
  · refine V_loc [some (.inr (.inr q)), some (.inl x), some (.inr (.inr o)), some (.inl (x % 8)), some (.inl (blL x)), some (.inl (x / 16)), some (.inl (x / 16 * blL x)), some (.inl ((w.2.1.length : Int) - x / 16 * blL x))] rfl ?_
    exact main (by omega)
  · refine V_run D [] 42 rfl trivial ?_
    refine V_gt D 49 rfl rfl (by omega) (fun q2 => ?_) (fun q2 => ?_)
    · refine V_loc [some (.inr (.inr q)), some (.inl x), some (.inr (.inr o)), some (.inl (x % 8)), some (.inl (blL x)), some (.inl (x / 16)), some (.inl (x / 16 * blL x)), some (.inl ((w.2.1.length : Int) - x / 16 * blL x))] rfl ?_
      exact main (by omega)
    · refine V_run D [] 48 rfl trivial ?_
      have eb : blk x w = (130, [], []) := by unfold blk; rw [if_pos (by omega)]
      rw [eb]
      exact V_iret D rfl rfl ⟨rfl, rfl, rfl, RCh.rf, _, h⟩
/-- what a block's number says, where no option is bad -/
theorem hBad_23 {os : List Opt} (h : hBad os = false) (hb : ∀ q ∈ os, BsOk q.2) {i : Nat} (hi : i < os.length) (hn : (od os i).1 = 23) : 0 ≤ wn (od os i).2 ∧ wn (od os i).2 ≤ 1048575 ∧ wn (od os i).2 % 8 ≤ 6 := by
  unfold hBad at h
  simp only [Bool.or_eq_false_iff] at h
  have h1 := h.1.1
  rw [List.any_eq_false] at h1
  have hm : od os i ∈ os := by rw [od_get hi]; exact List.getElem_mem _
  have h2 := h1 _ hm
  have h3 := wn_rng (hb _ hm)
  unfold oBad at h2
  rw [hn, if_neg (by decide), if_pos rfl] at h2
  simp at h2
  omega
theorem s_answerGet (hT : T q = some (.inr 7)) (hN : N q 2 = q + 84) (h : MAt T I N (q + 84) 2 (ty, co, id, tok, [], []) lat) (hw : RsAt T I N o w) (ho : q < o ∧ o + 5 ≤ q + 84) (hwt : xIn w.2.2) {g : Msg} {lat' : Option Nat} (hg : MAt T I N m 20 g lat') (hm : m + 66 ≤ q ∨ q + 98 ≤ m) (hok : MOk g) (hbad : hBad g.2.2.2.2.1 = false) :
    Spec mX7_answerGet 4 [.inr (.inr q), .inr (.inr m), .inr (.inr o)] z T I N 0 0 (xCg z T (AnP T I N q (some (.inl (getA g.2.2.2.2.1 w).1)) (ty, co, id, tok, (getA g.2.2.2.2.1 w).2.1, (getA g.2.2.2.2.1 w).2.2))) := by
  obtain ⟨w1, w2, w3, w4, w5, w6, w7⟩ := _root_.id hw
  have hr := hok.2.2.2.2.1.xin (by omega)
  have hmT := hg.1.1
  have hlen := w7.2.2.2.2.1
  refine Spec_of okX7_answerGet (by decide) (by decide) (Nat.le_of_ble_eq_true rfl) fun Γ E D => ?_
  refine V_run D [] 1 rfl trivial ?_
  refine V_nonnull D 8 rfl rfl (fun q1 => ?_) (fun q1 => absurd q1 (by omega))
  refine V_run D [] 13 rfl ⟨w1, trivial⟩ ?_
  rw [w5]
  refine V_askS (av := [.inr (.inr m), .inl w.2.2]) (st := []) D mwX7_knowsTag rfl lkX7_X7_knowsTag (s_knows hg hwt hr) rfl ⟨Nat.le_refl _, Nat.le_refl _⟩ ?_
  refine V_eq D 32 rfl rfl (b01_in _) (fun q2 => ?_) (fun q2 => ?_)
  · rw [b01_0] at q2
    refine V_run D [] 35 rfl trivial ?_
    refine V_askV (av := [.inl 23]) (st := []) D mwX1_first rfl lkX7_X1_first (s_first hg (by omega) hr) hmT rfl ⟨Nat.le_refl _, Nat.le_refl _⟩ ?_
    by_cases c : fi 23 g.2.2.2.2.1 < g.2.2.2.2.1.length
    · obtain ⟨⟨p1, p2, p3, p4⟩, o2, o3⟩ := hg.opt c
      have h23 := hBad_23 hbad (fun q hq => (hok.2.2.2.2.1.mem (by omega) q hq).2.2.1) c (fi_at c)
      have eg : getA g.2.2.2.2.1 w = blk (wn (od g.2.2.2.2.1 (fi 23 g.2.2.2.2.1)).2) w := by unfold getA; rw [q2, if_neg (by decide), if_pos c]
      rw [eg, oref_fi c]
      refine V_run D [] 40 rfl trivial ?_
      refine V_null D 57 rfl rfl (fun q3 => absurd q3 (by omega)) (fun q3 => ?_)
      refine V_run D [] 48 rfl ⟨p1, trivial⟩ ?_
      rw [p2]
      refine V_askV (av := []) (st := [.inr (.inr q)]) D mwX0_wholeNumber rfl lkX7_X0_wholeNumber (s_whole p4) p4.1 rfl ⟨Nat.le_refl _, Nat.le_refl _⟩ ?_
      refine V_run D [] 53 rfl trivial ?_
      refine V_chV (av := [.inl (wn (od g.2.2.2.2.1 (fi 23 g.2.2.2.2.1)).2), .inr (.inr o)]) (st := []) D mwX7_answerBlock rfl lkX7_X7_answerBlock (s_answerBlock hT hN h hw ho h23) hT rfl ⟨Nat.le_refl _, Nat.le_refl _⟩ (fun r I1 N1 P1 => ?_)
      obtain ⟨rfl, P2⟩ := P1
      exact V_iret D rfl rfl ⟨rfl, rfl, rfl, P2⟩
    · rw [oref_no c]
      refine V_run D [] 40 rfl trivial ?_
      refine V_null D 57 rfl rfl (fun q3 => ?_) (fun q3 => absurd q3 (by omega))
      refine V_run D [] 66 rfl ⟨by rw [w3]; exact w7.1, w1, trivial⟩ ?_
      rw [w3, w7.2.2.2.1]
      refine V_ile D 76 rfl rfl (by omega) (by omega) (fun q4 => ?_) (fun q4 => ?_)
      · have eg : getA g.2.2.2.2.1 w = (69, [(4, hib w.2.2 2)], w.2.1) := by unfold getA; rw [q2, if_neg (by decide), if_neg c, if_neg (by omega)]
        rw [eg]
        refine V_run D [] 83 rfl ⟨w1, trivial⟩ ?_
        rw [w5]
        refine V_chV (av := [.inl 4, .inl w.2.2, .inl ((2 : Nat) : Int)]) (st := []) D mwX7_addNumber rfl lkX7_X7_addNumber (s_addNumber hT hN h (by simp) (by omega) (fun _ h => nomatch h) (by omega)) hT rfl ⟨Nat.le_refl _, Nat.le_refl _⟩ (fun r I1 N1 P1 => ?_)
        obtain ⟨rfl, c1, lat1, m1⟩ := P1
        have hN1 : N1 q 2 = q + 84 := by rw [(c1 q (by omega)).2]; exact hN
        obtain ⟨u1, u2, u3, u4, u5, u6, u7⟩ := hw.ank c1 ho.2
        have hb2 := m1.2.2.2.1
        refine V_run D [] 97 rfl ⟨w1, by rw [hN1]; exact m1.1.1, hT, trivial⟩ ?_
        rw [hN1, m1.1.2.2.1, u3]
        refine V_putB (av := [.inr (.inr (o + 3))]) (st := []) D mwX0_addAll rfl lkX7_X0_addAll (s_addAll hb2 u7 (by omega)) hb2.1 rfl ⟨Nat.le_refl _, Nat.le_refl _⟩ (fun I3 e3 d3 => ?_)
        rw [if_pos (by simp; omega)] at d3
        have m3 := m1.setPay e3 d3
        refine V_run D [] 102 rfl trivial ?_
        refine V_iret D rfl rfl ⟨rfl, rfl, rfl, fun a ha => ⟨?_, (c1 a ha).2⟩, _, m3⟩
        rw [e3 a (by omega) (by omega)]; exact (c1 a ha).1
      · have eg : getA g.2.2.2.2.1 w = blk 2 w := by unfold getA; rw [q2, if_neg (by decide), if_neg c, if_pos (by omega)]
        rw [eg]
        refine V_run D [] 72 rfl trivial ?_
        refine V_chV (av := [.inl 2, .inr (.inr o)]) (st := []) D mwX7_answerBlock rfl lkX7_X7_answerBlock (s_answerBlock hT hN h hw ho (by decide)) hT rfl ⟨Nat.le_refl _, Nat.le_refl _⟩ (fun r I1 N1 P1 => ?_)
        obtain ⟨rfl, P2⟩ := P1
        exact V_iret D rfl rfl ⟨rfl, rfl, rfl, P2⟩
  · have hk : kno g.2.2.2.2.1 w.2.2 = true := by cases hh : kno g.2.2.2.2.1 w.2.2; exact absurd (b01_0.mpr hh) q2; rfl
    have eg : getA g.2.2.2.2.1 w = (67, [(4, hib w.2.2 2)], []) := by unfold getA; rw [hk, if_pos rfl]
    rw [eg]
    refine V_run D [] 26 rfl ⟨w1, trivial⟩ ?_
    rw [w5]
    refine V_chV (av := [.inl 4, .inl w.2.2, .inl ((2 : Nat) : Int)]) (st := []) D mwX7_addNumber rfl lkX7_X7_addNumber (s_addNumber hT hN h (by simp) (by omega) (fun _ h => nomatch h) (by omega)) hT rfl ⟨Nat.le_refl _, Nat.le_refl _⟩ (fun r I1 N1 P1 => ?_)
    obtain ⟨rfl, P2⟩ := P1
    refine V_run D [] 31 rfl trivial ?_
    exact V_iret D rfl rfl ⟨rfl, rfl, rfl, P2⟩
theorem s_answerGetNone (h : MAt T I N (q + 84) 2 g lat) : Spec mX7_answerGet 4 [.inr (.inr q), .inr (.inr m), .inr (.inr 0)] z T I N 0 0 (xCg z T (AnP T I N q (some (.inl 132)) g)) := by
  refine Spec_of okX7_answerGet (by decide) (by decide) (Nat.le_of_ble_eq_true rfl) fun Γ E D => ?_
  refine V_run D [] 1 rfl trivial ?_
  refine V_nonnull D 8 rfl rfl (fun q1 => absurd q1 (by omega)) (fun q1 => ?_)
  refine V_run D [] 7 rfl trivial ?_
  exact V_iret D rfl rfl ⟨rfl, rfl, rfl, RCh.rf, _, h⟩
end XSv4
end
section
/-- the server without its peers: store, answer, path, how many there are in the path -/
def SvC (T : xY) (I : xI) (N : xN) (q : Nat) (rs : List Res) (tags : Int) (a : Msg) (v : List Int) (n : Int) : Prop :=
  (T q = some (.inr 7) ∧ N q 0 = q + 1 ∧ N q 1 = q + 83 ∧ N q 2 = q + 84 ∧ N q 3 = q + 96 ∧ T (q + 83) = some (.inl (6, 10)) ∧ ∀ k, k < 10 → N (q + 83) k = q + 98 + 26 * k) ∧ I q 4 = n ∧ StAt T I N (q + 1) rs tags ∧ (∃ lat, MAt T I N (q + 84) 2 a lat) ∧ BAt T I N (q + 96) 2040 v
def SvF (q : Nat) (I : xI) (N : xN) (I' : xI) (N' : xN) : Prop := RCh q (q + 98) I N I' N' ∧ ∀ j, j ≠ 4 → I' q j = I q j
def SvPo (T : xY) (I : xI) (N : xN) (q : Nat) (r : Option xV) (rs : List Res) (tags : Int) (a : Msg) (v : List Int) (n : Int) : Option xV → xI → xN → Prop := fun rr I' N' => rr = r ∧ SvF q I N I' N' ∧ SvC T I' N' q rs tags a v n
theorem SvF.rf {q : Nat} {I : xI} {N : xN} : SvF q I N I N := ⟨RCh.rf, fun _ _ => rfl⟩
theorem SvF.trans {q : Nat} {I I' I'' : xI} {N N' N'' : xN} (h : SvF q I N I' N') (h' : SvF q I' N' I'' N'') : SvF q I N I'' N'' := ⟨h.1.trans h'.1, fun j hj => (h'.2 j hj).trans (h.2 j hj)⟩
section XSv5
variable {Γ : xG} {E : xE} {z : Nat} {T : xY} {I : xI} {N : xN} {q o m most : Nat} {n : Int} {v : List Int} {a g : Msg} {lat : Option Nat} {w : Res} {ty co id tags : Int} {tok : List Int} {rs : List Res}
theorem SvC.ans (h : SvC T I N q rs tags a v n) {I' : xI} {N' : xN} {a' : Msg} (hf : RCh (q + 84) (q + 96) I N I' N') (hM : ∃ lat', MAt T I' N' (q + 84) 2 a' lat') : SvF q I N I' N' ∧ SvC T I' N' q rs tags a' v n := by
  obtain ⟨⟨a1, a2, a3, a4, a5, a6, a7⟩, b1, c1, c2, c3⟩ := h
  have hq := hf q (by omega)
  refine ⟨⟨hf.wide (by omega) (by omega), fun j _ => by rw [hq.1]⟩, ⟨a1, by rw [hq.2]; exact a2, by rw [hq.2]; exact a3, by rw [hq.2]; exact a4, by rw [hq.2]; exact a5, a6, fun k hk => by rw [(hf (q + 83) (by omega)).2]; exact a7 k hk⟩, by rw [hq.1]; exact b1, c1.kept (fun a h1 h2 => hf a (by omega)), hM, c3.kept (hf _ (by omega)).1 (hf _ (by omega)).1 (hf _ (by omega)).2⟩
theorem SvC.sto (h : SvC T I N q rs tags a v n) {I' : xI} {N' : xN} {rs' : List Res} {tags' : Int} (hf : RCh (q + 1) (q + 83) I N I' N') (hM : StAt T I' N' (q + 1) rs' tags') : SvF q I N I' N' ∧ SvC T I' N' q rs' tags' a v n := by
  obtain ⟨⟨a1, a2, a3, a4, a5, a6, a7⟩, b1, c1, ⟨lat, c2⟩, c3⟩ := h
  have hq := hf q (by omega)
  refine ⟨⟨hf.wide (by omega) (by omega), fun j _ => by rw [hq.1]⟩, ⟨a1, by rw [hq.2]; exact a2, by rw [hq.2]; exact a3, by rw [hq.2]; exact a4, by rw [hq.2]; exact a5, a6, fun k hk => by rw [(hf (q + 83) (by omega)).2]; exact a7 k hk⟩, by rw [hq.1]; exact b1, hM, ⟨lat, c2.kept (fun a h1 h2 => hf a (by omega))⟩, c3.kept (hf _ (by omega)).1 (hf _ (by omega)).1 (hf _ (by omega)).2⟩
theorem SvC.clearRes (h : SvC T I N q rs tags a v n) {k : Nat} (hk : k < rs.length) {x : List Int} {I' : xI} (hfr : ∀ a, a ≠ N (q + 1 + 1) k + 3 → a ≠ N (q + 1 + 1) k + 4 → I' a = I a) (hB : BAt T I' N (N (q + 1 + 1) k + 3) 400 x) : SvF q I N I' N ∧ SvC T I' N q (rs.set k ((rsd rs k).1, x, (rsd rs k).2.2)) tags a v n := by
  obtain ⟨hx, h1, h2⟩ := h.2.2.1.res hk
  exact h.sto (fun a ha => ⟨hfr a (by omega) (by omega), rfl⟩) (h.2.2.1.setCont hk rfl hfr hB)
theorem rsd_set_eq {rs : List Res} {k : Nat} (hk : k < rs.length) (x : Res) : rsd (rs.set k x) k = x := by rw [rsd_set hk, if_pos rfl]
theorem s_change {k b : Nat} {pay : List Int} {code : Int} (hC : SvC T I N q rs tags (ty, co, id, tok, [], []) v n) (hk : k < rs.length) (ho : o = N (q + 1 + 1) k) (hB : BAt T I N b 400 pay) (hb : b + 2 ≤ q ∨ q + 98 ≤ b) (hfit : (rsd rs k).2.1.length + pay.length ≤ 400) (ht : 0 ≤ tags ∧ tags ≤ 65535) :
    Spec mX7_change 3 [.inr (.inr q), .inr (.inr o), .inr (.inr b), .inl code] z T I N 0 0 (xCg z T (SvPo T I N q (some (.inl code)) (rs.set k ((rsd rs k).1, (rsd rs k).2.1 ++ pay, (tags + 1) % 65536)) ((tags + 1) % 65536) (ty, co, id, tok, [(4, hib ((tags + 1) % 65536) 2)], []) v n)) := by
  obtain ⟨⟨a1, a2, a3, a4, a5, a6, a7⟩, b1, c1, ⟨lat, c2⟩, c3⟩ := _root_.id hC
  obtain ⟨hx, h1, h2⟩ := c1.res hk
  obtain ⟨r1, r2, r3, r4, r5, r6, r7⟩ := _root_.id hx
  rw [← ho] at r1 r2 r3 r7 h1 h2
  refine Spec_of okX7_change (by decide) (by decide) (Nat.le_of_ble_eq_true rfl) fun Γ E D => ?_
  refine V_run D [] 5 rfl ⟨r1, trivial⟩ ?_
  rw [r3]
  refine V_putB (av := [.inr (.inr b)]) (st := []) D mwX0_addAll rfl lkX7_X0_addAll (s_addAll r7 hB (by omega)) r7.1 rfl ⟨Nat.le_refl _, Nat.le_refl _⟩ (fun I1 e1 d1 => ?_)
  rw [if_pos (by omega)] at d1
  have C1 := hC.clearRes hk (x := (rsd rs k).2.1 ++ pay) (I' := I1) (by rw [← ho]; exact e1) (by rw [← ho]; exact d1)
  refine V_run D [] 13 rfl ⟨a1, trivial⟩ ?_
  rw [a2]
  refine V_chV (av := [.inr (.inr o)]) (st := []) D mwX8_giveNextTag rfl lkX7_X8_giveNextTag (s_nextTag C1.2.2.2.1 ht (k := k) (by simpa using hk) ho) c1.1.1 rfl ⟨Nat.le_refl _, Nat.le_refl _⟩ (fun r I2 N2 P2 => ?_)
  obtain ⟨rfl, hN2, e2, S2⟩ := P2
  subst hN2
  rw [rsd_set_eq hk, List.set_set] at S2
  have C2 := C1.2.sto (I' := I2) (N' := N2) (fun a ha => ⟨e2 a (by omega) (by omega), rfl⟩) S2
  obtain ⟨hx2, -, -⟩ := S2.res (k := k) (by simpa using hk)
  rw [← ho, rsd_set_eq hk] at hx2
  refine V_run D [] 23 rfl ⟨r1, trivial⟩ ?_
  rw [hx2.2.2.2.2.1]
  obtain ⟨-, -, -, ⟨lat2, m2⟩, -⟩ := C2.2
  refine V_chV (av := [.inl 4, .inl ((tags + 1) % 65536), .inl ((2 : Nat) : Int)]) (st := []) D mwX7_addNumber rfl lkX7_X7_addNumber (s_addNumber a1 a4 m2 (by simp) (by omega) (fun _ h => nomatch h) (by omega)) a1 rfl ⟨Nat.le_refl _, Nat.le_refl _⟩ (fun r I3 N3 P3 => ?_)
  obtain ⟨rfl, f3, m3⟩ := P3
  have C3 := C2.2.ans f3 m3
  refine V_run D [] 27 rfl trivial ?_
  exact V_iret D rfl rfl ⟨rfl, rfl, rfl, (C1.1.trans C2.1).trans C3.1, C3.2⟩
theorem s_putFound {k : Nat} {g : Msg} {lat' : Option Nat} (hC : SvC T I N q rs tags (ty, co, id, tok, [], []) v n) (hk : k < rs.length) (ho : o = N (q + 1 + 1) k) (hg : MAt T I N m 20 g lat') (hm : m + 66 ≤ q ∨ q + 98 ≤ m) (ht : 0 ≤ tags ∧ tags ≤ 65535) :
    Spec mX7_answerPut 4 [.inr (.inr q), .inr (.inr m), .inr (.inr o)] z T I N 0 0 (xCg z T (SvPo T I N q (some (.inl 68)) (rs.set k ((rsd rs k).1, g.2.2.2.2.2, (tags + 1) % 65536)) ((tags + 1) % 65536) (ty, co, id, tok, [(4, hib ((tags + 1) % 65536) 2)], []) v n)) := by
  obtain ⟨⟨a1, a2, a3, a4, a5, a6, a7⟩, b1, c1, ⟨lat, c2⟩, c3⟩ := _root_.id hC
  obtain ⟨hx, h1, h2⟩ := c1.res hk
  obtain ⟨r1, r2, r3, r4, r5, r6, r7⟩ := _root_.id hx
  rw [← ho] at r1 r2 r3 r7 h1 h2
  have hgp := hg.2.2.2.1
  refine Spec_of okX7_answerPut (by decide) (by decide) (Nat.le_of_ble_eq_true rfl) fun Γ E D => ?_
  refine V_run D [] 1 rfl trivial ?_
  refine V_nonnull D 22 rfl rfl (fun q1 => ?_) (fun q1 => absurd q1 (by omega))
  refine V_run D [] 25 rfl trivial ?_
  refine V_nonnull D 32 rfl rfl (fun q2 => ?_) (fun q2 => absurd q2 (by omega))
  refine V_run D [] 36 rfl ⟨r1, trivial⟩ ?_
  rw [r3]
  refine V_putB (av := []) (st := []) D mwX0_clear rfl lkX7_X0_clear (s_clear r7) r7.1 rfl ⟨Nat.le_refl _, Nat.le_refl _⟩ (fun I1 e1 d1 => ?_)
  have C1 := hC.clearRes hk (x := []) (I' := I1) (by rw [← ho]; exact e1) (by rw [← ho]; exact d1)
  have hgp1 : BAt T I1 N (m + 3) 400 g.2.2.2.2.2 := hgp.kept (e1 _ (by omega) (by omega)) (e1 _ (by omega) (by omega)) rfl
  refine V_run D [] 46 rfl ⟨hg.1.1, trivial⟩ ?_
  rw [hg.1.2.2.1]
  refine V_nonnull D 54 rfl rfl (fun q3 => ?_) (fun q3 => absurd q3 (by omega))
  refine V_run D [] 56 rfl trivial ?_
  refine V_chV (av := [.inr (.inr o), .inr (.inr (m + 3)), .inl 68]) (st := []) D mwX7_change rfl lkX7_X7_change (s_change C1.2 (k := k) (by simpa using hk) ho hgp1 (by omega) (by rw [rsd_set_eq hk]; simpa using hgp.2.2.2.2.1) ht) a1 rfl ⟨Nat.le_refl _, Nat.le_refl _⟩ (fun r I2 N2 P2 => ?_)
  obtain ⟨rfl, f2, C2⟩ := P2
  rw [rsd_set_eq hk, List.set_set, List.nil_append] at C2
  exact V_iret D rfl rfl ⟨rfl, rfl, rfl, C1.1.trans f2, C2⟩
theorem s_putNew {p : List (List Int)} {g : Msg} {lat' : Option Nat} (hC : SvC T I N q rs tags (ty, co, id, tok, [], []) (pe p) (p.length : Int)) (hl : rs.length < 16) (hg : MAt T I N m 20 g lat') (hm : m + 66 ≤ q ∨ q + 98 ≤ m) (ht : 0 ≤ tags ∧ tags ≤ 65535) :
    Spec mX7_answerPut 4 [.inr (.inr q), .inr (.inr m), .inr (.inr 0)] z T I N 0 0 (xCg z T (SvPo T I N q (some (.inl 65)) (rs ++ [(p, g.2.2.2.2.2, (tags + 1) % 65536)]) ((tags + 1) % 65536) (ty, co, id, tok, [(4, hib ((tags + 1) % 65536) 2)], []) (pe p) (p.length : Int))) := by
  obtain ⟨⟨a1, a2, a3, a4, a5, a6, a7⟩, b1, c1, ⟨lat, c2⟩, c3⟩ := _root_.id hC
  have hgp := hg.2.2.2.1
  refine Spec_of okX7_answerPut (by decide) (by decide) (Nat.le_of_ble_eq_true rfl) fun Γ E D => ?_
  refine V_run D [] 1 rfl trivial ?_
  refine V_nonnull D 22 rfl rfl (fun q1 => absurd q1 (by omega)) (fun q1 => ?_)
  refine V_run D [] 16 rfl ⟨a1, a1, a1, trivial⟩ ?_
  rw [a2, a5, b1]
  refine V_chV (av := [.inr (.inr (q + 96)), .inl (p.length : Int)]) (st := []) D mwX8_make rfl lkX7_X8_make (s_make c1 hl c3 (by omega)) c1.1.1 rfl ⟨Nat.le_refl _, Nat.le_refl _⟩ (fun r I1 N1 P1 => ?_)
  obtain ⟨rfl, hN1, f1, t, S1⟩ := P1
  subst hN1
  have C1 := hC.sto (I' := I1) (N' := N1) f1 S1
  have hk : rs.length < (rs ++ [(p, ([] : List Int), t)]).length := by simp
  obtain ⟨hx, h1, h2⟩ := S1.res hk
  obtain ⟨r1, r2, r3, r4, r5, r6, r7⟩ := _root_.id hx
  generalize ho : N1 (q + 1 + 1) rs.length = o at r1 r2 r3 r7 h1 h2
  refine V_run D [] 25 rfl trivial ?_
  refine V_nonnull D 32 rfl rfl (fun q2 => ?_) (fun q2 => absurd q2 (by omega))
  refine V_run D [] 36 rfl ⟨r1, trivial⟩ ?_
  rw [r3]
  refine V_putB (av := []) (st := []) D mwX0_clear rfl lkX7_X0_clear (s_clear r7) r7.1 rfl ⟨Nat.le_refl _, Nat.le_refl _⟩ (fun I2 e2 d2 => ?_)
  have C2 := C1.2.clearRes hk (x := []) (I' := I2) (by rw [ho]; exact e2) (by rw [ho]; exact d2)
  have hgp2 : BAt T I2 N1 (m + 3) 400 g.2.2.2.2.2 := hgp.kept (by rw [e2 _ (by omega) (by omega), (f1 _ (by omega)).1]) (by rw [e2 _ (by omega) (by omega), (f1 _ (by omega)).1]) rfl
  refine V_run D [] 46 rfl ⟨hg.1.1, trivial⟩ ?_
  rw [hg.1.2.2.1]
  refine V_nonnull D 54 rfl rfl (fun q3 => absurd q3 (by omega)) (fun q3 => ?_)
  refine V_run D [] 56 rfl trivial ?_
  refine V_chV (av := [.inr (.inr o), .inr (.inr (m + 3)), .inl 65]) (st := []) D mwX7_change rfl lkX7_X7_change (s_change C2.2 (k := rs.length) (by simp) ho.symm hgp2 (by omega) (by rw [rsd_set_eq hk]; simpa using hgp.2.2.2.2.1) ht) a1 rfl ⟨Nat.le_refl _, Nat.le_refl _⟩ (fun r I3 N3 P3 => ?_)
  obtain ⟨rfl, f3, C3⟩ := P3
  rw [rsd_set_eq hk, List.set_set, List.nil_append] at C3
  have er : (rs ++ [(p, ([] : List Int), t)]).set rs.length ((rsd (rs ++ [(p, ([] : List Int), t)]) rs.length).1, g.2.2.2.2.2, (tags + 1) % 65536) = rs ++ [(p, g.2.2.2.2.2, (tags + 1) % 65536)] := by
    rw [rsd_app, if_neg (by omega), if_pos rfl]; simp
  rw [er] at C3
  exact V_iret D rfl rfl ⟨rfl, rfl, rfl, (C1.1.trans C2.1).trans f3, C3⟩
theorem s_putFullS {p : List (List Int)} (hC : SvC T I N q rs tags a (pe p) (p.length : Int)) (hl : ¬ rs.length < 16) :
    Spec mX7_answerPut 4 [.inr (.inr q), .inr (.inr m), .inr (.inr 0)] z T I N 0 0 (xCg z T (SvPo T I N q (some (.inl 143)) rs tags a (pe p) (p.length : Int))) := by
  obtain ⟨⟨a1, a2, a3, a4, a5, a6, a7⟩, b1, c1, ⟨lat, c2⟩, c3⟩ := _root_.id hC
  refine Spec_of okX7_answerPut (by decide) (by decide) (Nat.le_of_ble_eq_true rfl) fun Γ E D => ?_
  refine V_run D [] 1 rfl trivial ?_
  refine V_nonnull D 22 rfl rfl (fun q1 => absurd q1 (by omega)) (fun q1 => ?_)
  refine V_run D [] 16 rfl ⟨a1, a1, a1, trivial⟩ ?_
  rw [a2, a5, b1]
  refine V_askV (av := [.inr (.inr (q + 96)), .inl (p.length : Int)]) (st := []) D mwX8_make rfl lkX7_X8_make (s_makeFull c1 hl) c1.1.1 rfl ⟨Nat.le_refl _, Nat.le_refl _⟩ ?_
  refine V_run D [] 25 rfl trivial ?_
  refine V_nonnull D 32 rfl rfl (fun q2 => absurd q2 (by omega)) (fun q2 => ?_)
  refine V_run D [] 31 rfl trivial ?_
  exact V_iret D rfl rfl ⟨rfl, rfl, rfl, SvF.rf, hC⟩
theorem s_postNone (hC : SvC T I N q rs tags a v n) :
    Spec mX7_answerPost 4 [.inr (.inr q), .inr (.inr m), .inr (.inr 0)] z T I N 0 0 (xCg z T (SvPo T I N q (some (.inl 132)) rs tags a v n)) := by
  refine Spec_of okX7_answerPost (by decide) (by decide) (Nat.le_of_ble_eq_true rfl) fun Γ E D => ?_
  refine V_run D [] 1 rfl trivial ?_
  refine V_nonnull D 8 rfl rfl (fun q1 => absurd q1 (by omega)) (fun q1 => ?_)
  refine V_run D [] 7 rfl trivial ?_
  exact V_iret D rfl rfl ⟨rfl, rfl, rfl, SvF.rf, hC⟩
theorem s_postLong {k : Nat} {g : Msg} {lat' : Option Nat} (hC : SvC T I N q rs tags a v n) (hk : k < rs.length) (ho : o = N (q + 1 + 1) k) (hg : MAt T I N m 20 g lat') (hfit : ¬ (rsd rs k).2.1.length + g.2.2.2.2.2.length ≤ 400) :
    Spec mX7_answerPost 4 [.inr (.inr q), .inr (.inr m), .inr (.inr o)] z T I N 0 0 (xCg z T (SvPo T I N q (some (.inl 141)) rs tags a v n)) := by
  obtain ⟨⟨a1, a2, a3, a4, a5, a6, a7⟩, b1, c1, ⟨lat, c2⟩, c3⟩ := _root_.id hC
  obtain ⟨hx, h1, h2⟩ := c1.res hk
  obtain ⟨r1, r2, r3, r4, r5, r6, r7⟩ := _root_.id hx
  rw [← ho] at r1 r2 r3 r7 h1 h2
  have hgp := hg.2.2.2.1
  have l1 := hgp.2.2.2.2.1
  have l2 := r7.2.2.2.2.1
  refine Spec_of okX7_answerPost (by decide) (by decide) (Nat.le_of_ble_eq_true rfl) fun Γ E D => ?_
  refine V_run D [] 1 rfl trivial ?_
  refine V_nonnull D 8 rfl rfl (fun q1 => ?_) (fun q1 => absurd q1 (by omega))
  refine V_run D [] 19 rfl ⟨by rw [hg.1.2.2.1]; exact hgp.1, hg.1.1, r1, trivial⟩ ?_
  rw [r3, hg.1.2.2.1, hgp.2.2.2.1]
  refine V_askV (av := [.inl (g.2.2.2.2.2.length : Int)]) (st := []) D mwX0_hasRoom rfl lkX7_X0_hasRoom (s_hasRoom r7 (by omega)) r7.1 rfl ⟨Nat.le_refl _, Nat.le_refl _⟩ ?_
  rw [if_neg (by omega)]
  refine V_ne D 29 rfl rfl (by omega) (fun q2 => absurd rfl q2) (fun q2 => ?_)
  refine V_run D [] 28 rfl trivial ?_
  exact V_iret D rfl rfl ⟨rfl, rfl, rfl, SvF.rf, hC⟩
theorem s_post {k : Nat} {g : Msg} {lat' : Option Nat} (hC : SvC T I N q rs tags (ty, co, id, tok, [], []) v n) (hk : k < rs.length) (ho : o = N (q + 1 + 1) k) (hg : MAt T I N m 20 g lat') (hm : m + 66 ≤ q ∨ q + 98 ≤ m) (hfit : (rsd rs k).2.1.length + g.2.2.2.2.2.length ≤ 400) (ht : 0 ≤ tags ∧ tags ≤ 65535) :
    Spec mX7_answerPost 4 [.inr (.inr q), .inr (.inr m), .inr (.inr o)] z T I N 0 0 (xCg z T (SvPo T I N q (some (.inl 68)) (rs.set k ((rsd rs k).1, (rsd rs k).2.1 ++ g.2.2.2.2.2, (tags + 1) % 65536)) ((tags + 1) % 65536) (ty, co, id, tok, [(4, hib ((tags + 1) % 65536) 2)], []) v n)) := by
  obtain ⟨⟨a1, a2, a3, a4, a5, a6, a7⟩, b1, c1, ⟨lat, c2⟩, c3⟩ := _root_.id hC
  obtain ⟨hx, h1, h2⟩ := c1.res hk
  obtain ⟨r1, r2, r3, r4, r5, r6, r7⟩ := _root_.id hx
  rw [← ho] at r1 r2 r3 r7 h1 h2
  have hgp := hg.2.2.2.1
  have l1 := hgp.2.2.2.2.1
  have l2 := r7.2.2.2.2.1
  refine Spec_of okX7_answerPost (by decide) (by decide) (Nat.le_of_ble_eq_true rfl) fun Γ E D => ?_
  refine V_run D [] 1 rfl trivial ?_
  refine V_nonnull D 8 rfl rfl (fun q1 => ?_) (fun q1 => absurd q1 (by omega))
  refine V_run D [] 19 rfl ⟨by rw [hg.1.2.2.1]; exact hgp.1, hg.1.1, r1, trivial⟩ ?_
  rw [r3, hg.1.2.2.1, hgp.2.2.2.1]
  refine V_askV (av := [.inl (g.2.2.2.2.2.length : Int)]) (st := []) D mwX0_hasRoom rfl lkX7_X0_hasRoom (s_hasRoom r7 (by omega)) r7.1 rfl ⟨Nat.le_refl _, Nat.le_refl _⟩ ?_
  rw [if_pos (by omega)]
  refine V_ne D 29 rfl rfl (by omega) (fun q2 => ?_) (fun q2 => absurd q2 (by decide))
  refine V_run D [] 37 rfl ⟨hg.1.1, trivial⟩ ?_
  rw [hg.1.2.2.1]
  refine V_chV (av := [.inr (.inr o), .inr (.inr (m + 3)), .inl 68]) (st := []) D mwX7_change rfl lkX7_X7_change (s_change hC hk ho hgp (by omega) hfit ht) a1 rfl ⟨Nat.le_refl _, Nat.le_refl _⟩ (fun r I2 N2 P2 => ?_)
  obtain ⟨rfl, P3⟩ := P2
  exact V_iret D rfl rfl ⟨rfl, rfl, rfl, P3⟩
theorem s_deleteNone (hC : SvC T I N q rs tags a v n) :
    Spec mX7_answerDelete 1 [.inr (.inr q), .inr (.inr 0)] z T I N 0 0 (xCg z T (SvPo T I N q (some (.inl 66)) rs tags a v n)) := by
  refine Spec_of okX7_answerDelete (by decide) (by decide) (Nat.le_of_ble_eq_true rfl) fun Γ E D => ?_
  refine V_run D [] 1 rfl trivial ?_
  refine V_null D 12 rfl rfl (fun q1 => ?_) (fun q1 => absurd q1 (by omega))
  refine V_run D [] 14 rfl trivial ?_
  exact V_iret D rfl rfl ⟨rfl, rfl, rfl, SvF.rf, hC⟩
theorem s_delete {k : Nat} (hC : SvC T I N q rs tags a v n) (hk : k < rs.length) :
    Spec mX7_answerDelete 1 [.inr (.inr q), .inr (.inr (N (q + 1 + 1) k))] z T I N 0 0 (xCg z T (SvPo T I N q (some (.inl 66)) (rs.eraseIdx k) tags a v n)) := by
  obtain ⟨⟨a1, a2, a3, a4, a5, a6, a7⟩, b1, c1, ⟨lat, c2⟩, c3⟩ := _root_.id hC
  obtain ⟨hx, h1, h2⟩ := c1.res hk
  refine Spec_of okX7_answerDelete (by decide) (by decide) (Nat.le_of_ble_eq_true rfl) fun Γ E D => ?_
  refine V_run D [] 1 rfl trivial ?_
  refine V_null D 12 rfl rfl (fun q1 => absurd q1 (by omega)) (fun q1 => ?_)
  refine V_run D [] 9 rfl ⟨a1, trivial⟩ ?_
  rw [a2]
  refine V_chV (av := [.inr (.inr (N (q + 1 + 1) k))]) (st := []) D mwX8_remove rfl lkX7_X8_remove (s_remove c1 hk) c1.1.1 rfl ⟨Nat.le_refl _, Nat.le_refl _⟩ (fun r I1 N1 P1 => ?_)
  obtain ⟨rfl, f1, S1⟩ := P1
  have C1 := hC.sto f1 S1
  refine V_run D [] 14 rfl trivial ?_
  exact V_iret D rfl rfl ⟨rfl, rfl, rfl, C1⟩
end XSv5
end
section
/-- what a request does, where its resource stands at k -/
def actK (k : Nat) (rs : List Res) (tags : Int) (g : Msg) : (Int × List Opt × List Int) × (List Res × Int) :=
  if hBad g.2.2.2.2.1 then ((130, [], []), rs, tags) else
  if 4 < g.2.1 then ((133, [], []), rs, tags) else
  if g.2.1 = 1 then ((if k < rs.length then getA g.2.2.2.2.1 (rsd rs k) else (132, [], [])), rs, tags) else
  if fails g.2.2.2.2.1 (if k < rs.length then some (rsd rs k).2.2 else none) then ((140, [], []), rs, tags) else
  if g.2.1 = 2 then (if k < rs.length then (if (rsd rs k).2.1.length + g.2.2.2.2.2.length ≤ 400 then ((68, [(4, hib ((tags + 1) % 65536) 2)], []), rs.set k ((rsd rs k).1, (rsd rs k).2.1 ++ g.2.2.2.2.2, (tags + 1) % 65536), (tags + 1) % 65536) else ((141, [], []), rs, tags)) else ((132, [], []), rs, tags)) else
  if g.2.1 = 3 then (if k < rs.length then ((68, [(4, hib ((tags + 1) % 65536) 2)], []), rs.set k ((rsd rs k).1, g.2.2.2.2.2, (tags + 1) % 65536), (tags + 1) % 65536) else if rs.length < 16 then ((65, [(4, hib ((tags + 1) % 65536) 2)], []), rs ++ [(pth g.2.2.2.2.1, g.2.2.2.2.2, (tags + 1) % 65536)], (tags + 1) % 65536) else ((143, [], []), rs, tags)) else
  ((66, [], []), (if k < rs.length then rs.eraseIdx k else rs), tags)
def act (rs : List Res) (tags : Int) (g : Msg) : (Int × List Opt × List Int) × (List Res × Int) := actK (rfi (pe (pth g.2.2.2.2.1)) rs) rs tags g
def DcP (T : xY) (I : xI) (N : xN) (q : Nat) (ty co id : Int) (tok : List Int) (x : (Int × List Opt × List Int) × (List Res × Int)) : Option xV → xI → xN → Prop := fun rr I' N' => ∃ v n, SvPo T I N q (some (.inl x.1.1)) x.2.1 x.2.2 (ty, co, id, tok, x.1.2.1, x.1.2.2) v n rr I' N'
section XSv6
variable {Γ : xG} {E : xE} {z : Nat} {T : xY} {I : xI} {N : xN} {q o m most : Nat} {n : Int} {v : List Int} {a g : Msg} {lat : Option Nat} {w : Res} {ty co id tags : Int} {tok : List Int} {rs : List Res}
theorem RCh.mat (h : MAt T I N m 20 g lat) {I' : xI} {N' : xN} (hf : RCh q (q + 98) I N I' N') (hm : m + 66 ≤ q ∨ q + 98 ≤ m) : MAt T I' N' m 20 g lat := h.kept (fun a h1 h2 => hf a (by omega))
set_option maxHeartbeats 1000000 in
theorem s_decide (hC : SvC T I N q rs tags (ty, co, id, tok, [], []) v n) (hg : MAt T I N m 20 g lat) (hm : m + 66 ≤ q ∨ q + 98 ≤ m) (hok : MOk g) (hco : 1 ≤ g.2.1) (hfit : (pe (pth g.2.2.2.2.1)).length ≤ 2040) (ht : 0 ≤ tags ∧ tags ≤ 65535) (hts : ∀ x ∈ rs, xIn x.2.2) :
    Spec mX7_decide 5 [.inr (.inr q), .inr (.inr m)] z T I N 0 0 (xCg z T (DcP T I N q ty co id tok (act rs tags g))) := by
  obtain ⟨⟨a1, a2, a3, a4, a5, a6, a7⟩, b1, c1, ⟨lat0, c2⟩, c3⟩ := _root_.id hC
  have hr := hok.2.2.2.2.1.xin (by omega)
  have hmT := hg.1.1
  have hc6 := hg.2.1.2.1
  have hcr := hok.2.1
  refine Spec_of okX7_decide (by decide) (by decide) (Nat.le_of_ble_eq_true rfl) fun Γ E D => ?_
  unfold act
  generalize hkk : rfi (pe (pth g.2.2.2.2.1)) rs = k
  have hkle : k ≤ rs.length := by rw [← hkk]; exact rfi_le _ _
  refine V_run D [] 1 rfl trivial ?_
  refine V_askS (av := [.inr (.inr m)]) (st := []) D mwX7_hasBadOption rfl lkX7_X7_hasBadOption (s_hasBad hg hr) rfl ⟨Nat.le_refl _, Nat.le_refl _⟩ ?_
  refine V_eq D 11 rfl rfl (b01_in _) (fun q1 => ?_) (fun q1 => ?_)
  · rw [b01_0] at q1
    refine V_run D [] 16 rfl ⟨hmT, trivial⟩ ?_
    rw [hc6]
    refine V_ile D 23 rfl rfl (by constructor <;> omega) (by omega) (fun q2 => ?_) (fun q2 => ?_)
    · refine V_run D [] 25 rfl trivial ?_
      refine V_chV (av := [.inr (.inr m)]) (st := []) D mwX7_takePath rfl lkX7_X7_takePath (s_takePath a1 a5 hm hg hr hfit c3) a1 rfl ⟨Nat.le_refl _, Nat.le_refl _⟩ (fun r I1 N1 P1 => ?_)
      obtain ⟨rfl, hN1, e1, f1, p1, B1⟩ := P1
      subst hN1
      have F1 : SvF q I N1 I1 N1 := ⟨fun a ha => ⟨e1 a (by omega) (by omega) (by omega), rfl⟩, f1⟩
      have C1 : SvC T I1 N1 q rs tags (ty, co, id, tok, [], []) (pe (pth g.2.2.2.2.1)) ((pth g.2.2.2.2.1).length : Int) := ⟨⟨a1, a2, a3, a4, a5, a6, a7⟩, p1, c1.kept (fun a h1 h2 => ⟨e1 a (by omega) (by omega) (by omega), rfl⟩), ⟨lat0, c2.kept (fun a h1 h2 => ⟨e1 a (by omega) (by omega) (by omega), rfl⟩)⟩, B1⟩
      have hg1 : MAt T I1 N1 m 20 g lat := RCh.mat hg F1.1 hm
      have hc61 := hg1.2.1.2.1
      obtain ⟨-, -, S1, ⟨lat1, m1⟩, -⟩ := _root_.id C1
      refine V_run D [] 36 rfl ⟨a1, a1, trivial⟩ ?_
      rw [a2, a5]
      refine V_askV (av := [.inr (.inr (q + 96))]) (st := []) D mwX8_find rfl lkX7_X8_find (s_sfind S1 B1) S1.1.1 rfl ⟨Nat.le_refl _, Nat.le_refl _⟩ ?_
      rw [hkk]
      by_cases hk : k < rs.length
      · have er : rref N1 (q + 1) rs (k : Int) = N1 (q + 1 + 1) k := by unfold rref; rw [if_pos (by omega), Int.toNat_natCast]
        rw [er]
        obtain ⟨hx, h1, h2⟩ := S1.res hk
        have hxt : xIn (rsd rs k).2.2 := hts _ (by rw [rsd_get hk]; exact List.getElem_mem _)
        generalize ho : N1 (q + 1 + 1) k = o at hx h1 h2
        refine V_run D [] 45 rfl ⟨hmT, trivial⟩ ?_
        rw [hc61]
        refine V_ine D 55 rfl rfl (by constructor <;> omega) (by omega) (fun q3 => ?_) (fun q3 => ?_)
        · refine V_run D [] 57 rfl trivial ?_
          refine V_askS (av := [.inr (.inr m), .inr (.inr o)]) (st := []) D mwX7_failsCondition rfl lkX7_X7_failsCondition (s_failsSome hg1 hr (by omega) hx.1 hx.2.2.2.2.1 hxt) rfl ⟨Nat.le_refl _, Nat.le_refl _⟩ ?_
          refine V_eq D 67 rfl rfl (b01_in _) (fun q4 => ?_) (fun q4 => ?_)
          · rw [b01_0] at q4
            refine V_run D [] 72 rfl ⟨hmT, trivial⟩ ?_
            rw [hc61]
            refine V_ine D 82 rfl rfl (by constructor <;> omega) (by omega) (fun q5 => ?_) (fun q5 => ?_)
            · refine V_run D [] 87 rfl ⟨hmT, trivial⟩ ?_
              rw [hc61]
              refine V_ine D 99 rfl rfl (by constructor <;> omega) (by omega) (fun q6 => ?_) (fun q6 => ?_)
              · have ea : actK k rs tags g = ((66, [], []), rs.eraseIdx k, tags) := by
                  unfold actK; rw [if_neg (by rw [q1]; decide), if_neg (by omega), if_neg q3, if_pos hk, if_neg (by rw [q4]; decide), if_neg q5, if_neg q6]; rw [if_pos hk]
                rw [ea]
                refine V_run D [] 101 rfl trivial ?_
                refine V_chV (av := [.inr (.inr o)]) (st := []) D mwX7_answerDelete rfl lkX7_X7_answerDelete (by rw [← ho]; exact s_delete C1 hk) a1 rfl ⟨Nat.le_refl _, Nat.le_refl _⟩ (fun r I2 N2 P2 => ?_)
                obtain ⟨rfl, F2, C2⟩ := P2
                exact V_iret D rfl rfl ⟨rfl, rfl, _, _, rfl, F1.trans F2, C2⟩
              · have ea : actK k rs tags g = ((68, [(4, hib ((tags + 1) % 65536) 2)], []), rs.set k ((rsd rs k).1, g.2.2.2.2.2, (tags + 1) % 65536), (tags + 1) % 65536) := by
                  unfold actK; rw [if_neg (by rw [q1]; decide), if_neg (by omega), if_neg q3, if_pos hk, if_neg (by rw [q4]; decide), if_neg q5, if_pos q6]; rw [if_pos hk]
                rw [ea]
                refine V_run D [] 93 rfl trivial ?_
                refine V_chV (av := [.inr (.inr m), .inr (.inr o)]) (st := []) D mwX7_answerPut rfl lkX7_X7_answerPut (s_putFound C1 hk ho.symm hg1 hm ht) a1 rfl ⟨Nat.le_refl _, Nat.le_refl _⟩ (fun r I2 N2 P2 => ?_)
                obtain ⟨rfl, F2, C2⟩ := P2
                refine V_run D [] 104 rfl trivial ?_
                exact V_iret D rfl rfl ⟨rfl, rfl, _, _, rfl, F1.trans F2, C2⟩
            · refine V_run D [] 78 rfl trivial ?_
              by_cases hfl : (rsd rs k).2.1.length + g.2.2.2.2.2.length ≤ 400
              · have ea : actK k rs tags g = ((68, [(4, hib ((tags + 1) % 65536) 2)], []), rs.set k ((rsd rs k).1, (rsd rs k).2.1 ++ g.2.2.2.2.2, (tags + 1) % 65536), (tags + 1) % 65536) := by
                  unfold actK; rw [if_neg (by rw [q1]; decide), if_neg (by omega), if_neg q3, if_pos hk, if_neg (by rw [q4]; decide), if_pos q5]; rw [if_pos hk]; rw [if_pos hfl]
                rw [ea]
                refine V_chV (av := [.inr (.inr m), .inr (.inr o)]) (st := []) D mwX7_answerPost rfl lkX7_X7_answerPost (s_post C1 hk ho.symm hg1 hm hfl ht) a1 rfl ⟨Nat.le_refl _, Nat.le_refl _⟩ (fun r I2 N2 P2 => ?_)
                obtain ⟨rfl, F2, C2⟩ := P2
                exact V_iret D rfl rfl ⟨rfl, rfl, _, _, rfl, F1.trans F2, C2⟩
              · have ea : actK k rs tags g = ((141, [], []), rs, tags) := by
                  unfold actK; rw [if_neg (by rw [q1]; decide), if_neg (by omega), if_neg q3, if_pos hk, if_neg (by rw [q4]; decide), if_pos q5]; rw [if_pos hk]; rw [if_neg hfl]
                rw [ea]
                refine V_chV (av := [.inr (.inr m), .inr (.inr o)]) (st := []) D mwX7_answerPost rfl lkX7_X7_answerPost (s_postLong C1 hk ho.symm hg1 hfl) a1 rfl ⟨Nat.le_refl _, Nat.le_refl _⟩ (fun r I2 N2 P2 => ?_)
                obtain ⟨rfl, F2, C2⟩ := P2
                exact V_iret D rfl rfl ⟨rfl, rfl, _, _, rfl, F1.trans F2, C2⟩
          · have q4' : fails g.2.2.2.2.1 (some (rsd rs k).2.2) = true := by cases hh : fails g.2.2.2.2.1 (some (rsd rs k).2.2); exact absurd (b01_0.mpr hh) q4; rfl
            have ea : actK k rs tags g = ((140, [], []), rs, tags) := by
              unfold actK; rw [if_neg (by rw [q1]; decide), if_neg (by omega), if_neg q3, if_pos hk, if_pos q4']
            rw [ea]
            refine V_run D [] 66 rfl trivial ?_
            exact V_iret D rfl rfl ⟨rfl, rfl, _, _, rfl, F1, C1⟩
        · have ea : actK k rs tags g = (getA g.2.2.2.2.1 (rsd rs k), rs, tags) := by
            unfold actK; rw [if_neg (by rw [q1]; decide), if_neg (by omega), if_pos q3, if_pos hk]
          rw [ea]
          refine V_run D [] 51 rfl trivial ?_
          refine V_chV (av := [.inr (.inr m), .inr (.inr o)]) (st := []) D mwX7_answerGet rfl lkX7_X7_answerGet (s_answerGet a1 a4 m1 hx (by omega) hxt hg1 hm hok q1) a1 rfl ⟨Nat.le_refl _, Nat.le_refl _⟩ (fun r I2 N2 P2 => ?_)
          obtain ⟨rfl, F2, M2⟩ := P2
          have C2 := C1.ans F2 M2
          exact V_iret D rfl rfl ⟨rfl, rfl, _, _, rfl, F1.trans C2.1, C2.2⟩
      · have er : rref N1 (q + 1) rs (k : Int) = 0 := by unfold rref; rw [if_neg (by omega)]
        rw [er]
        refine V_run D [] 45 rfl ⟨hmT, trivial⟩ ?_
        rw [hc61]
        refine V_ine D 55 rfl rfl (by constructor <;> omega) (by omega) (fun q3 => ?_) (fun q3 => ?_)
        · refine V_run D [] 57 rfl trivial ?_
          refine V_askS (av := [.inr (.inr m), .inr (.inr 0)]) (st := []) D mwX7_failsCondition rfl lkX7_X7_failsCondition (s_failsNone hg1 hr) rfl ⟨Nat.le_refl _, Nat.le_refl _⟩ ?_
          refine V_eq D 67 rfl rfl (b01_in _) (fun q4 => ?_) (fun q4 => ?_)
          · rw [b01_0] at q4
            refine V_run D [] 72 rfl ⟨hmT, trivial⟩ ?_
            rw [hc61]
            refine V_ine D 82 rfl rfl (by constructor <;> omega) (by omega) (fun q5 => ?_) (fun q5 => ?_)
            · refine V_run D [] 87 rfl ⟨hmT, trivial⟩ ?_
              rw [hc61]
              refine V_ine D 99 rfl rfl (by constructor <;> omega) (by omega) (fun q6 => ?_) (fun q6 => ?_)
              · have ea : actK k rs tags g = ((66, [], []), rs, tags) := by
                  unfold actK; rw [if_neg (by rw [q1]; decide), if_neg (by omega), if_neg q3, if_neg hk, if_neg (by rw [q4]; decide), if_neg q5, if_neg q6]; rw [if_neg hk]
                rw [ea]
                refine V_run D [] 101 rfl trivial ?_
                refine V_chV (av := [.inr (.inr 0)]) (st := []) D mwX7_answerDelete rfl lkX7_X7_answerDelete (s_deleteNone C1) a1 rfl ⟨Nat.le_refl _, Nat.le_refl _⟩ (fun r I2 N2 P2 => ?_)
                obtain ⟨rfl, F2, C2⟩ := P2
                exact V_iret D rfl rfl ⟨rfl, rfl, _, _, rfl, F1.trans F2, C2⟩
              · refine V_run D [] 93 rfl trivial ?_
                by_cases hl : rs.length < 16
                · have ea : actK k rs tags g = ((65, [(4, hib ((tags + 1) % 65536) 2)], []), rs ++ [(pth g.2.2.2.2.1, g.2.2.2.2.2, (tags + 1) % 65536)], (tags + 1) % 65536) := by
                    unfold actK; rw [if_neg (by rw [q1]; decide), if_neg (by omega), if_neg q3, if_neg hk, if_neg (by rw [q4]; decide), if_neg q5, if_pos q6]; rw [if_neg hk]; rw [if_pos hl]
                  rw [ea]
                  refine V_chV (av := [.inr (.inr m), .inr (.inr 0)]) (st := []) D mwX7_answerPut rfl lkX7_X7_answerPut (s_putNew C1 hl hg1 hm ht) a1 rfl ⟨Nat.le_refl _, Nat.le_refl _⟩ (fun r I2 N2 P2 => ?_)
                  obtain ⟨rfl, F2, C2⟩ := P2
                  refine V_run D [] 104 rfl trivial ?_
                  exact V_iret D rfl rfl ⟨rfl, rfl, _, _, rfl, F1.trans F2, C2⟩
                · have ea : actK k rs tags g = ((143, [], []), rs, tags) := by
                    unfold actK; rw [if_neg (by rw [q1]; decide), if_neg (by omega), if_neg q3, if_neg hk, if_neg (by rw [q4]; decide), if_neg q5, if_pos q6]; rw [if_neg hk]; rw [if_neg hl]
                  rw [ea]
                  refine V_chV (av := [.inr (.inr m), .inr (.inr 0)]) (st := []) D mwX7_answerPut rfl lkX7_X7_answerPut (s_putFullS C1 hl) a1 rfl ⟨Nat.le_refl _, Nat.le_refl _⟩ (fun r I2 N2 P2 => ?_)
                  obtain ⟨rfl, F2, C2⟩ := P2
                  refine V_run D [] 104 rfl trivial ?_
                  exact V_iret D rfl rfl ⟨rfl, rfl, _, _, rfl, F1.trans F2, C2⟩
            · have ea : actK k rs tags g = ((132, [], []), rs, tags) := by
                unfold actK; rw [if_neg (by rw [q1]; decide), if_neg (by omega), if_neg q3, if_neg hk, if_neg (by rw [q4]; decide), if_pos q5]; rw [if_neg hk]
              rw [ea]
              refine V_run D [] 78 rfl trivial ?_
              refine V_chV (av := [.inr (.inr m), .inr (.inr 0)]) (st := []) D mwX7_answerPost rfl lkX7_X7_answerPost (s_postNone C1) a1 rfl ⟨Nat.le_refl _, Nat.le_refl _⟩ (fun r I2 N2 P2 => ?_)
              obtain ⟨rfl, F2, C2⟩ := P2
              exact V_iret D rfl rfl ⟨rfl, rfl, _, _, rfl, F1.trans F2, C2⟩
          · have q4' : fails g.2.2.2.2.1 none = true := by cases hh : fails g.2.2.2.2.1 none; exact absurd (b01_0.mpr hh) q4; rfl
            have ea : actK k rs tags g = ((140, [], []), rs, tags) := by
              unfold actK; rw [if_neg (by rw [q1]; decide), if_neg (by omega), if_neg q3, if_neg hk, if_pos q4']
            rw [ea]
            refine V_run D [] 66 rfl trivial ?_
            exact V_iret D rfl rfl ⟨rfl, rfl, _, _, rfl, F1, C1⟩
        · have ea : actK k rs tags g = ((132, [], []), rs, tags) := by
            unfold actK; rw [if_neg (by rw [q1]; decide), if_neg (by omega), if_pos q3, if_neg hk]
          rw [ea]
          refine V_run D [] 51 rfl trivial ?_
          refine V_chV (av := [.inr (.inr m), .inr (.inr 0)]) (st := []) D mwX7_answerGet rfl lkX7_X7_answerGet (s_answerGetNone m1) a1 rfl ⟨Nat.le_refl _, Nat.le_refl _⟩ (fun r I2 N2 P2 => ?_)
          obtain ⟨rfl, F2, M2⟩ := P2
          have C2 := C1.ans F2 M2
          exact V_iret D rfl rfl ⟨rfl, rfl, _, _, rfl, F1.trans C2.1, C2.2⟩
    · have ea : actK k rs tags g = ((133, [], []), rs, tags) := by
        unfold actK; rw [if_neg (by rw [q1]; decide), if_pos (by omega)]
      rw [ea]
      refine V_run D [] 22 rfl trivial ?_
      exact V_iret D rfl rfl ⟨rfl, rfl, _, _, rfl, SvF.rf, hC⟩
  · have q1' : hBad g.2.2.2.2.1 = true := by cases hh : hBad g.2.2.2.2.1; exact absurd (b01_0.mpr hh) q1; rfl
    have ea : actK k rs tags g = ((130, [], []), rs, tags) := by unfold actK; rw [if_pos q1']
    rw [ea]
    refine V_run D [] 10 rfl trivial ?_
    exact V_iret D rfl rfl ⟨rfl, rfl, _, _, rfl, SvF.rf, hC⟩
end XSv6
end
section
/-! what holds of messages that were read, and of answers -/
theorem OsOk.snoc : ∀ {os : List Opt} {b n : Int} {v : List Int}, OsOk b os → (∀ q ∈ os, q.1 ≤ n) → b ≤ n → n ≤ 65535 → BsOk v → v.length ≤ 400 → OsOk b (os ++ [(n, v)])
  | [], _, _, _, _, _, h1, h2, h3, h4 => ⟨h1, h2, h3, h4, trivial⟩
  | _ :: _, _, _, _, ⟨a1, a2, a3, a4, a5⟩, h0, _, h2, h3, h4 => ⟨a1, a2, a3, a4, a5.snoc (fun q hq => h0 q (List.mem_cons_of_mem _ hq)) (h0 _ (List.mem_cons_self ..)) h2 h3 h4⟩
theorem OsOk.take : ∀ {os : List Opt} {b : Int} (n : Nat), OsOk b os → OsOk b (os.take n)
  | [], _, 0, _ => trivial
  | [], _, _ + 1, _ => trivial
  | _ :: _, _, 0, _ => trivial
  | _ :: _, _, n + 1, ⟨a1, a2, a3, a4, a5⟩ => ⟨a1, a2, a3, a4, a5.take n⟩
def sumv : List Opt → Nat
  | [] => 0
  | q :: r => q.2.length + sumv r
theorem sumv_app : ∀ (a b : List Opt), sumv (a ++ b) = sumv a + sumv b
  | [], b => by simp [sumv]
  | q :: r, b => by simp [sumv, sumv_app r b]; omega
theorem sumv_take (os : List Opt) (n : Nat) : sumv (os.take n) ≤ sumv os := by
  have h : sumv os = sumv (os.take n) + sumv (os.drop n) := by rw [← sumv_app, List.take_append_drop]
  omega
theorem pe_le : ∀ (os : List Opt), (pe (pth os)).length ≤ 2 * os.length + sumv os
  | [] => by simp [pe, pth]
  | q :: r => by
    have h := pe_le r
    have e : pth (q :: r) = pth [q] ++ pth r := pth_app [q] r
    rw [e, pe_app, List.length_append]
    have h2 : (pe (pth [q])).length ≤ 2 + q.2.length := by
      unfold pth pe
      by_cases hq : q.1 = 11
      · simp [hq, hib_len]
      · simp [hq]
    simp only [sumv, List.length_cons]
    omega
theorem BsOk.take {xs : List Int} (h : BsOk xs) (n : Nat) : BsOk (xs.take n) := fun v hv => h v (List.mem_of_mem_take hv)
theorem BsOk.drop {xs : List Int} (h : BsOk xs) (n : Nat) : BsOk (xs.drop n) := fun v hv => h v (List.mem_of_mem_drop hv)
theorem prun_ok {xs : List Int} (hx : BsOk xs) : ∀ (k p : Nat) (num : Int) (acc : List Opt) (p' : Nat) (os : List Opt), p ≤ xs.length → 0 ≤ num → num ≤ 65535 → OsOk 0 acc → (∀ q ∈ acc, q.1 ≤ num) → sumv acc ≤ p → prun xs k p num acc = some (p', os) → OsOk 0 os ∧ sumv os ≤ p' ∧ p' ≤ xs.length
  | 0, p, num, acc, p', os, h1, h2, h3, h4, h5, h6, h => by
    unfold prun at h
    cases h
    exact ⟨h4, h6, h1⟩
  | k + 1, p, num, acc, p', os, h1, h2, h3, h4, h5, h6, h => by
    unfold prun at h
    split at h
    · rename_i hp
      split at h
      · cases h
      · rename_i num' fr n hs
        have hi := pstep_in hx hp.1 hs
        refine prun_ok hx k (fr + n) num' _ p' os hi.2.2.2.2 (by omega) hi.2.1 (h4.snoc (fun q hq => by have := h5 q hq; omega) (by omega) hi.2.1 ((hx.drop fr).take n) (by simp; omega)) (fun q hq => ?_) ?_ h
        · rcases List.mem_append.mp hq with hq | hq
          · have := h5 q hq; omega
          · rw [List.mem_singleton.mp hq]; exact Int.le_refl _
        · rw [sumv_app]
          simp only [sumv, List.length_take, List.length_drop]
          omega
    · cases h
      exact ⟨h4, h6, h1⟩
/-- a message that was read -/
theorem rd_ok {xs : List Int} (hx : BsOk xs) (h : (rd xs).1 = 0) : MOk (rd xs).2 ∧ sumv (rd xs).2.2.2.2.2.1 ≤ xs.length := by
  unfold rd at h ⊢
  split at h
  · cases h
  · rename_i h1
    rw [if_neg h1]
    split at h
    · cases h
    · rename_i h2
      rw [if_neg h2]
      split at h
      · cases h
      · rename_i h3
        rw [if_neg h3]
        split at h
        · cases h
        · rename_i p os hr
          have b0 := hx _ (getD_mem (xs := xs) (j := 0) (by omega))
          have b1 := hx _ (getD_mem (xs := xs) (j := 1) (by omega))
          have b2 := hx _ (getD_mem (xs := xs) (j := 2) (by omega))
          have b3 := hx _ (getD_mem (xs := xs) (j := 3) (by omega))
          obtain ⟨k1, k2, k3⟩ := prun_ok hx _ _ _ ([] : List Opt) _ _ (by omega) (by omega) (by omega) trivial (fun _ h => nomatch h) (by simp [sumv]) hr
          unfold rdE at h ⊢
          split at h
          · cases h
          · rename_i h4
            rw [if_neg h4]
            split at h
            · cases h
            · rename_i h5
              rw [if_neg h5]
              refine ⟨⟨by dsimp only; omega, by dsimp only; omega, by dsimp only; omega, ⟨(hx.drop 4).take _, by dsimp only; rw [List.length_take, List.length_drop]; omega⟩, k1, ?_, ?_⟩, by dsimp only; omega⟩
              · unfold rdP
                split
                · exact hx.drop _
                · exact fun _ h => nomatch h
              · unfold rdP at h4 ⊢
                by_cases hp : p < xs.length
                · rw [if_pos hp] at h4 ⊢
                  dsimp only
                  omega
                · rw [if_neg hp]; simp
def ROk (x : Res) : Prop := (0 ≤ x.2.2 ∧ x.2.2 ≤ 65535) ∧ BsOk x.2.1 ∧ x.2.1.length ≤ 400 ∧ x.1.length ≤ 20 ∧ ∀ v ∈ x.1, BsOk v ∧ v.length ≤ 400
def AOk (x : Int × List Opt × List Int) : Prop := (64 ≤ x.1 ∧ x.1 ≤ 255) ∧ OsOk 0 x.2.1 ∧ BsOk x.2.2 ∧ x.2.2.length ≤ 400 ∧ x.2.1.length ≤ 2 ∧ (wos 0 x.2.1).length ≤ 8
theorem BsOk.nil : BsOk [] := fun _ h => nomatch h
theorem AOk.no {c : Int} (h : 64 ≤ c ∧ c ≤ 255) : AOk (c, [], []) := ⟨h, trivial, BsOk.nil, by simp, by simp, by simp [wos]⟩
theorem AOk.tag {c t : Int} {v : List Int} (h : 64 ≤ c ∧ c ≤ 255) (hv : BsOk v) (hl : v.length ≤ 400) : AOk (c, [(4, hib t 2)], v) := by
  refine ⟨h, ⟨show (0 : Int) ≤ 4 by decide, show (4 : Int) ≤ 65535 by decide, hib_rng _ _, by rw [hib_len]; omega, trivial⟩, hv, hl, by simp, ?_⟩
  simp only [wos, List.append_nil, wo_len, hib_len]
  decide
theorem AOk.blk {c t x : Int} {v : List Int} {f : Nat} (h : 64 ≤ c ∧ c ≤ 255) (hv : BsOk v) (hl : v.length ≤ 400) (hf : f ≤ 3) : AOk (c, [(4, hib t 2), (23, hib x f)], v) := by
  refine ⟨h, ⟨show (0 : Int) ≤ 4 by decide, show (4 : Int) ≤ 65535 by decide, hib_rng _ _, by rw [hib_len]; omega, show (4 : Int) ≤ 23 by decide, show (23 : Int) ≤ 65535 by decide, hib_rng _ _, by rw [hib_len]; omega, trivial⟩, hv, hl, by simp, ?_⟩
  simp only [wos, List.append_nil, List.length_append, wo_len, hib_len]
  have e1 : mb (4 - 0) = 0 := by decide
  have e2 : mb (23 - 4) = 1 := by decide
  have e3 : mb ((2 : Nat) : Int) = 0 := by decide
  have e4 : mb (f : Int) = 0 := by unfold mb; rw [if_pos (by omega)]
  rw [e1, e2, e3, e4]
  omega
theorem blk_ok {x : Int} {w : Res} (hw : ROk w) (hx : 0 ≤ x ∧ x ≤ 1048575 ∧ x % 8 ≤ 6) : AOk (blk x w) := by
  unfold blk
  split
  · exact AOk.no (by decide)
  · have hb : 0 ≤ blT x w.2.1.length ∧ blT x w.2.1.length < 16777216 := by unfold blT; split <;> omega
    have hf := fwb_cases hb.1
    have hl := hw.2.2.1
    refine AOk.blk (by decide) ((hw.2.1.drop _).take _) ?_ (by omega)
    simp only [List.length_take, List.length_drop]
    omega
theorem getA_ok {os : List Opt} {w : Res} (hw : ROk w) (hb : hBad os = false) (hv : ∀ q ∈ os, BsOk q.2) : AOk (getA os w) := by
  unfold getA
  split
  · exact AOk.tag (by decide) BsOk.nil (by simp)
  · split
    · rename_i h
      exact blk_ok hw (hBad_23 hb hv h (fi_at h))
    · split
      · exact blk_ok hw (by decide)
      · exact AOk.tag (by decide) hw.2.1 hw.2.2.1
theorem pth_ok {os : List Opt} (h : OsOk 0 os) : ∀ v ∈ pth os, BsOk v ∧ v.length ≤ 400 := by
  intro v hv
  unfold pth at hv
  rw [List.mem_map] at hv
  obtain ⟨q, hq, e⟩ := hv
  have := h.mem (by omega) q (List.mem_filter.mp hq).1
  rw [← e]
  exact this.2.2
theorem rsd_mem {rs : List Res} {k : Nat} (h : k < rs.length) : rsd rs k ∈ rs := by rw [rsd_get h]; exact List.getElem_mem _
theorem set_ok {rs : List Res} (h : ∀ x ∈ rs, ROk x) {k : Nat} {y : Res} (hy : ROk y) : ∀ x ∈ rs.set k y, ROk x := by
  intro x hx
  rcases List.mem_or_eq_of_mem_set hx with h1 | h1
  · exact h x h1
  · rw [h1]; exact hy
theorem actK_ok {k : Nat} {rs : List Res} {tags : Int} {g : Msg} (h : ∀ x ∈ rs, ROk x) (hl : rs.length ≤ 16) (ht : 0 ≤ tags ∧ tags ≤ 65535) (hok : MOk g) (hos : g.2.2.2.2.1.length ≤ 20) : AOk (actK k rs tags g).1 ∧ (∀ x ∈ (actK k rs tags g).2.1, ROk x) ∧ (actK k rs tags g).2.1.length ≤ 16 ∧ 0 ≤ (actK k rs tags g).2.2 ∧ (actK k rs tags g).2.2 ≤ 65535 := by
  have hp := pth_ok hok.2.2.2.2.1
  have hpl := pth_len_le g.2.2.2.2.1
  unfold actK
  by_cases h1 : hBad g.2.2.2.2.1 = true
  · rw [if_pos h1]; exact ⟨AOk.no (by decide), h, hl, ht⟩
  rw [if_neg h1]
  by_cases h2 : 4 < g.2.1
  · rw [if_pos h2]; exact ⟨AOk.no (by decide), h, hl, ht⟩
  rw [if_neg h2]
  by_cases h3 : g.2.1 = 1
  · rw [if_pos h3]
    refine ⟨?_, h, hl, ht⟩
    dsimp only
    by_cases hk : k < rs.length
    · rw [if_pos hk]
      exact getA_ok (h _ (rsd_mem hk)) (by simpa using h1) (fun q hq => (hok.2.2.2.2.1.mem (by omega) q hq).2.2.1)
    · rw [if_neg hk]; exact AOk.no (by decide)
  rw [if_neg h3]
  generalize (if k < rs.length then some (rsd rs k).2.2 else none) = o4
  by_cases h4 : fails g.2.2.2.2.1 o4 = true
  · rw [if_pos h4]; exact ⟨AOk.no (by decide), h, hl, ht⟩
  rw [if_neg h4]
  by_cases h5 : g.2.1 = 2
  · rw [if_pos h5]
    by_cases hk : k < rs.length
    · rw [if_pos hk]
      have hx := h _ (rsd_mem hk)
      by_cases hf : (rsd rs k).2.1.length + g.2.2.2.2.2.length ≤ 400
      · rw [if_pos hf]
        refine ⟨AOk.tag (by decide) BsOk.nil (by simp), set_ok h ⟨by dsimp only; omega, fun v hv => ?_, by simpa using hf, hx.2.2.2⟩, by simpa using hl, by dsimp only; omega, by dsimp only; omega⟩
        rcases List.mem_append.mp hv with h5 | h5
        · exact hx.2.1 v h5
        · exact hok.2.2.2.2.2.1 v h5
      · rw [if_neg hf]; exact ⟨AOk.no (by decide), h, hl, ht⟩
    · rw [if_neg hk]; exact ⟨AOk.no (by decide), h, hl, ht⟩
  rw [if_neg h5]
  by_cases h6 : g.2.1 = 3
  · rw [if_pos h6]
    by_cases hk : k < rs.length
    · rw [if_pos hk]
      have hx := h _ (rsd_mem hk)
      exact ⟨AOk.tag (by decide) BsOk.nil (by simp), set_ok h ⟨by dsimp only; omega, hok.2.2.2.2.2.1, hok.2.2.2.2.2.2, hx.2.2.2⟩, by simpa using hl, by dsimp only; omega, by dsimp only; omega⟩
    · rw [if_neg hk]
      by_cases hl2 : rs.length < 16
      · rw [if_pos hl2]
        refine ⟨AOk.tag (by decide) BsOk.nil (by simp), fun x hx => ?_, by simp; omega, by dsimp only; omega, by dsimp only; omega⟩
        rcases List.mem_append.mp hx with h5 | h5
        · exact h x h5
        · rw [List.mem_singleton.mp h5]
          exact ⟨by dsimp only; omega, hok.2.2.2.2.2.1, hok.2.2.2.2.2.2, by dsimp only; omega, hp⟩
      · rw [if_neg hl2]; exact ⟨AOk.no (by decide), h, hl, ht⟩
  rw [if_neg h6]
  refine ⟨AOk.no (by decide), ?_, ?_, ht⟩
  · dsimp only
    by_cases hk : k < rs.length
    · rw [if_pos hk]; exact fun x hx => h x (List.mem_of_mem_eraseIdx hx)
    · rw [if_neg hk]; exact h
  · dsimp only
    by_cases hk : k < rs.length
    · rw [if_pos hk, List.length_eraseIdx]; split <;> omega
    · rw [if_neg hk]; exact hl
end
section
/-! the server whole -/
/-- (resources, tags), (served, repeated, own ID), for each peer its latest and how many there were -/
abbrev Sv : Type := (List Res × Int) × (Int × Int × Int) × (Nat → List Opt × Nat)
def ansM (s : Sv) (g : Msg) : Msg := ((if g.1 = 0 then 2 else 1), (act s.1.1 s.1.2 g).1.1, (if g.1 = 0 then g.2.2.1 else s.2.1.2.2), g.2.2.2.1, (act s.1.1 s.1.2 g).1.2.1, (act s.1.1 s.1.2 g).1.2.2)
def tk (s : Sv) (g : Msg) (p : Nat) : Int × List Int × Sv :=
  if 1 < g.1 then (-1, [], s) else
  if g.2.1 = 0 ∨ 31 < g.2.1 then (if g.1 = 0 then (0, wr (3, 0, g.2.2.1, [], [], []), s) else (-1, [], s)) else
  if fi g.2.2.1 (s.2.2 p).1 < 8 then (bat (od (s.2.2 p).1 (fi g.2.2.1 (s.2.2 p).1)).2 1, (od (s.2.2 p).1 (fi g.2.2.1 (s.2.2 p).1)).2, (s.1, (s.2.1.1, s.2.1.2.1 + 1, s.2.1.2.2), s.2.2)) else
  ((act s.1.1 s.1.2 g).1.1, wr (ansM s g), ((act s.1.1 s.1.2 g).2, (s.2.1.1 + 1, s.2.1.2.1, (if g.1 = 0 then s.2.1.2.2 else (s.2.1.2.2 + 1) % 65536)), va_up s.2.2 p ((s.2.2 p).1.set ((s.2.2 p).2 % 8) (g.2.2.1, wr (ansM s g)), (s.2.2 p).2 + 1)))
def PrOk (x : List Opt × Nat) : Prop := x.1.length = 8 ∧ ∀ j, j < 8 → (x.2 ≤ j → (od x.1 j).1 = -1) ∧ (j < x.2 → (0 ≤ (od x.1 j).1 ∧ (od x.1 j).1 ≤ 65535) ∧ BsOk (od x.1 j).2 ∧ 2 ≤ (od x.1 j).2.length ∧ (od x.1 j).2.length ≤ 421)
def SvOk (s : Sv) : Prop := (∀ x ∈ s.1.1, ROk x) ∧ s.1.1.length ≤ 16 ∧ (0 ≤ s.1.2 ∧ s.1.2 ≤ 65535) ∧ (0 ≤ s.2.1.2.2 ∧ s.2.1.2.2 ≤ 65535) ∧ ∀ k, k < 10 → PrOk (s.2.2 k)
def SvAt (T : xY) (I : xI) (N : xN) (q : Nat) (s : Sv) : Prop := (∃ a v n, SvC T I N q s.1.1 s.1.2 a v n) ∧ (I q 5 = s.2.1.1 ∧ I q 6 = s.2.1.2.1 ∧ I q 7 = s.2.1.2.2) ∧ ∀ k, k < 10 → PAt T I N (q + 98 + 26 * k) (s.2.2 k).1 ((s.2.2 k).2 % 8)
section XSv7
variable {Γ : xG} {E : xE} {z : Nat} {T : xY} {I : xI} {N : xN} {q o m most p b room : Nat} {n : Int} {v xs : List Int} {a g : Msg} {lat : Option Nat} {w : Res} {ty co id tags : Int} {tok : List Int} {rs : List Res} {s : Sv}
theorem SvC.kept (h : SvC T I N q rs tags a v n) {I' : xI} {N' : xN} (hk : ∀ a, q ≤ a → a < q + 98 → I' a = I a ∧ N' a = N a) : SvC T I' N' q rs tags a v n := by
  obtain ⟨⟨a1, a2, a3, a4, a5, a6, a7⟩, b1, c1, ⟨lat, c2⟩, c3⟩ := h
  have hq := hk q (by omega) (by omega)
  exact ⟨⟨a1, by rw [hq.2]; exact a2, by rw [hq.2]; exact a3, by rw [hq.2]; exact a4, by rw [hq.2]; exact a5, a6, fun k h => by rw [(hk (q + 83) (by omega) (by omega)).2]; exact a7 k h⟩, by rw [hq.1]; exact b1, c1.kept (fun a h1 h2 => hk a (by omega) (by omega)), ⟨lat, c2.kept (fun a h1 h2 => hk a (by omega) (by omega))⟩, c3.kept (hk _ (by omega) (by omega)).1 (hk _ (by omega) (by omega)).1 (hk _ (by omega) (by omega)).2⟩
theorem SvAt.kept (h : SvAt T I N q s) {I' : xI} {N' : xN} (hk : ∀ a, q ≤ a → a < q + 358 → I' a = I a ∧ N' a = N a) : SvAt T I' N' q s := by
  obtain ⟨⟨a, v, n, h1⟩, h2, h3⟩ := h
  have hq := hk q (by omega) (by omega)
  exact ⟨⟨a, v, n, h1.kept (fun a h1 h2 => hk a h1 (by omega))⟩, by rw [hq.1]; exact h2, fun k hk1 => (h3 k hk1).kept (fun a h1 h2 => hk a (by omega) (by omega))⟩
/-- a field of the server's own -/
theorem SvC.own (h : SvC T I N q rs tags a v n) {j : Nat} (hj : j ≠ 4) (x : Int) : SvC T (xup I q j x) N q rs tags a v n := by
  obtain ⟨⟨a1, a2, a3, a4, a5, a6, a7⟩, b1, c1, ⟨lat, c2⟩, c3⟩ := h
  refine ⟨⟨a1, a2, a3, a4, a5, a6, a7⟩, ?_, c1.kept (fun a h1 h2 => ⟨xup_ne (by omega), rfl⟩), ⟨lat, c2.kept (fun a h1 h2 => ⟨xup_ne (by omega), rfl⟩)⟩, c3.kept (xup_ne (by omega)) (xup_ne (by omega)) rfl⟩
  rw [xup_at]; unfold va_up; rw [if_neg (by omega)]; exact b1
theorem MAt.setCode (h : MAt T I N m most g lat) (x : Int) : MAt T (xup I m 6 x) N m most (g.1, x, g.2.2.1, g.2.2.2.1, g.2.2.2.2.1, g.2.2.2.2.2) lat := by
  obtain ⟨⟨a1, a2, a3, a4, a5, a6, a7, a8⟩, ⟨b1, b2, b3⟩, c1, c2, ⟨f, f1, f2, f3, f4⟩, l1⟩ := h
  refine ⟨⟨a1, a2, a3, a4, a5, a6, ?_, a8⟩, ⟨?_, ?_, ?_⟩, c1.kept (xup_ne (by omega)) (xup_ne (by omega)) rfl, c2.kept (xup_ne (by omega)) (xup_ne (by omega)) rfl, ⟨f, f1, f2, ?_, ?_⟩, l1⟩
  · rw [xup_at]; exact a7
  · rw [xup_at]; exact b1
  · rw [xup_at]; rfl
  · rw [xup_at]; exact b3
  · intro k hk
    obtain ⟨n, v, h⟩ := f3 k hk
    exact ⟨n, v, h.kept (fun a h1 h2 => ⟨xup_ne (by omega), rfl⟩)⟩
  · intro j hj
    exact (f4 j hj).kept (fun a h1 h2 => ⟨xup_ne (by omega), rfl⟩)
def beginP (T : xY) (I : xI) (N : xN) (q : Nat) (rs : List Res) (tags : Int) (g : Msg) (own : Int) (v : List Int) (n : Int) : Option xV → xI → xN → Prop := fun r I' N' => r = none ∧ RCh q (q + 98) I N I' N' ∧ (∀ j, j ≠ 7 → I' q j = I q j) ∧ I' q 7 = (if g.1 = 0 then own else (own + 1) % 65536) ∧ SvC T I' N' q rs tags ((if g.1 = 0 then 2 else 1), 0, (if g.1 = 0 then g.2.2.1 else own), g.2.2.2.1, [], []) v n
theorem s_beginAnswer {own : Int} (hC : SvC T I N q rs tags a v n) (hg : MAt T I N m 20 g lat) (hm : m + 66 ≤ q ∨ q + 98 ≤ m) (hok : MOk g) (ho : I q 7 = own) (hor : 0 ≤ own ∧ own ≤ 65535) :
    Spec mX7_beginAnswer 3 [.inr (.inr q), .inr (.inr m)] z T I N 0 0 (xCg z T (beginP T I N q rs tags g own v n)) := by
  obtain ⟨⟨a1, a2, a3, a4, a5, a6, a7⟩, b1, c1, ⟨lat0, c2⟩, c3⟩ := _root_.id hC
  have hmT := hg.1.1
  refine Spec_of okX7_beginAnswer (by decide) (by decide) (Nat.le_of_ble_eq_true rfl) fun Γ E D => ?_
  have tail : ∀ (I1 : xI) (N1 : xN), RCh q (q + 98) I N I1 N1 → (∀ j, j ≠ 7 → I1 q j = I q j) → I1 q 7 = (if g.1 = 0 then own else (own + 1) % 65536) → SvC T I1 N1 q rs tags ((if g.1 = 0 then 2 else 1), 0, (if g.1 = 0 then g.2.2.1 else own), [], [], []) v n →
      V Γ E (xQ Γ E (xCg z T (beginP T I N q rs tags g own v n)) 0 0) z T I1 N1 0 0 49 (xlv [some (.inr (.inr q)), some (.inr (.inr m))]) [] := fun I1 N1 F1 f1 f7 C1 => by
    have hg1 : MAt T I1 N1 m 20 g lat := RCh.mat hg F1 hm
    obtain ⟨⟨-, -, -, d4, -⟩, -, -, ⟨lat1, m1⟩, -⟩ := _root_.id C1
    have t1 := m1.2.2.1
    have t2 := hg1.2.2.1
    refine V_run D [] 60 rfl ⟨hmT, by rw [d4]; exact m1.1.1, a1, trivial⟩ ?_
    rw [d4, m1.1.2.1, hg1.1.2.1]
    refine V_putB (av := [.inr (.inr (m + 1))]) (st := []) D mwX0_addAll rfl lkX7_X0_addAll (s_addAll t1 t2 (by omega)) t1.1 rfl ⟨Nat.le_refl _, Nat.le_refl _⟩ (fun I2 e2 d2 => ?_)
    have hl := hok.2.2.2.1.2
    rw [if_pos (by show 0 + _ ≤ 8; omega)] at d2
    have m2 := m1.setTok e2 d2
    have C2 := C1.ans (I' := I2) (N' := N1) (fun a ha => ⟨e2 a (by omega) (by omega), rfl⟩) ⟨_, m2⟩
    have eq2 : I2 q = I1 q := e2 q (by omega) (by omega)
    exact V_vret D rfl rfl ⟨rfl, rfl, rfl, F1.trans C2.1.1, fun j hj => by rw [eq2]; exact f1 j hj, by rw [eq2]; exact f7, C2.2⟩
  refine V_run D [] 4 rfl ⟨hmT, trivial⟩ ?_
  rw [hg.2.1.1]
  have h01 := hok.1
  refine V_ne D 23 rfl rfl (by constructor <;> omega) (fun q1 => ?_) (fun q1 => ?_)
  · rw [if_neg q1, if_neg q1, if_neg q1] at tail
    refine V_run D [] 33 rfl ⟨a1, a1, trivial⟩ ?_
    rw [a4, ho]
    refine V_chV (av := [.inl 1, .inl 0, .inl own]) (st := []) D mwX1_restart rfl lkX7_X1_restart (s_restart c2) c2.1.1 rfl ⟨Nat.le_refl _, Nat.le_refl _⟩ (fun r I1 N1 P1 => ?_)
    obtain ⟨rfl, f1, m1⟩ := P1
    have C1 := hC.ans (f1.wide (by omega) (by omega)) ⟨_, m1⟩
    have eq1 := f1 q (by omega)
    have e9 : zAnd (I1 q 7 + 1) 65535 = (own + 1) % 65536 := by rw [eq1.1, ho, zAndM _ 16 65535 (by omega) (by decide)]; omega
    refine V_run D [49] 49 rfl ⟨a1, a1, trivial⟩ ?_
    rw [e9]
    refine V_loc [some (.inr (.inr q)), some (.inr (.inr m))] rfl ?_
    refine tail _ N1 (fun a ha => ⟨by rw [xup_ne (by omega)]; exact (f1 a (by omega)).1, (f1 a (by omega)).2⟩) (fun j hj => ?_) ?_ (C1.2.own (by decide) _)
    · rw [xup_at]; unfold va_up; rw [if_neg hj, eq1.1]
    · rw [xup_at]; rfl
  · rw [if_pos q1, if_pos q1, if_pos q1] at tail
    refine V_run D [] 17 rfl ⟨hmT, a1, trivial⟩ ?_
    rw [a4, hg.2.1.2.2]
    refine V_chV (av := [.inl 2, .inl 0, .inl g.2.2.1]) (st := []) D mwX1_restart rfl lkX7_X1_restart (s_restart c2) c2.1.1 rfl ⟨Nat.le_refl _, Nat.le_refl _⟩ (fun r I1 N1 P1 => ?_)
    obtain ⟨rfl, f1, m1⟩ := P1
    have C1 := hC.ans (f1.wide (by omega) (by omega)) ⟨_, m1⟩
    have eq1 := f1 q (by omega)
    refine V_run D [49] 49 rfl trivial ?_
    refine V_loc [some (.inr (.inr q)), some (.inr (.inr m))] rfl ?_
    exact tail _ N1 (f1.wide (by omega) (by omega)) (fun j hj => by rw [eq1.1]) (by rw [eq1.1]; exact ho) C1.2
theorem s_sendReset {i : Int} (hC : SvC T I N q rs tags a v n) (hi : 0 ≤ i ∧ i ≤ 65535) (hB : BAt T I N b room xs) (hb : b + 2 ≤ q + 84 ∨ q + 96 ≤ b) (hfit : xs.length + 4 ≤ room) :
    Spec mX7_sendReset 5 [.inr (.inr q), .inl i, .inr (.inr b)] z T I N 0 0 (xCg z T fun r I' N' => r = some (.inl 0) ∧ (∀ a, (a < q + 84 ∨ q + 96 ≤ a) → a ≠ b → a ≠ b + 1 → I' a = I a) ∧ (∀ a, (a < q + 84 ∨ q + 96 ≤ a) → N' a = N a) ∧ (∃ lat, MAt T I' N' (q + 84) 2 (3, 0, i, [], [], []) lat) ∧ BAt T I' N' b room (xs ++ wr (3, 0, i, [], [], []))) := by
  obtain ⟨⟨a1, a2, a3, a4, a5, a6, a7⟩, b1, c1, ⟨lat0, c2⟩, c3⟩ := _root_.id hC
  refine Spec_of okX7_sendReset (by decide) (by decide) (Nat.le_of_ble_eq_true rfl) fun Γ E D => ?_
  refine V_run D [] 7 rfl ⟨a1, trivial⟩ ?_
  rw [a4]
  refine V_chV (av := [.inl 3, .inl 0, .inl i]) (st := []) D mwX1_restart rfl lkX7_X1_restart (s_restart c2) c2.1.1 rfl ⟨Nat.le_refl _, Nat.le_refl _⟩ (fun r I1 N1 P1 => ?_)
  obtain ⟨rfl, f1, m1⟩ := P1
  have hB1 : BAt T I1 N1 b room xs := hB.kept (f1 _ (by omega)).1 (f1 _ (by omega)).1 (f1 _ (by omega)).2
  have hN1 : N1 q 2 = q + 84 := by rw [(f1 q (by omega)).2]; exact a4
  refine V_run D [] 15 rfl ⟨a1, trivial⟩ ?_
  rw [hN1]
  have hok : MOk (3, 0, i, [], [], []) := ⟨by dsimp only; omega, by dsimp only; omega, hi, ⟨BsOk.nil, by simp⟩, trivial, BsOk.nil, by simp⟩
  have hwl : (wr (3, 0, i, [], [], [])).length = 4 := by rw [wr_len]; rfl
  refine V_putB (av := [.inr (.inr b)]) (st := []) D mwX1_writeBehind rfl lkX7_X1_writeBehind (s_behind m1 hok hB1 (by omega) (by rw [hwl]; exact hfit)) c2.1.1 rfl ⟨Nat.le_refl _, Nat.le_refl _⟩ (fun I2 e2 d2 => ?_)
  refine V_run D [] 19 rfl trivial ?_
  refine V_iret D rfl rfl ⟨rfl, rfl, rfl, fun a h1 h2 h3 => ?_, fun a h1 => (f1 a (by omega)).2, ⟨none, m1.kept (fun a h1 h2 => ⟨e2 a (by omega) (by omega), rfl⟩)⟩, d2⟩
  rw [e2 a h2 h3]; exact (f1 a (by omega)).1
end XSv7
end
section
section XSv8
variable {Γ : xG} {E : xE} {z : Nat} {T : xY} {I : xI} {N : xN} {q o m most p b room : Nat} {n : Int} {v xs : List Int} {a g : Msg} {lat : Option Nat} {w : Res} {ty co id tags : Int} {tok : List Int} {rs : List Res} {s : Sv}
theorem ansM_ok (hs : SvOk s) (hok : MOk g) (hos : g.2.2.2.2.1.length ≤ 20) : MOk (ansM s g) ∧ (wr (ansM s g)).length ≤ 421 := by
  obtain ⟨k1, k2, k3, k4, k5⟩ := (actK_ok (k := rfi (pe (pth g.2.2.2.2.1)) s.1.1) hs.1 hs.2.1 hs.2.2.1 hok hos).1
  have e1 : (act s.1.1 s.1.2 g).1 = (actK (rfi (pe (pth g.2.2.2.2.1)) s.1.1) s.1.1 s.1.2 g).1 := rfl
  rw [← e1] at k1 k2 k3 k4 k5
  have ho := hs.2.2.2.1
  have hid := hok.2.2.1
  refine ⟨⟨?_, ?_, ?_, hok.2.2.2.1, k2, k3, k4⟩, ?_⟩
  · unfold ansM; dsimp only; split <;> omega
  · unfold ansM; dsimp only; omega
  · unfold ansM; dsimp only; split <;> omega
  · rw [wr_len]
    have h1 : (ansM s g).2.2.2.1.length ≤ 8 := hok.2.2.2.1.2
    have h2 : (wos 0 (ansM s g).2.2.2.2.1).length ≤ 8 := k5.2
    have h3 : (ansM s g).2.2.2.2.2.length ≤ 400 := k4
    split <;> omega
theorem bat_wr (g : Msg) : bat (wr g) 1 = g.2.1 := by
  unfold bat
  have h := wr_len g
  rw [if_pos (by omega)]
  rfl
def takeP (T : xY) (I : xI) (N : xN) (q b : Nat) (x : Int × List Int × Sv) : Option xV → xI → xN → Prop := fun r I' N' => r = some (.inl x.1) ∧ (∀ a, (a < q ∨ q + 358 ≤ a) → a ≠ b → a ≠ b + 1 → I' a = I a) ∧ (∀ a, (a < q ∨ q + 358 ≤ a) → N' a = N a) ∧ SvAt T I' N' q x.2.2 ∧ BAt T I' N' b 2000 x.2.1
set_option maxHeartbeats 1000000 in
theorem s_take (hS : SvAt T I N q s) (hs : SvOk s) (hg : MAt T I N m 20 g lat) (hok : MOk g) (hfit : (pe (pth g.2.2.2.2.1)).length ≤ 2040) (hp : p < 10) (hB : BAt T I N b 2000 []) (hm : m + 66 ≤ q ∨ q + 358 ≤ m) (hb : b + 2 ≤ q ∨ q + 358 ≤ b) (hbm : b + 2 ≤ m ∨ m + 66 ≤ b) :
    Spec mX7_take 6 [.inr (.inr q), .inr (.inr m), .inl (p : Int), .inr (.inr b)] z T I N 0 0 (xCg z T (takeP T I N q b (tk s g p))) := by
  obtain ⟨⟨a0, v0, n0, hC⟩, ⟨i5, i6, i7⟩, hP⟩ := _root_.id hS
  obtain ⟨⟨a1, a2, a3, a4, a5, a6, a7⟩, b1, c1, ⟨lat0, c2⟩, c3⟩ := _root_.id hC
  have hmT := hg.1.1
  have hos : g.2.2.2.2.1.length ≤ 20 := hg.1.2.2.2.2.2.2.2
  have h01 := hok.1
  have h02 := hok.2.1
  have h03 := hok.2.2.1
  refine Spec_of okX7_take (by decide) (by decide) (Nat.le_of_ble_eq_true rfl) fun Γ E D => ?_
  refine V_run D [] 5 rfl ⟨hmT, trivial⟩ ?_
  rw [hg.2.1.1]
  refine V_ile D 10 rfl rfl (by constructor <;> omega) (by omega) (fun q1 => ?_) (fun q1 => ?_)
  · have reset : (g.2.1 = 0 ∨ 31 < g.2.1) → V Γ E (xQ Γ E (xCg z T (takeP T I N q b (tk s g p))) 0 0) z T I N 0 0 26 (xlv [some (.inr (.inr q)), some (.inr (.inr m)), some (.inl (p : Int)), some (.inr (.inr b))]) [] := fun hc => by
      refine V_run D [] 30 rfl ⟨hmT, trivial⟩ ?_
      rw [hg.2.1.1]
      refine V_ne D 45 rfl rfl (by constructor <;> omega) (fun q2 => ?_) (fun q2 => ?_)
      · have et : tk s g p = (-1, [], s) := by unfold tk; rw [if_neg (by omega), if_pos hc, if_neg q2]
        rw [et]
        refine V_run D [] 46 rfl trivial ?_
        exact V_iret D rfl rfl ⟨rfl, rfl, rfl, fun _ _ _ _ => rfl, fun _ _ => rfl, hS, hB⟩
      · have et : tk s g p = (0, wr (3, 0, g.2.2.1, [], [], []), s) := by unfold tk; rw [if_neg (by omega), if_pos hc, if_pos q2]
        rw [et]
        refine V_run D [] 39 rfl ⟨hmT, trivial⟩ ?_
        rw [hg.2.1.2.2]
        refine V_chV (av := [.inl g.2.2.1, .inr (.inr b)]) (st := []) D mwX7_sendReset rfl lkX7_X7_sendReset (s_sendReset hC h03 hB (by omega) (by simp)) a1 rfl ⟨Nat.le_refl _, Nat.le_refl _⟩ (fun r I1 N1 P1 => ?_)
        obtain ⟨rfl, f1, f2, M1, B1⟩ := P1
        have hq1 := f1 q (by omega) (by omega) (by omega)
        have hnq1 := f2 q (by omega)
        refine V_run D [] 46 rfl trivial ?_
        refine V_iret D rfl rfl ⟨rfl, rfl, rfl, fun a h1 h2 h3 => f1 a (by omega) h2 h3, fun a h1 => f2 a (by omega), ⟨⟨_, v0, n0, ⟨⟨a1, by rw [hnq1]; exact a2, by rw [hnq1]; exact a3, by rw [hnq1]; exact a4, by rw [hnq1]; exact a5, a6, fun k hk => by rw [f2 _ (by omega)]; exact a7 k hk⟩, by rw [hq1]; exact b1, c1.kept (fun a h1 h2 => ⟨f1 a (by omega) (by omega) (by omega), f2 a (by omega)⟩), M1, c3.kept (f1 _ (by omega) (by omega) (by omega)) (f1 _ (by omega) (by omega) (by omega)) (f2 _ (by omega))⟩⟩, by rw [hq1]; exact ⟨i5, i6, i7⟩, fun k hk => (hP k hk).kept (fun a h1 h2 => ⟨f1 a (by omega) (by omega) (by omega), f2 a (by omega)⟩)⟩, B1⟩
    refine V_run D [] 14 rfl ⟨hmT, trivial⟩ ?_
    rw [hg.2.1.2.1]
    refine V_eq D 26 rfl rfl (by constructor <;> omega) (fun q2 => ?_) (fun q2 => ?_)
    · exact V_loc [some (.inr (.inr q)), some (.inr (.inr m)), some (.inl (p : Int)), some (.inr (.inr b))] rfl (reset (Or.inl q2))
    · refine V_run D [] 23 rfl ⟨hmT, trivial⟩ ?_
      rw [hg.2.1.2.1]
      refine V_ile D 47 rfl rfl (by constructor <;> omega) (by omega) (fun q3 => ?_) (fun q3 => ?_)
      · have pp := hP p hp
        have pk := hs.2.2.2.2 p hp
        have har : ∃ k, 3 ≤ k ∧ xAr T (N q 1) k (p : Int) := ⟨6, by omega, 10, by rw [a3]; exact a6, by omega, by omega⟩
        have hrn : ∀ w ∈ (s.2.2 p).1, xIn w.1 := fun w hw => by
          obtain ⟨j, hj, e⟩ := List.mem_iff_getElem.mp hw
          have h7 := pk.1
          have h9 := pk.2 j (by omega)
          rw [← e, ← od_get hj]
          rcases Nat.lt_or_ge j (s.2.2 p).2 with h8 | h8
          · have := (h9.2 h8).1; constructor <;> omega
          · rw [h9.1 h8]; decide
        have tail : ∀ (I1 : xI) (N1 : xN) (s' : Sv) (c : Int) (ys : List Int) (k : Nat), k < 8 → (∀ a, (a < q ∨ q + 358 ≤ a) → I1 a = I a ∧ N1 a = N a) → SvAt T I1 N1 q s' → (od (s'.2.2 p).1 k).2 = ys → ys.length ≤ 421 → bat ys 1 = c → tk s g p = (c, ys, s') →
            V Γ E (xQ Γ E (xCg z T (takeP T I N q b (tk s g p))) 0 0) z T I1 N1 0 0 134 (xlv [some (.inr (.inr q)), some (.inr (.inr m)), some (.inl (p : Int)), some (.inr (.inr b)), some (.inr (.inr (q + 98 + 26 * p + 2 + 3 * k)))]) [] := fun I1 N1 s' c ys k hk f1 S1 hys hyl hc et => by
          rw [et]
          obtain ⟨-, -, P1⟩ := _root_.id S1
          obtain ⟨t1, t2, t3, t4⟩ := (P1 p hp).2.2.2.2.2.2.2 k hk
          rw [hys] at t4
          have hB1 : BAt T I1 N1 b 2000 [] := hB.kept (f1 _ (by omega)).1 (f1 _ (by omega)).1 (f1 _ (by omega)).2
          refine V_run D [] 140 rfl ⟨t1, trivial⟩ ?_
          rw [t2]
          refine V_putB (av := [.inr (.inr (q + 98 + 26 * p + 2 + 3 * k + 1))]) (st := []) D mwX0_addAll rfl lkX7_X0_addAll (s_addAll hB1 t4 (by omega)) hB.1 rfl ⟨Nat.le_refl _, Nat.le_refl _⟩ (fun I2 e2 d2 => ?_)
          rw [if_pos (by show 0 + _ ≤ 2000; omega), List.nil_append] at d2
          have t4' : BAt T I2 N1 (q + 98 + 26 * p + 2 + 3 * k + 1) 421 ys := t4.kept (e2 _ (by omega) (by omega)) (e2 _ (by omega) (by omega)) rfl
          refine V_run D [] 149 rfl ⟨t1, trivial⟩ ?_
          rw [t2]
          refine V_askV (av := [.inl 1]) (st := []) D mwX0_at rfl lkX7_X0_at (s_at t4' (by omega)) t4.1 rfl ⟨Nat.le_refl _, Nat.le_refl _⟩ ?_
          exact V_iret D rfl rfl ⟨rfl, rfl, by rw [hc], fun a h1 h2 h3 => by rw [e2 a h2 h3]; exact (f1 a h1).1, fun a h1 => (f1 a h1).2, S1.kept (fun a h1 h2 => ⟨e2 a (by omega) (by omega), rfl⟩), d2⟩
        refine V_run D [] 57 rfl ⟨hmT, har, a1, trivial⟩ ?_
        rw [a3, Int.toNat_natCast, a7 p hp, hg.2.1.2.2]
        refine V_askV (av := [.inl g.2.2.1]) (st := []) D mwX3_find rfl lkX7_X3_find (s_pfind pp (by constructor <;> omega) hrn) pp.1 rfl ⟨Nat.le_refl _, Nat.le_refl _⟩ ?_
        by_cases hf : fi g.2.2.1 (s.2.2 p).1 < 8
        · have ef : pref (q + 98 + 26 * p) (s.2.2 p).1 g.2.2.1 = q + 98 + 26 * p + 2 + 3 * fi g.2.2.1 (s.2.2 p).1 := by unfold pref; rw [if_pos hf]
          rw [ef]
          have hfl : fi g.2.2.1 (s.2.2 p).1 < (s.2.2 p).1.length := by rw [pk.1]; exact hf
          have hat := fi_at hfl
          have h9 := pk.2 _ hf
          have h8 : fi g.2.2.1 (s.2.2 p).1 < (s.2.2 p).2 := by
            rcases Nat.lt_or_ge (fi g.2.2.1 (s.2.2 p).1) (s.2.2 p).2 with h | h
            · exact h
            · have := h9.1 h; omega
          have et : tk s g p = (bat (od (s.2.2 p).1 (fi g.2.2.1 (s.2.2 p).1)).2 1, (od (s.2.2 p).1 (fi g.2.2.1 (s.2.2 p).1)).2, (s.1, (s.2.1.1, s.2.1.2.1 + 1, s.2.1.2.2), s.2.2)) := by unfold tk; rw [if_neg (by omega), if_neg (by omega), if_pos hf]
          refine V_run D [] 64 rfl trivial ?_
          refine V_null D 80 rfl rfl (fun q4 => absurd q4 (by omega)) (fun q4 => ?_)
          refine V_run D [134] 134 rfl ⟨a1, a1, trivial⟩ ?_
          refine V_loc [some (.inr (.inr q)), some (.inr (.inr m)), some (.inl (p : Int)), some (.inr (.inr b)), some (.inr (.inr (q + 98 + 26 * p + 2 + 3 * fi g.2.2.1 (s.2.2 p).1)))] rfl ?_
          refine tail _ _ (s.1, (s.2.1.1, s.2.1.2.1 + 1, s.2.1.2.2), s.2.2) _ _ _ hf (fun a h1 => ⟨xup_ne (by omega), rfl⟩) ⟨⟨_, _, _, hC.own (by decide) _⟩, ⟨?_, ?_, ?_⟩, fun k hk => (hP k hk).kept (fun a h1 h2 => ⟨xup_ne (by omega), rfl⟩)⟩ rfl (h9.2 h8).2.2.2 rfl et
          · rw [xup_at]; exact i5
          · rw [xup_at]; unfold va_up; rw [if_pos rfl, i6]
          · rw [xup_at]; exact i7
        · have ef : pref (q + 98 + 26 * p) (s.2.2 p).1 g.2.2.1 = 0 := by unfold pref; rw [if_neg hf]
          rw [ef]
          have et : tk s g p = ((act s.1.1 s.1.2 g).1.1, wr (ansM s g), ((act s.1.1 s.1.2 g).2, (s.2.1.1 + 1, s.2.1.2.1, (if g.1 = 0 then s.2.1.2.2 else (s.2.1.2.2 + 1) % 65536)), va_up s.2.2 p ((s.2.2 p).1.set ((s.2.2 p).2 % 8) (g.2.2.1, wr (ansM s g)), (s.2.2 p).2 + 1))) := by unfold tk; rw [if_neg (by omega), if_neg (by omega), if_neg hf]
          obtain ⟨ok1, ok2⟩ := ansM_ok hs hok hos
          refine V_run D [] 64 rfl trivial ?_
          refine V_null D 80 rfl rfl (fun q4 => ?_) (fun q4 => absurd q4 (by omega))
          have hmI : xup I q 5 (I q 5 + 1) m = I m := xup_ne (by omega)
          refine V_run D [] 100 rfl ⟨hmT, har, a1, a1, a1, trivial⟩ ?_
          rw [a3, Int.toNat_natCast, a7 p hp, hmI, hg.2.1.2.2]
          generalize hI0 : xup I q 5 (I q 5 + 1) = I0
          have o0 : ∀ a, a ≠ q → I0 a = I a := fun a h => by rw [← hI0, xup_ne h]
          have q0 : ∀ j, j ≠ 5 → I0 q j = I q j := fun j hj => by rw [← hI0, xup_at]; unfold va_up; rw [if_neg hj]
          have q5 : I0 q 5 = s.2.1.1 + 1 := by rw [← hI0, xup_at]; unfold va_up; rw [if_pos rfl, i5]
          have C0 : SvC T I0 N q s.1.1 s.1.2 a0 v0 n0 := by rw [← hI0]; exact hC.own (by decide) _
          have pp0 : PAt T I0 N (q + 98 + 26 * p) (s.2.2 p).1 ((s.2.2 p).2 % 8) := pp.kept (fun a h1 h2 => ⟨o0 a (by omega), rfl⟩)
          refine V_chV (av := [.inl g.2.2.1]) (st := []) D mwX3_remember rfl lkX7_X3_remember (s_remember pp0) pp.1 rfl ⟨Nat.le_refl _, Nat.le_refl _⟩ (fun r I1 N1 P1 => ?_)
          obtain ⟨rfl, f1, pp1⟩ := P1
          have C1 : SvC T I1 N1 q s.1.1 s.1.2 a0 v0 n0 := C0.kept (fun a h1 h2 => f1 a (by omega))
          have hg1 : MAt T I1 N1 m 20 g lat := hg.kept (fun a h1 h2 => ⟨by rw [(f1 a (by omega)).1, o0 a (by omega)], (f1 a (by omega)).2⟩)
          have hq1 : I1 q = I0 q := (f1 q (by omega)).1
          refine V_run D [] 107 rfl trivial ?_
          refine V_chV (av := [.inr (.inr m)]) (st := []) D mwX7_beginAnswer rfl lkX7_X7_beginAnswer (s_beginAnswer C1 hg1 (by omega) hok (by rw [hq1, q0 7 (by decide)]; exact i7) hs.2.2.2.1) a1 rfl ⟨Nat.le_refl _, Nat.le_refl _⟩ (fun r I2 N2 P2 => ?_)
          obtain ⟨rfl, f2, j2, j7, C2⟩ := P2
          have hg2 : MAt T I2 N2 m 20 g lat := RCh.mat hg1 f2 (by omega)
          obtain ⟨⟨-, -, -, d4, -⟩, -⟩ := _root_.id C2
          refine V_run D [] 116 rfl ⟨a1, trivial⟩ ?_
          rw [d4]
          refine V_chV (av := [.inr (.inr m)]) (st := [.inr (.inr (q + 84))]) D mwX7_decide rfl lkX7_X7_decide (s_decide C2 hg2 (by omega) hok (by omega) hfit hs.2.2.1 (fun x hx => by have := (hs.1 x hx).1; constructor <;> omega)) a1 rfl ⟨Nat.le_refl _, Nat.le_refl _⟩ (fun r I3 N3 P3 => ?_)
          obtain ⟨v3, n3, rfl, F3, C3⟩ := P3
          obtain ⟨⟨-, -, -, d43, -⟩, -, -, ⟨lat3, m3⟩, -⟩ := _root_.id C3
          have f123 : ∀ a, (a < q ∨ q + 98 ≤ a) → I3 a = I1 a ∧ N3 a = N1 a := fun a ha => ⟨((F3.1 a ha).1).trans (f2 a ha).1, ((F3.1 a ha).2).trans (f2 a ha).2⟩
          have pp3 : PAt T I3 N3 (q + 98 + 26 * p) ((s.2.2 p).1.set ((s.2.2 p).2 % 8) (g.2.2.1, [])) (((s.2.2 p).2 % 8 + 1) % 8) := pp1.kept (fun a h1 h2 => f123 a (by omega))
          have h8 : (s.2.2 p).2 % 8 < 8 := by omega
          obtain ⟨t1, t2, t3, t4⟩ := pp3.2.2.2.2.2.2.2 ((s.2.2 p).2 % 8) h8
          have eod : od ((s.2.2 p).1.set ((s.2.2 p).2 % 8) (g.2.2.1, ([] : List Int))) ((s.2.2 p).2 % 8) = (g.2.2.1, []) := by rw [od_set (by rw [pk.1]; exact h8), if_pos rfl]
          rw [eod] at t4
          refine V_run D [] 131 rfl ⟨t1, a1, m3.1.1, trivial⟩ ?_
          rw [d43, t2]
          have m4 := m3.setCode (act s.1.1 s.1.2 g).1.1
          have em : ((((if g.1 = 0 then 2 else 1), 0, (if g.1 = 0 then g.2.2.1 else s.2.1.2.2), g.2.2.2.1, (act s.1.1 s.1.2 g).1.2.1, (act s.1.1 s.1.2 g).1.2.2) : Msg).1, (act s.1.1 s.1.2 g).1.1, (((if g.1 = 0 then 2 else 1), 0, (if g.1 = 0 then g.2.2.1 else s.2.1.2.2), g.2.2.2.1, (act s.1.1 s.1.2 g).1.2.1, (act s.1.1 s.1.2 g).1.2.2) : Msg).2.2.1, g.2.2.2.1, (act s.1.1 s.1.2 g).1.2.1, (act s.1.1 s.1.2 g).1.2.2) = ansM s g := rfl
          have m5 : MAt T (xup I3 (q + 84) 6 (act s.1.1 s.1.2 g).1.1) N3 (q + 84) 2 (ansM s g) lat3 := m4
          generalize hI4 : xup I3 (q + 84) 6 (act s.1.1 s.1.2 g).1.1 = I4 at m5
          have o4 : ∀ a, a ≠ q + 84 → I4 a = I3 a := fun a h => by rw [← hI4, xup_ne h]
          have C4 := C3.ans (I' := I4) (N' := N3) (fun a ha => ⟨o4 a (by omega), rfl⟩) ⟨_, m5⟩
          have t5 : BAt T I4 N3 (q + 98 + 26 * p + 2 + 3 * ((s.2.2 p).2 % 8) + 1) 421 [] := t4.kept (o4 _ (by omega)) (o4 _ (by omega)) rfl
          refine V_putB (av := [.inr (.inr (q + 98 + 26 * p + 2 + 3 * ((s.2.2 p).2 % 8) + 1))]) (st := []) D mwX1_writeBehind rfl lkX7_X1_writeBehind (s_behind m5 ok1 t5 (by omega) (by show 0 + _ ≤ 421; omega)) m3.1.1 rfl ⟨Nat.le_refl _, Nat.le_refl _⟩ (fun I5 e5 d5 => ?_)
          rw [List.nil_append] at d5
          have pp4 : PAt T I4 N3 (q + 98 + 26 * p) ((s.2.2 p).1.set ((s.2.2 p).2 % 8) (g.2.2.1, [])) (((s.2.2 p).2 % 8 + 1) % 8) := pp3.kept (fun a h1 h2 => ⟨o4 a (by omega), rfl⟩)
          have pp5 := pp4.setBytes h8 e5 d5
          rw [eod, List.set_set] at pp5
          refine V_loc [some (.inr (.inr q)), some (.inr (.inr m)), some (.inl (p : Int)), some (.inr (.inr b)), some (.inr (.inr (q + 98 + 26 * p + 2 + 3 * ((s.2.2 p).2 % 8))))] rfl ?_
          have q5' : I5 q = I3 q := by rw [e5 q (by omega) (by omega), o4 q (by omega)]
          have hup : va_up s.2.2 p ((s.2.2 p).1.set ((s.2.2 p).2 % 8) (g.2.2.1, wr (ansM s g)), (s.2.2 p).2 + 1) p = ((s.2.2 p).1.set ((s.2.2 p).2 % 8) (g.2.2.1, wr (ansM s g)), (s.2.2 p).2 + 1) := by unfold va_up; rw [if_pos rfl]
          refine tail I5 N3 _ _ _ ((s.2.2 p).2 % 8) h8 (fun a h1 => ⟨?_, ?_⟩) ⟨⟨_, _, _, C4.2.kept (fun a h1 h2 => ⟨e5 a (by omega) (by omega), rfl⟩)⟩, ⟨?_, ?_, ?_⟩, fun k hk => ?_⟩ ?_ ok2 (bat_wr _) et
          · rw [e5 a (by omega) (by omega), o4 a (by omega), (f123 a (by omega)).1, (f1 a (by omega)).1, o0 a (by omega)]
          · rw [(f123 a (by omega)).2, (f1 a (by omega)).2]
          · rw [q5', F3.2 5 (by decide), j2 5 (by decide), hq1]; exact q5
          · rw [q5', F3.2 6 (by decide), j2 6 (by decide), hq1, q0 6 (by decide)]; exact i6
          · rw [q5', F3.2 7 (by decide)]; exact j7
          · by_cases hkp : k = p
            · subst hkp
              dsimp only
              rw [hup]
              dsimp only
              rw [show ((s.2.2 k).2 + 1) % 8 = ((s.2.2 k).2 % 8 + 1) % 8 by omega]
              exact pp5
            · dsimp only
              have hne : va_up s.2.2 p ((s.2.2 p).1.set ((s.2.2 p).2 % 8) (g.2.2.1, wr (ansM s g)), (s.2.2 p).2 + 1) k = s.2.2 k := by unfold va_up; rw [if_neg hkp]
              rw [hne]
              exact (hP k hk).kept (fun a h1 h2 => ⟨by rw [e5 a (by omega) (by omega), o4 a (by omega), (f123 a (by omega)).1, (f1 a (by omega)).1, o0 a (by omega)], by rw [(f123 a (by omega)).2, (f1 a (by omega)).2]⟩)
          · dsimp only
            rw [hup, od_set (by rw [pk.1]; exact h8), if_pos rfl]
      · exact V_loc [some (.inr (.inr q)), some (.inr (.inr m)), some (.inl (p : Int)), some (.inr (.inr b))] rfl (reset (Or.inr (by omega)))
  · have et : tk s g p = (-1, [], s) := by unfold tk; rw [if_pos (by omega)]
    rw [et]
    refine V_run D [] 9 rfl trivial ?_
    exact V_iret D rfl rfl ⟨rfl, rfl, rfl, fun _ _ _ _ => rfl, fun _ _ => rfl, hS, hB⟩
end XSv8
end
section
/-! methods that may throw -/
def xIA : String := "java/lang/IllegalArgumentException"
def xIS : String := "java/lang/IllegalStateException"
def xUO : String := "java/lang/UnsupportedOperationException"
/-- what is thrown: the class's place in the pool, its constructor's -/
def xThr : List (Nat × Nat × String) := [(47, 51, "java/lang/IllegalArgumentException"), (71, 75, "java/lang/IllegalStateException"), (129, 133, "java/lang/UnsupportedOperationException")]
def xSup : List String := ["java/lang/RuntimeException", "java/lang/Exception"]
theorem xthr_in : ∀ e ∈ xThr, ∀ w ∈ Cond.classLink RX9 e.1 e.2.2 :: Cond.initialized e.2.2 :: vx_atS RX9 e.2.1 e.2.2 xSup, w ∈ lw_tbl ∧ xok w = true ∧ vx_ot w = true := by decide +kernel
theorem xthr_fit : ∀ e ∈ xThr, Bundle.fit e.2.2 = true := by decide +kernel
theorem xsup_fit : ∀ n ∈ xSup, Bundle.fit n = true := by decide +kernel
/-- the texts that come with them -/
def xTx : List (Nat × String) := [(111, "more than 2000 bytes"), (120, "there are not so many bytes at hand"), (131, "more than 20 options"), (143, "what is not 0 .. 5"), (151, "there is no such part"), (153, "there is no such option, or what is not 0 .. 2"), (162, "there is no such peer"), (190, "there is no such resource, or what is not 0 .. 2"), (203, "there would be too many bytes"), (49, "type, code, id or n is out of its range"), (65, "number or n is out of its range"), (73, "there are 20 options"), (85, "n is not 0 .. 8"), (95, "no option was put, or its value would be too long")]
def xStr (U : State) : Prop := ∀ e ∈ xTx, ∃ sa, vk_R RX9 e.1 e.2 sa U
theorem xStr.warm {s U : State} (h : xStr s) (hW : s.WarmedH U.vm) : xStr U := fun e he => by
  obtain ⟨sa, h1⟩ := h e he
  exact ⟨sa, vk_R.warm hW h1⟩
abbrev xXp : Type := String → Nat → xY → xI → xN → Prop
def xTX (E : xE) (xp : xXp) : String → State → State → Prop := fun cls st t => (∃ (z : Nat) (T : xY) (I : xI) (N : xN), xp cls z T I N ∧ xR E z T I N t.heap) ∧ va_F (fun q => E.2.2 ≤ q) st t
/-- THE CONTRACT of a method that may throw -/
def XSpec (M : xM) (lev : Nat) (av : List xV) (z : Nat) (T : xY) (I : xI) (N : xN) (mc ms : Nat) (post : xPo) (xp : xXp) : Prop :=
  ∀ (l : Launch) (E : xE), l.stackTraces = false → vx_Met l M.1 (xws M) (xRm lev mc ms) (va_Pc (av.map xv) (fun U => xPre E z T I N U ∧ xStr U)) (xPost E post) (xTX E xp) mc ms (fun q => E.2.2 ≤ q)
def xQX (Γ : xG) (E : xE) (post : xPo) (xp : xXp) (mc ms : Nat) : State → Prop := vx_MQ (gb Γ) (xPost E post) (xTX E xp) (ga Γ) (gs Γ) mc ms (fun q => E.2.2 ≤ q)
def xDX (Γ : xG) (E : xE) (M : xM) (lev mc ms : Nat) : Prop := xD Γ E M lev mc ms ∧ xStr (gs Γ) ∧ (gl Γ).stackTraces = false ∧ (∀ x ∈ (gc Γ).exceptionTable.toList, False)
theorem XSpec_of {M : xM} {lev : Nat} {av : List xV} {z : Nat} {T : xY} {I : xI} {N : xN} {mc ms : Nat} {post : xPo} {xp : xXp} (hok : ∀ e ∈ M.2.2.2.2.2, decode M.2.1 e.1 = .ok (e.2.1, e.2.2)) (hpl : plainName M.1.cls = true) (hcls : xRn M.2.2.2.2.1 = M.1.cls ∧ M.2.2.2.2.1 < 12) (hlen : xwd av ≤ M.2.2.1)
    (h : ∀ (Γ : xG) (E : xE), xDX Γ E M lev mc ms → V Γ E (xQX Γ E post xp mc ms) z T I N 0 0 0 (xent av 0) []) : XSpec M lev av z T I N mc ms post xp := by
  intro l E hl0
  refine vx_ofW (cc := M.2.1) (maxL := M.2.2.1) (ret := M.2.2.2.1) hpl rfl ?_
  intro p e s m args below meth c s₁ B hml hex hv
  obtain ⟨rfl, ⟨hR, hK, hW, hX⟩, hS⟩ := hv
  have hown : s.vm.findClass M.1.cls = some m.cls := findClass_of_methodNamed B.named
  have C : xD (p, l, e, (headSpec (xws M) (xRm lev mc ms)).room, s, m, (av.map xv).toArray, below, meth, c) E M lev mc ms :=
    ⟨⟨⟨B.exec, B.bytes, B.returns, hml, by rw [hcls.1]; exact hown, B.notSynchronized, (name_of_methodNamed B.named B.method).1⟩, hok, hcls.2, hK, hW, hX, by rw [hR.1]; exact hR.2.1⟩, rfl⟩
  have hl := lv_entry (av.map xv) (n := M.2.2.1) (by rw [xwd_len]; exact hlen)
  rw [lg_entry_eq]
  exact h _ E ⟨C, hS, hl0, hex⟩ s.heap [] _ hR va_S.rf ⟨hl.1.trans hml.symm, hl.2.1, fun i v hi => hl.2.2 _ (xent_in av 0 i v hi)⟩
theorem xR.grown {E : xE} {z : Nat} {T : xY} {I : xI} {N : xN} {H H' : Heap} (h : xR E z T I N H) (hs : H.size ≤ H'.size) (ho : ∀ q : Nat, q < H.size → H'[q]? = H[q]?) : xR E H'.size T I N H' := by
  refine ⟨rfl, by have := h.2.1; have := h.1; omega, h.2.2.1, fun a => ?_⟩
  cases hT : T a with
  | none => unfold xAt; rw [hT]; trivial
  | some t =>
    have hl := h.lt (a := a) (by rw [hT]; exact fun h => by cases h)
    exact (h.2.2.2 a).kept (ho a (by rw [h.1]; exact hl)) rfl rfl
section XThrow
variable {Γ : xG} {E : xE} {M M' : xM} {T : xY} {I : xI} {N : xN} {z : Nat} {ce sl pc lev lev' mc ms mc' ms' n idx : Nat} {Q : State → Prop} {lv : xL} {st : List xV} {post post' : xPo} {xp xp' : xXp} {av : List xV}
theorem V_norm (h : V Γ E (xQ Γ E post mc ms) z T I N ce sl pc lv st) : V Γ E (xQX Γ E post xp mc ms) z T I N ce sl pc lv st := fun H locs ls hR hS hl => vx_ret (h H locs ls hR hS hl)
theorem V_throw (D : xDX Γ E M lev mc ms) (e : Nat × Nat × String) (he : e ∈ xThr) (tx : Nat × String) (ht : tx ∈ xTx) (hM : M.2.2.2.2.1 = 9) (h0 : xfe M pc = some (.new e.1, 3)) (h3 : xfe M (pc + 3) = some (.dup, 1)) (h4 : xfe M (pc + 4) = some (.ldc tx.1, 2)) (h6 : xfe M (pc + 6) = some (.invokespecial e.2.1, 3)) (h9 : xfe M (pc + 9) = some (.athrow, 1))
    (hlev : ((6).ble lev && (xwd st).ble 8) = true) (hc : ce + 1 ≤ mc ∧ sl + 6 ≤ ms) (hp : ∀ z', z ≤ z' → xp e.2.2 z' T I N) : V Γ E (xQX Γ E post xp mc ms) z T I N ce sl pc lv st := by
  intro H locs ls hR hSS hl
  simp only [Bool.and_eq_true] at hlev
  have hr1 : 6 ≤ lev := Nat.le_of_ble_eq_true hlev.1
  have hr3 : xwd st ≤ 8 := Nat.le_of_ble_eq_true hlev.2
  obtain ⟨D0, hStr, htr, hex⟩ := D
  obtain ⟨⟨hx, hb, -, hml, hown, hlocks, -⟩, -, ho, hK, hW, hX, hz⟩ := id D0.1
  obtain ⟨sa, hsa⟩ := hStr tx ht
  have hown9 : (gs Γ).vm.findClass RX9 = some (gm Γ).cls := by rw [hM] at hown; exact hown
  have hin := xthr_in e he
  have hat : ∀ w ∈ Cond.classLink RX9 e.1 e.2.2 :: Cond.initialized e.2.2 :: vx_atS RX9 e.2.1 e.2.2 xSup, w.before (ga Γ) (gs Γ) = true := fun w hw => hW.use (hin w hw).1 (hin w hw).2.1
  refine vx_throwS (names := xSup) hx hb htr hown9 (xthr_fit e he) xsup_fit (hat _ List.mem_cons_self) (hat _ (List.mem_cons_of_mem _ List.mem_cons_self)) hsa (fun w hw => hat w (List.mem_cons_of_mem _ (List.mem_cons_of_mem _ hw))) (fun w hw => (hin w hw).2.2) hX.1 hX.2 hSS hl.1 (D0.1.dec h0) (D0.1.dec h3) (D0.1.dec h4) (D0.1.dec h6) (D0.1.dec h9) (fun x hx => absurd (hex x hx) (fun h => h)) ?_ ?_ ?_ ?_ hlocks (fun t hal hsz hkp => ?_) hSS.2.2 hc.1 hc.2
  · rw [D0.2]; show 2 + 3 < lev; omega
  · rw [D0.2, xwd_sum]; show _ + (13 * (2 + 1) + 43) ≤ 32 * lev; omega
  · rw [D0.2]; exact hc.1
  · rw [D0.2]; exact hc.2
  · refine ⟨⟨t.heap.size, T, I, N, hp _ (by rw [← hR.1]; exact hsz), hR.grown hsz hkp⟩, Nat.le_trans hSS.1 hsz, fun q h1 h2 => ?_⟩
    rw [hkp q (Nat.lt_of_lt_of_le h1 hSS.1)]
    exact hSS.2.1 q h1 h2
/-- a call of one that may throw: what is thrown goes on to the caller -/
theorem V_thruS (D : xDX Γ E M lev mc ms) (hm : xMs M' n) (hf : xfe M pc = some (.invokestatic idx, 3)) (hlk : Cond.methodLink (xRn M.2.2.2.2.1) idx M'.1 ∈ lw_tbl) (hS : XSpec M' lev' av z T I N mc' ms' post' xp')
    (hr : (Nat.blt lev' lev && av.length.beq n && (xwd st).ble 8) = true) (hc : ce + mc' ≤ mc ∧ sl + ms' ≤ ms) (k : ∀ r z' T' I' N', post' r z' T' I' N' → V Γ E (xQX Γ E post xp mc ms) z' T' I' N' (ce + mc') (sl + ms') (pc + 3) lv (r.toList ++ st)) (kx : ∀ cls z' T' I' N', xp' cls z' T' I' N' → xp cls z' T' I' N') : V Γ E (xQX Γ E post xp mc ms) z T I N ce sl pc lv (av.reverse ++ st) := by
  intro H locs ls hR hSS hl
  simp only [Bool.and_eq_true] at hr
  obtain ⟨⟨hr1, hr2⟩, hr3⟩ := hr
  have hr1 : lev' < lev := Nat.le_of_ble_eq_true hr1
  have hr2 : av.length = n := Nat.eq_of_beq_eq_true hr2
  have hr3 : xwd st ≤ 8 := Nat.le_of_ble_eq_true hr3
  obtain ⟨D0, hStr, htr, hex⟩ := D
  obtain ⟨⟨hx, hb, -, hml, hown, hlocks, -⟩, -, ho, hK, hW, hX, hz⟩ := id D0.1
  have hbl : FrameBlind (va_Pc (av.map xv) (fun U => xPre E z T I N U ∧ xStr U)) := by
    intro a U g mk ⟨h0, h1, h2⟩
    obtain ⟨_, g1⟩ := xPre.blind (av := av.map xv) a U g mk ⟨h0, h1⟩
    exact ⟨h0, g1, xStr.warm (s := U) (U := U.calling g mk a) h2 (State.WarmedH.refl U)⟩
  have hp : PreS (gs Γ) H (va_Pc (av.map xv) (fun U => xPre E z T I N U ∧ xStr U)) (av.map xv) := ⟨hbl, fun U hU hWm => by
    obtain ⟨g0, g1⟩ := x_pre D0.1 hR hSS (avv := av.map xv) U hU hWm
    exact ⟨g0, g1, hStr.warm hWm⟩⟩
  have run := vx_runS (e := ge Γ) (below := gb Γ) (meth := gt Γ) (locs := locs) (cells := ce) (slots := sl) (g := F0 (gm Γ) pc ls ((av.reverse ++ st).map xv)) (rest := st.map xv) (Ts := []) ⟨hx, hb, hml, hown, fun _ h => nomatch h⟩ (hS (gl Γ) E htr) ⟨x_cb (mc' := mc') (ms' := ms') D0 hm.1 (hW.use hlk rfl) hr1, hW.use hm.2 rfl⟩ hp rfl (by rw [List.length_map]; exact hr2) (hl.1.trans hml) (by rw [List.map_append, List.map_reverse]) (lv_room (by rw [xwd_sum]; exact hr3)) (D0.1.dec hf) (by rw [D0.2]; exact hc)
  intro T9 hT9 X
  rcases run T9 hT9 X with ⟨v, st₀, t, T', L, h0, X', hL, e1, e2, hq, st9⟩ | ⟨q, st₀, t, T', L, E9, ce9, h0, X', hL, e1, e2, hq, hce, hcv, hcl, st9⟩
  · obtain ⟨t2, a1, b1⟩ := x_after (p := gp Γ) (T9 := T9) (r := none) k hSS hl h0 hL e1 hq X'
    exact ⟨t2, st9 t2 a1, b1⟩
  · obtain ⟨⟨z', T1, I1, N1, hp1, hR1⟩, hz1, hkp1⟩ := hq
    rw [h0] at hz1 hkp1
    have hsz : (gs Γ).heap.size ≤ t.heap.size := Nat.le_trans hSS.1 hz1
    have hkp : ∀ q : Nat, q < (gs Γ).heap.size → ¬ E.2.2 ≤ q → t.heap[q]? = (gs Γ).heap[q]? := fun q g1 g2 => by
      rw [hkp1 q (Nat.lt_of_lt_of_le g1 hSS.1) g2]; exact hSS.2.1 q g1 g2
    have out : vx_W (gp Γ) (gl Γ) (ge Γ) (gR Γ) (gs Γ) (gm Γ) (ga Γ) (gb Γ) (gt Γ) (gc Γ) T'.heap (locs ++ L) (ce + mc') (sl + ms') (xQX Γ E post xp mc ms) (F0 (gm Γ) pc ls (st.map xv)) q :=
      vx_out (E := E9) (ce := ce9) (fun x hx => absurd (hex x hx) (fun h => h)) hlocks (by rw [e1]; exact hce) hcv hcl (fun t9 ht9 hal => by
        rw [e1] at ht9
        refine ⟨⟨z', T1, I1, N1, kx _ _ _ _ _ hp1, by rw [ht9]; exact hR1⟩, by rw [ht9]; exact hsz, fun q g1 g2 => by rw [ht9]; exact hkp q g1 g2⟩) (fun q hq => by
        rcases List.mem_append.mp hq with h | h
        · exact hSS.2.2 q h
        · exact hL q h) hc.1 hc.2
    obtain ⟨t2, a1, b1⟩ := out T' rfl X'
    exact ⟨t2, st9.trans a1, b1⟩
end XThrow
end
section
/-! CoapDesk: bytes at hand, the message begun and the place of the option put latest, the server -/
abbrev Dk : Type := List Int × (Msg × Option Nat) × Sv
def DkAt (T : xY) (I : xI) (N : xN) (d : Nat) (x : Dk) : Prop :=
  (T d = some (.inr 9) ∧ N d 0 = d + 1 ∧ N d 1 = d + 3 ∧ N d 2 = d + 4 ∧ T (d + 3) = some (.inr 4)) ∧ BAt T I N (d + 1) 2000 x.1 ∧ SvAt T I N (d + 4) x.2.2 ∧
  ∃ mb ms : Nat, (N d 3 = mb ∧ N d 4 = ms ∧ ((mb = d + 362 ∧ ms = d + 428) ∨ (mb = d + 428 ∧ ms = d + 362))) ∧ MAt T I N mb 20 x.2.1.1 x.2.1.2 ∧ ∃ g' lat', MAt T I N ms 20 g' lat'
def DkOk (x : Dk) : Prop := MOk x.2.1.1 ∧ SvOk x.2.2
def OpP (z : Nat) (T : xY) (I : xI) (N : xN) (d : Nat) (v : Int → Option xV) (o : Nat × Int × Dk) : xPo := xCg z T fun rr I' N' => o.1 = 0 ∧ rr = v o.2.1 ∧ RCh d (d + 494) I N I' N' ∧ DkAt T I' N' d o.2.2
def OpX (z : Nat) (T : xY) (I : xI) (N : xN) (d : Nat) (cs : Nat → String) (o : Nat × Int × Dk) : xXp := fun cls z' T' I' N' => o.1 ≠ 0 ∧ cls = cs o.1 ∧ z ≤ z' ∧ T' = T ∧ RCh d (d + 494) I N I' N' ∧ DkAt T I' N' d o.2.2
def cs2 (k : Nat) : String := if k = 1 then "java/lang/IllegalArgumentException" else "java/lang/IllegalStateException"
def csIS (_ : Nat) : String := "java/lang/IllegalStateException"
def csUO (_ : Nat) : String := "java/lang/UnsupportedOperationException"
def rI (x : Int) : Option xV := some (.inl x)
def rV (_ : Int) : Option xV := none
def lows (w n : Int) : List Int := (List.range n.toNat).map (lowb w)
theorem lows_len (w n : Int) : (lows w n).length = n.toNat := by unfold lows; simp
theorem lows_ok (w n : Int) : BsOk (lows w n) := fun v hv => by
  unfold lows at hv
  rw [List.mem_map] at hv
  obtain ⟨i, -, e⟩ := hv
  rw [← e]; exact lowb_rng w i
def dBegin (x : Dk) (ty co id w n : Int) : Nat × Int × Dk := if (0 ≤ ty ∧ ty ≤ 3) ∧ (0 ≤ co ∧ co ≤ 255) ∧ (0 ≤ id ∧ id ≤ 65535) ∧ 0 ≤ n ∧ n ≤ 8 then (0, 0, (x.1, ((ty, co, id, lows w n, [], []), none), x.2.2)) else (1, 0, x)
def dOption (x : Dk) (num w n : Int) : Nat × Int × Dk := if ¬ ((0 ≤ num ∧ num ≤ 65535) ∧ 0 ≤ n ∧ n ≤ 8) then (1, 0, x) else if ¬ x.2.1.1.2.2.2.2.1.length < 20 then (2, 0, x) else
  (0, (x.2.1.1.2.2.2.2.1.length : Int) + 1, (x.1, ((x.2.1.1.1, x.2.1.1.2.1, x.2.1.1.2.2.1, x.2.1.1.2.2.2.1, inso (ipos num x.2.1.1.2.2.2.2.1 x.2.1.1.2.2.2.2.1.length) (num, lows w n) x.2.1.1.2.2.2.2.1, x.2.1.1.2.2.2.2.2), some (ipos num x.2.1.1.2.2.2.2.1 x.2.1.1.2.2.2.2.1.length)), x.2.2))
def dLonger (x : Dk) (w n : Int) : Nat × Int × Dk := if ¬ (0 ≤ n ∧ n ≤ 8) then (1, 0, x) else match x.2.1.2 with
  | none => (2, 0, x)
  | some l => if ¬ ((od x.2.1.1.2.2.2.2.1 l).2.length : Int) + n ≤ 400 then (2, 0, x) else (0, ((od x.2.1.1.2.2.2.2.1 l).2.length : Int) + n, (x.1, ((x.2.1.1.1, x.2.1.1.2.1, x.2.1.1.2.2.1, x.2.1.1.2.2.2.1, x.2.1.1.2.2.2.2.1.set l ((od x.2.1.1.2.2.2.2.1 l).1, (od x.2.1.1.2.2.2.2.1 l).2 ++ lows w n), x.2.1.1.2.2.2.2.2), some l), x.2.2))
def dPayload (x : Dk) (w n : Int) : Nat × Int × Dk := if ¬ (0 ≤ n ∧ n ≤ 8) then (1, 0, x) else if ¬ (x.2.1.1.2.2.2.2.2.length : Int) + n ≤ 400 then (2, 0, x) else
  (0, (x.2.1.1.2.2.2.2.2.length : Int) + n, (x.1, ((x.2.1.1.1, x.2.1.1.2.1, x.2.1.1.2.2.1, x.2.1.1.2.2.2.1, x.2.1.1.2.2.2.2.1, x.2.1.1.2.2.2.2.2 ++ lows w n), x.2.1.2), x.2.2))
def dWrite (x : Dk) : Nat × Int × Dk := if 2000 < (wr x.2.1.1).length then (1, 0, x) else (0, ((wr x.2.1.1).length : Int), (wr x.2.1.1, x.2))
def dFeed (x : Dk) (w n : Int) : Nat × Int × Dk := if ¬ (0 ≤ n ∧ n ≤ 8) then (1, 0, x) else if ¬ (x.1.length : Int) + n ≤ 2000 then (2, 0, x) else (0, (x.1.length : Int) + n, (x.1 ++ lows w n, x.2))
def dEnd (x : Dk) (n : Int) : Nat × Int × Dk := if 0 ≤ n ∧ n ≤ x.1.length then (0, 0, (x.1.take n.toNat, x.2)) else (1, 0, x)
def dRead (x : Dk) : Nat × Int × Dk := if (rd x.1).1 < 0 then (0, (rd x.1).1, x) else if 20 < (rd x.1).2.2.2.2.2.1.length then (1, 0, x) else (0, ((rd x.1).2.2.2.2.2.1.length : Int), (x.1, ((rd x.1).2, none), x.2.2))
section XDk
variable {Γ : xG} {E : xE} {M : xM} {z : Nat} {T : xY} {I : xI} {N : xN} {d b room lev mc ms pc : Nat} {x : Dk} {xs : List Int} {lv : xL} {post : xPo} {xp : xXp}
theorem V_xiret (D : xDX Γ E M lev mc ms) {y : Int} (h : xfe M pc = some (.ireturn, 1)) (hr : M.2.2.2.1 = some .int) (hp : post (some (.inl y)) z T I N) : V Γ E (xQX Γ E post xp mc ms) z T I N 0 0 pc lv [.inl y] := V_norm (V_wide (Nat.zero_le _) (Nat.zero_le _) (V_iret D.1 h hr hp))
theorem V_xvret (D : xDX Γ E M lev mc ms) (h : xfe M pc = some (.return_, 1)) (hr : M.2.2.2.1 = none) (hp : post none z T I N) : V Γ E (xQX Γ E post xp mc ms) z T I N 0 0 pc lv [] := V_norm (V_wide (Nat.zero_le _) (Nat.zero_le _) (V_vret D.1 h hr hp))
theorem s_within {y h : Int} (hy : xIn y) (hh : xIn h) : Spec mX9_within 0 [.inl y, .inl h] z T I N 0 0 (xSame z T I N (some (.inl (b01 (decide (0 ≤ y ∧ y ≤ h)))))) := by
  refine Spec_of okX9_within (by decide) (by decide) (Nat.le_of_ble_eq_true rfl) fun Γ E D => ?_
  refine V_run D [] 1 rfl trivial ?_
  refine V_lt D 13 rfl rfl hy (fun q1 => ?_) (fun q1 => ?_)
  · refine V_run D [] 14 rfl trivial ?_
    exact V_zret D rfl rfl (Or.inl rfl) ⟨by unfold b01; rw [if_neg (by simp; omega)], rfl, rfl, rfl, rfl⟩
  · refine V_run D [] 6 rfl trivial ?_
    refine V_igt D 13 rfl rfl hy hh (fun q2 => ?_) (fun q2 => ?_)
    · refine V_run D [] 14 rfl trivial ?_
      exact V_zret D rfl rfl (Or.inl rfl) ⟨by unfold b01; rw [if_neg (by simp; omega)], rfl, rfl, rfl, rfl⟩
    · refine V_run D [] 14 rfl trivial ?_
      exact V_zret D rfl rfl (Or.inr rfl) ⟨by unfold b01; rw [if_pos (by simp; omega)], rfl, rfl, rfl, rfl⟩
theorem b01_dec0 {p : Prop} [Decidable p] : b01 (decide p) = 0 ↔ ¬ p := by rw [b01_0]; simp
theorem b01_dec1 {p : Prop} [Decidable p] : ¬ b01 (decide p) = 0 ↔ p := by rw [b01_0]; simp
theorem nat_of {n : Int} (h : 0 ≤ n) : ((n.toNat : Nat) : Int) = n := by omega
def extP (z : Nat) (T : xY) (I : xI) (N : xN) (b room : Nat) (xs : List Int) (w n : Int) : xPo := fun r z' T' I' N' => ((0 ≤ n ∧ n ≤ 8) ∧ (xs.length : Int) + n ≤ room) ∧ r = some (.inl ((xs.length : Int) + n)) ∧ z' = z ∧ T' = T ∧ N' = N ∧ (∀ a, a ≠ b → a ≠ b + 1 → I' a = I a) ∧ BAt T I' N b room (xs ++ lows w n)
def extX (z : Nat) (T : xY) (I : xI) (N : xN) (room : Nat) (xs : List Int) (n : Int) : xXp := fun cls z' T' I' N' => z ≤ z' ∧ T' = T ∧ I' = I ∧ N' = N ∧ ((cls = "java/lang/IllegalArgumentException" ∧ ¬ (0 ≤ n ∧ n ≤ 8)) ∨ (cls = "java/lang/IllegalStateException" ∧ (0 ≤ n ∧ n ≤ 8) ∧ ¬ (xs.length : Int) + n ≤ room))
theorem s_extend {w n : Int} (hB : BAt T I N b room xs) (hn : xIn n) : XSpec mX9_extend 6 [.inr (.inr b), .inr (.inl w), .inl n] z T I N 1 6 (extP z T I N b room xs w n) (extX z T I N room xs n) := by
  have h5 := hB.2.2.2.2.1
  have h6 := hB.2.2.2.2.2.1
  refine XSpec_of okX9_extend (by decide) (by decide) (Nat.le_of_ble_eq_true rfl) fun Γ E D => ?_
  refine V_run D.1 [] 3 rfl trivial ?_
  refine V_askS (av := [.inl n, .inl 8]) (st := []) D.1 mwX9_within rfl lkX9_X9_within (s_within hn (by omega)) rfl ⟨Nat.zero_le _, Nat.zero_le _⟩ ?_
  refine V_ne D.1 19 rfl rfl (b01_in _) (fun q1 => ?_) (fun q1 => ?_)
  · rw [b01_dec1] at q1
    refine V_run D.1 [] 21 rfl trivial ?_
    refine V_askV (av := [.inl n]) (st := []) D.1 mwX0_hasRoom rfl lkX9_X0_hasRoom (s_hasRoom hB hn) hB.1 rfl ⟨Nat.zero_le _, Nat.zero_le _⟩ ?_
    by_cases hf : n ≤ (room : Int) - xs.length
    · rw [if_pos hf]
      refine V_ne D.1 37 rfl rfl (by omega) (fun q2 => ?_) (fun q2 => absurd q2 (by decide))
      refine V_run D.1 [] 40 rfl trivial ?_
      have hs := s_addLow (z := z) (w := w) (n := n.toNat) hB (by omega) (by omega)
      rw [nat_of q1.1] at hs
      refine V_putB (av := [.inr (.inl w), .inl n]) (st := []) D.1 mwX0_addLowFirst rfl lkX9_X0_addLowFirst hs hB.1 rfl ⟨Nat.zero_le _, Nat.zero_le _⟩ (fun I1 e1 d1 => ?_)
      refine V_run D.1 [] 47 rfl ⟨hB.1, trivial⟩ ?_
      rw [d1.2.2.2.1]
      refine V_xiret D rfl rfl ⟨⟨q1, by omega⟩, ?_, rfl, rfl, rfl, e1, d1⟩
      have e : (xs ++ (List.range n.toNat).map (lowb w)).length = xs.length + n.toNat := by simp
      rw [e, show (((xs.length + n.toNat : Nat)) : Int) = (xs.length : Int) + n by omega]
    · rw [if_neg hf]
      refine V_ne D.1 37 rfl rfl (by omega) (fun q2 => absurd rfl q2) (fun q2 => ?_)
      exact V_throw D (71, 75, "java/lang/IllegalStateException") (by decide) (203, "there would be too many bytes") (by decide) rfl rfl rfl rfl rfl rfl rfl ⟨by decide, by decide⟩ (fun z' hz => ⟨hz, rfl, rfl, rfl, Or.inr ⟨rfl, q1, by omega⟩⟩)
  · rw [b01_dec0] at q1
    exact V_throw D (47, 51, "java/lang/IllegalArgumentException") (by decide) (85, "n is not 0 .. 8") (by decide) rfl rfl rfl rfl rfl rfl rfl ⟨by decide, by decide⟩ (fun z' hz => ⟨hz, rfl, rfl, rfl, Or.inl ⟨rfl, q1⟩⟩)
/-- the desk when the message begun alone has changed -/
theorem DkAt.setG (h : DkAt T I N d x) {I' : xI} {N' : xN} {m : Nat} {g : Msg} {lat : Option Nat} (hm : m = N d 3) (hf : RCh m (m + 66) I N I' N') (hM : MAt T I' N' m 20 g lat) : RCh d (d + 494) I N I' N' ∧ DkAt T I' N' d (x.1, (g, lat), x.2.2) := by
  obtain ⟨⟨a1, a2, a3, a4, a5⟩, b1, s1, mb, ms, ⟨n1, n2, n3⟩, m1, g', lat', m2⟩ := h
  rw [n1] at hm
  subst hm
  have hd := hf d (by omega)
  refine ⟨hf.wide (by omega) (by omega), ⟨a1, by rw [hd.2]; exact a2, by rw [hd.2]; exact a3, by rw [hd.2]; exact a4, a5⟩, b1.kept (hf _ (by omega)).1 (hf _ (by omega)).1 (hf _ (by omega)).2, s1.kept (fun a h1 h2 => hf a (by omega)), m, ms, ⟨by rw [hd.2]; exact n1, by rw [hd.2]; exact n2, n3⟩, hM, g', lat', m2.kept (fun a h1 h2 => hf a (by omega))⟩
theorem DkAt.setH (h : DkAt T I N d x) {I' : xI} {ys : List Int} (hf : ∀ a, a ≠ d + 1 → a ≠ d + 1 + 1 → I' a = I a) (hM : BAt T I' N (d + 1) 2000 ys) : RCh d (d + 494) I N I' N ∧ DkAt T I' N d (ys, x.2) := by
  obtain ⟨⟨a1, a2, a3, a4, a5⟩, b1, s1, mb, ms, ⟨n1, n2, n3⟩, m1, g', lat', m2⟩ := h
  have hd := hf d (by omega) (by omega)
  exact ⟨fun a ha => ⟨hf a (by omega) (by omega), rfl⟩, ⟨a1, a2, a3, a4, a5⟩, hM, s1.kept (fun a h1 h2 => ⟨hf a (by omega) (by omega), rfl⟩), mb, ms, ⟨n1, n2, n3⟩, m1.kept (fun a h1 h2 => ⟨hf a (by omega) (by omega), rfl⟩), g', lat', m2.kept (fun a h1 h2 => ⟨hf a (by omega) (by omega), rfl⟩)⟩
theorem s_dBegin {ty co id w n : Int} (h : DkAt T I N d x) (h1 : xIn ty) (h2 : xIn co) (h3 : xIn id) (h4 : xIn n) : XSpec mX9_begin 7 [.inr (.inr d), .inl ty, .inl co, .inl id, .inr (.inl w), .inl n] z T I N 1 6 (OpP z T I N d rV (dBegin x ty co id w n)) (OpX z T I N d cs2 (dBegin x ty co id w n)) := by
  obtain ⟨⟨a1, a2, a3, a4, a5⟩, b1, s1, m, ms, ⟨n1, n2, n3⟩, m1, g', lat', m2⟩ := _root_.id h
  refine XSpec_of okX9_begin (by decide) (by decide) (Nat.le_of_ble_eq_true rfl) fun Γ E D => ?_
  have bad : ¬ ((0 ≤ ty ∧ ty ≤ 3) ∧ (0 ≤ co ∧ co ≤ 255) ∧ (0 ≤ id ∧ id ≤ 65535) ∧ 0 ≤ n ∧ n ≤ 8) → ∀ lv, V Γ E (xQX Γ E (OpP z T I N d rV (dBegin x ty co id w n)) (OpX z T I N d cs2 (dBegin x ty co id w n)) 1 6) z T I N 0 0 49 lv [] := fun hc lv => by
    have e : dBegin x ty co id w n = (1, 0, x) := by unfold dBegin; rw [if_neg hc]
    rw [e]
    exact V_throw D (47, 51, "java/lang/IllegalArgumentException") (by decide) (49, "type, code, id or n is out of its range") (by decide) rfl rfl rfl rfl rfl rfl rfl ⟨by decide, by decide⟩ (fun z' hz => ⟨Nat.succ_ne_zero _, rfl, hz, rfl, RCh.rf, h⟩)
  have bad0 : ¬ ((0 ≤ ty ∧ ty ≤ 3) ∧ (0 ≤ co ∧ co ≤ 255) ∧ (0 ≤ id ∧ id ≤ 65535)) → V Γ E (xQX Γ E (OpP z T I N d rV (dBegin x ty co id w n)) (OpX z T I N d cs2 (dBegin x ty co id w n)) 1 6) z T I N 0 0 31 (xlv [some (.inr (.inr d)), some (.inl ty), some (.inl co), some (.inl id), some (.inr (.inl w)), none, some (.inl n)]) [] := fun hc => by
    refine V_run D.1 [] 36 rfl trivial ?_
    exact V_eq D.1 49 rfl rfl (by omega) (fun _ => bad (fun h => hc ⟨h.1, h.2.1, h.2.2.1⟩) _) (fun q => absurd rfl q)
  refine V_run D.1 [] 2 rfl trivial ?_
  refine V_askS (av := [.inl ty, .inl 3]) (st := []) D.1 mwX9_within rfl lkX9_X9_within (s_within h1 (by omega)) rfl ⟨Nat.zero_le _, Nat.zero_le _⟩ ?_
  refine V_eq D.1 31 rfl rfl (b01_in _) (fun q1 => ?_) (fun q1 => ?_)
  · rw [b01_dec0] at q1
    exact V_loc [some (.inr (.inr d)), some (.inl ty), some (.inl co), some (.inl id), some (.inr (.inl w)), none, some (.inl n)] rfl (bad0 (fun h => q1 h.1))
  rw [b01_dec1] at q1
  refine V_run D.1 [] 12 rfl trivial ?_
  refine V_askS (av := [.inl co, .inl 255]) (st := []) D.1 mwX9_within rfl lkX9_X9_within (s_within h2 (by omega)) rfl ⟨Nat.zero_le _, Nat.zero_le _⟩ ?_
  refine V_eq D.1 31 rfl rfl (b01_in _) (fun q2 => ?_) (fun q2 => ?_)
  · rw [b01_dec0] at q2
    exact V_loc [some (.inr (.inr d)), some (.inl ty), some (.inl co), some (.inl id), some (.inr (.inl w)), none, some (.inl n)] rfl (bad0 (fun h => q2 h.2.1))
  rw [b01_dec1] at q2
  refine V_run D.1 [] 21 rfl trivial ?_
  refine V_askS (av := [.inl id, .inl 65535]) (st := []) D.1 mwX9_within rfl lkX9_X9_within (s_within h3 (by omega)) rfl ⟨Nat.zero_le _, Nat.zero_le _⟩ ?_
  refine V_eq D.1 31 rfl rfl (b01_in _) (fun q3 => ?_) (fun q3 => ?_)
  · rw [b01_dec0] at q3
    exact V_loc [some (.inr (.inr d)), some (.inl ty), some (.inl co), some (.inl id), some (.inr (.inl w)), none, some (.inl n)] rfl (bad0 (fun h => q3 h.2.2))
  rw [b01_dec1] at q3
  refine V_run D.1 [] 36 rfl trivial ?_
  refine V_eq D.1 49 rfl rfl (by omega) (fun q => absurd q (by decide)) (fun _ => ?_)
  refine V_run D.1 [] 43 rfl trivial ?_
  refine V_askS (av := [.inl n, .inl 8]) (st := []) D.1 mwX9_within rfl lkX9_X9_within (s_within h4 (by omega)) rfl ⟨Nat.zero_le _, Nat.zero_le _⟩ ?_
  refine V_ne D.1 59 rfl rfl (b01_in _) (fun q4 => ?_) (fun q4 => ?_)
  · rw [b01_dec1] at q4
    have e : dBegin x ty co id w n = (0, 0, (x.1, ((ty, co, id, lows w n, [], []), none), x.2.2)) := by unfold dBegin; rw [if_pos ⟨q1, q2, q3, q4⟩]
    rw [e]
    refine V_run D.1 [] 66 rfl ⟨a1, trivial⟩ ?_
    rw [n1]
    refine V_chV (av := [.inl ty, .inl co, .inl id]) (st := []) D.1 mwX1_restart rfl lkX9_X1_restart (s_restart m1) m1.1.1 rfl ⟨Nat.zero_le _, Nat.zero_le _⟩ (fun r I1 N1 P1 => ?_)
    obtain ⟨rfl, f1, k1⟩ := P1
    have hN1 : N1 d 3 = m := by rw [(f1 d (by omega)).2]; exact n1
    have t1 := k1.2.2.1
    refine V_run D.1 [] 80 rfl ⟨by rw [hN1]; exact m1.1.1, a1, trivial⟩ ?_
    rw [hN1, k1.1.2.1]
    have hs := s_addLow (z := z) (w := w) (n := n.toNat) t1 (by omega) (by simp; omega)
    rw [nat_of q4.1] at hs
    refine V_putB (av := [.inr (.inl w), .inl n]) (st := []) D.1 mwX0_addLowFirst rfl lkX9_X0_addLowFirst hs t1.1 rfl ⟨Nat.zero_le _, Nat.zero_le _⟩ (fun I2 e2 d2 => ?_)
    have k2 := k1.setTok e2 d2
    have R := h.setG (m := m) n1.symm (I' := I2) (N' := N1) (fun a ha => ⟨by rw [e2 a (by omega) (by omega)]; exact (f1 a (by omega)).1, (f1 a (by omega)).2⟩) k2
    exact V_xvret D rfl rfl ⟨rfl, rfl, rfl, rfl, R⟩
  · rw [b01_dec0] at q4
    exact bad (fun h => q4 h.2.2.2) _
end XDk
end
section
section XDk2
variable {Γ : xG} {E : xE} {M : xM} {z : Nat} {T : xY} {I : xI} {N : xN} {d b room lev mc ms pc : Nat} {x : Dk} {xs : List Int} {lv : xL} {post : xPo} {xp : xXp}
theorem s_dOption {num w n : Int} (h : DkAt T I N d x) (hx : DkOk x) (h1 : xIn num) (h4 : xIn n) : XSpec mX9_option 7 [.inr (.inr d), .inl num, .inr (.inl w), .inl n] z T I N 1 6 (OpP z T I N d rI (dOption x num w n)) (OpX z T I N d cs2 (dOption x num w n)) := by
  obtain ⟨⟨a1, a2, a3, a4, a5⟩, b1, s1, m, ms, ⟨n1, n2, n3⟩, m1, g', lat', m2⟩ := _root_.id h
  refine XSpec_of okX9_option (by decide) (by decide) (Nat.le_of_ble_eq_true rfl) fun Γ E D => ?_
  have bad : ¬ ((0 ≤ num ∧ num ≤ 65535) ∧ 0 ≤ n ∧ n ≤ 8) → ∀ lv, V Γ E (xQX Γ E (OpP z T I N d rI (dOption x num w n)) (OpX z T I N d cs2 (dOption x num w n)) 1 6) z T I N 0 0 19 lv [] := fun hc lv => by
    have e : dOption x num w n = (1, 0, x) := by unfold dOption; rw [if_pos hc]
    rw [e]
    exact V_throw D (47, 51, "java/lang/IllegalArgumentException") (by decide) (65, "number or n is out of its range") (by decide) rfl rfl rfl rfl rfl rfl rfl ⟨by decide, by decide⟩ (fun z' hz => ⟨Nat.succ_ne_zero _, rfl, hz, rfl, RCh.rf, h⟩)
  refine V_run D.1 [] 3 rfl trivial ?_
  refine V_askS (av := [.inl num, .inl 65535]) (st := []) D.1 mwX9_within rfl lkX9_X9_within (s_within h1 (by omega)) rfl ⟨Nat.zero_le _, Nat.zero_le _⟩ ?_
  refine V_eq D.1 19 rfl rfl (b01_in _) (fun q1 => ?_) (fun q1 => ?_)
  · rw [b01_dec0] at q1
    exact bad (fun h => q1 h.1) _
  rw [b01_dec1] at q1
  refine V_run D.1 [] 13 rfl trivial ?_
  refine V_askS (av := [.inl n, .inl 8]) (st := []) D.1 mwX9_within rfl lkX9_X9_within (s_within h4 (by omega)) rfl ⟨Nat.zero_le _, Nat.zero_le _⟩ ?_
  refine V_ne D.1 29 rfl rfl (b01_in _) (fun q4 => ?_) (fun q4 => ?_)
  · rw [b01_dec1] at q4
    refine V_run D.1 [] 34 rfl ⟨a1, trivial⟩ ?_
    rw [n1]
    by_cases hl : x.2.1.1.2.2.2.2.1.length < 20
    · have e : dOption x num w n = (0, (x.2.1.1.2.2.2.2.1.length : Int) + 1, (x.1, ((x.2.1.1.1, x.2.1.1.2.1, x.2.1.1.2.2.1, x.2.1.1.2.2.2.1, inso (ipos num x.2.1.1.2.2.2.2.1 x.2.1.1.2.2.2.2.1.length) (num, lows w n) x.2.1.1.2.2.2.2.1, x.2.1.1.2.2.2.2.2), some (ipos num x.2.1.1.2.2.2.2.1 x.2.1.1.2.2.2.2.1.length)), x.2.2)) := by unfold dOption; rw [if_neg (fun h => h ⟨q1, q4⟩), if_neg (fun h => h hl)]
      rw [e]
      refine V_chV (av := [.inl num]) (st := []) D.1 mwX1_put rfl lkX9_X1_put (s_put m1 hl h1 (hx.1.2.2.2.2.1.xin (by omega))) m1.1.1 rfl ⟨Nat.zero_le _, Nat.zero_le _⟩ (fun r I1 N1 P1 => ?_)
      obtain ⟨rfl, f1, k1⟩ := P1
      generalize hip : ipos num x.2.1.1.2.2.2.2.1 x.2.1.1.2.2.2.2.1.length = p at k1
      have hpl : p ≤ x.2.1.1.2.2.2.2.1.length := by rw [← hip]; exact ipos_le _ _ _
      have hN1 : N1 d 3 = m := by rw [(f1 d (by omega)).2]; exact n1
      have hpl2 : p < (inso p (num, ([] : List Int)) x.2.1.1.2.2.2.2.1).length := by rw [inso_len hpl]; omega
      obtain ⟨o1, o2, o3⟩ := k1.opt (j := p) hpl2
      have e1 : od (inso p (num, ([] : List Int)) x.2.1.1.2.2.2.2.1) p = (num, []) := by rw [inso_at hpl, if_neg (by omega), if_pos rfl]
      obtain ⟨p1, p2, p3, p4⟩ := o1
      dsimp only at p4
      rw [e1] at p4
      refine V_run D.1 [] 41 rfl trivial ?_
      refine V_nonnull D.1 54 rfl rfl (fun q5 => ?_) (fun q5 => absurd q5 (by omega))
      refine V_run D.1 [] 62 rfl ⟨p1, trivial⟩ ?_
      rw [p2]
      have hs := s_addLow (z := z) (w := w) (n := n.toNat) p4 (by omega) (by simp; omega)
      rw [nat_of q4.1] at hs
      refine V_putB (av := [.inr (.inl w), .inl n]) (st := []) D.1 mwX0_addLowFirst rfl lkX9_X0_addLowFirst hs p4.1 rfl ⟨Nat.zero_le _, Nat.zero_le _⟩ (fun I2 e2 d2 => ?_)
      have k2 := k1.setVal hpl2 rfl e2 d2
      dsimp only at k2
      rw [e1] at k2
      have e3 : (inso p (num, ([] : List Int)) x.2.1.1.2.2.2.2.1).set p ((num, ([] : List Int)).1, [] ++ (List.range n.toNat).map (lowb w)) = inso p (num, lows w n) x.2.1.1.2.2.2.2.1 := by
        unfold inso lows
        rw [List.set_append, if_neg (by rw [List.length_take]; omega)]
        have e4 : p - (x.2.1.1.2.2.2.2.1.take p).length = 0 := by rw [List.length_take]; omega
        rw [e4]
        rfl
      rw [e3] at k2
      have R := h.setG (m := m) n1.symm (I' := I2) (N' := N1) (fun a ha => ⟨by rw [e2 a (by omega) (by omega)]; exact (f1 a (by omega)).1, (f1 a (by omega)).2⟩) k2
      have hcnt := k2.1.2.2.2.2.2.2.1
      refine V_run D.1 [] 72 rfl ⟨by rw [hN1]; exact m1.1.1, a1, trivial⟩ ?_
      rw [hN1, hcnt]
      refine V_xiret D rfl rfl ⟨rfl, rfl, rfl, ?_, R⟩
      dsimp only
      rw [inso_len hpl]
      rfl
    · have e : dOption x num w n = (2, 0, x) := by unfold dOption; rw [if_neg (fun h => h ⟨q1, q4⟩), if_pos hl]
      rw [e]
      refine V_askV (av := [.inl num]) (st := []) D.1 mwX1_put rfl lkX9_X1_put (s_putFull m1 hl) m1.1.1 rfl ⟨Nat.zero_le _, Nat.zero_le _⟩ ?_
      refine V_run D.1 [] 41 rfl trivial ?_
      refine V_nonnull D.1 54 rfl rfl (fun q5 => absurd q5 (by omega)) (fun q5 => ?_)
      exact V_throw D (71, 75, "java/lang/IllegalStateException") (by decide) (73, "there are 20 options") (by decide) rfl rfl rfl rfl rfl rfl rfl ⟨by decide, by decide⟩ (fun z' hz => ⟨Nat.succ_ne_zero _, rfl, hz, rfl, RCh.rf, h⟩)
  · rw [b01_dec0] at q4
    exact bad (fun h => q4 h.2) _
theorem s_dLonger {w n : Int} (h : DkAt T I N d x) (h4 : xIn n) : XSpec mX9_longer 7 [.inr (.inr d), .inr (.inl w), .inl n] z T I N 1 6 (OpP z T I N d rI (dLonger x w n)) (OpX z T I N d cs2 (dLonger x w n)) := by
  obtain ⟨⟨a1, a2, a3, a4, a5⟩, b1, s1, m, ms, ⟨n1, n2, n3⟩, m1, g', lat', m2⟩ := _root_.id h
  refine XSpec_of okX9_longer (by decide) (by decide) (Nat.le_of_ble_eq_true rfl) fun Γ E D => ?_
  refine V_run D.1 [] 3 rfl trivial ?_
  refine V_askS (av := [.inl n, .inl 8]) (st := []) D.1 mwX9_within rfl lkX9_X9_within (s_within h4 (by omega)) rfl ⟨Nat.zero_le _, Nat.zero_le _⟩ ?_
  refine V_ne D.1 19 rfl rfl (b01_in _) (fun q4 => ?_) (fun q4 => ?_)
  · rw [b01_dec1] at q4
    have lat1 := m1.2.2.2.2.2
    refine V_run D.1 [] 30 rfl ⟨by rw [n1]; exact m1.1.1, a1, trivial⟩ ?_
    rw [n1]
    unfold dLonger
    rw [if_neg (fun h => h q4)]
    cases hlat : x.2.1.2 with
    | none =>
      rw [hlat] at lat1
      dsimp only at lat1 ⊢
      rw [lat1]
      refine V_null D.1 45 rfl rfl (fun q5 => ?_) (fun q5 => absurd q5 (by omega))
      exact V_throw D (71, 75, "java/lang/IllegalStateException") (by decide) (95, "no option was put, or its value would be too long") (by decide) rfl rfl rfl rfl rfl rfl rfl ⟨by decide, by decide⟩ (fun z' hz => ⟨Nat.succ_ne_zero _, rfl, hz, rfl, RCh.rf, h⟩)
    | some l =>
      rw [hlat] at lat1
      dsimp only at lat1 ⊢
      obtain ⟨l1, l2⟩ := lat1
      obtain ⟨⟨p1, p2, p3, p4⟩, o2, o3⟩ := m1.opt l1
      rw [l2]
      generalize ho : N (m + 5) l = o at p1 p2 p3 p4 o2 o3
      have h5 := p4.2.2.2.2.1
      refine V_null D.1 45 rfl rfl (fun q5 => absurd q5 (by omega)) (fun q5 => ?_)
      refine V_run D.1 [] 39 rfl ⟨p1, trivial⟩ ?_
      rw [p2]
      refine V_askV (av := [.inl n]) (st := []) D.1 mwX0_hasRoom rfl lkX9_X0_hasRoom (s_hasRoom p4 h4) p4.1 rfl ⟨Nat.zero_le _, Nat.zero_le _⟩ ?_
      by_cases hf : ((od x.2.1.1.2.2.2.2.1 l).2.length : Int) + n ≤ 400
      · rw [if_neg (fun h => h hf), if_pos (by omega)]
        refine V_ne D.1 55 rfl rfl (by omega) (fun q6 => ?_) (fun q6 => absurd q6 (by decide))
        refine V_run D.1 [] 62 rfl ⟨p1, trivial⟩ ?_
        rw [p2]
        have hs := s_addLow (z := z) (w := w) (n := n.toNat) p4 (by omega) (by omega)
        rw [nat_of q4.1] at hs
        refine V_putB (av := [.inr (.inl w), .inl n]) (st := []) D.1 mwX0_addLowFirst rfl lkX9_X0_addLowFirst hs p4.1 rfl ⟨Nat.zero_le _, Nat.zero_le _⟩ (fun I2 e2 d2 => ?_)
        have k2 := m1.setVal l1 ho.symm e2 d2
        rw [hlat] at k2
        have R := h.setG (m := m) n1.symm (I' := I2) (N' := N) (fun a ha => ⟨e2 a (by omega) (by omega), rfl⟩) k2
        refine V_run D.1 [] 73 rfl ⟨by rw [p2]; exact p4.1, p1, trivial⟩ ?_
        rw [p2, d2.2.2.2.1]
        refine V_xiret D rfl rfl ⟨rfl, rfl, rfl, ?_, R⟩
        have e : ((od x.2.1.1.2.2.2.2.1 l).2 ++ (List.range n.toNat).map (lowb w)).length = (od x.2.1.1.2.2.2.2.1 l).2.length + n.toNat := by simp
        unfold rI
        rw [e, show ((((od x.2.1.1.2.2.2.2.1 l).2.length + n.toNat : Nat)) : Int) = ((od x.2.1.1.2.2.2.2.1 l).2.length : Int) + n by omega]
      · rw [if_pos hf, if_neg (by omega)]
        refine V_ne D.1 55 rfl rfl (by omega) (fun q6 => absurd rfl q6) (fun q6 => ?_)
        exact V_throw D (71, 75, "java/lang/IllegalStateException") (by decide) (95, "no option was put, or its value would be too long") (by decide) rfl rfl rfl rfl rfl rfl rfl ⟨by decide, by decide⟩ (fun z' hz => ⟨Nat.succ_ne_zero _, rfl, hz, rfl, RCh.rf, h⟩)
  · rw [b01_dec0] at q4
    have e : dLonger x w n = (1, 0, x) := by unfold dLonger; rw [if_pos q4]
    rw [e]
    exact V_throw D (47, 51, "java/lang/IllegalArgumentException") (by decide) (85, "n is not 0 .. 8") (by decide) rfl rfl rfl rfl rfl rfl rfl ⟨by decide, by decide⟩ (fun z' hz => ⟨Nat.succ_ne_zero _, rfl, hz, rfl, RCh.rf, h⟩)
theorem s_dPayload {w n : Int} (h : DkAt T I N d x) (h4 : xIn n) : XSpec mX9_payload 7 [.inr (.inr d), .inr (.inl w), .inl n] z T I N 1 6 (OpP z T I N d rI (dPayload x w n)) (OpX z T I N d cs2 (dPayload x w n)) := by
  obtain ⟨⟨a1, a2, a3, a4, a5⟩, b1, s1, m, ms, ⟨n1, n2, n3⟩, m1, g', lat', m2⟩ := _root_.id h
  have hB := m1.2.2.2.1
  refine XSpec_of okX9_payload (by decide) (by decide) (Nat.le_of_ble_eq_true rfl) fun Γ E D => ?_
  refine V_run D.1 [] 9 rfl ⟨by rw [n1]; exact m1.1.1, a1, trivial⟩ ?_
  rw [n1, m1.1.2.2.1]
  refine V_thruS (av := [.inr (.inr (m + 3)), .inr (.inl w), .inl n]) (st := []) D mwX9_extend rfl lkX9_X9_extend (s_extend hB h4) rfl ⟨by decide, by decide⟩ (fun r z' T' I' N' P => ?_) (fun cls z' T' I' N' P => ?_)
  · obtain ⟨c1, rfl, e1, e2, e3, e4, e5⟩ := P
    rw [e1, e2, e3]
    have e : dPayload x w n = (0, (x.2.1.1.2.2.2.2.2.length : Int) + n, (x.1, ((x.2.1.1.1, x.2.1.1.2.1, x.2.1.1.2.2.1, x.2.1.1.2.2.2.1, x.2.1.1.2.2.2.2.1, x.2.1.1.2.2.2.2.2 ++ lows w n), x.2.1.2), x.2.2)) := by unfold dPayload; rw [if_neg (fun h => h c1.1), if_neg (fun h => h c1.2)]
    rw [e]
    have k2 := m1.setPay e4 e5
    have R := h.setG (m := m) n1.symm (I' := I') (N' := N) (fun a ha => ⟨e4 a (by omega) (by omega), rfl⟩) k2
    exact V_norm (V_iret D.1 rfl rfl ⟨rfl, rfl, rfl, rfl, R⟩)
  · obtain ⟨hz, e1, e2, e3, hc⟩ := P
    rcases hc with ⟨hc, c1⟩ | ⟨hc, c1, c2⟩
    · have e : dPayload x w n = (1, 0, x) := by unfold dPayload; rw [if_pos c1]
      rw [e, hc, e1, e2, e3]
      exact ⟨Nat.succ_ne_zero _, rfl, hz, rfl, RCh.rf, h⟩
    · have e : dPayload x w n = (2, 0, x) := by unfold dPayload; rw [if_neg (fun h => h c1), if_pos (by omega)]
      rw [e, hc, e1, e2, e3]
      exact ⟨Nat.succ_ne_zero _, rfl, hz, rfl, RCh.rf, h⟩
theorem s_dFeed {w n : Int} (h : DkAt T I N d x) (h4 : xIn n) : XSpec mX9_feed 7 [.inr (.inr d), .inr (.inl w), .inl n] z T I N 1 6 (OpP z T I N d rI (dFeed x w n)) (OpX z T I N d cs2 (dFeed x w n)) := by
  obtain ⟨⟨a1, a2, a3, a4, a5⟩, b1, s1, m, ms, ⟨n1, n2, n3⟩, m1, g', lat', m2⟩ := _root_.id h
  refine XSpec_of okX9_feed (by decide) (by decide) (Nat.le_of_ble_eq_true rfl) fun Γ E D => ?_
  refine V_run D.1 [] 6 rfl ⟨a1, trivial⟩ ?_
  rw [a2]
  refine V_thruS (av := [.inr (.inr (d + 1)), .inr (.inl w), .inl n]) (st := []) D mwX9_extend rfl lkX9_X9_extend (s_extend b1 h4) rfl ⟨by decide, by decide⟩ (fun r z' T' I' N' P => ?_) (fun cls z' T' I' N' P => ?_)
  · obtain ⟨c1, rfl, e1, e2, e3, e4, e5⟩ := P
    rw [e1, e2, e3]
    have e : dFeed x w n = (0, (x.1.length : Int) + n, (x.1 ++ lows w n, x.2)) := by unfold dFeed; rw [if_neg (fun h => h c1.1), if_neg (fun h => h c1.2)]
    rw [e]
    exact V_norm (V_iret D.1 rfl rfl ⟨rfl, rfl, rfl, rfl, h.setH e4 e5⟩)
  · obtain ⟨hz, e1, e2, e3, hc⟩ := P
    rcases hc with ⟨hc, c1⟩ | ⟨hc, c1, c2⟩
    · have e : dFeed x w n = (1, 0, x) := by unfold dFeed; rw [if_pos c1]
      rw [e, hc, e1, e2, e3]
      exact ⟨Nat.succ_ne_zero _, rfl, hz, rfl, RCh.rf, h⟩
    · have e : dFeed x w n = (2, 0, x) := by unfold dFeed; rw [if_neg (fun h => h c1), if_pos (by omega)]
      rw [e, hc, e1, e2, e3]
      exact ⟨Nat.succ_ne_zero _, rfl, hz, rfl, RCh.rf, h⟩
theorem s_dEnd {n : Int} (h : DkAt T I N d x) (h4 : xIn n) : XSpec mX9_end 7 [.inr (.inr d), .inl n] z T I N 1 6 (OpP z T I N d rV (dEnd x n)) (OpX z T I N d cs2 (dEnd x n)) := by
  obtain ⟨⟨a1, a2, a3, a4, a5⟩, b1, s1, m, ms, ⟨n1, n2, n3⟩, m1, g', lat', m2⟩ := _root_.id h
  have h5 := b1.2.2.2.2.1
  refine XSpec_of okX9_end (by decide) (by decide) (Nat.le_of_ble_eq_true rfl) fun Γ E D => ?_
  refine V_run D.1 [] 8 rfl ⟨by rw [a2]; exact b1.1, a1, trivial⟩ ?_
  rw [a2, b1.2.2.2.1]
  refine V_askS (av := [.inl n, .inl (x.1.length : Int)]) (st := []) D.1 mwX9_within rfl lkX9_X9_within (s_within h4 (by omega)) rfl ⟨Nat.zero_le _, Nat.zero_le _⟩ ?_
  refine V_ne D.1 24 rfl rfl (b01_in _) (fun q4 => ?_) (fun q4 => ?_)
  · rw [b01_dec1] at q4
    have e : dEnd x n = (0, 0, (x.1.take n.toNat, x.2)) := by unfold dEnd; rw [if_pos q4]
    rw [e]
    refine V_run D.1 [] 29 rfl ⟨a1, trivial⟩ ?_
    rw [a2]
    have hs := s_keepFirst (z := z) b1 h4
    rw [if_pos q4.1] at hs
    refine V_putB (av := [.inl n]) (st := []) D.1 mwX0_keepFirst rfl lkX9_X0_keepFirst hs b1.1 rfl ⟨Nat.zero_le _, Nat.zero_le _⟩ (fun I2 e2 d2 => ?_)
    exact V_xvret D rfl rfl ⟨rfl, rfl, rfl, rfl, h.setH e2 d2⟩
  · rw [b01_dec0] at q4
    have e : dEnd x n = (1, 0, x) := by unfold dEnd; rw [if_neg q4]
    rw [e]
    exact V_throw D (47, 51, "java/lang/IllegalArgumentException") (by decide) (120, "there are not so many bytes at hand") (by decide) rfl rfl rfl rfl rfl rfl rfl ⟨by decide, by decide⟩ (fun z' hz => ⟨Nat.succ_ne_zero _, rfl, hz, rfl, RCh.rf, h⟩)
theorem s_dWrite (h : DkAt T I N d x) (hx : DkOk x) : XSpec mX9_write 7 [.inr (.inr d)] z T I N 1 6 (OpP z T I N d rI (dWrite x)) (OpX z T I N d csIS (dWrite x)) := by
  obtain ⟨⟨a1, a2, a3, a4, a5⟩, b1, s1, m, ms, ⟨n1, n2, n3⟩, m1, g', lat', m2⟩ := _root_.id h
  have hwl : (wr x.2.1.1).length ≤ 20000 := by
    rw [wr_len]
    have h1 := hx.1.2.2.2.1.2
    have h2 := hx.1.2.2.2.2.2.2
    have h3 : ∀ (os : List Opt) (b : Int), (∀ q ∈ os, q.2.length ≤ 400) → (wos b os).length ≤ 405 * os.length := by
      intro os
      induction os with
      | nil => intro b _; simp [wos]
      | cons q r ih =>
        intro b hq
        simp only [wos, List.length_append, wo_len, List.length_cons]
        have i1 := ih q.1 (fun w hw => hq w (List.mem_cons_of_mem _ hw))
        have i2 := hq q (List.mem_cons_self ..)
        have i3 := mb_le (q.1 - b)
        have i4 := mb_le (q.2.length : Int)
        omega
    have h4 := h3 x.2.1.1.2.2.2.2.1 0 (fun q hq => (hx.1.2.2.2.2.1.mem (by omega) q hq).2.2.2)
    have h5 := m1.1.2.2.2.2.2.2.2
    split <;> omega
  refine XSpec_of okX9_write (by decide) (by decide) (Nat.le_of_ble_eq_true rfl) fun Γ E D => ?_
  refine V_run D.1 [] 4 rfl ⟨a1, trivial⟩ ?_
  rw [n1]
  refine V_askV (av := []) (st := []) D.1 mwX1_writtenSize rfl lkX9_X1_writtenSize (s_size m1 hx.1) m1.1.1 rfl ⟨Nat.zero_le _, Nat.zero_le _⟩ ?_
  refine V_run D.1 [] 10 rfl trivial ?_
  refine V_ile D.1 23 rfl rfl (by omega) (by omega) (fun q1 => ?_) (fun q1 => ?_)
  · have e : dWrite x = (0, ((wr x.2.1.1).length : Int), (wr x.2.1.1, x.2)) := by unfold dWrite; rw [if_neg (by omega)]
    rw [e]
    refine V_run D.1 [] 27 rfl ⟨a1, trivial⟩ ?_
    rw [a2]
    refine V_putB (av := []) (st := []) D.1 mwX0_clear rfl lkX9_X0_clear (s_clear b1) b1.1 rfl ⟨Nat.zero_le _, Nat.zero_le _⟩ (fun I1 e1 d1 => ?_)
    have m1' : MAt T I1 N m 20 x.2.1.1 x.2.1.2 := m1.kept (fun a h1 h2 => ⟨e1 a (by omega) (by omega), rfl⟩)
    refine V_run D.1 [] 38 rfl ⟨a1, a1, trivial⟩ ?_
    rw [n1, a2]
    refine V_putB (av := [.inr (.inr (d + 1))]) (st := []) D.1 mwX1_writeBehind rfl lkX9_X1_writeBehind (s_behind m1' hx.1 d1 (by omega) (by simp; omega)) m1.1.1 rfl ⟨Nat.zero_le _, Nat.zero_le _⟩ (fun I2 e2 d2 => ?_)
    rw [List.nil_append] at d2
    have R := h.setH (I' := I2) (fun a h1 h2 => by rw [e2 a h1 h2]; exact e1 a h1 h2) d2
    refine V_run D.1 [] 48 rfl ⟨by rw [a2]; exact b1.1, a1, trivial⟩ ?_
    rw [a2, d2.2.2.2.1]
    exact V_xiret D rfl rfl ⟨rfl, rfl, rfl, rfl, R⟩
  · have e : dWrite x = (1, 0, x) := by unfold dWrite; rw [if_pos (by omega)]
    rw [e]
    exact V_throw D (71, 75, "java/lang/IllegalStateException") (by decide) (111, "more than 2000 bytes") (by decide) rfl rfl rfl rfl rfl rfl rfl ⟨by decide, by decide⟩ (fun z' hz => ⟨Nat.succ_ne_zero _, rfl, hz, rfl, RCh.rf, h⟩)
end XDk2
end
section
theorem prun_len {xs : List Int} : ∀ (k p : Nat) (num : Int) (acc : List Opt) (p' : Nat) (os : List Opt), prun xs k p num acc = some (p', os) → os.length ≤ acc.length + k
  | 0, p, num, acc, p', os, h => by
    unfold prun at h
    cases h
    exact Nat.le_refl _
  | k + 1, p, num, acc, p', os, h => by
    unfold prun at h
    split at h
    · split at h
      · cases h
      · have := prun_len k _ _ _ _ _ h
        simp at this
        omega
    · cases h
      omega
theorem rd_rng (xs : List Int) : ((rd xs).1 = 0 ∨ (-6 ≤ (rd xs).1 ∧ (rd xs).1 ≤ -1)) ∧ (rd xs).2.2.2.2.2.1.length ≤ xs.length := by
  unfold rd
  split
  · exact ⟨Or.inr (by dsimp only; omega), by simp⟩
  · split
    · exact ⟨Or.inr (by dsimp only; omega), by simp⟩
    · split
      · exact ⟨Or.inr (by dsimp only; omega), by simp⟩
      · split
        · exact ⟨Or.inr (by dsimp only; omega), by simp⟩
        · rename_i p os hr
          have h := prun_len _ _ _ _ _ _ hr
          unfold rdE
          split
          · exact ⟨Or.inr (by dsimp only; omega), by simp⟩
          · split
            · exact ⟨Or.inr (by dsimp only; omega), by simp⟩
            · exact ⟨Or.inl rfl, by simpa using h⟩
def dServe (x : Dk) (p : Int) : Nat × Int × Dk := if ¬ (0 ≤ p ∧ p ≤ 9) then (1, 0, x) else if (rd x.1).1 < 0 ∨ 20 < (rd x.1).2.2.2.2.2.1.length then (0, -1, ([], x.2)) else
  (0, (tk x.2.2 (rd x.1).2 p.toNat).1, ((tk x.2.2 (rd x.1).2 p.toNat).2.1, x.2.1, (tk x.2.2 (rd x.1).2 p.toNat).2.2))
section XDk3
variable {Γ : xG} {E : xE} {M : xM} {z : Nat} {T : xY} {I : xI} {N : xN} {d b room lev mc ms pc : Nat} {x : Dk} {xs : List Int} {lv : xL} {post : xPo} {xp : xXp}
theorem DkAt.spare (h : DkAt T I N d x) {I' : xI} {N' : xN} {s : Nat} {g : Msg} {lat : Option Nat} (hs : s = N d 4) (hf : R2 (d + 3) s (s + 66) I N I' N') (hM : MAt T I' N' s 20 g lat) : RCh d (d + 494) I N I' N' ∧ DkAt T I' N' d x := by
  obtain ⟨⟨a1, a2, a3, a4, a5⟩, b1, s1, mb, ms, ⟨n1, n2, n3⟩, m1, g', lat', m2⟩ := h
  rw [n2] at hs
  subst hs
  have hd := hf.2 d (by omega)
  refine ⟨fun a ha => ⟨hf.1 a (by omega) (by omega), hf.2 a (by omega)⟩, ⟨a1, by rw [hd]; exact a2, by rw [hd]; exact a3, by rw [hd]; exact a4, a5⟩, b1.kept (hf.1 _ (by omega) (by omega)) (hf.1 _ (by omega) (by omega)) (hf.2 _ (by omega)), s1.kept (fun a h1 h2 => ⟨hf.1 a (by omega) (by omega), hf.2 a (by omega)⟩), mb, s, ⟨by rw [hd]; exact n1, by rw [hd]; exact n2, n3⟩, m1.kept (fun a h1 h2 => ⟨hf.1 a (by omega) (by omega), hf.2 a (by omega)⟩), g, lat, hM⟩
theorem s_dRead (h : DkAt T I N d x) : XSpec mX9_read 7 [.inr (.inr d)] z T I N 1 6 (OpP z T I N d rI (dRead x)) (OpX z T I N d csUO (dRead x)) := by
  obtain ⟨⟨a1, a2, a3, a4, a5⟩, b1, s1, m, s, ⟨n1, n2, n3⟩, m1, g', lat', m2⟩ := _root_.id h
  have h5 := b1.2.2.2.2.1
  have hrr := rd_rng x.1
  refine XSpec_of okX9_read (by decide) (by decide) (Nat.le_of_ble_eq_true rfl) fun Γ E D => ?_
  refine V_run D.1 [] 12 rfl ⟨a1, a1, a1, trivial⟩ ?_
  rw [a3, a2, n2]
  refine V_chV (av := [.inr (.inr (d + 1)), .inr (.inr s)]) (st := []) D.1 mwX4_parse rfl lkX9_X4_parse (s_parse a5 (by omega) b1 (by omega) m2) a5 rfl ⟨Nat.zero_le _, Nat.zero_le _⟩ (fun r I1 N1 P1 => ?_)
  obtain ⟨f1, g, lat, k1, hc⟩ := P1
  obtain ⟨R1, D1⟩ := h.spare n2.symm f1 k1
  rcases hc with ⟨c1, rfl⟩ | ⟨c1, rfl, rfl, c3⟩
  · have e : dRead x = (0, (rd x.1).1, x) := by unfold dRead; rw [if_pos c1]
    rw [e]
    refine V_run D.1 [] 19 rfl trivial ?_
    refine V_ile D.1 32 rfl rfl (by omega) (by omega) (fun q1 => ?_) (fun q1 => absurd q1 (by omega))
    refine V_run D.1 [] 33 rfl trivial ?_
    refine V_lt D.1 54 rfl rfl (by omega) (fun q2 => ?_) (fun q2 => absurd c1 q2)
    refine V_run D.1 [] 55 rfl trivial ?_
    exact V_xiret D rfl rfl ⟨rfl, rfl, rfl, rfl, R1, D1⟩
  · refine V_run D.1 [] 19 rfl trivial ?_
    refine V_ile D.1 32 rfl rfl (by omega) (by omega) (fun q1 => ?_) (fun q1 => ?_)
    · have e : dRead x = (0, ((rd x.1).2.2.2.2.2.1.length : Int), (x.1, ((rd x.1).2, none), x.2.2)) := by unfold dRead; rw [if_neg (by omega), if_neg (by omega)]
      rw [e]
      rw [List.take_of_length_le (by omega)] at c3
      refine V_run D.1 [] 33 rfl trivial ?_
      refine V_lt D.1 54 rfl rfl (by omega) (fun q2 => absurd q2 (by omega)) (fun q2 => ?_)
      have hN1 := f1.2 d (by omega)
      refine V_run D.1 [] 55 rfl ⟨a1, a1, a1, a1, trivial⟩ ?_
      rw [hN1, n1, n2]
      refine V_xiret D rfl rfl ⟨rfl, rfl, rfl, rfl, fun a ha => ⟨(R1 a ha).1, by rw [xup_ne (by omega), xup_ne (by omega)]; exact (R1 a ha).2⟩, ?_⟩
      obtain ⟨⟨a1', a2', a3', a4', a5'⟩, b1', s1', mb', ms', ⟨n1', n2', n3'⟩, m1', g'', lat'', m2'⟩ := D1
      rw [hN1, n1] at n1'
      rw [hN1, n2] at n2'
      subst n1' n2'
      have o1 : ∀ a, a ≠ d → xup (xup N1 d 3 s) d 4 m a = N1 a := fun a ha => by rw [xup_ne ha, xup_ne ha]
      have o2 : ∀ j, j ≠ 3 → j ≠ 4 → xup (xup N1 d 3 s) d 4 m d j = N1 d j := fun j h1 h2 => by rw [xup_at, xup_at]; unfold va_up; rw [if_neg h2, if_neg h1]
      refine ⟨⟨a1', by rw [o2 _ (by decide) (by decide)]; exact a2', by rw [o2 _ (by decide) (by decide)]; exact a3', by rw [o2 _ (by decide) (by decide)]; exact a4', a5'⟩, b1'.kept rfl rfl (o1 _ (by omega)), s1'.kept (fun a h1 h2 => ⟨rfl, o1 a (by omega)⟩), s, m, ⟨?_, ?_, by omega⟩, ?_, _, _, m1'.kept (fun a h1 h2 => ⟨rfl, o1 a (by omega)⟩)⟩
      · rw [xup_at, xup_at]; rfl
      · rw [xup_at]; rfl
      · rw [c3] at k1
        exact k1.kept (fun a h1 h2 => ⟨rfl, o1 a (by omega)⟩)
    · have e : dRead x = (1, 0, x) := by unfold dRead; rw [if_neg (by omega), if_pos (by omega)]
      rw [e]
      exact V_throw D (129, 133, "java/lang/UnsupportedOperationException") (by decide) (131, "more than 20 options") (by decide) rfl rfl rfl rfl rfl rfl rfl ⟨by decide, by decide⟩ (fun z' hz => ⟨Nat.succ_ne_zero _, rfl, hz, rfl, R1, D1⟩)
theorem s_dServe {p : Int} (h : DkAt T I N d x) (hx : DkOk x) (h4 : xIn p) : XSpec mX9_serve 7 [.inr (.inr d), .inl p] z T I N 1 6 (OpP z T I N d rI (dServe x p)) (OpX z T I N d cs2 (dServe x p)) := by
  obtain ⟨⟨a1, a2, a3, a4, a5⟩, b1, s1, m, s, ⟨n1, n2, n3⟩, m1, g', lat', m2⟩ := _root_.id h
  have h5 := b1.2.2.2.2.1
  have h7 := b1.2.2.2.2.2.2.1
  have hrr := rd_rng x.1
  refine XSpec_of okX9_serve (by decide) (by decide) (Nat.le_of_ble_eq_true rfl) fun Γ E D => ?_
  refine V_run D.1 [] 3 rfl trivial ?_
  refine V_askS (av := [.inl p, .inl 9]) (st := []) D.1 mwX9_within rfl lkX9_X9_within (s_within h4 (by omega)) rfl ⟨Nat.zero_le _, Nat.zero_le _⟩ ?_
  refine V_ne D.1 19 rfl rfl (b01_in _) (fun q4 => ?_) (fun q4 => ?_)
  · rw [b01_dec1] at q4
    refine V_run D.1 [] 31 rfl ⟨a1, a1, a1, trivial⟩ ?_
    rw [a3, a2, n2]
    refine V_chV (av := [.inr (.inr (d + 1)), .inr (.inr s)]) (st := []) D.1 mwX4_parse rfl lkX9_X4_parse (s_parse a5 (by omega) b1 (by omega) m2) a5 rfl ⟨Nat.zero_le _, Nat.zero_le _⟩ (fun r I1 N1 P1 => ?_)
    obtain ⟨f1, g, lat, k1, hc⟩ := P1
    obtain ⟨R1, D1⟩ := h.spare n2.symm f1 k1
    have hN1 := f1.2 d (by omega)
    have b1' : BAt T I1 N1 (d + 1) 2000 x.1 := D1.2.1
    have clr : ∀ (y : Int), V Γ E (xQX Γ E (OpP z T I N d rI (dServe x p)) (OpX z T I N d cs2 (dServe x p)) 1 6) z T I1 N1 0 0 34 (xlv [some (.inr (.inr d)), some (.inl p)]) [.inl y] = V Γ E (xQX Γ E (OpP z T I N d rI (dServe x p)) (OpX z T I N d cs2 (dServe x p)) 1 6) z T I1 N1 0 0 34 (xlv [some (.inr (.inr d)), some (.inl p)]) [.inl y] := fun _ => rfl
    rcases hc with ⟨c1, rfl⟩ | ⟨c1, rfl, rfl, c3⟩
    · have e : dServe x p = (0, -1, ([], x.2)) := by unfold dServe; rw [if_neg (fun h => h q4), if_pos (Or.inl c1)]
      rw [e]
      refine V_run D.1 [] 39 rfl ⟨a1, trivial⟩ ?_
      rw [hN1, a2]
      refine V_putB (av := []) (st := []) D.1 mwX0_clear rfl lkX9_X0_clear (s_clear b1') b1.1 rfl ⟨Nat.zero_le _, Nat.zero_le _⟩ (fun I2 e2 d2 => ?_)
      obtain ⟨R2, D2⟩ := D1.setH e2 d2
      refine V_run D.1 [] 43 rfl trivial ?_
      refine V_lt D.1 52 rfl rfl (by omega) (fun q2 => ?_) (fun q2 => absurd c1 q2)
      refine V_run D.1 [] 53 rfl trivial ?_
      exact V_xiret D rfl rfl ⟨rfl, rfl, rfl, rfl, R1.trans R2, D2⟩
    · refine V_run D.1 [] 39 rfl ⟨a1, trivial⟩ ?_
      rw [hN1, a2]
      refine V_putB (av := []) (st := []) D.1 mwX0_clear rfl lkX9_X0_clear (s_clear b1') b1.1 rfl ⟨Nat.zero_le _, Nat.zero_le _⟩ (fun I2 e2 d2 => ?_)
      obtain ⟨R2, D2⟩ := D1.setH e2 d2
      refine V_run D.1 [] 43 rfl trivial ?_
      refine V_lt D.1 52 rfl rfl (by omega) (fun q2 => absurd q2 (by omega)) (fun q2 => ?_)
      refine V_run D.1 [] 49 rfl trivial ?_
      refine V_ile D.1 54 rfl rfl (by omega) (by omega) (fun q3 => ?_) (fun q3 => ?_)
      · have e : dServe x p = (0, (tk x.2.2 (rd x.1).2 p.toNat).1, ((tk x.2.2 (rd x.1).2 p.toNat).2.1, x.2.1, (tk x.2.2 (rd x.1).2 p.toNat).2.2)) := by unfold dServe; rw [if_neg (fun h => h q4), if_neg (by omega)]
        rw [e]
        rw [List.take_of_length_le (by omega)] at c3
        obtain ⟨ok1, ok2⟩ := rd_ok (xs := x.1) h7 c1
        have hfit : (pe (pth (rd x.1).2.2.2.2.2.1)).length ≤ 2040 := by have := pe_le (rd x.1).2.2.2.2.2.1; omega
        have k2 : MAt T I2 N1 s 20 (rd x.1).2 none := by rw [c3] at k1; exact k1.kept (fun a h1 h2 => ⟨e2 a (by omega) (by omega), rfl⟩)
        obtain ⟨⟨a1', a2', a3', a4', a5'⟩, b2', s2', mb', ms', ⟨n1', n2', n3'⟩, m1', g'', lat'', m2'⟩ := D2
        rw [hN1, n1] at n1'
        rw [hN1, n2] at n2'
        subst n1' n2'
        refine V_run D.1 [] 67 rfl ⟨a1, a1, a1, trivial⟩ ?_
        rw [hN1, a4, n2, a2]
        have ep : ((p.toNat : Nat) : Int) = p := by omega
        have hs := s_take (z := z) (p := p.toNat) s2' hx.2 k2 ok1 hfit (by omega) d2 (by omega) (by omega) (by omega)
        rw [ep] at hs
        refine V_chV (av := [.inr (.inr s), .inl p, .inr (.inr (d + 1))]) (st := []) D.1 mwX7_take rfl lkX9_X7_take hs s2'.1.choose_spec.choose_spec.choose_spec.1.1 rfl ⟨Nat.zero_le _, Nat.zero_le _⟩ (fun r I3 N3 P3 => ?_)
        obtain ⟨rfl, g1, g2, S3, B3⟩ := P3
        have hN3 := g2 d (by omega)
        refine V_xiret D rfl rfl ⟨rfl, rfl, rfl, rfl, (R1.trans R2).trans (fun a ha => ⟨g1 a (by omega) (by omega) (by omega), g2 a (by omega)⟩), ⟨a1', by rw [hN3]; exact a2', by rw [hN3]; exact a3', by rw [hN3]; exact a4', a5'⟩, B3, S3, m, s, ⟨by rw [hN3, hN1]; exact n1, by rw [hN3, hN1]; exact n2, n3⟩, m1'.kept (fun a h1 h2 => ⟨g1 a (by omega) (by omega) (by omega), g2 a (by omega)⟩), _, _, m2'.kept (fun a h1 h2 => ⟨g1 a (by omega) (by omega) (by omega), g2 a (by omega)⟩)⟩
      · have e : dServe x p = (0, -1, ([], x.2)) := by unfold dServe; rw [if_neg (fun h => h q4), if_pos (Or.inr (by omega))]
        rw [e]
        refine V_run D.1 [] 53 rfl trivial ?_
        exact V_xiret D rfl rfl ⟨rfl, rfl, rfl, rfl, R1.trans R2, D2⟩
  · rw [b01_dec0] at q4
    have e : dServe x p = (1, 0, x) := by unfold dServe; rw [if_pos q4]
    rw [e]
    exact V_throw D (47, 51, "java/lang/IllegalArgumentException") (by decide) (162, "there is no such peer") (by decide) rfl rfl rfl rfl rfl rfl rfl ⟨by decide, by decide⟩ (fun z' hz => ⟨Nat.succ_ne_zero _, rfl, hz, rfl, RCh.rf, h⟩)
theorem s_dHand {i : Int} (h : DkAt T I N d x) (h4 : xIn i) : Spec mX9_hand 7 [.inr (.inr d), .inl i] z T I N 0 0 (xSame z T I N (some (.inl (bat x.1 i)))) := by
  obtain ⟨⟨a1, a2, a3, a4, a5⟩, b1, -⟩ := _root_.id h
  refine Spec_of okX9_hand (by decide) (by decide) (Nat.le_of_ble_eq_true rfl) fun Γ E D => ?_
  refine V_run D [] 5 rfl ⟨a1, trivial⟩ ?_
  rw [a2]
  refine V_askV (av := [.inl i]) (st := []) D mwX0_at rfl lkX9_X0_at (s_at b1 h4) b1.1 rfl ⟨Nat.le_refl _, Nat.le_refl _⟩ ?_
  exact V_iret D rfl rfl ⟨rfl, rfl, rfl, rfl, rfl⟩
end XDk3
end
section
def dAbout (x : Dk) (w : Int) : Nat × Int × Dk := if ¬ (0 ≤ w ∧ w ≤ 5) then (1, 0, x) else (0, (if w = 0 then x.2.1.1.1 else if w = 1 then x.2.1.1.2.1 else if w = 2 then x.2.1.1.2.2.1 else if w = 3 then (x.2.1.1.2.2.2.1.length : Int) else if w = 4 then (x.2.1.1.2.2.2.2.1.length : Int) else (x.2.1.1.2.2.2.2.2.length : Int)), x)
def dByteOf (x : Dk) (p i : Int) : Nat × Int × Dk := if p = -1 then (0, bat x.2.1.1.2.2.2.1 i, x) else if p = -2 then (0, bat x.2.1.1.2.2.2.2.2 i, x) else if 0 ≤ p ∧ p < x.2.1.1.2.2.2.2.1.length then (0, bat (od x.2.1.1.2.2.2.2.1 p.toNat).2 i, x) else (1, 0, x)
def bm32 (x : Int) : Int := x.bmod 4294967296
def dOptionAt (x : Dk) (k w : Int) : Nat × Int × Dk := if ¬ ((0 ≤ k ∧ k < x.2.1.1.2.2.2.2.1.length) ∧ 0 ≤ w ∧ w ≤ 2) then (1, 0, x) else (0, (if w = 0 then (od x.2.1.1.2.2.2.2.1 k.toNat).1 else if w = 1 then ((od x.2.1.1.2.2.2.2.1 k.toNat).2.length : Int) else bm32 (wn (od x.2.1.1.2.2.2.2.1 k.toNat).2)), x)
def dTotal (x : Dk) (w : Int) : Nat × Int × Dk := if ¬ (0 ≤ w ∧ w ≤ 5) then (1, 0, x) else (0, (if w = 0 then (x.1.length : Int) else if w = 1 then (x.2.2.1.1.length : Int) else if w = 2 then x.2.2.1.2 else if w = 3 then x.2.2.2.1.1 else if w = 4 then x.2.2.2.1.2.1 else x.2.2.2.1.2.2), x)
def dResource (x : Dk) (k w : Int) : Nat × Int × Dk := if ¬ ((0 ≤ k ∧ k < x.2.2.1.1.length) ∧ 0 ≤ w ∧ w ≤ 2) then (1, 0, x) else (0, (if w = 0 then ((rsd x.2.2.1.1 k.toNat).1.length : Int) else if w = 1 then ((rsd x.2.2.1.1 k.toNat).2.1.length : Int) else (rsd x.2.2.1.1 k.toNat).2.2), x)
section XDk4
variable {Γ : xG} {E : xE} {M : xM} {Q : State → Prop} {z : Nat} {T : xY} {I : xI} {N : xN} {d b room lev mc ms pc ce sl : Nat} {x : Dk} {xs : List Int} {lv : xL} {st : List xV} {post : xPo} {xp : xXp}
theorem V_bm {y : Int} (h : V Γ E Q z T I N ce sl pc lv (.inl (bm32 y) :: st)) : V Γ E Q z T I N ce sl pc lv (.inl y :: st) := by
  have e : xv (.inl (bm32 y)) = xv (.inl y) := by
    show Value.int (Int32.ofInt (bm32 y)) = Value.int (Int32.ofInt y)
    congr 1
    rw [← Int32.toInt_inj, x32b, x32b]
    unfold bm32
    exact Int.bmod_bmod
  intro H locs ls hR hS hl
  have h1 := h H locs ls hR hS hl
  rw [List.map_cons, e, ← List.map_cons] at h1
  exact h1
theorem s_dAbout {w : Int} (h : DkAt T I N d x) (h4 : xIn w) : XSpec mX9_about 7 [.inr (.inr d), .inl w] z T I N 1 6 (OpP z T I N d rI (dAbout x w)) (OpX z T I N d cs2 (dAbout x w)) := by
  obtain ⟨⟨a1, a2, a3, a4, a5⟩, b1, s1, m, ms, ⟨n1, n2, n3⟩, m1, g', lat', m2⟩ := _root_.id h
  have t0 : T (N d 3) = some (.inr 1) := by rw [n1]; exact m1.1.1
  refine XSpec_of okX9_about (by decide) (by decide) (Nat.le_of_ble_eq_true rfl) fun Γ E D => ?_
  refine V_run D.1 [] 1 rfl trivial ?_
  by_cases hw : 0 ≤ w ∧ w ≤ 5
  · have e : dAbout x w = (0, (if w = 0 then x.2.1.1.1 else if w = 1 then x.2.1.1.2.1 else if w = 2 then x.2.1.1.2.2.1 else if w = 3 then (x.2.1.1.2.2.2.1.length : Int) else if w = 4 then (x.2.1.1.2.2.2.2.1.length : Int) else (x.2.1.1.2.2.2.2.2.length : Int)), x) := by unfold dAbout; rw [if_neg (fun h => h hw)]
    rw [e]
    rcases (by omega : w = 0 ∨ w = 1 ∨ w = 2 ∨ w = 3 ∨ w = 4 ∨ w = 5) with c | c | c | c | c | c <;> subst c
    · refine V_tswIn D.1 40 rfl h4 ⟨by decide, by decide⟩ rfl rfl ?_
      refine V_run D.1 [] 47 rfl ⟨t0, a1, trivial⟩ ?_
      rw [n1, m1.2.1.1]
      exact V_xiret D rfl rfl ⟨rfl, rfl, rfl, rfl, RCh.rf, h⟩
    · refine V_tswIn D.1 48 rfl h4 ⟨by decide, by decide⟩ rfl rfl ?_
      refine V_run D.1 [] 55 rfl ⟨t0, a1, trivial⟩ ?_
      rw [n1, m1.2.1.2.1]
      exact V_xiret D rfl rfl ⟨rfl, rfl, rfl, rfl, RCh.rf, h⟩
    · refine V_tswIn D.1 56 rfl h4 ⟨by decide, by decide⟩ rfl rfl ?_
      refine V_run D.1 [] 63 rfl ⟨t0, a1, trivial⟩ ?_
      rw [n1, m1.2.1.2.2]
      exact V_xiret D rfl rfl ⟨rfl, rfl, rfl, rfl, RCh.rf, h⟩
    · refine V_tswIn D.1 64 rfl h4 ⟨by decide, by decide⟩ rfl rfl ?_
      refine V_run D.1 [] 74 rfl ⟨by rw [n1, m1.1.2.1]; exact m1.2.2.1.1, t0, a1, trivial⟩ ?_
      rw [n1, m1.1.2.1, m1.2.2.1.2.2.2.1]
      exact V_xiret D rfl rfl ⟨rfl, rfl, rfl, rfl, RCh.rf, h⟩
    · refine V_tswIn D.1 75 rfl h4 ⟨by decide, by decide⟩ rfl rfl ?_
      refine V_run D.1 [] 82 rfl ⟨t0, a1, trivial⟩ ?_
      rw [n1, m1.1.2.2.2.2.2.2.1]
      exact V_xiret D rfl rfl ⟨rfl, rfl, rfl, rfl, RCh.rf, h⟩
    · refine V_tswIn D.1 83 rfl h4 ⟨by decide, by decide⟩ rfl rfl ?_
      refine V_run D.1 [] 93 rfl ⟨by rw [n1, m1.1.2.2.1]; exact m1.2.2.2.1.1, t0, a1, trivial⟩ ?_
      rw [n1, m1.1.2.2.1, m1.2.2.2.1.2.2.2.1]
      exact V_xiret D rfl rfl ⟨rfl, rfl, rfl, rfl, RCh.rf, h⟩
  · have e : dAbout x w = (1, 0, x) := by unfold dAbout; rw [if_pos hw]
    rw [e]
    refine V_tswOut D.1 94 rfl h4 (by omega) rfl ?_
    exact V_throw D (47, 51, "java/lang/IllegalArgumentException") (by decide) (143, "what is not 0 .. 5") (by decide) rfl rfl rfl rfl rfl rfl rfl ⟨by decide, by decide⟩ (fun z' hz => ⟨Nat.succ_ne_zero _, rfl, hz, rfl, RCh.rf, h⟩)
theorem s_dByteOf {p i : Int} (h : DkAt T I N d x) (h3 : xIn p) (h4 : xIn i) : XSpec mX9_byteOf 7 [.inr (.inr d), .inl p, .inl i] z T I N 1 6 (OpP z T I N d rI (dByteOf x p i)) (OpX z T I N d cs2 (dByteOf x p i)) := by
  obtain ⟨⟨a1, a2, a3, a4, a5⟩, b1, s1, m, ms, ⟨n1, n2, n3⟩, m1, g', lat', m2⟩ := _root_.id h
  have t0 : T (N d 3) = some (.inr 1) := by rw [n1]; exact m1.1.1
  refine XSpec_of okX9_byteOf (by decide) (by decide) (Nat.le_of_ble_eq_true rfl) fun Γ E D => ?_
  unfold dByteOf
  refine V_run D.1 [] 2 rfl trivial ?_
  refine V_ine D.1 17 rfl rfl h3 (by omega) (fun q1 => ?_) (fun q1 => ?_)
  · rw [if_neg q1]
    refine V_run D.1 [] 20 rfl trivial ?_
    refine V_ine D.1 35 rfl rfl h3 (by omega) (fun q2 => ?_) (fun q2 => ?_)
    · rw [if_neg q2]
      refine V_run D.1 [] 40 rfl ⟨a1, trivial⟩ ?_
      rw [n1]
      refine V_askV (av := [.inl p]) (st := []) D.1 mwX1_at rfl lkX9_X1_at (s_mat m1 h3) m1.1.1 rfl ⟨Nat.zero_le _, Nat.zero_le _⟩ ?_
      unfold oref
      by_cases hp : 0 ≤ p ∧ p < x.2.1.1.2.2.2.2.1.length
      · rw [if_pos hp, if_pos hp]
        obtain ⟨⟨p1, p2, p3, p4⟩, o2, o3⟩ := m1.opt (j := p.toNat) (by omega)
        refine V_run D.1 [] 45 rfl trivial ?_
        refine V_nonnull D.1 58 rfl rfl (fun q5 => ?_) (fun q5 => absurd q5 (by omega))
        refine V_run D.1 [] 63 rfl ⟨p1, trivial⟩ ?_
        rw [p2]
        refine V_askV (av := [.inl i]) (st := []) D.1 mwX0_at rfl lkX9_X0_at (s_at p4 h4) p4.1 rfl ⟨Nat.zero_le _, Nat.zero_le _⟩ ?_
        exact V_xiret D rfl rfl ⟨rfl, rfl, rfl, rfl, RCh.rf, h⟩
      · rw [if_neg hp, if_neg hp]
        refine V_run D.1 [] 45 rfl trivial ?_
        refine V_nonnull D.1 58 rfl rfl (fun q5 => absurd q5 (by omega)) (fun q5 => ?_)
        exact V_throw D (47, 51, "java/lang/IllegalArgumentException") (by decide) (151, "there is no such part") (by decide) rfl rfl rfl rfl rfl rfl rfl ⟨by decide, by decide⟩ (fun z' hz => ⟨Nat.succ_ne_zero _, rfl, hz, rfl, RCh.rf, h⟩)
    · rw [if_pos q2]
      have p4 := m1.2.2.2.1
      refine V_run D.1 [] 31 rfl ⟨t0, a1, trivial⟩ ?_
      rw [n1, m1.1.2.2.1]
      refine V_askV (av := [.inl i]) (st := []) D.1 mwX0_at rfl lkX9_X0_at (s_at p4 h4) p4.1 rfl ⟨Nat.zero_le _, Nat.zero_le _⟩ ?_
      exact V_xiret D rfl rfl ⟨rfl, rfl, rfl, rfl, RCh.rf, h⟩
  · rw [if_pos q1]
    have p4 := m1.2.2.1
    refine V_run D.1 [] 13 rfl ⟨t0, a1, trivial⟩ ?_
    rw [n1, m1.1.2.1]
    refine V_askV (av := [.inl i]) (st := []) D.1 mwX0_at rfl lkX9_X0_at (s_at p4 h4) p4.1 rfl ⟨Nat.zero_le _, Nat.zero_le _⟩ ?_
    exact V_xiret D rfl rfl ⟨rfl, rfl, rfl, rfl, RCh.rf, h⟩
theorem s_dOptionAt {k w : Int} (h : DkAt T I N d x) (h3 : xIn k) (h4 : xIn w) : XSpec mX9_optionAt 7 [.inr (.inr d), .inl k, .inl w] z T I N 1 6 (OpP z T I N d rI (dOptionAt x k w)) (OpX z T I N d cs2 (dOptionAt x k w)) := by
  obtain ⟨⟨a1, a2, a3, a4, a5⟩, b1, s1, m, ms, ⟨n1, n2, n3⟩, m1, g', lat', m2⟩ := _root_.id h
  refine XSpec_of okX9_optionAt (by decide) (by decide) (Nat.le_of_ble_eq_true rfl) fun Γ E D => ?_
  have bad : ¬ ((0 ≤ k ∧ k < x.2.1.1.2.2.2.2.1.length) ∧ 0 ≤ w ∧ w ≤ 2) → ∀ lv, V Γ E (xQX Γ E (OpP z T I N d rI (dOptionAt x k w)) (OpX z T I N d cs2 (dOptionAt x k w)) 1 6) z T I N 0 0 21 lv [] := fun hc lv => by
    have e : dOptionAt x k w = (1, 0, x) := by unfold dOptionAt; rw [if_pos hc]
    rw [e]
    exact V_throw D (47, 51, "java/lang/IllegalArgumentException") (by decide) (153, "there is no such option, or what is not 0 .. 2") (by decide) rfl rfl rfl rfl rfl rfl rfl ⟨by decide, by decide⟩ (fun z' hz => ⟨Nat.succ_ne_zero _, rfl, hz, rfl, RCh.rf, h⟩)
  refine V_run D.1 [] 5 rfl ⟨a1, trivial⟩ ?_
  rw [n1]
  refine V_askV (av := [.inl k]) (st := []) D.1 mwX1_at rfl lkX9_X1_at (s_mat m1 h3) m1.1.1 rfl ⟨Nat.zero_le _, Nat.zero_le _⟩ ?_
  unfold oref
  by_cases hp : 0 ≤ k ∧ k < x.2.1.1.2.2.2.2.1.length
  · rw [if_pos hp]
    obtain ⟨⟨p1, p2, p3, p4⟩, o2, o3⟩ := m1.opt (j := k.toNat) (by omega)
    refine V_run D.1 [] 10 rfl trivial ?_
    refine V_null D.1 21 rfl rfl (fun q5 => absurd q5 (by omega)) (fun q5 => ?_)
    refine V_run D.1 [] 15 rfl trivial ?_
    refine V_askS (av := [.inl w, .inl 2]) (st := []) D.1 mwX9_within rfl lkX9_X9_within (s_within h4 (by omega)) rfl ⟨Nat.zero_le _, Nat.zero_le _⟩ ?_
    refine V_ne D.1 31 rfl rfl (b01_in _) (fun q1 => ?_) (fun q1 => ?_)
    · rw [b01_dec1] at q1
      have e : dOptionAt x k w = (0, (if w = 0 then (od x.2.1.1.2.2.2.2.1 k.toNat).1 else if w = 1 then ((od x.2.1.1.2.2.2.2.1 k.toNat).2.length : Int) else bm32 (wn (od x.2.1.1.2.2.2.2.1 k.toNat).2)), x) := by unfold dOptionAt; rw [if_neg (fun h => h ⟨hp, q1⟩)]
      rw [e]
      refine V_run D.1 [] 32 rfl trivial ?_
      refine V_ne D.1 40 rfl rfl h4 (fun q2 => ?_) (fun q2 => ?_)
      · rw [if_neg q2]
        refine V_run D.1 [] 42 rfl trivial ?_
        refine V_ine D.1 55 rfl rfl h4 (by omega) (fun q3 => ?_) (fun q3 => ?_)
        · rw [if_neg q3]
          refine V_run D.1 [] 59 rfl ⟨p1, trivial⟩ ?_
          rw [p2]
          refine V_askV (av := []) (st := []) D.1 mwX0_wholeNumber rfl lkX9_X0_wholeNumber (s_whole p4) p4.1 rfl ⟨Nat.zero_le _, Nat.zero_le _⟩ ?_
          refine V_run D.1 [] 63 rfl trivial ?_
          refine V_bm ?_
          exact V_xiret D rfl rfl ⟨rfl, rfl, rfl, rfl, RCh.rf, h⟩
        · rw [if_pos q3]
          refine V_run D.1 [] 63 rfl ⟨by rw [p2]; exact p4.1, p1, trivial⟩ ?_
          rw [p2, p4.2.2.2.1]
          exact V_xiret D rfl rfl ⟨rfl, rfl, rfl, rfl, RCh.rf, h⟩
      · rw [if_pos q2]
        refine V_run D.1 [] 39 rfl ⟨p1, trivial⟩ ?_
        rw [p3]
        exact V_xiret D rfl rfl ⟨rfl, rfl, rfl, rfl, RCh.rf, h⟩
    · rw [b01_dec0] at q1
      exact bad (fun h => q1 h.2) _
  · rw [if_neg hp]
    refine V_run D.1 [] 10 rfl trivial ?_
    refine V_null D.1 21 rfl rfl (fun q5 => ?_) (fun q5 => absurd q5 (by omega))
    exact bad (fun h => hp h.1) _
theorem s_dTotal {w : Int} (h : DkAt T I N d x) (h4 : xIn w) : XSpec mX9_total 7 [.inr (.inr d), .inl w] z T I N 1 6 (OpP z T I N d rI (dTotal x w)) (OpX z T I N d cs2 (dTotal x w)) := by
  obtain ⟨⟨a1, a2, a3, a4, a5⟩, b1, ⟨⟨sa, sv, sn, ⟨⟨c1, c2, -⟩, -, S1, -⟩⟩, ⟨i5, i6, i7⟩, -⟩, -⟩ := _root_.id h
  have t0 : T (N d 2) = some (.inr 7) := by rw [a4]; exact c1
  have t1 : T (N (N d 2) 0) = some (.inr 8) := by rw [a4, c2]; exact S1.1.1
  refine XSpec_of okX9_total (by decide) (by decide) (Nat.le_of_ble_eq_true rfl) fun Γ E D => ?_
  refine V_run D.1 [] 1 rfl trivial ?_
  by_cases hw : 0 ≤ w ∧ w ≤ 5
  · have e : dTotal x w = (0, (if w = 0 then (x.1.length : Int) else if w = 1 then (x.2.2.1.1.length : Int) else if w = 2 then x.2.2.1.2 else if w = 3 then x.2.2.2.1.1 else if w = 4 then x.2.2.2.1.2.1 else x.2.2.2.1.2.2), x) := by unfold dTotal; rw [if_neg (fun h => h hw)]
    rw [e]
    rcases (by omega : w = 0 ∨ w = 1 ∨ w = 2 ∨ w = 3 ∨ w = 4 ∨ w = 5) with c | c | c | c | c | c <;> subst c
    · refine V_tswIn D.1 40 rfl h4 ⟨by decide, by decide⟩ rfl rfl ?_
      refine V_run D.1 [] 47 rfl ⟨by rw [a2]; exact b1.1, a1, trivial⟩ ?_
      rw [a2, b1.2.2.2.1]
      exact V_xiret D rfl rfl ⟨rfl, rfl, rfl, rfl, RCh.rf, h⟩
    · refine V_tswIn D.1 48 rfl h4 ⟨by decide, by decide⟩ rfl rfl ?_
      refine V_run D.1 [] 58 rfl ⟨t1, t0, a1, trivial⟩ ?_
      rw [a4, c2, S1.1.2.2.2.1]
      exact V_xiret D rfl rfl ⟨rfl, rfl, rfl, rfl, RCh.rf, h⟩
    · refine V_tswIn D.1 59 rfl h4 ⟨by decide, by decide⟩ rfl rfl ?_
      refine V_run D.1 [] 69 rfl ⟨t1, t0, a1, trivial⟩ ?_
      rw [a4, c2, S1.1.2.2.2.2.2]
      exact V_xiret D rfl rfl ⟨rfl, rfl, rfl, rfl, RCh.rf, h⟩
    · refine V_tswIn D.1 70 rfl h4 ⟨by decide, by decide⟩ rfl rfl ?_
      refine V_run D.1 [] 77 rfl ⟨t0, a1, trivial⟩ ?_
      rw [a4, i5]
      exact V_xiret D rfl rfl ⟨rfl, rfl, rfl, rfl, RCh.rf, h⟩
    · refine V_tswIn D.1 78 rfl h4 ⟨by decide, by decide⟩ rfl rfl ?_
      refine V_run D.1 [] 85 rfl ⟨t0, a1, trivial⟩ ?_
      rw [a4, i6]
      exact V_xiret D rfl rfl ⟨rfl, rfl, rfl, rfl, RCh.rf, h⟩
    · refine V_tswIn D.1 86 rfl h4 ⟨by decide, by decide⟩ rfl rfl ?_
      refine V_run D.1 [] 93 rfl ⟨t0, a1, trivial⟩ ?_
      rw [a4, i7]
      exact V_xiret D rfl rfl ⟨rfl, rfl, rfl, rfl, RCh.rf, h⟩
  · have e : dTotal x w = (1, 0, x) := by unfold dTotal; rw [if_pos hw]
    rw [e]
    refine V_tswOut D.1 94 rfl h4 (by omega) rfl ?_
    exact V_throw D (47, 51, "java/lang/IllegalArgumentException") (by decide) (143, "what is not 0 .. 5") (by decide) rfl rfl rfl rfl rfl rfl rfl ⟨by decide, by decide⟩ (fun z' hz => ⟨Nat.succ_ne_zero _, rfl, hz, rfl, RCh.rf, h⟩)
theorem s_dResource {k w : Int} (h : DkAt T I N d x) (h3 : xIn k) (h4 : xIn w) : XSpec mX9_resource 7 [.inr (.inr d), .inl k, .inl w] z T I N 1 6 (OpP z T I N d rI (dResource x k w)) (OpX z T I N d cs2 (dResource x k w)) := by
  obtain ⟨⟨a1, a2, a3, a4, a5⟩, b1, ⟨⟨sa, sv, sn, ⟨⟨c1, c2, -⟩, -, S1, -⟩⟩, ⟨i5, i6, i7⟩, -⟩, -⟩ := _root_.id h
  have t0 : T (N d 2) = some (.inr 7) := by rw [a4]; exact c1
  refine XSpec_of okX9_resource (by decide) (by decide) (Nat.le_of_ble_eq_true rfl) fun Γ E D => ?_
  have bad : ¬ ((0 ≤ k ∧ k < x.2.2.1.1.length) ∧ 0 ≤ w ∧ w ≤ 2) → ∀ lv, V Γ E (xQX Γ E (OpP z T I N d rI (dResource x k w)) (OpX z T I N d cs2 (dResource x k w)) 1 6) z T I N 0 0 24 lv [] := fun hc lv => by
    have e : dResource x k w = (1, 0, x) := by unfold dResource; rw [if_pos hc]
    rw [e]
    exact V_throw D (47, 51, "java/lang/IllegalArgumentException") (by decide) (190, "there is no such resource, or what is not 0 .. 2") (by decide) rfl rfl rfl rfl rfl rfl rfl ⟨by decide, by decide⟩ (fun z' hz => ⟨Nat.succ_ne_zero _, rfl, hz, rfl, RCh.rf, h⟩)
  refine V_run D.1 [] 8 rfl ⟨t0, a1, trivial⟩ ?_
  rw [a4, c2]
  refine V_askV (av := [.inl k]) (st := []) D.1 mwX8_at rfl lkX9_X8_at (s_stat S1 h3) S1.1.1 rfl ⟨Nat.zero_le _, Nat.zero_le _⟩ ?_
  unfold rref
  by_cases hp : 0 ≤ k ∧ k < x.2.2.1.1.length
  · rw [if_pos hp]
    obtain ⟨⟨r1, r2, r3, r4, r5, r6, r7⟩, o2, o3⟩ := S1.res (k := k.toNat) (by omega)
    refine V_run D.1 [] 13 rfl trivial ?_
    refine V_null D.1 24 rfl rfl (fun q5 => absurd q5 (by omega)) (fun q5 => ?_)
    refine V_run D.1 [] 18 rfl trivial ?_
    refine V_askS (av := [.inl w, .inl 2]) (st := []) D.1 mwX9_within rfl lkX9_X9_within (s_within h4 (by omega)) rfl ⟨Nat.zero_le _, Nat.zero_le _⟩ ?_
    refine V_ne D.1 34 rfl rfl (b01_in _) (fun q1 => ?_) (fun q1 => ?_)
    · rw [b01_dec1] at q1
      have e : dResource x k w = (0, (if w = 0 then ((rsd x.2.2.1.1 k.toNat).1.length : Int) else if w = 1 then ((rsd x.2.2.1.1 k.toNat).2.1.length : Int) else (rsd x.2.2.1.1 k.toNat).2.2), x) := by unfold dResource; rw [if_neg (fun h => h ⟨hp, q1⟩)]
      rw [e]
      refine V_run D.1 [] 35 rfl trivial ?_
      refine V_ne D.1 43 rfl rfl h4 (fun q2 => ?_) (fun q2 => ?_)
      · rw [if_neg q2]
        refine V_run D.1 [] 45 rfl trivial ?_
        refine V_ine D.1 58 rfl rfl h4 (by omega) (fun q3 => ?_) (fun q3 => ?_)
        · rw [if_neg q3]
          refine V_run D.1 [] 62 rfl ⟨r1, trivial⟩ ?_
          rw [r5]
          exact V_xiret D rfl rfl ⟨rfl, rfl, rfl, rfl, RCh.rf, h⟩
        · rw [if_pos q3]
          refine V_run D.1 [] 62 rfl ⟨by rw [r3]; exact r7.1, r1, trivial⟩ ?_
          rw [r3, r7.2.2.2.1]
          exact V_xiret D rfl rfl ⟨rfl, rfl, rfl, rfl, RCh.rf, h⟩
      · rw [if_pos q2]
        refine V_run D.1 [] 42 rfl ⟨r1, trivial⟩ ?_
        rw [r4]
        exact V_xiret D rfl rfl ⟨rfl, rfl, rfl, rfl, RCh.rf, h⟩
    · rw [b01_dec0] at q1
      exact bad (fun h => q1 h.2) _
  · rw [if_neg hp]
    refine V_run D.1 [] 13 rfl trivial ?_
    refine V_null D.1 24 rfl rfl (fun q5 => ?_) (fun q5 => absurd q5 (by omega))
    exact bad (fun h => hp h.1) _
end XDk4
end
section
/-! constructors: all is made at the end, nothing below changes -/
def Ag (hi : Nat) (T : xY) (I : xI) (N : xN) (T' : xY) (I' : xI) (N' : xN) : Prop := ∀ q, q < hi → T' q = T q ∧ I' q = I q ∧ N' q = N q
def InP (T : xY) (I : xI) (N : xN) (a size : Nat) (P : xY → xI → xN → Prop) : xPo := fun r z' T' I' N' => r = none ∧ z' = a + size ∧ Ag a T I N T' I' N' ∧ P T' I' N'
theorem Ag.rf {hi : Nat} {T : xY} {I : xI} {N : xN} : Ag hi T I N T I N := fun _ _ => ⟨rfl, rfl, rfl⟩
theorem Ag.trans {hi : Nat} {T T' T'' : xY} {I I' I'' : xI} {N N' N'' : xN} (h : Ag hi T I N T' I' N') (h' : Ag hi T' I' N' T'' I'' N'') : Ag hi T I N T'' I'' N'' := fun q hq => ⟨(h' q hq).1.trans (h q hq).1, (h' q hq).2.1.trans (h q hq).2.1, (h' q hq).2.2.trans (h q hq).2.2⟩
theorem Ag.lo {hi lo : Nat} {T T' : xY} {I I' : xI} {N N' : xN} (h : Ag hi T I N T' I' N') (hl : lo ≤ hi) : Ag lo T I N T' I' N' := fun q hq => h q (by omega)
theorem Ag.new {hi z : Nat} {T T' : xY} {I I' : xI} {N N' : xN} (h : Ag hi T I N T' I' N') (hz : hi ≤ z) {t : Option xT} {i : Nat → Int} {n : Nat → Nat} : Ag hi T I N (va_up T' z t) (va_up I' z i) (va_up N' z n) := fun q hq => by
  have hne : ¬ q = z := by omega
  unfold va_up
  rw [if_neg hne, if_neg hne, if_neg hne]
  exact h q hq
theorem Ag.putN {hi a f w : Nat} {T T' : xY} {I I' : xI} {N N' : xN} (h : Ag hi T I N T' I' N') (ha : hi ≤ a) : Ag hi T I N T' I' (xup N' a f w) := fun q hq => by rw [xup_ne (by omega)]; exact h q hq
theorem Ag.putI {hi a f : Nat} {w : Int} {T T' : xY} {I I' : xI} {N N' : xN} (h : Ag hi T I N T' I' N') (ha : hi ≤ a) : Ag hi T I N T' (xup I' a f w) N' := fun q hq => by rw [xup_ne (by omega)]; exact h q hq
theorem up_at {α : Type} {f : Nat → α} {z : Nat} {v : α} : va_up f z v z = v := by unfold va_up; rw [if_pos rfl]
theorem up_ne {α : Type} {f : Nat → α} {z q : Nat} {v : α} (h : q ≠ z) : va_up f z v q = f q := by unfold va_up; rw [if_neg h]
theorem xup_f {α : Type} {f : Nat → Nat → α} {a k : Nat} {v : α} : xup f a k v a k = v := by rw [xup_at]; exact up_at
theorem xup_j {α : Type} {f : Nat → Nat → α} {a k j : Nat} {v : α} (h : j ≠ k) : xup f a k v a j = f a j := by rw [xup_at]; exact up_ne h
section XMk
variable {Γ : xG} {E : xE} {M M' : xM} {T T' : xY} {I I' : xI} {N N' : xN} {z : Nat} {ce sl pc lev lev' mc ms mc' ms' n idx b o m q room most old : Nat} {Q : State → Prop} {lv : xL} {st : List xV} {post post' : xPo} {av : List xV} {xs v : List Int} {k : Int} {ring : List Opt} {tags : Int} {rs : List Res}
theorem BAt.mv (h : BAt T I N b room xs) (hk : ∀ q, b ≤ q → q < b + 2 → T' q = T q ∧ I' q = I q ∧ N' q = N q) : BAt T' I' N' b room xs := by
  obtain ⟨a1, a2, a3, a4, a5, a6, a7, a8⟩ := h
  have k0 := hk b (by omega) (by omega)
  have k1 := hk (b + 1) (by omega) (by omega)
  exact ⟨by rw [k0.1]; exact a1, by rw [k1.1]; exact a2, by rw [k0.2.2]; exact a3, by rw [k0.2.1]; exact a4, a5, a6, a7, fun j hj => by rw [k1.2.1]; exact a8 j hj⟩
theorem OAt.mv (h : OAt T I N o k v) (hk : ∀ q, o ≤ q → q < o + 3 → T' q = T q ∧ I' q = I q ∧ N' q = N q) : OAt T' I' N' o k v := by
  obtain ⟨h1, h2, h3, h4⟩ := h
  have k0 := hk o (by omega) (by omega)
  exact ⟨by rw [k0.1]; exact h1, by rw [k0.2.2]; exact h2, by rw [k0.2.1]; exact h3, h4.mv (fun q h1 h2 => hk q (by omega) (by omega))⟩
theorem SnAt.mv (h : SnAt T I N o k v) (hk : ∀ q, o ≤ q → q < o + 3 → T' q = T q ∧ I' q = I q ∧ N' q = N q) : SnAt T' I' N' o k v := by
  obtain ⟨h1, h2, h3, h4⟩ := h
  have k0 := hk o (by omega) (by omega)
  exact ⟨by rw [k0.1]; exact h1, by rw [k0.2.2]; exact h2, by rw [k0.2.1]; exact h3, h4.mv (fun q h1 h2 => hk q (by omega) (by omega))⟩
theorem RsAny.mv (h : RsAny T I N o) (hk : ∀ q, o ≤ q → q < o + 5 → T' q = T q ∧ I' q = I q ∧ N' q = N q) : RsAny T' I' N' o := by
  obtain ⟨h1, h2, h3, ⟨v, h6⟩, w, h7⟩ := h
  have k0 := hk o (by omega) (by omega)
  exact ⟨by rw [k0.1]; exact h1, by rw [k0.2.2]; exact h2, by rw [k0.2.2]; exact h3, ⟨v, h6.mv (fun q h1 h2 => hk q (by omega) (by omega))⟩, w, h7.mv (fun q h1 h2 => hk q (by omega) (by omega))⟩
theorem PAt.mv (h : PAt T I N q ring old) (hk : ∀ a, q ≤ a → a < q + 26 → T' a = T a ∧ I' a = I a ∧ N' a = N a) : PAt T' I' N' q ring old := by
  obtain ⟨a1, a2, a3, a4, a5, a6, a7, a8⟩ := h
  have k0 := hk q (by omega) (by omega)
  have k1 := hk (q + 1) (by omega) (by omega)
  exact ⟨by rw [k0.1]; exact a1, by rw [k0.2.2]; exact a2, by rw [k1.1]; exact a3, by rw [k0.2.1]; exact a4, a5, a6, fun k h => by rw [k1.2.2]; exact a7 k h, fun k h => (a8 k h).mv (fun a h1 h2 => hk a (by omega) (by omega))⟩
/-- a message without anything -/
theorem MAt.mv0 (h : MAt T I N m most (0, 0, 0, [], [], []) none) (hk : ∀ a, m ≤ a → a < m + 6 + 3 * most → T' a = T a ∧ I' a = I a ∧ N' a = N a) : MAt T' I' N' m most (0, 0, 0, [], [], []) none := by
  obtain ⟨⟨a1, a2, a3, a4, a5, a6, a7, a8⟩, ⟨b1, b2, b3⟩, c1, c2, ⟨f, f1, f2, f3, f4⟩, l1⟩ := h
  have k0 := hk m (by omega) (by omega)
  have k5 := hk (m + 5) (by omega) (by omega)
  refine ⟨⟨by rw [k0.1]; exact a1, by rw [k0.2.2]; exact a2, by rw [k0.2.2]; exact a3, by rw [k0.2.2]; exact a4, by rw [k5.1]; exact a5, a6, by rw [k0.2.1]; exact a7, a8⟩, ⟨by rw [k0.2.1]; exact b1, by rw [k0.2.1]; exact b2, by rw [k0.2.1]; exact b3⟩, c1.mv (fun q h1 h2 => hk q (by omega) (by omega)), c2.mv (fun q h1 h2 => hk q (by omega) (by omega)), ⟨f, fun j hj => by rw [k5.2.2]; exact f1 j hj, f2, fun k hk1 => ?_, fun j hj => ?_⟩, ?_⟩
  · obtain ⟨n, v, h⟩ := f3 k hk1
    exact ⟨n, v, h.mv (fun a h1 h2 => hk a (by omega) (by omega))⟩
  · simp at hj
  · show N' m 4 = 0; rw [k0.2.2]; exact l1
theorem StAt.mv0 (h : StAt T I N q [] 0) (hk : ∀ a, q ≤ a → a < q + 82 → T' a = T a ∧ I' a = I a ∧ N' a = N a) : StAt T' I' N' q [] 0 := by
  obtain ⟨⟨a1, a2, a3, a4, a5, a6⟩, f, f1, f2, f3, f4⟩ := h
  have k0 := hk q (by omega) (by omega)
  have k1 := hk (q + 1) (by omega) (by omega)
  refine ⟨⟨by rw [k0.1]; exact a1, by rw [k0.2.2]; exact a2, by rw [k1.1]; exact a3, by rw [k0.2.1]; exact a4, a5, by rw [k0.2.1]; exact a6⟩, f, fun j hj => by rw [k1.2.2]; exact f1 j hj, f2, fun k h => (f3 k h).mv (fun a h1 h2 => hk a (by omega) (by omega)), fun j hj => by simp at hj⟩
theorem V_newO (D : xD Γ E M lev mc ms) (c nf : Nat) (hnf : xNN c = nf) (hf : xfe M pc = some (.new idx, 3)) (hlk : Cond.classLink (xRn M.2.2.2.2.1) idx (xRn c) ∈ lw_tbl) (hc : c < 11) (hm : ce + 1 ≤ mc ∧ sl + nf ≤ ms)
    (k : V Γ E Q (z + 1) (va_up T z (some (.inr c))) (va_up I z (fun _ => 0)) (va_up N z (fun _ => 0)) (ce + 1) (sl + nf) (pc + 3) lv (.inr (.inr z) :: st)) : V Γ E Q z T I N ce sl pc lv st := by
  subst hnf
  exact V_new D c hf hlk hc hm k
theorem s_BytesN (hr : room ≤ 5000) (hb : 0 < b) (hT : T b = some (.inr 0)) (hI : I b = fun _ => 0) : Spec mX0_init 1 [.inr (.inr b), .inl (room : Int)] (b + 1) T I N 1 room (InP T I N b 2 (fun T' I' N' => BAt T' I' N' b room [])) := by
  refine (s_Bytes_init (z := b + 1) hr rfl hb hT (by rw [hI])).mono ?_
  intro r z' T' I' N' ⟨h1, h2, h3, h4, h5⟩
  subst h3 h4 h5
  refine ⟨h1, h2, (Ag.rf.new (by omega)).putN (Nat.le_refl _), ?_, up_at, xup_f, ?_, by simp, hr, (fun _ h => nomatch h), (fun _ h => nomatch h)⟩
  · rw [up_ne (by omega)]; exact hT
  · rw [up_ne (by omega), hI]; rfl
theorem s_Option_init (ho : 0 < o) (hT : T o = some (.inr 2)) (hI : I o = fun _ => 0) : Spec mX2_init 2 [.inr (.inr o)] (o + 1) T I N 2 402 (InP T I N o 3 (fun T' I' N' => OAt T' I' N' o 0 [])) := by
  refine Spec_of okX2_init (by decide) (by decide) (Nat.le_of_ble_eq_true rfl) fun Γ E D => ?_
  refine V_run D [] 1 rfl trivial ?_
  refine V_obj D rfl lkX2_obj ho rfl ?_
  refine V_run D [] 5 rfl trivial ?_
  refine V_newO D 0 2 rfl rfl ckX2_X0 (by decide) (by omega) ?_
  refine V_run D [] 12 rfl trivial ?_
  refine V_callI (av := [.inl ((400 : Nat) : Int)]) (st := [.inr (.inr (o + 1)), .inr (.inr o)]) D mwX0_init rfl lkX2_X0_init (by omega) (s_BytesN (by omega) (by omega) up_at up_at) rfl (by omega) (fun r z' T1 I1 N1 P => ?_)
  obtain ⟨rfl, rfl, g1, B1⟩ := P
  have h0 := g1 o (by omega)
  rw [up_ne (by omega), up_ne (by omega), up_ne (by omega)] at h0
  refine V_putF (c := 2) (f := 0) D rfl rfl rfl rfl rfl rfl (by rw [h0.1]; exact hT) ?_
  refine V_vret D rfl rfl ⟨rfl, rfl, ((Ag.rf.new (by omega)).trans (g1.lo (by omega))).putN (Nat.le_refl _), by rw [h0.1]; exact hT, xup_f, by rw [h0.2.1, hI], B1.kept rfl rfl (xup_ne (by omega))⟩
theorem s_Sent_init (ho : 0 < o) (hT : T o = some (.inr 6)) : Spec mX6_init 2 [.inr (.inr o)] (o + 1) T I N 2 423 (InP T I N o 3 (fun T' I' N' => SnAt T' I' N' o (-1) [])) := by
  refine Spec_of okX6_init (by decide) (by decide) (Nat.le_of_ble_eq_true rfl) fun Γ E D => ?_
  refine V_run D [] 1 rfl trivial ?_
  refine V_obj D rfl lkX6_obj ho rfl ?_
  refine V_run D [] 5 rfl trivial ?_
  refine V_newO D 0 2 rfl rfl ckX6_X0 (by decide) (by omega) ?_
  refine V_run D [] 12 rfl trivial ?_
  refine V_callI (av := [.inl ((421 : Nat) : Int)]) (st := [.inr (.inr (o + 1)), .inr (.inr o)]) D mwX0_init rfl lkX6_X0_init (by omega) (s_BytesN (by omega) (by omega) up_at up_at) rfl (by omega) (fun r z' T1 I1 N1 P => ?_)
  obtain ⟨rfl, rfl, g1, B1⟩ := P
  have h0 := g1 o (by omega)
  rw [up_ne (by omega), up_ne (by omega), up_ne (by omega)] at h0
  have hT1 : T1 o = some (.inr 6) := by rw [h0.1]; exact hT
  refine V_putF (c := 6) (f := 0) D rfl rfl rfl rfl rfl rfl hT1 ?_
  refine V_run D [] 23 rfl ⟨hT1, trivial⟩ ?_
  refine V_vret D rfl rfl ⟨rfl, rfl, (((Ag.rf.new (by omega)).trans (g1.lo (by omega))).putN (Nat.le_refl _)).putI (Nat.le_refl _), hT1, xup_f, xup_f, B1.kept (xup_ne (by omega)) (xup_ne (by omega)) (xup_ne (by omega))⟩
theorem s_Resource_init (ho : 0 < o) (hT : T o = some (.inr 5)) : Spec mX5_init 2 [.inr (.inr o)] (o + 1) T I N 4 2444 (InP T I N o 5 (fun T' I' N' => RsAny T' I' N' o)) := by
  refine Spec_of okX5_init (by decide) (by decide) (Nat.le_of_ble_eq_true rfl) fun Γ E D => ?_
  refine V_run D [] 1 rfl trivial ?_
  refine V_obj D rfl lkX5_obj ho rfl ?_
  refine V_run D [] 5 rfl trivial ?_
  refine V_newO D 0 2 rfl rfl ckX5_X0 (by decide) (by omega) ?_
  refine V_run D [] 12 rfl trivial ?_
  refine V_callI (av := [.inl ((2040 : Nat) : Int)]) (st := [.inr (.inr (o + 1)), .inr (.inr o)]) D mwX0_init rfl lkX5_X0_init (by omega) (s_BytesN (by omega) (by omega) up_at up_at) rfl (by omega) (fun r z' T1 I1 N1 P => ?_)
  obtain ⟨rfl, rfl, g1, B1⟩ := P
  have h0 := g1 o (by omega)
  rw [up_ne (by omega), up_ne (by omega), up_ne (by omega)] at h0
  have hT1 : T1 o = some (.inr 5) := by rw [h0.1]; exact hT
  refine V_putF (c := 5) (f := 0) D rfl rfl rfl rfl rfl rfl hT1 ?_
  refine V_run D [] 19 rfl trivial ?_
  refine V_newO D 0 2 rfl rfl ckX5_X0 (by decide) (by omega) ?_
  refine V_run D [] 26 rfl trivial ?_
  refine V_callI (av := [.inl ((400 : Nat) : Int)]) (st := [.inr (.inr (o + 1 + 2)), .inr (.inr o)]) D mwX0_init rfl lkX5_X0_init (by omega) (s_BytesN (by omega) (by omega) up_at up_at) rfl (by omega) (fun r z' T2 I2 N2 P => ?_)
  obtain ⟨rfl, rfl, g2, B2⟩ := P
  have h2 := g2 o (by omega)
  rw [up_ne (by omega), up_ne (by omega), up_ne (by omega)] at h2
  have hT2 : T2 o = some (.inr 5) := by rw [h2.1]; exact hT1
  refine V_putF (c := 5) (f := 1) D rfl rfl rfl rfl rfl rfl hT2 ?_
  have g0 : Ag o T I N T1 I1 (xup N1 o 0 (o + 1)) := ((Ag.rf.new (by omega)).trans (g1.lo (by omega))).putN (Nat.le_refl _)
  refine V_vret D rfl rfl ⟨rfl, rfl, ((g0.new (by omega)).trans (g2.lo (by omega))).putN (Nat.le_refl _), hT2, ?_, xup_f, ⟨[], B1.mv (fun q h1 h2 => ?_)⟩, [], B2.kept rfl rfl (xup_ne (by omega))⟩
  · rw [xup_j (by decide), h2.2.2, xup_f]
  · have h3 := g2 q (by omega)
    rw [up_ne (by omega), up_ne (by omega), up_ne (by omega), xup_ne (by omega)] at h3
    rw [xup_ne (by omega)]
    exact h3
theorem s_Reader_init (ho : 0 < o) : Spec mX4_init 1 [.inr (.inr o)] z T I N 0 0 (xSame z T I N none) := by
  refine Spec_of okX4_init (by decide) (by decide) (Nat.le_of_ble_eq_true rfl) fun Γ E D => ?_
  refine V_run D [] 1 rfl trivial ?_
  refine V_obj D rfl lkX4_obj ho rfl ?_
  exact V_vret D rfl rfl ⟨rfl, rfl, rfl, rfl, rfl⟩
end XMk
end
section
section XMk2
variable {Γ : xG} {E : xE} {T : xY} {I : xI} {N : xN} {m q most : Nat}
def mI (m most : Nat) (T : xY) (I : xI) (N : xN) (i : Nat) (T1 : xY) (I1 : xI) (N1 : xN) : Prop := Ag m T I N T1 I1 N1 ∧ (T1 m = some (.inr 1) ∧ I1 m = (fun _ => 0) ∧ N1 m 0 = m + 1 ∧ N1 m 1 = m + 3 ∧ N1 m 2 = m + 5 ∧ N1 m 4 = 0 ∧ T1 (m + 5) = some (.inl (3, most))) ∧ BAt T1 I1 N1 (m + 1) 8 [] ∧ BAt T1 I1 N1 (m + 3) 400 [] ∧ ∀ k, k < i → N1 (m + 5) k = m + 6 + 3 * k ∧ OAt T1 I1 N1 (m + 6 + 3 * k) 0 []
theorem l_msgI (D : xD Γ E mX1_init 3 (5 + 3 * most) (412 + 405 * most)) (hm : 0 < m) (hmost : most ≤ 20) : ∀ (d i : Nat) (T1 : xY) (I1 : xI) (N1 : xN), i + d = most → mI m most T I N i T1 I1 N1 →
    V Γ E (xQ Γ E (InP T I N m (6 + 3 * most) (fun T' I' N' => MAt T' I' N' m most (0, 0, 0, [], [], []) none)) (5 + 3 * most) (412 + 405 * most)) (m + 6 + 3 * i) T1 I1 N1 (5 + 3 * i) (412 + most + 404 * i) 41 (xlv [some (.inr (.inr m)), some (.inl (most : Int)), some (.inl (i : Int))]) []
  | 0, i, T1, I1, N1, hi, h => by
    obtain ⟨g0, ⟨a1, a2, a3, a4, a5, a6, a7⟩, b1, b2, c1⟩ := h
    obtain rfl : i = most := by omega
    refine V_run D [] 43 rfl trivial ?_
    refine V_ige D 65 rfl rfl (by omega) (by omega) (fun q1 => ?_) (fun q1 => absurd (Int.le_refl _) q1)
    refine V_wide (k := 5 + 3 * i) (n := 412 + 405 * i) (by omega) (by omega) ?_
    refine V_vret D rfl rfl ⟨rfl, by omega, g0, ⟨a1, a3, a4, a5, a7, hmost, by rw [a2]; rfl, by simp⟩, ⟨by rw [a2], by rw [a2], by rw [a2]⟩, b1, b2, ⟨fun j => j, fun j hj => ⟨hj, (c1 j hj).1⟩, fun i j _ _ h => h, fun k hk => ⟨0, [], (c1 k hk).2⟩, fun j hj => by simp at hj⟩, a6⟩
  | d + 1, i, T1, I1, N1, hi, h => by
    obtain ⟨g0, ⟨a1, a2, a3, a4, a5, a6, a7⟩, b1, b2, c1⟩ := h
    refine V_run D [] 43 rfl trivial ?_
    refine V_ige D 65 rfl rfl (by omega) (by omega) (fun q1 => absurd q1 (by omega)) (fun q1 => ?_)
    refine V_run D [] 51 rfl ⟨a1, trivial⟩ ?_
    rw [a5]
    refine V_newO D 2 2 rfl rfl ckX1_X2 (by decide) (by omega) ?_
    refine V_run D [] 55 rfl trivial ?_
    refine V_callN (av := []) (st := [.inr (.inr (m + 6 + 3 * i)), .inl (i : Int), .inr (.inr (m + 5))]) D mwX2_init rfl lkX1_X2_init (by omega) (s_Option_init (by omega) up_at up_at) rfl (by omega) (fun r z' T2 I2 N2 P => ?_)
    obtain ⟨rfl, rfl, g1, O1⟩ := P
    have kp : ∀ a, a < m + 6 + 3 * i → T2 a = T1 a ∧ I2 a = I1 a ∧ N2 a = N1 a := fun a ha => by
      have h9 := g1 a ha
      rw [up_ne (by omega), up_ne (by omega), up_ne (by omega)] at h9
      exact h9
    have k0 := kp m (by omega)
    have k5 := kp (m + 5) (by omega)
    refine V_run D [41] 41 rfl ⟨⟨3, by omega, ⟨most, by rw [k5.1]; exact a7, by omega, by omega⟩, O1.1⟩, trivial⟩ ?_
    rw [Int.toNat_natCast]
    refine V_loc [some (.inr (.inr m)), some (.inl (most : Int)), some (.inl ((i + 1 : Nat) : Int))] rfl ?_
    have e1 : m + 6 + 3 * i + 3 = m + 6 + 3 * (i + 1) := by omega
    have e2 : 5 + 3 * i + 1 + 2 = 5 + 3 * (i + 1) := by omega
    have e3 : 412 + most + 404 * i + 2 + 402 = 412 + most + 404 * (i + 1) := by omega
    rw [e1, e2, e3]
    have kN : ∀ a, a ≠ m + 5 → xup N2 (m + 5) i (m + 6 + 3 * i) a = N2 a := fun a ha => xup_ne ha
    refine l_msgI D hm hmost d (i + 1) T2 I2 _ (by omega) ⟨(g0.trans (fun a ha => kp a (by omega))).putN (by omega), ⟨by rw [k0.1]; exact a1, by rw [k0.2.1]; exact a2, by rw [kN _ (by omega), k0.2.2]; exact a3, by rw [kN _ (by omega), k0.2.2]; exact a4, by rw [kN _ (by omega), k0.2.2]; exact a5, by rw [kN _ (by omega), k0.2.2]; exact a6, by rw [k5.1]; exact a7⟩, b1.mv (fun a h1 h2 => by rw [kN _ (by omega)]; exact kp a (by omega)), b2.mv (fun a h1 h2 => by rw [kN _ (by omega)]; exact kp a (by omega)), fun k hk => ?_⟩
    by_cases hki : k = i
    · subst hki
      exact ⟨xup_f, O1.kept (fun a h1 h2 => ⟨rfl, kN a (by omega)⟩)⟩
    · refine ⟨by rw [xup_j hki, k5.2.2]; exact (c1 k (by omega)).1, (c1 k (by omega)).2.mv (fun a h1 h2 => by rw [kN _ (by omega)]; exact kp a (by omega))⟩
theorem s_Message_init (hm : 0 < m) (hmost : most ≤ 20) (hT : T m = some (.inr 1)) (hI : I m = fun _ => 0) (hN : N m = fun _ => 0) : Spec mX1_init 3 [.inr (.inr m), .inl (most : Int)] (m + 1) T I N (5 + 3 * most) (412 + 405 * most) (InP T I N m (6 + 3 * most) (fun T' I' N' => MAt T' I' N' m most (0, 0, 0, [], [], []) none)) := by
  refine Spec_of okX1_init (by decide) (by decide) (Nat.le_of_ble_eq_true rfl) fun Γ E D => ?_
  refine V_run D [] 1 rfl trivial ?_
  refine V_obj D rfl lkX1_obj hm rfl ?_
  refine V_run D [] 5 rfl trivial ?_
  refine V_newO D 0 2 rfl rfl ckX1_X0 (by decide) (by omega) ?_
  refine V_run D [] 11 rfl trivial ?_
  refine V_callI (av := [.inl ((8 : Nat) : Int)]) (st := [.inr (.inr (m + 1)), .inr (.inr m)]) D mwX0_init rfl lkX1_X0_init (by omega) (s_BytesN (by omega) (by omega) up_at up_at) rfl (by omega) (fun r z' T1 I1 N1 P => ?_)
  obtain ⟨rfl, rfl, g1, B1⟩ := P
  have h0 := g1 m (by omega)
  rw [up_ne (by omega), up_ne (by omega), up_ne (by omega)] at h0
  have hT1 : T1 m = some (.inr 1) := by rw [h0.1]; exact hT
  refine V_putF (c := 1) (f := 0) D rfl rfl rfl rfl rfl rfl hT1 ?_
  refine V_run D [] 18 rfl trivial ?_
  refine V_newO D 0 2 rfl rfl ckX1_X0 (by decide) (by omega) ?_
  refine V_run D [] 25 rfl trivial ?_
  refine V_callI (av := [.inl ((400 : Nat) : Int)]) (st := [.inr (.inr (m + 1 + 2)), .inr (.inr m)]) D mwX0_init rfl lkX1_X0_init (by omega) (s_BytesN (by omega) (by omega) up_at up_at) rfl (by omega) (fun r z' T2 I2 N2 P => ?_)
  obtain ⟨rfl, rfl, g2, B2⟩ := P
  have kp2 : ∀ a, a < m + 1 + 2 → T2 a = T1 a ∧ I2 a = I1 a ∧ N2 a = xup N1 m 0 (m + 1) a := fun a ha => by
    have h9 := g2 a ha
    rw [up_ne (by omega), up_ne (by omega), up_ne (by omega)] at h9
    exact h9
  have h2 := kp2 m (by omega)
  have hT2 : T2 m = some (.inr 1) := by rw [h2.1]; exact hT1
  refine V_putF (c := 1) (f := 1) D rfl rfl rfl rfl rfl rfl hT2 ?_
  refine V_run D [] 33 rfl trivial ?_
  refine V_newq D 3 rfl ckX1_X2 (by omega) (by omega) (by omega) ?_
  rw [Int.toNat_natCast]
  have hT3 : va_up T2 (m + 1 + 2 + 2) (some (.inl (3, most))) m = some (.inr 1) := by rw [up_ne (by omega)]; exact hT2
  refine V_putF (c := 1) (f := 2) D rfl rfl rfl rfl rfl rfl hT3 ?_
  refine V_run D [41] 41 rfl trivial ?_
  refine V_loc [some (.inr (.inr m)), some (.inl (most : Int)), some (.inl ((0 : Nat) : Int))] rfl ?_
  refine V_wide (k := 5 + 3 * 0) (n := 412 + most + 404 * 0) (by omega) (by omega) ?_
  have g0 : Ag m T I N T1 I1 (xup N1 m 0 (m + 1)) := ((Ag.rf.new (by omega)).trans (g1.lo (by omega))).putN (Nat.le_refl _)
  have g3 : Ag m T I N T2 I2 (xup N2 m 1 (m + 1 + 2)) := ((g0.new (by omega)).trans (g2.lo (by omega))).putN (Nat.le_refl _)
  refine l_msgI D hm hmost most 0 _ _ _ (by omega) ⟨(g3.new (by omega)).putN (Nat.le_refl _), ⟨hT3, ?_, ?_, ?_, ?_, ?_, up_at⟩, B1.mv (fun a e1 e2 => ?_), B2.mv (fun a e1 e2 => ?_), fun k hk => by omega⟩
  · rw [up_ne (by omega), h2.2.1, h0.2.1]; exact hI
  · rw [xup_j (by decide), up_ne (by omega), xup_j (by decide), h2.2.2, xup_f]
  · rw [xup_j (by decide), up_ne (by omega), xup_f]
  · rw [xup_f]
  · rw [xup_j (by decide), up_ne (by omega), xup_j (by decide), h2.2.2, xup_j (by decide), h0.2.2, hN]
  · rw [xup_ne (by omega), up_ne (by omega), up_ne (by omega), up_ne (by omega), xup_ne (by omega)]
    have h9 := kp2 a (by omega)
    rw [xup_ne (by omega)] at h9
    exact h9
  · rw [xup_ne (by omega), up_ne (by omega), up_ne (by omega), up_ne (by omega), xup_ne (by omega)]
    exact ⟨rfl, rfl, rfl⟩
def pI (q : Nat) (T : xY) (I : xI) (N : xN) (i : Nat) (T1 : xY) (I1 : xI) (N1 : xN) : Prop := Ag q T I N T1 I1 N1 ∧ (T1 q = some (.inr 3) ∧ I1 q = (fun _ => 0) ∧ N1 q 0 = q + 1 ∧ T1 (q + 1) = some (.inl (5, 8))) ∧ ∀ k, k < i → N1 (q + 1) k = q + 2 + 3 * k ∧ SnAt T1 I1 N1 (q + 2 + 3 * k) (-1) []
def ring0 : List Opt := List.replicate 8 (-1, [])
theorem ring0_at {k : Nat} (h : k < 8) : od ring0 k = (-1, []) := by
  rcases (by omega : k = 0 ∨ k = 1 ∨ k = 2 ∨ k = 3 ∨ k = 4 ∨ k = 5 ∨ k = 6 ∨ k = 7) with h | h | h | h | h | h | h | h <;> subst h <;> rfl
theorem l_peerI (D : xD Γ E mX3_init 3 25 3408) (hq : 0 < q) : ∀ (d i : Nat) (T1 : xY) (I1 : xI) (N1 : xN), i + d = 8 → pI q T I N i T1 I1 N1 →
    V Γ E (xQ Γ E (InP T I N q 26 (fun T' I' N' => PAt T' I' N' q ring0 0)) 25 3408) (q + 2 + 3 * i) T1 I1 N1 (1 + 3 * i) (8 + 425 * i) 15 (xlv [some (.inr (.inr q)), some (.inl (i : Int))]) []
  | 0, i, T1, I1, N1, hi, h => by
    obtain ⟨g0, ⟨a1, a2, a3, a7⟩, c1⟩ := h
    obtain rfl : i = 8 := by omega
    refine V_run D [] 18 rfl trivial ?_
    refine V_ige D 40 rfl rfl (by omega) (by omega) (fun q1 => ?_) (fun q1 => absurd (Int.le_refl _) q1)
    refine V_vret D rfl rfl ⟨rfl, by omega, g0, a1, a3, a7, by rw [a2]; rfl, by omega, by unfold ring0; simp, fun k hk => (c1 k hk).1, fun k hk => by rw [ring0_at hk]; exact (c1 k hk).2⟩
  | d + 1, i, T1, I1, N1, hi, h => by
    obtain ⟨g0, ⟨a1, a2, a3, a7⟩, c1⟩ := h
    refine V_run D [] 18 rfl trivial ?_
    refine V_ige D 40 rfl rfl (by omega) (by omega) (fun q1 => absurd q1 (by omega)) (fun q1 => ?_)
    refine V_run D [] 26 rfl ⟨a1, trivial⟩ ?_
    rw [a3]
    refine V_newO D 6 2 rfl rfl ckX3_X6 (by decide) (by omega) ?_
    refine V_run D [] 30 rfl trivial ?_
    refine V_callN (av := []) (st := [.inr (.inr (q + 2 + 3 * i)), .inl (i : Int), .inr (.inr (q + 1))]) D mwX6_init rfl lkX3_X6_init (by omega) (s_Sent_init (by omega) up_at) rfl (by omega) (fun r z' T2 I2 N2 P => ?_)
    obtain ⟨rfl, rfl, g1, O1⟩ := P
    have kp : ∀ a, a < q + 2 + 3 * i → T2 a = T1 a ∧ I2 a = I1 a ∧ N2 a = N1 a := fun a ha => by
      have h9 := g1 a ha
      rw [up_ne (by omega), up_ne (by omega), up_ne (by omega)] at h9
      exact h9
    have k0 := kp q (by omega)
    have k5 := kp (q + 1) (by omega)
    refine V_run D [15] 15 rfl ⟨⟨5, by omega, ⟨8, by rw [k5.1]; exact a7, by omega, by omega⟩, O1.1⟩, trivial⟩ ?_
    rw [Int.toNat_natCast]
    refine V_loc [some (.inr (.inr q)), some (.inl ((i + 1 : Nat) : Int))] rfl ?_
    have e1 : q + 2 + 3 * i + 3 = q + 2 + 3 * (i + 1) := by omega
    have e2 : 1 + 3 * i + 1 + 2 = 1 + 3 * (i + 1) := by omega
    have e3 : 8 + 425 * i + 2 + 423 = 8 + 425 * (i + 1) := by omega
    rw [e1, e2, e3]
    have kN : ∀ a, a ≠ q + 1 → xup N2 (q + 1) i (q + 2 + 3 * i) a = N2 a := fun a ha => xup_ne ha
    refine l_peerI D hq d (i + 1) T2 I2 _ (by omega) ⟨(g0.trans (fun a ha => kp a (by omega))).putN (by omega), ⟨by rw [k0.1]; exact a1, by rw [k0.2.1]; exact a2, by rw [kN _ (by omega), k0.2.2]; exact a3, by rw [k5.1]; exact a7⟩, fun k hk => ?_⟩
    by_cases hki : k = i
    · subst hki
      exact ⟨xup_f, O1.kept (fun a h1 h2 => ⟨rfl, kN a (by omega)⟩)⟩
    · refine ⟨by rw [xup_j hki, k5.2.2]; exact (c1 k (by omega)).1, (c1 k (by omega)).2.mv (fun a h1 h2 => by rw [kN _ (by omega)]; exact kp a (by omega))⟩
theorem s_Peer_init (hq : 0 < q) (hT : T q = some (.inr 3)) (hI : I q = fun _ => 0) : Spec mX3_init 3 [.inr (.inr q)] (q + 1) T I N 25 3408 (InP T I N q 26 (fun T' I' N' => PAt T' I' N' q ring0 0)) := by
  refine Spec_of okX3_init (by decide) (by decide) (Nat.le_of_ble_eq_true rfl) fun Γ E D => ?_
  refine V_run D [] 1 rfl trivial ?_
  refine V_obj D rfl lkX3_obj hq rfl ?_
  refine V_run D [] 7 rfl trivial ?_
  refine V_newq D 5 rfl ckX3_X6 (by omega) (by omega) (by decide) ?_
  have hT3 : va_up T (q + 1) (some (.inl (5, (8 : Int).toNat))) q = some (.inr 3) := by rw [up_ne (by omega)]; exact hT
  refine V_putF (c := 3) (f := 0) D rfl rfl rfl rfl rfl rfl hT3 ?_
  refine V_run D [15] 15 rfl trivial ?_
  refine V_loc [some (.inr (.inr q)), some (.inl ((0 : Nat) : Int))] rfl ?_
  refine V_wide (k := 1 + 3 * 0) (n := 8 + 425 * 0) (by decide) (by decide) ?_
  refine l_peerI D hq 8 0 _ _ _ (by omega) ⟨(Ag.rf.new (by omega)).putN (Nat.le_refl _), ⟨hT3, by rw [up_ne (by omega)]; exact hI, xup_f, up_at⟩, fun k hk => by omega⟩
def sI (q : Nat) (T : xY) (I : xI) (N : xN) (i : Nat) (T1 : xY) (I1 : xI) (N1 : xN) : Prop := Ag q T I N T1 I1 N1 ∧ (T1 q = some (.inr 8) ∧ I1 q = (fun _ => 0) ∧ N1 q 0 = q + 1 ∧ T1 (q + 1) = some (.inl (4, 16))) ∧ ∀ k, k < i → N1 (q + 1) k = q + 2 + 5 * k ∧ RsAny T1 I1 N1 (q + 2 + 5 * k)
theorem l_storeI (D : xD Γ E mX8_init 3 81 39184) (hq : 0 < q) : ∀ (d i : Nat) (T1 : xY) (I1 : xI) (N1 : xN), i + d = 16 → sI q T I N i T1 I1 N1 →
    V Γ E (xQ Γ E (InP T I N q 82 (fun T' I' N' => StAt T' I' N' q [] 0)) 81 39184) (q + 2 + 5 * i) T1 I1 N1 (1 + 5 * i) (16 + 2448 * i) 15 (xlv [some (.inr (.inr q)), some (.inl (i : Int))]) []
  | 0, i, T1, I1, N1, hi, h => by
    obtain ⟨g0, ⟨a1, a2, a3, a7⟩, c1⟩ := h
    obtain rfl : i = 16 := by omega
    refine V_run D [] 18 rfl trivial ?_
    refine V_ige D 40 rfl rfl (by omega) (by omega) (fun q1 => ?_) (fun q1 => absurd (Int.le_refl _) q1)
    refine V_vret D rfl rfl ⟨rfl, by omega, g0, ⟨a1, a3, a7, by rw [a2]; rfl, by simp, by rw [a2]⟩, fun j => j, fun j hj => ⟨hj, (c1 j hj).1⟩, fun _ _ _ _ h => h, fun k hk => (c1 k hk).2, fun j hj => by simp at hj⟩
  | d + 1, i, T1, I1, N1, hi, h => by
    obtain ⟨g0, ⟨a1, a2, a3, a7⟩, c1⟩ := h
    refine V_run D [] 18 rfl trivial ?_
    refine V_ige D 40 rfl rfl (by omega) (by omega) (fun q1 => absurd q1 (by omega)) (fun q1 => ?_)
    refine V_run D [] 26 rfl ⟨a1, trivial⟩ ?_
    rw [a3]
    refine V_newO D 5 4 rfl rfl ckX8_X5 (by decide) (by omega) ?_
    refine V_run D [] 30 rfl trivial ?_
    refine V_callN (av := []) (st := [.inr (.inr (q + 2 + 5 * i)), .inl (i : Int), .inr (.inr (q + 1))]) D mwX5_init rfl lkX8_X5_init (by omega) (s_Resource_init (by omega) up_at) rfl (by omega) (fun r z' T2 I2 N2 P => ?_)
    obtain ⟨rfl, rfl, g1, O1⟩ := P
    have kp : ∀ a, a < q + 2 + 5 * i → T2 a = T1 a ∧ I2 a = I1 a ∧ N2 a = N1 a := fun a ha => by
      have h9 := g1 a ha
      rw [up_ne (by omega), up_ne (by omega), up_ne (by omega)] at h9
      exact h9
    have k0 := kp q (by omega)
    have k5 := kp (q + 1) (by omega)
    refine V_run D [15] 15 rfl ⟨⟨4, by omega, ⟨16, by rw [k5.1]; exact a7, by omega, by omega⟩, O1.1⟩, trivial⟩ ?_
    rw [Int.toNat_natCast]
    refine V_loc [some (.inr (.inr q)), some (.inl ((i + 1 : Nat) : Int))] rfl ?_
    have e1 : q + 2 + 5 * i + 5 = q + 2 + 5 * (i + 1) := by omega
    have e2 : 1 + 5 * i + 1 + 4 = 1 + 5 * (i + 1) := by omega
    have e3 : 16 + 2448 * i + 4 + 2444 = 16 + 2448 * (i + 1) := by omega
    rw [e1, e2, e3]
    have kN : ∀ a, a ≠ q + 1 → xup N2 (q + 1) i (q + 2 + 5 * i) a = N2 a := fun a ha => xup_ne ha
    refine l_storeI D hq d (i + 1) T2 I2 _ (by omega) ⟨(g0.trans (fun a ha => kp a (by omega))).putN (by omega), ⟨by rw [k0.1]; exact a1, by rw [k0.2.1]; exact a2, by rw [kN _ (by omega), k0.2.2]; exact a3, by rw [k5.1]; exact a7⟩, fun k hk => ?_⟩
    by_cases hki : k = i
    · subst hki
      exact ⟨xup_f, O1.kept (fun a h1 h2 => ⟨rfl, kN a (by omega)⟩)⟩
    · refine ⟨by rw [xup_j hki, k5.2.2]; exact (c1 k (by omega)).1, (c1 k (by omega)).2.mv (fun a h1 h2 => by rw [kN _ (by omega)]; exact kp a (by omega))⟩
theorem s_Store_init (hq : 0 < q) (hT : T q = some (.inr 8)) (hI : I q = fun _ => 0) : Spec mX8_init 3 [.inr (.inr q)] (q + 1) T I N 81 39184 (InP T I N q 82 (fun T' I' N' => StAt T' I' N' q [] 0)) := by
  refine Spec_of okX8_init (by decide) (by decide) (Nat.le_of_ble_eq_true rfl) fun Γ E D => ?_
  refine V_run D [] 1 rfl trivial ?_
  refine V_obj D rfl lkX8_obj hq rfl ?_
  refine V_run D [] 7 rfl trivial ?_
  refine V_newq D 4 rfl ckX8_X5 (by omega) (by omega) (by decide) ?_
  have hT3 : va_up T (q + 1) (some (.inl (4, (16 : Int).toNat))) q = some (.inr 8) := by rw [up_ne (by omega)]; exact hT
  refine V_putF (c := 8) (f := 0) D rfl rfl rfl rfl rfl rfl hT3 ?_
  refine V_run D [15] 15 rfl trivial ?_
  refine V_loc [some (.inr (.inr q)), some (.inl ((0 : Nat) : Int))] rfl ?_
  refine V_wide (k := 1 + 5 * 0) (n := 16 + 2448 * 0) (by decide) (by decide) ?_
  refine l_storeI D hq 16 0 _ _ _ (by omega) ⟨(Ag.rf.new (by omega)).putN (Nat.le_refl _), ⟨hT3, by rw [up_ne (by omega)]; exact hI, xup_f, up_at⟩, fun k hk => by omega⟩
end XMk2
end
section
def sv0 : Sv := (([], 0), (0, 0, 0), fun _ => (ring0, 0))
def dk0 : Dk := ([], ((0, 0, 0, [], [], []), none), sv0)
def vI (q i : Nat) (T1 : xY) (I1 : xI) (N1 : xN) : Prop := (T1 q = some (.inr 7) ∧ I1 q = (fun _ => 0) ∧ N1 q 0 = q + 1 ∧ N1 q 1 = q + 83 ∧ N1 q 2 = q + 84 ∧ N1 q 3 = q + 96 ∧ T1 (q + 83) = some (.inl (6, 10))) ∧ StAt T1 I1 N1 (q + 1) [] 0 ∧ MAt T1 I1 N1 (q + 84) 2 (0, 0, 0, [], [], []) none ∧ BAt T1 I1 N1 (q + 96) 2040 [] ∧ ∀ k, k < i → N1 (q + 83) k = q + 98 + 26 * k ∧ PAt T1 I1 N1 (q + 98 + 26 * k) ring0 0
section XMk3
variable {Γ : xG} {E : xE} {T T' : xY} {I I' : xI} {N N' : xN} {q d i : Nat}
theorem vI.mv (h : vI q i T I N) (hk : ∀ a, q ≤ a → a < q + 98 + 26 * i → T' a = T a ∧ I' a = I a ∧ N' a = N a) : vI q i T' I' N' := by
  obtain ⟨⟨a1, a2, a3, a4, a5, a6, a7⟩, b1, b2, b3, c1⟩ := h
  have k0 := hk q (by omega) (by omega)
  have k83 := hk (q + 83) (by omega) (by omega)
  exact ⟨⟨by rw [k0.1]; exact a1, by rw [k0.2.1]; exact a2, by rw [k0.2.2]; exact a3, by rw [k0.2.2]; exact a4, by rw [k0.2.2]; exact a5, by rw [k0.2.2]; exact a6, by rw [k83.1]; exact a7⟩, b1.mv0 (fun a h1 h2 => hk a (by omega) (by omega)), b2.mv0 (fun a h1 h2 => hk a (by omega) (by omega)), b3.mv (fun a h1 h2 => hk a (by omega) (by omega)), fun k h => ⟨by rw [k83.2.2]; exact (c1 k h).1, (c1 k h).2.mv (fun a h1 h2 => hk a (by omega) (by omega))⟩⟩
theorem vI.at (h : vI q 10 T I N) : SvAt T I N q sv0 := by
  obtain ⟨⟨a1, a2, a3, a4, a5, a6, a7⟩, b1, b2, b3, c1⟩ := h
  exact ⟨⟨_, _, 0, ⟨a1, a3, a4, a5, a6, a7, fun k hk => (c1 k hk).1⟩, by rw [a2], b1, ⟨_, b2⟩, b3⟩, ⟨by rw [a2]; rfl, by rw [a2]; rfl, by rw [a2]; rfl⟩, fun k hk => (c1 k hk).2⟩
theorem l_serverI (D : xD Γ E mX7_init 4 357 76569) (hq : 0 < q) : ∀ (d i : Nat) (T1 : xY) (I1 : xI) (N1 : xN), i + d = 10 → Ag q T I N T1 I1 N1 → vI q i T1 I1 N1 →
    V Γ E (xQ Γ E (InP T I N q 358 (fun T' I' N' => vI q 10 T' I' N')) 357 76569) (q + 98 + 26 * i) T1 I1 N1 (97 + 26 * i) (42469 + 3410 * i) 52 (xlv [some (.inr (.inr q)), some (.inl (i : Int))]) []
  | 0, i, T1, I1, N1, hi, g0, h => by
    obtain rfl : i = 10 := by omega
    refine V_run D [] 55 rfl trivial ?_
    refine V_igt D 77 rfl rfl (by omega) (by omega) (fun q1 => ?_) (fun q1 => absurd q1 (by omega))
    exact V_vret D rfl rfl ⟨rfl, by omega, g0, h⟩
  | d + 1, i, T1, I1, N1, hi, g0, h => by
    obtain ⟨⟨a1, a2, a3, a4, a5, a6, a7⟩, b1, b2, b3, c1⟩ := _root_.id h
    refine V_run D [] 55 rfl trivial ?_
    refine V_igt D 77 rfl rfl (by omega) (by omega) (fun q1 => absurd q1 (by omega)) (fun q1 => ?_)
    refine V_run D [] 63 rfl ⟨a1, trivial⟩ ?_
    rw [a4]
    refine V_newO D 3 2 rfl rfl ckX7_X3 (by decide) (by omega) ?_
    refine V_run D [] 67 rfl trivial ?_
    refine V_callI (av := []) (st := [.inr (.inr (q + 98 + 26 * i)), .inl (i : Int), .inr (.inr (q + 83))]) D mwX3_init rfl lkX7_X3_init (by omega) (s_Peer_init (by omega) up_at up_at) rfl (by omega) (fun r z' T2 I2 N2 P => ?_)
    obtain ⟨rfl, rfl, g1, O1⟩ := P
    have kp : ∀ a, a < q + 98 + 26 * i → T2 a = T1 a ∧ I2 a = I1 a ∧ N2 a = N1 a := fun a ha => by
      have h9 := g1 a ha
      rw [up_ne (by omega), up_ne (by omega), up_ne (by omega)] at h9
      exact h9
    have h2 := h.mv (fun a h1 h2 => kp a h2)
    obtain ⟨⟨a1', a2', a3', a4', a5', a6', a7'⟩, b1', b2', b3', c1'⟩ := h2
    refine V_run D [52] 52 rfl ⟨⟨6, by omega, ⟨10, a7', by omega, by omega⟩, O1.1⟩, trivial⟩ ?_
    rw [Int.toNat_natCast]
    refine V_loc [some (.inr (.inr q)), some (.inl ((i + 1 : Nat) : Int))] rfl ?_
    have e1 : q + 98 + 26 * i + 26 = q + 98 + 26 * (i + 1) := by omega
    have e2 : 97 + 26 * i + 1 + 25 = 97 + 26 * (i + 1) := by omega
    have e3 : 42469 + 3410 * i + 2 + 3408 = 42469 + 3410 * (i + 1) := by omega
    rw [e1, e2, e3]
    have kN : ∀ a, a ≠ q + 83 → xup N2 (q + 83) i (q + 98 + 26 * i) a = N2 a := fun a ha => xup_ne ha
    refine l_serverI D hq d (i + 1) T2 I2 _ (by omega) ((g0.trans (fun a ha => kp a (by omega))).putN (by omega)) ⟨⟨a1', a2', by rw [kN _ (by omega)]; exact a3', by rw [kN _ (by omega)]; exact a4', by rw [kN _ (by omega)]; exact a5', by rw [kN _ (by omega)]; exact a6', a7'⟩, b1'.kept (fun a h1 h2 => ⟨rfl, kN a (by omega)⟩), b2'.kept (fun a h1 h2 => ⟨rfl, kN a (by omega)⟩), b3'.kept rfl rfl (kN _ (by omega)), fun k hk => ?_⟩
    by_cases hki : k = i
    · subst hki
      exact ⟨xup_f, O1.kept (fun a h1 h2 => ⟨rfl, kN a (by omega)⟩)⟩
    · exact ⟨by rw [xup_j hki]; exact (c1' k (by omega)).1, (c1' k (by omega)).2.kept (fun a h1 h2 => ⟨rfl, kN a (by omega)⟩)⟩
theorem s_Server_init (hq : 0 < q) (hT : T q = some (.inr 7)) (hI : I q = fun _ => 0) : Spec mX7_init 4 [.inr (.inr q)] (q + 1) T I N 357 76569 (InP T I N q 358 (fun T' I' N' => vI q 10 T' I' N')) := by
  refine Spec_of okX7_init (by decide) (by decide) (Nat.le_of_ble_eq_true rfl) fun Γ E D => ?_
  refine V_run D [] 1 rfl trivial ?_
  refine V_obj D rfl lkX7_obj hq rfl ?_
  refine V_run D [] 5 rfl trivial ?_
  refine V_newO D 8 3 rfl rfl ckX7_X8 (by decide) (by omega) ?_
  refine V_run D [] 9 rfl trivial ?_
  refine V_callI (av := []) (st := [.inr (.inr (q + 1)), .inr (.inr q)]) D mwX8_init rfl lkX7_X8_init (by omega) (s_Store_init (by omega) up_at up_at) rfl (by omega) (fun r z' T1 I1 N1 P => ?_)
  obtain ⟨rfl, rfl, g1, S1⟩ := P
  have h0 := g1 q (by omega)
  rw [up_ne (by omega), up_ne (by omega), up_ne (by omega)] at h0
  have hT1 : T1 q = some (.inr 7) := by rw [h0.1]; exact hT
  refine V_putF (c := 7) (f := 0) D rfl rfl rfl rfl rfl rfl hT1 ?_
  refine V_run D [] 18 rfl trivial ?_
  refine V_newq D 6 rfl ckX7_X3 (by omega) (by omega) (by decide) ?_
  have hT3 : va_up T1 (q + 1 + 82) (some (.inl (6, (10 : Int).toNat))) q = some (.inr 7) := by rw [up_ne (by omega)]; exact hT1
  refine V_putF (c := 7) (f := 1) D rfl rfl rfl rfl rfl rfl hT3 ?_
  have g0 : Ag q T I N T1 I1 (xup N1 q 0 (q + 1)) := ((Ag.rf.new (by omega)).trans (g1.lo (by omega))).putN (Nat.le_refl _)
  have g3 : Ag q T I N _ _ _ := (g0.new (z := q + 1 + 82) (t := some (.inl (6, (10 : Int).toNat))) (i := fun _ => 0) (n := fun _ => 0) (by omega)).putN (a := q) (f := 1) (w := q + 1 + 82) (Nat.le_refl _)
  have n3 : ∀ a, q + 1 ≤ a → a < q + 83 → va_up T1 (q + 1 + 82) (some (.inl (6, (10 : Int).toNat))) a = T1 a ∧ va_up I1 (q + 1 + 82) (fun _ => 0) a = I1 a ∧ xup (va_up (xup N1 q 0 (q + 1)) (q + 1 + 82) (fun _ => 0)) q 1 (q + 1 + 82) a = N1 a := fun a h1 h2 => by
    rw [xup_ne (by omega), up_ne (by omega), up_ne (by omega), up_ne (by omega), xup_ne (by omega)]; exact ⟨rfl, rfl, rfl⟩
  have q3 : va_up I1 (q + 1 + 82) (fun _ => 0) q = I q ∧ xup (va_up (xup N1 q 0 (q + 1)) (q + 1 + 82) (fun _ => 0)) q 1 (q + 1 + 82) q 0 = q + 1 ∧ xup (va_up (xup N1 q 0 (q + 1)) (q + 1 + 82) (fun _ => 0)) q 1 (q + 1 + 82) q 1 = q + 83 ∧ va_up T1 (q + 1 + 82) (some (.inl (6, (10 : Int).toNat))) (q + 83) = some (.inl (6, 10)) := by
    refine ⟨?_, ?_, xup_f, up_at⟩
    · rw [up_ne (by omega), h0.2.1]
    · rw [xup_j (by decide), up_ne (by omega), xup_f]
  have S3 := S1.mv0 (fun a h1 h2 => n3 a h1 (by omega))
  generalize hTa : va_up T1 (q + 1 + 82) (some (.inl (6, (10 : Int).toNat))) = Ta at *
  generalize hIa : va_up I1 (q + 1 + 82) (fun _ => 0) = Ia at *
  generalize hNa : xup (va_up (xup N1 q 0 (q + 1)) (q + 1 + 82) (fun _ => 0)) q 1 (q + 1 + 82) = Na at *
  refine V_run D [] 25 rfl trivial ?_
  refine V_newO D 1 8 rfl rfl ckX7_X1 (by decide) (by decide) ?_
  refine V_run D [] 30 rfl trivial ?_
  refine V_callI (av := [.inl ((2 : Nat) : Int)]) (st := [.inr (.inr (q + 1 + 82 + 1)), .inr (.inr q)]) D mwX1_init rfl lkX7_X1_init (by omega) (s_Message_init (by omega) (by omega) up_at up_at up_at) rfl (by decide) (fun r z' T4 I4 N4 P => ?_)
  obtain ⟨rfl, rfl, g4, M4⟩ := P
  have kp4 : ∀ a, a < q + 84 → T4 a = Ta a ∧ I4 a = Ia a ∧ N4 a = Na a := fun a ha => by
    have h9 := g4 a ha
    rw [up_ne (by omega), up_ne (by omega), up_ne (by omega)] at h9
    exact h9
  have h4 := kp4 q (by omega)
  have hT4 : T4 q = some (.inr 7) := by rw [h4.1]; exact hT3
  refine V_putF (c := 7) (f := 2) D rfl rfl rfl rfl rfl rfl hT4 ?_
  refine V_run D [] 37 rfl trivial ?_
  refine V_newO D 0 2 rfl rfl ckX7_X0 (by decide) (by decide) ?_
  refine V_run D [] 44 rfl trivial ?_
  refine V_callI (av := [.inl ((2040 : Nat) : Int)]) (st := [.inr (.inr (q + 1 + 82 + 1 + (6 + 3 * 2))), .inr (.inr q)]) D mwX0_init rfl lkX7_X0_init (by omega) (s_BytesN (by omega) (by omega) up_at up_at) rfl (by decide) (fun r z' T5 I5 N5 P => ?_)
  obtain ⟨rfl, rfl, g5, B5⟩ := P
  have kp5 : ∀ a, a < q + 96 → T5 a = T4 a ∧ I5 a = I4 a ∧ N5 a = xup N4 q 2 (q + 1 + 82 + 1) a := fun a ha => by
    have h9 := g5 a (by omega)
    rw [up_ne (by omega), up_ne (by omega), up_ne (by omega)] at h9
    exact h9
  have h5 := kp5 q (by omega)
  have hT5 : T5 q = some (.inr 7) := by rw [h5.1]; exact hT4
  refine V_putF (c := 7) (f := 3) D rfl rfl rfl rfl rfl rfl hT5 ?_
  refine V_run D [52] 52 rfl trivial ?_
  refine V_loc [some (.inr (.inr q)), some (.inl ((0 : Nat) : Int))] rfl ?_
  refine V_wide (k := 97 + 26 * 0) (n := 42469 + 3410 * 0) (by decide) (by decide) ?_
  have kpx : ∀ a, a < q + 96 → a ≠ q → xup N5 q 3 (q + 1 + 82 + 1 + (6 + 3 * 2)) a = N4 a := fun a h1 h2 => by rw [xup_ne h2, (kp5 a h1).2.2, xup_ne h2]
  refine l_serverI D hq 10 0 T5 I5 _ (by omega) (fun a ha => ?_) ⟨⟨hT5, ?_, ?_, ?_, ?_, ?_, ?_⟩, S3.mv0 (fun a h1 h2 => ?_), M4.mv0 (fun a h1 h2 => ?_), B5.kept rfl rfl (xup_ne (by omega)), fun k hk => by omega⟩
  · have h6 := g3 a ha
    rw [(kp5 a (by omega)).1, (kp5 a (by omega)).2.1, kpx a (by omega) (by omega), (kp4 a (by omega)).1, (kp4 a (by omega)).2.1, (kp4 a (by omega)).2.2]
    exact h6
  · rw [h5.2.1, h4.2.1, q3.1]; exact hI
  · rw [xup_j (by decide), h5.2.2, xup_j (by decide), h4.2.2]; exact q3.2.1
  · rw [xup_j (by decide), h5.2.2, xup_j (by decide), h4.2.2]; exact q3.2.2.1
  · rw [xup_j (by decide), h5.2.2, xup_f]
  · rw [xup_f]
  · rw [(kp5 _ (by omega)).1, (kp4 _ (by omega)).1]; exact q3.2.2.2
  · rw [(kp5 a (by omega)).1, (kp5 a (by omega)).2.1, kpx a (by omega) (by omega)]; exact kp4 a (by omega)
  · rw [(kp5 a (by omega)).1, (kp5 a (by omega)).2.1, kpx a (by omega) (by omega)]; exact ⟨rfl, rfl, rfl⟩
end XMk3
end
section
section XMk4
variable {Γ : xG} {E : xE} {T T' : xY} {I I' : xI} {N N' : xN} {q d i : Nat}
/-- what was made lies as before: on a stretch -/
theorem s_Desk_init (hd : 0 < d) (hT : T d = some (.inr 9)) : Spec mX9_init 5 [.inr (.inr d)] (d + 1) T I N 493 95621 (InP T I N d 494 (fun T' I' N' => DkAt T' I' N' d dk0)) := by
  refine Spec_of okX9_init (by decide) (by decide) (Nat.le_of_ble_eq_true rfl) fun Γ E D => ?_
  refine V_run D [] 1 rfl trivial ?_
  refine V_obj D rfl lkX9_obj hd rfl ?_
  refine V_run D [] 5 rfl trivial ?_
  refine V_newO D 0 2 rfl rfl ckX9_X0 (by decide) (by decide) ?_
  refine V_run D [] 12 rfl trivial ?_
  refine V_callI (av := [.inl ((2000 : Nat) : Int)]) (st := [.inr (.inr (d + 1)), .inr (.inr d)]) D mwX0_init rfl lkX9_X0_init (by omega) (s_BytesN (by omega) (by omega) up_at up_at) rfl (by decide) (fun r z' T1 I1 N1 P => ?_)
  obtain ⟨rfl, rfl, g1, B1⟩ := P
  have h0 := g1 d (by omega)
  rw [up_ne (by omega), up_ne (by omega), up_ne (by omega)] at h0
  have hT1 : T1 d = some (.inr 9) := by rw [h0.1]; exact hT
  have A1 : Ag d T I N T1 I1 N1 := (Ag.rf.new (by omega)).trans (g1.lo (by omega))
  refine V_putF (c := 9) (f := 0) D rfl rfl rfl rfl rfl rfl hT1 ?_
  refine V_run D [] 19 rfl trivial ?_
  refine V_newO D 4 2 rfl rfl ckX9_X4 (by decide) (by decide) ?_
  refine V_run D [] 23 rfl trivial ?_
  refine V_callN (av := []) (st := [.inr (.inr (d + 1 + 2)), .inr (.inr d)]) D mwX4_init rfl lkX9_X4_init (by omega) (s_Reader_init (by omega)) rfl (by decide) (fun r z' T2 I2 N2 P => ?_)
  obtain ⟨rfl, rfl, rfl, rfl, rfl⟩ := P
  have hT2 : va_up T1 (d + 1 + 2) (some (.inr 4)) d = some (.inr 9) := by rw [up_ne (by omega)]; exact hT1
  refine V_putF (c := 9) (f := 1) D rfl rfl rfl rfl rfl rfl hT2 ?_
  have A2 : Ag d T I N (va_up T1 (d + 1 + 2) (some (.inr 4))) (va_up I1 (d + 1 + 2) (fun _ => 0)) (xup (va_up (xup N1 d 0 (d + 1)) (d + 1 + 2) (fun _ => 0)) d 1 (d + 1 + 2)) := ((A1.putN (Nat.le_refl _)).new (by omega)).putN (Nat.le_refl _)
  have B2 : BAt (va_up T1 (d + 1 + 2) (some (.inr 4))) (va_up I1 (d + 1 + 2) (fun _ => 0)) (xup (va_up (xup N1 d 0 (d + 1)) (d + 1 + 2) (fun _ => 0)) d 1 (d + 1 + 2)) (d + 1) 2000 [] := B1.mv (fun a h1 h2 => by rw [xup_ne (by omega), up_ne (by omega), up_ne (by omega), up_ne (by omega), xup_ne (by omega)]; exact ⟨rfl, rfl, rfl⟩)
  have q2 : xup (va_up (xup N1 d 0 (d + 1)) (d + 1 + 2) (fun _ => 0)) d 1 (d + 1 + 2) d 0 = d + 1 ∧ xup (va_up (xup N1 d 0 (d + 1)) (d + 1 + 2) (fun _ => 0)) d 1 (d + 1 + 2) d 1 = d + 3 ∧ va_up T1 (d + 1 + 2) (some (.inr 4)) (d + 3) = some (.inr 4) := ⟨by rw [xup_j (by decide), up_ne (by omega), xup_f], xup_f, up_at⟩
  generalize hTa : va_up T1 (d + 1 + 2) (some (.inr 4)) = Ta at *
  generalize hIa : va_up I1 (d + 1 + 2) (fun _ => 0) = Ia at *
  generalize hNa : xup (va_up (xup N1 d 0 (d + 1)) (d + 1 + 2) (fun _ => 0)) d 1 (d + 1 + 2) = Na at *
  refine V_run D [] 30 rfl trivial ?_
  refine V_newO D 7 8 rfl rfl ckX9_X7 (by decide) (by decide) ?_
  refine V_run D [] 34 rfl trivial ?_
  refine V_callI (av := []) (st := [.inr (.inr (d + 1 + 2 + 1)), .inr (.inr d)]) D mwX7_init rfl lkX9_X7_init (by omega) (s_Server_init (by omega) up_at up_at) rfl (by decide) (fun r z' T4 I4 N4 P => ?_)
  obtain ⟨rfl, rfl, g4, S4⟩ := P
  have kp4 : ∀ a, a < d + 4 → T4 a = Ta a ∧ I4 a = Ia a ∧ N4 a = Na a := fun a ha => by
    have h9 := g4 a ha
    rw [up_ne (by omega), up_ne (by omega), up_ne (by omega)] at h9
    exact h9
  have h4 := kp4 d (by omega)
  have hT4 : T4 d = some (.inr 9) := by rw [h4.1]; exact hT2
  refine V_putF (c := 9) (f := 2) D rfl rfl rfl rfl rfl rfl hT4 ?_
  refine V_run D [] 41 rfl trivial ?_
  refine V_newO D 1 8 rfl rfl ckX9_X1 (by decide) (by decide) ?_
  refine V_run D [] 47 rfl trivial ?_
  refine V_callI (av := [.inl ((20 : Nat) : Int)]) (st := [.inr (.inr (d + 1 + 2 + 1 + 358)), .inr (.inr d)]) D mwX1_init rfl lkX9_X1_init (by omega) (s_Message_init (by omega) (by omega) up_at up_at up_at) rfl (by decide) (fun r z' T5 I5 N5 P => ?_)
  obtain ⟨rfl, rfl, g5, M5⟩ := P
  have kp5 : ∀ a, a < d + 362 → T5 a = T4 a ∧ I5 a = I4 a ∧ N5 a = xup N4 d 2 (d + 1 + 2 + 1) a := fun a ha => by
    have h9 := g5 a (by omega)
    rw [up_ne (by omega), up_ne (by omega), up_ne (by omega)] at h9
    exact h9
  have h5 := kp5 d (by omega)
  have hT5 : T5 d = some (.inr 9) := by rw [h5.1]; exact hT4
  refine V_run D [] 54 rfl ⟨hT5, trivial⟩ ?_
  refine V_newO D 1 8 rfl rfl ckX9_X1 (by decide) (by decide) ?_
  refine V_run D [] 60 rfl trivial ?_
  refine V_callI (av := [.inl ((20 : Nat) : Int)]) (st := [.inr (.inr (d + 1 + 2 + 1 + 358 + (6 + 3 * 20))), .inr (.inr d)]) D mwX1_init rfl lkX9_X1_init (by omega) (s_Message_init (by omega) (by omega) up_at up_at up_at) rfl (by decide) (fun r z' T6 I6 N6 P => ?_)
  obtain ⟨rfl, rfl, g6, M6⟩ := P
  have kp6 : ∀ a, a < d + 428 → T6 a = T5 a ∧ I6 a = I5 a ∧ N6 a = xup N5 d 3 (d + 1 + 2 + 1 + 358) a := fun a ha => by
    have h9 := g6 a (by omega)
    rw [up_ne (by omega), up_ne (by omega), up_ne (by omega)] at h9
    exact h9
  have h6 := kp6 d (by omega)
  have hT6 : T6 d = some (.inr 9) := by rw [h6.1]; exact hT5
  refine V_run D [] 66 rfl ⟨hT6, trivial⟩ ?_
  refine V_wide (k := 493) (n := 95621) (by decide) (by decide) ?_
  have kx5 : ∀ a, a < d + 362 → a ≠ d → N5 a = N4 a := fun a h1 h2 => by rw [(kp5 a h1).2.2, xup_ne h2]
  have kx6 : ∀ a, a < d + 428 → a ≠ d → xup N6 d 4 (d + 1 + 2 + 1 + 358 + (6 + 3 * 20)) a = N5 a := fun a h1 h2 => by rw [xup_ne h2, (kp6 a h1).2.2, xup_ne h2]
  refine V_vret D rfl rfl ⟨rfl, by omega, fun a ha => ?_, ⟨hT6, ?_, ?_, ?_, ?_⟩, B2.mv (fun a h1 h2 => ?_), (S4.mv (fun a h1 h2 => ?_)).at, d + 362, d + 428, ⟨?_, ?_, Or.inl ⟨rfl, rfl⟩⟩, M5.mv0 (fun a h1 h2 => ?_), _, _, M6.mv0 (fun a h1 h2 => ?_)⟩
  · have h9 := A2 a ha
    rw [(kp6 a (by omega)).1, (kp6 a (by omega)).2.1, kx6 a (by omega) (by omega), (kp5 a (by omega)).1, (kp5 a (by omega)).2.1, kx5 a (by omega) (by omega), (kp4 a (by omega)).1, (kp4 a (by omega)).2.1, (kp4 a (by omega)).2.2]
    exact h9
  · rw [xup_j (by decide), h6.2.2, xup_j (by decide), h5.2.2, xup_j (by decide), h4.2.2]; exact q2.1
  · rw [xup_j (by decide), h6.2.2, xup_j (by decide), h5.2.2, xup_j (by decide), h4.2.2]; exact q2.2.1
  · rw [xup_j (by decide), h6.2.2, xup_j (by decide), h5.2.2, xup_f]
  · rw [(kp6 _ (by omega)).1, (kp5 _ (by omega)).1, (kp4 _ (by omega)).1]; exact q2.2.2
  · rw [(kp6 a (by omega)).1, (kp6 a (by omega)).2.1, kx6 a (by omega) (by omega), (kp5 a (by omega)).1, (kp5 a (by omega)).2.1, kx5 a (by omega) (by omega)]; exact kp4 a (by omega)
  · rw [(kp6 a (by omega)).1, (kp6 a (by omega)).2.1, kx6 a (by omega) (by omega), (kp5 a (by omega)).1, (kp5 a (by omega)).2.1, kx5 a (by omega) (by omega)]; exact ⟨rfl, rfl, rfl⟩
  · rw [xup_j (by decide), h6.2.2, xup_f]
  · rw [xup_f]
  · rw [(kp6 a (by omega)).1, (kp6 a (by omega)).2.1, kx6 a (by omega) (by omega)]; exact ⟨rfl, rfl, rfl⟩
  · rw [xup_ne (by omega)]; exact ⟨rfl, rfl, rfl⟩
end XMk4
end
