section
-- ===== PART A: goes FIRST, ahead of the names: the tables' words, and 'selects' of the private methods out of them =====
/-- a private method of a class that the tables say can be made, by its rows of tables_1 -/
def lw_okq (q : MethodName × Nat) : Prop := (q.1.cls ≠ "java/lang/invoke/MethodHandle" ∧ q.1.cls ≠ "java/lang/invoke/VarHandle") ∧ Cond.instantiable q.1.cls q.2 ∈ tables_1 ∧ Cond.privateMethod q.1 ∈ tables_1 ∧ Cond.instanceMethod q.1 ∈ tables_1
theorem lw_p0 : lw_okq (⟨"MarkCabinet$Grid", "sweepOnce", "()I"⟩, 3) := ⟨⟨by decide +kernel, by decide +kernel⟩, List.mem_of_getElem? (i := 24) (by decide +kernel), List.mem_of_getElem? (i := 292) (by decide +kernel), List.mem_of_getElem? (i := 293) (by decide +kernel)⟩
theorem lw_p1 : lw_okq (⟨"MarkCabinet$Grid", "isDark", "(II)Z"⟩, 3) := ⟨⟨by decide +kernel, by decide +kernel⟩, List.mem_of_getElem? (i := 24) (by decide +kernel), List.mem_of_getElem? (i := 296) (by decide +kernel), List.mem_of_getElem? (i := 297) (by decide +kernel)⟩
theorem lw_p2 : lw_okq (⟨"MarkCabinet$Grid", "ringAt", "(II)I"⟩, 3) := ⟨⟨by decide +kernel, by decide +kernel⟩, List.mem_of_getElem? (i := 24) (by decide +kernel), List.mem_of_getElem? (i := 300) (by decide +kernel), List.mem_of_getElem? (i := 301) (by decide +kernel)⟩
theorem lw_p3 : lw_okq (⟨"MarkCabinet$Grid", "takePieces", "(I)I"⟩, 3) := ⟨⟨by decide +kernel, by decide +kernel⟩, List.mem_of_getElem? (i := 24) (by decide +kernel), List.mem_of_getElem? (i := 324) (by decide +kernel), List.mem_of_getElem? (i := 325) (by decide +kernel)⟩
theorem lw_p4 : lw_okq (⟨"MarkCabinet$Grid", "takes", "(II)Z"⟩, 3) := ⟨⟨by decide +kernel, by decide +kernel⟩, List.mem_of_getElem? (i := 24) (by decide +kernel), List.mem_of_getElem? (i := 328) (by decide +kernel), List.mem_of_getElem? (i := 329) (by decide +kernel)⟩
theorem lw_p5 : lw_okq (⟨"MarkCabinet$Grid", "takeRest", "(III)V"⟩, 3) := ⟨⟨by decide +kernel, by decide +kernel⟩, List.mem_of_getElem? (i := 24) (by decide +kernel), List.mem_of_getElem? (i := 333) (by decide +kernel), List.mem_of_getElem? (i := 334) (by decide +kernel)⟩
theorem lw_p6 : lw_okq (⟨"MarkCabinet", "printAt", "(I)LMarkCabinet$Print;"⟩, 12) := ⟨⟨by decide +kernel, by decide +kernel⟩, List.mem_of_getElem? (i := 16) (by decide +kernel), List.mem_of_getElem? (i := 404) (by decide +kernel), List.mem_of_getElem? (i := 405) (by decide +kernel)⟩
theorem lw_p7 : lw_okq (⟨"MarkCabinet$Matches", "turnBy", "(LMarkCabinet$Print;I)V"⟩, 10) := ⟨⟨by decide +kernel, by decide +kernel⟩, List.mem_of_getElem? (i := 43) (by decide +kernel), List.mem_of_getElem? (i := 454) (by decide +kernel), List.mem_of_getElem? (i := 455) (by decide +kernel)⟩
theorem lw_p8 : lw_okq (⟨"MarkCabinet$Matches", "shiftBy", "(LMarkCabinet$Print;LMarkCabinet$Print;II)V"⟩, 10) := ⟨⟨by decide +kernel, by decide +kernel⟩, List.mem_of_getElem? (i := 43) (by decide +kernel), List.mem_of_getElem? (i := 477) (by decide +kernel), List.mem_of_getElem? (i := 478) (by decide +kernel)⟩
theorem lw_p9 : lw_okq (⟨"MarkCabinet$Matches", "bareWith", "(I)I"⟩, 10) := ⟨⟨by decide +kernel, by decide +kernel⟩, List.mem_of_getElem? (i := 43) (by decide +kernel), List.mem_of_getElem? (i := 508) (by decide +kernel), List.mem_of_getElem? (i := 509) (by decide +kernel)⟩
theorem lw_p10 : lw_okq (⟨"MarkCabinet$Matches", "scoreWith", "(I)I"⟩, 10) := ⟨⟨by decide +kernel, by decide +kernel⟩, List.mem_of_getElem? (i := 43) (by decide +kernel), List.mem_of_getElem? (i := 513) (by decide +kernel), List.mem_of_getElem? (i := 514) (by decide +kernel)⟩
theorem lw_p11 : lw_okq (⟨"MarkCabinet$Matches", "bestOf", "(LMarkCabinet$Print;LMarkCabinet$Print;)I"⟩, 10) := ⟨⟨by decide +kernel, by decide +kernel⟩, List.mem_of_getElem? (i := 43) (by decide +kernel), List.mem_of_getElem? (i := 530) (by decide +kernel), List.mem_of_getElem? (i := 531) (by decide +kernel)⟩
theorem lw_p12 : lw_okq (⟨"MarkCabinet$Matches", "search", "(LMarkCabinet$Print;LMarkCabinet$Print;)I"⟩, 10) := ⟨⟨by decide +kernel, by decide +kernel⟩, List.mem_of_getElem? (i := 43) (by decide +kernel), List.mem_of_getElem? (i := 534) (by decide +kernel), List.mem_of_getElem? (i := 535) (by decide +kernel)⟩
theorem lw_p13 : lw_okq (⟨"MarkCabinet$Matches", "markLandings", "(LMarkCabinet$Print;LMarkCabinet$Print;)V"⟩, 10) := ⟨⟨by decide +kernel, by decide +kernel⟩, List.mem_of_getElem? (i := 43) (by decide +kernel), List.mem_of_getElem? (i := 538) (by decide +kernel), List.mem_of_getElem? (i := 539) (by decide +kernel)⟩
theorem lw_p14 : lw_okq (⟨"MarkCabinet", "hasYear", "(II)Z"⟩, 12) := ⟨⟨by decide +kernel, by decide +kernel⟩, List.mem_of_getElem? (i := 16) (by decide +kernel), List.mem_of_getElem? (i := 583) (by decide +kernel), List.mem_of_getElem? (i := 584) (by decide +kernel)⟩
theorem lw_p15 : lw_okq (⟨"MarkCabinet", "keptBy", "(I)I"⟩, 12) := ⟨⟨by decide +kernel, by decide +kernel⟩, List.mem_of_getElem? (i := 16) (by decide +kernel), List.mem_of_getElem? (i := 587) (by decide +kernel), List.mem_of_getElem? (i := 588) (by decide +kernel)⟩
def lw_privs_1 : List (MethodName × Nat) := [(⟨"MarkCabinet$Grid", "sweepOnce", "()I"⟩, 3), (⟨"MarkCabinet$Grid", "isDark", "(II)Z"⟩, 3), (⟨"MarkCabinet$Grid", "ringAt", "(II)I"⟩, 3), (⟨"MarkCabinet$Grid", "takePieces", "(I)I"⟩, 3), (⟨"MarkCabinet$Grid", "takes", "(II)Z"⟩, 3), (⟨"MarkCabinet$Grid", "takeRest", "(III)V"⟩, 3), (⟨"MarkCabinet", "printAt", "(I)LMarkCabinet$Print;"⟩, 12), (⟨"MarkCabinet$Matches", "turnBy", "(LMarkCabinet$Print;I)V"⟩, 10), (⟨"MarkCabinet$Matches", "shiftBy", "(LMarkCabinet$Print;LMarkCabinet$Print;II)V"⟩, 10), (⟨"MarkCabinet$Matches", "bareWith", "(I)I"⟩, 10), (⟨"MarkCabinet$Matches", "scoreWith", "(I)I"⟩, 10), (⟨"MarkCabinet$Matches", "bestOf", "(LMarkCabinet$Print;LMarkCabinet$Print;)I"⟩, 10), (⟨"MarkCabinet$Matches", "search", "(LMarkCabinet$Print;LMarkCabinet$Print;)I"⟩, 10), (⟨"MarkCabinet$Matches", "markLandings", "(LMarkCabinet$Print;LMarkCabinet$Print;)V"⟩, 10), (⟨"MarkCabinet", "hasYear", "(II)Z"⟩, 12), (⟨"MarkCabinet", "keptBy", "(I)I"⟩, 12)]
theorem lw_r1 : ∀ q ∈ lw_privs_1, lw_okq q := List.forall_mem_cons.mpr ⟨lw_p0, List.forall_mem_cons.mpr ⟨lw_p1, List.forall_mem_cons.mpr ⟨lw_p2, List.forall_mem_cons.mpr ⟨lw_p3, List.forall_mem_cons.mpr ⟨lw_p4, List.forall_mem_cons.mpr ⟨lw_p5, List.forall_mem_cons.mpr ⟨lw_p6, List.forall_mem_cons.mpr ⟨lw_p7, List.forall_mem_cons.mpr ⟨lw_p8, List.forall_mem_cons.mpr ⟨lw_p9, List.forall_mem_cons.mpr ⟨lw_p10, List.forall_mem_cons.mpr ⟨lw_p11, List.forall_mem_cons.mpr ⟨lw_p12, List.forall_mem_cons.mpr ⟨lw_p13, List.forall_mem_cons.mpr ⟨lw_p14, List.forall_mem_cons.mpr ⟨lw_p15, fun _ h => absurd h List.not_mem_nil⟩⟩⟩⟩⟩⟩⟩⟩⟩⟩⟩⟩⟩⟩⟩⟩
theorem lw_p16 : lw_okq (⟨"MarkCabinet", "readHistory", "(I)Z"⟩, 12) := ⟨⟨by decide +kernel, by decide +kernel⟩, List.mem_of_getElem? (i := 16) (by decide +kernel), List.mem_of_getElem? (i := 625) (by decide +kernel), List.mem_of_getElem? (i := 626) (by decide +kernel)⟩
theorem lw_p17 : lw_okq (⟨"MarkCabinet", "newestOf", "(I)LMarkCabinet$Print;"⟩, 12) := ⟨⟨by decide +kernel, by decide +kernel⟩, List.mem_of_getElem? (i := 16) (by decide +kernel), List.mem_of_getElem? (i := 629) (by decide +kernel), List.mem_of_getElem? (i := 630) (by decide +kernel)⟩
theorem lw_p18 : lw_okq (⟨"MarkCabinet", "toolsWithPrints", "()I"⟩, 12) := ⟨⟨by decide +kernel, by decide +kernel⟩, List.mem_of_getElem? (i := 16) (by decide +kernel), List.mem_of_getElem? (i := 681) (by decide +kernel), List.mem_of_getElem? (i := 682) (by decide +kernel)⟩
theorem lw_p19 : lw_okq (⟨"MarkCabinetModel", "darkMany", "()I"⟩, 38) := ⟨⟨by decide +kernel, by decide +kernel⟩, List.mem_of_getElem? (i := 685) (by decide +kernel), List.mem_of_getElem? (i := 815) (by decide +kernel), List.mem_of_getElem? (i := 816) (by decide +kernel)⟩
theorem lw_p20 : lw_okq (⟨"MarkCabinetModel", "isDark", "(II)Z"⟩, 38) := ⟨⟨by decide +kernel, by decide +kernel⟩, List.mem_of_getElem? (i := 685) (by decide +kernel), List.mem_of_getElem? (i := 827) (by decide +kernel), List.mem_of_getElem? (i := 828) (by decide +kernel)⟩
theorem lw_p21 : lw_okq (⟨"MarkCabinetModel", "neighbours", "(II)I"⟩, 38) := ⟨⟨by decide +kernel, by decide +kernel⟩, List.mem_of_getElem? (i := 685) (by decide +kernel), List.mem_of_getElem? (i := 831) (by decide +kernel), List.mem_of_getElem? (i := 832) (by decide +kernel)⟩
theorem lw_p22 : lw_okq (⟨"MarkCabinetModel", "hangTogether", "(II)Z"⟩, 38) := ⟨⟨by decide +kernel, by decide +kernel⟩, List.mem_of_getElem? (i := 685) (by decide +kernel), List.mem_of_getElem? (i := 835) (by decide +kernel), List.mem_of_getElem? (i := 836) (by decide +kernel)⟩
theorem lw_p23 : lw_okq (⟨"MarkCabinetModel", "spread", "(IZ)V"⟩, 38) := ⟨⟨by decide +kernel, by decide +kernel⟩, List.mem_of_getElem? (i := 685) (by decide +kernel), List.mem_of_getElem? (i := 849) (by decide +kernel), List.mem_of_getElem? (i := 850) (by decide +kernel)⟩
theorem lw_p24 : lw_okq (⟨"MarkCabinetModel", "besideSeen", "(IZ)Z"⟩, 38) := ⟨⟨by decide +kernel, by decide +kernel⟩, List.mem_of_getElem? (i := 685) (by decide +kernel), List.mem_of_getElem? (i := 853) (by decide +kernel), List.mem_of_getElem? (i := 854) (by decide +kernel)⟩
theorem lw_p25 : lw_okq (⟨"MarkCabinetModel", "findPoints", "()I"⟩, 38) := ⟨⟨by decide +kernel, by decide +kernel⟩, List.mem_of_getElem? (i := 685) (by decide +kernel), List.mem_of_getElem? (i := 861) (by decide +kernel), List.mem_of_getElem? (i := 862) (by decide +kernel)⟩
theorem lw_p26 : lw_okq (⟨"MarkCabinetModel", "isPrint", "(I)Z"⟩, 38) := ⟨⟨by decide +kernel, by decide +kernel⟩, List.mem_of_getElem? (i := 685) (by decide +kernel), List.mem_of_getElem? (i := 869) (by decide +kernel), List.mem_of_getElem? (i := 870) (by decide +kernel)⟩
theorem lw_p27 : lw_okq (⟨"MarkCabinetModel", "scoreOf", "(IIIII)I"⟩, 38) := ⟨⟨by decide +kernel, by decide +kernel⟩, List.mem_of_getElem? (i := 685) (by decide +kernel), List.mem_of_getElem? (i := 881) (by decide +kernel), List.mem_of_getElem? (i := 882) (by decide +kernel)⟩
theorem lw_p28 : lw_okq (⟨"MarkCabinetModel", "layOut", "(IIIII)V"⟩, 38) := ⟨⟨by decide +kernel, by decide +kernel⟩, List.mem_of_getElem? (i := 685) (by decide +kernel), List.mem_of_getElem? (i := 885) (by decide +kernel), List.mem_of_getElem? (i := 886) (by decide +kernel)⟩
theorem lw_p29 : lw_okq (⟨"MarkCabinetModel", "mostPairs", "(III)I"⟩, 38) := ⟨⟨by decide +kernel, by decide +kernel⟩, List.mem_of_getElem? (i := 685) (by decide +kernel), List.mem_of_getElem? (i := 895) (by decide +kernel), List.mem_of_getElem? (i := 896) (by decide +kernel)⟩
theorem lw_p30 : lw_okq (⟨"MarkCabinetModel", "finds", "(II)Z"⟩, 38) := ⟨⟨by decide +kernel, by decide +kernel⟩, List.mem_of_getElem? (i := 685) (by decide +kernel), List.mem_of_getElem? (i := 899) (by decide +kernel), List.mem_of_getElem? (i := 900) (by decide +kernel)⟩
theorem lw_p31 : lw_okq (⟨"MarkCabinetModel", "findFirst", "(II)V"⟩, 38) := ⟨⟨by decide +kernel, by decide +kernel⟩, List.mem_of_getElem? (i := 685) (by decide +kernel), List.mem_of_getElem? (i := 906) (by decide +kernel), List.mem_of_getElem? (i := 907) (by decide +kernel)⟩
def lw_privs_2 : List (MethodName × Nat) := [(⟨"MarkCabinet", "readHistory", "(I)Z"⟩, 12), (⟨"MarkCabinet", "newestOf", "(I)LMarkCabinet$Print;"⟩, 12), (⟨"MarkCabinet", "toolsWithPrints", "()I"⟩, 12), (⟨"MarkCabinetModel", "darkMany", "()I"⟩, 38), (⟨"MarkCabinetModel", "isDark", "(II)Z"⟩, 38), (⟨"MarkCabinetModel", "neighbours", "(II)I"⟩, 38), (⟨"MarkCabinetModel", "hangTogether", "(II)Z"⟩, 38), (⟨"MarkCabinetModel", "spread", "(IZ)V"⟩, 38), (⟨"MarkCabinetModel", "besideSeen", "(IZ)Z"⟩, 38), (⟨"MarkCabinetModel", "findPoints", "()I"⟩, 38), (⟨"MarkCabinetModel", "isPrint", "(I)Z"⟩, 38), (⟨"MarkCabinetModel", "scoreOf", "(IIIII)I"⟩, 38), (⟨"MarkCabinetModel", "layOut", "(IIIII)V"⟩, 38), (⟨"MarkCabinetModel", "mostPairs", "(III)I"⟩, 38), (⟨"MarkCabinetModel", "finds", "(II)Z"⟩, 38), (⟨"MarkCabinetModel", "findFirst", "(II)V"⟩, 38)]
theorem lw_r2 : ∀ q ∈ lw_privs_2, lw_okq q := List.forall_mem_cons.mpr ⟨lw_p16, List.forall_mem_cons.mpr ⟨lw_p17, List.forall_mem_cons.mpr ⟨lw_p18, List.forall_mem_cons.mpr ⟨lw_p19, List.forall_mem_cons.mpr ⟨lw_p20, List.forall_mem_cons.mpr ⟨lw_p21, List.forall_mem_cons.mpr ⟨lw_p22, List.forall_mem_cons.mpr ⟨lw_p23, List.forall_mem_cons.mpr ⟨lw_p24, List.forall_mem_cons.mpr ⟨lw_p25, List.forall_mem_cons.mpr ⟨lw_p26, List.forall_mem_cons.mpr ⟨lw_p27, List.forall_mem_cons.mpr ⟨lw_p28, List.forall_mem_cons.mpr ⟨lw_p29, List.forall_mem_cons.mpr ⟨lw_p30, List.forall_mem_cons.mpr ⟨lw_p31, fun _ h => absurd h List.not_mem_nil⟩⟩⟩⟩⟩⟩⟩⟩⟩⟩⟩⟩⟩⟩⟩⟩
theorem lw_p32 : lw_okq (⟨"MarkCabinetModel", "tell", "(I)V"⟩, 38) := ⟨⟨by decide +kernel, by decide +kernel⟩, List.mem_of_getElem? (i := 685) (by decide +kernel), List.mem_of_getElem? (i := 910) (by decide +kernel), List.mem_of_getElem? (i := 911) (by decide +kernel)⟩
theorem lw_p33 : lw_okq (⟨"MarkCabinetModel", "matchOf", "(II)I"⟩, 38) := ⟨⟨by decide +kernel, by decide +kernel⟩, List.mem_of_getElem? (i := 685) (by decide +kernel), List.mem_of_getElem? (i := 918) (by decide +kernel), List.mem_of_getElem? (i := 919) (by decide +kernel)⟩
theorem lw_p34 : lw_okq (⟨"MarkCabinetModel", "offer", "(IIIII)V"⟩, 38) := ⟨⟨by decide +kernel, by decide +kernel⟩, List.mem_of_getElem? (i := 685) (by decide +kernel), List.mem_of_getElem? (i := 922) (by decide +kernel), List.mem_of_getElem? (i := 923) (by decide +kernel)⟩
theorem lw_p35 : lw_okq (⟨"MarkCabinetModel", "printOf", "(II)I"⟩, 38) := ⟨⟨by decide +kernel, by decide +kernel⟩, List.mem_of_getElem? (i := 685) (by decide +kernel), List.mem_of_getElem? (i := 941) (by decide +kernel), List.mem_of_getElem? (i := 942) (by decide +kernel)⟩
theorem lw_p36 : lw_okq (⟨"MarkCabinetModel", "keptBy", "(I)I"⟩, 38) := ⟨⟨by decide +kernel, by decide +kernel⟩, List.mem_of_getElem? (i := 685) (by decide +kernel), List.mem_of_getElem? (i := 945) (by decide +kernel), List.mem_of_getElem? (i := 946) (by decide +kernel)⟩
theorem lw_p37 : lw_okq (⟨"MarkCabinetModel", "findFlaws", "(I)V"⟩, 38) := ⟨⟨by decide +kernel, by decide +kernel⟩, List.mem_of_getElem? (i := 685) (by decide +kernel), List.mem_of_getElem? (i := 973) (by decide +kernel), List.mem_of_getElem? (i := 974) (by decide +kernel)⟩
theorem lw_p38 : lw_okq (⟨"MarkCabinetModel", "ask", "(I)V"⟩, 38) := ⟨⟨by decide +kernel, by decide +kernel⟩, List.mem_of_getElem? (i := 685) (by decide +kernel), List.mem_of_getElem? (i := 977) (by decide +kernel), List.mem_of_getElem? (i := 978) (by decide +kernel)⟩
def lw_privs_3 : List (MethodName × Nat) := [(⟨"MarkCabinetModel", "tell", "(I)V"⟩, 38), (⟨"MarkCabinetModel", "matchOf", "(II)I"⟩, 38), (⟨"MarkCabinetModel", "offer", "(IIIII)V"⟩, 38), (⟨"MarkCabinetModel", "printOf", "(II)I"⟩, 38), (⟨"MarkCabinetModel", "keptBy", "(I)I"⟩, 38), (⟨"MarkCabinetModel", "findFlaws", "(I)V"⟩, 38), (⟨"MarkCabinetModel", "ask", "(I)V"⟩, 38)]
theorem lw_r3 : ∀ q ∈ lw_privs_3, lw_okq q := List.forall_mem_cons.mpr ⟨lw_p32, List.forall_mem_cons.mpr ⟨lw_p33, List.forall_mem_cons.mpr ⟨lw_p34, List.forall_mem_cons.mpr ⟨lw_p35, List.forall_mem_cons.mpr ⟨lw_p36, List.forall_mem_cons.mpr ⟨lw_p37, List.forall_mem_cons.mpr ⟨lw_p38, fun _ h => absurd h List.not_mem_nil⟩⟩⟩⟩⟩⟩⟩
def lw_privs : List (MethodName × Nat) := lw_privs_1 ++ (lw_privs_2 ++ (lw_privs_3))
def lw_tbl : List Cond := k2_sels lw_privs ++ tables_1
theorem lw_privs_ok : ∀ q ∈ lw_privs, lw_okq q := by
  show ∀ q ∈ lw_privs_1 ++ (lw_privs_2 ++ (lw_privs_3)), lw_okq q
  exact List.forall_mem_append.mpr ⟨lw_r1, List.forall_mem_append.mpr ⟨lw_r2, lw_r3⟩⟩
end
section
def RX0 : String := "MarkCabinet$Finder"
def TX0 : u_T := fun k => match k with
  | 0 => ("MarkCabinet$Finder", "byColumn", "[I", true)
  | 1 => ("MarkCabinet$Finder", "byRow", "[I", true)
  | _ => ("MarkCabinet$Finder", "byKind", "[I", true)
def tyX0 : Nat → FieldType := fun k => match k with
  | 0 => .array .int
  | 1 => .array .int
  | _ => .array .int
abbrev wsX00 : List Cond := u_ws RX0 TX0 3
theorem nmX0 : ∀ a, a < 3 → ∀ b, b < 3 → a ≠ b → (TX0 a).2.1 ≠ (TX0 b).2.1 := by decide +kernel
theorem tyX0_ok : ∀ k, k < 3 → parseFieldDescriptor (TX0 k).2.2.1 = some (tyX0 k) := by decide +kernel
abbrev cX0_init : ByteArray := prog_2_method_1_code
def yX0_init : MethodName := ⟨RX0, "<init>", "()V"⟩
abbrev cX0_learn : ByteArray := prog_2_method_2_code
def yX0_learn : MethodName := ⟨RX0, "learn", "(LMarkCabinet$Print;I)V"⟩
abbrev cX0_near : ByteArray := prog_2_method_3_code
def yX0_near : MethodName := ⟨RX0, "near", "(III)I"⟩
abbrev cX0_mark : ByteArray := prog_2_method_4_code
def yX0_mark : MethodName := ⟨RX0, "mark", "([IIII)V"⟩
def RX1 : String := "MarkCabinet$Grid"
def TX1 : u_T := fun k => match k with
  | 0 => ("MarkCabinet$Grid", "rows", "[I", true)
  | 1 => ("MarkCabinet$Grid", "left", "[I", true)
  | _ => ("MarkCabinet$Grid", "queue", "[I", true)
def tyX1 : Nat → FieldType := fun k => match k with
  | 0 => .array .int
  | 1 => .array .int
  | _ => .array .int
abbrev wsX10 : List Cond := u_ws RX1 TX1 3
theorem nmX1 : ∀ a, a < 3 → ∀ b, b < 3 → a ≠ b → (TX1 a).2.1 ≠ (TX1 b).2.1 := by decide +kernel
theorem tyX1_ok : ∀ k, k < 3 → parseFieldDescriptor (TX1 k).2.2.1 = some (tyX1 k) := by decide +kernel
abbrev cX1_init : ByteArray := prog_3_method_1_code
def yX1_init : MethodName := ⟨RX1, "<init>", "()V"⟩
abbrev cX1_setRow : ByteArray := prog_3_method_2_code
def yX1_setRow : MethodName := ⟨RX1, "setRow", "(II)V"⟩
abbrev cX1_bitsOf : ByteArray := prog_3_method_3_code
def yX1_bitsOf : MethodName := ⟨RX1, "bitsOf", "(I)I"⟩
abbrev cX1_darkCells : ByteArray := prog_3_method_4_code
def yX1_darkCells : MethodName := ⟨RX1, "darkCells", "()I"⟩
abbrev cX1_takeThinned : ByteArray := prog_3_method_5_code
def yX1_takeThinned : MethodName := ⟨RX1, "takeThinned", "()I"⟩
abbrev cX1_sweepOnce : ByteArray := prog_3_method_6_code
def yX1_sweepOnce : MethodName := ⟨RX1, "sweepOnce", "()I"⟩
abbrev cX1_goes : ByteArray := prog_3_method_7_code
def yX1_goes : MethodName := ⟨RX1, "goes", "(I)Z"⟩
abbrev cX1_hangsTogether : ByteArray := prog_3_method_8_code
def yX1_hangsTogether : MethodName := ⟨RX1, "hangsTogether", "(I)Z"⟩
abbrev cX1_isDark : ByteArray := prog_3_method_9_code
def yX1_isDark : MethodName := ⟨RX1, "isDark", "(II)Z"⟩
abbrev cX1_threeAt : ByteArray := prog_3_method_10_code
def yX1_threeAt : MethodName := ⟨RX1, "threeAt", "(II)I"⟩
abbrev cX1_ringAt : ByteArray := prog_3_method_11_code
def yX1_ringAt : MethodName := ⟨RX1, "ringAt", "(II)I"⟩
abbrev cX1_darkPieces : ByteArray := prog_3_method_12_code
def yX1_darkPieces : MethodName := ⟨RX1, "darkPieces", "()I"⟩
abbrev cX1_holes : ByteArray := prog_3_method_13_code
def yX1_holes : MethodName := ⟨RX1, "holes", "()I"⟩
abbrev cX1_takePieces : ByteArray := prog_3_method_14_code
def yX1_takePieces : MethodName := ⟨RX1, "takePieces", "(I)I"⟩
abbrev cX1_takeRest : ByteArray := prog_3_method_15_code
def yX1_takeRest : MethodName := ⟨RX1, "takeRest", "(III)V"⟩
abbrev cX1_takes : ByteArray := prog_3_method_16_code
def yX1_takes : MethodName := ⟨RX1, "takes", "(II)Z"⟩
abbrev cX1_readPoints : ByteArray := prog_3_method_17_code
def yX1_readPoints : MethodName := ⟨RX1, "readPoints", "([I)I"⟩
abbrev cX1_kindOf : ByteArray := prog_3_method_18_code
def yX1_kindOf : MethodName := ⟨RX1, "kindOf", "(IZ)I"⟩
def RX2 : String := "MarkCabinet$History"
def TX2 : u_T := fun k => match k with
  | 0 => ("MarkCabinet$History", "flawed", "I", false)
  | 1 => ("MarkCabinet$History", "comes", "[I", true)
  | 2 => ("MarkCabinet$History", "size", "I", false)
  | 3 => ("MarkCabinet$History", "years", "[I", true)
  | 4 => ("MarkCabinet$History", "having", "[I", true)
  | _ => ("MarkCabinet$History", "lastLack", "[I", true)
def tyX2 : Nat → FieldType := fun k => match k with
  | 0 => .int
  | 1 => .array .int
  | 2 => .int
  | 3 => .array .int
  | 4 => .array .int
  | _ => .array .int
abbrev wsX20 : List Cond := u_ws RX2 TX2 6
theorem nmX2 : ∀ a, a < 6 → ∀ b, b < 6 → a ≠ b → (TX2 a).2.1 ≠ (TX2 b).2.1 := by decide +kernel
theorem tyX2_ok : ∀ k, k < 6 → parseFieldDescriptor (TX2 k).2.2.1 = some (tyX2 k) := by decide +kernel
abbrev cX2_init : ByteArray := prog_4_method_1_code
def yX2_init : MethodName := ⟨RX2, "<init>", "()V"⟩
abbrev cX2_clear : ByteArray := prog_4_method_2_code
def yX2_clear : MethodName := ⟨RX2, "clear", "()V"⟩
abbrev cX2_hear : ByteArray := prog_4_method_3_code
def yX2_hear : MethodName := ⟨RX2, "hear", "(LMarkCabinet$Print;II)V"⟩
abbrev cX2_dateFlaws : ByteArray := prog_4_method_4_code
def yX2_dateFlaws : MethodName := ⟨RX2, "dateFlaws", "()V"⟩
abbrev cX2_flawAt : ByteArray := prog_4_method_5_code
def yX2_flawAt : MethodName := ⟨RX2, "flawAt", "(I)I"⟩
abbrev cX2_lastComing : ByteArray := prog_4_method_6_code
def yX2_lastComing : MethodName := ⟨RX2, "lastComing", "(II)I"⟩
abbrev cX2_firstComing : ByteArray := prog_4_method_7_code
def yX2_firstComing : MethodName := ⟨RX2, "firstComing", "(II)I"⟩
def RX3 : String := "MarkCabinet$Laying"
def TX3 : u_T := fun k => match k with
  | 0 => ("MarkCabinet$Laying", "found", "Z", false)
  | 1 => ("MarkCabinet$Laying", "q", "I", false)
  | 2 => ("MarkCabinet$Laying", "dx", "I", false)
  | 3 => ("MarkCabinet$Laying", "dy", "I", false)
  | 4 => ("MarkCabinet$Laying", "pairs", "I", false)
  | 5 => ("MarkCabinet$Laying", "bare", "I", false)
  | 6 => ("MarkCabinet$Laying", "score", "I", false)
  | 7 => ("MarkCabinet$Laying", "paired", "I", false)
  | 8 => ("MarkCabinet$Laying", "inside", "I", false)
  | _ => ("MarkCabinet$Laying", "partner", "[I", true)
def tyX3 : Nat → FieldType := fun k => match k with
  | 0 => .boolean
  | 1 => .int
  | 2 => .int
  | 3 => .int
  | 4 => .int
  | 5 => .int
  | 6 => .int
  | 7 => .int
  | 8 => .int
  | _ => .array .int
abbrev wsX30 : List Cond := u_ws RX3 TX3 10
theorem nmX3 : ∀ a, a < 10 → ∀ b, b < 10 → a ≠ b → (TX3 a).2.1 ≠ (TX3 b).2.1 := by decide +kernel
theorem tyX3_ok : ∀ k, k < 10 → parseFieldDescriptor (TX3 k).2.2.1 = some (tyX3 k) := by decide +kernel
abbrev cX3_init : ByteArray := prog_5_method_1_code
def yX3_init : MethodName := ⟨RX3, "<init>", "()V"⟩
abbrev cX3_set : ByteArray := prog_5_method_2_code
def yX3_set : MethodName := ⟨RX3, "set", "(III)V"⟩
abbrev cX3_setNone : ByteArray := prog_5_method_3_code
def yX3_setNone : MethodName := ⟨RX3, "setNone", "()V"⟩
abbrev cX3_lacking : ByteArray := prog_5_method_4_code
def yX3_lacking : MethodName := ⟨RX3, "lacking", "()I"⟩
def RX4 : String := "MarkCabinet$Matches"
def TX4 : u_T := fun k => match k with
  | 0 => ("MarkCabinet$Matches", "reach", "I", false)
  | 1 => ("MarkCabinet$Matches", "known", "[I", true)
  | 2 => ("MarkCabinet$Matches", "finder", "LMarkCabinet$Finder;", true)
  | 3 => ("MarkCabinet$Matches", "pairing", "LMarkCabinet$Pairing;", true)
  | 4 => ("MarkCabinet$Matches", "turnedX", "[I", true)
  | 5 => ("MarkCabinet$Matches", "turnedY", "[I", true)
  | 6 => ("MarkCabinet$Matches", "turnedPart", "LMarkCabinet$Part;", true)
  | 7 => ("MarkCabinet$Matches", "landings", "[I", true)
  | 8 => ("MarkCabinet$Matches", "inside", "I", false)
  | _ => ("MarkCabinet$Matches", "struckByBoth", "I", false)
def tyX4 : Nat → FieldType := fun k => match k with
  | 0 => .int
  | 1 => .array .int
  | 2 => .object "MarkCabinet$Finder"
  | 3 => .object "MarkCabinet$Pairing"
  | 4 => .array .int
  | 5 => .array .int
  | 6 => .object "MarkCabinet$Part"
  | 7 => .array .int
  | 8 => .int
  | _ => .int
abbrev wsX40 : List Cond := u_ws RX4 TX4 10
theorem nmX4 : ∀ a, a < 10 → ∀ b, b < 10 → a ≠ b → (TX4 a).2.1 ≠ (TX4 b).2.1 := by decide +kernel
theorem tyX4_ok : ∀ k, k < 10 → parseFieldDescriptor (TX4 k).2.2.1 = some (tyX4 k) := by decide +kernel
abbrev cX4_init : ByteArray := prog_6_method_1_code
def yX4_init : MethodName := ⟨RX4, "<init>", "()V"⟩
abbrev cX4_scoreOf : ByteArray := prog_6_method_2_code
def yX4_scoreOf : MethodName := ⟨RX4, "scoreOf", "(LMarkCabinet$Print;LMarkCabinet$Print;)I"⟩
abbrev cX4_layBest : ByteArray := prog_6_method_3_code
def yX4_layBest : MethodName := ⟨RX4, "layBest", "(LMarkCabinet$Print;LMarkCabinet$Print;LMarkCabinet$Laying;)V"⟩
abbrev cX4_fillIn : ByteArray := prog_6_method_4_code
def yX4_fillIn : MethodName := ⟨RX4, "fillIn", "(LMarkCabinet$Print;LMarkCabinet$Print;LMarkCabinet$Laying;)V"⟩
abbrev cX4_bestOf : ByteArray := prog_6_method_5_code
def yX4_bestOf : MethodName := ⟨RX4, "bestOf", "(LMarkCabinet$Print;LMarkCabinet$Print;)I"⟩
abbrev cX4_search : ByteArray := prog_6_method_6_code
def yX4_search : MethodName := ⟨RX4, "search", "(LMarkCabinet$Print;LMarkCabinet$Print;)I"⟩
abbrev cX4_turnBy : ByteArray := prog_6_method_7_code
def yX4_turnBy : MethodName := ⟨RX4, "turnBy", "(LMarkCabinet$Print;I)V"⟩
abbrev cX4_markLandings : ByteArray := prog_6_method_8_code
def yX4_markLandings : MethodName := ⟨RX4, "markLandings", "(LMarkCabinet$Print;LMarkCabinet$Print;)V"⟩
abbrev cX4_shiftBy : ByteArray := prog_6_method_9_code
def yX4_shiftBy : MethodName := ⟨RX4, "shiftBy", "(LMarkCabinet$Print;LMarkCabinet$Print;II)V"⟩
abbrev cX4_bareWith : ByteArray := prog_6_method_10_code
def yX4_bareWith : MethodName := ⟨RX4, "bareWith", "(I)I"⟩
abbrev cX4_scoreWith : ByteArray := prog_6_method_11_code
def yX4_scoreWith : MethodName := ⟨RX4, "scoreWith", "(I)I"⟩
abbrev cX4_pack : ByteArray := prog_6_method_12_code
def yX4_pack : MethodName := ⟨RX4, "pack", "(IIII)I"⟩
abbrev cX4_unpackScore : ByteArray := prog_6_method_13_code
def yX4_unpackScore : MethodName := ⟨RX4, "unpackScore", "(I)I"⟩
abbrev cX4_unpackTurn : ByteArray := prog_6_method_14_code
def yX4_unpackTurn : MethodName := ⟨RX4, "unpackTurn", "(I)I"⟩
abbrev cX4_unpackRow : ByteArray := prog_6_method_15_code
def yX4_unpackRow : MethodName := ⟨RX4, "unpackRow", "(I)I"⟩
abbrev cX4_unpackColumn : ByteArray := prog_6_method_16_code
def yX4_unpackColumn : MethodName := ⟨RX4, "unpackColumn", "(I)I"⟩
def RX5 : String := "MarkCabinet$Pairing"
def TX5 : u_T := fun k => match k with
  | 0 => ("MarkCabinet$Pairing", "may", "[I", true)
  | 1 => ("MarkCabinet$Pairing", "size", "I", false)
  | 2 => ("MarkCabinet$Pairing", "holder", "[I", true)
  | _ => ("MarkCabinet$Pairing", "untried", "I", false)
def tyX5 : Nat → FieldType := fun k => match k with
  | 0 => .array .int
  | 1 => .int
  | 2 => .array .int
  | _ => .int
abbrev wsX50 : List Cond := u_ws RX5 TX5 4
theorem nmX5 : ∀ a, a < 4 → ∀ b, b < 4 → a ≠ b → (TX5 a).2.1 ≠ (TX5 b).2.1 := by decide +kernel
theorem tyX5_ok : ∀ k, k < 4 → parseFieldDescriptor (TX5 k).2.2.1 = some (tyX5 k) := by decide +kernel
abbrev cX5_init : ByteArray := prog_7_method_1_code
def yX5_init : MethodName := ⟨RX5, "<init>", "()V"⟩
abbrev cX5_clear : ByteArray := prog_7_method_2_code
def yX5_clear : MethodName := ⟨RX5, "clear", "()V"⟩
abbrev cX5_add : ByteArray := prog_7_method_3_code
def yX5_add : MethodName := ⟨RX5, "add", "(I)V"⟩
abbrev cX5_bound : ByteArray := prog_7_method_4_code
def yX5_bound : MethodName := ⟨RX5, "bound", "()I"⟩
abbrev cX5_most : ByteArray := prog_7_method_5_code
def yX5_most : MethodName := ⟨RX5, "most", "(II)I"⟩
abbrev cX5_choose : ByteArray := prog_7_method_6_code
def yX5_choose : MethodName := ⟨RX5, "choose", "(I[I)I"⟩
abbrev cX5_finds : ByteArray := prog_7_method_7_code
def yX5_finds : MethodName := ⟨RX5, "finds", "(LMarkCabinet$Pairing;II)Z"⟩
def RX6 : String := "MarkCabinet$Part"
def TX6 : u_T := fun k => match k with
  | 0 => ("MarkCabinet$Part", "x0", "I", false)
  | 1 => ("MarkCabinet$Part", "y0", "I", false)
  | 2 => ("MarkCabinet$Part", "x1", "I", false)
  | _ => ("MarkCabinet$Part", "y1", "I", false)
def tyX6 : Nat → FieldType := fun k => match k with
  | 0 => .int
  | 1 => .int
  | 2 => .int
  | _ => .int
abbrev wsX60 : List Cond := u_ws RX6 TX6 4
theorem nmX6 : ∀ a, a < 4 → ∀ b, b < 4 → a ≠ b → (TX6 a).2.1 ≠ (TX6 b).2.1 := by decide +kernel
theorem tyX6_ok : ∀ k, k < 4 → parseFieldDescriptor (TX6 k).2.2.1 = some (tyX6 k) := by decide +kernel
abbrev cX6_init : ByteArray := prog_8_method_1_code
def yX6_init : MethodName := ⟨RX6, "<init>", "(IIII)V"⟩
abbrev cX6_holds : ByteArray := prog_8_method_2_code
def yX6_holds : MethodName := ⟨RX6, "holds", "(II)Z"⟩
abbrev cX6_becomeTurned : ByteArray := prog_8_method_3_code
def yX6_becomeTurned : MethodName := ⟨RX6, "becomeTurned", "(LMarkCabinet$Part;I)V"⟩
abbrev cX6_turnedColumn : ByteArray := prog_8_method_4_code
def yX6_turnedColumn : MethodName := ⟨RX6, "turnedColumn", "(III)I"⟩
abbrev cX6_turnedRow : ByteArray := prog_8_method_5_code
def yX6_turnedRow : MethodName := ⟨RX6, "turnedRow", "(III)I"⟩
def RX7 : String := "MarkCabinet$Print"
def TX7 : u_T := fun k => match k with
  | 0 => ("MarkCabinet$Print", "number", "I", true)
  | 1 => ("MarkCabinet$Print", "points", "[I", true)
  | 2 => ("MarkCabinet$Print", "part", "LMarkCabinet$Part;", true)
  | 3 => ("MarkCabinet$Print", "tool", "I", false)
  | _ => ("MarkCabinet$Print", "year", "I", false)
def tyX7 : Nat → FieldType := fun k => match k with
  | 0 => .int
  | 1 => .array .int
  | 2 => .object "MarkCabinet$Part"
  | 3 => .int
  | _ => .int
abbrev wsX70 : List Cond := u_ws RX7 TX7 5
theorem nmX7 : ∀ a, a < 5 → ∀ b, b < 5 → a ≠ b → (TX7 a).2.1 ≠ (TX7 b).2.1 := by decide +kernel
theorem tyX7_ok : ∀ k, k < 5 → parseFieldDescriptor (TX7 k).2.2.1 = some (tyX7 k) := by decide +kernel
abbrev cX7_init : ByteArray := prog_9_method_1_code
def yX7_init : MethodName := ⟨RX7, "<init>", "(I[ILMarkCabinet$Part;)V"⟩
abbrev cX7_size : ByteArray := prog_9_method_2_code
def yX7_size : MethodName := ⟨RX7, "size", "()I"⟩
abbrev cX7_columnOf : ByteArray := prog_9_method_3_code
def yX7_columnOf : MethodName := ⟨RX7, "columnOf", "(I)I"⟩
abbrev cX7_rowOf : ByteArray := prog_9_method_4_code
def yX7_rowOf : MethodName := ⟨RX7, "rowOf", "(I)I"⟩
abbrev cX7_kindOf : ByteArray := prog_9_method_5_code
def yX7_kindOf : MethodName := ⟨RX7, "kindOf", "(I)I"⟩
def RX8 : String := "MarkCabinet"
def TX8 : u_T := fun k => match k with
  | 0 => ("MarkCabinet", "grid", "LMarkCabinet$Grid;", true)
  | 1 => ("MarkCabinet", "firstPoints", "[I", true)
  | 2 => ("MarkCabinet", "prints", "[LMarkCabinet$Print;", true)
  | 3 => ("MarkCabinet", "made", "I", false)
  | 4 => ("MarkCabinet", "matches", "LMarkCabinet$Matches;", true)
  | 5 => ("MarkCabinet", "latest", "LMarkCabinet$Laying;", true)
  | 6 => ("MarkCabinet", "anyLaid", "Z", false)
  | 7 => ("MarkCabinet", "trial", "LMarkCabinet$Laying;", true)
  | 8 => ("MarkCabinet", "history", "LMarkCabinet$History;", true)
  | 9 => ("MarkCabinet", "from", "I", false)
  | 10 => ("MarkCabinet", "till", "I", false)
  | _ => ("MarkCabinet", "anyAged", "Z", false)
def tyX8 : Nat → FieldType := fun k => match k with
  | 0 => .object "MarkCabinet$Grid"
  | 1 => .array .int
  | 2 => .array (.object "MarkCabinet$Print")
  | 3 => .int
  | 4 => .object "MarkCabinet$Matches"
  | 5 => .object "MarkCabinet$Laying"
  | 6 => .boolean
  | 7 => .object "MarkCabinet$Laying"
  | 8 => .object "MarkCabinet$History"
  | 9 => .int
  | 10 => .int
  | _ => .boolean
abbrev wsX80 : List Cond := u_ws RX8 TX8 12
theorem nmX8 : ∀ a, a < 12 → ∀ b, b < 12 → a ≠ b → (TX8 a).2.1 ≠ (TX8 b).2.1 := by decide +kernel
theorem tyX8_ok : ∀ k, k < 12 → parseFieldDescriptor (TX8 k).2.2.1 = some (tyX8 k) := by decide +kernel
abbrev cX8_init : ByteArray := prog_1_method_1_code
def yX8_init : MethodName := ⟨RX8, "<init>", "()V"⟩
abbrev cX8_feed : ByteArray := prog_1_method_2_code
def yX8_feed : MethodName := ⟨RX8, "feed", "(II)I"⟩
abbrev cX8_row : ByteArray := prog_1_method_3_code
def yX8_row : MethodName := ⟨RX8, "row", "(I)I"⟩
abbrev cX8_thin : ByteArray := prog_1_method_4_code
def yX8_thin : MethodName := ⟨RX8, "thin", "()I"⟩
abbrev cX8_pieces : ByteArray := prog_1_method_5_code
def yX8_pieces : MethodName := ⟨RX8, "pieces", "(I)I"⟩
abbrev cX8_print : ByteArray := prog_1_method_6_code
def yX8_print : MethodName := ⟨RX8, "print", "(I)I"⟩
abbrev cX8_point : ByteArray := prog_1_method_7_code
def yX8_point : MethodName := ⟨RX8, "point", "(II)I"⟩
abbrev cX8_reach : ByteArray := prog_1_method_8_code
def yX8_reach : MethodName := ⟨RX8, "reach", "(I)I"⟩
abbrev cX8_lay : ByteArray := prog_1_method_9_code
def yX8_lay : MethodName := ⟨RX8, "lay", "(IIIII)I"⟩
abbrev cX8_match : ByteArray := prog_1_method_10_code
def yX8_match : MethodName := ⟨RX8, "match", "(II)I"⟩
abbrev cX8_told : ByteArray := prog_1_method_11_code
def yX8_told : MethodName := ⟨RX8, "told", "(I)I"⟩
abbrev cX8_pair : ByteArray := prog_1_method_12_code
def yX8_pair : MethodName := ⟨RX8, "pair", "(I)I"⟩
abbrev cX8_keep : ByteArray := prog_1_method_13_code
def yX8_keep : MethodName := ⟨RX8, "keep", "(III)I"⟩
abbrev cX8_part : ByteArray := prog_1_method_14_code
def yX8_part : MethodName := ⟨RX8, "part", "(I)I"⟩
abbrev cX8_of : ByteArray := prog_1_method_15_code
def yX8_of : MethodName := ⟨RX8, "of", "(II)I"⟩
abbrev cX8_melt : ByteArray := prog_1_method_16_code
def yX8_melt : MethodName := ⟨RX8, "melt", "(II)I"⟩
abbrev cX8_like : ByteArray := prog_1_method_17_code
def yX8_like : MethodName := ⟨RX8, "like", "(I)I"⟩
abbrev cX8_strangers : ByteArray := prog_1_method_18_code
def yX8_strangers : MethodName := ⟨RX8, "strangers", "(II)I"⟩
abbrev cX8_flaws : ByteArray := prog_1_method_19_code
def yX8_flaws : MethodName := ⟨RX8, "flaws", "(I)I"⟩
abbrev cX8_flaw : ByteArray := prog_1_method_20_code
def yX8_flaw : MethodName := ⟨RX8, "flaw", "(III)I"⟩
abbrev cX8_age : ByteArray := prog_1_method_21_code
def yX8_age : MethodName := ⟨RX8, "age", "(II)I"⟩
abbrev cX8_struck : ByteArray := prog_1_method_22_code
def yX8_struck : MethodName := ⟨RX8, "struck", "(I)I"⟩
abbrev cX8_count : ByteArray := prog_1_method_23_code
def yX8_count : MethodName := ⟨RX8, "count", "(I)I"⟩
abbrev cX8_isWithin : ByteArray := prog_1_method_24_code
def yX8_isWithin : MethodName := ⟨RX8, "isWithin", "(III)Z"⟩
abbrev cX8_isTool : ByteArray := prog_1_method_25_code
def yX8_isTool : MethodName := ⟨RX8, "isTool", "(I)Z"⟩
abbrev cX8_areStrangers : ByteArray := prog_1_method_26_code
def yX8_areStrangers : MethodName := ⟨RX8, "areStrangers", "(LMarkCabinet$Print;LMarkCabinet$Print;)Z"⟩
abbrev cX8_printAt : ByteArray := prog_1_method_27_code
def yX8_printAt : MethodName := ⟨RX8, "printAt", "(I)LMarkCabinet$Print;"⟩
abbrev cX8_hasYear : ByteArray := prog_1_method_28_code
def yX8_hasYear : MethodName := ⟨RX8, "hasYear", "(II)Z"⟩
abbrev cX8_keptBy : ByteArray := prog_1_method_29_code
def yX8_keptBy : MethodName := ⟨RX8, "keptBy", "(I)I"⟩
abbrev cX8_toolsWithPrints : ByteArray := prog_1_method_30_code
def yX8_toolsWithPrints : MethodName := ⟨RX8, "toolsWithPrints", "()I"⟩
abbrev cX8_newestOf : ByteArray := prog_1_method_31_code
def yX8_newestOf : MethodName := ⟨RX8, "newestOf", "(I)LMarkCabinet$Print;"⟩
abbrev cX8_readHistory : ByteArray := prog_1_method_32_code
def yX8_readHistory : MethodName := ⟨RX8, "readHistory", "(I)Z"⟩
def RX9 : String := "MarkCabinetModel"
def TX9 : u_T := fun k => match k with
  | 0 => ("MarkCabinetModel", "dark", "[Z", true)
  | 1 => ("MarkCabinetModel", "seen", "[Z", true)
  | 2 => ("MarkCabinetModel", "fork", "[Z", true)
  | 3 => ("MarkCabinetModel", "kindAt", "[I", true)
  | 4 => ("MarkCabinetModel", "many", "[I", true)
  | 5 => ("MarkCabinetModel", "x", "[I", true)
  | 6 => ("MarkCabinetModel", "y", "[I", true)
  | 7 => ("MarkCabinetModel", "kind", "[I", true)
  | 8 => ("MarkCabinetModel", "struck", "[I", true)
  | 9 => ("MarkCabinetModel", "tool", "[I", true)
  | 10 => ("MarkCabinetModel", "year", "[I", true)
  | 11 => ("MarkCabinetModel", "prints", "I", false)
  | 12 => ("MarkCabinetModel", "reach", "I", false)
  | 13 => ("MarkCabinetModel", "laidX", "[I", true)
  | 14 => ("MarkCabinetModel", "laidY", "[I", true)
  | 15 => ("MarkCabinetModel", "laidPart", "[I", true)
  | 16 => ("MarkCabinetModel", "may", "[Z", true)
  | 17 => ("MarkCabinetModel", "ofB", "[I", true)
  | 18 => ("MarkCabinetModel", "tried", "[Z", true)
  | 19 => ("MarkCabinetModel", "fixed", "[I", true)
  | 20 => ("MarkCabinetModel", "pairs", "I", false)
  | 21 => ("MarkCabinetModel", "bare", "I", false)
  | 22 => ("MarkCabinetModel", "q", "I", false)
  | 23 => ("MarkCabinetModel", "dx", "I", false)
  | 24 => ("MarkCabinetModel", "dy", "I", false)
  | 25 => ("MarkCabinetModel", "score", "I", false)
  | 26 => ("MarkCabinetModel", "isLaid", "Z", false)
  | 27 => ("MarkCabinetModel", "found", "[I", true)
  | 28 => ("MarkCabinetModel", "told", "[I", true)
  | 29 => ("MarkCabinetModel", "toldPair", "[I", true)
  | 30 => ("MarkCabinetModel", "toldMany", "I", false)
  | 31 => ("MarkCabinetModel", "flawPoint", "[I", true)
  | 32 => ("MarkCabinetModel", "flawYear", "[I", true)
  | 33 => ("MarkCabinetModel", "flaws", "I", false)
  | 34 => ("MarkCabinetModel", "latest", "I", false)
  | 35 => ("MarkCabinetModel", "verdict", "[I", true)
  | 36 => ("MarkCabinetModel", "from", "I", false)
  | _ => ("MarkCabinetModel", "till", "I", false)
def tyX9 : Nat → FieldType := fun k => match k with
  | 0 => .array .boolean
  | 1 => .array .boolean
  | 2 => .array .boolean
  | 3 => .array .int
  | 4 => .array .int
  | 5 => .array .int
  | 6 => .array .int
  | 7 => .array .int
  | 8 => .array .int
  | 9 => .array .int
  | 10 => .array .int
  | 11 => .int
  | 12 => .int
  | 13 => .array .int
  | 14 => .array .int
  | 15 => .array .int
  | 16 => .array .boolean
  | 17 => .array .int
  | 18 => .array .boolean
  | 19 => .array .int
  | 20 => .int
  | 21 => .int
  | 22 => .int
  | 23 => .int
  | 24 => .int
  | 25 => .int
  | 26 => .boolean
  | 27 => .array .int
  | 28 => .array .int
  | 29 => .array .int
  | 30 => .int
  | 31 => .array .int
  | 32 => .array .int
  | 33 => .int
  | 34 => .int
  | 35 => .array .int
  | 36 => .int
  | _ => .int
abbrev wsX90 : List Cond := u_ws RX9 TX9 38
theorem nmX9 : ∀ a, a < 38 → ∀ b, b < 38 → a ≠ b → (TX9 a).2.1 ≠ (TX9 b).2.1 := by decide +kernel
theorem tyX9_ok : ∀ k, k < 38 → parseFieldDescriptor (TX9 k).2.2.1 = some (tyX9 k) := by decide +kernel
abbrev cX9_init : ByteArray := prog_11_method_1_code
def yX9_init : MethodName := ⟨RX9, "<init>", "()V"⟩
abbrev cX9_within : ByteArray := prog_11_method_2_code
def yX9_within : MethodName := ⟨RX9, "within", "(III)Z"⟩
abbrev cX9_isDark : ByteArray := prog_11_method_3_code
def yX9_isDark : MethodName := ⟨RX9, "isDark", "(II)Z"⟩
abbrev cX9_darkMany : ByteArray := prog_11_method_4_code
def yX9_darkMany : MethodName := ⟨RX9, "darkMany", "()I"⟩
abbrev cX9_feed : ByteArray := prog_11_method_5_code
def yX9_feed : MethodName := ⟨RX9, "feed", "(II)I"⟩
abbrev cX9_row : ByteArray := prog_11_method_6_code
def yX9_row : MethodName := ⟨RX9, "row", "(I)I"⟩
abbrev cX9_neighbours : ByteArray := prog_11_method_7_code
def yX9_neighbours : MethodName := ⟨RX9, "neighbours", "(II)I"⟩
abbrev cX9_stepX : ByteArray := prog_11_method_8_code
def yX9_stepX : MethodName := ⟨RX9, "stepX", "(I)I"⟩
abbrev cX9_stepY : ByteArray := prog_11_method_9_code
def yX9_stepY : MethodName := ⟨RX9, "stepY", "(I)I"⟩
abbrev cX9_hangTogether : ByteArray := prog_11_method_10_code
def yX9_hangTogether : MethodName := ⟨RX9, "hangTogether", "(II)Z"⟩
abbrev cX9_thin : ByteArray := prog_11_method_11_code
def yX9_thin : MethodName := ⟨RX9, "thin", "()I"⟩
abbrev cX9_spread : ByteArray := prog_11_method_12_code
def yX9_spread : MethodName := ⟨RX9, "spread", "(IZ)V"⟩
abbrev cX9_besideSeen : ByteArray := prog_11_method_13_code
def yX9_besideSeen : MethodName := ⟨RX9, "besideSeen", "(IZ)Z"⟩
abbrev cX9_pieces : ByteArray := prog_11_method_14_code
def yX9_pieces : MethodName := ⟨RX9, "pieces", "(I)I"⟩
abbrev cX9_findPoints : ByteArray := prog_11_method_15_code
def yX9_findPoints : MethodName := ⟨RX9, "findPoints", "()I"⟩
abbrev cX9_print : ByteArray := prog_11_method_16_code
def yX9_print : MethodName := ⟨RX9, "print", "(I)I"⟩
abbrev cX9_isPrint : ByteArray := prog_11_method_17_code
def yX9_isPrint : MethodName := ⟨RX9, "isPrint", "(I)Z"⟩
abbrev cX9_point : ByteArray := prog_11_method_18_code
def yX9_point : MethodName := ⟨RX9, "point", "(II)I"⟩
abbrev cX9_reach : ByteArray := prog_11_method_19_code
def yX9_reach : MethodName := ⟨RX9, "reach", "(I)I"⟩
abbrev cX9_turnedX : ByteArray := prog_11_method_20_code
def yX9_turnedX : MethodName := ⟨RX9, "turnedX", "(III)I"⟩
abbrev cX9_turnedY : ByteArray := prog_11_method_21_code
def yX9_turnedY : MethodName := ⟨RX9, "turnedY", "(III)I"⟩
abbrev cX9_layOut : ByteArray := prog_11_method_22_code
def yX9_layOut : MethodName := ⟨RX9, "layOut", "(IIIII)V"⟩
abbrev cX9_finds : ByteArray := prog_11_method_23_code
def yX9_finds : MethodName := ⟨RX9, "finds", "(II)Z"⟩
abbrev cX9_mostPairs : ByteArray := prog_11_method_24_code
def yX9_mostPairs : MethodName := ⟨RX9, "mostPairs", "(III)I"⟩
abbrev cX9_liesIn : ByteArray := prog_11_method_25_code
def yX9_liesIn : MethodName := ⟨RX9, "liesIn", "(II[II)Z"⟩
abbrev cX9_scoreOf : ByteArray := prog_11_method_26_code
def yX9_scoreOf : MethodName := ⟨RX9, "scoreOf", "(IIIII)I"⟩
abbrev cX9_findFirst : ByteArray := prog_11_method_27_code
def yX9_findFirst : MethodName := ⟨RX9, "findFirst", "(II)V"⟩
abbrev cX9_matchOf : ByteArray := prog_11_method_28_code
def yX9_matchOf : MethodName := ⟨RX9, "matchOf", "(II)I"⟩
abbrev cX9_offer : ByteArray := prog_11_method_29_code
def yX9_offer : MethodName := ⟨RX9, "offer", "(IIIII)V"⟩
abbrev cX9_tell : ByteArray := prog_11_method_30_code
def yX9_tell : MethodName := ⟨RX9, "tell", "(I)V"⟩
abbrev cX9_lay : ByteArray := prog_11_method_31_code
def yX9_lay : MethodName := ⟨RX9, "lay", "(IIIII)I"⟩
abbrev cX9_match : ByteArray := prog_11_method_32_code
def yX9_match : MethodName := ⟨RX9, "match", "(II)I"⟩
abbrev cX9_told : ByteArray := prog_11_method_33_code
def yX9_told : MethodName := ⟨RX9, "told", "(I)I"⟩
abbrev cX9_pair : ByteArray := prog_11_method_34_code
def yX9_pair : MethodName := ⟨RX9, "pair", "(I)I"⟩
abbrev cX9_isTool : ByteArray := prog_11_method_35_code
def yX9_isTool : MethodName := ⟨RX9, "isTool", "(I)Z"⟩
abbrev cX9_keptBy : ByteArray := prog_11_method_36_code
def yX9_keptBy : MethodName := ⟨RX9, "keptBy", "(I)I"⟩
abbrev cX9_printOf : ByteArray := prog_11_method_37_code
def yX9_printOf : MethodName := ⟨RX9, "printOf", "(II)I"⟩
abbrev cX9_keep : ByteArray := prog_11_method_38_code
def yX9_keep : MethodName := ⟨RX9, "keep", "(III)I"⟩
abbrev cX9_part : ByteArray := prog_11_method_39_code
def yX9_part : MethodName := ⟨RX9, "part", "(I)I"⟩
abbrev cX9_of : ByteArray := prog_11_method_40_code
def yX9_of : MethodName := ⟨RX9, "of", "(II)I"⟩
abbrev cX9_melt : ByteArray := prog_11_method_41_code
def yX9_melt : MethodName := ⟨RX9, "melt", "(II)I"⟩
abbrev cX9_like : ByteArray := prog_11_method_42_code
def yX9_like : MethodName := ⟨RX9, "like", "(I)I"⟩
abbrev cX9_strangers : ByteArray := prog_11_method_43_code
def yX9_strangers : MethodName := ⟨RX9, "strangers", "(II)I"⟩
abbrev cX9_ask : ByteArray := prog_11_method_44_code
def yX9_ask : MethodName := ⟨RX9, "ask", "(I)V"⟩
abbrev cX9_findFlaws : ByteArray := prog_11_method_45_code
def yX9_findFlaws : MethodName := ⟨RX9, "findFlaws", "(I)V"⟩
abbrev cX9_flaws : ByteArray := prog_11_method_46_code
def yX9_flaws : MethodName := ⟨RX9, "flaws", "(I)I"⟩
abbrev cX9_flaw : ByteArray := prog_11_method_47_code
def yX9_flaw : MethodName := ⟨RX9, "flaw", "(III)I"⟩
abbrev cX9_age : ByteArray := prog_11_method_48_code
def yX9_age : MethodName := ⟨RX9, "age", "(II)I"⟩
abbrev cX9_struck : ByteArray := prog_11_method_49_code
def yX9_struck : MethodName := ⟨RX9, "struck", "(I)I"⟩
abbrev cX9_count : ByteArray := prog_11_method_50_code
def yX9_count : MethodName := ⟨RX9, "count", "(I)I"⟩
def RJ6 : String := "java/lang/Integer"
abbrev cJ6_bitCount_0f7a4 : ByteArray := prog_13_method_49_code
def yJ6_bitCount_0f7a4 : MethodName := ⟨RJ6, "bitCount", "(I)I"⟩
def RJ9 : String := "java/lang/Math"
abbrev cJ9_max_7cf53 : ByteArray := prog_14_method_65_code
def yJ9_max_7cf53 : MethodName := ⟨RJ9, "max", "(II)I"⟩
abbrev cJ9_min_7cf53 : ByteArray := prog_14_method_69_code
def yJ9_min_7cf53 : MethodName := ⟨RJ9, "min", "(II)I"⟩
def RJ10 : String := "java/lang/System"
def RJ7 : String := "java/util/Arrays"
abbrev cJ7_fill_53178 : ByteArray := prog_16_method_103_code
def yJ7_fill_53178 : MethodName := ⟨RJ7, "fill", "([II)V"⟩
abbrev cJ7_copyOf_59c91 : ByteArray := prog_16_method_123_code
def yJ7_copyOf_59c91 : MethodName := ⟨RJ7, "copyOf", "([II)[I"⟩
def RL : String := "MarkCabinetLaw"
end
section
/-! ===== A LIGHTER MACHINE: cells by their number, the numbers of a cell by their places; a row an instruction ===== -/
abbrev zc_S : Type := Nat × Nat × (Nat → Option Nat)
abbrev zc_N : Type := Nat → Nat → Int32
abbrev zc_H : Type := Nat × (Nat → zc_S) × zc_N
abbrev zc_G : Type := Heap × va_G × (Nat → ClassId) × (Nat → Nat) × (Nat → Nat × (Nat → Int32))
abbrev zc_M : Type := MethodName × ByteArray × Nat × Option FieldType
abbrev zc_cl : List vw_C := [(RX0, TX0, 3), (RX1, TX1, 3), (RX2, TX2, 6), (RX3, TX3, 10), (RX4, TX4, 10), (RX5, TX5, 4), (RX6, TX6, 4), (RX7, TX7, 5), (RX8, TX8, 12), (RX9, TX9, 38)]
def zc_ty (ci : Nat) : Nat → FieldType := match ci with
  | 0 => tyX0
  | 1 => tyX1
  | 2 => tyX2
  | 3 => tyX3
  | 4 => tyX4
  | 5 => tyX5
  | 6 => tyX6
  | 7 => tyX7
  | 8 => tyX8
  | _ => tyX9
def zc_tb : List Cond := lw_tbl.filter goodWord
theorem zc_mem {w : Cond} (h : w ∈ lw_tbl) (g : goodWord w = true) : w ∈ zc_tb := List.mem_filter.mpr ⟨h, g⟩
theorem zc_good : GoodIn zc_tb zc_tb := fun w h => ⟨h, good_of_word (List.mem_filter.mp h).2⟩
def zc_nest : List Cond := lw_tbl.filter (fun w => match w with | .methodLinkNest _ _ _ _ => true | _ => false)
def zc_isr : FieldType → Bool
  | .object _ => true
  | .array _ => true
  | _ => false
def zc_ad (G : zc_G) (k : Nat) : Nat := if k < 3 then G.2.2.2.1 k else G.1.size + (k - 3)
def zc_cv (G : zc_G) : Value → Value
  | .ref k => .ref (zc_ad G k)
  | v => v
def zc_rf (G : zc_G) (r : Option Nat) : Option Nat := r.map (zc_ad G)
theorem zc_cv_rf (G : zc_G) (r : Option Nat) : zc_cv G (va_rf r) = va_rf (zc_rf G r) := by cases r <;> rfl
theorem zc_cv_cat (G : zc_G) (v : Value) : (zc_cv G v).category = v.category := by cases v <;> rfl
theorem zc_cats (G : zc_G) (vs : List Value) : ((vs.map (zc_cv G)).map fun v => v.category).sum = (vs.map fun v => v.category).sum := by
  induction vs with
  | nil => rfl
  | cons v t ih => simp only [List.map_cons, List.sum_cons, zc_cv_cat, ih]
theorem zc_ad_ge (G : zc_G) {k : Nat} (h : 3 ≤ k) : zc_ad G k = G.1.size + (k - 3) := by
  unfold zc_ad
  rw [if_neg (by omega)]
theorem zc_ad_inj (G : zc_G) {j k : Nat} (hj : 3 ≤ j) (hk : 3 ≤ k) (h : zc_ad G j = zc_ad G k) : j = k := by
  rw [zc_ad_ge G hj, zc_ad_ge G hk] at h
  omega
/-- what a place of an object holds -/
def zc_V (G : zc_G) (ci : Nat) (rf : Nat → Option Nat) (f : Nat → Int32) (j : Nat) : Value := if zc_isr (zc_ty ci j) then va_rf (zc_rf G (rf j)) else .int (f j)
def zc_cell (G : zc_G) (k : Nat) (c : zc_S) (f : Nat → Int32) (H : Heap) : Prop := match c.1 with
  | 0 => H[zc_ad G k]? = some (arrV (G.2.2.1 0) c.2.1 (fun j => .int (f j)))
  | 1 => H[zc_ad G k]? = some (arrV (G.2.2.1 1) c.2.1 (fun j => .int (f j)))
  | 2 => H[zc_ad G k]? = some (arrV (G.2.2.1 2) c.2.1 (fun j => va_rf (zc_rf G (c.2.2 j))))
  | ci + 3 => ∃ r : vw_C, zc_cl[ci]? = some r ∧ t_OB (zc_ad G k) (G.2.1.1 ci) r.2.2 (G.2.1.2 ci) H (zc_V G ci c.2.2 f)
theorem zc_cell.kept {G : zc_G} {k : Nat} {c : zc_S} {f : Nat → Int32} {H H1 : Heap} (h : zc_cell G k c f H) (hq : H1[zc_ad G k]? = H[zc_ad G k]?) : zc_cell G k c f H1 := by
  obtain ⟨kd, n, rf⟩ := c
  match kd, h with
  | 0, h => exact hq.trans h
  | 1, h => exact hq.trans h
  | 2, h => exact hq.trans h
  | ci + 3, h =>
    obtain ⟨r, h1, h2⟩ := h
    exact ⟨r, h1, h2.kept hq⟩
def zc_R (G : zc_G) (h : zc_H) (H : Heap) : Prop := 3 ≤ h.1 ∧ H.size + 3 = G.1.size + h.1 ∧ (∀ q : Nat, q < G.1.size → H[q]? = G.1[q]?) ∧ (∀ k : Nat, 3 ≤ k → k < h.1 → zc_cell G k (h.2.1 k) (h.2.2 k) H) ∧ ∀ k : Nat, k < 3 → (h.2.1 k).1 = 0 ∧ (h.2.1 k).2.1 = (G.2.2.2.2 k).1 ∧ h.2.2 k = (G.2.2.2.2 k).2
def zc_ro (G : zc_G) (U : State) (k : Nat) : Prop := ∃ cell : Cell, G.1[G.2.2.2.1 k]? = some cell ∧ U.isArrayOf cell .int ∧ cell.vm ≠ .unknown ∧ (G.2.2.2.2 k).1 ≤ cell.slots.size ∧ cell.slots.size.toInt32 = Int32.ofNat (G.2.2.2.2 k).1 ∧ ∀ j : Nat, j < (G.2.2.2.2 k).1 → cell.slots[j]? = some (.int ((G.2.2.2.2 k).2 j))
def zc_A (G : zc_G) : Nat → Prop := fun q => G.1.size ≤ q
def zc_K (G : zc_G) (U : State) : Prop := va_K G.2.1 zc_cl [(G.2.2.1 0, .int), (G.2.2.1 1, .boolean), (G.2.2.1 2, .object RX7)] U ∧ (∀ k : Nat, k < 3 → zc_ro G U k) ∧ va_Z RX1 "WAY_X" "[I" (.ref (G.2.2.2.1 1)) (zc_A G) U G.1 ∧ va_Z RX1 "WAY_Y" "[I" (.ref (G.2.2.2.1 2)) (zc_A G) U G.1 ∧ ∀ w ∈ zc_nest, va_Nw w U
theorem zc_ro.moved {G : zc_G} {u U : State} {k : Nat} (hvm : u.vm.Alike U.vm) (h : zc_ro G u k) : zc_ro G U k := by
  obtain ⟨cell, h1, h2, h3⟩ := h
  exact ⟨cell, h1, State.isArrayOf_alike hvm h2, h3⟩
theorem zc_nest_warm {w : Cond} (hw : w ∈ zc_nest) {s U : State} (hW : s.WarmedH U.vm) (h : va_Nw w s) : va_Nw w U := by
  have h1 := (List.mem_filter.mp hw).2
  cases w <;> first | (exact va_Nw.warmM hW h) | (exact absurd h1 Bool.false_ne_true)
theorem zc_nest_tab {w : Cond} (hw : w ∈ zc_nest) : w.onTables = true := by
  have h1 := (List.mem_filter.mp hw).2
  cases w <;> first | rfl | (exact absurd h1 Bool.false_ne_true)
theorem zc_K.warm {G : zc_G} {s U : State} (hW : s.WarmedH U.vm) (h : zc_K G s) : zc_K G U := ⟨va_K.moved hW.alike h.1, fun k hk => (h.2.1 k hk).moved hW.alike, va_Z.moved hW.alike h.2.2.1, va_Z.moved hW.alike h.2.2.2.1, fun w hw => zc_nest_warm hw hW (h.2.2.2.2 w hw)⟩
theorem zc_K.same {G : zc_G} {s U : State} (hv : s.vm = U.vm) (h : zc_K G s) : zc_K G U := by
  have ha : s.vm.Alike U.vm := by rw [hv]; exact Vm.Alike.refl U.vm
  exact ⟨va_K.moved ha h.1, fun k hk => (h.2.1 k hk).moved ha, va_Z.moved ha h.2.2.1, va_Z.moved ha h.2.2.2.1, fun w hw => va_Nw.same (zc_nest_tab hw) hv (h.2.2.2.2 w hw)⟩
/-- locals by their places -/
def zl (G : zc_G) (ls : Array Slot) (nL : Nat) (lv : List (Option Value)) : Prop := ∃ as : List (Nat × Value), lv_has ls nL as ∧ ∀ (i : Nat) (v : Value), lv[i]? = some (some v) → (i, zc_cv G v) ∈ as ∧ v.category = 1
theorem zl_at {G : zc_G} {ls : Array Slot} {nL : Nat} {lv : List (Option Value)} (h : zl G ls nL lv) {i : Nat} {v : Value} (hi : lv[i]? = some (some v)) : ls[i]? = some (.val (zc_cv G v)) := by
  obtain ⟨as, h1, h2⟩ := h
  exact h1.2.2 _ (h2 i v hi).1
theorem zl_put {G : zc_G} {ls' : Array Slot} {nL : Nat} {lv : List (Option Value)} {as : List (Nat × Value)} (hm : ∀ (i : Nat) (v : Value), lv[i]? = some (some v) → (i, zc_cv G v) ∈ as ∧ v.category = 1) {i : Nat} {v : Value} (hv : v.category = 1)
    (h' : lv_has ls' nL ((i, zc_cv G v) :: as.filter (fun q => !(q.1 == i) && !(q.1 + 1 == i && q.2.category == 2)))) : zl G ls' nL (lv.set i (some v)) := by
  refine ⟨_, h', fun j w hj => ?_⟩
  by_cases hji : j = i
  · subst hji
    have hlt : j < lv.length := by
      have := (List.getElem?_eq_some_iff.mp hj).1
      simpa using this
    rw [List.getElem?_set_self hlt] at hj
    cases hj
    exact ⟨List.mem_cons_self, hv⟩
  · rw [List.getElem?_set_ne (Ne.symm hji)] at hj
    obtain ⟨g1, g2⟩ := hm j w hj
    refine ⟨List.mem_cons_of_mem _ (List.mem_filter.mpr ⟨g1, ?_⟩), g2⟩
    simp [hji, zc_cv_cat, g2]
theorem zl_size {G : zc_G} {ls : Array Slot} {nL : Nat} {lv : List (Option Value)} (h : zl G ls nL lv) : ls.size = nL := by
  obtain ⟨as, h1, -⟩ := h
  exact h1.1
/-- the return instruction that belongs to an answer -/
def zc_rt (mi : zc_M) (pc : Nat) (r : Option Value) : Prop := match r with
  | none => decode mi.2.1 pc = .ok (.return_, 1) ∧ mi.2.2.2 = none
  | some (.int v) => decode mi.2.1 pc = .ok (.ireturn, 1) ∧ ∃ ty, mi.2.2.2 = some ty ∧ narrow ty (.int v) = .int v
  | some v => decode mi.2.1 pc = .ok (.areturn, 1) ∧ (∃ ty, mi.2.2.2 = some ty ∧ ((∃ n, ty = .object n) ∨ ∃ t, ty = .array t)) ∧ (v = .null ∨ ∃ a, v = .ref a)
/-- a method on its way: the machine, the code, the words, the room, the cells' classes, what its ends must meet -/
def zc_C (G : zc_G) (mi : zc_M) (d mc ms : Nat) (Q : Option Value → zc_H → Prop) (p : Program) (l : Launch) (e : Env) (R : Room) (s : State) (m : MethodId) (args : Array Value) (below : List Frame) (meth : Method) (c : Code) (Qw : State → Prop) : Prop :=
  (p.tables.exec = Jvm.exec ∧ c.code = mi.2.1 ∧ c.maxLocals = mi.2.2.1 ∧ s.vm.findClass mi.1.cls = some m.cls ∧ meth.name = mi.1.name) ∧ (∀ w ∈ zc_tb, w.before args s = true) ∧ (d ≤ R.frames ∧ 64 * d ≤ R.locals ∧ mc ≤ R.cells ∧ ms ≤ R.slots) ∧ zc_K G s ∧ G.1.size ≤ s.heap.size ∧
  ∀ (r : Option Value) (h : zc_H) (H : Heap) (locs : List Loc) (pc : Nat) (ls : Array Slot), Q r h → zc_R G h H → va_S (zc_A G) s.heap H locs → zc_rt mi pc r → W p l e R s m args below meth c H locs mc ms Qw (F0 m pc ls (r.toList.map (zc_cv G)))
def zz (G : zc_G) (mi : zc_M) (d mc ms : Nat) (Q : Option Value → zc_H → Prop) (pc : Nat) (lv : List (Option Value)) (st : List Value) (h : zc_H) (k n : Nat) : Prop :=
  ∀ (p : Program) (l : Launch) (e : Env) (R : Room) (s : State) (m : MethodId) (args : Array Value) (below : List Frame) (meth : Method) (c : Code) (Qw : State → Prop), zc_C G mi d mc ms Q p l e R s m args below meth c Qw →
  ∀ (H : Heap) (locs : List Loc) (ls : Array Slot), zc_R G h H → va_S (zc_A G) s.heap H locs → zl G ls mi.2.2.1 lv → W p l e R s m args below meth c H locs k n Qw (F0 m pc ls (st.map (zc_cv G)))
section ZROWS
variable {G : zc_G} {mi : zc_M} {d mc ms : Nat} {Q : Option Value → zc_H → Prop} {pc : Nat} {lv : List (Option Value)} {st : List Value} {h : zc_H} {ka na : Nat}
theorem z_iconst {n : Int} {v : Int32} (hd : decode mi.2.1 pc = .ok (.iconst n, 1)) (hv : Int32.ofInt n = v) (k : zz G mi d mc ms Q (pc + 1) lv (.int v :: st) h ka na) : zz G mi d mc ms Q pc lv st h ka na :=
  fun p l e R s m args below meth c Qw C H locs ls hR hS hl => lv_iconst C.1.1 C.1.2.1 hd hv (k p l e R s m args below meth c Qw C H locs ls hR hS hl)
theorem z_bipush {n : Int} {v : Int32} (hd : decode mi.2.1 pc = .ok (.bipush n, 2)) (hv : (Int8.ofInt n).toInt32 = v) (k : zz G mi d mc ms Q (pc + 2) lv (.int v :: st) h ka na) : zz G mi d mc ms Q pc lv st h ka na :=
  fun p l e R s m args below meth c Qw C H locs ls hR hS hl => lv_bipush C.1.1 C.1.2.1 hd hv (k p l e R s m args below meth c Qw C H locs ls hR hS hl)
theorem z_sipush {n : Int} {v : Int32} (hd : decode mi.2.1 pc = .ok (.sipush n, 3)) (hv : (Int16.ofInt n).toInt32 = v) (k : zz G mi d mc ms Q (pc + 3) lv (.int v :: st) h ka na) : zz G mi d mc ms Q pc lv st h ka na :=
  fun p l e R s m args below meth c Qw C H locs ls hR hS hl => lv_sipush C.1.1 C.1.2.1 hd hv (k p l e R s m args below meth c Qw C H locs ls hR hS hl)
theorem z_ldc {i : Nat} {v : Int32} (hd : decode mi.2.1 pc = .ok (.ldc i, 2)) (hw : Cond.constant mi.1.cls i v ∈ zc_tb) (k : zz G mi d mc ms Q (pc + 2) lv (.int v :: st) h ka na) : zz G mi d mc ms Q pc lv st h ka na :=
  fun p l e R s m args below meth c Qw C H locs ls hR hS hl => lv_ldc C.1.1 C.1.2.1 C.1.2.2.2.1 (C.2.1 _ hw) hd (k p l e R s m args below meth c Qw C H locs ls hR hS hl)
theorem z_ldcw {i : Nat} {v : Int32} (hd : decode mi.2.1 pc = .ok (.ldc_w i, 3)) (hw : Cond.constant mi.1.cls i v ∈ zc_tb) (k : zz G mi d mc ms Q (pc + 3) lv (.int v :: st) h ka na) : zz G mi d mc ms Q pc lv st h ka na :=
  fun p l e R s m args below meth c Qw C H locs ls hR hS hl => lv_ldcw C.1.1 C.1.2.1 C.1.2.2.2.1 (C.2.1 _ hw) hd (k p l e R s m args below meth c Qw C H locs ls hR hS hl)
theorem z_null (hd : decode mi.2.1 pc = .ok (.aconst_null, 1)) (k : zz G mi d mc ms Q (pc + 1) lv (.null :: st) h ka na) : zz G mi d mc ms Q pc lv st h ka na :=
  fun p l e R s m args below meth c Qw C H locs ls hR hS hl => lv_null C.1.1 C.1.2.1 hd (k p l e R s m args below meth c Qw C H locs ls hR hS hl)
theorem z_iload_n {i : Fin 4} {x : Int32} (hd : decode mi.2.1 pc = .ok (.iload_n i, 1)) (hi : lv[(i : Nat)]? = some (some (.int x))) (k : zz G mi d mc ms Q (pc + 1) lv (.int x :: st) h ka na) : zz G mi d mc ms Q pc lv st h ka na :=
  fun p l e R s m args below meth c Qw C H locs ls hR hS hl => lv_iload_n C.1.1 C.1.2.1 hd rfl (zl_at hl hi) (k p l e R s m args below meth c Qw C H locs ls hR hS hl)
theorem z_iload {i : Nat} {x : Int32} (hd : decode mi.2.1 pc = .ok (.iload i, 2)) (hi : lv[i]? = some (some (.int x))) (k : zz G mi d mc ms Q (pc + 2) lv (.int x :: st) h ka na) : zz G mi d mc ms Q pc lv st h ka na :=
  fun p l e R s m args below meth c Qw C H locs ls hR hS hl => lv_iload C.1.1 C.1.2.1 hd (zl_at hl hi) (k p l e R s m args below meth c Qw C H locs ls hR hS hl)
theorem z_aload_n {i : Fin 4} {r : Option Nat} (hd : decode mi.2.1 pc = .ok (.aload_n i, 1)) (hi : lv[(i : Nat)]? = some (some (va_rf r))) (k : zz G mi d mc ms Q (pc + 1) lv (va_rf r :: st) h ka na) : zz G mi d mc ms Q pc lv st h ka na :=
  fun p l e R s m args below meth c Qw C H locs ls hR hS hl => by
    have k2 := k p l e R s m args below meth c Qw C H locs ls hR hS hl
    have h2 := zl_at hl hi
    cases r with
    | none => exact lv_aload_nN C.1.1 C.1.2.1 hd rfl h2 k2
    | some a => exact lv_aload_n C.1.1 C.1.2.1 hd rfl h2 k2
theorem z_aload {i : Nat} {r : Option Nat} (hd : decode mi.2.1 pc = .ok (.aload i, 2)) (hi : lv[i]? = some (some (va_rf r))) (k : zz G mi d mc ms Q (pc + 2) lv (va_rf r :: st) h ka na) : zz G mi d mc ms Q pc lv st h ka na :=
  fun p l e R s m args below meth c Qw C H locs ls hR hS hl => by
    have k2 := k p l e R s m args below meth c Qw C H locs ls hR hS hl
    have h2 := zl_at hl hi
    cases r with
    | none => exact lv_aloadN C.1.1 C.1.2.1 hd h2 k2
    | some a => exact lv_aload C.1.1 C.1.2.1 hd h2 k2
theorem z_istore_n {i : Fin 4} {x : Int32} {lv' : List (Option Value)} (hd : decode mi.2.1 pc = .ok (.istore_n i, 1)) (hn : (i : Nat) < mi.2.2.1) (hl' : lv.set i (some (.int x)) = lv') (k : zz G mi d mc ms Q (pc + 1) lv' st h ka na) : zz G mi d mc ms Q pc lv (.int x :: st) h ka na :=
  fun p l e R s m args below meth c Qw C H locs ls hR hS ⟨as, ha, hm⟩ => lv_istore_n C.1.1 C.1.2.1 hd rfl ha hn rfl (fun ls' h' => k p l e R s m args below meth c Qw C H locs ls' hR hS (hl' ▸ zl_put (v := .int x) hm rfl h'))
theorem z_istore {i : Nat} {x : Int32} {lv' : List (Option Value)} (hd : decode mi.2.1 pc = .ok (.istore i, 2)) (hn : i < mi.2.2.1) (hl' : lv.set i (some (.int x)) = lv') (k : zz G mi d mc ms Q (pc + 2) lv' st h ka na) : zz G mi d mc ms Q pc lv (.int x :: st) h ka na :=
  fun p l e R s m args below meth c Qw C H locs ls hR hS ⟨as, ha, hm⟩ => lv_istore C.1.1 C.1.2.1 hd ha hn rfl (fun ls' h' => k p l e R s m args below meth c Qw C H locs ls' hR hS (hl' ▸ zl_put (v := .int x) hm rfl h'))
theorem z_astore_n {i : Fin 4} {r : Option Nat} {lv' : List (Option Value)} (hd : decode mi.2.1 pc = .ok (.astore_n i, 1)) (hn : (i : Nat) < mi.2.2.1) (hl' : lv.set i (some (va_rf r)) = lv') (k : zz G mi d mc ms Q (pc + 1) lv' st h ka na) : zz G mi d mc ms Q pc lv (va_rf r :: st) h ka na :=
  fun p l e R s m args below meth c Qw C H locs ls hR hS ⟨as, ha, hm⟩ => by
    cases r with
    | none => exact lv_astore_nN C.1.1 C.1.2.1 hd rfl ha hn rfl (fun ls' h' => k p l e R s m args below meth c Qw C H locs ls' hR hS (hl' ▸ zl_put (v := .null) hm rfl h'))
    | some a => exact lv_astore_n C.1.1 C.1.2.1 hd rfl ha hn rfl (fun ls' h' => k p l e R s m args below meth c Qw C H locs ls' hR hS (hl' ▸ zl_put (v := .ref a) hm rfl h'))
theorem z_astore {i : Nat} {r : Option Nat} {lv' : List (Option Value)} (hd : decode mi.2.1 pc = .ok (.astore i, 2)) (hn : i < mi.2.2.1) (hl' : lv.set i (some (va_rf r)) = lv') (k : zz G mi d mc ms Q (pc + 2) lv' st h ka na) : zz G mi d mc ms Q pc lv (va_rf r :: st) h ka na :=
  fun p l e R s m args below meth c Qw C H locs ls hR hS ⟨as, ha, hm⟩ => by
    cases r with
    | none => exact lv_astoreN C.1.1 C.1.2.1 hd ha hn rfl (fun ls' h' => k p l e R s m args below meth c Qw C H locs ls' hR hS (hl' ▸ zl_put (v := .null) hm rfl h'))
    | some a => exact lv_astore C.1.1 C.1.2.1 hd ha hn rfl (fun ls' h' => k p l e R s m args below meth c Qw C H locs ls' hR hS (hl' ▸ zl_put (v := .ref a) hm rfl h'))
theorem z_iinc {i : Nat} {n : Int} {x v : Int32} {lv' : List (Option Value)} (hd : decode mi.2.1 pc = .ok (.iinc i n, 3)) (hn : i < mi.2.2.1) (hi : lv[i]? = some (some (.int x))) (hv : x + Int32.ofInt n = v) (hl' : lv.set i (some (.int v)) = lv') (k : zz G mi d mc ms Q (pc + 3) lv' st h ka na) : zz G mi d mc ms Q pc lv st h ka na :=
  fun p l e R s m args below meth c Qw C H locs ls hR hS ⟨as, ha, hm⟩ => by
    obtain ⟨kk, hkk⟩ := List.getElem?_of_mem (hm i _ hi).1
    exact lv_iinc C.1.1 C.1.2.1 hd ha hkk hv hn rfl (fun ls' h' => k p l e R s m args below meth c Qw C H locs ls' hR hS (hl' ▸ zl_put (v := .int v) hm rfl h'))
theorem z_iadd {x y v : Int32} (hd : decode mi.2.1 pc = .ok (.iadd, 1)) (hv : x + y = v) (k : zz G mi d mc ms Q (pc + 1) lv (.int v :: st) h ka na) : zz G mi d mc ms Q pc lv (.int y :: .int x :: st) h ka na :=
  fun p l e R s m args below meth c Qw C H locs ls hR hS hl => lv_iadd C.1.1 C.1.2.1 hd (by rw [hv]; exact k p l e R s m args below meth c Qw C H locs ls hR hS hl)
theorem z_isub {x y v : Int32} (hd : decode mi.2.1 pc = .ok (.isub, 1)) (hv : x - y = v) (k : zz G mi d mc ms Q (pc + 1) lv (.int v :: st) h ka na) : zz G mi d mc ms Q pc lv (.int y :: .int x :: st) h ka na :=
  fun p l e R s m args below meth c Qw C H locs ls hR hS hl => lv_isub C.1.1 C.1.2.1 hd (by rw [hv]; exact k p l e R s m args below meth c Qw C H locs ls hR hS hl)
theorem z_imul {x y v : Int32} (hd : decode mi.2.1 pc = .ok (.imul, 1)) (hv : x * y = v) (k : zz G mi d mc ms Q (pc + 1) lv (.int v :: st) h ka na) : zz G mi d mc ms Q pc lv (.int y :: .int x :: st) h ka na :=
  fun p l e R s m args below meth c Qw C H locs ls hR hS hl => lv_imul C.1.1 C.1.2.1 hd (by rw [hv]; exact k p l e R s m args below meth c Qw C H locs ls hR hS hl)
theorem z_iand {x y v : Int32} (hd : decode mi.2.1 pc = .ok (.iand, 1)) (hv : x &&& y = v) (k : zz G mi d mc ms Q (pc + 1) lv (.int v :: st) h ka na) : zz G mi d mc ms Q pc lv (.int y :: .int x :: st) h ka na :=
  fun p l e R s m args below meth c Qw C H locs ls hR hS hl => lv_iand C.1.1 C.1.2.1 hd (by rw [hv]; exact k p l e R s m args below meth c Qw C H locs ls hR hS hl)
theorem z_ior {x y v : Int32} (hd : decode mi.2.1 pc = .ok (.ior, 1)) (hv : x ||| y = v) (k : zz G mi d mc ms Q (pc + 1) lv (.int v :: st) h ka na) : zz G mi d mc ms Q pc lv (.int y :: .int x :: st) h ka na :=
  fun p l e R s m args below meth c Qw C H locs ls hR hS hl => lv_ior C.1.1 C.1.2.1 hd (by rw [hv]; exact k p l e R s m args below meth c Qw C H locs ls hR hS hl)
theorem z_ixor {x y v : Int32} (hd : decode mi.2.1 pc = .ok (.ixor, 1)) (hv : x ^^^ y = v) (k : zz G mi d mc ms Q (pc + 1) lv (.int v :: st) h ka na) : zz G mi d mc ms Q pc lv (.int y :: .int x :: st) h ka na :=
  fun p l e R s m args below meth c Qw C H locs ls hR hS hl => lv_ixor C.1.1 C.1.2.1 hd (by rw [hv]; exact k p l e R s m args below meth c Qw C H locs ls hR hS hl)
theorem z_ishl {x y v : Int32} (hd : decode mi.2.1 pc = .ok (.ishl, 1)) (hv : x <<< (y &&& 31) = v) (k : zz G mi d mc ms Q (pc + 1) lv (.int v :: st) h ka na) : zz G mi d mc ms Q pc lv (.int y :: .int x :: st) h ka na :=
  fun p l e R s m args below meth c Qw C H locs ls hR hS hl => lv_ishl C.1.1 C.1.2.1 hd (by rw [hv]; exact k p l e R s m args below meth c Qw C H locs ls hR hS hl)
theorem z_ishr {x y v : Int32} (hd : decode mi.2.1 pc = .ok (.ishr, 1)) (hv : x >>> (y &&& 31) = v) (k : zz G mi d mc ms Q (pc + 1) lv (.int v :: st) h ka na) : zz G mi d mc ms Q pc lv (.int y :: .int x :: st) h ka na :=
  fun p l e R s m args below meth c Qw C H locs ls hR hS hl => lv_ishr C.1.1 C.1.2.1 hd (by rw [hv]; exact k p l e R s m args below meth c Qw C H locs ls hR hS hl)
theorem z_iushr {x y v : Int32} (hd : decode mi.2.1 pc = .ok (.iushr, 1)) (hv : (x.toUInt32 >>> (y.toUInt32 &&& Int32.toUInt32 31)).toInt32 = v) (k : zz G mi d mc ms Q (pc + 1) lv (.int v :: st) h ka na) : zz G mi d mc ms Q pc lv (.int y :: .int x :: st) h ka na :=
  fun p l e R s m args below meth c Qw C H locs ls hR hS hl => lv_iushr C.1.1 C.1.2.1 hd hv (k p l e R s m args below meth c Qw C H locs ls hR hS hl)
theorem z_ineg {x v : Int32} (hd : decode mi.2.1 pc = .ok (.ineg, 1)) (hv : -x = v) (k : zz G mi d mc ms Q (pc + 1) lv (.int v :: st) h ka na) : zz G mi d mc ms Q pc lv (.int x :: st) h ka na :=
  fun p l e R s m args below meth c Qw C H locs ls hR hS hl => lv_ineg C.1.1 C.1.2.1 hd (by rw [hv]; exact k p l e R s m args below meth c Qw C H locs ls hR hS hl)
theorem z_idiv {x y v : Int32} (hd : decode mi.2.1 pc = .ok (.idiv, 1)) (hy : ¬ y = 0) (hv : x / y = v) (k : zz G mi d mc ms Q (pc + 1) lv (.int v :: st) h ka na) : zz G mi d mc ms Q pc lv (.int y :: .int x :: st) h ka na :=
  fun p l e R s m args below meth c Qw C H locs ls hR hS hl => lv_idiv C.1.1 C.1.2.1 hd hy (by rw [hv]; exact k p l e R s m args below meth c Qw C H locs ls hR hS hl)
theorem z_irem {x y v : Int32} (hd : decode mi.2.1 pc = .ok (.irem, 1)) (hy : ¬ y = 0) (hv : x - x / y * y = v) (k : zz G mi d mc ms Q (pc + 1) lv (.int v :: st) h ka na) : zz G mi d mc ms Q pc lv (.int y :: .int x :: st) h ka na :=
  fun p l e R s m args below meth c Qw C H locs ls hR hS hl => lv_irem C.1.1 C.1.2.1 hd hy (by rw [hv]; exact k p l e R s m args below meth c Qw C H locs ls hR hS hl)
theorem z_dup {v : Value} (hd : decode mi.2.1 pc = .ok (.dup, 1)) (hv : v.category = 1) (k : zz G mi d mc ms Q (pc + 1) lv (v :: v :: st) h ka na) : zz G mi d mc ms Q pc lv (v :: st) h ka na :=
  fun p l e R s m args below meth c Qw C H locs ls hR hS hl => lv_dup C.1.1 C.1.2.1 hd ((zc_cv_cat G v).trans hv) (k p l e R s m args below meth c Qw C H locs ls hR hS hl)
theorem z_dup2 {v w : Value} (hd : decode mi.2.1 pc = .ok (.dup2, 1)) (hv : v.category = 1) (hw : w.category = 1) (k : zz G mi d mc ms Q (pc + 1) lv (v :: w :: v :: w :: st) h ka na) : zz G mi d mc ms Q pc lv (v :: w :: st) h ka na :=
  fun p l e R s m args below meth c Qw C H locs ls hR hS hl => lv_dup2_11 C.1.1 C.1.2.1 hd ((zc_cv_cat G v).trans hv) ((zc_cv_cat G w).trans hw) (k p l e R s m args below meth c Qw C H locs ls hR hS hl)
theorem z_dup_x1 {v w : Value} (hd : decode mi.2.1 pc = .ok (.dup_x1, 1)) (hv : v.category = 1) (hw : w.category = 1) (k : zz G mi d mc ms Q (pc + 1) lv (v :: w :: v :: st) h ka na) : zz G mi d mc ms Q pc lv (v :: w :: st) h ka na :=
  fun p l e R s m args below meth c Qw C H locs ls hR hS hl => lv_dup_x1 C.1.1 C.1.2.1 hd ((zc_cv_cat G v).trans hv) ((zc_cv_cat G w).trans hw) (k p l e R s m args below meth c Qw C H locs ls hR hS hl)
theorem z_pop {v : Value} (hd : decode mi.2.1 pc = .ok (.pop, 1)) (hv : v.category = 1) (k : zz G mi d mc ms Q (pc + 1) lv st h ka na) : zz G mi d mc ms Q pc lv (v :: st) h ka na :=
  fun p l e R s m args below meth c Qw C H locs ls hR hS hl => lv_pop C.1.1 C.1.2.1 hd ((zc_cv_cat G v).trans hv) (k p l e R s m args below meth c Qw C H locs ls hR hS hl)
theorem z_goto {off : Int} {tgt : Nat} (hd : decode mi.2.1 pc = .ok (.goto off, 3)) (ht : (pc : Int) + off = (tgt : Int)) (k : zz G mi d mc ms Q tgt lv st h ka na) : zz G mi d mc ms Q pc lv st h ka na :=
  fun p l e R s m args below meth c Qw C H locs ls hR hS hl => lv_goto C.1.1 C.1.2.1 hd ht (k p l e R s m args below meth c Qw C H locs ls hR hS hl)
theorem z_if_eq {x : Int32} {off : Int} {tgt : Nat} (hd : decode mi.2.1 pc = .ok (.ifCond .eq off, 3)) (ht : (pc : Int) + off = (tgt : Int)) (kt : x = 0 → zz G mi d mc ms Q tgt lv st h ka na) (kf : ¬ x = 0 → zz G mi d mc ms Q (pc + 3) lv st h ka na) : zz G mi d mc ms Q pc lv (.int x :: st) h ka na :=
  fun p l e R s m args below meth c Qw C H locs ls hR hS hl => lv_if_eq C.1.1 C.1.2.1 hd ht (fun q => kt q p l e R s m args below meth c Qw C H locs ls hR hS hl) (fun q => kf q p l e R s m args below meth c Qw C H locs ls hR hS hl)
theorem z_if_ne {x : Int32} {off : Int} {tgt : Nat} (hd : decode mi.2.1 pc = .ok (.ifCond .ne off, 3)) (ht : (pc : Int) + off = (tgt : Int)) (kt : ¬ x = 0 → zz G mi d mc ms Q tgt lv st h ka na) (kf : x = 0 → zz G mi d mc ms Q (pc + 3) lv st h ka na) : zz G mi d mc ms Q pc lv (.int x :: st) h ka na :=
  fun p l e R s m args below meth c Qw C H locs ls hR hS hl => lv_if_ne C.1.1 C.1.2.1 hd ht (fun q => kt q p l e R s m args below meth c Qw C H locs ls hR hS hl) (fun q => kf q p l e R s m args below meth c Qw C H locs ls hR hS hl)
theorem z_if_lt {x : Int32} {off : Int} {tgt : Nat} (hd : decode mi.2.1 pc = .ok (.ifCond .lt off, 3)) (ht : (pc : Int) + off = (tgt : Int)) (kt : x < 0 → zz G mi d mc ms Q tgt lv st h ka na) (kf : ¬ x < 0 → zz G mi d mc ms Q (pc + 3) lv st h ka na) : zz G mi d mc ms Q pc lv (.int x :: st) h ka na :=
  fun p l e R s m args below meth c Qw C H locs ls hR hS hl => lv_if_lt C.1.1 C.1.2.1 hd ht (fun q => kt q p l e R s m args below meth c Qw C H locs ls hR hS hl) (fun q => kf q p l e R s m args below meth c Qw C H locs ls hR hS hl)
theorem z_if_ge {x : Int32} {off : Int} {tgt : Nat} (hd : decode mi.2.1 pc = .ok (.ifCond .ge off, 3)) (ht : (pc : Int) + off = (tgt : Int)) (kt : 0 ≤ x → zz G mi d mc ms Q tgt lv st h ka na) (kf : ¬ 0 ≤ x → zz G mi d mc ms Q (pc + 3) lv st h ka na) : zz G mi d mc ms Q pc lv (.int x :: st) h ka na :=
  fun p l e R s m args below meth c Qw C H locs ls hR hS hl => lv_if_ge C.1.1 C.1.2.1 hd ht (fun q => kt q p l e R s m args below meth c Qw C H locs ls hR hS hl) (fun q => kf q p l e R s m args below meth c Qw C H locs ls hR hS hl)
theorem z_if_gt {x : Int32} {off : Int} {tgt : Nat} (hd : decode mi.2.1 pc = .ok (.ifCond .gt off, 3)) (ht : (pc : Int) + off = (tgt : Int)) (kt : 0 < x → zz G mi d mc ms Q tgt lv st h ka na) (kf : ¬ 0 < x → zz G mi d mc ms Q (pc + 3) lv st h ka na) : zz G mi d mc ms Q pc lv (.int x :: st) h ka na :=
  fun p l e R s m args below meth c Qw C H locs ls hR hS hl => lv_if_gt C.1.1 C.1.2.1 hd ht (fun q => kt q p l e R s m args below meth c Qw C H locs ls hR hS hl) (fun q => kf q p l e R s m args below meth c Qw C H locs ls hR hS hl)
theorem z_if_le {x : Int32} {off : Int} {tgt : Nat} (hd : decode mi.2.1 pc = .ok (.ifCond .le off, 3)) (ht : (pc : Int) + off = (tgt : Int)) (kt : x ≤ 0 → zz G mi d mc ms Q tgt lv st h ka na) (kf : ¬ x ≤ 0 → zz G mi d mc ms Q (pc + 3) lv st h ka na) : zz G mi d mc ms Q pc lv (.int x :: st) h ka na :=
  fun p l e R s m args below meth c Qw C H locs ls hR hS hl => lv_if_le C.1.1 C.1.2.1 hd ht (fun q => kt q p l e R s m args below meth c Qw C H locs ls hR hS hl) (fun q => kf q p l e R s m args below meth c Qw C H locs ls hR hS hl)
theorem z_icmp_eq {x y : Int32} {off : Int} {tgt : Nat} (hd : decode mi.2.1 pc = .ok (.if_icmp .eq off, 3)) (ht : (pc : Int) + off = (tgt : Int)) (kt : x = y → zz G mi d mc ms Q tgt lv st h ka na) (kf : ¬ x = y → zz G mi d mc ms Q (pc + 3) lv st h ka na) : zz G mi d mc ms Q pc lv (.int y :: .int x :: st) h ka na :=
  fun p l e R s m args below meth c Qw C H locs ls hR hS hl => lv_icmp_eq C.1.1 C.1.2.1 hd ht (fun q => kt q p l e R s m args below meth c Qw C H locs ls hR hS hl) (fun q => kf q p l e R s m args below meth c Qw C H locs ls hR hS hl)
theorem z_icmp_ne {x y : Int32} {off : Int} {tgt : Nat} (hd : decode mi.2.1 pc = .ok (.if_icmp .ne off, 3)) (ht : (pc : Int) + off = (tgt : Int)) (kt : ¬ x = y → zz G mi d mc ms Q tgt lv st h ka na) (kf : x = y → zz G mi d mc ms Q (pc + 3) lv st h ka na) : zz G mi d mc ms Q pc lv (.int y :: .int x :: st) h ka na :=
  fun p l e R s m args below meth c Qw C H locs ls hR hS hl => lv_icmp_ne C.1.1 C.1.2.1 hd ht (fun q => kt q p l e R s m args below meth c Qw C H locs ls hR hS hl) (fun q => kf q p l e R s m args below meth c Qw C H locs ls hR hS hl)
theorem z_icmp_lt {x y : Int32} {off : Int} {tgt : Nat} (hd : decode mi.2.1 pc = .ok (.if_icmp .lt off, 3)) (ht : (pc : Int) + off = (tgt : Int)) (kt : x < y → zz G mi d mc ms Q tgt lv st h ka na) (kf : ¬ x < y → zz G mi d mc ms Q (pc + 3) lv st h ka na) : zz G mi d mc ms Q pc lv (.int y :: .int x :: st) h ka na :=
  fun p l e R s m args below meth c Qw C H locs ls hR hS hl => lv_icmp_lt C.1.1 C.1.2.1 hd ht (fun q => kt q p l e R s m args below meth c Qw C H locs ls hR hS hl) (fun q => kf q p l e R s m args below meth c Qw C H locs ls hR hS hl)
theorem z_icmp_ge {x y : Int32} {off : Int} {tgt : Nat} (hd : decode mi.2.1 pc = .ok (.if_icmp .ge off, 3)) (ht : (pc : Int) + off = (tgt : Int)) (kt : y ≤ x → zz G mi d mc ms Q tgt lv st h ka na) (kf : ¬ y ≤ x → zz G mi d mc ms Q (pc + 3) lv st h ka na) : zz G mi d mc ms Q pc lv (.int y :: .int x :: st) h ka na :=
  fun p l e R s m args below meth c Qw C H locs ls hR hS hl => lv_icmp_ge C.1.1 C.1.2.1 hd ht (fun q => kt q p l e R s m args below meth c Qw C H locs ls hR hS hl) (fun q => kf q p l e R s m args below meth c Qw C H locs ls hR hS hl)
theorem z_icmp_gt {x y : Int32} {off : Int} {tgt : Nat} (hd : decode mi.2.1 pc = .ok (.if_icmp .gt off, 3)) (ht : (pc : Int) + off = (tgt : Int)) (kt : y < x → zz G mi d mc ms Q tgt lv st h ka na) (kf : ¬ y < x → zz G mi d mc ms Q (pc + 3) lv st h ka na) : zz G mi d mc ms Q pc lv (.int y :: .int x :: st) h ka na :=
  fun p l e R s m args below meth c Qw C H locs ls hR hS hl => lv_icmp_gt C.1.1 C.1.2.1 hd ht (fun q => kt q p l e R s m args below meth c Qw C H locs ls hR hS hl) (fun q => kf q p l e R s m args below meth c Qw C H locs ls hR hS hl)
theorem z_icmp_le {x y : Int32} {off : Int} {tgt : Nat} (hd : decode mi.2.1 pc = .ok (.if_icmp .le off, 3)) (ht : (pc : Int) + off = (tgt : Int)) (kt : x ≤ y → zz G mi d mc ms Q tgt lv st h ka na) (kf : ¬ x ≤ y → zz G mi d mc ms Q (pc + 3) lv st h ka na) : zz G mi d mc ms Q pc lv (.int y :: .int x :: st) h ka na :=
  fun p l e R s m args below meth c Qw C H locs ls hR hS hl => lv_icmp_le C.1.1 C.1.2.1 hd ht (fun q => kt q p l e R s m args below meth c Qw C H locs ls hR hS hl) (fun q => kf q p l e R s m args below meth c Qw C H locs ls hR hS hl)
theorem z_ifnull {r : Option Nat} {off : Int} {tgt : Nat} (hd : decode mi.2.1 pc = .ok (.ifnull off, 3)) (ht : (pc : Int) + off = (tgt : Int)) (kt : r = none → zz G mi d mc ms Q tgt lv st h ka na) (kf : ¬ r = none → zz G mi d mc ms Q (pc + 3) lv st h ka na) : zz G mi d mc ms Q pc lv (va_rf r :: st) h ka na :=
  fun p l e R s m args below meth c Qw C H locs ls hR hS hl => by
    cases r with
    | none => exact lv_ifnullN C.1.1 C.1.2.1 hd ht (kt rfl p l e R s m args below meth c Qw C H locs ls hR hS hl)
    | some a => exact lv_ifnull C.1.1 C.1.2.1 hd (kf (fun q => by cases q) p l e R s m args below meth c Qw C H locs ls hR hS hl)
theorem z_ifnonnull {r : Option Nat} {off : Int} {tgt : Nat} (hd : decode mi.2.1 pc = .ok (.ifnonnull off, 3)) (ht : (pc : Int) + off = (tgt : Int)) (kt : ¬ r = none → zz G mi d mc ms Q tgt lv st h ka na) (kf : r = none → zz G mi d mc ms Q (pc + 3) lv st h ka na) : zz G mi d mc ms Q pc lv (va_rf r :: st) h ka na :=
  fun p l e R s m args below meth c Qw C H locs ls hR hS hl => by
    cases r with
    | none => exact lv_ifnonnullN C.1.1 C.1.2.1 hd (kf rfl p l e R s m args below meth c Qw C H locs ls hR hS hl)
    | some a => exact lv_ifnonnull C.1.1 C.1.2.1 hd ht (kt (fun q => by cases q) p l e R s m args below meth c Qw C H locs ls hR hS hl)
theorem z_acmp_eq {r q : Option Nat} {off : Int} {tgt : Nat} (hd : decode mi.2.1 pc = .ok (.if_acmp .eq off, 3)) (ht : (pc : Int) + off = (tgt : Int)) (hr : ∀ a, r = some a → 3 ≤ a) (hq : ∀ a, q = some a → 3 ≤ a) (kt : r = q → zz G mi d mc ms Q tgt lv st h ka na) (kf : ¬ r = q → zz G mi d mc ms Q (pc + 3) lv st h ka na) : zz G mi d mc ms Q pc lv (va_rf q :: va_rf r :: st) h ka na :=
  fun p l e R s m args below meth c Qw C H locs ls hR hS hl => by
    show W p l e R s m args below meth c H locs ka na Qw (F0 m pc ls (zc_cv G (va_rf q) :: zc_cv G (va_rf r) :: st.map (zc_cv G)))
    rw [zc_cv_rf, zc_cv_rf]
    have inj : zc_rf G r = zc_rf G q → r = q := by
      intro e1
      cases r with
      | none => cases q with
        | none => rfl
        | some b => cases e1
      | some a => cases q with
        | none => cases e1
        | some b => rw [zc_ad_inj G (hr a rfl) (hq b rfl) (Option.some.inj e1)]
    exact lv_acmp_eq C.1.1 C.1.2.1 hd ht (fun e1 => kt (inj e1) p l e R s m args below meth c Qw C H locs ls hR hS hl) (fun e1 => kf (fun e2 => e1 (by rw [e2])) p l e R s m args below meth c Qw C H locs ls hR hS hl)
theorem z_acmp_ne {r q : Option Nat} {off : Int} {tgt : Nat} (hd : decode mi.2.1 pc = .ok (.if_acmp .ne off, 3)) (ht : (pc : Int) + off = (tgt : Int)) (hr : ∀ a, r = some a → 3 ≤ a) (hq : ∀ a, q = some a → 3 ≤ a) (kt : ¬ r = q → zz G mi d mc ms Q tgt lv st h ka na) (kf : r = q → zz G mi d mc ms Q (pc + 3) lv st h ka na) : zz G mi d mc ms Q pc lv (va_rf q :: va_rf r :: st) h ka na :=
  fun p l e R s m args below meth c Qw C H locs ls hR hS hl => by
    show W p l e R s m args below meth c H locs ka na Qw (F0 m pc ls (zc_cv G (va_rf q) :: zc_cv G (va_rf r) :: st.map (zc_cv G)))
    rw [zc_cv_rf, zc_cv_rf]
    have inj : zc_rf G r = zc_rf G q → r = q := by
      intro e1
      cases r with
      | none => cases q with
        | none => rfl
        | some b => cases e1
      | some a => cases q with
        | none => cases e1
        | some b => rw [zc_ad_inj G (hr a rfl) (hq b rfl) (Option.some.inj e1)]
    exact lv_acmp_ne C.1.1 C.1.2.1 hd ht (fun e1 => kt (fun e2 => e1 (by rw [e2])) p l e R s m args below meth c Qw C H locs ls hR hS hl) (fun e1 => kf (inj e1) p l e R s m args below meth c Qw C H locs ls hR hS hl)
/-- a table of targets: the one that the number picks -/
theorem z_table {dflt lo hi : Int} {offs : Array Int} {len : Nat} {x : Int32} (hd : decode mi.2.1 pc = .ok (.tableswitch dflt lo hi offs, len)) {td : Nat} (ht : (pc : Int) + dflt = (td : Int)) {ts : List Nat} (hts : offs.toList.map (fun o => (pc : Int) + o) = ts.map (fun t : Nat => (t : Int)))
    (hlen : hi = lo + (ts.length : Int) - 1)
    (kd : (x.toInt < lo ∨ hi < x.toInt) → zz G mi d mc ms Q td lv st h ka na) (kc : ∀ (i t : Nat), ts[i]? = some t → x.toInt = lo + (i : Int) → zz G mi d mc ms Q t lv st h ka na) : zz G mi d mc ms Q pc lv (.int x :: st) h ka na :=
  fun p l e R s m args below meth c Qw C H locs ls hR hS hl => by
    by_cases h1 : x.toInt < lo ∨ hi < x.toInt
    · exact lv_tableOut C.1.1 C.1.2.1 hd h1 ht (kd h1 p l e R s m args below meth c Qw C H locs ls hR hS hl)
    · have g1 : ¬ x.toInt < lo := fun q => h1 (Or.inl q)
      have g2 : ¬ hi < x.toInt := fun q => h1 (Or.inr q)
      have hi1 : (x.toInt - lo).toNat < ts.length := by omega
      obtain ⟨t, ht1⟩ : ∃ t, ts[(x.toInt - lo).toNat]? = some t := ⟨_, List.getElem?_eq_getElem hi1⟩
      have e1 : (offs.toList.map (fun o => (pc : Int) + o))[(x.toInt - lo).toNat]? = some (t : Int) := by rw [hts, List.getElem?_map, ht1]; rfl
      rw [List.getElem?_map, Option.map_eq_some_iff] at e1
      obtain ⟨off, ho, e2⟩ := e1
      exact lv_tableIn C.1.1 C.1.2.1 hd g1 g2 (by rw [← Array.getElem?_toList]; exact ho) e2 (kc _ t ht1 (by omega) p l e R s m args below meth c Qw C H locs ls hR hS hl)
theorem z_lookup {dflt : Int} {ps : Array (Int × Int)} {len : Nat} {x : Int32} {off : Int} {tgt : Nat} (hd : decode mi.2.1 pc = .ok (.lookupswitch dflt ps, len)) (hp : (ps.toList.zip (ps.toList.drop 1)).all (fun (a, next) => a.1 < next.1) = true) (ho : Op.lookupswitch.offset ps.toList dflt x.toInt = off) (ht : (pc : Int) + off = (tgt : Int)) (k : zz G mi d mc ms Q tgt lv st h ka na) : zz G mi d mc ms Q pc lv (.int x :: st) h ka na :=
  fun p l e R s m args below meth c Qw C H locs ls hR hS hl => lv_lookup C.1.1 C.1.2.1 hd hp ho ht (k p l e R s m args below meth c Qw C H locs ls hR hS hl)
theorem z_ret {r : Option Value} (hq : Q r h) (hd : zc_rt mi pc r) (hka : ka ≤ mc) (hna : na ≤ ms) : zz G mi d mc ms Q pc lv r.toList h ka na :=
  fun p l e R s m args below meth c Qw C H locs ls hR hS _ => W.widen hka hna (C.2.2.2.2.2 r h H locs pc ls hq hR hS hd)
theorem z_ireturn {x : Int32} {ty : FieldType} (hd : decode mi.2.1 pc = .ok (.ireturn, 1)) (hr : mi.2.2.2 = some ty) (hn : narrow ty (.int x) = .int x) (hka : ka ≤ mc) (hna : na ≤ ms) (hq : Q (some (.int x)) h) : zz G mi d mc ms Q pc lv [.int x] h ka na :=
  z_ret (r := some (.int x)) hq ⟨hd, ty, hr, hn⟩ hka hna
theorem z_return (hd : decode mi.2.1 pc = .ok (.return_, 1)) (hr : mi.2.2.2 = none) (hka : ka ≤ mc) (hna : na ≤ ms) (hq : Q none h) : zz G mi d mc ms Q pc lv [] h ka na :=
  z_ret (r := none) hq ⟨hd, hr⟩ hka hna
theorem z_areturn {q : Option Nat} {ty : FieldType} (hd : decode mi.2.1 pc = .ok (.areturn, 1)) (hr : mi.2.2.2 = some ty) (hty : (∃ n, ty = .object n) ∨ ∃ t, ty = .array t) (hka : ka ≤ mc) (hna : na ≤ ms) (hq : Q (some (va_rf q)) h) : zz G mi d mc ms Q pc lv [va_rf q] h ka na := by
  cases q with
  | none => exact z_ret (r := some .null) hq ⟨hd, ⟨ty, hr, hty⟩, Or.inl rfl⟩ hka hna
  | some a => exact z_ret (r := some (.ref a)) hq ⟨hd, ⟨ty, hr, hty⟩, Or.inr ⟨a, rfl⟩⟩ hka hna
end ZROWS
end
section
/-! ===== rows of the lighter machine that read and write cells ===== -/
def zu {α : Type} (f : Nat → α) (i : Nat) (v : α) : Nat → α := fun j => if j = i then v else f j
theorem zu_self {α : Type} (f : Nat → α) (i : Nat) (v : α) : zu f i v i = v := if_pos rfl
theorem zu_ne {α : Type} (f : Nat → α) {i j : Nat} (v : α) (hj : j ≠ i) : zu f i v j = f j := if_neg hj
theorem zc_in : ∀ (ci : Nat) (r : vw_C), zc_cl[ci]? = some r → ∀ w ∈ u_ws r.1 r.2.1 r.2.2, w ∈ zc_tb := by
  intro ci r hr
  match ci, hr with
  | 0, hr => cases hr; decide +kernel
  | 1, hr => cases hr; decide +kernel
  | 2, hr => cases hr; decide +kernel
  | 3, hr => cases hr; decide +kernel
  | 4, hr => cases hr; decide +kernel
  | 5, hr => cases hr; decide +kernel
  | 6, hr => cases hr; decide +kernel
  | 7, hr => cases hr; decide +kernel
  | 8, hr => cases hr; decide +kernel
  | 9, hr => cases hr; decide +kernel
  | k + 10, hr => simp [zc_cl] at hr
theorem zc_tyok : ∀ (ci : Nat) (r : vw_C), zc_cl[ci]? = some r → ∀ k, k < r.2.2 → parseFieldDescriptor (r.2.1 k).2.2.1 = some (zc_ty ci k) := by
  intro ci r hr
  match ci, hr with
  | 0, hr => cases hr; exact tyX0_ok
  | 1, hr => cases hr; exact tyX1_ok
  | 2, hr => cases hr; exact tyX2_ok
  | 3, hr => cases hr; exact tyX3_ok
  | 4, hr => cases hr; exact tyX4_ok
  | 5, hr => cases hr; exact tyX5_ok
  | 6, hr => cases hr; exact tyX6_ok
  | 7, hr => cases hr; exact tyX7_ok
  | 8, hr => cases hr; exact tyX8_ok
  | 9, hr => cases hr; exact tyX9_ok
  | k + 10, hr => simp [zc_cl] at hr
theorem zc_nm : ∀ (ci : Nat) (r : vw_C), zc_cl[ci]? = some r → ∀ a, a < r.2.2 → ∀ b, b < r.2.2 → a ≠ b → (r.2.1 a).2.1 ≠ (r.2.1 b).2.1 := by
  intro ci r hr
  match ci, hr with
  | 0, hr => cases hr; exact nmX0
  | 1, hr => cases hr; exact nmX1
  | 2, hr => cases hr; exact nmX2
  | 3, hr => cases hr; exact nmX3
  | 4, hr => cases hr; exact nmX4
  | 5, hr => cases hr; exact nmX5
  | 6, hr => cases hr; exact nmX6
  | 7, hr => cases hr; exact nmX7
  | 8, hr => cases hr; exact nmX8
  | 9, hr => cases hr; exact nmX9
  | k + 10, hr => simp [zc_cl] at hr
theorem zc_rf_cv (G : zc_G) (q : Nat) : va_rf (zc_rf G (some q)) = .ref (zc_ad G q) := rfl
section ZCELL
variable {G : zc_G} {N : Nat} {sh : Nat → zc_S} {σ : zc_N} {H : Heap}
/-- one cell is written: the others stay -/
theorem zc_R.set {H1 : Heap} {a : Nat} {c : zc_S} {f : Nat → Int32} (hR : zc_R G (N, sh, σ) H) (ha : 3 ≤ a) (haN : a < N) (hz : H1.size = H.size) (oq : ∀ q : Nat, q ≠ zc_ad G a → H1[q]? = H[q]?) (hc : zc_cell G a c f H1) : zc_R G (N, zu sh a c, zu σ a f) H1 := by
  obtain ⟨h1, h2, h3, h4, h5⟩ := hR
  have e0 := zc_ad_ge G ha
  refine ⟨h1, by rw [hz]; exact h2, fun q hq => ?_, fun k hk hkN => ?_, fun k hk => ?_⟩
  · rw [oq q (by omega)]
    exact h3 q hq
  · by_cases hka : k = a
    · subst hka
      show zc_cell G k (zu sh k c k) (zu σ k f k) H1
      rw [zu_self, zu_self]
      exact hc
    · show zc_cell G k (zu sh a c k) (zu σ a f k) H1
      rw [zu_ne _ _ hka, zu_ne _ _ hka]
      exact (h4 k hk hkN).kept (oq _ (fun e => hka (zc_ad_inj G hk ha e)))
  · show (zu sh a c k).1 = 0 ∧ (zu sh a c k).2.1 = _ ∧ zu σ a f k = _
    rw [zu_ne _ _ (show k ≠ a by omega), zu_ne _ _ (show k ≠ a by omega)]
    exact h5 k hk
theorem zu_same {α : Type} (f : Nat → α) (i : Nat) : zu f i (f i) = f := by
  funext j
  by_cases hj : j = i
  · subst hj; exact zu_self _ _ _
  · exact zu_ne _ _ hj
theorem zc_S_in {s : State} {H1 : Heap} {locs : List Loc} {a k : Nat} (hS : va_S (zc_A G) s.heap H locs) (ha : 3 ≤ a) (hz : H1.size = H.size) (oq : ∀ q : Nat, q ≠ zc_ad G a → H1[q]? = H[q]?) : va_S (zc_A G) s.heap H1 (locs ++ [⟨zc_ad G a, k⟩]) :=
  hS.put hz oq (by rw [zc_ad_ge G ha]; exact Nat.le_add_right _ _)
/-- the numbers of an array, wherever it lies -/
theorem zc_ints {s : State} {a : Nat} {n : Nat} {rf : Nat → Option Nat} (hK : zc_K G s) (hR : zc_R G (N, sh, σ) H) (haN : a < N) (hs : sh a = (0, n, rf)) : ∃ cell : Cell, H[zc_ad G a]? = some cell ∧ s.isArrayOf cell .int ∧ cell.vm ≠ .unknown ∧ n ≤ cell.slots.size ∧ cell.slots.size.toInt32 = Int32.ofNat n ∧ ∀ j : Nat, j < n → cell.slots[j]? = some (.int (σ a j)) := by
  obtain ⟨h1, h2, h3, h4, h5⟩ := hR
  by_cases ha : a < 3
  · obtain ⟨e1, e2, e3⟩ := h5 a ha
    obtain ⟨cell, g1, g2, g3, g4, g5, g6⟩ := hK.2.1 a ha
    have e2 : (sh a).2.1 = (G.2.2.2.2 a).1 := e2
    have e3 : σ a = (G.2.2.2.2 a).2 := e3
    rw [hs] at e2
    have e2 : n = (G.2.2.2.2 a).1 := e2
    refine ⟨cell, ?_, g2, g3, by rw [e2]; exact g4, by rw [e2]; exact g5, fun j hj => by rw [e3]; exact g6 j (by rw [← e2]; exact hj)⟩
    unfold zc_ad
    rw [if_pos ha, h3 _ (Array.getElem?_eq_some_iff.mp g1).1]
    exact g1
  · have hc := h4 a (by omega) haN
    have hc : zc_cell G a (sh a) (σ a) H := hc
    rw [hs] at hc
    have hc : H[zc_ad G a]? = some (arrV (G.2.2.1 0) n (fun j => .int (σ a j))) := hc
    refine ⟨_, hc, (hK.1.2 0 _ rfl).1 n _, (fun q => by cases q), Nat.le_of_eq (arrV_size _ _ _).symm, congrArg Nat.toInt32 (arrV_size _ _ _), fun j hj => arrV_read _ _ hj⟩
end ZCELL
section ZHEAP
variable {G : zc_G} {mi : zc_M} {d mc ms : Nat} {Q : Option Value → zc_H → Prop} {pc : Nat} {lv : List (Option Value)} {st : List Value} {N : Nat} {sh : Nat → zc_S} {σ : zc_N} {ka na : Nat}
theorem z_iald {a n : Nat} {rf : Nat → Option Nat} {i v : Int32} (hd : decode mi.2.1 pc = .ok (.iaload, 1)) (haN : a < N) (hs : sh a = (0, n, rf)) (hin : vp_in i n) (hv : σ a i.toNatClampNeg = v) (k : zz G mi d mc ms Q (pc + 1) lv (.int v :: st) (N, sh, σ) ka na) : zz G mi d mc ms Q pc lv (.int i :: .ref a :: st) (N, sh, σ) ka na :=
  fun p l e R s m args below meth c Qw C H locs ls hR hS hl => by
    obtain ⟨cell, g1, g2, g3, g4, g5, g6⟩ := zc_ints C.2.2.2.1 hR haN hs
    have hlt : i.toNatClampNeg < n := Nat.not_le.mp fun q => hin (Or.inr q)
    exact W.iald (v := .int v) C.1.1 C.1.2.1 g1 g2 g3 (fun q => hin (q.imp id (fun q => Nat.le_trans g4 q))) (by rw [← hv]; exact g6 _ hlt) rfl rfl hd (k p l e R s m args below meth c Qw C H locs ls hR hS hl)
theorem z_alen0 {a n : Nat} {rf : Nat → Option Nat} {v : Int32} (hd : decode mi.2.1 pc = .ok (.arraylength, 1)) (haN : a < N) (hs : sh a = (0, n, rf)) (hv : Int32.ofNat n = v) (k : zz G mi d mc ms Q (pc + 1) lv (.int v :: st) (N, sh, σ) ka na) : zz G mi d mc ms Q pc lv (.ref a :: st) (N, sh, σ) ka na :=
  fun p l e R s m args below meth c Qw C H locs ls hR hS hl => by
    obtain ⟨cell, g1, g2, g3, g4, g5, g6⟩ := zc_ints C.2.2.2.1 hR haN hs
    exact W.alen (n := v) C.1.1 C.1.2.1 g1 g2 (by rw [← hv]; exact g5) rfl rfl hd (k p l e R s m args below meth c Qw C H locs ls hR hS hl)
theorem z_bald {a n : Nat} {rf : Nat → Option Nat} {i v : Int32} (hd : decode mi.2.1 pc = .ok (.baload, 1)) (ha : 3 ≤ a) (haN : a < N) (hs : sh a = (1, n, rf)) (hin : vp_in i n) (hv : σ a i.toNatClampNeg = v) (k : zz G mi d mc ms Q (pc + 1) lv (.int v :: st) (N, sh, σ) ka na) : zz G mi d mc ms Q pc lv (.int i :: .ref a :: st) (N, sh, σ) ka na :=
  fun p l e R s m args below meth c Qw C H locs ls hR hS hl => by
    have hc : zc_cell G a (sh a) (σ a) H := hR.2.2.2.1 a ha haN
    rw [hs] at hc
    have hc : H[zc_ad G a]? = some (arrV (G.2.2.1 1) n (fun j => .int (σ a j))) := hc
    have hlt : i.toNatClampNeg < n := Nat.not_le.mp fun q => hin (Or.inr q)
    exact W.zald (v := .int v) C.1.1 C.1.2.1 hc ((C.2.2.2.1.1.2 1 _ rfl).1 n _) (fun q => by cases q) (by rw [arrV_size]; exact hin) (by rw [arrV_read _ _ hlt, hv]) rfl rfl hd (k p l e R s m args below meth c Qw C H locs ls hR hS hl)
theorem z_aald {a n : Nat} {rf : Nat → Option Nat} {i : Int32} {r : Option Nat} (hd : decode mi.2.1 pc = .ok (.aaload, 1)) (ha : 3 ≤ a) (haN : a < N) (hs : sh a = (2, n, rf)) (hin : vp_in i n) (hv : rf i.toNatClampNeg = r) (k : zz G mi d mc ms Q (pc + 1) lv (va_rf r :: st) (N, sh, σ) ka na) : zz G mi d mc ms Q pc lv (.int i :: .ref a :: st) (N, sh, σ) ka na :=
  fun p l e R s m args below meth c Qw C H locs ls hR hS hl => by
    have hc : zc_cell G a (sh a) (σ a) H := hR.2.2.2.1 a ha haN
    rw [hs] at hc
    have hc : H[zc_ad G a]? = some (arrV (G.2.2.1 2) n (fun j => va_rf (zc_rf G (rf j)))) := hc
    have hlt : i.toNatClampNeg < n := Nat.not_le.mp fun q => hin (Or.inr q)
    have k2 := k p l e R s m args below meth c Qw C H locs ls hR hS hl
    rw [List.map_cons, zc_cv_rf] at k2
    exact W.aald (v := va_rf (zc_rf G r)) (ty := .object RX7) C.1.1 C.1.2.1 hc ((C.2.2.2.1.1.2 2 _ rfl).1 n _) rfl (fun q => by cases q) (by rw [arrV_size]; exact hin) (by rw [arrV_read _ _ hlt, hv]) rfl rfl hd k2
theorem z_iast {a n : Nat} {rf : Nat → Option Nat} {i x : Int32} {σ' : zc_N} (hd : decode mi.2.1 pc = .ok (.iastore, 1)) (ha : 3 ≤ a) (haN : a < N) (hs : sh a = (0, n, rf)) (hin : vp_in i n) (hσ : zu σ a (zu (σ a) i.toNatClampNeg x) = σ') (k : zz G mi d mc ms Q (pc + 1) lv st (N, sh, σ') ka na) : zz G mi d mc ms Q pc lv (.int x :: .int i :: .ref a :: st) (N, sh, σ) ka na :=
  fun p l e R s m args below meth c Qw C H locs ls hR hS hl => by
    have hc : zc_cell G a (sh a) (σ a) H := hR.2.2.2.1 a ha haN
    rw [hs] at hc
    have hc : H[zc_ad G a]? = some (arrV (G.2.2.1 0) n (fun j => .int (σ a j))) := hc
    refine W.iast C.1.1 C.1.2.1 hc ((C.2.2.2.1.1.2 0 _ rfl).1 n _) (fun q => by cases q) (by rw [arrV_size]; exact hin) rfl rfl hd fun H1 e1 z1 o1 => ?_
    refine k p l e R s m args below meth c Qw C H1 _ ls ?_ (zc_S_in hS ha z1 o1) hl
    have h2 := zc_R.set (c := sh a) (f := zu (σ a) i.toNatClampNeg x) hR ha haN z1 o1 (by
      rw [hs]
      show H1[zc_ad G a]? = some (arrV _ _ _)
      rw [e1, arrV_store]
      congr 2
      funext q
      by_cases hq : q = i.toNatClampNeg
      · subst hq
        simp [updV, zu]
      · simp [updV, zu, hq])
    rw [zu_same, hσ] at h2
    exact h2
theorem z_bast {a n : Nat} {rf : Nat → Option Nat} {i x : Int32} {σ' : zc_N} (hd : decode mi.2.1 pc = .ok (.bastore, 1)) (ha : 3 ≤ a) (haN : a < N) (hs : sh a = (1, n, rf)) (hin : vp_in i n) (hx : narrow .boolean (.int x) = .int x) (hσ : zu σ a (zu (σ a) i.toNatClampNeg x) = σ') (k : zz G mi d mc ms Q (pc + 1) lv st (N, sh, σ') ka na) : zz G mi d mc ms Q pc lv (.int x :: .int i :: .ref a :: st) (N, sh, σ) ka na :=
  fun p l e R s m args below meth c Qw C H locs ls hR hS hl => by
    have hc : zc_cell G a (sh a) (σ a) H := hR.2.2.2.1 a ha haN
    rw [hs] at hc
    have hc : H[zc_ad G a]? = some (arrV (G.2.2.1 1) n (fun j => .int (σ a j))) := hc
    refine W.zast C.1.1 C.1.2.1 hc ((C.2.2.2.1.1.2 1 _ rfl).1 n _) (fun q => by cases q) (by rw [arrV_size]; exact hin) rfl rfl hd fun H1 e1 z1 o1 => ?_
    refine k p l e R s m args below meth c Qw C H1 _ ls ?_ (zc_S_in hS ha z1 o1) hl
    have h2 := zc_R.set (c := sh a) (f := zu (σ a) i.toNatClampNeg x) hR ha haN z1 o1 (by
      rw [hs]
      show H1[zc_ad G a]? = some (arrV _ _ _)
      rw [e1, hx, arrV_store]
      congr 2
      funext q
      by_cases hq : q = i.toNatClampNeg
      · subst hq
        simp [updV, zu]
      · simp [updV, zu, hq])
    rw [zu_same, hσ] at h2
    exact h2
/-- an object's place, its class known -/
theorem zc_obj {s : State} {H : Heap} {a ci n : Nat} {rf : Nat → Option Nat} (hR : zc_R G (N, sh, σ) H) (ha : 3 ≤ a) (haN : a < N) (hs : sh a = (ci + 3, n, rf)) {r : vw_C} (hr : zc_cl[ci]? = some r) : t_OB (zc_ad G a) (G.2.1.1 ci) r.2.2 (G.2.1.2 ci) H (zc_V G ci rf (σ a)) := by
  have hc : zc_cell G a (sh a) (σ a) H := hR.2.2.2.1 a ha haN
  rw [hs] at hc
  obtain ⟨r', h1, h2⟩ := hc
  cases h1.symm.trans hr
  exact h2
theorem z_get {a ci n j idx : Nat} {rf : Nat → Option Nat} {r : vw_C} {v : Value} (hd : decode mi.2.1 pc = .ok (.getfield idx, 3)) (ha : 3 ≤ a) (haN : a < N) (hs : sh a = (ci + 3, n, rf)) (hr : zc_cl[ci]? = some r) (hj : j < r.2.2) (hw : Cond.fieldLink mi.1.cls idx (r.2.1 j).1 (r.2.1 j).2.1 (r.2.1 j).2.2.1 ∈ zc_tb) (hv : (if zc_isr (zc_ty ci j) then va_rf (rf j) else .int (σ a j)) = v) (k : zz G mi d mc ms Q (pc + 3) lv (v :: st) (N, sh, σ) ka na) : zz G mi d mc ms Q pc lv (.ref a :: st) (N, sh, σ) ka na :=
  fun p l e R s m args below meth c Qw C H locs ls hR hS hl => by
    obtain ⟨cell, q1, q2, q3, q4⟩ := zc_obj (s := s) hR ha haN hs hr
    obtain ⟨hSl, hfc, kC, hkC, hkind⟩ := C.2.2.2.1.1.1 ci r hr
    obtain ⟨cf, kf, fi, f, hi, hsl⟩ := hSl j hj
    refine W.getf C.1.1 C.1.2.1 C.1.2.2.2.1 (C.2.1 _ hw) hi (u_facts hfc hkC (u_lays C.2.1 (zc_in ci r hr) hj) hi).1 q1 (by rw [q3]; exact fun h => by cases h) (v := zc_cv G v) ?_ rfl rfl hd (k p l e R s m args below meth c Qw C H locs ls hR hS hl)
    rw [hsl, q4 j hj, ← hv]
    unfold zc_V
    cases zc_isr (zc_ty ci j)
    · rfl
    · rw [if_pos rfl, if_pos rfl, zc_cv_rf]
/-- a number is put into a place that isn't final -/
theorem z_put {a ci n j idx : Nat} {rf : Nat → Option Nat} {r : vw_C} {x : Int32} {σ' : zc_N} (hd : decode mi.2.1 pc = .ok (.putfield idx, 3)) (ha : 3 ≤ a) (haN : a < N) (hs : sh a = (ci + 3, n, rf)) (hr : zc_cl[ci]? = some r) (hj : j < r.2.2) (hw : Cond.fieldLink mi.1.cls idx (r.2.1 j).1 (r.2.1 j).2.1 (r.2.1 j).2.2.1 ∈ zc_tb) (hfin : (r.2.1 j).2.2.2 = false) (hty : zc_isr (zc_ty ci j) = false) (hn : narrow (zc_ty ci j) (.int x) = .int x) (hfit : fits (zc_ty ci j) (.int x) = true) (hσ : zu σ a (zu (σ a) j x) = σ') (k : zz G mi d mc ms Q (pc + 3) lv st (N, sh, σ') ka na) : zz G mi d mc ms Q pc lv (.int x :: .ref a :: st) (N, sh, σ) ka na :=
  fun p l e R s m args below meth c Qw C H locs ls hR hS hl => by
    have hap := va_apart (own := mi.1.cls) C.2.1 (zc_in ci r hr) (zc_ty ci) (zc_tyok ci r hr) (zc_nm ci r hr) C.2.2.2.1.1 hr
    obtain ⟨cell, q1, q2, q3, q4⟩ := zc_obj (s := s) hR ha haN hs hr
    obtain ⟨hSl, hfc, kC, hkC, hkind⟩ := C.2.2.2.1.1.1 ci r hr
    obtain ⟨cf, kf, fi, f, hi, hsl⟩ := hSl j hj
    have hlay := C.2.1 _ (zc_in ci r hr _ (u_in_lay hj))
    unfold u_lay at hlay
    rw [if_neg (by rw [hfin]; decide)] at hlay
    have hst := (u_facts hfc hkC (u_lays C.2.1 (zc_in ci r hr) hj) hi).1
    have h6 := u_store hfc hkC hkind hlay hi (zc_tyok ci r hr j hj) hn hfit
    refine W.putK C.1.1 C.1.2.1 (f := f) ⟨C.1.2.2.2.1, C.2.1 _ hw, ⟨_, _, _, hi⟩, hst⟩ (by rw [q2]; exact h6) q1 q3 (by rw [hsl]; exact k2_hasslot (q4 j hj)) rfl rfl hd fun H' e1 e2 e3 => ?_
    rw [hsl] at e1 ⊢
    refine k p l e R s m args below meth c Qw C H' _ ls ?_ (zc_S_in hS ha e2 e3) hl
    have h2 := zc_R.set (c := sh a) (f := zu (σ a) j x) hR ha haN e2 e3 (by
      rw [hs]
      refine ⟨r, hr, t_OB.to (V := updV (zc_V G ci rf (σ a)) j (.int x)) ⟨_, e1, q2, q3, t_set q4 hap hj _⟩ (fun i _ => ?_)⟩
      by_cases hij : i = j
      · subst hij
        unfold updV zc_V
        rw [if_pos rfl, hty, zu_self]
        rfl
      · unfold updV zc_V
        rw [if_neg hij, zu_ne _ _ hij])
    rw [zu_same, hσ] at h2
    exact h2
end ZHEAP
end
section
/-! ===== rows that make cells, put references, copy, read statics; calls and contracts ===== -/
section ZMAKE
variable {G : zc_G} {mi : zc_M} {d mc ms : Nat} {Q : Option Value → zc_H → Prop} {pc : Nat} {lv : List (Option Value)} {st : List Value} {N : Nat} {sh : Nat → zc_S} {σ : zc_N} {ka na : Nat}
/-- a final place, in a constructor: a number -/
theorem z_putF {a ci n j idx : Nat} {rf : Nat → Option Nat} {r : vw_C} {x : Int32} {σ' : zc_N} (hd : decode mi.2.1 pc = .ok (.putfield idx, 3)) (ha : 3 ≤ a) (haN : a < N) (hs : sh a = (ci + 3, n, rf)) (hr : zc_cl[ci]? = some r) (hj : j < r.2.2) (hw : Cond.fieldLink mi.1.cls idx (r.2.1 j).1 (r.2.1 j).2.1 (r.2.1 j).2.2.1 ∈ zc_tb) (hfin : (r.2.1 j).2.2.2 = true) (hin2 : mi.1.name = "<init>") (hdecl : (r.2.1 j).1 = mi.1.cls) (hty : zc_isr (zc_ty ci j) = false) (hn : narrow (zc_ty ci j) (.int x) = .int x) (hfit : fits (zc_ty ci j) (.int x) = true) (hσ : zu σ a (zu (σ a) j x) = σ') (k : zz G mi d mc ms Q (pc + 3) lv st (N, sh, σ') ka na) : zz G mi d mc ms Q pc lv (.int x :: .ref a :: st) (N, sh, σ) ka na :=
  fun p l e R s m args below meth c Qw C H locs ls hR hS hl => by
    have hap := va_apart (own := mi.1.cls) C.2.1 (zc_in ci r hr) (zc_ty ci) (zc_tyok ci r hr) (zc_nm ci r hr) C.2.2.2.1.1 hr
    obtain ⟨cell, q1, q2, q3, q4⟩ := zc_obj (s := s) hR ha haN hs hr
    obtain ⟨hSl, hfc, kC, hkC, hkind⟩ := C.2.2.2.1.1.1 ci r hr
    obtain ⟨cf, kf, fi, f, hi, hsl⟩ := hSl j hj
    have hlay := C.2.1 _ (zc_in ci r hr _ (u_in_lay hj))
    unfold u_lay at hlay
    rw [if_pos hfin] at hlay
    have hst := (u_facts hfc hkC (u_lays C.2.1 (zc_in ci r hr) hj) hi).1
    have hcf : m.cls = cf := by
      obtain ⟨_, _, c', _, _, _, -, -, hf', -, -, -, hown2, -⟩ := Cond.laysFinal_spec hlay
      have e1 : c' = cf := by have := hi.symm.trans hf'; simp at this; exact this.1.symm
      rw [hdecl] at hown2
      rw [← e1]; exact Option.some.inj (C.1.2.2.2.1.symm.trans hown2)
    have h6 := u_fits hfc hkC hkind (Or.inr hlay) hi (zc_tyok ci r hr j hj) hn hfit
    refine W.putFinK C.1.1 C.1.2.1 C.1.2.2.2.1 (C.2.1 _ hw) hi hst hcf (C.1.2.2.2.2.trans hin2) (by rw [q2]; exact h6) q1 q3 (by rw [hsl]; exact k2_hasslot (q4 j hj)) rfl rfl hd fun H' e1 e2 e3 => ?_
    rw [hsl] at e1 ⊢
    refine k p l e R s m args below meth c Qw C H' _ ls ?_ (zc_S_in hS ha e2 e3) hl
    have h2 := zc_R.set (c := sh a) (f := zu (σ a) j x) hR ha haN e2 e3 (by
      rw [hs]
      refine ⟨r, hr, t_OB.to (V := updV (zc_V G ci rf (σ a)) j (.int x)) ⟨_, e1, q2, q3, t_set q4 hap hj _⟩ (fun i _ => ?_)⟩
      by_cases hij : i = j
      · subst hij
        unfold updV zc_V
        rw [if_pos rfl, hty, zu_self]
        rfl
      · unfold updV zc_V
        rw [if_neg hij, zu_ne _ _ hij])
    rw [zu_same, hσ] at h2
    exact h2
/-- a final place, in a constructor: a reference -/
theorem z_putFr {a ci n j idx q : Nat} {rf : Nat → Option Nat} {r : vw_C} {sh' : Nat → zc_S} (hd : decode mi.2.1 pc = .ok (.putfield idx, 3)) (ha : 3 ≤ a) (haN : a < N) (hs : sh a = (ci + 3, n, rf)) (hr : zc_cl[ci]? = some r) (hj : j < r.2.2) (hw : Cond.fieldLink mi.1.cls idx (r.2.1 j).1 (r.2.1 j).2.1 (r.2.1 j).2.2.1 ∈ zc_tb) (hfin : (r.2.1 j).2.2.2 = true) (hin2 : mi.1.name = "<init>") (hdecl : (r.2.1 j).1 = mi.1.cls) (hty : zc_isr (zc_ty ci j) = true) (hn : ∀ x, narrow (zc_ty ci j) (.ref x) = .ref x) (hfit : ∀ x, fits (zc_ty ci j) (.ref x) = true) (hσ : zu sh a (ci + 3, n, zu rf j (some q)) = sh') (k : zz G mi d mc ms Q (pc + 3) lv st (N, sh', σ) ka na) : zz G mi d mc ms Q pc lv (.ref q :: .ref a :: st) (N, sh, σ) ka na :=
  fun p l e R s m args below meth c Qw C H locs ls hR hS hl => by
    have hap := va_apart (own := mi.1.cls) C.2.1 (zc_in ci r hr) (zc_ty ci) (zc_tyok ci r hr) (zc_nm ci r hr) C.2.2.2.1.1 hr
    obtain ⟨cell, q1, q2, q3, q4⟩ := zc_obj (s := s) hR ha haN hs hr
    obtain ⟨hSl, hfc, kC, hkC, hkind⟩ := C.2.2.2.1.1.1 ci r hr
    obtain ⟨cf, kf, fi, f, hi, hsl⟩ := hSl j hj
    have hlay := C.2.1 _ (zc_in ci r hr _ (u_in_lay hj))
    unfold u_lay at hlay
    rw [if_pos hfin] at hlay
    have hst := (u_facts hfc hkC (u_lays C.2.1 (zc_in ci r hr) hj) hi).1
    have hcf : m.cls = cf := by
      obtain ⟨_, _, c', _, _, _, -, -, hf', -, -, -, hown2, -⟩ := Cond.laysFinal_spec hlay
      have e1 : c' = cf := by have := hi.symm.trans hf'; simp at this; exact this.1.symm
      rw [hdecl] at hown2
      rw [← e1]; exact Option.some.inj (C.1.2.2.2.1.symm.trans hown2)
    have h6 := u_fits hfc hkC hkind (Or.inr hlay) hi (zc_tyok ci r hr j hj) (hn (zc_ad G q)) (hfit (zc_ad G q))
    refine W.putFinK C.1.1 C.1.2.1 C.1.2.2.2.1 (C.2.1 _ hw) hi hst hcf (C.1.2.2.2.2.trans hin2) (by rw [q2]; exact h6) q1 q3 (by rw [hsl]; exact k2_hasslot (q4 j hj)) rfl rfl hd fun H' e1 e2 e3 => ?_
    rw [hsl] at e1 ⊢
    refine k p l e R s m args below meth c Qw C H' _ ls ?_ (zc_S_in hS ha e2 e3) hl
    have h2 := zc_R.set (c := (ci + 3, n, zu rf j (some q))) (f := σ a) hR ha haN e2 e3 (by
      refine ⟨r, hr, t_OB.to (V := updV (zc_V G ci rf (σ a)) j (.ref (zc_ad G q))) ⟨_, e1, q2, q3, t_set q4 hap hj _⟩ (fun i _ => ?_)⟩
      by_cases hij : i = j
      · subst hij
        show updV _ i _ i = zc_V G ci (zu rf i (some q)) (σ a) i
        unfold updV zc_V
        rw [if_pos rfl, hty, zu_self]
        rfl
      · show updV _ j _ i = zc_V G ci (zu rf j (some q)) (σ a) i
        unfold updV zc_V
        rw [if_neg hij, zu_ne _ _ hij])
    rw [zu_same, hσ] at h2
    exact h2
/-- one cell is new -/
theorem zc_R.push {H H1 : Heap} {c : zc_S} {f : Nat → Int32} (hR : zc_R G (N, sh, σ) H) (hz : H1.size = H.size + 1) (oq : ∀ q : Nat, q < H.size → H1[q]? = H[q]?) (hc : zc_cell G N c f H1) : zc_R G (N + 1, zu sh N c, zu σ N f) H1 := by
  obtain ⟨h1, h2, h3, h4, h5⟩ := hR
  have h1 : 3 ≤ N := h1
  have h2 : H.size + 3 = G.1.size + N := h2
  refine ⟨Nat.le_succ_of_le h1, by show H1.size + 3 = G.1.size + (N + 1); omega, fun q hq => ?_, fun k hk hkN => ?_, fun k hk => ?_⟩
  · rw [oq q (by omega)]
    exact h3 q hq
  · have hkN : k < N + 1 := hkN
    by_cases hka : k = N
    · subst hka
      show zc_cell G k (zu sh k c k) (zu σ k f k) H1
      rw [zu_self, zu_self]
      exact hc
    · show zc_cell G k (zu sh N c k) (zu σ N f k) H1
      rw [zu_ne _ _ hka, zu_ne _ _ hka]
      exact (h4 k hk (show k < N by omega)).kept (oq _ (by rw [zc_ad_ge G hk]; omega))
  · show (zu sh N c k).1 = 0 ∧ (zu sh N c k).2.1 = _ ∧ zu σ N f k = _
    rw [zu_ne _ _ (show k ≠ N by omega), zu_ne _ _ (show k ≠ N by omega)]
    exact h5 k hk
theorem zc_ad_new {H : Heap} (hR : zc_R G (N, sh, σ) H) : zc_ad G N = H.size := by
  obtain ⟨h1, h2, -⟩ := hR
  have h1 : 3 ≤ N := h1
  have h2 : H.size + 3 = G.1.size + N := h2
  rw [zc_ad_ge G h1]
  omega
theorem zc_S.push {s : State} {H H1 : Heap} {locs : List Loc} (hS : va_S (zc_A G) s.heap H locs) (hz : H1.size = H.size + 1) (oq : ∀ q : Nat, q < H.size → H1[q]? = H[q]?) : va_S (zc_A G) s.heap H1 locs :=
  ⟨Nat.le_trans hS.1 (by omega), fun q g1 g2 => (oq q (Nat.lt_of_lt_of_le g1 hS.1)).trans (hS.2.1 q g1 g2), hS.2.2⟩
theorem z_new {ci idx : Nat} {r : vw_C} (hd : decode mi.2.1 pc = .ok (.new idx, 3)) (hr : zc_cl[ci]? = some r) (hw1 : Cond.classLink mi.1.cls idx r.1 ∈ zc_tb) (hw2 : Cond.instantiable r.1 r.2.2 ∈ zc_tb) (hw3 : Cond.initialized r.1 ∈ zc_tb) (hdf : ∀ j, j < r.2.2 → defaultValue (zc_ty ci j) = if zc_isr (zc_ty ci j) then .null else .int 0) (hka : ka + 1 ≤ mc) (hna : na + r.2.2 ≤ ms)
    (k : zz G mi d mc ms Q (pc + 3) lv (.ref N :: st) (N + 1, zu sh N (ci + 3, r.2.2, fun _ => none), zu σ N (fun _ => 0)) (ka + 1) (na + r.2.2)) : zz G mi d mc ms Q pc lv st (N, sh, σ) ka na :=
  fun p l e R s m args below meth c Qw C H locs ls hR hS hl => by
    have hKn := C.2.2.2.1.1.1 ci r hr
    have e0 := zc_ad_new hR
    refine W.newcK C.1.1 C.1.2.1 C.1.2.2.2.1 (C.2.1 _ hw1) (C.2.1 _ hw2) (C.2.1 _ hw3) rfl hd (Nat.le_trans hka C.2.2.1.2.2.1) (Nat.le_trans hna C.2.2.1.2.2.2) hKn.2.1 e0.symm fun H1 kC hkC e1 z1 o1 => ?_
    refine k p l e R s m args below meth c Qw C H1 _ ls ?_ (zc_S.push hS (by rw [z1, e0]) (fun q hq => o1 q (by rw [e0]; exact hq))) hl
    refine zc_R.push hR (by rw [z1, e0]) (fun q hq => o1 q (by rw [e0]; exact hq)) ?_
    refine ⟨r, hr, (u_born (zc_ty ci) C.2.1 (zc_in ci r hr) hKn hkC e1 (zc_tyok ci r hr)).to (fun j hj => ?_)⟩
    rw [hdf j hj]
    unfold zc_V
    cases zc_isr (zc_ty ci j) <;> rfl
theorem z_newi {n v : Nat} {x : Int32} (hd : decode mi.2.1 pc = .ok (.newarray .int, 2)) (hn : ¬ x < 0) (hx : x.toNatClampNeg = n) (hb : n * 4 ≤ 536870912) (hw : Cond.arrayClass .int ∈ zc_tb) (hka : ka + 1 ≤ mc) (hna : na + n ≤ ms)
    (k : zz G mi d mc ms Q (pc + 2) lv (.ref N :: st) (N + 1, zu sh N (0, n, fun _ => none), zu σ N (fun _ => 0)) (ka + 1) (na + n)) : zz G mi d mc ms Q pc lv (.int x :: st) (N, sh, σ) ka na :=
  fun p l e R s m args below meth c Qw C H locs ls hR hS hl => by
    have e0 := zc_ad_new hR
    refine va_newaK C.1.1 C.1.2.1 (atype := .int) (C.2.1 _ hw) rfl hd rfl hn hx hb (Nat.le_trans hka C.2.2.1.2.2.1) (Nat.le_trans hna C.2.2.1.2.2.2) e0.symm fun H1 cA e1 z1 o1 hAr hNm => ?_
    have hcA : cA = G.2.2.1 0 := Option.some.inj (hNm.symm.trans (C.2.2.2.1.1.2 0 _ rfl).2)
    subst hcA
    refine k p l e R s m args below meth c Qw C H1 _ ls ?_ (zc_S.push hS (by rw [z1, e0]) (fun q hq => o1 q (by rw [e0]; exact hq))) hl
    refine zc_R.push hR (by rw [z1, e0]) (fun q hq => o1 q (by rw [e0]; exact hq)) ?_
    exact e1
theorem z_newz {n v : Nat} {x : Int32} (hd : decode mi.2.1 pc = .ok (.newarray .boolean, 2)) (hn : ¬ x < 0) (hx : x.toNatClampNeg = n) (hb : n * 1 ≤ 536870912) (hw : Cond.arrayClass .boolean ∈ zc_tb) (hka : ka + 1 ≤ mc) (hna : na + n ≤ ms)
    (k : zz G mi d mc ms Q (pc + 2) lv (.ref N :: st) (N + 1, zu sh N (1, n, fun _ => none), zu σ N (fun _ => 0)) (ka + 1) (na + n)) : zz G mi d mc ms Q pc lv (.int x :: st) (N, sh, σ) ka na :=
  fun p l e R s m args below meth c Qw C H locs ls hR hS hl => by
    have e0 := zc_ad_new hR
    refine va_newaK C.1.1 C.1.2.1 (atype := .boolean) (C.2.1 _ hw) rfl hd rfl hn hx hb (Nat.le_trans hka C.2.2.1.2.2.1) (Nat.le_trans hna C.2.2.1.2.2.2) e0.symm fun H1 cA e1 z1 o1 hAr hNm => ?_
    have hcA : cA = G.2.2.1 1 := Option.some.inj (hNm.symm.trans (C.2.2.2.1.1.2 1 _ rfl).2)
    subst hcA
    refine k p l e R s m args below meth c Qw C H1 _ ls ?_ (zc_S.push hS (by rw [z1, e0]) (fun q hq => o1 q (by rw [e0]; exact hq))) hl
    refine zc_R.push hR (by rw [z1, e0]) (fun q hq => o1 q (by rw [e0]; exact hq)) ?_
    exact e1
theorem z_anew {n idx : Nat} {x : Int32} (hd : decode mi.2.1 pc = .ok (.anewarray idx, 3)) (hn : ¬ x < 0) (hx : x.toNatClampNeg = n) (hb : n * 4 ≤ 536870912) (hw1 : Cond.classLink mi.1.cls idx RX7 ∈ zc_tb) (hw2 : Cond.arrayOver (.object RX7) ∈ zc_tb) (hka : ka + 1 ≤ mc) (hna : na + n ≤ ms)
    (k : zz G mi d mc ms Q (pc + 3) lv (.ref N :: st) (N + 1, zu sh N (2, n, fun _ => none), zu σ N (fun _ => 0)) (ka + 1) (na + n)) : zz G mi d mc ms Q pc lv (.int x :: st) (N, sh, σ) ka na :=
  fun p l e R s m args below meth c Qw C H locs ls hR hS hl => by
    have e0 := zc_ad_new hR
    subst hx
    refine W.anew C.1.1 C.1.2.1 C.1.2.2.2.1 (C.2.1 _ hw1) (C.2.1 _ hw2) rfl hd rfl hn hb (Nat.le_trans hka C.2.2.1.2.2.1) (Nat.le_trans hna C.2.2.1.2.2.2) fun cA kA comp f1 f2 f3 f4 => ?_
    generalize hH1 : H.push ({ cls := cA, slots := Array.replicate x.toNatClampNeg .null, vm := .none } : Cell) = H1
    have z1 : H1.size = H.size + 1 := by rw [← hH1, Array.size_push]
    have e1 : H1[H.size]? = some (arrV cA x.toNatClampNeg (fun _ => .null)) := by rw [← hH1, Array.getElem?_push_size, ← arrV_new]
    have o1 : ∀ q : Nat, q < H.size → H1[q]? = H[q]? := fun q hq => by rw [← hH1, Array.getElem?_push, if_neg (Nat.ne_of_lt hq)]
    obtain ⟨kB, compB, b1, b2, b3, b4⟩ := (C.2.2.2.1.1.2 2 _ rfl).2
    have hcA : cA = G.2.2.1 2 := Option.some.inj (f1.symm.trans b4)
    subst hcA
    have k2 := k p l e R s m args below meth c Qw C H1 locs ls (zc_R.push hR z1 o1 (show H1[zc_ad G N]? = _ by rw [e0]; exact e1)) (zc_S.push hS z1 o1) hl
    rw [List.map_cons] at k2
    have e2 : zc_cv G (.ref N) = .ref H.size := by show Value.ref (zc_ad G N) = _; rw [e0]
    rw [e2] at k2
    exact k2
/-- a reference is put into an array of references -/
theorem z_aast {a n q qn : Nat} {rf rq : Nat → Option Nat} {i : Int32} {sh' : Nat → zc_S} (hd : decode mi.2.1 pc = .ok (.aastore, 1)) (ha : 3 ≤ a) (haN : a < N) (hs : sh a = (2, n, rf)) (hin : vp_in i n) (hq : 3 ≤ q) (hqN : q < N) (hsq : sh q = (7 + 3, qn, rq)) (hσ : zu sh a (2, n, zu rf i.toNatClampNeg (some q)) = sh') (k : zz G mi d mc ms Q (pc + 1) lv st (N, sh', σ) ka na) : zz G mi d mc ms Q pc lv (.ref q :: .int i :: .ref a :: st) (N, sh, σ) ka na :=
  fun p l e R s m args below meth c Qw C H locs ls hR hS hl => by
    have hc : zc_cell G a (sh a) (σ a) H := hR.2.2.2.1 a ha haN
    rw [hs] at hc
    have hc : H[zc_ad G a]? = some (arrV (G.2.2.1 2) n (fun j => va_rf (zc_rf G (rf j)))) := hc
    have hlt : i.toNatClampNeg < n := Nat.not_le.mp fun q => hin (Or.inr q)
    have h0 : ¬ i < 0 := fun q => hin (Or.inl q)
    obtain ⟨cellV, g1, g2, g3, -⟩ := zc_obj (s := s) hR hq hqN hsq (r := (RX7, TX7, 5)) rfl
    have hcls := (C.2.2.2.1.1.1 7 (RX7, TX7, 5) rfl).2
    obtain ⟨kA, comp, k1, k2, k3, -⟩ := (C.2.2.2.1.1.2 2 _ rfl).2
    have hcomp : comp = G.2.1.1 7 := Option.some.inj (k3.symm.trans hcls.1)
    subst hcomp
    obtain ⟨kC, hkC, -⟩ := hcls.2
    refine W.aast C.1.1 C.1.2.1 hc (fun q h => by cases h) (fun h => by cases h) k1 k2 rfl hkC ⟨h0, by rw [arrV_size]; exact hlt⟩ g1 (fun q h => by rw [g3] at h; cases h) (by rw [g2]; exact hkC) (by rw [g2]; exact va_assign hcls) rfl rfl hd fun H1 e1 z1 o1 => ?_
    refine k p l e R s m args below meth c Qw C H1 _ ls ?_ (zc_S_in hS ha z1 o1) hl
    have h2 := zc_R.set (c := (2, n, zu rf i.toNatClampNeg (some q))) (f := σ a) hR ha haN z1 o1 (by
      show H1[zc_ad G a]? = some (arrV _ _ _)
      rw [e1, arrV_store]
      congr 2
      funext j
      by_cases hj : j = i.toNatClampNeg
      · subst hj
        simp [updV, zu, zc_rf, va_rf]
      · simp [updV, zu, hj])
    rw [zu_same, hσ] at h2
    exact h2
theorem z_way {idx : Nat} {nm : String} {q : Nat} (hd : decode mi.2.1 pc = .ok (.getstatic idx, 3)) (hw : Cond.fieldLink mi.1.cls idx RX1 nm "[I" ∈ zc_tb) (hq : (nm = "WAY_X" ∧ q = 1) ∨ (nm = "WAY_Y" ∧ q = 2)) (k : zz G mi d mc ms Q (pc + 3) lv (.ref q :: st) (N, sh, σ) ka na) : zz G mi d mc ms Q pc lv st (N, sh, σ) ka na :=
  fun p l e R s m args below meth c Qw C H locs ls hR hS hl => by
    have key : ∀ (v : Value), va_Z RX1 nm "[I" v (zc_A G) s G.1 → v = zc_cv G (.ref q) → W p l e R s m args below meth c H locs ka na Qw (F0 m pc ls (st.map (zc_cv G))) := by
      intro v hZ hv
      obtain ⟨cf, kf, fi, f, a, cell, h1, h2, h3, h4, h5, h6, h7, h8⟩ := hZ
      exact W.gets C.1.1 C.1.2.1 C.1.2.2.2.1 (C.2.1 _ hw) h1 h2 h3 h4 (by rw [hR.2.2.1 a (Array.getElem?_eq_some_iff.mp h5).1]; exact h5) (fun e => by rw [e] at h6; cases h6) h7 rfl hd (by rw [hv]; exact k p l e R s m args below meth c Qw C H locs ls hR hS hl)
    rcases hq with ⟨rfl, rfl⟩ | ⟨rfl, rfl⟩
    · exact key _ C.2.2.2.1.2.2.1 rfl
    · exact key _ C.2.2.2.1.2.2.2.1 rfl
theorem z_objInit {idx a : Nat} (hd : decode mi.2.1 pc = .ok (.invokespecial idx, 3)) (hw1 : Cond.methodLink mi.1.cls idx objectInit ∈ zc_tb) (hw2 : Cond.instanceMethod objectInit ∈ zc_tb) (hw3 : Cond.code objectInit ⟨#[0xb1]⟩ 1 none ∈ zc_tb) (hdd : 1 ≤ d) (hst : (st.map fun v => v.category).sum ≤ 8) {h : zc_H} (k : zz G mi d mc ms Q (pc + 3) lv st h ka na) : zz G mi d mc ms Q pc lv (.ref a :: st) h ka na :=
  fun p l e R s m args below meth c Qw C H locs ls hR hS hl => by
    refine W.objInit C.1.1 C.1.2.1 C.1.2.2.2.1 (C.2.1 _ hw1) (C.2.1 _ hw2) (C.2.1 _ hw3) rfl ((zl_size hl).trans C.1.2.2.1.symm) rfl hd (Nat.le_trans hdd C.2.2.1.1) ?_ (k p l e R s m args below meth c Qw C H locs ls hR hS hl)
    have e1 := zc_cats G st
    have e2 := C.2.2.1.2.1
    show 2 * 0 + _ + 12 ≤ _
    omega
end ZMAKE
end
section
/-! ===== contracts over the lighter machine, and calls ===== -/
def zc_P (G : zc_G) (As : List Value) (h : zc_H) : Array Value → State → Prop := fun av U => av = (As.map (zc_cv G)).toArray ∧ zc_K G U ∧ zc_R G h U.heap
def zc_Q (G : zc_G) (Q : Option Value → zc_H → Prop) : Array Value → State → Outcome → State → Prop := fun _ u oc t => (∃ (r : Option Value) (h : zc_H), oc = .returned (r.map (zc_cv G)) ∧ Q r h ∧ zc_R G h t.heap) ∧ va_F (zc_A G) u t
/-- a method's contract: called with these values at these cells it returns, with Q of its answer and the cells; mc cells of ms places come new; d frames are enough -/
def sp (mi : zc_M) (d mc ms : Nat) (As : List Value) (h : zc_H) (Q : Option Value → zc_H → Prop) : Prop := ∀ (G : zc_G) (l : Launch), Met l mi.1 (.code mi.1 mi.2.1 mi.2.2.1 mi.2.2.2 :: zc_tb) ({ frames := d, cells := mc, slots := ms, locals := 64 * d }) (zc_P G As h) (zc_Q G Q) mc ms (zc_A G)
theorem zc_R.lt {G : zc_G} {h : zc_H} {H : Heap} (hR : zc_R G h H) : G.1.size ≤ H.size := by
  obtain ⟨h1, h2, -⟩ := hR
  omega
theorem lv_args_mem : ∀ (vs : List Value) (k i : Nat) (v : Value), (∀ w ∈ vs, w.category = 1) → vs[i]? = some v → (k + i, v) ∈ lv_args k vs
  | [], _, i, v, _, h => by simp at h
  | w :: vs, k, 0, v, _, h => by
    simp only [List.getElem?_cons_zero, Option.some.injEq] at h
    subst h
    exact List.mem_cons_self
  | w :: vs, k, i + 1, v, hc, h => by
    have hw : w.category = 1 := hc w List.mem_cons_self
    have e : lv_args k (w :: vs) = (k, w) :: lv_args (k + 1) vs := by
      show (k, w) :: lv_args (if w.category = 2 then k + 2 else k + 1) vs = _
      rw [if_neg (by omega)]
    rw [e]
    refine List.mem_cons_of_mem _ ?_
    have := lv_args_mem vs (k + 1) i v (fun x hx => hc x (List.mem_cons_of_mem _ hx)) (by simpa using h)
    rwa [show k + (i + 1) = k + 1 + i by omega]
theorem lg_sl_len : ∀ (vs : List Value), (∀ w ∈ vs, w.category = 1) → (lg_sl vs).length = vs.length
  | [], _ => rfl
  | w :: vs, hc => by
    have hw : w.category = 1 := hc w List.mem_cons_self
    have ih := lg_sl_len vs (fun x hx => hc x (List.mem_cons_of_mem _ hx))
    show (List.flatMap _ (w :: vs)).length = _
    rw [List.flatMap_cons, List.length_append, if_neg (by omega)]
    show 1 + (lg_sl vs).length = vs.length + 1
    omega
theorem sp_of {mi : zc_M} {d mc ms : Nat} {As : List Value} {h : zc_H} {Q : Option Value → zc_H → Prop} {lv : List (Option Value)} (hy : plainName mi.1.cls = true) (hc : ∀ w ∈ As, w.category = 1) (hn : As.length ≤ mi.2.2.1) (hlv : ∀ (i : Nat) (v : Value), lv[i]? = some (some v) → As[i]? = some v)
    (k : ∀ G : zc_G, zz G mi d mc ms Q 0 lv [] h 0 0) : sp mi d mc ms As h Q := by
  intro G l
  refine Met.ofW (cc := mi.2.1) (maxL := mi.2.2.1) (ret := mi.2.2.2) hy rfl ?_
  intro p e s m args below meth c s₁ B hml hv
  obtain ⟨rfl, hK, hR⟩ := hv
  have hts := atoms_spec (ws := .code mi.1 mi.2.1 mi.2.2.1 mi.2.2.2 :: zc_tb) B.pre
  have hown : s.vm.findClass mi.1.cls = some m.cls := findClass_of_methodNamed B.named
  have hlocks := B.notSynchronized
  have hr := B.returns
  have hname : meth.name = mi.1.name := (name_of_methodNamed B.named B.method).1
  have hcc : ∀ w ∈ As.map (zc_cv G), w.category = 1 := fun w hw => by
    obtain ⟨v, hv, rfl⟩ := List.mem_map.mp hw
    rw [zc_cv_cat]
    exact hc v hv
  have hlen : (lg_sl (As.map (zc_cv G))).length ≤ mi.2.2.1 := by
    rw [lg_sl_len _ hcc, List.length_map]
    exact hn
  have hl := lv_entry (As.map (zc_cv G)) (n := mi.2.2.1) hlen
  rw [lg_entry_eq]
  refine k G p l e _ s m _ below meth c _ ⟨⟨B.exec, B.bytes, hml, hown, hname⟩, fun w hw => hts w (List.mem_cons_of_mem _ hw), ⟨Nat.le_refl _, Nat.le_refl _, Nat.le_refl _, Nat.le_refl _⟩, hK, hR.lt, ?_⟩ s.heap [] _ hR va_S.rf ⟨_, hl, fun i v hi => ?_⟩
  · intro r h' H locs pc ls hq hR' hS hrt
    cases r with
    | none =>
      obtain ⟨hd, hno⟩ := hrt
      exact W.vret B.exec B.bytes (hr.trans hno) (fun t ht hW => ⟨⟨none, h', rfl, hq, by rw [ht]; exact hR'⟩, hS.F ht⟩) hS.2.2 hd
    | some v =>
      cases v with
      | int x =>
        obtain ⟨hd, ty, hty, hnr⟩ := hrt
        exact W.zret B.exec B.bytes (hr.trans hty) hnr (fun t ht hW => ⟨⟨some (.int x), h', rfl, hq, by rw [ht]; exact hR'⟩, hS.F ht⟩) hS.2.2 hd
      | null =>
        obtain ⟨hd, ⟨ty, hty, htt⟩, -⟩ := hrt
        exact W.aret (v := .null) B.exec B.bytes (hr.trans hty) htt (Or.inl rfl) (fun t ht hW => ⟨⟨some .null, h', rfl, hq, by rw [ht]; exact hR'⟩, hS.F ht⟩) hS.2.2 hd
      | ref a =>
        obtain ⟨hd, ⟨ty, hty, htt⟩, -⟩ := hrt
        exact W.aret (v := .ref (zc_ad G a)) B.exec B.bytes (hr.trans hty) htt (Or.inr ⟨_, rfl⟩) (fun t ht hW => ⟨⟨some (.ref a), h', rfl, hq, by rw [ht]; exact hR'⟩, hS.F ht⟩) hS.2.2 hd
      | long x => exact absurd hrt.2.2 (by simp)
      | float x => exact absurd hrt.2.2 (by simp)
      | double x => exact absurd hrt.2.2 (by simp)
      | retAddr x => exact absurd hrt.2.2 (by simp)
  · have h1 := hlv i v hi
    have h2 : (As.map (zc_cv G))[i]? = some (zc_cv G v) := by rw [List.getElem?_map, h1]; rfl
    have h3 := lv_args_mem _ 0 i _ hcc h2
    rw [Nat.zero_add] at h3
    exact ⟨h3, hc v (List.mem_of_getElem? h1)⟩
theorem sp.imp {mi : zc_M} {d mc ms : Nat} {As : List Value} {h : zc_H} {Q Q' : Option Value → zc_H → Prop} (k : sp mi d mc ms As h Q) (hq : ∀ r h', Q r h' → Q' r h') : sp mi d mc ms As h Q' := by
  intro G l p e ha hc hk s m args below hf hfit hpre hkk
  obtain ⟨kk, o, h1, h2, h3, hQ⟩ := k G l p e ha hc hk s m args below hf hfit hpre hkk
  refine ⟨kk, o, h1, h2, h3, ?_⟩
  obtain ⟨⟨⟨r, h', e1, e2, e3⟩, hF⟩, hL⟩ := hQ
  exact ⟨⟨⟨r, h', e1, hq r h' e2, e3⟩, hF⟩, hL⟩
def zc_lk (own : String) (idx : Nat) (mj : zc_M) (n : Nat) : Prop := Cond.methodLink own idx mj.1 ∈ lw_tbl ∧ goodWord (.methodLink own idx mj.1) = true ∧ Cond.initialized mj.1.cls ∈ lw_tbl ∧ goodWord (.initialized mj.1.cls) = true ∧ Cond.code mj.1 mj.2.1 mj.2.2.1 mj.2.2.2 ∈ lw_tbl ∧ goodWord (.code mj.1 mj.2.1 mj.2.2.1 mj.2.2.2) = true ∧ (mj.1.cls ≠ "java/lang/invoke/MethodHandle" ∧ mj.1.cls ≠ "java/lang/invoke/VarHandle" ∧ (parseMethodDescriptor mj.1.desc).map (fun d => d.parameters.length) = some n) ∧ mj.2.2.1 ≤ 45
def zc_ln (own : String) (idx : Nat) (mj : zc_M) (n : Nat) : Prop := Cond.methodLinkNest own idx mj.1 "MarkCabinet" ∈ lw_tbl ∧ Cond.initialized mj.1.cls ∈ lw_tbl ∧ goodWord (.initialized mj.1.cls) = true ∧ Cond.code mj.1 mj.2.1 mj.2.2.1 mj.2.2.2 ∈ lw_tbl ∧ goodWord (.code mj.1 mj.2.1 mj.2.2.1 mj.2.2.2) = true ∧ (mj.1.cls ≠ "java/lang/invoke/MethodHandle" ∧ mj.1.cls ≠ "java/lang/invoke/VarHandle" ∧ (parseMethodDescriptor mj.1.desc).map (fun d => d.parameters.length) = some n) ∧ mj.2.2.1 ≤ 45
def zc_lv (mj : zc_M) : Prop := Cond.instanceMethod mj.1 ∈ lw_tbl ∧ goodWord (.instanceMethod mj.1) = true ∧ Cond.selects mj.1.cls mj.1 mj.1 ∈ lw_tbl ∧ goodWord (.selects mj.1.cls mj.1 mj.1) = true
def zc_ls (mj : zc_M) : Prop := Cond.static mj.1 ∈ lw_tbl ∧ goodWord (.static mj.1) = true
def zc_li (mj : zc_M) : Prop := mj.1.name = "<init>" ∧ Cond.instanceMethod mj.1 ∈ lw_tbl ∧ goodWord (.instanceMethod mj.1) = true
theorem zc_gw {mj : zc_M} (h1 : Cond.code mj.1 mj.2.1 mj.2.2.1 mj.2.2.2 ∈ lw_tbl) (h2 : goodWord (.code mj.1 mj.2.1 mj.2.2.1 mj.2.2.2) = true) : GoodIn zc_tb (.code mj.1 mj.2.1 mj.2.2.1 mj.2.2.2 :: zc_tb) := fun w hw => by
  rcases List.mem_cons.mp hw with rfl | hw
  · exact ⟨zc_mem h1 h2, good_of_word h2⟩
  · exact zc_good w hw
theorem zc_blind (G : zc_G) (As : List Value) (h : zc_H) : FrameBlind (zc_P G As h) := fun a U g mk q => ⟨q.1, zc_K.same (s := U) (U := U.calling g mk a) rfl q.2.1, q.2.2⟩
section ZCALL
variable {G : zc_G} {mi mj : zc_M} {d mc ms : Nat} {Q Qj : Option Value → zc_H → Prop} {pc idx dj mcj msj n : Nat} {lv : List (Option Value)} {rest As : List Value} {h : zc_H} {ka na : Nat}
theorem zc_room {R : Room} {d dj maxL : Nat} (hR : d ≤ R.frames ∧ 64 * d ≤ R.locals) (h1 : dj + 1 ≤ d) (h2 : maxL ≤ 45) : (({ frames := dj, cells := mcj, slots := msj, locals := 64 * dj } : Room).frames + 1 ≤ R.frames ∧ 8 + (maxL + 11) + ({ frames := dj, cells := mcj, slots := msj, locals := 64 * dj } : Room).locals ≤ R.locals) := by
  refine ⟨Nat.le_trans h1 hR.1, ?_⟩
  show 8 + (maxL + 11) + 64 * dj ≤ R.locals
  omega
/-- what comes behind any call -/
theorem zc_behind {p : Program} {l : Launch} {e : Env} {R : Room} {s : State} {m : MethodId} {args : Array Value} {below : List Frame} {meth : Method} {c : Code} {Qw : State → Prop} {H : Heap} {locs : List Loc} {ls : Array Slot} {st0 : List Value} {a : Array Value}
    (C : zc_C G mi d mc ms Q p l e R s m args below meth c Qw) (hS : va_S (zc_A G) s.heap H locs) (hl : zl G ls mi.2.2.1 lv)
    (hr : va_Run p l e R s m args below meth c H locs ka na mcj msj (F0 m pc ls st0) (rest.map (zc_cv G)) (zc_Q G Qj a) (zc_A G))
    (k : ∀ (r : Option Value) (h' : zc_H), Qj r h' → zz G mi d mc ms Q (pc + 3) lv (r.toList ++ rest) h' (ka + mcj) (na + msj)) : W p l e R s m args below meth c H locs ka na Qw (F0 m pc ls st0) := by
  intro T hT X
  obtain ⟨v, st₀, t, T', L, h0, X', hL, e1, e2, ⟨⟨r, h', hv, hq, hR'⟩, hz, hk⟩, st⟩ := hr T hT X
  cases hv
  rw [h0] at hz hk
  obtain ⟨t2, a1, b1⟩ := k r h' hq p l e R s m args below meth c Qw C T'.heap (locs ++ L) ls (by rw [e1]; exact hR') ⟨Nat.le_trans hS.1 (by rw [e1]; exact hz), fun q h1 h2 => by rw [e1, hk q (Nat.lt_of_lt_of_le h1 hS.1) h2]; exact hS.2.1 q h1 h2, fun q hq => by
      rcases List.mem_append.mp hq with h | h
      · exact hS.2.2 q h
      · exact hL q h⟩ hl T' rfl X'
  refine ⟨t2, st t2 ?_, b1⟩
  have e3 : (r.toList ++ rest).map (zc_cv G) = (r.map (zc_cv G)).toList ++ rest.map (zc_cv G) := by cases r <;> simp
  rw [e3] at a1
  exact a1
theorem z_callS (hs : sp mj dj mcj msj As h Qj) (hd : decode mi.2.1 pc = .ok (.invokestatic idx, 3)) (lk : zc_lk mi.1.cls idx mj n) (lz : zc_ls mj) (hn : As.length = n) (hdj : dj + 1 ≤ d) (hrest : (rest.map fun v => v.category).sum ≤ 8) (hka : ka + mcj ≤ mc) (hna : na + msj ≤ ms)
    (k : ∀ (r : Option Value) (h' : zc_H), Qj r h' → zz G mi d mc ms Q (pc + 3) lv (r.toList ++ rest) h' (ka + mcj) (na + msj)) : zz G mi d mc ms Q pc lv (As.reverse ++ rest) h ka na :=
  fun p l e R s m args below meth c Qw C H locs ls hR hS hl => by
    obtain ⟨k1, k2, k3, k4, k5, k6, k7, k8⟩ := lk
    refine zc_behind C hS hl (va_runS (As := As.map (zc_cv G)) ⟨C.1.1, C.1.2.1, C.1.2.2.1, C.1.2.2.2.1, C.2.1⟩ (hs G l) ⟨callB_of n C.2.1 (zc_gw k5 k6) rfl rfl rfl (C.2.1 _ (zc_mem k3 k4)) (C.2.1 _ (zc_mem k1 k2)) k7 (zc_room ⟨C.2.2.1.1, C.2.2.1.2.1⟩ hdj k8), C.2.1 _ (zc_mem lz.1 lz.2)⟩ ⟨zc_blind G As h, fun U hU hW => ⟨rfl, C.2.2.2.1.warm hW, by rw [hU]; exact hR⟩⟩ rfl (by rw [List.length_map]; exact hn) (zl_size hl) (by rw [List.map_append, List.map_reverse]) ?_ hd ⟨Nat.le_trans hka C.2.2.1.2.2.1, Nat.le_trans hna C.2.2.1.2.2.2⟩) k
    have e1 := zc_cats G rest
    show 2 * 0 + _ ≤ 8
    omega
theorem z_callV {b ci nb : Nat} {r : vw_C} {N : Nat} {sh : Nat → zc_S} {σ : zc_N} {rf : Nat → Option Nat} (hs : sp mj dj mcj msj (.ref b :: As) (N, sh, σ) Qj) (hd : decode mi.2.1 pc = .ok (.invokevirtual idx, 3)) (lk : zc_lk mi.1.cls idx mj n) (lz : zc_lv mj) (hb : 3 ≤ b) (hbN : b < N) (hsb : sh b = (ci + 3, nb, rf)) (hr : zc_cl[ci]? = some r) (hcls : r.1 = mj.1.cls) (hn : As.length = n) (hdj : dj + 1 ≤ d) (hrest : (rest.map fun v => v.category).sum ≤ 8) (hka : ka + mcj ≤ mc) (hna : na + msj ≤ ms)
    (k : ∀ (r : Option Value) (h' : zc_H), Qj r h' → zz G mi d mc ms Q (pc + 3) lv (r.toList ++ rest) h' (ka + mcj) (na + msj)) : zz G mi d mc ms Q pc lv (As.reverse ++ .ref b :: rest) (N, sh, σ) ka na :=
  fun p l e R s m args below meth c Qw C H locs ls hR hS hl => by
    obtain ⟨k1, k2, k3, k4, k5, k6, k7, k8⟩ := lk
    obtain ⟨cell, q1, q2, q3, -⟩ := zc_obj (s := s) hR hb hbN hsb hr
    have hfc := (C.2.2.2.1.1.1 ci r hr).2.1
    refine zc_behind C hS hl (va_runV (C := mj.1.cls) (b := zc_ad G b) (As := As.map (zc_cv G)) ⟨C.1.1, C.1.2.1, C.1.2.2.1, C.1.2.2.2.1, C.2.1⟩ (hs G l) ⟨callB_of n C.2.1 (zc_gw k5 k6) rfl rfl rfl (C.2.1 _ (zc_mem k3 k4)) (C.2.1 _ (zc_mem k1 k2)) k7 (zc_room ⟨C.2.2.1.1, C.2.2.1.2.1⟩ hdj k8), C.2.1 _ (zc_mem lz.1 lz.2.1), C.2.1 _ (zc_mem lz.2.2.1 lz.2.2.2)⟩ ⟨zc_blind G (.ref b :: As) (N, sh, σ), ⟨cell, q1, by rw [q3]; rfl, by rw [q2, ← hcls]; exact hfc⟩, fun U hU hW => ⟨rfl, C.2.2.2.1.warm hW, by rw [hU]; exact hR⟩⟩ rfl (by rw [List.length_map]; exact hn) (zl_size hl) (by rw [List.map_append, List.map_reverse]; rfl) ?_ hd ⟨Nat.le_trans hka C.2.2.1.2.2.1, Nat.le_trans hna C.2.2.1.2.2.2⟩) k
    have e1 := zc_cats G rest
    show 2 * 0 + _ ≤ 8
    omega
theorem z_callI {b : Nat} (hret : mj.2.2.2 = none) (hs : sp mj dj mcj msj (.ref b :: As) h Qj) (hd : decode mi.2.1 pc = .ok (.invokespecial idx, 3)) (lk : zc_lk mi.1.cls idx mj n) (lz : zc_li mj) (hn : As.length = n) (hdj : dj + 1 ≤ d) (hrest : (rest.map fun v => v.category).sum ≤ 8) (hka : ka + mcj ≤ mc) (hna : na + msj ≤ ms)
    (k : ∀ (r : Option Value) (h' : zc_H), Qj r h' → zz G mi d mc ms Q (pc + 3) lv (r.toList ++ rest) h' (ka + mcj) (na + msj)) : zz G mi d mc ms Q pc lv (As.reverse ++ .ref b :: rest) h ka na :=
  fun p l e R s m args below meth c Qw C H locs ls hR hS hl => by
    obtain ⟨yj, bj, nj, rj⟩ := mj
    have hret : rj = none := hret
    subst hret
    obtain ⟨k1, k2, k3, k4, k5, k6, k7, k8⟩ := lk
    refine zc_behind C hS hl (va_runI (b := zc_ad G b) (As := As.map (zc_cv G)) ⟨C.1.1, C.1.2.1, C.1.2.2.1, C.1.2.2.2.1, C.2.1⟩ (hs G l) ⟨callB_of n C.2.1 (zc_gw (mj := (yj, bj, nj, none)) k5 k6) rfl rfl rfl (C.2.1 _ (zc_mem k3 k4)) (C.2.1 _ (zc_mem k1 k2)) k7 (zc_room ⟨C.2.2.1.1, C.2.2.1.2.1⟩ hdj k8), lz.1, C.2.1 _ (zc_mem lz.2.1 lz.2.2)⟩ ⟨zc_blind G (.ref b :: As) h, fun U hU hW => ⟨rfl, C.2.2.2.1.warm hW, by rw [hU]; exact hR⟩⟩ rfl (by rw [List.length_map]; exact hn) (zl_size hl) (by rw [List.map_append, List.map_reverse]; rfl) ?_ hd ⟨Nat.le_trans hka C.2.2.1.2.2.1, Nat.le_trans hna C.2.2.1.2.2.2⟩) k
    have e1 := zc_cats G rest
    show 2 * 0 + _ ≤ 8
    omega
theorem zc_nest_in {own : String} {i : Nat} {y : MethodName} {host : String} (h : Cond.methodLinkNest own i y host ∈ lw_tbl) : Cond.methodLinkNest own i y host ∈ zc_nest := List.mem_filter.mpr ⟨h, rfl⟩
theorem z_callIN {b : Nat} (hret : mj.2.2.2 = none) (hs : sp mj dj mcj msj (.ref b :: As) h Qj) (hd : decode mi.2.1 pc = .ok (.invokespecial idx, 3)) (lk : zc_ln mi.1.cls idx mj n) (lz : zc_li mj) (hn : As.length = n) (hdj : dj + 1 ≤ d) (hrest : (rest.map fun v => v.category).sum ≤ 8) (hka : ka + mcj ≤ mc) (hna : na + msj ≤ ms)
    (k : ∀ (r : Option Value) (h' : zc_H), Qj r h' → zz G mi d mc ms Q (pc + 3) lv (r.toList ++ rest) h' (ka + mcj) (na + msj)) : zz G mi d mc ms Q pc lv (As.reverse ++ .ref b :: rest) h ka na :=
  fun p l e R s m args below meth c Qw C H locs ls hR hS hl => by
    obtain ⟨yj, bj, nj, rj⟩ := mj
    have hret : rj = none := hret
    subst hret
    obtain ⟨k1, k3, k4, k5, k6, k7, k8⟩ := lk
    refine zc_behind C hS hl (va_runIN (b := zc_ad G b) (As := As.map (zc_cv G)) ⟨C.1.1, C.1.2.1, C.1.2.2.1, C.1.2.2.2.1, C.2.1⟩ (hs G l) ⟨va_cnB n C.2.1 (zc_gw (mj := (yj, bj, nj, none)) k5 k6) rfl rfl rfl (C.2.2.2.1.2.2.2.2 _ (zc_nest_in k1)) (C.2.1 _ (zc_mem k3 k4)) k7 (zc_room ⟨C.2.2.1.1, C.2.2.1.2.1⟩ hdj k8), lz.1, C.2.1 _ (zc_mem lz.2.1 lz.2.2)⟩ ⟨zc_blind G (.ref b :: As) h, fun U hU hW => ⟨rfl, C.2.2.2.1.warm hW, by rw [hU]; exact hR⟩⟩ rfl (by rw [List.length_map]; exact hn) (zl_size hl) (by rw [List.map_append, List.map_reverse]; rfl) ?_ hd ⟨Nat.le_trans hka C.2.2.1.2.2.1, Nat.le_trans hna C.2.2.1.2.2.2⟩) k
    have e1 := zc_cats G rest
    show 2 * 0 + _ ≤ 8
    omega
theorem z_callSN (hs : sp mj dj mcj msj As h Qj) (hd : decode mi.2.1 pc = .ok (.invokestatic idx, 3)) (lk : zc_ln mi.1.cls idx mj n) (lz : zc_ls mj) (hn : As.length = n) (hdj : dj + 1 ≤ d) (hrest : (rest.map fun v => v.category).sum ≤ 8) (hka : ka + mcj ≤ mc) (hna : na + msj ≤ ms)
    (k : ∀ (r : Option Value) (h' : zc_H), Qj r h' → zz G mi d mc ms Q (pc + 3) lv (r.toList ++ rest) h' (ka + mcj) (na + msj)) : zz G mi d mc ms Q pc lv (As.reverse ++ rest) h ka na :=
  fun p l e R s m args below meth c Qw C H locs ls hR hS hl => by
    obtain ⟨k1, k3, k4, k5, k6, k7, k8⟩ := lk
    refine zc_behind C hS hl (va_runSN (As := As.map (zc_cv G)) ⟨C.1.1, C.1.2.1, C.1.2.2.1, C.1.2.2.2.1, C.2.1⟩ (hs G l) ⟨va_cnB n C.2.1 (zc_gw k5 k6) rfl rfl rfl (C.2.2.2.1.2.2.2.2 _ (zc_nest_in k1)) (C.2.1 _ (zc_mem k3 k4)) k7 (zc_room ⟨C.2.2.1.1, C.2.2.1.2.1⟩ hdj k8), C.2.1 _ (zc_mem lz.1 lz.2), trivial⟩ ⟨zc_blind G As h, fun U hU hW => ⟨rfl, C.2.2.2.1.warm hW, by rw [hU]; exact hR⟩⟩ rfl (by rw [List.length_map]; exact hn) (zl_size hl) (by rw [List.map_append, List.map_reverse]) ?_ hd ⟨Nat.le_trans hka C.2.2.1.2.2.1, Nat.le_trans hna C.2.2.1.2.2.2⟩) k
    have e1 := zc_cats G rest
    show 2 * 0 + _ ≤ 8
    omega
end ZCALL
end
section
/-! ===== printed by wip/whole/links.py: where each cell lies, and what the instructions link to ===== -/
abbrev zp : Type := Nat × Nat × (Nat → Nat)
/-- the cells: 0 the script, 1 and 2 the two static tables, then the system's, the reference's, then three for each print: itself, its points, its part -/
def SH (P : zp) : Nat → zc_S := fun k => match k with
  | 0 => (0, P.1, fun _ => none)
  | 1 => (0, 8, fun _ => none)
  | 2 => (0, 8, fun _ => none)
  | 3 => (11, 12, fun j => match j with | 0 => some 4 | 1 => some 8 | 2 => some 9 | 4 => some 10 | 5 => some 23 | 7 => some 25 | 8 => some 27 | _ => none)
  | 4 => (4, 3, fun j => match j with | 0 => some 5 | 1 => some 6 | 2 => some 7 | _ => none)
  | 5 => (0, 18, fun _ => none)
  | 6 => (0, 18, fun _ => none)
  | 7 => (0, 324, fun _ => none)
  | 8 => (0, 12, fun _ => none)
  | 9 => (2, 24, fun j => if j < P.2.1 then some (57 + 3 * j) else none)
  | 10 => (7, 10, fun j => match j with | 1 => some 11 | 2 => some 12 | 3 => some 16 | 4 => some 19 | 5 => some 20 | 6 => some 21 | 7 => some 22 | _ => none)
  | 11 => (0, 2304, fun _ => none)
  | 12 => (3, 3, fun j => match j with | 0 => some 13 | 1 => some 14 | 2 => some 15 | _ => none)
  | 13 => (0, 22, fun _ => none)
  | 14 => (0, 22, fun _ => none)
  | 15 => (0, 3, fun _ => none)
  | 16 => (8, 4, fun j => match j with | 0 => some 17 | 2 => some 18 | _ => none)
  | 17 => (0, 12, fun _ => none)
  | 18 => (0, 12, fun _ => none)
  | 19 => (0, 12, fun _ => none)
  | 20 => (0, 12, fun _ => none)
  | 21 => (9, 4, fun _ => none)
  | 22 => (0, 31, fun _ => none)
  | 23 => (6, 10, fun j => match j with | 9 => some 24 | _ => none)
  | 24 => (0, 12, fun _ => none)
  | 25 => (6, 10, fun j => match j with | 9 => some 26 | _ => none)
  | 26 => (0, 12, fun _ => none)
  | 27 => (5, 6, fun j => match j with | 1 => some 28 | 3 => some 29 | 4 => some 30 | 5 => some 31 | _ => none)
  | 28 => (0, 12, fun _ => none)
  | 29 => (0, 24, fun _ => none)
  | 30 => (0, 24, fun _ => none)
  | 31 => (0, 12, fun _ => none)
  | 32 => (12, 38, fun j => match j with | 0 => some 33 | 1 => some 34 | 2 => some 35 | 3 => some 36 | 4 => some 37 | 5 => some 38 | 6 => some 39 | 7 => some 40 | 8 => some 41 | 9 => some 42 | 10 => some 43 | 13 => some 44 | 14 => some 45 | 15 => some 46 | 16 => some 47 | 17 => some 48 | 18 => some 49 | 19 => some 50 | 27 => some 51 | 28 => some 52 | 29 => some 53 | 31 => some 54 | 32 => some 55 | 35 => some 56 | _ => none)
  | 33 => (1, 256, fun _ => none)
  | 34 => (1, 256, fun _ => none)
  | 35 => (1, 256, fun _ => none)
  | 36 => (0, 256, fun _ => none)
  | 37 => (0, 24, fun _ => none)
  | 38 => (0, 288, fun _ => none)
  | 39 => (0, 288, fun _ => none)
  | 40 => (0, 288, fun _ => none)
  | 41 => (0, 96, fun _ => none)
  | 42 => (0, 24, fun _ => none)
  | 43 => (0, 24, fun _ => none)
  | 44 => (0, 12, fun _ => none)
  | 45 => (0, 12, fun _ => none)
  | 46 => (0, 4, fun _ => none)
  | 47 => (1, 144, fun _ => none)
  | 48 => (0, 12, fun _ => none)
  | 49 => (1, 12, fun _ => none)
  | 50 => (0, 12, fun _ => none)
  | 51 => (0, 12, fun _ => none)
  | 52 => (0, 7, fun _ => none)
  | 53 => (0, 12, fun _ => none)
  | 54 => (0, 12, fun _ => none)
  | 55 => (0, 12, fun _ => none)
  | 56 => (0, 288, fun _ => none)
  | q + 57 => if q % 3 = 0 then (10, 5, fun j => match j with | 1 => some (q + 58) | 2 => some (q + 59) | _ => none) else if q % 3 = 1 then (0, P.2.2 (q / 3), fun _ => none) else (9, 4, fun _ => none)
abbrev hh (P : zp) (σ : zc_N) : zc_H := (57 + 3 * P.2.1, SH P, σ)
theorem zN {a n : Nat} (h : Nat.ble (a + 1) 57 = true) : a < 57 + 3 * n := Nat.lt_of_lt_of_le (Nat.le_of_ble_eq_true h) (Nat.le_add_right _ _)
abbrev pO (i : Nat) : Nat := 57 + 3 * i
abbrev pP (i : Nat) : Nat := 58 + 3 * i
abbrev pT (i : Nat) : Nat := 59 + 3 * i
theorem SH_base (P : zp) (q : Nat) : SH P (q + 57) = if q % 3 = 0 then (10, 5, fun j => match j with | 1 => some (q + 58) | 2 => some (q + 59) | _ => none) else if q % 3 = 1 then (0, P.2.2 (q / 3), fun _ => none) else (9, 4, fun _ => none) := rfl
theorem SH_pO (P : zp) (i : Nat) : SH P (pO i) = (10, 5, fun j => match j with | 1 => some (pP i) | 2 => some (pT i) | _ => none) := by
  have e : pO i = 3 * i + 57 := Nat.add_comm _ _
  have e1 : pP i = 3 * i + 58 := Nat.add_comm _ _
  have e2 : pT i = 3 * i + 59 := Nat.add_comm _ _
  rw [e, e1, e2, SH_base, if_pos (by omega)]
theorem SH_pP (P : zp) (i : Nat) : SH P (pP i) = (0, P.2.2 i, fun _ => none) := by
  have e : pP i = (3 * i + 1) + 57 := by show 58 + 3 * i = _; omega
  rw [e, SH_base, if_neg (by omega), if_pos (by omega), show (3 * i + 1) / 3 = i by omega]
theorem SH_pT (P : zp) (i : Nat) : SH P (pT i) = (9, 4, fun _ => none) := by
  have e : pT i = (3 * i + 2) + 57 := by show 59 + 3 * i = _; omega
  rw [e, SH_base, if_neg (by omega), if_neg (by omega)]
theorem zNO {i n : Nat} (h : i < n) : pO i < 57 + 3 * n := by show 57 + 3 * i < _; omega
theorem zNP {i n : Nat} (h : i < n) : pP i < 57 + 3 * n := by show 58 + 3 * i < _; omega
theorem zNT {i n : Nat} (h : i < n) : pT i < 57 + 3 * n := by show 59 + 3 * i < _; omega
theorem z3O (i : Nat) : 3 ≤ pO i := by show 3 ≤ 57 + 3 * i; omega
theorem z3P (i : Nat) : 3 ≤ pP i := by show 3 ≤ 58 + 3 * i; omega
theorem z3T (i : Nat) : 3 ≤ pT i := by show 3 ≤ 59 + 3 * i; omega
section ZMORE
variable {G : zc_G} {mi : zc_M} {d mc ms : Nat} {Q : Option Value → zc_H → Prop} {pc : Nat} {lv : List (Option Value)} {st : List Value} {h : zc_H} {ka na : Nat}
theorem z_aloadr_n {i : Fin 4} {a : Nat} (hd : decode mi.2.1 pc = .ok (.aload_n i, 1)) (hi : lv[(i : Nat)]? = some (some (.ref a))) (k : zz G mi d mc ms Q (pc + 1) lv (.ref a :: st) h ka na) : zz G mi d mc ms Q pc lv st h ka na := z_aload_n (r := some a) hd hi k
theorem z_aloadr {i : Nat} {a : Nat} (hd : decode mi.2.1 pc = .ok (.aload i, 2)) (hi : lv[i]? = some (some (.ref a))) (k : zz G mi d mc ms Q (pc + 2) lv (.ref a :: st) h ka na) : zz G mi d mc ms Q pc lv st h ka na := z_aload (r := some a) hd hi k
theorem z_astorer_n {i : Fin 4} {a : Nat} {lv' : List (Option Value)} (hd : decode mi.2.1 pc = .ok (.astore_n i, 1)) (hn : (i : Nat) < mi.2.2.1) (hl' : lv.set i (some (.ref a)) = lv') (k : zz G mi d mc ms Q (pc + 1) lv' st h ka na) : zz G mi d mc ms Q pc lv (.ref a :: st) h ka na := z_astore_n (r := some a) hd hn hl' k
theorem z_astorer {i : Nat} {a : Nat} {lv' : List (Option Value)} (hd : decode mi.2.1 pc = .ok (.astore i, 2)) (hn : i < mi.2.2.1) (hl' : lv.set i (some (.ref a)) = lv') (k : zz G mi d mc ms Q (pc + 2) lv' st h ka na) : zz G mi d mc ms Q pc lv (.ref a :: st) h ka na := z_astore (r := some a) hd hn hl' k
def lvle : List (Option Value) → List (Option Value) → Prop
  | [], _ => True
  | none :: a, _ :: b => lvle a b
  | some v :: a, some w :: b => v = w ∧ lvle a b
  | none :: a, [] => lvle a []
  | some _ :: _, _ => False
theorem lvle_at : ∀ (a b : List (Option Value)), lvle a b → ∀ (i : Nat) (v : Value), a[i]? = some (some v) → b[i]? = some (some v)
  | [], _, _, i, v, h => by simp at h
  | none :: a, x :: b, hab, 0, v, h => by simp at h
  | none :: a, x :: b, hab, i + 1, v, h => by
    have h2 : a[i]? = some (some v) := by simpa using h
    simpa using lvle_at a b hab i v h2
  | some w :: a, some x :: b, hab, 0, v, h => by
    have h2 : w = v := by simpa using h
    have h3 : w = x := hab.1
    simp [← h2, h3]
  | some w :: a, some x :: b, hab, i + 1, v, h => by
    have h2 : a[i]? = some (some v) := by simpa using h
    simpa using lvle_at a b hab.2 i v h2
  | none :: a, [], hab, 0, v, h => by simp at h
  | none :: a, [], hab, i + 1, v, h => by
    have h2 : a[i]? = some (some v) := by simpa using h
    have h3 := lvle_at a [] hab i v h2
    simp at h3
  | some _ :: _, none :: _, hab, _, _, _ => hab.elim
  | some _ :: _, [], hab, _, _, _ => hab.elim
theorem zz_sub {lv' : List (Option Value)} (hle : lvle lv' lv) (k : zz G mi d mc ms Q pc lv' st h ka na) : zz G mi d mc ms Q pc lv st h ka na :=
  fun p l e R s m args below meth c Qw C H locs ls hR hS hl => k p l e R s m args below meth c Qw C H locs ls hR hS (by
    obtain ⟨as, h1, h2⟩ := hl
    exact ⟨as, h1, fun i v hi => h2 i v (lvle_at _ _ hle i v hi)⟩)
end ZMORE
theorem z01 {c : Prop} (hc : Decidable c) : narrow .boolean (.int (if c then 1 else 0)) = .int (if c then 1 else 0) := by
  by_cases h : c
  · rw [if_pos h]; rfl
  · rw [if_neg h]; rfl
theorem k_bipush_m30 : (Int8.ofInt (-30)).toInt32 = (-30) := by decide +kernel
theorem k_bipush_m4 : (Int8.ofInt (-4)).toInt32 = (-4) := by decide +kernel
theorem k_bipush_m3 : (Int8.ofInt (-3)).toInt32 = (-3) := by decide +kernel
theorem k_bipush_m2 : (Int8.ofInt (-2)).toInt32 = (-2) := by decide +kernel
theorem k_bipush_6 : (Int8.ofInt 6).toInt32 = 6 := by decide +kernel
theorem k_bipush_7 : (Int8.ofInt 7).toInt32 = 7 := by decide +kernel
theorem k_bipush_8 : (Int8.ofInt 8).toInt32 = 8 := by decide +kernel
theorem k_bipush_9 : (Int8.ofInt 9).toInt32 = 9 := by decide +kernel
theorem k_bipush_10 : (Int8.ofInt 10).toInt32 = 10 := by decide +kernel
theorem k_bipush_11 : (Int8.ofInt 11).toInt32 = 11 := by decide +kernel
theorem k_bipush_12 : (Int8.ofInt 12).toInt32 = 12 := by decide +kernel
theorem k_bipush_15 : (Int8.ofInt 15).toInt32 = 15 := by decide +kernel
theorem k_bipush_16 : (Int8.ofInt 16).toInt32 = 16 := by decide +kernel
theorem k_bipush_17 : (Int8.ofInt 17).toInt32 = 17 := by decide +kernel
theorem k_bipush_18 : (Int8.ofInt 18).toInt32 = 18 := by decide +kernel
theorem k_bipush_22 : (Int8.ofInt 22).toInt32 = 22 := by decide +kernel
theorem k_bipush_24 : (Int8.ofInt 24).toInt32 = 24 := by decide +kernel
theorem k_bipush_30 : (Int8.ofInt 30).toInt32 = 30 := by decide +kernel
theorem k_bipush_31 : (Int8.ofInt 31).toInt32 = 31 := by decide +kernel
theorem k_bipush_63 : (Int8.ofInt 63).toInt32 = 63 := by decide +kernel
theorem k_bipush_85 : (Int8.ofInt 85).toInt32 = 85 := by decide +kernel
theorem k_bipush_96 : (Int8.ofInt 96).toInt32 = 96 := by decide +kernel
theorem k_iconst_m1 : Int32.ofInt (-1) = (-1) := by decide +kernel
theorem k_iconst_0 : Int32.ofInt 0 = 0 := by decide +kernel
theorem k_iconst_1 : Int32.ofInt 1 = 1 := by decide +kernel
theorem k_iconst_2 : Int32.ofInt 2 = 2 := by decide +kernel
theorem k_iconst_3 : Int32.ofInt 3 = 3 := by decide +kernel
theorem k_iconst_4 : Int32.ofInt 4 = 4 := by decide +kernel
theorem k_iconst_5 : Int32.ofInt 5 = 5 := by decide +kernel
theorem k_iconst_6 : Int32.ofInt 6 = 6 := by decide +kernel
theorem k_sipush_m1000 : (Int16.ofInt (-1000)).toInt32 = (-1000) := by decide +kernel
theorem k_sipush_144 : (Int16.ofInt 144).toInt32 = 144 := by decide +kernel
theorem k_sipush_256 : (Int16.ofInt 256).toInt32 = 256 := by decide +kernel
theorem k_sipush_288 : (Int16.ofInt 288).toInt32 = 288 := by decide +kernel
theorem k_sipush_324 : (Int16.ofInt 324).toInt32 = 324 := by decide +kernel
theorem k_sipush_961 : (Int16.ofInt 961).toInt32 = 961 := by decide +kernel
theorem k_sipush_2304 : (Int16.ofInt 2304).toInt32 = 2304 := by decide +kernel
theorem k_sipush_3844 : (Int16.ofInt 3844).toInt32 = 3844 := by decide +kernel
theorem k_sipush_4095 : (Int16.ofInt 4095).toInt32 = 4095 := by decide +kernel
theorem k_sipush_9999 : (Int16.ofInt 9999).toInt32 = 9999 := by decide +kernel
theorem k_sipush_10000 : (Int16.ofInt 10000).toInt32 = 10000 := by decide +kernel
end
section
theorem fl_X8_12 : Cond.fieldLink RX8 12 "MarkCabinet" "grid" "LMarkCabinet$Grid;" ∈ zc_tb := zc_mem (List.mem_of_getElem? (i := 255) (by decide +kernel)) rfl
theorem fl_X8_16 : Cond.fieldLink RX8 16 "MarkCabinet" "firstPoints" "[I" ∈ zc_tb := zc_mem (List.mem_of_getElem? (i := 256) (by decide +kernel)) rfl
theorem fl_X8_22 : Cond.fieldLink RX8 22 "MarkCabinet" "prints" "[LMarkCabinet$Print;" ∈ zc_tb := zc_mem (List.mem_of_getElem? (i := 257) (by decide +kernel)) rfl
theorem fl_X8_26 : Cond.fieldLink RX8 26 "MarkCabinet" "made" "I" ∈ zc_tb := zc_mem (List.mem_of_getElem? (i := 258) (by decide +kernel)) rfl
theorem fl_X8_33 : Cond.fieldLink RX8 33 "MarkCabinet" "matches" "LMarkCabinet$Matches;" ∈ zc_tb := zc_mem (List.mem_of_getElem? (i := 259) (by decide +kernel)) rfl
theorem fl_X8_40 : Cond.fieldLink RX8 40 "MarkCabinet" "latest" "LMarkCabinet$Laying;" ∈ zc_tb := zc_mem (List.mem_of_getElem? (i := 260) (by decide +kernel)) rfl
theorem fl_X8_44 : Cond.fieldLink RX8 44 "MarkCabinet" "anyLaid" "Z" ∈ zc_tb := zc_mem (List.mem_of_getElem? (i := 261) (by decide +kernel)) rfl
theorem fl_X8_48 : Cond.fieldLink RX8 48 "MarkCabinet" "trial" "LMarkCabinet$Laying;" ∈ zc_tb := zc_mem (List.mem_of_getElem? (i := 262) (by decide +kernel)) rfl
theorem fl_X8_54 : Cond.fieldLink RX8 54 "MarkCabinet" "history" "LMarkCabinet$History;" ∈ zc_tb := zc_mem (List.mem_of_getElem? (i := 263) (by decide +kernel)) rfl
theorem fl_X8_58 : Cond.fieldLink RX8 58 "MarkCabinet" "from" "I" ∈ zc_tb := zc_mem (List.mem_of_getElem? (i := 264) (by decide +kernel)) rfl
theorem fl_X8_61 : Cond.fieldLink RX8 61 "MarkCabinet" "till" "I" ∈ zc_tb := zc_mem (List.mem_of_getElem? (i := 265) (by decide +kernel)) rfl
theorem fl_X8_64 : Cond.fieldLink RX8 64 "MarkCabinet" "anyAged" "Z" ∈ zc_tb := zc_mem (List.mem_of_getElem? (i := 266) (by decide +kernel)) rfl
theorem fl_X8_133 : Cond.fieldLink RX8 133 "MarkCabinet$Matches" "reach" "I" ∈ zc_tb := zc_mem (List.mem_of_getElem? (i := 142) (by decide +kernel)) rfl
theorem fl_X8_144 : Cond.fieldLink RX8 144 "MarkCabinet$Laying" "score" "I" ∈ zc_tb := zc_mem (List.mem_of_getElem? (i := 198) (by decide +kernel)) rfl
theorem fl_X8_150 : Cond.fieldLink RX8 150 "MarkCabinet$Laying" "pairs" "I" ∈ zc_tb := zc_mem (List.mem_of_getElem? (i := 192) (by decide +kernel)) rfl
theorem fl_X8_153 : Cond.fieldLink RX8 153 "MarkCabinet$Laying" "bare" "I" ∈ zc_tb := zc_mem (List.mem_of_getElem? (i := 195) (by decide +kernel)) rfl
theorem fl_X8_156 : Cond.fieldLink RX8 156 "MarkCabinet$Laying" "q" "I" ∈ zc_tb := zc_mem (List.mem_of_getElem? (i := 183) (by decide +kernel)) rfl
theorem fl_X8_159 : Cond.fieldLink RX8 159 "MarkCabinet$Laying" "dx" "I" ∈ zc_tb := zc_mem (List.mem_of_getElem? (i := 186) (by decide +kernel)) rfl
theorem fl_X8_162 : Cond.fieldLink RX8 162 "MarkCabinet$Laying" "dy" "I" ∈ zc_tb := zc_mem (List.mem_of_getElem? (i := 189) (by decide +kernel)) rfl
theorem fl_X8_165 : Cond.fieldLink RX8 165 "MarkCabinet$Laying" "found" "Z" ∈ zc_tb := zc_mem (List.mem_of_getElem? (i := 180) (by decide +kernel)) rfl
theorem fl_X8_168 : Cond.fieldLink RX8 168 "MarkCabinet$Laying" "partner" "[I" ∈ zc_tb := zc_mem (List.mem_of_getElem? (i := 206) (by decide +kernel)) rfl
theorem fl_X8_175 : Cond.fieldLink RX8 175 "MarkCabinet$Print" "tool" "I" ∈ zc_tb := zc_mem (List.mem_of_getElem? (i := 423) (by decide +kernel)) rfl
theorem fl_X8_182 : Cond.fieldLink RX8 182 "MarkCabinet$Print" "year" "I" ∈ zc_tb := zc_mem (List.mem_of_getElem? (i := 426) (by decide +kernel)) rfl
theorem fl_X8_199 : Cond.fieldLink RX8 199 "MarkCabinet$History" "flawed" "I" ∈ zc_tb := zc_mem (List.mem_of_getElem? (i := 235) (by decide +kernel)) rfl
theorem fl_X8_210 : Cond.fieldLink RX8 210 "MarkCabinet$History" "comes" "[I" ∈ zc_tb := zc_mem (List.mem_of_getElem? (i := 237) (by decide +kernel)) rfl
theorem fl_X8_216 : Cond.fieldLink RX8 216 "MarkCabinet$Laying" "paired" "I" ∈ zc_tb := zc_mem (List.mem_of_getElem? (i := 201) (by decide +kernel)) rfl
theorem fl_X0_9 : Cond.fieldLink RX0 9 "MarkCabinet$Finder" "byColumn" "[I" ∈ zc_tb := zc_mem (List.mem_of_getElem? (i := 93) (by decide +kernel)) rfl
theorem fl_X0_15 : Cond.fieldLink RX0 15 "MarkCabinet$Finder" "byRow" "[I" ∈ zc_tb := zc_mem (List.mem_of_getElem? (i := 94) (by decide +kernel)) rfl
theorem fl_X0_18 : Cond.fieldLink RX0 18 "MarkCabinet$Finder" "byKind" "[I" ∈ zc_tb := zc_mem (List.mem_of_getElem? (i := 95) (by decide +kernel)) rfl
theorem fl_X1_11 : Cond.fieldLink RX1 11 "MarkCabinet$Grid" "rows" "[I" ∈ zc_tb := zc_mem (List.mem_of_getElem? (i := 68) (by decide +kernel)) rfl
theorem fl_X1_15 : Cond.fieldLink RX1 15 "MarkCabinet$Grid" "left" "[I" ∈ zc_tb := zc_mem (List.mem_of_getElem? (i := 69) (by decide +kernel)) rfl
theorem fl_X1_18 : Cond.fieldLink RX1 18 "MarkCabinet$Grid" "queue" "[I" ∈ zc_tb := zc_mem (List.mem_of_getElem? (i := 70) (by decide +kernel)) rfl
theorem fl_X1_66 : Cond.fieldLink RX1 66 RX1 "WAY_X" "[I" ∈ zc_tb := zc_mem (List.mem_of_getElem? (i := 375) (by decide +kernel)) rfl
theorem fl_X1_69 : Cond.fieldLink RX1 69 RX1 "WAY_Y" "[I" ∈ zc_tb := zc_mem (List.mem_of_getElem? (i := 377) (by decide +kernel)) rfl
theorem fl_X2_9 : Cond.fieldLink RX2 9 "MarkCabinet$History" "flawed" "I" ∈ zc_tb := zc_mem (List.mem_of_getElem? (i := 234) (by decide +kernel)) rfl
theorem fl_X2_15 : Cond.fieldLink RX2 15 "MarkCabinet$History" "comes" "[I" ∈ zc_tb := zc_mem (List.mem_of_getElem? (i := 236) (by decide +kernel)) rfl
theorem fl_X2_19 : Cond.fieldLink RX2 19 "MarkCabinet$History" "size" "I" ∈ zc_tb := zc_mem (List.mem_of_getElem? (i := 238) (by decide +kernel)) rfl
theorem fl_X2_22 : Cond.fieldLink RX2 22 "MarkCabinet$History" "years" "[I" ∈ zc_tb := zc_mem (List.mem_of_getElem? (i := 239) (by decide +kernel)) rfl
theorem fl_X2_25 : Cond.fieldLink RX2 25 "MarkCabinet$History" "having" "[I" ∈ zc_tb := zc_mem (List.mem_of_getElem? (i := 240) (by decide +kernel)) rfl
theorem fl_X2_28 : Cond.fieldLink RX2 28 "MarkCabinet$History" "lastLack" "[I" ∈ zc_tb := zc_mem (List.mem_of_getElem? (i := 241) (by decide +kernel)) rfl
theorem fl_X2_37 : Cond.fieldLink RX2 37 "MarkCabinet$Print" "year" "I" ∈ zc_tb := zc_mem (List.mem_of_getElem? (i := 425) (by decide +kernel)) rfl
theorem fl_X3_9 : Cond.fieldLink RX3 9 "MarkCabinet$Laying" "found" "Z" ∈ zc_tb := zc_mem (List.mem_of_getElem? (i := 179) (by decide +kernel)) rfl
theorem fl_X3_15 : Cond.fieldLink RX3 15 "MarkCabinet$Laying" "q" "I" ∈ zc_tb := zc_mem (List.mem_of_getElem? (i := 181) (by decide +kernel)) rfl
theorem fl_X3_19 : Cond.fieldLink RX3 19 "MarkCabinet$Laying" "dx" "I" ∈ zc_tb := zc_mem (List.mem_of_getElem? (i := 184) (by decide +kernel)) rfl
theorem fl_X3_22 : Cond.fieldLink RX3 22 "MarkCabinet$Laying" "dy" "I" ∈ zc_tb := zc_mem (List.mem_of_getElem? (i := 187) (by decide +kernel)) rfl
theorem fl_X3_25 : Cond.fieldLink RX3 25 "MarkCabinet$Laying" "pairs" "I" ∈ zc_tb := zc_mem (List.mem_of_getElem? (i := 190) (by decide +kernel)) rfl
theorem fl_X3_28 : Cond.fieldLink RX3 28 "MarkCabinet$Laying" "bare" "I" ∈ zc_tb := zc_mem (List.mem_of_getElem? (i := 193) (by decide +kernel)) rfl
theorem fl_X3_31 : Cond.fieldLink RX3 31 "MarkCabinet$Laying" "score" "I" ∈ zc_tb := zc_mem (List.mem_of_getElem? (i := 196) (by decide +kernel)) rfl
theorem fl_X3_34 : Cond.fieldLink RX3 34 "MarkCabinet$Laying" "paired" "I" ∈ zc_tb := zc_mem (List.mem_of_getElem? (i := 199) (by decide +kernel)) rfl
theorem fl_X3_37 : Cond.fieldLink RX3 37 "MarkCabinet$Laying" "inside" "I" ∈ zc_tb := zc_mem (List.mem_of_getElem? (i := 202) (by decide +kernel)) rfl
theorem fl_X3_40 : Cond.fieldLink RX3 40 "MarkCabinet$Laying" "partner" "[I" ∈ zc_tb := zc_mem (List.mem_of_getElem? (i := 204) (by decide +kernel)) rfl
theorem fl_X4_9 : Cond.fieldLink RX4 9 "MarkCabinet$Matches" "reach" "I" ∈ zc_tb := zc_mem (List.mem_of_getElem? (i := 141) (by decide +kernel)) rfl
theorem fl_X4_15 : Cond.fieldLink RX4 15 "MarkCabinet$Matches" "known" "[I" ∈ zc_tb := zc_mem (List.mem_of_getElem? (i := 143) (by decide +kernel)) rfl
theorem fl_X4_22 : Cond.fieldLink RX4 22 "MarkCabinet$Matches" "finder" "LMarkCabinet$Finder;" ∈ zc_tb := zc_mem (List.mem_of_getElem? (i := 144) (by decide +kernel)) rfl
theorem fl_X4_29 : Cond.fieldLink RX4 29 "MarkCabinet$Matches" "pairing" "LMarkCabinet$Pairing;" ∈ zc_tb := zc_mem (List.mem_of_getElem? (i := 145) (by decide +kernel)) rfl
theorem fl_X4_33 : Cond.fieldLink RX4 33 "MarkCabinet$Matches" "turnedX" "[I" ∈ zc_tb := zc_mem (List.mem_of_getElem? (i := 146) (by decide +kernel)) rfl
theorem fl_X4_36 : Cond.fieldLink RX4 36 "MarkCabinet$Matches" "turnedY" "[I" ∈ zc_tb := zc_mem (List.mem_of_getElem? (i := 147) (by decide +kernel)) rfl
theorem fl_X4_44 : Cond.fieldLink RX4 44 "MarkCabinet$Matches" "turnedPart" "LMarkCabinet$Part;" ∈ zc_tb := zc_mem (List.mem_of_getElem? (i := 148) (by decide +kernel)) rfl
theorem fl_X4_48 : Cond.fieldLink RX4 48 "MarkCabinet$Matches" "landings" "[I" ∈ zc_tb := zc_mem (List.mem_of_getElem? (i := 149) (by decide +kernel)) rfl
theorem fl_X4_51 : Cond.fieldLink RX4 51 "MarkCabinet$Matches" "inside" "I" ∈ zc_tb := zc_mem (List.mem_of_getElem? (i := 150) (by decide +kernel)) rfl
theorem fl_X4_54 : Cond.fieldLink RX4 54 "MarkCabinet$Matches" "struckByBoth" "I" ∈ zc_tb := zc_mem (List.mem_of_getElem? (i := 151) (by decide +kernel)) rfl
theorem fl_X4_91 : Cond.fieldLink RX4 91 "MarkCabinet$Laying" "q" "I" ∈ zc_tb := zc_mem (List.mem_of_getElem? (i := 182) (by decide +kernel)) rfl
theorem fl_X4_97 : Cond.fieldLink RX4 97 "MarkCabinet$Laying" "dx" "I" ∈ zc_tb := zc_mem (List.mem_of_getElem? (i := 185) (by decide +kernel)) rfl
theorem fl_X4_100 : Cond.fieldLink RX4 100 "MarkCabinet$Laying" "dy" "I" ∈ zc_tb := zc_mem (List.mem_of_getElem? (i := 188) (by decide +kernel)) rfl
theorem fl_X4_111 : Cond.fieldLink RX4 111 "MarkCabinet$Laying" "pairs" "I" ∈ zc_tb := zc_mem (List.mem_of_getElem? (i := 191) (by decide +kernel)) rfl
theorem fl_X4_117 : Cond.fieldLink RX4 117 "MarkCabinet$Laying" "bare" "I" ∈ zc_tb := zc_mem (List.mem_of_getElem? (i := 194) (by decide +kernel)) rfl
theorem fl_X4_123 : Cond.fieldLink RX4 123 "MarkCabinet$Laying" "score" "I" ∈ zc_tb := zc_mem (List.mem_of_getElem? (i := 197) (by decide +kernel)) rfl
theorem fl_X4_126 : Cond.fieldLink RX4 126 "MarkCabinet$Laying" "inside" "I" ∈ zc_tb := zc_mem (List.mem_of_getElem? (i := 203) (by decide +kernel)) rfl
theorem fl_X4_127 : Cond.fieldLink RX4 127 "MarkCabinet$Laying" "partner" "[I" ∈ zc_tb := zc_mem (List.mem_of_getElem? (i := 205) (by decide +kernel)) rfl
theorem fl_X4_134 : Cond.fieldLink RX4 134 "MarkCabinet$Laying" "paired" "I" ∈ zc_tb := zc_mem (List.mem_of_getElem? (i := 200) (by decide +kernel)) rfl
theorem fl_X4_137 : Cond.fieldLink RX4 137 "MarkCabinet$Print" "number" "I" ∈ zc_tb := zc_mem (List.mem_of_getElem? (i := 418) (by decide +kernel)) rfl
theorem fl_X4_173 : Cond.fieldLink RX4 173 "MarkCabinet$Print" "part" "LMarkCabinet$Part;" ∈ zc_tb := zc_mem (List.mem_of_getElem? (i := 421) (by decide +kernel)) rfl
theorem fl_X5_9 : Cond.fieldLink RX5 9 "MarkCabinet$Pairing" "may" "[I" ∈ zc_tb := zc_mem (List.mem_of_getElem? (i := 109) (by decide +kernel)) rfl
theorem fl_X5_15 : Cond.fieldLink RX5 15 "MarkCabinet$Pairing" "size" "I" ∈ zc_tb := zc_mem (List.mem_of_getElem? (i := 110) (by decide +kernel)) rfl
theorem fl_X5_19 : Cond.fieldLink RX5 19 "MarkCabinet$Pairing" "holder" "[I" ∈ zc_tb := zc_mem (List.mem_of_getElem? (i := 111) (by decide +kernel)) rfl
theorem fl_X5_22 : Cond.fieldLink RX5 22 "MarkCabinet$Pairing" "untried" "I" ∈ zc_tb := zc_mem (List.mem_of_getElem? (i := 112) (by decide +kernel)) rfl
theorem fl_X6_9 : Cond.fieldLink RX6 9 "MarkCabinet$Part" "x0" "I" ∈ zc_tb := zc_mem (List.mem_of_getElem? (i := 128) (by decide +kernel)) rfl
theorem fl_X6_15 : Cond.fieldLink RX6 15 "MarkCabinet$Part" "y0" "I" ∈ zc_tb := zc_mem (List.mem_of_getElem? (i := 129) (by decide +kernel)) rfl
theorem fl_X6_18 : Cond.fieldLink RX6 18 "MarkCabinet$Part" "x1" "I" ∈ zc_tb := zc_mem (List.mem_of_getElem? (i := 130) (by decide +kernel)) rfl
theorem fl_X6_21 : Cond.fieldLink RX6 21 "MarkCabinet$Part" "y1" "I" ∈ zc_tb := zc_mem (List.mem_of_getElem? (i := 131) (by decide +kernel)) rfl
theorem fl_X7_9 : Cond.fieldLink RX7 9 "MarkCabinet$Print" "tool" "I" ∈ zc_tb := zc_mem (List.mem_of_getElem? (i := 422) (by decide +kernel)) rfl
theorem fl_X7_15 : Cond.fieldLink RX7 15 "MarkCabinet$Print" "year" "I" ∈ zc_tb := zc_mem (List.mem_of_getElem? (i := 424) (by decide +kernel)) rfl
theorem fl_X7_18 : Cond.fieldLink RX7 18 "MarkCabinet$Print" "number" "I" ∈ zc_tb := zc_mem (List.mem_of_getElem? (i := 417) (by decide +kernel)) rfl
theorem fl_X7_21 : Cond.fieldLink RX7 21 "MarkCabinet$Print" "points" "[I" ∈ zc_tb := zc_mem (List.mem_of_getElem? (i := 419) (by decide +kernel)) rfl
theorem fl_X7_25 : Cond.fieldLink RX7 25 "MarkCabinet$Print" "part" "LMarkCabinet$Part;" ∈ zc_tb := zc_mem (List.mem_of_getElem? (i := 420) (by decide +kernel)) rfl
theorem fl_X9_9 : Cond.fieldLink RX9 9 "MarkCabinetModel" "dark" "[Z" ∈ zc_tb := zc_mem (List.mem_of_getElem? (i := 729) (by decide +kernel)) rfl
theorem fl_X9_13 : Cond.fieldLink RX9 13 "MarkCabinetModel" "seen" "[Z" ∈ zc_tb := zc_mem (List.mem_of_getElem? (i := 730) (by decide +kernel)) rfl
theorem fl_X9_16 : Cond.fieldLink RX9 16 "MarkCabinetModel" "fork" "[Z" ∈ zc_tb := zc_mem (List.mem_of_getElem? (i := 731) (by decide +kernel)) rfl
theorem fl_X9_19 : Cond.fieldLink RX9 19 "MarkCabinetModel" "kindAt" "[I" ∈ zc_tb := zc_mem (List.mem_of_getElem? (i := 732) (by decide +kernel)) rfl
theorem fl_X9_23 : Cond.fieldLink RX9 23 "MarkCabinetModel" "many" "[I" ∈ zc_tb := zc_mem (List.mem_of_getElem? (i := 733) (by decide +kernel)) rfl
theorem fl_X9_26 : Cond.fieldLink RX9 26 "MarkCabinetModel" "x" "[I" ∈ zc_tb := zc_mem (List.mem_of_getElem? (i := 734) (by decide +kernel)) rfl
theorem fl_X9_29 : Cond.fieldLink RX9 29 "MarkCabinetModel" "y" "[I" ∈ zc_tb := zc_mem (List.mem_of_getElem? (i := 735) (by decide +kernel)) rfl
theorem fl_X9_32 : Cond.fieldLink RX9 32 "MarkCabinetModel" "kind" "[I" ∈ zc_tb := zc_mem (List.mem_of_getElem? (i := 736) (by decide +kernel)) rfl
theorem fl_X9_35 : Cond.fieldLink RX9 35 "MarkCabinetModel" "struck" "[I" ∈ zc_tb := zc_mem (List.mem_of_getElem? (i := 737) (by decide +kernel)) rfl
theorem fl_X9_38 : Cond.fieldLink RX9 38 "MarkCabinetModel" "tool" "[I" ∈ zc_tb := zc_mem (List.mem_of_getElem? (i := 738) (by decide +kernel)) rfl
theorem fl_X9_41 : Cond.fieldLink RX9 41 "MarkCabinetModel" "year" "[I" ∈ zc_tb := zc_mem (List.mem_of_getElem? (i := 739) (by decide +kernel)) rfl
theorem fl_X9_44 : Cond.fieldLink RX9 44 "MarkCabinetModel" "reach" "I" ∈ zc_tb := zc_mem (List.mem_of_getElem? (i := 741) (by decide +kernel)) rfl
theorem fl_X9_48 : Cond.fieldLink RX9 48 "MarkCabinetModel" "laidX" "[I" ∈ zc_tb := zc_mem (List.mem_of_getElem? (i := 742) (by decide +kernel)) rfl
theorem fl_X9_51 : Cond.fieldLink RX9 51 "MarkCabinetModel" "laidY" "[I" ∈ zc_tb := zc_mem (List.mem_of_getElem? (i := 743) (by decide +kernel)) rfl
theorem fl_X9_54 : Cond.fieldLink RX9 54 "MarkCabinetModel" "laidPart" "[I" ∈ zc_tb := zc_mem (List.mem_of_getElem? (i := 744) (by decide +kernel)) rfl
theorem fl_X9_57 : Cond.fieldLink RX9 57 "MarkCabinetModel" "may" "[Z" ∈ zc_tb := zc_mem (List.mem_of_getElem? (i := 745) (by decide +kernel)) rfl
theorem fl_X9_60 : Cond.fieldLink RX9 60 "MarkCabinetModel" "ofB" "[I" ∈ zc_tb := zc_mem (List.mem_of_getElem? (i := 746) (by decide +kernel)) rfl
theorem fl_X9_63 : Cond.fieldLink RX9 63 "MarkCabinetModel" "tried" "[Z" ∈ zc_tb := zc_mem (List.mem_of_getElem? (i := 747) (by decide +kernel)) rfl
theorem fl_X9_66 : Cond.fieldLink RX9 66 "MarkCabinetModel" "fixed" "[I" ∈ zc_tb := zc_mem (List.mem_of_getElem? (i := 748) (by decide +kernel)) rfl
theorem fl_X9_69 : Cond.fieldLink RX9 69 "MarkCabinetModel" "found" "[I" ∈ zc_tb := zc_mem (List.mem_of_getElem? (i := 756) (by decide +kernel)) rfl
theorem fl_X9_72 : Cond.fieldLink RX9 72 "MarkCabinetModel" "told" "[I" ∈ zc_tb := zc_mem (List.mem_of_getElem? (i := 757) (by decide +kernel)) rfl
theorem fl_X9_75 : Cond.fieldLink RX9 75 "MarkCabinetModel" "toldPair" "[I" ∈ zc_tb := zc_mem (List.mem_of_getElem? (i := 758) (by decide +kernel)) rfl
theorem fl_X9_78 : Cond.fieldLink RX9 78 "MarkCabinetModel" "toldMany" "I" ∈ zc_tb := zc_mem (List.mem_of_getElem? (i := 759) (by decide +kernel)) rfl
theorem fl_X9_81 : Cond.fieldLink RX9 81 "MarkCabinetModel" "flawPoint" "[I" ∈ zc_tb := zc_mem (List.mem_of_getElem? (i := 760) (by decide +kernel)) rfl
theorem fl_X9_84 : Cond.fieldLink RX9 84 "MarkCabinetModel" "flawYear" "[I" ∈ zc_tb := zc_mem (List.mem_of_getElem? (i := 761) (by decide +kernel)) rfl
theorem fl_X9_87 : Cond.fieldLink RX9 87 "MarkCabinetModel" "verdict" "[I" ∈ zc_tb := zc_mem (List.mem_of_getElem? (i := 764) (by decide +kernel)) rfl
theorem fl_X9_90 : Cond.fieldLink RX9 90 "MarkCabinetModel" "from" "I" ∈ zc_tb := zc_mem (List.mem_of_getElem? (i := 765) (by decide +kernel)) rfl
theorem fl_X9_93 : Cond.fieldLink RX9 93 "MarkCabinetModel" "till" "I" ∈ zc_tb := zc_mem (List.mem_of_getElem? (i := 766) (by decide +kernel)) rfl
theorem fl_X9_131 : Cond.fieldLink RX9 131 "MarkCabinetModel" "prints" "I" ∈ zc_tb := zc_mem (List.mem_of_getElem? (i := 740) (by decide +kernel)) rfl
theorem fl_X9_158 : Cond.fieldLink RX9 158 "MarkCabinetModel" "pairs" "I" ∈ zc_tb := zc_mem (List.mem_of_getElem? (i := 749) (by decide +kernel)) rfl
theorem fl_X9_165 : Cond.fieldLink RX9 165 "MarkCabinetModel" "bare" "I" ∈ zc_tb := zc_mem (List.mem_of_getElem? (i := 750) (by decide +kernel)) rfl
theorem fl_X9_168 : Cond.fieldLink RX9 168 "MarkCabinetModel" "isLaid" "Z" ∈ zc_tb := zc_mem (List.mem_of_getElem? (i := 755) (by decide +kernel)) rfl
theorem fl_X9_172 : Cond.fieldLink RX9 172 "MarkCabinetModel" "score" "I" ∈ zc_tb := zc_mem (List.mem_of_getElem? (i := 754) (by decide +kernel)) rfl
theorem fl_X9_175 : Cond.fieldLink RX9 175 "MarkCabinetModel" "q" "I" ∈ zc_tb := zc_mem (List.mem_of_getElem? (i := 751) (by decide +kernel)) rfl
theorem fl_X9_178 : Cond.fieldLink RX9 178 "MarkCabinetModel" "dx" "I" ∈ zc_tb := zc_mem (List.mem_of_getElem? (i := 752) (by decide +kernel)) rfl
theorem fl_X9_181 : Cond.fieldLink RX9 181 "MarkCabinetModel" "dy" "I" ∈ zc_tb := zc_mem (List.mem_of_getElem? (i := 753) (by decide +kernel)) rfl
theorem fl_X9_211 : Cond.fieldLink RX9 211 "MarkCabinetModel" "latest" "I" ∈ zc_tb := zc_mem (List.mem_of_getElem? (i := 763) (by decide +kernel)) rfl
theorem fl_X9_217 : Cond.fieldLink RX9 217 "MarkCabinetModel" "flaws" "I" ∈ zc_tb := zc_mem (List.mem_of_getElem? (i := 762) (by decide +kernel)) rfl
theorem ck_X8_71 : Cond.constant RX8 71 65535 ∈ zc_tb := zc_mem (List.mem_of_getElem? (i := 299) (by decide +kernel)) rfl
theorem ck_X1_58 : Cond.constant RX1 58 262143 ∈ zc_tb := zc_mem (List.mem_of_getElem? (i := 383) (by decide +kernel)) rfl
theorem ck_X9_100 : Cond.constant RX9 100 65535 ∈ zc_tb := zc_mem (List.mem_of_getElem? (i := 852) (by decide +kernel)) rfl
theorem ck_J6_265 : Cond.constant RJ6 265 1431655765 ∈ zc_tb := zc_mem (List.mem_of_getElem? (i := 311) (by decide +kernel)) rfl
theorem ck_J6_266 : Cond.constant RJ6 266 858993459 ∈ zc_tb := zc_mem (List.mem_of_getElem? (i := 312) (by decide +kernel)) rfl
theorem ck_J6_267 : Cond.constant RJ6 267 252645135 ∈ zc_tb := zc_mem (List.mem_of_getElem? (i := 313) (by decide +kernel)) rfl
abbrev mX0_init : zc_M := (yX0_init, cX0_init, 1, none)
abbrev mJ7_fill_53178 : zc_M := (yJ7_fill_53178, cJ7_fill_53178, 4, none)
abbrev mX7_size : zc_M := (yX7_size, cX7_size, 1, (some .int))
abbrev mX7_columnOf : zc_M := (yX7_columnOf, cX7_columnOf, 2, (some .int))
abbrev mX0_mark : zc_M := (yX0_mark, cX0_mark, 5, none)
abbrev mX7_rowOf : zc_M := (yX7_rowOf, cX7_rowOf, 2, (some .int))
abbrev mX7_kindOf : zc_M := (yX7_kindOf, cX7_kindOf, 2, (some .int))
abbrev mX0_learn : zc_M := (yX0_learn, cX0_learn, 4, none)
abbrev mX0_near : zc_M := (yX0_near, cX0_near, 6, (some .int))
abbrev mX1_init : zc_M := (yX1_init, cX1_init, 1, none)
abbrev mX1_setRow : zc_M := (yX1_setRow, cX1_setRow, 3, none)
abbrev mX1_bitsOf : zc_M := (yX1_bitsOf, cX1_bitsOf, 2, (some .int))
abbrev mJ6_bitCount_0f7a4 : zc_M := (yJ6_bitCount_0f7a4, cJ6_bitCount_0f7a4, 1, (some .int))
abbrev mX1_darkCells : zc_M := (yX1_darkCells, cX1_darkCells, 3, (some .int))
abbrev mX1_isDark : zc_M := (yX1_isDark, cX1_isDark, 3, (some .boolean))
abbrev mX1_threeAt : zc_M := (yX1_threeAt, cX1_threeAt, 2, (some .int))
abbrev mX1_ringAt : zc_M := (yX1_ringAt, cX1_ringAt, 8, (some .int))
abbrev mX1_hangsTogether : zc_M := (yX1_hangsTogether, cX1_hangsTogether, 4, (some .boolean))
abbrev mX1_goes : zc_M := (yX1_goes, cX1_goes, 2, (some .boolean))
abbrev mX1_sweepOnce : zc_M := (yX1_sweepOnce, cX1_sweepOnce, 4, (some .int))
abbrev mX1_takeThinned : zc_M := (yX1_takeThinned, cX1_takeThinned, 4, (some .int))
abbrev mX8_isWithin : zc_M := (yX8_isWithin, cX8_isWithin, 3, (some .boolean))
abbrev mX1_takes : zc_M := (yX1_takes, cX1_takes, 5, (some .boolean))
abbrev mX1_takeRest : zc_M := (yX1_takeRest, cX1_takeRest, 9, none)
abbrev mX1_takePieces : zc_M := (yX1_takePieces, cX1_takePieces, 5, (some .int))
abbrev mX1_darkPieces : zc_M := (yX1_darkPieces, cX1_darkPieces, 1, (some .int))
abbrev mX1_holes : zc_M := (yX1_holes, cX1_holes, 2, (some .int))
abbrev mX1_kindOf : zc_M := (yX1_kindOf, cX1_kindOf, 2, (some .int))
abbrev mX1_readPoints : zc_M := (yX1_readPoints, cX1_readPoints, 9, (some .int))
abbrev mX2_init : zc_M := (yX2_init, cX2_init, 1, none)
abbrev mX2_clear : zc_M := (yX2_clear, cX2_clear, 1, none)
abbrev mX2_hear : zc_M := (yX2_hear, cX2_hear, 5, none)
abbrev mX2_dateFlaws : zc_M := (yX2_dateFlaws, cX2_dateFlaws, 3, none)
abbrev mX2_flawAt : zc_M := (yX2_flawAt, cX2_flawAt, 4, (some .int))
abbrev mX2_lastComing : zc_M := (yX2_lastComing, cX2_lastComing, 5, (some .int))
abbrev mX2_firstComing : zc_M := (yX2_firstComing, cX2_firstComing, 5, (some .int))
abbrev mX3_init : zc_M := (yX3_init, cX3_init, 1, none)
abbrev mX3_set : zc_M := (yX3_set, cX3_set, 4, none)
abbrev mX3_setNone : zc_M := (yX3_setNone, cX3_setNone, 1, none)
abbrev mX3_lacking : zc_M := (yX3_lacking, cX3_lacking, 1, (some .int))
abbrev mX5_init : zc_M := (yX5_init, cX5_init, 1, none)
abbrev mX6_init : zc_M := (yX6_init, cX6_init, 5, none)
abbrev mX4_init : zc_M := (yX4_init, cX4_init, 1, none)
abbrev mX6_turnedColumn : zc_M := (yX6_turnedColumn, cX6_turnedColumn, 3, (some .int))
abbrev mX6_turnedRow : zc_M := (yX6_turnedRow, cX6_turnedRow, 3, (some .int))
abbrev mX6_becomeTurned : zc_M := (yX6_becomeTurned, cX6_becomeTurned, 7, none)
abbrev mX4_turnBy : zc_M := (yX4_turnBy, cX4_turnBy, 4, none)
abbrev mX4_markLandings : zc_M := (yX4_markLandings, cX4_markLandings, 7, none)
abbrev mX5_clear : zc_M := (yX5_clear, cX5_clear, 1, none)
abbrev mX5_add : zc_M := (yX5_add, cX5_add, 2, none)
abbrev mX6_holds : zc_M := (yX6_holds, cX6_holds, 3, (some .boolean))
abbrev mX4_shiftBy : zc_M := (yX4_shiftBy, cX4_shiftBy, 8, none)
abbrev mX5_bound : zc_M := (yX5_bound, cX5_bound, 4, (some .int))
abbrev mX4_bareWith : zc_M := (yX4_bareWith, cX4_bareWith, 2, (some .int))
abbrev mX4_scoreWith : zc_M := (yX4_scoreWith, cX4_scoreWith, 2, (some .int))
abbrev mX5_finds : zc_M := (yX5_finds, cX5_finds, 7, (some .boolean))
abbrev mX5_most : zc_M := (yX5_most, cX5_most, 5, (some .int))
abbrev mX4_pack : zc_M := (yX4_pack, cX4_pack, 4, (some .int))
abbrev mX4_search : zc_M := (yX4_search, cX4_search, 9, (some .int))
abbrev mX4_bestOf : zc_M := (yX4_bestOf, cX4_bestOf, 4, (some .int))
abbrev mX4_unpackScore : zc_M := (yX4_unpackScore, cX4_unpackScore, 1, (some .int))
abbrev mX4_scoreOf : zc_M := (yX4_scoreOf, cX4_scoreOf, 4, (some .int))
abbrev mX4_unpackTurn : zc_M := (yX4_unpackTurn, cX4_unpackTurn, 1, (some .int))
abbrev mX4_unpackColumn : zc_M := (yX4_unpackColumn, cX4_unpackColumn, 1, (some .int))
abbrev mX4_unpackRow : zc_M := (yX4_unpackRow, cX4_unpackRow, 1, (some .int))
abbrev mX5_choose : zc_M := (yX5_choose, cX5_choose, 9, (some .int))
abbrev mX4_fillIn : zc_M := (yX4_fillIn, cX4_fillIn, 4, none)
abbrev mX4_layBest : zc_M := (yX4_layBest, cX4_layBest, 5, none)
abbrev mX7_init : zc_M := (yX7_init, cX7_init, 4, none)
abbrev mX8_init : zc_M := (yX8_init, cX8_init, 1, none)
abbrev mX8_feed : zc_M := (yX8_feed, cX8_feed, 3, (some .int))
abbrev mX8_row : zc_M := (yX8_row, cX8_row, 2, (some .int))
abbrev mX8_thin : zc_M := (yX8_thin, cX8_thin, 1, (some .int))
abbrev mX8_pieces : zc_M := (yX8_pieces, cX8_pieces, 2, (some .int))
abbrev mJ7_copyOf_59c91 : zc_M := (yJ7_copyOf_59c91, cJ7_copyOf_59c91, 3, (some (.array .int)))
abbrev mX8_print : zc_M := (yX8_print, cX8_print, 7, (some .int))
abbrev mX8_printAt : zc_M := (yX8_printAt, cX8_printAt, 2, (some (.object "MarkCabinet$Print")))
abbrev mX8_point : zc_M := (yX8_point, cX8_point, 4, (some .int))
abbrev mX8_reach : zc_M := (yX8_reach, cX8_reach, 3, (some .int))
abbrev mX8_lay : zc_M := (yX8_lay, cX8_lay, 8, (some .int))
abbrev mX8_match : zc_M := (yX8_match, cX8_match, 5, (some .int))
abbrev mX8_told : zc_M := (yX8_told, cX8_told, 2, (some .int))
abbrev mX8_pair : zc_M := (yX8_pair, cX8_pair, 2, (some .int))
abbrev mX8_isTool : zc_M := (yX8_isTool, cX8_isTool, 1, (some .boolean))
abbrev mX8_hasYear : zc_M := (yX8_hasYear, cX8_hasYear, 4, (some .boolean))
abbrev mX8_keptBy : zc_M := (yX8_keptBy, cX8_keptBy, 4, (some .int))
abbrev mX8_keep : zc_M := (yX8_keep, cX8_keep, 5, (some .int))
abbrev mX8_part : zc_M := (yX8_part, cX8_part, 3, (some .int))
abbrev mX8_of : zc_M := (yX8_of, cX8_of, 4, (some .int))
abbrev mX8_melt : zc_M := (yX8_melt, cX8_melt, 4, (some .int))
abbrev mX8_like : zc_M := (yX8_like, cX8_like, 8, (some .int))
abbrev mX8_areStrangers : zc_M := (yX8_areStrangers, cX8_areStrangers, 2, (some .boolean))
abbrev mX8_strangers : zc_M := (yX8_strangers, cX8_strangers, 6, (some .int))
abbrev mX8_newestOf : zc_M := (yX8_newestOf, cX8_newestOf, 4, (some (.object "MarkCabinet$Print")))
abbrev mX8_readHistory : zc_M := (yX8_readHistory, cX8_readHistory, 4, (some .boolean))
abbrev mX8_flaws : zc_M := (yX8_flaws, cX8_flaws, 2, (some .int))
abbrev mX8_flaw : zc_M := (yX8_flaw, cX8_flaw, 5, (some .int))
abbrev mX8_age : zc_M := (yX8_age, cX8_age, 5, (some .int))
abbrev mX8_struck : zc_M := (yX8_struck, cX8_struck, 2, (some .int))
abbrev mX8_toolsWithPrints : zc_M := (yX8_toolsWithPrints, cX8_toolsWithPrints, 3, (some .int))
abbrev mX8_count : zc_M := (yX8_count, cX8_count, 2, (some .int))
abbrev mX9_init : zc_M := (yX9_init, cX9_init, 1, none)
abbrev mX9_within : zc_M := (yX9_within, cX9_within, 3, (some .boolean))
abbrev mX9_isDark : zc_M := (yX9_isDark, cX9_isDark, 3, (some .boolean))
abbrev mX9_darkMany : zc_M := (yX9_darkMany, cX9_darkMany, 3, (some .int))
abbrev mX9_feed : zc_M := (yX9_feed, cX9_feed, 4, (some .int))
abbrev mX9_row : zc_M := (yX9_row, cX9_row, 4, (some .int))
abbrev mX9_neighbours : zc_M := (yX9_neighbours, cX9_neighbours, 6, (some .int))
abbrev mX9_stepX : zc_M := (yX9_stepX, cX9_stepX, 1, (some .int))
abbrev mX9_stepY : zc_M := (yX9_stepY, cX9_stepY, 1, (some .int))
abbrev mX9_hangTogether : zc_M := (yX9_hangTogether, cX9_hangTogether, 11, (some .boolean))
abbrev mX9_thin : zc_M := (yX9_thin, cX9_thin, 7, (some .int))
abbrev mX9_besideSeen : zc_M := (yX9_besideSeen, cX9_besideSeen, 8, (some .boolean))
abbrev mX9_spread : zc_M := (yX9_spread, cX9_spread, 5, none)
abbrev mX9_pieces : zc_M := (yX9_pieces, cX9_pieces, 5, (some .int))
abbrev mX9_findPoints : zc_M := (yX9_findPoints, cX9_findPoints, 8, (some .int))
abbrev mX9_print : zc_M := (yX9_print, cX9_print, 10, (some .int))
abbrev mX9_isPrint : zc_M := (yX9_isPrint, cX9_isPrint, 2, (some .boolean))
abbrev mX9_point : zc_M := (yX9_point, cX9_point, 4, (some .int))
abbrev mX9_reach : zc_M := (yX9_reach, cX9_reach, 3, (some .int))
abbrev mX9_turnedX : zc_M := (yX9_turnedX, cX9_turnedX, 3, (some .int))
abbrev mX9_turnedY : zc_M := (yX9_turnedY, cX9_turnedY, 3, (some .int))
abbrev mX9_layOut : zc_M := (yX9_layOut, cX9_layOut, 10, none)
abbrev mX9_finds : zc_M := (yX9_finds, cX9_finds, 4, (some .boolean))
abbrev mX9_mostPairs : zc_M := (yX9_mostPairs, cX9_mostPairs, 8, (some .int))
abbrev mX9_liesIn : zc_M := (yX9_liesIn, cX9_liesIn, 4, (some .boolean))
abbrev mX9_scoreOf : zc_M := (yX9_scoreOf, cX9_scoreOf, 8, (some .int))
abbrev mX9_findFirst : zc_M := (yX9_findFirst, cX9_findFirst, 9, none)
abbrev mX9_offer : zc_M := (yX9_offer, cX9_offer, 8, none)
abbrev mX9_matchOf : zc_M := (yX9_matchOf, cX9_matchOf, 8, (some .int))
abbrev mX9_tell : zc_M := (yX9_tell, cX9_tell, 3, none)
abbrev mX9_lay : zc_M := (yX9_lay, cX9_lay, 6, (some .int))
abbrev mX9_match : zc_M := (yX9_match, cX9_match, 4, (some .int))
abbrev mX9_told : zc_M := (yX9_told, cX9_told, 2, (some .int))
abbrev mX9_pair : zc_M := (yX9_pair, cX9_pair, 2, (some .int))
abbrev mX9_isTool : zc_M := (yX9_isTool, cX9_isTool, 1, (some .boolean))
abbrev mX9_keptBy : zc_M := (yX9_keptBy, cX9_keptBy, 4, (some .int))
abbrev mX9_printOf : zc_M := (yX9_printOf, cX9_printOf, 4, (some .int))
abbrev mX9_keep : zc_M := (yX9_keep, cX9_keep, 4, (some .int))
abbrev mX9_part : zc_M := (yX9_part, cX9_part, 2, (some .int))
abbrev mX9_of : zc_M := (yX9_of, cX9_of, 3, (some .int))
abbrev mX9_melt : zc_M := (yX9_melt, cX9_melt, 4, (some .int))
abbrev mX9_like : zc_M := (yX9_like, cX9_like, 7, (some .int))
abbrev mX9_strangers : zc_M := (yX9_strangers, cX9_strangers, 6, (some .int))
abbrev mX9_ask : zc_M := (yX9_ask, cX9_ask, 5, none)
abbrev mX9_findFlaws : zc_M := (yX9_findFlaws, cX9_findFlaws, 7, none)
abbrev mX9_flaws : zc_M := (yX9_flaws, cX9_flaws, 2, (some .int))
abbrev mX9_flaw : zc_M := (yX9_flaw, cX9_flaw, 4, (some .int))
abbrev mX9_age : zc_M := (yX9_age, cX9_age, 5, (some .int))
abbrev mX9_struck : zc_M := (yX9_struck, cX9_struck, 2, (some .int))
abbrev mX9_count : zc_M := (yX9_count, cX9_count, 4, (some .int))
abbrev mJ9_max_7cf53 : zc_M := (yJ9_max_7cf53, cJ9_max_7cf53, 2, (some .int))
abbrev mJ9_min_7cf53 : zc_M := (yJ9_min_7cf53, cJ9_min_7cf53, 2, (some .int))
theorem lk_X8_67 : zc_lk RX8 67 mX8_isWithin 3 := ⟨(List.mem_of_getElem? (i := 296) (by decide +kernel)), rfl, (List.mem_of_getElem? (i := 40) (by decide +kernel)), rfl, (List.mem_of_getElem? (i := 298) (by decide +kernel)), rfl, ⟨by decide +kernel, by decide +kernel, by decide +kernel⟩, by decide⟩
theorem lk_X8_72 : zc_lk RX8 72 mX1_setRow 2 := ⟨(List.mem_of_getElem? (i := 300) (by decide +kernel)), rfl, (List.mem_of_getElem? (i := 41) (by decide +kernel)), rfl, (List.mem_of_getElem? (i := 303) (by decide +kernel)), rfl, ⟨by decide +kernel, by decide +kernel, by decide +kernel⟩, by decide⟩
theorem lk_X8_76 : zc_lk RX8 76 mX1_darkCells 0 := ⟨(List.mem_of_getElem? (i := 304) (by decide +kernel)), rfl, (List.mem_of_getElem? (i := 41) (by decide +kernel)), rfl, (List.mem_of_getElem? (i := 307) (by decide +kernel)), rfl, ⟨by decide +kernel, by decide +kernel, by decide +kernel⟩, by decide⟩
theorem lk_X8_80 : zc_lk RX8 80 mX1_bitsOf 1 := ⟨(List.mem_of_getElem? (i := 318) (by decide +kernel)), rfl, (List.mem_of_getElem? (i := 41) (by decide +kernel)), rfl, (List.mem_of_getElem? (i := 321) (by decide +kernel)), rfl, ⟨by decide +kernel, by decide +kernel, by decide +kernel⟩, by decide⟩
theorem lk_X8_84 : zc_lk RX8 84 mX1_takeThinned 0 := ⟨(List.mem_of_getElem? (i := 326) (by decide +kernel)), rfl, (List.mem_of_getElem? (i := 41) (by decide +kernel)), rfl, (List.mem_of_getElem? (i := 329) (by decide +kernel)), rfl, ⟨by decide +kernel, by decide +kernel, by decide +kernel⟩, by decide⟩
theorem lk_X8_87 : zc_lk RX8 87 mX1_darkPieces 0 := ⟨(List.mem_of_getElem? (i := 355) (by decide +kernel)), rfl, (List.mem_of_getElem? (i := 41) (by decide +kernel)), rfl, (List.mem_of_getElem? (i := 358) (by decide +kernel)), rfl, ⟨by decide +kernel, by decide +kernel, by decide +kernel⟩, by decide⟩
theorem lk_X8_90 : zc_lk RX8 90 mX1_holes 0 := ⟨(List.mem_of_getElem? (i := 379) (by decide +kernel)), rfl, (List.mem_of_getElem? (i := 41) (by decide +kernel)), rfl, (List.mem_of_getElem? (i := 382) (by decide +kernel)), rfl, ⟨by decide +kernel, by decide +kernel, by decide +kernel⟩, by decide⟩
theorem lk_X8_93 : zc_lk RX8 93 mX1_readPoints 1 := ⟨(List.mem_of_getElem? (i := 388) (by decide +kernel)), rfl, (List.mem_of_getElem? (i := 41) (by decide +kernel)), rfl, (List.mem_of_getElem? (i := 391) (by decide +kernel)), rfl, ⟨by decide +kernel, by decide +kernel, by decide +kernel⟩, by decide⟩
theorem lk_X8_97 : zc_lk RX8 97 mJ9_min_7cf53 2 := ⟨(List.mem_of_getElem? (i := 395) (by decide +kernel)), rfl, (List.mem_of_getElem? (i := 51) (by decide +kernel)), rfl, (List.mem_of_getElem? (i := 397) (by decide +kernel)), rfl, ⟨by decide +kernel, by decide +kernel, by decide +kernel⟩, by decide⟩
theorem lk_X8_103 : zc_lk RX8 103 mJ7_copyOf_59c91 2 := ⟨(List.mem_of_getElem? (i := 399) (by decide +kernel)), rfl, (List.mem_of_getElem? (i := 53) (by decide +kernel)), rfl, (List.mem_of_getElem? (i := 401) (by decide +kernel)), rfl, ⟨by decide +kernel, by decide +kernel, by decide +kernel⟩, by decide⟩
theorem lk_X8_111 : zc_lk RX8 111 mX6_init 4 := ⟨(List.mem_of_getElem? (i := 412) (by decide +kernel)), rfl, (List.mem_of_getElem? (i := 45) (by decide +kernel)), rfl, (List.mem_of_getElem? (i := 126) (by decide +kernel)), rfl, ⟨by decide +kernel, by decide +kernel, by decide +kernel⟩, by decide⟩
theorem lk_X8_114 : zc_lk RX8 114 mX7_init 3 := ⟨(List.mem_of_getElem? (i := 413) (by decide +kernel)), rfl, (List.mem_of_getElem? (i := 52) (by decide +kernel)), rfl, (List.mem_of_getElem? (i := 415) (by decide +kernel)), rfl, ⟨by decide +kernel, by decide +kernel, by decide +kernel⟩, by decide⟩
theorem lk_X8_117 : zc_lk RX8 117 mX8_printAt 1 := ⟨(List.mem_of_getElem? (i := 442) (by decide +kernel)), rfl, (List.mem_of_getElem? (i := 40) (by decide +kernel)), rfl, (List.mem_of_getElem? (i := 445) (by decide +kernel)), rfl, ⟨by decide +kernel, by decide +kernel, by decide +kernel⟩, by decide⟩
theorem lk_X8_121 : zc_lk RX8 121 mX7_size 0 := ⟨(List.mem_of_getElem? (i := 446) (by decide +kernel)), rfl, (List.mem_of_getElem? (i := 52) (by decide +kernel)), rfl, (List.mem_of_getElem? (i := 449) (by decide +kernel)), rfl, ⟨by decide +kernel, by decide +kernel, by decide +kernel⟩, by decide⟩
theorem lk_X8_124 : zc_lk RX8 124 mX7_columnOf 1 := ⟨(List.mem_of_getElem? (i := 450) (by decide +kernel)), rfl, (List.mem_of_getElem? (i := 52) (by decide +kernel)), rfl, (List.mem_of_getElem? (i := 453) (by decide +kernel)), rfl, ⟨by decide +kernel, by decide +kernel, by decide +kernel⟩, by decide⟩
theorem lk_X8_127 : zc_lk RX8 127 mX7_rowOf 1 := ⟨(List.mem_of_getElem? (i := 454) (by decide +kernel)), rfl, (List.mem_of_getElem? (i := 52) (by decide +kernel)), rfl, (List.mem_of_getElem? (i := 457) (by decide +kernel)), rfl, ⟨by decide +kernel, by decide +kernel, by decide +kernel⟩, by decide⟩
theorem lk_X8_130 : zc_lk RX8 130 mX7_kindOf 1 := ⟨(List.mem_of_getElem? (i := 458) (by decide +kernel)), rfl, (List.mem_of_getElem? (i := 52) (by decide +kernel)), rfl, (List.mem_of_getElem? (i := 461) (by decide +kernel)), rfl, ⟨by decide +kernel, by decide +kernel, by decide +kernel⟩, by decide⟩
theorem lk_X8_136 : zc_lk RX8 136 mX3_set 3 := ⟨(List.mem_of_getElem? (i := 470) (by decide +kernel)), rfl, (List.mem_of_getElem? (i := 46) (by decide +kernel)), rfl, (List.mem_of_getElem? (i := 473) (by decide +kernel)), rfl, ⟨by decide +kernel, by decide +kernel, by decide +kernel⟩, by decide⟩
theorem lk_X8_140 : zc_lk RX8 140 mX4_fillIn 3 := ⟨(List.mem_of_getElem? (i := 474) (by decide +kernel)), rfl, (List.mem_of_getElem? (i := 42) (by decide +kernel)), rfl, (List.mem_of_getElem? (i := 477) (by decide +kernel)), rfl, ⟨by decide +kernel, by decide +kernel, by decide +kernel⟩, by decide⟩
theorem lk_X8_147 : zc_lk RX8 147 mX4_layBest 3 := ⟨(List.mem_of_getElem? (i := 564) (by decide +kernel)), rfl, (List.mem_of_getElem? (i := 42) (by decide +kernel)), rfl, (List.mem_of_getElem? (i := 567) (by decide +kernel)), rfl, ⟨by decide +kernel, by decide +kernel, by decide +kernel⟩, by decide⟩
theorem lk_X8_171 : zc_lk RX8 171 mX8_isTool 1 := ⟨(List.mem_of_getElem? (i := 618) (by decide +kernel)), rfl, (List.mem_of_getElem? (i := 40) (by decide +kernel)), rfl, (List.mem_of_getElem? (i := 620) (by decide +kernel)), rfl, ⟨by decide +kernel, by decide +kernel, by decide +kernel⟩, by decide⟩
theorem lk_X8_178 : zc_lk RX8 178 mX8_hasYear 2 := ⟨(List.mem_of_getElem? (i := 621) (by decide +kernel)), rfl, (List.mem_of_getElem? (i := 40) (by decide +kernel)), rfl, (List.mem_of_getElem? (i := 624) (by decide +kernel)), rfl, ⟨by decide +kernel, by decide +kernel, by decide +kernel⟩, by decide⟩
theorem lk_X8_185 : zc_lk RX8 185 mX8_keptBy 1 := ⟨(List.mem_of_getElem? (i := 625) (by decide +kernel)), rfl, (List.mem_of_getElem? (i := 40) (by decide +kernel)), rfl, (List.mem_of_getElem? (i := 628) (by decide +kernel)), rfl, ⟨by decide +kernel, by decide +kernel, by decide +kernel⟩, by decide⟩
theorem lk_X8_188 : zc_lk RX8 188 mX4_scoreOf 2 := ⟨(List.mem_of_getElem? (i := 645) (by decide +kernel)), rfl, (List.mem_of_getElem? (i := 42) (by decide +kernel)), rfl, (List.mem_of_getElem? (i := 648) (by decide +kernel)), rfl, ⟨by decide +kernel, by decide +kernel, by decide +kernel⟩, by decide⟩
theorem lk_X8_192 : zc_lk RX8 192 mX8_areStrangers 2 := ⟨(List.mem_of_getElem? (i := 656) (by decide +kernel)), rfl, (List.mem_of_getElem? (i := 40) (by decide +kernel)), rfl, (List.mem_of_getElem? (i := 658) (by decide +kernel)), rfl, ⟨by decide +kernel, by decide +kernel, by decide +kernel⟩, by decide⟩
theorem lk_X8_196 : zc_lk RX8 196 mX8_readHistory 1 := ⟨(List.mem_of_getElem? (i := 663) (by decide +kernel)), rfl, (List.mem_of_getElem? (i := 40) (by decide +kernel)), rfl, (List.mem_of_getElem? (i := 666) (by decide +kernel)), rfl, ⟨by decide +kernel, by decide +kernel, by decide +kernel⟩, by decide⟩
theorem lk_X8_202 : zc_lk RX8 202 mJ6_bitCount_0f7a4 1 := ⟨(List.mem_of_getElem? (i := 690) (by decide +kernel)), rfl, (List.mem_of_getElem? (i := 49) (by decide +kernel)), rfl, (List.mem_of_getElem? (i := 310) (by decide +kernel)), rfl, ⟨by decide +kernel, by decide +kernel, by decide +kernel⟩, by decide⟩
theorem lk_X8_207 : zc_lk RX8 207 mX2_flawAt 1 := ⟨(List.mem_of_getElem? (i := 695) (by decide +kernel)), rfl, (List.mem_of_getElem? (i := 47) (by decide +kernel)), rfl, (List.mem_of_getElem? (i := 698) (by decide +kernel)), rfl, ⟨by decide +kernel, by decide +kernel, by decide +kernel⟩, by decide⟩
theorem lk_X8_213 : zc_lk RX8 213 mX8_newestOf 1 := ⟨(List.mem_of_getElem? (i := 667) (by decide +kernel)), rfl, (List.mem_of_getElem? (i := 40) (by decide +kernel)), rfl, (List.mem_of_getElem? (i := 670) (by decide +kernel)), rfl, ⟨by decide +kernel, by decide +kernel, by decide +kernel⟩, by decide⟩
theorem lk_X8_219 : zc_lk RX8 219 mX2_lastComing 2 := ⟨(List.mem_of_getElem? (i := 703) (by decide +kernel)), rfl, (List.mem_of_getElem? (i := 47) (by decide +kernel)), rfl, (List.mem_of_getElem? (i := 706) (by decide +kernel)), rfl, ⟨by decide +kernel, by decide +kernel, by decide +kernel⟩, by decide⟩
theorem lk_X8_222 : zc_lk RX8 222 mX3_lacking 0 := ⟨(List.mem_of_getElem? (i := 676) (by decide +kernel)), rfl, (List.mem_of_getElem? (i := 46) (by decide +kernel)), rfl, (List.mem_of_getElem? (i := 679) (by decide +kernel)), rfl, ⟨by decide +kernel, by decide +kernel, by decide +kernel⟩, by decide⟩
theorem lk_X8_225 : zc_lk RX8 225 mX2_firstComing 2 := ⟨(List.mem_of_getElem? (i := 707) (by decide +kernel)), rfl, (List.mem_of_getElem? (i := 47) (by decide +kernel)), rfl, (List.mem_of_getElem? (i := 710) (by decide +kernel)), rfl, ⟨by decide +kernel, by decide +kernel, by decide +kernel⟩, by decide⟩
theorem lk_X8_228 : zc_lk RX8 228 mX8_toolsWithPrints 0 := ⟨(List.mem_of_getElem? (i := 719) (by decide +kernel)), rfl, (List.mem_of_getElem? (i := 40) (by decide +kernel)), rfl, (List.mem_of_getElem? (i := 722) (by decide +kernel)), rfl, ⟨by decide +kernel, by decide +kernel, by decide +kernel⟩, by decide⟩
theorem lk_X8_231 : zc_lk RX8 231 mX2_clear 0 := ⟨(List.mem_of_getElem? (i := 671) (by decide +kernel)), rfl, (List.mem_of_getElem? (i := 47) (by decide +kernel)), rfl, (List.mem_of_getElem? (i := 674) (by decide +kernel)), rfl, ⟨by decide +kernel, by decide +kernel, by decide +kernel⟩, by decide⟩
theorem lk_X8_234 : zc_lk RX8 234 mX2_hear 3 := ⟨(List.mem_of_getElem? (i := 680) (by decide +kernel)), rfl, (List.mem_of_getElem? (i := 47) (by decide +kernel)), rfl, (List.mem_of_getElem? (i := 683) (by decide +kernel)), rfl, ⟨by decide +kernel, by decide +kernel, by decide +kernel⟩, by decide⟩
theorem lk_X8_238 : zc_lk RX8 238 mX2_dateFlaws 0 := ⟨(List.mem_of_getElem? (i := 685) (by decide +kernel)), rfl, (List.mem_of_getElem? (i := 47) (by decide +kernel)), rfl, (List.mem_of_getElem? (i := 688) (by decide +kernel)), rfl, ⟨by decide +kernel, by decide +kernel, by decide +kernel⟩, by decide⟩
theorem lk_X0_21 : zc_lk RX0 21 mJ7_fill_53178 2 := ⟨(List.mem_of_getElem? (i := 482) (by decide +kernel)), rfl, (List.mem_of_getElem? (i := 53) (by decide +kernel)), rfl, (List.mem_of_getElem? (i := 484) (by decide +kernel)), rfl, ⟨by decide +kernel, by decide +kernel, by decide +kernel⟩, by decide⟩
theorem lk_X0_27 : zc_lk RX0 27 mX7_size 0 := ⟨(List.mem_of_getElem? (i := 485) (by decide +kernel)), rfl, (List.mem_of_getElem? (i := 52) (by decide +kernel)), rfl, (List.mem_of_getElem? (i := 449) (by decide +kernel)), rfl, ⟨by decide +kernel, by decide +kernel, by decide +kernel⟩, by decide⟩
theorem lk_X0_33 : zc_lk RX0 33 mX7_columnOf 1 := ⟨(List.mem_of_getElem? (i := 486) (by decide +kernel)), rfl, (List.mem_of_getElem? (i := 52) (by decide +kernel)), rfl, (List.mem_of_getElem? (i := 453) (by decide +kernel)), rfl, ⟨by decide +kernel, by decide +kernel, by decide +kernel⟩, by decide⟩
theorem lk_X0_37 : zc_lk RX0 37 mX0_mark 4 := ⟨(List.mem_of_getElem? (i := 487) (by decide +kernel)), rfl, (List.mem_of_getElem? (i := 43) (by decide +kernel)), rfl, (List.mem_of_getElem? (i := 489) (by decide +kernel)), rfl, ⟨by decide +kernel, by decide +kernel, by decide +kernel⟩, by decide⟩
theorem lk_X0_41 : zc_lk RX0 41 mX7_rowOf 1 := ⟨(List.mem_of_getElem? (i := 490) (by decide +kernel)), rfl, (List.mem_of_getElem? (i := 52) (by decide +kernel)), rfl, (List.mem_of_getElem? (i := 457) (by decide +kernel)), rfl, ⟨by decide +kernel, by decide +kernel, by decide +kernel⟩, by decide⟩
theorem lk_X0_44 : zc_lk RX0 44 mX7_kindOf 1 := ⟨(List.mem_of_getElem? (i := 491) (by decide +kernel)), rfl, (List.mem_of_getElem? (i := 52) (by decide +kernel)), rfl, (List.mem_of_getElem? (i := 461) (by decide +kernel)), rfl, ⟨by decide +kernel, by decide +kernel, by decide +kernel⟩, by decide⟩
theorem lk_X1_21 : zc_lk RX1 21 mJ6_bitCount_0f7a4 1 := ⟨(List.mem_of_getElem? (i := 308) (by decide +kernel)), rfl, (List.mem_of_getElem? (i := 49) (by decide +kernel)), rfl, (List.mem_of_getElem? (i := 310) (by decide +kernel)), rfl, ⟨by decide +kernel, by decide +kernel, by decide +kernel⟩, by decide⟩
theorem lk_X1_27 : zc_lk RX1 27 mX1_sweepOnce 0 := ⟨(List.mem_of_getElem? (i := 330) (by decide +kernel)), rfl, (List.mem_of_getElem? (i := 41) (by decide +kernel)), rfl, (List.mem_of_getElem? (i := 333) (by decide +kernel)), rfl, ⟨by decide +kernel, by decide +kernel, by decide +kernel⟩, by decide⟩
theorem lk_X1_31 : zc_lk RX1 31 mX1_isDark 2 := ⟨(List.mem_of_getElem? (i := 334) (by decide +kernel)), rfl, (List.mem_of_getElem? (i := 41) (by decide +kernel)), rfl, (List.mem_of_getElem? (i := 337) (by decide +kernel)), rfl, ⟨by decide +kernel, by decide +kernel, by decide +kernel⟩, by decide⟩
theorem lk_X1_35 : zc_lk RX1 35 mX1_ringAt 2 := ⟨(List.mem_of_getElem? (i := 338) (by decide +kernel)), rfl, (List.mem_of_getElem? (i := 41) (by decide +kernel)), rfl, (List.mem_of_getElem? (i := 341) (by decide +kernel)), rfl, ⟨by decide +kernel, by decide +kernel, by decide +kernel⟩, by decide⟩
theorem lk_X1_39 : zc_lk RX1 39 mX1_goes 1 := ⟨(List.mem_of_getElem? (i := 345) (by decide +kernel)), rfl, (List.mem_of_getElem? (i := 41) (by decide +kernel)), rfl, (List.mem_of_getElem? (i := 347) (by decide +kernel)), rfl, ⟨by decide +kernel, by decide +kernel, by decide +kernel⟩, by decide⟩
theorem lk_X1_43 : zc_lk RX1 43 mX1_hangsTogether 1 := ⟨(List.mem_of_getElem? (i := 348) (by decide +kernel)), rfl, (List.mem_of_getElem? (i := 41) (by decide +kernel)), rfl, (List.mem_of_getElem? (i := 350) (by decide +kernel)), rfl, ⟨by decide +kernel, by decide +kernel, by decide +kernel⟩, by decide⟩
theorem lk_X1_46 : zc_lk RX1 46 mX1_threeAt 2 := ⟨(List.mem_of_getElem? (i := 342) (by decide +kernel)), rfl, (List.mem_of_getElem? (i := 41) (by decide +kernel)), rfl, (List.mem_of_getElem? (i := 344) (by decide +kernel)), rfl, ⟨by decide +kernel, by decide +kernel, by decide +kernel⟩, by decide⟩
theorem lk_X1_55 : zc_lk RX1 55 mX1_takePieces 1 := ⟨(List.mem_of_getElem? (i := 362) (by decide +kernel)), rfl, (List.mem_of_getElem? (i := 41) (by decide +kernel)), rfl, (List.mem_of_getElem? (i := 365) (by decide +kernel)), rfl, ⟨by decide +kernel, by decide +kernel, by decide +kernel⟩, by decide⟩
theorem lk_X1_59 : zc_lk RX1 59 mX1_takes 2 := ⟨(List.mem_of_getElem? (i := 366) (by decide +kernel)), rfl, (List.mem_of_getElem? (i := 41) (by decide +kernel)), rfl, (List.mem_of_getElem? (i := 369) (by decide +kernel)), rfl, ⟨by decide +kernel, by decide +kernel, by decide +kernel⟩, by decide⟩
theorem lk_X1_62 : zc_lk RX1 62 mX1_takeRest 3 := ⟨(List.mem_of_getElem? (i := 371) (by decide +kernel)), rfl, (List.mem_of_getElem? (i := 41) (by decide +kernel)), rfl, (List.mem_of_getElem? (i := 374) (by decide +kernel)), rfl, ⟨by decide +kernel, by decide +kernel, by decide +kernel⟩, by decide⟩
theorem lk_X1_76 : zc_lk RX1 76 mX1_kindOf 2 := ⟨(List.mem_of_getElem? (i := 392) (by decide +kernel)), rfl, (List.mem_of_getElem? (i := 41) (by decide +kernel)), rfl, (List.mem_of_getElem? (i := 394) (by decide +kernel)), rfl, ⟨by decide +kernel, by decide +kernel, by decide +kernel⟩, by decide⟩
theorem lk_X2_31 : zc_lk RX2 31 mJ7_fill_53178 2 := ⟨(List.mem_of_getElem? (i := 675) (by decide +kernel)), rfl, (List.mem_of_getElem? (i := 53) (by decide +kernel)), rfl, (List.mem_of_getElem? (i := 484) (by decide +kernel)), rfl, ⟨by decide +kernel, by decide +kernel, by decide +kernel⟩, by decide⟩
theorem lk_X2_42 : zc_lk RX2 42 mJ9_max_7cf53 2 := ⟨(List.mem_of_getElem? (i := 684) (by decide +kernel)), rfl, (List.mem_of_getElem? (i := 51) (by decide +kernel)), rfl, (List.mem_of_getElem? (i := 514) (by decide +kernel)), rfl, ⟨by decide +kernel, by decide +kernel, by decide +kernel⟩, by decide⟩
theorem lk_X2_48 : zc_lk RX2 48 mJ9_min_7cf53 2 := ⟨(List.mem_of_getElem? (i := 689) (by decide +kernel)), rfl, (List.mem_of_getElem? (i := 51) (by decide +kernel)), rfl, (List.mem_of_getElem? (i := 397) (by decide +kernel)), rfl, ⟨by decide +kernel, by decide +kernel, by decide +kernel⟩, by decide⟩
theorem lk_X3_44 : zc_lk RX3 44 mX3_set 3 := ⟨(List.mem_of_getElem? (i := 593) (by decide +kernel)), rfl, (List.mem_of_getElem? (i := 46) (by decide +kernel)), rfl, (List.mem_of_getElem? (i := 473) (by decide +kernel)), rfl, ⟨by decide +kernel, by decide +kernel, by decide +kernel⟩, by decide⟩
theorem lk_X3_48 : zc_lk RX3 48 mJ7_fill_53178 2 := ⟨(List.mem_of_getElem? (i := 594) (by decide +kernel)), rfl, (List.mem_of_getElem? (i := 53) (by decide +kernel)), rfl, (List.mem_of_getElem? (i := 484) (by decide +kernel)), rfl, ⟨by decide +kernel, by decide +kernel, by decide +kernel⟩, by decide⟩
theorem lk_X4_41 : zc_lk RX4 41 mX6_init 4 := ⟨(List.mem_of_getElem? (i := 124) (by decide +kernel)), rfl, (List.mem_of_getElem? (i := 45) (by decide +kernel)), rfl, (List.mem_of_getElem? (i := 126) (by decide +kernel)), rfl, ⟨by decide +kernel, by decide +kernel, by decide +kernel⟩, by decide⟩
theorem lk_X4_57 : zc_lk RX4 57 mX4_bestOf 2 := ⟨(List.mem_of_getElem? (i := 568) (by decide +kernel)), rfl, (List.mem_of_getElem? (i := 42) (by decide +kernel)), rfl, (List.mem_of_getElem? (i := 571) (by decide +kernel)), rfl, ⟨by decide +kernel, by decide +kernel, by decide +kernel⟩, by decide⟩
theorem lk_X4_61 : zc_lk RX4 61 mX4_unpackScore 1 := ⟨(List.mem_of_getElem? (i := 649) (by decide +kernel)), rfl, (List.mem_of_getElem? (i := 42) (by decide +kernel)), rfl, (List.mem_of_getElem? (i := 651) (by decide +kernel)), rfl, ⟨by decide +kernel, by decide +kernel, by decide +kernel⟩, by decide⟩
theorem lk_X4_65 : zc_lk RX4 65 mX3_setNone 0 := ⟨(List.mem_of_getElem? (i := 589) (by decide +kernel)), rfl, (List.mem_of_getElem? (i := 46) (by decide +kernel)), rfl, (List.mem_of_getElem? (i := 592) (by decide +kernel)), rfl, ⟨by decide +kernel, by decide +kernel, by decide +kernel⟩, by decide⟩
theorem lk_X4_70 : zc_lk RX4 70 mX4_unpackTurn 1 := ⟨(List.mem_of_getElem? (i := 595) (by decide +kernel)), rfl, (List.mem_of_getElem? (i := 42) (by decide +kernel)), rfl, (List.mem_of_getElem? (i := 597) (by decide +kernel)), rfl, ⟨by decide +kernel, by decide +kernel, by decide +kernel⟩, by decide⟩
theorem lk_X4_73 : zc_lk RX4 73 mX4_unpackColumn 1 := ⟨(List.mem_of_getElem? (i := 598) (by decide +kernel)), rfl, (List.mem_of_getElem? (i := 42) (by decide +kernel)), rfl, (List.mem_of_getElem? (i := 600) (by decide +kernel)), rfl, ⟨by decide +kernel, by decide +kernel, by decide +kernel⟩, by decide⟩
theorem lk_X4_76 : zc_lk RX4 76 mX4_unpackRow 1 := ⟨(List.mem_of_getElem? (i := 601) (by decide +kernel)), rfl, (List.mem_of_getElem? (i := 42) (by decide +kernel)), rfl, (List.mem_of_getElem? (i := 603) (by decide +kernel)), rfl, ⟨by decide +kernel, by decide +kernel, by decide +kernel⟩, by decide⟩
theorem lk_X4_79 : zc_lk RX4 79 mX3_set 3 := ⟨(List.mem_of_getElem? (i := 604) (by decide +kernel)), rfl, (List.mem_of_getElem? (i := 46) (by decide +kernel)), rfl, (List.mem_of_getElem? (i := 473) (by decide +kernel)), rfl, ⟨by decide +kernel, by decide +kernel, by decide +kernel⟩, by decide⟩
theorem lk_X4_83 : zc_lk RX4 83 mX4_fillIn 3 := ⟨(List.mem_of_getElem? (i := 605) (by decide +kernel)), rfl, (List.mem_of_getElem? (i := 42) (by decide +kernel)), rfl, (List.mem_of_getElem? (i := 477) (by decide +kernel)), rfl, ⟨by decide +kernel, by decide +kernel, by decide +kernel⟩, by decide⟩
theorem lk_X4_87 : zc_lk RX4 87 mX0_learn 2 := ⟨(List.mem_of_getElem? (i := 478) (by decide +kernel)), rfl, (List.mem_of_getElem? (i := 43) (by decide +kernel)), rfl, (List.mem_of_getElem? (i := 481) (by decide +kernel)), rfl, ⟨by decide +kernel, by decide +kernel, by decide +kernel⟩, by decide⟩
theorem lk_X4_94 : zc_lk RX4 94 mX4_turnBy 2 := ⟨(List.mem_of_getElem? (i := 492) (by decide +kernel)), rfl, (List.mem_of_getElem? (i := 42) (by decide +kernel)), rfl, (List.mem_of_getElem? (i := 495) (by decide +kernel)), rfl, ⟨by decide +kernel, by decide +kernel, by decide +kernel⟩, by decide⟩
theorem lk_X4_103 : zc_lk RX4 103 mX4_shiftBy 4 := ⟨(List.mem_of_getElem? (i := 515) (by decide +kernel)), rfl, (List.mem_of_getElem? (i := 42) (by decide +kernel)), rfl, (List.mem_of_getElem? (i := 518) (by decide +kernel)), rfl, ⟨by decide +kernel, by decide +kernel, by decide +kernel⟩, by decide⟩
theorem lk_X4_107 : zc_lk RX4 107 mX5_most 2 := ⟨(List.mem_of_getElem? (i := 537) (by decide +kernel)), rfl, (List.mem_of_getElem? (i := 44) (by decide +kernel)), rfl, (List.mem_of_getElem? (i := 540) (by decide +kernel)), rfl, ⟨by decide +kernel, by decide +kernel, by decide +kernel⟩, by decide⟩
theorem lk_X4_114 : zc_lk RX4 114 mX4_bareWith 1 := ⟨(List.mem_of_getElem? (i := 546) (by decide +kernel)), rfl, (List.mem_of_getElem? (i := 42) (by decide +kernel)), rfl, (List.mem_of_getElem? (i := 549) (by decide +kernel)), rfl, ⟨by decide +kernel, by decide +kernel, by decide +kernel⟩, by decide⟩
theorem lk_X4_120 : zc_lk RX4 120 mX4_scoreWith 1 := ⟨(List.mem_of_getElem? (i := 551) (by decide +kernel)), rfl, (List.mem_of_getElem? (i := 42) (by decide +kernel)), rfl, (List.mem_of_getElem? (i := 554) (by decide +kernel)), rfl, ⟨by decide +kernel, by decide +kernel, by decide +kernel⟩, by decide⟩
theorem lk_X4_130 : zc_lk RX4 130 mX5_choose 2 := ⟨(List.mem_of_getElem? (i := 555) (by decide +kernel)), rfl, (List.mem_of_getElem? (i := 44) (by decide +kernel)), rfl, (List.mem_of_getElem? (i := 558) (by decide +kernel)), rfl, ⟨by decide +kernel, by decide +kernel, by decide +kernel⟩, by decide⟩
theorem lk_X4_142 : zc_lk RX4 142 mX4_search 2 := ⟨(List.mem_of_getElem? (i := 572) (by decide +kernel)), rfl, (List.mem_of_getElem? (i := 42) (by decide +kernel)), rfl, (List.mem_of_getElem? (i := 575) (by decide +kernel)), rfl, ⟨by decide +kernel, by decide +kernel, by decide +kernel⟩, by decide⟩
theorem lk_X4_145 : zc_lk RX4 145 mX4_markLandings 2 := ⟨(List.mem_of_getElem? (i := 576) (by decide +kernel)), rfl, (List.mem_of_getElem? (i := 42) (by decide +kernel)), rfl, (List.mem_of_getElem? (i := 579) (by decide +kernel)), rfl, ⟨by decide +kernel, by decide +kernel, by decide +kernel⟩, by decide⟩
theorem lk_X4_149 : zc_lk RX4 149 mX5_bound 0 := ⟨(List.mem_of_getElem? (i := 581) (by decide +kernel)), rfl, (List.mem_of_getElem? (i := 44) (by decide +kernel)), rfl, (List.mem_of_getElem? (i := 584) (by decide +kernel)), rfl, ⟨by decide +kernel, by decide +kernel, by decide +kernel⟩, by decide⟩
theorem lk_X4_153 : zc_lk RX4 153 mX4_pack 4 := ⟨(List.mem_of_getElem? (i := 586) (by decide +kernel)), rfl, (List.mem_of_getElem? (i := 42) (by decide +kernel)), rfl, (List.mem_of_getElem? (i := 588) (by decide +kernel)), rfl, ⟨by decide +kernel, by decide +kernel, by decide +kernel⟩, by decide⟩
theorem lk_X4_157 : zc_lk RX4 157 mX7_size 0 := ⟨(List.mem_of_getElem? (i := 496) (by decide +kernel)), rfl, (List.mem_of_getElem? (i := 52) (by decide +kernel)), rfl, (List.mem_of_getElem? (i := 449) (by decide +kernel)), rfl, ⟨by decide +kernel, by decide +kernel, by decide +kernel⟩, by decide⟩
theorem lk_X4_160 : zc_lk RX4 160 mX7_columnOf 1 := ⟨(List.mem_of_getElem? (i := 497) (by decide +kernel)), rfl, (List.mem_of_getElem? (i := 52) (by decide +kernel)), rfl, (List.mem_of_getElem? (i := 453) (by decide +kernel)), rfl, ⟨by decide +kernel, by decide +kernel, by decide +kernel⟩, by decide⟩
theorem lk_X4_163 : zc_lk RX4 163 mX7_rowOf 1 := ⟨(List.mem_of_getElem? (i := 498) (by decide +kernel)), rfl, (List.mem_of_getElem? (i := 52) (by decide +kernel)), rfl, (List.mem_of_getElem? (i := 457) (by decide +kernel)), rfl, ⟨by decide +kernel, by decide +kernel, by decide +kernel⟩, by decide⟩
theorem lk_X4_166 : zc_lk RX4 166 mX6_turnedColumn 3 := ⟨(List.mem_of_getElem? (i := 499) (by decide +kernel)), rfl, (List.mem_of_getElem? (i := 45) (by decide +kernel)), rfl, (List.mem_of_getElem? (i := 501) (by decide +kernel)), rfl, ⟨by decide +kernel, by decide +kernel, by decide +kernel⟩, by decide⟩
theorem lk_X4_170 : zc_lk RX4 170 mX6_turnedRow 3 := ⟨(List.mem_of_getElem? (i := 502) (by decide +kernel)), rfl, (List.mem_of_getElem? (i := 45) (by decide +kernel)), rfl, (List.mem_of_getElem? (i := 504) (by decide +kernel)), rfl, ⟨by decide +kernel, by decide +kernel, by decide +kernel⟩, by decide⟩
theorem lk_X4_176 : zc_lk RX4 176 mX6_becomeTurned 2 := ⟨(List.mem_of_getElem? (i := 505) (by decide +kernel)), rfl, (List.mem_of_getElem? (i := 45) (by decide +kernel)), rfl, (List.mem_of_getElem? (i := 508) (by decide +kernel)), rfl, ⟨by decide +kernel, by decide +kernel, by decide +kernel⟩, by decide⟩
theorem lk_X4_180 : zc_lk RX4 180 mJ7_fill_53178 2 := ⟨(List.mem_of_getElem? (i := 580) (by decide +kernel)), rfl, (List.mem_of_getElem? (i := 53) (by decide +kernel)), rfl, (List.mem_of_getElem? (i := 484) (by decide +kernel)), rfl, ⟨by decide +kernel, by decide +kernel, by decide +kernel⟩, by decide⟩
theorem lk_X4_186 : zc_lk RX4 186 mX7_kindOf 1 := ⟨(List.mem_of_getElem? (i := 523) (by decide +kernel)), rfl, (List.mem_of_getElem? (i := 52) (by decide +kernel)), rfl, (List.mem_of_getElem? (i := 461) (by decide +kernel)), rfl, ⟨by decide +kernel, by decide +kernel, by decide +kernel⟩, by decide⟩
theorem lk_X4_189 : zc_lk RX4 189 mX5_clear 0 := ⟨(List.mem_of_getElem? (i := 519) (by decide +kernel)), rfl, (List.mem_of_getElem? (i := 44) (by decide +kernel)), rfl, (List.mem_of_getElem? (i := 522) (by decide +kernel)), rfl, ⟨by decide +kernel, by decide +kernel, by decide +kernel⟩, by decide⟩
theorem lk_X4_192 : zc_lk RX4 192 mX0_near 3 := ⟨(List.mem_of_getElem? (i := 524) (by decide +kernel)), rfl, (List.mem_of_getElem? (i := 43) (by decide +kernel)), rfl, (List.mem_of_getElem? (i := 527) (by decide +kernel)), rfl, ⟨by decide +kernel, by decide +kernel, by decide +kernel⟩, by decide⟩
theorem lk_X4_195 : zc_lk RX4 195 mX5_add 1 := ⟨(List.mem_of_getElem? (i := 528) (by decide +kernel)), rfl, (List.mem_of_getElem? (i := 44) (by decide +kernel)), rfl, (List.mem_of_getElem? (i := 531) (by decide +kernel)), rfl, ⟨by decide +kernel, by decide +kernel, by decide +kernel⟩, by decide⟩
theorem lk_X4_199 : zc_lk RX4 199 mX6_holds 2 := ⟨(List.mem_of_getElem? (i := 532) (by decide +kernel)), rfl, (List.mem_of_getElem? (i := 45) (by decide +kernel)), rfl, (List.mem_of_getElem? (i := 535) (by decide +kernel)), rfl, ⟨by decide +kernel, by decide +kernel, by decide +kernel⟩, by decide⟩
theorem lk_X4_203 : zc_lk RX4 203 mJ6_bitCount_0f7a4 1 := ⟨(List.mem_of_getElem? (i := 536) (by decide +kernel)), rfl, (List.mem_of_getElem? (i := 49) (by decide +kernel)), rfl, (List.mem_of_getElem? (i := 310) (by decide +kernel)), rfl, ⟨by decide +kernel, by decide +kernel, by decide +kernel⟩, by decide⟩
theorem lk_X4_208 : zc_lk RX4 208 mJ9_max_7cf53 2 := ⟨(List.mem_of_getElem? (i := 550) (by decide +kernel)), rfl, (List.mem_of_getElem? (i := 51) (by decide +kernel)), rfl, (List.mem_of_getElem? (i := 514) (by decide +kernel)), rfl, ⟨by decide +kernel, by decide +kernel, by decide +kernel⟩, by decide⟩
theorem lk_X5_25 : zc_lk RX5 25 mJ6_bitCount_0f7a4 1 := ⟨(List.mem_of_getElem? (i := 545) (by decide +kernel)), rfl, (List.mem_of_getElem? (i := 49) (by decide +kernel)), rfl, (List.mem_of_getElem? (i := 310) (by decide +kernel)), rfl, ⟨by decide +kernel, by decide +kernel, by decide +kernel⟩, by decide⟩
theorem lk_X5_31 : zc_lk RX5 31 mJ9_min_7cf53 2 := ⟨(List.mem_of_getElem? (i := 585) (by decide +kernel)), rfl, (List.mem_of_getElem? (i := 51) (by decide +kernel)), rfl, (List.mem_of_getElem? (i := 397) (by decide +kernel)), rfl, ⟨by decide +kernel, by decide +kernel, by decide +kernel⟩, by decide⟩
theorem lk_X5_37 : zc_lk RX5 37 mJ7_fill_53178 2 := ⟨(List.mem_of_getElem? (i := 541) (by decide +kernel)), rfl, (List.mem_of_getElem? (i := 53) (by decide +kernel)), rfl, (List.mem_of_getElem? (i := 484) (by decide +kernel)), rfl, ⟨by decide +kernel, by decide +kernel, by decide +kernel⟩, by decide⟩
theorem lk_X5_43 : zc_lk RX5 43 mX5_finds 3 := ⟨(List.mem_of_getElem? (i := 542) (by decide +kernel)), rfl, (List.mem_of_getElem? (i := 44) (by decide +kernel)), rfl, (List.mem_of_getElem? (i := 544) (by decide +kernel)), rfl, ⟨by decide +kernel, by decide +kernel, by decide +kernel⟩, by decide⟩
theorem lk_X5_47 : zc_lk RX5 47 mX5_most 2 := ⟨(List.mem_of_getElem? (i := 559) (by decide +kernel)), rfl, (List.mem_of_getElem? (i := 44) (by decide +kernel)), rfl, (List.mem_of_getElem? (i := 540) (by decide +kernel)), rfl, ⟨by decide +kernel, by decide +kernel, by decide +kernel⟩, by decide⟩
theorem lk_X6_24 : zc_lk RX6 24 mX6_turnedColumn 3 := ⟨(List.mem_of_getElem? (i := 509) (by decide +kernel)), rfl, (List.mem_of_getElem? (i := 45) (by decide +kernel)), rfl, (List.mem_of_getElem? (i := 501) (by decide +kernel)), rfl, ⟨by decide +kernel, by decide +kernel, by decide +kernel⟩, by decide⟩
theorem lk_X6_28 : zc_lk RX6 28 mX6_turnedRow 3 := ⟨(List.mem_of_getElem? (i := 510) (by decide +kernel)), rfl, (List.mem_of_getElem? (i := 45) (by decide +kernel)), rfl, (List.mem_of_getElem? (i := 504) (by decide +kernel)), rfl, ⟨by decide +kernel, by decide +kernel, by decide +kernel⟩, by decide⟩
theorem lk_X6_31 : zc_lk RX6 31 mJ9_min_7cf53 2 := ⟨(List.mem_of_getElem? (i := 511) (by decide +kernel)), rfl, (List.mem_of_getElem? (i := 51) (by decide +kernel)), rfl, (List.mem_of_getElem? (i := 397) (by decide +kernel)), rfl, ⟨by decide +kernel, by decide +kernel, by decide +kernel⟩, by decide⟩
theorem lk_X6_37 : zc_lk RX6 37 mJ9_max_7cf53 2 := ⟨(List.mem_of_getElem? (i := 512) (by decide +kernel)), rfl, (List.mem_of_getElem? (i := 51) (by decide +kernel)), rfl, (List.mem_of_getElem? (i := 514) (by decide +kernel)), rfl, ⟨by decide +kernel, by decide +kernel, by decide +kernel⟩, by decide⟩
theorem lk_L_9 : zc_lk RL 9 mX8_init 0 := ⟨(List.mem_of_getElem? (i := 56) (by decide +kernel)), rfl, (List.mem_of_getElem? (i := 40) (by decide +kernel)), rfl, (List.mem_of_getElem? (i := 58) (by decide +kernel)), rfl, ⟨by decide +kernel, by decide +kernel, by decide +kernel⟩, by decide⟩
theorem lk_L_12 : zc_lk RL 12 mX9_init 0 := ⟨(List.mem_of_getElem? (i := 725) (by decide +kernel)), rfl, (List.mem_of_getElem? (i := 48) (by decide +kernel)), rfl, (List.mem_of_getElem? (i := 727) (by decide +kernel)), rfl, ⟨by decide +kernel, by decide +kernel, by decide +kernel⟩, by decide⟩
theorem lk_L_13 : zc_lk RL 13 mX8_feed 2 := ⟨(List.mem_of_getElem? (i := 292) (by decide +kernel)), rfl, (List.mem_of_getElem? (i := 40) (by decide +kernel)), rfl, (List.mem_of_getElem? (i := 295) (by decide +kernel)), rfl, ⟨by decide +kernel, by decide +kernel, by decide +kernel⟩, by decide⟩
theorem lk_L_17 : zc_lk RL 17 mX9_feed 2 := ⟨(List.mem_of_getElem? (i := 845) (by decide +kernel)), rfl, (List.mem_of_getElem? (i := 48) (by decide +kernel)), rfl, (List.mem_of_getElem? (i := 848) (by decide +kernel)), rfl, ⟨by decide +kernel, by decide +kernel, by decide +kernel⟩, by decide⟩
theorem lk_L_18 : zc_lk RL 18 mX8_row 1 := ⟨(List.mem_of_getElem? (i := 314) (by decide +kernel)), rfl, (List.mem_of_getElem? (i := 40) (by decide +kernel)), rfl, (List.mem_of_getElem? (i := 317) (by decide +kernel)), rfl, ⟨by decide +kernel, by decide +kernel, by decide +kernel⟩, by decide⟩
theorem lk_L_22 : zc_lk RL 22 mX9_row 1 := ⟨(List.mem_of_getElem? (i := 857) (by decide +kernel)), rfl, (List.mem_of_getElem? (i := 48) (by decide +kernel)), rfl, (List.mem_of_getElem? (i := 860) (by decide +kernel)), rfl, ⟨by decide +kernel, by decide +kernel, by decide +kernel⟩, by decide⟩
theorem lk_L_23 : zc_lk RL 23 mX8_thin 0 := ⟨(List.mem_of_getElem? (i := 322) (by decide +kernel)), rfl, (List.mem_of_getElem? (i := 40) (by decide +kernel)), rfl, (List.mem_of_getElem? (i := 325) (by decide +kernel)), rfl, ⟨by decide +kernel, by decide +kernel, by decide +kernel⟩, by decide⟩
theorem lk_L_27 : zc_lk RL 27 mX9_thin 0 := ⟨(List.mem_of_getElem? (i := 861) (by decide +kernel)), rfl, (List.mem_of_getElem? (i := 48) (by decide +kernel)), rfl, (List.mem_of_getElem? (i := 864) (by decide +kernel)), rfl, ⟨by decide +kernel, by decide +kernel, by decide +kernel⟩, by decide⟩
theorem lk_L_28 : zc_lk RL 28 mX8_pieces 1 := ⟨(List.mem_of_getElem? (i := 351) (by decide +kernel)), rfl, (List.mem_of_getElem? (i := 40) (by decide +kernel)), rfl, (List.mem_of_getElem? (i := 354) (by decide +kernel)), rfl, ⟨by decide +kernel, by decide +kernel, by decide +kernel⟩, by decide⟩
theorem lk_L_31 : zc_lk RL 31 mX9_pieces 1 := ⟨(List.mem_of_getElem? (i := 883) (by decide +kernel)), rfl, (List.mem_of_getElem? (i := 48) (by decide +kernel)), rfl, (List.mem_of_getElem? (i := 886) (by decide +kernel)), rfl, ⟨by decide +kernel, by decide +kernel, by decide +kernel⟩, by decide⟩
theorem lk_L_32 : zc_lk RL 32 mX8_print 1 := ⟨(List.mem_of_getElem? (i := 384) (by decide +kernel)), rfl, (List.mem_of_getElem? (i := 40) (by decide +kernel)), rfl, (List.mem_of_getElem? (i := 387) (by decide +kernel)), rfl, ⟨by decide +kernel, by decide +kernel, by decide +kernel⟩, by decide⟩
theorem lk_L_35 : zc_lk RL 35 mX9_print 1 := ⟨(List.mem_of_getElem? (i := 895) (by decide +kernel)), rfl, (List.mem_of_getElem? (i := 48) (by decide +kernel)), rfl, (List.mem_of_getElem? (i := 898) (by decide +kernel)), rfl, ⟨by decide +kernel, by decide +kernel, by decide +kernel⟩, by decide⟩
theorem lk_L_36 : zc_lk RL 36 mX8_point 2 := ⟨(List.mem_of_getElem? (i := 438) (by decide +kernel)), rfl, (List.mem_of_getElem? (i := 40) (by decide +kernel)), rfl, (List.mem_of_getElem? (i := 441) (by decide +kernel)), rfl, ⟨by decide +kernel, by decide +kernel, by decide +kernel⟩, by decide⟩
theorem lk_L_39 : zc_lk RL 39 mX9_point 2 := ⟨(List.mem_of_getElem? (i := 903) (by decide +kernel)), rfl, (List.mem_of_getElem? (i := 48) (by decide +kernel)), rfl, (List.mem_of_getElem? (i := 906) (by decide +kernel)), rfl, ⟨by decide +kernel, by decide +kernel, by decide +kernel⟩, by decide⟩
theorem lk_L_40 : zc_lk RL 40 mX8_reach 1 := ⟨(List.mem_of_getElem? (i := 462) (by decide +kernel)), rfl, (List.mem_of_getElem? (i := 40) (by decide +kernel)), rfl, (List.mem_of_getElem? (i := 465) (by decide +kernel)), rfl, ⟨by decide +kernel, by decide +kernel, by decide +kernel⟩, by decide⟩
theorem lk_L_43 : zc_lk RL 43 mX9_reach 1 := ⟨(List.mem_of_getElem? (i := 911) (by decide +kernel)), rfl, (List.mem_of_getElem? (i := 48) (by decide +kernel)), rfl, (List.mem_of_getElem? (i := 914) (by decide +kernel)), rfl, ⟨by decide +kernel, by decide +kernel, by decide +kernel⟩, by decide⟩
theorem lk_L_44 : zc_lk RL 44 mX8_lay 5 := ⟨(List.mem_of_getElem? (i := 466) (by decide +kernel)), rfl, (List.mem_of_getElem? (i := 40) (by decide +kernel)), rfl, (List.mem_of_getElem? (i := 469) (by decide +kernel)), rfl, ⟨by decide +kernel, by decide +kernel, by decide +kernel⟩, by decide⟩
theorem lk_L_48 : zc_lk RL 48 mX9_lay 5 := ⟨(List.mem_of_getElem? (i := 915) (by decide +kernel)), rfl, (List.mem_of_getElem? (i := 48) (by decide +kernel)), rfl, (List.mem_of_getElem? (i := 918) (by decide +kernel)), rfl, ⟨by decide +kernel, by decide +kernel, by decide +kernel⟩, by decide⟩
theorem lk_L_49 : zc_lk RL 49 mX8_match 2 := ⟨(List.mem_of_getElem? (i := 560) (by decide +kernel)), rfl, (List.mem_of_getElem? (i := 40) (by decide +kernel)), rfl, (List.mem_of_getElem? (i := 563) (by decide +kernel)), rfl, ⟨by decide +kernel, by decide +kernel, by decide +kernel⟩, by decide⟩
theorem lk_L_52 : zc_lk RL 52 mX9_match 2 := ⟨(List.mem_of_getElem? (i := 952) (by decide +kernel)), rfl, (List.mem_of_getElem? (i := 48) (by decide +kernel)), rfl, (List.mem_of_getElem? (i := 955) (by decide +kernel)), rfl, ⟨by decide +kernel, by decide +kernel, by decide +kernel⟩, by decide⟩
theorem lk_L_53 : zc_lk RL 53 mX8_told 1 := ⟨(List.mem_of_getElem? (i := 606) (by decide +kernel)), rfl, (List.mem_of_getElem? (i := 40) (by decide +kernel)), rfl, (List.mem_of_getElem? (i := 609) (by decide +kernel)), rfl, ⟨by decide +kernel, by decide +kernel, by decide +kernel⟩, by decide⟩
theorem lk_L_56 : zc_lk RL 56 mX9_told 1 := ⟨(List.mem_of_getElem? (i := 964) (by decide +kernel)), rfl, (List.mem_of_getElem? (i := 48) (by decide +kernel)), rfl, (List.mem_of_getElem? (i := 967) (by decide +kernel)), rfl, ⟨by decide +kernel, by decide +kernel, by decide +kernel⟩, by decide⟩
theorem lk_L_57 : zc_lk RL 57 mX8_pair 1 := ⟨(List.mem_of_getElem? (i := 610) (by decide +kernel)), rfl, (List.mem_of_getElem? (i := 40) (by decide +kernel)), rfl, (List.mem_of_getElem? (i := 613) (by decide +kernel)), rfl, ⟨by decide +kernel, by decide +kernel, by decide +kernel⟩, by decide⟩
theorem lk_L_60 : zc_lk RL 60 mX9_pair 1 := ⟨(List.mem_of_getElem? (i := 968) (by decide +kernel)), rfl, (List.mem_of_getElem? (i := 48) (by decide +kernel)), rfl, (List.mem_of_getElem? (i := 971) (by decide +kernel)), rfl, ⟨by decide +kernel, by decide +kernel, by decide +kernel⟩, by decide⟩
theorem lk_L_61 : zc_lk RL 61 mX8_keep 3 := ⟨(List.mem_of_getElem? (i := 614) (by decide +kernel)), rfl, (List.mem_of_getElem? (i := 40) (by decide +kernel)), rfl, (List.mem_of_getElem? (i := 617) (by decide +kernel)), rfl, ⟨by decide +kernel, by decide +kernel, by decide +kernel⟩, by decide⟩
theorem lk_L_65 : zc_lk RL 65 mX9_keep 3 := ⟨(List.mem_of_getElem? (i := 972) (by decide +kernel)), rfl, (List.mem_of_getElem? (i := 48) (by decide +kernel)), rfl, (List.mem_of_getElem? (i := 975) (by decide +kernel)), rfl, ⟨by decide +kernel, by decide +kernel, by decide +kernel⟩, by decide⟩
theorem lk_L_66 : zc_lk RL 66 mX8_part 1 := ⟨(List.mem_of_getElem? (i := 629) (by decide +kernel)), rfl, (List.mem_of_getElem? (i := 40) (by decide +kernel)), rfl, (List.mem_of_getElem? (i := 632) (by decide +kernel)), rfl, ⟨by decide +kernel, by decide +kernel, by decide +kernel⟩, by decide⟩
theorem lk_L_69 : zc_lk RL 69 mX9_part 1 := ⟨(List.mem_of_getElem? (i := 987) (by decide +kernel)), rfl, (List.mem_of_getElem? (i := 48) (by decide +kernel)), rfl, (List.mem_of_getElem? (i := 990) (by decide +kernel)), rfl, ⟨by decide +kernel, by decide +kernel, by decide +kernel⟩, by decide⟩
theorem lk_L_70 : zc_lk RL 70 mX8_of 2 := ⟨(List.mem_of_getElem? (i := 633) (by decide +kernel)), rfl, (List.mem_of_getElem? (i := 40) (by decide +kernel)), rfl, (List.mem_of_getElem? (i := 636) (by decide +kernel)), rfl, ⟨by decide +kernel, by decide +kernel, by decide +kernel⟩, by decide⟩
theorem lk_L_73 : zc_lk RL 73 mX9_of 2 := ⟨(List.mem_of_getElem? (i := 991) (by decide +kernel)), rfl, (List.mem_of_getElem? (i := 48) (by decide +kernel)), rfl, (List.mem_of_getElem? (i := 994) (by decide +kernel)), rfl, ⟨by decide +kernel, by decide +kernel, by decide +kernel⟩, by decide⟩
theorem lk_L_74 : zc_lk RL 74 mX8_melt 2 := ⟨(List.mem_of_getElem? (i := 637) (by decide +kernel)), rfl, (List.mem_of_getElem? (i := 40) (by decide +kernel)), rfl, (List.mem_of_getElem? (i := 640) (by decide +kernel)), rfl, ⟨by decide +kernel, by decide +kernel, by decide +kernel⟩, by decide⟩
theorem lk_L_77 : zc_lk RL 77 mX9_melt 2 := ⟨(List.mem_of_getElem? (i := 995) (by decide +kernel)), rfl, (List.mem_of_getElem? (i := 48) (by decide +kernel)), rfl, (List.mem_of_getElem? (i := 998) (by decide +kernel)), rfl, ⟨by decide +kernel, by decide +kernel, by decide +kernel⟩, by decide⟩
theorem lk_L_78 : zc_lk RL 78 mX8_like 1 := ⟨(List.mem_of_getElem? (i := 641) (by decide +kernel)), rfl, (List.mem_of_getElem? (i := 40) (by decide +kernel)), rfl, (List.mem_of_getElem? (i := 644) (by decide +kernel)), rfl, ⟨by decide +kernel, by decide +kernel, by decide +kernel⟩, by decide⟩
theorem lk_L_81 : zc_lk RL 81 mX9_like 1 := ⟨(List.mem_of_getElem? (i := 999) (by decide +kernel)), rfl, (List.mem_of_getElem? (i := 48) (by decide +kernel)), rfl, (List.mem_of_getElem? (i := 1002) (by decide +kernel)), rfl, ⟨by decide +kernel, by decide +kernel, by decide +kernel⟩, by decide⟩
theorem lk_L_82 : zc_lk RL 82 mX8_strangers 2 := ⟨(List.mem_of_getElem? (i := 652) (by decide +kernel)), rfl, (List.mem_of_getElem? (i := 40) (by decide +kernel)), rfl, (List.mem_of_getElem? (i := 655) (by decide +kernel)), rfl, ⟨by decide +kernel, by decide +kernel, by decide +kernel⟩, by decide⟩
theorem lk_L_85 : zc_lk RL 85 mX9_strangers 2 := ⟨(List.mem_of_getElem? (i := 1003) (by decide +kernel)), rfl, (List.mem_of_getElem? (i := 48) (by decide +kernel)), rfl, (List.mem_of_getElem? (i := 1006) (by decide +kernel)), rfl, ⟨by decide +kernel, by decide +kernel, by decide +kernel⟩, by decide⟩
theorem lk_L_86 : zc_lk RL 86 mX8_flaws 1 := ⟨(List.mem_of_getElem? (i := 659) (by decide +kernel)), rfl, (List.mem_of_getElem? (i := 40) (by decide +kernel)), rfl, (List.mem_of_getElem? (i := 662) (by decide +kernel)), rfl, ⟨by decide +kernel, by decide +kernel, by decide +kernel⟩, by decide⟩
theorem lk_L_89 : zc_lk RL 89 mX9_flaws 1 := ⟨(List.mem_of_getElem? (i := 1007) (by decide +kernel)), rfl, (List.mem_of_getElem? (i := 48) (by decide +kernel)), rfl, (List.mem_of_getElem? (i := 1010) (by decide +kernel)), rfl, ⟨by decide +kernel, by decide +kernel, by decide +kernel⟩, by decide⟩
theorem lk_L_90 : zc_lk RL 90 mX8_flaw 3 := ⟨(List.mem_of_getElem? (i := 691) (by decide +kernel)), rfl, (List.mem_of_getElem? (i := 40) (by decide +kernel)), rfl, (List.mem_of_getElem? (i := 694) (by decide +kernel)), rfl, ⟨by decide +kernel, by decide +kernel, by decide +kernel⟩, by decide⟩
theorem lk_L_93 : zc_lk RL 93 mX9_flaw 3 := ⟨(List.mem_of_getElem? (i := 1019) (by decide +kernel)), rfl, (List.mem_of_getElem? (i := 48) (by decide +kernel)), rfl, (List.mem_of_getElem? (i := 1022) (by decide +kernel)), rfl, ⟨by decide +kernel, by decide +kernel, by decide +kernel⟩, by decide⟩
theorem lk_L_94 : zc_lk RL 94 mX8_age 2 := ⟨(List.mem_of_getElem? (i := 699) (by decide +kernel)), rfl, (List.mem_of_getElem? (i := 40) (by decide +kernel)), rfl, (List.mem_of_getElem? (i := 702) (by decide +kernel)), rfl, ⟨by decide +kernel, by decide +kernel, by decide +kernel⟩, by decide⟩
theorem lk_L_97 : zc_lk RL 97 mX9_age 2 := ⟨(List.mem_of_getElem? (i := 1023) (by decide +kernel)), rfl, (List.mem_of_getElem? (i := 48) (by decide +kernel)), rfl, (List.mem_of_getElem? (i := 1026) (by decide +kernel)), rfl, ⟨by decide +kernel, by decide +kernel, by decide +kernel⟩, by decide⟩
theorem lk_L_98 : zc_lk RL 98 mX8_struck 1 := ⟨(List.mem_of_getElem? (i := 711) (by decide +kernel)), rfl, (List.mem_of_getElem? (i := 40) (by decide +kernel)), rfl, (List.mem_of_getElem? (i := 714) (by decide +kernel)), rfl, ⟨by decide +kernel, by decide +kernel, by decide +kernel⟩, by decide⟩
theorem lk_L_101 : zc_lk RL 101 mX9_struck 1 := ⟨(List.mem_of_getElem? (i := 1027) (by decide +kernel)), rfl, (List.mem_of_getElem? (i := 48) (by decide +kernel)), rfl, (List.mem_of_getElem? (i := 1030) (by decide +kernel)), rfl, ⟨by decide +kernel, by decide +kernel, by decide +kernel⟩, by decide⟩
theorem lk_L_102 : zc_lk RL 102 mX8_count 1 := ⟨(List.mem_of_getElem? (i := 715) (by decide +kernel)), rfl, (List.mem_of_getElem? (i := 40) (by decide +kernel)), rfl, (List.mem_of_getElem? (i := 718) (by decide +kernel)), rfl, ⟨by decide +kernel, by decide +kernel, by decide +kernel⟩, by decide⟩
theorem lk_L_105 : zc_lk RL 105 mX9_count 1 := ⟨(List.mem_of_getElem? (i := 1031) (by decide +kernel)), rfl, (List.mem_of_getElem? (i := 48) (by decide +kernel)), rfl, (List.mem_of_getElem? (i := 1034) (by decide +kernel)), rfl, ⟨by decide +kernel, by decide +kernel, by decide +kernel⟩, by decide⟩
theorem lk_X9_96 : zc_lk RX9 96 mX9_within 3 := ⟨(List.mem_of_getElem? (i := 849) (by decide +kernel)), rfl, (List.mem_of_getElem? (i := 48) (by decide +kernel)), rfl, (List.mem_of_getElem? (i := 851) (by decide +kernel)), rfl, ⟨by decide +kernel, by decide +kernel, by decide +kernel⟩, by decide⟩
theorem lk_X9_101 : zc_lk RX9 101 mX9_darkMany 0 := ⟨(List.mem_of_getElem? (i := 853) (by decide +kernel)), rfl, (List.mem_of_getElem? (i := 48) (by decide +kernel)), rfl, (List.mem_of_getElem? (i := 856) (by decide +kernel)), rfl, ⟨by decide +kernel, by decide +kernel, by decide +kernel⟩, by decide⟩
theorem lk_X9_105 : zc_lk RX9 105 mX9_isDark 2 := ⟨(List.mem_of_getElem? (i := 865) (by decide +kernel)), rfl, (List.mem_of_getElem? (i := 48) (by decide +kernel)), rfl, (List.mem_of_getElem? (i := 868) (by decide +kernel)), rfl, ⟨by decide +kernel, by decide +kernel, by decide +kernel⟩, by decide⟩
theorem lk_X9_109 : zc_lk RX9 109 mX9_stepX 1 := ⟨(List.mem_of_getElem? (i := 877) (by decide +kernel)), rfl, (List.mem_of_getElem? (i := 48) (by decide +kernel)), rfl, (List.mem_of_getElem? (i := 879) (by decide +kernel)), rfl, ⟨by decide +kernel, by decide +kernel, by decide +kernel⟩, by decide⟩
theorem lk_X9_113 : zc_lk RX9 113 mX9_stepY 1 := ⟨(List.mem_of_getElem? (i := 880) (by decide +kernel)), rfl, (List.mem_of_getElem? (i := 48) (by decide +kernel)), rfl, (List.mem_of_getElem? (i := 882) (by decide +kernel)), rfl, ⟨by decide +kernel, by decide +kernel, by decide +kernel⟩, by decide⟩
theorem lk_X9_116 : zc_lk RX9 116 mX9_neighbours 2 := ⟨(List.mem_of_getElem? (i := 869) (by decide +kernel)), rfl, (List.mem_of_getElem? (i := 48) (by decide +kernel)), rfl, (List.mem_of_getElem? (i := 872) (by decide +kernel)), rfl, ⟨by decide +kernel, by decide +kernel, by decide +kernel⟩, by decide⟩
theorem lk_X9_120 : zc_lk RX9 120 mX9_hangTogether 2 := ⟨(List.mem_of_getElem? (i := 873) (by decide +kernel)), rfl, (List.mem_of_getElem? (i := 48) (by decide +kernel)), rfl, (List.mem_of_getElem? (i := 876) (by decide +kernel)), rfl, ⟨by decide +kernel, by decide +kernel, by decide +kernel⟩, by decide⟩
theorem lk_X9_123 : zc_lk RX9 123 mX9_besideSeen 2 := ⟨(List.mem_of_getElem? (i := 891) (by decide +kernel)), rfl, (List.mem_of_getElem? (i := 48) (by decide +kernel)), rfl, (List.mem_of_getElem? (i := 894) (by decide +kernel)), rfl, ⟨by decide +kernel, by decide +kernel, by decide +kernel⟩, by decide⟩
theorem lk_X9_127 : zc_lk RX9 127 mX9_spread 2 := ⟨(List.mem_of_getElem? (i := 887) (by decide +kernel)), rfl, (List.mem_of_getElem? (i := 48) (by decide +kernel)), rfl, (List.mem_of_getElem? (i := 890) (by decide +kernel)), rfl, ⟨by decide +kernel, by decide +kernel, by decide +kernel⟩, by decide⟩
theorem lk_X9_134 : zc_lk RX9 134 mX9_findPoints 0 := ⟨(List.mem_of_getElem? (i := 899) (by decide +kernel)), rfl, (List.mem_of_getElem? (i := 48) (by decide +kernel)), rfl, (List.mem_of_getElem? (i := 902) (by decide +kernel)), rfl, ⟨by decide +kernel, by decide +kernel, by decide +kernel⟩, by decide⟩
theorem lk_X9_137 : zc_lk RX9 137 mX9_isPrint 1 := ⟨(List.mem_of_getElem? (i := 907) (by decide +kernel)), rfl, (List.mem_of_getElem? (i := 48) (by decide +kernel)), rfl, (List.mem_of_getElem? (i := 910) (by decide +kernel)), rfl, ⟨by decide +kernel, by decide +kernel, by decide +kernel⟩, by decide⟩
theorem lk_X9_141 : zc_lk RX9 141 mX9_turnedX 3 := ⟨(List.mem_of_getElem? (i := 927) (by decide +kernel)), rfl, (List.mem_of_getElem? (i := 48) (by decide +kernel)), rfl, (List.mem_of_getElem? (i := 929) (by decide +kernel)), rfl, ⟨by decide +kernel, by decide +kernel, by decide +kernel⟩, by decide⟩
theorem lk_X9_145 : zc_lk RX9 145 mX9_turnedY 3 := ⟨(List.mem_of_getElem? (i := 930) (by decide +kernel)), rfl, (List.mem_of_getElem? (i := 48) (by decide +kernel)), rfl, (List.mem_of_getElem? (i := 932) (by decide +kernel)), rfl, ⟨by decide +kernel, by decide +kernel, by decide +kernel⟩, by decide⟩
theorem lk_X9_148 : zc_lk RX9 148 mX9_finds 2 := ⟨(List.mem_of_getElem? (i := 937) (by decide +kernel)), rfl, (List.mem_of_getElem? (i := 48) (by decide +kernel)), rfl, (List.mem_of_getElem? (i := 940) (by decide +kernel)), rfl, ⟨by decide +kernel, by decide +kernel, by decide +kernel⟩, by decide⟩
theorem lk_X9_151 : zc_lk RX9 151 mX9_layOut 5 := ⟨(List.mem_of_getElem? (i := 923) (by decide +kernel)), rfl, (List.mem_of_getElem? (i := 48) (by decide +kernel)), rfl, (List.mem_of_getElem? (i := 926) (by decide +kernel)), rfl, ⟨by decide +kernel, by decide +kernel, by decide +kernel⟩, by decide⟩
theorem lk_X9_155 : zc_lk RX9 155 mX9_mostPairs 3 := ⟨(List.mem_of_getElem? (i := 933) (by decide +kernel)), rfl, (List.mem_of_getElem? (i := 48) (by decide +kernel)), rfl, (List.mem_of_getElem? (i := 936) (by decide +kernel)), rfl, ⟨by decide +kernel, by decide +kernel, by decide +kernel⟩, by decide⟩
theorem lk_X9_161 : zc_lk RX9 161 mX9_liesIn 4 := ⟨(List.mem_of_getElem? (i := 941) (by decide +kernel)), rfl, (List.mem_of_getElem? (i := 48) (by decide +kernel)), rfl, (List.mem_of_getElem? (i := 943) (by decide +kernel)), rfl, ⟨by decide +kernel, by decide +kernel, by decide +kernel⟩, by decide⟩
theorem lk_X9_184 : zc_lk RX9 184 mX9_offer 5 := ⟨(List.mem_of_getElem? (i := 960) (by decide +kernel)), rfl, (List.mem_of_getElem? (i := 48) (by decide +kernel)), rfl, (List.mem_of_getElem? (i := 963) (by decide +kernel)), rfl, ⟨by decide +kernel, by decide +kernel, by decide +kernel⟩, by decide⟩
theorem lk_X9_187 : zc_lk RX9 187 mX9_scoreOf 5 := ⟨(List.mem_of_getElem? (i := 919) (by decide +kernel)), rfl, (List.mem_of_getElem? (i := 48) (by decide +kernel)), rfl, (List.mem_of_getElem? (i := 922) (by decide +kernel)), rfl, ⟨by decide +kernel, by decide +kernel, by decide +kernel⟩, by decide⟩
theorem lk_X9_191 : zc_lk RX9 191 mX9_findFirst 2 := ⟨(List.mem_of_getElem? (i := 944) (by decide +kernel)), rfl, (List.mem_of_getElem? (i := 48) (by decide +kernel)), rfl, (List.mem_of_getElem? (i := 947) (by decide +kernel)), rfl, ⟨by decide +kernel, by decide +kernel, by decide +kernel⟩, by decide⟩
theorem lk_X9_195 : zc_lk RX9 195 mX9_tell 1 := ⟨(List.mem_of_getElem? (i := 948) (by decide +kernel)), rfl, (List.mem_of_getElem? (i := 48) (by decide +kernel)), rfl, (List.mem_of_getElem? (i := 951) (by decide +kernel)), rfl, ⟨by decide +kernel, by decide +kernel, by decide +kernel⟩, by decide⟩
theorem lk_X9_199 : zc_lk RX9 199 mX9_matchOf 2 := ⟨(List.mem_of_getElem? (i := 956) (by decide +kernel)), rfl, (List.mem_of_getElem? (i := 48) (by decide +kernel)), rfl, (List.mem_of_getElem? (i := 959) (by decide +kernel)), rfl, ⟨by decide +kernel, by decide +kernel, by decide +kernel⟩, by decide⟩
theorem lk_X9_202 : zc_lk RX9 202 mX9_isTool 1 := ⟨(List.mem_of_getElem? (i := 976) (by decide +kernel)), rfl, (List.mem_of_getElem? (i := 48) (by decide +kernel)), rfl, (List.mem_of_getElem? (i := 978) (by decide +kernel)), rfl, ⟨by decide +kernel, by decide +kernel, by decide +kernel⟩, by decide⟩
theorem lk_X9_205 : zc_lk RX9 205 mX9_printOf 2 := ⟨(List.mem_of_getElem? (i := 979) (by decide +kernel)), rfl, (List.mem_of_getElem? (i := 48) (by decide +kernel)), rfl, (List.mem_of_getElem? (i := 982) (by decide +kernel)), rfl, ⟨by decide +kernel, by decide +kernel, by decide +kernel⟩, by decide⟩
theorem lk_X9_208 : zc_lk RX9 208 mX9_keptBy 1 := ⟨(List.mem_of_getElem? (i := 983) (by decide +kernel)), rfl, (List.mem_of_getElem? (i := 48) (by decide +kernel)), rfl, (List.mem_of_getElem? (i := 986) (by decide +kernel)), rfl, ⟨by decide +kernel, by decide +kernel, by decide +kernel⟩, by decide⟩
theorem lk_X9_214 : zc_lk RX9 214 mX9_ask 1 := ⟨(List.mem_of_getElem? (i := 1015) (by decide +kernel)), rfl, (List.mem_of_getElem? (i := 48) (by decide +kernel)), rfl, (List.mem_of_getElem? (i := 1018) (by decide +kernel)), rfl, ⟨by decide +kernel, by decide +kernel, by decide +kernel⟩, by decide⟩
theorem lk_X9_220 : zc_lk RX9 220 mX9_findFlaws 1 := ⟨(List.mem_of_getElem? (i := 1011) (by decide +kernel)), rfl, (List.mem_of_getElem? (i := 48) (by decide +kernel)), rfl, (List.mem_of_getElem? (i := 1014) (by decide +kernel)), rfl, ⟨by decide +kernel, by decide +kernel, by decide +kernel⟩, by decide⟩
theorem lk_J7_304 : zc_lk RJ7 304 mJ9_min_7cf53 2 := ⟨(List.mem_of_getElem? (i := 409) (by decide +kernel)), rfl, (List.mem_of_getElem? (i := 51) (by decide +kernel)), rfl, (List.mem_of_getElem? (i := 397) (by decide +kernel)), rfl, ⟨by decide +kernel, by decide +kernel, by decide +kernel⟩, by decide⟩
theorem ln_X8_11 : zc_ln RX8 11 mX1_init 0 := ⟨(List.mem_of_getElem? (i := 64) (by decide +kernel)), (List.mem_of_getElem? (i := 41) (by decide +kernel)), rfl, (List.mem_of_getElem? (i := 66) (by decide +kernel)), rfl, ⟨by decide +kernel, by decide +kernel, by decide +kernel⟩, by decide⟩
theorem ln_X8_32 : zc_ln RX8 32 mX4_init 0 := ⟨(List.mem_of_getElem? (i := 83) (by decide +kernel)), (List.mem_of_getElem? (i := 42) (by decide +kernel)), rfl, (List.mem_of_getElem? (i := 85) (by decide +kernel)), rfl, ⟨by decide +kernel, by decide +kernel, by decide +kernel⟩, by decide⟩
theorem ln_X8_39 : zc_ln RX8 39 mX3_init 0 := ⟨(List.mem_of_getElem? (i := 175) (by decide +kernel)), (List.mem_of_getElem? (i := 46) (by decide +kernel)), rfl, (List.mem_of_getElem? (i := 177) (by decide +kernel)), rfl, ⟨by decide +kernel, by decide +kernel, by decide +kernel⟩, by decide⟩
theorem ln_X8_53 : zc_ln RX8 53 mX2_init 0 := ⟨(List.mem_of_getElem? (i := 230) (by decide +kernel)), (List.mem_of_getElem? (i := 47) (by decide +kernel)), rfl, (List.mem_of_getElem? (i := 232) (by decide +kernel)), rfl, ⟨by decide +kernel, by decide +kernel, by decide +kernel⟩, by decide⟩
theorem ln_X1_72 : zc_ln RX1 72 mX8_isWithin 3 := ⟨(List.mem_of_getElem? (i := 370) (by decide +kernel)), (List.mem_of_getElem? (i := 40) (by decide +kernel)), rfl, (List.mem_of_getElem? (i := 298) (by decide +kernel)), rfl, ⟨by decide +kernel, by decide +kernel, by decide +kernel⟩, by decide⟩
theorem ln_X4_21 : zc_ln RX4 21 mX0_init 0 := ⟨(List.mem_of_getElem? (i := 89) (by decide +kernel)), (List.mem_of_getElem? (i := 43) (by decide +kernel)), rfl, (List.mem_of_getElem? (i := 91) (by decide +kernel)), rfl, ⟨by decide +kernel, by decide +kernel, by decide +kernel⟩, by decide⟩
theorem ln_X4_28 : zc_ln RX4 28 mX5_init 0 := ⟨(List.mem_of_getElem? (i := 105) (by decide +kernel)), (List.mem_of_getElem? (i := 44) (by decide +kernel)), rfl, (List.mem_of_getElem? (i := 107) (by decide +kernel)), rfl, ⟨by decide +kernel, by decide +kernel, by decide +kernel⟩, by decide⟩
theorem ls_J6_bitCount_0f7a4 : zc_ls mJ6_bitCount_0f7a4 := ⟨(List.mem_of_getElem? (i := 309) (by decide +kernel)), rfl⟩
theorem ls_J7_copyOf_59c91 : zc_ls mJ7_copyOf_59c91 := ⟨(List.mem_of_getElem? (i := 400) (by decide +kernel)), rfl⟩
theorem ls_J7_fill_53178 : zc_ls mJ7_fill_53178 := ⟨(List.mem_of_getElem? (i := 483) (by decide +kernel)), rfl⟩
theorem ls_J9_max_7cf53 : zc_ls mJ9_max_7cf53 := ⟨(List.mem_of_getElem? (i := 513) (by decide +kernel)), rfl⟩
theorem ls_J9_min_7cf53 : zc_ls mJ9_min_7cf53 := ⟨(List.mem_of_getElem? (i := 396) (by decide +kernel)), rfl⟩
theorem li_X0_init : zc_li mX0_init := ⟨rfl, (List.mem_of_getElem? (i := 90) (by decide +kernel)), rfl⟩
theorem lv_X0_learn : zc_lv mX0_learn := ⟨(List.mem_of_getElem? (i := 479) (by decide +kernel)), rfl, (List.mem_of_getElem? (i := 480) (by decide +kernel)), rfl⟩
theorem ls_X0_mark : zc_ls mX0_mark := ⟨(List.mem_of_getElem? (i := 488) (by decide +kernel)), rfl⟩
theorem lv_X0_near : zc_lv mX0_near := ⟨(List.mem_of_getElem? (i := 525) (by decide +kernel)), rfl, (List.mem_of_getElem? (i := 526) (by decide +kernel)), rfl⟩
theorem lv_X1_bitsOf : zc_lv mX1_bitsOf := ⟨(List.mem_of_getElem? (i := 319) (by decide +kernel)), rfl, (List.mem_of_getElem? (i := 320) (by decide +kernel)), rfl⟩
theorem lv_X1_darkCells : zc_lv mX1_darkCells := ⟨(List.mem_of_getElem? (i := 305) (by decide +kernel)), rfl, (List.mem_of_getElem? (i := 306) (by decide +kernel)), rfl⟩
theorem lv_X1_darkPieces : zc_lv mX1_darkPieces := ⟨(List.mem_of_getElem? (i := 356) (by decide +kernel)), rfl, (List.mem_of_getElem? (i := 357) (by decide +kernel)), rfl⟩
theorem ls_X1_goes : zc_ls mX1_goes := ⟨(List.mem_of_getElem? (i := 346) (by decide +kernel)), rfl⟩
theorem ls_X1_hangsTogether : zc_ls mX1_hangsTogether := ⟨(List.mem_of_getElem? (i := 349) (by decide +kernel)), rfl⟩
theorem lv_X1_holes : zc_lv mX1_holes := ⟨(List.mem_of_getElem? (i := 380) (by decide +kernel)), rfl, (List.mem_of_getElem? (i := 381) (by decide +kernel)), rfl⟩
theorem li_X1_init : zc_li mX1_init := ⟨rfl, (List.mem_of_getElem? (i := 65) (by decide +kernel)), rfl⟩
theorem lv_X1_isDark : zc_lv mX1_isDark := ⟨(List.mem_of_getElem? (i := 336) (by decide +kernel)), rfl, (List.mem_of_getElem? (i := 1) (by decide +kernel)), rfl⟩
theorem ls_X1_kindOf : zc_ls mX1_kindOf := ⟨(List.mem_of_getElem? (i := 393) (by decide +kernel)), rfl⟩
theorem lv_X1_readPoints : zc_lv mX1_readPoints := ⟨(List.mem_of_getElem? (i := 389) (by decide +kernel)), rfl, (List.mem_of_getElem? (i := 390) (by decide +kernel)), rfl⟩
theorem lv_X1_ringAt : zc_lv mX1_ringAt := ⟨(List.mem_of_getElem? (i := 340) (by decide +kernel)), rfl, (List.mem_of_getElem? (i := 2) (by decide +kernel)), rfl⟩
theorem lv_X1_setRow : zc_lv mX1_setRow := ⟨(List.mem_of_getElem? (i := 301) (by decide +kernel)), rfl, (List.mem_of_getElem? (i := 302) (by decide +kernel)), rfl⟩
theorem lv_X1_sweepOnce : zc_lv mX1_sweepOnce := ⟨(List.mem_of_getElem? (i := 332) (by decide +kernel)), rfl, (List.mem_of_getElem? (i := 0) (by decide +kernel)), rfl⟩
theorem lv_X1_takePieces : zc_lv mX1_takePieces := ⟨(List.mem_of_getElem? (i := 364) (by decide +kernel)), rfl, (List.mem_of_getElem? (i := 3) (by decide +kernel)), rfl⟩
theorem lv_X1_takeRest : zc_lv mX1_takeRest := ⟨(List.mem_of_getElem? (i := 373) (by decide +kernel)), rfl, (List.mem_of_getElem? (i := 5) (by decide +kernel)), rfl⟩
theorem lv_X1_takeThinned : zc_lv mX1_takeThinned := ⟨(List.mem_of_getElem? (i := 327) (by decide +kernel)), rfl, (List.mem_of_getElem? (i := 328) (by decide +kernel)), rfl⟩
theorem lv_X1_takes : zc_lv mX1_takes := ⟨(List.mem_of_getElem? (i := 368) (by decide +kernel)), rfl, (List.mem_of_getElem? (i := 4) (by decide +kernel)), rfl⟩
theorem ls_X1_threeAt : zc_ls mX1_threeAt := ⟨(List.mem_of_getElem? (i := 343) (by decide +kernel)), rfl⟩
theorem lv_X2_clear : zc_lv mX2_clear := ⟨(List.mem_of_getElem? (i := 672) (by decide +kernel)), rfl, (List.mem_of_getElem? (i := 673) (by decide +kernel)), rfl⟩
theorem lv_X2_dateFlaws : zc_lv mX2_dateFlaws := ⟨(List.mem_of_getElem? (i := 686) (by decide +kernel)), rfl, (List.mem_of_getElem? (i := 687) (by decide +kernel)), rfl⟩
theorem lv_X2_firstComing : zc_lv mX2_firstComing := ⟨(List.mem_of_getElem? (i := 708) (by decide +kernel)), rfl, (List.mem_of_getElem? (i := 709) (by decide +kernel)), rfl⟩
theorem lv_X2_flawAt : zc_lv mX2_flawAt := ⟨(List.mem_of_getElem? (i := 696) (by decide +kernel)), rfl, (List.mem_of_getElem? (i := 697) (by decide +kernel)), rfl⟩
theorem lv_X2_hear : zc_lv mX2_hear := ⟨(List.mem_of_getElem? (i := 681) (by decide +kernel)), rfl, (List.mem_of_getElem? (i := 682) (by decide +kernel)), rfl⟩
theorem li_X2_init : zc_li mX2_init := ⟨rfl, (List.mem_of_getElem? (i := 231) (by decide +kernel)), rfl⟩
theorem lv_X2_lastComing : zc_lv mX2_lastComing := ⟨(List.mem_of_getElem? (i := 704) (by decide +kernel)), rfl, (List.mem_of_getElem? (i := 705) (by decide +kernel)), rfl⟩
theorem li_X3_init : zc_li mX3_init := ⟨rfl, (List.mem_of_getElem? (i := 176) (by decide +kernel)), rfl⟩
theorem lv_X3_lacking : zc_lv mX3_lacking := ⟨(List.mem_of_getElem? (i := 677) (by decide +kernel)), rfl, (List.mem_of_getElem? (i := 678) (by decide +kernel)), rfl⟩
theorem lv_X3_set : zc_lv mX3_set := ⟨(List.mem_of_getElem? (i := 471) (by decide +kernel)), rfl, (List.mem_of_getElem? (i := 472) (by decide +kernel)), rfl⟩
theorem lv_X3_setNone : zc_lv mX3_setNone := ⟨(List.mem_of_getElem? (i := 590) (by decide +kernel)), rfl, (List.mem_of_getElem? (i := 591) (by decide +kernel)), rfl⟩
theorem lv_X4_bareWith : zc_lv mX4_bareWith := ⟨(List.mem_of_getElem? (i := 548) (by decide +kernel)), rfl, (List.mem_of_getElem? (i := 9) (by decide +kernel)), rfl⟩
theorem lv_X4_bestOf : zc_lv mX4_bestOf := ⟨(List.mem_of_getElem? (i := 570) (by decide +kernel)), rfl, (List.mem_of_getElem? (i := 11) (by decide +kernel)), rfl⟩
theorem lv_X4_fillIn : zc_lv mX4_fillIn := ⟨(List.mem_of_getElem? (i := 475) (by decide +kernel)), rfl, (List.mem_of_getElem? (i := 476) (by decide +kernel)), rfl⟩
theorem li_X4_init : zc_li mX4_init := ⟨rfl, (List.mem_of_getElem? (i := 84) (by decide +kernel)), rfl⟩
theorem lv_X4_layBest : zc_lv mX4_layBest := ⟨(List.mem_of_getElem? (i := 565) (by decide +kernel)), rfl, (List.mem_of_getElem? (i := 566) (by decide +kernel)), rfl⟩
theorem lv_X4_markLandings : zc_lv mX4_markLandings := ⟨(List.mem_of_getElem? (i := 578) (by decide +kernel)), rfl, (List.mem_of_getElem? (i := 13) (by decide +kernel)), rfl⟩
theorem ls_X4_pack : zc_ls mX4_pack := ⟨(List.mem_of_getElem? (i := 587) (by decide +kernel)), rfl⟩
theorem lv_X4_scoreOf : zc_lv mX4_scoreOf := ⟨(List.mem_of_getElem? (i := 646) (by decide +kernel)), rfl, (List.mem_of_getElem? (i := 647) (by decide +kernel)), rfl⟩
theorem lv_X4_scoreWith : zc_lv mX4_scoreWith := ⟨(List.mem_of_getElem? (i := 553) (by decide +kernel)), rfl, (List.mem_of_getElem? (i := 10) (by decide +kernel)), rfl⟩
theorem lv_X4_search : zc_lv mX4_search := ⟨(List.mem_of_getElem? (i := 574) (by decide +kernel)), rfl, (List.mem_of_getElem? (i := 12) (by decide +kernel)), rfl⟩
theorem lv_X4_shiftBy : zc_lv mX4_shiftBy := ⟨(List.mem_of_getElem? (i := 517) (by decide +kernel)), rfl, (List.mem_of_getElem? (i := 8) (by decide +kernel)), rfl⟩
theorem lv_X4_turnBy : zc_lv mX4_turnBy := ⟨(List.mem_of_getElem? (i := 494) (by decide +kernel)), rfl, (List.mem_of_getElem? (i := 7) (by decide +kernel)), rfl⟩
theorem ls_X4_unpackColumn : zc_ls mX4_unpackColumn := ⟨(List.mem_of_getElem? (i := 599) (by decide +kernel)), rfl⟩
theorem ls_X4_unpackRow : zc_ls mX4_unpackRow := ⟨(List.mem_of_getElem? (i := 602) (by decide +kernel)), rfl⟩
theorem ls_X4_unpackScore : zc_ls mX4_unpackScore := ⟨(List.mem_of_getElem? (i := 650) (by decide +kernel)), rfl⟩
theorem ls_X4_unpackTurn : zc_ls mX4_unpackTurn := ⟨(List.mem_of_getElem? (i := 596) (by decide +kernel)), rfl⟩
theorem lv_X5_add : zc_lv mX5_add := ⟨(List.mem_of_getElem? (i := 529) (by decide +kernel)), rfl, (List.mem_of_getElem? (i := 530) (by decide +kernel)), rfl⟩
theorem lv_X5_bound : zc_lv mX5_bound := ⟨(List.mem_of_getElem? (i := 582) (by decide +kernel)), rfl, (List.mem_of_getElem? (i := 583) (by decide +kernel)), rfl⟩
theorem lv_X5_choose : zc_lv mX5_choose := ⟨(List.mem_of_getElem? (i := 556) (by decide +kernel)), rfl, (List.mem_of_getElem? (i := 557) (by decide +kernel)), rfl⟩
theorem lv_X5_clear : zc_lv mX5_clear := ⟨(List.mem_of_getElem? (i := 520) (by decide +kernel)), rfl, (List.mem_of_getElem? (i := 521) (by decide +kernel)), rfl⟩
theorem ls_X5_finds : zc_ls mX5_finds := ⟨(List.mem_of_getElem? (i := 543) (by decide +kernel)), rfl⟩
theorem li_X5_init : zc_li mX5_init := ⟨rfl, (List.mem_of_getElem? (i := 106) (by decide +kernel)), rfl⟩
theorem lv_X5_most : zc_lv mX5_most := ⟨(List.mem_of_getElem? (i := 538) (by decide +kernel)), rfl, (List.mem_of_getElem? (i := 539) (by decide +kernel)), rfl⟩
theorem lv_X6_becomeTurned : zc_lv mX6_becomeTurned := ⟨(List.mem_of_getElem? (i := 506) (by decide +kernel)), rfl, (List.mem_of_getElem? (i := 507) (by decide +kernel)), rfl⟩
theorem lv_X6_holds : zc_lv mX6_holds := ⟨(List.mem_of_getElem? (i := 533) (by decide +kernel)), rfl, (List.mem_of_getElem? (i := 534) (by decide +kernel)), rfl⟩
theorem li_X6_init : zc_li mX6_init := ⟨rfl, (List.mem_of_getElem? (i := 125) (by decide +kernel)), rfl⟩
theorem ls_X6_turnedColumn : zc_ls mX6_turnedColumn := ⟨(List.mem_of_getElem? (i := 500) (by decide +kernel)), rfl⟩
theorem ls_X6_turnedRow : zc_ls mX6_turnedRow := ⟨(List.mem_of_getElem? (i := 503) (by decide +kernel)), rfl⟩
theorem lv_X7_columnOf : zc_lv mX7_columnOf := ⟨(List.mem_of_getElem? (i := 451) (by decide +kernel)), rfl, (List.mem_of_getElem? (i := 452) (by decide +kernel)), rfl⟩
theorem li_X7_init : zc_li mX7_init := ⟨rfl, (List.mem_of_getElem? (i := 414) (by decide +kernel)), rfl⟩
theorem lv_X7_kindOf : zc_lv mX7_kindOf := ⟨(List.mem_of_getElem? (i := 459) (by decide +kernel)), rfl, (List.mem_of_getElem? (i := 460) (by decide +kernel)), rfl⟩
theorem lv_X7_rowOf : zc_lv mX7_rowOf := ⟨(List.mem_of_getElem? (i := 455) (by decide +kernel)), rfl, (List.mem_of_getElem? (i := 456) (by decide +kernel)), rfl⟩
theorem lv_X7_size : zc_lv mX7_size := ⟨(List.mem_of_getElem? (i := 447) (by decide +kernel)), rfl, (List.mem_of_getElem? (i := 448) (by decide +kernel)), rfl⟩
theorem lv_X8_age : zc_lv mX8_age := ⟨(List.mem_of_getElem? (i := 700) (by decide +kernel)), rfl, (List.mem_of_getElem? (i := 701) (by decide +kernel)), rfl⟩
theorem ls_X8_areStrangers : zc_ls mX8_areStrangers := ⟨(List.mem_of_getElem? (i := 657) (by decide +kernel)), rfl⟩
theorem lv_X8_count : zc_lv mX8_count := ⟨(List.mem_of_getElem? (i := 716) (by decide +kernel)), rfl, (List.mem_of_getElem? (i := 717) (by decide +kernel)), rfl⟩
theorem lv_X8_feed : zc_lv mX8_feed := ⟨(List.mem_of_getElem? (i := 293) (by decide +kernel)), rfl, (List.mem_of_getElem? (i := 294) (by decide +kernel)), rfl⟩
theorem lv_X8_flaw : zc_lv mX8_flaw := ⟨(List.mem_of_getElem? (i := 692) (by decide +kernel)), rfl, (List.mem_of_getElem? (i := 693) (by decide +kernel)), rfl⟩
theorem lv_X8_flaws : zc_lv mX8_flaws := ⟨(List.mem_of_getElem? (i := 660) (by decide +kernel)), rfl, (List.mem_of_getElem? (i := 661) (by decide +kernel)), rfl⟩
theorem lv_X8_hasYear : zc_lv mX8_hasYear := ⟨(List.mem_of_getElem? (i := 623) (by decide +kernel)), rfl, (List.mem_of_getElem? (i := 14) (by decide +kernel)), rfl⟩
theorem li_X8_init : zc_li mX8_init := ⟨rfl, (List.mem_of_getElem? (i := 57) (by decide +kernel)), rfl⟩
theorem ls_X8_isTool : zc_ls mX8_isTool := ⟨(List.mem_of_getElem? (i := 619) (by decide +kernel)), rfl⟩
theorem ls_X8_isWithin : zc_ls mX8_isWithin := ⟨(List.mem_of_getElem? (i := 297) (by decide +kernel)), rfl⟩
theorem lv_X8_keep : zc_lv mX8_keep := ⟨(List.mem_of_getElem? (i := 615) (by decide +kernel)), rfl, (List.mem_of_getElem? (i := 616) (by decide +kernel)), rfl⟩
theorem lv_X8_keptBy : zc_lv mX8_keptBy := ⟨(List.mem_of_getElem? (i := 627) (by decide +kernel)), rfl, (List.mem_of_getElem? (i := 15) (by decide +kernel)), rfl⟩
theorem lv_X8_lay : zc_lv mX8_lay := ⟨(List.mem_of_getElem? (i := 467) (by decide +kernel)), rfl, (List.mem_of_getElem? (i := 468) (by decide +kernel)), rfl⟩
theorem lv_X8_like : zc_lv mX8_like := ⟨(List.mem_of_getElem? (i := 642) (by decide +kernel)), rfl, (List.mem_of_getElem? (i := 643) (by decide +kernel)), rfl⟩
theorem lv_X8_match : zc_lv mX8_match := ⟨(List.mem_of_getElem? (i := 561) (by decide +kernel)), rfl, (List.mem_of_getElem? (i := 562) (by decide +kernel)), rfl⟩
theorem lv_X8_melt : zc_lv mX8_melt := ⟨(List.mem_of_getElem? (i := 638) (by decide +kernel)), rfl, (List.mem_of_getElem? (i := 639) (by decide +kernel)), rfl⟩
theorem lv_X8_newestOf : zc_lv mX8_newestOf := ⟨(List.mem_of_getElem? (i := 669) (by decide +kernel)), rfl, (List.mem_of_getElem? (i := 17) (by decide +kernel)), rfl⟩
theorem lv_X8_of : zc_lv mX8_of := ⟨(List.mem_of_getElem? (i := 634) (by decide +kernel)), rfl, (List.mem_of_getElem? (i := 635) (by decide +kernel)), rfl⟩
theorem lv_X8_pair : zc_lv mX8_pair := ⟨(List.mem_of_getElem? (i := 611) (by decide +kernel)), rfl, (List.mem_of_getElem? (i := 612) (by decide +kernel)), rfl⟩
theorem lv_X8_part : zc_lv mX8_part := ⟨(List.mem_of_getElem? (i := 630) (by decide +kernel)), rfl, (List.mem_of_getElem? (i := 631) (by decide +kernel)), rfl⟩
theorem lv_X8_pieces : zc_lv mX8_pieces := ⟨(List.mem_of_getElem? (i := 352) (by decide +kernel)), rfl, (List.mem_of_getElem? (i := 353) (by decide +kernel)), rfl⟩
theorem lv_X8_point : zc_lv mX8_point := ⟨(List.mem_of_getElem? (i := 439) (by decide +kernel)), rfl, (List.mem_of_getElem? (i := 440) (by decide +kernel)), rfl⟩
theorem lv_X8_print : zc_lv mX8_print := ⟨(List.mem_of_getElem? (i := 385) (by decide +kernel)), rfl, (List.mem_of_getElem? (i := 386) (by decide +kernel)), rfl⟩
theorem lv_X8_printAt : zc_lv mX8_printAt := ⟨(List.mem_of_getElem? (i := 444) (by decide +kernel)), rfl, (List.mem_of_getElem? (i := 6) (by decide +kernel)), rfl⟩
theorem lv_X8_reach : zc_lv mX8_reach := ⟨(List.mem_of_getElem? (i := 463) (by decide +kernel)), rfl, (List.mem_of_getElem? (i := 464) (by decide +kernel)), rfl⟩
theorem lv_X8_readHistory : zc_lv mX8_readHistory := ⟨(List.mem_of_getElem? (i := 665) (by decide +kernel)), rfl, (List.mem_of_getElem? (i := 16) (by decide +kernel)), rfl⟩
theorem lv_X8_row : zc_lv mX8_row := ⟨(List.mem_of_getElem? (i := 315) (by decide +kernel)), rfl, (List.mem_of_getElem? (i := 316) (by decide +kernel)), rfl⟩
theorem lv_X8_strangers : zc_lv mX8_strangers := ⟨(List.mem_of_getElem? (i := 653) (by decide +kernel)), rfl, (List.mem_of_getElem? (i := 654) (by decide +kernel)), rfl⟩
theorem lv_X8_struck : zc_lv mX8_struck := ⟨(List.mem_of_getElem? (i := 712) (by decide +kernel)), rfl, (List.mem_of_getElem? (i := 713) (by decide +kernel)), rfl⟩
theorem lv_X8_thin : zc_lv mX8_thin := ⟨(List.mem_of_getElem? (i := 323) (by decide +kernel)), rfl, (List.mem_of_getElem? (i := 324) (by decide +kernel)), rfl⟩
theorem lv_X8_told : zc_lv mX8_told := ⟨(List.mem_of_getElem? (i := 607) (by decide +kernel)), rfl, (List.mem_of_getElem? (i := 608) (by decide +kernel)), rfl⟩
theorem lv_X8_toolsWithPrints : zc_lv mX8_toolsWithPrints := ⟨(List.mem_of_getElem? (i := 721) (by decide +kernel)), rfl, (List.mem_of_getElem? (i := 18) (by decide +kernel)), rfl⟩
theorem lv_X9_age : zc_lv mX9_age := ⟨(List.mem_of_getElem? (i := 1024) (by decide +kernel)), rfl, (List.mem_of_getElem? (i := 1025) (by decide +kernel)), rfl⟩
theorem lv_X9_ask : zc_lv mX9_ask := ⟨(List.mem_of_getElem? (i := 1017) (by decide +kernel)), rfl, (List.mem_of_getElem? (i := 38) (by decide +kernel)), rfl⟩
theorem lv_X9_besideSeen : zc_lv mX9_besideSeen := ⟨(List.mem_of_getElem? (i := 893) (by decide +kernel)), rfl, (List.mem_of_getElem? (i := 24) (by decide +kernel)), rfl⟩
theorem lv_X9_count : zc_lv mX9_count := ⟨(List.mem_of_getElem? (i := 1032) (by decide +kernel)), rfl, (List.mem_of_getElem? (i := 1033) (by decide +kernel)), rfl⟩
theorem lv_X9_darkMany : zc_lv mX9_darkMany := ⟨(List.mem_of_getElem? (i := 855) (by decide +kernel)), rfl, (List.mem_of_getElem? (i := 19) (by decide +kernel)), rfl⟩
theorem lv_X9_feed : zc_lv mX9_feed := ⟨(List.mem_of_getElem? (i := 846) (by decide +kernel)), rfl, (List.mem_of_getElem? (i := 847) (by decide +kernel)), rfl⟩
theorem lv_X9_findFirst : zc_lv mX9_findFirst := ⟨(List.mem_of_getElem? (i := 946) (by decide +kernel)), rfl, (List.mem_of_getElem? (i := 31) (by decide +kernel)), rfl⟩
theorem lv_X9_findFlaws : zc_lv mX9_findFlaws := ⟨(List.mem_of_getElem? (i := 1013) (by decide +kernel)), rfl, (List.mem_of_getElem? (i := 37) (by decide +kernel)), rfl⟩
theorem lv_X9_findPoints : zc_lv mX9_findPoints := ⟨(List.mem_of_getElem? (i := 901) (by decide +kernel)), rfl, (List.mem_of_getElem? (i := 25) (by decide +kernel)), rfl⟩
theorem lv_X9_finds : zc_lv mX9_finds := ⟨(List.mem_of_getElem? (i := 939) (by decide +kernel)), rfl, (List.mem_of_getElem? (i := 30) (by decide +kernel)), rfl⟩
theorem lv_X9_flaw : zc_lv mX9_flaw := ⟨(List.mem_of_getElem? (i := 1020) (by decide +kernel)), rfl, (List.mem_of_getElem? (i := 1021) (by decide +kernel)), rfl⟩
theorem lv_X9_flaws : zc_lv mX9_flaws := ⟨(List.mem_of_getElem? (i := 1008) (by decide +kernel)), rfl, (List.mem_of_getElem? (i := 1009) (by decide +kernel)), rfl⟩
theorem lv_X9_hangTogether : zc_lv mX9_hangTogether := ⟨(List.mem_of_getElem? (i := 875) (by decide +kernel)), rfl, (List.mem_of_getElem? (i := 22) (by decide +kernel)), rfl⟩
theorem li_X9_init : zc_li mX9_init := ⟨rfl, (List.mem_of_getElem? (i := 726) (by decide +kernel)), rfl⟩
theorem lv_X9_isDark : zc_lv mX9_isDark := ⟨(List.mem_of_getElem? (i := 867) (by decide +kernel)), rfl, (List.mem_of_getElem? (i := 20) (by decide +kernel)), rfl⟩
theorem lv_X9_isPrint : zc_lv mX9_isPrint := ⟨(List.mem_of_getElem? (i := 909) (by decide +kernel)), rfl, (List.mem_of_getElem? (i := 26) (by decide +kernel)), rfl⟩
theorem ls_X9_isTool : zc_ls mX9_isTool := ⟨(List.mem_of_getElem? (i := 977) (by decide +kernel)), rfl⟩
theorem lv_X9_keep : zc_lv mX9_keep := ⟨(List.mem_of_getElem? (i := 973) (by decide +kernel)), rfl, (List.mem_of_getElem? (i := 974) (by decide +kernel)), rfl⟩
theorem lv_X9_keptBy : zc_lv mX9_keptBy := ⟨(List.mem_of_getElem? (i := 985) (by decide +kernel)), rfl, (List.mem_of_getElem? (i := 36) (by decide +kernel)), rfl⟩
theorem lv_X9_lay : zc_lv mX9_lay := ⟨(List.mem_of_getElem? (i := 916) (by decide +kernel)), rfl, (List.mem_of_getElem? (i := 917) (by decide +kernel)), rfl⟩
theorem lv_X9_layOut : zc_lv mX9_layOut := ⟨(List.mem_of_getElem? (i := 925) (by decide +kernel)), rfl, (List.mem_of_getElem? (i := 28) (by decide +kernel)), rfl⟩
theorem ls_X9_liesIn : zc_ls mX9_liesIn := ⟨(List.mem_of_getElem? (i := 942) (by decide +kernel)), rfl⟩
theorem lv_X9_like : zc_lv mX9_like := ⟨(List.mem_of_getElem? (i := 1000) (by decide +kernel)), rfl, (List.mem_of_getElem? (i := 1001) (by decide +kernel)), rfl⟩
theorem lv_X9_match : zc_lv mX9_match := ⟨(List.mem_of_getElem? (i := 953) (by decide +kernel)), rfl, (List.mem_of_getElem? (i := 954) (by decide +kernel)), rfl⟩
theorem lv_X9_matchOf : zc_lv mX9_matchOf := ⟨(List.mem_of_getElem? (i := 958) (by decide +kernel)), rfl, (List.mem_of_getElem? (i := 33) (by decide +kernel)), rfl⟩
theorem lv_X9_melt : zc_lv mX9_melt := ⟨(List.mem_of_getElem? (i := 996) (by decide +kernel)), rfl, (List.mem_of_getElem? (i := 997) (by decide +kernel)), rfl⟩
theorem lv_X9_mostPairs : zc_lv mX9_mostPairs := ⟨(List.mem_of_getElem? (i := 935) (by decide +kernel)), rfl, (List.mem_of_getElem? (i := 29) (by decide +kernel)), rfl⟩
theorem lv_X9_neighbours : zc_lv mX9_neighbours := ⟨(List.mem_of_getElem? (i := 871) (by decide +kernel)), rfl, (List.mem_of_getElem? (i := 21) (by decide +kernel)), rfl⟩
theorem lv_X9_of : zc_lv mX9_of := ⟨(List.mem_of_getElem? (i := 992) (by decide +kernel)), rfl, (List.mem_of_getElem? (i := 993) (by decide +kernel)), rfl⟩
theorem lv_X9_offer : zc_lv mX9_offer := ⟨(List.mem_of_getElem? (i := 962) (by decide +kernel)), rfl, (List.mem_of_getElem? (i := 34) (by decide +kernel)), rfl⟩
theorem lv_X9_pair : zc_lv mX9_pair := ⟨(List.mem_of_getElem? (i := 969) (by decide +kernel)), rfl, (List.mem_of_getElem? (i := 970) (by decide +kernel)), rfl⟩
theorem lv_X9_part : zc_lv mX9_part := ⟨(List.mem_of_getElem? (i := 988) (by decide +kernel)), rfl, (List.mem_of_getElem? (i := 989) (by decide +kernel)), rfl⟩
theorem lv_X9_pieces : zc_lv mX9_pieces := ⟨(List.mem_of_getElem? (i := 884) (by decide +kernel)), rfl, (List.mem_of_getElem? (i := 885) (by decide +kernel)), rfl⟩
theorem lv_X9_point : zc_lv mX9_point := ⟨(List.mem_of_getElem? (i := 904) (by decide +kernel)), rfl, (List.mem_of_getElem? (i := 905) (by decide +kernel)), rfl⟩
theorem lv_X9_print : zc_lv mX9_print := ⟨(List.mem_of_getElem? (i := 896) (by decide +kernel)), rfl, (List.mem_of_getElem? (i := 897) (by decide +kernel)), rfl⟩
theorem lv_X9_printOf : zc_lv mX9_printOf := ⟨(List.mem_of_getElem? (i := 981) (by decide +kernel)), rfl, (List.mem_of_getElem? (i := 35) (by decide +kernel)), rfl⟩
theorem lv_X9_reach : zc_lv mX9_reach := ⟨(List.mem_of_getElem? (i := 912) (by decide +kernel)), rfl, (List.mem_of_getElem? (i := 913) (by decide +kernel)), rfl⟩
theorem lv_X9_row : zc_lv mX9_row := ⟨(List.mem_of_getElem? (i := 858) (by decide +kernel)), rfl, (List.mem_of_getElem? (i := 859) (by decide +kernel)), rfl⟩
theorem lv_X9_scoreOf : zc_lv mX9_scoreOf := ⟨(List.mem_of_getElem? (i := 921) (by decide +kernel)), rfl, (List.mem_of_getElem? (i := 27) (by decide +kernel)), rfl⟩
theorem lv_X9_spread : zc_lv mX9_spread := ⟨(List.mem_of_getElem? (i := 889) (by decide +kernel)), rfl, (List.mem_of_getElem? (i := 23) (by decide +kernel)), rfl⟩
theorem ls_X9_stepX : zc_ls mX9_stepX := ⟨(List.mem_of_getElem? (i := 878) (by decide +kernel)), rfl⟩
theorem ls_X9_stepY : zc_ls mX9_stepY := ⟨(List.mem_of_getElem? (i := 881) (by decide +kernel)), rfl⟩
theorem lv_X9_strangers : zc_lv mX9_strangers := ⟨(List.mem_of_getElem? (i := 1004) (by decide +kernel)), rfl, (List.mem_of_getElem? (i := 1005) (by decide +kernel)), rfl⟩
theorem lv_X9_struck : zc_lv mX9_struck := ⟨(List.mem_of_getElem? (i := 1028) (by decide +kernel)), rfl, (List.mem_of_getElem? (i := 1029) (by decide +kernel)), rfl⟩
theorem lv_X9_tell : zc_lv mX9_tell := ⟨(List.mem_of_getElem? (i := 950) (by decide +kernel)), rfl, (List.mem_of_getElem? (i := 32) (by decide +kernel)), rfl⟩
theorem lv_X9_thin : zc_lv mX9_thin := ⟨(List.mem_of_getElem? (i := 862) (by decide +kernel)), rfl, (List.mem_of_getElem? (i := 863) (by decide +kernel)), rfl⟩
theorem lv_X9_told : zc_lv mX9_told := ⟨(List.mem_of_getElem? (i := 965) (by decide +kernel)), rfl, (List.mem_of_getElem? (i := 966) (by decide +kernel)), rfl⟩
theorem ls_X9_turnedX : zc_ls mX9_turnedX := ⟨(List.mem_of_getElem? (i := 928) (by decide +kernel)), rfl⟩
theorem ls_X9_turnedY : zc_ls mX9_turnedY := ⟨(List.mem_of_getElem? (i := 931) (by decide +kernel)), rfl⟩
theorem ls_X9_within : zc_ls mX9_within := ⟨(List.mem_of_getElem? (i := 850) (by decide +kernel)), rfl⟩
theorem df_X0 : ∀ j, j < 3 → defaultValue (zc_ty 0 j) = if zc_isr (zc_ty 0 j) then .null else .int 0 := by decide +kernel
theorem df_X1 : ∀ j, j < 3 → defaultValue (zc_ty 1 j) = if zc_isr (zc_ty 1 j) then .null else .int 0 := by decide +kernel
theorem df_X2 : ∀ j, j < 6 → defaultValue (zc_ty 2 j) = if zc_isr (zc_ty 2 j) then .null else .int 0 := by decide +kernel
theorem df_X3 : ∀ j, j < 10 → defaultValue (zc_ty 3 j) = if zc_isr (zc_ty 3 j) then .null else .int 0 := by decide +kernel
theorem df_X4 : ∀ j, j < 10 → defaultValue (zc_ty 4 j) = if zc_isr (zc_ty 4 j) then .null else .int 0 := by decide +kernel
theorem df_X5 : ∀ j, j < 4 → defaultValue (zc_ty 5 j) = if zc_isr (zc_ty 5 j) then .null else .int 0 := by decide +kernel
theorem df_X6 : ∀ j, j < 4 → defaultValue (zc_ty 6 j) = if zc_isr (zc_ty 6 j) then .null else .int 0 := by decide +kernel
theorem df_X7 : ∀ j, j < 5 → defaultValue (zc_ty 7 j) = if zc_isr (zc_ty 7 j) then .null else .int 0 := by decide +kernel
theorem df_X8 : ∀ j, j < 12 → defaultValue (zc_ty 8 j) = if zc_isr (zc_ty 8 j) then .null else .int 0 := by decide +kernel
theorem df_X9 : ∀ j, j < 38 → defaultValue (zc_ty 9 j) = if zc_isr (zc_ty 9 j) then .null else .int 0 := by decide +kernel
end
section
/-! ===== rows of some JDK methods: Math.min, Math.max, System.arraycopy ===== -/
section ZJDK
variable {G : zc_G} {mi : zc_M} {d mc ms : Nat} {Q : Option Value → zc_H → Prop} {pc : Nat} {lv : List (Option Value)} {st : List Value} {h : zc_H} {ka na : Nat}
theorem zw_m1 : Cond.static Lib.Math.min.name ∈ zc_tb := zc_mem (by decide +kernel) rfl
theorem zw_m2 : Cond.initialized "java/lang/Math" ∈ zc_tb := zc_mem (by decide +kernel) rfl
theorem zw_m3 : Cond.code Lib.Math.min.name Lib.Math.min.code 2 (some .int) ∈ zc_tb := zc_mem (by decide +kernel) rfl
theorem zw_m4 : Cond.static Lib.Math.max.name ∈ zc_tb := zc_mem (by decide +kernel) rfl
theorem zw_m5 : Cond.code Lib.Math.max.name Lib.Math.max.code 2 (some .int) ∈ zc_tb := zc_mem (by decide +kernel) rfl
theorem z_mmin {idx : Nat} {x y : Int32} (hd : decode mi.2.1 pc = .ok (.invokestatic idx, 3)) (lk : zc_lk mi.1.cls idx mJ9_min_7cf53 2) (hdd : 1 ≤ d) (hst : (st.map fun v => v.category).sum ≤ 8) (hka : ka ≤ mc) (hna : na ≤ ms) (k : zz G mi d mc ms Q (pc + 3) lv (.int (if y < x then y else x) :: st) h ka na) : zz G mi d mc ms Q pc lv (.int y :: .int x :: st) h ka na :=
  fun p l e R s m args below meth c Qw C H locs ls hR hS hl => by
    have e1 := zc_cats G st
    have e2 := C.2.2.1.2.1
    exact va_mmin C.1.1 C.1.2.1 (C.1.2.2.1.trans (zl_size hl).symm) C.1.2.2.2.1 (C.2.1 _ (zc_mem lk.1 lk.2.1)) (C.2.1 _ zw_m1) (C.2.1 _ zw_m2) (C.2.1 _ zw_m3) (Nat.le_trans hdd C.2.2.1.1) (by omega) (Nat.le_trans hka C.2.2.1.2.2.1) (Nat.le_trans hna C.2.2.1.2.2.2) hd (k p l e R s m args below meth c Qw C H locs ls hR hS hl)
theorem z_mmax {idx : Nat} {x y : Int32} (hd : decode mi.2.1 pc = .ok (.invokestatic idx, 3)) (lk : zc_lk mi.1.cls idx mJ9_max_7cf53 2) (hdd : 1 ≤ d) (hst : (st.map fun v => v.category).sum ≤ 8) (hka : ka ≤ mc) (hna : na ≤ ms) (k : zz G mi d mc ms Q (pc + 3) lv (.int (if x < y then y else x) :: st) h ka na) : zz G mi d mc ms Q pc lv (.int y :: .int x :: st) h ka na :=
  fun p l e R s m args below meth c Qw C H locs ls hR hS hl => by
    have e1 := zc_cats G st
    have e2 := C.2.2.1.2.1
    exact va_mmax C.1.1 C.1.2.1 (C.1.2.2.1.trans (zl_size hl).symm) C.1.2.2.2.1 (C.2.1 _ (zc_mem lk.1 lk.2.1)) (C.2.1 _ zw_m4) (C.2.1 _ zw_m2) (C.2.1 _ zw_m5) (Nat.le_trans hdd C.2.2.1.1) (by omega) (Nat.le_trans hka C.2.2.1.2.2.1) (Nat.le_trans hna C.2.2.1.2.2.2) hd (k p l e R s m args below meth c Qw C H locs ls hR hS hl)
end ZJDK
section ZCOPY
variable {G : zc_G} {mi : zc_M} {d mc ms : Nat} {Q : Option Value → zc_H → Prop} {pc : Nat} {lv : List (Option Value)} {st : List Value} {N : Nat} {sh : Nat → zc_S} {σ : zc_N} {ka na : Nat}
theorem zw_c1 : Cond.native arraycopyName ∈ zc_tb := zc_mem (by decide +kernel) rfl
theorem zw_c2 : Cond.static arraycopyName ∈ zc_tb := zc_mem (by decide +kernel) rfl
theorem zw_c3 : Cond.initialized "java/lang/System" ∈ zc_tb := zc_mem (by decide +kernel) rfl
/-- numbers are copied from one array to another -/
theorem z_acopy {idx a b n0 n1 : Nat} {r0 r1 : Nat → Option Nat} {sp dp n : Int32} {σ' : zc_N} (hd : decode mi.2.1 pc = .ok (.invokestatic idx, 3)) (hw : Cond.methodLink mi.1.cls idx arraycopyName ∈ zc_tb) (ha : 3 ≤ a) (haN : a < N) (hsa : sh a = (0, n0, r0)) (hb3 : 3 ≤ b) (hbN : b < N) (hsb : sh b = (0, n1, r1)) (h1 : ¬ sp < 0) (h2 : ¬ dp < 0) (h3 : ¬ n < 0) (h4 : sp.toNatClampNeg + n.toNatClampNeg ≤ n0) (h5 : dp.toNatClampNeg + n.toNatClampNeg ≤ n1) (hdd : 1 ≤ d) (hst : (st.map fun v => v.category).sum ≤ 8)
    (hσ : zu σ b (va_cpy (σ a) (σ b) sp.toNatClampNeg dp.toNatClampNeg n.toNatClampNeg) = σ') (k : zz G mi d mc ms Q (pc + 3) lv st (N, sh, σ') ka na) : zz G mi d mc ms Q pc lv (.int n :: .int dp :: .ref b :: .int sp :: .ref a :: st) (N, sh, σ) ka na :=
  fun p l e R s m args below meth c Qw C H locs ls hR hS hl => by
    have nn : ∀ z : Int32, ¬ z < 0 → z.toInt = (z.toNatClampNeg : Int) := by
      intro z hz
      have hz0 : (0 : Int) ≤ z.toInt := by
        have := Int32.not_lt.mp hz
        simpa using Int32.le_iff_toInt_le.mp this
      show z.toInt = ((z.toInt.toNat : Nat) : Int)
      omega
    intro T hT X
    have hc0 : zc_cell G a (sh a) (σ a) H := hR.2.2.2.1 a ha haN
    rw [hsa] at hc0
    have hc0 : H[zc_ad G a]? = some (arrV (G.2.2.1 0) n0 (fun j => .int (σ a j))) := hc0
    have hc1 : zc_cell G b (sh b) (σ b) H := hR.2.2.2.1 b hb3 hbN
    rw [hsb] at hc1
    have hc1 : H[zc_ad G b]? = some (arrV (G.2.2.1 0) n1 (fun j => .int (σ b j))) := hc1
    obtain ⟨-, k0, hk0, cm0, hkk0⟩ := (C.2.2.2.1.1.2 0 _ rfl).1 n0 (fun j => .int (σ a j))
    obtain ⟨-, k1, hk1, cm1, hkk1⟩ := (C.2.2.2.1.1.2 0 _ rfl).1 n1 (fun j => .int (σ b j))
    have e0 := zc_cats G st
    have e9 := C.2.2.1.2.1
    obtain ⟨vm', X', step⟩ := X.arraycopy C.1.1 C.1.2.2.2.1 (C.2.1 _ hw) (C.2.1 _ zw_c1) (C.2.1 _ zw_c2) (C.2.1 _ zw_c3) (src := zc_ad G a) (dst := zc_ad G b) (cs := arrV (G.2.2.1 0) n0 (fun j => .int (σ a j))) (cd := arrV (G.2.2.1 0) n1 (fun j => .int (σ b j))) (srcPos := sp) (destPos := dp) (n := n) (by rw [hT]; exact hc0) (by rw [hT]; exact hc1)
      (fun _ h => by cases h) (fun _ h => by cases h) (fun h => by cases h) (fun h => by cases h) hk0 hk1 hkk0 hkk1 (by simp [refKind]) h1 h2 h3
      (by rw [nn sp h1, nn n h3, arrV_size]; omega)
      (by rw [nn dp h2, nn n h3, arrV_size]; omega)
      (fun vm₁ _ i hi => by
        have e : (arrV (G.2.2.1 0) n0 (fun j => .int (σ a j))).slots.getD (sp.toNatClampNeg + i) .null = .int (σ a (sp.toNatClampNeg + i)) := by
          rw [Array.getD_eq_getD_getElem?, arrV_read _ _ (by omega)]
          rfl
        refine ⟨?_, ?_⟩
        · rw [e]
          rfl
        · rw [e]
          exact trivial)
      (g := F0 m pc ls (.int n :: .int dp :: .ref (zc_ad G b) :: .int sp :: .ref (zc_ad G a) :: st.map (zc_cv G))) rfl ((zl_size hl).trans C.1.2.2.1.symm) (rest := st.map (zc_cv G)) rfl (by rw [C.1.2.1]; exact hd) (Nat.le_trans hdd C.2.2.1.1) (by
        show 2 * 0 + _ + (nativeFrameWords "java/lang/System" "arraycopy" 5 + 11) ≤ _
        have : nativeFrameWords "java/lang/System" "arraycopy" 5 ≤ 40 := by decide
        omega)
    have e1 : copied (arrV (G.2.2.1 0) n0 (fun j => .int (σ a j))) (arrV (G.2.2.1 0) n1 (fun j => .int (σ b j))) sp dp n = arrV (G.2.2.1 0) n1 (fun j => .int (va_cpy (σ a) (σ b) sp.toNatClampNeg dp.toNatClampNeg n.toNatClampNeg j)) := va_copied (fun z => .int z) _ _ _ _ h4
    rw [e1] at X' step
    have hlt : zc_ad G b < H.size := (Array.getElem?_eq_some_iff.mp hc1).1
    have hheap : ((T.setVm vm').setCell (zc_ad G b) (arrV (G.2.2.1 0) n1 (fun j => .int (va_cpy (σ a) (σ b) sp.toNatClampNeg dp.toNatClampNeg n.toNatClampNeg j)))).heap = H.setIfInBounds (zc_ad G b) (arrV (G.2.2.1 0) n1 (fun j => .int (va_cpy (σ a) (σ b) sp.toNatClampNeg dp.toNatClampNeg n.toNatClampNeg j))) := by rw [← hT]; rfl
    have oq : ∀ q : Nat, q ≠ zc_ad G b → (H.setIfInBounds (zc_ad G b) (arrV (G.2.2.1 0) n1 (fun j => .int (va_cpy (σ a) (σ b) sp.toNatClampNeg dp.toNatClampNeg n.toNatClampNeg j))))[q]? = H[q]? := fun q hq => by simp [Array.getElem?_setIfInBounds, Ne.symm hq]
    have h8 := zc_R.set (c := sh b) (f := va_cpy (σ a) (σ b) sp.toNatClampNeg dp.toNatClampNeg n.toNatClampNeg) hR hb3 hbN (H1 := H.setIfInBounds (zc_ad G b) (arrV (G.2.2.1 0) n1 (fun j => .int (va_cpy (σ a) (σ b) sp.toNatClampNeg dp.toNatClampNeg n.toNatClampNeg j)))) (by simp) oq (by
      rw [hsb]
      show (H.setIfInBounds (zc_ad G b) _)[zc_ad G b]? = some _
      simp [Array.getElem?_setIfInBounds, hlt])
    rw [zu_same, hσ] at h8
    obtain ⟨t, a1, b1⟩ := k p l e R s m args below meth c Qw C _ _ ls h8 ⟨by simp; exact hS.1, fun q g1 g2 => by
        rw [oq q (fun e => g2 (by rw [e, zc_ad_ge G hb3]; exact Nat.le_add_right _ _))]
        exact hS.2.1 q g1 g2, fun q hq => by
        rcases List.mem_append.mp hq with h | h
        · exact hS.2.2 q h
        · obtain ⟨z, -, hz⟩ := List.mem_map.mp h
          rw [← hz]
          show G.1.size ≤ zc_ad G b
          rw [zc_ad_ge G hb3]
          exact Nat.le_add_right _ _⟩ hl _ hheap X'
    exact ⟨t, step t a1, b1⟩
end ZCOPY
end
section
/-! ===== printed by wip/whole/p10.py: methods without loops ===== -/
def zshl (x y : Int32) : Int32 := x <<< (y &&& 31)
def zshr (x y : Int32) : Int32 := x >>> (y &&& 31)
def zushr (x y : Int32) : Int32 := (x.toUInt32 >>> (y.toUInt32 &&& Int32.toUInt32 31)).toInt32
def zcat1 : List Value → Bool
  | [] => true
  | .int _ :: t => zcat1 t
  | .ref _ :: t => zcat1 t
  | .null :: t => zcat1 t
  | _ => false
theorem zcats_ok : ∀ (As : List Value), zcat1 As = true → ∀ w ∈ As, w.category = 1
  | [], _, w, h => by simp at h
  | .int x :: t, hc, w, h => by
    rcases List.mem_cons.mp h with rfl | h
    · rfl
    · exact zcats_ok t hc w h
  | .ref x :: t, hc, w, h => by
    rcases List.mem_cons.mp h with rfl | h
    · rfl
    · exact zcats_ok t hc w h
  | .null :: t, hc, w, h => by
    rcases List.mem_cons.mp h with rfl | h
    · rfl
    · exact zcats_ok t hc w h
  | .long _ :: _, hc, _, _ => by cases hc
  | .float _ :: _, hc, _, _ => by cases hc
  | .double _ :: _, hc, _, _ => by cases hc
  | .retAddr _ :: _, hc, _, _ => by cases hc
def zpad (As : List Value) (n : Nat) : List (Option Value) := As.map some ++ List.replicate n none
theorem zlv_ok (As : List Value) (n : Nat) {lv : List (Option Value)} (h : zpad As n = lv) : ∀ (i : Nat) (v : Value), lv[i]? = some (some v) → As[i]? = some v := by
  intro i v hi
  subst h
  unfold zpad at hi
  by_cases hl : i < As.length
  · rw [List.getElem?_append_left (by simpa using hl), List.getElem?_map] at hi
    cases hx : As[i]? with
    | none => rw [hx] at hi; cases hi
    | some w => rw [hx] at hi; cases hi; rfl
  · rw [List.getElem?_append_right (by simpa using hl), List.getElem?_replicate] at hi
    split at hi <;> cases hi
section ZSW
variable {G : zc_G} {mi : zc_M} {d mc ms : Nat} {Q : Option Value → zc_H → Prop} {pc : Nat} {lv : List (Option Value)} {st : List Value} {h : zc_H} {ka na : Nat}
theorem z_tin {dflt lo hi : Int} {offs : Array Int} {len : Nat} {x : Int32} {off : Int} {tgt : Nat} (hd : decode mi.2.1 pc = .ok (.tableswitch dflt lo hi offs, len)) (h1 : ¬ x.toInt < lo) (h2 : ¬ hi < x.toInt) (ho : offs[(x.toInt - lo).toNat]? = some off) (ht : (pc : Int) + off = (tgt : Int)) (k : zz G mi d mc ms Q tgt lv st h ka na) : zz G mi d mc ms Q pc lv (.int x :: st) h ka na :=
  fun p l e R s m args below meth c Qw C H locs ls hR hS hl => lv_tableIn C.1.1 C.1.2.1 hd h1 h2 ho ht (k p l e R s m args below meth c Qw C H locs ls hR hS hl)
theorem z_tout {dflt lo hi : Int} {offs : Array Int} {len : Nat} {x : Int32} {tgt : Nat} (hd : decode mi.2.1 pc = .ok (.tableswitch dflt lo hi offs, len)) (h1 : x.toInt < lo ∨ hi < x.toInt) (ht : (pc : Int) + dflt = (tgt : Int)) (k : zz G mi d mc ms Q tgt lv st h ka na) : zz G mi d mc ms Q pc lv (.int x :: st) h ka na :=
  fun p l e R s m args below meth c Qw C H locs ls hR hS hl => lv_tableOut C.1.1 C.1.2.1 hd h1 ht (k p l e R s m args below meth c Qw C H locs ls hR hS hl)
end ZSW
theorem z_nz {x : Int32} {k : Int32} (h : ¬ x = k) : x.toInt ≠ k.toInt := fun e => h (Int32.toInt_inj.mp e)
theorem z_tab3 {x : Int32} (h0 : ¬ x = 0) (h1 : ¬ x = 1) (h2 : ¬ x = 2) : x.toInt < 0 ∨ 2 < x.toInt := by
  have e0 : x.toInt ≠ 0 := z_nz h0
  have e1 : x.toInt ≠ 1 := z_nz h1
  have e2 : x.toInt ≠ 2 := z_nz h2
  omega
theorem zu_zu {α : Type} (f : Nat → α) (i : Nat) (v w : α) : zu (zu f i v) i w = zu f i w := by
  funext j
  by_cases hj : j = i
  · subst hj
    rw [zu_self, zu_self]
  · rw [zu_ne _ _ hj, zu_ne _ _ hj, zu_ne _ _ hj]

theorem dX8_isWithin_0 : decode cX8_isWithin 0 = .ok (.iload_n 0, 1) := by decide +kernel
theorem dX8_isWithin_1 : decode cX8_isWithin 1 = .ok (.iload_n 1, 1) := by decide +kernel
theorem dX8_isWithin_2 : decode cX8_isWithin 2 = .ok (.if_icmp .lt 12, 3) := by decide +kernel
theorem dX8_isWithin_5 : decode cX8_isWithin 5 = .ok (.iload_n 0, 1) := by decide +kernel
theorem dX8_isWithin_6 : decode cX8_isWithin 6 = .ok (.iload_n 2, 1) := by decide +kernel
theorem dX8_isWithin_7 : decode cX8_isWithin 7 = .ok (.if_icmp .gt 7, 3) := by decide +kernel
theorem dX8_isWithin_10 : decode cX8_isWithin 10 = .ok (.iconst 1, 1) := by decide +kernel
theorem dX8_isWithin_11 : decode cX8_isWithin 11 = .ok (.goto 4, 3) := by decide +kernel
theorem dX8_isWithin_14 : decode cX8_isWithin 14 = .ok (.iconst 0, 1) := by decide +kernel
theorem dX8_isWithin_15 : decode cX8_isWithin 15 = .ok (.ireturn, 1) := by decide +kernel
noncomputable def rX8_isWithin (a1 : Int32) (a2 : Int32) (a3 : Int32) : Int32 := (if a1 < a2 then (0 : Int32) else (if a3 < a1 then (0 : Int32) else (1 : Int32)))
set_option maxHeartbeats 1000000 in
theorem ctX8_isWithin (P : zp) (σ : zc_N) (a1 : Int32) (a2 : Int32) (a3 : Int32) : sp mX8_isWithin 0 0 0 [.int a1, .int a2, .int a3] (hh P σ) (fun r_ h_ => r_ = some (.int (rX8_isWithin a1 a2 a3)) ∧ h_ = hh P σ) := by
  refine sp_of (lv := [some (.int a1), some (.int a2), some (.int a3)]) (by decide) (zcats_ok _ rfl) (Nat.le_of_ble_eq_true rfl) (zlv_ok _ 0 rfl) (fun G => ?_)
  generalize hQ_ : (fun (r_ : Option Value) (h_ : zc_H) => r_ = some (.int (rX8_isWithin a1 a2 a3)) ∧ h_ = hh P σ) = Q_
  refine z_iload_n dX8_isWithin_0 rfl ?_
  refine z_iload_n dX8_isWithin_1 rfl ?_
  have K_1 : zz G mX8_isWithin 0 0 0 Q_ 15 [none, none, none] [.int (if a1 < a2 then (0 : Int32) else (if a3 < a1 then (0 : Int32) else (1 : Int32)))] (hh P σ) 0 0 := by
    exact z_ireturn dX8_isWithin_15 rfl (by (repeat' split) <;> rfl) (Nat.le_of_ble_eq_true rfl) (Nat.le_of_ble_eq_true rfl) (by rw [← hQ_]; exact ⟨(by rw [rX8_isWithin]), rfl⟩)
  refine z_icmp_lt (tgt := 14) dX8_isWithin_2 (by decide) (fun c_1 => ?_) (fun c_1 => ?_)
  · refine z_iconst dX8_isWithin_14 k_iconst_0 ?_
    refine zz_sub (lv' := [none, none, none]) trivial ?_
    first | exact K_1 | simpa only [if_pos c_1] using K_1
  · refine z_iload_n dX8_isWithin_5 rfl ?_
    refine z_iload_n dX8_isWithin_6 rfl ?_
    refine z_icmp_gt (tgt := 14) dX8_isWithin_7 (by decide) (fun c_2 => ?_) (fun c_2 => ?_)
    · refine z_iconst dX8_isWithin_14 k_iconst_0 ?_
      refine zz_sub (lv' := [none, none, none]) trivial ?_
      first | exact K_1 | simpa only [if_neg c_1, if_pos c_2] using K_1
    · refine z_iconst dX8_isWithin_10 k_iconst_1 ?_
      refine z_goto (tgt := 15) dX8_isWithin_11 (by decide) ?_
      refine zz_sub (lv' := [none, none, none]) trivial ?_
      first | exact K_1 | simpa only [if_neg c_1, if_neg c_2] using K_1

theorem dX1_setRow_0 : decode cX1_setRow 0 = .ok (.aload_n 0, 1) := by decide +kernel
theorem dX1_setRow_1 : decode cX1_setRow 1 = .ok (.getfield 11, 3) := by decide +kernel
theorem dX1_setRow_4 : decode cX1_setRow 4 = .ok (.iload_n 1, 1) := by decide +kernel
theorem dX1_setRow_5 : decode cX1_setRow 5 = .ok (.iconst 1, 1) := by decide +kernel
theorem dX1_setRow_6 : decode cX1_setRow 6 = .ok (.iadd, 1) := by decide +kernel
theorem dX1_setRow_7 : decode cX1_setRow 7 = .ok (.iload_n 2, 1) := by decide +kernel
theorem dX1_setRow_8 : decode cX1_setRow 8 = .ok (.iconst 1, 1) := by decide +kernel
theorem dX1_setRow_9 : decode cX1_setRow 9 = .ok (.ishl, 1) := by decide +kernel
theorem dX1_setRow_10 : decode cX1_setRow 10 = .ok (.iastore, 1) := by decide +kernel
theorem dX1_setRow_11 : decode cX1_setRow 11 = .ok (.return_, 1) := by decide +kernel
def pX1_setRow (a1 : Int32) : Prop := vp_in (a1 + (1 : Int32)) 18
noncomputable def sX1_setRow (σ : zc_N) (a1 : Int32) (a2 : Int32) : zc_N := (zu σ 5 (zu (σ 5) (a1 + (1 : Int32)).toNatClampNeg (zshl a2 (1 : Int32))))
set_option maxHeartbeats 1000000 in
theorem ctX1_setRow (P : zp) (σ : zc_N) (a1 : Int32) (a2 : Int32) (W_ : (pX1_setRow a1)) : sp mX1_setRow 0 0 0 [.ref 4, .int a1, .int a2] (hh P σ) (fun r_ h_ => r_ = none ∧ h_ = hh P (sX1_setRow σ a1 a2)) := by
  refine sp_of (lv := [some (.ref 4), some (.int a1), some (.int a2)]) (by decide) (zcats_ok _ rfl) (Nat.le_of_ble_eq_true rfl) (zlv_ok _ 0 rfl) (fun G => ?_)
  generalize hQ_ : (fun (r_ : Option Value) (h_ : zc_H) => r_ = none ∧ h_ = hh P (sX1_setRow σ a1 a2)) = Q_
  unfold pX1_setRow at W_
  refine z_aloadr_n dX1_setRow_0 rfl ?_
  refine z_get (ci := 1) (r := (RX1, TX1, 3)) (j := 0) (v := .ref 5) dX1_setRow_1 (Nat.le_of_ble_eq_true rfl) (zN rfl) rfl rfl (Nat.le_of_ble_eq_true rfl) fl_X1_11 rfl ?_
  refine z_iload_n dX1_setRow_4 rfl ?_
  refine z_iconst dX1_setRow_5 k_iconst_1 ?_
  refine z_iadd (v := (a1 + (1 : Int32))) dX1_setRow_6 rfl ?_
  refine z_iload_n dX1_setRow_7 rfl ?_
  refine z_iconst dX1_setRow_8 k_iconst_1 ?_
  refine z_ishl (v := (zshl a2 (1 : Int32))) dX1_setRow_9 rfl ?_
  refine z_iast (σ' := (zu σ 5 (zu (σ 5) (a1 + (1 : Int32)).toNatClampNeg (zshl a2 (1 : Int32))))) dX1_setRow_10 (Nat.le_of_ble_eq_true rfl) (zN rfl) rfl W_ rfl ?_
  exact z_return dX1_setRow_11 rfl (Nat.le_of_ble_eq_true rfl) (Nat.le_of_ble_eq_true rfl) (by rw [← hQ_]; exact ⟨rfl, (by rw [sX1_setRow])⟩)

theorem dX1_bitsOf_0 : decode cX1_bitsOf 0 = .ok (.aload_n 0, 1) := by decide +kernel
theorem dX1_bitsOf_1 : decode cX1_bitsOf 1 = .ok (.getfield 11, 3) := by decide +kernel
theorem dX1_bitsOf_4 : decode cX1_bitsOf 4 = .ok (.iload_n 1, 1) := by decide +kernel
theorem dX1_bitsOf_5 : decode cX1_bitsOf 5 = .ok (.iconst 1, 1) := by decide +kernel
theorem dX1_bitsOf_6 : decode cX1_bitsOf 6 = .ok (.iadd, 1) := by decide +kernel
theorem dX1_bitsOf_7 : decode cX1_bitsOf 7 = .ok (.iaload, 1) := by decide +kernel
theorem dX1_bitsOf_8 : decode cX1_bitsOf 8 = .ok (.iconst 1, 1) := by decide +kernel
theorem dX1_bitsOf_9 : decode cX1_bitsOf 9 = .ok (.ishr, 1) := by decide +kernel
theorem dX1_bitsOf_10 : decode cX1_bitsOf 10 = .ok (.ireturn, 1) := by decide +kernel
def pX1_bitsOf (a1 : Int32) : Prop := vp_in (a1 + (1 : Int32)) 18
noncomputable def rX1_bitsOf (σ : zc_N) (a1 : Int32) : Int32 := (zshr ((σ 5) (a1 + (1 : Int32)).toNatClampNeg) (1 : Int32))
set_option maxHeartbeats 1000000 in
theorem ctX1_bitsOf (P : zp) (σ : zc_N) (a1 : Int32) (W_ : (pX1_bitsOf a1)) : sp mX1_bitsOf 0 0 0 [.ref 4, .int a1] (hh P σ) (fun r_ h_ => r_ = some (.int (rX1_bitsOf σ a1)) ∧ h_ = hh P σ) := by
  refine sp_of (lv := [some (.ref 4), some (.int a1)]) (by decide) (zcats_ok _ rfl) (Nat.le_of_ble_eq_true rfl) (zlv_ok _ 0 rfl) (fun G => ?_)
  generalize hQ_ : (fun (r_ : Option Value) (h_ : zc_H) => r_ = some (.int (rX1_bitsOf σ a1)) ∧ h_ = hh P σ) = Q_
  unfold pX1_bitsOf at W_
  refine z_aloadr_n dX1_bitsOf_0 rfl ?_
  refine z_get (ci := 1) (r := (RX1, TX1, 3)) (j := 0) (v := .ref 5) dX1_bitsOf_1 (Nat.le_of_ble_eq_true rfl) (zN rfl) rfl rfl (Nat.le_of_ble_eq_true rfl) fl_X1_11 rfl ?_
  refine z_iload_n dX1_bitsOf_4 rfl ?_
  refine z_iconst dX1_bitsOf_5 k_iconst_1 ?_
  refine z_iadd (v := (a1 + (1 : Int32))) dX1_bitsOf_6 rfl ?_
  refine z_iald (v := ((σ 5) (a1 + (1 : Int32)).toNatClampNeg)) dX1_bitsOf_7 (zN rfl) rfl W_ rfl ?_
  refine z_iconst dX1_bitsOf_8 k_iconst_1 ?_
  refine z_ishr (v := (zshr ((σ 5) (a1 + (1 : Int32)).toNatClampNeg) (1 : Int32))) dX1_bitsOf_9 rfl ?_
  exact z_ireturn dX1_bitsOf_10 rfl rfl (Nat.le_of_ble_eq_true rfl) (Nat.le_of_ble_eq_true rfl) (by rw [← hQ_]; exact ⟨(by rw [rX1_bitsOf]), rfl⟩)

theorem dX1_threeAt_0 : decode cX1_threeAt 0 = .ok (.iload_n 0, 1) := by decide +kernel
theorem dX1_threeAt_1 : decode cX1_threeAt 1 = .ok (.bipush 15, 2) := by decide +kernel
theorem dX1_threeAt_3 : decode cX1_threeAt 3 = .ok (.iload_n 1, 1) := by decide +kernel
theorem dX1_threeAt_4 : decode cX1_threeAt 4 = .ok (.isub, 1) := by decide +kernel
theorem dX1_threeAt_5 : decode cX1_threeAt 5 = .ok (.ishr, 1) := by decide +kernel
theorem dX1_threeAt_6 : decode cX1_threeAt 6 = .ok (.bipush 7, 2) := by decide +kernel
theorem dX1_threeAt_8 : decode cX1_threeAt 8 = .ok (.iand, 1) := by decide +kernel
theorem dX1_threeAt_9 : decode cX1_threeAt 9 = .ok (.ireturn, 1) := by decide +kernel
noncomputable def rX1_threeAt (a1 : Int32) (a2 : Int32) : Int32 := ((zshr a1 ((15 : Int32) - a2)) &&& (7 : Int32))
set_option maxHeartbeats 1000000 in
theorem ctX1_threeAt (P : zp) (σ : zc_N) (a1 : Int32) (a2 : Int32) : sp mX1_threeAt 0 0 0 [.int a1, .int a2] (hh P σ) (fun r_ h_ => r_ = some (.int (rX1_threeAt a1 a2)) ∧ h_ = hh P σ) := by
  refine sp_of (lv := [some (.int a1), some (.int a2)]) (by decide) (zcats_ok _ rfl) (Nat.le_of_ble_eq_true rfl) (zlv_ok _ 0 rfl) (fun G => ?_)
  generalize hQ_ : (fun (r_ : Option Value) (h_ : zc_H) => r_ = some (.int (rX1_threeAt a1 a2)) ∧ h_ = hh P σ) = Q_
  refine z_iload_n dX1_threeAt_0 rfl ?_
  refine z_bipush dX1_threeAt_1 k_bipush_15 ?_
  refine z_iload_n dX1_threeAt_3 rfl ?_
  refine z_isub (v := ((15 : Int32) - a2)) dX1_threeAt_4 rfl ?_
  refine z_ishr (v := (zshr a1 ((15 : Int32) - a2))) dX1_threeAt_5 rfl ?_
  refine z_bipush dX1_threeAt_6 k_bipush_7 ?_
  refine z_iand (v := ((zshr a1 ((15 : Int32) - a2)) &&& (7 : Int32))) dX1_threeAt_8 rfl ?_
  exact z_ireturn dX1_threeAt_9 rfl rfl (Nat.le_of_ble_eq_true rfl) (Nat.le_of_ble_eq_true rfl) (by rw [← hQ_]; exact ⟨(by rw [rX1_threeAt]), rfl⟩)

theorem dX1_isDark_0 : decode cX1_isDark 0 = .ok (.aload_n 0, 1) := by decide +kernel
theorem dX1_isDark_1 : decode cX1_isDark 1 = .ok (.getfield 11, 3) := by decide +kernel
theorem dX1_isDark_4 : decode cX1_isDark 4 = .ok (.iload_n 2, 1) := by decide +kernel
theorem dX1_isDark_5 : decode cX1_isDark 5 = .ok (.iconst 1, 1) := by decide +kernel
theorem dX1_isDark_6 : decode cX1_isDark 6 = .ok (.iadd, 1) := by decide +kernel
theorem dX1_isDark_7 : decode cX1_isDark 7 = .ok (.iaload, 1) := by decide +kernel
theorem dX1_isDark_8 : decode cX1_isDark 8 = .ok (.bipush 16, 2) := by decide +kernel
theorem dX1_isDark_10 : decode cX1_isDark 10 = .ok (.iload_n 1, 1) := by decide +kernel
theorem dX1_isDark_11 : decode cX1_isDark 11 = .ok (.isub, 1) := by decide +kernel
theorem dX1_isDark_12 : decode cX1_isDark 12 = .ok (.ishr, 1) := by decide +kernel
theorem dX1_isDark_13 : decode cX1_isDark 13 = .ok (.iconst 1, 1) := by decide +kernel
theorem dX1_isDark_14 : decode cX1_isDark 14 = .ok (.iand, 1) := by decide +kernel
theorem dX1_isDark_15 : decode cX1_isDark 15 = .ok (.ifCond .eq 7, 3) := by decide +kernel
theorem dX1_isDark_18 : decode cX1_isDark 18 = .ok (.iconst 1, 1) := by decide +kernel
theorem dX1_isDark_19 : decode cX1_isDark 19 = .ok (.goto 4, 3) := by decide +kernel
theorem dX1_isDark_22 : decode cX1_isDark 22 = .ok (.iconst 0, 1) := by decide +kernel
theorem dX1_isDark_23 : decode cX1_isDark 23 = .ok (.ireturn, 1) := by decide +kernel
def pX1_isDark (a2 : Int32) : Prop := vp_in (a2 + (1 : Int32)) 18
noncomputable def rX1_isDark (σ : zc_N) (a1 : Int32) (a2 : Int32) : Int32 := (if ((zshr ((σ 5) (a2 + (1 : Int32)).toNatClampNeg) ((16 : Int32) - a1)) &&& (1 : Int32)) = (0 : Int32) then (0 : Int32) else (1 : Int32))
set_option maxHeartbeats 1000000 in
theorem ctX1_isDark (P : zp) (σ : zc_N) (a1 : Int32) (a2 : Int32) (W_ : (pX1_isDark a2)) : sp mX1_isDark 0 0 0 [.ref 4, .int a1, .int a2] (hh P σ) (fun r_ h_ => r_ = some (.int (rX1_isDark σ a1 a2)) ∧ h_ = hh P σ) := by
  refine sp_of (lv := [some (.ref 4), some (.int a1), some (.int a2)]) (by decide) (zcats_ok _ rfl) (Nat.le_of_ble_eq_true rfl) (zlv_ok _ 0 rfl) (fun G => ?_)
  generalize hQ_ : (fun (r_ : Option Value) (h_ : zc_H) => r_ = some (.int (rX1_isDark σ a1 a2)) ∧ h_ = hh P σ) = Q_
  unfold pX1_isDark at W_
  refine z_aloadr_n dX1_isDark_0 rfl ?_
  refine z_get (ci := 1) (r := (RX1, TX1, 3)) (j := 0) (v := .ref 5) dX1_isDark_1 (Nat.le_of_ble_eq_true rfl) (zN rfl) rfl rfl (Nat.le_of_ble_eq_true rfl) fl_X1_11 rfl ?_
  refine z_iload_n dX1_isDark_4 rfl ?_
  refine z_iconst dX1_isDark_5 k_iconst_1 ?_
  refine z_iadd (v := (a2 + (1 : Int32))) dX1_isDark_6 rfl ?_
  refine z_iald (v := ((σ 5) (a2 + (1 : Int32)).toNatClampNeg)) dX1_isDark_7 (zN rfl) rfl W_ rfl ?_
  refine z_bipush dX1_isDark_8 k_bipush_16 ?_
  refine z_iload_n dX1_isDark_10 rfl ?_
  refine z_isub (v := ((16 : Int32) - a1)) dX1_isDark_11 rfl ?_
  refine z_ishr (v := (zshr ((σ 5) (a2 + (1 : Int32)).toNatClampNeg) ((16 : Int32) - a1))) dX1_isDark_12 rfl ?_
  refine z_iconst dX1_isDark_13 k_iconst_1 ?_
  refine z_iand (v := ((zshr ((σ 5) (a2 + (1 : Int32)).toNatClampNeg) ((16 : Int32) - a1)) &&& (1 : Int32))) dX1_isDark_14 rfl ?_
  have K_1 : zz G mX1_isDark 0 0 0 Q_ 23 [none, none, none] [.int (if ((zshr ((σ 5) (a2 + (1 : Int32)).toNatClampNeg) ((16 : Int32) - a1)) &&& (1 : Int32)) = (0 : Int32) then (0 : Int32) else (1 : Int32))] (hh P σ) 0 0 := by
    exact z_ireturn dX1_isDark_23 rfl (by (repeat' split) <;> rfl) (Nat.le_of_ble_eq_true rfl) (Nat.le_of_ble_eq_true rfl) (by rw [← hQ_]; exact ⟨(by rw [rX1_isDark]), rfl⟩)
  refine z_if_eq (tgt := 22) dX1_isDark_15 (by decide) (fun c_1 => ?_) (fun c_1 => ?_)
  · refine z_iconst dX1_isDark_22 k_iconst_0 ?_
    refine zz_sub (lv' := [none, none, none]) trivial ?_
    first | exact K_1 | simpa only [if_pos c_1] using K_1
  · refine z_iconst dX1_isDark_18 k_iconst_1 ?_
    refine z_goto (tgt := 23) dX1_isDark_19 (by decide) ?_
    refine zz_sub (lv' := [none, none, none]) trivial ?_
    first | exact K_1 | simpa only [if_neg c_1] using K_1

theorem dX1_ringAt_0 : decode cX1_ringAt 0 = .ok (.aload_n 0, 1) := by decide +kernel
theorem dX1_ringAt_1 : decode cX1_ringAt 1 = .ok (.getfield 11, 3) := by decide +kernel
theorem dX1_ringAt_4 : decode cX1_ringAt 4 = .ok (.iload_n 2, 1) := by decide +kernel
theorem dX1_ringAt_5 : decode cX1_ringAt 5 = .ok (.iaload, 1) := by decide +kernel
theorem dX1_ringAt_6 : decode cX1_ringAt 6 = .ok (.iload_n 1, 1) := by decide +kernel
theorem dX1_ringAt_7 : decode cX1_ringAt 7 = .ok (.invokestatic 46, 3) := by decide +kernel
theorem dX1_ringAt_10 : decode cX1_ringAt 10 = .ok (.istore_n 3, 1) := by decide +kernel
theorem dX1_ringAt_11 : decode cX1_ringAt 11 = .ok (.aload_n 0, 1) := by decide +kernel
theorem dX1_ringAt_12 : decode cX1_ringAt 12 = .ok (.getfield 11, 3) := by decide +kernel
theorem dX1_ringAt_15 : decode cX1_ringAt 15 = .ok (.iload_n 2, 1) := by decide +kernel
theorem dX1_ringAt_16 : decode cX1_ringAt 16 = .ok (.iconst 1, 1) := by decide +kernel
theorem dX1_ringAt_17 : decode cX1_ringAt 17 = .ok (.iadd, 1) := by decide +kernel
theorem dX1_ringAt_18 : decode cX1_ringAt 18 = .ok (.iaload, 1) := by decide +kernel
theorem dX1_ringAt_19 : decode cX1_ringAt 19 = .ok (.iload_n 1, 1) := by decide +kernel
theorem dX1_ringAt_20 : decode cX1_ringAt 20 = .ok (.invokestatic 46, 3) := by decide +kernel
theorem dX1_ringAt_23 : decode cX1_ringAt 23 = .ok (.istore 4, 2) := by decide +kernel
theorem dX1_ringAt_25 : decode cX1_ringAt 25 = .ok (.aload_n 0, 1) := by decide +kernel
theorem dX1_ringAt_26 : decode cX1_ringAt 26 = .ok (.getfield 11, 3) := by decide +kernel
theorem dX1_ringAt_29 : decode cX1_ringAt 29 = .ok (.iload_n 2, 1) := by decide +kernel
theorem dX1_ringAt_30 : decode cX1_ringAt 30 = .ok (.iconst 2, 1) := by decide +kernel
theorem dX1_ringAt_31 : decode cX1_ringAt 31 = .ok (.iadd, 1) := by decide +kernel
theorem dX1_ringAt_32 : decode cX1_ringAt 32 = .ok (.iaload, 1) := by decide +kernel
theorem dX1_ringAt_33 : decode cX1_ringAt 33 = .ok (.iload_n 1, 1) := by decide +kernel
theorem dX1_ringAt_34 : decode cX1_ringAt 34 = .ok (.invokestatic 46, 3) := by decide +kernel
theorem dX1_ringAt_37 : decode cX1_ringAt 37 = .ok (.istore 5, 2) := by decide +kernel
theorem dX1_ringAt_39 : decode cX1_ringAt 39 = .ok (.iload 4, 2) := by decide +kernel
theorem dX1_ringAt_41 : decode cX1_ringAt 41 = .ok (.iconst 1, 1) := by decide +kernel
theorem dX1_ringAt_42 : decode cX1_ringAt 42 = .ok (.iand, 1) := by decide +kernel
theorem dX1_ringAt_43 : decode cX1_ringAt 43 = .ok (.istore 6, 2) := by decide +kernel
theorem dX1_ringAt_45 : decode cX1_ringAt 45 = .ok (.iload 5, 2) := by decide +kernel
theorem dX1_ringAt_47 : decode cX1_ringAt 47 = .ok (.iconst 1, 1) := by decide +kernel
theorem dX1_ringAt_48 : decode cX1_ringAt 48 = .ok (.iand, 1) := by decide +kernel
theorem dX1_ringAt_49 : decode cX1_ringAt 49 = .ok (.iconst 2, 1) := by decide +kernel
theorem dX1_ringAt_50 : decode cX1_ringAt 50 = .ok (.ishl, 1) := by decide +kernel
theorem dX1_ringAt_51 : decode cX1_ringAt 51 = .ok (.iload 5, 2) := by decide +kernel
theorem dX1_ringAt_53 : decode cX1_ringAt 53 = .ok (.iconst 2, 1) := by decide +kernel
theorem dX1_ringAt_54 : decode cX1_ringAt 54 = .ok (.iand, 1) := by decide +kernel
theorem dX1_ringAt_55 : decode cX1_ringAt 55 = .ok (.ior, 1) := by decide +kernel
theorem dX1_ringAt_56 : decode cX1_ringAt 56 = .ok (.iload 5, 2) := by decide +kernel
theorem dX1_ringAt_58 : decode cX1_ringAt 58 = .ok (.iconst 2, 1) := by decide +kernel
theorem dX1_ringAt_59 : decode cX1_ringAt 59 = .ok (.ishr, 1) := by decide +kernel
theorem dX1_ringAt_60 : decode cX1_ringAt 60 = .ok (.ior, 1) := by decide +kernel
theorem dX1_ringAt_61 : decode cX1_ringAt 61 = .ok (.istore 7, 2) := by decide +kernel
theorem dX1_ringAt_63 : decode cX1_ringAt 63 = .ok (.iload_n 3, 1) := by decide +kernel
theorem dX1_ringAt_64 : decode cX1_ringAt 64 = .ok (.iconst 5, 1) := by decide +kernel
theorem dX1_ringAt_65 : decode cX1_ringAt 65 = .ok (.ishl, 1) := by decide +kernel
theorem dX1_ringAt_66 : decode cX1_ringAt 66 = .ok (.iload 6, 2) := by decide +kernel
theorem dX1_ringAt_68 : decode cX1_ringAt 68 = .ok (.iconst 4, 1) := by decide +kernel
theorem dX1_ringAt_69 : decode cX1_ringAt 69 = .ok (.ishl, 1) := by decide +kernel
theorem dX1_ringAt_70 : decode cX1_ringAt 70 = .ok (.ior, 1) := by decide +kernel
theorem dX1_ringAt_71 : decode cX1_ringAt 71 = .ok (.iload 7, 2) := by decide +kernel
theorem dX1_ringAt_73 : decode cX1_ringAt 73 = .ok (.iconst 1, 1) := by decide +kernel
theorem dX1_ringAt_74 : decode cX1_ringAt 74 = .ok (.ishl, 1) := by decide +kernel
theorem dX1_ringAt_75 : decode cX1_ringAt 75 = .ok (.ior, 1) := by decide +kernel
theorem dX1_ringAt_76 : decode cX1_ringAt 76 = .ok (.iload 4, 2) := by decide +kernel
theorem dX1_ringAt_78 : decode cX1_ringAt 78 = .ok (.iconst 2, 1) := by decide +kernel
theorem dX1_ringAt_79 : decode cX1_ringAt 79 = .ok (.ishr, 1) := by decide +kernel
theorem dX1_ringAt_80 : decode cX1_ringAt 80 = .ok (.ior, 1) := by decide +kernel
theorem dX1_ringAt_81 : decode cX1_ringAt 81 = .ok (.ireturn, 1) := by decide +kernel
def pX1_ringAt (a2 : Int32) : Prop := (vp_in a2 18 ∧ (vp_in (a2 + (1 : Int32)) 18 ∧ vp_in (a2 + (2 : Int32)) 18))
noncomputable def rX1_ringAt (σ : zc_N) (a1 : Int32) (a2 : Int32) : Int32 := ((((zshl (rX1_threeAt ((σ 5) a2.toNatClampNeg) a1) (5 : Int32)) ||| (zshl ((rX1_threeAt ((σ 5) (a2 + (1 : Int32)).toNatClampNeg) a1) &&& (1 : Int32)) (4 : Int32))) ||| (zshl (((zshl ((rX1_threeAt ((σ 5) (a2 + (2 : Int32)).toNatClampNeg) a1) &&& (1 : Int32)) (2 : Int32)) ||| ((rX1_threeAt ((σ 5) (a2 + (2 : Int32)).toNatClampNeg) a1) &&& (2 : Int32))) ||| (zshr (rX1_threeAt ((σ 5) (a2 + (2 : Int32)).toNatClampNeg) a1) (2 : Int32))) (1 : Int32))) ||| (zshr (rX1_threeAt ((σ 5) (a2 + (1 : Int32)).toNatClampNeg) a1) (2 : Int32)))
set_option maxHeartbeats 1000000 in
theorem ctX1_ringAt (P : zp) (σ : zc_N) (a1 : Int32) (a2 : Int32) (W_ : (pX1_ringAt a2)) : sp mX1_ringAt 1 0 0 [.ref 4, .int a1, .int a2] (hh P σ) (fun r_ h_ => r_ = some (.int (rX1_ringAt σ a1 a2)) ∧ h_ = hh P σ) := by
  refine sp_of (lv := [some (.ref 4), some (.int a1), some (.int a2), none, none, none, none, none]) (by decide) (zcats_ok _ rfl) (Nat.le_of_ble_eq_true rfl) (zlv_ok _ 5 rfl) (fun G => ?_)
  generalize hQ_ : (fun (r_ : Option Value) (h_ : zc_H) => r_ = some (.int (rX1_ringAt σ a1 a2)) ∧ h_ = hh P σ) = Q_
  unfold pX1_ringAt at W_
  refine z_aloadr_n dX1_ringAt_0 rfl ?_
  refine z_get (ci := 1) (r := (RX1, TX1, 3)) (j := 0) (v := .ref 5) dX1_ringAt_1 (Nat.le_of_ble_eq_true rfl) (zN rfl) rfl rfl (Nat.le_of_ble_eq_true rfl) fl_X1_11 rfl ?_
  refine z_iload_n dX1_ringAt_4 rfl ?_
  refine z_iald (v := ((σ 5) a2.toNatClampNeg)) dX1_ringAt_5 (zN rfl) rfl W_.1 rfl ?_
  refine z_iload_n dX1_ringAt_6 rfl ?_
  refine z_callS (As := [.int ((σ 5) a2.toNatClampNeg), .int a1]) (rest := []) (ctX1_threeAt P σ ((σ 5) a2.toNatClampNeg) a1) dX1_ringAt_7 lk_X1_46 ls_X1_threeAt rfl (Nat.le_of_ble_eq_true rfl) (Nat.le_of_ble_eq_true rfl) (Nat.le_of_ble_eq_true rfl) (Nat.le_of_ble_eq_true rfl) (fun r_ h_ e_ => ?_)
  obtain ⟨e1_, e2_⟩ := e_
  subst e1_
  subst e2_
  show zz G mX1_ringAt 1 0 0 Q_ 10 [some (.ref 4), some (.int a1), some (.int a2), none, none, none, none, none] [.int (rX1_threeAt ((σ 5) a2.toNatClampNeg) a1)] (hh P σ) 0 0
  refine z_istore_n (lv' := [some (.ref 4), some (.int a1), some (.int a2), some (.int (rX1_threeAt ((σ 5) a2.toNatClampNeg) a1)), none, none, none, none]) dX1_ringAt_10 (Nat.le_of_ble_eq_true rfl) rfl ?_
  refine z_aloadr_n dX1_ringAt_11 rfl ?_
  refine z_get (ci := 1) (r := (RX1, TX1, 3)) (j := 0) (v := .ref 5) dX1_ringAt_12 (Nat.le_of_ble_eq_true rfl) (zN rfl) rfl rfl (Nat.le_of_ble_eq_true rfl) fl_X1_11 rfl ?_
  refine z_iload_n dX1_ringAt_15 rfl ?_
  refine z_iconst dX1_ringAt_16 k_iconst_1 ?_
  refine z_iadd (v := (a2 + (1 : Int32))) dX1_ringAt_17 rfl ?_
  refine z_iald (v := ((σ 5) (a2 + (1 : Int32)).toNatClampNeg)) dX1_ringAt_18 (zN rfl) rfl W_.2.1 rfl ?_
  refine z_iload_n dX1_ringAt_19 rfl ?_
  refine z_callS (As := [.int ((σ 5) (a2 + (1 : Int32)).toNatClampNeg), .int a1]) (rest := []) (ctX1_threeAt P σ ((σ 5) (a2 + (1 : Int32)).toNatClampNeg) a1) dX1_ringAt_20 lk_X1_46 ls_X1_threeAt rfl (Nat.le_of_ble_eq_true rfl) (Nat.le_of_ble_eq_true rfl) (Nat.le_of_ble_eq_true rfl) (Nat.le_of_ble_eq_true rfl) (fun r_ h_ e_ => ?_)
  obtain ⟨e1_, e2_⟩ := e_
  subst e1_
  subst e2_
  show zz G mX1_ringAt 1 0 0 Q_ 23 [some (.ref 4), some (.int a1), some (.int a2), some (.int (rX1_threeAt ((σ 5) a2.toNatClampNeg) a1)), none, none, none, none] [.int (rX1_threeAt ((σ 5) (a2 + (1 : Int32)).toNatClampNeg) a1)] (hh P σ) 0 0
  refine z_istore (lv' := [some (.ref 4), some (.int a1), some (.int a2), some (.int (rX1_threeAt ((σ 5) a2.toNatClampNeg) a1)), some (.int (rX1_threeAt ((σ 5) (a2 + (1 : Int32)).toNatClampNeg) a1)), none, none, none]) dX1_ringAt_23 (Nat.le_of_ble_eq_true rfl) rfl ?_
  refine z_aloadr_n dX1_ringAt_25 rfl ?_
  refine z_get (ci := 1) (r := (RX1, TX1, 3)) (j := 0) (v := .ref 5) dX1_ringAt_26 (Nat.le_of_ble_eq_true rfl) (zN rfl) rfl rfl (Nat.le_of_ble_eq_true rfl) fl_X1_11 rfl ?_
  refine z_iload_n dX1_ringAt_29 rfl ?_
  refine z_iconst dX1_ringAt_30 k_iconst_2 ?_
  refine z_iadd (v := (a2 + (2 : Int32))) dX1_ringAt_31 rfl ?_
  refine z_iald (v := ((σ 5) (a2 + (2 : Int32)).toNatClampNeg)) dX1_ringAt_32 (zN rfl) rfl W_.2.2 rfl ?_
  refine z_iload_n dX1_ringAt_33 rfl ?_
  refine z_callS (As := [.int ((σ 5) (a2 + (2 : Int32)).toNatClampNeg), .int a1]) (rest := []) (ctX1_threeAt P σ ((σ 5) (a2 + (2 : Int32)).toNatClampNeg) a1) dX1_ringAt_34 lk_X1_46 ls_X1_threeAt rfl (Nat.le_of_ble_eq_true rfl) (Nat.le_of_ble_eq_true rfl) (Nat.le_of_ble_eq_true rfl) (Nat.le_of_ble_eq_true rfl) (fun r_ h_ e_ => ?_)
  obtain ⟨e1_, e2_⟩ := e_
  subst e1_
  subst e2_
  show zz G mX1_ringAt 1 0 0 Q_ 37 [some (.ref 4), some (.int a1), some (.int a2), some (.int (rX1_threeAt ((σ 5) a2.toNatClampNeg) a1)), some (.int (rX1_threeAt ((σ 5) (a2 + (1 : Int32)).toNatClampNeg) a1)), none, none, none] [.int (rX1_threeAt ((σ 5) (a2 + (2 : Int32)).toNatClampNeg) a1)] (hh P σ) 0 0
  refine z_istore (lv' := [some (.ref 4), some (.int a1), some (.int a2), some (.int (rX1_threeAt ((σ 5) a2.toNatClampNeg) a1)), some (.int (rX1_threeAt ((σ 5) (a2 + (1 : Int32)).toNatClampNeg) a1)), some (.int (rX1_threeAt ((σ 5) (a2 + (2 : Int32)).toNatClampNeg) a1)), none, none]) dX1_ringAt_37 (Nat.le_of_ble_eq_true rfl) rfl ?_
  refine z_iload dX1_ringAt_39 rfl ?_
  refine z_iconst dX1_ringAt_41 k_iconst_1 ?_
  refine z_iand (v := ((rX1_threeAt ((σ 5) (a2 + (1 : Int32)).toNatClampNeg) a1) &&& (1 : Int32))) dX1_ringAt_42 rfl ?_
  refine z_istore (lv' := [some (.ref 4), some (.int a1), some (.int a2), some (.int (rX1_threeAt ((σ 5) a2.toNatClampNeg) a1)), some (.int (rX1_threeAt ((σ 5) (a2 + (1 : Int32)).toNatClampNeg) a1)), some (.int (rX1_threeAt ((σ 5) (a2 + (2 : Int32)).toNatClampNeg) a1)), some (.int ((rX1_threeAt ((σ 5) (a2 + (1 : Int32)).toNatClampNeg) a1) &&& (1 : Int32))), none]) dX1_ringAt_43 (Nat.le_of_ble_eq_true rfl) rfl ?_
  refine z_iload dX1_ringAt_45 rfl ?_
  refine z_iconst dX1_ringAt_47 k_iconst_1 ?_
  refine z_iand (v := ((rX1_threeAt ((σ 5) (a2 + (2 : Int32)).toNatClampNeg) a1) &&& (1 : Int32))) dX1_ringAt_48 rfl ?_
  refine z_iconst dX1_ringAt_49 k_iconst_2 ?_
  refine z_ishl (v := (zshl ((rX1_threeAt ((σ 5) (a2 + (2 : Int32)).toNatClampNeg) a1) &&& (1 : Int32)) (2 : Int32))) dX1_ringAt_50 rfl ?_
  refine z_iload dX1_ringAt_51 rfl ?_
  refine z_iconst dX1_ringAt_53 k_iconst_2 ?_
  refine z_iand (v := ((rX1_threeAt ((σ 5) (a2 + (2 : Int32)).toNatClampNeg) a1) &&& (2 : Int32))) dX1_ringAt_54 rfl ?_
  refine z_ior (v := ((zshl ((rX1_threeAt ((σ 5) (a2 + (2 : Int32)).toNatClampNeg) a1) &&& (1 : Int32)) (2 : Int32)) ||| ((rX1_threeAt ((σ 5) (a2 + (2 : Int32)).toNatClampNeg) a1) &&& (2 : Int32)))) dX1_ringAt_55 rfl ?_
  refine z_iload dX1_ringAt_56 rfl ?_
  refine z_iconst dX1_ringAt_58 k_iconst_2 ?_
  refine z_ishr (v := (zshr (rX1_threeAt ((σ 5) (a2 + (2 : Int32)).toNatClampNeg) a1) (2 : Int32))) dX1_ringAt_59 rfl ?_
  refine z_ior (v := (((zshl ((rX1_threeAt ((σ 5) (a2 + (2 : Int32)).toNatClampNeg) a1) &&& (1 : Int32)) (2 : Int32)) ||| ((rX1_threeAt ((σ 5) (a2 + (2 : Int32)).toNatClampNeg) a1) &&& (2 : Int32))) ||| (zshr (rX1_threeAt ((σ 5) (a2 + (2 : Int32)).toNatClampNeg) a1) (2 : Int32)))) dX1_ringAt_60 rfl ?_
  refine z_istore (lv' := [some (.ref 4), some (.int a1), some (.int a2), some (.int (rX1_threeAt ((σ 5) a2.toNatClampNeg) a1)), some (.int (rX1_threeAt ((σ 5) (a2 + (1 : Int32)).toNatClampNeg) a1)), some (.int (rX1_threeAt ((σ 5) (a2 + (2 : Int32)).toNatClampNeg) a1)), some (.int ((rX1_threeAt ((σ 5) (a2 + (1 : Int32)).toNatClampNeg) a1) &&& (1 : Int32))), some (.int (((zshl ((rX1_threeAt ((σ 5) (a2 + (2 : Int32)).toNatClampNeg) a1) &&& (1 : Int32)) (2 : Int32)) ||| ((rX1_threeAt ((σ 5) (a2 + (2 : Int32)).toNatClampNeg) a1) &&& (2 : Int32))) ||| (zshr (rX1_threeAt ((σ 5) (a2 + (2 : Int32)).toNatClampNeg) a1) (2 : Int32))))]) dX1_ringAt_61 (Nat.le_of_ble_eq_true rfl) rfl ?_
  refine z_iload_n dX1_ringAt_63 rfl ?_
  refine z_iconst dX1_ringAt_64 k_iconst_5 ?_
  refine z_ishl (v := (zshl (rX1_threeAt ((σ 5) a2.toNatClampNeg) a1) (5 : Int32))) dX1_ringAt_65 rfl ?_
  refine z_iload dX1_ringAt_66 rfl ?_
  refine z_iconst dX1_ringAt_68 k_iconst_4 ?_
  refine z_ishl (v := (zshl ((rX1_threeAt ((σ 5) (a2 + (1 : Int32)).toNatClampNeg) a1) &&& (1 : Int32)) (4 : Int32))) dX1_ringAt_69 rfl ?_
  refine z_ior (v := ((zshl (rX1_threeAt ((σ 5) a2.toNatClampNeg) a1) (5 : Int32)) ||| (zshl ((rX1_threeAt ((σ 5) (a2 + (1 : Int32)).toNatClampNeg) a1) &&& (1 : Int32)) (4 : Int32)))) dX1_ringAt_70 rfl ?_
  refine z_iload dX1_ringAt_71 rfl ?_
  refine z_iconst dX1_ringAt_73 k_iconst_1 ?_
  refine z_ishl (v := (zshl (((zshl ((rX1_threeAt ((σ 5) (a2 + (2 : Int32)).toNatClampNeg) a1) &&& (1 : Int32)) (2 : Int32)) ||| ((rX1_threeAt ((σ 5) (a2 + (2 : Int32)).toNatClampNeg) a1) &&& (2 : Int32))) ||| (zshr (rX1_threeAt ((σ 5) (a2 + (2 : Int32)).toNatClampNeg) a1) (2 : Int32))) (1 : Int32))) dX1_ringAt_74 rfl ?_
  refine z_ior (v := (((zshl (rX1_threeAt ((σ 5) a2.toNatClampNeg) a1) (5 : Int32)) ||| (zshl ((rX1_threeAt ((σ 5) (a2 + (1 : Int32)).toNatClampNeg) a1) &&& (1 : Int32)) (4 : Int32))) ||| (zshl (((zshl ((rX1_threeAt ((σ 5) (a2 + (2 : Int32)).toNatClampNeg) a1) &&& (1 : Int32)) (2 : Int32)) ||| ((rX1_threeAt ((σ 5) (a2 + (2 : Int32)).toNatClampNeg) a1) &&& (2 : Int32))) ||| (zshr (rX1_threeAt ((σ 5) (a2 + (2 : Int32)).toNatClampNeg) a1) (2 : Int32))) (1 : Int32)))) dX1_ringAt_75 rfl ?_
  refine z_iload dX1_ringAt_76 rfl ?_
  refine z_iconst dX1_ringAt_78 k_iconst_2 ?_
  refine z_ishr (v := (zshr (rX1_threeAt ((σ 5) (a2 + (1 : Int32)).toNatClampNeg) a1) (2 : Int32))) dX1_ringAt_79 rfl ?_
  refine z_ior (v := ((((zshl (rX1_threeAt ((σ 5) a2.toNatClampNeg) a1) (5 : Int32)) ||| (zshl ((rX1_threeAt ((σ 5) (a2 + (1 : Int32)).toNatClampNeg) a1) &&& (1 : Int32)) (4 : Int32))) ||| (zshl (((zshl ((rX1_threeAt ((σ 5) (a2 + (2 : Int32)).toNatClampNeg) a1) &&& (1 : Int32)) (2 : Int32)) ||| ((rX1_threeAt ((σ 5) (a2 + (2 : Int32)).toNatClampNeg) a1) &&& (2 : Int32))) ||| (zshr (rX1_threeAt ((σ 5) (a2 + (2 : Int32)).toNatClampNeg) a1) (2 : Int32))) (1 : Int32))) ||| (zshr (rX1_threeAt ((σ 5) (a2 + (1 : Int32)).toNatClampNeg) a1) (2 : Int32)))) dX1_ringAt_80 rfl ?_
  exact z_ireturn dX1_ringAt_81 rfl rfl (Nat.le_of_ble_eq_true rfl) (Nat.le_of_ble_eq_true rfl) (by rw [← hQ_]; exact ⟨(by rw [rX1_ringAt]), rfl⟩)

theorem dJ6_bitCount_0f7a4_0 : decode cJ6_bitCount_0f7a4 0 = .ok (.iload_n 0, 1) := by decide +kernel
theorem dJ6_bitCount_0f7a4_1 : decode cJ6_bitCount_0f7a4 1 = .ok (.iload_n 0, 1) := by decide +kernel
theorem dJ6_bitCount_0f7a4_2 : decode cJ6_bitCount_0f7a4 2 = .ok (.iconst 1, 1) := by decide +kernel
theorem dJ6_bitCount_0f7a4_3 : decode cJ6_bitCount_0f7a4 3 = .ok (.iushr, 1) := by decide +kernel
theorem dJ6_bitCount_0f7a4_4 : decode cJ6_bitCount_0f7a4 4 = .ok (.ldc_w 265, 3) := by decide +kernel
theorem dJ6_bitCount_0f7a4_7 : decode cJ6_bitCount_0f7a4 7 = .ok (.iand, 1) := by decide +kernel
theorem dJ6_bitCount_0f7a4_8 : decode cJ6_bitCount_0f7a4 8 = .ok (.isub, 1) := by decide +kernel
theorem dJ6_bitCount_0f7a4_9 : decode cJ6_bitCount_0f7a4 9 = .ok (.istore_n 0, 1) := by decide +kernel
theorem dJ6_bitCount_0f7a4_10 : decode cJ6_bitCount_0f7a4 10 = .ok (.iload_n 0, 1) := by decide +kernel
theorem dJ6_bitCount_0f7a4_11 : decode cJ6_bitCount_0f7a4 11 = .ok (.ldc_w 266, 3) := by decide +kernel
theorem dJ6_bitCount_0f7a4_14 : decode cJ6_bitCount_0f7a4 14 = .ok (.iand, 1) := by decide +kernel
theorem dJ6_bitCount_0f7a4_15 : decode cJ6_bitCount_0f7a4 15 = .ok (.iload_n 0, 1) := by decide +kernel
theorem dJ6_bitCount_0f7a4_16 : decode cJ6_bitCount_0f7a4 16 = .ok (.iconst 2, 1) := by decide +kernel
theorem dJ6_bitCount_0f7a4_17 : decode cJ6_bitCount_0f7a4 17 = .ok (.iushr, 1) := by decide +kernel
theorem dJ6_bitCount_0f7a4_18 : decode cJ6_bitCount_0f7a4 18 = .ok (.ldc_w 266, 3) := by decide +kernel
theorem dJ6_bitCount_0f7a4_21 : decode cJ6_bitCount_0f7a4 21 = .ok (.iand, 1) := by decide +kernel
theorem dJ6_bitCount_0f7a4_22 : decode cJ6_bitCount_0f7a4 22 = .ok (.iadd, 1) := by decide +kernel
theorem dJ6_bitCount_0f7a4_23 : decode cJ6_bitCount_0f7a4 23 = .ok (.istore_n 0, 1) := by decide +kernel
theorem dJ6_bitCount_0f7a4_24 : decode cJ6_bitCount_0f7a4 24 = .ok (.iload_n 0, 1) := by decide +kernel
theorem dJ6_bitCount_0f7a4_25 : decode cJ6_bitCount_0f7a4 25 = .ok (.iload_n 0, 1) := by decide +kernel
theorem dJ6_bitCount_0f7a4_26 : decode cJ6_bitCount_0f7a4 26 = .ok (.iconst 4, 1) := by decide +kernel
theorem dJ6_bitCount_0f7a4_27 : decode cJ6_bitCount_0f7a4 27 = .ok (.iushr, 1) := by decide +kernel
theorem dJ6_bitCount_0f7a4_28 : decode cJ6_bitCount_0f7a4 28 = .ok (.iadd, 1) := by decide +kernel
theorem dJ6_bitCount_0f7a4_29 : decode cJ6_bitCount_0f7a4 29 = .ok (.ldc_w 267, 3) := by decide +kernel
theorem dJ6_bitCount_0f7a4_32 : decode cJ6_bitCount_0f7a4 32 = .ok (.iand, 1) := by decide +kernel
theorem dJ6_bitCount_0f7a4_33 : decode cJ6_bitCount_0f7a4 33 = .ok (.istore_n 0, 1) := by decide +kernel
theorem dJ6_bitCount_0f7a4_34 : decode cJ6_bitCount_0f7a4 34 = .ok (.iload_n 0, 1) := by decide +kernel
theorem dJ6_bitCount_0f7a4_35 : decode cJ6_bitCount_0f7a4 35 = .ok (.iload_n 0, 1) := by decide +kernel
theorem dJ6_bitCount_0f7a4_36 : decode cJ6_bitCount_0f7a4 36 = .ok (.bipush 8, 2) := by decide +kernel
theorem dJ6_bitCount_0f7a4_38 : decode cJ6_bitCount_0f7a4 38 = .ok (.iushr, 1) := by decide +kernel
theorem dJ6_bitCount_0f7a4_39 : decode cJ6_bitCount_0f7a4 39 = .ok (.iadd, 1) := by decide +kernel
theorem dJ6_bitCount_0f7a4_40 : decode cJ6_bitCount_0f7a4 40 = .ok (.istore_n 0, 1) := by decide +kernel
theorem dJ6_bitCount_0f7a4_41 : decode cJ6_bitCount_0f7a4 41 = .ok (.iload_n 0, 1) := by decide +kernel
theorem dJ6_bitCount_0f7a4_42 : decode cJ6_bitCount_0f7a4 42 = .ok (.iload_n 0, 1) := by decide +kernel
theorem dJ6_bitCount_0f7a4_43 : decode cJ6_bitCount_0f7a4 43 = .ok (.bipush 16, 2) := by decide +kernel
theorem dJ6_bitCount_0f7a4_45 : decode cJ6_bitCount_0f7a4 45 = .ok (.iushr, 1) := by decide +kernel
theorem dJ6_bitCount_0f7a4_46 : decode cJ6_bitCount_0f7a4 46 = .ok (.iadd, 1) := by decide +kernel
theorem dJ6_bitCount_0f7a4_47 : decode cJ6_bitCount_0f7a4 47 = .ok (.istore_n 0, 1) := by decide +kernel
theorem dJ6_bitCount_0f7a4_48 : decode cJ6_bitCount_0f7a4 48 = .ok (.iload_n 0, 1) := by decide +kernel
theorem dJ6_bitCount_0f7a4_49 : decode cJ6_bitCount_0f7a4 49 = .ok (.bipush 63, 2) := by decide +kernel
theorem dJ6_bitCount_0f7a4_51 : decode cJ6_bitCount_0f7a4 51 = .ok (.iand, 1) := by decide +kernel
theorem dJ6_bitCount_0f7a4_52 : decode cJ6_bitCount_0f7a4 52 = .ok (.ireturn, 1) := by decide +kernel
noncomputable def rJ6_bitCount_0f7a4 (a1 : Int32) : Int32 := ((((((((a1 - ((zushr a1 (1 : Int32)) &&& (1431655765 : Int32))) &&& (858993459 : Int32)) + ((zushr (a1 - ((zushr a1 (1 : Int32)) &&& (1431655765 : Int32))) (2 : Int32)) &&& (858993459 : Int32))) + (zushr (((a1 - ((zushr a1 (1 : Int32)) &&& (1431655765 : Int32))) &&& (858993459 : Int32)) + ((zushr (a1 - ((zushr a1 (1 : Int32)) &&& (1431655765 : Int32))) (2 : Int32)) &&& (858993459 : Int32))) (4 : Int32))) &&& (252645135 : Int32)) + (zushr (((((a1 - ((zushr a1 (1 : Int32)) &&& (1431655765 : Int32))) &&& (858993459 : Int32)) + ((zushr (a1 - ((zushr a1 (1 : Int32)) &&& (1431655765 : Int32))) (2 : Int32)) &&& (858993459 : Int32))) + (zushr (((a1 - ((zushr a1 (1 : Int32)) &&& (1431655765 : Int32))) &&& (858993459 : Int32)) + ((zushr (a1 - ((zushr a1 (1 : Int32)) &&& (1431655765 : Int32))) (2 : Int32)) &&& (858993459 : Int32))) (4 : Int32))) &&& (252645135 : Int32)) (8 : Int32))) + (zushr ((((((a1 - ((zushr a1 (1 : Int32)) &&& (1431655765 : Int32))) &&& (858993459 : Int32)) + ((zushr (a1 - ((zushr a1 (1 : Int32)) &&& (1431655765 : Int32))) (2 : Int32)) &&& (858993459 : Int32))) + (zushr (((a1 - ((zushr a1 (1 : Int32)) &&& (1431655765 : Int32))) &&& (858993459 : Int32)) + ((zushr (a1 - ((zushr a1 (1 : Int32)) &&& (1431655765 : Int32))) (2 : Int32)) &&& (858993459 : Int32))) (4 : Int32))) &&& (252645135 : Int32)) + (zushr (((((a1 - ((zushr a1 (1 : Int32)) &&& (1431655765 : Int32))) &&& (858993459 : Int32)) + ((zushr (a1 - ((zushr a1 (1 : Int32)) &&& (1431655765 : Int32))) (2 : Int32)) &&& (858993459 : Int32))) + (zushr (((a1 - ((zushr a1 (1 : Int32)) &&& (1431655765 : Int32))) &&& (858993459 : Int32)) + ((zushr (a1 - ((zushr a1 (1 : Int32)) &&& (1431655765 : Int32))) (2 : Int32)) &&& (858993459 : Int32))) (4 : Int32))) &&& (252645135 : Int32)) (8 : Int32))) (16 : Int32))) &&& (63 : Int32))
set_option maxHeartbeats 1000000 in
theorem ctJ6_bitCount_0f7a4 (P : zp) (σ : zc_N) (a1 : Int32) : sp mJ6_bitCount_0f7a4 0 0 0 [.int a1] (hh P σ) (fun r_ h_ => r_ = some (.int (rJ6_bitCount_0f7a4 a1)) ∧ h_ = hh P σ) := by
  refine sp_of (lv := [some (.int a1)]) (by decide) (zcats_ok _ rfl) (Nat.le_of_ble_eq_true rfl) (zlv_ok _ 0 rfl) (fun G => ?_)
  generalize hQ_ : (fun (r_ : Option Value) (h_ : zc_H) => r_ = some (.int (rJ6_bitCount_0f7a4 a1)) ∧ h_ = hh P σ) = Q_
  refine z_iload_n dJ6_bitCount_0f7a4_0 rfl ?_
  refine z_iload_n dJ6_bitCount_0f7a4_1 rfl ?_
  refine z_iconst dJ6_bitCount_0f7a4_2 k_iconst_1 ?_
  refine z_iushr (v := (zushr a1 (1 : Int32))) dJ6_bitCount_0f7a4_3 rfl ?_
  refine z_ldcw dJ6_bitCount_0f7a4_4 ck_J6_265 ?_
  refine z_iand (v := ((zushr a1 (1 : Int32)) &&& (1431655765 : Int32))) dJ6_bitCount_0f7a4_7 rfl ?_
  refine z_isub (v := (a1 - ((zushr a1 (1 : Int32)) &&& (1431655765 : Int32)))) dJ6_bitCount_0f7a4_8 rfl ?_
  refine z_istore_n (lv' := [some (.int (a1 - ((zushr a1 (1 : Int32)) &&& (1431655765 : Int32))))]) dJ6_bitCount_0f7a4_9 (Nat.le_of_ble_eq_true rfl) rfl ?_
  refine z_iload_n dJ6_bitCount_0f7a4_10 rfl ?_
  refine z_ldcw dJ6_bitCount_0f7a4_11 ck_J6_266 ?_
  refine z_iand (v := ((a1 - ((zushr a1 (1 : Int32)) &&& (1431655765 : Int32))) &&& (858993459 : Int32))) dJ6_bitCount_0f7a4_14 rfl ?_
  refine z_iload_n dJ6_bitCount_0f7a4_15 rfl ?_
  refine z_iconst dJ6_bitCount_0f7a4_16 k_iconst_2 ?_
  refine z_iushr (v := (zushr (a1 - ((zushr a1 (1 : Int32)) &&& (1431655765 : Int32))) (2 : Int32))) dJ6_bitCount_0f7a4_17 rfl ?_
  refine z_ldcw dJ6_bitCount_0f7a4_18 ck_J6_266 ?_
  refine z_iand (v := ((zushr (a1 - ((zushr a1 (1 : Int32)) &&& (1431655765 : Int32))) (2 : Int32)) &&& (858993459 : Int32))) dJ6_bitCount_0f7a4_21 rfl ?_
  refine z_iadd (v := (((a1 - ((zushr a1 (1 : Int32)) &&& (1431655765 : Int32))) &&& (858993459 : Int32)) + ((zushr (a1 - ((zushr a1 (1 : Int32)) &&& (1431655765 : Int32))) (2 : Int32)) &&& (858993459 : Int32)))) dJ6_bitCount_0f7a4_22 rfl ?_
  refine z_istore_n (lv' := [some (.int (((a1 - ((zushr a1 (1 : Int32)) &&& (1431655765 : Int32))) &&& (858993459 : Int32)) + ((zushr (a1 - ((zushr a1 (1 : Int32)) &&& (1431655765 : Int32))) (2 : Int32)) &&& (858993459 : Int32))))]) dJ6_bitCount_0f7a4_23 (Nat.le_of_ble_eq_true rfl) rfl ?_
  refine z_iload_n dJ6_bitCount_0f7a4_24 rfl ?_
  refine z_iload_n dJ6_bitCount_0f7a4_25 rfl ?_
  refine z_iconst dJ6_bitCount_0f7a4_26 k_iconst_4 ?_
  refine z_iushr (v := (zushr (((a1 - ((zushr a1 (1 : Int32)) &&& (1431655765 : Int32))) &&& (858993459 : Int32)) + ((zushr (a1 - ((zushr a1 (1 : Int32)) &&& (1431655765 : Int32))) (2 : Int32)) &&& (858993459 : Int32))) (4 : Int32))) dJ6_bitCount_0f7a4_27 rfl ?_
  refine z_iadd (v := ((((a1 - ((zushr a1 (1 : Int32)) &&& (1431655765 : Int32))) &&& (858993459 : Int32)) + ((zushr (a1 - ((zushr a1 (1 : Int32)) &&& (1431655765 : Int32))) (2 : Int32)) &&& (858993459 : Int32))) + (zushr (((a1 - ((zushr a1 (1 : Int32)) &&& (1431655765 : Int32))) &&& (858993459 : Int32)) + ((zushr (a1 - ((zushr a1 (1 : Int32)) &&& (1431655765 : Int32))) (2 : Int32)) &&& (858993459 : Int32))) (4 : Int32)))) dJ6_bitCount_0f7a4_28 rfl ?_
  refine z_ldcw dJ6_bitCount_0f7a4_29 ck_J6_267 ?_
  refine z_iand (v := (((((a1 - ((zushr a1 (1 : Int32)) &&& (1431655765 : Int32))) &&& (858993459 : Int32)) + ((zushr (a1 - ((zushr a1 (1 : Int32)) &&& (1431655765 : Int32))) (2 : Int32)) &&& (858993459 : Int32))) + (zushr (((a1 - ((zushr a1 (1 : Int32)) &&& (1431655765 : Int32))) &&& (858993459 : Int32)) + ((zushr (a1 - ((zushr a1 (1 : Int32)) &&& (1431655765 : Int32))) (2 : Int32)) &&& (858993459 : Int32))) (4 : Int32))) &&& (252645135 : Int32))) dJ6_bitCount_0f7a4_32 rfl ?_
  refine z_istore_n (lv' := [some (.int (((((a1 - ((zushr a1 (1 : Int32)) &&& (1431655765 : Int32))) &&& (858993459 : Int32)) + ((zushr (a1 - ((zushr a1 (1 : Int32)) &&& (1431655765 : Int32))) (2 : Int32)) &&& (858993459 : Int32))) + (zushr (((a1 - ((zushr a1 (1 : Int32)) &&& (1431655765 : Int32))) &&& (858993459 : Int32)) + ((zushr (a1 - ((zushr a1 (1 : Int32)) &&& (1431655765 : Int32))) (2 : Int32)) &&& (858993459 : Int32))) (4 : Int32))) &&& (252645135 : Int32)))]) dJ6_bitCount_0f7a4_33 (Nat.le_of_ble_eq_true rfl) rfl ?_
  refine z_iload_n dJ6_bitCount_0f7a4_34 rfl ?_
  refine z_iload_n dJ6_bitCount_0f7a4_35 rfl ?_
  refine z_bipush dJ6_bitCount_0f7a4_36 k_bipush_8 ?_
  refine z_iushr (v := (zushr (((((a1 - ((zushr a1 (1 : Int32)) &&& (1431655765 : Int32))) &&& (858993459 : Int32)) + ((zushr (a1 - ((zushr a1 (1 : Int32)) &&& (1431655765 : Int32))) (2 : Int32)) &&& (858993459 : Int32))) + (zushr (((a1 - ((zushr a1 (1 : Int32)) &&& (1431655765 : Int32))) &&& (858993459 : Int32)) + ((zushr (a1 - ((zushr a1 (1 : Int32)) &&& (1431655765 : Int32))) (2 : Int32)) &&& (858993459 : Int32))) (4 : Int32))) &&& (252645135 : Int32)) (8 : Int32))) dJ6_bitCount_0f7a4_38 rfl ?_
  refine z_iadd (v := ((((((a1 - ((zushr a1 (1 : Int32)) &&& (1431655765 : Int32))) &&& (858993459 : Int32)) + ((zushr (a1 - ((zushr a1 (1 : Int32)) &&& (1431655765 : Int32))) (2 : Int32)) &&& (858993459 : Int32))) + (zushr (((a1 - ((zushr a1 (1 : Int32)) &&& (1431655765 : Int32))) &&& (858993459 : Int32)) + ((zushr (a1 - ((zushr a1 (1 : Int32)) &&& (1431655765 : Int32))) (2 : Int32)) &&& (858993459 : Int32))) (4 : Int32))) &&& (252645135 : Int32)) + (zushr (((((a1 - ((zushr a1 (1 : Int32)) &&& (1431655765 : Int32))) &&& (858993459 : Int32)) + ((zushr (a1 - ((zushr a1 (1 : Int32)) &&& (1431655765 : Int32))) (2 : Int32)) &&& (858993459 : Int32))) + (zushr (((a1 - ((zushr a1 (1 : Int32)) &&& (1431655765 : Int32))) &&& (858993459 : Int32)) + ((zushr (a1 - ((zushr a1 (1 : Int32)) &&& (1431655765 : Int32))) (2 : Int32)) &&& (858993459 : Int32))) (4 : Int32))) &&& (252645135 : Int32)) (8 : Int32)))) dJ6_bitCount_0f7a4_39 rfl ?_
  refine z_istore_n (lv' := [some (.int ((((((a1 - ((zushr a1 (1 : Int32)) &&& (1431655765 : Int32))) &&& (858993459 : Int32)) + ((zushr (a1 - ((zushr a1 (1 : Int32)) &&& (1431655765 : Int32))) (2 : Int32)) &&& (858993459 : Int32))) + (zushr (((a1 - ((zushr a1 (1 : Int32)) &&& (1431655765 : Int32))) &&& (858993459 : Int32)) + ((zushr (a1 - ((zushr a1 (1 : Int32)) &&& (1431655765 : Int32))) (2 : Int32)) &&& (858993459 : Int32))) (4 : Int32))) &&& (252645135 : Int32)) + (zushr (((((a1 - ((zushr a1 (1 : Int32)) &&& (1431655765 : Int32))) &&& (858993459 : Int32)) + ((zushr (a1 - ((zushr a1 (1 : Int32)) &&& (1431655765 : Int32))) (2 : Int32)) &&& (858993459 : Int32))) + (zushr (((a1 - ((zushr a1 (1 : Int32)) &&& (1431655765 : Int32))) &&& (858993459 : Int32)) + ((zushr (a1 - ((zushr a1 (1 : Int32)) &&& (1431655765 : Int32))) (2 : Int32)) &&& (858993459 : Int32))) (4 : Int32))) &&& (252645135 : Int32)) (8 : Int32))))]) dJ6_bitCount_0f7a4_40 (Nat.le_of_ble_eq_true rfl) rfl ?_
  refine z_iload_n dJ6_bitCount_0f7a4_41 rfl ?_
  refine z_iload_n dJ6_bitCount_0f7a4_42 rfl ?_
  refine z_bipush dJ6_bitCount_0f7a4_43 k_bipush_16 ?_
  refine z_iushr (v := (zushr ((((((a1 - ((zushr a1 (1 : Int32)) &&& (1431655765 : Int32))) &&& (858993459 : Int32)) + ((zushr (a1 - ((zushr a1 (1 : Int32)) &&& (1431655765 : Int32))) (2 : Int32)) &&& (858993459 : Int32))) + (zushr (((a1 - ((zushr a1 (1 : Int32)) &&& (1431655765 : Int32))) &&& (858993459 : Int32)) + ((zushr (a1 - ((zushr a1 (1 : Int32)) &&& (1431655765 : Int32))) (2 : Int32)) &&& (858993459 : Int32))) (4 : Int32))) &&& (252645135 : Int32)) + (zushr (((((a1 - ((zushr a1 (1 : Int32)) &&& (1431655765 : Int32))) &&& (858993459 : Int32)) + ((zushr (a1 - ((zushr a1 (1 : Int32)) &&& (1431655765 : Int32))) (2 : Int32)) &&& (858993459 : Int32))) + (zushr (((a1 - ((zushr a1 (1 : Int32)) &&& (1431655765 : Int32))) &&& (858993459 : Int32)) + ((zushr (a1 - ((zushr a1 (1 : Int32)) &&& (1431655765 : Int32))) (2 : Int32)) &&& (858993459 : Int32))) (4 : Int32))) &&& (252645135 : Int32)) (8 : Int32))) (16 : Int32))) dJ6_bitCount_0f7a4_45 rfl ?_
  refine z_iadd (v := (((((((a1 - ((zushr a1 (1 : Int32)) &&& (1431655765 : Int32))) &&& (858993459 : Int32)) + ((zushr (a1 - ((zushr a1 (1 : Int32)) &&& (1431655765 : Int32))) (2 : Int32)) &&& (858993459 : Int32))) + (zushr (((a1 - ((zushr a1 (1 : Int32)) &&& (1431655765 : Int32))) &&& (858993459 : Int32)) + ((zushr (a1 - ((zushr a1 (1 : Int32)) &&& (1431655765 : Int32))) (2 : Int32)) &&& (858993459 : Int32))) (4 : Int32))) &&& (252645135 : Int32)) + (zushr (((((a1 - ((zushr a1 (1 : Int32)) &&& (1431655765 : Int32))) &&& (858993459 : Int32)) + ((zushr (a1 - ((zushr a1 (1 : Int32)) &&& (1431655765 : Int32))) (2 : Int32)) &&& (858993459 : Int32))) + (zushr (((a1 - ((zushr a1 (1 : Int32)) &&& (1431655765 : Int32))) &&& (858993459 : Int32)) + ((zushr (a1 - ((zushr a1 (1 : Int32)) &&& (1431655765 : Int32))) (2 : Int32)) &&& (858993459 : Int32))) (4 : Int32))) &&& (252645135 : Int32)) (8 : Int32))) + (zushr ((((((a1 - ((zushr a1 (1 : Int32)) &&& (1431655765 : Int32))) &&& (858993459 : Int32)) + ((zushr (a1 - ((zushr a1 (1 : Int32)) &&& (1431655765 : Int32))) (2 : Int32)) &&& (858993459 : Int32))) + (zushr (((a1 - ((zushr a1 (1 : Int32)) &&& (1431655765 : Int32))) &&& (858993459 : Int32)) + ((zushr (a1 - ((zushr a1 (1 : Int32)) &&& (1431655765 : Int32))) (2 : Int32)) &&& (858993459 : Int32))) (4 : Int32))) &&& (252645135 : Int32)) + (zushr (((((a1 - ((zushr a1 (1 : Int32)) &&& (1431655765 : Int32))) &&& (858993459 : Int32)) + ((zushr (a1 - ((zushr a1 (1 : Int32)) &&& (1431655765 : Int32))) (2 : Int32)) &&& (858993459 : Int32))) + (zushr (((a1 - ((zushr a1 (1 : Int32)) &&& (1431655765 : Int32))) &&& (858993459 : Int32)) + ((zushr (a1 - ((zushr a1 (1 : Int32)) &&& (1431655765 : Int32))) (2 : Int32)) &&& (858993459 : Int32))) (4 : Int32))) &&& (252645135 : Int32)) (8 : Int32))) (16 : Int32)))) dJ6_bitCount_0f7a4_46 rfl ?_
  refine z_istore_n (lv' := [some (.int (((((((a1 - ((zushr a1 (1 : Int32)) &&& (1431655765 : Int32))) &&& (858993459 : Int32)) + ((zushr (a1 - ((zushr a1 (1 : Int32)) &&& (1431655765 : Int32))) (2 : Int32)) &&& (858993459 : Int32))) + (zushr (((a1 - ((zushr a1 (1 : Int32)) &&& (1431655765 : Int32))) &&& (858993459 : Int32)) + ((zushr (a1 - ((zushr a1 (1 : Int32)) &&& (1431655765 : Int32))) (2 : Int32)) &&& (858993459 : Int32))) (4 : Int32))) &&& (252645135 : Int32)) + (zushr (((((a1 - ((zushr a1 (1 : Int32)) &&& (1431655765 : Int32))) &&& (858993459 : Int32)) + ((zushr (a1 - ((zushr a1 (1 : Int32)) &&& (1431655765 : Int32))) (2 : Int32)) &&& (858993459 : Int32))) + (zushr (((a1 - ((zushr a1 (1 : Int32)) &&& (1431655765 : Int32))) &&& (858993459 : Int32)) + ((zushr (a1 - ((zushr a1 (1 : Int32)) &&& (1431655765 : Int32))) (2 : Int32)) &&& (858993459 : Int32))) (4 : Int32))) &&& (252645135 : Int32)) (8 : Int32))) + (zushr ((((((a1 - ((zushr a1 (1 : Int32)) &&& (1431655765 : Int32))) &&& (858993459 : Int32)) + ((zushr (a1 - ((zushr a1 (1 : Int32)) &&& (1431655765 : Int32))) (2 : Int32)) &&& (858993459 : Int32))) + (zushr (((a1 - ((zushr a1 (1 : Int32)) &&& (1431655765 : Int32))) &&& (858993459 : Int32)) + ((zushr (a1 - ((zushr a1 (1 : Int32)) &&& (1431655765 : Int32))) (2 : Int32)) &&& (858993459 : Int32))) (4 : Int32))) &&& (252645135 : Int32)) + (zushr (((((a1 - ((zushr a1 (1 : Int32)) &&& (1431655765 : Int32))) &&& (858993459 : Int32)) + ((zushr (a1 - ((zushr a1 (1 : Int32)) &&& (1431655765 : Int32))) (2 : Int32)) &&& (858993459 : Int32))) + (zushr (((a1 - ((zushr a1 (1 : Int32)) &&& (1431655765 : Int32))) &&& (858993459 : Int32)) + ((zushr (a1 - ((zushr a1 (1 : Int32)) &&& (1431655765 : Int32))) (2 : Int32)) &&& (858993459 : Int32))) (4 : Int32))) &&& (252645135 : Int32)) (8 : Int32))) (16 : Int32))))]) dJ6_bitCount_0f7a4_47 (Nat.le_of_ble_eq_true rfl) rfl ?_
  refine z_iload_n dJ6_bitCount_0f7a4_48 rfl ?_
  refine z_bipush dJ6_bitCount_0f7a4_49 k_bipush_63 ?_
  refine z_iand (v := ((((((((a1 - ((zushr a1 (1 : Int32)) &&& (1431655765 : Int32))) &&& (858993459 : Int32)) + ((zushr (a1 - ((zushr a1 (1 : Int32)) &&& (1431655765 : Int32))) (2 : Int32)) &&& (858993459 : Int32))) + (zushr (((a1 - ((zushr a1 (1 : Int32)) &&& (1431655765 : Int32))) &&& (858993459 : Int32)) + ((zushr (a1 - ((zushr a1 (1 : Int32)) &&& (1431655765 : Int32))) (2 : Int32)) &&& (858993459 : Int32))) (4 : Int32))) &&& (252645135 : Int32)) + (zushr (((((a1 - ((zushr a1 (1 : Int32)) &&& (1431655765 : Int32))) &&& (858993459 : Int32)) + ((zushr (a1 - ((zushr a1 (1 : Int32)) &&& (1431655765 : Int32))) (2 : Int32)) &&& (858993459 : Int32))) + (zushr (((a1 - ((zushr a1 (1 : Int32)) &&& (1431655765 : Int32))) &&& (858993459 : Int32)) + ((zushr (a1 - ((zushr a1 (1 : Int32)) &&& (1431655765 : Int32))) (2 : Int32)) &&& (858993459 : Int32))) (4 : Int32))) &&& (252645135 : Int32)) (8 : Int32))) + (zushr ((((((a1 - ((zushr a1 (1 : Int32)) &&& (1431655765 : Int32))) &&& (858993459 : Int32)) + ((zushr (a1 - ((zushr a1 (1 : Int32)) &&& (1431655765 : Int32))) (2 : Int32)) &&& (858993459 : Int32))) + (zushr (((a1 - ((zushr a1 (1 : Int32)) &&& (1431655765 : Int32))) &&& (858993459 : Int32)) + ((zushr (a1 - ((zushr a1 (1 : Int32)) &&& (1431655765 : Int32))) (2 : Int32)) &&& (858993459 : Int32))) (4 : Int32))) &&& (252645135 : Int32)) + (zushr (((((a1 - ((zushr a1 (1 : Int32)) &&& (1431655765 : Int32))) &&& (858993459 : Int32)) + ((zushr (a1 - ((zushr a1 (1 : Int32)) &&& (1431655765 : Int32))) (2 : Int32)) &&& (858993459 : Int32))) + (zushr (((a1 - ((zushr a1 (1 : Int32)) &&& (1431655765 : Int32))) &&& (858993459 : Int32)) + ((zushr (a1 - ((zushr a1 (1 : Int32)) &&& (1431655765 : Int32))) (2 : Int32)) &&& (858993459 : Int32))) (4 : Int32))) &&& (252645135 : Int32)) (8 : Int32))) (16 : Int32))) &&& (63 : Int32))) dJ6_bitCount_0f7a4_51 rfl ?_
  exact z_ireturn dJ6_bitCount_0f7a4_52 rfl rfl (Nat.le_of_ble_eq_true rfl) (Nat.le_of_ble_eq_true rfl) (by rw [← hQ_]; exact ⟨(by rw [rJ6_bitCount_0f7a4]), rfl⟩)

theorem dX1_hangsTogether_0 : decode cX1_hangsTogether 0 = .ok (.iload_n 0, 1) := by decide +kernel
theorem dX1_hangsTogether_1 : decode cX1_hangsTogether 1 = .ok (.bipush 85, 2) := by decide +kernel
theorem dX1_hangsTogether_3 : decode cX1_hangsTogether 3 = .ok (.iand, 1) := by decide +kernel
theorem dX1_hangsTogether_4 : decode cX1_hangsTogether 4 = .ok (.istore_n 1, 1) := by decide +kernel
theorem dX1_hangsTogether_5 : decode cX1_hangsTogether 5 = .ok (.iload_n 0, 1) := by decide +kernel
theorem dX1_hangsTogether_6 : decode cX1_hangsTogether 6 = .ok (.iload_n 1, 1) := by decide +kernel
theorem dX1_hangsTogether_7 : decode cX1_hangsTogether 7 = .ok (.iconst 1, 1) := by decide +kernel
theorem dX1_hangsTogether_8 : decode cX1_hangsTogether 8 = .ok (.ishl, 1) := by decide +kernel
theorem dX1_hangsTogether_9 : decode cX1_hangsTogether 9 = .ok (.iload_n 1, 1) := by decide +kernel
theorem dX1_hangsTogether_10 : decode cX1_hangsTogether 10 = .ok (.iconst 1, 1) := by decide +kernel
theorem dX1_hangsTogether_11 : decode cX1_hangsTogether 11 = .ok (.ishr, 1) := by decide +kernel
theorem dX1_hangsTogether_12 : decode cX1_hangsTogether 12 = .ok (.iload_n 1, 1) := by decide +kernel
theorem dX1_hangsTogether_13 : decode cX1_hangsTogether 13 = .ok (.bipush 7, 2) := by decide +kernel
theorem dX1_hangsTogether_15 : decode cX1_hangsTogether 15 = .ok (.ishl, 1) := by decide +kernel
theorem dX1_hangsTogether_16 : decode cX1_hangsTogether 16 = .ok (.ior, 1) := by decide +kernel
theorem dX1_hangsTogether_17 : decode cX1_hangsTogether 17 = .ok (.iand, 1) := by decide +kernel
theorem dX1_hangsTogether_18 : decode cX1_hangsTogether 18 = .ok (.ior, 1) := by decide +kernel
theorem dX1_hangsTogether_19 : decode cX1_hangsTogether 19 = .ok (.istore_n 2, 1) := by decide +kernel
theorem dX1_hangsTogether_20 : decode cX1_hangsTogether 20 = .ok (.iload_n 2, 1) := by decide +kernel
theorem dX1_hangsTogether_21 : decode cX1_hangsTogether 21 = .ok (.iload_n 2, 1) := by decide +kernel
theorem dX1_hangsTogether_22 : decode cX1_hangsTogether 22 = .ok (.iconst 1, 1) := by decide +kernel
theorem dX1_hangsTogether_23 : decode cX1_hangsTogether 23 = .ok (.ishl, 1) := by decide +kernel
theorem dX1_hangsTogether_24 : decode cX1_hangsTogether 24 = .ok (.iload_n 2, 1) := by decide +kernel
theorem dX1_hangsTogether_25 : decode cX1_hangsTogether 25 = .ok (.bipush 7, 2) := by decide +kernel
theorem dX1_hangsTogether_27 : decode cX1_hangsTogether 27 = .ok (.ishr, 1) := by decide +kernel
theorem dX1_hangsTogether_28 : decode cX1_hangsTogether 28 = .ok (.ior, 1) := by decide +kernel
theorem dX1_hangsTogether_29 : decode cX1_hangsTogether 29 = .ok (.iconst (-1), 1) := by decide +kernel
theorem dX1_hangsTogether_30 : decode cX1_hangsTogether 30 = .ok (.ixor, 1) := by decide +kernel
theorem dX1_hangsTogether_31 : decode cX1_hangsTogether 31 = .ok (.iand, 1) := by decide +kernel
theorem dX1_hangsTogether_32 : decode cX1_hangsTogether 32 = .ok (.istore_n 3, 1) := by decide +kernel
theorem dX1_hangsTogether_33 : decode cX1_hangsTogether 33 = .ok (.iload_n 3, 1) := by decide +kernel
theorem dX1_hangsTogether_34 : decode cX1_hangsTogether 34 = .ok (.invokestatic 21, 3) := by decide +kernel
theorem dX1_hangsTogether_37 : decode cX1_hangsTogether 37 = .ok (.iconst 1, 1) := by decide +kernel
theorem dX1_hangsTogether_38 : decode cX1_hangsTogether 38 = .ok (.if_icmp .gt 7, 3) := by decide +kernel
theorem dX1_hangsTogether_41 : decode cX1_hangsTogether 41 = .ok (.iconst 1, 1) := by decide +kernel
theorem dX1_hangsTogether_42 : decode cX1_hangsTogether 42 = .ok (.goto 4, 3) := by decide +kernel
theorem dX1_hangsTogether_45 : decode cX1_hangsTogether 45 = .ok (.iconst 0, 1) := by decide +kernel
theorem dX1_hangsTogether_46 : decode cX1_hangsTogether 46 = .ok (.ireturn, 1) := by decide +kernel
noncomputable def rX1_hangsTogether (a1 : Int32) : Int32 := (if (1 : Int32) < (rJ6_bitCount_0f7a4 ((a1 ||| ((zshl (a1 &&& (85 : Int32)) (1 : Int32)) &&& ((zshr (a1 &&& (85 : Int32)) (1 : Int32)) ||| (zshl (a1 &&& (85 : Int32)) (7 : Int32))))) &&& (((zshl (a1 ||| ((zshl (a1 &&& (85 : Int32)) (1 : Int32)) &&& ((zshr (a1 &&& (85 : Int32)) (1 : Int32)) ||| (zshl (a1 &&& (85 : Int32)) (7 : Int32))))) (1 : Int32)) ||| (zshr (a1 ||| ((zshl (a1 &&& (85 : Int32)) (1 : Int32)) &&& ((zshr (a1 &&& (85 : Int32)) (1 : Int32)) ||| (zshl (a1 &&& (85 : Int32)) (7 : Int32))))) (7 : Int32))) ^^^ (-1 : Int32)))) then (0 : Int32) else (1 : Int32))
set_option maxHeartbeats 1000000 in
theorem ctX1_hangsTogether (P : zp) (σ : zc_N) (a1 : Int32) : sp mX1_hangsTogether 1 0 0 [.int a1] (hh P σ) (fun r_ h_ => r_ = some (.int (rX1_hangsTogether a1)) ∧ h_ = hh P σ) := by
  refine sp_of (lv := [some (.int a1), none, none, none]) (by decide) (zcats_ok _ rfl) (Nat.le_of_ble_eq_true rfl) (zlv_ok _ 3 rfl) (fun G => ?_)
  generalize hQ_ : (fun (r_ : Option Value) (h_ : zc_H) => r_ = some (.int (rX1_hangsTogether a1)) ∧ h_ = hh P σ) = Q_
  refine z_iload_n dX1_hangsTogether_0 rfl ?_
  refine z_bipush dX1_hangsTogether_1 k_bipush_85 ?_
  refine z_iand (v := (a1 &&& (85 : Int32))) dX1_hangsTogether_3 rfl ?_
  refine z_istore_n (lv' := [some (.int a1), some (.int (a1 &&& (85 : Int32))), none, none]) dX1_hangsTogether_4 (Nat.le_of_ble_eq_true rfl) rfl ?_
  refine z_iload_n dX1_hangsTogether_5 rfl ?_
  refine z_iload_n dX1_hangsTogether_6 rfl ?_
  refine z_iconst dX1_hangsTogether_7 k_iconst_1 ?_
  refine z_ishl (v := (zshl (a1 &&& (85 : Int32)) (1 : Int32))) dX1_hangsTogether_8 rfl ?_
  refine z_iload_n dX1_hangsTogether_9 rfl ?_
  refine z_iconst dX1_hangsTogether_10 k_iconst_1 ?_
  refine z_ishr (v := (zshr (a1 &&& (85 : Int32)) (1 : Int32))) dX1_hangsTogether_11 rfl ?_
  refine z_iload_n dX1_hangsTogether_12 rfl ?_
  refine z_bipush dX1_hangsTogether_13 k_bipush_7 ?_
  refine z_ishl (v := (zshl (a1 &&& (85 : Int32)) (7 : Int32))) dX1_hangsTogether_15 rfl ?_
  refine z_ior (v := ((zshr (a1 &&& (85 : Int32)) (1 : Int32)) ||| (zshl (a1 &&& (85 : Int32)) (7 : Int32)))) dX1_hangsTogether_16 rfl ?_
  refine z_iand (v := ((zshl (a1 &&& (85 : Int32)) (1 : Int32)) &&& ((zshr (a1 &&& (85 : Int32)) (1 : Int32)) ||| (zshl (a1 &&& (85 : Int32)) (7 : Int32))))) dX1_hangsTogether_17 rfl ?_
  refine z_ior (v := (a1 ||| ((zshl (a1 &&& (85 : Int32)) (1 : Int32)) &&& ((zshr (a1 &&& (85 : Int32)) (1 : Int32)) ||| (zshl (a1 &&& (85 : Int32)) (7 : Int32)))))) dX1_hangsTogether_18 rfl ?_
  refine z_istore_n (lv' := [some (.int a1), some (.int (a1 &&& (85 : Int32))), some (.int (a1 ||| ((zshl (a1 &&& (85 : Int32)) (1 : Int32)) &&& ((zshr (a1 &&& (85 : Int32)) (1 : Int32)) ||| (zshl (a1 &&& (85 : Int32)) (7 : Int32)))))), none]) dX1_hangsTogether_19 (Nat.le_of_ble_eq_true rfl) rfl ?_
  refine z_iload_n dX1_hangsTogether_20 rfl ?_
  refine z_iload_n dX1_hangsTogether_21 rfl ?_
  refine z_iconst dX1_hangsTogether_22 k_iconst_1 ?_
  refine z_ishl (v := (zshl (a1 ||| ((zshl (a1 &&& (85 : Int32)) (1 : Int32)) &&& ((zshr (a1 &&& (85 : Int32)) (1 : Int32)) ||| (zshl (a1 &&& (85 : Int32)) (7 : Int32))))) (1 : Int32))) dX1_hangsTogether_23 rfl ?_
  refine z_iload_n dX1_hangsTogether_24 rfl ?_
  refine z_bipush dX1_hangsTogether_25 k_bipush_7 ?_
  refine z_ishr (v := (zshr (a1 ||| ((zshl (a1 &&& (85 : Int32)) (1 : Int32)) &&& ((zshr (a1 &&& (85 : Int32)) (1 : Int32)) ||| (zshl (a1 &&& (85 : Int32)) (7 : Int32))))) (7 : Int32))) dX1_hangsTogether_27 rfl ?_
  refine z_ior (v := ((zshl (a1 ||| ((zshl (a1 &&& (85 : Int32)) (1 : Int32)) &&& ((zshr (a1 &&& (85 : Int32)) (1 : Int32)) ||| (zshl (a1 &&& (85 : Int32)) (7 : Int32))))) (1 : Int32)) ||| (zshr (a1 ||| ((zshl (a1 &&& (85 : Int32)) (1 : Int32)) &&& ((zshr (a1 &&& (85 : Int32)) (1 : Int32)) ||| (zshl (a1 &&& (85 : Int32)) (7 : Int32))))) (7 : Int32)))) dX1_hangsTogether_28 rfl ?_
  refine z_iconst dX1_hangsTogether_29 k_iconst_m1 ?_
  refine z_ixor (v := (((zshl (a1 ||| ((zshl (a1 &&& (85 : Int32)) (1 : Int32)) &&& ((zshr (a1 &&& (85 : Int32)) (1 : Int32)) ||| (zshl (a1 &&& (85 : Int32)) (7 : Int32))))) (1 : Int32)) ||| (zshr (a1 ||| ((zshl (a1 &&& (85 : Int32)) (1 : Int32)) &&& ((zshr (a1 &&& (85 : Int32)) (1 : Int32)) ||| (zshl (a1 &&& (85 : Int32)) (7 : Int32))))) (7 : Int32))) ^^^ (-1 : Int32))) dX1_hangsTogether_30 rfl ?_
  refine z_iand (v := ((a1 ||| ((zshl (a1 &&& (85 : Int32)) (1 : Int32)) &&& ((zshr (a1 &&& (85 : Int32)) (1 : Int32)) ||| (zshl (a1 &&& (85 : Int32)) (7 : Int32))))) &&& (((zshl (a1 ||| ((zshl (a1 &&& (85 : Int32)) (1 : Int32)) &&& ((zshr (a1 &&& (85 : Int32)) (1 : Int32)) ||| (zshl (a1 &&& (85 : Int32)) (7 : Int32))))) (1 : Int32)) ||| (zshr (a1 ||| ((zshl (a1 &&& (85 : Int32)) (1 : Int32)) &&& ((zshr (a1 &&& (85 : Int32)) (1 : Int32)) ||| (zshl (a1 &&& (85 : Int32)) (7 : Int32))))) (7 : Int32))) ^^^ (-1 : Int32)))) dX1_hangsTogether_31 rfl ?_
  refine z_istore_n (lv' := [some (.int a1), some (.int (a1 &&& (85 : Int32))), some (.int (a1 ||| ((zshl (a1 &&& (85 : Int32)) (1 : Int32)) &&& ((zshr (a1 &&& (85 : Int32)) (1 : Int32)) ||| (zshl (a1 &&& (85 : Int32)) (7 : Int32)))))), some (.int ((a1 ||| ((zshl (a1 &&& (85 : Int32)) (1 : Int32)) &&& ((zshr (a1 &&& (85 : Int32)) (1 : Int32)) ||| (zshl (a1 &&& (85 : Int32)) (7 : Int32))))) &&& (((zshl (a1 ||| ((zshl (a1 &&& (85 : Int32)) (1 : Int32)) &&& ((zshr (a1 &&& (85 : Int32)) (1 : Int32)) ||| (zshl (a1 &&& (85 : Int32)) (7 : Int32))))) (1 : Int32)) ||| (zshr (a1 ||| ((zshl (a1 &&& (85 : Int32)) (1 : Int32)) &&& ((zshr (a1 &&& (85 : Int32)) (1 : Int32)) ||| (zshl (a1 &&& (85 : Int32)) (7 : Int32))))) (7 : Int32))) ^^^ (-1 : Int32))))]) dX1_hangsTogether_32 (Nat.le_of_ble_eq_true rfl) rfl ?_
  refine z_iload_n dX1_hangsTogether_33 rfl ?_
  refine z_callS (As := [.int ((a1 ||| ((zshl (a1 &&& (85 : Int32)) (1 : Int32)) &&& ((zshr (a1 &&& (85 : Int32)) (1 : Int32)) ||| (zshl (a1 &&& (85 : Int32)) (7 : Int32))))) &&& (((zshl (a1 ||| ((zshl (a1 &&& (85 : Int32)) (1 : Int32)) &&& ((zshr (a1 &&& (85 : Int32)) (1 : Int32)) ||| (zshl (a1 &&& (85 : Int32)) (7 : Int32))))) (1 : Int32)) ||| (zshr (a1 ||| ((zshl (a1 &&& (85 : Int32)) (1 : Int32)) &&& ((zshr (a1 &&& (85 : Int32)) (1 : Int32)) ||| (zshl (a1 &&& (85 : Int32)) (7 : Int32))))) (7 : Int32))) ^^^ (-1 : Int32)))]) (rest := []) (ctJ6_bitCount_0f7a4 P σ ((a1 ||| ((zshl (a1 &&& (85 : Int32)) (1 : Int32)) &&& ((zshr (a1 &&& (85 : Int32)) (1 : Int32)) ||| (zshl (a1 &&& (85 : Int32)) (7 : Int32))))) &&& (((zshl (a1 ||| ((zshl (a1 &&& (85 : Int32)) (1 : Int32)) &&& ((zshr (a1 &&& (85 : Int32)) (1 : Int32)) ||| (zshl (a1 &&& (85 : Int32)) (7 : Int32))))) (1 : Int32)) ||| (zshr (a1 ||| ((zshl (a1 &&& (85 : Int32)) (1 : Int32)) &&& ((zshr (a1 &&& (85 : Int32)) (1 : Int32)) ||| (zshl (a1 &&& (85 : Int32)) (7 : Int32))))) (7 : Int32))) ^^^ (-1 : Int32)))) dX1_hangsTogether_34 lk_X1_21 ls_J6_bitCount_0f7a4 rfl (Nat.le_of_ble_eq_true rfl) (Nat.le_of_ble_eq_true rfl) (Nat.le_of_ble_eq_true rfl) (Nat.le_of_ble_eq_true rfl) (fun r_ h_ e_ => ?_)
  obtain ⟨e1_, e2_⟩ := e_
  subst e1_
  subst e2_
  show zz G mX1_hangsTogether 1 0 0 Q_ 37 [some (.int a1), some (.int (a1 &&& (85 : Int32))), some (.int (a1 ||| ((zshl (a1 &&& (85 : Int32)) (1 : Int32)) &&& ((zshr (a1 &&& (85 : Int32)) (1 : Int32)) ||| (zshl (a1 &&& (85 : Int32)) (7 : Int32)))))), some (.int ((a1 ||| ((zshl (a1 &&& (85 : Int32)) (1 : Int32)) &&& ((zshr (a1 &&& (85 : Int32)) (1 : Int32)) ||| (zshl (a1 &&& (85 : Int32)) (7 : Int32))))) &&& (((zshl (a1 ||| ((zshl (a1 &&& (85 : Int32)) (1 : Int32)) &&& ((zshr (a1 &&& (85 : Int32)) (1 : Int32)) ||| (zshl (a1 &&& (85 : Int32)) (7 : Int32))))) (1 : Int32)) ||| (zshr (a1 ||| ((zshl (a1 &&& (85 : Int32)) (1 : Int32)) &&& ((zshr (a1 &&& (85 : Int32)) (1 : Int32)) ||| (zshl (a1 &&& (85 : Int32)) (7 : Int32))))) (7 : Int32))) ^^^ (-1 : Int32))))] [.int (rJ6_bitCount_0f7a4 ((a1 ||| ((zshl (a1 &&& (85 : Int32)) (1 : Int32)) &&& ((zshr (a1 &&& (85 : Int32)) (1 : Int32)) ||| (zshl (a1 &&& (85 : Int32)) (7 : Int32))))) &&& (((zshl (a1 ||| ((zshl (a1 &&& (85 : Int32)) (1 : Int32)) &&& ((zshr (a1 &&& (85 : Int32)) (1 : Int32)) ||| (zshl (a1 &&& (85 : Int32)) (7 : Int32))))) (1 : Int32)) ||| (zshr (a1 ||| ((zshl (a1 &&& (85 : Int32)) (1 : Int32)) &&& ((zshr (a1 &&& (85 : Int32)) (1 : Int32)) ||| (zshl (a1 &&& (85 : Int32)) (7 : Int32))))) (7 : Int32))) ^^^ (-1 : Int32))))] (hh P σ) 0 0
  refine z_iconst dX1_hangsTogether_37 k_iconst_1 ?_
  have K_1 : zz G mX1_hangsTogether 1 0 0 Q_ 46 [none, none, none, none] [.int (if (1 : Int32) < (rJ6_bitCount_0f7a4 ((a1 ||| ((zshl (a1 &&& (85 : Int32)) (1 : Int32)) &&& ((zshr (a1 &&& (85 : Int32)) (1 : Int32)) ||| (zshl (a1 &&& (85 : Int32)) (7 : Int32))))) &&& (((zshl (a1 ||| ((zshl (a1 &&& (85 : Int32)) (1 : Int32)) &&& ((zshr (a1 &&& (85 : Int32)) (1 : Int32)) ||| (zshl (a1 &&& (85 : Int32)) (7 : Int32))))) (1 : Int32)) ||| (zshr (a1 ||| ((zshl (a1 &&& (85 : Int32)) (1 : Int32)) &&& ((zshr (a1 &&& (85 : Int32)) (1 : Int32)) ||| (zshl (a1 &&& (85 : Int32)) (7 : Int32))))) (7 : Int32))) ^^^ (-1 : Int32)))) then (0 : Int32) else (1 : Int32))] (hh P σ) 0 0 := by
    exact z_ireturn dX1_hangsTogether_46 rfl (by (repeat' split) <;> rfl) (Nat.le_of_ble_eq_true rfl) (Nat.le_of_ble_eq_true rfl) (by rw [← hQ_]; exact ⟨(by rw [rX1_hangsTogether]), rfl⟩)
  refine z_icmp_gt (tgt := 45) dX1_hangsTogether_38 (by decide) (fun c_1 => ?_) (fun c_1 => ?_)
  · refine z_iconst dX1_hangsTogether_45 k_iconst_0 ?_
    refine zz_sub (lv' := [none, none, none, none]) trivial ?_
    first | exact K_1 | simpa only [if_pos c_1] using K_1
  · refine z_iconst dX1_hangsTogether_41 k_iconst_1 ?_
    refine z_goto (tgt := 46) dX1_hangsTogether_42 (by decide) ?_
    refine zz_sub (lv' := [none, none, none, none]) trivial ?_
    first | exact K_1 | simpa only [if_neg c_1] using K_1

theorem dX1_goes_0 : decode cX1_goes 0 = .ok (.iload_n 0, 1) := by decide +kernel
theorem dX1_goes_1 : decode cX1_goes 1 = .ok (.bipush 85, 2) := by decide +kernel
theorem dX1_goes_3 : decode cX1_goes 3 = .ok (.iand, 1) := by decide +kernel
theorem dX1_goes_4 : decode cX1_goes 4 = .ok (.istore_n 1, 1) := by decide +kernel
theorem dX1_goes_5 : decode cX1_goes 5 = .ok (.iload_n 1, 1) := by decide +kernel
theorem dX1_goes_6 : decode cX1_goes 6 = .ok (.bipush 85, 2) := by decide +kernel
theorem dX1_goes_8 : decode cX1_goes 8 = .ok (.if_icmp .eq 22, 3) := by decide +kernel
theorem dX1_goes_11 : decode cX1_goes 11 = .ok (.iload_n 0, 1) := by decide +kernel
theorem dX1_goes_12 : decode cX1_goes 12 = .ok (.invokestatic 21, 3) := by decide +kernel
theorem dX1_goes_15 : decode cX1_goes 15 = .ok (.iconst 2, 1) := by decide +kernel
theorem dX1_goes_16 : decode cX1_goes 16 = .ok (.if_icmp .lt 14, 3) := by decide +kernel
theorem dX1_goes_19 : decode cX1_goes 19 = .ok (.iload_n 0, 1) := by decide +kernel
theorem dX1_goes_20 : decode cX1_goes 20 = .ok (.invokestatic 43, 3) := by decide +kernel
theorem dX1_goes_23 : decode cX1_goes 23 = .ok (.ifCond .eq 7, 3) := by decide +kernel
theorem dX1_goes_26 : decode cX1_goes 26 = .ok (.iconst 1, 1) := by decide +kernel
theorem dX1_goes_27 : decode cX1_goes 27 = .ok (.goto 4, 3) := by decide +kernel
theorem dX1_goes_30 : decode cX1_goes 30 = .ok (.iconst 0, 1) := by decide +kernel
theorem dX1_goes_31 : decode cX1_goes 31 = .ok (.ireturn, 1) := by decide +kernel
noncomputable def rX1_goes (a1 : Int32) : Int32 := (if (a1 &&& (85 : Int32)) = (85 : Int32) then (0 : Int32) else (if (rJ6_bitCount_0f7a4 a1) < (2 : Int32) then (0 : Int32) else (if (rX1_hangsTogether a1) = (0 : Int32) then (0 : Int32) else (1 : Int32))))
set_option maxHeartbeats 1000000 in
theorem ctX1_goes (P : zp) (σ : zc_N) (a1 : Int32) : sp mX1_goes 2 0 0 [.int a1] (hh P σ) (fun r_ h_ => r_ = some (.int (rX1_goes a1)) ∧ h_ = hh P σ) := by
  refine sp_of (lv := [some (.int a1), none]) (by decide) (zcats_ok _ rfl) (Nat.le_of_ble_eq_true rfl) (zlv_ok _ 1 rfl) (fun G => ?_)
  generalize hQ_ : (fun (r_ : Option Value) (h_ : zc_H) => r_ = some (.int (rX1_goes a1)) ∧ h_ = hh P σ) = Q_
  refine z_iload_n dX1_goes_0 rfl ?_
  refine z_bipush dX1_goes_1 k_bipush_85 ?_
  refine z_iand (v := (a1 &&& (85 : Int32))) dX1_goes_3 rfl ?_
  refine z_istore_n (lv' := [some (.int a1), some (.int (a1 &&& (85 : Int32)))]) dX1_goes_4 (Nat.le_of_ble_eq_true rfl) rfl ?_
  refine z_iload_n dX1_goes_5 rfl ?_
  refine z_bipush dX1_goes_6 k_bipush_85 ?_
  have K_1 : zz G mX1_goes 2 0 0 Q_ 31 [none, none] [.int (if (a1 &&& (85 : Int32)) = (85 : Int32) then (0 : Int32) else (if (rJ6_bitCount_0f7a4 a1) < (2 : Int32) then (0 : Int32) else (if (rX1_hangsTogether a1) = (0 : Int32) then (0 : Int32) else (1 : Int32))))] (hh P σ) 0 0 := by
    exact z_ireturn dX1_goes_31 rfl (by (repeat' split) <;> rfl) (Nat.le_of_ble_eq_true rfl) (Nat.le_of_ble_eq_true rfl) (by rw [← hQ_]; exact ⟨(by rw [rX1_goes]), rfl⟩)
  refine z_icmp_eq (tgt := 30) dX1_goes_8 (by decide) (fun c_1 => ?_) (fun c_1 => ?_)
  · refine z_iconst dX1_goes_30 k_iconst_0 ?_
    refine zz_sub (lv' := [none, none]) trivial ?_
    first | exact K_1 | simpa only [if_pos c_1] using K_1
  · refine z_iload_n dX1_goes_11 rfl ?_
    refine z_callS (As := [.int a1]) (rest := []) (ctJ6_bitCount_0f7a4 P σ a1) dX1_goes_12 lk_X1_21 ls_J6_bitCount_0f7a4 rfl (Nat.le_of_ble_eq_true rfl) (Nat.le_of_ble_eq_true rfl) (Nat.le_of_ble_eq_true rfl) (Nat.le_of_ble_eq_true rfl) (fun r_ h_ e_ => ?_)
    obtain ⟨e1_, e2_⟩ := e_
    subst e1_
    subst e2_
    show zz G mX1_goes 2 0 0 Q_ 15 [some (.int a1), some (.int (a1 &&& (85 : Int32)))] [.int (rJ6_bitCount_0f7a4 a1)] (hh P σ) 0 0
    refine z_iconst dX1_goes_15 k_iconst_2 ?_
    refine z_icmp_lt (tgt := 30) dX1_goes_16 (by decide) (fun c_2 => ?_) (fun c_2 => ?_)
    · refine z_iconst dX1_goes_30 k_iconst_0 ?_
      refine zz_sub (lv' := [none, none]) trivial ?_
      first | exact K_1 | simpa only [if_neg c_1, if_pos c_2] using K_1
    · refine z_iload_n dX1_goes_19 rfl ?_
      refine z_callS (As := [.int a1]) (rest := []) (ctX1_hangsTogether P σ a1) dX1_goes_20 lk_X1_43 ls_X1_hangsTogether rfl (Nat.le_of_ble_eq_true rfl) (Nat.le_of_ble_eq_true rfl) (Nat.le_of_ble_eq_true rfl) (Nat.le_of_ble_eq_true rfl) (fun r_ h_ e_ => ?_)
      obtain ⟨e1_, e2_⟩ := e_
      subst e1_
      subst e2_
      show zz G mX1_goes 2 0 0 Q_ 23 [some (.int a1), some (.int (a1 &&& (85 : Int32)))] [.int (rX1_hangsTogether a1)] (hh P σ) 0 0
      refine z_if_eq (tgt := 30) dX1_goes_23 (by decide) (fun c_3 => ?_) (fun c_3 => ?_)
      · refine z_iconst dX1_goes_30 k_iconst_0 ?_
        refine zz_sub (lv' := [none, none]) trivial ?_
        first | exact K_1 | simpa only [if_neg c_1, if_neg c_2, if_pos c_3] using K_1
      · refine z_iconst dX1_goes_26 k_iconst_1 ?_
        refine z_goto (tgt := 31) dX1_goes_27 (by decide) ?_
        refine zz_sub (lv' := [none, none]) trivial ?_
        first | exact K_1 | simpa only [if_neg c_1, if_neg c_2, if_neg c_3] using K_1

theorem dX1_kindOf_0 : decode cX1_kindOf 0 = .ok (.iload_n 0, 1) := by decide +kernel
theorem dX1_kindOf_1 : decode cX1_kindOf 1 = .ok (.ifCond .ne 5, 3) := by decide +kernel
theorem dX1_kindOf_4 : decode cX1_kindOf 4 = .ok (.iconst 0, 1) := by decide +kernel
theorem dX1_kindOf_5 : decode cX1_kindOf 5 = .ok (.ireturn, 1) := by decide +kernel
theorem dX1_kindOf_6 : decode cX1_kindOf 6 = .ok (.iload_n 0, 1) := by decide +kernel
theorem dX1_kindOf_7 : decode cX1_kindOf 7 = .ok (.iconst 1, 1) := by decide +kernel
theorem dX1_kindOf_8 : decode cX1_kindOf 8 = .ok (.if_icmp .ne 5, 3) := by decide +kernel
theorem dX1_kindOf_11 : decode cX1_kindOf 11 = .ok (.iconst 1, 1) := by decide +kernel
theorem dX1_kindOf_12 : decode cX1_kindOf 12 = .ok (.ireturn, 1) := by decide +kernel
theorem dX1_kindOf_13 : decode cX1_kindOf 13 = .ok (.iload_n 0, 1) := by decide +kernel
theorem dX1_kindOf_14 : decode cX1_kindOf 14 = .ok (.iconst 3, 1) := by decide +kernel
theorem dX1_kindOf_15 : decode cX1_kindOf 15 = .ok (.if_icmp .lt 11, 3) := by decide +kernel
theorem dX1_kindOf_18 : decode cX1_kindOf 18 = .ok (.iload_n 1, 1) := by decide +kernel
theorem dX1_kindOf_19 : decode cX1_kindOf 19 = .ok (.ifCond .ne 7, 3) := by decide +kernel
theorem dX1_kindOf_22 : decode cX1_kindOf 22 = .ok (.iconst 2, 1) := by decide +kernel
theorem dX1_kindOf_23 : decode cX1_kindOf 23 = .ok (.goto 4, 3) := by decide +kernel
theorem dX1_kindOf_26 : decode cX1_kindOf 26 = .ok (.iconst (-1), 1) := by decide +kernel
theorem dX1_kindOf_27 : decode cX1_kindOf 27 = .ok (.ireturn, 1) := by decide +kernel
noncomputable def rX1_kindOf (a1 : Int32) (a2 : Int32) : Int32 := (if a1 = (0 : Int32) then (0 : Int32) else (if a1 = (1 : Int32) then (1 : Int32) else (if a1 < (3 : Int32) then (-1 : Int32) else (if a2 = (0 : Int32) then (2 : Int32) else (-1 : Int32)))))
set_option maxHeartbeats 1000000 in
theorem ctX1_kindOf (P : zp) (σ : zc_N) (a1 : Int32) (a2 : Int32) : sp mX1_kindOf 0 0 0 [.int a1, .int a2] (hh P σ) (fun r_ h_ => r_ = some (.int (rX1_kindOf a1 a2)) ∧ h_ = hh P σ) := by
  refine sp_of (lv := [some (.int a1), some (.int a2)]) (by decide) (zcats_ok _ rfl) (Nat.le_of_ble_eq_true rfl) (zlv_ok _ 0 rfl) (fun G => ?_)
  generalize hQ_ : (fun (r_ : Option Value) (h_ : zc_H) => r_ = some (.int (rX1_kindOf a1 a2)) ∧ h_ = hh P σ) = Q_
  refine z_iload_n dX1_kindOf_0 rfl ?_
  refine z_if_ne (tgt := 6) dX1_kindOf_1 (by decide) (fun c_1 => ?_) (fun c_1 => ?_)
  · refine z_iload_n dX1_kindOf_6 rfl ?_
    refine z_iconst dX1_kindOf_7 k_iconst_1 ?_
    refine z_icmp_ne (tgt := 13) dX1_kindOf_8 (by decide) (fun c_2 => ?_) (fun c_2 => ?_)
    · refine z_iload_n dX1_kindOf_13 rfl ?_
      refine z_iconst dX1_kindOf_14 k_iconst_3 ?_
      have K_1 : zz G mX1_kindOf 0 0 0 Q_ 27 [none, none] [.int (if a1 < (3 : Int32) then (-1 : Int32) else (if a2 = (0 : Int32) then (2 : Int32) else (-1 : Int32)))] (hh P σ) 0 0 := by
        exact z_ireturn dX1_kindOf_27 rfl rfl (Nat.le_of_ble_eq_true rfl) (Nat.le_of_ble_eq_true rfl) (by rw [← hQ_]; exact ⟨(by rw [rX1_kindOf]; simp only [if_neg c_1, if_neg c_2]), rfl⟩)
      refine z_icmp_lt (tgt := 26) dX1_kindOf_15 (by decide) (fun c_3 => ?_) (fun c_3 => ?_)
      · refine z_iconst dX1_kindOf_26 k_iconst_m1 ?_
        refine zz_sub (lv' := [none, none]) trivial ?_
        first | exact K_1 | simpa only [if_pos c_3] using K_1
      · refine z_iload_n dX1_kindOf_18 rfl ?_
        refine z_if_ne (tgt := 26) dX1_kindOf_19 (by decide) (fun c_4 => ?_) (fun c_4 => ?_)
        · refine z_iconst dX1_kindOf_26 k_iconst_m1 ?_
          refine zz_sub (lv' := [none, none]) trivial ?_
          first | exact K_1 | simpa only [if_neg c_3, if_neg c_4] using K_1
        · refine z_iconst dX1_kindOf_22 k_iconst_2 ?_
          refine z_goto (tgt := 27) dX1_kindOf_23 (by decide) ?_
          refine zz_sub (lv' := [none, none]) trivial ?_
          first | exact K_1 | simpa only [if_neg c_3, if_pos c_4] using K_1
    · refine z_iconst dX1_kindOf_11 k_iconst_1 ?_
      exact z_ireturn dX1_kindOf_12 rfl rfl (Nat.le_of_ble_eq_true rfl) (Nat.le_of_ble_eq_true rfl) (by rw [← hQ_]; exact ⟨(by rw [rX1_kindOf]; simp only [if_neg c_1, if_pos c_2]), rfl⟩)
  · refine z_iconst dX1_kindOf_4 k_iconst_0 ?_
    exact z_ireturn dX1_kindOf_5 rfl rfl (Nat.le_of_ble_eq_true rfl) (Nat.le_of_ble_eq_true rfl) (by rw [← hQ_]; exact ⟨(by rw [rX1_kindOf]; simp only [if_pos c_1]), rfl⟩)

theorem dX1_takes_0 : decode cX1_takes 0 = .ok (.iload_n 1, 1) := by decide +kernel
theorem dX1_takes_1 : decode cX1_takes 1 = .ok (.iconst 0, 1) := by decide +kernel
theorem dX1_takes_2 : decode cX1_takes 2 = .ok (.bipush 17, 2) := by decide +kernel
theorem dX1_takes_4 : decode cX1_takes 4 = .ok (.invokestatic 72, 3) := by decide +kernel
theorem dX1_takes_7 : decode cX1_takes 7 = .ok (.ifCond .eq 13, 3) := by decide +kernel
theorem dX1_takes_10 : decode cX1_takes 10 = .ok (.iload_n 2, 1) := by decide +kernel
theorem dX1_takes_11 : decode cX1_takes 11 = .ok (.iconst 0, 1) := by decide +kernel
theorem dX1_takes_12 : decode cX1_takes 12 = .ok (.bipush 17, 2) := by decide +kernel
theorem dX1_takes_14 : decode cX1_takes 14 = .ok (.invokestatic 72, 3) := by decide +kernel
theorem dX1_takes_17 : decode cX1_takes 17 = .ok (.ifCond .ne 5, 3) := by decide +kernel
theorem dX1_takes_20 : decode cX1_takes 20 = .ok (.iconst 0, 1) := by decide +kernel
theorem dX1_takes_21 : decode cX1_takes 21 = .ok (.ireturn, 1) := by decide +kernel
theorem dX1_takes_22 : decode cX1_takes 22 = .ok (.iconst 1, 1) := by decide +kernel
theorem dX1_takes_23 : decode cX1_takes 23 = .ok (.bipush 17, 2) := by decide +kernel
theorem dX1_takes_25 : decode cX1_takes 25 = .ok (.iload_n 1, 1) := by decide +kernel
theorem dX1_takes_26 : decode cX1_takes 26 = .ok (.isub, 1) := by decide +kernel
theorem dX1_takes_27 : decode cX1_takes 27 = .ok (.ishl, 1) := by decide +kernel
theorem dX1_takes_28 : decode cX1_takes 28 = .ok (.istore_n 3, 1) := by decide +kernel
theorem dX1_takes_29 : decode cX1_takes 29 = .ok (.aload_n 0, 1) := by decide +kernel
theorem dX1_takes_30 : decode cX1_takes 30 = .ok (.getfield 15, 3) := by decide +kernel
theorem dX1_takes_33 : decode cX1_takes 33 = .ok (.iload_n 2, 1) := by decide +kernel
theorem dX1_takes_34 : decode cX1_takes 34 = .ok (.iaload, 1) := by decide +kernel
theorem dX1_takes_35 : decode cX1_takes 35 = .ok (.iload_n 3, 1) := by decide +kernel
theorem dX1_takes_36 : decode cX1_takes 36 = .ok (.iand, 1) := by decide +kernel
theorem dX1_takes_37 : decode cX1_takes 37 = .ok (.ifCond .eq 7, 3) := by decide +kernel
theorem dX1_takes_40 : decode cX1_takes 40 = .ok (.iconst 1, 1) := by decide +kernel
theorem dX1_takes_41 : decode cX1_takes 41 = .ok (.goto 4, 3) := by decide +kernel
theorem dX1_takes_44 : decode cX1_takes 44 = .ok (.iconst 0, 1) := by decide +kernel
theorem dX1_takes_45 : decode cX1_takes 45 = .ok (.istore 4, 2) := by decide +kernel
theorem dX1_takes_47 : decode cX1_takes 47 = .ok (.aload_n 0, 1) := by decide +kernel
theorem dX1_takes_48 : decode cX1_takes 48 = .ok (.getfield 15, 3) := by decide +kernel
theorem dX1_takes_51 : decode cX1_takes 51 = .ok (.iload_n 2, 1) := by decide +kernel
theorem dX1_takes_52 : decode cX1_takes 52 = .ok (.dup2, 1) := by decide +kernel
theorem dX1_takes_53 : decode cX1_takes 53 = .ok (.iaload, 1) := by decide +kernel
theorem dX1_takes_54 : decode cX1_takes 54 = .ok (.iload_n 3, 1) := by decide +kernel
theorem dX1_takes_55 : decode cX1_takes 55 = .ok (.iconst (-1), 1) := by decide +kernel
theorem dX1_takes_56 : decode cX1_takes 56 = .ok (.ixor, 1) := by decide +kernel
theorem dX1_takes_57 : decode cX1_takes 57 = .ok (.iand, 1) := by decide +kernel
theorem dX1_takes_58 : decode cX1_takes 58 = .ok (.iastore, 1) := by decide +kernel
theorem dX1_takes_59 : decode cX1_takes 59 = .ok (.iload 4, 2) := by decide +kernel
theorem dX1_takes_61 : decode cX1_takes 61 = .ok (.ireturn, 1) := by decide +kernel
def pX1_takes (a1 : Int32) (a2 : Int32) : Prop := (((rX8_isWithin a1 (0 : Int32) (17 : Int32)) = (0 : Int32) → True) ∧ (¬ (rX8_isWithin a1 (0 : Int32) (17 : Int32)) = (0 : Int32) → (((rX8_isWithin a2 (0 : Int32) (17 : Int32)) = (0 : Int32) → True) ∧ (¬ (rX8_isWithin a2 (0 : Int32) (17 : Int32)) = (0 : Int32) → (vp_in a2 18 ∧ (vp_in a2 18 ∧ vp_in a2 18))))))
noncomputable def rX1_takes (σ : zc_N) (a1 : Int32) (a2 : Int32) : Int32 := (if (rX8_isWithin a1 (0 : Int32) (17 : Int32)) = (0 : Int32) then (0 : Int32) else (if (rX8_isWithin a2 (0 : Int32) (17 : Int32)) = (0 : Int32) then (0 : Int32) else (if (((σ 6) a2.toNatClampNeg) &&& (zshl (1 : Int32) ((17 : Int32) - a1))) = (0 : Int32) then (0 : Int32) else (1 : Int32))))
noncomputable def sX1_takes (σ : zc_N) (a1 : Int32) (a2 : Int32) : zc_N := (if (rX8_isWithin a1 (0 : Int32) (17 : Int32)) = (0 : Int32) then σ else (if (rX8_isWithin a2 (0 : Int32) (17 : Int32)) = (0 : Int32) then σ else (zu σ 6 (zu (σ 6) a2.toNatClampNeg (((σ 6) a2.toNatClampNeg) &&& ((zshl (1 : Int32) ((17 : Int32) - a1)) ^^^ (-1 : Int32)))))))
set_option maxHeartbeats 1000000 in
theorem ctX1_takes (P : zp) (σ : zc_N) (a1 : Int32) (a2 : Int32) (W_ : (pX1_takes a1 a2)) : sp mX1_takes 1 0 0 [.ref 4, .int a1, .int a2] (hh P σ) (fun r_ h_ => r_ = some (.int (rX1_takes σ a1 a2)) ∧ h_ = hh P (sX1_takes σ a1 a2)) := by
  refine sp_of (lv := [some (.ref 4), some (.int a1), some (.int a2), none, none]) (by decide) (zcats_ok _ rfl) (Nat.le_of_ble_eq_true rfl) (zlv_ok _ 2 rfl) (fun G => ?_)
  generalize hQ_ : (fun (r_ : Option Value) (h_ : zc_H) => r_ = some (.int (rX1_takes σ a1 a2)) ∧ h_ = hh P (sX1_takes σ a1 a2)) = Q_
  unfold pX1_takes at W_
  refine z_iload_n dX1_takes_0 rfl ?_
  refine z_iconst dX1_takes_1 k_iconst_0 ?_
  refine z_bipush dX1_takes_2 k_bipush_17 ?_
  refine z_callSN (As := [.int a1, .int (0 : Int32), .int (17 : Int32)]) (rest := []) (ctX8_isWithin P σ a1 (0 : Int32) (17 : Int32)) dX1_takes_4 ln_X1_72 ls_X8_isWithin rfl (Nat.le_of_ble_eq_true rfl) (Nat.le_of_ble_eq_true rfl) (Nat.le_of_ble_eq_true rfl) (Nat.le_of_ble_eq_true rfl) (fun r_ h_ e_ => ?_)
  obtain ⟨e1_, e2_⟩ := e_
  subst e1_
  subst e2_
  show zz G mX1_takes 1 0 0 Q_ 7 [some (.ref 4), some (.int a1), some (.int a2), none, none] [.int (rX8_isWithin a1 (0 : Int32) (17 : Int32))] (hh P σ) 0 0
  refine z_if_eq (tgt := 20) dX1_takes_7 (by decide) (fun c_1 => ?_) (fun c_1 => ?_)
  · refine z_iconst dX1_takes_20 k_iconst_0 ?_
    exact z_ireturn dX1_takes_21 rfl rfl (Nat.le_of_ble_eq_true rfl) (Nat.le_of_ble_eq_true rfl) (by rw [← hQ_]; exact ⟨(by rw [rX1_takes]; simp only [if_pos c_1]), (by rw [sX1_takes]; simp only [if_pos c_1])⟩)
  · refine z_iload_n dX1_takes_10 rfl ?_
    refine z_iconst dX1_takes_11 k_iconst_0 ?_
    refine z_bipush dX1_takes_12 k_bipush_17 ?_
    refine z_callSN (As := [.int a2, .int (0 : Int32), .int (17 : Int32)]) (rest := []) (ctX8_isWithin P σ a2 (0 : Int32) (17 : Int32)) dX1_takes_14 ln_X1_72 ls_X8_isWithin rfl (Nat.le_of_ble_eq_true rfl) (Nat.le_of_ble_eq_true rfl) (Nat.le_of_ble_eq_true rfl) (Nat.le_of_ble_eq_true rfl) (fun r_ h_ e_ => ?_)
    obtain ⟨e1_, e2_⟩ := e_
    subst e1_
    subst e2_
    show zz G mX1_takes 1 0 0 Q_ 17 [some (.ref 4), some (.int a1), some (.int a2), none, none] [.int (rX8_isWithin a2 (0 : Int32) (17 : Int32))] (hh P σ) 0 0
    refine z_if_ne (tgt := 22) dX1_takes_17 (by decide) (fun c_2 => ?_) (fun c_2 => ?_)
    · refine z_iconst dX1_takes_22 k_iconst_1 ?_
      refine z_bipush dX1_takes_23 k_bipush_17 ?_
      refine z_iload_n dX1_takes_25 rfl ?_
      refine z_isub (v := ((17 : Int32) - a1)) dX1_takes_26 rfl ?_
      refine z_ishl (v := (zshl (1 : Int32) ((17 : Int32) - a1))) dX1_takes_27 rfl ?_
      refine z_istore_n (lv' := [some (.ref 4), some (.int a1), some (.int a2), some (.int (zshl (1 : Int32) ((17 : Int32) - a1))), none]) dX1_takes_28 (Nat.le_of_ble_eq_true rfl) rfl ?_
      refine z_aloadr_n dX1_takes_29 rfl ?_
      refine z_get (ci := 1) (r := (RX1, TX1, 3)) (j := 1) (v := .ref 6) dX1_takes_30 (Nat.le_of_ble_eq_true rfl) (zN rfl) rfl rfl (Nat.le_of_ble_eq_true rfl) fl_X1_15 rfl ?_
      refine z_iload_n dX1_takes_33 rfl ?_
      refine z_iald (v := ((σ 6) a2.toNatClampNeg)) dX1_takes_34 (zN rfl) rfl (((W_.2 c_1).2 c_2).1) rfl ?_
      refine z_iload_n dX1_takes_35 rfl ?_
      refine z_iand (v := (((σ 6) a2.toNatClampNeg) &&& (zshl (1 : Int32) ((17 : Int32) - a1)))) dX1_takes_36 rfl ?_
      have K_1 : zz G mX1_takes 1 0 0 Q_ 45 [some (.ref 4), none, some (.int a2), some (.int (zshl (1 : Int32) ((17 : Int32) - a1))), none] [.int (if (((σ 6) a2.toNatClampNeg) &&& (zshl (1 : Int32) ((17 : Int32) - a1))) = (0 : Int32) then (0 : Int32) else (1 : Int32))] (hh P σ) 0 0 := by
        refine z_istore (lv' := [some (.ref 4), none, some (.int a2), some (.int (zshl (1 : Int32) ((17 : Int32) - a1))), some (.int (if (((σ 6) a2.toNatClampNeg) &&& (zshl (1 : Int32) ((17 : Int32) - a1))) = (0 : Int32) then (0 : Int32) else (1 : Int32)))]) dX1_takes_45 (Nat.le_of_ble_eq_true rfl) rfl ?_
        refine z_aloadr_n dX1_takes_47 rfl ?_
        refine z_get (ci := 1) (r := (RX1, TX1, 3)) (j := 1) (v := .ref 6) dX1_takes_48 (Nat.le_of_ble_eq_true rfl) (zN rfl) rfl rfl (Nat.le_of_ble_eq_true rfl) fl_X1_15 rfl ?_
        refine z_iload_n dX1_takes_51 rfl ?_
        refine z_dup2 dX1_takes_52 rfl rfl ?_
        refine z_iald (v := ((σ 6) a2.toNatClampNeg)) dX1_takes_53 (zN rfl) rfl (((W_.2 c_1).2 c_2).2.1) rfl ?_
        refine z_iload_n dX1_takes_54 rfl ?_
        refine z_iconst dX1_takes_55 k_iconst_m1 ?_
        refine z_ixor (v := ((zshl (1 : Int32) ((17 : Int32) - a1)) ^^^ (-1 : Int32))) dX1_takes_56 rfl ?_
        refine z_iand (v := (((σ 6) a2.toNatClampNeg) &&& ((zshl (1 : Int32) ((17 : Int32) - a1)) ^^^ (-1 : Int32)))) dX1_takes_57 rfl ?_
        refine z_iast (σ' := (zu σ 6 (zu (σ 6) a2.toNatClampNeg (((σ 6) a2.toNatClampNeg) &&& ((zshl (1 : Int32) ((17 : Int32) - a1)) ^^^ (-1 : Int32)))))) dX1_takes_58 (Nat.le_of_ble_eq_true rfl) (zN rfl) rfl (((W_.2 c_1).2 c_2).2.2) rfl ?_
        refine z_iload dX1_takes_59 rfl ?_
        exact z_ireturn dX1_takes_61 rfl (by (repeat' split) <;> rfl) (Nat.le_of_ble_eq_true rfl) (Nat.le_of_ble_eq_true rfl) (by rw [← hQ_]; exact ⟨(by rw [rX1_takes]; simp only [if_neg c_1, if_neg c_2]), (by rw [sX1_takes]; simp only [if_neg c_1, if_neg c_2])⟩)
      refine z_if_eq (tgt := 44) dX1_takes_37 (by decide) (fun c_3 => ?_) (fun c_3 => ?_)
      · refine z_iconst dX1_takes_44 k_iconst_0 ?_
        refine zz_sub (lv' := [some (.ref 4), none, some (.int a2), some (.int (zshl (1 : Int32) ((17 : Int32) - a1))), none]) ⟨rfl, ⟨rfl, ⟨rfl, trivial⟩⟩⟩ ?_
        first | exact K_1 | simpa only [if_pos c_3] using K_1
      · refine z_iconst dX1_takes_40 k_iconst_1 ?_
        refine z_goto (tgt := 45) dX1_takes_41 (by decide) ?_
        refine zz_sub (lv' := [some (.ref 4), none, some (.int a2), some (.int (zshl (1 : Int32) ((17 : Int32) - a1))), none]) ⟨rfl, ⟨rfl, ⟨rfl, trivial⟩⟩⟩ ?_
        first | exact K_1 | simpa only [if_neg c_3] using K_1
    · refine z_iconst dX1_takes_20 k_iconst_0 ?_
      exact z_ireturn dX1_takes_21 rfl rfl (Nat.le_of_ble_eq_true rfl) (Nat.le_of_ble_eq_true rfl) (by rw [← hQ_]; exact ⟨(by rw [rX1_takes]; simp only [if_neg c_1, if_pos c_2]), (by rw [sX1_takes]; simp only [if_neg c_1, if_pos c_2])⟩)

theorem dX6_turnedColumn_0 : decode cX6_turnedColumn 0 = .ok (.iload_n 2, 1) := by decide +kernel
theorem dX6_turnedColumn_1 : decode cX6_turnedColumn 1 = .ok (.tableswitch 39 0 2 #[27, 29, 34], 27) := by decide +kernel
theorem dX6_turnedColumn_28 : decode cX6_turnedColumn 28 = .ok (.iload_n 0, 1) := by decide +kernel
theorem dX6_turnedColumn_29 : decode cX6_turnedColumn 29 = .ok (.ireturn, 1) := by decide +kernel
theorem dX6_turnedColumn_30 : decode cX6_turnedColumn 30 = .ok (.bipush 15, 2) := by decide +kernel
theorem dX6_turnedColumn_32 : decode cX6_turnedColumn 32 = .ok (.iload_n 1, 1) := by decide +kernel
theorem dX6_turnedColumn_33 : decode cX6_turnedColumn 33 = .ok (.isub, 1) := by decide +kernel
theorem dX6_turnedColumn_34 : decode cX6_turnedColumn 34 = .ok (.ireturn, 1) := by decide +kernel
theorem dX6_turnedColumn_35 : decode cX6_turnedColumn 35 = .ok (.bipush 15, 2) := by decide +kernel
theorem dX6_turnedColumn_37 : decode cX6_turnedColumn 37 = .ok (.iload_n 0, 1) := by decide +kernel
theorem dX6_turnedColumn_38 : decode cX6_turnedColumn 38 = .ok (.isub, 1) := by decide +kernel
theorem dX6_turnedColumn_39 : decode cX6_turnedColumn 39 = .ok (.ireturn, 1) := by decide +kernel
theorem dX6_turnedColumn_40 : decode cX6_turnedColumn 40 = .ok (.iload_n 1, 1) := by decide +kernel
theorem dX6_turnedColumn_41 : decode cX6_turnedColumn 41 = .ok (.ireturn, 1) := by decide +kernel
noncomputable def rX6_turnedColumn (a1 : Int32) (a2 : Int32) (a3 : Int32) : Int32 := (if a3 = (0 : Int32) then a1 else (if a3 = (1 : Int32) then ((15 : Int32) - a2) else (if a3 = (2 : Int32) then ((15 : Int32) - a1) else a2)))
set_option maxHeartbeats 1000000 in
theorem ctX6_turnedColumn (P : zp) (σ : zc_N) (a1 : Int32) (a2 : Int32) (a3 : Int32) : sp mX6_turnedColumn 0 0 0 [.int a1, .int a2, .int a3] (hh P σ) (fun r_ h_ => r_ = some (.int (rX6_turnedColumn a1 a2 a3)) ∧ h_ = hh P σ) := by
  refine sp_of (lv := [some (.int a1), some (.int a2), some (.int a3)]) (by decide) (zcats_ok _ rfl) (Nat.le_of_ble_eq_true rfl) (zlv_ok _ 0 rfl) (fun G => ?_)
  generalize hQ_ : (fun (r_ : Option Value) (h_ : zc_H) => r_ = some (.int (rX6_turnedColumn a1 a2 a3)) ∧ h_ = hh P σ) = Q_
  refine z_iload_n dX6_turnedColumn_0 rfl ?_
  by_cases c_1 : a3 = (0 : Int32)
  · refine z_tin (off := 27) (tgt := 28) dX6_turnedColumn_1 (by rw [c_1]; decide) (by rw [c_1]; decide) (by rw [c_1]; decide) (by decide) ?_
    refine z_iload_n dX6_turnedColumn_28 rfl ?_
    exact z_ireturn dX6_turnedColumn_29 rfl rfl (Nat.le_of_ble_eq_true rfl) (Nat.le_of_ble_eq_true rfl) (by rw [← hQ_]; exact ⟨(by rw [rX6_turnedColumn]; simp only [if_pos c_1]), rfl⟩)
  ·
    by_cases c_2 : a3 = (1 : Int32)
    · refine z_tin (off := 29) (tgt := 30) dX6_turnedColumn_1 (by rw [c_2]; decide) (by rw [c_2]; decide) (by rw [c_2]; decide) (by decide) ?_
      refine z_bipush dX6_turnedColumn_30 k_bipush_15 ?_
      refine z_iload_n dX6_turnedColumn_32 rfl ?_
      refine z_isub (v := ((15 : Int32) - a2)) dX6_turnedColumn_33 rfl ?_
      exact z_ireturn dX6_turnedColumn_34 rfl rfl (Nat.le_of_ble_eq_true rfl) (Nat.le_of_ble_eq_true rfl) (by rw [← hQ_]; exact ⟨(by rw [rX6_turnedColumn]; simp only [if_neg c_1, if_pos c_2]), rfl⟩)
    ·
      by_cases c_3 : a3 = (2 : Int32)
      · refine z_tin (off := 34) (tgt := 35) dX6_turnedColumn_1 (by rw [c_3]; decide) (by rw [c_3]; decide) (by rw [c_3]; decide) (by decide) ?_
        refine z_bipush dX6_turnedColumn_35 k_bipush_15 ?_
        refine z_iload_n dX6_turnedColumn_37 rfl ?_
        refine z_isub (v := ((15 : Int32) - a1)) dX6_turnedColumn_38 rfl ?_
        exact z_ireturn dX6_turnedColumn_39 rfl rfl (Nat.le_of_ble_eq_true rfl) (Nat.le_of_ble_eq_true rfl) (by rw [← hQ_]; exact ⟨(by rw [rX6_turnedColumn]; simp only [if_neg c_1, if_neg c_2, if_pos c_3]), rfl⟩)
      ·
        refine z_tout (tgt := 40) dX6_turnedColumn_1 (z_tab3 c_1 c_2 c_3) (by decide) ?_
        refine z_iload_n dX6_turnedColumn_40 rfl ?_
        exact z_ireturn dX6_turnedColumn_41 rfl rfl (Nat.le_of_ble_eq_true rfl) (Nat.le_of_ble_eq_true rfl) (by rw [← hQ_]; exact ⟨(by rw [rX6_turnedColumn]; simp only [if_neg c_1, if_neg c_2, if_neg c_3]), rfl⟩)

theorem dX6_turnedRow_0 : decode cX6_turnedRow 0 = .ok (.iload_n 2, 1) := by decide +kernel
theorem dX6_turnedRow_1 : decode cX6_turnedRow 1 = .ok (.tableswitch 36 0 2 #[27, 29, 31], 27) := by decide +kernel
theorem dX6_turnedRow_28 : decode cX6_turnedRow 28 = .ok (.iload_n 1, 1) := by decide +kernel
theorem dX6_turnedRow_29 : decode cX6_turnedRow 29 = .ok (.ireturn, 1) := by decide +kernel
theorem dX6_turnedRow_30 : decode cX6_turnedRow 30 = .ok (.iload_n 0, 1) := by decide +kernel
theorem dX6_turnedRow_31 : decode cX6_turnedRow 31 = .ok (.ireturn, 1) := by decide +kernel
theorem dX6_turnedRow_32 : decode cX6_turnedRow 32 = .ok (.bipush 15, 2) := by decide +kernel
theorem dX6_turnedRow_34 : decode cX6_turnedRow 34 = .ok (.iload_n 1, 1) := by decide +kernel
theorem dX6_turnedRow_35 : decode cX6_turnedRow 35 = .ok (.isub, 1) := by decide +kernel
theorem dX6_turnedRow_36 : decode cX6_turnedRow 36 = .ok (.ireturn, 1) := by decide +kernel
theorem dX6_turnedRow_37 : decode cX6_turnedRow 37 = .ok (.bipush 15, 2) := by decide +kernel
theorem dX6_turnedRow_39 : decode cX6_turnedRow 39 = .ok (.iload_n 0, 1) := by decide +kernel
theorem dX6_turnedRow_40 : decode cX6_turnedRow 40 = .ok (.isub, 1) := by decide +kernel
theorem dX6_turnedRow_41 : decode cX6_turnedRow 41 = .ok (.ireturn, 1) := by decide +kernel
noncomputable def rX6_turnedRow (a1 : Int32) (a2 : Int32) (a3 : Int32) : Int32 := (if a3 = (0 : Int32) then a2 else (if a3 = (1 : Int32) then a1 else (if a3 = (2 : Int32) then ((15 : Int32) - a2) else ((15 : Int32) - a1))))
set_option maxHeartbeats 1000000 in
theorem ctX6_turnedRow (P : zp) (σ : zc_N) (a1 : Int32) (a2 : Int32) (a3 : Int32) : sp mX6_turnedRow 0 0 0 [.int a1, .int a2, .int a3] (hh P σ) (fun r_ h_ => r_ = some (.int (rX6_turnedRow a1 a2 a3)) ∧ h_ = hh P σ) := by
  refine sp_of (lv := [some (.int a1), some (.int a2), some (.int a3)]) (by decide) (zcats_ok _ rfl) (Nat.le_of_ble_eq_true rfl) (zlv_ok _ 0 rfl) (fun G => ?_)
  generalize hQ_ : (fun (r_ : Option Value) (h_ : zc_H) => r_ = some (.int (rX6_turnedRow a1 a2 a3)) ∧ h_ = hh P σ) = Q_
  refine z_iload_n dX6_turnedRow_0 rfl ?_
  by_cases c_1 : a3 = (0 : Int32)
  · refine z_tin (off := 27) (tgt := 28) dX6_turnedRow_1 (by rw [c_1]; decide) (by rw [c_1]; decide) (by rw [c_1]; decide) (by decide) ?_
    refine z_iload_n dX6_turnedRow_28 rfl ?_
    exact z_ireturn dX6_turnedRow_29 rfl rfl (Nat.le_of_ble_eq_true rfl) (Nat.le_of_ble_eq_true rfl) (by rw [← hQ_]; exact ⟨(by rw [rX6_turnedRow]; simp only [if_pos c_1]), rfl⟩)
  ·
    by_cases c_2 : a3 = (1 : Int32)
    · refine z_tin (off := 29) (tgt := 30) dX6_turnedRow_1 (by rw [c_2]; decide) (by rw [c_2]; decide) (by rw [c_2]; decide) (by decide) ?_
      refine z_iload_n dX6_turnedRow_30 rfl ?_
      exact z_ireturn dX6_turnedRow_31 rfl rfl (Nat.le_of_ble_eq_true rfl) (Nat.le_of_ble_eq_true rfl) (by rw [← hQ_]; exact ⟨(by rw [rX6_turnedRow]; simp only [if_neg c_1, if_pos c_2]), rfl⟩)
    ·
      by_cases c_3 : a3 = (2 : Int32)
      · refine z_tin (off := 31) (tgt := 32) dX6_turnedRow_1 (by rw [c_3]; decide) (by rw [c_3]; decide) (by rw [c_3]; decide) (by decide) ?_
        refine z_bipush dX6_turnedRow_32 k_bipush_15 ?_
        refine z_iload_n dX6_turnedRow_34 rfl ?_
        refine z_isub (v := ((15 : Int32) - a2)) dX6_turnedRow_35 rfl ?_
        exact z_ireturn dX6_turnedRow_36 rfl rfl (Nat.le_of_ble_eq_true rfl) (Nat.le_of_ble_eq_true rfl) (by rw [← hQ_]; exact ⟨(by rw [rX6_turnedRow]; simp only [if_neg c_1, if_neg c_2, if_pos c_3]), rfl⟩)
      ·
        refine z_tout (tgt := 37) dX6_turnedRow_1 (z_tab3 c_1 c_2 c_3) (by decide) ?_
        refine z_bipush dX6_turnedRow_37 k_bipush_15 ?_
        refine z_iload_n dX6_turnedRow_39 rfl ?_
        refine z_isub (v := ((15 : Int32) - a1)) dX6_turnedRow_40 rfl ?_
        exact z_ireturn dX6_turnedRow_41 rfl rfl (Nat.le_of_ble_eq_true rfl) (Nat.le_of_ble_eq_true rfl) (by rw [← hQ_]; exact ⟨(by rw [rX6_turnedRow]; simp only [if_neg c_1, if_neg c_2, if_neg c_3]), rfl⟩)

theorem dX9_within_0 : decode cX9_within 0 = .ok (.iload_n 0, 1) := by decide +kernel
theorem dX9_within_1 : decode cX9_within 1 = .ok (.iload_n 1, 1) := by decide +kernel
theorem dX9_within_2 : decode cX9_within 2 = .ok (.if_icmp .lt 12, 3) := by decide +kernel
theorem dX9_within_5 : decode cX9_within 5 = .ok (.iload_n 0, 1) := by decide +kernel
theorem dX9_within_6 : decode cX9_within 6 = .ok (.iload_n 2, 1) := by decide +kernel
theorem dX9_within_7 : decode cX9_within 7 = .ok (.if_icmp .gt 7, 3) := by decide +kernel
theorem dX9_within_10 : decode cX9_within 10 = .ok (.iconst 1, 1) := by decide +kernel
theorem dX9_within_11 : decode cX9_within 11 = .ok (.goto 4, 3) := by decide +kernel
theorem dX9_within_14 : decode cX9_within 14 = .ok (.iconst 0, 1) := by decide +kernel
theorem dX9_within_15 : decode cX9_within 15 = .ok (.ireturn, 1) := by decide +kernel
noncomputable def rX9_within (a1 : Int32) (a2 : Int32) (a3 : Int32) : Int32 := (if a1 < a2 then (0 : Int32) else (if a3 < a1 then (0 : Int32) else (1 : Int32)))
set_option maxHeartbeats 1000000 in
theorem ctX9_within (P : zp) (σ : zc_N) (a1 : Int32) (a2 : Int32) (a3 : Int32) : sp mX9_within 0 0 0 [.int a1, .int a2, .int a3] (hh P σ) (fun r_ h_ => r_ = some (.int (rX9_within a1 a2 a3)) ∧ h_ = hh P σ) := by
  refine sp_of (lv := [some (.int a1), some (.int a2), some (.int a3)]) (by decide) (zcats_ok _ rfl) (Nat.le_of_ble_eq_true rfl) (zlv_ok _ 0 rfl) (fun G => ?_)
  generalize hQ_ : (fun (r_ : Option Value) (h_ : zc_H) => r_ = some (.int (rX9_within a1 a2 a3)) ∧ h_ = hh P σ) = Q_
  refine z_iload_n dX9_within_0 rfl ?_
  refine z_iload_n dX9_within_1 rfl ?_
  have K_1 : zz G mX9_within 0 0 0 Q_ 15 [none, none, none] [.int (if a1 < a2 then (0 : Int32) else (if a3 < a1 then (0 : Int32) else (1 : Int32)))] (hh P σ) 0 0 := by
    exact z_ireturn dX9_within_15 rfl (by (repeat' split) <;> rfl) (Nat.le_of_ble_eq_true rfl) (Nat.le_of_ble_eq_true rfl) (by rw [← hQ_]; exact ⟨(by rw [rX9_within]), rfl⟩)
  refine z_icmp_lt (tgt := 14) dX9_within_2 (by decide) (fun c_1 => ?_) (fun c_1 => ?_)
  · refine z_iconst dX9_within_14 k_iconst_0 ?_
    refine zz_sub (lv' := [none, none, none]) trivial ?_
    first | exact K_1 | simpa only [if_pos c_1] using K_1
  · refine z_iload_n dX9_within_5 rfl ?_
    refine z_iload_n dX9_within_6 rfl ?_
    refine z_icmp_gt (tgt := 14) dX9_within_7 (by decide) (fun c_2 => ?_) (fun c_2 => ?_)
    · refine z_iconst dX9_within_14 k_iconst_0 ?_
      refine zz_sub (lv' := [none, none, none]) trivial ?_
      first | exact K_1 | simpa only [if_neg c_1, if_pos c_2] using K_1
    · refine z_iconst dX9_within_10 k_iconst_1 ?_
      refine z_goto (tgt := 15) dX9_within_11 (by decide) ?_
      refine zz_sub (lv' := [none, none, none]) trivial ?_
      first | exact K_1 | simpa only [if_neg c_1, if_neg c_2] using K_1

theorem dX9_isDark_0 : decode cX9_isDark 0 = .ok (.iload_n 1, 1) := by decide +kernel
theorem dX9_isDark_1 : decode cX9_isDark 1 = .ok (.ifCond .lt 37, 3) := by decide +kernel
theorem dX9_isDark_4 : decode cX9_isDark 4 = .ok (.iload_n 1, 1) := by decide +kernel
theorem dX9_isDark_5 : decode cX9_isDark 5 = .ok (.bipush 16, 2) := by decide +kernel
theorem dX9_isDark_7 : decode cX9_isDark 7 = .ok (.if_icmp .ge 31, 3) := by decide +kernel
theorem dX9_isDark_10 : decode cX9_isDark 10 = .ok (.iload_n 2, 1) := by decide +kernel
theorem dX9_isDark_11 : decode cX9_isDark 11 = .ok (.ifCond .lt 27, 3) := by decide +kernel
theorem dX9_isDark_14 : decode cX9_isDark 14 = .ok (.iload_n 2, 1) := by decide +kernel
theorem dX9_isDark_15 : decode cX9_isDark 15 = .ok (.bipush 16, 2) := by decide +kernel
theorem dX9_isDark_17 : decode cX9_isDark 17 = .ok (.if_icmp .ge 21, 3) := by decide +kernel
theorem dX9_isDark_20 : decode cX9_isDark 20 = .ok (.aload_n 0, 1) := by decide +kernel
theorem dX9_isDark_21 : decode cX9_isDark 21 = .ok (.getfield 9, 3) := by decide +kernel
theorem dX9_isDark_24 : decode cX9_isDark 24 = .ok (.bipush 16, 2) := by decide +kernel
theorem dX9_isDark_26 : decode cX9_isDark 26 = .ok (.iload_n 2, 1) := by decide +kernel
theorem dX9_isDark_27 : decode cX9_isDark 27 = .ok (.imul, 1) := by decide +kernel
theorem dX9_isDark_28 : decode cX9_isDark 28 = .ok (.iload_n 1, 1) := by decide +kernel
theorem dX9_isDark_29 : decode cX9_isDark 29 = .ok (.iadd, 1) := by decide +kernel
theorem dX9_isDark_30 : decode cX9_isDark 30 = .ok (.baload, 1) := by decide +kernel
theorem dX9_isDark_31 : decode cX9_isDark 31 = .ok (.ifCond .eq 7, 3) := by decide +kernel
theorem dX9_isDark_34 : decode cX9_isDark 34 = .ok (.iconst 1, 1) := by decide +kernel
theorem dX9_isDark_35 : decode cX9_isDark 35 = .ok (.goto 4, 3) := by decide +kernel
theorem dX9_isDark_38 : decode cX9_isDark 38 = .ok (.iconst 0, 1) := by decide +kernel
theorem dX9_isDark_39 : decode cX9_isDark 39 = .ok (.ireturn, 1) := by decide +kernel
def pX9_isDark (a1 : Int32) (a2 : Int32) : Prop := ((a1 < (0 : Int32) → True) ∧ (¬ a1 < (0 : Int32) → (((16 : Int32) ≤ a1 → True) ∧ (¬ (16 : Int32) ≤ a1 → ((a2 < (0 : Int32) → True) ∧ (¬ a2 < (0 : Int32) → (((16 : Int32) ≤ a2 → True) ∧ (¬ (16 : Int32) ≤ a2 → vp_in (((16 : Int32) * a2) + a1) 256))))))))
noncomputable def rX9_isDark (σ : zc_N) (a1 : Int32) (a2 : Int32) : Int32 := (if a1 < (0 : Int32) then (0 : Int32) else (if (16 : Int32) ≤ a1 then (0 : Int32) else (if a2 < (0 : Int32) then (0 : Int32) else (if (16 : Int32) ≤ a2 then (0 : Int32) else (if ((σ 33) (((16 : Int32) * a2) + a1).toNatClampNeg) = (0 : Int32) then (0 : Int32) else (1 : Int32))))))
set_option maxHeartbeats 1000000 in
theorem ctX9_isDark (P : zp) (σ : zc_N) (a1 : Int32) (a2 : Int32) (W_ : (pX9_isDark a1 a2)) : sp mX9_isDark 0 0 0 [.ref 32, .int a1, .int a2] (hh P σ) (fun r_ h_ => r_ = some (.int (rX9_isDark σ a1 a2)) ∧ h_ = hh P σ) := by
  refine sp_of (lv := [some (.ref 32), some (.int a1), some (.int a2)]) (by decide) (zcats_ok _ rfl) (Nat.le_of_ble_eq_true rfl) (zlv_ok _ 0 rfl) (fun G => ?_)
  generalize hQ_ : (fun (r_ : Option Value) (h_ : zc_H) => r_ = some (.int (rX9_isDark σ a1 a2)) ∧ h_ = hh P σ) = Q_
  unfold pX9_isDark at W_
  refine z_iload_n dX9_isDark_0 rfl ?_
  have K_1 : zz G mX9_isDark 0 0 0 Q_ 39 [none, none, none] [.int (if a1 < (0 : Int32) then (0 : Int32) else (if (16 : Int32) ≤ a1 then (0 : Int32) else (if a2 < (0 : Int32) then (0 : Int32) else (if (16 : Int32) ≤ a2 then (0 : Int32) else (if ((σ 33) (((16 : Int32) * a2) + a1).toNatClampNeg) = (0 : Int32) then (0 : Int32) else (1 : Int32))))))] (hh P σ) 0 0 := by
    exact z_ireturn dX9_isDark_39 rfl (by (repeat' split) <;> rfl) (Nat.le_of_ble_eq_true rfl) (Nat.le_of_ble_eq_true rfl) (by rw [← hQ_]; exact ⟨(by rw [rX9_isDark]), rfl⟩)
  refine z_if_lt (tgt := 38) dX9_isDark_1 (by decide) (fun c_1 => ?_) (fun c_1 => ?_)
  · refine z_iconst dX9_isDark_38 k_iconst_0 ?_
    refine zz_sub (lv' := [none, none, none]) trivial ?_
    first | exact K_1 | simpa only [if_pos c_1] using K_1
  · refine z_iload_n dX9_isDark_4 rfl ?_
    refine z_bipush dX9_isDark_5 k_bipush_16 ?_
    refine z_icmp_ge (tgt := 38) dX9_isDark_7 (by decide) (fun c_2 => ?_) (fun c_2 => ?_)
    · refine z_iconst dX9_isDark_38 k_iconst_0 ?_
      refine zz_sub (lv' := [none, none, none]) trivial ?_
      first | exact K_1 | simpa only [if_neg c_1, if_pos c_2] using K_1
    · refine z_iload_n dX9_isDark_10 rfl ?_
      refine z_if_lt (tgt := 38) dX9_isDark_11 (by decide) (fun c_3 => ?_) (fun c_3 => ?_)
      · refine z_iconst dX9_isDark_38 k_iconst_0 ?_
        refine zz_sub (lv' := [none, none, none]) trivial ?_
        first | exact K_1 | simpa only [if_neg c_1, if_neg c_2, if_pos c_3] using K_1
      · refine z_iload_n dX9_isDark_14 rfl ?_
        refine z_bipush dX9_isDark_15 k_bipush_16 ?_
        refine z_icmp_ge (tgt := 38) dX9_isDark_17 (by decide) (fun c_4 => ?_) (fun c_4 => ?_)
        · refine z_iconst dX9_isDark_38 k_iconst_0 ?_
          refine zz_sub (lv' := [none, none, none]) trivial ?_
          first | exact K_1 | simpa only [if_neg c_1, if_neg c_2, if_neg c_3, if_pos c_4] using K_1
        · refine z_aloadr_n dX9_isDark_20 rfl ?_
          refine z_get (ci := 9) (r := (RX9, TX9, 38)) (j := 0) (v := .ref 33) dX9_isDark_21 (Nat.le_of_ble_eq_true rfl) (zN rfl) rfl rfl (Nat.le_of_ble_eq_true rfl) fl_X9_9 rfl ?_
          refine z_bipush dX9_isDark_24 k_bipush_16 ?_
          refine z_iload_n dX9_isDark_26 rfl ?_
          refine z_imul (v := ((16 : Int32) * a2)) dX9_isDark_27 rfl ?_
          refine z_iload_n dX9_isDark_28 rfl ?_
          refine z_iadd (v := (((16 : Int32) * a2) + a1)) dX9_isDark_29 rfl ?_
          refine z_bald (v := ((σ 33) (((16 : Int32) * a2) + a1).toNatClampNeg)) dX9_isDark_30 (Nat.le_of_ble_eq_true rfl) (zN rfl) rfl ((((W_.2 c_1).2 c_2).2 c_3).2 c_4) rfl ?_
          refine z_if_eq (tgt := 38) dX9_isDark_31 (by decide) (fun c_5 => ?_) (fun c_5 => ?_)
          · refine z_iconst dX9_isDark_38 k_iconst_0 ?_
            refine zz_sub (lv' := [none, none, none]) trivial ?_
            first | exact K_1 | simpa only [if_neg c_1, if_neg c_2, if_neg c_3, if_neg c_4, if_pos c_5] using K_1
          · refine z_iconst dX9_isDark_34 k_iconst_1 ?_
            refine z_goto (tgt := 39) dX9_isDark_35 (by decide) ?_
            refine zz_sub (lv' := [none, none, none]) trivial ?_
            first | exact K_1 | simpa only [if_neg c_1, if_neg c_2, if_neg c_3, if_neg c_4, if_neg c_5] using K_1

theorem dX9_stepX_0 : decode cX9_stepX 0 = .ok (.iload_n 0, 1) := by decide +kernel
theorem dX9_stepX_1 : decode cX9_stepX 1 = .ok (.ifCond .eq 14, 3) := by decide +kernel
theorem dX9_stepX_4 : decode cX9_stepX 4 = .ok (.iload_n 0, 1) := by decide +kernel
theorem dX9_stepX_5 : decode cX9_stepX 5 = .ok (.iconst 1, 1) := by decide +kernel
theorem dX9_stepX_6 : decode cX9_stepX 6 = .ok (.if_icmp .eq 9, 3) := by decide +kernel
theorem dX9_stepX_9 : decode cX9_stepX 9 = .ok (.iload_n 0, 1) := by decide +kernel
theorem dX9_stepX_10 : decode cX9_stepX 10 = .ok (.bipush 7, 2) := by decide +kernel
theorem dX9_stepX_12 : decode cX9_stepX 12 = .ok (.if_icmp .ne 7, 3) := by decide +kernel
theorem dX9_stepX_15 : decode cX9_stepX 15 = .ok (.iconst 1, 1) := by decide +kernel
theorem dX9_stepX_16 : decode cX9_stepX 16 = .ok (.goto 23, 3) := by decide +kernel
theorem dX9_stepX_19 : decode cX9_stepX 19 = .ok (.iload_n 0, 1) := by decide +kernel
theorem dX9_stepX_20 : decode cX9_stepX 20 = .ok (.iconst 3, 1) := by decide +kernel
theorem dX9_stepX_21 : decode cX9_stepX 21 = .ok (.if_icmp .eq 13, 3) := by decide +kernel
theorem dX9_stepX_24 : decode cX9_stepX 24 = .ok (.iload_n 0, 1) := by decide +kernel
theorem dX9_stepX_25 : decode cX9_stepX 25 = .ok (.iconst 4, 1) := by decide +kernel
theorem dX9_stepX_26 : decode cX9_stepX 26 = .ok (.if_icmp .eq 8, 3) := by decide +kernel
theorem dX9_stepX_29 : decode cX9_stepX 29 = .ok (.iload_n 0, 1) := by decide +kernel
theorem dX9_stepX_30 : decode cX9_stepX 30 = .ok (.iconst 5, 1) := by decide +kernel
theorem dX9_stepX_31 : decode cX9_stepX 31 = .ok (.if_icmp .ne 7, 3) := by decide +kernel
theorem dX9_stepX_34 : decode cX9_stepX 34 = .ok (.iconst (-1), 1) := by decide +kernel
theorem dX9_stepX_35 : decode cX9_stepX 35 = .ok (.goto 4, 3) := by decide +kernel
theorem dX9_stepX_38 : decode cX9_stepX 38 = .ok (.iconst 0, 1) := by decide +kernel
theorem dX9_stepX_39 : decode cX9_stepX 39 = .ok (.ireturn, 1) := by decide +kernel
noncomputable def rX9_stepX (a1 : Int32) : Int32 := (if a1 = (0 : Int32) then (1 : Int32) else (if a1 = (1 : Int32) then (1 : Int32) else (if a1 = (7 : Int32) then (1 : Int32) else (if a1 = (3 : Int32) then (-1 : Int32) else (if a1 = (4 : Int32) then (-1 : Int32) else (if a1 = (5 : Int32) then (-1 : Int32) else (0 : Int32)))))))
set_option maxHeartbeats 1000000 in
theorem ctX9_stepX (P : zp) (σ : zc_N) (a1 : Int32) : sp mX9_stepX 0 0 0 [.int a1] (hh P σ) (fun r_ h_ => r_ = some (.int (rX9_stepX a1)) ∧ h_ = hh P σ) := by
  refine sp_of (lv := [some (.int a1)]) (by decide) (zcats_ok _ rfl) (Nat.le_of_ble_eq_true rfl) (zlv_ok _ 0 rfl) (fun G => ?_)
  generalize hQ_ : (fun (r_ : Option Value) (h_ : zc_H) => r_ = some (.int (rX9_stepX a1)) ∧ h_ = hh P σ) = Q_
  refine z_iload_n dX9_stepX_0 rfl ?_
  have K_1 : zz G mX9_stepX 0 0 0 Q_ 39 [none] [.int (if a1 = (0 : Int32) then (1 : Int32) else (if a1 = (1 : Int32) then (1 : Int32) else (if a1 = (7 : Int32) then (1 : Int32) else (if a1 = (3 : Int32) then (-1 : Int32) else (if a1 = (4 : Int32) then (-1 : Int32) else (if a1 = (5 : Int32) then (-1 : Int32) else (0 : Int32)))))))] (hh P σ) 0 0 := by
    exact z_ireturn dX9_stepX_39 rfl rfl (Nat.le_of_ble_eq_true rfl) (Nat.le_of_ble_eq_true rfl) (by rw [← hQ_]; exact ⟨(by rw [rX9_stepX]), rfl⟩)
  refine z_if_eq (tgt := 15) dX9_stepX_1 (by decide) (fun c_1 => ?_) (fun c_1 => ?_)
  · refine z_iconst dX9_stepX_15 k_iconst_1 ?_
    refine z_goto (tgt := 39) dX9_stepX_16 (by decide) ?_
    refine zz_sub (lv' := [none]) trivial ?_
    first | exact K_1 | simpa only [if_pos c_1] using K_1
  · refine z_iload_n dX9_stepX_4 rfl ?_
    refine z_iconst dX9_stepX_5 k_iconst_1 ?_
    refine z_icmp_eq (tgt := 15) dX9_stepX_6 (by decide) (fun c_2 => ?_) (fun c_2 => ?_)
    · refine z_iconst dX9_stepX_15 k_iconst_1 ?_
      refine z_goto (tgt := 39) dX9_stepX_16 (by decide) ?_
      refine zz_sub (lv' := [none]) trivial ?_
      first | exact K_1 | simpa only [if_neg c_1, if_pos c_2] using K_1
    · refine z_iload_n dX9_stepX_9 rfl ?_
      refine z_bipush dX9_stepX_10 k_bipush_7 ?_
      refine z_icmp_ne (tgt := 19) dX9_stepX_12 (by decide) (fun c_3 => ?_) (fun c_3 => ?_)
      · refine z_iload_n dX9_stepX_19 rfl ?_
        refine z_iconst dX9_stepX_20 k_iconst_3 ?_
        refine z_icmp_eq (tgt := 34) dX9_stepX_21 (by decide) (fun c_4 => ?_) (fun c_4 => ?_)
        · refine z_iconst dX9_stepX_34 k_iconst_m1 ?_
          refine z_goto (tgt := 39) dX9_stepX_35 (by decide) ?_
          refine zz_sub (lv' := [none]) trivial ?_
          first | exact K_1 | simpa only [if_neg c_1, if_neg c_2, if_neg c_3, if_pos c_4] using K_1
        · refine z_iload_n dX9_stepX_24 rfl ?_
          refine z_iconst dX9_stepX_25 k_iconst_4 ?_
          refine z_icmp_eq (tgt := 34) dX9_stepX_26 (by decide) (fun c_5 => ?_) (fun c_5 => ?_)
          · refine z_iconst dX9_stepX_34 k_iconst_m1 ?_
            refine z_goto (tgt := 39) dX9_stepX_35 (by decide) ?_
            refine zz_sub (lv' := [none]) trivial ?_
            first | exact K_1 | simpa only [if_neg c_1, if_neg c_2, if_neg c_3, if_neg c_4, if_pos c_5] using K_1
          · refine z_iload_n dX9_stepX_29 rfl ?_
            refine z_iconst dX9_stepX_30 k_iconst_5 ?_
            refine z_icmp_ne (tgt := 38) dX9_stepX_31 (by decide) (fun c_6 => ?_) (fun c_6 => ?_)
            · refine z_iconst dX9_stepX_38 k_iconst_0 ?_
              refine zz_sub (lv' := [none]) trivial ?_
              first | exact K_1 | simpa only [if_neg c_1, if_neg c_2, if_neg c_3, if_neg c_4, if_neg c_5, if_neg c_6] using K_1
            · refine z_iconst dX9_stepX_34 k_iconst_m1 ?_
              refine z_goto (tgt := 39) dX9_stepX_35 (by decide) ?_
              refine zz_sub (lv' := [none]) trivial ?_
              first | exact K_1 | simpa only [if_neg c_1, if_neg c_2, if_neg c_3, if_neg c_4, if_neg c_5, if_pos c_6] using K_1
      · refine z_iconst dX9_stepX_15 k_iconst_1 ?_
        refine z_goto (tgt := 39) dX9_stepX_16 (by decide) ?_
        refine zz_sub (lv' := [none]) trivial ?_
        first | exact K_1 | simpa only [if_neg c_1, if_neg c_2, if_pos c_3] using K_1

theorem dX9_stepY_0 : decode cX9_stepY 0 = .ok (.iload_n 0, 1) := by decide +kernel
theorem dX9_stepY_1 : decode cX9_stepY 1 = .ok (.iconst 1, 1) := by decide +kernel
theorem dX9_stepY_2 : decode cX9_stepY 2 = .ok (.if_icmp .eq 13, 3) := by decide +kernel
theorem dX9_stepY_5 : decode cX9_stepY 5 = .ok (.iload_n 0, 1) := by decide +kernel
theorem dX9_stepY_6 : decode cX9_stepY 6 = .ok (.iconst 2, 1) := by decide +kernel
theorem dX9_stepY_7 : decode cX9_stepY 7 = .ok (.if_icmp .eq 8, 3) := by decide +kernel
theorem dX9_stepY_10 : decode cX9_stepY 10 = .ok (.iload_n 0, 1) := by decide +kernel
theorem dX9_stepY_11 : decode cX9_stepY 11 = .ok (.iconst 3, 1) := by decide +kernel
theorem dX9_stepY_12 : decode cX9_stepY 12 = .ok (.if_icmp .ne 7, 3) := by decide +kernel
theorem dX9_stepY_15 : decode cX9_stepY 15 = .ok (.iconst 1, 1) := by decide +kernel
theorem dX9_stepY_16 : decode cX9_stepY 16 = .ok (.goto 25, 3) := by decide +kernel
theorem dX9_stepY_19 : decode cX9_stepY 19 = .ok (.iload_n 0, 1) := by decide +kernel
theorem dX9_stepY_20 : decode cX9_stepY 20 = .ok (.iconst 5, 1) := by decide +kernel
theorem dX9_stepY_21 : decode cX9_stepY 21 = .ok (.if_icmp .eq 15, 3) := by decide +kernel
theorem dX9_stepY_24 : decode cX9_stepY 24 = .ok (.iload_n 0, 1) := by decide +kernel
theorem dX9_stepY_25 : decode cX9_stepY 25 = .ok (.bipush 6, 2) := by decide +kernel
theorem dX9_stepY_27 : decode cX9_stepY 27 = .ok (.if_icmp .eq 9, 3) := by decide +kernel
theorem dX9_stepY_30 : decode cX9_stepY 30 = .ok (.iload_n 0, 1) := by decide +kernel
theorem dX9_stepY_31 : decode cX9_stepY 31 = .ok (.bipush 7, 2) := by decide +kernel
theorem dX9_stepY_33 : decode cX9_stepY 33 = .ok (.if_icmp .ne 7, 3) := by decide +kernel
theorem dX9_stepY_36 : decode cX9_stepY 36 = .ok (.iconst (-1), 1) := by decide +kernel
theorem dX9_stepY_37 : decode cX9_stepY 37 = .ok (.goto 4, 3) := by decide +kernel
theorem dX9_stepY_40 : decode cX9_stepY 40 = .ok (.iconst 0, 1) := by decide +kernel
theorem dX9_stepY_41 : decode cX9_stepY 41 = .ok (.ireturn, 1) := by decide +kernel
noncomputable def rX9_stepY (a1 : Int32) : Int32 := (if a1 = (1 : Int32) then (1 : Int32) else (if a1 = (2 : Int32) then (1 : Int32) else (if a1 = (3 : Int32) then (1 : Int32) else (if a1 = (5 : Int32) then (-1 : Int32) else (if a1 = (6 : Int32) then (-1 : Int32) else (if a1 = (7 : Int32) then (-1 : Int32) else (0 : Int32)))))))
set_option maxHeartbeats 1000000 in
theorem ctX9_stepY (P : zp) (σ : zc_N) (a1 : Int32) : sp mX9_stepY 0 0 0 [.int a1] (hh P σ) (fun r_ h_ => r_ = some (.int (rX9_stepY a1)) ∧ h_ = hh P σ) := by
  refine sp_of (lv := [some (.int a1)]) (by decide) (zcats_ok _ rfl) (Nat.le_of_ble_eq_true rfl) (zlv_ok _ 0 rfl) (fun G => ?_)
  generalize hQ_ : (fun (r_ : Option Value) (h_ : zc_H) => r_ = some (.int (rX9_stepY a1)) ∧ h_ = hh P σ) = Q_
  refine z_iload_n dX9_stepY_0 rfl ?_
  refine z_iconst dX9_stepY_1 k_iconst_1 ?_
  have K_1 : zz G mX9_stepY 0 0 0 Q_ 41 [none] [.int (if a1 = (1 : Int32) then (1 : Int32) else (if a1 = (2 : Int32) then (1 : Int32) else (if a1 = (3 : Int32) then (1 : Int32) else (if a1 = (5 : Int32) then (-1 : Int32) else (if a1 = (6 : Int32) then (-1 : Int32) else (if a1 = (7 : Int32) then (-1 : Int32) else (0 : Int32)))))))] (hh P σ) 0 0 := by
    exact z_ireturn dX9_stepY_41 rfl rfl (Nat.le_of_ble_eq_true rfl) (Nat.le_of_ble_eq_true rfl) (by rw [← hQ_]; exact ⟨(by rw [rX9_stepY]), rfl⟩)
  refine z_icmp_eq (tgt := 15) dX9_stepY_2 (by decide) (fun c_1 => ?_) (fun c_1 => ?_)
  · refine z_iconst dX9_stepY_15 k_iconst_1 ?_
    refine z_goto (tgt := 41) dX9_stepY_16 (by decide) ?_
    refine zz_sub (lv' := [none]) trivial ?_
    first | exact K_1 | simpa only [if_pos c_1] using K_1
  · refine z_iload_n dX9_stepY_5 rfl ?_
    refine z_iconst dX9_stepY_6 k_iconst_2 ?_
    refine z_icmp_eq (tgt := 15) dX9_stepY_7 (by decide) (fun c_2 => ?_) (fun c_2 => ?_)
    · refine z_iconst dX9_stepY_15 k_iconst_1 ?_
      refine z_goto (tgt := 41) dX9_stepY_16 (by decide) ?_
      refine zz_sub (lv' := [none]) trivial ?_
      first | exact K_1 | simpa only [if_neg c_1, if_pos c_2] using K_1
    · refine z_iload_n dX9_stepY_10 rfl ?_
      refine z_iconst dX9_stepY_11 k_iconst_3 ?_
      refine z_icmp_ne (tgt := 19) dX9_stepY_12 (by decide) (fun c_3 => ?_) (fun c_3 => ?_)
      · refine z_iload_n dX9_stepY_19 rfl ?_
        refine z_iconst dX9_stepY_20 k_iconst_5 ?_
        refine z_icmp_eq (tgt := 36) dX9_stepY_21 (by decide) (fun c_4 => ?_) (fun c_4 => ?_)
        · refine z_iconst dX9_stepY_36 k_iconst_m1 ?_
          refine z_goto (tgt := 41) dX9_stepY_37 (by decide) ?_
          refine zz_sub (lv' := [none]) trivial ?_
          first | exact K_1 | simpa only [if_neg c_1, if_neg c_2, if_neg c_3, if_pos c_4] using K_1
        · refine z_iload_n dX9_stepY_24 rfl ?_
          refine z_bipush dX9_stepY_25 k_bipush_6 ?_
          refine z_icmp_eq (tgt := 36) dX9_stepY_27 (by decide) (fun c_5 => ?_) (fun c_5 => ?_)
          · refine z_iconst dX9_stepY_36 k_iconst_m1 ?_
            refine z_goto (tgt := 41) dX9_stepY_37 (by decide) ?_
            refine zz_sub (lv' := [none]) trivial ?_
            first | exact K_1 | simpa only [if_neg c_1, if_neg c_2, if_neg c_3, if_neg c_4, if_pos c_5] using K_1
          · refine z_iload_n dX9_stepY_30 rfl ?_
            refine z_bipush dX9_stepY_31 k_bipush_7 ?_
            refine z_icmp_ne (tgt := 40) dX9_stepY_33 (by decide) (fun c_6 => ?_) (fun c_6 => ?_)
            · refine z_iconst dX9_stepY_40 k_iconst_0 ?_
              refine zz_sub (lv' := [none]) trivial ?_
              first | exact K_1 | simpa only [if_neg c_1, if_neg c_2, if_neg c_3, if_neg c_4, if_neg c_5, if_neg c_6] using K_1
            · refine z_iconst dX9_stepY_36 k_iconst_m1 ?_
              refine z_goto (tgt := 41) dX9_stepY_37 (by decide) ?_
              refine zz_sub (lv' := [none]) trivial ?_
              first | exact K_1 | simpa only [if_neg c_1, if_neg c_2, if_neg c_3, if_neg c_4, if_neg c_5, if_pos c_6] using K_1
      · refine z_iconst dX9_stepY_15 k_iconst_1 ?_
        refine z_goto (tgt := 41) dX9_stepY_16 (by decide) ?_
        refine zz_sub (lv' := [none]) trivial ?_
        first | exact K_1 | simpa only [if_neg c_1, if_neg c_2, if_pos c_3] using K_1

theorem dX9_isPrint_0 : decode cX9_isPrint 0 = .ok (.iload_n 1, 1) := by decide +kernel
theorem dX9_isPrint_1 : decode cX9_isPrint 1 = .ok (.ifCond .lt 15, 3) := by decide +kernel
theorem dX9_isPrint_4 : decode cX9_isPrint 4 = .ok (.iload_n 1, 1) := by decide +kernel
theorem dX9_isPrint_5 : decode cX9_isPrint 5 = .ok (.aload_n 0, 1) := by decide +kernel
theorem dX9_isPrint_6 : decode cX9_isPrint 6 = .ok (.getfield 131, 3) := by decide +kernel
theorem dX9_isPrint_9 : decode cX9_isPrint 9 = .ok (.if_icmp .ge 7, 3) := by decide +kernel
theorem dX9_isPrint_12 : decode cX9_isPrint 12 = .ok (.iconst 1, 1) := by decide +kernel
theorem dX9_isPrint_13 : decode cX9_isPrint 13 = .ok (.goto 4, 3) := by decide +kernel
theorem dX9_isPrint_16 : decode cX9_isPrint 16 = .ok (.iconst 0, 1) := by decide +kernel
theorem dX9_isPrint_17 : decode cX9_isPrint 17 = .ok (.ireturn, 1) := by decide +kernel
noncomputable def rX9_isPrint (σ : zc_N) (a1 : Int32) : Int32 := (if a1 < (0 : Int32) then (0 : Int32) else (if ((σ 32) 11) ≤ a1 then (0 : Int32) else (1 : Int32)))
set_option maxHeartbeats 1000000 in
theorem ctX9_isPrint (P : zp) (σ : zc_N) (a1 : Int32) : sp mX9_isPrint 0 0 0 [.ref 32, .int a1] (hh P σ) (fun r_ h_ => r_ = some (.int (rX9_isPrint σ a1)) ∧ h_ = hh P σ) := by
  refine sp_of (lv := [some (.ref 32), some (.int a1)]) (by decide) (zcats_ok _ rfl) (Nat.le_of_ble_eq_true rfl) (zlv_ok _ 0 rfl) (fun G => ?_)
  generalize hQ_ : (fun (r_ : Option Value) (h_ : zc_H) => r_ = some (.int (rX9_isPrint σ a1)) ∧ h_ = hh P σ) = Q_
  refine z_iload_n dX9_isPrint_0 rfl ?_
  have K_1 : zz G mX9_isPrint 0 0 0 Q_ 17 [none, none] [.int (if a1 < (0 : Int32) then (0 : Int32) else (if ((σ 32) 11) ≤ a1 then (0 : Int32) else (1 : Int32)))] (hh P σ) 0 0 := by
    exact z_ireturn dX9_isPrint_17 rfl (by (repeat' split) <;> rfl) (Nat.le_of_ble_eq_true rfl) (Nat.le_of_ble_eq_true rfl) (by rw [← hQ_]; exact ⟨(by rw [rX9_isPrint]), rfl⟩)
  refine z_if_lt (tgt := 16) dX9_isPrint_1 (by decide) (fun c_1 => ?_) (fun c_1 => ?_)
  · refine z_iconst dX9_isPrint_16 k_iconst_0 ?_
    refine zz_sub (lv' := [none, none]) trivial ?_
    first | exact K_1 | simpa only [if_pos c_1] using K_1
  · refine z_iload_n dX9_isPrint_4 rfl ?_
    refine z_aloadr_n dX9_isPrint_5 rfl ?_
    refine z_get (ci := 9) (r := (RX9, TX9, 38)) (j := 11) (v := .int ((σ 32) 11)) dX9_isPrint_6 (Nat.le_of_ble_eq_true rfl) (zN rfl) rfl rfl (Nat.le_of_ble_eq_true rfl) fl_X9_131 rfl ?_
    refine z_icmp_ge (tgt := 16) dX9_isPrint_9 (by decide) (fun c_2 => ?_) (fun c_2 => ?_)
    · refine z_iconst dX9_isPrint_16 k_iconst_0 ?_
      refine zz_sub (lv' := [none, none]) trivial ?_
      first | exact K_1 | simpa only [if_neg c_1, if_pos c_2] using K_1
    · refine z_iconst dX9_isPrint_12 k_iconst_1 ?_
      refine z_goto (tgt := 17) dX9_isPrint_13 (by decide) ?_
      refine zz_sub (lv' := [none, none]) trivial ?_
      first | exact K_1 | simpa only [if_neg c_1, if_neg c_2] using K_1

theorem dX9_turnedX_0 : decode cX9_turnedX 0 = .ok (.iload_n 2, 1) := by decide +kernel
theorem dX9_turnedX_1 : decode cX9_turnedX 1 = .ok (.ifCond .ne 7, 3) := by decide +kernel
theorem dX9_turnedX_4 : decode cX9_turnedX 4 = .ok (.iload_n 0, 1) := by decide +kernel
theorem dX9_turnedX_5 : decode cX9_turnedX 5 = .ok (.goto 28, 3) := by decide +kernel
theorem dX9_turnedX_8 : decode cX9_turnedX 8 = .ok (.iload_n 2, 1) := by decide +kernel
theorem dX9_turnedX_9 : decode cX9_turnedX 9 = .ok (.iconst 1, 1) := by decide +kernel
theorem dX9_turnedX_10 : decode cX9_turnedX 10 = .ok (.if_icmp .ne 10, 3) := by decide +kernel
theorem dX9_turnedX_13 : decode cX9_turnedX 13 = .ok (.bipush 15, 2) := by decide +kernel
theorem dX9_turnedX_15 : decode cX9_turnedX 15 = .ok (.iload_n 1, 1) := by decide +kernel
theorem dX9_turnedX_16 : decode cX9_turnedX 16 = .ok (.isub, 1) := by decide +kernel
theorem dX9_turnedX_17 : decode cX9_turnedX 17 = .ok (.goto 16, 3) := by decide +kernel
theorem dX9_turnedX_20 : decode cX9_turnedX 20 = .ok (.iload_n 2, 1) := by decide +kernel
theorem dX9_turnedX_21 : decode cX9_turnedX 21 = .ok (.iconst 2, 1) := by decide +kernel
theorem dX9_turnedX_22 : decode cX9_turnedX 22 = .ok (.if_icmp .ne 10, 3) := by decide +kernel
theorem dX9_turnedX_25 : decode cX9_turnedX 25 = .ok (.bipush 15, 2) := by decide +kernel
theorem dX9_turnedX_27 : decode cX9_turnedX 27 = .ok (.iload_n 0, 1) := by decide +kernel
theorem dX9_turnedX_28 : decode cX9_turnedX 28 = .ok (.isub, 1) := by decide +kernel
theorem dX9_turnedX_29 : decode cX9_turnedX 29 = .ok (.goto 4, 3) := by decide +kernel
theorem dX9_turnedX_32 : decode cX9_turnedX 32 = .ok (.iload_n 1, 1) := by decide +kernel
theorem dX9_turnedX_33 : decode cX9_turnedX 33 = .ok (.ireturn, 1) := by decide +kernel
noncomputable def rX9_turnedX (a1 : Int32) (a2 : Int32) (a3 : Int32) : Int32 := (if a3 = (0 : Int32) then a1 else (if a3 = (1 : Int32) then ((15 : Int32) - a2) else (if a3 = (2 : Int32) then ((15 : Int32) - a1) else a2)))
set_option maxHeartbeats 1000000 in
theorem ctX9_turnedX (P : zp) (σ : zc_N) (a1 : Int32) (a2 : Int32) (a3 : Int32) : sp mX9_turnedX 0 0 0 [.int a1, .int a2, .int a3] (hh P σ) (fun r_ h_ => r_ = some (.int (rX9_turnedX a1 a2 a3)) ∧ h_ = hh P σ) := by
  refine sp_of (lv := [some (.int a1), some (.int a2), some (.int a3)]) (by decide) (zcats_ok _ rfl) (Nat.le_of_ble_eq_true rfl) (zlv_ok _ 0 rfl) (fun G => ?_)
  generalize hQ_ : (fun (r_ : Option Value) (h_ : zc_H) => r_ = some (.int (rX9_turnedX a1 a2 a3)) ∧ h_ = hh P σ) = Q_
  refine z_iload_n dX9_turnedX_0 rfl ?_
  have K_1 : zz G mX9_turnedX 0 0 0 Q_ 33 [none, none, none] [.int (if a3 = (0 : Int32) then a1 else (if a3 = (1 : Int32) then ((15 : Int32) - a2) else (if a3 = (2 : Int32) then ((15 : Int32) - a1) else a2)))] (hh P σ) 0 0 := by
    exact z_ireturn dX9_turnedX_33 rfl rfl (Nat.le_of_ble_eq_true rfl) (Nat.le_of_ble_eq_true rfl) (by rw [← hQ_]; exact ⟨(by rw [rX9_turnedX]), rfl⟩)
  refine z_if_ne (tgt := 8) dX9_turnedX_1 (by decide) (fun c_1 => ?_) (fun c_1 => ?_)
  · refine z_iload_n dX9_turnedX_8 rfl ?_
    refine z_iconst dX9_turnedX_9 k_iconst_1 ?_
    refine z_icmp_ne (tgt := 20) dX9_turnedX_10 (by decide) (fun c_2 => ?_) (fun c_2 => ?_)
    · refine z_iload_n dX9_turnedX_20 rfl ?_
      refine z_iconst dX9_turnedX_21 k_iconst_2 ?_
      refine z_icmp_ne (tgt := 32) dX9_turnedX_22 (by decide) (fun c_3 => ?_) (fun c_3 => ?_)
      · refine z_iload_n dX9_turnedX_32 rfl ?_
        refine zz_sub (lv' := [none, none, none]) trivial ?_
        first | exact K_1 | simpa only [if_neg c_1, if_neg c_2, if_neg c_3] using K_1
      · refine z_bipush dX9_turnedX_25 k_bipush_15 ?_
        refine z_iload_n dX9_turnedX_27 rfl ?_
        refine z_isub (v := ((15 : Int32) - a1)) dX9_turnedX_28 rfl ?_
        refine z_goto (tgt := 33) dX9_turnedX_29 (by decide) ?_
        refine zz_sub (lv' := [none, none, none]) trivial ?_
        first | exact K_1 | simpa only [if_neg c_1, if_neg c_2, if_pos c_3] using K_1
    · refine z_bipush dX9_turnedX_13 k_bipush_15 ?_
      refine z_iload_n dX9_turnedX_15 rfl ?_
      refine z_isub (v := ((15 : Int32) - a2)) dX9_turnedX_16 rfl ?_
      refine z_goto (tgt := 33) dX9_turnedX_17 (by decide) ?_
      refine zz_sub (lv' := [none, none, none]) trivial ?_
      first | exact K_1 | simpa only [if_neg c_1, if_pos c_2] using K_1
  · refine z_iload_n dX9_turnedX_4 rfl ?_
    refine z_goto (tgt := 33) dX9_turnedX_5 (by decide) ?_
    refine zz_sub (lv' := [none, none, none]) trivial ?_
    first | exact K_1 | simpa only [if_pos c_1] using K_1

theorem dX9_turnedY_0 : decode cX9_turnedY 0 = .ok (.iload_n 2, 1) := by decide +kernel
theorem dX9_turnedY_1 : decode cX9_turnedY 1 = .ok (.ifCond .ne 7, 3) := by decide +kernel
theorem dX9_turnedY_4 : decode cX9_turnedY 4 = .ok (.iload_n 1, 1) := by decide +kernel
theorem dX9_turnedY_5 : decode cX9_turnedY 5 = .ok (.goto 28, 3) := by decide +kernel
theorem dX9_turnedY_8 : decode cX9_turnedY 8 = .ok (.iload_n 2, 1) := by decide +kernel
theorem dX9_turnedY_9 : decode cX9_turnedY 9 = .ok (.iconst 1, 1) := by decide +kernel
theorem dX9_turnedY_10 : decode cX9_turnedY 10 = .ok (.if_icmp .ne 7, 3) := by decide +kernel
theorem dX9_turnedY_13 : decode cX9_turnedY 13 = .ok (.iload_n 0, 1) := by decide +kernel
theorem dX9_turnedY_14 : decode cX9_turnedY 14 = .ok (.goto 19, 3) := by decide +kernel
theorem dX9_turnedY_17 : decode cX9_turnedY 17 = .ok (.iload_n 2, 1) := by decide +kernel
theorem dX9_turnedY_18 : decode cX9_turnedY 18 = .ok (.iconst 2, 1) := by decide +kernel
theorem dX9_turnedY_19 : decode cX9_turnedY 19 = .ok (.if_icmp .ne 10, 3) := by decide +kernel
theorem dX9_turnedY_22 : decode cX9_turnedY 22 = .ok (.bipush 15, 2) := by decide +kernel
theorem dX9_turnedY_24 : decode cX9_turnedY 24 = .ok (.iload_n 1, 1) := by decide +kernel
theorem dX9_turnedY_25 : decode cX9_turnedY 25 = .ok (.isub, 1) := by decide +kernel
theorem dX9_turnedY_26 : decode cX9_turnedY 26 = .ok (.goto 7, 3) := by decide +kernel
theorem dX9_turnedY_29 : decode cX9_turnedY 29 = .ok (.bipush 15, 2) := by decide +kernel
theorem dX9_turnedY_31 : decode cX9_turnedY 31 = .ok (.iload_n 0, 1) := by decide +kernel
theorem dX9_turnedY_32 : decode cX9_turnedY 32 = .ok (.isub, 1) := by decide +kernel
theorem dX9_turnedY_33 : decode cX9_turnedY 33 = .ok (.ireturn, 1) := by decide +kernel
noncomputable def rX9_turnedY (a1 : Int32) (a2 : Int32) (a3 : Int32) : Int32 := (if a3 = (0 : Int32) then a2 else (if a3 = (1 : Int32) then a1 else (if a3 = (2 : Int32) then ((15 : Int32) - a2) else ((15 : Int32) - a1))))
set_option maxHeartbeats 1000000 in
theorem ctX9_turnedY (P : zp) (σ : zc_N) (a1 : Int32) (a2 : Int32) (a3 : Int32) : sp mX9_turnedY 0 0 0 [.int a1, .int a2, .int a3] (hh P σ) (fun r_ h_ => r_ = some (.int (rX9_turnedY a1 a2 a3)) ∧ h_ = hh P σ) := by
  refine sp_of (lv := [some (.int a1), some (.int a2), some (.int a3)]) (by decide) (zcats_ok _ rfl) (Nat.le_of_ble_eq_true rfl) (zlv_ok _ 0 rfl) (fun G => ?_)
  generalize hQ_ : (fun (r_ : Option Value) (h_ : zc_H) => r_ = some (.int (rX9_turnedY a1 a2 a3)) ∧ h_ = hh P σ) = Q_
  refine z_iload_n dX9_turnedY_0 rfl ?_
  have K_1 : zz G mX9_turnedY 0 0 0 Q_ 33 [none, none, none] [.int (if a3 = (0 : Int32) then a2 else (if a3 = (1 : Int32) then a1 else (if a3 = (2 : Int32) then ((15 : Int32) - a2) else ((15 : Int32) - a1))))] (hh P σ) 0 0 := by
    exact z_ireturn dX9_turnedY_33 rfl rfl (Nat.le_of_ble_eq_true rfl) (Nat.le_of_ble_eq_true rfl) (by rw [← hQ_]; exact ⟨(by rw [rX9_turnedY]), rfl⟩)
  refine z_if_ne (tgt := 8) dX9_turnedY_1 (by decide) (fun c_1 => ?_) (fun c_1 => ?_)
  · refine z_iload_n dX9_turnedY_8 rfl ?_
    refine z_iconst dX9_turnedY_9 k_iconst_1 ?_
    refine z_icmp_ne (tgt := 17) dX9_turnedY_10 (by decide) (fun c_2 => ?_) (fun c_2 => ?_)
    · refine z_iload_n dX9_turnedY_17 rfl ?_
      refine z_iconst dX9_turnedY_18 k_iconst_2 ?_
      refine z_icmp_ne (tgt := 29) dX9_turnedY_19 (by decide) (fun c_3 => ?_) (fun c_3 => ?_)
      · refine z_bipush dX9_turnedY_29 k_bipush_15 ?_
        refine z_iload_n dX9_turnedY_31 rfl ?_
        refine z_isub (v := ((15 : Int32) - a1)) dX9_turnedY_32 rfl ?_
        refine zz_sub (lv' := [none, none, none]) trivial ?_
        first | exact K_1 | simpa only [if_neg c_1, if_neg c_2, if_neg c_3] using K_1
      · refine z_bipush dX9_turnedY_22 k_bipush_15 ?_
        refine z_iload_n dX9_turnedY_24 rfl ?_
        refine z_isub (v := ((15 : Int32) - a2)) dX9_turnedY_25 rfl ?_
        refine z_goto (tgt := 33) dX9_turnedY_26 (by decide) ?_
        refine zz_sub (lv' := [none, none, none]) trivial ?_
        first | exact K_1 | simpa only [if_neg c_1, if_neg c_2, if_pos c_3] using K_1
    · refine z_iload_n dX9_turnedY_13 rfl ?_
      refine z_goto (tgt := 33) dX9_turnedY_14 (by decide) ?_
      refine zz_sub (lv' := [none, none, none]) trivial ?_
      first | exact K_1 | simpa only [if_neg c_1, if_pos c_2] using K_1
  · refine z_iload_n dX9_turnedY_4 rfl ?_
    refine z_goto (tgt := 33) dX9_turnedY_5 (by decide) ?_
    refine zz_sub (lv' := [none, none, none]) trivial ?_
    first | exact K_1 | simpa only [if_pos c_1] using K_1

theorem dX9_liesIn_0 : decode cX9_liesIn 0 = .ok (.iload_n 0, 1) := by decide +kernel
theorem dX9_liesIn_1 : decode cX9_liesIn 1 = .ok (.aload_n 2, 1) := by decide +kernel
theorem dX9_liesIn_2 : decode cX9_liesIn 2 = .ok (.iload_n 3, 1) := by decide +kernel
theorem dX9_liesIn_3 : decode cX9_liesIn 3 = .ok (.iaload, 1) := by decide +kernel
theorem dX9_liesIn_4 : decode cX9_liesIn 4 = .ok (.if_icmp .lt 34, 3) := by decide +kernel
theorem dX9_liesIn_7 : decode cX9_liesIn 7 = .ok (.iload_n 0, 1) := by decide +kernel
theorem dX9_liesIn_8 : decode cX9_liesIn 8 = .ok (.aload_n 2, 1) := by decide +kernel
theorem dX9_liesIn_9 : decode cX9_liesIn 9 = .ok (.iload_n 3, 1) := by decide +kernel
theorem dX9_liesIn_10 : decode cX9_liesIn 10 = .ok (.iconst 2, 1) := by decide +kernel
theorem dX9_liesIn_11 : decode cX9_liesIn 11 = .ok (.iadd, 1) := by decide +kernel
theorem dX9_liesIn_12 : decode cX9_liesIn 12 = .ok (.iaload, 1) := by decide +kernel
theorem dX9_liesIn_13 : decode cX9_liesIn 13 = .ok (.if_icmp .gt 25, 3) := by decide +kernel
theorem dX9_liesIn_16 : decode cX9_liesIn 16 = .ok (.iload_n 1, 1) := by decide +kernel
theorem dX9_liesIn_17 : decode cX9_liesIn 17 = .ok (.aload_n 2, 1) := by decide +kernel
theorem dX9_liesIn_18 : decode cX9_liesIn 18 = .ok (.iload_n 3, 1) := by decide +kernel
theorem dX9_liesIn_19 : decode cX9_liesIn 19 = .ok (.iconst 1, 1) := by decide +kernel
theorem dX9_liesIn_20 : decode cX9_liesIn 20 = .ok (.iadd, 1) := by decide +kernel
theorem dX9_liesIn_21 : decode cX9_liesIn 21 = .ok (.iaload, 1) := by decide +kernel
theorem dX9_liesIn_22 : decode cX9_liesIn 22 = .ok (.if_icmp .lt 16, 3) := by decide +kernel
theorem dX9_liesIn_25 : decode cX9_liesIn 25 = .ok (.iload_n 1, 1) := by decide +kernel
theorem dX9_liesIn_26 : decode cX9_liesIn 26 = .ok (.aload_n 2, 1) := by decide +kernel
theorem dX9_liesIn_27 : decode cX9_liesIn 27 = .ok (.iload_n 3, 1) := by decide +kernel
theorem dX9_liesIn_28 : decode cX9_liesIn 28 = .ok (.iconst 3, 1) := by decide +kernel
theorem dX9_liesIn_29 : decode cX9_liesIn 29 = .ok (.iadd, 1) := by decide +kernel
theorem dX9_liesIn_30 : decode cX9_liesIn 30 = .ok (.iaload, 1) := by decide +kernel
theorem dX9_liesIn_31 : decode cX9_liesIn 31 = .ok (.if_icmp .gt 7, 3) := by decide +kernel
theorem dX9_liesIn_34 : decode cX9_liesIn 34 = .ok (.iconst 1, 1) := by decide +kernel
theorem dX9_liesIn_35 : decode cX9_liesIn 35 = .ok (.goto 4, 3) := by decide +kernel
theorem dX9_liesIn_38 : decode cX9_liesIn 38 = .ok (.iconst 0, 1) := by decide +kernel
theorem dX9_liesIn_39 : decode cX9_liesIn 39 = .ok (.ireturn, 1) := by decide +kernel
def pX9_liesIn_s (σ : zc_N) (a1 : Int32) (a2 : Int32) (a3 : Int32) : Prop := (vp_in a3 96 ∧ ((a1 < ((σ 41) a3.toNatClampNeg) → True) ∧ (¬ a1 < ((σ 41) a3.toNatClampNeg) → (vp_in (a3 + (2 : Int32)) 96 ∧ ((((σ 41) (a3 + (2 : Int32)).toNatClampNeg) < a1 → True) ∧ (¬ ((σ 41) (a3 + (2 : Int32)).toNatClampNeg) < a1 → (vp_in (a3 + (1 : Int32)) 96 ∧ ((a2 < ((σ 41) (a3 + (1 : Int32)).toNatClampNeg) → True) ∧ (¬ a2 < ((σ 41) (a3 + (1 : Int32)).toNatClampNeg) → vp_in (a3 + (3 : Int32)) 96)))))))))
noncomputable def rX9_liesIn_s (σ : zc_N) (a1 : Int32) (a2 : Int32) (a3 : Int32) : Int32 := (if a1 < ((σ 41) a3.toNatClampNeg) then (0 : Int32) else (if ((σ 41) (a3 + (2 : Int32)).toNatClampNeg) < a1 then (0 : Int32) else (if a2 < ((σ 41) (a3 + (1 : Int32)).toNatClampNeg) then (0 : Int32) else (if ((σ 41) (a3 + (3 : Int32)).toNatClampNeg) < a2 then (0 : Int32) else (1 : Int32)))))
set_option maxHeartbeats 1000000 in
theorem ctX9_liesIn_s (P : zp) (σ : zc_N) (a1 : Int32) (a2 : Int32) (a3 : Int32) (W_ : (pX9_liesIn_s σ a1 a2 a3)) : sp mX9_liesIn 0 0 0 [.int a1, .int a2, .ref 41, .int a3] (hh P σ) (fun r_ h_ => r_ = some (.int (rX9_liesIn_s σ a1 a2 a3)) ∧ h_ = hh P σ) := by
  refine sp_of (lv := [some (.int a1), some (.int a2), some (.ref 41), some (.int a3)]) (by decide) (zcats_ok _ rfl) (Nat.le_of_ble_eq_true rfl) (zlv_ok _ 0 rfl) (fun G => ?_)
  generalize hQ_ : (fun (r_ : Option Value) (h_ : zc_H) => r_ = some (.int (rX9_liesIn_s σ a1 a2 a3)) ∧ h_ = hh P σ) = Q_
  unfold pX9_liesIn_s at W_
  refine z_iload_n dX9_liesIn_0 rfl ?_
  refine z_aloadr_n dX9_liesIn_1 rfl ?_
  refine z_iload_n dX9_liesIn_2 rfl ?_
  refine z_iald (v := ((σ 41) a3.toNatClampNeg)) dX9_liesIn_3 (zN rfl) rfl W_.1 rfl ?_
  have K_1 : zz G mX9_liesIn 0 0 0 Q_ 39 [none, none, none, none] [.int (if a1 < ((σ 41) a3.toNatClampNeg) then (0 : Int32) else (if ((σ 41) (a3 + (2 : Int32)).toNatClampNeg) < a1 then (0 : Int32) else (if a2 < ((σ 41) (a3 + (1 : Int32)).toNatClampNeg) then (0 : Int32) else (if ((σ 41) (a3 + (3 : Int32)).toNatClampNeg) < a2 then (0 : Int32) else (1 : Int32)))))] (hh P σ) 0 0 := by
    exact z_ireturn dX9_liesIn_39 rfl (by (repeat' split) <;> rfl) (Nat.le_of_ble_eq_true rfl) (Nat.le_of_ble_eq_true rfl) (by rw [← hQ_]; exact ⟨(by rw [rX9_liesIn_s]), rfl⟩)
  refine z_icmp_lt (tgt := 38) dX9_liesIn_4 (by decide) (fun c_1 => ?_) (fun c_1 => ?_)
  · refine z_iconst dX9_liesIn_38 k_iconst_0 ?_
    refine zz_sub (lv' := [none, none, none, none]) trivial ?_
    first | exact K_1 | simpa only [if_pos c_1] using K_1
  · refine z_iload_n dX9_liesIn_7 rfl ?_
    refine z_aloadr_n dX9_liesIn_8 rfl ?_
    refine z_iload_n dX9_liesIn_9 rfl ?_
    refine z_iconst dX9_liesIn_10 k_iconst_2 ?_
    refine z_iadd (v := (a3 + (2 : Int32))) dX9_liesIn_11 rfl ?_
    refine z_iald (v := ((σ 41) (a3 + (2 : Int32)).toNatClampNeg)) dX9_liesIn_12 (zN rfl) rfl ((W_.2.2 c_1).1) rfl ?_
    refine z_icmp_gt (tgt := 38) dX9_liesIn_13 (by decide) (fun c_2 => ?_) (fun c_2 => ?_)
    · refine z_iconst dX9_liesIn_38 k_iconst_0 ?_
      refine zz_sub (lv' := [none, none, none, none]) trivial ?_
      first | exact K_1 | simpa only [if_neg c_1, if_pos c_2] using K_1
    · refine z_iload_n dX9_liesIn_16 rfl ?_
      refine z_aloadr_n dX9_liesIn_17 rfl ?_
      refine z_iload_n dX9_liesIn_18 rfl ?_
      refine z_iconst dX9_liesIn_19 k_iconst_1 ?_
      refine z_iadd (v := (a3 + (1 : Int32))) dX9_liesIn_20 rfl ?_
      refine z_iald (v := ((σ 41) (a3 + (1 : Int32)).toNatClampNeg)) dX9_liesIn_21 (zN rfl) rfl (((W_.2.2 c_1).2.2 c_2).1) rfl ?_
      refine z_icmp_lt (tgt := 38) dX9_liesIn_22 (by decide) (fun c_3 => ?_) (fun c_3 => ?_)
      · refine z_iconst dX9_liesIn_38 k_iconst_0 ?_
        refine zz_sub (lv' := [none, none, none, none]) trivial ?_
        first | exact K_1 | simpa only [if_neg c_1, if_neg c_2, if_pos c_3] using K_1
      · refine z_iload_n dX9_liesIn_25 rfl ?_
        refine z_aloadr_n dX9_liesIn_26 rfl ?_
        refine z_iload_n dX9_liesIn_27 rfl ?_
        refine z_iconst dX9_liesIn_28 k_iconst_3 ?_
        refine z_iadd (v := (a3 + (3 : Int32))) dX9_liesIn_29 rfl ?_
        refine z_iald (v := ((σ 41) (a3 + (3 : Int32)).toNatClampNeg)) dX9_liesIn_30 (zN rfl) rfl (((W_.2.2 c_1).2.2 c_2).2.2 c_3) rfl ?_
        refine z_icmp_gt (tgt := 38) dX9_liesIn_31 (by decide) (fun c_4 => ?_) (fun c_4 => ?_)
        · refine z_iconst dX9_liesIn_38 k_iconst_0 ?_
          refine zz_sub (lv' := [none, none, none, none]) trivial ?_
          first | exact K_1 | simpa only [if_neg c_1, if_neg c_2, if_neg c_3, if_pos c_4] using K_1
        · refine z_iconst dX9_liesIn_34 k_iconst_1 ?_
          refine z_goto (tgt := 39) dX9_liesIn_35 (by decide) ?_
          refine zz_sub (lv' := [none, none, none, none]) trivial ?_
          first | exact K_1 | simpa only [if_neg c_1, if_neg c_2, if_neg c_3, if_neg c_4] using K_1


def pX9_liesIn_l (σ : zc_N) (a1 : Int32) (a2 : Int32) (a3 : Int32) : Prop := (vp_in a3 4 ∧ ((a1 < ((σ 46) a3.toNatClampNeg) → True) ∧ (¬ a1 < ((σ 46) a3.toNatClampNeg) → (vp_in (a3 + (2 : Int32)) 4 ∧ ((((σ 46) (a3 + (2 : Int32)).toNatClampNeg) < a1 → True) ∧ (¬ ((σ 46) (a3 + (2 : Int32)).toNatClampNeg) < a1 → (vp_in (a3 + (1 : Int32)) 4 ∧ ((a2 < ((σ 46) (a3 + (1 : Int32)).toNatClampNeg) → True) ∧ (¬ a2 < ((σ 46) (a3 + (1 : Int32)).toNatClampNeg) → vp_in (a3 + (3 : Int32)) 4)))))))))
noncomputable def rX9_liesIn_l (σ : zc_N) (a1 : Int32) (a2 : Int32) (a3 : Int32) : Int32 := (if a1 < ((σ 46) a3.toNatClampNeg) then (0 : Int32) else (if ((σ 46) (a3 + (2 : Int32)).toNatClampNeg) < a1 then (0 : Int32) else (if a2 < ((σ 46) (a3 + (1 : Int32)).toNatClampNeg) then (0 : Int32) else (if ((σ 46) (a3 + (3 : Int32)).toNatClampNeg) < a2 then (0 : Int32) else (1 : Int32)))))
set_option maxHeartbeats 1000000 in
theorem ctX9_liesIn_l (P : zp) (σ : zc_N) (a1 : Int32) (a2 : Int32) (a3 : Int32) (W_ : (pX9_liesIn_l σ a1 a2 a3)) : sp mX9_liesIn 0 0 0 [.int a1, .int a2, .ref 46, .int a3] (hh P σ) (fun r_ h_ => r_ = some (.int (rX9_liesIn_l σ a1 a2 a3)) ∧ h_ = hh P σ) := by
  refine sp_of (lv := [some (.int a1), some (.int a2), some (.ref 46), some (.int a3)]) (by decide) (zcats_ok _ rfl) (Nat.le_of_ble_eq_true rfl) (zlv_ok _ 0 rfl) (fun G => ?_)
  generalize hQ_ : (fun (r_ : Option Value) (h_ : zc_H) => r_ = some (.int (rX9_liesIn_l σ a1 a2 a3)) ∧ h_ = hh P σ) = Q_
  unfold pX9_liesIn_l at W_
  refine z_iload_n dX9_liesIn_0 rfl ?_
  refine z_aloadr_n dX9_liesIn_1 rfl ?_
  refine z_iload_n dX9_liesIn_2 rfl ?_
  refine z_iald (v := ((σ 46) a3.toNatClampNeg)) dX9_liesIn_3 (zN rfl) rfl W_.1 rfl ?_
  have K_1 : zz G mX9_liesIn 0 0 0 Q_ 39 [none, none, none, none] [.int (if a1 < ((σ 46) a3.toNatClampNeg) then (0 : Int32) else (if ((σ 46) (a3 + (2 : Int32)).toNatClampNeg) < a1 then (0 : Int32) else (if a2 < ((σ 46) (a3 + (1 : Int32)).toNatClampNeg) then (0 : Int32) else (if ((σ 46) (a3 + (3 : Int32)).toNatClampNeg) < a2 then (0 : Int32) else (1 : Int32)))))] (hh P σ) 0 0 := by
    exact z_ireturn dX9_liesIn_39 rfl (by (repeat' split) <;> rfl) (Nat.le_of_ble_eq_true rfl) (Nat.le_of_ble_eq_true rfl) (by rw [← hQ_]; exact ⟨(by rw [rX9_liesIn_l]), rfl⟩)
  refine z_icmp_lt (tgt := 38) dX9_liesIn_4 (by decide) (fun c_1 => ?_) (fun c_1 => ?_)
  · refine z_iconst dX9_liesIn_38 k_iconst_0 ?_
    refine zz_sub (lv' := [none, none, none, none]) trivial ?_
    first | exact K_1 | simpa only [if_pos c_1] using K_1
  · refine z_iload_n dX9_liesIn_7 rfl ?_
    refine z_aloadr_n dX9_liesIn_8 rfl ?_
    refine z_iload_n dX9_liesIn_9 rfl ?_
    refine z_iconst dX9_liesIn_10 k_iconst_2 ?_
    refine z_iadd (v := (a3 + (2 : Int32))) dX9_liesIn_11 rfl ?_
    refine z_iald (v := ((σ 46) (a3 + (2 : Int32)).toNatClampNeg)) dX9_liesIn_12 (zN rfl) rfl ((W_.2.2 c_1).1) rfl ?_
    refine z_icmp_gt (tgt := 38) dX9_liesIn_13 (by decide) (fun c_2 => ?_) (fun c_2 => ?_)
    · refine z_iconst dX9_liesIn_38 k_iconst_0 ?_
      refine zz_sub (lv' := [none, none, none, none]) trivial ?_
      first | exact K_1 | simpa only [if_neg c_1, if_pos c_2] using K_1
    · refine z_iload_n dX9_liesIn_16 rfl ?_
      refine z_aloadr_n dX9_liesIn_17 rfl ?_
      refine z_iload_n dX9_liesIn_18 rfl ?_
      refine z_iconst dX9_liesIn_19 k_iconst_1 ?_
      refine z_iadd (v := (a3 + (1 : Int32))) dX9_liesIn_20 rfl ?_
      refine z_iald (v := ((σ 46) (a3 + (1 : Int32)).toNatClampNeg)) dX9_liesIn_21 (zN rfl) rfl (((W_.2.2 c_1).2.2 c_2).1) rfl ?_
      refine z_icmp_lt (tgt := 38) dX9_liesIn_22 (by decide) (fun c_3 => ?_) (fun c_3 => ?_)
      · refine z_iconst dX9_liesIn_38 k_iconst_0 ?_
        refine zz_sub (lv' := [none, none, none, none]) trivial ?_
        first | exact K_1 | simpa only [if_neg c_1, if_neg c_2, if_pos c_3] using K_1
      · refine z_iload_n dX9_liesIn_25 rfl ?_
        refine z_aloadr_n dX9_liesIn_26 rfl ?_
        refine z_iload_n dX9_liesIn_27 rfl ?_
        refine z_iconst dX9_liesIn_28 k_iconst_3 ?_
        refine z_iadd (v := (a3 + (3 : Int32))) dX9_liesIn_29 rfl ?_
        refine z_iald (v := ((σ 46) (a3 + (3 : Int32)).toNatClampNeg)) dX9_liesIn_30 (zN rfl) rfl (((W_.2.2 c_1).2.2 c_2).2.2 c_3) rfl ?_
        refine z_icmp_gt (tgt := 38) dX9_liesIn_31 (by decide) (fun c_4 => ?_) (fun c_4 => ?_)
        · refine z_iconst dX9_liesIn_38 k_iconst_0 ?_
          refine zz_sub (lv' := [none, none, none, none]) trivial ?_
          first | exact K_1 | simpa only [if_neg c_1, if_neg c_2, if_neg c_3, if_pos c_4] using K_1
        · refine z_iconst dX9_liesIn_34 k_iconst_1 ?_
          refine z_goto (tgt := 39) dX9_liesIn_35 (by decide) ?_
          refine zz_sub (lv' := [none, none, none, none]) trivial ?_
          first | exact K_1 | simpa only [if_neg c_1, if_neg c_2, if_neg c_3, if_neg c_4] using K_1

theorem dX9_told_0 : decode cX9_told 0 = .ok (.aload_n 0, 1) := by decide +kernel
theorem dX9_told_1 : decode cX9_told 1 = .ok (.getfield 78, 3) := by decide +kernel
theorem dX9_told_4 : decode cX9_told 4 = .ok (.ifCond .lt 22, 3) := by decide +kernel
theorem dX9_told_7 : decode cX9_told 7 = .ok (.iload_n 1, 1) := by decide +kernel
theorem dX9_told_8 : decode cX9_told 8 = .ok (.iconst 0, 1) := by decide +kernel
theorem dX9_told_9 : decode cX9_told 9 = .ok (.bipush 6, 2) := by decide +kernel
theorem dX9_told_11 : decode cX9_told 11 = .ok (.invokestatic 96, 3) := by decide +kernel
theorem dX9_told_14 : decode cX9_told 14 = .ok (.ifCond .eq 12, 3) := by decide +kernel
theorem dX9_told_17 : decode cX9_told 17 = .ok (.aload_n 0, 1) := by decide +kernel
theorem dX9_told_18 : decode cX9_told 18 = .ok (.getfield 72, 3) := by decide +kernel
theorem dX9_told_21 : decode cX9_told 21 = .ok (.iload_n 1, 1) := by decide +kernel
theorem dX9_told_22 : decode cX9_told 22 = .ok (.iaload, 1) := by decide +kernel
theorem dX9_told_23 : decode cX9_told 23 = .ok (.goto 6, 3) := by decide +kernel
theorem dX9_told_26 : decode cX9_told 26 = .ok (.sipush (-1000), 3) := by decide +kernel
theorem dX9_told_29 : decode cX9_told 29 = .ok (.ireturn, 1) := by decide +kernel
def pX9_told (σ : zc_N) (a1 : Int32) : Prop := ((((σ 32) 30) < (0 : Int32) → True) ∧ (¬ ((σ 32) 30) < (0 : Int32) → (((rX9_within a1 (0 : Int32) (6 : Int32)) = (0 : Int32) → True) ∧ (¬ (rX9_within a1 (0 : Int32) (6 : Int32)) = (0 : Int32) → vp_in a1 7))))
noncomputable def rX9_told (σ : zc_N) (a1 : Int32) : Int32 := (if ((σ 32) 30) < (0 : Int32) then (-1000 : Int32) else (if (rX9_within a1 (0 : Int32) (6 : Int32)) = (0 : Int32) then (-1000 : Int32) else ((σ 52) a1.toNatClampNeg)))
set_option maxHeartbeats 1000000 in
theorem ctX9_told (P : zp) (σ : zc_N) (a1 : Int32) (W_ : (pX9_told σ a1)) : sp mX9_told 1 0 0 [.ref 32, .int a1] (hh P σ) (fun r_ h_ => r_ = some (.int (rX9_told σ a1)) ∧ h_ = hh P σ) := by
  refine sp_of (lv := [some (.ref 32), some (.int a1)]) (by decide) (zcats_ok _ rfl) (Nat.le_of_ble_eq_true rfl) (zlv_ok _ 0 rfl) (fun G => ?_)
  generalize hQ_ : (fun (r_ : Option Value) (h_ : zc_H) => r_ = some (.int (rX9_told σ a1)) ∧ h_ = hh P σ) = Q_
  unfold pX9_told at W_
  refine z_aloadr_n dX9_told_0 rfl ?_
  refine z_get (ci := 9) (r := (RX9, TX9, 38)) (j := 30) (v := .int ((σ 32) 30)) dX9_told_1 (Nat.le_of_ble_eq_true rfl) (zN rfl) rfl rfl (Nat.le_of_ble_eq_true rfl) fl_X9_78 rfl ?_
  have K_1 : zz G mX9_told 1 0 0 Q_ 29 [none, none] [.int (if ((σ 32) 30) < (0 : Int32) then (-1000 : Int32) else (if (rX9_within a1 (0 : Int32) (6 : Int32)) = (0 : Int32) then (-1000 : Int32) else ((σ 52) a1.toNatClampNeg)))] (hh P σ) 0 0 := by
    exact z_ireturn dX9_told_29 rfl rfl (Nat.le_of_ble_eq_true rfl) (Nat.le_of_ble_eq_true rfl) (by rw [← hQ_]; exact ⟨(by rw [rX9_told]), rfl⟩)
  refine z_if_lt (tgt := 26) dX9_told_4 (by decide) (fun c_1 => ?_) (fun c_1 => ?_)
  · refine z_sipush dX9_told_26 k_sipush_m1000 ?_
    refine zz_sub (lv' := [none, none]) trivial ?_
    first | exact K_1 | simpa only [if_pos c_1] using K_1
  · refine z_iload_n dX9_told_7 rfl ?_
    refine z_iconst dX9_told_8 k_iconst_0 ?_
    refine z_bipush dX9_told_9 k_bipush_6 ?_
    refine z_callS (As := [.int a1, .int (0 : Int32), .int (6 : Int32)]) (rest := []) (ctX9_within P σ a1 (0 : Int32) (6 : Int32)) dX9_told_11 lk_X9_96 ls_X9_within rfl (Nat.le_of_ble_eq_true rfl) (Nat.le_of_ble_eq_true rfl) (Nat.le_of_ble_eq_true rfl) (Nat.le_of_ble_eq_true rfl) (fun r_ h_ e_ => ?_)
    obtain ⟨e1_, e2_⟩ := e_
    subst e1_
    subst e2_
    show zz G mX9_told 1 0 0 Q_ 14 [some (.ref 32), some (.int a1)] [.int (rX9_within a1 (0 : Int32) (6 : Int32))] (hh P σ) 0 0
    refine z_if_eq (tgt := 26) dX9_told_14 (by decide) (fun c_2 => ?_) (fun c_2 => ?_)
    · refine z_sipush dX9_told_26 k_sipush_m1000 ?_
      refine zz_sub (lv' := [none, none]) trivial ?_
      first | exact K_1 | simpa only [if_neg c_1, if_pos c_2] using K_1
    · refine z_aloadr_n dX9_told_17 rfl ?_
      refine z_get (ci := 9) (r := (RX9, TX9, 38)) (j := 28) (v := .ref 52) dX9_told_18 (Nat.le_of_ble_eq_true rfl) (zN rfl) rfl rfl (Nat.le_of_ble_eq_true rfl) fl_X9_72 rfl ?_
      refine z_iload_n dX9_told_21 rfl ?_
      refine z_iald (v := ((σ 52) a1.toNatClampNeg)) dX9_told_22 (zN rfl) rfl ((W_.2 c_1).2 c_2) rfl ?_
      refine z_goto (tgt := 29) dX9_told_23 (by decide) ?_
      refine zz_sub (lv' := [none, none]) trivial ?_
      first | exact K_1 | simpa only [if_neg c_1, if_neg c_2] using K_1

theorem dX9_pair_0 : decode cX9_pair 0 = .ok (.iload_n 1, 1) := by decide +kernel
theorem dX9_pair_1 : decode cX9_pair 1 = .ok (.ifCond .lt 20, 3) := by decide +kernel
theorem dX9_pair_4 : decode cX9_pair 4 = .ok (.iload_n 1, 1) := by decide +kernel
theorem dX9_pair_5 : decode cX9_pair 5 = .ok (.aload_n 0, 1) := by decide +kernel
theorem dX9_pair_6 : decode cX9_pair 6 = .ok (.getfield 78, 3) := by decide +kernel
theorem dX9_pair_9 : decode cX9_pair 9 = .ok (.if_icmp .ge 12, 3) := by decide +kernel
theorem dX9_pair_12 : decode cX9_pair 12 = .ok (.aload_n 0, 1) := by decide +kernel
theorem dX9_pair_13 : decode cX9_pair 13 = .ok (.getfield 75, 3) := by decide +kernel
theorem dX9_pair_16 : decode cX9_pair 16 = .ok (.iload_n 1, 1) := by decide +kernel
theorem dX9_pair_17 : decode cX9_pair 17 = .ok (.iaload, 1) := by decide +kernel
theorem dX9_pair_18 : decode cX9_pair 18 = .ok (.goto 4, 3) := by decide +kernel
theorem dX9_pair_21 : decode cX9_pair 21 = .ok (.iconst (-1), 1) := by decide +kernel
theorem dX9_pair_22 : decode cX9_pair 22 = .ok (.ireturn, 1) := by decide +kernel
def pX9_pair (σ : zc_N) (a1 : Int32) : Prop := ((a1 < (0 : Int32) → True) ∧ (¬ a1 < (0 : Int32) → ((((σ 32) 30) ≤ a1 → True) ∧ (¬ ((σ 32) 30) ≤ a1 → vp_in a1 12))))
noncomputable def rX9_pair (σ : zc_N) (a1 : Int32) : Int32 := (if a1 < (0 : Int32) then (-1 : Int32) else (if ((σ 32) 30) ≤ a1 then (-1 : Int32) else ((σ 53) a1.toNatClampNeg)))
set_option maxHeartbeats 1000000 in
theorem ctX9_pair (P : zp) (σ : zc_N) (a1 : Int32) (W_ : (pX9_pair σ a1)) : sp mX9_pair 0 0 0 [.ref 32, .int a1] (hh P σ) (fun r_ h_ => r_ = some (.int (rX9_pair σ a1)) ∧ h_ = hh P σ) := by
  refine sp_of (lv := [some (.ref 32), some (.int a1)]) (by decide) (zcats_ok _ rfl) (Nat.le_of_ble_eq_true rfl) (zlv_ok _ 0 rfl) (fun G => ?_)
  generalize hQ_ : (fun (r_ : Option Value) (h_ : zc_H) => r_ = some (.int (rX9_pair σ a1)) ∧ h_ = hh P σ) = Q_
  unfold pX9_pair at W_
  refine z_iload_n dX9_pair_0 rfl ?_
  have K_1 : zz G mX9_pair 0 0 0 Q_ 22 [none, none] [.int (if a1 < (0 : Int32) then (-1 : Int32) else (if ((σ 32) 30) ≤ a1 then (-1 : Int32) else ((σ 53) a1.toNatClampNeg)))] (hh P σ) 0 0 := by
    exact z_ireturn dX9_pair_22 rfl rfl (Nat.le_of_ble_eq_true rfl) (Nat.le_of_ble_eq_true rfl) (by rw [← hQ_]; exact ⟨(by rw [rX9_pair]), rfl⟩)
  refine z_if_lt (tgt := 21) dX9_pair_1 (by decide) (fun c_1 => ?_) (fun c_1 => ?_)
  · refine z_iconst dX9_pair_21 k_iconst_m1 ?_
    refine zz_sub (lv' := [none, none]) trivial ?_
    first | exact K_1 | simpa only [if_pos c_1] using K_1
  · refine z_iload_n dX9_pair_4 rfl ?_
    refine z_aloadr_n dX9_pair_5 rfl ?_
    refine z_get (ci := 9) (r := (RX9, TX9, 38)) (j := 30) (v := .int ((σ 32) 30)) dX9_pair_6 (Nat.le_of_ble_eq_true rfl) (zN rfl) rfl rfl (Nat.le_of_ble_eq_true rfl) fl_X9_78 rfl ?_
    refine z_icmp_ge (tgt := 21) dX9_pair_9 (by decide) (fun c_2 => ?_) (fun c_2 => ?_)
    · refine z_iconst dX9_pair_21 k_iconst_m1 ?_
      refine zz_sub (lv' := [none, none]) trivial ?_
      first | exact K_1 | simpa only [if_neg c_1, if_pos c_2] using K_1
    · refine z_aloadr_n dX9_pair_12 rfl ?_
      refine z_get (ci := 9) (r := (RX9, TX9, 38)) (j := 29) (v := .ref 53) dX9_pair_13 (Nat.le_of_ble_eq_true rfl) (zN rfl) rfl rfl (Nat.le_of_ble_eq_true rfl) fl_X9_75 rfl ?_
      refine z_iload_n dX9_pair_16 rfl ?_
      refine z_iald (v := ((σ 53) a1.toNatClampNeg)) dX9_pair_17 (zN rfl) rfl ((W_.2 c_1).2 c_2) rfl ?_
      refine z_goto (tgt := 22) dX9_pair_18 (by decide) ?_
      refine zz_sub (lv' := [none, none]) trivial ?_
      first | exact K_1 | simpa only [if_neg c_1, if_neg c_2] using K_1

theorem dX9_isTool_0 : decode cX9_isTool 0 = .ok (.iload_n 0, 1) := by decide +kernel
theorem dX9_isTool_1 : decode cX9_isTool 1 = .ok (.ifCond .lt 13, 3) := by decide +kernel
theorem dX9_isTool_4 : decode cX9_isTool 4 = .ok (.iload_n 0, 1) := by decide +kernel
theorem dX9_isTool_5 : decode cX9_isTool 5 = .ok (.bipush 10, 2) := by decide +kernel
theorem dX9_isTool_7 : decode cX9_isTool 7 = .ok (.if_icmp .ge 7, 3) := by decide +kernel
theorem dX9_isTool_10 : decode cX9_isTool 10 = .ok (.iconst 1, 1) := by decide +kernel
theorem dX9_isTool_11 : decode cX9_isTool 11 = .ok (.goto 4, 3) := by decide +kernel
theorem dX9_isTool_14 : decode cX9_isTool 14 = .ok (.iconst 0, 1) := by decide +kernel
theorem dX9_isTool_15 : decode cX9_isTool 15 = .ok (.ireturn, 1) := by decide +kernel
noncomputable def rX9_isTool (a1 : Int32) : Int32 := (if a1 < (0 : Int32) then (0 : Int32) else (if (10 : Int32) ≤ a1 then (0 : Int32) else (1 : Int32)))
set_option maxHeartbeats 1000000 in
theorem ctX9_isTool (P : zp) (σ : zc_N) (a1 : Int32) : sp mX9_isTool 0 0 0 [.int a1] (hh P σ) (fun r_ h_ => r_ = some (.int (rX9_isTool a1)) ∧ h_ = hh P σ) := by
  refine sp_of (lv := [some (.int a1)]) (by decide) (zcats_ok _ rfl) (Nat.le_of_ble_eq_true rfl) (zlv_ok _ 0 rfl) (fun G => ?_)
  generalize hQ_ : (fun (r_ : Option Value) (h_ : zc_H) => r_ = some (.int (rX9_isTool a1)) ∧ h_ = hh P σ) = Q_
  refine z_iload_n dX9_isTool_0 rfl ?_
  have K_1 : zz G mX9_isTool 0 0 0 Q_ 15 [none] [.int (if a1 < (0 : Int32) then (0 : Int32) else (if (10 : Int32) ≤ a1 then (0 : Int32) else (1 : Int32)))] (hh P σ) 0 0 := by
    exact z_ireturn dX9_isTool_15 rfl (by (repeat' split) <;> rfl) (Nat.le_of_ble_eq_true rfl) (Nat.le_of_ble_eq_true rfl) (by rw [← hQ_]; exact ⟨(by rw [rX9_isTool]), rfl⟩)
  refine z_if_lt (tgt := 14) dX9_isTool_1 (by decide) (fun c_1 => ?_) (fun c_1 => ?_)
  · refine z_iconst dX9_isTool_14 k_iconst_0 ?_
    refine zz_sub (lv' := [none]) trivial ?_
    first | exact K_1 | simpa only [if_pos c_1] using K_1
  · refine z_iload_n dX9_isTool_4 rfl ?_
    refine z_bipush dX9_isTool_5 k_bipush_10 ?_
    refine z_icmp_ge (tgt := 14) dX9_isTool_7 (by decide) (fun c_2 => ?_) (fun c_2 => ?_)
    · refine z_iconst dX9_isTool_14 k_iconst_0 ?_
      refine zz_sub (lv' := [none]) trivial ?_
      first | exact K_1 | simpa only [if_neg c_1, if_pos c_2] using K_1
    · refine z_iconst dX9_isTool_10 k_iconst_1 ?_
      refine z_goto (tgt := 15) dX9_isTool_11 (by decide) ?_
      refine zz_sub (lv' := [none]) trivial ?_
      first | exact K_1 | simpa only [if_neg c_1, if_neg c_2] using K_1

theorem dX9_reach_0 : decode cX9_reach 0 = .ok (.iload_n 1, 1) := by decide +kernel
theorem dX9_reach_1 : decode cX9_reach 1 = .ok (.iconst 0, 1) := by decide +kernel
theorem dX9_reach_2 : decode cX9_reach 2 = .ok (.iconst 3, 1) := by decide +kernel
theorem dX9_reach_3 : decode cX9_reach 3 = .ok (.invokestatic 96, 3) := by decide +kernel
theorem dX9_reach_6 : decode cX9_reach 6 = .ok (.ifCond .ne 5, 3) := by decide +kernel
theorem dX9_reach_9 : decode cX9_reach 9 = .ok (.iconst (-1), 1) := by decide +kernel
theorem dX9_reach_10 : decode cX9_reach 10 = .ok (.ireturn, 1) := by decide +kernel
theorem dX9_reach_11 : decode cX9_reach 11 = .ok (.aload_n 0, 1) := by decide +kernel
theorem dX9_reach_12 : decode cX9_reach 12 = .ok (.getfield 44, 3) := by decide +kernel
theorem dX9_reach_15 : decode cX9_reach 15 = .ok (.istore_n 2, 1) := by decide +kernel
theorem dX9_reach_16 : decode cX9_reach 16 = .ok (.aload_n 0, 1) := by decide +kernel
theorem dX9_reach_17 : decode cX9_reach 17 = .ok (.iload_n 1, 1) := by decide +kernel
theorem dX9_reach_18 : decode cX9_reach 18 = .ok (.putfield 44, 3) := by decide +kernel
theorem dX9_reach_21 : decode cX9_reach 21 = .ok (.iload_n 2, 1) := by decide +kernel
theorem dX9_reach_22 : decode cX9_reach 22 = .ok (.ireturn, 1) := by decide +kernel
noncomputable def rX9_reach (σ : zc_N) (a1 : Int32) : Int32 := (if (rX9_within a1 (0 : Int32) (3 : Int32)) = (0 : Int32) then (-1 : Int32) else ((σ 32) 12))
noncomputable def sX9_reach (σ : zc_N) (a1 : Int32) : zc_N := (if (rX9_within a1 (0 : Int32) (3 : Int32)) = (0 : Int32) then σ else (zu σ 32 (zu (σ 32) 12 a1)))
set_option maxHeartbeats 1000000 in
theorem ctX9_reach (P : zp) (σ : zc_N) (a1 : Int32) : sp mX9_reach 1 0 0 [.ref 32, .int a1] (hh P σ) (fun r_ h_ => r_ = some (.int (rX9_reach σ a1)) ∧ h_ = hh P (sX9_reach σ a1)) := by
  refine sp_of (lv := [some (.ref 32), some (.int a1), none]) (by decide) (zcats_ok _ rfl) (Nat.le_of_ble_eq_true rfl) (zlv_ok _ 1 rfl) (fun G => ?_)
  generalize hQ_ : (fun (r_ : Option Value) (h_ : zc_H) => r_ = some (.int (rX9_reach σ a1)) ∧ h_ = hh P (sX9_reach σ a1)) = Q_
  refine z_iload_n dX9_reach_0 rfl ?_
  refine z_iconst dX9_reach_1 k_iconst_0 ?_
  refine z_iconst dX9_reach_2 k_iconst_3 ?_
  refine z_callS (As := [.int a1, .int (0 : Int32), .int (3 : Int32)]) (rest := []) (ctX9_within P σ a1 (0 : Int32) (3 : Int32)) dX9_reach_3 lk_X9_96 ls_X9_within rfl (Nat.le_of_ble_eq_true rfl) (Nat.le_of_ble_eq_true rfl) (Nat.le_of_ble_eq_true rfl) (Nat.le_of_ble_eq_true rfl) (fun r_ h_ e_ => ?_)
  obtain ⟨e1_, e2_⟩ := e_
  subst e1_
  subst e2_
  show zz G mX9_reach 1 0 0 Q_ 6 [some (.ref 32), some (.int a1), none] [.int (rX9_within a1 (0 : Int32) (3 : Int32))] (hh P σ) 0 0
  refine z_if_ne (tgt := 11) dX9_reach_6 (by decide) (fun c_1 => ?_) (fun c_1 => ?_)
  · refine z_aloadr_n dX9_reach_11 rfl ?_
    refine z_get (ci := 9) (r := (RX9, TX9, 38)) (j := 12) (v := .int ((σ 32) 12)) dX9_reach_12 (Nat.le_of_ble_eq_true rfl) (zN rfl) rfl rfl (Nat.le_of_ble_eq_true rfl) fl_X9_44 rfl ?_
    refine z_istore_n (lv' := [some (.ref 32), some (.int a1), some (.int ((σ 32) 12))]) dX9_reach_15 (Nat.le_of_ble_eq_true rfl) rfl ?_
    refine z_aloadr_n dX9_reach_16 rfl ?_
    refine z_iload_n dX9_reach_17 rfl ?_
    refine z_put (ci := 9) (r := (RX9, TX9, 38)) (j := 12) (σ' := (zu σ 32 (zu (σ 32) 12 a1))) dX9_reach_18 (Nat.le_of_ble_eq_true rfl) (zN rfl) rfl rfl (Nat.le_of_ble_eq_true rfl) fl_X9_44 rfl rfl rfl rfl rfl ?_
    refine z_iload_n dX9_reach_21 rfl ?_
    exact z_ireturn dX9_reach_22 rfl rfl (Nat.le_of_ble_eq_true rfl) (Nat.le_of_ble_eq_true rfl) (by rw [← hQ_]; exact ⟨(by rw [rX9_reach]; simp only [if_neg c_1]), (by rw [sX9_reach]; simp only [if_neg c_1])⟩)
  · refine z_iconst dX9_reach_9 k_iconst_m1 ?_
    exact z_ireturn dX9_reach_10 rfl rfl (Nat.le_of_ble_eq_true rfl) (Nat.le_of_ble_eq_true rfl) (by rw [← hQ_]; exact ⟨(by rw [rX9_reach]; simp only [if_pos c_1]), (by rw [sX9_reach]; simp only [if_pos c_1])⟩)

theorem dX9_part_0 : decode cX9_part 0 = .ok (.aload_n 0, 1) := by decide +kernel
theorem dX9_part_1 : decode cX9_part 1 = .ok (.iload_n 1, 1) := by decide +kernel
theorem dX9_part_2 : decode cX9_part 2 = .ok (.invokevirtual 137, 3) := by decide +kernel
theorem dX9_part_5 : decode cX9_part 5 = .ok (.ifCond .ne 5, 3) := by decide +kernel
theorem dX9_part_8 : decode cX9_part 8 = .ok (.iconst (-1), 1) := by decide +kernel
theorem dX9_part_9 : decode cX9_part 9 = .ok (.ireturn, 1) := by decide +kernel
theorem dX9_part_10 : decode cX9_part 10 = .ok (.aload_n 0, 1) := by decide +kernel
theorem dX9_part_11 : decode cX9_part 11 = .ok (.getfield 38, 3) := by decide +kernel
theorem dX9_part_14 : decode cX9_part 14 = .ok (.iload_n 1, 1) := by decide +kernel
theorem dX9_part_15 : decode cX9_part 15 = .ok (.iaload, 1) := by decide +kernel
theorem dX9_part_16 : decode cX9_part 16 = .ok (.ifCond .ge 6, 3) := by decide +kernel
theorem dX9_part_19 : decode cX9_part 19 = .ok (.bipush (-4), 2) := by decide +kernel
theorem dX9_part_21 : decode cX9_part 21 = .ok (.ireturn, 1) := by decide +kernel
theorem dX9_part_22 : decode cX9_part 22 = .ok (.aload_n 0, 1) := by decide +kernel
theorem dX9_part_23 : decode cX9_part 23 = .ok (.getfield 38, 3) := by decide +kernel
theorem dX9_part_26 : decode cX9_part 26 = .ok (.iload_n 1, 1) := by decide +kernel
theorem dX9_part_27 : decode cX9_part 27 = .ok (.iconst (-1), 1) := by decide +kernel
theorem dX9_part_28 : decode cX9_part 28 = .ok (.iastore, 1) := by decide +kernel
theorem dX9_part_29 : decode cX9_part 29 = .ok (.aload_n 0, 1) := by decide +kernel
theorem dX9_part_30 : decode cX9_part 30 = .ok (.getfield 41, 3) := by decide +kernel
theorem dX9_part_33 : decode cX9_part 33 = .ok (.iload_n 1, 1) := by decide +kernel
theorem dX9_part_34 : decode cX9_part 34 = .ok (.iconst (-1), 1) := by decide +kernel
theorem dX9_part_35 : decode cX9_part 35 = .ok (.iastore, 1) := by decide +kernel
theorem dX9_part_36 : decode cX9_part 36 = .ok (.iconst 1, 1) := by decide +kernel
theorem dX9_part_37 : decode cX9_part 37 = .ok (.ireturn, 1) := by decide +kernel
def pX9_part (σ : zc_N) (a1 : Int32) : Prop := (((rX9_isPrint σ a1) = (0 : Int32) → True) ∧ (¬ (rX9_isPrint σ a1) = (0 : Int32) → (vp_in a1 24 ∧ (((0 : Int32) ≤ ((σ 42) a1.toNatClampNeg) → (vp_in a1 24 ∧ vp_in a1 24)) ∧ (¬ (0 : Int32) ≤ ((σ 42) a1.toNatClampNeg) → True)))))
noncomputable def rX9_part (σ : zc_N) (a1 : Int32) : Int32 := (if (rX9_isPrint σ a1) = (0 : Int32) then (-1 : Int32) else (if (0 : Int32) ≤ ((σ 42) a1.toNatClampNeg) then (1 : Int32) else (-4 : Int32)))
noncomputable def sX9_part (σ : zc_N) (a1 : Int32) : zc_N := (if (rX9_isPrint σ a1) = (0 : Int32) then σ else (if (0 : Int32) ≤ ((σ 42) a1.toNatClampNeg) then (zu (zu σ 42 (zu (σ 42) a1.toNatClampNeg (-1 : Int32))) 43 (zu (σ 43) a1.toNatClampNeg (-1 : Int32))) else σ))
set_option maxHeartbeats 1000000 in
theorem ctX9_part (P : zp) (σ : zc_N) (a1 : Int32) (W_ : (pX9_part σ a1)) : sp mX9_part 1 0 0 [.ref 32, .int a1] (hh P σ) (fun r_ h_ => r_ = some (.int (rX9_part σ a1)) ∧ h_ = hh P (sX9_part σ a1)) := by
  refine sp_of (lv := [some (.ref 32), some (.int a1)]) (by decide) (zcats_ok _ rfl) (Nat.le_of_ble_eq_true rfl) (zlv_ok _ 0 rfl) (fun G => ?_)
  generalize hQ_ : (fun (r_ : Option Value) (h_ : zc_H) => r_ = some (.int (rX9_part σ a1)) ∧ h_ = hh P (sX9_part σ a1)) = Q_
  unfold pX9_part at W_
  refine z_aloadr_n dX9_part_0 rfl ?_
  refine z_iload_n dX9_part_1 rfl ?_
  refine z_callV (ci := 9) (r := (RX9, TX9, 38)) (b := 32) (As := [.int a1]) (rest := []) (ctX9_isPrint P σ a1) dX9_part_2 lk_X9_137 lv_X9_isPrint (Nat.le_of_ble_eq_true rfl) (zN rfl) rfl rfl rfl rfl (Nat.le_of_ble_eq_true rfl) (Nat.le_of_ble_eq_true rfl) (Nat.le_of_ble_eq_true rfl) (Nat.le_of_ble_eq_true rfl) (fun r_ h_ e_ => ?_)
  obtain ⟨e1_, e2_⟩ := e_
  subst e1_
  subst e2_
  show zz G mX9_part 1 0 0 Q_ 5 [some (.ref 32), some (.int a1)] [.int (rX9_isPrint σ a1)] (hh P σ) 0 0
  refine z_if_ne (tgt := 10) dX9_part_5 (by decide) (fun c_1 => ?_) (fun c_1 => ?_)
  · refine z_aloadr_n dX9_part_10 rfl ?_
    refine z_get (ci := 9) (r := (RX9, TX9, 38)) (j := 9) (v := .ref 42) dX9_part_11 (Nat.le_of_ble_eq_true rfl) (zN rfl) rfl rfl (Nat.le_of_ble_eq_true rfl) fl_X9_38 rfl ?_
    refine z_iload_n dX9_part_14 rfl ?_
    refine z_iald (v := ((σ 42) a1.toNatClampNeg)) dX9_part_15 (zN rfl) rfl ((W_.2 c_1).1) rfl ?_
    refine z_if_ge (tgt := 22) dX9_part_16 (by decide) (fun c_2 => ?_) (fun c_2 => ?_)
    · refine z_aloadr_n dX9_part_22 rfl ?_
      refine z_get (ci := 9) (r := (RX9, TX9, 38)) (j := 9) (v := .ref 42) dX9_part_23 (Nat.le_of_ble_eq_true rfl) (zN rfl) rfl rfl (Nat.le_of_ble_eq_true rfl) fl_X9_38 rfl ?_
      refine z_iload_n dX9_part_26 rfl ?_
      refine z_iconst dX9_part_27 k_iconst_m1 ?_
      refine z_iast (σ' := (zu σ 42 (zu (σ 42) a1.toNatClampNeg (-1 : Int32)))) dX9_part_28 (Nat.le_of_ble_eq_true rfl) (zN rfl) rfl (((W_.2 c_1).2.1 c_2).1) rfl ?_
      refine z_aloadr_n dX9_part_29 rfl ?_
      refine z_get (ci := 9) (r := (RX9, TX9, 38)) (j := 10) (v := .ref 43) dX9_part_30 (Nat.le_of_ble_eq_true rfl) (zN rfl) rfl rfl (Nat.le_of_ble_eq_true rfl) fl_X9_41 rfl ?_
      refine z_iload_n dX9_part_33 rfl ?_
      refine z_iconst dX9_part_34 k_iconst_m1 ?_
      refine z_iast (σ' := (zu (zu σ 42 (zu (σ 42) a1.toNatClampNeg (-1 : Int32))) 43 (zu (σ 43) a1.toNatClampNeg (-1 : Int32)))) dX9_part_35 (Nat.le_of_ble_eq_true rfl) (zN rfl) rfl (((W_.2 c_1).2.1 c_2).2) rfl ?_
      refine z_iconst dX9_part_36 k_iconst_1 ?_
      exact z_ireturn dX9_part_37 rfl rfl (Nat.le_of_ble_eq_true rfl) (Nat.le_of_ble_eq_true rfl) (by rw [← hQ_]; exact ⟨(by rw [rX9_part]; simp only [if_neg c_1, if_pos c_2]), (by rw [sX9_part]; simp only [if_neg c_1, if_pos c_2])⟩)
    · refine z_bipush dX9_part_19 k_bipush_m4 ?_
      exact z_ireturn dX9_part_21 rfl rfl (Nat.le_of_ble_eq_true rfl) (Nat.le_of_ble_eq_true rfl) (by rw [← hQ_]; exact ⟨(by rw [rX9_part]; simp only [if_neg c_1, if_neg c_2]), (by rw [sX9_part]; simp only [if_neg c_1, if_neg c_2])⟩)
  · refine z_iconst dX9_part_8 k_iconst_m1 ?_
    exact z_ireturn dX9_part_9 rfl rfl (Nat.le_of_ble_eq_true rfl) (Nat.le_of_ble_eq_true rfl) (by rw [← hQ_]; exact ⟨(by rw [rX9_part]; simp only [if_pos c_1]), (by rw [sX9_part]; simp only [if_pos c_1])⟩)

theorem dX9_of_0 : decode cX9_of 0 = .ok (.aload_n 0, 1) := by decide +kernel
theorem dX9_of_1 : decode cX9_of 1 = .ok (.iload_n 1, 1) := by decide +kernel
theorem dX9_of_2 : decode cX9_of 2 = .ok (.invokevirtual 137, 3) := by decide +kernel
theorem dX9_of_5 : decode cX9_of 5 = .ok (.ifCond .eq 34, 3) := by decide +kernel
theorem dX9_of_8 : decode cX9_of 8 = .ok (.iload_n 2, 1) := by decide +kernel
theorem dX9_of_9 : decode cX9_of 9 = .ok (.iconst 0, 1) := by decide +kernel
theorem dX9_of_10 : decode cX9_of 10 = .ok (.iconst 1, 1) := by decide +kernel
theorem dX9_of_11 : decode cX9_of 11 = .ok (.invokestatic 96, 3) := by decide +kernel
theorem dX9_of_14 : decode cX9_of 14 = .ok (.ifCond .eq 25, 3) := by decide +kernel
theorem dX9_of_17 : decode cX9_of 17 = .ok (.iload_n 2, 1) := by decide +kernel
theorem dX9_of_18 : decode cX9_of 18 = .ok (.ifCond .ne 12, 3) := by decide +kernel
theorem dX9_of_21 : decode cX9_of 21 = .ok (.aload_n 0, 1) := by decide +kernel
theorem dX9_of_22 : decode cX9_of 22 = .ok (.getfield 38, 3) := by decide +kernel
theorem dX9_of_25 : decode cX9_of 25 = .ok (.iload_n 1, 1) := by decide +kernel
theorem dX9_of_26 : decode cX9_of 26 = .ok (.iaload, 1) := by decide +kernel
theorem dX9_of_27 : decode cX9_of 27 = .ok (.goto 15, 3) := by decide +kernel
theorem dX9_of_30 : decode cX9_of 30 = .ok (.aload_n 0, 1) := by decide +kernel
theorem dX9_of_31 : decode cX9_of 31 = .ok (.getfield 41, 3) := by decide +kernel
theorem dX9_of_34 : decode cX9_of 34 = .ok (.iload_n 1, 1) := by decide +kernel
theorem dX9_of_35 : decode cX9_of 35 = .ok (.iaload, 1) := by decide +kernel
theorem dX9_of_36 : decode cX9_of 36 = .ok (.goto 6, 3) := by decide +kernel
theorem dX9_of_39 : decode cX9_of 39 = .ok (.sipush (-1000), 3) := by decide +kernel
theorem dX9_of_42 : decode cX9_of 42 = .ok (.ireturn, 1) := by decide +kernel
def pX9_of (σ : zc_N) (a1 : Int32) (a2 : Int32) : Prop := (((rX9_isPrint σ a1) = (0 : Int32) → True) ∧ (¬ (rX9_isPrint σ a1) = (0 : Int32) → (((rX9_within a2 (0 : Int32) (1 : Int32)) = (0 : Int32) → True) ∧ (¬ (rX9_within a2 (0 : Int32) (1 : Int32)) = (0 : Int32) → ((a2 = (0 : Int32) → vp_in a1 24) ∧ (¬ a2 = (0 : Int32) → vp_in a1 24))))))
noncomputable def rX9_of (σ : zc_N) (a1 : Int32) (a2 : Int32) : Int32 := (if (rX9_isPrint σ a1) = (0 : Int32) then (-1000 : Int32) else (if (rX9_within a2 (0 : Int32) (1 : Int32)) = (0 : Int32) then (-1000 : Int32) else (if a2 = (0 : Int32) then ((σ 42) a1.toNatClampNeg) else ((σ 43) a1.toNatClampNeg))))
set_option maxHeartbeats 1000000 in
theorem ctX9_of (P : zp) (σ : zc_N) (a1 : Int32) (a2 : Int32) (W_ : (pX9_of σ a1 a2)) : sp mX9_of 1 0 0 [.ref 32, .int a1, .int a2] (hh P σ) (fun r_ h_ => r_ = some (.int (rX9_of σ a1 a2)) ∧ h_ = hh P σ) := by
  refine sp_of (lv := [some (.ref 32), some (.int a1), some (.int a2)]) (by decide) (zcats_ok _ rfl) (Nat.le_of_ble_eq_true rfl) (zlv_ok _ 0 rfl) (fun G => ?_)
  generalize hQ_ : (fun (r_ : Option Value) (h_ : zc_H) => r_ = some (.int (rX9_of σ a1 a2)) ∧ h_ = hh P σ) = Q_
  unfold pX9_of at W_
  refine z_aloadr_n dX9_of_0 rfl ?_
  refine z_iload_n dX9_of_1 rfl ?_
  refine z_callV (ci := 9) (r := (RX9, TX9, 38)) (b := 32) (As := [.int a1]) (rest := []) (ctX9_isPrint P σ a1) dX9_of_2 lk_X9_137 lv_X9_isPrint (Nat.le_of_ble_eq_true rfl) (zN rfl) rfl rfl rfl rfl (Nat.le_of_ble_eq_true rfl) (Nat.le_of_ble_eq_true rfl) (Nat.le_of_ble_eq_true rfl) (Nat.le_of_ble_eq_true rfl) (fun r_ h_ e_ => ?_)
  obtain ⟨e1_, e2_⟩ := e_
  subst e1_
  subst e2_
  show zz G mX9_of 1 0 0 Q_ 5 [some (.ref 32), some (.int a1), some (.int a2)] [.int (rX9_isPrint σ a1)] (hh P σ) 0 0
  have K_1 : zz G mX9_of 1 0 0 Q_ 42 [none, none, none] [.int (if (rX9_isPrint σ a1) = (0 : Int32) then (-1000 : Int32) else (if (rX9_within a2 (0 : Int32) (1 : Int32)) = (0 : Int32) then (-1000 : Int32) else (if a2 = (0 : Int32) then ((σ 42) a1.toNatClampNeg) else ((σ 43) a1.toNatClampNeg))))] (hh P σ) 0 0 := by
    exact z_ireturn dX9_of_42 rfl rfl (Nat.le_of_ble_eq_true rfl) (Nat.le_of_ble_eq_true rfl) (by rw [← hQ_]; exact ⟨(by rw [rX9_of]), rfl⟩)
  refine z_if_eq (tgt := 39) dX9_of_5 (by decide) (fun c_1 => ?_) (fun c_1 => ?_)
  · refine z_sipush dX9_of_39 k_sipush_m1000 ?_
    refine zz_sub (lv' := [none, none, none]) trivial ?_
    first | exact K_1 | simpa only [if_pos c_1] using K_1
  · refine z_iload_n dX9_of_8 rfl ?_
    refine z_iconst dX9_of_9 k_iconst_0 ?_
    refine z_iconst dX9_of_10 k_iconst_1 ?_
    refine z_callS (As := [.int a2, .int (0 : Int32), .int (1 : Int32)]) (rest := []) (ctX9_within P σ a2 (0 : Int32) (1 : Int32)) dX9_of_11 lk_X9_96 ls_X9_within rfl (Nat.le_of_ble_eq_true rfl) (Nat.le_of_ble_eq_true rfl) (Nat.le_of_ble_eq_true rfl) (Nat.le_of_ble_eq_true rfl) (fun r_ h_ e_ => ?_)
    obtain ⟨e1_, e2_⟩ := e_
    subst e1_
    subst e2_
    show zz G mX9_of 1 0 0 Q_ 14 [some (.ref 32), some (.int a1), some (.int a2)] [.int (rX9_within a2 (0 : Int32) (1 : Int32))] (hh P σ) 0 0
    refine z_if_eq (tgt := 39) dX9_of_14 (by decide) (fun c_2 => ?_) (fun c_2 => ?_)
    · refine z_sipush dX9_of_39 k_sipush_m1000 ?_
      refine zz_sub (lv' := [none, none, none]) trivial ?_
      first | exact K_1 | simpa only [if_neg c_1, if_pos c_2] using K_1
    · refine z_iload_n dX9_of_17 rfl ?_
      refine z_if_ne (tgt := 30) dX9_of_18 (by decide) (fun c_3 => ?_) (fun c_3 => ?_)
      · refine z_aloadr_n dX9_of_30 rfl ?_
        refine z_get (ci := 9) (r := (RX9, TX9, 38)) (j := 10) (v := .ref 43) dX9_of_31 (Nat.le_of_ble_eq_true rfl) (zN rfl) rfl rfl (Nat.le_of_ble_eq_true rfl) fl_X9_41 rfl ?_
        refine z_iload_n dX9_of_34 rfl ?_
        refine z_iald (v := ((σ 43) a1.toNatClampNeg)) dX9_of_35 (zN rfl) rfl (((W_.2 c_1).2 c_2).2 c_3) rfl ?_
        refine z_goto (tgt := 42) dX9_of_36 (by decide) ?_
        refine zz_sub (lv' := [none, none, none]) trivial ?_
        first | exact K_1 | simpa only [if_neg c_1, if_neg c_2, if_neg c_3] using K_1
      · refine z_aloadr_n dX9_of_21 rfl ?_
        refine z_get (ci := 9) (r := (RX9, TX9, 38)) (j := 9) (v := .ref 42) dX9_of_22 (Nat.le_of_ble_eq_true rfl) (zN rfl) rfl rfl (Nat.le_of_ble_eq_true rfl) fl_X9_38 rfl ?_
        refine z_iload_n dX9_of_25 rfl ?_
        refine z_iald (v := ((σ 42) a1.toNatClampNeg)) dX9_of_26 (zN rfl) rfl (((W_.2 c_1).2 c_2).1 c_3) rfl ?_
        refine z_goto (tgt := 42) dX9_of_27 (by decide) ?_
        refine zz_sub (lv' := [none, none, none]) trivial ?_
        first | exact K_1 | simpa only [if_neg c_1, if_neg c_2, if_pos c_3] using K_1

theorem dX9_struck_0 : decode cX9_struck 0 = .ok (.iload_n 1, 1) := by decide +kernel
theorem dX9_struck_1 : decode cX9_struck 1 = .ok (.ifCond .ne 10, 3) := by decide +kernel
theorem dX9_struck_4 : decode cX9_struck 4 = .ok (.aload_n 0, 1) := by decide +kernel
theorem dX9_struck_5 : decode cX9_struck 5 = .ok (.getfield 90, 3) := by decide +kernel
theorem dX9_struck_8 : decode cX9_struck 8 = .ok (.goto 16, 3) := by decide +kernel
theorem dX9_struck_11 : decode cX9_struck 11 = .ok (.iload_n 1, 1) := by decide +kernel
theorem dX9_struck_12 : decode cX9_struck 12 = .ok (.iconst 1, 1) := by decide +kernel
theorem dX9_struck_13 : decode cX9_struck 13 = .ok (.if_icmp .ne 10, 3) := by decide +kernel
theorem dX9_struck_16 : decode cX9_struck 16 = .ok (.aload_n 0, 1) := by decide +kernel
theorem dX9_struck_17 : decode cX9_struck 17 = .ok (.getfield 93, 3) := by decide +kernel
theorem dX9_struck_20 : decode cX9_struck 20 = .ok (.goto 4, 3) := by decide +kernel
theorem dX9_struck_23 : decode cX9_struck 23 = .ok (.iconst (-1), 1) := by decide +kernel
theorem dX9_struck_24 : decode cX9_struck 24 = .ok (.ireturn, 1) := by decide +kernel
noncomputable def rX9_struck (σ : zc_N) (a1 : Int32) : Int32 := (if a1 = (0 : Int32) then ((σ 32) 36) else (if a1 = (1 : Int32) then ((σ 32) 37) else (-1 : Int32)))
set_option maxHeartbeats 1000000 in
theorem ctX9_struck (P : zp) (σ : zc_N) (a1 : Int32) : sp mX9_struck 0 0 0 [.ref 32, .int a1] (hh P σ) (fun r_ h_ => r_ = some (.int (rX9_struck σ a1)) ∧ h_ = hh P σ) := by
  refine sp_of (lv := [some (.ref 32), some (.int a1)]) (by decide) (zcats_ok _ rfl) (Nat.le_of_ble_eq_true rfl) (zlv_ok _ 0 rfl) (fun G => ?_)
  generalize hQ_ : (fun (r_ : Option Value) (h_ : zc_H) => r_ = some (.int (rX9_struck σ a1)) ∧ h_ = hh P σ) = Q_
  refine z_iload_n dX9_struck_0 rfl ?_
  have K_1 : zz G mX9_struck 0 0 0 Q_ 24 [none, none] [.int (if a1 = (0 : Int32) then ((σ 32) 36) else (if a1 = (1 : Int32) then ((σ 32) 37) else (-1 : Int32)))] (hh P σ) 0 0 := by
    exact z_ireturn dX9_struck_24 rfl rfl (Nat.le_of_ble_eq_true rfl) (Nat.le_of_ble_eq_true rfl) (by rw [← hQ_]; exact ⟨(by rw [rX9_struck]), rfl⟩)
  refine z_if_ne (tgt := 11) dX9_struck_1 (by decide) (fun c_1 => ?_) (fun c_1 => ?_)
  · refine z_iload_n dX9_struck_11 rfl ?_
    refine z_iconst dX9_struck_12 k_iconst_1 ?_
    refine z_icmp_ne (tgt := 23) dX9_struck_13 (by decide) (fun c_2 => ?_) (fun c_2 => ?_)
    · refine z_iconst dX9_struck_23 k_iconst_m1 ?_
      refine zz_sub (lv' := [none, none]) trivial ?_
      first | exact K_1 | simpa only [if_neg c_1, if_neg c_2] using K_1
    · refine z_aloadr_n dX9_struck_16 rfl ?_
      refine z_get (ci := 9) (r := (RX9, TX9, 38)) (j := 37) (v := .int ((σ 32) 37)) dX9_struck_17 (Nat.le_of_ble_eq_true rfl) (zN rfl) rfl rfl (Nat.le_of_ble_eq_true rfl) fl_X9_93 rfl ?_
      refine z_goto (tgt := 24) dX9_struck_20 (by decide) ?_
      refine zz_sub (lv' := [none, none]) trivial ?_
      first | exact K_1 | simpa only [if_neg c_1, if_pos c_2] using K_1
  · refine z_aloadr_n dX9_struck_4 rfl ?_
    refine z_get (ci := 9) (r := (RX9, TX9, 38)) (j := 36) (v := .int ((σ 32) 36)) dX9_struck_5 (Nat.le_of_ble_eq_true rfl) (zN rfl) rfl rfl (Nat.le_of_ble_eq_true rfl) fl_X9_90 rfl ?_
    refine z_goto (tgt := 24) dX9_struck_8 (by decide) ?_
    refine zz_sub (lv' := [none, none]) trivial ?_
    first | exact K_1 | simpa only [if_pos c_1] using K_1

theorem dX9_point_0 : decode cX9_point 0 = .ok (.aload_n 0, 1) := by decide +kernel
theorem dX9_point_1 : decode cX9_point 1 = .ok (.iload_n 1, 1) := by decide +kernel
theorem dX9_point_2 : decode cX9_point 2 = .ok (.invokevirtual 137, 3) := by decide +kernel
theorem dX9_point_5 : decode cX9_point 5 = .ok (.ifCond .eq 20, 3) := by decide +kernel
theorem dX9_point_8 : decode cX9_point 8 = .ok (.iload_n 2, 1) := by decide +kernel
theorem dX9_point_9 : decode cX9_point 9 = .ok (.iconst (-1), 1) := by decide +kernel
theorem dX9_point_10 : decode cX9_point 10 = .ok (.if_icmp .lt 15, 3) := by decide +kernel
theorem dX9_point_13 : decode cX9_point 13 = .ok (.iload_n 2, 1) := by decide +kernel
theorem dX9_point_14 : decode cX9_point 14 = .ok (.iconst 3, 1) := by decide +kernel
theorem dX9_point_15 : decode cX9_point 15 = .ok (.aload_n 0, 1) := by decide +kernel
theorem dX9_point_16 : decode cX9_point 16 = .ok (.getfield 23, 3) := by decide +kernel
theorem dX9_point_19 : decode cX9_point 19 = .ok (.iload_n 1, 1) := by decide +kernel
theorem dX9_point_20 : decode cX9_point 20 = .ok (.iaload, 1) := by decide +kernel
theorem dX9_point_21 : decode cX9_point 21 = .ok (.imul, 1) := by decide +kernel
theorem dX9_point_22 : decode cX9_point 22 = .ok (.if_icmp .lt 5, 3) := by decide +kernel
theorem dX9_point_25 : decode cX9_point 25 = .ok (.iconst (-1), 1) := by decide +kernel
theorem dX9_point_26 : decode cX9_point 26 = .ok (.ireturn, 1) := by decide +kernel
theorem dX9_point_27 : decode cX9_point 27 = .ok (.bipush 12, 2) := by decide +kernel
theorem dX9_point_29 : decode cX9_point 29 = .ok (.iload_n 1, 1) := by decide +kernel
theorem dX9_point_30 : decode cX9_point 30 = .ok (.imul, 1) := by decide +kernel
theorem dX9_point_31 : decode cX9_point 31 = .ok (.iload_n 2, 1) := by decide +kernel
theorem dX9_point_32 : decode cX9_point 32 = .ok (.iconst 3, 1) := by decide +kernel
theorem dX9_point_33 : decode cX9_point 33 = .ok (.idiv, 1) := by decide +kernel
theorem dX9_point_34 : decode cX9_point 34 = .ok (.iadd, 1) := by decide +kernel
theorem dX9_point_35 : decode cX9_point 35 = .ok (.istore_n 3, 1) := by decide +kernel
theorem dX9_point_36 : decode cX9_point 36 = .ok (.iload_n 2, 1) := by decide +kernel
theorem dX9_point_37 : decode cX9_point 37 = .ok (.ifCond .ge 12, 3) := by decide +kernel
theorem dX9_point_40 : decode cX9_point 40 = .ok (.aload_n 0, 1) := by decide +kernel
theorem dX9_point_41 : decode cX9_point 41 = .ok (.getfield 23, 3) := by decide +kernel
theorem dX9_point_44 : decode cX9_point 44 = .ok (.iload_n 1, 1) := by decide +kernel
theorem dX9_point_45 : decode cX9_point 45 = .ok (.iaload, 1) := by decide +kernel
theorem dX9_point_46 : decode cX9_point 46 = .ok (.goto 40, 3) := by decide +kernel
theorem dX9_point_49 : decode cX9_point 49 = .ok (.iload_n 2, 1) := by decide +kernel
theorem dX9_point_50 : decode cX9_point 50 = .ok (.iconst 3, 1) := by decide +kernel
theorem dX9_point_51 : decode cX9_point 51 = .ok (.irem, 1) := by decide +kernel
theorem dX9_point_52 : decode cX9_point 52 = .ok (.ifCond .ne 12, 3) := by decide +kernel
theorem dX9_point_55 : decode cX9_point 55 = .ok (.aload_n 0, 1) := by decide +kernel
theorem dX9_point_56 : decode cX9_point 56 = .ok (.getfield 26, 3) := by decide +kernel
theorem dX9_point_59 : decode cX9_point 59 = .ok (.iload_n 3, 1) := by decide +kernel
theorem dX9_point_60 : decode cX9_point 60 = .ok (.iaload, 1) := by decide +kernel
theorem dX9_point_61 : decode cX9_point 61 = .ok (.goto 25, 3) := by decide +kernel
theorem dX9_point_64 : decode cX9_point 64 = .ok (.iload_n 2, 1) := by decide +kernel
theorem dX9_point_65 : decode cX9_point 65 = .ok (.iconst 3, 1) := by decide +kernel
theorem dX9_point_66 : decode cX9_point 66 = .ok (.irem, 1) := by decide +kernel
theorem dX9_point_67 : decode cX9_point 67 = .ok (.iconst 1, 1) := by decide +kernel
theorem dX9_point_68 : decode cX9_point 68 = .ok (.if_icmp .ne 12, 3) := by decide +kernel
theorem dX9_point_71 : decode cX9_point 71 = .ok (.aload_n 0, 1) := by decide +kernel
theorem dX9_point_72 : decode cX9_point 72 = .ok (.getfield 29, 3) := by decide +kernel
theorem dX9_point_75 : decode cX9_point 75 = .ok (.iload_n 3, 1) := by decide +kernel
theorem dX9_point_76 : decode cX9_point 76 = .ok (.iaload, 1) := by decide +kernel
theorem dX9_point_77 : decode cX9_point 77 = .ok (.goto 9, 3) := by decide +kernel
theorem dX9_point_80 : decode cX9_point 80 = .ok (.aload_n 0, 1) := by decide +kernel
theorem dX9_point_81 : decode cX9_point 81 = .ok (.getfield 32, 3) := by decide +kernel
theorem dX9_point_84 : decode cX9_point 84 = .ok (.iload_n 3, 1) := by decide +kernel
theorem dX9_point_85 : decode cX9_point 85 = .ok (.iaload, 1) := by decide +kernel
theorem dX9_point_86 : decode cX9_point 86 = .ok (.ireturn, 1) := by decide +kernel
def pX9_point (σ : zc_N) (a1 : Int32) (a2 : Int32) : Prop := (((rX9_isPrint σ a1) = (0 : Int32) → True) ∧ (¬ (rX9_isPrint σ a1) = (0 : Int32) → ((a2 < (-1 : Int32) → True) ∧ (¬ a2 < (-1 : Int32) → (vp_in a1 24 ∧ ((a2 < ((3 : Int32) * ((σ 37) a1.toNatClampNeg)) → (((0 : Int32) ≤ a2 → (((a2 - a2 / (3 : Int32) * (3 : Int32)) = (0 : Int32) → vp_in (((12 : Int32) * a1) + (a2 / (3 : Int32))) 288) ∧ (¬ (a2 - a2 / (3 : Int32) * (3 : Int32)) = (0 : Int32) → (((a2 - a2 / (3 : Int32) * (3 : Int32)) = (1 : Int32) → vp_in (((12 : Int32) * a1) + (a2 / (3 : Int32))) 288) ∧ (¬ (a2 - a2 / (3 : Int32) * (3 : Int32)) = (1 : Int32) → vp_in (((12 : Int32) * a1) + (a2 / (3 : Int32))) 288))))) ∧ (¬ (0 : Int32) ≤ a2 → vp_in a1 24))) ∧ (¬ a2 < ((3 : Int32) * ((σ 37) a1.toNatClampNeg)) → True)))))))
noncomputable def rX9_point (σ : zc_N) (a1 : Int32) (a2 : Int32) : Int32 := (if (rX9_isPrint σ a1) = (0 : Int32) then (-1 : Int32) else (if a2 < (-1 : Int32) then (-1 : Int32) else (if a2 < ((3 : Int32) * ((σ 37) a1.toNatClampNeg)) then (if (0 : Int32) ≤ a2 then (if (a2 - a2 / (3 : Int32) * (3 : Int32)) = (0 : Int32) then ((σ 38) (((12 : Int32) * a1) + (a2 / (3 : Int32))).toNatClampNeg) else (if (a2 - a2 / (3 : Int32) * (3 : Int32)) = (1 : Int32) then ((σ 39) (((12 : Int32) * a1) + (a2 / (3 : Int32))).toNatClampNeg) else ((σ 40) (((12 : Int32) * a1) + (a2 / (3 : Int32))).toNatClampNeg))) else ((σ 37) a1.toNatClampNeg)) else (-1 : Int32))))
set_option maxHeartbeats 1000000 in
theorem ctX9_point (P : zp) (σ : zc_N) (a1 : Int32) (a2 : Int32) (W_ : (pX9_point σ a1 a2)) : sp mX9_point 1 0 0 [.ref 32, .int a1, .int a2] (hh P σ) (fun r_ h_ => r_ = some (.int (rX9_point σ a1 a2)) ∧ h_ = hh P σ) := by
  refine sp_of (lv := [some (.ref 32), some (.int a1), some (.int a2), none]) (by decide) (zcats_ok _ rfl) (Nat.le_of_ble_eq_true rfl) (zlv_ok _ 1 rfl) (fun G => ?_)
  generalize hQ_ : (fun (r_ : Option Value) (h_ : zc_H) => r_ = some (.int (rX9_point σ a1 a2)) ∧ h_ = hh P σ) = Q_
  unfold pX9_point at W_
  refine z_aloadr_n dX9_point_0 rfl ?_
  refine z_iload_n dX9_point_1 rfl ?_
  refine z_callV (ci := 9) (r := (RX9, TX9, 38)) (b := 32) (As := [.int a1]) (rest := []) (ctX9_isPrint P σ a1) dX9_point_2 lk_X9_137 lv_X9_isPrint (Nat.le_of_ble_eq_true rfl) (zN rfl) rfl rfl rfl rfl (Nat.le_of_ble_eq_true rfl) (Nat.le_of_ble_eq_true rfl) (Nat.le_of_ble_eq_true rfl) (Nat.le_of_ble_eq_true rfl) (fun r_ h_ e_ => ?_)
  obtain ⟨e1_, e2_⟩ := e_
  subst e1_
  subst e2_
  show zz G mX9_point 1 0 0 Q_ 5 [some (.ref 32), some (.int a1), some (.int a2), none] [.int (rX9_isPrint σ a1)] (hh P σ) 0 0
  refine z_if_eq (tgt := 25) dX9_point_5 (by decide) (fun c_1 => ?_) (fun c_1 => ?_)
  · refine z_iconst dX9_point_25 k_iconst_m1 ?_
    exact z_ireturn dX9_point_26 rfl rfl (Nat.le_of_ble_eq_true rfl) (Nat.le_of_ble_eq_true rfl) (by rw [← hQ_]; exact ⟨(by rw [rX9_point]; simp only [if_pos c_1]), rfl⟩)
  · refine z_iload_n dX9_point_8 rfl ?_
    refine z_iconst dX9_point_9 k_iconst_m1 ?_
    refine z_icmp_lt (tgt := 25) dX9_point_10 (by decide) (fun c_2 => ?_) (fun c_2 => ?_)
    · refine z_iconst dX9_point_25 k_iconst_m1 ?_
      exact z_ireturn dX9_point_26 rfl rfl (Nat.le_of_ble_eq_true rfl) (Nat.le_of_ble_eq_true rfl) (by rw [← hQ_]; exact ⟨(by rw [rX9_point]; simp only [if_neg c_1, if_pos c_2]), rfl⟩)
    · refine z_iload_n dX9_point_13 rfl ?_
      refine z_iconst dX9_point_14 k_iconst_3 ?_
      refine z_aloadr_n dX9_point_15 rfl ?_
      refine z_get (ci := 9) (r := (RX9, TX9, 38)) (j := 4) (v := .ref 37) dX9_point_16 (Nat.le_of_ble_eq_true rfl) (zN rfl) rfl rfl (Nat.le_of_ble_eq_true rfl) fl_X9_23 rfl ?_
      refine z_iload_n dX9_point_19 rfl ?_
      refine z_iald (v := ((σ 37) a1.toNatClampNeg)) dX9_point_20 (zN rfl) rfl (((W_.2 c_1).2 c_2).1) rfl ?_
      refine z_imul (v := ((3 : Int32) * ((σ 37) a1.toNatClampNeg))) dX9_point_21 rfl ?_
      refine z_icmp_lt (tgt := 27) dX9_point_22 (by decide) (fun c_3 => ?_) (fun c_3 => ?_)
      · refine z_bipush dX9_point_27 k_bipush_12 ?_
        refine z_iload_n dX9_point_29 rfl ?_
        refine z_imul (v := ((12 : Int32) * a1)) dX9_point_30 rfl ?_
        refine z_iload_n dX9_point_31 rfl ?_
        refine z_iconst dX9_point_32 k_iconst_3 ?_
        refine z_idiv (v := (a2 / (3 : Int32))) dX9_point_33 (by decide) rfl ?_
        refine z_iadd (v := (((12 : Int32) * a1) + (a2 / (3 : Int32)))) dX9_point_34 rfl ?_
        refine z_istore_n (lv' := [some (.ref 32), some (.int a1), some (.int a2), some (.int (((12 : Int32) * a1) + (a2 / (3 : Int32))))]) dX9_point_35 (Nat.le_of_ble_eq_true rfl) rfl ?_
        refine z_iload_n dX9_point_36 rfl ?_
        have K_1 : zz G mX9_point 1 0 0 Q_ 86 [none, none, none, none] [.int (if (0 : Int32) ≤ a2 then (if (a2 - a2 / (3 : Int32) * (3 : Int32)) = (0 : Int32) then ((σ 38) (((12 : Int32) * a1) + (a2 / (3 : Int32))).toNatClampNeg) else (if (a2 - a2 / (3 : Int32) * (3 : Int32)) = (1 : Int32) then ((σ 39) (((12 : Int32) * a1) + (a2 / (3 : Int32))).toNatClampNeg) else ((σ 40) (((12 : Int32) * a1) + (a2 / (3 : Int32))).toNatClampNeg))) else ((σ 37) a1.toNatClampNeg))] (hh P σ) 0 0 := by
          exact z_ireturn dX9_point_86 rfl rfl (Nat.le_of_ble_eq_true rfl) (Nat.le_of_ble_eq_true rfl) (by rw [← hQ_]; exact ⟨(by rw [rX9_point]; simp only [if_neg c_1, if_neg c_2, if_pos c_3]), rfl⟩)
        refine z_if_ge (tgt := 49) dX9_point_37 (by decide) (fun c_4 => ?_) (fun c_4 => ?_)
        · refine z_iload_n dX9_point_49 rfl ?_
          refine z_iconst dX9_point_50 k_iconst_3 ?_
          refine z_irem (v := (a2 - a2 / (3 : Int32) * (3 : Int32))) dX9_point_51 (by decide) rfl ?_
          refine z_if_ne (tgt := 64) dX9_point_52 (by decide) (fun c_5 => ?_) (fun c_5 => ?_)
          · refine z_iload_n dX9_point_64 rfl ?_
            refine z_iconst dX9_point_65 k_iconst_3 ?_
            refine z_irem (v := (a2 - a2 / (3 : Int32) * (3 : Int32))) dX9_point_66 (by decide) rfl ?_
            refine z_iconst dX9_point_67 k_iconst_1 ?_
            refine z_icmp_ne (tgt := 80) dX9_point_68 (by decide) (fun c_6 => ?_) (fun c_6 => ?_)
            · refine z_aloadr_n dX9_point_80 rfl ?_
              refine z_get (ci := 9) (r := (RX9, TX9, 38)) (j := 7) (v := .ref 40) dX9_point_81 (Nat.le_of_ble_eq_true rfl) (zN rfl) rfl rfl (Nat.le_of_ble_eq_true rfl) fl_X9_32 rfl ?_
              refine z_iload_n dX9_point_84 rfl ?_
              refine z_iald (v := ((σ 40) (((12 : Int32) * a1) + (a2 / (3 : Int32))).toNatClampNeg)) dX9_point_85 (zN rfl) rfl ((((((W_.2 c_1).2 c_2).2.1 c_3).1 c_4).2 c_5).2 c_6) rfl ?_
              refine zz_sub (lv' := [none, none, none, none]) trivial ?_
              first | exact K_1 | simpa only [if_pos c_4, if_neg c_5, if_neg c_6] using K_1
            · refine z_aloadr_n dX9_point_71 rfl ?_
              refine z_get (ci := 9) (r := (RX9, TX9, 38)) (j := 6) (v := .ref 39) dX9_point_72 (Nat.le_of_ble_eq_true rfl) (zN rfl) rfl rfl (Nat.le_of_ble_eq_true rfl) fl_X9_29 rfl ?_
              refine z_iload_n dX9_point_75 rfl ?_
              refine z_iald (v := ((σ 39) (((12 : Int32) * a1) + (a2 / (3 : Int32))).toNatClampNeg)) dX9_point_76 (zN rfl) rfl ((((((W_.2 c_1).2 c_2).2.1 c_3).1 c_4).2 c_5).1 c_6) rfl ?_
              refine z_goto (tgt := 86) dX9_point_77 (by decide) ?_
              refine zz_sub (lv' := [none, none, none, none]) trivial ?_
              first | exact K_1 | simpa only [if_pos c_4, if_neg c_5, if_pos c_6] using K_1
          · refine z_aloadr_n dX9_point_55 rfl ?_
            refine z_get (ci := 9) (r := (RX9, TX9, 38)) (j := 5) (v := .ref 38) dX9_point_56 (Nat.le_of_ble_eq_true rfl) (zN rfl) rfl rfl (Nat.le_of_ble_eq_true rfl) fl_X9_26 rfl ?_
            refine z_iload_n dX9_point_59 rfl ?_
            refine z_iald (v := ((σ 38) (((12 : Int32) * a1) + (a2 / (3 : Int32))).toNatClampNeg)) dX9_point_60 (zN rfl) rfl (((((W_.2 c_1).2 c_2).2.1 c_3).1 c_4).1 c_5) rfl ?_
            refine z_goto (tgt := 86) dX9_point_61 (by decide) ?_
            refine zz_sub (lv' := [none, none, none, none]) trivial ?_
            first | exact K_1 | simpa only [if_pos c_4, if_pos c_5] using K_1
        · refine z_aloadr_n dX9_point_40 rfl ?_
          refine z_get (ci := 9) (r := (RX9, TX9, 38)) (j := 4) (v := .ref 37) dX9_point_41 (Nat.le_of_ble_eq_true rfl) (zN rfl) rfl rfl (Nat.le_of_ble_eq_true rfl) fl_X9_23 rfl ?_
          refine z_iload_n dX9_point_44 rfl ?_
          refine z_iald (v := ((σ 37) a1.toNatClampNeg)) dX9_point_45 (zN rfl) rfl ((((W_.2 c_1).2 c_2).2.1 c_3).2 c_4) rfl ?_
          refine z_goto (tgt := 86) dX9_point_46 (by decide) ?_
          refine zz_sub (lv' := [none, none, none, none]) trivial ?_
          first | exact K_1 | simpa only [if_neg c_4] using K_1
      · refine z_iconst dX9_point_25 k_iconst_m1 ?_
        exact z_ireturn dX9_point_26 rfl rfl (Nat.le_of_ble_eq_true rfl) (Nat.le_of_ble_eq_true rfl) (by rw [← hQ_]; exact ⟨(by rw [rX9_point]; simp only [if_neg c_1, if_neg c_2, if_neg c_3]), rfl⟩)

theorem dX3_set_0 : decode cX3_set 0 = .ok (.aload_n 0, 1) := by decide +kernel
theorem dX3_set_1 : decode cX3_set 1 = .ok (.iconst 1, 1) := by decide +kernel
theorem dX3_set_2 : decode cX3_set 2 = .ok (.putfield 9, 3) := by decide +kernel
theorem dX3_set_5 : decode cX3_set 5 = .ok (.aload_n 0, 1) := by decide +kernel
theorem dX3_set_6 : decode cX3_set 6 = .ok (.iload_n 1, 1) := by decide +kernel
theorem dX3_set_7 : decode cX3_set 7 = .ok (.putfield 15, 3) := by decide +kernel
theorem dX3_set_10 : decode cX3_set 10 = .ok (.aload_n 0, 1) := by decide +kernel
theorem dX3_set_11 : decode cX3_set 11 = .ok (.iload_n 2, 1) := by decide +kernel
theorem dX3_set_12 : decode cX3_set 12 = .ok (.putfield 19, 3) := by decide +kernel
theorem dX3_set_15 : decode cX3_set 15 = .ok (.aload_n 0, 1) := by decide +kernel
theorem dX3_set_16 : decode cX3_set 16 = .ok (.iload_n 3, 1) := by decide +kernel
theorem dX3_set_17 : decode cX3_set 17 = .ok (.putfield 22, 3) := by decide +kernel
theorem dX3_set_20 : decode cX3_set 20 = .ok (.return_, 1) := by decide +kernel
noncomputable def sX3_set_l (σ : zc_N) (a1 : Int32) (a2 : Int32) (a3 : Int32) : zc_N := (zu σ 23 (zu (zu (zu (zu (σ 23) 0 (1 : Int32)) 1 a1) 2 a2) 3 a3))
set_option maxHeartbeats 1000000 in
theorem ctX3_set_l (P : zp) (σ : zc_N) (a1 : Int32) (a2 : Int32) (a3 : Int32) : sp mX3_set 0 0 0 [.ref 23, .int a1, .int a2, .int a3] (hh P σ) (fun r_ h_ => r_ = none ∧ h_ = hh P (sX3_set_l σ a1 a2 a3)) := by
  refine sp_of (lv := [some (.ref 23), some (.int a1), some (.int a2), some (.int a3)]) (by decide) (zcats_ok _ rfl) (Nat.le_of_ble_eq_true rfl) (zlv_ok _ 0 rfl) (fun G => ?_)
  generalize hQ_ : (fun (r_ : Option Value) (h_ : zc_H) => r_ = none ∧ h_ = hh P (sX3_set_l σ a1 a2 a3)) = Q_
  refine z_aloadr_n dX3_set_0 rfl ?_
  refine z_iconst dX3_set_1 k_iconst_1 ?_
  refine z_put (ci := 3) (r := (RX3, TX3, 10)) (j := 0) (σ' := (zu σ 23 (zu (σ 23) 0 (1 : Int32)))) dX3_set_2 (Nat.le_of_ble_eq_true rfl) (zN rfl) rfl rfl (Nat.le_of_ble_eq_true rfl) fl_X3_9 rfl rfl rfl rfl rfl ?_
  refine z_aloadr_n dX3_set_5 rfl ?_
  refine z_iload_n dX3_set_6 rfl ?_
  refine z_put (ci := 3) (r := (RX3, TX3, 10)) (j := 1) (σ' := (zu σ 23 (zu (zu (σ 23) 0 (1 : Int32)) 1 a1))) dX3_set_7 (Nat.le_of_ble_eq_true rfl) (zN rfl) rfl rfl (Nat.le_of_ble_eq_true rfl) fl_X3_15 rfl rfl rfl rfl (zu_zu _ _ _ _) ?_
  refine z_aloadr_n dX3_set_10 rfl ?_
  refine z_iload_n dX3_set_11 rfl ?_
  refine z_put (ci := 3) (r := (RX3, TX3, 10)) (j := 2) (σ' := (zu σ 23 (zu (zu (zu (σ 23) 0 (1 : Int32)) 1 a1) 2 a2))) dX3_set_12 (Nat.le_of_ble_eq_true rfl) (zN rfl) rfl rfl (Nat.le_of_ble_eq_true rfl) fl_X3_19 rfl rfl rfl rfl (zu_zu _ _ _ _) ?_
  refine z_aloadr_n dX3_set_15 rfl ?_
  refine z_iload_n dX3_set_16 rfl ?_
  refine z_put (ci := 3) (r := (RX3, TX3, 10)) (j := 3) (σ' := (zu σ 23 (zu (zu (zu (zu (σ 23) 0 (1 : Int32)) 1 a1) 2 a2) 3 a3))) dX3_set_17 (Nat.le_of_ble_eq_true rfl) (zN rfl) rfl rfl (Nat.le_of_ble_eq_true rfl) fl_X3_22 rfl rfl rfl rfl (zu_zu _ _ _ _) ?_
  exact z_return dX3_set_20 rfl (Nat.le_of_ble_eq_true rfl) (Nat.le_of_ble_eq_true rfl) (by rw [← hQ_]; exact ⟨rfl, (by rw [sX3_set_l])⟩)


noncomputable def sX3_set_t (σ : zc_N) (a1 : Int32) (a2 : Int32) (a3 : Int32) : zc_N := (zu σ 25 (zu (zu (zu (zu (σ 25) 0 (1 : Int32)) 1 a1) 2 a2) 3 a3))
set_option maxHeartbeats 1000000 in
theorem ctX3_set_t (P : zp) (σ : zc_N) (a1 : Int32) (a2 : Int32) (a3 : Int32) : sp mX3_set 0 0 0 [.ref 25, .int a1, .int a2, .int a3] (hh P σ) (fun r_ h_ => r_ = none ∧ h_ = hh P (sX3_set_t σ a1 a2 a3)) := by
  refine sp_of (lv := [some (.ref 25), some (.int a1), some (.int a2), some (.int a3)]) (by decide) (zcats_ok _ rfl) (Nat.le_of_ble_eq_true rfl) (zlv_ok _ 0 rfl) (fun G => ?_)
  generalize hQ_ : (fun (r_ : Option Value) (h_ : zc_H) => r_ = none ∧ h_ = hh P (sX3_set_t σ a1 a2 a3)) = Q_
  refine z_aloadr_n dX3_set_0 rfl ?_
  refine z_iconst dX3_set_1 k_iconst_1 ?_
  refine z_put (ci := 3) (r := (RX3, TX3, 10)) (j := 0) (σ' := (zu σ 25 (zu (σ 25) 0 (1 : Int32)))) dX3_set_2 (Nat.le_of_ble_eq_true rfl) (zN rfl) rfl rfl (Nat.le_of_ble_eq_true rfl) fl_X3_9 rfl rfl rfl rfl rfl ?_
  refine z_aloadr_n dX3_set_5 rfl ?_
  refine z_iload_n dX3_set_6 rfl ?_
  refine z_put (ci := 3) (r := (RX3, TX3, 10)) (j := 1) (σ' := (zu σ 25 (zu (zu (σ 25) 0 (1 : Int32)) 1 a1))) dX3_set_7 (Nat.le_of_ble_eq_true rfl) (zN rfl) rfl rfl (Nat.le_of_ble_eq_true rfl) fl_X3_15 rfl rfl rfl rfl (zu_zu _ _ _ _) ?_
  refine z_aloadr_n dX3_set_10 rfl ?_
  refine z_iload_n dX3_set_11 rfl ?_
  refine z_put (ci := 3) (r := (RX3, TX3, 10)) (j := 2) (σ' := (zu σ 25 (zu (zu (zu (σ 25) 0 (1 : Int32)) 1 a1) 2 a2))) dX3_set_12 (Nat.le_of_ble_eq_true rfl) (zN rfl) rfl rfl (Nat.le_of_ble_eq_true rfl) fl_X3_19 rfl rfl rfl rfl (zu_zu _ _ _ _) ?_
  refine z_aloadr_n dX3_set_15 rfl ?_
  refine z_iload_n dX3_set_16 rfl ?_
  refine z_put (ci := 3) (r := (RX3, TX3, 10)) (j := 3) (σ' := (zu σ 25 (zu (zu (zu (zu (σ 25) 0 (1 : Int32)) 1 a1) 2 a2) 3 a3))) dX3_set_17 (Nat.le_of_ble_eq_true rfl) (zN rfl) rfl rfl (Nat.le_of_ble_eq_true rfl) fl_X3_22 rfl rfl rfl rfl (zu_zu _ _ _ _) ?_
  exact z_return dX3_set_20 rfl (Nat.le_of_ble_eq_true rfl) (Nat.le_of_ble_eq_true rfl) (by rw [← hQ_]; exact ⟨rfl, (by rw [sX3_set_t])⟩)

theorem dX3_lacking_0 : decode cX3_lacking 0 = .ok (.aload_n 0, 1) := by decide +kernel
theorem dX3_lacking_1 : decode cX3_lacking 1 = .ok (.getfield 37, 3) := by decide +kernel
theorem dX3_lacking_4 : decode cX3_lacking 4 = .ok (.aload_n 0, 1) := by decide +kernel
theorem dX3_lacking_5 : decode cX3_lacking 5 = .ok (.getfield 34, 3) := by decide +kernel
theorem dX3_lacking_8 : decode cX3_lacking 8 = .ok (.iconst (-1), 1) := by decide +kernel
theorem dX3_lacking_9 : decode cX3_lacking 9 = .ok (.ixor, 1) := by decide +kernel
theorem dX3_lacking_10 : decode cX3_lacking 10 = .ok (.iand, 1) := by decide +kernel
theorem dX3_lacking_11 : decode cX3_lacking 11 = .ok (.ireturn, 1) := by decide +kernel
noncomputable def rX3_lacking_l (σ : zc_N) : Int32 := (((σ 23) 8) &&& (((σ 23) 7) ^^^ (-1 : Int32)))
set_option maxHeartbeats 1000000 in
theorem ctX3_lacking_l (P : zp) (σ : zc_N) : sp mX3_lacking 0 0 0 [.ref 23] (hh P σ) (fun r_ h_ => r_ = some (.int (rX3_lacking_l σ)) ∧ h_ = hh P σ) := by
  refine sp_of (lv := [some (.ref 23)]) (by decide) (zcats_ok _ rfl) (Nat.le_of_ble_eq_true rfl) (zlv_ok _ 0 rfl) (fun G => ?_)
  generalize hQ_ : (fun (r_ : Option Value) (h_ : zc_H) => r_ = some (.int (rX3_lacking_l σ)) ∧ h_ = hh P σ) = Q_
  refine z_aloadr_n dX3_lacking_0 rfl ?_
  refine z_get (ci := 3) (r := (RX3, TX3, 10)) (j := 8) (v := .int ((σ 23) 8)) dX3_lacking_1 (Nat.le_of_ble_eq_true rfl) (zN rfl) rfl rfl (Nat.le_of_ble_eq_true rfl) fl_X3_37 rfl ?_
  refine z_aloadr_n dX3_lacking_4 rfl ?_
  refine z_get (ci := 3) (r := (RX3, TX3, 10)) (j := 7) (v := .int ((σ 23) 7)) dX3_lacking_5 (Nat.le_of_ble_eq_true rfl) (zN rfl) rfl rfl (Nat.le_of_ble_eq_true rfl) fl_X3_34 rfl ?_
  refine z_iconst dX3_lacking_8 k_iconst_m1 ?_
  refine z_ixor (v := (((σ 23) 7) ^^^ (-1 : Int32))) dX3_lacking_9 rfl ?_
  refine z_iand (v := (((σ 23) 8) &&& (((σ 23) 7) ^^^ (-1 : Int32)))) dX3_lacking_10 rfl ?_
  exact z_ireturn dX3_lacking_11 rfl rfl (Nat.le_of_ble_eq_true rfl) (Nat.le_of_ble_eq_true rfl) (by rw [← hQ_]; exact ⟨(by rw [rX3_lacking_l]), rfl⟩)


noncomputable def rX3_lacking_t (σ : zc_N) : Int32 := (((σ 25) 8) &&& (((σ 25) 7) ^^^ (-1 : Int32)))
set_option maxHeartbeats 1000000 in
theorem ctX3_lacking_t (P : zp) (σ : zc_N) : sp mX3_lacking 0 0 0 [.ref 25] (hh P σ) (fun r_ h_ => r_ = some (.int (rX3_lacking_t σ)) ∧ h_ = hh P σ) := by
  refine sp_of (lv := [some (.ref 25)]) (by decide) (zcats_ok _ rfl) (Nat.le_of_ble_eq_true rfl) (zlv_ok _ 0 rfl) (fun G => ?_)
  generalize hQ_ : (fun (r_ : Option Value) (h_ : zc_H) => r_ = some (.int (rX3_lacking_t σ)) ∧ h_ = hh P σ) = Q_
  refine z_aloadr_n dX3_lacking_0 rfl ?_
  refine z_get (ci := 3) (r := (RX3, TX3, 10)) (j := 8) (v := .int ((σ 25) 8)) dX3_lacking_1 (Nat.le_of_ble_eq_true rfl) (zN rfl) rfl rfl (Nat.le_of_ble_eq_true rfl) fl_X3_37 rfl ?_
  refine z_aloadr_n dX3_lacking_4 rfl ?_
  refine z_get (ci := 3) (r := (RX3, TX3, 10)) (j := 7) (v := .int ((σ 25) 7)) dX3_lacking_5 (Nat.le_of_ble_eq_true rfl) (zN rfl) rfl rfl (Nat.le_of_ble_eq_true rfl) fl_X3_34 rfl ?_
  refine z_iconst dX3_lacking_8 k_iconst_m1 ?_
  refine z_ixor (v := (((σ 25) 7) ^^^ (-1 : Int32))) dX3_lacking_9 rfl ?_
  refine z_iand (v := (((σ 25) 8) &&& (((σ 25) 7) ^^^ (-1 : Int32)))) dX3_lacking_10 rfl ?_
  exact z_ireturn dX3_lacking_11 rfl rfl (Nat.le_of_ble_eq_true rfl) (Nat.le_of_ble_eq_true rfl) (by rw [← hQ_]; exact ⟨(by rw [rX3_lacking_t]), rfl⟩)

theorem dX5_clear_0 : decode cX5_clear 0 = .ok (.aload_n 0, 1) := by decide +kernel
theorem dX5_clear_1 : decode cX5_clear 1 = .ok (.iconst 0, 1) := by decide +kernel
theorem dX5_clear_2 : decode cX5_clear 2 = .ok (.putfield 15, 3) := by decide +kernel
theorem dX5_clear_5 : decode cX5_clear 5 = .ok (.return_, 1) := by decide +kernel
noncomputable def sX5_clear (σ : zc_N) : zc_N := (zu σ 16 (zu (σ 16) 1 (0 : Int32)))
set_option maxHeartbeats 1000000 in
theorem ctX5_clear (P : zp) (σ : zc_N) : sp mX5_clear 0 0 0 [.ref 16] (hh P σ) (fun r_ h_ => r_ = none ∧ h_ = hh P (sX5_clear σ)) := by
  refine sp_of (lv := [some (.ref 16)]) (by decide) (zcats_ok _ rfl) (Nat.le_of_ble_eq_true rfl) (zlv_ok _ 0 rfl) (fun G => ?_)
  generalize hQ_ : (fun (r_ : Option Value) (h_ : zc_H) => r_ = none ∧ h_ = hh P (sX5_clear σ)) = Q_
  refine z_aloadr_n dX5_clear_0 rfl ?_
  refine z_iconst dX5_clear_1 k_iconst_0 ?_
  refine z_put (ci := 5) (r := (RX5, TX5, 4)) (j := 1) (σ' := (zu σ 16 (zu (σ 16) 1 (0 : Int32)))) dX5_clear_2 (Nat.le_of_ble_eq_true rfl) (zN rfl) rfl rfl (Nat.le_of_ble_eq_true rfl) fl_X5_15 rfl rfl rfl rfl rfl ?_
  exact z_return dX5_clear_5 rfl (Nat.le_of_ble_eq_true rfl) (Nat.le_of_ble_eq_true rfl) (by rw [← hQ_]; exact ⟨rfl, (by rw [sX5_clear])⟩)

theorem dX5_add_0 : decode cX5_add 0 = .ok (.aload_n 0, 1) := by decide +kernel
theorem dX5_add_1 : decode cX5_add 1 = .ok (.getfield 15, 3) := by decide +kernel
theorem dX5_add_4 : decode cX5_add 4 = .ok (.bipush 12, 2) := by decide +kernel
theorem dX5_add_6 : decode cX5_add 6 = .ok (.if_icmp .ge 23, 3) := by decide +kernel
theorem dX5_add_9 : decode cX5_add 9 = .ok (.aload_n 0, 1) := by decide +kernel
theorem dX5_add_10 : decode cX5_add 10 = .ok (.getfield 9, 3) := by decide +kernel
theorem dX5_add_13 : decode cX5_add 13 = .ok (.aload_n 0, 1) := by decide +kernel
theorem dX5_add_14 : decode cX5_add 14 = .ok (.getfield 15, 3) := by decide +kernel
theorem dX5_add_17 : decode cX5_add 17 = .ok (.iload_n 1, 1) := by decide +kernel
theorem dX5_add_18 : decode cX5_add 18 = .ok (.iastore, 1) := by decide +kernel
theorem dX5_add_19 : decode cX5_add 19 = .ok (.aload_n 0, 1) := by decide +kernel
theorem dX5_add_20 : decode cX5_add 20 = .ok (.dup, 1) := by decide +kernel
theorem dX5_add_21 : decode cX5_add 21 = .ok (.getfield 15, 3) := by decide +kernel
theorem dX5_add_24 : decode cX5_add 24 = .ok (.iconst 1, 1) := by decide +kernel
theorem dX5_add_25 : decode cX5_add 25 = .ok (.iadd, 1) := by decide +kernel
theorem dX5_add_26 : decode cX5_add 26 = .ok (.putfield 15, 3) := by decide +kernel
theorem dX5_add_29 : decode cX5_add 29 = .ok (.return_, 1) := by decide +kernel
def pX5_add (σ : zc_N) : Prop := (((12 : Int32) ≤ ((σ 16) 1) → True) ∧ (¬ (12 : Int32) ≤ ((σ 16) 1) → vp_in ((σ 16) 1) 12))
noncomputable def sX5_add (σ : zc_N) (a1 : Int32) : zc_N := (if (12 : Int32) ≤ ((σ 16) 1) then σ else (zu (zu σ 17 (zu (σ 17) ((σ 16) 1).toNatClampNeg a1)) 16 (zu (σ 16) 1 (((σ 16) 1) + (1 : Int32)))))
set_option maxHeartbeats 1000000 in
theorem ctX5_add (P : zp) (σ : zc_N) (a1 : Int32) (W_ : (pX5_add σ)) : sp mX5_add 0 0 0 [.ref 16, .int a1] (hh P σ) (fun r_ h_ => r_ = none ∧ h_ = hh P (sX5_add σ a1)) := by
  refine sp_of (lv := [some (.ref 16), some (.int a1)]) (by decide) (zcats_ok _ rfl) (Nat.le_of_ble_eq_true rfl) (zlv_ok _ 0 rfl) (fun G => ?_)
  generalize hQ_ : (fun (r_ : Option Value) (h_ : zc_H) => r_ = none ∧ h_ = hh P (sX5_add σ a1)) = Q_
  unfold pX5_add at W_
  refine z_aloadr_n dX5_add_0 rfl ?_
  refine z_get (ci := 5) (r := (RX5, TX5, 4)) (j := 1) (v := .int ((σ 16) 1)) dX5_add_1 (Nat.le_of_ble_eq_true rfl) (zN rfl) rfl rfl (Nat.le_of_ble_eq_true rfl) fl_X5_15 rfl ?_
  refine z_bipush dX5_add_4 k_bipush_12 ?_
  refine z_icmp_ge (tgt := 29) dX5_add_6 (by decide) (fun c_1 => ?_) (fun c_1 => ?_)
  · exact z_return dX5_add_29 rfl (Nat.le_of_ble_eq_true rfl) (Nat.le_of_ble_eq_true rfl) (by rw [← hQ_]; exact ⟨rfl, (by rw [sX5_add]; simp only [if_pos c_1])⟩)
  · refine z_aloadr_n dX5_add_9 rfl ?_
    refine z_get (ci := 5) (r := (RX5, TX5, 4)) (j := 0) (v := .ref 17) dX5_add_10 (Nat.le_of_ble_eq_true rfl) (zN rfl) rfl rfl (Nat.le_of_ble_eq_true rfl) fl_X5_9 rfl ?_
    refine z_aloadr_n dX5_add_13 rfl ?_
    refine z_get (ci := 5) (r := (RX5, TX5, 4)) (j := 1) (v := .int ((σ 16) 1)) dX5_add_14 (Nat.le_of_ble_eq_true rfl) (zN rfl) rfl rfl (Nat.le_of_ble_eq_true rfl) fl_X5_15 rfl ?_
    refine z_iload_n dX5_add_17 rfl ?_
    refine z_iast (σ' := (zu σ 17 (zu (σ 17) ((σ 16) 1).toNatClampNeg a1))) dX5_add_18 (Nat.le_of_ble_eq_true rfl) (zN rfl) rfl (W_.2 c_1) rfl ?_
    refine z_aloadr_n dX5_add_19 rfl ?_
    refine z_dup dX5_add_20 rfl ?_
    refine z_get (ci := 5) (r := (RX5, TX5, 4)) (j := 1) (v := .int ((σ 16) 1)) dX5_add_21 (Nat.le_of_ble_eq_true rfl) (zN rfl) rfl rfl (Nat.le_of_ble_eq_true rfl) fl_X5_15 rfl ?_
    refine z_iconst dX5_add_24 k_iconst_1 ?_
    refine z_iadd (v := (((σ 16) 1) + (1 : Int32))) dX5_add_25 rfl ?_
    refine z_put (ci := 5) (r := (RX5, TX5, 4)) (j := 1) (σ' := (zu (zu σ 17 (zu (σ 17) ((σ 16) 1).toNatClampNeg a1)) 16 (zu (σ 16) 1 (((σ 16) 1) + (1 : Int32))))) dX5_add_26 (Nat.le_of_ble_eq_true rfl) (zN rfl) rfl rfl (Nat.le_of_ble_eq_true rfl) fl_X5_15 rfl rfl rfl rfl rfl ?_
    exact z_return dX5_add_29 rfl (Nat.le_of_ble_eq_true rfl) (Nat.le_of_ble_eq_true rfl) (by rw [← hQ_]; exact ⟨rfl, (by rw [sX5_add]; simp only [if_neg c_1])⟩)

theorem dX0_near_0 : decode cX0_near 0 = .ok (.iload_n 1, 1) := by decide +kernel
theorem dX0_near_1 : decode cX0_near 1 = .ok (.iconst 3, 1) := by decide +kernel
theorem dX0_near_2 : decode cX0_near 2 = .ok (.iadd, 1) := by decide +kernel
theorem dX0_near_3 : decode cX0_near 3 = .ok (.istore 4, 2) := by decide +kernel
theorem dX0_near_5 : decode cX0_near 5 = .ok (.iload_n 2, 1) := by decide +kernel
theorem dX0_near_6 : decode cX0_near 6 = .ok (.iconst 3, 1) := by decide +kernel
theorem dX0_near_7 : decode cX0_near 7 = .ok (.iadd, 1) := by decide +kernel
theorem dX0_near_8 : decode cX0_near 8 = .ok (.istore 5, 2) := by decide +kernel
theorem dX0_near_10 : decode cX0_near 10 = .ok (.iload 4, 2) := by decide +kernel
theorem dX0_near_12 : decode cX0_near 12 = .ok (.ifCond .lt 28, 3) := by decide +kernel
theorem dX0_near_15 : decode cX0_near 15 = .ok (.iload 4, 2) := by decide +kernel
theorem dX0_near_17 : decode cX0_near 17 = .ok (.aload_n 0, 1) := by decide +kernel
theorem dX0_near_18 : decode cX0_near 18 = .ok (.getfield 9, 3) := by decide +kernel
theorem dX0_near_21 : decode cX0_near 21 = .ok (.arraylength, 1) := by decide +kernel
theorem dX0_near_22 : decode cX0_near 22 = .ok (.if_icmp .ge 18, 3) := by decide +kernel
theorem dX0_near_25 : decode cX0_near 25 = .ok (.iload 5, 2) := by decide +kernel
theorem dX0_near_27 : decode cX0_near 27 = .ok (.ifCond .lt 13, 3) := by decide +kernel
theorem dX0_near_30 : decode cX0_near 30 = .ok (.iload 5, 2) := by decide +kernel
theorem dX0_near_32 : decode cX0_near 32 = .ok (.aload_n 0, 1) := by decide +kernel
theorem dX0_near_33 : decode cX0_near 33 = .ok (.getfield 15, 3) := by decide +kernel
theorem dX0_near_36 : decode cX0_near 36 = .ok (.arraylength, 1) := by decide +kernel
theorem dX0_near_37 : decode cX0_near 37 = .ok (.if_icmp .lt 5, 3) := by decide +kernel
theorem dX0_near_40 : decode cX0_near 40 = .ok (.iconst 0, 1) := by decide +kernel
theorem dX0_near_41 : decode cX0_near 41 = .ok (.ireturn, 1) := by decide +kernel
theorem dX0_near_42 : decode cX0_near 42 = .ok (.aload_n 0, 1) := by decide +kernel
theorem dX0_near_43 : decode cX0_near 43 = .ok (.getfield 9, 3) := by decide +kernel
theorem dX0_near_46 : decode cX0_near 46 = .ok (.iload 4, 2) := by decide +kernel
theorem dX0_near_48 : decode cX0_near 48 = .ok (.iaload, 1) := by decide +kernel
theorem dX0_near_49 : decode cX0_near 49 = .ok (.aload_n 0, 1) := by decide +kernel
theorem dX0_near_50 : decode cX0_near 50 = .ok (.getfield 15, 3) := by decide +kernel
theorem dX0_near_53 : decode cX0_near 53 = .ok (.iload 5, 2) := by decide +kernel
theorem dX0_near_55 : decode cX0_near 55 = .ok (.iaload, 1) := by decide +kernel
theorem dX0_near_56 : decode cX0_near 56 = .ok (.iand, 1) := by decide +kernel
theorem dX0_near_57 : decode cX0_near 57 = .ok (.aload_n 0, 1) := by decide +kernel
theorem dX0_near_58 : decode cX0_near 58 = .ok (.getfield 18, 3) := by decide +kernel
theorem dX0_near_61 : decode cX0_near 61 = .ok (.iload_n 3, 1) := by decide +kernel
theorem dX0_near_62 : decode cX0_near 62 = .ok (.iaload, 1) := by decide +kernel
theorem dX0_near_63 : decode cX0_near 63 = .ok (.iand, 1) := by decide +kernel
theorem dX0_near_64 : decode cX0_near 64 = .ok (.ireturn, 1) := by decide +kernel
def pX0_near (a1 : Int32) (a2 : Int32) (a3 : Int32) : Prop := (((a1 + (3 : Int32)) < (0 : Int32) → True) ∧ (¬ (a1 + (3 : Int32)) < (0 : Int32) → (((22 : Int32) ≤ (a1 + (3 : Int32)) → True) ∧ (¬ (22 : Int32) ≤ (a1 + (3 : Int32)) → (((a2 + (3 : Int32)) < (0 : Int32) → True) ∧ (¬ (a2 + (3 : Int32)) < (0 : Int32) → (((a2 + (3 : Int32)) < (22 : Int32) → (vp_in (a1 + (3 : Int32)) 22 ∧ (vp_in (a2 + (3 : Int32)) 22 ∧ vp_in a3 3))) ∧ (¬ (a2 + (3 : Int32)) < (22 : Int32) → True))))))))
noncomputable def rX0_near (σ : zc_N) (a1 : Int32) (a2 : Int32) (a3 : Int32) : Int32 := (if (a1 + (3 : Int32)) < (0 : Int32) then (0 : Int32) else (if (22 : Int32) ≤ (a1 + (3 : Int32)) then (0 : Int32) else (if (a2 + (3 : Int32)) < (0 : Int32) then (0 : Int32) else (if (a2 + (3 : Int32)) < (22 : Int32) then ((((σ 13) (a1 + (3 : Int32)).toNatClampNeg) &&& ((σ 14) (a2 + (3 : Int32)).toNatClampNeg)) &&& ((σ 15) a3.toNatClampNeg)) else (0 : Int32)))))
set_option maxHeartbeats 1000000 in
theorem ctX0_near (P : zp) (σ : zc_N) (a1 : Int32) (a2 : Int32) (a3 : Int32) (W_ : (pX0_near a1 a2 a3)) : sp mX0_near 0 0 0 [.ref 12, .int a1, .int a2, .int a3] (hh P σ) (fun r_ h_ => r_ = some (.int (rX0_near σ a1 a2 a3)) ∧ h_ = hh P σ) := by
  refine sp_of (lv := [some (.ref 12), some (.int a1), some (.int a2), some (.int a3), none, none]) (by decide) (zcats_ok _ rfl) (Nat.le_of_ble_eq_true rfl) (zlv_ok _ 2 rfl) (fun G => ?_)
  generalize hQ_ : (fun (r_ : Option Value) (h_ : zc_H) => r_ = some (.int (rX0_near σ a1 a2 a3)) ∧ h_ = hh P σ) = Q_
  unfold pX0_near at W_
  refine z_iload_n dX0_near_0 rfl ?_
  refine z_iconst dX0_near_1 k_iconst_3 ?_
  refine z_iadd (v := (a1 + (3 : Int32))) dX0_near_2 rfl ?_
  refine z_istore (lv' := [some (.ref 12), some (.int a1), some (.int a2), some (.int a3), some (.int (a1 + (3 : Int32))), none]) dX0_near_3 (Nat.le_of_ble_eq_true rfl) rfl ?_
  refine z_iload_n dX0_near_5 rfl ?_
  refine z_iconst dX0_near_6 k_iconst_3 ?_
  refine z_iadd (v := (a2 + (3 : Int32))) dX0_near_7 rfl ?_
  refine z_istore (lv' := [some (.ref 12), some (.int a1), some (.int a2), some (.int a3), some (.int (a1 + (3 : Int32))), some (.int (a2 + (3 : Int32)))]) dX0_near_8 (Nat.le_of_ble_eq_true rfl) rfl ?_
  refine z_iload dX0_near_10 rfl ?_
  refine z_if_lt (tgt := 40) dX0_near_12 (by decide) (fun c_1 => ?_) (fun c_1 => ?_)
  · refine z_iconst dX0_near_40 k_iconst_0 ?_
    exact z_ireturn dX0_near_41 rfl rfl (Nat.le_of_ble_eq_true rfl) (Nat.le_of_ble_eq_true rfl) (by rw [← hQ_]; exact ⟨(by rw [rX0_near]; simp only [if_pos c_1]), rfl⟩)
  · refine z_iload dX0_near_15 rfl ?_
    refine z_aloadr_n dX0_near_17 rfl ?_
    refine z_get (ci := 0) (r := (RX0, TX0, 3)) (j := 0) (v := .ref 13) dX0_near_18 (Nat.le_of_ble_eq_true rfl) (zN rfl) rfl rfl (Nat.le_of_ble_eq_true rfl) fl_X0_9 rfl ?_
    refine z_alen0 (v := (22 : Int32)) dX0_near_21 (zN rfl) rfl rfl ?_
    refine z_icmp_ge (tgt := 40) dX0_near_22 (by decide) (fun c_2 => ?_) (fun c_2 => ?_)
    · refine z_iconst dX0_near_40 k_iconst_0 ?_
      exact z_ireturn dX0_near_41 rfl rfl (Nat.le_of_ble_eq_true rfl) (Nat.le_of_ble_eq_true rfl) (by rw [← hQ_]; exact ⟨(by rw [rX0_near]; simp only [if_neg c_1, if_pos c_2]), rfl⟩)
    · refine z_iload dX0_near_25 rfl ?_
      refine z_if_lt (tgt := 40) dX0_near_27 (by decide) (fun c_3 => ?_) (fun c_3 => ?_)
      · refine z_iconst dX0_near_40 k_iconst_0 ?_
        exact z_ireturn dX0_near_41 rfl rfl (Nat.le_of_ble_eq_true rfl) (Nat.le_of_ble_eq_true rfl) (by rw [← hQ_]; exact ⟨(by rw [rX0_near]; simp only [if_neg c_1, if_neg c_2, if_pos c_3]), rfl⟩)
      · refine z_iload dX0_near_30 rfl ?_
        refine z_aloadr_n dX0_near_32 rfl ?_
        refine z_get (ci := 0) (r := (RX0, TX0, 3)) (j := 1) (v := .ref 14) dX0_near_33 (Nat.le_of_ble_eq_true rfl) (zN rfl) rfl rfl (Nat.le_of_ble_eq_true rfl) fl_X0_15 rfl ?_
        refine z_alen0 (v := (22 : Int32)) dX0_near_36 (zN rfl) rfl rfl ?_
        refine z_icmp_lt (tgt := 42) dX0_near_37 (by decide) (fun c_4 => ?_) (fun c_4 => ?_)
        · refine z_aloadr_n dX0_near_42 rfl ?_
          refine z_get (ci := 0) (r := (RX0, TX0, 3)) (j := 0) (v := .ref 13) dX0_near_43 (Nat.le_of_ble_eq_true rfl) (zN rfl) rfl rfl (Nat.le_of_ble_eq_true rfl) fl_X0_9 rfl ?_
          refine z_iload dX0_near_46 rfl ?_
          refine z_iald (v := ((σ 13) (a1 + (3 : Int32)).toNatClampNeg)) dX0_near_48 (zN rfl) rfl (((((W_.2 c_1).2 c_2).2 c_3).1 c_4).1) rfl ?_
          refine z_aloadr_n dX0_near_49 rfl ?_
          refine z_get (ci := 0) (r := (RX0, TX0, 3)) (j := 1) (v := .ref 14) dX0_near_50 (Nat.le_of_ble_eq_true rfl) (zN rfl) rfl rfl (Nat.le_of_ble_eq_true rfl) fl_X0_15 rfl ?_
          refine z_iload dX0_near_53 rfl ?_
          refine z_iald (v := ((σ 14) (a2 + (3 : Int32)).toNatClampNeg)) dX0_near_55 (zN rfl) rfl (((((W_.2 c_1).2 c_2).2 c_3).1 c_4).2.1) rfl ?_
          refine z_iand (v := (((σ 13) (a1 + (3 : Int32)).toNatClampNeg) &&& ((σ 14) (a2 + (3 : Int32)).toNatClampNeg))) dX0_near_56 rfl ?_
          refine z_aloadr_n dX0_near_57 rfl ?_
          refine z_get (ci := 0) (r := (RX0, TX0, 3)) (j := 2) (v := .ref 15) dX0_near_58 (Nat.le_of_ble_eq_true rfl) (zN rfl) rfl rfl (Nat.le_of_ble_eq_true rfl) fl_X0_18 rfl ?_
          refine z_iload_n dX0_near_61 rfl ?_
          refine z_iald (v := ((σ 15) a3.toNatClampNeg)) dX0_near_62 (zN rfl) rfl (((((W_.2 c_1).2 c_2).2 c_3).1 c_4).2.2) rfl ?_
          refine z_iand (v := ((((σ 13) (a1 + (3 : Int32)).toNatClampNeg) &&& ((σ 14) (a2 + (3 : Int32)).toNatClampNeg)) &&& ((σ 15) a3.toNatClampNeg))) dX0_near_63 rfl ?_
          exact z_ireturn dX0_near_64 rfl rfl (Nat.le_of_ble_eq_true rfl) (Nat.le_of_ble_eq_true rfl) (by rw [← hQ_]; exact ⟨(by rw [rX0_near]; simp only [if_neg c_1, if_neg c_2, if_neg c_3, if_pos c_4]), rfl⟩)
        · refine z_iconst dX0_near_40 k_iconst_0 ?_
          exact z_ireturn dX0_near_41 rfl rfl (Nat.le_of_ble_eq_true rfl) (Nat.le_of_ble_eq_true rfl) (by rw [← hQ_]; exact ⟨(by rw [rX0_near]; simp only [if_neg c_1, if_neg c_2, if_neg c_3, if_neg c_4]), rfl⟩)

theorem dX6_holds_0 : decode cX6_holds 0 = .ok (.iload_n 1, 1) := by decide +kernel
theorem dX6_holds_1 : decode cX6_holds 1 = .ok (.aload_n 0, 1) := by decide +kernel
theorem dX6_holds_2 : decode cX6_holds 2 = .ok (.getfield 9, 3) := by decide +kernel
theorem dX6_holds_5 : decode cX6_holds 5 = .ok (.if_icmp .lt 31, 3) := by decide +kernel
theorem dX6_holds_8 : decode cX6_holds 8 = .ok (.iload_n 1, 1) := by decide +kernel
theorem dX6_holds_9 : decode cX6_holds 9 = .ok (.aload_n 0, 1) := by decide +kernel
theorem dX6_holds_10 : decode cX6_holds 10 = .ok (.getfield 18, 3) := by decide +kernel
theorem dX6_holds_13 : decode cX6_holds 13 = .ok (.if_icmp .gt 23, 3) := by decide +kernel
theorem dX6_holds_16 : decode cX6_holds 16 = .ok (.iload_n 2, 1) := by decide +kernel
theorem dX6_holds_17 : decode cX6_holds 17 = .ok (.aload_n 0, 1) := by decide +kernel
theorem dX6_holds_18 : decode cX6_holds 18 = .ok (.getfield 15, 3) := by decide +kernel
theorem dX6_holds_21 : decode cX6_holds 21 = .ok (.if_icmp .lt 15, 3) := by decide +kernel
theorem dX6_holds_24 : decode cX6_holds 24 = .ok (.iload_n 2, 1) := by decide +kernel
theorem dX6_holds_25 : decode cX6_holds 25 = .ok (.aload_n 0, 1) := by decide +kernel
theorem dX6_holds_26 : decode cX6_holds 26 = .ok (.getfield 21, 3) := by decide +kernel
theorem dX6_holds_29 : decode cX6_holds 29 = .ok (.if_icmp .gt 7, 3) := by decide +kernel
theorem dX6_holds_32 : decode cX6_holds 32 = .ok (.iconst 1, 1) := by decide +kernel
theorem dX6_holds_33 : decode cX6_holds 33 = .ok (.goto 4, 3) := by decide +kernel
theorem dX6_holds_36 : decode cX6_holds 36 = .ok (.iconst 0, 1) := by decide +kernel
theorem dX6_holds_37 : decode cX6_holds 37 = .ok (.ireturn, 1) := by decide +kernel
noncomputable def rX6_holds_t (σ : zc_N) (a1 : Int32) (a2 : Int32) : Int32 := (if a1 < ((σ 21) 0) then (0 : Int32) else (if ((σ 21) 2) < a1 then (0 : Int32) else (if a2 < ((σ 21) 1) then (0 : Int32) else (if ((σ 21) 3) < a2 then (0 : Int32) else (1 : Int32)))))
set_option maxHeartbeats 1000000 in
theorem ctX6_holds_t (P : zp) (σ : zc_N) (a1 : Int32) (a2 : Int32) : sp mX6_holds 0 0 0 [.ref 21, .int a1, .int a2] (hh P σ) (fun r_ h_ => r_ = some (.int (rX6_holds_t σ a1 a2)) ∧ h_ = hh P σ) := by
  refine sp_of (lv := [some (.ref 21), some (.int a1), some (.int a2)]) (by decide) (zcats_ok _ rfl) (Nat.le_of_ble_eq_true rfl) (zlv_ok _ 0 rfl) (fun G => ?_)
  generalize hQ_ : (fun (r_ : Option Value) (h_ : zc_H) => r_ = some (.int (rX6_holds_t σ a1 a2)) ∧ h_ = hh P σ) = Q_
  refine z_iload_n dX6_holds_0 rfl ?_
  refine z_aloadr_n dX6_holds_1 rfl ?_
  refine z_get (ci := 6) (r := (RX6, TX6, 4)) (j := 0) (v := .int ((σ 21) 0)) dX6_holds_2 (Nat.le_of_ble_eq_true rfl) (zN rfl) rfl rfl (Nat.le_of_ble_eq_true rfl) fl_X6_9 rfl ?_
  have K_1 : zz G mX6_holds 0 0 0 Q_ 37 [none, none, none] [.int (if a1 < ((σ 21) 0) then (0 : Int32) else (if ((σ 21) 2) < a1 then (0 : Int32) else (if a2 < ((σ 21) 1) then (0 : Int32) else (if ((σ 21) 3) < a2 then (0 : Int32) else (1 : Int32)))))] (hh P σ) 0 0 := by
    exact z_ireturn dX6_holds_37 rfl (by (repeat' split) <;> rfl) (Nat.le_of_ble_eq_true rfl) (Nat.le_of_ble_eq_true rfl) (by rw [← hQ_]; exact ⟨(by rw [rX6_holds_t]), rfl⟩)
  refine z_icmp_lt (tgt := 36) dX6_holds_5 (by decide) (fun c_1 => ?_) (fun c_1 => ?_)
  · refine z_iconst dX6_holds_36 k_iconst_0 ?_
    refine zz_sub (lv' := [none, none, none]) trivial ?_
    first | exact K_1 | simpa only [if_pos c_1] using K_1
  · refine z_iload_n dX6_holds_8 rfl ?_
    refine z_aloadr_n dX6_holds_9 rfl ?_
    refine z_get (ci := 6) (r := (RX6, TX6, 4)) (j := 2) (v := .int ((σ 21) 2)) dX6_holds_10 (Nat.le_of_ble_eq_true rfl) (zN rfl) rfl rfl (Nat.le_of_ble_eq_true rfl) fl_X6_18 rfl ?_
    refine z_icmp_gt (tgt := 36) dX6_holds_13 (by decide) (fun c_2 => ?_) (fun c_2 => ?_)
    · refine z_iconst dX6_holds_36 k_iconst_0 ?_
      refine zz_sub (lv' := [none, none, none]) trivial ?_
      first | exact K_1 | simpa only [if_neg c_1, if_pos c_2] using K_1
    · refine z_iload_n dX6_holds_16 rfl ?_
      refine z_aloadr_n dX6_holds_17 rfl ?_
      refine z_get (ci := 6) (r := (RX6, TX6, 4)) (j := 1) (v := .int ((σ 21) 1)) dX6_holds_18 (Nat.le_of_ble_eq_true rfl) (zN rfl) rfl rfl (Nat.le_of_ble_eq_true rfl) fl_X6_15 rfl ?_
      refine z_icmp_lt (tgt := 36) dX6_holds_21 (by decide) (fun c_3 => ?_) (fun c_3 => ?_)
      · refine z_iconst dX6_holds_36 k_iconst_0 ?_
        refine zz_sub (lv' := [none, none, none]) trivial ?_
        first | exact K_1 | simpa only [if_neg c_1, if_neg c_2, if_pos c_3] using K_1
      · refine z_iload_n dX6_holds_24 rfl ?_
        refine z_aloadr_n dX6_holds_25 rfl ?_
        refine z_get (ci := 6) (r := (RX6, TX6, 4)) (j := 3) (v := .int ((σ 21) 3)) dX6_holds_26 (Nat.le_of_ble_eq_true rfl) (zN rfl) rfl rfl (Nat.le_of_ble_eq_true rfl) fl_X6_21 rfl ?_
        refine z_icmp_gt (tgt := 36) dX6_holds_29 (by decide) (fun c_4 => ?_) (fun c_4 => ?_)
        · refine z_iconst dX6_holds_36 k_iconst_0 ?_
          refine zz_sub (lv' := [none, none, none]) trivial ?_
          first | exact K_1 | simpa only [if_neg c_1, if_neg c_2, if_neg c_3, if_pos c_4] using K_1
        · refine z_iconst dX6_holds_32 k_iconst_1 ?_
          refine z_goto (tgt := 37) dX6_holds_33 (by decide) ?_
          refine zz_sub (lv' := [none, none, none]) trivial ?_
          first | exact K_1 | simpa only [if_neg c_1, if_neg c_2, if_neg c_3, if_neg c_4] using K_1


noncomputable def rX6_holds_p (σ : zc_N) (i1 : Nat) (a2 : Int32) (a3 : Int32) : Int32 := (if a2 < ((σ (pT i1)) 0) then (0 : Int32) else (if ((σ (pT i1)) 2) < a2 then (0 : Int32) else (if a3 < ((σ (pT i1)) 1) then (0 : Int32) else (if ((σ (pT i1)) 3) < a3 then (0 : Int32) else (1 : Int32)))))
set_option maxHeartbeats 1000000 in
theorem ctX6_holds_p (P : zp) (σ : zc_N) (i1 : Nat) (h1 : i1 < P.2.1) (a2 : Int32) (a3 : Int32) : sp mX6_holds 0 0 0 [.ref (pT i1), .int a2, .int a3] (hh P σ) (fun r_ h_ => r_ = some (.int (rX6_holds_p σ i1 a2 a3)) ∧ h_ = hh P σ) := by
  refine sp_of (lv := [some (.ref (pT i1)), some (.int a2), some (.int a3)]) (by decide) (zcats_ok _ rfl) (Nat.le_of_ble_eq_true rfl) (zlv_ok _ 0 rfl) (fun G => ?_)
  generalize hQ_ : (fun (r_ : Option Value) (h_ : zc_H) => r_ = some (.int (rX6_holds_p σ i1 a2 a3)) ∧ h_ = hh P σ) = Q_
  refine z_iload_n dX6_holds_0 rfl ?_
  refine z_aloadr_n dX6_holds_1 rfl ?_
  refine z_get (ci := 6) (r := (RX6, TX6, 4)) (j := 0) (v := .int ((σ (pT i1)) 0)) dX6_holds_2 (z3T i1) (zNT h1) (SH_pT P i1) rfl (Nat.le_of_ble_eq_true rfl) fl_X6_9 rfl ?_
  have K_1 : zz G mX6_holds 0 0 0 Q_ 37 [none, none, none] [.int (if a2 < ((σ (pT i1)) 0) then (0 : Int32) else (if ((σ (pT i1)) 2) < a2 then (0 : Int32) else (if a3 < ((σ (pT i1)) 1) then (0 : Int32) else (if ((σ (pT i1)) 3) < a3 then (0 : Int32) else (1 : Int32)))))] (hh P σ) 0 0 := by
    exact z_ireturn dX6_holds_37 rfl (by (repeat' split) <;> rfl) (Nat.le_of_ble_eq_true rfl) (Nat.le_of_ble_eq_true rfl) (by rw [← hQ_]; exact ⟨(by rw [rX6_holds_p]), rfl⟩)
  refine z_icmp_lt (tgt := 36) dX6_holds_5 (by decide) (fun c_1 => ?_) (fun c_1 => ?_)
  · refine z_iconst dX6_holds_36 k_iconst_0 ?_
    refine zz_sub (lv' := [none, none, none]) trivial ?_
    first | exact K_1 | simpa only [if_pos c_1] using K_1
  · refine z_iload_n dX6_holds_8 rfl ?_
    refine z_aloadr_n dX6_holds_9 rfl ?_
    refine z_get (ci := 6) (r := (RX6, TX6, 4)) (j := 2) (v := .int ((σ (pT i1)) 2)) dX6_holds_10 (z3T i1) (zNT h1) (SH_pT P i1) rfl (Nat.le_of_ble_eq_true rfl) fl_X6_18 rfl ?_
    refine z_icmp_gt (tgt := 36) dX6_holds_13 (by decide) (fun c_2 => ?_) (fun c_2 => ?_)
    · refine z_iconst dX6_holds_36 k_iconst_0 ?_
      refine zz_sub (lv' := [none, none, none]) trivial ?_
      first | exact K_1 | simpa only [if_neg c_1, if_pos c_2] using K_1
    · refine z_iload_n dX6_holds_16 rfl ?_
      refine z_aloadr_n dX6_holds_17 rfl ?_
      refine z_get (ci := 6) (r := (RX6, TX6, 4)) (j := 1) (v := .int ((σ (pT i1)) 1)) dX6_holds_18 (z3T i1) (zNT h1) (SH_pT P i1) rfl (Nat.le_of_ble_eq_true rfl) fl_X6_15 rfl ?_
      refine z_icmp_lt (tgt := 36) dX6_holds_21 (by decide) (fun c_3 => ?_) (fun c_3 => ?_)
      · refine z_iconst dX6_holds_36 k_iconst_0 ?_
        refine zz_sub (lv' := [none, none, none]) trivial ?_
        first | exact K_1 | simpa only [if_neg c_1, if_neg c_2, if_pos c_3] using K_1
      · refine z_iload_n dX6_holds_24 rfl ?_
        refine z_aloadr_n dX6_holds_25 rfl ?_
        refine z_get (ci := 6) (r := (RX6, TX6, 4)) (j := 3) (v := .int ((σ (pT i1)) 3)) dX6_holds_26 (z3T i1) (zNT h1) (SH_pT P i1) rfl (Nat.le_of_ble_eq_true rfl) fl_X6_21 rfl ?_
        refine z_icmp_gt (tgt := 36) dX6_holds_29 (by decide) (fun c_4 => ?_) (fun c_4 => ?_)
        · refine z_iconst dX6_holds_36 k_iconst_0 ?_
          refine zz_sub (lv' := [none, none, none]) trivial ?_
          first | exact K_1 | simpa only [if_neg c_1, if_neg c_2, if_neg c_3, if_pos c_4] using K_1
        · refine z_iconst dX6_holds_32 k_iconst_1 ?_
          refine z_goto (tgt := 37) dX6_holds_33 (by decide) ?_
          refine zz_sub (lv' := [none, none, none]) trivial ?_
          first | exact K_1 | simpa only [if_neg c_1, if_neg c_2, if_neg c_3, if_neg c_4] using K_1

theorem dX6_becomeTurned_0 : decode cX6_becomeTurned 0 = .ok (.aload_n 1, 1) := by decide +kernel
theorem dX6_becomeTurned_1 : decode cX6_becomeTurned 1 = .ok (.getfield 9, 3) := by decide +kernel
theorem dX6_becomeTurned_4 : decode cX6_becomeTurned 4 = .ok (.aload_n 1, 1) := by decide +kernel
theorem dX6_becomeTurned_5 : decode cX6_becomeTurned 5 = .ok (.getfield 15, 3) := by decide +kernel
theorem dX6_becomeTurned_8 : decode cX6_becomeTurned 8 = .ok (.iload_n 2, 1) := by decide +kernel
theorem dX6_becomeTurned_9 : decode cX6_becomeTurned 9 = .ok (.invokestatic 24, 3) := by decide +kernel
theorem dX6_becomeTurned_12 : decode cX6_becomeTurned 12 = .ok (.istore_n 3, 1) := by decide +kernel
theorem dX6_becomeTurned_13 : decode cX6_becomeTurned 13 = .ok (.aload_n 1, 1) := by decide +kernel
theorem dX6_becomeTurned_14 : decode cX6_becomeTurned 14 = .ok (.getfield 18, 3) := by decide +kernel
theorem dX6_becomeTurned_17 : decode cX6_becomeTurned 17 = .ok (.aload_n 1, 1) := by decide +kernel
theorem dX6_becomeTurned_18 : decode cX6_becomeTurned 18 = .ok (.getfield 21, 3) := by decide +kernel
theorem dX6_becomeTurned_21 : decode cX6_becomeTurned 21 = .ok (.iload_n 2, 1) := by decide +kernel
theorem dX6_becomeTurned_22 : decode cX6_becomeTurned 22 = .ok (.invokestatic 24, 3) := by decide +kernel
theorem dX6_becomeTurned_25 : decode cX6_becomeTurned 25 = .ok (.istore 4, 2) := by decide +kernel
theorem dX6_becomeTurned_27 : decode cX6_becomeTurned 27 = .ok (.aload_n 1, 1) := by decide +kernel
theorem dX6_becomeTurned_28 : decode cX6_becomeTurned 28 = .ok (.getfield 9, 3) := by decide +kernel
theorem dX6_becomeTurned_31 : decode cX6_becomeTurned 31 = .ok (.aload_n 1, 1) := by decide +kernel
theorem dX6_becomeTurned_32 : decode cX6_becomeTurned 32 = .ok (.getfield 15, 3) := by decide +kernel
theorem dX6_becomeTurned_35 : decode cX6_becomeTurned 35 = .ok (.iload_n 2, 1) := by decide +kernel
theorem dX6_becomeTurned_36 : decode cX6_becomeTurned 36 = .ok (.invokestatic 28, 3) := by decide +kernel
theorem dX6_becomeTurned_39 : decode cX6_becomeTurned 39 = .ok (.istore 5, 2) := by decide +kernel
theorem dX6_becomeTurned_41 : decode cX6_becomeTurned 41 = .ok (.aload_n 1, 1) := by decide +kernel
theorem dX6_becomeTurned_42 : decode cX6_becomeTurned 42 = .ok (.getfield 18, 3) := by decide +kernel
theorem dX6_becomeTurned_45 : decode cX6_becomeTurned 45 = .ok (.aload_n 1, 1) := by decide +kernel
theorem dX6_becomeTurned_46 : decode cX6_becomeTurned 46 = .ok (.getfield 21, 3) := by decide +kernel
theorem dX6_becomeTurned_49 : decode cX6_becomeTurned 49 = .ok (.iload_n 2, 1) := by decide +kernel
theorem dX6_becomeTurned_50 : decode cX6_becomeTurned 50 = .ok (.invokestatic 28, 3) := by decide +kernel
theorem dX6_becomeTurned_53 : decode cX6_becomeTurned 53 = .ok (.istore 6, 2) := by decide +kernel
theorem dX6_becomeTurned_55 : decode cX6_becomeTurned 55 = .ok (.aload_n 0, 1) := by decide +kernel
theorem dX6_becomeTurned_56 : decode cX6_becomeTurned 56 = .ok (.iload_n 3, 1) := by decide +kernel
theorem dX6_becomeTurned_57 : decode cX6_becomeTurned 57 = .ok (.iload 4, 2) := by decide +kernel
theorem dX6_becomeTurned_59 : decode cX6_becomeTurned 59 = .ok (.invokestatic 31, 3) := by decide +kernel
theorem dX6_becomeTurned_62 : decode cX6_becomeTurned 62 = .ok (.putfield 9, 3) := by decide +kernel
theorem dX6_becomeTurned_65 : decode cX6_becomeTurned 65 = .ok (.aload_n 0, 1) := by decide +kernel
theorem dX6_becomeTurned_66 : decode cX6_becomeTurned 66 = .ok (.iload_n 3, 1) := by decide +kernel
theorem dX6_becomeTurned_67 : decode cX6_becomeTurned 67 = .ok (.iload 4, 2) := by decide +kernel
theorem dX6_becomeTurned_69 : decode cX6_becomeTurned 69 = .ok (.invokestatic 37, 3) := by decide +kernel
theorem dX6_becomeTurned_72 : decode cX6_becomeTurned 72 = .ok (.putfield 18, 3) := by decide +kernel
theorem dX6_becomeTurned_75 : decode cX6_becomeTurned 75 = .ok (.aload_n 0, 1) := by decide +kernel
theorem dX6_becomeTurned_76 : decode cX6_becomeTurned 76 = .ok (.iload 5, 2) := by decide +kernel
theorem dX6_becomeTurned_78 : decode cX6_becomeTurned 78 = .ok (.iload 6, 2) := by decide +kernel
theorem dX6_becomeTurned_80 : decode cX6_becomeTurned 80 = .ok (.invokestatic 31, 3) := by decide +kernel
theorem dX6_becomeTurned_83 : decode cX6_becomeTurned 83 = .ok (.putfield 15, 3) := by decide +kernel
theorem dX6_becomeTurned_86 : decode cX6_becomeTurned 86 = .ok (.aload_n 0, 1) := by decide +kernel
theorem dX6_becomeTurned_87 : decode cX6_becomeTurned 87 = .ok (.iload 5, 2) := by decide +kernel
theorem dX6_becomeTurned_89 : decode cX6_becomeTurned 89 = .ok (.iload 6, 2) := by decide +kernel
theorem dX6_becomeTurned_91 : decode cX6_becomeTurned 91 = .ok (.invokestatic 37, 3) := by decide +kernel
theorem dX6_becomeTurned_94 : decode cX6_becomeTurned 94 = .ok (.putfield 21, 3) := by decide +kernel
theorem dX6_becomeTurned_97 : decode cX6_becomeTurned 97 = .ok (.return_, 1) := by decide +kernel
noncomputable def sX6_becomeTurned (σ : zc_N) (i1 : Nat) (a2 : Int32) : zc_N := (zu σ 21 (zu (zu (zu (zu (σ 21) 0 (if (rX6_turnedColumn ((σ (pT i1)) 2) ((σ (pT i1)) 3) a2) < (rX6_turnedColumn ((σ (pT i1)) 0) ((σ (pT i1)) 1) a2) then (rX6_turnedColumn ((σ (pT i1)) 2) ((σ (pT i1)) 3) a2) else (rX6_turnedColumn ((σ (pT i1)) 0) ((σ (pT i1)) 1) a2))) 2 (if (rX6_turnedColumn ((σ (pT i1)) 0) ((σ (pT i1)) 1) a2) < (rX6_turnedColumn ((σ (pT i1)) 2) ((σ (pT i1)) 3) a2) then (rX6_turnedColumn ((σ (pT i1)) 2) ((σ (pT i1)) 3) a2) else (rX6_turnedColumn ((σ (pT i1)) 0) ((σ (pT i1)) 1) a2))) 1 (if (rX6_turnedRow ((σ (pT i1)) 2) ((σ (pT i1)) 3) a2) < (rX6_turnedRow ((σ (pT i1)) 0) ((σ (pT i1)) 1) a2) then (rX6_turnedRow ((σ (pT i1)) 2) ((σ (pT i1)) 3) a2) else (rX6_turnedRow ((σ (pT i1)) 0) ((σ (pT i1)) 1) a2))) 3 (if (rX6_turnedRow ((σ (pT i1)) 0) ((σ (pT i1)) 1) a2) < (rX6_turnedRow ((σ (pT i1)) 2) ((σ (pT i1)) 3) a2) then (rX6_turnedRow ((σ (pT i1)) 2) ((σ (pT i1)) 3) a2) else (rX6_turnedRow ((σ (pT i1)) 0) ((σ (pT i1)) 1) a2))))
set_option maxHeartbeats 1000000 in
theorem ctX6_becomeTurned (P : zp) (σ : zc_N) (i1 : Nat) (h1 : i1 < P.2.1) (a2 : Int32) : sp mX6_becomeTurned 1 0 0 [.ref 21, .ref (pT i1), .int a2] (hh P σ) (fun r_ h_ => r_ = none ∧ h_ = hh P (sX6_becomeTurned σ i1 a2)) := by
  refine sp_of (lv := [some (.ref 21), some (.ref (pT i1)), some (.int a2), none, none, none, none]) (by decide) (zcats_ok _ rfl) (Nat.le_of_ble_eq_true rfl) (zlv_ok _ 4 rfl) (fun G => ?_)
  generalize hQ_ : (fun (r_ : Option Value) (h_ : zc_H) => r_ = none ∧ h_ = hh P (sX6_becomeTurned σ i1 a2)) = Q_
  refine z_aloadr_n dX6_becomeTurned_0 rfl ?_
  refine z_get (ci := 6) (r := (RX6, TX6, 4)) (j := 0) (v := .int ((σ (pT i1)) 0)) dX6_becomeTurned_1 (z3T i1) (zNT h1) (SH_pT P i1) rfl (Nat.le_of_ble_eq_true rfl) fl_X6_9 rfl ?_
  refine z_aloadr_n dX6_becomeTurned_4 rfl ?_
  refine z_get (ci := 6) (r := (RX6, TX6, 4)) (j := 1) (v := .int ((σ (pT i1)) 1)) dX6_becomeTurned_5 (z3T i1) (zNT h1) (SH_pT P i1) rfl (Nat.le_of_ble_eq_true rfl) fl_X6_15 rfl ?_
  refine z_iload_n dX6_becomeTurned_8 rfl ?_
  refine z_callS (As := [.int ((σ (pT i1)) 0), .int ((σ (pT i1)) 1), .int a2]) (rest := []) (ctX6_turnedColumn P σ ((σ (pT i1)) 0) ((σ (pT i1)) 1) a2) dX6_becomeTurned_9 lk_X6_24 ls_X6_turnedColumn rfl (Nat.le_of_ble_eq_true rfl) (Nat.le_of_ble_eq_true rfl) (Nat.le_of_ble_eq_true rfl) (Nat.le_of_ble_eq_true rfl) (fun r_ h_ e_ => ?_)
  obtain ⟨e1_, e2_⟩ := e_
  subst e1_
  subst e2_
  show zz G mX6_becomeTurned 1 0 0 Q_ 12 [some (.ref 21), some (.ref (pT i1)), some (.int a2), none, none, none, none] [.int (rX6_turnedColumn ((σ (pT i1)) 0) ((σ (pT i1)) 1) a2)] (hh P σ) 0 0
  refine z_istore_n (lv' := [some (.ref 21), some (.ref (pT i1)), some (.int a2), some (.int (rX6_turnedColumn ((σ (pT i1)) 0) ((σ (pT i1)) 1) a2)), none, none, none]) dX6_becomeTurned_12 (Nat.le_of_ble_eq_true rfl) rfl ?_
  refine z_aloadr_n dX6_becomeTurned_13 rfl ?_
  refine z_get (ci := 6) (r := (RX6, TX6, 4)) (j := 2) (v := .int ((σ (pT i1)) 2)) dX6_becomeTurned_14 (z3T i1) (zNT h1) (SH_pT P i1) rfl (Nat.le_of_ble_eq_true rfl) fl_X6_18 rfl ?_
  refine z_aloadr_n dX6_becomeTurned_17 rfl ?_
  refine z_get (ci := 6) (r := (RX6, TX6, 4)) (j := 3) (v := .int ((σ (pT i1)) 3)) dX6_becomeTurned_18 (z3T i1) (zNT h1) (SH_pT P i1) rfl (Nat.le_of_ble_eq_true rfl) fl_X6_21 rfl ?_
  refine z_iload_n dX6_becomeTurned_21 rfl ?_
  refine z_callS (As := [.int ((σ (pT i1)) 2), .int ((σ (pT i1)) 3), .int a2]) (rest := []) (ctX6_turnedColumn P σ ((σ (pT i1)) 2) ((σ (pT i1)) 3) a2) dX6_becomeTurned_22 lk_X6_24 ls_X6_turnedColumn rfl (Nat.le_of_ble_eq_true rfl) (Nat.le_of_ble_eq_true rfl) (Nat.le_of_ble_eq_true rfl) (Nat.le_of_ble_eq_true rfl) (fun r_ h_ e_ => ?_)
  obtain ⟨e1_, e2_⟩ := e_
  subst e1_
  subst e2_
  show zz G mX6_becomeTurned 1 0 0 Q_ 25 [some (.ref 21), some (.ref (pT i1)), some (.int a2), some (.int (rX6_turnedColumn ((σ (pT i1)) 0) ((σ (pT i1)) 1) a2)), none, none, none] [.int (rX6_turnedColumn ((σ (pT i1)) 2) ((σ (pT i1)) 3) a2)] (hh P σ) 0 0
  refine z_istore (lv' := [some (.ref 21), some (.ref (pT i1)), some (.int a2), some (.int (rX6_turnedColumn ((σ (pT i1)) 0) ((σ (pT i1)) 1) a2)), some (.int (rX6_turnedColumn ((σ (pT i1)) 2) ((σ (pT i1)) 3) a2)), none, none]) dX6_becomeTurned_25 (Nat.le_of_ble_eq_true rfl) rfl ?_
  refine z_aloadr_n dX6_becomeTurned_27 rfl ?_
  refine z_get (ci := 6) (r := (RX6, TX6, 4)) (j := 0) (v := .int ((σ (pT i1)) 0)) dX6_becomeTurned_28 (z3T i1) (zNT h1) (SH_pT P i1) rfl (Nat.le_of_ble_eq_true rfl) fl_X6_9 rfl ?_
  refine z_aloadr_n dX6_becomeTurned_31 rfl ?_
  refine z_get (ci := 6) (r := (RX6, TX6, 4)) (j := 1) (v := .int ((σ (pT i1)) 1)) dX6_becomeTurned_32 (z3T i1) (zNT h1) (SH_pT P i1) rfl (Nat.le_of_ble_eq_true rfl) fl_X6_15 rfl ?_
  refine z_iload_n dX6_becomeTurned_35 rfl ?_
  refine z_callS (As := [.int ((σ (pT i1)) 0), .int ((σ (pT i1)) 1), .int a2]) (rest := []) (ctX6_turnedRow P σ ((σ (pT i1)) 0) ((σ (pT i1)) 1) a2) dX6_becomeTurned_36 lk_X6_28 ls_X6_turnedRow rfl (Nat.le_of_ble_eq_true rfl) (Nat.le_of_ble_eq_true rfl) (Nat.le_of_ble_eq_true rfl) (Nat.le_of_ble_eq_true rfl) (fun r_ h_ e_ => ?_)
  obtain ⟨e1_, e2_⟩ := e_
  subst e1_
  subst e2_
  show zz G mX6_becomeTurned 1 0 0 Q_ 39 [some (.ref 21), some (.ref (pT i1)), some (.int a2), some (.int (rX6_turnedColumn ((σ (pT i1)) 0) ((σ (pT i1)) 1) a2)), some (.int (rX6_turnedColumn ((σ (pT i1)) 2) ((σ (pT i1)) 3) a2)), none, none] [.int (rX6_turnedRow ((σ (pT i1)) 0) ((σ (pT i1)) 1) a2)] (hh P σ) 0 0
  refine z_istore (lv' := [some (.ref 21), some (.ref (pT i1)), some (.int a2), some (.int (rX6_turnedColumn ((σ (pT i1)) 0) ((σ (pT i1)) 1) a2)), some (.int (rX6_turnedColumn ((σ (pT i1)) 2) ((σ (pT i1)) 3) a2)), some (.int (rX6_turnedRow ((σ (pT i1)) 0) ((σ (pT i1)) 1) a2)), none]) dX6_becomeTurned_39 (Nat.le_of_ble_eq_true rfl) rfl ?_
  refine z_aloadr_n dX6_becomeTurned_41 rfl ?_
  refine z_get (ci := 6) (r := (RX6, TX6, 4)) (j := 2) (v := .int ((σ (pT i1)) 2)) dX6_becomeTurned_42 (z3T i1) (zNT h1) (SH_pT P i1) rfl (Nat.le_of_ble_eq_true rfl) fl_X6_18 rfl ?_
  refine z_aloadr_n dX6_becomeTurned_45 rfl ?_
  refine z_get (ci := 6) (r := (RX6, TX6, 4)) (j := 3) (v := .int ((σ (pT i1)) 3)) dX6_becomeTurned_46 (z3T i1) (zNT h1) (SH_pT P i1) rfl (Nat.le_of_ble_eq_true rfl) fl_X6_21 rfl ?_
  refine z_iload_n dX6_becomeTurned_49 rfl ?_
  refine z_callS (As := [.int ((σ (pT i1)) 2), .int ((σ (pT i1)) 3), .int a2]) (rest := []) (ctX6_turnedRow P σ ((σ (pT i1)) 2) ((σ (pT i1)) 3) a2) dX6_becomeTurned_50 lk_X6_28 ls_X6_turnedRow rfl (Nat.le_of_ble_eq_true rfl) (Nat.le_of_ble_eq_true rfl) (Nat.le_of_ble_eq_true rfl) (Nat.le_of_ble_eq_true rfl) (fun r_ h_ e_ => ?_)
  obtain ⟨e1_, e2_⟩ := e_
  subst e1_
  subst e2_
  show zz G mX6_becomeTurned 1 0 0 Q_ 53 [some (.ref 21), some (.ref (pT i1)), some (.int a2), some (.int (rX6_turnedColumn ((σ (pT i1)) 0) ((σ (pT i1)) 1) a2)), some (.int (rX6_turnedColumn ((σ (pT i1)) 2) ((σ (pT i1)) 3) a2)), some (.int (rX6_turnedRow ((σ (pT i1)) 0) ((σ (pT i1)) 1) a2)), none] [.int (rX6_turnedRow ((σ (pT i1)) 2) ((σ (pT i1)) 3) a2)] (hh P σ) 0 0
  refine z_istore (lv' := [some (.ref 21), some (.ref (pT i1)), some (.int a2), some (.int (rX6_turnedColumn ((σ (pT i1)) 0) ((σ (pT i1)) 1) a2)), some (.int (rX6_turnedColumn ((σ (pT i1)) 2) ((σ (pT i1)) 3) a2)), some (.int (rX6_turnedRow ((σ (pT i1)) 0) ((σ (pT i1)) 1) a2)), some (.int (rX6_turnedRow ((σ (pT i1)) 2) ((σ (pT i1)) 3) a2))]) dX6_becomeTurned_53 (Nat.le_of_ble_eq_true rfl) rfl ?_
  refine z_aloadr_n dX6_becomeTurned_55 rfl ?_
  refine z_iload_n dX6_becomeTurned_56 rfl ?_
  refine z_iload dX6_becomeTurned_57 rfl ?_
  refine z_mmin dX6_becomeTurned_59 lk_X6_31 (Nat.le_of_ble_eq_true rfl) (Nat.le_of_ble_eq_true rfl) (Nat.le_of_ble_eq_true rfl) (Nat.le_of_ble_eq_true rfl) ?_
  refine z_put (ci := 6) (r := (RX6, TX6, 4)) (j := 0) (σ' := (zu σ 21 (zu (σ 21) 0 (if (rX6_turnedColumn ((σ (pT i1)) 2) ((σ (pT i1)) 3) a2) < (rX6_turnedColumn ((σ (pT i1)) 0) ((σ (pT i1)) 1) a2) then (rX6_turnedColumn ((σ (pT i1)) 2) ((σ (pT i1)) 3) a2) else (rX6_turnedColumn ((σ (pT i1)) 0) ((σ (pT i1)) 1) a2))))) dX6_becomeTurned_62 (Nat.le_of_ble_eq_true rfl) (zN rfl) rfl rfl (Nat.le_of_ble_eq_true rfl) fl_X6_9 rfl rfl rfl rfl rfl ?_
  refine z_aloadr_n dX6_becomeTurned_65 rfl ?_
  refine z_iload_n dX6_becomeTurned_66 rfl ?_
  refine z_iload dX6_becomeTurned_67 rfl ?_
  refine z_mmax dX6_becomeTurned_69 lk_X6_37 (Nat.le_of_ble_eq_true rfl) (Nat.le_of_ble_eq_true rfl) (Nat.le_of_ble_eq_true rfl) (Nat.le_of_ble_eq_true rfl) ?_
  refine z_put (ci := 6) (r := (RX6, TX6, 4)) (j := 2) (σ' := (zu σ 21 (zu (zu (σ 21) 0 (if (rX6_turnedColumn ((σ (pT i1)) 2) ((σ (pT i1)) 3) a2) < (rX6_turnedColumn ((σ (pT i1)) 0) ((σ (pT i1)) 1) a2) then (rX6_turnedColumn ((σ (pT i1)) 2) ((σ (pT i1)) 3) a2) else (rX6_turnedColumn ((σ (pT i1)) 0) ((σ (pT i1)) 1) a2))) 2 (if (rX6_turnedColumn ((σ (pT i1)) 0) ((σ (pT i1)) 1) a2) < (rX6_turnedColumn ((σ (pT i1)) 2) ((σ (pT i1)) 3) a2) then (rX6_turnedColumn ((σ (pT i1)) 2) ((σ (pT i1)) 3) a2) else (rX6_turnedColumn ((σ (pT i1)) 0) ((σ (pT i1)) 1) a2))))) dX6_becomeTurned_72 (Nat.le_of_ble_eq_true rfl) (zN rfl) rfl rfl (Nat.le_of_ble_eq_true rfl) fl_X6_18 rfl rfl rfl rfl (zu_zu _ _ _ _) ?_
  refine z_aloadr_n dX6_becomeTurned_75 rfl ?_
  refine z_iload dX6_becomeTurned_76 rfl ?_
  refine z_iload dX6_becomeTurned_78 rfl ?_
  refine z_mmin dX6_becomeTurned_80 lk_X6_31 (Nat.le_of_ble_eq_true rfl) (Nat.le_of_ble_eq_true rfl) (Nat.le_of_ble_eq_true rfl) (Nat.le_of_ble_eq_true rfl) ?_
  refine z_put (ci := 6) (r := (RX6, TX6, 4)) (j := 1) (σ' := (zu σ 21 (zu (zu (zu (σ 21) 0 (if (rX6_turnedColumn ((σ (pT i1)) 2) ((σ (pT i1)) 3) a2) < (rX6_turnedColumn ((σ (pT i1)) 0) ((σ (pT i1)) 1) a2) then (rX6_turnedColumn ((σ (pT i1)) 2) ((σ (pT i1)) 3) a2) else (rX6_turnedColumn ((σ (pT i1)) 0) ((σ (pT i1)) 1) a2))) 2 (if (rX6_turnedColumn ((σ (pT i1)) 0) ((σ (pT i1)) 1) a2) < (rX6_turnedColumn ((σ (pT i1)) 2) ((σ (pT i1)) 3) a2) then (rX6_turnedColumn ((σ (pT i1)) 2) ((σ (pT i1)) 3) a2) else (rX6_turnedColumn ((σ (pT i1)) 0) ((σ (pT i1)) 1) a2))) 1 (if (rX6_turnedRow ((σ (pT i1)) 2) ((σ (pT i1)) 3) a2) < (rX6_turnedRow ((σ (pT i1)) 0) ((σ (pT i1)) 1) a2) then (rX6_turnedRow ((σ (pT i1)) 2) ((σ (pT i1)) 3) a2) else (rX6_turnedRow ((σ (pT i1)) 0) ((σ (pT i1)) 1) a2))))) dX6_becomeTurned_83 (Nat.le_of_ble_eq_true rfl) (zN rfl) rfl rfl (Nat.le_of_ble_eq_true rfl) fl_X6_15 rfl rfl rfl rfl (zu_zu _ _ _ _) ?_
  refine z_aloadr_n dX6_becomeTurned_86 rfl ?_
  refine z_iload dX6_becomeTurned_87 rfl ?_
  refine z_iload dX6_becomeTurned_89 rfl ?_
  refine z_mmax dX6_becomeTurned_91 lk_X6_37 (Nat.le_of_ble_eq_true rfl) (Nat.le_of_ble_eq_true rfl) (Nat.le_of_ble_eq_true rfl) (Nat.le_of_ble_eq_true rfl) ?_
  refine z_put (ci := 6) (r := (RX6, TX6, 4)) (j := 3) (σ' := (zu σ 21 (zu (zu (zu (zu (σ 21) 0 (if (rX6_turnedColumn ((σ (pT i1)) 2) ((σ (pT i1)) 3) a2) < (rX6_turnedColumn ((σ (pT i1)) 0) ((σ (pT i1)) 1) a2) then (rX6_turnedColumn ((σ (pT i1)) 2) ((σ (pT i1)) 3) a2) else (rX6_turnedColumn ((σ (pT i1)) 0) ((σ (pT i1)) 1) a2))) 2 (if (rX6_turnedColumn ((σ (pT i1)) 0) ((σ (pT i1)) 1) a2) < (rX6_turnedColumn ((σ (pT i1)) 2) ((σ (pT i1)) 3) a2) then (rX6_turnedColumn ((σ (pT i1)) 2) ((σ (pT i1)) 3) a2) else (rX6_turnedColumn ((σ (pT i1)) 0) ((σ (pT i1)) 1) a2))) 1 (if (rX6_turnedRow ((σ (pT i1)) 2) ((σ (pT i1)) 3) a2) < (rX6_turnedRow ((σ (pT i1)) 0) ((σ (pT i1)) 1) a2) then (rX6_turnedRow ((σ (pT i1)) 2) ((σ (pT i1)) 3) a2) else (rX6_turnedRow ((σ (pT i1)) 0) ((σ (pT i1)) 1) a2))) 3 (if (rX6_turnedRow ((σ (pT i1)) 0) ((σ (pT i1)) 1) a2) < (rX6_turnedRow ((σ (pT i1)) 2) ((σ (pT i1)) 3) a2) then (rX6_turnedRow ((σ (pT i1)) 2) ((σ (pT i1)) 3) a2) else (rX6_turnedRow ((σ (pT i1)) 0) ((σ (pT i1)) 1) a2))))) dX6_becomeTurned_94 (Nat.le_of_ble_eq_true rfl) (zN rfl) rfl rfl (Nat.le_of_ble_eq_true rfl) fl_X6_21 rfl rfl rfl rfl (zu_zu _ _ _ _) ?_
  exact z_return dX6_becomeTurned_97 rfl (Nat.le_of_ble_eq_true rfl) (Nat.le_of_ble_eq_true rfl) (by rw [← hQ_]; exact ⟨rfl, (by rw [sX6_becomeTurned])⟩)

theorem dX7_size_0 : decode cX7_size 0 = .ok (.aload_n 0, 1) := by decide +kernel
theorem dX7_size_1 : decode cX7_size 1 = .ok (.getfield 21, 3) := by decide +kernel
theorem dX7_size_4 : decode cX7_size 4 = .ok (.arraylength, 1) := by decide +kernel
theorem dX7_size_5 : decode cX7_size 5 = .ok (.ireturn, 1) := by decide +kernel
noncomputable def rX7_size (P : zp) (i1 : Nat) : Int32 := (Int32.ofNat (P.2.2 i1))
set_option maxHeartbeats 1000000 in
theorem ctX7_size (P : zp) (σ : zc_N) (i1 : Nat) (h1 : i1 < P.2.1) : sp mX7_size 0 0 0 [.ref (pO i1)] (hh P σ) (fun r_ h_ => r_ = some (.int (rX7_size P i1)) ∧ h_ = hh P σ) := by
  refine sp_of (lv := [some (.ref (pO i1))]) (by decide) (zcats_ok _ rfl) (Nat.le_of_ble_eq_true rfl) (zlv_ok _ 0 rfl) (fun G => ?_)
  generalize hQ_ : (fun (r_ : Option Value) (h_ : zc_H) => r_ = some (.int (rX7_size P i1)) ∧ h_ = hh P σ) = Q_
  refine z_aloadr_n dX7_size_0 rfl ?_
  refine z_get (ci := 7) (r := (RX7, TX7, 5)) (j := 1) (v := .ref (pP i1)) dX7_size_1 (z3O i1) (zNO h1) (SH_pO P i1) rfl (Nat.le_of_ble_eq_true rfl) fl_X7_21 rfl ?_
  refine z_alen0 (v := (Int32.ofNat (P.2.2 i1))) dX7_size_4 (zNP h1) (SH_pP P i1) rfl ?_
  exact z_ireturn dX7_size_5 rfl rfl (Nat.le_of_ble_eq_true rfl) (Nat.le_of_ble_eq_true rfl) (by rw [← hQ_]; exact ⟨(by rw [rX7_size]), rfl⟩)

theorem dX7_columnOf_0 : decode cX7_columnOf 0 = .ok (.aload_n 0, 1) := by decide +kernel
theorem dX7_columnOf_1 : decode cX7_columnOf 1 = .ok (.getfield 21, 3) := by decide +kernel
theorem dX7_columnOf_4 : decode cX7_columnOf 4 = .ok (.iload_n 1, 1) := by decide +kernel
theorem dX7_columnOf_5 : decode cX7_columnOf 5 = .ok (.iaload, 1) := by decide +kernel
theorem dX7_columnOf_6 : decode cX7_columnOf 6 = .ok (.bipush 15, 2) := by decide +kernel
theorem dX7_columnOf_8 : decode cX7_columnOf 8 = .ok (.iand, 1) := by decide +kernel
theorem dX7_columnOf_9 : decode cX7_columnOf 9 = .ok (.ireturn, 1) := by decide +kernel
def pX7_columnOf (P : zp) (i1 : Nat) (a2 : Int32) : Prop := vp_in a2 (P.2.2 i1)
noncomputable def rX7_columnOf (σ : zc_N) (i1 : Nat) (a2 : Int32) : Int32 := (((σ (pP i1)) a2.toNatClampNeg) &&& (15 : Int32))
set_option maxHeartbeats 1000000 in
theorem ctX7_columnOf (P : zp) (σ : zc_N) (i1 : Nat) (h1 : i1 < P.2.1) (a2 : Int32) (W_ : (pX7_columnOf P i1 a2)) : sp mX7_columnOf 0 0 0 [.ref (pO i1), .int a2] (hh P σ) (fun r_ h_ => r_ = some (.int (rX7_columnOf σ i1 a2)) ∧ h_ = hh P σ) := by
  refine sp_of (lv := [some (.ref (pO i1)), some (.int a2)]) (by decide) (zcats_ok _ rfl) (Nat.le_of_ble_eq_true rfl) (zlv_ok _ 0 rfl) (fun G => ?_)
  generalize hQ_ : (fun (r_ : Option Value) (h_ : zc_H) => r_ = some (.int (rX7_columnOf σ i1 a2)) ∧ h_ = hh P σ) = Q_
  unfold pX7_columnOf at W_
  refine z_aloadr_n dX7_columnOf_0 rfl ?_
  refine z_get (ci := 7) (r := (RX7, TX7, 5)) (j := 1) (v := .ref (pP i1)) dX7_columnOf_1 (z3O i1) (zNO h1) (SH_pO P i1) rfl (Nat.le_of_ble_eq_true rfl) fl_X7_21 rfl ?_
  refine z_iload_n dX7_columnOf_4 rfl ?_
  refine z_iald (v := ((σ (pP i1)) a2.toNatClampNeg)) dX7_columnOf_5 (zNP h1) (SH_pP P i1) W_ rfl ?_
  refine z_bipush dX7_columnOf_6 k_bipush_15 ?_
  refine z_iand (v := (((σ (pP i1)) a2.toNatClampNeg) &&& (15 : Int32))) dX7_columnOf_8 rfl ?_
  exact z_ireturn dX7_columnOf_9 rfl rfl (Nat.le_of_ble_eq_true rfl) (Nat.le_of_ble_eq_true rfl) (by rw [← hQ_]; exact ⟨(by rw [rX7_columnOf]), rfl⟩)

theorem dX7_rowOf_0 : decode cX7_rowOf 0 = .ok (.aload_n 0, 1) := by decide +kernel
theorem dX7_rowOf_1 : decode cX7_rowOf 1 = .ok (.getfield 21, 3) := by decide +kernel
theorem dX7_rowOf_4 : decode cX7_rowOf 4 = .ok (.iload_n 1, 1) := by decide +kernel
theorem dX7_rowOf_5 : decode cX7_rowOf 5 = .ok (.iaload, 1) := by decide +kernel
theorem dX7_rowOf_6 : decode cX7_rowOf 6 = .ok (.iconst 4, 1) := by decide +kernel
theorem dX7_rowOf_7 : decode cX7_rowOf 7 = .ok (.ishr, 1) := by decide +kernel
theorem dX7_rowOf_8 : decode cX7_rowOf 8 = .ok (.bipush 15, 2) := by decide +kernel
theorem dX7_rowOf_10 : decode cX7_rowOf 10 = .ok (.iand, 1) := by decide +kernel
theorem dX7_rowOf_11 : decode cX7_rowOf 11 = .ok (.ireturn, 1) := by decide +kernel
def pX7_rowOf (P : zp) (i1 : Nat) (a2 : Int32) : Prop := vp_in a2 (P.2.2 i1)
noncomputable def rX7_rowOf (σ : zc_N) (i1 : Nat) (a2 : Int32) : Int32 := ((zshr ((σ (pP i1)) a2.toNatClampNeg) (4 : Int32)) &&& (15 : Int32))
set_option maxHeartbeats 1000000 in
theorem ctX7_rowOf (P : zp) (σ : zc_N) (i1 : Nat) (h1 : i1 < P.2.1) (a2 : Int32) (W_ : (pX7_rowOf P i1 a2)) : sp mX7_rowOf 0 0 0 [.ref (pO i1), .int a2] (hh P σ) (fun r_ h_ => r_ = some (.int (rX7_rowOf σ i1 a2)) ∧ h_ = hh P σ) := by
  refine sp_of (lv := [some (.ref (pO i1)), some (.int a2)]) (by decide) (zcats_ok _ rfl) (Nat.le_of_ble_eq_true rfl) (zlv_ok _ 0 rfl) (fun G => ?_)
  generalize hQ_ : (fun (r_ : Option Value) (h_ : zc_H) => r_ = some (.int (rX7_rowOf σ i1 a2)) ∧ h_ = hh P σ) = Q_
  unfold pX7_rowOf at W_
  refine z_aloadr_n dX7_rowOf_0 rfl ?_
  refine z_get (ci := 7) (r := (RX7, TX7, 5)) (j := 1) (v := .ref (pP i1)) dX7_rowOf_1 (z3O i1) (zNO h1) (SH_pO P i1) rfl (Nat.le_of_ble_eq_true rfl) fl_X7_21 rfl ?_
  refine z_iload_n dX7_rowOf_4 rfl ?_
  refine z_iald (v := ((σ (pP i1)) a2.toNatClampNeg)) dX7_rowOf_5 (zNP h1) (SH_pP P i1) W_ rfl ?_
  refine z_iconst dX7_rowOf_6 k_iconst_4 ?_
  refine z_ishr (v := (zshr ((σ (pP i1)) a2.toNatClampNeg) (4 : Int32))) dX7_rowOf_7 rfl ?_
  refine z_bipush dX7_rowOf_8 k_bipush_15 ?_
  refine z_iand (v := ((zshr ((σ (pP i1)) a2.toNatClampNeg) (4 : Int32)) &&& (15 : Int32))) dX7_rowOf_10 rfl ?_
  exact z_ireturn dX7_rowOf_11 rfl rfl (Nat.le_of_ble_eq_true rfl) (Nat.le_of_ble_eq_true rfl) (by rw [← hQ_]; exact ⟨(by rw [rX7_rowOf]), rfl⟩)

theorem dX7_kindOf_0 : decode cX7_kindOf 0 = .ok (.aload_n 0, 1) := by decide +kernel
theorem dX7_kindOf_1 : decode cX7_kindOf 1 = .ok (.getfield 21, 3) := by decide +kernel
theorem dX7_kindOf_4 : decode cX7_kindOf 4 = .ok (.iload_n 1, 1) := by decide +kernel
theorem dX7_kindOf_5 : decode cX7_kindOf 5 = .ok (.iaload, 1) := by decide +kernel
theorem dX7_kindOf_6 : decode cX7_kindOf 6 = .ok (.bipush 8, 2) := by decide +kernel
theorem dX7_kindOf_8 : decode cX7_kindOf 8 = .ok (.ishr, 1) := by decide +kernel
theorem dX7_kindOf_9 : decode cX7_kindOf 9 = .ok (.ireturn, 1) := by decide +kernel
def pX7_kindOf (P : zp) (i1 : Nat) (a2 : Int32) : Prop := vp_in a2 (P.2.2 i1)
noncomputable def rX7_kindOf (σ : zc_N) (i1 : Nat) (a2 : Int32) : Int32 := (zshr ((σ (pP i1)) a2.toNatClampNeg) (8 : Int32))
set_option maxHeartbeats 1000000 in
theorem ctX7_kindOf (P : zp) (σ : zc_N) (i1 : Nat) (h1 : i1 < P.2.1) (a2 : Int32) (W_ : (pX7_kindOf P i1 a2)) : sp mX7_kindOf 0 0 0 [.ref (pO i1), .int a2] (hh P σ) (fun r_ h_ => r_ = some (.int (rX7_kindOf σ i1 a2)) ∧ h_ = hh P σ) := by
  refine sp_of (lv := [some (.ref (pO i1)), some (.int a2)]) (by decide) (zcats_ok _ rfl) (Nat.le_of_ble_eq_true rfl) (zlv_ok _ 0 rfl) (fun G => ?_)
  generalize hQ_ : (fun (r_ : Option Value) (h_ : zc_H) => r_ = some (.int (rX7_kindOf σ i1 a2)) ∧ h_ = hh P σ) = Q_
  unfold pX7_kindOf at W_
  refine z_aloadr_n dX7_kindOf_0 rfl ?_
  refine z_get (ci := 7) (r := (RX7, TX7, 5)) (j := 1) (v := .ref (pP i1)) dX7_kindOf_1 (z3O i1) (zNO h1) (SH_pO P i1) rfl (Nat.le_of_ble_eq_true rfl) fl_X7_21 rfl ?_
  refine z_iload_n dX7_kindOf_4 rfl ?_
  refine z_iald (v := ((σ (pP i1)) a2.toNatClampNeg)) dX7_kindOf_5 (zNP h1) (SH_pP P i1) W_ rfl ?_
  refine z_bipush dX7_kindOf_6 k_bipush_8 ?_
  refine z_ishr (v := (zshr ((σ (pP i1)) a2.toNatClampNeg) (8 : Int32))) dX7_kindOf_8 rfl ?_
  exact z_ireturn dX7_kindOf_9 rfl rfl (Nat.le_of_ble_eq_true rfl) (Nat.le_of_ble_eq_true rfl) (by rw [← hQ_]; exact ⟨(by rw [rX7_kindOf]), rfl⟩)

theorem dX4_bareWith_0 : decode cX4_bareWith 0 = .ok (.iconst 0, 1) := by decide +kernel
theorem dX4_bareWith_1 : decode cX4_bareWith 1 = .ok (.aload_n 0, 1) := by decide +kernel
theorem dX4_bareWith_2 : decode cX4_bareWith 2 = .ok (.getfield 54, 3) := by decide +kernel
theorem dX4_bareWith_5 : decode cX4_bareWith 5 = .ok (.iconst 2, 1) := by decide +kernel
theorem dX4_bareWith_6 : decode cX4_bareWith 6 = .ok (.iload_n 1, 1) := by decide +kernel
theorem dX4_bareWith_7 : decode cX4_bareWith 7 = .ok (.imul, 1) := by decide +kernel
theorem dX4_bareWith_8 : decode cX4_bareWith 8 = .ok (.isub, 1) := by decide +kernel
theorem dX4_bareWith_9 : decode cX4_bareWith 9 = .ok (.invokestatic 208, 3) := by decide +kernel
theorem dX4_bareWith_12 : decode cX4_bareWith 12 = .ok (.ireturn, 1) := by decide +kernel
noncomputable def rX4_bareWith (σ : zc_N) (a1 : Int32) : Int32 := (if (0 : Int32) < (((σ 10) 9) - ((2 : Int32) * a1)) then (((σ 10) 9) - ((2 : Int32) * a1)) else (0 : Int32))
set_option maxHeartbeats 1000000 in
theorem ctX4_bareWith (P : zp) (σ : zc_N) (a1 : Int32) : sp mX4_bareWith 1 0 0 [.ref 10, .int a1] (hh P σ) (fun r_ h_ => r_ = some (.int (rX4_bareWith σ a1)) ∧ h_ = hh P σ) := by
  refine sp_of (lv := [some (.ref 10), some (.int a1)]) (by decide) (zcats_ok _ rfl) (Nat.le_of_ble_eq_true rfl) (zlv_ok _ 0 rfl) (fun G => ?_)
  generalize hQ_ : (fun (r_ : Option Value) (h_ : zc_H) => r_ = some (.int (rX4_bareWith σ a1)) ∧ h_ = hh P σ) = Q_
  refine z_iconst dX4_bareWith_0 k_iconst_0 ?_
  refine z_aloadr_n dX4_bareWith_1 rfl ?_
  refine z_get (ci := 4) (r := (RX4, TX4, 10)) (j := 9) (v := .int ((σ 10) 9)) dX4_bareWith_2 (Nat.le_of_ble_eq_true rfl) (zN rfl) rfl rfl (Nat.le_of_ble_eq_true rfl) fl_X4_54 rfl ?_
  refine z_iconst dX4_bareWith_5 k_iconst_2 ?_
  refine z_iload_n dX4_bareWith_6 rfl ?_
  refine z_imul (v := ((2 : Int32) * a1)) dX4_bareWith_7 rfl ?_
  refine z_isub (v := (((σ 10) 9) - ((2 : Int32) * a1))) dX4_bareWith_8 rfl ?_
  refine z_mmax dX4_bareWith_9 lk_X4_208 (Nat.le_of_ble_eq_true rfl) (Nat.le_of_ble_eq_true rfl) (Nat.le_of_ble_eq_true rfl) (Nat.le_of_ble_eq_true rfl) ?_
  exact z_ireturn dX4_bareWith_12 rfl rfl (Nat.le_of_ble_eq_true rfl) (Nat.le_of_ble_eq_true rfl) (by rw [← hQ_]; exact ⟨(by rw [rX4_bareWith]), rfl⟩)

theorem dX4_scoreWith_0 : decode cX4_scoreWith 0 = .ok (.bipush 10, 2) := by decide +kernel
theorem dX4_scoreWith_2 : decode cX4_scoreWith 2 = .ok (.iload_n 1, 1) := by decide +kernel
theorem dX4_scoreWith_3 : decode cX4_scoreWith 3 = .ok (.imul, 1) := by decide +kernel
theorem dX4_scoreWith_4 : decode cX4_scoreWith 4 = .ok (.iconst 3, 1) := by decide +kernel
theorem dX4_scoreWith_5 : decode cX4_scoreWith 5 = .ok (.aload_n 0, 1) := by decide +kernel
theorem dX4_scoreWith_6 : decode cX4_scoreWith 6 = .ok (.iload_n 1, 1) := by decide +kernel
theorem dX4_scoreWith_7 : decode cX4_scoreWith 7 = .ok (.invokevirtual 114, 3) := by decide +kernel
theorem dX4_scoreWith_10 : decode cX4_scoreWith 10 = .ok (.imul, 1) := by decide +kernel
theorem dX4_scoreWith_11 : decode cX4_scoreWith 11 = .ok (.isub, 1) := by decide +kernel
theorem dX4_scoreWith_12 : decode cX4_scoreWith 12 = .ok (.ireturn, 1) := by decide +kernel
noncomputable def rX4_scoreWith (σ : zc_N) (a1 : Int32) : Int32 := (((10 : Int32) * a1) - ((3 : Int32) * (rX4_bareWith σ a1)))
set_option maxHeartbeats 1000000 in
theorem ctX4_scoreWith (P : zp) (σ : zc_N) (a1 : Int32) : sp mX4_scoreWith 2 0 0 [.ref 10, .int a1] (hh P σ) (fun r_ h_ => r_ = some (.int (rX4_scoreWith σ a1)) ∧ h_ = hh P σ) := by
  refine sp_of (lv := [some (.ref 10), some (.int a1)]) (by decide) (zcats_ok _ rfl) (Nat.le_of_ble_eq_true rfl) (zlv_ok _ 0 rfl) (fun G => ?_)
  generalize hQ_ : (fun (r_ : Option Value) (h_ : zc_H) => r_ = some (.int (rX4_scoreWith σ a1)) ∧ h_ = hh P σ) = Q_
  refine z_bipush dX4_scoreWith_0 k_bipush_10 ?_
  refine z_iload_n dX4_scoreWith_2 rfl ?_
  refine z_imul (v := ((10 : Int32) * a1)) dX4_scoreWith_3 rfl ?_
  refine z_iconst dX4_scoreWith_4 k_iconst_3 ?_
  refine z_aloadr_n dX4_scoreWith_5 rfl ?_
  refine z_iload_n dX4_scoreWith_6 rfl ?_
  refine z_callV (ci := 4) (r := (RX4, TX4, 10)) (b := 10) (As := [.int a1]) (rest := [.int (3 : Int32), .int ((10 : Int32) * a1)]) (ctX4_bareWith P σ a1) dX4_scoreWith_7 lk_X4_114 lv_X4_bareWith (Nat.le_of_ble_eq_true rfl) (zN rfl) rfl rfl rfl rfl (Nat.le_of_ble_eq_true rfl) (Nat.le_of_ble_eq_true rfl) (Nat.le_of_ble_eq_true rfl) (Nat.le_of_ble_eq_true rfl) (fun r_ h_ e_ => ?_)
  obtain ⟨e1_, e2_⟩ := e_
  subst e1_
  subst e2_
  show zz G mX4_scoreWith 2 0 0 Q_ 10 [some (.ref 10), some (.int a1)] [.int (rX4_bareWith σ a1), .int (3 : Int32), .int ((10 : Int32) * a1)] (hh P σ) 0 0
  refine z_imul (v := ((3 : Int32) * (rX4_bareWith σ a1))) dX4_scoreWith_10 rfl ?_
  refine z_isub (v := (((10 : Int32) * a1) - ((3 : Int32) * (rX4_bareWith σ a1)))) dX4_scoreWith_11 rfl ?_
  exact z_ireturn dX4_scoreWith_12 rfl rfl (Nat.le_of_ble_eq_true rfl) (Nat.le_of_ble_eq_true rfl) (by rw [← hQ_]; exact ⟨(by rw [rX4_scoreWith]), rfl⟩)

theorem dX4_pack_0 : decode cX4_pack 0 = .ok (.iload_n 0, 1) := by decide +kernel
theorem dX4_pack_1 : decode cX4_pack 1 = .ok (.sipush (-1000), 3) := by decide +kernel
theorem dX4_pack_4 : decode cX4_pack 4 = .ok (.isub, 1) := by decide +kernel
theorem dX4_pack_5 : decode cX4_pack 5 = .ok (.iconst 4, 1) := by decide +kernel
theorem dX4_pack_6 : decode cX4_pack 6 = .ok (.imul, 1) := by decide +kernel
theorem dX4_pack_7 : decode cX4_pack 7 = .ok (.iload_n 1, 1) := by decide +kernel
theorem dX4_pack_8 : decode cX4_pack 8 = .ok (.iadd, 1) := by decide +kernel
theorem dX4_pack_9 : decode cX4_pack 9 = .ok (.bipush 31, 2) := by decide +kernel
theorem dX4_pack_11 : decode cX4_pack 11 = .ok (.imul, 1) := by decide +kernel
theorem dX4_pack_12 : decode cX4_pack 12 = .ok (.iload_n 2, 1) := by decide +kernel
theorem dX4_pack_13 : decode cX4_pack 13 = .ok (.iadd, 1) := by decide +kernel
theorem dX4_pack_14 : decode cX4_pack 14 = .ok (.bipush 31, 2) := by decide +kernel
theorem dX4_pack_16 : decode cX4_pack 16 = .ok (.imul, 1) := by decide +kernel
theorem dX4_pack_17 : decode cX4_pack 17 = .ok (.iload_n 3, 1) := by decide +kernel
theorem dX4_pack_18 : decode cX4_pack 18 = .ok (.iadd, 1) := by decide +kernel
theorem dX4_pack_19 : decode cX4_pack 19 = .ok (.ireturn, 1) := by decide +kernel
noncomputable def rX4_pack (a1 : Int32) (a2 : Int32) (a3 : Int32) (a4 : Int32) : Int32 := (((((((a1 - (-1000 : Int32)) * (4 : Int32)) + a2) * (31 : Int32)) + a3) * (31 : Int32)) + a4)
set_option maxHeartbeats 1000000 in
theorem ctX4_pack (P : zp) (σ : zc_N) (a1 : Int32) (a2 : Int32) (a3 : Int32) (a4 : Int32) : sp mX4_pack 0 0 0 [.int a1, .int a2, .int a3, .int a4] (hh P σ) (fun r_ h_ => r_ = some (.int (rX4_pack a1 a2 a3 a4)) ∧ h_ = hh P σ) := by
  refine sp_of (lv := [some (.int a1), some (.int a2), some (.int a3), some (.int a4)]) (by decide) (zcats_ok _ rfl) (Nat.le_of_ble_eq_true rfl) (zlv_ok _ 0 rfl) (fun G => ?_)
  generalize hQ_ : (fun (r_ : Option Value) (h_ : zc_H) => r_ = some (.int (rX4_pack a1 a2 a3 a4)) ∧ h_ = hh P σ) = Q_
  refine z_iload_n dX4_pack_0 rfl ?_
  refine z_sipush dX4_pack_1 k_sipush_m1000 ?_
  refine z_isub (v := (a1 - (-1000 : Int32))) dX4_pack_4 rfl ?_
  refine z_iconst dX4_pack_5 k_iconst_4 ?_
  refine z_imul (v := ((a1 - (-1000 : Int32)) * (4 : Int32))) dX4_pack_6 rfl ?_
  refine z_iload_n dX4_pack_7 rfl ?_
  refine z_iadd (v := (((a1 - (-1000 : Int32)) * (4 : Int32)) + a2)) dX4_pack_8 rfl ?_
  refine z_bipush dX4_pack_9 k_bipush_31 ?_
  refine z_imul (v := ((((a1 - (-1000 : Int32)) * (4 : Int32)) + a2) * (31 : Int32))) dX4_pack_11 rfl ?_
  refine z_iload_n dX4_pack_12 rfl ?_
  refine z_iadd (v := (((((a1 - (-1000 : Int32)) * (4 : Int32)) + a2) * (31 : Int32)) + a3)) dX4_pack_13 rfl ?_
  refine z_bipush dX4_pack_14 k_bipush_31 ?_
  refine z_imul (v := ((((((a1 - (-1000 : Int32)) * (4 : Int32)) + a2) * (31 : Int32)) + a3) * (31 : Int32))) dX4_pack_16 rfl ?_
  refine z_iload_n dX4_pack_17 rfl ?_
  refine z_iadd (v := (((((((a1 - (-1000 : Int32)) * (4 : Int32)) + a2) * (31 : Int32)) + a3) * (31 : Int32)) + a4)) dX4_pack_18 rfl ?_
  exact z_ireturn dX4_pack_19 rfl rfl (Nat.le_of_ble_eq_true rfl) (Nat.le_of_ble_eq_true rfl) (by rw [← hQ_]; exact ⟨(by rw [rX4_pack]), rfl⟩)

theorem dX4_unpackScore_0 : decode cX4_unpackScore 0 = .ok (.iload_n 0, 1) := by decide +kernel
theorem dX4_unpackScore_1 : decode cX4_unpackScore 1 = .ok (.sipush 3844, 3) := by decide +kernel
theorem dX4_unpackScore_4 : decode cX4_unpackScore 4 = .ok (.idiv, 1) := by decide +kernel
theorem dX4_unpackScore_5 : decode cX4_unpackScore 5 = .ok (.sipush (-1000), 3) := by decide +kernel
theorem dX4_unpackScore_8 : decode cX4_unpackScore 8 = .ok (.iadd, 1) := by decide +kernel
theorem dX4_unpackScore_9 : decode cX4_unpackScore 9 = .ok (.ireturn, 1) := by decide +kernel
noncomputable def rX4_unpackScore (a1 : Int32) : Int32 := ((a1 / (3844 : Int32)) + (-1000 : Int32))
set_option maxHeartbeats 1000000 in
theorem ctX4_unpackScore (P : zp) (σ : zc_N) (a1 : Int32) : sp mX4_unpackScore 0 0 0 [.int a1] (hh P σ) (fun r_ h_ => r_ = some (.int (rX4_unpackScore a1)) ∧ h_ = hh P σ) := by
  refine sp_of (lv := [some (.int a1)]) (by decide) (zcats_ok _ rfl) (Nat.le_of_ble_eq_true rfl) (zlv_ok _ 0 rfl) (fun G => ?_)
  generalize hQ_ : (fun (r_ : Option Value) (h_ : zc_H) => r_ = some (.int (rX4_unpackScore a1)) ∧ h_ = hh P σ) = Q_
  refine z_iload_n dX4_unpackScore_0 rfl ?_
  refine z_sipush dX4_unpackScore_1 k_sipush_3844 ?_
  refine z_idiv (v := (a1 / (3844 : Int32))) dX4_unpackScore_4 (by decide) rfl ?_
  refine z_sipush dX4_unpackScore_5 k_sipush_m1000 ?_
  refine z_iadd (v := ((a1 / (3844 : Int32)) + (-1000 : Int32))) dX4_unpackScore_8 rfl ?_
  exact z_ireturn dX4_unpackScore_9 rfl rfl (Nat.le_of_ble_eq_true rfl) (Nat.le_of_ble_eq_true rfl) (by rw [← hQ_]; exact ⟨(by rw [rX4_unpackScore]), rfl⟩)

theorem dX4_unpackTurn_0 : decode cX4_unpackTurn 0 = .ok (.iload_n 0, 1) := by decide +kernel
theorem dX4_unpackTurn_1 : decode cX4_unpackTurn 1 = .ok (.sipush 961, 3) := by decide +kernel
theorem dX4_unpackTurn_4 : decode cX4_unpackTurn 4 = .ok (.idiv, 1) := by decide +kernel
theorem dX4_unpackTurn_5 : decode cX4_unpackTurn 5 = .ok (.iconst 4, 1) := by decide +kernel
theorem dX4_unpackTurn_6 : decode cX4_unpackTurn 6 = .ok (.irem, 1) := by decide +kernel
theorem dX4_unpackTurn_7 : decode cX4_unpackTurn 7 = .ok (.ireturn, 1) := by decide +kernel
noncomputable def rX4_unpackTurn (a1 : Int32) : Int32 := ((a1 / (961 : Int32)) - (a1 / (961 : Int32)) / (4 : Int32) * (4 : Int32))
set_option maxHeartbeats 1000000 in
theorem ctX4_unpackTurn (P : zp) (σ : zc_N) (a1 : Int32) : sp mX4_unpackTurn 0 0 0 [.int a1] (hh P σ) (fun r_ h_ => r_ = some (.int (rX4_unpackTurn a1)) ∧ h_ = hh P σ) := by
  refine sp_of (lv := [some (.int a1)]) (by decide) (zcats_ok _ rfl) (Nat.le_of_ble_eq_true rfl) (zlv_ok _ 0 rfl) (fun G => ?_)
  generalize hQ_ : (fun (r_ : Option Value) (h_ : zc_H) => r_ = some (.int (rX4_unpackTurn a1)) ∧ h_ = hh P σ) = Q_
  refine z_iload_n dX4_unpackTurn_0 rfl ?_
  refine z_sipush dX4_unpackTurn_1 k_sipush_961 ?_
  refine z_idiv (v := (a1 / (961 : Int32))) dX4_unpackTurn_4 (by decide) rfl ?_
  refine z_iconst dX4_unpackTurn_5 k_iconst_4 ?_
  refine z_irem (v := ((a1 / (961 : Int32)) - (a1 / (961 : Int32)) / (4 : Int32) * (4 : Int32))) dX4_unpackTurn_6 (by decide) rfl ?_
  exact z_ireturn dX4_unpackTurn_7 rfl rfl (Nat.le_of_ble_eq_true rfl) (Nat.le_of_ble_eq_true rfl) (by rw [← hQ_]; exact ⟨(by rw [rX4_unpackTurn]), rfl⟩)

theorem dX4_unpackRow_0 : decode cX4_unpackRow 0 = .ok (.iload_n 0, 1) := by decide +kernel
theorem dX4_unpackRow_1 : decode cX4_unpackRow 1 = .ok (.bipush 31, 2) := by decide +kernel
theorem dX4_unpackRow_3 : decode cX4_unpackRow 3 = .ok (.idiv, 1) := by decide +kernel
theorem dX4_unpackRow_4 : decode cX4_unpackRow 4 = .ok (.bipush 31, 2) := by decide +kernel
theorem dX4_unpackRow_6 : decode cX4_unpackRow 6 = .ok (.irem, 1) := by decide +kernel
theorem dX4_unpackRow_7 : decode cX4_unpackRow 7 = .ok (.bipush 16, 2) := by decide +kernel
theorem dX4_unpackRow_9 : decode cX4_unpackRow 9 = .ok (.isub, 1) := by decide +kernel
theorem dX4_unpackRow_10 : decode cX4_unpackRow 10 = .ok (.iconst 1, 1) := by decide +kernel
theorem dX4_unpackRow_11 : decode cX4_unpackRow 11 = .ok (.iadd, 1) := by decide +kernel
theorem dX4_unpackRow_12 : decode cX4_unpackRow 12 = .ok (.ireturn, 1) := by decide +kernel
noncomputable def rX4_unpackRow (a1 : Int32) : Int32 := ((((a1 / (31 : Int32)) - (a1 / (31 : Int32)) / (31 : Int32) * (31 : Int32)) - (16 : Int32)) + (1 : Int32))
set_option maxHeartbeats 1000000 in
theorem ctX4_unpackRow (P : zp) (σ : zc_N) (a1 : Int32) : sp mX4_unpackRow 0 0 0 [.int a1] (hh P σ) (fun r_ h_ => r_ = some (.int (rX4_unpackRow a1)) ∧ h_ = hh P σ) := by
  refine sp_of (lv := [some (.int a1)]) (by decide) (zcats_ok _ rfl) (Nat.le_of_ble_eq_true rfl) (zlv_ok _ 0 rfl) (fun G => ?_)
  generalize hQ_ : (fun (r_ : Option Value) (h_ : zc_H) => r_ = some (.int (rX4_unpackRow a1)) ∧ h_ = hh P σ) = Q_
  refine z_iload_n dX4_unpackRow_0 rfl ?_
  refine z_bipush dX4_unpackRow_1 k_bipush_31 ?_
  refine z_idiv (v := (a1 / (31 : Int32))) dX4_unpackRow_3 (by decide) rfl ?_
  refine z_bipush dX4_unpackRow_4 k_bipush_31 ?_
  refine z_irem (v := ((a1 / (31 : Int32)) - (a1 / (31 : Int32)) / (31 : Int32) * (31 : Int32))) dX4_unpackRow_6 (by decide) rfl ?_
  refine z_bipush dX4_unpackRow_7 k_bipush_16 ?_
  refine z_isub (v := (((a1 / (31 : Int32)) - (a1 / (31 : Int32)) / (31 : Int32) * (31 : Int32)) - (16 : Int32))) dX4_unpackRow_9 rfl ?_
  refine z_iconst dX4_unpackRow_10 k_iconst_1 ?_
  refine z_iadd (v := ((((a1 / (31 : Int32)) - (a1 / (31 : Int32)) / (31 : Int32) * (31 : Int32)) - (16 : Int32)) + (1 : Int32))) dX4_unpackRow_11 rfl ?_
  exact z_ireturn dX4_unpackRow_12 rfl rfl (Nat.le_of_ble_eq_true rfl) (Nat.le_of_ble_eq_true rfl) (by rw [← hQ_]; exact ⟨(by rw [rX4_unpackRow]), rfl⟩)

theorem dX4_unpackColumn_0 : decode cX4_unpackColumn 0 = .ok (.iload_n 0, 1) := by decide +kernel
theorem dX4_unpackColumn_1 : decode cX4_unpackColumn 1 = .ok (.bipush 31, 2) := by decide +kernel
theorem dX4_unpackColumn_3 : decode cX4_unpackColumn 3 = .ok (.irem, 1) := by decide +kernel
theorem dX4_unpackColumn_4 : decode cX4_unpackColumn 4 = .ok (.bipush 16, 2) := by decide +kernel
theorem dX4_unpackColumn_6 : decode cX4_unpackColumn 6 = .ok (.isub, 1) := by decide +kernel
theorem dX4_unpackColumn_7 : decode cX4_unpackColumn 7 = .ok (.iconst 1, 1) := by decide +kernel
theorem dX4_unpackColumn_8 : decode cX4_unpackColumn 8 = .ok (.iadd, 1) := by decide +kernel
theorem dX4_unpackColumn_9 : decode cX4_unpackColumn 9 = .ok (.ireturn, 1) := by decide +kernel
noncomputable def rX4_unpackColumn (a1 : Int32) : Int32 := (((a1 - a1 / (31 : Int32) * (31 : Int32)) - (16 : Int32)) + (1 : Int32))
set_option maxHeartbeats 1000000 in
theorem ctX4_unpackColumn (P : zp) (σ : zc_N) (a1 : Int32) : sp mX4_unpackColumn 0 0 0 [.int a1] (hh P σ) (fun r_ h_ => r_ = some (.int (rX4_unpackColumn a1)) ∧ h_ = hh P σ) := by
  refine sp_of (lv := [some (.int a1)]) (by decide) (zcats_ok _ rfl) (Nat.le_of_ble_eq_true rfl) (zlv_ok _ 0 rfl) (fun G => ?_)
  generalize hQ_ : (fun (r_ : Option Value) (h_ : zc_H) => r_ = some (.int (rX4_unpackColumn a1)) ∧ h_ = hh P σ) = Q_
  refine z_iload_n dX4_unpackColumn_0 rfl ?_
  refine z_bipush dX4_unpackColumn_1 k_bipush_31 ?_
  refine z_irem (v := (a1 - a1 / (31 : Int32) * (31 : Int32))) dX4_unpackColumn_3 (by decide) rfl ?_
  refine z_bipush dX4_unpackColumn_4 k_bipush_16 ?_
  refine z_isub (v := ((a1 - a1 / (31 : Int32) * (31 : Int32)) - (16 : Int32))) dX4_unpackColumn_6 rfl ?_
  refine z_iconst dX4_unpackColumn_7 k_iconst_1 ?_
  refine z_iadd (v := (((a1 - a1 / (31 : Int32) * (31 : Int32)) - (16 : Int32)) + (1 : Int32))) dX4_unpackColumn_8 rfl ?_
  exact z_ireturn dX4_unpackColumn_9 rfl rfl (Nat.le_of_ble_eq_true rfl) (Nat.le_of_ble_eq_true rfl) (by rw [← hQ_]; exact ⟨(by rw [rX4_unpackColumn]), rfl⟩)

theorem dX8_isTool_0 : decode cX8_isTool 0 = .ok (.iload_n 0, 1) := by decide +kernel
theorem dX8_isTool_1 : decode cX8_isTool 1 = .ok (.iconst 0, 1) := by decide +kernel
theorem dX8_isTool_2 : decode cX8_isTool 2 = .ok (.bipush 9, 2) := by decide +kernel
theorem dX8_isTool_4 : decode cX8_isTool 4 = .ok (.invokestatic 67, 3) := by decide +kernel
theorem dX8_isTool_7 : decode cX8_isTool 7 = .ok (.ireturn, 1) := by decide +kernel
def pX8_isTool (a1 : Int32) : Prop := narrow .boolean (.int (rX8_isWithin a1 (0 : Int32) (9 : Int32))) = .int (rX8_isWithin a1 (0 : Int32) (9 : Int32))
noncomputable def rX8_isTool (a1 : Int32) : Int32 := (rX8_isWithin a1 (0 : Int32) (9 : Int32))
set_option maxHeartbeats 1000000 in
theorem ctX8_isTool (P : zp) (σ : zc_N) (a1 : Int32) (W_ : (pX8_isTool a1)) : sp mX8_isTool 1 0 0 [.int a1] (hh P σ) (fun r_ h_ => r_ = some (.int (rX8_isTool a1)) ∧ h_ = hh P σ) := by
  refine sp_of (lv := [some (.int a1)]) (by decide) (zcats_ok _ rfl) (Nat.le_of_ble_eq_true rfl) (zlv_ok _ 0 rfl) (fun G => ?_)
  generalize hQ_ : (fun (r_ : Option Value) (h_ : zc_H) => r_ = some (.int (rX8_isTool a1)) ∧ h_ = hh P σ) = Q_
  unfold pX8_isTool at W_
  refine z_iload_n dX8_isTool_0 rfl ?_
  refine z_iconst dX8_isTool_1 k_iconst_0 ?_
  refine z_bipush dX8_isTool_2 k_bipush_9 ?_
  refine z_callS (As := [.int a1, .int (0 : Int32), .int (9 : Int32)]) (rest := []) (ctX8_isWithin P σ a1 (0 : Int32) (9 : Int32)) dX8_isTool_4 lk_X8_67 ls_X8_isWithin rfl (Nat.le_of_ble_eq_true rfl) (Nat.le_of_ble_eq_true rfl) (Nat.le_of_ble_eq_true rfl) (Nat.le_of_ble_eq_true rfl) (fun r_ h_ e_ => ?_)
  obtain ⟨e1_, e2_⟩ := e_
  subst e1_
  subst e2_
  show zz G mX8_isTool 1 0 0 Q_ 7 [some (.int a1)] [.int (rX8_isWithin a1 (0 : Int32) (9 : Int32))] (hh P σ) 0 0
  exact z_ireturn dX8_isTool_7 rfl W_ (Nat.le_of_ble_eq_true rfl) (Nat.le_of_ble_eq_true rfl) (by rw [← hQ_]; exact ⟨(by rw [rX8_isTool]), rfl⟩)

theorem dX8_areStrangers_0 : decode cX8_areStrangers 0 = .ok (.aload_n 0, 1) := by decide +kernel
theorem dX8_areStrangers_1 : decode cX8_areStrangers 1 = .ok (.getfield 175, 3) := by decide +kernel
theorem dX8_areStrangers_4 : decode cX8_areStrangers 4 = .ok (.iconst (-1), 1) := by decide +kernel
theorem dX8_areStrangers_5 : decode cX8_areStrangers 5 = .ok (.if_icmp .eq 26, 3) := by decide +kernel
theorem dX8_areStrangers_8 : decode cX8_areStrangers 8 = .ok (.aload_n 1, 1) := by decide +kernel
theorem dX8_areStrangers_9 : decode cX8_areStrangers 9 = .ok (.getfield 175, 3) := by decide +kernel
theorem dX8_areStrangers_12 : decode cX8_areStrangers 12 = .ok (.iconst (-1), 1) := by decide +kernel
theorem dX8_areStrangers_13 : decode cX8_areStrangers 13 = .ok (.if_icmp .eq 18, 3) := by decide +kernel
theorem dX8_areStrangers_16 : decode cX8_areStrangers 16 = .ok (.aload_n 0, 1) := by decide +kernel
theorem dX8_areStrangers_17 : decode cX8_areStrangers 17 = .ok (.getfield 175, 3) := by decide +kernel
theorem dX8_areStrangers_20 : decode cX8_areStrangers 20 = .ok (.aload_n 1, 1) := by decide +kernel
theorem dX8_areStrangers_21 : decode cX8_areStrangers 21 = .ok (.getfield 175, 3) := by decide +kernel
theorem dX8_areStrangers_24 : decode cX8_areStrangers 24 = .ok (.if_icmp .eq 7, 3) := by decide +kernel
theorem dX8_areStrangers_27 : decode cX8_areStrangers 27 = .ok (.iconst 1, 1) := by decide +kernel
theorem dX8_areStrangers_28 : decode cX8_areStrangers 28 = .ok (.goto 4, 3) := by decide +kernel
theorem dX8_areStrangers_31 : decode cX8_areStrangers 31 = .ok (.iconst 0, 1) := by decide +kernel
theorem dX8_areStrangers_32 : decode cX8_areStrangers 32 = .ok (.ireturn, 1) := by decide +kernel
noncomputable def rX8_areStrangers (σ : zc_N) (i1 : Nat) (i2 : Nat) : Int32 := (if ((σ (pO i1)) 3) = (-1 : Int32) then (0 : Int32) else (if ((σ (pO i2)) 3) = (-1 : Int32) then (0 : Int32) else (if ((σ (pO i1)) 3) = ((σ (pO i2)) 3) then (0 : Int32) else (1 : Int32))))
set_option maxHeartbeats 1000000 in
theorem ctX8_areStrangers (P : zp) (σ : zc_N) (i1 : Nat) (h1 : i1 < P.2.1) (i2 : Nat) (h2 : i2 < P.2.1) : sp mX8_areStrangers 0 0 0 [.ref (pO i1), .ref (pO i2)] (hh P σ) (fun r_ h_ => r_ = some (.int (rX8_areStrangers σ i1 i2)) ∧ h_ = hh P σ) := by
  refine sp_of (lv := [some (.ref (pO i1)), some (.ref (pO i2))]) (by decide) (zcats_ok _ rfl) (Nat.le_of_ble_eq_true rfl) (zlv_ok _ 0 rfl) (fun G => ?_)
  generalize hQ_ : (fun (r_ : Option Value) (h_ : zc_H) => r_ = some (.int (rX8_areStrangers σ i1 i2)) ∧ h_ = hh P σ) = Q_
  refine z_aloadr_n dX8_areStrangers_0 rfl ?_
  refine z_get (ci := 7) (r := (RX7, TX7, 5)) (j := 3) (v := .int ((σ (pO i1)) 3)) dX8_areStrangers_1 (z3O i1) (zNO h1) (SH_pO P i1) rfl (Nat.le_of_ble_eq_true rfl) fl_X8_175 rfl ?_
  refine z_iconst dX8_areStrangers_4 k_iconst_m1 ?_
  have K_1 : zz G mX8_areStrangers 0 0 0 Q_ 32 [none, none] [.int (if ((σ (pO i1)) 3) = (-1 : Int32) then (0 : Int32) else (if ((σ (pO i2)) 3) = (-1 : Int32) then (0 : Int32) else (if ((σ (pO i1)) 3) = ((σ (pO i2)) 3) then (0 : Int32) else (1 : Int32))))] (hh P σ) 0 0 := by
    exact z_ireturn dX8_areStrangers_32 rfl (by (repeat' split) <;> rfl) (Nat.le_of_ble_eq_true rfl) (Nat.le_of_ble_eq_true rfl) (by rw [← hQ_]; exact ⟨(by rw [rX8_areStrangers]), rfl⟩)
  refine z_icmp_eq (tgt := 31) dX8_areStrangers_5 (by decide) (fun c_1 => ?_) (fun c_1 => ?_)
  · refine z_iconst dX8_areStrangers_31 k_iconst_0 ?_
    refine zz_sub (lv' := [none, none]) trivial ?_
    first | exact K_1 | simpa only [if_pos c_1] using K_1
  · refine z_aloadr_n dX8_areStrangers_8 rfl ?_
    refine z_get (ci := 7) (r := (RX7, TX7, 5)) (j := 3) (v := .int ((σ (pO i2)) 3)) dX8_areStrangers_9 (z3O i2) (zNO h2) (SH_pO P i2) rfl (Nat.le_of_ble_eq_true rfl) fl_X8_175 rfl ?_
    refine z_iconst dX8_areStrangers_12 k_iconst_m1 ?_
    refine z_icmp_eq (tgt := 31) dX8_areStrangers_13 (by decide) (fun c_2 => ?_) (fun c_2 => ?_)
    · refine z_iconst dX8_areStrangers_31 k_iconst_0 ?_
      refine zz_sub (lv' := [none, none]) trivial ?_
      first | exact K_1 | simpa only [if_neg c_1, if_pos c_2] using K_1
    · refine z_aloadr_n dX8_areStrangers_16 rfl ?_
      refine z_get (ci := 7) (r := (RX7, TX7, 5)) (j := 3) (v := .int ((σ (pO i1)) 3)) dX8_areStrangers_17 (z3O i1) (zNO h1) (SH_pO P i1) rfl (Nat.le_of_ble_eq_true rfl) fl_X8_175 rfl ?_
      refine z_aloadr_n dX8_areStrangers_20 rfl ?_
      refine z_get (ci := 7) (r := (RX7, TX7, 5)) (j := 3) (v := .int ((σ (pO i2)) 3)) dX8_areStrangers_21 (z3O i2) (zNO h2) (SH_pO P i2) rfl (Nat.le_of_ble_eq_true rfl) fl_X8_175 rfl ?_
      refine z_icmp_eq (tgt := 31) dX8_areStrangers_24 (by decide) (fun c_3 => ?_) (fun c_3 => ?_)
      · refine z_iconst dX8_areStrangers_31 k_iconst_0 ?_
        refine zz_sub (lv' := [none, none]) trivial ?_
        first | exact K_1 | simpa only [if_neg c_1, if_neg c_2, if_pos c_3] using K_1
      · refine z_iconst dX8_areStrangers_27 k_iconst_1 ?_
        refine z_goto (tgt := 32) dX8_areStrangers_28 (by decide) ?_
        refine zz_sub (lv' := [none, none]) trivial ?_
        first | exact K_1 | simpa only [if_neg c_1, if_neg c_2, if_neg c_3] using K_1
end
section
/-! ===== printed by wip/whole/p12.py: methods with counted loops ===== -/
def zfor {α : Type} (f : Nat → α → α) : Nat → α → α
  | 0, a => a
  | n + 1, a => f n (zfor f n a)
theorem zfor_nI {α : Type} (Z : Int32 → α → Prop) (f : Nat → α → α) (N : Nat) (a : α) (hs : ∀ i : Nat, i < N → Z (nI (i + 1)) (f i (zfor f i a)) → Z (nI i) (zfor f i a)) (hx : Z (nI N) (zfor f N a)) : Z (nI 0) a := by
  have key : ∀ k : Nat, k ≤ N → Z (nI k) (zfor f k a) := by
    intro k hk
    obtain ⟨j, rfl⟩ : ∃ j, N = k + j := ⟨N - k, by omega⟩
    induction j generalizing k with
    | zero => exact hx
    | succ j ih =>
      refine hs k (by omega) ?_
      have e : k + (j + 1) = k + 1 + j := by omega
      have h2 := ih (k + 1) (fun i hi => hs i (by omega)) (by rw [← e]; exact hx) (by omega)
      exact h2
  exact key 0 (Nat.zero_le N)

theorem zfor_sI {α : Type} (Z : Int32 → α → Prop) (f : Nat → α → α) (s : Int32) (N : Nat) (a : α) (hs : ∀ i : Nat, i < N → Z (s + nI (i + 1)) (f i (zfor f i a)) → Z (s + nI i) (zfor f i a)) (hx : Z (s + nI N) (zfor f N a)) : Z s a := by
  have key : ∀ k : Nat, k ≤ N → Z (s + nI k) (zfor f k a) := by
    intro k hk
    obtain ⟨j, rfl⟩ : ∃ j, N = k + j := ⟨N - k, by omega⟩
    induction j generalizing k with
    | zero => exact hx
    | succ j ih =>
      refine hs k (by omega) ?_
      have e : k + (j + 1) = k + 1 + j := by omega
      exact ih (k + 1) (fun i hi => hs i (by omega)) (by rw [← e]; exact hx) (by omega)
  have h0 := key 0 (Nat.zero_le N)
  rw [nI_0, Int32.add_zero] at h0
  exact h0
theorem nS_1 (s : Int32) (i : Nat) : s + nI i + 1 = s + nI (i + 1) := by rw [Int32.add_assoc, nI_1]
theorem pzX9_isDark (P : zp) (σ : zc_N) (a1 a2 : Int32) : pX9_isDark a1 a2 := by
  unfold pX9_isDark
  refine ⟨fun _ => trivial, fun h1 => ⟨fun _ => trivial, fun h2 => ⟨fun _ => trivial, fun h3 => ⟨fun _ => trivial, fun h4 => ?_⟩⟩⟩⟩
  obtain ⟨i, hi, rfl⟩ : ∃ j : Nat, j < 16 ∧ a1 = nI j := (pk_ix a1 (n := 16) (by decide)).resolve_left h1 |>.resolve_left h2
  obtain ⟨j, hj, rfl⟩ : ∃ j : Nat, j < 16 ∧ a2 = nI j := (pk_ix a2 (n := 16) (by decide)).resolve_left h3 |>.resolve_left h4
  rw [show (16 : Int32) = nI 16 from rfl, pk_mul, nI_add]
  exact vp_in_nI (by omega) (by decide)
theorem pzX8_isTool (P : zp) (σ : zc_N) (a1 : Int32) : pX8_isTool a1 := by
  unfold pX8_isTool
  unfold rX8_isWithin
  (repeat' split) <;> rfl
theorem pzX1_takes (P : zp) (σ : zc_N) (a1 a2 : Int32) : pX1_takes a1 a2 := by
  unfold pX1_takes
  refine ⟨fun _ => trivial, fun _ => ⟨fun _ => trivial, fun h => ?_⟩⟩
  have h1 : vp_in a2 18 := by
    unfold rX8_isWithin at h
    by_cases c1 : a2 < 0
    · rw [if_pos c1] at h; exact absurd rfl h
    · by_cases c2 : (17 : Int32) < a2
      · rw [if_neg c1, if_pos c2] at h; exact absurd rfl h
      · obtain ⟨j, hj, rfl⟩ := nI_of2 (M := 17) (n := 17) (by decide) c1 (Int32.not_lt.mp c2)
        exact vp_in_nI (by omega) (by decide)
  exact ⟨h1, h1, h1⟩

theorem dX9_darkMany_4 : decode cX9_darkMany 4 = .ok (.iload_n 2, 1) := by decide +kernel
theorem dX9_darkMany_5 : decode cX9_darkMany 5 = .ok (.sipush 256, 3) := by decide +kernel
theorem dX9_darkMany_8 : decode cX9_darkMany 8 = .ok (.if_icmp .ge 26, 3) := by decide +kernel
theorem dX9_darkMany_11 : decode cX9_darkMany 11 = .ok (.iload_n 1, 1) := by decide +kernel
theorem dX9_darkMany_12 : decode cX9_darkMany 12 = .ok (.aload_n 0, 1) := by decide +kernel
theorem dX9_darkMany_13 : decode cX9_darkMany 13 = .ok (.getfield 9, 3) := by decide +kernel
theorem dX9_darkMany_16 : decode cX9_darkMany 16 = .ok (.iload_n 2, 1) := by decide +kernel
theorem dX9_darkMany_17 : decode cX9_darkMany 17 = .ok (.baload, 1) := by decide +kernel
theorem dX9_darkMany_18 : decode cX9_darkMany 18 = .ok (.ifCond .eq 7, 3) := by decide +kernel
theorem dX9_darkMany_21 : decode cX9_darkMany 21 = .ok (.iconst 1, 1) := by decide +kernel
theorem dX9_darkMany_22 : decode cX9_darkMany 22 = .ok (.goto 4, 3) := by decide +kernel
theorem dX9_darkMany_25 : decode cX9_darkMany 25 = .ok (.iconst 0, 1) := by decide +kernel
theorem dX9_darkMany_26 : decode cX9_darkMany 26 = .ok (.iadd, 1) := by decide +kernel
theorem dX9_darkMany_27 : decode cX9_darkMany 27 = .ok (.istore_n 1, 1) := by decide +kernel
theorem dX9_darkMany_28 : decode cX9_darkMany 28 = .ok (.iinc 2 1, 3) := by decide +kernel
theorem dX9_darkMany_31 : decode cX9_darkMany 31 = .ok (.goto (-27), 3) := by decide +kernel
theorem dX9_darkMany_34 : decode cX9_darkMany 34 = .ok (.iload_n 1, 1) := by decide +kernel
noncomputable def fX9_darkMany_4 (σ : zc_N) (i_ : Nat) (a_ : Int32) : Int32 := (a_ + (if ((σ 33) (nI i_).toNatClampNeg) = (0 : Int32) then (0 : Int32) else (1 : Int32)))
set_option maxHeartbeats 2000000 in
theorem lpX9_darkMany_4 {G : zc_G} {Q : Option Value → zc_H → Prop} (P : zp) (σ : zc_N) (l1 : Int32)
    (W2_ : zz G mX9_darkMany 0 0 0 Q 34 [none, some (.int (zfor (fX9_darkMany_4 σ) 256 l1)), none] [] (hh P σ) 0 0) :
    zz G mX9_darkMany 0 0 0 Q 4 [some (.ref 32), some (.int l1), some (.int (nI 0))] [] (hh P σ) 0 0 := by
  refine zfor_nI (fun i_ a_ => zz G mX9_darkMany 0 0 0 Q 4 [some (.ref 32), some (.int a_), some (.int i_)] [] (hh P σ) 0 0) (fX9_darkMany_4 σ) 256 l1 (fun i_ hi_ k_ => ?_) ?_
  · generalize zfor (fX9_darkMany_4 σ) i_ l1 = g_ at k_ ⊢
    rw [fX9_darkMany_4] at k_
    refine z_iload_n dX9_darkMany_4 rfl ?_
    refine z_sipush dX9_darkMany_5 k_sipush_256 ?_
    refine z_icmp_ge (tgt := 34) dX9_darkMany_8 (by decide) (fun c_ => absurd c_ (nI_ge hi_ (by decide))) (fun c_ => ?_)
    refine z_iload_n dX9_darkMany_11 rfl ?_
    refine z_aloadr_n dX9_darkMany_12 rfl ?_
    refine z_get (ci := 9) (r := (RX9, TX9, 38)) (j := 0) (v := .ref 33) dX9_darkMany_13 (Nat.le_of_ble_eq_true rfl) (zN rfl) rfl rfl (Nat.le_of_ble_eq_true rfl) fl_X9_9 rfl ?_
    refine z_iload_n dX9_darkMany_16 rfl ?_
    refine z_bald (v := ((σ 33) (nI i_).toNatClampNeg)) dX9_darkMany_17 (Nat.le_of_ble_eq_true rfl) (zN rfl) rfl (vp_in_nI (Nat.lt_of_lt_of_le hi_ (Nat.le_of_ble_eq_true rfl)) (by decide)) rfl ?_
    have K_1 : zz G mX9_darkMany 0 0 0 Q 26 [some (.ref 32), none, some (.int (nI i_))] [.int (if ((σ 33) (nI i_).toNatClampNeg) = (0 : Int32) then (0 : Int32) else (1 : Int32)), .int g_] (hh P σ) 0 0 := by
      refine z_iadd (v := (g_ + (if ((σ 33) (nI i_).toNatClampNeg) = (0 : Int32) then (0 : Int32) else (1 : Int32)))) dX9_darkMany_26 rfl ?_
      refine z_istore_n (lv' := [some (.ref 32), some (.int (g_ + (if ((σ 33) (nI i_).toNatClampNeg) = (0 : Int32) then (0 : Int32) else (1 : Int32)))), some (.int (nI i_))]) dX9_darkMany_27 (Nat.le_of_ble_eq_true rfl) rfl ?_
      refine z_iinc (v := ((nI i_) + (1 : Int32))) (lv' := [some (.ref 32), some (.int (g_ + (if ((σ 33) (nI i_).toNatClampNeg) = (0 : Int32) then (0 : Int32) else (1 : Int32)))), some (.int ((nI i_) + (1 : Int32)))]) dX9_darkMany_28 (Nat.le_of_ble_eq_true rfl) rfl (by rw [k_iconst_1]) rfl ?_
      refine z_goto (tgt := 4) dX9_darkMany_31 (by decide) ?_
      rw [nI_1]
      exact k_
    refine z_if_eq (tgt := 25) dX9_darkMany_18 (by decide) (fun c_2 => ?_) (fun c_2 => ?_)
    · refine z_iconst dX9_darkMany_25 k_iconst_0 ?_
      refine zz_sub (lv' := [some (.ref 32), none, some (.int (nI i_))]) ⟨rfl, ⟨rfl, trivial⟩⟩ ?_
      first | exact K_1 | simpa only [if_pos c_2] using K_1
    · refine z_iconst dX9_darkMany_21 k_iconst_1 ?_
      refine z_goto (tgt := 26) dX9_darkMany_22 (by decide) ?_
      refine zz_sub (lv' := [some (.ref 32), none, some (.int (nI i_))]) ⟨rfl, ⟨rfl, trivial⟩⟩ ?_
      first | exact K_1 | simpa only [if_neg c_2] using K_1
  · generalize zfor (fX9_darkMany_4 σ) 256 l1 = g_ at W2_ ⊢
    refine z_iload_n dX9_darkMany_4 rfl ?_
    refine z_sipush dX9_darkMany_5 k_sipush_256 ?_
    refine z_icmp_ge (tgt := 34) dX9_darkMany_8 (by decide) (fun c_ => ?_) (fun c_ => absurd (by decide) c_)
    exact zz_sub (lv' := [none, some (.int g_), none]) ⟨rfl, trivial⟩ W2_

theorem dX9_darkMany_0 : decode cX9_darkMany 0 = .ok (.iconst 0, 1) := by decide +kernel
theorem dX9_darkMany_1 : decode cX9_darkMany 1 = .ok (.istore_n 1, 1) := by decide +kernel
theorem dX9_darkMany_2 : decode cX9_darkMany 2 = .ok (.iconst 0, 1) := by decide +kernel
theorem dX9_darkMany_3 : decode cX9_darkMany 3 = .ok (.istore_n 2, 1) := by decide +kernel
theorem dX9_darkMany_35 : decode cX9_darkMany 35 = .ok (.ireturn, 1) := by decide +kernel
noncomputable def rX9_darkMany (σ : zc_N) : Int32 := (zfor (fX9_darkMany_4 σ) 256 (0 : Int32))
set_option maxHeartbeats 1000000 in
theorem ctX9_darkMany (P : zp) (σ : zc_N) : sp mX9_darkMany 0 0 0 [.ref 32] (hh P σ) (fun r_ h_ => r_ = some (.int (rX9_darkMany σ)) ∧ h_ = hh P σ) := by
  refine sp_of (lv := [some (.ref 32), none, none]) (by decide) (zcats_ok _ rfl) (Nat.le_of_ble_eq_true rfl) (zlv_ok _ 2 rfl) (fun G => ?_)
  generalize hQ_ : (fun (r_ : Option Value) (h_ : zc_H) => r_ = some (.int (rX9_darkMany σ)) ∧ h_ = hh P σ) = Q_
  refine z_iconst dX9_darkMany_0 k_iconst_0 ?_
  refine z_istore_n (lv' := [some (.ref 32), some (.int (0 : Int32)), none]) dX9_darkMany_1 (Nat.le_of_ble_eq_true rfl) rfl ?_
  refine z_iconst dX9_darkMany_2 k_iconst_0 ?_
  refine z_istore_n (lv' := [some (.ref 32), some (.int (0 : Int32)), some (.int (0 : Int32))]) dX9_darkMany_3 (Nat.le_of_ble_eq_true rfl) rfl ?_
  refine lpX9_darkMany_4 P σ (0 : Int32) ?_
  refine z_iload_n dX9_darkMany_34 rfl ?_
  exact z_ireturn dX9_darkMany_35 rfl rfl (Nat.le_of_ble_eq_true rfl) (Nat.le_of_ble_eq_true rfl) (by rw [← hQ_]; exact ⟨(by rw [rX9_darkMany]), rfl⟩)

theorem dX1_darkCells_4 : decode cX1_darkCells 4 = .ok (.iload_n 2, 1) := by decide +kernel
theorem dX1_darkCells_5 : decode cX1_darkCells 5 = .ok (.bipush 18, 2) := by decide +kernel
theorem dX1_darkCells_7 : decode cX1_darkCells 7 = .ok (.if_icmp .ge 21, 3) := by decide +kernel
theorem dX1_darkCells_10 : decode cX1_darkCells 10 = .ok (.iload_n 1, 1) := by decide +kernel
theorem dX1_darkCells_11 : decode cX1_darkCells 11 = .ok (.aload_n 0, 1) := by decide +kernel
theorem dX1_darkCells_12 : decode cX1_darkCells 12 = .ok (.getfield 11, 3) := by decide +kernel
theorem dX1_darkCells_15 : decode cX1_darkCells 15 = .ok (.iload_n 2, 1) := by decide +kernel
theorem dX1_darkCells_16 : decode cX1_darkCells 16 = .ok (.iaload, 1) := by decide +kernel
theorem dX1_darkCells_17 : decode cX1_darkCells 17 = .ok (.invokestatic 21, 3) := by decide +kernel
theorem dX1_darkCells_20 : decode cX1_darkCells 20 = .ok (.iadd, 1) := by decide +kernel
theorem dX1_darkCells_21 : decode cX1_darkCells 21 = .ok (.istore_n 1, 1) := by decide +kernel
theorem dX1_darkCells_22 : decode cX1_darkCells 22 = .ok (.iinc 2 1, 3) := by decide +kernel
theorem dX1_darkCells_25 : decode cX1_darkCells 25 = .ok (.goto (-21), 3) := by decide +kernel
theorem dX1_darkCells_28 : decode cX1_darkCells 28 = .ok (.iload_n 1, 1) := by decide +kernel
noncomputable def fX1_darkCells_4 (σ : zc_N) (i_ : Nat) (a_ : Int32) : Int32 := (a_ + (rJ6_bitCount_0f7a4 ((σ 5) (nI i_).toNatClampNeg)))
set_option maxHeartbeats 2000000 in
theorem lpX1_darkCells_4 {G : zc_G} {Q : Option Value → zc_H → Prop} (P : zp) (σ : zc_N) (l1 : Int32)
    (W2_ : zz G mX1_darkCells 1 0 0 Q 28 [none, some (.int (zfor (fX1_darkCells_4 σ) 18 l1)), none] [] (hh P σ) 0 0) :
    zz G mX1_darkCells 1 0 0 Q 4 [some (.ref 4), some (.int l1), some (.int (nI 0))] [] (hh P σ) 0 0 := by
  refine zfor_nI (fun i_ a_ => zz G mX1_darkCells 1 0 0 Q 4 [some (.ref 4), some (.int a_), some (.int i_)] [] (hh P σ) 0 0) (fX1_darkCells_4 σ) 18 l1 (fun i_ hi_ k_ => ?_) ?_
  · generalize zfor (fX1_darkCells_4 σ) i_ l1 = g_ at k_ ⊢
    rw [fX1_darkCells_4] at k_
    refine z_iload_n dX1_darkCells_4 rfl ?_
    refine z_bipush dX1_darkCells_5 k_bipush_18 ?_
    refine z_icmp_ge (tgt := 28) dX1_darkCells_7 (by decide) (fun c_ => absurd c_ (nI_ge hi_ (by decide))) (fun c_ => ?_)
    refine z_iload_n dX1_darkCells_10 rfl ?_
    refine z_aloadr_n dX1_darkCells_11 rfl ?_
    refine z_get (ci := 1) (r := (RX1, TX1, 3)) (j := 0) (v := .ref 5) dX1_darkCells_12 (Nat.le_of_ble_eq_true rfl) (zN rfl) rfl rfl (Nat.le_of_ble_eq_true rfl) fl_X1_11 rfl ?_
    refine z_iload_n dX1_darkCells_15 rfl ?_
    refine z_iald (v := ((σ 5) (nI i_).toNatClampNeg)) dX1_darkCells_16 (zN rfl) rfl (vp_in_nI (Nat.lt_of_lt_of_le hi_ (Nat.le_of_ble_eq_true rfl)) (by decide)) rfl ?_
    refine z_callS (As := [.int ((σ 5) (nI i_).toNatClampNeg)]) (rest := [.int g_]) (ctJ6_bitCount_0f7a4 P σ ((σ 5) (nI i_).toNatClampNeg)) dX1_darkCells_17 lk_X1_21 ls_J6_bitCount_0f7a4 rfl (Nat.le_of_ble_eq_true rfl) (Nat.le_of_ble_eq_true rfl) (Nat.le_of_ble_eq_true rfl) (Nat.le_of_ble_eq_true rfl) (fun r_ h_ e_ => ?_)
    obtain ⟨e1_, e2_⟩ := e_
    subst e1_
    subst e2_
    show zz G mX1_darkCells 1 0 0 Q 20 [some (.ref 4), some (.int g_), some (.int (nI i_))] [.int (rJ6_bitCount_0f7a4 ((σ 5) (nI i_).toNatClampNeg)), .int g_] (hh P σ) 0 0
    refine z_iadd (v := (g_ + (rJ6_bitCount_0f7a4 ((σ 5) (nI i_).toNatClampNeg)))) dX1_darkCells_20 rfl ?_
    refine z_istore_n (lv' := [some (.ref 4), some (.int (g_ + (rJ6_bitCount_0f7a4 ((σ 5) (nI i_).toNatClampNeg)))), some (.int (nI i_))]) dX1_darkCells_21 (Nat.le_of_ble_eq_true rfl) rfl ?_
    refine z_iinc (v := ((nI i_) + (1 : Int32))) (lv' := [some (.ref 4), some (.int (g_ + (rJ6_bitCount_0f7a4 ((σ 5) (nI i_).toNatClampNeg)))), some (.int ((nI i_) + (1 : Int32)))]) dX1_darkCells_22 (Nat.le_of_ble_eq_true rfl) rfl (by rw [k_iconst_1]) rfl ?_
    refine z_goto (tgt := 4) dX1_darkCells_25 (by decide) ?_
    rw [nI_1]
    exact k_
  · generalize zfor (fX1_darkCells_4 σ) 18 l1 = g_ at W2_ ⊢
    refine z_iload_n dX1_darkCells_4 rfl ?_
    refine z_bipush dX1_darkCells_5 k_bipush_18 ?_
    refine z_icmp_ge (tgt := 28) dX1_darkCells_7 (by decide) (fun c_ => ?_) (fun c_ => absurd (by decide) c_)
    exact zz_sub (lv' := [none, some (.int g_), none]) ⟨rfl, trivial⟩ W2_

theorem dX1_darkCells_0 : decode cX1_darkCells 0 = .ok (.iconst 0, 1) := by decide +kernel
theorem dX1_darkCells_1 : decode cX1_darkCells 1 = .ok (.istore_n 1, 1) := by decide +kernel
theorem dX1_darkCells_2 : decode cX1_darkCells 2 = .ok (.iconst 0, 1) := by decide +kernel
theorem dX1_darkCells_3 : decode cX1_darkCells 3 = .ok (.istore_n 2, 1) := by decide +kernel
theorem dX1_darkCells_29 : decode cX1_darkCells 29 = .ok (.ireturn, 1) := by decide +kernel
noncomputable def rX1_darkCells (σ : zc_N) : Int32 := (zfor (fX1_darkCells_4 σ) 18 (0 : Int32))
set_option maxHeartbeats 1000000 in
theorem ctX1_darkCells (P : zp) (σ : zc_N) : sp mX1_darkCells 1 0 0 [.ref 4] (hh P σ) (fun r_ h_ => r_ = some (.int (rX1_darkCells σ)) ∧ h_ = hh P σ) := by
  refine sp_of (lv := [some (.ref 4), none, none]) (by decide) (zcats_ok _ rfl) (Nat.le_of_ble_eq_true rfl) (zlv_ok _ 2 rfl) (fun G => ?_)
  generalize hQ_ : (fun (r_ : Option Value) (h_ : zc_H) => r_ = some (.int (rX1_darkCells σ)) ∧ h_ = hh P σ) = Q_
  refine z_iconst dX1_darkCells_0 k_iconst_0 ?_
  refine z_istore_n (lv' := [some (.ref 4), some (.int (0 : Int32)), none]) dX1_darkCells_1 (Nat.le_of_ble_eq_true rfl) rfl ?_
  refine z_iconst dX1_darkCells_2 k_iconst_0 ?_
  refine z_istore_n (lv' := [some (.ref 4), some (.int (0 : Int32)), some (.int (0 : Int32))]) dX1_darkCells_3 (Nat.le_of_ble_eq_true rfl) rfl ?_
  refine lpX1_darkCells_4 P σ (0 : Int32) ?_
  refine z_iload_n dX1_darkCells_28 rfl ?_
  exact z_ireturn dX1_darkCells_29 rfl rfl (Nat.le_of_ble_eq_true rfl) (Nat.le_of_ble_eq_true rfl) (by rw [← hQ_]; exact ⟨(by rw [rX1_darkCells]), rfl⟩)

theorem dX1_sweepOnce_12 : decode cX1_sweepOnce 12 = .ok (.iload_n 3, 1) := by decide +kernel
theorem dX1_sweepOnce_13 : decode cX1_sweepOnce 13 = .ok (.bipush 16, 2) := by decide +kernel
theorem dX1_sweepOnce_15 : decode cX1_sweepOnce 15 = .ok (.if_icmp .ge 52, 3) := by decide +kernel
theorem dX1_sweepOnce_18 : decode cX1_sweepOnce 18 = .ok (.aload_n 0, 1) := by decide +kernel
theorem dX1_sweepOnce_19 : decode cX1_sweepOnce 19 = .ok (.iload_n 3, 1) := by decide +kernel
theorem dX1_sweepOnce_20 : decode cX1_sweepOnce 20 = .ok (.iload_n 2, 1) := by decide +kernel
theorem dX1_sweepOnce_21 : decode cX1_sweepOnce 21 = .ok (.invokevirtual 31, 3) := by decide +kernel
theorem dX1_sweepOnce_24 : decode cX1_sweepOnce 24 = .ok (.ifCond .eq 37, 3) := by decide +kernel
theorem dX1_sweepOnce_27 : decode cX1_sweepOnce 27 = .ok (.aload_n 0, 1) := by decide +kernel
theorem dX1_sweepOnce_28 : decode cX1_sweepOnce 28 = .ok (.iload_n 3, 1) := by decide +kernel
theorem dX1_sweepOnce_29 : decode cX1_sweepOnce 29 = .ok (.iload_n 2, 1) := by decide +kernel
theorem dX1_sweepOnce_30 : decode cX1_sweepOnce 30 = .ok (.invokevirtual 35, 3) := by decide +kernel
theorem dX1_sweepOnce_33 : decode cX1_sweepOnce 33 = .ok (.invokestatic 39, 3) := by decide +kernel
theorem dX1_sweepOnce_36 : decode cX1_sweepOnce 36 = .ok (.ifCond .eq 25, 3) := by decide +kernel
theorem dX1_sweepOnce_39 : decode cX1_sweepOnce 39 = .ok (.aload_n 0, 1) := by decide +kernel
theorem dX1_sweepOnce_40 : decode cX1_sweepOnce 40 = .ok (.getfield 11, 3) := by decide +kernel
theorem dX1_sweepOnce_43 : decode cX1_sweepOnce 43 = .ok (.iload_n 2, 1) := by decide +kernel
theorem dX1_sweepOnce_44 : decode cX1_sweepOnce 44 = .ok (.iconst 1, 1) := by decide +kernel
theorem dX1_sweepOnce_45 : decode cX1_sweepOnce 45 = .ok (.iadd, 1) := by decide +kernel
theorem dX1_sweepOnce_46 : decode cX1_sweepOnce 46 = .ok (.dup2, 1) := by decide +kernel
theorem dX1_sweepOnce_47 : decode cX1_sweepOnce 47 = .ok (.iaload, 1) := by decide +kernel
theorem dX1_sweepOnce_48 : decode cX1_sweepOnce 48 = .ok (.iconst 1, 1) := by decide +kernel
theorem dX1_sweepOnce_49 : decode cX1_sweepOnce 49 = .ok (.bipush 16, 2) := by decide +kernel
theorem dX1_sweepOnce_51 : decode cX1_sweepOnce 51 = .ok (.iload_n 3, 1) := by decide +kernel
theorem dX1_sweepOnce_52 : decode cX1_sweepOnce 52 = .ok (.isub, 1) := by decide +kernel
theorem dX1_sweepOnce_53 : decode cX1_sweepOnce 53 = .ok (.ishl, 1) := by decide +kernel
theorem dX1_sweepOnce_54 : decode cX1_sweepOnce 54 = .ok (.iconst (-1), 1) := by decide +kernel
theorem dX1_sweepOnce_55 : decode cX1_sweepOnce 55 = .ok (.ixor, 1) := by decide +kernel
theorem dX1_sweepOnce_56 : decode cX1_sweepOnce 56 = .ok (.iand, 1) := by decide +kernel
theorem dX1_sweepOnce_57 : decode cX1_sweepOnce 57 = .ok (.iastore, 1) := by decide +kernel
theorem dX1_sweepOnce_58 : decode cX1_sweepOnce 58 = .ok (.iinc 1 1, 3) := by decide +kernel
theorem dX1_sweepOnce_61 : decode cX1_sweepOnce 61 = .ok (.iinc 3 1, 3) := by decide +kernel
theorem dX1_sweepOnce_64 : decode cX1_sweepOnce 64 = .ok (.goto (-52), 3) := by decide +kernel
theorem dX1_sweepOnce_67 : decode cX1_sweepOnce 67 = .ok (.iinc 2 1, 3) := by decide +kernel
theorem dX1_sweepOnce_70 : decode cX1_sweepOnce 70 = .ok (.goto (-66), 3) := by decide +kernel
noncomputable def fX1_sweepOnce_12 (l2 : Int32) (i_ : Nat) (a_ : Int32 × zc_N) : Int32 × zc_N := ((if (rX1_isDark a_.2 (nI i_) l2) = (0 : Int32) then a_.1 else (if (rX1_goes (rX1_ringAt a_.2 (nI i_) l2)) = (0 : Int32) then a_.1 else (a_.1 + (1 : Int32)))), (if (rX1_isDark a_.2 (nI i_) l2) = (0 : Int32) then a_.2 else (if (rX1_goes (rX1_ringAt a_.2 (nI i_) l2)) = (0 : Int32) then a_.2 else (zu a_.2 5 (zu (a_.2 5) (l2 + (1 : Int32)).toNatClampNeg (((a_.2 5) (l2 + (1 : Int32)).toNatClampNeg) &&& ((zshl (1 : Int32) ((16 : Int32) - (nI i_))) ^^^ (-1 : Int32))))))))
def qX1_sweepOnce_12 (l2 : Int32) (i_ : Nat) (a_ : Int32 × zc_N) : Prop := ((pX1_isDark l2) ∧ (((rX1_isDark a_.2 (nI i_) l2) = (0 : Int32) → True) ∧ (¬ (rX1_isDark a_.2 (nI i_) l2) = (0 : Int32) → ((pX1_ringAt l2) ∧ (((rX1_goes (rX1_ringAt a_.2 (nI i_) l2)) = (0 : Int32) → True) ∧ (¬ (rX1_goes (rX1_ringAt a_.2 (nI i_) l2)) = (0 : Int32) → (vp_in (l2 + (1 : Int32)) 18 ∧ vp_in (l2 + (1 : Int32)) 18)))))))
set_option maxHeartbeats 2000000 in
theorem lpX1_sweepOnce_12 {G : zc_G} {Q : Option Value → zc_H → Prop} (P : zp) (σ : zc_N) (l1 : Int32) (l2 : Int32) (W1_ : ∀ i12_ : Nat, i12_ < 16 → qX1_sweepOnce_12 l2 i12_ (zfor (fX1_sweepOnce_12 l2) i12_ (l1, σ)))
    (W2_ : zz G mX1_sweepOnce 3 0 0 Q 67 [some (.ref 4), some (.int (zfor (fX1_sweepOnce_12 l2) 16 (l1, σ)).1), some (.int l2), none] [] (hh P (zfor (fX1_sweepOnce_12 l2) 16 (l1, σ)).2) 0 0) :
    zz G mX1_sweepOnce 3 0 0 Q 12 [some (.ref 4), some (.int l1), some (.int l2), some (.int (nI 0))] [] (hh P σ) 0 0 := by
  refine zfor_nI (fun i_ a_ => zz G mX1_sweepOnce 3 0 0 Q 12 [some (.ref 4), some (.int a_.1), some (.int l2), some (.int i_)] [] (hh P a_.2) 0 0) (fX1_sweepOnce_12 l2) 16 (l1, σ) (fun i_ hi_ k_ => ?_) ?_
  all_goals try dsimp only
  · have W3_ := W1_ i_ hi_
    generalize zfor (fX1_sweepOnce_12 l2) i_ (l1, σ) = g_ at k_ W3_ ⊢
    obtain ⟨x0_, x1_⟩ := g_
    dsimp only at k_ W3_ ⊢
    rw [fX1_sweepOnce_12] at k_
    rw [qX1_sweepOnce_12] at W3_
    try dsimp only at W3_
    dsimp only at k_
    refine z_iload_n dX1_sweepOnce_12 rfl ?_
    refine z_bipush dX1_sweepOnce_13 k_bipush_16 ?_
    refine z_icmp_ge (tgt := 67) dX1_sweepOnce_15 (by decide) (fun c_ => absurd c_ (nI_ge hi_ (by decide))) (fun c_ => ?_)
    refine z_aloadr_n dX1_sweepOnce_18 rfl ?_
    refine z_iload_n dX1_sweepOnce_19 rfl ?_
    refine z_iload_n dX1_sweepOnce_20 rfl ?_
    refine z_callV (ci := 1) (r := (RX1, TX1, 3)) (b := 4) (As := [.int (nI i_), .int l2]) (rest := []) (ctX1_isDark P x1_ (nI i_) l2 W3_.1) dX1_sweepOnce_21 lk_X1_31 lv_X1_isDark (Nat.le_of_ble_eq_true rfl) (zN rfl) rfl rfl rfl rfl (Nat.le_of_ble_eq_true rfl) (Nat.le_of_ble_eq_true rfl) (Nat.le_of_ble_eq_true rfl) (Nat.le_of_ble_eq_true rfl) (fun r_ h_ e_ => ?_)
    obtain ⟨e1_, e2_⟩ := e_
    subst e1_
    subst e2_
    show zz G mX1_sweepOnce 3 0 0 Q 24 [some (.ref 4), some (.int x0_), some (.int l2), some (.int (nI i_))] [.int (rX1_isDark x1_ (nI i_) l2)] (hh P x1_) 0 0
    refine z_if_eq (tgt := 61) dX1_sweepOnce_24 (by decide) (fun c_2 => ?_) (fun c_2 => ?_)
    · refine z_iinc (v := ((nI i_) + (1 : Int32))) (lv' := [some (.ref 4), some (.int x0_), some (.int l2), some (.int ((nI i_) + (1 : Int32)))]) dX1_sweepOnce_61 (Nat.le_of_ble_eq_true rfl) rfl (by rw [k_iconst_1]) rfl ?_
      refine z_goto (tgt := 12) dX1_sweepOnce_64 (by decide) ?_
      rw [nI_1]
      simpa only [if_pos c_2] using k_
    · refine z_aloadr_n dX1_sweepOnce_27 rfl ?_
      refine z_iload_n dX1_sweepOnce_28 rfl ?_
      refine z_iload_n dX1_sweepOnce_29 rfl ?_
      refine z_callV (ci := 1) (r := (RX1, TX1, 3)) (b := 4) (As := [.int (nI i_), .int l2]) (rest := []) (ctX1_ringAt P x1_ (nI i_) l2 ((W3_.2.2 c_2).1)) dX1_sweepOnce_30 lk_X1_35 lv_X1_ringAt (Nat.le_of_ble_eq_true rfl) (zN rfl) rfl rfl rfl rfl (Nat.le_of_ble_eq_true rfl) (Nat.le_of_ble_eq_true rfl) (Nat.le_of_ble_eq_true rfl) (Nat.le_of_ble_eq_true rfl) (fun r_ h_ e_ => ?_)
      obtain ⟨e1_, e2_⟩ := e_
      subst e1_
      subst e2_
      show zz G mX1_sweepOnce 3 0 0 Q 33 [some (.ref 4), some (.int x0_), some (.int l2), some (.int (nI i_))] [.int (rX1_ringAt x1_ (nI i_) l2)] (hh P x1_) 0 0
      refine z_callS (As := [.int (rX1_ringAt x1_ (nI i_) l2)]) (rest := []) (ctX1_goes P x1_ (rX1_ringAt x1_ (nI i_) l2)) dX1_sweepOnce_33 lk_X1_39 ls_X1_goes rfl (Nat.le_of_ble_eq_true rfl) (Nat.le_of_ble_eq_true rfl) (Nat.le_of_ble_eq_true rfl) (Nat.le_of_ble_eq_true rfl) (fun r_ h_ e_ => ?_)
      obtain ⟨e1_, e2_⟩ := e_
      subst e1_
      subst e2_
      show zz G mX1_sweepOnce 3 0 0 Q 36 [some (.ref 4), some (.int x0_), some (.int l2), some (.int (nI i_))] [.int (rX1_goes (rX1_ringAt x1_ (nI i_) l2))] (hh P x1_) 0 0
      refine z_if_eq (tgt := 61) dX1_sweepOnce_36 (by decide) (fun c_3 => ?_) (fun c_3 => ?_)
      · refine z_iinc (v := ((nI i_) + (1 : Int32))) (lv' := [some (.ref 4), some (.int x0_), some (.int l2), some (.int ((nI i_) + (1 : Int32)))]) dX1_sweepOnce_61 (Nat.le_of_ble_eq_true rfl) rfl (by rw [k_iconst_1]) rfl ?_
        refine z_goto (tgt := 12) dX1_sweepOnce_64 (by decide) ?_
        rw [nI_1]
        simpa only [if_neg c_2, if_pos c_3] using k_
      · refine z_aloadr_n dX1_sweepOnce_39 rfl ?_
        refine z_get (ci := 1) (r := (RX1, TX1, 3)) (j := 0) (v := .ref 5) dX1_sweepOnce_40 (Nat.le_of_ble_eq_true rfl) (zN rfl) rfl rfl (Nat.le_of_ble_eq_true rfl) fl_X1_11 rfl ?_
        refine z_iload_n dX1_sweepOnce_43 rfl ?_
        refine z_iconst dX1_sweepOnce_44 k_iconst_1 ?_
        refine z_iadd (v := (l2 + (1 : Int32))) dX1_sweepOnce_45 rfl ?_
        refine z_dup2 dX1_sweepOnce_46 rfl rfl ?_
        refine z_iald (v := ((x1_ 5) (l2 + (1 : Int32)).toNatClampNeg)) dX1_sweepOnce_47 (zN rfl) rfl (((W3_.2.2 c_2).2.2 c_3).1) rfl ?_
        refine z_iconst dX1_sweepOnce_48 k_iconst_1 ?_
        refine z_bipush dX1_sweepOnce_49 k_bipush_16 ?_
        refine z_iload_n dX1_sweepOnce_51 rfl ?_
        refine z_isub (v := ((16 : Int32) - (nI i_))) dX1_sweepOnce_52 rfl ?_
        refine z_ishl (v := (zshl (1 : Int32) ((16 : Int32) - (nI i_)))) dX1_sweepOnce_53 rfl ?_
        refine z_iconst dX1_sweepOnce_54 k_iconst_m1 ?_
        refine z_ixor (v := ((zshl (1 : Int32) ((16 : Int32) - (nI i_))) ^^^ (-1 : Int32))) dX1_sweepOnce_55 rfl ?_
        refine z_iand (v := (((x1_ 5) (l2 + (1 : Int32)).toNatClampNeg) &&& ((zshl (1 : Int32) ((16 : Int32) - (nI i_))) ^^^ (-1 : Int32)))) dX1_sweepOnce_56 rfl ?_
        refine z_iast (σ' := (zu x1_ 5 (zu (x1_ 5) (l2 + (1 : Int32)).toNatClampNeg (((x1_ 5) (l2 + (1 : Int32)).toNatClampNeg) &&& ((zshl (1 : Int32) ((16 : Int32) - (nI i_))) ^^^ (-1 : Int32)))))) dX1_sweepOnce_57 (Nat.le_of_ble_eq_true rfl) (zN rfl) rfl (((W3_.2.2 c_2).2.2 c_3).2) rfl ?_
        refine z_iinc (v := (x0_ + (1 : Int32))) (lv' := [some (.ref 4), some (.int (x0_ + (1 : Int32))), some (.int l2), some (.int (nI i_))]) dX1_sweepOnce_58 (Nat.le_of_ble_eq_true rfl) rfl (by rw [k_iconst_1]) rfl ?_
        refine z_iinc (v := ((nI i_) + (1 : Int32))) (lv' := [some (.ref 4), some (.int (x0_ + (1 : Int32))), some (.int l2), some (.int ((nI i_) + (1 : Int32)))]) dX1_sweepOnce_61 (Nat.le_of_ble_eq_true rfl) rfl (by rw [k_iconst_1]) rfl ?_
        refine z_goto (tgt := 12) dX1_sweepOnce_64 (by decide) ?_
        rw [nI_1]
        simpa only [if_neg c_2, if_neg c_3] using k_
  · generalize zfor (fX1_sweepOnce_12 l2) 16 (l1, σ) = g_ at W2_ ⊢
    obtain ⟨x0_, x1_⟩ := g_
    dsimp only at W2_ ⊢
    refine z_iload_n dX1_sweepOnce_12 rfl ?_
    refine z_bipush dX1_sweepOnce_13 k_bipush_16 ?_
    refine z_icmp_ge (tgt := 67) dX1_sweepOnce_15 (by decide) (fun c_ => ?_) (fun c_ => absurd (by decide) c_)
    exact zz_sub (lv' := [some (.ref 4), some (.int x0_), some (.int l2), none]) ⟨rfl, ⟨rfl, ⟨rfl, trivial⟩⟩⟩ W2_

theorem dX1_sweepOnce_4 : decode cX1_sweepOnce 4 = .ok (.iload_n 2, 1) := by decide +kernel
theorem dX1_sweepOnce_5 : decode cX1_sweepOnce 5 = .ok (.bipush 16, 2) := by decide +kernel
theorem dX1_sweepOnce_7 : decode cX1_sweepOnce 7 = .ok (.if_icmp .ge 66, 3) := by decide +kernel
theorem dX1_sweepOnce_10 : decode cX1_sweepOnce 10 = .ok (.iconst 0, 1) := by decide +kernel
theorem dX1_sweepOnce_11 : decode cX1_sweepOnce 11 = .ok (.istore_n 3, 1) := by decide +kernel
theorem dX1_sweepOnce_73 : decode cX1_sweepOnce 73 = .ok (.iload_n 1, 1) := by decide +kernel
noncomputable def fX1_sweepOnce_4 (i_ : Nat) (a_ : Int32 × zc_N) : Int32 × zc_N := ((zfor (fX1_sweepOnce_12 (nI i_)) 16 (a_.1, a_.2)).1, (zfor (fX1_sweepOnce_12 (nI i_)) 16 (a_.1, a_.2)).2)
def qX1_sweepOnce_4 (i_ : Nat) (a_ : Int32 × zc_N) : Prop := (∀ i12_ : Nat, i12_ < 16 → qX1_sweepOnce_12 (nI i_) i12_ (zfor (fX1_sweepOnce_12 (nI i_)) i12_ (a_.1, a_.2)))
set_option maxHeartbeats 2000000 in
theorem lpX1_sweepOnce_4 {G : zc_G} {Q : Option Value → zc_H → Prop} (P : zp) (σ : zc_N) (l1 : Int32) (W1_ : ∀ i4_ : Nat, i4_ < 16 → qX1_sweepOnce_4 i4_ (zfor fX1_sweepOnce_4 i4_ (l1, σ)))
    (W2_ : zz G mX1_sweepOnce 3 0 0 Q 73 [none, some (.int (zfor fX1_sweepOnce_4 16 (l1, σ)).1), none, none] [] (hh P (zfor fX1_sweepOnce_4 16 (l1, σ)).2) 0 0) :
    zz G mX1_sweepOnce 3 0 0 Q 4 [some (.ref 4), some (.int l1), some (.int (nI 0)), none] [] (hh P σ) 0 0 := by
  refine zfor_nI (fun i_ a_ => zz G mX1_sweepOnce 3 0 0 Q 4 [some (.ref 4), some (.int a_.1), some (.int i_), none] [] (hh P a_.2) 0 0) fX1_sweepOnce_4 16 (l1, σ) (fun i_ hi_ k_ => ?_) ?_
  all_goals try dsimp only
  · have W3_ := W1_ i_ hi_
    generalize zfor fX1_sweepOnce_4 i_ (l1, σ) = g_ at k_ W3_ ⊢
    obtain ⟨x0_, x1_⟩ := g_
    dsimp only at k_ W3_ ⊢
    rw [fX1_sweepOnce_4] at k_
    rw [qX1_sweepOnce_4] at W3_
    try dsimp only at W3_
    dsimp only at k_
    refine z_iload_n dX1_sweepOnce_4 rfl ?_
    refine z_bipush dX1_sweepOnce_5 k_bipush_16 ?_
    refine z_icmp_ge (tgt := 73) dX1_sweepOnce_7 (by decide) (fun c_ => absurd c_ (nI_ge hi_ (by decide))) (fun c_ => ?_)
    refine z_iconst dX1_sweepOnce_10 k_iconst_0 ?_
    refine z_istore_n (lv' := [some (.ref 4), some (.int x0_), some (.int (nI i_)), some (.int (0 : Int32))]) dX1_sweepOnce_11 (Nat.le_of_ble_eq_true rfl) rfl ?_
    refine lpX1_sweepOnce_12 P x1_ x0_ (nI i_) W3_ ?_
    refine z_iinc (v := ((nI i_) + (1 : Int32))) (lv' := [some (.ref 4), some (.int (zfor (fX1_sweepOnce_12 (nI i_)) 16 (x0_, x1_)).1), some (.int ((nI i_) + (1 : Int32))), none]) dX1_sweepOnce_67 (Nat.le_of_ble_eq_true rfl) rfl (by rw [k_iconst_1]) rfl ?_
    refine z_goto (tgt := 4) dX1_sweepOnce_70 (by decide) ?_
    rw [nI_1]
    exact k_
  · generalize zfor fX1_sweepOnce_4 16 (l1, σ) = g_ at W2_ ⊢
    obtain ⟨x0_, x1_⟩ := g_
    dsimp only at W2_ ⊢
    refine z_iload_n dX1_sweepOnce_4 rfl ?_
    refine z_bipush dX1_sweepOnce_5 k_bipush_16 ?_
    refine z_icmp_ge (tgt := 73) dX1_sweepOnce_7 (by decide) (fun c_ => ?_) (fun c_ => absurd (by decide) c_)
    exact zz_sub (lv' := [none, some (.int x0_), none, none]) ⟨rfl, trivial⟩ W2_

theorem dX1_sweepOnce_0 : decode cX1_sweepOnce 0 = .ok (.iconst 0, 1) := by decide +kernel
theorem dX1_sweepOnce_1 : decode cX1_sweepOnce 1 = .ok (.istore_n 1, 1) := by decide +kernel
theorem dX1_sweepOnce_2 : decode cX1_sweepOnce 2 = .ok (.iconst 0, 1) := by decide +kernel
theorem dX1_sweepOnce_3 : decode cX1_sweepOnce 3 = .ok (.istore_n 2, 1) := by decide +kernel
theorem dX1_sweepOnce_74 : decode cX1_sweepOnce 74 = .ok (.ireturn, 1) := by decide +kernel
def pX1_sweepOnce (σ : zc_N) : Prop := (∀ i4_ : Nat, i4_ < 16 → qX1_sweepOnce_4 i4_ (zfor fX1_sweepOnce_4 i4_ ((0 : Int32), σ)))
noncomputable def rX1_sweepOnce (σ : zc_N) : Int32 := (zfor fX1_sweepOnce_4 16 ((0 : Int32), σ)).1
noncomputable def sX1_sweepOnce (σ : zc_N) : zc_N := (zfor fX1_sweepOnce_4 16 ((0 : Int32), σ)).2
set_option maxHeartbeats 1000000 in
theorem ctX1_sweepOnce (P : zp) (σ : zc_N) (W_ : (pX1_sweepOnce σ)) : sp mX1_sweepOnce 3 0 0 [.ref 4] (hh P σ) (fun r_ h_ => r_ = some (.int (rX1_sweepOnce σ)) ∧ h_ = hh P (sX1_sweepOnce σ)) := by
  refine sp_of (lv := [some (.ref 4), none, none, none]) (by decide) (zcats_ok _ rfl) (Nat.le_of_ble_eq_true rfl) (zlv_ok _ 3 rfl) (fun G => ?_)
  generalize hQ_ : (fun (r_ : Option Value) (h_ : zc_H) => r_ = some (.int (rX1_sweepOnce σ)) ∧ h_ = hh P (sX1_sweepOnce σ)) = Q_
  unfold pX1_sweepOnce at W_
  refine z_iconst dX1_sweepOnce_0 k_iconst_0 ?_
  refine z_istore_n (lv' := [some (.ref 4), some (.int (0 : Int32)), none, none]) dX1_sweepOnce_1 (Nat.le_of_ble_eq_true rfl) rfl ?_
  refine z_iconst dX1_sweepOnce_2 k_iconst_0 ?_
  refine z_istore_n (lv' := [some (.ref 4), some (.int (0 : Int32)), some (.int (0 : Int32)), none]) dX1_sweepOnce_3 (Nat.le_of_ble_eq_true rfl) rfl ?_
  refine lpX1_sweepOnce_4 P σ (0 : Int32) W_ ?_
  refine z_iload_n dX1_sweepOnce_73 rfl ?_
  exact z_ireturn dX1_sweepOnce_74 rfl rfl (Nat.le_of_ble_eq_true rfl) (Nat.le_of_ble_eq_true rfl) (by rw [← hQ_]; exact ⟨(by rw [rX1_sweepOnce]), (by rw [sX1_sweepOnce])⟩)

theorem dX9_row_16 : decode cX9_row 16 = .ok (.iload_n 3, 1) := by decide +kernel
theorem dX9_row_17 : decode cX9_row 17 = .ok (.bipush 16, 2) := by decide +kernel
theorem dX9_row_19 : decode cX9_row 19 = .ok (.if_icmp .ge 33, 3) := by decide +kernel
theorem dX9_row_22 : decode cX9_row 22 = .ok (.iconst 2, 1) := by decide +kernel
theorem dX9_row_23 : decode cX9_row 23 = .ok (.iload_n 2, 1) := by decide +kernel
theorem dX9_row_24 : decode cX9_row 24 = .ok (.imul, 1) := by decide +kernel
theorem dX9_row_25 : decode cX9_row 25 = .ok (.aload_n 0, 1) := by decide +kernel
theorem dX9_row_26 : decode cX9_row 26 = .ok (.getfield 9, 3) := by decide +kernel
theorem dX9_row_29 : decode cX9_row 29 = .ok (.bipush 16, 2) := by decide +kernel
theorem dX9_row_31 : decode cX9_row 31 = .ok (.iload_n 1, 1) := by decide +kernel
theorem dX9_row_32 : decode cX9_row 32 = .ok (.imul, 1) := by decide +kernel
theorem dX9_row_33 : decode cX9_row 33 = .ok (.iload_n 3, 1) := by decide +kernel
theorem dX9_row_34 : decode cX9_row 34 = .ok (.iadd, 1) := by decide +kernel
theorem dX9_row_35 : decode cX9_row 35 = .ok (.baload, 1) := by decide +kernel
theorem dX9_row_36 : decode cX9_row 36 = .ok (.ifCond .eq 7, 3) := by decide +kernel
theorem dX9_row_39 : decode cX9_row 39 = .ok (.iconst 1, 1) := by decide +kernel
theorem dX9_row_40 : decode cX9_row 40 = .ok (.goto 4, 3) := by decide +kernel
theorem dX9_row_43 : decode cX9_row 43 = .ok (.iconst 0, 1) := by decide +kernel
theorem dX9_row_44 : decode cX9_row 44 = .ok (.iadd, 1) := by decide +kernel
theorem dX9_row_45 : decode cX9_row 45 = .ok (.istore_n 2, 1) := by decide +kernel
theorem dX9_row_46 : decode cX9_row 46 = .ok (.iinc 3 1, 3) := by decide +kernel
theorem dX9_row_49 : decode cX9_row 49 = .ok (.goto (-33), 3) := by decide +kernel
theorem dX9_row_52 : decode cX9_row 52 = .ok (.iload_n 2, 1) := by decide +kernel
noncomputable def fX9_row_16 (σ : zc_N) (l1 : Int32) (i_ : Nat) (a_ : Int32) : Int32 := (((2 : Int32) * a_) + (if ((σ 33) (((16 : Int32) * l1) + (nI i_)).toNatClampNeg) = (0 : Int32) then (0 : Int32) else (1 : Int32)))
def qX9_row_16 (l1 : Int32) (i_ : Nat) (a_ : Int32) : Prop := vp_in (((16 : Int32) * l1) + (nI i_)) 256
set_option maxHeartbeats 2000000 in
theorem lpX9_row_16 {G : zc_G} {Q : Option Value → zc_H → Prop} (P : zp) (σ : zc_N) (l1 : Int32) (l2 : Int32) (W1_ : ∀ i16_ : Nat, i16_ < 16 → qX9_row_16 l1 i16_ (zfor (fX9_row_16 σ l1) i16_ l2))
    (W2_ : zz G mX9_row 1 0 0 Q 52 [none, none, some (.int (zfor (fX9_row_16 σ l1) 16 l2)), none] [] (hh P σ) 0 0) :
    zz G mX9_row 1 0 0 Q 16 [some (.ref 32), some (.int l1), some (.int l2), some (.int (nI 0))] [] (hh P σ) 0 0 := by
  refine zfor_nI (fun i_ a_ => zz G mX9_row 1 0 0 Q 16 [some (.ref 32), some (.int l1), some (.int a_), some (.int i_)] [] (hh P σ) 0 0) (fX9_row_16 σ l1) 16 l2 (fun i_ hi_ k_ => ?_) ?_
  · have W3_ := W1_ i_ hi_
    generalize zfor (fX9_row_16 σ l1) i_ l2 = g_ at k_ W3_ ⊢
    rw [fX9_row_16] at k_
    rw [qX9_row_16] at W3_
    try dsimp only at W3_
    refine z_iload_n dX9_row_16 rfl ?_
    refine z_bipush dX9_row_17 k_bipush_16 ?_
    refine z_icmp_ge (tgt := 52) dX9_row_19 (by decide) (fun c_ => absurd c_ (nI_ge hi_ (by decide))) (fun c_ => ?_)
    refine z_iconst dX9_row_22 k_iconst_2 ?_
    refine z_iload_n dX9_row_23 rfl ?_
    refine z_imul (v := ((2 : Int32) * g_)) dX9_row_24 rfl ?_
    refine z_aloadr_n dX9_row_25 rfl ?_
    refine z_get (ci := 9) (r := (RX9, TX9, 38)) (j := 0) (v := .ref 33) dX9_row_26 (Nat.le_of_ble_eq_true rfl) (zN rfl) rfl rfl (Nat.le_of_ble_eq_true rfl) fl_X9_9 rfl ?_
    refine z_bipush dX9_row_29 k_bipush_16 ?_
    refine z_iload_n dX9_row_31 rfl ?_
    refine z_imul (v := ((16 : Int32) * l1)) dX9_row_32 rfl ?_
    refine z_iload_n dX9_row_33 rfl ?_
    refine z_iadd (v := (((16 : Int32) * l1) + (nI i_))) dX9_row_34 rfl ?_
    refine z_bald (v := ((σ 33) (((16 : Int32) * l1) + (nI i_)).toNatClampNeg)) dX9_row_35 (Nat.le_of_ble_eq_true rfl) (zN rfl) rfl W3_ rfl ?_
    have K_1 : zz G mX9_row 1 0 0 Q 44 [some (.ref 32), some (.int l1), none, some (.int (nI i_))] [.int (if ((σ 33) (((16 : Int32) * l1) + (nI i_)).toNatClampNeg) = (0 : Int32) then (0 : Int32) else (1 : Int32)), .int ((2 : Int32) * g_)] (hh P σ) 0 0 := by
      refine z_iadd (v := (((2 : Int32) * g_) + (if ((σ 33) (((16 : Int32) * l1) + (nI i_)).toNatClampNeg) = (0 : Int32) then (0 : Int32) else (1 : Int32)))) dX9_row_44 rfl ?_
      refine z_istore_n (lv' := [some (.ref 32), some (.int l1), some (.int (((2 : Int32) * g_) + (if ((σ 33) (((16 : Int32) * l1) + (nI i_)).toNatClampNeg) = (0 : Int32) then (0 : Int32) else (1 : Int32)))), some (.int (nI i_))]) dX9_row_45 (Nat.le_of_ble_eq_true rfl) rfl ?_
      refine z_iinc (v := ((nI i_) + (1 : Int32))) (lv' := [some (.ref 32), some (.int l1), some (.int (((2 : Int32) * g_) + (if ((σ 33) (((16 : Int32) * l1) + (nI i_)).toNatClampNeg) = (0 : Int32) then (0 : Int32) else (1 : Int32)))), some (.int ((nI i_) + (1 : Int32)))]) dX9_row_46 (Nat.le_of_ble_eq_true rfl) rfl (by rw [k_iconst_1]) rfl ?_
      refine z_goto (tgt := 16) dX9_row_49 (by decide) ?_
      rw [nI_1]
      exact k_
    refine z_if_eq (tgt := 43) dX9_row_36 (by decide) (fun c_2 => ?_) (fun c_2 => ?_)
    · refine z_iconst dX9_row_43 k_iconst_0 ?_
      refine zz_sub (lv' := [some (.ref 32), some (.int l1), none, some (.int (nI i_))]) ⟨rfl, ⟨rfl, ⟨rfl, trivial⟩⟩⟩ ?_
      first | exact K_1 | simpa only [if_pos c_2] using K_1
    · refine z_iconst dX9_row_39 k_iconst_1 ?_
      refine z_goto (tgt := 44) dX9_row_40 (by decide) ?_
      refine zz_sub (lv' := [some (.ref 32), some (.int l1), none, some (.int (nI i_))]) ⟨rfl, ⟨rfl, ⟨rfl, trivial⟩⟩⟩ ?_
      first | exact K_1 | simpa only [if_neg c_2] using K_1
  · generalize zfor (fX9_row_16 σ l1) 16 l2 = g_ at W2_ ⊢
    refine z_iload_n dX9_row_16 rfl ?_
    refine z_bipush dX9_row_17 k_bipush_16 ?_
    refine z_icmp_ge (tgt := 52) dX9_row_19 (by decide) (fun c_ => ?_) (fun c_ => absurd (by decide) c_)
    exact zz_sub (lv' := [none, none, some (.int g_), none]) ⟨rfl, trivial⟩ W2_

theorem dX9_row_0 : decode cX9_row 0 = .ok (.iload_n 1, 1) := by decide +kernel
theorem dX9_row_1 : decode cX9_row 1 = .ok (.iconst 0, 1) := by decide +kernel
theorem dX9_row_2 : decode cX9_row 2 = .ok (.bipush 15, 2) := by decide +kernel
theorem dX9_row_4 : decode cX9_row 4 = .ok (.invokestatic 96, 3) := by decide +kernel
theorem dX9_row_7 : decode cX9_row 7 = .ok (.ifCond .ne 5, 3) := by decide +kernel
theorem dX9_row_10 : decode cX9_row 10 = .ok (.iconst (-1), 1) := by decide +kernel
theorem dX9_row_11 : decode cX9_row 11 = .ok (.ireturn, 1) := by decide +kernel
theorem dX9_row_12 : decode cX9_row 12 = .ok (.iconst 0, 1) := by decide +kernel
theorem dX9_row_13 : decode cX9_row 13 = .ok (.istore_n 2, 1) := by decide +kernel
theorem dX9_row_14 : decode cX9_row 14 = .ok (.iconst 0, 1) := by decide +kernel
theorem dX9_row_15 : decode cX9_row 15 = .ok (.istore_n 3, 1) := by decide +kernel
theorem dX9_row_53 : decode cX9_row 53 = .ok (.ireturn, 1) := by decide +kernel
def pX9_row (σ : zc_N) (a1 : Int32) : Prop := (((rX9_within a1 (0 : Int32) (15 : Int32)) = (0 : Int32) → True) ∧ (¬ (rX9_within a1 (0 : Int32) (15 : Int32)) = (0 : Int32) → (∀ i16_ : Nat, i16_ < 16 → qX9_row_16 a1 i16_ (zfor (fX9_row_16 σ a1) i16_ (0 : Int32)))))
noncomputable def rX9_row (σ : zc_N) (a1 : Int32) : Int32 := (if (rX9_within a1 (0 : Int32) (15 : Int32)) = (0 : Int32) then (-1 : Int32) else (zfor (fX9_row_16 σ a1) 16 (0 : Int32)))
set_option maxHeartbeats 1000000 in
theorem ctX9_row (P : zp) (σ : zc_N) (a1 : Int32) (W_ : (pX9_row σ a1)) : sp mX9_row 1 0 0 [.ref 32, .int a1] (hh P σ) (fun r_ h_ => r_ = some (.int (rX9_row σ a1)) ∧ h_ = hh P σ) := by
  refine sp_of (lv := [some (.ref 32), some (.int a1), none, none]) (by decide) (zcats_ok _ rfl) (Nat.le_of_ble_eq_true rfl) (zlv_ok _ 2 rfl) (fun G => ?_)
  generalize hQ_ : (fun (r_ : Option Value) (h_ : zc_H) => r_ = some (.int (rX9_row σ a1)) ∧ h_ = hh P σ) = Q_
  unfold pX9_row at W_
  refine z_iload_n dX9_row_0 rfl ?_
  refine z_iconst dX9_row_1 k_iconst_0 ?_
  refine z_bipush dX9_row_2 k_bipush_15 ?_
  refine z_callS (As := [.int a1, .int (0 : Int32), .int (15 : Int32)]) (rest := []) (ctX9_within P σ a1 (0 : Int32) (15 : Int32)) dX9_row_4 lk_X9_96 ls_X9_within rfl (Nat.le_of_ble_eq_true rfl) (Nat.le_of_ble_eq_true rfl) (Nat.le_of_ble_eq_true rfl) (Nat.le_of_ble_eq_true rfl) (fun r_ h_ e_ => ?_)
  obtain ⟨e1_, e2_⟩ := e_
  subst e1_
  subst e2_
  show zz G mX9_row 1 0 0 Q_ 7 [some (.ref 32), some (.int a1), none, none] [.int (rX9_within a1 (0 : Int32) (15 : Int32))] (hh P σ) 0 0
  refine z_if_ne (tgt := 12) dX9_row_7 (by decide) (fun c_1 => ?_) (fun c_1 => ?_)
  · refine z_iconst dX9_row_12 k_iconst_0 ?_
    refine z_istore_n (lv' := [some (.ref 32), some (.int a1), some (.int (0 : Int32)), none]) dX9_row_13 (Nat.le_of_ble_eq_true rfl) rfl ?_
    refine z_iconst dX9_row_14 k_iconst_0 ?_
    refine z_istore_n (lv' := [some (.ref 32), some (.int a1), some (.int (0 : Int32)), some (.int (0 : Int32))]) dX9_row_15 (Nat.le_of_ble_eq_true rfl) rfl ?_
    refine lpX9_row_16 P σ a1 (0 : Int32) (W_.2 c_1) ?_
    refine z_iload_n dX9_row_52 rfl ?_
    exact z_ireturn dX9_row_53 rfl rfl (Nat.le_of_ble_eq_true rfl) (Nat.le_of_ble_eq_true rfl) (by rw [← hQ_]; exact ⟨(by rw [rX9_row]; simp only [if_neg c_1]), rfl⟩)
  · refine z_iconst dX9_row_10 k_iconst_m1 ?_
    exact z_ireturn dX9_row_11 rfl rfl (Nat.le_of_ble_eq_true rfl) (Nat.le_of_ble_eq_true rfl) (by rw [← hQ_]; exact ⟨(by rw [rX9_row]; simp only [if_pos c_1]), rfl⟩)

theorem dX9_feed_24 : decode cX9_feed 24 = .ok (.iload_n 3, 1) := by decide +kernel
theorem dX9_feed_25 : decode cX9_feed 25 = .ok (.bipush 16, 2) := by decide +kernel
theorem dX9_feed_27 : decode cX9_feed 27 = .ok (.if_icmp .ge 37, 3) := by decide +kernel
theorem dX9_feed_30 : decode cX9_feed 30 = .ok (.aload_n 0, 1) := by decide +kernel
theorem dX9_feed_31 : decode cX9_feed 31 = .ok (.getfield 9, 3) := by decide +kernel
theorem dX9_feed_34 : decode cX9_feed 34 = .ok (.bipush 16, 2) := by decide +kernel
theorem dX9_feed_36 : decode cX9_feed 36 = .ok (.iload_n 1, 1) := by decide +kernel
theorem dX9_feed_37 : decode cX9_feed 37 = .ok (.imul, 1) := by decide +kernel
theorem dX9_feed_38 : decode cX9_feed 38 = .ok (.iload_n 3, 1) := by decide +kernel
theorem dX9_feed_39 : decode cX9_feed 39 = .ok (.iadd, 1) := by decide +kernel
theorem dX9_feed_40 : decode cX9_feed 40 = .ok (.iload_n 2, 1) := by decide +kernel
theorem dX9_feed_41 : decode cX9_feed 41 = .ok (.bipush 15, 2) := by decide +kernel
theorem dX9_feed_43 : decode cX9_feed 43 = .ok (.iload_n 3, 1) := by decide +kernel
theorem dX9_feed_44 : decode cX9_feed 44 = .ok (.isub, 1) := by decide +kernel
theorem dX9_feed_45 : decode cX9_feed 45 = .ok (.ishr, 1) := by decide +kernel
theorem dX9_feed_46 : decode cX9_feed 46 = .ok (.iconst 1, 1) := by decide +kernel
theorem dX9_feed_47 : decode cX9_feed 47 = .ok (.iand, 1) := by decide +kernel
theorem dX9_feed_48 : decode cX9_feed 48 = .ok (.iconst 1, 1) := by decide +kernel
theorem dX9_feed_49 : decode cX9_feed 49 = .ok (.if_icmp .ne 7, 3) := by decide +kernel
theorem dX9_feed_52 : decode cX9_feed 52 = .ok (.iconst 1, 1) := by decide +kernel
theorem dX9_feed_53 : decode cX9_feed 53 = .ok (.goto 4, 3) := by decide +kernel
theorem dX9_feed_56 : decode cX9_feed 56 = .ok (.iconst 0, 1) := by decide +kernel
theorem dX9_feed_57 : decode cX9_feed 57 = .ok (.bastore, 1) := by decide +kernel
theorem dX9_feed_58 : decode cX9_feed 58 = .ok (.iinc 3 1, 3) := by decide +kernel
theorem dX9_feed_61 : decode cX9_feed 61 = .ok (.goto (-37), 3) := by decide +kernel
theorem dX9_feed_64 : decode cX9_feed 64 = .ok (.aload_n 0, 1) := by decide +kernel
theorem dX9_feed_65 : decode cX9_feed 65 = .ok (.invokevirtual 101, 3) := by decide +kernel
noncomputable def fX9_feed_24 (l1 : Int32) (l2 : Int32) (i_ : Nat) (a_ : zc_N) : zc_N := (zu a_ 33 (zu (a_ 33) (((16 : Int32) * l1) + (nI i_)).toNatClampNeg (if ((zshr l2 ((15 : Int32) - (nI i_))) &&& (1 : Int32)) = (1 : Int32) then (1 : Int32) else (0 : Int32))))
def qX9_feed_24 (l1 : Int32) (i_ : Nat) (a_ : zc_N) : Prop := vp_in (((16 : Int32) * l1) + (nI i_)) 256
set_option maxHeartbeats 2000000 in
theorem lpX9_feed_24 {G : zc_G} {Q : Option Value → zc_H → Prop} (P : zp) (σ : zc_N) (l1 : Int32) (l2 : Int32) (W1_ : ∀ i24_ : Nat, i24_ < 16 → qX9_feed_24 l1 i24_ (zfor (fX9_feed_24 l1 l2) i24_ σ))
    (W2_ : zz G mX9_feed 1 0 0 Q 64 [some (.ref 32), none, none, none] [] (hh P (zfor (fX9_feed_24 l1 l2) 16 σ)) 0 0) :
    zz G mX9_feed 1 0 0 Q 24 [some (.ref 32), some (.int l1), some (.int l2), some (.int (nI 0))] [] (hh P σ) 0 0 := by
  refine zfor_nI (fun i_ a_ => zz G mX9_feed 1 0 0 Q 24 [some (.ref 32), some (.int l1), some (.int l2), some (.int i_)] [] (hh P a_) 0 0) (fX9_feed_24 l1 l2) 16 σ (fun i_ hi_ k_ => ?_) ?_
  · have W3_ := W1_ i_ hi_
    generalize zfor (fX9_feed_24 l1 l2) i_ σ = g_ at k_ W3_ ⊢
    rw [fX9_feed_24] at k_
    rw [qX9_feed_24] at W3_
    try dsimp only at W3_
    refine z_iload_n dX9_feed_24 rfl ?_
    refine z_bipush dX9_feed_25 k_bipush_16 ?_
    refine z_icmp_ge (tgt := 64) dX9_feed_27 (by decide) (fun c_ => absurd c_ (nI_ge hi_ (by decide))) (fun c_ => ?_)
    refine z_aloadr_n dX9_feed_30 rfl ?_
    refine z_get (ci := 9) (r := (RX9, TX9, 38)) (j := 0) (v := .ref 33) dX9_feed_31 (Nat.le_of_ble_eq_true rfl) (zN rfl) rfl rfl (Nat.le_of_ble_eq_true rfl) fl_X9_9 rfl ?_
    refine z_bipush dX9_feed_34 k_bipush_16 ?_
    refine z_iload_n dX9_feed_36 rfl ?_
    refine z_imul (v := ((16 : Int32) * l1)) dX9_feed_37 rfl ?_
    refine z_iload_n dX9_feed_38 rfl ?_
    refine z_iadd (v := (((16 : Int32) * l1) + (nI i_))) dX9_feed_39 rfl ?_
    refine z_iload_n dX9_feed_40 rfl ?_
    refine z_bipush dX9_feed_41 k_bipush_15 ?_
    refine z_iload_n dX9_feed_43 rfl ?_
    refine z_isub (v := ((15 : Int32) - (nI i_))) dX9_feed_44 rfl ?_
    refine z_ishr (v := (zshr l2 ((15 : Int32) - (nI i_)))) dX9_feed_45 rfl ?_
    refine z_iconst dX9_feed_46 k_iconst_1 ?_
    refine z_iand (v := ((zshr l2 ((15 : Int32) - (nI i_))) &&& (1 : Int32))) dX9_feed_47 rfl ?_
    refine z_iconst dX9_feed_48 k_iconst_1 ?_
    have K_1 : zz G mX9_feed 1 0 0 Q 57 [some (.ref 32), some (.int l1), some (.int l2), some (.int (nI i_))] [.int (if ((zshr l2 ((15 : Int32) - (nI i_))) &&& (1 : Int32)) = (1 : Int32) then (1 : Int32) else (0 : Int32)), .int (((16 : Int32) * l1) + (nI i_)), .ref 33] (hh P g_) 0 0 := by
      refine z_bast (σ' := (zu g_ 33 (zu (g_ 33) (((16 : Int32) * l1) + (nI i_)).toNatClampNeg (if ((zshr l2 ((15 : Int32) - (nI i_))) &&& (1 : Int32)) = (1 : Int32) then (1 : Int32) else (0 : Int32))))) dX9_feed_57 (Nat.le_of_ble_eq_true rfl) (zN rfl) rfl W3_ (by (repeat' split) <;> rfl) rfl ?_
      refine z_iinc (v := ((nI i_) + (1 : Int32))) (lv' := [some (.ref 32), some (.int l1), some (.int l2), some (.int ((nI i_) + (1 : Int32)))]) dX9_feed_58 (Nat.le_of_ble_eq_true rfl) rfl (by rw [k_iconst_1]) rfl ?_
      refine z_goto (tgt := 24) dX9_feed_61 (by decide) ?_
      rw [nI_1]
      exact k_
    refine z_icmp_ne (tgt := 56) dX9_feed_49 (by decide) (fun c_2 => ?_) (fun c_2 => ?_)
    · refine z_iconst dX9_feed_56 k_iconst_0 ?_
      first | exact K_1 | simpa only [if_neg c_2] using K_1
    · refine z_iconst dX9_feed_52 k_iconst_1 ?_
      refine z_goto (tgt := 57) dX9_feed_53 (by decide) ?_
      first | exact K_1 | simpa only [if_pos c_2] using K_1
  · generalize zfor (fX9_feed_24 l1 l2) 16 σ = g_ at W2_ ⊢
    refine z_iload_n dX9_feed_24 rfl ?_
    refine z_bipush dX9_feed_25 k_bipush_16 ?_
    refine z_icmp_ge (tgt := 64) dX9_feed_27 (by decide) (fun c_ => ?_) (fun c_ => absurd (by decide) c_)
    exact zz_sub (lv' := [some (.ref 32), none, none, none]) ⟨rfl, trivial⟩ W2_

theorem dX9_feed_0 : decode cX9_feed 0 = .ok (.iload_n 1, 1) := by decide +kernel
theorem dX9_feed_1 : decode cX9_feed 1 = .ok (.iconst 0, 1) := by decide +kernel
theorem dX9_feed_2 : decode cX9_feed 2 = .ok (.bipush 15, 2) := by decide +kernel
theorem dX9_feed_4 : decode cX9_feed 4 = .ok (.invokestatic 96, 3) := by decide +kernel
theorem dX9_feed_7 : decode cX9_feed 7 = .ok (.ifCond .eq 13, 3) := by decide +kernel
theorem dX9_feed_10 : decode cX9_feed 10 = .ok (.iload_n 2, 1) := by decide +kernel
theorem dX9_feed_11 : decode cX9_feed 11 = .ok (.iconst 0, 1) := by decide +kernel
theorem dX9_feed_12 : decode cX9_feed 12 = .ok (.ldc 100, 2) := by decide +kernel
theorem dX9_feed_14 : decode cX9_feed 14 = .ok (.invokestatic 96, 3) := by decide +kernel
theorem dX9_feed_17 : decode cX9_feed 17 = .ok (.ifCond .ne 5, 3) := by decide +kernel
theorem dX9_feed_20 : decode cX9_feed 20 = .ok (.iconst (-1), 1) := by decide +kernel
theorem dX9_feed_21 : decode cX9_feed 21 = .ok (.ireturn, 1) := by decide +kernel
theorem dX9_feed_22 : decode cX9_feed 22 = .ok (.iconst 0, 1) := by decide +kernel
theorem dX9_feed_23 : decode cX9_feed 23 = .ok (.istore_n 3, 1) := by decide +kernel
theorem dX9_feed_68 : decode cX9_feed 68 = .ok (.ireturn, 1) := by decide +kernel
def pX9_feed (σ : zc_N) (a1 : Int32) (a2 : Int32) : Prop := (((rX9_within a1 (0 : Int32) (15 : Int32)) = (0 : Int32) → True) ∧ (¬ (rX9_within a1 (0 : Int32) (15 : Int32)) = (0 : Int32) → (((rX9_within a2 (0 : Int32) (65535 : Int32)) = (0 : Int32) → True) ∧ (¬ (rX9_within a2 (0 : Int32) (65535 : Int32)) = (0 : Int32) → (∀ i24_ : Nat, i24_ < 16 → qX9_feed_24 a1 i24_ (zfor (fX9_feed_24 a1 a2) i24_ σ))))))
noncomputable def rX9_feed (σ : zc_N) (a1 : Int32) (a2 : Int32) : Int32 := (if (rX9_within a1 (0 : Int32) (15 : Int32)) = (0 : Int32) then (-1 : Int32) else (if (rX9_within a2 (0 : Int32) (65535 : Int32)) = (0 : Int32) then (-1 : Int32) else (rX9_darkMany (zfor (fX9_feed_24 a1 a2) 16 σ))))
noncomputable def sX9_feed (σ : zc_N) (a1 : Int32) (a2 : Int32) : zc_N := (if (rX9_within a1 (0 : Int32) (15 : Int32)) = (0 : Int32) then σ else (if (rX9_within a2 (0 : Int32) (65535 : Int32)) = (0 : Int32) then σ else (zfor (fX9_feed_24 a1 a2) 16 σ)))
set_option maxHeartbeats 1000000 in
theorem ctX9_feed (P : zp) (σ : zc_N) (a1 : Int32) (a2 : Int32) (W_ : (pX9_feed σ a1 a2)) : sp mX9_feed 1 0 0 [.ref 32, .int a1, .int a2] (hh P σ) (fun r_ h_ => r_ = some (.int (rX9_feed σ a1 a2)) ∧ h_ = hh P (sX9_feed σ a1 a2)) := by
  refine sp_of (lv := [some (.ref 32), some (.int a1), some (.int a2), none]) (by decide) (zcats_ok _ rfl) (Nat.le_of_ble_eq_true rfl) (zlv_ok _ 1 rfl) (fun G => ?_)
  generalize hQ_ : (fun (r_ : Option Value) (h_ : zc_H) => r_ = some (.int (rX9_feed σ a1 a2)) ∧ h_ = hh P (sX9_feed σ a1 a2)) = Q_
  unfold pX9_feed at W_
  refine z_iload_n dX9_feed_0 rfl ?_
  refine z_iconst dX9_feed_1 k_iconst_0 ?_
  refine z_bipush dX9_feed_2 k_bipush_15 ?_
  refine z_callS (As := [.int a1, .int (0 : Int32), .int (15 : Int32)]) (rest := []) (ctX9_within P σ a1 (0 : Int32) (15 : Int32)) dX9_feed_4 lk_X9_96 ls_X9_within rfl (Nat.le_of_ble_eq_true rfl) (Nat.le_of_ble_eq_true rfl) (Nat.le_of_ble_eq_true rfl) (Nat.le_of_ble_eq_true rfl) (fun r_ h_ e_ => ?_)
  obtain ⟨e1_, e2_⟩ := e_
  subst e1_
  subst e2_
  show zz G mX9_feed 1 0 0 Q_ 7 [some (.ref 32), some (.int a1), some (.int a2), none] [.int (rX9_within a1 (0 : Int32) (15 : Int32))] (hh P σ) 0 0
  refine z_if_eq (tgt := 20) dX9_feed_7 (by decide) (fun c_1 => ?_) (fun c_1 => ?_)
  · refine z_iconst dX9_feed_20 k_iconst_m1 ?_
    exact z_ireturn dX9_feed_21 rfl rfl (Nat.le_of_ble_eq_true rfl) (Nat.le_of_ble_eq_true rfl) (by rw [← hQ_]; exact ⟨(by rw [rX9_feed]; simp only [if_pos c_1]), (by rw [sX9_feed]; simp only [if_pos c_1])⟩)
  · refine z_iload_n dX9_feed_10 rfl ?_
    refine z_iconst dX9_feed_11 k_iconst_0 ?_
    refine z_ldc dX9_feed_12 ck_X9_100 ?_
    refine z_callS (As := [.int a2, .int (0 : Int32), .int (65535 : Int32)]) (rest := []) (ctX9_within P σ a2 (0 : Int32) (65535 : Int32)) dX9_feed_14 lk_X9_96 ls_X9_within rfl (Nat.le_of_ble_eq_true rfl) (Nat.le_of_ble_eq_true rfl) (Nat.le_of_ble_eq_true rfl) (Nat.le_of_ble_eq_true rfl) (fun r_ h_ e_ => ?_)
    obtain ⟨e1_, e2_⟩ := e_
    subst e1_
    subst e2_
    show zz G mX9_feed 1 0 0 Q_ 17 [some (.ref 32), some (.int a1), some (.int a2), none] [.int (rX9_within a2 (0 : Int32) (65535 : Int32))] (hh P σ) 0 0
    refine z_if_ne (tgt := 22) dX9_feed_17 (by decide) (fun c_2 => ?_) (fun c_2 => ?_)
    · refine z_iconst dX9_feed_22 k_iconst_0 ?_
      refine z_istore_n (lv' := [some (.ref 32), some (.int a1), some (.int a2), some (.int (0 : Int32))]) dX9_feed_23 (Nat.le_of_ble_eq_true rfl) rfl ?_
      refine lpX9_feed_24 P σ a1 a2 ((W_.2 c_1).2 c_2) ?_
      refine z_aloadr_n dX9_feed_64 rfl ?_
      refine z_callV (ci := 9) (r := (RX9, TX9, 38)) (b := 32) (As := []) (rest := []) (ctX9_darkMany P (zfor (fX9_feed_24 a1 a2) 16 σ)) dX9_feed_65 lk_X9_101 lv_X9_darkMany (Nat.le_of_ble_eq_true rfl) (zN rfl) rfl rfl rfl rfl (Nat.le_of_ble_eq_true rfl) (Nat.le_of_ble_eq_true rfl) (Nat.le_of_ble_eq_true rfl) (Nat.le_of_ble_eq_true rfl) (fun r_ h_ e_ => ?_)
      obtain ⟨e1_, e2_⟩ := e_
      subst e1_
      subst e2_
      show zz G mX9_feed 1 0 0 Q_ 68 [some (.ref 32), none, none, none] [.int (rX9_darkMany (zfor (fX9_feed_24 a1 a2) 16 σ))] (hh P (zfor (fX9_feed_24 a1 a2) 16 σ)) 0 0
      exact z_ireturn dX9_feed_68 rfl rfl (Nat.le_of_ble_eq_true rfl) (Nat.le_of_ble_eq_true rfl) (by rw [← hQ_]; exact ⟨(by rw [rX9_feed]; simp only [if_neg c_1, if_neg c_2]), (by rw [sX9_feed]; simp only [if_neg c_1, if_neg c_2])⟩)
    · refine z_iconst dX9_feed_20 k_iconst_m1 ?_
      exact z_ireturn dX9_feed_21 rfl rfl (Nat.le_of_ble_eq_true rfl) (Nat.le_of_ble_eq_true rfl) (by rw [← hQ_]; exact ⟨(by rw [rX9_feed]; simp only [if_neg c_1, if_pos c_2]), (by rw [sX9_feed]; simp only [if_neg c_1, if_pos c_2])⟩)

theorem dX9_neighbours_20 : decode cX9_neighbours 20 = .ok (.iload 5, 2) := by decide +kernel
theorem dX9_neighbours_22 : decode cX9_neighbours 22 = .ok (.iload_n 1, 1) := by decide +kernel
theorem dX9_neighbours_23 : decode cX9_neighbours 23 = .ok (.iconst 1, 1) := by decide +kernel
theorem dX9_neighbours_24 : decode cX9_neighbours 24 = .ok (.iadd, 1) := by decide +kernel
theorem dX9_neighbours_25 : decode cX9_neighbours 25 = .ok (.if_icmp .gt 40, 3) := by decide +kernel
theorem dX9_neighbours_28 : decode cX9_neighbours 28 = .ok (.iload_n 3, 1) := by decide +kernel
theorem dX9_neighbours_29 : decode cX9_neighbours 29 = .ok (.iload 5, 2) := by decide +kernel
theorem dX9_neighbours_31 : decode cX9_neighbours 31 = .ok (.iload_n 1, 1) := by decide +kernel
theorem dX9_neighbours_32 : decode cX9_neighbours 32 = .ok (.if_icmp .ne 9, 3) := by decide +kernel
theorem dX9_neighbours_35 : decode cX9_neighbours 35 = .ok (.iload 4, 2) := by decide +kernel
theorem dX9_neighbours_37 : decode cX9_neighbours 37 = .ok (.iload_n 2, 1) := by decide +kernel
theorem dX9_neighbours_38 : decode cX9_neighbours 38 = .ok (.if_icmp .eq 18, 3) := by decide +kernel
theorem dX9_neighbours_41 : decode cX9_neighbours 41 = .ok (.aload_n 0, 1) := by decide +kernel
theorem dX9_neighbours_42 : decode cX9_neighbours 42 = .ok (.iload 5, 2) := by decide +kernel
theorem dX9_neighbours_44 : decode cX9_neighbours 44 = .ok (.iload 4, 2) := by decide +kernel
theorem dX9_neighbours_46 : decode cX9_neighbours 46 = .ok (.invokevirtual 105, 3) := by decide +kernel
theorem dX9_neighbours_49 : decode cX9_neighbours 49 = .ok (.ifCond .eq 7, 3) := by decide +kernel
theorem dX9_neighbours_52 : decode cX9_neighbours 52 = .ok (.iconst 1, 1) := by decide +kernel
theorem dX9_neighbours_53 : decode cX9_neighbours 53 = .ok (.goto 4, 3) := by decide +kernel
theorem dX9_neighbours_56 : decode cX9_neighbours 56 = .ok (.iconst 0, 1) := by decide +kernel
theorem dX9_neighbours_57 : decode cX9_neighbours 57 = .ok (.iadd, 1) := by decide +kernel
theorem dX9_neighbours_58 : decode cX9_neighbours 58 = .ok (.istore_n 3, 1) := by decide +kernel
theorem dX9_neighbours_59 : decode cX9_neighbours 59 = .ok (.iinc 5 1, 3) := by decide +kernel
theorem dX9_neighbours_62 : decode cX9_neighbours 62 = .ok (.goto (-42), 3) := by decide +kernel
theorem dX9_neighbours_65 : decode cX9_neighbours 65 = .ok (.iinc 4 1, 3) := by decide +kernel
theorem dX9_neighbours_68 : decode cX9_neighbours 68 = .ok (.goto (-61), 3) := by decide +kernel
noncomputable def fX9_neighbours_20 (σ : zc_N) (l1 : Int32) (l2 : Int32) (l4 : Int32) (s_ : Int32) (i_ : Nat) (a_ : Int32) : Int32 := (a_ + (if (s_ + nI i_) = l1 then (if l4 = l2 then (0 : Int32) else (if (rX9_isDark σ (s_ + nI i_) l4) = (0 : Int32) then (0 : Int32) else (1 : Int32))) else (if (rX9_isDark σ (s_ + nI i_) l4) = (0 : Int32) then (0 : Int32) else (1 : Int32))))
set_option maxHeartbeats 2000000 in
theorem lpX9_neighbours_20 {G : zc_G} {Q : Option Value → zc_H → Prop} (P : zp) (σ : zc_N) (l1 : Int32) (l2 : Int32) (l3 : Int32) (l4 : Int32) (s_ : Int32) (n_ : Nat) (hC_ : ∀ i20_ : Nat, i20_ ≤ n_ → ((l1 + (1 : Int32)) < (s_ + nI i20_) ↔ n_ ≤ i20_))
    (W2_ : zz G mX9_neighbours 1 0 0 Q 65 [some (.ref 32), some (.int l1), some (.int l2), some (.int (zfor (fX9_neighbours_20 σ l1 l2 l4 s_) n_ l3)), some (.int l4), none] [] (hh P σ) 0 0) :
    zz G mX9_neighbours 1 0 0 Q 20 [some (.ref 32), some (.int l1), some (.int l2), some (.int l3), some (.int l4), some (.int s_)] [] (hh P σ) 0 0 := by
  refine zfor_sI (fun i_ a_ => zz G mX9_neighbours 1 0 0 Q 20 [some (.ref 32), some (.int l1), some (.int l2), some (.int a_), some (.int l4), some (.int i_)] [] (hh P σ) 0 0) (fX9_neighbours_20 σ l1 l2 l4 s_) s_ n_ l3 (fun i_ hi_ k_ => ?_) ?_
  · have hD_ := hC_ i_ (Nat.le_of_lt hi_)
    generalize zfor (fX9_neighbours_20 σ l1 l2 l4 s_) i_ l3 = g_ at k_ hD_ ⊢
    rw [fX9_neighbours_20] at k_
    refine z_iload dX9_neighbours_20 rfl ?_
    refine z_iload_n dX9_neighbours_22 rfl ?_
    refine z_iconst dX9_neighbours_23 k_iconst_1 ?_
    refine z_iadd (v := (l1 + (1 : Int32))) dX9_neighbours_24 rfl ?_
    refine z_icmp_gt (tgt := 65) dX9_neighbours_25 (by decide) (fun c_ => absurd c_ (fun q_ => Nat.not_le_of_lt hi_ (hD_.mp q_))) (fun c_ => ?_)
    refine z_iload_n dX9_neighbours_28 rfl ?_
    refine z_iload dX9_neighbours_29 rfl ?_
    refine z_iload_n dX9_neighbours_31 rfl ?_
    have K_1 : zz G mX9_neighbours 1 0 0 Q 57 [some (.ref 32), some (.int l1), some (.int l2), none, some (.int l4), some (.int (s_ + nI i_))] [.int (if (s_ + nI i_) = l1 then (if l4 = l2 then (0 : Int32) else (if (rX9_isDark σ (s_ + nI i_) l4) = (0 : Int32) then (0 : Int32) else (1 : Int32))) else (if (rX9_isDark σ (s_ + nI i_) l4) = (0 : Int32) then (0 : Int32) else (1 : Int32))), .int g_] (hh P σ) 0 0 := by
      refine z_iadd (v := (g_ + (if (s_ + nI i_) = l1 then (if l4 = l2 then (0 : Int32) else (if (rX9_isDark σ (s_ + nI i_) l4) = (0 : Int32) then (0 : Int32) else (1 : Int32))) else (if (rX9_isDark σ (s_ + nI i_) l4) = (0 : Int32) then (0 : Int32) else (1 : Int32))))) dX9_neighbours_57 rfl ?_
      refine z_istore_n (lv' := [some (.ref 32), some (.int l1), some (.int l2), some (.int (g_ + (if (s_ + nI i_) = l1 then (if l4 = l2 then (0 : Int32) else (if (rX9_isDark σ (s_ + nI i_) l4) = (0 : Int32) then (0 : Int32) else (1 : Int32))) else (if (rX9_isDark σ (s_ + nI i_) l4) = (0 : Int32) then (0 : Int32) else (1 : Int32))))), some (.int l4), some (.int (s_ + nI i_))]) dX9_neighbours_58 (Nat.le_of_ble_eq_true rfl) rfl ?_
      refine z_iinc (v := ((s_ + nI i_) + (1 : Int32))) (lv' := [some (.ref 32), some (.int l1), some (.int l2), some (.int (g_ + (if (s_ + nI i_) = l1 then (if l4 = l2 then (0 : Int32) else (if (rX9_isDark σ (s_ + nI i_) l4) = (0 : Int32) then (0 : Int32) else (1 : Int32))) else (if (rX9_isDark σ (s_ + nI i_) l4) = (0 : Int32) then (0 : Int32) else (1 : Int32))))), some (.int l4), some (.int ((s_ + nI i_) + (1 : Int32)))]) dX9_neighbours_59 (Nat.le_of_ble_eq_true rfl) rfl (by rw [k_iconst_1]) rfl ?_
      refine z_goto (tgt := 20) dX9_neighbours_62 (by decide) ?_
      rw [nS_1]
      exact k_
    refine z_icmp_ne (tgt := 41) dX9_neighbours_32 (by decide) (fun c_2 => ?_) (fun c_2 => ?_)
    · refine z_aloadr_n dX9_neighbours_41 rfl ?_
      refine z_iload dX9_neighbours_42 rfl ?_
      refine z_iload dX9_neighbours_44 rfl ?_
      refine z_callV (ci := 9) (r := (RX9, TX9, 38)) (b := 32) (As := [.int (s_ + nI i_), .int l4]) (rest := [.int g_]) (ctX9_isDark P σ (s_ + nI i_) l4 (pzX9_isDark P σ (s_ + nI i_) l4)) dX9_neighbours_46 lk_X9_105 lv_X9_isDark (Nat.le_of_ble_eq_true rfl) (zN rfl) rfl rfl rfl rfl (Nat.le_of_ble_eq_true rfl) (Nat.le_of_ble_eq_true rfl) (Nat.le_of_ble_eq_true rfl) (Nat.le_of_ble_eq_true rfl) (fun r_ h_ e_ => ?_)
      obtain ⟨e1_, e2_⟩ := e_
      subst e1_
      subst e2_
      show zz G mX9_neighbours 1 0 0 Q 49 [some (.ref 32), some (.int l1), some (.int l2), some (.int g_), some (.int l4), some (.int (s_ + nI i_))] [.int (rX9_isDark σ (s_ + nI i_) l4), .int g_] (hh P σ) 0 0
      refine z_if_eq (tgt := 56) dX9_neighbours_49 (by decide) (fun c_3 => ?_) (fun c_3 => ?_)
      · refine z_iconst dX9_neighbours_56 k_iconst_0 ?_
        refine zz_sub (lv' := [some (.ref 32), some (.int l1), some (.int l2), none, some (.int l4), some (.int (s_ + nI i_))]) ⟨rfl, ⟨rfl, ⟨rfl, ⟨rfl, ⟨rfl, trivial⟩⟩⟩⟩⟩ ?_
        first | exact K_1 | simpa only [if_neg c_2, if_pos c_3] using K_1
      · refine z_iconst dX9_neighbours_52 k_iconst_1 ?_
        refine z_goto (tgt := 57) dX9_neighbours_53 (by decide) ?_
        refine zz_sub (lv' := [some (.ref 32), some (.int l1), some (.int l2), none, some (.int l4), some (.int (s_ + nI i_))]) ⟨rfl, ⟨rfl, ⟨rfl, ⟨rfl, ⟨rfl, trivial⟩⟩⟩⟩⟩ ?_
        first | exact K_1 | simpa only [if_neg c_2, if_neg c_3] using K_1
    · refine z_iload dX9_neighbours_35 rfl ?_
      refine z_iload_n dX9_neighbours_37 rfl ?_
      refine z_icmp_eq (tgt := 56) dX9_neighbours_38 (by decide) (fun c_4 => ?_) (fun c_4 => ?_)
      · refine z_iconst dX9_neighbours_56 k_iconst_0 ?_
        refine zz_sub (lv' := [some (.ref 32), some (.int l1), some (.int l2), none, some (.int l4), some (.int (s_ + nI i_))]) ⟨rfl, ⟨rfl, ⟨rfl, ⟨rfl, ⟨rfl, trivial⟩⟩⟩⟩⟩ ?_
        first | exact K_1 | simpa only [if_pos c_2, if_pos c_4] using K_1
      · refine z_aloadr_n dX9_neighbours_41 rfl ?_
        refine z_iload dX9_neighbours_42 rfl ?_
        refine z_iload dX9_neighbours_44 rfl ?_
        refine z_callV (ci := 9) (r := (RX9, TX9, 38)) (b := 32) (As := [.int (s_ + nI i_), .int l4]) (rest := [.int g_]) (ctX9_isDark P σ (s_ + nI i_) l4 (pzX9_isDark P σ (s_ + nI i_) l4)) dX9_neighbours_46 lk_X9_105 lv_X9_isDark (Nat.le_of_ble_eq_true rfl) (zN rfl) rfl rfl rfl rfl (Nat.le_of_ble_eq_true rfl) (Nat.le_of_ble_eq_true rfl) (Nat.le_of_ble_eq_true rfl) (Nat.le_of_ble_eq_true rfl) (fun r_ h_ e_ => ?_)
        obtain ⟨e1_, e2_⟩ := e_
        subst e1_
        subst e2_
        show zz G mX9_neighbours 1 0 0 Q 49 [some (.ref 32), some (.int l1), some (.int l2), some (.int g_), some (.int l4), some (.int (s_ + nI i_))] [.int (rX9_isDark σ (s_ + nI i_) l4), .int g_] (hh P σ) 0 0
        refine z_if_eq (tgt := 56) dX9_neighbours_49 (by decide) (fun c_5 => ?_) (fun c_5 => ?_)
        · refine z_iconst dX9_neighbours_56 k_iconst_0 ?_
          refine zz_sub (lv' := [some (.ref 32), some (.int l1), some (.int l2), none, some (.int l4), some (.int (s_ + nI i_))]) ⟨rfl, ⟨rfl, ⟨rfl, ⟨rfl, ⟨rfl, trivial⟩⟩⟩⟩⟩ ?_
          first | exact K_1 | simpa only [if_pos c_2, if_neg c_4, if_pos c_5] using K_1
        · refine z_iconst dX9_neighbours_52 k_iconst_1 ?_
          refine z_goto (tgt := 57) dX9_neighbours_53 (by decide) ?_
          refine zz_sub (lv' := [some (.ref 32), some (.int l1), some (.int l2), none, some (.int l4), some (.int (s_ + nI i_))]) ⟨rfl, ⟨rfl, ⟨rfl, ⟨rfl, ⟨rfl, trivial⟩⟩⟩⟩⟩ ?_
          first | exact K_1 | simpa only [if_pos c_2, if_neg c_4, if_neg c_5] using K_1
  · have hD_ := hC_ n_ (Nat.le_refl _)
    generalize zfor (fX9_neighbours_20 σ l1 l2 l4 s_) n_ l3 = g_ at W2_ hD_ ⊢
    refine z_iload dX9_neighbours_20 rfl ?_
    refine z_iload_n dX9_neighbours_22 rfl ?_
    refine z_iconst dX9_neighbours_23 k_iconst_1 ?_
    refine z_iadd (v := (l1 + (1 : Int32))) dX9_neighbours_24 rfl ?_
    refine z_icmp_gt (tgt := 65) dX9_neighbours_25 (by decide) (fun c_ => ?_) (fun c_ => absurd (hD_.mpr (Nat.le_refl _)) c_)
    exact zz_sub (lv' := [some (.ref 32), some (.int l1), some (.int l2), some (.int g_), some (.int l4), none]) ⟨rfl, ⟨rfl, ⟨rfl, ⟨rfl, ⟨rfl, trivial⟩⟩⟩⟩⟩ W2_

theorem dX9_neighbours_7 : decode cX9_neighbours 7 = .ok (.iload 4, 2) := by decide +kernel
theorem dX9_neighbours_9 : decode cX9_neighbours 9 = .ok (.iload_n 2, 1) := by decide +kernel
theorem dX9_neighbours_10 : decode cX9_neighbours 10 = .ok (.iconst 1, 1) := by decide +kernel
theorem dX9_neighbours_11 : decode cX9_neighbours 11 = .ok (.iadd, 1) := by decide +kernel
theorem dX9_neighbours_12 : decode cX9_neighbours 12 = .ok (.if_icmp .gt 59, 3) := by decide +kernel
theorem dX9_neighbours_15 : decode cX9_neighbours 15 = .ok (.iload_n 1, 1) := by decide +kernel
theorem dX9_neighbours_16 : decode cX9_neighbours 16 = .ok (.iconst 1, 1) := by decide +kernel
theorem dX9_neighbours_17 : decode cX9_neighbours 17 = .ok (.isub, 1) := by decide +kernel
theorem dX9_neighbours_18 : decode cX9_neighbours 18 = .ok (.istore 5, 2) := by decide +kernel
theorem dX9_neighbours_71 : decode cX9_neighbours 71 = .ok (.iload_n 3, 1) := by decide +kernel
noncomputable def fX9_neighbours_7 (σ : zc_N) (l1 : Int32) (l2 : Int32) (s_ : Int32) (i_ : Nat) (a_ : Int32) : Int32 := (zfor (fX9_neighbours_20 σ l1 l2 (s_ + nI i_) (l1 - (1 : Int32))) (((l1 + (1 : Int32)) + (1 : Int32) - (l1 - (1 : Int32))).toNatClampNeg) a_)
def qX9_neighbours_7 (l1 : Int32) (i_ : Nat) (a_ : Int32) : Prop := (∀ i20_ : Nat, i20_ ≤ (((l1 + (1 : Int32)) + (1 : Int32) - (l1 - (1 : Int32))).toNatClampNeg) → ((l1 + (1 : Int32)) < ((l1 - (1 : Int32)) + nI i20_) ↔ (((l1 + (1 : Int32)) + (1 : Int32) - (l1 - (1 : Int32))).toNatClampNeg) ≤ i20_))
set_option maxHeartbeats 2000000 in
theorem lpX9_neighbours_7 {G : zc_G} {Q : Option Value → zc_H → Prop} (P : zp) (σ : zc_N) (l1 : Int32) (l2 : Int32) (l3 : Int32) (s_ : Int32) (n_ : Nat) (hC_ : ∀ i7_ : Nat, i7_ ≤ n_ → ((l2 + (1 : Int32)) < (s_ + nI i7_) ↔ n_ ≤ i7_)) (W1_ : ∀ i7_ : Nat, i7_ < n_ → qX9_neighbours_7 l1 i7_ (zfor (fX9_neighbours_7 σ l1 l2 s_) i7_ l3))
    (W2_ : zz G mX9_neighbours 1 0 0 Q 71 [none, none, none, some (.int (zfor (fX9_neighbours_7 σ l1 l2 s_) n_ l3)), none, none] [] (hh P σ) 0 0) :
    zz G mX9_neighbours 1 0 0 Q 7 [some (.ref 32), some (.int l1), some (.int l2), some (.int l3), some (.int s_), none] [] (hh P σ) 0 0 := by
  refine zfor_sI (fun i_ a_ => zz G mX9_neighbours 1 0 0 Q 7 [some (.ref 32), some (.int l1), some (.int l2), some (.int a_), some (.int i_), none] [] (hh P σ) 0 0) (fX9_neighbours_7 σ l1 l2 s_) s_ n_ l3 (fun i_ hi_ k_ => ?_) ?_
  · have W3_ := W1_ i_ hi_
    have hD_ := hC_ i_ (Nat.le_of_lt hi_)
    generalize zfor (fX9_neighbours_7 σ l1 l2 s_) i_ l3 = g_ at k_ W3_ hD_ ⊢
    rw [fX9_neighbours_7] at k_
    rw [qX9_neighbours_7] at W3_
    try dsimp only at W3_
    refine z_iload dX9_neighbours_7 rfl ?_
    refine z_iload_n dX9_neighbours_9 rfl ?_
    refine z_iconst dX9_neighbours_10 k_iconst_1 ?_
    refine z_iadd (v := (l2 + (1 : Int32))) dX9_neighbours_11 rfl ?_
    refine z_icmp_gt (tgt := 71) dX9_neighbours_12 (by decide) (fun c_ => absurd c_ (fun q_ => Nat.not_le_of_lt hi_ (hD_.mp q_))) (fun c_ => ?_)
    refine z_iload_n dX9_neighbours_15 rfl ?_
    refine z_iconst dX9_neighbours_16 k_iconst_1 ?_
    refine z_isub (v := (l1 - (1 : Int32))) dX9_neighbours_17 rfl ?_
    refine z_istore (lv' := [some (.ref 32), some (.int l1), some (.int l2), some (.int g_), some (.int (s_ + nI i_)), some (.int (l1 - (1 : Int32)))]) dX9_neighbours_18 (Nat.le_of_ble_eq_true rfl) rfl ?_
    refine lpX9_neighbours_20 P σ l1 l2 g_ (s_ + nI i_) (l1 - (1 : Int32)) (((l1 + (1 : Int32)) + (1 : Int32) - (l1 - (1 : Int32))).toNatClampNeg) W3_ ?_
    refine z_iinc (v := ((s_ + nI i_) + (1 : Int32))) (lv' := [some (.ref 32), some (.int l1), some (.int l2), some (.int (zfor (fX9_neighbours_20 σ l1 l2 (s_ + nI i_) (l1 - (1 : Int32))) (((l1 + (1 : Int32)) + (1 : Int32) - (l1 - (1 : Int32))).toNatClampNeg) g_)), some (.int ((s_ + nI i_) + (1 : Int32))), none]) dX9_neighbours_65 (Nat.le_of_ble_eq_true rfl) rfl (by rw [k_iconst_1]) rfl ?_
    refine z_goto (tgt := 7) dX9_neighbours_68 (by decide) ?_
    rw [nS_1]
    exact k_
  · have hD_ := hC_ n_ (Nat.le_refl _)
    generalize zfor (fX9_neighbours_7 σ l1 l2 s_) n_ l3 = g_ at W2_ hD_ ⊢
    refine z_iload dX9_neighbours_7 rfl ?_
    refine z_iload_n dX9_neighbours_9 rfl ?_
    refine z_iconst dX9_neighbours_10 k_iconst_1 ?_
    refine z_iadd (v := (l2 + (1 : Int32))) dX9_neighbours_11 rfl ?_
    refine z_icmp_gt (tgt := 71) dX9_neighbours_12 (by decide) (fun c_ => ?_) (fun c_ => absurd (hD_.mpr (Nat.le_refl _)) c_)
    exact zz_sub (lv' := [none, none, none, some (.int g_), none, none]) ⟨rfl, trivial⟩ W2_

theorem dX9_neighbours_0 : decode cX9_neighbours 0 = .ok (.iconst 0, 1) := by decide +kernel
theorem dX9_neighbours_1 : decode cX9_neighbours 1 = .ok (.istore_n 3, 1) := by decide +kernel
theorem dX9_neighbours_2 : decode cX9_neighbours 2 = .ok (.iload_n 2, 1) := by decide +kernel
theorem dX9_neighbours_3 : decode cX9_neighbours 3 = .ok (.iconst 1, 1) := by decide +kernel
theorem dX9_neighbours_4 : decode cX9_neighbours 4 = .ok (.isub, 1) := by decide +kernel
theorem dX9_neighbours_5 : decode cX9_neighbours 5 = .ok (.istore 4, 2) := by decide +kernel
theorem dX9_neighbours_72 : decode cX9_neighbours 72 = .ok (.ireturn, 1) := by decide +kernel
def pX9_neighbours (σ : zc_N) (a1 : Int32) (a2 : Int32) : Prop := ((∀ i7_ : Nat, i7_ ≤ (((a2 + (1 : Int32)) + (1 : Int32) - (a2 - (1 : Int32))).toNatClampNeg) → ((a2 + (1 : Int32)) < ((a2 - (1 : Int32)) + nI i7_) ↔ (((a2 + (1 : Int32)) + (1 : Int32) - (a2 - (1 : Int32))).toNatClampNeg) ≤ i7_)) ∧ (∀ i7_ : Nat, i7_ < (((a2 + (1 : Int32)) + (1 : Int32) - (a2 - (1 : Int32))).toNatClampNeg) → qX9_neighbours_7 a1 i7_ (zfor (fX9_neighbours_7 σ a1 a2 (a2 - (1 : Int32))) i7_ (0 : Int32))))
noncomputable def rX9_neighbours (σ : zc_N) (a1 : Int32) (a2 : Int32) : Int32 := (zfor (fX9_neighbours_7 σ a1 a2 (a2 - (1 : Int32))) (((a2 + (1 : Int32)) + (1 : Int32) - (a2 - (1 : Int32))).toNatClampNeg) (0 : Int32))
set_option maxHeartbeats 1000000 in
theorem ctX9_neighbours (P : zp) (σ : zc_N) (a1 : Int32) (a2 : Int32) (W_ : (pX9_neighbours σ a1 a2)) : sp mX9_neighbours 1 0 0 [.ref 32, .int a1, .int a2] (hh P σ) (fun r_ h_ => r_ = some (.int (rX9_neighbours σ a1 a2)) ∧ h_ = hh P σ) := by
  refine sp_of (lv := [some (.ref 32), some (.int a1), some (.int a2), none, none, none]) (by decide) (zcats_ok _ rfl) (Nat.le_of_ble_eq_true rfl) (zlv_ok _ 3 rfl) (fun G => ?_)
  generalize hQ_ : (fun (r_ : Option Value) (h_ : zc_H) => r_ = some (.int (rX9_neighbours σ a1 a2)) ∧ h_ = hh P σ) = Q_
  unfold pX9_neighbours at W_
  refine z_iconst dX9_neighbours_0 k_iconst_0 ?_
  refine z_istore_n (lv' := [some (.ref 32), some (.int a1), some (.int a2), some (.int (0 : Int32)), none, none]) dX9_neighbours_1 (Nat.le_of_ble_eq_true rfl) rfl ?_
  refine z_iload_n dX9_neighbours_2 rfl ?_
  refine z_iconst dX9_neighbours_3 k_iconst_1 ?_
  refine z_isub (v := (a2 - (1 : Int32))) dX9_neighbours_4 rfl ?_
  refine z_istore (lv' := [some (.ref 32), some (.int a1), some (.int a2), some (.int (0 : Int32)), some (.int (a2 - (1 : Int32))), none]) dX9_neighbours_5 (Nat.le_of_ble_eq_true rfl) rfl ?_
  refine lpX9_neighbours_7 P σ a1 a2 (0 : Int32) (a2 - (1 : Int32)) (((a2 + (1 : Int32)) + (1 : Int32) - (a2 - (1 : Int32))).toNatClampNeg) W_.1 W_.2 ?_
  refine z_iload_n dX9_neighbours_71 rfl ?_
  exact z_ireturn dX9_neighbours_72 rfl rfl (Nat.le_of_ble_eq_true rfl) (Nat.le_of_ble_eq_true rfl) (by rw [← hQ_]; exact ⟨(by rw [rX9_neighbours]), rfl⟩)

theorem dX9_besideSeen_5 : decode cX9_besideSeen 5 = .ok (.iload 4, 2) := by decide +kernel
theorem dX9_besideSeen_7 : decode cX9_besideSeen 7 = .ok (.bipush 8, 2) := by decide +kernel
theorem dX9_besideSeen_9 : decode cX9_besideSeen 9 = .ok (.if_icmp .ge 123, 3) := by decide +kernel
theorem dX9_besideSeen_12 : decode cX9_besideSeen 12 = .ok (.iload_n 1, 1) := by decide +kernel
theorem dX9_besideSeen_13 : decode cX9_besideSeen 13 = .ok (.bipush 16, 2) := by decide +kernel
theorem dX9_besideSeen_15 : decode cX9_besideSeen 15 = .ok (.irem, 1) := by decide +kernel
theorem dX9_besideSeen_16 : decode cX9_besideSeen 16 = .ok (.iload 4, 2) := by decide +kernel
theorem dX9_besideSeen_18 : decode cX9_besideSeen 18 = .ok (.invokestatic 109, 3) := by decide +kernel
theorem dX9_besideSeen_21 : decode cX9_besideSeen 21 = .ok (.iadd, 1) := by decide +kernel
theorem dX9_besideSeen_22 : decode cX9_besideSeen 22 = .ok (.istore 5, 2) := by decide +kernel
theorem dX9_besideSeen_24 : decode cX9_besideSeen 24 = .ok (.iload_n 1, 1) := by decide +kernel
theorem dX9_besideSeen_25 : decode cX9_besideSeen 25 = .ok (.bipush 16, 2) := by decide +kernel
theorem dX9_besideSeen_27 : decode cX9_besideSeen 27 = .ok (.idiv, 1) := by decide +kernel
theorem dX9_besideSeen_28 : decode cX9_besideSeen 28 = .ok (.iload 4, 2) := by decide +kernel
theorem dX9_besideSeen_30 : decode cX9_besideSeen 30 = .ok (.invokestatic 113, 3) := by decide +kernel
theorem dX9_besideSeen_33 : decode cX9_besideSeen 33 = .ok (.iadd, 1) := by decide +kernel
theorem dX9_besideSeen_34 : decode cX9_besideSeen 34 = .ok (.istore 6, 2) := by decide +kernel
theorem dX9_besideSeen_36 : decode cX9_besideSeen 36 = .ok (.iload 5, 2) := by decide +kernel
theorem dX9_besideSeen_38 : decode cX9_besideSeen 38 = .ok (.ifCond .lt 26, 3) := by decide +kernel
theorem dX9_besideSeen_41 : decode cX9_besideSeen 41 = .ok (.iload 5, 2) := by decide +kernel
theorem dX9_besideSeen_43 : decode cX9_besideSeen 43 = .ok (.bipush 16, 2) := by decide +kernel
theorem dX9_besideSeen_45 : decode cX9_besideSeen 45 = .ok (.if_icmp .ge 19, 3) := by decide +kernel
theorem dX9_besideSeen_48 : decode cX9_besideSeen 48 = .ok (.iload 6, 2) := by decide +kernel
theorem dX9_besideSeen_50 : decode cX9_besideSeen 50 = .ok (.ifCond .lt 14, 3) := by decide +kernel
theorem dX9_besideSeen_53 : decode cX9_besideSeen 53 = .ok (.iload 6, 2) := by decide +kernel
theorem dX9_besideSeen_55 : decode cX9_besideSeen 55 = .ok (.bipush 16, 2) := by decide +kernel
theorem dX9_besideSeen_57 : decode cX9_besideSeen 57 = .ok (.if_icmp .ge 7, 3) := by decide +kernel
theorem dX9_besideSeen_60 : decode cX9_besideSeen 60 = .ok (.iconst 1, 1) := by decide +kernel
theorem dX9_besideSeen_61 : decode cX9_besideSeen 61 = .ok (.goto 4, 3) := by decide +kernel
theorem dX9_besideSeen_64 : decode cX9_besideSeen 64 = .ok (.iconst 0, 1) := by decide +kernel
theorem dX9_besideSeen_65 : decode cX9_besideSeen 65 = .ok (.istore 7, 2) := by decide +kernel
theorem dX9_besideSeen_67 : decode cX9_besideSeen 67 = .ok (.iload_n 3, 1) := by decide +kernel
theorem dX9_besideSeen_68 : decode cX9_besideSeen 68 = .ok (.ifCond .ne 52, 3) := by decide +kernel
theorem dX9_besideSeen_71 : decode cX9_besideSeen 71 = .ok (.iload 7, 2) := by decide +kernel
theorem dX9_besideSeen_73 : decode cX9_besideSeen 73 = .ok (.ifCond .eq 51, 3) := by decide +kernel
theorem dX9_besideSeen_76 : decode cX9_besideSeen 76 = .ok (.iload_n 2, 1) := by decide +kernel
theorem dX9_besideSeen_77 : decode cX9_besideSeen 77 = .ok (.ifCond .ne 10, 3) := by decide +kernel
theorem dX9_besideSeen_80 : decode cX9_besideSeen 80 = .ok (.iload 4, 2) := by decide +kernel
theorem dX9_besideSeen_82 : decode cX9_besideSeen 82 = .ok (.iconst 2, 1) := by decide +kernel
theorem dX9_besideSeen_83 : decode cX9_besideSeen 83 = .ok (.irem, 1) := by decide +kernel
theorem dX9_besideSeen_84 : decode cX9_besideSeen 84 = .ok (.ifCond .ne 40, 3) := by decide +kernel
theorem dX9_besideSeen_87 : decode cX9_besideSeen 87 = .ok (.aload_n 0, 1) := by decide +kernel
theorem dX9_besideSeen_88 : decode cX9_besideSeen 88 = .ok (.getfield 9, 3) := by decide +kernel
theorem dX9_besideSeen_91 : decode cX9_besideSeen 91 = .ok (.bipush 16, 2) := by decide +kernel
theorem dX9_besideSeen_93 : decode cX9_besideSeen 93 = .ok (.iload 6, 2) := by decide +kernel
theorem dX9_besideSeen_95 : decode cX9_besideSeen 95 = .ok (.imul, 1) := by decide +kernel
theorem dX9_besideSeen_96 : decode cX9_besideSeen 96 = .ok (.iload 5, 2) := by decide +kernel
theorem dX9_besideSeen_98 : decode cX9_besideSeen 98 = .ok (.iadd, 1) := by decide +kernel
theorem dX9_besideSeen_99 : decode cX9_besideSeen 99 = .ok (.baload, 1) := by decide +kernel
theorem dX9_besideSeen_100 : decode cX9_besideSeen 100 = .ok (.iload_n 2, 1) := by decide +kernel
theorem dX9_besideSeen_101 : decode cX9_besideSeen 101 = .ok (.if_icmp .ne 23, 3) := by decide +kernel
theorem dX9_besideSeen_104 : decode cX9_besideSeen 104 = .ok (.aload_n 0, 1) := by decide +kernel
theorem dX9_besideSeen_105 : decode cX9_besideSeen 105 = .ok (.getfield 13, 3) := by decide +kernel
theorem dX9_besideSeen_108 : decode cX9_besideSeen 108 = .ok (.bipush 16, 2) := by decide +kernel
theorem dX9_besideSeen_110 : decode cX9_besideSeen 110 = .ok (.iload 6, 2) := by decide +kernel
theorem dX9_besideSeen_112 : decode cX9_besideSeen 112 = .ok (.imul, 1) := by decide +kernel
theorem dX9_besideSeen_113 : decode cX9_besideSeen 113 = .ok (.iload 5, 2) := by decide +kernel
theorem dX9_besideSeen_115 : decode cX9_besideSeen 115 = .ok (.iadd, 1) := by decide +kernel
theorem dX9_besideSeen_116 : decode cX9_besideSeen 116 = .ok (.baload, 1) := by decide +kernel
theorem dX9_besideSeen_117 : decode cX9_besideSeen 117 = .ok (.ifCond .eq 7, 3) := by decide +kernel
theorem dX9_besideSeen_120 : decode cX9_besideSeen 120 = .ok (.iconst 1, 1) := by decide +kernel
theorem dX9_besideSeen_121 : decode cX9_besideSeen 121 = .ok (.goto 4, 3) := by decide +kernel
theorem dX9_besideSeen_124 : decode cX9_besideSeen 124 = .ok (.iconst 0, 1) := by decide +kernel
theorem dX9_besideSeen_125 : decode cX9_besideSeen 125 = .ok (.istore_n 3, 1) := by decide +kernel
theorem dX9_besideSeen_126 : decode cX9_besideSeen 126 = .ok (.iinc 4 1, 3) := by decide +kernel
theorem dX9_besideSeen_129 : decode cX9_besideSeen 129 = .ok (.goto (-124), 3) := by decide +kernel
theorem dX9_besideSeen_132 : decode cX9_besideSeen 132 = .ok (.iload_n 3, 1) := by decide +kernel
noncomputable def fX9_besideSeen_5 (σ : zc_N) (l1 : Int32) (l2 : Int32) (i_ : Nat) (a_ : Int32) : Int32 := (if a_ = (0 : Int32) then (if (if ((l1 - l1 / (16 : Int32) * (16 : Int32)) + (rX9_stepX (nI i_))) < (0 : Int32) then (0 : Int32) else (if (16 : Int32) ≤ ((l1 - l1 / (16 : Int32) * (16 : Int32)) + (rX9_stepX (nI i_))) then (0 : Int32) else (if ((l1 / (16 : Int32)) + (rX9_stepY (nI i_))) < (0 : Int32) then (0 : Int32) else (if (16 : Int32) ≤ ((l1 / (16 : Int32)) + (rX9_stepY (nI i_))) then (0 : Int32) else (1 : Int32))))) = (0 : Int32) then (0 : Int32) else (if l2 = (0 : Int32) then (if ((nI i_) - (nI i_) / (2 : Int32) * (2 : Int32)) = (0 : Int32) then (if ((σ 33) (((16 : Int32) * ((l1 / (16 : Int32)) + (rX9_stepY (nI i_)))) + ((l1 - l1 / (16 : Int32) * (16 : Int32)) + (rX9_stepX (nI i_)))).toNatClampNeg) = l2 then (if ((σ 34) (((16 : Int32) * ((l1 / (16 : Int32)) + (rX9_stepY (nI i_)))) + ((l1 - l1 / (16 : Int32) * (16 : Int32)) + (rX9_stepX (nI i_)))).toNatClampNeg) = (0 : Int32) then (0 : Int32) else (1 : Int32)) else (0 : Int32)) else (0 : Int32)) else (if ((σ 33) (((16 : Int32) * ((l1 / (16 : Int32)) + (rX9_stepY (nI i_)))) + ((l1 - l1 / (16 : Int32) * (16 : Int32)) + (rX9_stepX (nI i_)))).toNatClampNeg) = l2 then (if ((σ 34) (((16 : Int32) * ((l1 / (16 : Int32)) + (rX9_stepY (nI i_)))) + ((l1 - l1 / (16 : Int32) * (16 : Int32)) + (rX9_stepX (nI i_)))).toNatClampNeg) = (0 : Int32) then (0 : Int32) else (1 : Int32)) else (0 : Int32)))) else (1 : Int32))
def qX9_besideSeen_5 (σ : zc_N) (l1 : Int32) (l2 : Int32) (i_ : Nat) (a_ : Int32) : Prop := ((a_ = (0 : Int32) → (((if ((l1 - l1 / (16 : Int32) * (16 : Int32)) + (rX9_stepX (nI i_))) < (0 : Int32) then (0 : Int32) else (if (16 : Int32) ≤ ((l1 - l1 / (16 : Int32) * (16 : Int32)) + (rX9_stepX (nI i_))) then (0 : Int32) else (if ((l1 / (16 : Int32)) + (rX9_stepY (nI i_))) < (0 : Int32) then (0 : Int32) else (if (16 : Int32) ≤ ((l1 / (16 : Int32)) + (rX9_stepY (nI i_))) then (0 : Int32) else (1 : Int32))))) = (0 : Int32) → True) ∧ (¬ (if ((l1 - l1 / (16 : Int32) * (16 : Int32)) + (rX9_stepX (nI i_))) < (0 : Int32) then (0 : Int32) else (if (16 : Int32) ≤ ((l1 - l1 / (16 : Int32) * (16 : Int32)) + (rX9_stepX (nI i_))) then (0 : Int32) else (if ((l1 / (16 : Int32)) + (rX9_stepY (nI i_))) < (0 : Int32) then (0 : Int32) else (if (16 : Int32) ≤ ((l1 / (16 : Int32)) + (rX9_stepY (nI i_))) then (0 : Int32) else (1 : Int32))))) = (0 : Int32) → ((l2 = (0 : Int32) → ((((nI i_) - (nI i_) / (2 : Int32) * (2 : Int32)) = (0 : Int32) → (vp_in (((16 : Int32) * ((l1 / (16 : Int32)) + (rX9_stepY (nI i_)))) + ((l1 - l1 / (16 : Int32) * (16 : Int32)) + (rX9_stepX (nI i_)))) 256 ∧ ((((σ 33) (((16 : Int32) * ((l1 / (16 : Int32)) + (rX9_stepY (nI i_)))) + ((l1 - l1 / (16 : Int32) * (16 : Int32)) + (rX9_stepX (nI i_)))).toNatClampNeg) = l2 → vp_in (((16 : Int32) * ((l1 / (16 : Int32)) + (rX9_stepY (nI i_)))) + ((l1 - l1 / (16 : Int32) * (16 : Int32)) + (rX9_stepX (nI i_)))) 256) ∧ (¬ ((σ 33) (((16 : Int32) * ((l1 / (16 : Int32)) + (rX9_stepY (nI i_)))) + ((l1 - l1 / (16 : Int32) * (16 : Int32)) + (rX9_stepX (nI i_)))).toNatClampNeg) = l2 → True)))) ∧ (¬ ((nI i_) - (nI i_) / (2 : Int32) * (2 : Int32)) = (0 : Int32) → True))) ∧ (¬ l2 = (0 : Int32) → (vp_in (((16 : Int32) * ((l1 / (16 : Int32)) + (rX9_stepY (nI i_)))) + ((l1 - l1 / (16 : Int32) * (16 : Int32)) + (rX9_stepX (nI i_)))) 256 ∧ ((((σ 33) (((16 : Int32) * ((l1 / (16 : Int32)) + (rX9_stepY (nI i_)))) + ((l1 - l1 / (16 : Int32) * (16 : Int32)) + (rX9_stepX (nI i_)))).toNatClampNeg) = l2 → vp_in (((16 : Int32) * ((l1 / (16 : Int32)) + (rX9_stepY (nI i_)))) + ((l1 - l1 / (16 : Int32) * (16 : Int32)) + (rX9_stepX (nI i_)))) 256) ∧ (¬ ((σ 33) (((16 : Int32) * ((l1 / (16 : Int32)) + (rX9_stepY (nI i_)))) + ((l1 - l1 / (16 : Int32) * (16 : Int32)) + (rX9_stepX (nI i_)))).toNatClampNeg) = l2 → True)))))))) ∧ (¬ a_ = (0 : Int32) → True))
set_option maxHeartbeats 2000000 in
theorem lpX9_besideSeen_5 {G : zc_G} {Q : Option Value → zc_H → Prop} (P : zp) (σ : zc_N) (l1 : Int32) (l2 : Int32) (l3 : Int32) (W1_ : ∀ i5_ : Nat, i5_ < 8 → qX9_besideSeen_5 σ l1 l2 i5_ (zfor (fX9_besideSeen_5 σ l1 l2) i5_ l3))
    (W2_ : zz G mX9_besideSeen 1 0 0 Q 132 [none, none, none, some (.int (zfor (fX9_besideSeen_5 σ l1 l2) 8 l3)), none, none, none, none] [] (hh P σ) 0 0) :
    zz G mX9_besideSeen 1 0 0 Q 5 [some (.ref 32), some (.int l1), some (.int l2), some (.int l3), some (.int (nI 0)), none, none, none] [] (hh P σ) 0 0 := by
  refine zfor_nI (fun i_ a_ => zz G mX9_besideSeen 1 0 0 Q 5 [some (.ref 32), some (.int l1), some (.int l2), some (.int a_), some (.int i_), none, none, none] [] (hh P σ) 0 0) (fX9_besideSeen_5 σ l1 l2) 8 l3 (fun i_ hi_ k_ => ?_) ?_
  · have W3_ := W1_ i_ hi_
    generalize zfor (fX9_besideSeen_5 σ l1 l2) i_ l3 = g_ at k_ W3_ ⊢
    rw [fX9_besideSeen_5] at k_
    rw [qX9_besideSeen_5] at W3_
    try dsimp only at W3_
    refine z_iload dX9_besideSeen_5 rfl ?_
    refine z_bipush dX9_besideSeen_7 k_bipush_8 ?_
    refine z_icmp_ge (tgt := 132) dX9_besideSeen_9 (by decide) (fun c_ => absurd c_ (nI_ge hi_ (by decide))) (fun c_ => ?_)
    refine z_iload_n dX9_besideSeen_12 rfl ?_
    refine z_bipush dX9_besideSeen_13 k_bipush_16 ?_
    refine z_irem (v := (l1 - l1 / (16 : Int32) * (16 : Int32))) dX9_besideSeen_15 (by decide) rfl ?_
    refine z_iload dX9_besideSeen_16 rfl ?_
    refine z_callS (As := [.int (nI i_)]) (rest := [.int (l1 - l1 / (16 : Int32) * (16 : Int32))]) (ctX9_stepX P σ (nI i_)) dX9_besideSeen_18 lk_X9_109 ls_X9_stepX rfl (Nat.le_of_ble_eq_true rfl) (Nat.le_of_ble_eq_true rfl) (Nat.le_of_ble_eq_true rfl) (Nat.le_of_ble_eq_true rfl) (fun r_ h_ e_ => ?_)
    obtain ⟨e1_, e2_⟩ := e_
    subst e1_
    subst e2_
    show zz G mX9_besideSeen 1 0 0 Q 21 [some (.ref 32), some (.int l1), some (.int l2), some (.int g_), some (.int (nI i_)), none, none, none] [.int (rX9_stepX (nI i_)), .int (l1 - l1 / (16 : Int32) * (16 : Int32))] (hh P σ) 0 0
    refine z_iadd (v := ((l1 - l1 / (16 : Int32) * (16 : Int32)) + (rX9_stepX (nI i_)))) dX9_besideSeen_21 rfl ?_
    refine z_istore (lv' := [some (.ref 32), some (.int l1), some (.int l2), some (.int g_), some (.int (nI i_)), some (.int ((l1 - l1 / (16 : Int32) * (16 : Int32)) + (rX9_stepX (nI i_)))), none, none]) dX9_besideSeen_22 (Nat.le_of_ble_eq_true rfl) rfl ?_
    refine z_iload_n dX9_besideSeen_24 rfl ?_
    refine z_bipush dX9_besideSeen_25 k_bipush_16 ?_
    refine z_idiv (v := (l1 / (16 : Int32))) dX9_besideSeen_27 (by decide) rfl ?_
    refine z_iload dX9_besideSeen_28 rfl ?_
    refine z_callS (As := [.int (nI i_)]) (rest := [.int (l1 / (16 : Int32))]) (ctX9_stepY P σ (nI i_)) dX9_besideSeen_30 lk_X9_113 ls_X9_stepY rfl (Nat.le_of_ble_eq_true rfl) (Nat.le_of_ble_eq_true rfl) (Nat.le_of_ble_eq_true rfl) (Nat.le_of_ble_eq_true rfl) (fun r_ h_ e_ => ?_)
    obtain ⟨e1_, e2_⟩ := e_
    subst e1_
    subst e2_
    show zz G mX9_besideSeen 1 0 0 Q 33 [some (.ref 32), some (.int l1), some (.int l2), some (.int g_), some (.int (nI i_)), some (.int ((l1 - l1 / (16 : Int32) * (16 : Int32)) + (rX9_stepX (nI i_)))), none, none] [.int (rX9_stepY (nI i_)), .int (l1 / (16 : Int32))] (hh P σ) 0 0
    refine z_iadd (v := ((l1 / (16 : Int32)) + (rX9_stepY (nI i_)))) dX9_besideSeen_33 rfl ?_
    refine z_istore (lv' := [some (.ref 32), some (.int l1), some (.int l2), some (.int g_), some (.int (nI i_)), some (.int ((l1 - l1 / (16 : Int32) * (16 : Int32)) + (rX9_stepX (nI i_)))), some (.int ((l1 / (16 : Int32)) + (rX9_stepY (nI i_)))), none]) dX9_besideSeen_34 (Nat.le_of_ble_eq_true rfl) rfl ?_
    refine z_iload dX9_besideSeen_36 rfl ?_
    have K_1 : zz G mX9_besideSeen 1 0 0 Q 65 [some (.ref 32), some (.int l1), some (.int l2), some (.int g_), some (.int (nI i_)), some (.int ((l1 - l1 / (16 : Int32) * (16 : Int32)) + (rX9_stepX (nI i_)))), some (.int ((l1 / (16 : Int32)) + (rX9_stepY (nI i_)))), none] [.int (if ((l1 - l1 / (16 : Int32) * (16 : Int32)) + (rX9_stepX (nI i_))) < (0 : Int32) then (0 : Int32) else (if (16 : Int32) ≤ ((l1 - l1 / (16 : Int32) * (16 : Int32)) + (rX9_stepX (nI i_))) then (0 : Int32) else (if ((l1 / (16 : Int32)) + (rX9_stepY (nI i_))) < (0 : Int32) then (0 : Int32) else (if (16 : Int32) ≤ ((l1 / (16 : Int32)) + (rX9_stepY (nI i_))) then (0 : Int32) else (1 : Int32)))))] (hh P σ) 0 0 := by
      refine z_istore (lv' := [some (.ref 32), some (.int l1), some (.int l2), some (.int g_), some (.int (nI i_)), some (.int ((l1 - l1 / (16 : Int32) * (16 : Int32)) + (rX9_stepX (nI i_)))), some (.int ((l1 / (16 : Int32)) + (rX9_stepY (nI i_)))), some (.int (if ((l1 - l1 / (16 : Int32) * (16 : Int32)) + (rX9_stepX (nI i_))) < (0 : Int32) then (0 : Int32) else (if (16 : Int32) ≤ ((l1 - l1 / (16 : Int32) * (16 : Int32)) + (rX9_stepX (nI i_))) then (0 : Int32) else (if ((l1 / (16 : Int32)) + (rX9_stepY (nI i_))) < (0 : Int32) then (0 : Int32) else (if (16 : Int32) ≤ ((l1 / (16 : Int32)) + (rX9_stepY (nI i_))) then (0 : Int32) else (1 : Int32))))))]) dX9_besideSeen_65 (Nat.le_of_ble_eq_true rfl) rfl ?_
      refine z_iload_n dX9_besideSeen_67 rfl ?_
      have K_2 : zz G mX9_besideSeen 1 0 0 Q 125 [some (.ref 32), some (.int l1), some (.int l2), none, some (.int (nI i_)), none, none, none] [.int (if g_ = (0 : Int32) then (if (if ((l1 - l1 / (16 : Int32) * (16 : Int32)) + (rX9_stepX (nI i_))) < (0 : Int32) then (0 : Int32) else (if (16 : Int32) ≤ ((l1 - l1 / (16 : Int32) * (16 : Int32)) + (rX9_stepX (nI i_))) then (0 : Int32) else (if ((l1 / (16 : Int32)) + (rX9_stepY (nI i_))) < (0 : Int32) then (0 : Int32) else (if (16 : Int32) ≤ ((l1 / (16 : Int32)) + (rX9_stepY (nI i_))) then (0 : Int32) else (1 : Int32))))) = (0 : Int32) then (0 : Int32) else (if l2 = (0 : Int32) then (if ((nI i_) - (nI i_) / (2 : Int32) * (2 : Int32)) = (0 : Int32) then (if ((σ 33) (((16 : Int32) * ((l1 / (16 : Int32)) + (rX9_stepY (nI i_)))) + ((l1 - l1 / (16 : Int32) * (16 : Int32)) + (rX9_stepX (nI i_)))).toNatClampNeg) = l2 then (if ((σ 34) (((16 : Int32) * ((l1 / (16 : Int32)) + (rX9_stepY (nI i_)))) + ((l1 - l1 / (16 : Int32) * (16 : Int32)) + (rX9_stepX (nI i_)))).toNatClampNeg) = (0 : Int32) then (0 : Int32) else (1 : Int32)) else (0 : Int32)) else (0 : Int32)) else (if ((σ 33) (((16 : Int32) * ((l1 / (16 : Int32)) + (rX9_stepY (nI i_)))) + ((l1 - l1 / (16 : Int32) * (16 : Int32)) + (rX9_stepX (nI i_)))).toNatClampNeg) = l2 then (if ((σ 34) (((16 : Int32) * ((l1 / (16 : Int32)) + (rX9_stepY (nI i_)))) + ((l1 - l1 / (16 : Int32) * (16 : Int32)) + (rX9_stepX (nI i_)))).toNatClampNeg) = (0 : Int32) then (0 : Int32) else (1 : Int32)) else (0 : Int32)))) else (1 : Int32))] (hh P σ) 0 0 := by
        refine z_istore_n (lv' := [some (.ref 32), some (.int l1), some (.int l2), some (.int (if g_ = (0 : Int32) then (if (if ((l1 - l1 / (16 : Int32) * (16 : Int32)) + (rX9_stepX (nI i_))) < (0 : Int32) then (0 : Int32) else (if (16 : Int32) ≤ ((l1 - l1 / (16 : Int32) * (16 : Int32)) + (rX9_stepX (nI i_))) then (0 : Int32) else (if ((l1 / (16 : Int32)) + (rX9_stepY (nI i_))) < (0 : Int32) then (0 : Int32) else (if (16 : Int32) ≤ ((l1 / (16 : Int32)) + (rX9_stepY (nI i_))) then (0 : Int32) else (1 : Int32))))) = (0 : Int32) then (0 : Int32) else (if l2 = (0 : Int32) then (if ((nI i_) - (nI i_) / (2 : Int32) * (2 : Int32)) = (0 : Int32) then (if ((σ 33) (((16 : Int32) * ((l1 / (16 : Int32)) + (rX9_stepY (nI i_)))) + ((l1 - l1 / (16 : Int32) * (16 : Int32)) + (rX9_stepX (nI i_)))).toNatClampNeg) = l2 then (if ((σ 34) (((16 : Int32) * ((l1 / (16 : Int32)) + (rX9_stepY (nI i_)))) + ((l1 - l1 / (16 : Int32) * (16 : Int32)) + (rX9_stepX (nI i_)))).toNatClampNeg) = (0 : Int32) then (0 : Int32) else (1 : Int32)) else (0 : Int32)) else (0 : Int32)) else (if ((σ 33) (((16 : Int32) * ((l1 / (16 : Int32)) + (rX9_stepY (nI i_)))) + ((l1 - l1 / (16 : Int32) * (16 : Int32)) + (rX9_stepX (nI i_)))).toNatClampNeg) = l2 then (if ((σ 34) (((16 : Int32) * ((l1 / (16 : Int32)) + (rX9_stepY (nI i_)))) + ((l1 - l1 / (16 : Int32) * (16 : Int32)) + (rX9_stepX (nI i_)))).toNatClampNeg) = (0 : Int32) then (0 : Int32) else (1 : Int32)) else (0 : Int32)))) else (1 : Int32))), some (.int (nI i_)), none, none, none]) dX9_besideSeen_125 (Nat.le_of_ble_eq_true rfl) rfl ?_
        refine z_iinc (v := ((nI i_) + (1 : Int32))) (lv' := [some (.ref 32), some (.int l1), some (.int l2), some (.int (if g_ = (0 : Int32) then (if (if ((l1 - l1 / (16 : Int32) * (16 : Int32)) + (rX9_stepX (nI i_))) < (0 : Int32) then (0 : Int32) else (if (16 : Int32) ≤ ((l1 - l1 / (16 : Int32) * (16 : Int32)) + (rX9_stepX (nI i_))) then (0 : Int32) else (if ((l1 / (16 : Int32)) + (rX9_stepY (nI i_))) < (0 : Int32) then (0 : Int32) else (if (16 : Int32) ≤ ((l1 / (16 : Int32)) + (rX9_stepY (nI i_))) then (0 : Int32) else (1 : Int32))))) = (0 : Int32) then (0 : Int32) else (if l2 = (0 : Int32) then (if ((nI i_) - (nI i_) / (2 : Int32) * (2 : Int32)) = (0 : Int32) then (if ((σ 33) (((16 : Int32) * ((l1 / (16 : Int32)) + (rX9_stepY (nI i_)))) + ((l1 - l1 / (16 : Int32) * (16 : Int32)) + (rX9_stepX (nI i_)))).toNatClampNeg) = l2 then (if ((σ 34) (((16 : Int32) * ((l1 / (16 : Int32)) + (rX9_stepY (nI i_)))) + ((l1 - l1 / (16 : Int32) * (16 : Int32)) + (rX9_stepX (nI i_)))).toNatClampNeg) = (0 : Int32) then (0 : Int32) else (1 : Int32)) else (0 : Int32)) else (0 : Int32)) else (if ((σ 33) (((16 : Int32) * ((l1 / (16 : Int32)) + (rX9_stepY (nI i_)))) + ((l1 - l1 / (16 : Int32) * (16 : Int32)) + (rX9_stepX (nI i_)))).toNatClampNeg) = l2 then (if ((σ 34) (((16 : Int32) * ((l1 / (16 : Int32)) + (rX9_stepY (nI i_)))) + ((l1 - l1 / (16 : Int32) * (16 : Int32)) + (rX9_stepX (nI i_)))).toNatClampNeg) = (0 : Int32) then (0 : Int32) else (1 : Int32)) else (0 : Int32)))) else (1 : Int32))), some (.int ((nI i_) + (1 : Int32))), none, none, none]) dX9_besideSeen_126 (Nat.le_of_ble_eq_true rfl) rfl (by rw [k_iconst_1]) rfl ?_
        refine z_goto (tgt := 5) dX9_besideSeen_129 (by decide) ?_
        rw [nI_1]
        exact k_
      refine z_if_ne (tgt := 120) dX9_besideSeen_68 (by decide) (fun c_6 => ?_) (fun c_6 => ?_)
      · refine z_iconst dX9_besideSeen_120 k_iconst_1 ?_
        refine z_goto (tgt := 125) dX9_besideSeen_121 (by decide) ?_
        refine zz_sub (lv' := [some (.ref 32), some (.int l1), some (.int l2), none, some (.int (nI i_)), none, none, none]) ⟨rfl, ⟨rfl, ⟨rfl, ⟨rfl, trivial⟩⟩⟩⟩ ?_
        first | exact K_2 | simpa only [if_neg c_6] using K_2
      · refine z_iload dX9_besideSeen_71 rfl ?_
        refine z_if_eq (tgt := 124) dX9_besideSeen_73 (by decide) (fun c_7 => ?_) (fun c_7 => ?_)
        · refine z_iconst dX9_besideSeen_124 k_iconst_0 ?_
          refine zz_sub (lv' := [some (.ref 32), some (.int l1), some (.int l2), none, some (.int (nI i_)), none, none, none]) ⟨rfl, ⟨rfl, ⟨rfl, ⟨rfl, trivial⟩⟩⟩⟩ ?_
          first | exact K_2 | simpa only [if_pos c_6, if_pos c_7] using K_2
        · refine z_iload_n dX9_besideSeen_76 rfl ?_
          refine z_if_ne (tgt := 87) dX9_besideSeen_77 (by decide) (fun c_8 => ?_) (fun c_8 => ?_)
          · refine z_aloadr_n dX9_besideSeen_87 rfl ?_
            refine z_get (ci := 9) (r := (RX9, TX9, 38)) (j := 0) (v := .ref 33) dX9_besideSeen_88 (Nat.le_of_ble_eq_true rfl) (zN rfl) rfl rfl (Nat.le_of_ble_eq_true rfl) fl_X9_9 rfl ?_
            refine z_bipush dX9_besideSeen_91 k_bipush_16 ?_
            refine z_iload dX9_besideSeen_93 rfl ?_
            refine z_imul (v := ((16 : Int32) * ((l1 / (16 : Int32)) + (rX9_stepY (nI i_))))) dX9_besideSeen_95 rfl ?_
            refine z_iload dX9_besideSeen_96 rfl ?_
            refine z_iadd (v := (((16 : Int32) * ((l1 / (16 : Int32)) + (rX9_stepY (nI i_)))) + ((l1 - l1 / (16 : Int32) * (16 : Int32)) + (rX9_stepX (nI i_))))) dX9_besideSeen_98 rfl ?_
            refine z_bald (v := ((σ 33) (((16 : Int32) * ((l1 / (16 : Int32)) + (rX9_stepY (nI i_)))) + ((l1 - l1 / (16 : Int32) * (16 : Int32)) + (rX9_stepX (nI i_)))).toNatClampNeg)) dX9_besideSeen_99 (Nat.le_of_ble_eq_true rfl) (zN rfl) rfl ((((W3_.1 c_6).2 c_7).2 c_8).1) rfl ?_
            refine z_iload_n dX9_besideSeen_100 rfl ?_
            refine z_icmp_ne (tgt := 124) dX9_besideSeen_101 (by decide) (fun c_9 => ?_) (fun c_9 => ?_)
            · refine z_iconst dX9_besideSeen_124 k_iconst_0 ?_
              refine zz_sub (lv' := [some (.ref 32), some (.int l1), some (.int l2), none, some (.int (nI i_)), none, none, none]) ⟨rfl, ⟨rfl, ⟨rfl, ⟨rfl, trivial⟩⟩⟩⟩ ?_
              first | exact K_2 | simpa only [if_pos c_6, if_neg c_7, if_neg c_8, if_neg c_9] using K_2
            · refine z_aloadr_n dX9_besideSeen_104 rfl ?_
              refine z_get (ci := 9) (r := (RX9, TX9, 38)) (j := 1) (v := .ref 34) dX9_besideSeen_105 (Nat.le_of_ble_eq_true rfl) (zN rfl) rfl rfl (Nat.le_of_ble_eq_true rfl) fl_X9_13 rfl ?_
              refine z_bipush dX9_besideSeen_108 k_bipush_16 ?_
              refine z_iload dX9_besideSeen_110 rfl ?_
              refine z_imul (v := ((16 : Int32) * ((l1 / (16 : Int32)) + (rX9_stepY (nI i_))))) dX9_besideSeen_112 rfl ?_
              refine z_iload dX9_besideSeen_113 rfl ?_
              refine z_iadd (v := (((16 : Int32) * ((l1 / (16 : Int32)) + (rX9_stepY (nI i_)))) + ((l1 - l1 / (16 : Int32) * (16 : Int32)) + (rX9_stepX (nI i_))))) dX9_besideSeen_115 rfl ?_
              refine z_bald (v := ((σ 34) (((16 : Int32) * ((l1 / (16 : Int32)) + (rX9_stepY (nI i_)))) + ((l1 - l1 / (16 : Int32) * (16 : Int32)) + (rX9_stepX (nI i_)))).toNatClampNeg)) dX9_besideSeen_116 (Nat.le_of_ble_eq_true rfl) (zN rfl) rfl ((((W3_.1 c_6).2 c_7).2 c_8).2.1 c_9) rfl ?_
              refine z_if_eq (tgt := 124) dX9_besideSeen_117 (by decide) (fun c_10 => ?_) (fun c_10 => ?_)
              · refine z_iconst dX9_besideSeen_124 k_iconst_0 ?_
                refine zz_sub (lv' := [some (.ref 32), some (.int l1), some (.int l2), none, some (.int (nI i_)), none, none, none]) ⟨rfl, ⟨rfl, ⟨rfl, ⟨rfl, trivial⟩⟩⟩⟩ ?_
                first | exact K_2 | simpa only [if_pos c_6, if_neg c_7, if_neg c_8, if_pos c_9, if_pos c_10] using K_2
              · refine z_iconst dX9_besideSeen_120 k_iconst_1 ?_
                refine z_goto (tgt := 125) dX9_besideSeen_121 (by decide) ?_
                refine zz_sub (lv' := [some (.ref 32), some (.int l1), some (.int l2), none, some (.int (nI i_)), none, none, none]) ⟨rfl, ⟨rfl, ⟨rfl, ⟨rfl, trivial⟩⟩⟩⟩ ?_
                first | exact K_2 | simpa only [if_pos c_6, if_neg c_7, if_neg c_8, if_pos c_9, if_neg c_10] using K_2
          · refine z_iload dX9_besideSeen_80 rfl ?_
            refine z_iconst dX9_besideSeen_82 k_iconst_2 ?_
            refine z_irem (v := ((nI i_) - (nI i_) / (2 : Int32) * (2 : Int32))) dX9_besideSeen_83 (by decide) rfl ?_
            refine z_if_ne (tgt := 124) dX9_besideSeen_84 (by decide) (fun c_11 => ?_) (fun c_11 => ?_)
            · refine z_iconst dX9_besideSeen_124 k_iconst_0 ?_
              refine zz_sub (lv' := [some (.ref 32), some (.int l1), some (.int l2), none, some (.int (nI i_)), none, none, none]) ⟨rfl, ⟨rfl, ⟨rfl, ⟨rfl, trivial⟩⟩⟩⟩ ?_
              first | exact K_2 | simpa only [if_pos c_6, if_neg c_7, if_pos c_8, if_neg c_11] using K_2
            · refine z_aloadr_n dX9_besideSeen_87 rfl ?_
              refine z_get (ci := 9) (r := (RX9, TX9, 38)) (j := 0) (v := .ref 33) dX9_besideSeen_88 (Nat.le_of_ble_eq_true rfl) (zN rfl) rfl rfl (Nat.le_of_ble_eq_true rfl) fl_X9_9 rfl ?_
              refine z_bipush dX9_besideSeen_91 k_bipush_16 ?_
              refine z_iload dX9_besideSeen_93 rfl ?_
              refine z_imul (v := ((16 : Int32) * ((l1 / (16 : Int32)) + (rX9_stepY (nI i_))))) dX9_besideSeen_95 rfl ?_
              refine z_iload dX9_besideSeen_96 rfl ?_
              refine z_iadd (v := (((16 : Int32) * ((l1 / (16 : Int32)) + (rX9_stepY (nI i_)))) + ((l1 - l1 / (16 : Int32) * (16 : Int32)) + (rX9_stepX (nI i_))))) dX9_besideSeen_98 rfl ?_
              refine z_bald (v := ((σ 33) (((16 : Int32) * ((l1 / (16 : Int32)) + (rX9_stepY (nI i_)))) + ((l1 - l1 / (16 : Int32) * (16 : Int32)) + (rX9_stepX (nI i_)))).toNatClampNeg)) dX9_besideSeen_99 (Nat.le_of_ble_eq_true rfl) (zN rfl) rfl (((((W3_.1 c_6).2 c_7).1 c_8).1 c_11).1) rfl ?_
              refine z_iload_n dX9_besideSeen_100 rfl ?_
              refine z_icmp_ne (tgt := 124) dX9_besideSeen_101 (by decide) (fun c_12 => ?_) (fun c_12 => ?_)
              · refine z_iconst dX9_besideSeen_124 k_iconst_0 ?_
                refine zz_sub (lv' := [some (.ref 32), some (.int l1), some (.int l2), none, some (.int (nI i_)), none, none, none]) ⟨rfl, ⟨rfl, ⟨rfl, ⟨rfl, trivial⟩⟩⟩⟩ ?_
                first | exact K_2 | simpa only [if_pos c_6, if_neg c_7, if_pos c_8, if_pos c_11, if_neg c_12] using K_2
              · refine z_aloadr_n dX9_besideSeen_104 rfl ?_
                refine z_get (ci := 9) (r := (RX9, TX9, 38)) (j := 1) (v := .ref 34) dX9_besideSeen_105 (Nat.le_of_ble_eq_true rfl) (zN rfl) rfl rfl (Nat.le_of_ble_eq_true rfl) fl_X9_13 rfl ?_
                refine z_bipush dX9_besideSeen_108 k_bipush_16 ?_
                refine z_iload dX9_besideSeen_110 rfl ?_
                refine z_imul (v := ((16 : Int32) * ((l1 / (16 : Int32)) + (rX9_stepY (nI i_))))) dX9_besideSeen_112 rfl ?_
                refine z_iload dX9_besideSeen_113 rfl ?_
                refine z_iadd (v := (((16 : Int32) * ((l1 / (16 : Int32)) + (rX9_stepY (nI i_)))) + ((l1 - l1 / (16 : Int32) * (16 : Int32)) + (rX9_stepX (nI i_))))) dX9_besideSeen_115 rfl ?_
                refine z_bald (v := ((σ 34) (((16 : Int32) * ((l1 / (16 : Int32)) + (rX9_stepY (nI i_)))) + ((l1 - l1 / (16 : Int32) * (16 : Int32)) + (rX9_stepX (nI i_)))).toNatClampNeg)) dX9_besideSeen_116 (Nat.le_of_ble_eq_true rfl) (zN rfl) rfl (((((W3_.1 c_6).2 c_7).1 c_8).1 c_11).2.1 c_12) rfl ?_
                refine z_if_eq (tgt := 124) dX9_besideSeen_117 (by decide) (fun c_13 => ?_) (fun c_13 => ?_)
                · refine z_iconst dX9_besideSeen_124 k_iconst_0 ?_
                  refine zz_sub (lv' := [some (.ref 32), some (.int l1), some (.int l2), none, some (.int (nI i_)), none, none, none]) ⟨rfl, ⟨rfl, ⟨rfl, ⟨rfl, trivial⟩⟩⟩⟩ ?_
                  first | exact K_2 | simpa only [if_pos c_6, if_neg c_7, if_pos c_8, if_pos c_11, if_pos c_12, if_pos c_13] using K_2
                · refine z_iconst dX9_besideSeen_120 k_iconst_1 ?_
                  refine z_goto (tgt := 125) dX9_besideSeen_121 (by decide) ?_
                  refine zz_sub (lv' := [some (.ref 32), some (.int l1), some (.int l2), none, some (.int (nI i_)), none, none, none]) ⟨rfl, ⟨rfl, ⟨rfl, ⟨rfl, trivial⟩⟩⟩⟩ ?_
                  first | exact K_2 | simpa only [if_pos c_6, if_neg c_7, if_pos c_8, if_pos c_11, if_pos c_12, if_neg c_13] using K_2
    refine z_if_lt (tgt := 64) dX9_besideSeen_38 (by decide) (fun c_2 => ?_) (fun c_2 => ?_)
    · refine z_iconst dX9_besideSeen_64 k_iconst_0 ?_
      first | exact K_1 | simpa only [if_pos c_2] using K_1
    · refine z_iload dX9_besideSeen_41 rfl ?_
      refine z_bipush dX9_besideSeen_43 k_bipush_16 ?_
      refine z_icmp_ge (tgt := 64) dX9_besideSeen_45 (by decide) (fun c_3 => ?_) (fun c_3 => ?_)
      · refine z_iconst dX9_besideSeen_64 k_iconst_0 ?_
        first | exact K_1 | simpa only [if_neg c_2, if_pos c_3] using K_1
      · refine z_iload dX9_besideSeen_48 rfl ?_
        refine z_if_lt (tgt := 64) dX9_besideSeen_50 (by decide) (fun c_4 => ?_) (fun c_4 => ?_)
        · refine z_iconst dX9_besideSeen_64 k_iconst_0 ?_
          first | exact K_1 | simpa only [if_neg c_2, if_neg c_3, if_pos c_4] using K_1
        · refine z_iload dX9_besideSeen_53 rfl ?_
          refine z_bipush dX9_besideSeen_55 k_bipush_16 ?_
          refine z_icmp_ge (tgt := 64) dX9_besideSeen_57 (by decide) (fun c_5 => ?_) (fun c_5 => ?_)
          · refine z_iconst dX9_besideSeen_64 k_iconst_0 ?_
            first | exact K_1 | simpa only [if_neg c_2, if_neg c_3, if_neg c_4, if_pos c_5] using K_1
          · refine z_iconst dX9_besideSeen_60 k_iconst_1 ?_
            refine z_goto (tgt := 65) dX9_besideSeen_61 (by decide) ?_
            first | exact K_1 | simpa only [if_neg c_2, if_neg c_3, if_neg c_4, if_neg c_5] using K_1
  · generalize zfor (fX9_besideSeen_5 σ l1 l2) 8 l3 = g_ at W2_ ⊢
    refine z_iload dX9_besideSeen_5 rfl ?_
    refine z_bipush dX9_besideSeen_7 k_bipush_8 ?_
    refine z_icmp_ge (tgt := 132) dX9_besideSeen_9 (by decide) (fun c_ => ?_) (fun c_ => absurd (by decide) c_)
    exact zz_sub (lv' := [none, none, none, some (.int g_), none, none, none, none]) ⟨rfl, trivial⟩ W2_

theorem dX9_besideSeen_0 : decode cX9_besideSeen 0 = .ok (.iconst 0, 1) := by decide +kernel
theorem dX9_besideSeen_1 : decode cX9_besideSeen 1 = .ok (.istore_n 3, 1) := by decide +kernel
theorem dX9_besideSeen_2 : decode cX9_besideSeen 2 = .ok (.iconst 0, 1) := by decide +kernel
theorem dX9_besideSeen_3 : decode cX9_besideSeen 3 = .ok (.istore 4, 2) := by decide +kernel
theorem dX9_besideSeen_133 : decode cX9_besideSeen 133 = .ok (.ireturn, 1) := by decide +kernel
def pX9_besideSeen (σ : zc_N) (a1 : Int32) (a2 : Int32) : Prop := ((∀ i5_ : Nat, i5_ < 8 → qX9_besideSeen_5 σ a1 a2 i5_ (zfor (fX9_besideSeen_5 σ a1 a2) i5_ (0 : Int32))) ∧ narrow .boolean (.int (zfor (fX9_besideSeen_5 σ a1 a2) 8 (0 : Int32))) = .int (zfor (fX9_besideSeen_5 σ a1 a2) 8 (0 : Int32)))
noncomputable def rX9_besideSeen (σ : zc_N) (a1 : Int32) (a2 : Int32) : Int32 := (zfor (fX9_besideSeen_5 σ a1 a2) 8 (0 : Int32))
set_option maxHeartbeats 1000000 in
theorem ctX9_besideSeen (P : zp) (σ : zc_N) (a1 : Int32) (a2 : Int32) (W_ : (pX9_besideSeen σ a1 a2)) : sp mX9_besideSeen 1 0 0 [.ref 32, .int a1, .int a2] (hh P σ) (fun r_ h_ => r_ = some (.int (rX9_besideSeen σ a1 a2)) ∧ h_ = hh P σ) := by
  refine sp_of (lv := [some (.ref 32), some (.int a1), some (.int a2), none, none, none, none, none]) (by decide) (zcats_ok _ rfl) (Nat.le_of_ble_eq_true rfl) (zlv_ok _ 5 rfl) (fun G => ?_)
  generalize hQ_ : (fun (r_ : Option Value) (h_ : zc_H) => r_ = some (.int (rX9_besideSeen σ a1 a2)) ∧ h_ = hh P σ) = Q_
  unfold pX9_besideSeen at W_
  refine z_iconst dX9_besideSeen_0 k_iconst_0 ?_
  refine z_istore_n (lv' := [some (.ref 32), some (.int a1), some (.int a2), some (.int (0 : Int32)), none, none, none, none]) dX9_besideSeen_1 (Nat.le_of_ble_eq_true rfl) rfl ?_
  refine z_iconst dX9_besideSeen_2 k_iconst_0 ?_
  refine z_istore (lv' := [some (.ref 32), some (.int a1), some (.int a2), some (.int (0 : Int32)), some (.int (0 : Int32)), none, none, none]) dX9_besideSeen_3 (Nat.le_of_ble_eq_true rfl) rfl ?_
  refine lpX9_besideSeen_5 P σ a1 a2 (0 : Int32) W_.1 ?_
  refine z_iload_n dX9_besideSeen_132 rfl ?_
  exact z_ireturn dX9_besideSeen_133 rfl W_.2 (Nat.le_of_ble_eq_true rfl) (Nat.le_of_ble_eq_true rfl) (by rw [← hQ_]; exact ⟨(by rw [rX9_besideSeen]), rfl⟩)

theorem dX1_readPoints_20 : decode cX1_readPoints 20 = .ok (.iload 6, 2) := by decide +kernel
theorem dX1_readPoints_22 : decode cX1_readPoints 22 = .ok (.bipush 16, 2) := by decide +kernel
theorem dX1_readPoints_24 : decode cX1_readPoints 24 = .ok (.if_icmp .ge 125, 3) := by decide +kernel
theorem dX1_readPoints_27 : decode cX1_readPoints 27 = .ok (.iload_n 3, 1) := by decide +kernel
theorem dX1_readPoints_28 : decode cX1_readPoints 28 = .ok (.iload 6, 2) := by decide +kernel
theorem dX1_readPoints_30 : decode cX1_readPoints 30 = .ok (.invokestatic 46, 3) := by decide +kernel
theorem dX1_readPoints_33 : decode cX1_readPoints 33 = .ok (.iload 5, 2) := by decide +kernel
theorem dX1_readPoints_35 : decode cX1_readPoints 35 = .ok (.iload 6, 2) := by decide +kernel
theorem dX1_readPoints_37 : decode cX1_readPoints 37 = .ok (.invokestatic 46, 3) := by decide +kernel
theorem dX1_readPoints_40 : decode cX1_readPoints 40 = .ok (.ior, 1) := by decide +kernel
theorem dX1_readPoints_41 : decode cX1_readPoints 41 = .ok (.ifCond .eq 7, 3) := by decide +kernel
theorem dX1_readPoints_44 : decode cX1_readPoints 44 = .ok (.iconst 1, 1) := by decide +kernel
theorem dX1_readPoints_45 : decode cX1_readPoints 45 = .ok (.goto 4, 3) := by decide +kernel
theorem dX1_readPoints_48 : decode cX1_readPoints 48 = .ok (.iconst 0, 1) := by decide +kernel
theorem dX1_readPoints_49 : decode cX1_readPoints 49 = .ok (.istore 7, 2) := by decide +kernel
theorem dX1_readPoints_51 : decode cX1_readPoints 51 = .ok (.aload_n 0, 1) := by decide +kernel
theorem dX1_readPoints_52 : decode cX1_readPoints 52 = .ok (.iload 6, 2) := by decide +kernel
theorem dX1_readPoints_54 : decode cX1_readPoints 54 = .ok (.iload 4, 2) := by decide +kernel
theorem dX1_readPoints_56 : decode cX1_readPoints 56 = .ok (.invokevirtual 31, 3) := by decide +kernel
theorem dX1_readPoints_59 : decode cX1_readPoints 59 = .ok (.ifCond .eq 22, 3) := by decide +kernel
theorem dX1_readPoints_62 : decode cX1_readPoints 62 = .ok (.aload_n 0, 1) := by decide +kernel
theorem dX1_readPoints_63 : decode cX1_readPoints 63 = .ok (.iload 6, 2) := by decide +kernel
theorem dX1_readPoints_65 : decode cX1_readPoints 65 = .ok (.iload 4, 2) := by decide +kernel
theorem dX1_readPoints_67 : decode cX1_readPoints 67 = .ok (.invokevirtual 35, 3) := by decide +kernel
theorem dX1_readPoints_70 : decode cX1_readPoints 70 = .ok (.invokestatic 21, 3) := by decide +kernel
theorem dX1_readPoints_73 : decode cX1_readPoints 73 = .ok (.iload 7, 2) := by decide +kernel
theorem dX1_readPoints_75 : decode cX1_readPoints 75 = .ok (.invokestatic 76, 3) := by decide +kernel
theorem dX1_readPoints_78 : decode cX1_readPoints 78 = .ok (.goto 4, 3) := by decide +kernel
theorem dX1_readPoints_81 : decode cX1_readPoints 81 = .ok (.iconst (-1), 1) := by decide +kernel
theorem dX1_readPoints_82 : decode cX1_readPoints 82 = .ok (.istore 8, 2) := by decide +kernel
theorem dX1_readPoints_84 : decode cX1_readPoints 84 = .ok (.iload 8, 2) := by decide +kernel
theorem dX1_readPoints_86 : decode cX1_readPoints 86 = .ok (.iconst 2, 1) := by decide +kernel
theorem dX1_readPoints_87 : decode cX1_readPoints 87 = .ok (.if_icmp .ne 15, 3) := by decide +kernel
theorem dX1_readPoints_90 : decode cX1_readPoints 90 = .ok (.iload 5, 2) := by decide +kernel
theorem dX1_readPoints_92 : decode cX1_readPoints 92 = .ok (.iconst 1, 1) := by decide +kernel
theorem dX1_readPoints_93 : decode cX1_readPoints 93 = .ok (.bipush 16, 2) := by decide +kernel
theorem dX1_readPoints_95 : decode cX1_readPoints 95 = .ok (.iload 6, 2) := by decide +kernel
theorem dX1_readPoints_97 : decode cX1_readPoints 97 = .ok (.isub, 1) := by decide +kernel
theorem dX1_readPoints_98 : decode cX1_readPoints 98 = .ok (.ishl, 1) := by decide +kernel
theorem dX1_readPoints_99 : decode cX1_readPoints 99 = .ok (.ior, 1) := by decide +kernel
theorem dX1_readPoints_100 : decode cX1_readPoints 100 = .ok (.istore 5, 2) := by decide +kernel
theorem dX1_readPoints_102 : decode cX1_readPoints 102 = .ok (.iload 8, 2) := by decide +kernel
theorem dX1_readPoints_104 : decode cX1_readPoints 104 = .ok (.iconst (-1), 1) := by decide +kernel
theorem dX1_readPoints_105 : decode cX1_readPoints 105 = .ok (.if_icmp .eq 29, 3) := by decide +kernel
theorem dX1_readPoints_108 : decode cX1_readPoints 108 = .ok (.iload_n 2, 1) := by decide +kernel
theorem dX1_readPoints_109 : decode cX1_readPoints 109 = .ok (.aload_n 1, 1) := by decide +kernel
theorem dX1_readPoints_110 : decode cX1_readPoints 110 = .ok (.arraylength, 1) := by decide +kernel
theorem dX1_readPoints_111 : decode cX1_readPoints 111 = .ok (.if_icmp .ge 23, 3) := by decide +kernel
theorem dX1_readPoints_114 : decode cX1_readPoints 114 = .ok (.aload_n 1, 1) := by decide +kernel
theorem dX1_readPoints_115 : decode cX1_readPoints 115 = .ok (.iload_n 2, 1) := by decide +kernel
theorem dX1_readPoints_116 : decode cX1_readPoints 116 = .ok (.iload 8, 2) := by decide +kernel
theorem dX1_readPoints_118 : decode cX1_readPoints 118 = .ok (.bipush 16, 2) := by decide +kernel
theorem dX1_readPoints_120 : decode cX1_readPoints 120 = .ok (.imul, 1) := by decide +kernel
theorem dX1_readPoints_121 : decode cX1_readPoints 121 = .ok (.bipush 16, 2) := by decide +kernel
theorem dX1_readPoints_123 : decode cX1_readPoints 123 = .ok (.imul, 1) := by decide +kernel
theorem dX1_readPoints_124 : decode cX1_readPoints 124 = .ok (.iload 4, 2) := by decide +kernel
theorem dX1_readPoints_126 : decode cX1_readPoints 126 = .ok (.bipush 16, 2) := by decide +kernel
theorem dX1_readPoints_128 : decode cX1_readPoints 128 = .ok (.imul, 1) := by decide +kernel
theorem dX1_readPoints_129 : decode cX1_readPoints 129 = .ok (.iadd, 1) := by decide +kernel
theorem dX1_readPoints_130 : decode cX1_readPoints 130 = .ok (.iload 6, 2) := by decide +kernel
theorem dX1_readPoints_132 : decode cX1_readPoints 132 = .ok (.iadd, 1) := by decide +kernel
theorem dX1_readPoints_133 : decode cX1_readPoints 133 = .ok (.iastore, 1) := by decide +kernel
theorem dX1_readPoints_134 : decode cX1_readPoints 134 = .ok (.iload 8, 2) := by decide +kernel
theorem dX1_readPoints_136 : decode cX1_readPoints 136 = .ok (.iconst (-1), 1) := by decide +kernel
theorem dX1_readPoints_137 : decode cX1_readPoints 137 = .ok (.if_icmp .eq 6, 3) := by decide +kernel
theorem dX1_readPoints_140 : decode cX1_readPoints 140 = .ok (.iinc 2 1, 3) := by decide +kernel
theorem dX1_readPoints_143 : decode cX1_readPoints 143 = .ok (.iinc 6 1, 3) := by decide +kernel
theorem dX1_readPoints_146 : decode cX1_readPoints 146 = .ok (.goto (-126), 3) := by decide +kernel
theorem dX1_readPoints_149 : decode cX1_readPoints 149 = .ok (.iload 5, 2) := by decide +kernel
theorem dX1_readPoints_151 : decode cX1_readPoints 151 = .ok (.istore_n 3, 1) := by decide +kernel
theorem dX1_readPoints_152 : decode cX1_readPoints 152 = .ok (.iinc 4 1, 3) := by decide +kernel
theorem dX1_readPoints_155 : decode cX1_readPoints 155 = .ok (.goto (-148), 3) := by decide +kernel
noncomputable def fX1_readPoints_20 (l3 : Int32) (l4 : Int32) (i_ : Nat) (a_ : Int32 × Int32 × zc_N) : Int32 × Int32 × zc_N := ((if (if (rX1_isDark a_.2.2 (nI i_) l4) = (0 : Int32) then (-1 : Int32) else (rX1_kindOf (rJ6_bitCount_0f7a4 (rX1_ringAt a_.2.2 (nI i_) l4)) (if ((rX1_threeAt l3 (nI i_)) ||| (rX1_threeAt a_.2.1 (nI i_))) = (0 : Int32) then (0 : Int32) else (1 : Int32)))) = (-1 : Int32) then a_.1 else (a_.1 + (1 : Int32))), (if (if (rX1_isDark a_.2.2 (nI i_) l4) = (0 : Int32) then (-1 : Int32) else (rX1_kindOf (rJ6_bitCount_0f7a4 (rX1_ringAt a_.2.2 (nI i_) l4)) (if ((rX1_threeAt l3 (nI i_)) ||| (rX1_threeAt a_.2.1 (nI i_))) = (0 : Int32) then (0 : Int32) else (1 : Int32)))) = (2 : Int32) then (a_.2.1 ||| (zshl (1 : Int32) ((16 : Int32) - (nI i_)))) else a_.2.1), (if (if (rX1_isDark a_.2.2 (nI i_) l4) = (0 : Int32) then (-1 : Int32) else (rX1_kindOf (rJ6_bitCount_0f7a4 (rX1_ringAt a_.2.2 (nI i_) l4)) (if ((rX1_threeAt l3 (nI i_)) ||| (rX1_threeAt a_.2.1 (nI i_))) = (0 : Int32) then (0 : Int32) else (1 : Int32)))) = (-1 : Int32) then a_.2.2 else (if (12 : Int32) ≤ a_.1 then a_.2.2 else (zu a_.2.2 8 (zu (a_.2.2 8) a_.1.toNatClampNeg (((((if (rX1_isDark a_.2.2 (nI i_) l4) = (0 : Int32) then (-1 : Int32) else (rX1_kindOf (rJ6_bitCount_0f7a4 (rX1_ringAt a_.2.2 (nI i_) l4)) (if ((rX1_threeAt l3 (nI i_)) ||| (rX1_threeAt a_.2.1 (nI i_))) = (0 : Int32) then (0 : Int32) else (1 : Int32)))) * (16 : Int32)) * (16 : Int32)) + (l4 * (16 : Int32))) + (nI i_)))))))
def qX1_readPoints_20 (l3 : Int32) (l4 : Int32) (i_ : Nat) (a_ : Int32 × Int32 × zc_N) : Prop := ((pX1_isDark l4) ∧ ((((rX1_isDark a_.2.2 (nI i_) l4) = (0 : Int32) → True) ∧ (¬ (rX1_isDark a_.2.2 (nI i_) l4) = (0 : Int32) → (pX1_ringAt l4))) ∧ (((if (rX1_isDark a_.2.2 (nI i_) l4) = (0 : Int32) then (-1 : Int32) else (rX1_kindOf (rJ6_bitCount_0f7a4 (rX1_ringAt a_.2.2 (nI i_) l4)) (if ((rX1_threeAt l3 (nI i_)) ||| (rX1_threeAt a_.2.1 (nI i_))) = (0 : Int32) then (0 : Int32) else (1 : Int32)))) = (-1 : Int32) → True) ∧ (¬ (if (rX1_isDark a_.2.2 (nI i_) l4) = (0 : Int32) then (-1 : Int32) else (rX1_kindOf (rJ6_bitCount_0f7a4 (rX1_ringAt a_.2.2 (nI i_) l4)) (if ((rX1_threeAt l3 (nI i_)) ||| (rX1_threeAt a_.2.1 (nI i_))) = (0 : Int32) then (0 : Int32) else (1 : Int32)))) = (-1 : Int32) → (((12 : Int32) ≤ a_.1 → True) ∧ (¬ (12 : Int32) ≤ a_.1 → vp_in a_.1 12))))))
set_option maxHeartbeats 2000000 in
theorem lpX1_readPoints_20 {G : zc_G} {Q : Option Value → zc_H → Prop} (P : zp) (σ : zc_N) (l2 : Int32) (l3 : Int32) (l4 : Int32) (l5 : Int32) (W1_ : ∀ i20_ : Nat, i20_ < 16 → qX1_readPoints_20 l3 l4 i20_ (zfor (fX1_readPoints_20 l3 l4) i20_ (l2, l5, σ)))
    (W2_ : zz G mX1_readPoints 2 0 0 Q 149 [some (.ref 4), some (.ref 8), some (.int (zfor (fX1_readPoints_20 l3 l4) 16 (l2, l5, σ)).1), none, some (.int l4), some (.int (zfor (fX1_readPoints_20 l3 l4) 16 (l2, l5, σ)).2.1), none, none, none] [] (hh P (zfor (fX1_readPoints_20 l3 l4) 16 (l2, l5, σ)).2.2) 0 0) :
    zz G mX1_readPoints 2 0 0 Q 20 [some (.ref 4), some (.ref 8), some (.int l2), some (.int l3), some (.int l4), some (.int l5), some (.int (nI 0)), none, none] [] (hh P σ) 0 0 := by
  refine zfor_nI (fun i_ a_ => zz G mX1_readPoints 2 0 0 Q 20 [some (.ref 4), some (.ref 8), some (.int a_.1), some (.int l3), some (.int l4), some (.int a_.2.1), some (.int i_), none, none] [] (hh P a_.2.2) 0 0) (fX1_readPoints_20 l3 l4) 16 (l2, l5, σ) (fun i_ hi_ k_ => ?_) ?_
  all_goals try dsimp only
  · have W3_ := W1_ i_ hi_
    generalize zfor (fX1_readPoints_20 l3 l4) i_ (l2, l5, σ) = g_ at k_ W3_ ⊢
    obtain ⟨x0_, x1_, x2_⟩ := g_
    dsimp only at k_ W3_ ⊢
    rw [fX1_readPoints_20] at k_
    rw [qX1_readPoints_20] at W3_
    try dsimp only at W3_
    dsimp only at k_
    refine z_iload dX1_readPoints_20 rfl ?_
    refine z_bipush dX1_readPoints_22 k_bipush_16 ?_
    refine z_icmp_ge (tgt := 149) dX1_readPoints_24 (by decide) (fun c_ => absurd c_ (nI_ge hi_ (by decide))) (fun c_ => ?_)
    refine z_iload_n dX1_readPoints_27 rfl ?_
    refine z_iload dX1_readPoints_28 rfl ?_
    refine z_callS (As := [.int l3, .int (nI i_)]) (rest := []) (ctX1_threeAt P x2_ l3 (nI i_)) dX1_readPoints_30 lk_X1_46 ls_X1_threeAt rfl (Nat.le_of_ble_eq_true rfl) (Nat.le_of_ble_eq_true rfl) (Nat.le_of_ble_eq_true rfl) (Nat.le_of_ble_eq_true rfl) (fun r_ h_ e_ => ?_)
    obtain ⟨e1_, e2_⟩ := e_
    subst e1_
    subst e2_
    show zz G mX1_readPoints 2 0 0 Q 33 [some (.ref 4), some (.ref 8), some (.int x0_), some (.int l3), some (.int l4), some (.int x1_), some (.int (nI i_)), none, none] [.int (rX1_threeAt l3 (nI i_))] (hh P x2_) 0 0
    refine z_iload dX1_readPoints_33 rfl ?_
    refine z_iload dX1_readPoints_35 rfl ?_
    refine z_callS (As := [.int x1_, .int (nI i_)]) (rest := [.int (rX1_threeAt l3 (nI i_))]) (ctX1_threeAt P x2_ x1_ (nI i_)) dX1_readPoints_37 lk_X1_46 ls_X1_threeAt rfl (Nat.le_of_ble_eq_true rfl) (Nat.le_of_ble_eq_true rfl) (Nat.le_of_ble_eq_true rfl) (Nat.le_of_ble_eq_true rfl) (fun r_ h_ e_ => ?_)
    obtain ⟨e1_, e2_⟩ := e_
    subst e1_
    subst e2_
    show zz G mX1_readPoints 2 0 0 Q 40 [some (.ref 4), some (.ref 8), some (.int x0_), some (.int l3), some (.int l4), some (.int x1_), some (.int (nI i_)), none, none] [.int (rX1_threeAt x1_ (nI i_)), .int (rX1_threeAt l3 (nI i_))] (hh P x2_) 0 0
    refine z_ior (v := ((rX1_threeAt l3 (nI i_)) ||| (rX1_threeAt x1_ (nI i_)))) dX1_readPoints_40 rfl ?_
    have K_1 : zz G mX1_readPoints 2 0 0 Q 49 [some (.ref 4), some (.ref 8), some (.int x0_), some (.int l3), some (.int l4), some (.int x1_), some (.int (nI i_)), none, none] [.int (if ((rX1_threeAt l3 (nI i_)) ||| (rX1_threeAt x1_ (nI i_))) = (0 : Int32) then (0 : Int32) else (1 : Int32))] (hh P x2_) 0 0 := by
      refine z_istore (lv' := [some (.ref 4), some (.ref 8), some (.int x0_), some (.int l3), some (.int l4), some (.int x1_), some (.int (nI i_)), some (.int (if ((rX1_threeAt l3 (nI i_)) ||| (rX1_threeAt x1_ (nI i_))) = (0 : Int32) then (0 : Int32) else (1 : Int32))), none]) dX1_readPoints_49 (Nat.le_of_ble_eq_true rfl) rfl ?_
      refine z_aloadr_n dX1_readPoints_51 rfl ?_
      refine z_iload dX1_readPoints_52 rfl ?_
      refine z_iload dX1_readPoints_54 rfl ?_
      refine z_callV (ci := 1) (r := (RX1, TX1, 3)) (b := 4) (As := [.int (nI i_), .int l4]) (rest := []) (ctX1_isDark P x2_ (nI i_) l4 W3_.1) dX1_readPoints_56 lk_X1_31 lv_X1_isDark (Nat.le_of_ble_eq_true rfl) (zN rfl) rfl rfl rfl rfl (Nat.le_of_ble_eq_true rfl) (Nat.le_of_ble_eq_true rfl) (Nat.le_of_ble_eq_true rfl) (Nat.le_of_ble_eq_true rfl) (fun r_ h_ e_ => ?_)
      obtain ⟨e1_, e2_⟩ := e_
      subst e1_
      subst e2_
      show zz G mX1_readPoints 2 0 0 Q 59 [some (.ref 4), some (.ref 8), some (.int x0_), some (.int l3), some (.int l4), some (.int x1_), some (.int (nI i_)), some (.int (if ((rX1_threeAt l3 (nI i_)) ||| (rX1_threeAt x1_ (nI i_))) = (0 : Int32) then (0 : Int32) else (1 : Int32))), none] [.int (rX1_isDark x2_ (nI i_) l4)] (hh P x2_) 0 0
      have K_2 : zz G mX1_readPoints 2 0 0 Q 82 [some (.ref 4), some (.ref 8), some (.int x0_), some (.int l3), some (.int l4), some (.int x1_), some (.int (nI i_)), none, none] [.int (if (rX1_isDark x2_ (nI i_) l4) = (0 : Int32) then (-1 : Int32) else (rX1_kindOf (rJ6_bitCount_0f7a4 (rX1_ringAt x2_ (nI i_) l4)) (if ((rX1_threeAt l3 (nI i_)) ||| (rX1_threeAt x1_ (nI i_))) = (0 : Int32) then (0 : Int32) else (1 : Int32))))] (hh P x2_) 0 0 := by
        refine z_istore (lv' := [some (.ref 4), some (.ref 8), some (.int x0_), some (.int l3), some (.int l4), some (.int x1_), some (.int (nI i_)), none, some (.int (if (rX1_isDark x2_ (nI i_) l4) = (0 : Int32) then (-1 : Int32) else (rX1_kindOf (rJ6_bitCount_0f7a4 (rX1_ringAt x2_ (nI i_) l4)) (if ((rX1_threeAt l3 (nI i_)) ||| (rX1_threeAt x1_ (nI i_))) = (0 : Int32) then (0 : Int32) else (1 : Int32)))))]) dX1_readPoints_82 (Nat.le_of_ble_eq_true rfl) rfl ?_
        refine z_iload dX1_readPoints_84 rfl ?_
        refine z_iconst dX1_readPoints_86 k_iconst_2 ?_
        have K_3 : zz G mX1_readPoints 2 0 0 Q 102 [some (.ref 4), some (.ref 8), some (.int x0_), some (.int l3), some (.int l4), some (.int (if (if (rX1_isDark x2_ (nI i_) l4) = (0 : Int32) then (-1 : Int32) else (rX1_kindOf (rJ6_bitCount_0f7a4 (rX1_ringAt x2_ (nI i_) l4)) (if ((rX1_threeAt l3 (nI i_)) ||| (rX1_threeAt x1_ (nI i_))) = (0 : Int32) then (0 : Int32) else (1 : Int32)))) = (2 : Int32) then (x1_ ||| (zshl (1 : Int32) ((16 : Int32) - (nI i_)))) else x1_)), some (.int (nI i_)), none, some (.int (if (rX1_isDark x2_ (nI i_) l4) = (0 : Int32) then (-1 : Int32) else (rX1_kindOf (rJ6_bitCount_0f7a4 (rX1_ringAt x2_ (nI i_) l4)) (if ((rX1_threeAt l3 (nI i_)) ||| (rX1_threeAt x1_ (nI i_))) = (0 : Int32) then (0 : Int32) else (1 : Int32)))))] [] (hh P x2_) 0 0 := by
          refine z_iload dX1_readPoints_102 rfl ?_
          refine z_iconst dX1_readPoints_104 k_iconst_m1 ?_
          refine z_icmp_eq (tgt := 134) dX1_readPoints_105 (by decide) (fun c_5 => ?_) (fun c_5 => ?_)
          · refine z_iload dX1_readPoints_134 rfl ?_
            refine z_iconst dX1_readPoints_136 k_iconst_m1 ?_
            have K_4 : zz G mX1_readPoints 2 0 0 Q 143 [some (.ref 4), some (.ref 8), some (.int (if (if (rX1_isDark x2_ (nI i_) l4) = (0 : Int32) then (-1 : Int32) else (rX1_kindOf (rJ6_bitCount_0f7a4 (rX1_ringAt x2_ (nI i_) l4)) (if ((rX1_threeAt l3 (nI i_)) ||| (rX1_threeAt x1_ (nI i_))) = (0 : Int32) then (0 : Int32) else (1 : Int32)))) = (-1 : Int32) then x0_ else (x0_ + (1 : Int32)))), some (.int l3), some (.int l4), some (.int (if (if (rX1_isDark x2_ (nI i_) l4) = (0 : Int32) then (-1 : Int32) else (rX1_kindOf (rJ6_bitCount_0f7a4 (rX1_ringAt x2_ (nI i_) l4)) (if ((rX1_threeAt l3 (nI i_)) ||| (rX1_threeAt x1_ (nI i_))) = (0 : Int32) then (0 : Int32) else (1 : Int32)))) = (2 : Int32) then (x1_ ||| (zshl (1 : Int32) ((16 : Int32) - (nI i_)))) else x1_)), some (.int (nI i_)), none, none] [] (hh P x2_) 0 0 := by
              refine z_iinc (v := ((nI i_) + (1 : Int32))) (lv' := [some (.ref 4), some (.ref 8), some (.int (if (if (rX1_isDark x2_ (nI i_) l4) = (0 : Int32) then (-1 : Int32) else (rX1_kindOf (rJ6_bitCount_0f7a4 (rX1_ringAt x2_ (nI i_) l4)) (if ((rX1_threeAt l3 (nI i_)) ||| (rX1_threeAt x1_ (nI i_))) = (0 : Int32) then (0 : Int32) else (1 : Int32)))) = (-1 : Int32) then x0_ else (x0_ + (1 : Int32)))), some (.int l3), some (.int l4), some (.int (if (if (rX1_isDark x2_ (nI i_) l4) = (0 : Int32) then (-1 : Int32) else (rX1_kindOf (rJ6_bitCount_0f7a4 (rX1_ringAt x2_ (nI i_) l4)) (if ((rX1_threeAt l3 (nI i_)) ||| (rX1_threeAt x1_ (nI i_))) = (0 : Int32) then (0 : Int32) else (1 : Int32)))) = (2 : Int32) then (x1_ ||| (zshl (1 : Int32) ((16 : Int32) - (nI i_)))) else x1_)), some (.int ((nI i_) + (1 : Int32))), none, none]) dX1_readPoints_143 (Nat.le_of_ble_eq_true rfl) rfl (by rw [k_iconst_1]) rfl ?_
              refine z_goto (tgt := 20) dX1_readPoints_146 (by decide) ?_
              rw [nI_1]
              simpa only [if_pos c_5] using k_
            refine z_icmp_eq (tgt := 143) dX1_readPoints_137 (by decide) (fun c_6 => ?_) (fun c_6 => ?_)
            · refine zz_sub (lv' := [some (.ref 4), some (.ref 8), some (.int x0_), some (.int l3), some (.int l4), some (.int (if (if (rX1_isDark x2_ (nI i_) l4) = (0 : Int32) then (-1 : Int32) else (rX1_kindOf (rJ6_bitCount_0f7a4 (rX1_ringAt x2_ (nI i_) l4)) (if ((rX1_threeAt l3 (nI i_)) ||| (rX1_threeAt x1_ (nI i_))) = (0 : Int32) then (0 : Int32) else (1 : Int32)))) = (2 : Int32) then (x1_ ||| (zshl (1 : Int32) ((16 : Int32) - (nI i_)))) else x1_)), some (.int (nI i_)), none, none]) ⟨rfl, ⟨rfl, ⟨rfl, ⟨rfl, ⟨rfl, ⟨rfl, ⟨rfl, trivial⟩⟩⟩⟩⟩⟩⟩ ?_
              first | exact K_4 | simpa only [if_pos c_6] using K_4
            · refine z_iinc (v := (x0_ + (1 : Int32))) (lv' := [some (.ref 4), some (.ref 8), some (.int (x0_ + (1 : Int32))), some (.int l3), some (.int l4), some (.int (if (if (rX1_isDark x2_ (nI i_) l4) = (0 : Int32) then (-1 : Int32) else (rX1_kindOf (rJ6_bitCount_0f7a4 (rX1_ringAt x2_ (nI i_) l4)) (if ((rX1_threeAt l3 (nI i_)) ||| (rX1_threeAt x1_ (nI i_))) = (0 : Int32) then (0 : Int32) else (1 : Int32)))) = (2 : Int32) then (x1_ ||| (zshl (1 : Int32) ((16 : Int32) - (nI i_)))) else x1_)), some (.int (nI i_)), none, some (.int (if (rX1_isDark x2_ (nI i_) l4) = (0 : Int32) then (-1 : Int32) else (rX1_kindOf (rJ6_bitCount_0f7a4 (rX1_ringAt x2_ (nI i_) l4)) (if ((rX1_threeAt l3 (nI i_)) ||| (rX1_threeAt x1_ (nI i_))) = (0 : Int32) then (0 : Int32) else (1 : Int32)))))]) dX1_readPoints_140 (Nat.le_of_ble_eq_true rfl) rfl (by rw [k_iconst_1]) rfl ?_
              refine zz_sub (lv' := [some (.ref 4), some (.ref 8), some (.int (x0_ + (1 : Int32))), some (.int l3), some (.int l4), some (.int (if (if (rX1_isDark x2_ (nI i_) l4) = (0 : Int32) then (-1 : Int32) else (rX1_kindOf (rJ6_bitCount_0f7a4 (rX1_ringAt x2_ (nI i_) l4)) (if ((rX1_threeAt l3 (nI i_)) ||| (rX1_threeAt x1_ (nI i_))) = (0 : Int32) then (0 : Int32) else (1 : Int32)))) = (2 : Int32) then (x1_ ||| (zshl (1 : Int32) ((16 : Int32) - (nI i_)))) else x1_)), some (.int (nI i_)), none, none]) ⟨rfl, ⟨rfl, ⟨rfl, ⟨rfl, ⟨rfl, ⟨rfl, ⟨rfl, trivial⟩⟩⟩⟩⟩⟩⟩ ?_
              first | exact K_4 | simpa only [if_neg c_6] using K_4
          · refine z_iload_n dX1_readPoints_108 rfl ?_
            refine z_aloadr_n dX1_readPoints_109 rfl ?_
            refine z_alen0 (v := (12 : Int32)) dX1_readPoints_110 (zN rfl) rfl rfl ?_
            refine z_icmp_ge (tgt := 134) dX1_readPoints_111 (by decide) (fun c_7 => ?_) (fun c_7 => ?_)
            · refine z_iload dX1_readPoints_134 rfl ?_
              refine z_iconst dX1_readPoints_136 k_iconst_m1 ?_
              have K_5 : zz G mX1_readPoints 2 0 0 Q 143 [some (.ref 4), some (.ref 8), some (.int (if (if (rX1_isDark x2_ (nI i_) l4) = (0 : Int32) then (-1 : Int32) else (rX1_kindOf (rJ6_bitCount_0f7a4 (rX1_ringAt x2_ (nI i_) l4)) (if ((rX1_threeAt l3 (nI i_)) ||| (rX1_threeAt x1_ (nI i_))) = (0 : Int32) then (0 : Int32) else (1 : Int32)))) = (-1 : Int32) then x0_ else (x0_ + (1 : Int32)))), some (.int l3), some (.int l4), some (.int (if (if (rX1_isDark x2_ (nI i_) l4) = (0 : Int32) then (-1 : Int32) else (rX1_kindOf (rJ6_bitCount_0f7a4 (rX1_ringAt x2_ (nI i_) l4)) (if ((rX1_threeAt l3 (nI i_)) ||| (rX1_threeAt x1_ (nI i_))) = (0 : Int32) then (0 : Int32) else (1 : Int32)))) = (2 : Int32) then (x1_ ||| (zshl (1 : Int32) ((16 : Int32) - (nI i_)))) else x1_)), some (.int (nI i_)), none, none] [] (hh P x2_) 0 0 := by
                refine z_iinc (v := ((nI i_) + (1 : Int32))) (lv' := [some (.ref 4), some (.ref 8), some (.int (if (if (rX1_isDark x2_ (nI i_) l4) = (0 : Int32) then (-1 : Int32) else (rX1_kindOf (rJ6_bitCount_0f7a4 (rX1_ringAt x2_ (nI i_) l4)) (if ((rX1_threeAt l3 (nI i_)) ||| (rX1_threeAt x1_ (nI i_))) = (0 : Int32) then (0 : Int32) else (1 : Int32)))) = (-1 : Int32) then x0_ else (x0_ + (1 : Int32)))), some (.int l3), some (.int l4), some (.int (if (if (rX1_isDark x2_ (nI i_) l4) = (0 : Int32) then (-1 : Int32) else (rX1_kindOf (rJ6_bitCount_0f7a4 (rX1_ringAt x2_ (nI i_) l4)) (if ((rX1_threeAt l3 (nI i_)) ||| (rX1_threeAt x1_ (nI i_))) = (0 : Int32) then (0 : Int32) else (1 : Int32)))) = (2 : Int32) then (x1_ ||| (zshl (1 : Int32) ((16 : Int32) - (nI i_)))) else x1_)), some (.int ((nI i_) + (1 : Int32))), none, none]) dX1_readPoints_143 (Nat.le_of_ble_eq_true rfl) rfl (by rw [k_iconst_1]) rfl ?_
                refine z_goto (tgt := 20) dX1_readPoints_146 (by decide) ?_
                rw [nI_1]
                simpa only [if_neg c_5, if_pos c_7] using k_
              refine z_icmp_eq (tgt := 143) dX1_readPoints_137 (by decide) (fun c_8 => ?_) (fun c_8 => ?_)
              · refine zz_sub (lv' := [some (.ref 4), some (.ref 8), some (.int x0_), some (.int l3), some (.int l4), some (.int (if (if (rX1_isDark x2_ (nI i_) l4) = (0 : Int32) then (-1 : Int32) else (rX1_kindOf (rJ6_bitCount_0f7a4 (rX1_ringAt x2_ (nI i_) l4)) (if ((rX1_threeAt l3 (nI i_)) ||| (rX1_threeAt x1_ (nI i_))) = (0 : Int32) then (0 : Int32) else (1 : Int32)))) = (2 : Int32) then (x1_ ||| (zshl (1 : Int32) ((16 : Int32) - (nI i_)))) else x1_)), some (.int (nI i_)), none, none]) ⟨rfl, ⟨rfl, ⟨rfl, ⟨rfl, ⟨rfl, ⟨rfl, ⟨rfl, trivial⟩⟩⟩⟩⟩⟩⟩ ?_
                first | exact K_5 | simpa only [if_pos c_8] using K_5
              · refine z_iinc (v := (x0_ + (1 : Int32))) (lv' := [some (.ref 4), some (.ref 8), some (.int (x0_ + (1 : Int32))), some (.int l3), some (.int l4), some (.int (if (if (rX1_isDark x2_ (nI i_) l4) = (0 : Int32) then (-1 : Int32) else (rX1_kindOf (rJ6_bitCount_0f7a4 (rX1_ringAt x2_ (nI i_) l4)) (if ((rX1_threeAt l3 (nI i_)) ||| (rX1_threeAt x1_ (nI i_))) = (0 : Int32) then (0 : Int32) else (1 : Int32)))) = (2 : Int32) then (x1_ ||| (zshl (1 : Int32) ((16 : Int32) - (nI i_)))) else x1_)), some (.int (nI i_)), none, some (.int (if (rX1_isDark x2_ (nI i_) l4) = (0 : Int32) then (-1 : Int32) else (rX1_kindOf (rJ6_bitCount_0f7a4 (rX1_ringAt x2_ (nI i_) l4)) (if ((rX1_threeAt l3 (nI i_)) ||| (rX1_threeAt x1_ (nI i_))) = (0 : Int32) then (0 : Int32) else (1 : Int32)))))]) dX1_readPoints_140 (Nat.le_of_ble_eq_true rfl) rfl (by rw [k_iconst_1]) rfl ?_
                refine zz_sub (lv' := [some (.ref 4), some (.ref 8), some (.int (x0_ + (1 : Int32))), some (.int l3), some (.int l4), some (.int (if (if (rX1_isDark x2_ (nI i_) l4) = (0 : Int32) then (-1 : Int32) else (rX1_kindOf (rJ6_bitCount_0f7a4 (rX1_ringAt x2_ (nI i_) l4)) (if ((rX1_threeAt l3 (nI i_)) ||| (rX1_threeAt x1_ (nI i_))) = (0 : Int32) then (0 : Int32) else (1 : Int32)))) = (2 : Int32) then (x1_ ||| (zshl (1 : Int32) ((16 : Int32) - (nI i_)))) else x1_)), some (.int (nI i_)), none, none]) ⟨rfl, ⟨rfl, ⟨rfl, ⟨rfl, ⟨rfl, ⟨rfl, ⟨rfl, trivial⟩⟩⟩⟩⟩⟩⟩ ?_
                first | exact K_5 | simpa only [if_neg c_8] using K_5
            · refine z_aloadr_n dX1_readPoints_114 rfl ?_
              refine z_iload_n dX1_readPoints_115 rfl ?_
              refine z_iload dX1_readPoints_116 rfl ?_
              refine z_bipush dX1_readPoints_118 k_bipush_16 ?_
              refine z_imul (v := ((if (rX1_isDark x2_ (nI i_) l4) = (0 : Int32) then (-1 : Int32) else (rX1_kindOf (rJ6_bitCount_0f7a4 (rX1_ringAt x2_ (nI i_) l4)) (if ((rX1_threeAt l3 (nI i_)) ||| (rX1_threeAt x1_ (nI i_))) = (0 : Int32) then (0 : Int32) else (1 : Int32)))) * (16 : Int32))) dX1_readPoints_120 rfl ?_
              refine z_bipush dX1_readPoints_121 k_bipush_16 ?_
              refine z_imul (v := (((if (rX1_isDark x2_ (nI i_) l4) = (0 : Int32) then (-1 : Int32) else (rX1_kindOf (rJ6_bitCount_0f7a4 (rX1_ringAt x2_ (nI i_) l4)) (if ((rX1_threeAt l3 (nI i_)) ||| (rX1_threeAt x1_ (nI i_))) = (0 : Int32) then (0 : Int32) else (1 : Int32)))) * (16 : Int32)) * (16 : Int32))) dX1_readPoints_123 rfl ?_
              refine z_iload dX1_readPoints_124 rfl ?_
              refine z_bipush dX1_readPoints_126 k_bipush_16 ?_
              refine z_imul (v := (l4 * (16 : Int32))) dX1_readPoints_128 rfl ?_
              refine z_iadd (v := ((((if (rX1_isDark x2_ (nI i_) l4) = (0 : Int32) then (-1 : Int32) else (rX1_kindOf (rJ6_bitCount_0f7a4 (rX1_ringAt x2_ (nI i_) l4)) (if ((rX1_threeAt l3 (nI i_)) ||| (rX1_threeAt x1_ (nI i_))) = (0 : Int32) then (0 : Int32) else (1 : Int32)))) * (16 : Int32)) * (16 : Int32)) + (l4 * (16 : Int32)))) dX1_readPoints_129 rfl ?_
              refine z_iload dX1_readPoints_130 rfl ?_
              refine z_iadd (v := (((((if (rX1_isDark x2_ (nI i_) l4) = (0 : Int32) then (-1 : Int32) else (rX1_kindOf (rJ6_bitCount_0f7a4 (rX1_ringAt x2_ (nI i_) l4)) (if ((rX1_threeAt l3 (nI i_)) ||| (rX1_threeAt x1_ (nI i_))) = (0 : Int32) then (0 : Int32) else (1 : Int32)))) * (16 : Int32)) * (16 : Int32)) + (l4 * (16 : Int32))) + (nI i_))) dX1_readPoints_132 rfl ?_
              refine z_iast (σ' := (zu x2_ 8 (zu (x2_ 8) x0_.toNatClampNeg (((((if (rX1_isDark x2_ (nI i_) l4) = (0 : Int32) then (-1 : Int32) else (rX1_kindOf (rJ6_bitCount_0f7a4 (rX1_ringAt x2_ (nI i_) l4)) (if ((rX1_threeAt l3 (nI i_)) ||| (rX1_threeAt x1_ (nI i_))) = (0 : Int32) then (0 : Int32) else (1 : Int32)))) * (16 : Int32)) * (16 : Int32)) + (l4 * (16 : Int32))) + (nI i_))))) dX1_readPoints_133 (Nat.le_of_ble_eq_true rfl) (zN rfl) rfl ((W3_.2.2.2 c_5).2 c_7) rfl ?_
              refine z_iload dX1_readPoints_134 rfl ?_
              refine z_iconst dX1_readPoints_136 k_iconst_m1 ?_
              have K_6 : zz G mX1_readPoints 2 0 0 Q 143 [some (.ref 4), some (.ref 8), some (.int (if (if (rX1_isDark x2_ (nI i_) l4) = (0 : Int32) then (-1 : Int32) else (rX1_kindOf (rJ6_bitCount_0f7a4 (rX1_ringAt x2_ (nI i_) l4)) (if ((rX1_threeAt l3 (nI i_)) ||| (rX1_threeAt x1_ (nI i_))) = (0 : Int32) then (0 : Int32) else (1 : Int32)))) = (-1 : Int32) then x0_ else (x0_ + (1 : Int32)))), some (.int l3), some (.int l4), some (.int (if (if (rX1_isDark x2_ (nI i_) l4) = (0 : Int32) then (-1 : Int32) else (rX1_kindOf (rJ6_bitCount_0f7a4 (rX1_ringAt x2_ (nI i_) l4)) (if ((rX1_threeAt l3 (nI i_)) ||| (rX1_threeAt x1_ (nI i_))) = (0 : Int32) then (0 : Int32) else (1 : Int32)))) = (2 : Int32) then (x1_ ||| (zshl (1 : Int32) ((16 : Int32) - (nI i_)))) else x1_)), some (.int (nI i_)), none, none] [] (hh P (zu x2_ 8 (zu (x2_ 8) x0_.toNatClampNeg (((((if (rX1_isDark x2_ (nI i_) l4) = (0 : Int32) then (-1 : Int32) else (rX1_kindOf (rJ6_bitCount_0f7a4 (rX1_ringAt x2_ (nI i_) l4)) (if ((rX1_threeAt l3 (nI i_)) ||| (rX1_threeAt x1_ (nI i_))) = (0 : Int32) then (0 : Int32) else (1 : Int32)))) * (16 : Int32)) * (16 : Int32)) + (l4 * (16 : Int32))) + (nI i_))))) 0 0 := by
                refine z_iinc (v := ((nI i_) + (1 : Int32))) (lv' := [some (.ref 4), some (.ref 8), some (.int (if (if (rX1_isDark x2_ (nI i_) l4) = (0 : Int32) then (-1 : Int32) else (rX1_kindOf (rJ6_bitCount_0f7a4 (rX1_ringAt x2_ (nI i_) l4)) (if ((rX1_threeAt l3 (nI i_)) ||| (rX1_threeAt x1_ (nI i_))) = (0 : Int32) then (0 : Int32) else (1 : Int32)))) = (-1 : Int32) then x0_ else (x0_ + (1 : Int32)))), some (.int l3), some (.int l4), some (.int (if (if (rX1_isDark x2_ (nI i_) l4) = (0 : Int32) then (-1 : Int32) else (rX1_kindOf (rJ6_bitCount_0f7a4 (rX1_ringAt x2_ (nI i_) l4)) (if ((rX1_threeAt l3 (nI i_)) ||| (rX1_threeAt x1_ (nI i_))) = (0 : Int32) then (0 : Int32) else (1 : Int32)))) = (2 : Int32) then (x1_ ||| (zshl (1 : Int32) ((16 : Int32) - (nI i_)))) else x1_)), some (.int ((nI i_) + (1 : Int32))), none, none]) dX1_readPoints_143 (Nat.le_of_ble_eq_true rfl) rfl (by rw [k_iconst_1]) rfl ?_
                refine z_goto (tgt := 20) dX1_readPoints_146 (by decide) ?_
                rw [nI_1]
                simpa only [if_neg c_5, if_neg c_7] using k_
              refine z_icmp_eq (tgt := 143) dX1_readPoints_137 (by decide) (fun c_9 => ?_) (fun c_9 => ?_)
              · refine zz_sub (lv' := [some (.ref 4), some (.ref 8), some (.int x0_), some (.int l3), some (.int l4), some (.int (if (if (rX1_isDark x2_ (nI i_) l4) = (0 : Int32) then (-1 : Int32) else (rX1_kindOf (rJ6_bitCount_0f7a4 (rX1_ringAt x2_ (nI i_) l4)) (if ((rX1_threeAt l3 (nI i_)) ||| (rX1_threeAt x1_ (nI i_))) = (0 : Int32) then (0 : Int32) else (1 : Int32)))) = (2 : Int32) then (x1_ ||| (zshl (1 : Int32) ((16 : Int32) - (nI i_)))) else x1_)), some (.int (nI i_)), none, none]) ⟨rfl, ⟨rfl, ⟨rfl, ⟨rfl, ⟨rfl, ⟨rfl, ⟨rfl, trivial⟩⟩⟩⟩⟩⟩⟩ ?_
                first | exact K_6 | simpa only [if_pos c_9] using K_6
              · refine z_iinc (v := (x0_ + (1 : Int32))) (lv' := [some (.ref 4), some (.ref 8), some (.int (x0_ + (1 : Int32))), some (.int l3), some (.int l4), some (.int (if (if (rX1_isDark x2_ (nI i_) l4) = (0 : Int32) then (-1 : Int32) else (rX1_kindOf (rJ6_bitCount_0f7a4 (rX1_ringAt x2_ (nI i_) l4)) (if ((rX1_threeAt l3 (nI i_)) ||| (rX1_threeAt x1_ (nI i_))) = (0 : Int32) then (0 : Int32) else (1 : Int32)))) = (2 : Int32) then (x1_ ||| (zshl (1 : Int32) ((16 : Int32) - (nI i_)))) else x1_)), some (.int (nI i_)), none, some (.int (if (rX1_isDark x2_ (nI i_) l4) = (0 : Int32) then (-1 : Int32) else (rX1_kindOf (rJ6_bitCount_0f7a4 (rX1_ringAt x2_ (nI i_) l4)) (if ((rX1_threeAt l3 (nI i_)) ||| (rX1_threeAt x1_ (nI i_))) = (0 : Int32) then (0 : Int32) else (1 : Int32)))))]) dX1_readPoints_140 (Nat.le_of_ble_eq_true rfl) rfl (by rw [k_iconst_1]) rfl ?_
                refine zz_sub (lv' := [some (.ref 4), some (.ref 8), some (.int (x0_ + (1 : Int32))), some (.int l3), some (.int l4), some (.int (if (if (rX1_isDark x2_ (nI i_) l4) = (0 : Int32) then (-1 : Int32) else (rX1_kindOf (rJ6_bitCount_0f7a4 (rX1_ringAt x2_ (nI i_) l4)) (if ((rX1_threeAt l3 (nI i_)) ||| (rX1_threeAt x1_ (nI i_))) = (0 : Int32) then (0 : Int32) else (1 : Int32)))) = (2 : Int32) then (x1_ ||| (zshl (1 : Int32) ((16 : Int32) - (nI i_)))) else x1_)), some (.int (nI i_)), none, none]) ⟨rfl, ⟨rfl, ⟨rfl, ⟨rfl, ⟨rfl, ⟨rfl, ⟨rfl, trivial⟩⟩⟩⟩⟩⟩⟩ ?_
                first | exact K_6 | simpa only [if_neg c_9] using K_6
        refine z_icmp_ne (tgt := 102) dX1_readPoints_87 (by decide) (fun c_4 => ?_) (fun c_4 => ?_)
        · first | exact K_3 | simpa only [if_neg c_4] using K_3
        · refine z_iload dX1_readPoints_90 rfl ?_
          refine z_iconst dX1_readPoints_92 k_iconst_1 ?_
          refine z_bipush dX1_readPoints_93 k_bipush_16 ?_
          refine z_iload dX1_readPoints_95 rfl ?_
          refine z_isub (v := ((16 : Int32) - (nI i_))) dX1_readPoints_97 rfl ?_
          refine z_ishl (v := (zshl (1 : Int32) ((16 : Int32) - (nI i_)))) dX1_readPoints_98 rfl ?_
          refine z_ior (v := (x1_ ||| (zshl (1 : Int32) ((16 : Int32) - (nI i_))))) dX1_readPoints_99 rfl ?_
          refine z_istore (lv' := [some (.ref 4), some (.ref 8), some (.int x0_), some (.int l3), some (.int l4), some (.int (x1_ ||| (zshl (1 : Int32) ((16 : Int32) - (nI i_))))), some (.int (nI i_)), none, some (.int (if (rX1_isDark x2_ (nI i_) l4) = (0 : Int32) then (-1 : Int32) else (rX1_kindOf (rJ6_bitCount_0f7a4 (rX1_ringAt x2_ (nI i_) l4)) (if ((rX1_threeAt l3 (nI i_)) ||| (rX1_threeAt x1_ (nI i_))) = (0 : Int32) then (0 : Int32) else (1 : Int32)))))]) dX1_readPoints_100 (Nat.le_of_ble_eq_true rfl) rfl ?_
          first | exact K_3 | simpa only [if_pos c_4] using K_3
      refine z_if_eq (tgt := 81) dX1_readPoints_59 (by decide) (fun c_3 => ?_) (fun c_3 => ?_)
      · refine z_iconst dX1_readPoints_81 k_iconst_m1 ?_
        refine zz_sub (lv' := [some (.ref 4), some (.ref 8), some (.int x0_), some (.int l3), some (.int l4), some (.int x1_), some (.int (nI i_)), none, none]) ⟨rfl, ⟨rfl, ⟨rfl, ⟨rfl, ⟨rfl, ⟨rfl, ⟨rfl, trivial⟩⟩⟩⟩⟩⟩⟩ ?_
        first | exact K_2 | simpa only [if_pos c_3] using K_2
      · refine z_aloadr_n dX1_readPoints_62 rfl ?_
        refine z_iload dX1_readPoints_63 rfl ?_
        refine z_iload dX1_readPoints_65 rfl ?_
        refine z_callV (ci := 1) (r := (RX1, TX1, 3)) (b := 4) (As := [.int (nI i_), .int l4]) (rest := []) (ctX1_ringAt P x2_ (nI i_) l4 (W3_.2.1.2 c_3)) dX1_readPoints_67 lk_X1_35 lv_X1_ringAt (Nat.le_of_ble_eq_true rfl) (zN rfl) rfl rfl rfl rfl (Nat.le_of_ble_eq_true rfl) (Nat.le_of_ble_eq_true rfl) (Nat.le_of_ble_eq_true rfl) (Nat.le_of_ble_eq_true rfl) (fun r_ h_ e_ => ?_)
        obtain ⟨e1_, e2_⟩ := e_
        subst e1_
        subst e2_
        show zz G mX1_readPoints 2 0 0 Q 70 [some (.ref 4), some (.ref 8), some (.int x0_), some (.int l3), some (.int l4), some (.int x1_), some (.int (nI i_)), some (.int (if ((rX1_threeAt l3 (nI i_)) ||| (rX1_threeAt x1_ (nI i_))) = (0 : Int32) then (0 : Int32) else (1 : Int32))), none] [.int (rX1_ringAt x2_ (nI i_) l4)] (hh P x2_) 0 0
        refine z_callS (As := [.int (rX1_ringAt x2_ (nI i_) l4)]) (rest := []) (ctJ6_bitCount_0f7a4 P x2_ (rX1_ringAt x2_ (nI i_) l4)) dX1_readPoints_70 lk_X1_21 ls_J6_bitCount_0f7a4 rfl (Nat.le_of_ble_eq_true rfl) (Nat.le_of_ble_eq_true rfl) (Nat.le_of_ble_eq_true rfl) (Nat.le_of_ble_eq_true rfl) (fun r_ h_ e_ => ?_)
        obtain ⟨e1_, e2_⟩ := e_
        subst e1_
        subst e2_
        show zz G mX1_readPoints 2 0 0 Q 73 [some (.ref 4), some (.ref 8), some (.int x0_), some (.int l3), some (.int l4), some (.int x1_), some (.int (nI i_)), some (.int (if ((rX1_threeAt l3 (nI i_)) ||| (rX1_threeAt x1_ (nI i_))) = (0 : Int32) then (0 : Int32) else (1 : Int32))), none] [.int (rJ6_bitCount_0f7a4 (rX1_ringAt x2_ (nI i_) l4))] (hh P x2_) 0 0
        refine z_iload dX1_readPoints_73 rfl ?_
        refine z_callS (As := [.int (rJ6_bitCount_0f7a4 (rX1_ringAt x2_ (nI i_) l4)), .int (if ((rX1_threeAt l3 (nI i_)) ||| (rX1_threeAt x1_ (nI i_))) = (0 : Int32) then (0 : Int32) else (1 : Int32))]) (rest := []) (ctX1_kindOf P x2_ (rJ6_bitCount_0f7a4 (rX1_ringAt x2_ (nI i_) l4)) (if ((rX1_threeAt l3 (nI i_)) ||| (rX1_threeAt x1_ (nI i_))) = (0 : Int32) then (0 : Int32) else (1 : Int32))) dX1_readPoints_75 lk_X1_76 ls_X1_kindOf rfl (Nat.le_of_ble_eq_true rfl) (Nat.le_of_ble_eq_true rfl) (Nat.le_of_ble_eq_true rfl) (Nat.le_of_ble_eq_true rfl) (fun r_ h_ e_ => ?_)
        obtain ⟨e1_, e2_⟩ := e_
        subst e1_
        subst e2_
        show zz G mX1_readPoints 2 0 0 Q 78 [some (.ref 4), some (.ref 8), some (.int x0_), some (.int l3), some (.int l4), some (.int x1_), some (.int (nI i_)), some (.int (if ((rX1_threeAt l3 (nI i_)) ||| (rX1_threeAt x1_ (nI i_))) = (0 : Int32) then (0 : Int32) else (1 : Int32))), none] [.int (rX1_kindOf (rJ6_bitCount_0f7a4 (rX1_ringAt x2_ (nI i_) l4)) (if ((rX1_threeAt l3 (nI i_)) ||| (rX1_threeAt x1_ (nI i_))) = (0 : Int32) then (0 : Int32) else (1 : Int32)))] (hh P x2_) 0 0
        refine z_goto (tgt := 82) dX1_readPoints_78 (by decide) ?_
        refine zz_sub (lv' := [some (.ref 4), some (.ref 8), some (.int x0_), some (.int l3), some (.int l4), some (.int x1_), some (.int (nI i_)), none, none]) ⟨rfl, ⟨rfl, ⟨rfl, ⟨rfl, ⟨rfl, ⟨rfl, ⟨rfl, trivial⟩⟩⟩⟩⟩⟩⟩ ?_
        first | exact K_2 | simpa only [if_neg c_3] using K_2
    refine z_if_eq (tgt := 48) dX1_readPoints_41 (by decide) (fun c_2 => ?_) (fun c_2 => ?_)
    · refine z_iconst dX1_readPoints_48 k_iconst_0 ?_
      first | exact K_1 | simpa only [if_pos c_2] using K_1
    · refine z_iconst dX1_readPoints_44 k_iconst_1 ?_
      refine z_goto (tgt := 49) dX1_readPoints_45 (by decide) ?_
      first | exact K_1 | simpa only [if_neg c_2] using K_1
  · generalize zfor (fX1_readPoints_20 l3 l4) 16 (l2, l5, σ) = g_ at W2_ ⊢
    obtain ⟨x0_, x1_, x2_⟩ := g_
    dsimp only at W2_ ⊢
    refine z_iload dX1_readPoints_20 rfl ?_
    refine z_bipush dX1_readPoints_22 k_bipush_16 ?_
    refine z_icmp_ge (tgt := 149) dX1_readPoints_24 (by decide) (fun c_ => ?_) (fun c_ => absurd (by decide) c_)
    exact zz_sub (lv' := [some (.ref 4), some (.ref 8), some (.int x0_), none, some (.int l4), some (.int x1_), none, none, none]) ⟨rfl, ⟨rfl, ⟨rfl, ⟨rfl, ⟨rfl, trivial⟩⟩⟩⟩⟩ W2_

theorem dX1_readPoints_7 : decode cX1_readPoints 7 = .ok (.iload 4, 2) := by decide +kernel
theorem dX1_readPoints_9 : decode cX1_readPoints 9 = .ok (.bipush 16, 2) := by decide +kernel
theorem dX1_readPoints_11 : decode cX1_readPoints 11 = .ok (.if_icmp .ge 147, 3) := by decide +kernel
theorem dX1_readPoints_14 : decode cX1_readPoints 14 = .ok (.iconst 0, 1) := by decide +kernel
theorem dX1_readPoints_15 : decode cX1_readPoints 15 = .ok (.istore 5, 2) := by decide +kernel
theorem dX1_readPoints_17 : decode cX1_readPoints 17 = .ok (.iconst 0, 1) := by decide +kernel
theorem dX1_readPoints_18 : decode cX1_readPoints 18 = .ok (.istore 6, 2) := by decide +kernel
theorem dX1_readPoints_158 : decode cX1_readPoints 158 = .ok (.iload_n 2, 1) := by decide +kernel
noncomputable def fX1_readPoints_7 (i_ : Nat) (a_ : Int32 × Int32 × zc_N) : Int32 × Int32 × zc_N := ((zfor (fX1_readPoints_20 a_.2.1 (nI i_)) 16 (a_.1, (0 : Int32), a_.2.2)).1, (zfor (fX1_readPoints_20 a_.2.1 (nI i_)) 16 (a_.1, (0 : Int32), a_.2.2)).2.1, (zfor (fX1_readPoints_20 a_.2.1 (nI i_)) 16 (a_.1, (0 : Int32), a_.2.2)).2.2)
def qX1_readPoints_7 (i_ : Nat) (a_ : Int32 × Int32 × zc_N) : Prop := (∀ i20_ : Nat, i20_ < 16 → qX1_readPoints_20 a_.2.1 (nI i_) i20_ (zfor (fX1_readPoints_20 a_.2.1 (nI i_)) i20_ (a_.1, (0 : Int32), a_.2.2)))
set_option maxHeartbeats 2000000 in
theorem lpX1_readPoints_7 {G : zc_G} {Q : Option Value → zc_H → Prop} (P : zp) (σ : zc_N) (l2 : Int32) (l3 : Int32) (W1_ : ∀ i7_ : Nat, i7_ < 16 → qX1_readPoints_7 i7_ (zfor fX1_readPoints_7 i7_ (l2, l3, σ)))
    (W2_ : zz G mX1_readPoints 2 0 0 Q 158 [none, none, some (.int (zfor fX1_readPoints_7 16 (l2, l3, σ)).1), none, none, none, none, none, none] [] (hh P (zfor fX1_readPoints_7 16 (l2, l3, σ)).2.2) 0 0) :
    zz G mX1_readPoints 2 0 0 Q 7 [some (.ref 4), some (.ref 8), some (.int l2), some (.int l3), some (.int (nI 0)), none, none, none, none] [] (hh P σ) 0 0 := by
  refine zfor_nI (fun i_ a_ => zz G mX1_readPoints 2 0 0 Q 7 [some (.ref 4), some (.ref 8), some (.int a_.1), some (.int a_.2.1), some (.int i_), none, none, none, none] [] (hh P a_.2.2) 0 0) fX1_readPoints_7 16 (l2, l3, σ) (fun i_ hi_ k_ => ?_) ?_
  all_goals try dsimp only
  · have W3_ := W1_ i_ hi_
    generalize zfor fX1_readPoints_7 i_ (l2, l3, σ) = g_ at k_ W3_ ⊢
    obtain ⟨x0_, x1_, x2_⟩ := g_
    dsimp only at k_ W3_ ⊢
    rw [fX1_readPoints_7] at k_
    rw [qX1_readPoints_7] at W3_
    try dsimp only at W3_
    dsimp only at k_
    refine z_iload dX1_readPoints_7 rfl ?_
    refine z_bipush dX1_readPoints_9 k_bipush_16 ?_
    refine z_icmp_ge (tgt := 158) dX1_readPoints_11 (by decide) (fun c_ => absurd c_ (nI_ge hi_ (by decide))) (fun c_ => ?_)
    refine z_iconst dX1_readPoints_14 k_iconst_0 ?_
    refine z_istore (lv' := [some (.ref 4), some (.ref 8), some (.int x0_), some (.int x1_), some (.int (nI i_)), some (.int (0 : Int32)), none, none, none]) dX1_readPoints_15 (Nat.le_of_ble_eq_true rfl) rfl ?_
    refine z_iconst dX1_readPoints_17 k_iconst_0 ?_
    refine z_istore (lv' := [some (.ref 4), some (.ref 8), some (.int x0_), some (.int x1_), some (.int (nI i_)), some (.int (0 : Int32)), some (.int (0 : Int32)), none, none]) dX1_readPoints_18 (Nat.le_of_ble_eq_true rfl) rfl ?_
    refine lpX1_readPoints_20 P x2_ x0_ x1_ (nI i_) (0 : Int32) W3_ ?_
    refine z_iload dX1_readPoints_149 rfl ?_
    refine z_istore_n (lv' := [some (.ref 4), some (.ref 8), some (.int (zfor (fX1_readPoints_20 x1_ (nI i_)) 16 (x0_, (0 : Int32), x2_)).1), some (.int (zfor (fX1_readPoints_20 x1_ (nI i_)) 16 (x0_, (0 : Int32), x2_)).2.1), some (.int (nI i_)), some (.int (zfor (fX1_readPoints_20 x1_ (nI i_)) 16 (x0_, (0 : Int32), x2_)).2.1), none, none, none]) dX1_readPoints_151 (Nat.le_of_ble_eq_true rfl) rfl ?_
    refine z_iinc (v := ((nI i_) + (1 : Int32))) (lv' := [some (.ref 4), some (.ref 8), some (.int (zfor (fX1_readPoints_20 x1_ (nI i_)) 16 (x0_, (0 : Int32), x2_)).1), some (.int (zfor (fX1_readPoints_20 x1_ (nI i_)) 16 (x0_, (0 : Int32), x2_)).2.1), some (.int ((nI i_) + (1 : Int32))), some (.int (zfor (fX1_readPoints_20 x1_ (nI i_)) 16 (x0_, (0 : Int32), x2_)).2.1), none, none, none]) dX1_readPoints_152 (Nat.le_of_ble_eq_true rfl) rfl (by rw [k_iconst_1]) rfl ?_
    refine z_goto (tgt := 7) dX1_readPoints_155 (by decide) ?_
    refine zz_sub (lv' := [some (.ref 4), some (.ref 8), some (.int (zfor (fX1_readPoints_20 x1_ (nI i_)) 16 (x0_, (0 : Int32), x2_)).1), some (.int (zfor (fX1_readPoints_20 x1_ (nI i_)) 16 (x0_, (0 : Int32), x2_)).2.1), some (.int ((nI i_) + (1 : Int32))), none, none, none, none]) ⟨rfl, ⟨rfl, ⟨rfl, ⟨rfl, ⟨rfl, trivial⟩⟩⟩⟩⟩ ?_
    rw [nI_1]
    exact k_
  · generalize zfor fX1_readPoints_7 16 (l2, l3, σ) = g_ at W2_ ⊢
    obtain ⟨x0_, x1_, x2_⟩ := g_
    dsimp only at W2_ ⊢
    refine z_iload dX1_readPoints_7 rfl ?_
    refine z_bipush dX1_readPoints_9 k_bipush_16 ?_
    refine z_icmp_ge (tgt := 158) dX1_readPoints_11 (by decide) (fun c_ => ?_) (fun c_ => absurd (by decide) c_)
    exact zz_sub (lv' := [none, none, some (.int x0_), none, none, none, none, none, none]) ⟨rfl, trivial⟩ W2_

theorem dX1_readPoints_0 : decode cX1_readPoints 0 = .ok (.iconst 0, 1) := by decide +kernel
theorem dX1_readPoints_1 : decode cX1_readPoints 1 = .ok (.istore_n 2, 1) := by decide +kernel
theorem dX1_readPoints_2 : decode cX1_readPoints 2 = .ok (.iconst 0, 1) := by decide +kernel
theorem dX1_readPoints_3 : decode cX1_readPoints 3 = .ok (.istore_n 3, 1) := by decide +kernel
theorem dX1_readPoints_4 : decode cX1_readPoints 4 = .ok (.iconst 0, 1) := by decide +kernel
theorem dX1_readPoints_5 : decode cX1_readPoints 5 = .ok (.istore 4, 2) := by decide +kernel
theorem dX1_readPoints_159 : decode cX1_readPoints 159 = .ok (.ireturn, 1) := by decide +kernel
def pX1_readPoints (σ : zc_N) : Prop := (∀ i7_ : Nat, i7_ < 16 → qX1_readPoints_7 i7_ (zfor fX1_readPoints_7 i7_ ((0 : Int32), (0 : Int32), σ)))
noncomputable def rX1_readPoints (σ : zc_N) : Int32 := (zfor fX1_readPoints_7 16 ((0 : Int32), (0 : Int32), σ)).1
noncomputable def sX1_readPoints (σ : zc_N) : zc_N := (zfor fX1_readPoints_7 16 ((0 : Int32), (0 : Int32), σ)).2.2
set_option maxHeartbeats 1000000 in
theorem ctX1_readPoints (P : zp) (σ : zc_N) (W_ : (pX1_readPoints σ)) : sp mX1_readPoints 2 0 0 [.ref 4, .ref 8] (hh P σ) (fun r_ h_ => r_ = some (.int (rX1_readPoints σ)) ∧ h_ = hh P (sX1_readPoints σ)) := by
  refine sp_of (lv := [some (.ref 4), some (.ref 8), none, none, none, none, none, none, none]) (by decide) (zcats_ok _ rfl) (Nat.le_of_ble_eq_true rfl) (zlv_ok _ 7 rfl) (fun G => ?_)
  generalize hQ_ : (fun (r_ : Option Value) (h_ : zc_H) => r_ = some (.int (rX1_readPoints σ)) ∧ h_ = hh P (sX1_readPoints σ)) = Q_
  unfold pX1_readPoints at W_
  refine z_iconst dX1_readPoints_0 k_iconst_0 ?_
  refine z_istore_n (lv' := [some (.ref 4), some (.ref 8), some (.int (0 : Int32)), none, none, none, none, none, none]) dX1_readPoints_1 (Nat.le_of_ble_eq_true rfl) rfl ?_
  refine z_iconst dX1_readPoints_2 k_iconst_0 ?_
  refine z_istore_n (lv' := [some (.ref 4), some (.ref 8), some (.int (0 : Int32)), some (.int (0 : Int32)), none, none, none, none, none]) dX1_readPoints_3 (Nat.le_of_ble_eq_true rfl) rfl ?_
  refine z_iconst dX1_readPoints_4 k_iconst_0 ?_
  refine z_istore (lv' := [some (.ref 4), some (.ref 8), some (.int (0 : Int32)), some (.int (0 : Int32)), some (.int (0 : Int32)), none, none, none, none]) dX1_readPoints_5 (Nat.le_of_ble_eq_true rfl) rfl ?_
  refine lpX1_readPoints_7 P σ (0 : Int32) (0 : Int32) W_ ?_
  refine z_iload_n dX1_readPoints_158 rfl ?_
  exact z_ireturn dX1_readPoints_159 rfl rfl (Nat.le_of_ble_eq_true rfl) (Nat.le_of_ble_eq_true rfl) (by rw [← hQ_]; exact ⟨(by rw [rX1_readPoints]), (by rw [sX1_readPoints])⟩)

theorem dX2_lastComing_5 : decode cX2_lastComing 5 = .ok (.iload 4, 2) := by decide +kernel
theorem dX2_lastComing_7 : decode cX2_lastComing 7 = .ok (.bipush 12, 2) := by decide +kernel
theorem dX2_lastComing_9 : decode cX2_lastComing 9 = .ok (.if_icmp .ge 35, 3) := by decide +kernel
theorem dX2_lastComing_12 : decode cX2_lastComing 12 = .ok (.iload_n 1, 1) := by decide +kernel
theorem dX2_lastComing_13 : decode cX2_lastComing 13 = .ok (.aload_n 0, 1) := by decide +kernel
theorem dX2_lastComing_14 : decode cX2_lastComing 14 = .ok (.getfield 9, 3) := by decide +kernel
theorem dX2_lastComing_17 : decode cX2_lastComing 17 = .ok (.iand, 1) := by decide +kernel
theorem dX2_lastComing_18 : decode cX2_lastComing 18 = .ok (.iload 4, 2) := by decide +kernel
theorem dX2_lastComing_20 : decode cX2_lastComing 20 = .ok (.ishr, 1) := by decide +kernel
theorem dX2_lastComing_21 : decode cX2_lastComing 21 = .ok (.iconst 1, 1) := by decide +kernel
theorem dX2_lastComing_22 : decode cX2_lastComing 22 = .ok (.iand, 1) := by decide +kernel
theorem dX2_lastComing_23 : decode cX2_lastComing 23 = .ok (.ifCond .eq 15, 3) := by decide +kernel
theorem dX2_lastComing_26 : decode cX2_lastComing 26 = .ok (.iload_n 3, 1) := by decide +kernel
theorem dX2_lastComing_27 : decode cX2_lastComing 27 = .ok (.aload_n 0, 1) := by decide +kernel
theorem dX2_lastComing_28 : decode cX2_lastComing 28 = .ok (.getfield 15, 3) := by decide +kernel
theorem dX2_lastComing_31 : decode cX2_lastComing 31 = .ok (.iload 4, 2) := by decide +kernel
theorem dX2_lastComing_33 : decode cX2_lastComing 33 = .ok (.iaload, 1) := by decide +kernel
theorem dX2_lastComing_34 : decode cX2_lastComing 34 = .ok (.invokestatic 42, 3) := by decide +kernel
theorem dX2_lastComing_37 : decode cX2_lastComing 37 = .ok (.istore_n 3, 1) := by decide +kernel
theorem dX2_lastComing_38 : decode cX2_lastComing 38 = .ok (.iinc 4 1, 3) := by decide +kernel
theorem dX2_lastComing_41 : decode cX2_lastComing 41 = .ok (.goto (-36), 3) := by decide +kernel
theorem dX2_lastComing_44 : decode cX2_lastComing 44 = .ok (.iload_n 3, 1) := by decide +kernel
noncomputable def fX2_lastComing_5 (σ : zc_N) (l1 : Int32) (i_ : Nat) (a_ : Int32) : Int32 := (if ((zshr (l1 &&& ((σ 27) 0)) (nI i_)) &&& (1 : Int32)) = (0 : Int32) then a_ else (if a_ < ((σ 28) (nI i_).toNatClampNeg) then ((σ 28) (nI i_).toNatClampNeg) else a_))
set_option maxHeartbeats 2000000 in
theorem lpX2_lastComing_5 {G : zc_G} {Q : Option Value → zc_H → Prop} (P : zp) (σ : zc_N) (l1 : Int32) (l3 : Int32)
    (W2_ : zz G mX2_lastComing 1 0 0 Q 44 [none, none, none, some (.int (zfor (fX2_lastComing_5 σ l1) 12 l3)), none] [] (hh P σ) 0 0) :
    zz G mX2_lastComing 1 0 0 Q 5 [some (.ref 27), some (.int l1), none, some (.int l3), some (.int (nI 0))] [] (hh P σ) 0 0 := by
  refine zfor_nI (fun i_ a_ => zz G mX2_lastComing 1 0 0 Q 5 [some (.ref 27), some (.int l1), none, some (.int a_), some (.int i_)] [] (hh P σ) 0 0) (fX2_lastComing_5 σ l1) 12 l3 (fun i_ hi_ k_ => ?_) ?_
  · generalize zfor (fX2_lastComing_5 σ l1) i_ l3 = g_ at k_ ⊢
    rw [fX2_lastComing_5] at k_
    refine z_iload dX2_lastComing_5 rfl ?_
    refine z_bipush dX2_lastComing_7 k_bipush_12 ?_
    refine z_icmp_ge (tgt := 44) dX2_lastComing_9 (by decide) (fun c_ => absurd c_ (nI_ge hi_ (by decide))) (fun c_ => ?_)
    refine z_iload_n dX2_lastComing_12 rfl ?_
    refine z_aloadr_n dX2_lastComing_13 rfl ?_
    refine z_get (ci := 2) (r := (RX2, TX2, 6)) (j := 0) (v := .int ((σ 27) 0)) dX2_lastComing_14 (Nat.le_of_ble_eq_true rfl) (zN rfl) rfl rfl (Nat.le_of_ble_eq_true rfl) fl_X2_9 rfl ?_
    refine z_iand (v := (l1 &&& ((σ 27) 0))) dX2_lastComing_17 rfl ?_
    refine z_iload dX2_lastComing_18 rfl ?_
    refine z_ishr (v := (zshr (l1 &&& ((σ 27) 0)) (nI i_))) dX2_lastComing_20 rfl ?_
    refine z_iconst dX2_lastComing_21 k_iconst_1 ?_
    refine z_iand (v := ((zshr (l1 &&& ((σ 27) 0)) (nI i_)) &&& (1 : Int32))) dX2_lastComing_22 rfl ?_
    have K_1 : zz G mX2_lastComing 1 0 0 Q 38 [some (.ref 27), some (.int l1), none, some (.int (if ((zshr (l1 &&& ((σ 27) 0)) (nI i_)) &&& (1 : Int32)) = (0 : Int32) then g_ else (if g_ < ((σ 28) (nI i_).toNatClampNeg) then ((σ 28) (nI i_).toNatClampNeg) else g_))), some (.int (nI i_))] [] (hh P σ) 0 0 := by
      refine z_iinc (v := ((nI i_) + (1 : Int32))) (lv' := [some (.ref 27), some (.int l1), none, some (.int (if ((zshr (l1 &&& ((σ 27) 0)) (nI i_)) &&& (1 : Int32)) = (0 : Int32) then g_ else (if g_ < ((σ 28) (nI i_).toNatClampNeg) then ((σ 28) (nI i_).toNatClampNeg) else g_))), some (.int ((nI i_) + (1 : Int32)))]) dX2_lastComing_38 (Nat.le_of_ble_eq_true rfl) rfl (by rw [k_iconst_1]) rfl ?_
      refine z_goto (tgt := 5) dX2_lastComing_41 (by decide) ?_
      rw [nI_1]
      exact k_
    refine z_if_eq (tgt := 38) dX2_lastComing_23 (by decide) (fun c_2 => ?_) (fun c_2 => ?_)
    · first | exact K_1 | simpa only [if_pos c_2] using K_1
    · refine z_iload_n dX2_lastComing_26 rfl ?_
      refine z_aloadr_n dX2_lastComing_27 rfl ?_
      refine z_get (ci := 2) (r := (RX2, TX2, 6)) (j := 1) (v := .ref 28) dX2_lastComing_28 (Nat.le_of_ble_eq_true rfl) (zN rfl) rfl rfl (Nat.le_of_ble_eq_true rfl) fl_X2_15 rfl ?_
      refine z_iload dX2_lastComing_31 rfl ?_
      refine z_iald (v := ((σ 28) (nI i_).toNatClampNeg)) dX2_lastComing_33 (zN rfl) rfl (vp_in_nI (Nat.lt_of_lt_of_le hi_ (Nat.le_of_ble_eq_true rfl)) (by decide)) rfl ?_
      refine z_mmax dX2_lastComing_34 lk_X2_42 (Nat.le_of_ble_eq_true rfl) (Nat.le_of_ble_eq_true rfl) (Nat.le_of_ble_eq_true rfl) (Nat.le_of_ble_eq_true rfl) ?_
      refine z_istore_n (lv' := [some (.ref 27), some (.int l1), none, some (.int (if g_ < ((σ 28) (nI i_).toNatClampNeg) then ((σ 28) (nI i_).toNatClampNeg) else g_)), some (.int (nI i_))]) dX2_lastComing_37 (Nat.le_of_ble_eq_true rfl) rfl ?_
      first | exact K_1 | simpa only [if_neg c_2] using K_1
  · generalize zfor (fX2_lastComing_5 σ l1) 12 l3 = g_ at W2_ ⊢
    refine z_iload dX2_lastComing_5 rfl ?_
    refine z_bipush dX2_lastComing_7 k_bipush_12 ?_
    refine z_icmp_ge (tgt := 44) dX2_lastComing_9 (by decide) (fun c_ => ?_) (fun c_ => absurd (by decide) c_)
    exact zz_sub (lv' := [none, none, none, some (.int g_), none]) ⟨rfl, trivial⟩ W2_

theorem dX2_lastComing_0 : decode cX2_lastComing 0 = .ok (.iload_n 2, 1) := by decide +kernel
theorem dX2_lastComing_1 : decode cX2_lastComing 1 = .ok (.istore_n 3, 1) := by decide +kernel
theorem dX2_lastComing_2 : decode cX2_lastComing 2 = .ok (.iconst 0, 1) := by decide +kernel
theorem dX2_lastComing_3 : decode cX2_lastComing 3 = .ok (.istore 4, 2) := by decide +kernel
theorem dX2_lastComing_45 : decode cX2_lastComing 45 = .ok (.ireturn, 1) := by decide +kernel
noncomputable def rX2_lastComing (σ : zc_N) (a1 : Int32) (a2 : Int32) : Int32 := (zfor (fX2_lastComing_5 σ a1) 12 a2)
set_option maxHeartbeats 1000000 in
theorem ctX2_lastComing (P : zp) (σ : zc_N) (a1 : Int32) (a2 : Int32) : sp mX2_lastComing 1 0 0 [.ref 27, .int a1, .int a2] (hh P σ) (fun r_ h_ => r_ = some (.int (rX2_lastComing σ a1 a2)) ∧ h_ = hh P σ) := by
  refine sp_of (lv := [some (.ref 27), some (.int a1), some (.int a2), none, none]) (by decide) (zcats_ok _ rfl) (Nat.le_of_ble_eq_true rfl) (zlv_ok _ 2 rfl) (fun G => ?_)
  generalize hQ_ : (fun (r_ : Option Value) (h_ : zc_H) => r_ = some (.int (rX2_lastComing σ a1 a2)) ∧ h_ = hh P σ) = Q_
  refine z_iload_n dX2_lastComing_0 rfl ?_
  refine z_istore_n (lv' := [some (.ref 27), some (.int a1), some (.int a2), some (.int a2), none]) dX2_lastComing_1 (Nat.le_of_ble_eq_true rfl) rfl ?_
  refine z_iconst dX2_lastComing_2 k_iconst_0 ?_
  refine z_istore (lv' := [some (.ref 27), some (.int a1), some (.int a2), some (.int a2), some (.int (0 : Int32))]) dX2_lastComing_3 (Nat.le_of_ble_eq_true rfl) rfl ?_
  refine zz_sub (lv' := [some (.ref 27), some (.int a1), none, some (.int a2), some (.int (0 : Int32))]) ⟨rfl, ⟨rfl, ⟨rfl, ⟨rfl, trivial⟩⟩⟩⟩ ?_
  refine lpX2_lastComing_5 P σ a1 a2 ?_
  refine z_iload_n dX2_lastComing_44 rfl ?_
  exact z_ireturn dX2_lastComing_45 rfl rfl (Nat.le_of_ble_eq_true rfl) (Nat.le_of_ble_eq_true rfl) (by rw [← hQ_]; exact ⟨(by rw [rX2_lastComing]), rfl⟩)

theorem dX2_firstComing_5 : decode cX2_firstComing 5 = .ok (.iload 4, 2) := by decide +kernel
theorem dX2_firstComing_7 : decode cX2_firstComing 7 = .ok (.bipush 12, 2) := by decide +kernel
theorem dX2_firstComing_9 : decode cX2_firstComing 9 = .ok (.if_icmp .ge 35, 3) := by decide +kernel
theorem dX2_firstComing_12 : decode cX2_firstComing 12 = .ok (.iload_n 1, 1) := by decide +kernel
theorem dX2_firstComing_13 : decode cX2_firstComing 13 = .ok (.aload_n 0, 1) := by decide +kernel
theorem dX2_firstComing_14 : decode cX2_firstComing 14 = .ok (.getfield 9, 3) := by decide +kernel
theorem dX2_firstComing_17 : decode cX2_firstComing 17 = .ok (.iand, 1) := by decide +kernel
theorem dX2_firstComing_18 : decode cX2_firstComing 18 = .ok (.iload 4, 2) := by decide +kernel
theorem dX2_firstComing_20 : decode cX2_firstComing 20 = .ok (.ishr, 1) := by decide +kernel
theorem dX2_firstComing_21 : decode cX2_firstComing 21 = .ok (.iconst 1, 1) := by decide +kernel
theorem dX2_firstComing_22 : decode cX2_firstComing 22 = .ok (.iand, 1) := by decide +kernel
theorem dX2_firstComing_23 : decode cX2_firstComing 23 = .ok (.ifCond .eq 15, 3) := by decide +kernel
theorem dX2_firstComing_26 : decode cX2_firstComing 26 = .ok (.iload_n 3, 1) := by decide +kernel
theorem dX2_firstComing_27 : decode cX2_firstComing 27 = .ok (.aload_n 0, 1) := by decide +kernel
theorem dX2_firstComing_28 : decode cX2_firstComing 28 = .ok (.getfield 15, 3) := by decide +kernel
theorem dX2_firstComing_31 : decode cX2_firstComing 31 = .ok (.iload 4, 2) := by decide +kernel
theorem dX2_firstComing_33 : decode cX2_firstComing 33 = .ok (.iaload, 1) := by decide +kernel
theorem dX2_firstComing_34 : decode cX2_firstComing 34 = .ok (.invokestatic 48, 3) := by decide +kernel
theorem dX2_firstComing_37 : decode cX2_firstComing 37 = .ok (.istore_n 3, 1) := by decide +kernel
theorem dX2_firstComing_38 : decode cX2_firstComing 38 = .ok (.iinc 4 1, 3) := by decide +kernel
theorem dX2_firstComing_41 : decode cX2_firstComing 41 = .ok (.goto (-36), 3) := by decide +kernel
theorem dX2_firstComing_44 : decode cX2_firstComing 44 = .ok (.iload_n 3, 1) := by decide +kernel
noncomputable def fX2_firstComing_5 (σ : zc_N) (l1 : Int32) (i_ : Nat) (a_ : Int32) : Int32 := (if ((zshr (l1 &&& ((σ 27) 0)) (nI i_)) &&& (1 : Int32)) = (0 : Int32) then a_ else (if ((σ 28) (nI i_).toNatClampNeg) < a_ then ((σ 28) (nI i_).toNatClampNeg) else a_))
set_option maxHeartbeats 2000000 in
theorem lpX2_firstComing_5 {G : zc_G} {Q : Option Value → zc_H → Prop} (P : zp) (σ : zc_N) (l1 : Int32) (l3 : Int32)
    (W2_ : zz G mX2_firstComing 1 0 0 Q 44 [none, none, none, some (.int (zfor (fX2_firstComing_5 σ l1) 12 l3)), none] [] (hh P σ) 0 0) :
    zz G mX2_firstComing 1 0 0 Q 5 [some (.ref 27), some (.int l1), none, some (.int l3), some (.int (nI 0))] [] (hh P σ) 0 0 := by
  refine zfor_nI (fun i_ a_ => zz G mX2_firstComing 1 0 0 Q 5 [some (.ref 27), some (.int l1), none, some (.int a_), some (.int i_)] [] (hh P σ) 0 0) (fX2_firstComing_5 σ l1) 12 l3 (fun i_ hi_ k_ => ?_) ?_
  · generalize zfor (fX2_firstComing_5 σ l1) i_ l3 = g_ at k_ ⊢
    rw [fX2_firstComing_5] at k_
    refine z_iload dX2_firstComing_5 rfl ?_
    refine z_bipush dX2_firstComing_7 k_bipush_12 ?_
    refine z_icmp_ge (tgt := 44) dX2_firstComing_9 (by decide) (fun c_ => absurd c_ (nI_ge hi_ (by decide))) (fun c_ => ?_)
    refine z_iload_n dX2_firstComing_12 rfl ?_
    refine z_aloadr_n dX2_firstComing_13 rfl ?_
    refine z_get (ci := 2) (r := (RX2, TX2, 6)) (j := 0) (v := .int ((σ 27) 0)) dX2_firstComing_14 (Nat.le_of_ble_eq_true rfl) (zN rfl) rfl rfl (Nat.le_of_ble_eq_true rfl) fl_X2_9 rfl ?_
    refine z_iand (v := (l1 &&& ((σ 27) 0))) dX2_firstComing_17 rfl ?_
    refine z_iload dX2_firstComing_18 rfl ?_
    refine z_ishr (v := (zshr (l1 &&& ((σ 27) 0)) (nI i_))) dX2_firstComing_20 rfl ?_
    refine z_iconst dX2_firstComing_21 k_iconst_1 ?_
    refine z_iand (v := ((zshr (l1 &&& ((σ 27) 0)) (nI i_)) &&& (1 : Int32))) dX2_firstComing_22 rfl ?_
    have K_1 : zz G mX2_firstComing 1 0 0 Q 38 [some (.ref 27), some (.int l1), none, some (.int (if ((zshr (l1 &&& ((σ 27) 0)) (nI i_)) &&& (1 : Int32)) = (0 : Int32) then g_ else (if ((σ 28) (nI i_).toNatClampNeg) < g_ then ((σ 28) (nI i_).toNatClampNeg) else g_))), some (.int (nI i_))] [] (hh P σ) 0 0 := by
      refine z_iinc (v := ((nI i_) + (1 : Int32))) (lv' := [some (.ref 27), some (.int l1), none, some (.int (if ((zshr (l1 &&& ((σ 27) 0)) (nI i_)) &&& (1 : Int32)) = (0 : Int32) then g_ else (if ((σ 28) (nI i_).toNatClampNeg) < g_ then ((σ 28) (nI i_).toNatClampNeg) else g_))), some (.int ((nI i_) + (1 : Int32)))]) dX2_firstComing_38 (Nat.le_of_ble_eq_true rfl) rfl (by rw [k_iconst_1]) rfl ?_
      refine z_goto (tgt := 5) dX2_firstComing_41 (by decide) ?_
      rw [nI_1]
      exact k_
    refine z_if_eq (tgt := 38) dX2_firstComing_23 (by decide) (fun c_2 => ?_) (fun c_2 => ?_)
    · first | exact K_1 | simpa only [if_pos c_2] using K_1
    · refine z_iload_n dX2_firstComing_26 rfl ?_
      refine z_aloadr_n dX2_firstComing_27 rfl ?_
      refine z_get (ci := 2) (r := (RX2, TX2, 6)) (j := 1) (v := .ref 28) dX2_firstComing_28 (Nat.le_of_ble_eq_true rfl) (zN rfl) rfl rfl (Nat.le_of_ble_eq_true rfl) fl_X2_15 rfl ?_
      refine z_iload dX2_firstComing_31 rfl ?_
      refine z_iald (v := ((σ 28) (nI i_).toNatClampNeg)) dX2_firstComing_33 (zN rfl) rfl (vp_in_nI (Nat.lt_of_lt_of_le hi_ (Nat.le_of_ble_eq_true rfl)) (by decide)) rfl ?_
      refine z_mmin dX2_firstComing_34 lk_X2_48 (Nat.le_of_ble_eq_true rfl) (Nat.le_of_ble_eq_true rfl) (Nat.le_of_ble_eq_true rfl) (Nat.le_of_ble_eq_true rfl) ?_
      refine z_istore_n (lv' := [some (.ref 27), some (.int l1), none, some (.int (if ((σ 28) (nI i_).toNatClampNeg) < g_ then ((σ 28) (nI i_).toNatClampNeg) else g_)), some (.int (nI i_))]) dX2_firstComing_37 (Nat.le_of_ble_eq_true rfl) rfl ?_
      first | exact K_1 | simpa only [if_neg c_2] using K_1
  · generalize zfor (fX2_firstComing_5 σ l1) 12 l3 = g_ at W2_ ⊢
    refine z_iload dX2_firstComing_5 rfl ?_
    refine z_bipush dX2_firstComing_7 k_bipush_12 ?_
    refine z_icmp_ge (tgt := 44) dX2_firstComing_9 (by decide) (fun c_ => ?_) (fun c_ => absurd (by decide) c_)
    exact zz_sub (lv' := [none, none, none, some (.int g_), none]) ⟨rfl, trivial⟩ W2_

theorem dX2_firstComing_0 : decode cX2_firstComing 0 = .ok (.iload_n 2, 1) := by decide +kernel
theorem dX2_firstComing_1 : decode cX2_firstComing 1 = .ok (.istore_n 3, 1) := by decide +kernel
theorem dX2_firstComing_2 : decode cX2_firstComing 2 = .ok (.iconst 0, 1) := by decide +kernel
theorem dX2_firstComing_3 : decode cX2_firstComing 3 = .ok (.istore 4, 2) := by decide +kernel
theorem dX2_firstComing_45 : decode cX2_firstComing 45 = .ok (.ireturn, 1) := by decide +kernel
noncomputable def rX2_firstComing (σ : zc_N) (a1 : Int32) (a2 : Int32) : Int32 := (zfor (fX2_firstComing_5 σ a1) 12 a2)
set_option maxHeartbeats 1000000 in
theorem ctX2_firstComing (P : zp) (σ : zc_N) (a1 : Int32) (a2 : Int32) : sp mX2_firstComing 1 0 0 [.ref 27, .int a1, .int a2] (hh P σ) (fun r_ h_ => r_ = some (.int (rX2_firstComing σ a1 a2)) ∧ h_ = hh P σ) := by
  refine sp_of (lv := [some (.ref 27), some (.int a1), some (.int a2), none, none]) (by decide) (zcats_ok _ rfl) (Nat.le_of_ble_eq_true rfl) (zlv_ok _ 2 rfl) (fun G => ?_)
  generalize hQ_ : (fun (r_ : Option Value) (h_ : zc_H) => r_ = some (.int (rX2_firstComing σ a1 a2)) ∧ h_ = hh P σ) = Q_
  refine z_iload_n dX2_firstComing_0 rfl ?_
  refine z_istore_n (lv' := [some (.ref 27), some (.int a1), some (.int a2), some (.int a2), none]) dX2_firstComing_1 (Nat.le_of_ble_eq_true rfl) rfl ?_
  refine z_iconst dX2_firstComing_2 k_iconst_0 ?_
  refine z_istore (lv' := [some (.ref 27), some (.int a1), some (.int a2), some (.int a2), some (.int (0 : Int32))]) dX2_firstComing_3 (Nat.le_of_ble_eq_true rfl) rfl ?_
  refine zz_sub (lv' := [some (.ref 27), some (.int a1), none, some (.int a2), some (.int (0 : Int32))]) ⟨rfl, ⟨rfl, ⟨rfl, ⟨rfl, trivial⟩⟩⟩⟩ ?_
  refine lpX2_firstComing_5 P σ a1 a2 ?_
  refine z_iload_n dX2_firstComing_44 rfl ?_
  exact z_ireturn dX2_firstComing_45 rfl rfl (Nat.le_of_ble_eq_true rfl) (Nat.le_of_ble_eq_true rfl) (by rw [← hQ_]; exact ⟨(by rw [rX2_firstComing]), rfl⟩)

theorem dX2_hear_56 : decode cX2_hear 56 = .ok (.iload 4, 2) := by decide +kernel
theorem dX2_hear_58 : decode cX2_hear 58 = .ok (.bipush 12, 2) := by decide +kernel
theorem dX2_hear_60 : decode cX2_hear 60 = .ok (.if_icmp .ge 39, 3) := by decide +kernel
theorem dX2_hear_63 : decode cX2_hear 63 = .ok (.iload_n 3, 1) := by decide +kernel
theorem dX2_hear_64 : decode cX2_hear 64 = .ok (.iload 4, 2) := by decide +kernel
theorem dX2_hear_66 : decode cX2_hear 66 = .ok (.ishr, 1) := by decide +kernel
theorem dX2_hear_67 : decode cX2_hear 67 = .ok (.iconst 1, 1) := by decide +kernel
theorem dX2_hear_68 : decode cX2_hear 68 = .ok (.iand, 1) := by decide +kernel
theorem dX2_hear_69 : decode cX2_hear 69 = .ok (.ifCond .eq 24, 3) := by decide +kernel
theorem dX2_hear_72 : decode cX2_hear 72 = .ok (.aload_n 0, 1) := by decide +kernel
theorem dX2_hear_73 : decode cX2_hear 73 = .ok (.getfield 28, 3) := by decide +kernel
theorem dX2_hear_76 : decode cX2_hear 76 = .ok (.iload 4, 2) := by decide +kernel
theorem dX2_hear_78 : decode cX2_hear 78 = .ok (.aload_n 0, 1) := by decide +kernel
theorem dX2_hear_79 : decode cX2_hear 79 = .ok (.getfield 28, 3) := by decide +kernel
theorem dX2_hear_82 : decode cX2_hear 82 = .ok (.iload 4, 2) := by decide +kernel
theorem dX2_hear_84 : decode cX2_hear 84 = .ok (.iaload, 1) := by decide +kernel
theorem dX2_hear_85 : decode cX2_hear 85 = .ok (.aload_n 1, 1) := by decide +kernel
theorem dX2_hear_86 : decode cX2_hear 86 = .ok (.getfield 37, 3) := by decide +kernel
theorem dX2_hear_89 : decode cX2_hear 89 = .ok (.invokestatic 42, 3) := by decide +kernel
theorem dX2_hear_92 : decode cX2_hear 92 = .ok (.iastore, 1) := by decide +kernel
theorem dX2_hear_93 : decode cX2_hear 93 = .ok (.iinc 4 1, 3) := by decide +kernel
theorem dX2_hear_96 : decode cX2_hear 96 = .ok (.goto (-40), 3) := by decide +kernel
noncomputable def fX2_hear_56 (i1 : Nat) (l3 : Int32) (i_ : Nat) (a_ : zc_N) : zc_N := (if ((zshr l3 (nI i_)) &&& (1 : Int32)) = (0 : Int32) then a_ else (zu a_ 31 (zu (a_ 31) (nI i_).toNatClampNeg (if ((a_ 31) (nI i_).toNatClampNeg) < ((a_ (pO i1)) 4) then ((a_ (pO i1)) 4) else ((a_ 31) (nI i_).toNatClampNeg)))))
set_option maxHeartbeats 2000000 in
theorem lpX2_hear_56 {G : zc_G} {Q : Option Value → zc_H → Prop} (P : zp) (σ : zc_N) (i1 : Nat) (h1 : i1 < P.2.1) (l3 : Int32)
    (W2_ : zz G mX2_hear 1 0 0 Q 99 [none, none, none, none, none] [] (hh P (zfor (fX2_hear_56 i1 l3) 12 σ)) 0 0) :
    zz G mX2_hear 1 0 0 Q 56 [some (.ref 27), some (.ref (pO i1)), none, some (.int l3), some (.int (nI 0))] [] (hh P σ) 0 0 := by
  refine zfor_nI (fun i_ a_ => zz G mX2_hear 1 0 0 Q 56 [some (.ref 27), some (.ref (pO i1)), none, some (.int l3), some (.int i_)] [] (hh P a_) 0 0) (fX2_hear_56 i1 l3) 12 σ (fun i_ hi_ k_ => ?_) ?_
  · generalize zfor (fX2_hear_56 i1 l3) i_ σ = g_ at k_ ⊢
    rw [fX2_hear_56] at k_
    refine z_iload dX2_hear_56 rfl ?_
    refine z_bipush dX2_hear_58 k_bipush_12 ?_
    refine z_icmp_ge (tgt := 99) dX2_hear_60 (by decide) (fun c_ => absurd c_ (nI_ge hi_ (by decide))) (fun c_ => ?_)
    refine z_iload_n dX2_hear_63 rfl ?_
    refine z_iload dX2_hear_64 rfl ?_
    refine z_ishr (v := (zshr l3 (nI i_))) dX2_hear_66 rfl ?_
    refine z_iconst dX2_hear_67 k_iconst_1 ?_
    refine z_iand (v := ((zshr l3 (nI i_)) &&& (1 : Int32))) dX2_hear_68 rfl ?_
    refine z_if_eq (tgt := 93) dX2_hear_69 (by decide) (fun c_2 => ?_) (fun c_2 => ?_)
    · refine z_iinc (v := ((nI i_) + (1 : Int32))) (lv' := [some (.ref 27), some (.ref (pO i1)), none, some (.int l3), some (.int ((nI i_) + (1 : Int32)))]) dX2_hear_93 (Nat.le_of_ble_eq_true rfl) rfl (by rw [k_iconst_1]) rfl ?_
      refine z_goto (tgt := 56) dX2_hear_96 (by decide) ?_
      rw [nI_1]
      simpa only [if_pos c_2] using k_
    · refine z_aloadr_n dX2_hear_72 rfl ?_
      refine z_get (ci := 2) (r := (RX2, TX2, 6)) (j := 5) (v := .ref 31) dX2_hear_73 (Nat.le_of_ble_eq_true rfl) (zN rfl) rfl rfl (Nat.le_of_ble_eq_true rfl) fl_X2_28 rfl ?_
      refine z_iload dX2_hear_76 rfl ?_
      refine z_aloadr_n dX2_hear_78 rfl ?_
      refine z_get (ci := 2) (r := (RX2, TX2, 6)) (j := 5) (v := .ref 31) dX2_hear_79 (Nat.le_of_ble_eq_true rfl) (zN rfl) rfl rfl (Nat.le_of_ble_eq_true rfl) fl_X2_28 rfl ?_
      refine z_iload dX2_hear_82 rfl ?_
      refine z_iald (v := ((g_ 31) (nI i_).toNatClampNeg)) dX2_hear_84 (zN rfl) rfl (vp_in_nI (Nat.lt_of_lt_of_le hi_ (Nat.le_of_ble_eq_true rfl)) (by decide)) rfl ?_
      refine z_aloadr_n dX2_hear_85 rfl ?_
      refine z_get (ci := 7) (r := (RX7, TX7, 5)) (j := 4) (v := .int ((g_ (pO i1)) 4)) dX2_hear_86 (z3O i1) (zNO h1) (SH_pO P i1) rfl (Nat.le_of_ble_eq_true rfl) fl_X2_37 rfl ?_
      refine z_mmax dX2_hear_89 lk_X2_42 (Nat.le_of_ble_eq_true rfl) (Nat.le_of_ble_eq_true rfl) (Nat.le_of_ble_eq_true rfl) (Nat.le_of_ble_eq_true rfl) ?_
      refine z_iast (σ' := (zu g_ 31 (zu (g_ 31) (nI i_).toNatClampNeg (if ((g_ 31) (nI i_).toNatClampNeg) < ((g_ (pO i1)) 4) then ((g_ (pO i1)) 4) else ((g_ 31) (nI i_).toNatClampNeg))))) dX2_hear_92 (Nat.le_of_ble_eq_true rfl) (zN rfl) rfl (vp_in_nI (Nat.lt_of_lt_of_le hi_ (Nat.le_of_ble_eq_true rfl)) (by decide)) rfl ?_
      refine z_iinc (v := ((nI i_) + (1 : Int32))) (lv' := [some (.ref 27), some (.ref (pO i1)), none, some (.int l3), some (.int ((nI i_) + (1 : Int32)))]) dX2_hear_93 (Nat.le_of_ble_eq_true rfl) rfl (by rw [k_iconst_1]) rfl ?_
      refine z_goto (tgt := 56) dX2_hear_96 (by decide) ?_
      rw [nI_1]
      simpa only [if_neg c_2] using k_
  · generalize zfor (fX2_hear_56 i1 l3) 12 σ = g_ at W2_ ⊢
    refine z_iload dX2_hear_56 rfl ?_
    refine z_bipush dX2_hear_58 k_bipush_12 ?_
    refine z_icmp_ge (tgt := 99) dX2_hear_60 (by decide) (fun c_ => ?_) (fun c_ => absurd (by decide) c_)
    exact zz_sub (lv' := [none, none, none, none, none]) trivial W2_

theorem dX2_hear_0 : decode cX2_hear 0 = .ok (.aload_n 0, 1) := by decide +kernel
theorem dX2_hear_1 : decode cX2_hear 1 = .ok (.getfield 19, 3) := by decide +kernel
theorem dX2_hear_4 : decode cX2_hear 4 = .ok (.bipush 24, 2) := by decide +kernel
theorem dX2_hear_6 : decode cX2_hear 6 = .ok (.if_icmp .lt 4, 3) := by decide +kernel
theorem dX2_hear_9 : decode cX2_hear 9 = .ok (.return_, 1) := by decide +kernel
theorem dX2_hear_10 : decode cX2_hear 10 = .ok (.aload_n 0, 1) := by decide +kernel
theorem dX2_hear_11 : decode cX2_hear 11 = .ok (.getfield 22, 3) := by decide +kernel
theorem dX2_hear_14 : decode cX2_hear 14 = .ok (.aload_n 0, 1) := by decide +kernel
theorem dX2_hear_15 : decode cX2_hear 15 = .ok (.getfield 19, 3) := by decide +kernel
theorem dX2_hear_18 : decode cX2_hear 18 = .ok (.aload_n 1, 1) := by decide +kernel
theorem dX2_hear_19 : decode cX2_hear 19 = .ok (.getfield 37, 3) := by decide +kernel
theorem dX2_hear_22 : decode cX2_hear 22 = .ok (.iastore, 1) := by decide +kernel
theorem dX2_hear_23 : decode cX2_hear 23 = .ok (.aload_n 0, 1) := by decide +kernel
theorem dX2_hear_24 : decode cX2_hear 24 = .ok (.getfield 25, 3) := by decide +kernel
theorem dX2_hear_27 : decode cX2_hear 27 = .ok (.aload_n 0, 1) := by decide +kernel
theorem dX2_hear_28 : decode cX2_hear 28 = .ok (.getfield 19, 3) := by decide +kernel
theorem dX2_hear_31 : decode cX2_hear 31 = .ok (.iload_n 2, 1) := by decide +kernel
theorem dX2_hear_32 : decode cX2_hear 32 = .ok (.iastore, 1) := by decide +kernel
theorem dX2_hear_33 : decode cX2_hear 33 = .ok (.aload_n 0, 1) := by decide +kernel
theorem dX2_hear_34 : decode cX2_hear 34 = .ok (.dup, 1) := by decide +kernel
theorem dX2_hear_35 : decode cX2_hear 35 = .ok (.getfield 19, 3) := by decide +kernel
theorem dX2_hear_38 : decode cX2_hear 38 = .ok (.iconst 1, 1) := by decide +kernel
theorem dX2_hear_39 : decode cX2_hear 39 = .ok (.iadd, 1) := by decide +kernel
theorem dX2_hear_40 : decode cX2_hear 40 = .ok (.putfield 19, 3) := by decide +kernel
theorem dX2_hear_43 : decode cX2_hear 43 = .ok (.aload_n 0, 1) := by decide +kernel
theorem dX2_hear_44 : decode cX2_hear 44 = .ok (.dup, 1) := by decide +kernel
theorem dX2_hear_45 : decode cX2_hear 45 = .ok (.getfield 9, 3) := by decide +kernel
theorem dX2_hear_48 : decode cX2_hear 48 = .ok (.iload_n 3, 1) := by decide +kernel
theorem dX2_hear_49 : decode cX2_hear 49 = .ok (.ior, 1) := by decide +kernel
theorem dX2_hear_50 : decode cX2_hear 50 = .ok (.putfield 9, 3) := by decide +kernel
theorem dX2_hear_53 : decode cX2_hear 53 = .ok (.iconst 0, 1) := by decide +kernel
theorem dX2_hear_54 : decode cX2_hear 54 = .ok (.istore 4, 2) := by decide +kernel
theorem dX2_hear_99 : decode cX2_hear 99 = .ok (.return_, 1) := by decide +kernel
def pX2_hear (σ : zc_N) : Prop := ((((σ 27) 2) < (24 : Int32) → (vp_in ((σ 27) 2) 24 ∧ vp_in ((σ 27) 2) 24)) ∧ (¬ ((σ 27) 2) < (24 : Int32) → True))
noncomputable def sX2_hear (σ : zc_N) (i1 : Nat) (a2 : Int32) (a3 : Int32) : zc_N := (if ((σ 27) 2) < (24 : Int32) then (zfor (fX2_hear_56 i1 a3) 12 (zu (zu (zu σ 29 (zu (σ 29) ((σ 27) 2).toNatClampNeg ((σ (pO i1)) 4))) 30 (zu (σ 30) ((σ 27) 2).toNatClampNeg a2)) 27 (zu (zu (σ 27) 2 (((σ 27) 2) + (1 : Int32))) 0 (((zu (σ 27) 2 (((σ 27) 2) + (1 : Int32))) 0) ||| a3)))) else σ)
set_option maxHeartbeats 1000000 in
theorem ctX2_hear (P : zp) (σ : zc_N) (i1 : Nat) (h1 : i1 < P.2.1) (a2 : Int32) (a3 : Int32) (W_ : (pX2_hear σ)) : sp mX2_hear 1 0 0 [.ref 27, .ref (pO i1), .int a2, .int a3] (hh P σ) (fun r_ h_ => r_ = none ∧ h_ = hh P (sX2_hear σ i1 a2 a3)) := by
  refine sp_of (lv := [some (.ref 27), some (.ref (pO i1)), some (.int a2), some (.int a3), none]) (by decide) (zcats_ok _ rfl) (Nat.le_of_ble_eq_true rfl) (zlv_ok _ 1 rfl) (fun G => ?_)
  generalize hQ_ : (fun (r_ : Option Value) (h_ : zc_H) => r_ = none ∧ h_ = hh P (sX2_hear σ i1 a2 a3)) = Q_
  unfold pX2_hear at W_
  refine z_aloadr_n dX2_hear_0 rfl ?_
  refine z_get (ci := 2) (r := (RX2, TX2, 6)) (j := 2) (v := .int ((σ 27) 2)) dX2_hear_1 (Nat.le_of_ble_eq_true rfl) (zN rfl) rfl rfl (Nat.le_of_ble_eq_true rfl) fl_X2_19 rfl ?_
  refine z_bipush dX2_hear_4 k_bipush_24 ?_
  refine z_icmp_lt (tgt := 10) dX2_hear_6 (by decide) (fun c_1 => ?_) (fun c_1 => ?_)
  · refine z_aloadr_n dX2_hear_10 rfl ?_
    refine z_get (ci := 2) (r := (RX2, TX2, 6)) (j := 3) (v := .ref 29) dX2_hear_11 (Nat.le_of_ble_eq_true rfl) (zN rfl) rfl rfl (Nat.le_of_ble_eq_true rfl) fl_X2_22 rfl ?_
    refine z_aloadr_n dX2_hear_14 rfl ?_
    refine z_get (ci := 2) (r := (RX2, TX2, 6)) (j := 2) (v := .int ((σ 27) 2)) dX2_hear_15 (Nat.le_of_ble_eq_true rfl) (zN rfl) rfl rfl (Nat.le_of_ble_eq_true rfl) fl_X2_19 rfl ?_
    refine z_aloadr_n dX2_hear_18 rfl ?_
    refine z_get (ci := 7) (r := (RX7, TX7, 5)) (j := 4) (v := .int ((σ (pO i1)) 4)) dX2_hear_19 (z3O i1) (zNO h1) (SH_pO P i1) rfl (Nat.le_of_ble_eq_true rfl) fl_X2_37 rfl ?_
    refine z_iast (σ' := (zu σ 29 (zu (σ 29) ((σ 27) 2).toNatClampNeg ((σ (pO i1)) 4)))) dX2_hear_22 (Nat.le_of_ble_eq_true rfl) (zN rfl) rfl ((W_.1 c_1).1) rfl ?_
    refine z_aloadr_n dX2_hear_23 rfl ?_
    refine z_get (ci := 2) (r := (RX2, TX2, 6)) (j := 4) (v := .ref 30) dX2_hear_24 (Nat.le_of_ble_eq_true rfl) (zN rfl) rfl rfl (Nat.le_of_ble_eq_true rfl) fl_X2_25 rfl ?_
    refine z_aloadr_n dX2_hear_27 rfl ?_
    refine z_get (ci := 2) (r := (RX2, TX2, 6)) (j := 2) (v := .int ((σ 27) 2)) dX2_hear_28 (Nat.le_of_ble_eq_true rfl) (zN rfl) rfl rfl (Nat.le_of_ble_eq_true rfl) fl_X2_19 rfl ?_
    refine z_iload_n dX2_hear_31 rfl ?_
    refine z_iast (σ' := (zu (zu σ 29 (zu (σ 29) ((σ 27) 2).toNatClampNeg ((σ (pO i1)) 4))) 30 (zu (σ 30) ((σ 27) 2).toNatClampNeg a2))) dX2_hear_32 (Nat.le_of_ble_eq_true rfl) (zN rfl) rfl ((W_.1 c_1).2) rfl ?_
    refine z_aloadr_n dX2_hear_33 rfl ?_
    refine z_dup dX2_hear_34 rfl ?_
    refine z_get (ci := 2) (r := (RX2, TX2, 6)) (j := 2) (v := .int ((σ 27) 2)) dX2_hear_35 (Nat.le_of_ble_eq_true rfl) (zN rfl) rfl rfl (Nat.le_of_ble_eq_true rfl) fl_X2_19 rfl ?_
    refine z_iconst dX2_hear_38 k_iconst_1 ?_
    refine z_iadd (v := (((σ 27) 2) + (1 : Int32))) dX2_hear_39 rfl ?_
    refine z_put (ci := 2) (r := (RX2, TX2, 6)) (j := 2) (σ' := (zu (zu (zu σ 29 (zu (σ 29) ((σ 27) 2).toNatClampNeg ((σ (pO i1)) 4))) 30 (zu (σ 30) ((σ 27) 2).toNatClampNeg a2)) 27 (zu (σ 27) 2 (((σ 27) 2) + (1 : Int32))))) dX2_hear_40 (Nat.le_of_ble_eq_true rfl) (zN rfl) rfl rfl (Nat.le_of_ble_eq_true rfl) fl_X2_19 rfl rfl rfl rfl rfl ?_
    refine z_aloadr_n dX2_hear_43 rfl ?_
    refine z_dup dX2_hear_44 rfl ?_
    refine z_get (ci := 2) (r := (RX2, TX2, 6)) (j := 0) (v := .int ((zu (σ 27) 2 (((σ 27) 2) + (1 : Int32))) 0)) dX2_hear_45 (Nat.le_of_ble_eq_true rfl) (zN rfl) rfl rfl (Nat.le_of_ble_eq_true rfl) fl_X2_9 rfl ?_
    refine z_iload_n dX2_hear_48 rfl ?_
    refine z_ior (v := (((zu (σ 27) 2 (((σ 27) 2) + (1 : Int32))) 0) ||| a3)) dX2_hear_49 rfl ?_
    refine z_put (ci := 2) (r := (RX2, TX2, 6)) (j := 0) (σ' := (zu (zu (zu σ 29 (zu (σ 29) ((σ 27) 2).toNatClampNeg ((σ (pO i1)) 4))) 30 (zu (σ 30) ((σ 27) 2).toNatClampNeg a2)) 27 (zu (zu (σ 27) 2 (((σ 27) 2) + (1 : Int32))) 0 (((zu (σ 27) 2 (((σ 27) 2) + (1 : Int32))) 0) ||| a3)))) dX2_hear_50 (Nat.le_of_ble_eq_true rfl) (zN rfl) rfl rfl (Nat.le_of_ble_eq_true rfl) fl_X2_9 rfl rfl rfl rfl (zu_zu _ _ _ _) ?_
    refine z_iconst dX2_hear_53 k_iconst_0 ?_
    refine z_istore (lv' := [some (.ref 27), some (.ref (pO i1)), some (.int a2), some (.int a3), some (.int (0 : Int32))]) dX2_hear_54 (Nat.le_of_ble_eq_true rfl) rfl ?_
    refine zz_sub (lv' := [some (.ref 27), some (.ref (pO i1)), none, some (.int a3), some (.int (0 : Int32))]) ⟨rfl, ⟨rfl, ⟨rfl, ⟨rfl, trivial⟩⟩⟩⟩ ?_
    refine lpX2_hear_56 P (zu (zu (zu σ 29 (zu (σ 29) ((σ 27) 2).toNatClampNeg ((σ (pO i1)) 4))) 30 (zu (σ 30) ((σ 27) 2).toNatClampNeg a2)) 27 (zu (zu (σ 27) 2 (((σ 27) 2) + (1 : Int32))) 0 (((zu (σ 27) 2 (((σ 27) 2) + (1 : Int32))) 0) ||| a3))) i1 h1 a3 ?_
    exact z_return dX2_hear_99 rfl (Nat.le_of_ble_eq_true rfl) (Nat.le_of_ble_eq_true rfl) (by rw [← hQ_]; exact ⟨rfl, (by rw [sX2_hear]; simp only [if_pos c_1])⟩)
  · exact z_return dX2_hear_9 rfl (Nat.le_of_ble_eq_true rfl) (Nat.le_of_ble_eq_true rfl) (by rw [← hQ_]; exact ⟨rfl, (by rw [sX2_hear]; simp only [if_neg c_1])⟩)

theorem dX2_dateFlaws_19 : decode cX2_dateFlaws 19 = .ok (.iload_n 2, 1) := by decide +kernel
theorem dX2_dateFlaws_20 : decode cX2_dateFlaws 20 = .ok (.aload_n 0, 1) := by decide +kernel
theorem dX2_dateFlaws_21 : decode cX2_dateFlaws 21 = .ok (.getfield 19, 3) := by decide +kernel
theorem dX2_dateFlaws_24 : decode cX2_dateFlaws 24 = .ok (.if_icmp .ge 58, 3) := by decide +kernel
theorem dX2_dateFlaws_27 : decode cX2_dateFlaws 27 = .ok (.aload_n 0, 1) := by decide +kernel
theorem dX2_dateFlaws_28 : decode cX2_dateFlaws 28 = .ok (.getfield 25, 3) := by decide +kernel
theorem dX2_dateFlaws_31 : decode cX2_dateFlaws 31 = .ok (.iload_n 2, 1) := by decide +kernel
theorem dX2_dateFlaws_32 : decode cX2_dateFlaws 32 = .ok (.iaload, 1) := by decide +kernel
theorem dX2_dateFlaws_33 : decode cX2_dateFlaws 33 = .ok (.iload_n 1, 1) := by decide +kernel
theorem dX2_dateFlaws_34 : decode cX2_dateFlaws 34 = .ok (.ishr, 1) := by decide +kernel
theorem dX2_dateFlaws_35 : decode cX2_dateFlaws 35 = .ok (.iconst 1, 1) := by decide +kernel
theorem dX2_dateFlaws_36 : decode cX2_dateFlaws 36 = .ok (.iand, 1) := by decide +kernel
theorem dX2_dateFlaws_37 : decode cX2_dateFlaws 37 = .ok (.ifCond .eq 39, 3) := by decide +kernel
theorem dX2_dateFlaws_40 : decode cX2_dateFlaws 40 = .ok (.aload_n 0, 1) := by decide +kernel
theorem dX2_dateFlaws_41 : decode cX2_dateFlaws 41 = .ok (.getfield 22, 3) := by decide +kernel
theorem dX2_dateFlaws_44 : decode cX2_dateFlaws 44 = .ok (.iload_n 2, 1) := by decide +kernel
theorem dX2_dateFlaws_45 : decode cX2_dateFlaws 45 = .ok (.iaload, 1) := by decide +kernel
theorem dX2_dateFlaws_46 : decode cX2_dateFlaws 46 = .ok (.aload_n 0, 1) := by decide +kernel
theorem dX2_dateFlaws_47 : decode cX2_dateFlaws 47 = .ok (.getfield 28, 3) := by decide +kernel
theorem dX2_dateFlaws_50 : decode cX2_dateFlaws 50 = .ok (.iload_n 1, 1) := by decide +kernel
theorem dX2_dateFlaws_51 : decode cX2_dateFlaws 51 = .ok (.iaload, 1) := by decide +kernel
theorem dX2_dateFlaws_52 : decode cX2_dateFlaws 52 = .ok (.if_icmp .le 24, 3) := by decide +kernel
theorem dX2_dateFlaws_55 : decode cX2_dateFlaws 55 = .ok (.aload_n 0, 1) := by decide +kernel
theorem dX2_dateFlaws_56 : decode cX2_dateFlaws 56 = .ok (.getfield 15, 3) := by decide +kernel
theorem dX2_dateFlaws_59 : decode cX2_dateFlaws 59 = .ok (.iload_n 1, 1) := by decide +kernel
theorem dX2_dateFlaws_60 : decode cX2_dateFlaws 60 = .ok (.aload_n 0, 1) := by decide +kernel
theorem dX2_dateFlaws_61 : decode cX2_dateFlaws 61 = .ok (.getfield 15, 3) := by decide +kernel
theorem dX2_dateFlaws_64 : decode cX2_dateFlaws 64 = .ok (.iload_n 1, 1) := by decide +kernel
theorem dX2_dateFlaws_65 : decode cX2_dateFlaws 65 = .ok (.iaload, 1) := by decide +kernel
theorem dX2_dateFlaws_66 : decode cX2_dateFlaws 66 = .ok (.aload_n 0, 1) := by decide +kernel
theorem dX2_dateFlaws_67 : decode cX2_dateFlaws 67 = .ok (.getfield 22, 3) := by decide +kernel
theorem dX2_dateFlaws_70 : decode cX2_dateFlaws 70 = .ok (.iload_n 2, 1) := by decide +kernel
theorem dX2_dateFlaws_71 : decode cX2_dateFlaws 71 = .ok (.iaload, 1) := by decide +kernel
theorem dX2_dateFlaws_72 : decode cX2_dateFlaws 72 = .ok (.invokestatic 48, 3) := by decide +kernel
theorem dX2_dateFlaws_75 : decode cX2_dateFlaws 75 = .ok (.iastore, 1) := by decide +kernel
theorem dX2_dateFlaws_76 : decode cX2_dateFlaws 76 = .ok (.iinc 2 1, 3) := by decide +kernel
theorem dX2_dateFlaws_79 : decode cX2_dateFlaws 79 = .ok (.goto (-60), 3) := by decide +kernel
theorem dX2_dateFlaws_82 : decode cX2_dateFlaws 82 = .ok (.iinc 1 1, 3) := by decide +kernel
theorem dX2_dateFlaws_85 : decode cX2_dateFlaws 85 = .ok (.goto (-83), 3) := by decide +kernel
noncomputable def fX2_dateFlaws_19 (l1 : Int32) (i_ : Nat) (a_ : zc_N) : zc_N := (if ((zshr ((a_ 30) (nI i_).toNatClampNeg) l1) &&& (1 : Int32)) = (0 : Int32) then a_ else (if ((a_ 29) (nI i_).toNatClampNeg) ≤ ((a_ 31) l1.toNatClampNeg) then a_ else (zu a_ 28 (zu (a_ 28) l1.toNatClampNeg (if ((a_ 29) (nI i_).toNatClampNeg) < ((a_ 28) l1.toNatClampNeg) then ((a_ 29) (nI i_).toNatClampNeg) else ((a_ 28) l1.toNatClampNeg))))))
def qX2_dateFlaws_19 (l1 : Int32) (i_ : Nat) (a_ : zc_N) : Prop := (vp_in (nI i_) 24 ∧ ((((zshr ((a_ 30) (nI i_).toNatClampNeg) l1) &&& (1 : Int32)) = (0 : Int32) → True) ∧ (¬ ((zshr ((a_ 30) (nI i_).toNatClampNeg) l1) &&& (1 : Int32)) = (0 : Int32) → (vp_in (nI i_) 24 ∧ (vp_in l1 12 ∧ ((((a_ 29) (nI i_).toNatClampNeg) ≤ ((a_ 31) l1.toNatClampNeg) → True) ∧ (¬ ((a_ 29) (nI i_).toNatClampNeg) ≤ ((a_ 31) l1.toNatClampNeg) → (vp_in l1 12 ∧ (vp_in (nI i_) 24 ∧ vp_in l1 12)))))))))
set_option maxHeartbeats 2000000 in
theorem lpX2_dateFlaws_19 {G : zc_G} {Q : Option Value → zc_H → Prop} (P : zp) (σ : zc_N) (l1 : Int32) (n_ : Nat) (hC_ : ∀ i19_ : Nat, i19_ ≤ n_ → ((((zfor (fX2_dateFlaws_19 l1) i19_ σ) 27) 2) ≤ (nI i19_) ↔ n_ ≤ i19_)) (W1_ : ∀ i19_ : Nat, i19_ < n_ → qX2_dateFlaws_19 l1 i19_ (zfor (fX2_dateFlaws_19 l1) i19_ σ))
    (W2_ : zz G mX2_dateFlaws 1 0 0 Q 82 [some (.ref 27), some (.int l1), none] [] (hh P (zfor (fX2_dateFlaws_19 l1) n_ σ)) 0 0) :
    zz G mX2_dateFlaws 1 0 0 Q 19 [some (.ref 27), some (.int l1), some (.int (nI 0))] [] (hh P σ) 0 0 := by
  refine zfor_nI (fun i_ a_ => zz G mX2_dateFlaws 1 0 0 Q 19 [some (.ref 27), some (.int l1), some (.int i_)] [] (hh P a_) 0 0) (fX2_dateFlaws_19 l1) n_ σ (fun i_ hi_ k_ => ?_) ?_
  · have W3_ := W1_ i_ hi_
    have hD_ := hC_ i_ (Nat.le_of_lt hi_)
    generalize zfor (fX2_dateFlaws_19 l1) i_ σ = g_ at k_ W3_ hD_ ⊢
    rw [fX2_dateFlaws_19] at k_
    rw [qX2_dateFlaws_19] at W3_
    try dsimp only at W3_
    refine z_iload_n dX2_dateFlaws_19 rfl ?_
    refine z_aloadr_n dX2_dateFlaws_20 rfl ?_
    refine z_get (ci := 2) (r := (RX2, TX2, 6)) (j := 2) (v := .int ((g_ 27) 2)) dX2_dateFlaws_21 (Nat.le_of_ble_eq_true rfl) (zN rfl) rfl rfl (Nat.le_of_ble_eq_true rfl) fl_X2_19 rfl ?_
    refine z_icmp_ge (tgt := 82) dX2_dateFlaws_24 (by decide) (fun c_ => absurd c_ (fun q_ => Nat.not_le_of_lt hi_ (hD_.mp q_))) (fun c_ => ?_)
    refine z_aloadr_n dX2_dateFlaws_27 rfl ?_
    refine z_get (ci := 2) (r := (RX2, TX2, 6)) (j := 4) (v := .ref 30) dX2_dateFlaws_28 (Nat.le_of_ble_eq_true rfl) (zN rfl) rfl rfl (Nat.le_of_ble_eq_true rfl) fl_X2_25 rfl ?_
    refine z_iload_n dX2_dateFlaws_31 rfl ?_
    refine z_iald (v := ((g_ 30) (nI i_).toNatClampNeg)) dX2_dateFlaws_32 (zN rfl) rfl W3_.1 rfl ?_
    refine z_iload_n dX2_dateFlaws_33 rfl ?_
    refine z_ishr (v := (zshr ((g_ 30) (nI i_).toNatClampNeg) l1)) dX2_dateFlaws_34 rfl ?_
    refine z_iconst dX2_dateFlaws_35 k_iconst_1 ?_
    refine z_iand (v := ((zshr ((g_ 30) (nI i_).toNatClampNeg) l1) &&& (1 : Int32))) dX2_dateFlaws_36 rfl ?_
    refine z_if_eq (tgt := 76) dX2_dateFlaws_37 (by decide) (fun c_2 => ?_) (fun c_2 => ?_)
    · refine z_iinc (v := ((nI i_) + (1 : Int32))) (lv' := [some (.ref 27), some (.int l1), some (.int ((nI i_) + (1 : Int32)))]) dX2_dateFlaws_76 (Nat.le_of_ble_eq_true rfl) rfl (by rw [k_iconst_1]) rfl ?_
      refine z_goto (tgt := 19) dX2_dateFlaws_79 (by decide) ?_
      rw [nI_1]
      simpa only [if_pos c_2] using k_
    · refine z_aloadr_n dX2_dateFlaws_40 rfl ?_
      refine z_get (ci := 2) (r := (RX2, TX2, 6)) (j := 3) (v := .ref 29) dX2_dateFlaws_41 (Nat.le_of_ble_eq_true rfl) (zN rfl) rfl rfl (Nat.le_of_ble_eq_true rfl) fl_X2_22 rfl ?_
      refine z_iload_n dX2_dateFlaws_44 rfl ?_
      refine z_iald (v := ((g_ 29) (nI i_).toNatClampNeg)) dX2_dateFlaws_45 (zN rfl) rfl ((W3_.2.2 c_2).1) rfl ?_
      refine z_aloadr_n dX2_dateFlaws_46 rfl ?_
      refine z_get (ci := 2) (r := (RX2, TX2, 6)) (j := 5) (v := .ref 31) dX2_dateFlaws_47 (Nat.le_of_ble_eq_true rfl) (zN rfl) rfl rfl (Nat.le_of_ble_eq_true rfl) fl_X2_28 rfl ?_
      refine z_iload_n dX2_dateFlaws_50 rfl ?_
      refine z_iald (v := ((g_ 31) l1.toNatClampNeg)) dX2_dateFlaws_51 (zN rfl) rfl ((W3_.2.2 c_2).2.1) rfl ?_
      refine z_icmp_le (tgt := 76) dX2_dateFlaws_52 (by decide) (fun c_3 => ?_) (fun c_3 => ?_)
      · refine z_iinc (v := ((nI i_) + (1 : Int32))) (lv' := [some (.ref 27), some (.int l1), some (.int ((nI i_) + (1 : Int32)))]) dX2_dateFlaws_76 (Nat.le_of_ble_eq_true rfl) rfl (by rw [k_iconst_1]) rfl ?_
        refine z_goto (tgt := 19) dX2_dateFlaws_79 (by decide) ?_
        rw [nI_1]
        simpa only [if_neg c_2, if_pos c_3] using k_
      · refine z_aloadr_n dX2_dateFlaws_55 rfl ?_
        refine z_get (ci := 2) (r := (RX2, TX2, 6)) (j := 1) (v := .ref 28) dX2_dateFlaws_56 (Nat.le_of_ble_eq_true rfl) (zN rfl) rfl rfl (Nat.le_of_ble_eq_true rfl) fl_X2_15 rfl ?_
        refine z_iload_n dX2_dateFlaws_59 rfl ?_
        refine z_aloadr_n dX2_dateFlaws_60 rfl ?_
        refine z_get (ci := 2) (r := (RX2, TX2, 6)) (j := 1) (v := .ref 28) dX2_dateFlaws_61 (Nat.le_of_ble_eq_true rfl) (zN rfl) rfl rfl (Nat.le_of_ble_eq_true rfl) fl_X2_15 rfl ?_
        refine z_iload_n dX2_dateFlaws_64 rfl ?_
        refine z_iald (v := ((g_ 28) l1.toNatClampNeg)) dX2_dateFlaws_65 (zN rfl) rfl (((W3_.2.2 c_2).2.2.2 c_3).1) rfl ?_
        refine z_aloadr_n dX2_dateFlaws_66 rfl ?_
        refine z_get (ci := 2) (r := (RX2, TX2, 6)) (j := 3) (v := .ref 29) dX2_dateFlaws_67 (Nat.le_of_ble_eq_true rfl) (zN rfl) rfl rfl (Nat.le_of_ble_eq_true rfl) fl_X2_22 rfl ?_
        refine z_iload_n dX2_dateFlaws_70 rfl ?_
        refine z_iald (v := ((g_ 29) (nI i_).toNatClampNeg)) dX2_dateFlaws_71 (zN rfl) rfl (((W3_.2.2 c_2).2.2.2 c_3).2.1) rfl ?_
        refine z_mmin dX2_dateFlaws_72 lk_X2_48 (Nat.le_of_ble_eq_true rfl) (Nat.le_of_ble_eq_true rfl) (Nat.le_of_ble_eq_true rfl) (Nat.le_of_ble_eq_true rfl) ?_
        refine z_iast (σ' := (zu g_ 28 (zu (g_ 28) l1.toNatClampNeg (if ((g_ 29) (nI i_).toNatClampNeg) < ((g_ 28) l1.toNatClampNeg) then ((g_ 29) (nI i_).toNatClampNeg) else ((g_ 28) l1.toNatClampNeg))))) dX2_dateFlaws_75 (Nat.le_of_ble_eq_true rfl) (zN rfl) rfl (((W3_.2.2 c_2).2.2.2 c_3).2.2) rfl ?_
        refine z_iinc (v := ((nI i_) + (1 : Int32))) (lv' := [some (.ref 27), some (.int l1), some (.int ((nI i_) + (1 : Int32)))]) dX2_dateFlaws_76 (Nat.le_of_ble_eq_true rfl) rfl (by rw [k_iconst_1]) rfl ?_
        refine z_goto (tgt := 19) dX2_dateFlaws_79 (by decide) ?_
        rw [nI_1]
        simpa only [if_neg c_2, if_neg c_3] using k_
  · have hD_ := hC_ n_ (Nat.le_refl _)
    generalize zfor (fX2_dateFlaws_19 l1) n_ σ = g_ at W2_ hD_ ⊢
    refine z_iload_n dX2_dateFlaws_19 rfl ?_
    refine z_aloadr_n dX2_dateFlaws_20 rfl ?_
    refine z_get (ci := 2) (r := (RX2, TX2, 6)) (j := 2) (v := .int ((g_ 27) 2)) dX2_dateFlaws_21 (Nat.le_of_ble_eq_true rfl) (zN rfl) rfl rfl (Nat.le_of_ble_eq_true rfl) fl_X2_19 rfl ?_
    refine z_icmp_ge (tgt := 82) dX2_dateFlaws_24 (by decide) (fun c_ => ?_) (fun c_ => absurd (hD_.mpr (Nat.le_refl _)) c_)
    exact zz_sub (lv' := [some (.ref 27), some (.int l1), none]) ⟨rfl, ⟨rfl, trivial⟩⟩ W2_

theorem dX2_dateFlaws_2 : decode cX2_dateFlaws 2 = .ok (.iload_n 1, 1) := by decide +kernel
theorem dX2_dateFlaws_3 : decode cX2_dateFlaws 3 = .ok (.bipush 12, 2) := by decide +kernel
theorem dX2_dateFlaws_5 : decode cX2_dateFlaws 5 = .ok (.if_icmp .ge 83, 3) := by decide +kernel
theorem dX2_dateFlaws_8 : decode cX2_dateFlaws 8 = .ok (.aload_n 0, 1) := by decide +kernel
theorem dX2_dateFlaws_9 : decode cX2_dateFlaws 9 = .ok (.getfield 15, 3) := by decide +kernel
theorem dX2_dateFlaws_12 : decode cX2_dateFlaws 12 = .ok (.iload_n 1, 1) := by decide +kernel
theorem dX2_dateFlaws_13 : decode cX2_dateFlaws 13 = .ok (.sipush 10000, 3) := by decide +kernel
theorem dX2_dateFlaws_16 : decode cX2_dateFlaws 16 = .ok (.iastore, 1) := by decide +kernel
theorem dX2_dateFlaws_17 : decode cX2_dateFlaws 17 = .ok (.iconst 0, 1) := by decide +kernel
theorem dX2_dateFlaws_18 : decode cX2_dateFlaws 18 = .ok (.istore_n 2, 1) := by decide +kernel
noncomputable def fX2_dateFlaws_2 (i_ : Nat) (a_ : zc_N) : zc_N := (zfor (fX2_dateFlaws_19 (nI i_)) (((((zu a_ 28 (zu (a_ 28) (nI i_).toNatClampNeg (10000 : Int32))) 27) 2)).toNatClampNeg) (zu a_ 28 (zu (a_ 28) (nI i_).toNatClampNeg (10000 : Int32))))
def qX2_dateFlaws_2 (i_ : Nat) (a_ : zc_N) : Prop := ((∀ i19_ : Nat, i19_ ≤ (((((zu a_ 28 (zu (a_ 28) (nI i_).toNatClampNeg (10000 : Int32))) 27) 2)).toNatClampNeg) → ((((zfor (fX2_dateFlaws_19 (nI i_)) i19_ (zu a_ 28 (zu (a_ 28) (nI i_).toNatClampNeg (10000 : Int32)))) 27) 2) ≤ (nI i19_) ↔ (((((zu a_ 28 (zu (a_ 28) (nI i_).toNatClampNeg (10000 : Int32))) 27) 2)).toNatClampNeg) ≤ i19_)) ∧ (∀ i19_ : Nat, i19_ < (((((zu a_ 28 (zu (a_ 28) (nI i_).toNatClampNeg (10000 : Int32))) 27) 2)).toNatClampNeg) → qX2_dateFlaws_19 (nI i_) i19_ (zfor (fX2_dateFlaws_19 (nI i_)) i19_ (zu a_ 28 (zu (a_ 28) (nI i_).toNatClampNeg (10000 : Int32))))))
set_option maxHeartbeats 2000000 in
theorem lpX2_dateFlaws_2 {G : zc_G} {Q : Option Value → zc_H → Prop} (P : zp) (σ : zc_N) (W1_ : ∀ i2_ : Nat, i2_ < 12 → qX2_dateFlaws_2 i2_ (zfor fX2_dateFlaws_2 i2_ σ))
    (W2_ : zz G mX2_dateFlaws 1 0 0 Q 88 [none, none, none] [] (hh P (zfor fX2_dateFlaws_2 12 σ)) 0 0) :
    zz G mX2_dateFlaws 1 0 0 Q 2 [some (.ref 27), some (.int (nI 0)), none] [] (hh P σ) 0 0 := by
  refine zfor_nI (fun i_ a_ => zz G mX2_dateFlaws 1 0 0 Q 2 [some (.ref 27), some (.int i_), none] [] (hh P a_) 0 0) fX2_dateFlaws_2 12 σ (fun i_ hi_ k_ => ?_) ?_
  · have W3_ := W1_ i_ hi_
    generalize zfor fX2_dateFlaws_2 i_ σ = g_ at k_ W3_ ⊢
    rw [fX2_dateFlaws_2] at k_
    rw [qX2_dateFlaws_2] at W3_
    try dsimp only at W3_
    refine z_iload_n dX2_dateFlaws_2 rfl ?_
    refine z_bipush dX2_dateFlaws_3 k_bipush_12 ?_
    refine z_icmp_ge (tgt := 88) dX2_dateFlaws_5 (by decide) (fun c_ => absurd c_ (nI_ge hi_ (by decide))) (fun c_ => ?_)
    refine z_aloadr_n dX2_dateFlaws_8 rfl ?_
    refine z_get (ci := 2) (r := (RX2, TX2, 6)) (j := 1) (v := .ref 28) dX2_dateFlaws_9 (Nat.le_of_ble_eq_true rfl) (zN rfl) rfl rfl (Nat.le_of_ble_eq_true rfl) fl_X2_15 rfl ?_
    refine z_iload_n dX2_dateFlaws_12 rfl ?_
    refine z_sipush dX2_dateFlaws_13 k_sipush_10000 ?_
    refine z_iast (σ' := (zu g_ 28 (zu (g_ 28) (nI i_).toNatClampNeg (10000 : Int32)))) dX2_dateFlaws_16 (Nat.le_of_ble_eq_true rfl) (zN rfl) rfl (vp_in_nI (Nat.lt_of_lt_of_le hi_ (Nat.le_of_ble_eq_true rfl)) (by decide)) rfl ?_
    refine z_iconst dX2_dateFlaws_17 k_iconst_0 ?_
    refine z_istore_n (lv' := [some (.ref 27), some (.int (nI i_)), some (.int (0 : Int32))]) dX2_dateFlaws_18 (Nat.le_of_ble_eq_true rfl) rfl ?_
    refine lpX2_dateFlaws_19 P (zu g_ 28 (zu (g_ 28) (nI i_).toNatClampNeg (10000 : Int32))) (nI i_) (((((zu g_ 28 (zu (g_ 28) (nI i_).toNatClampNeg (10000 : Int32))) 27) 2)).toNatClampNeg) W3_.1 W3_.2 ?_
    refine z_iinc (v := ((nI i_) + (1 : Int32))) (lv' := [some (.ref 27), some (.int ((nI i_) + (1 : Int32))), none]) dX2_dateFlaws_82 (Nat.le_of_ble_eq_true rfl) rfl (by rw [k_iconst_1]) rfl ?_
    refine z_goto (tgt := 2) dX2_dateFlaws_85 (by decide) ?_
    rw [nI_1]
    exact k_
  · generalize zfor fX2_dateFlaws_2 12 σ = g_ at W2_ ⊢
    refine z_iload_n dX2_dateFlaws_2 rfl ?_
    refine z_bipush dX2_dateFlaws_3 k_bipush_12 ?_
    refine z_icmp_ge (tgt := 88) dX2_dateFlaws_5 (by decide) (fun c_ => ?_) (fun c_ => absurd (by decide) c_)
    exact zz_sub (lv' := [none, none, none]) trivial W2_

theorem dX2_dateFlaws_0 : decode cX2_dateFlaws 0 = .ok (.iconst 0, 1) := by decide +kernel
theorem dX2_dateFlaws_1 : decode cX2_dateFlaws 1 = .ok (.istore_n 1, 1) := by decide +kernel
theorem dX2_dateFlaws_88 : decode cX2_dateFlaws 88 = .ok (.return_, 1) := by decide +kernel
def pX2_dateFlaws (σ : zc_N) : Prop := (∀ i2_ : Nat, i2_ < 12 → qX2_dateFlaws_2 i2_ (zfor fX2_dateFlaws_2 i2_ σ))
noncomputable def sX2_dateFlaws (σ : zc_N) : zc_N := (zfor fX2_dateFlaws_2 12 σ)
set_option maxHeartbeats 1000000 in
theorem ctX2_dateFlaws (P : zp) (σ : zc_N) (W_ : (pX2_dateFlaws σ)) : sp mX2_dateFlaws 1 0 0 [.ref 27] (hh P σ) (fun r_ h_ => r_ = none ∧ h_ = hh P (sX2_dateFlaws σ)) := by
  refine sp_of (lv := [some (.ref 27), none, none]) (by decide) (zcats_ok _ rfl) (Nat.le_of_ble_eq_true rfl) (zlv_ok _ 2 rfl) (fun G => ?_)
  generalize hQ_ : (fun (r_ : Option Value) (h_ : zc_H) => r_ = none ∧ h_ = hh P (sX2_dateFlaws σ)) = Q_
  unfold pX2_dateFlaws at W_
  refine z_iconst dX2_dateFlaws_0 k_iconst_0 ?_
  refine z_istore_n (lv' := [some (.ref 27), some (.int (0 : Int32)), none]) dX2_dateFlaws_1 (Nat.le_of_ble_eq_true rfl) rfl ?_
  refine lpX2_dateFlaws_2 P σ W_ ?_
  exact z_return dX2_dateFlaws_88 rfl (Nat.le_of_ble_eq_true rfl) (Nat.le_of_ble_eq_true rfl) (by rw [← hQ_]; exact ⟨rfl, (by rw [sX2_dateFlaws])⟩)

theorem dX5_bound_6 : decode cX5_bound 6 = .ok (.iload_n 3, 1) := by decide +kernel
theorem dX5_bound_7 : decode cX5_bound 7 = .ok (.aload_n 0, 1) := by decide +kernel
theorem dX5_bound_8 : decode cX5_bound 8 = .ok (.getfield 15, 3) := by decide +kernel
theorem dX5_bound_11 : decode cX5_bound 11 = .ok (.if_icmp .ge 35, 3) := by decide +kernel
theorem dX5_bound_14 : decode cX5_bound 14 = .ok (.iload_n 1, 1) := by decide +kernel
theorem dX5_bound_15 : decode cX5_bound 15 = .ok (.aload_n 0, 1) := by decide +kernel
theorem dX5_bound_16 : decode cX5_bound 16 = .ok (.getfield 9, 3) := by decide +kernel
theorem dX5_bound_19 : decode cX5_bound 19 = .ok (.iload_n 3, 1) := by decide +kernel
theorem dX5_bound_20 : decode cX5_bound 20 = .ok (.iaload, 1) := by decide +kernel
theorem dX5_bound_21 : decode cX5_bound 21 = .ok (.ifCond .eq 7, 3) := by decide +kernel
theorem dX5_bound_24 : decode cX5_bound 24 = .ok (.iconst 1, 1) := by decide +kernel
theorem dX5_bound_25 : decode cX5_bound 25 = .ok (.goto 4, 3) := by decide +kernel
theorem dX5_bound_28 : decode cX5_bound 28 = .ok (.iconst 0, 1) := by decide +kernel
theorem dX5_bound_29 : decode cX5_bound 29 = .ok (.iadd, 1) := by decide +kernel
theorem dX5_bound_30 : decode cX5_bound 30 = .ok (.istore_n 1, 1) := by decide +kernel
theorem dX5_bound_31 : decode cX5_bound 31 = .ok (.iload_n 2, 1) := by decide +kernel
theorem dX5_bound_32 : decode cX5_bound 32 = .ok (.aload_n 0, 1) := by decide +kernel
theorem dX5_bound_33 : decode cX5_bound 33 = .ok (.getfield 9, 3) := by decide +kernel
theorem dX5_bound_36 : decode cX5_bound 36 = .ok (.iload_n 3, 1) := by decide +kernel
theorem dX5_bound_37 : decode cX5_bound 37 = .ok (.iaload, 1) := by decide +kernel
theorem dX5_bound_38 : decode cX5_bound 38 = .ok (.ior, 1) := by decide +kernel
theorem dX5_bound_39 : decode cX5_bound 39 = .ok (.istore_n 2, 1) := by decide +kernel
theorem dX5_bound_40 : decode cX5_bound 40 = .ok (.iinc 3 1, 3) := by decide +kernel
theorem dX5_bound_43 : decode cX5_bound 43 = .ok (.goto (-37), 3) := by decide +kernel
theorem dX5_bound_46 : decode cX5_bound 46 = .ok (.iload_n 1, 1) := by decide +kernel
theorem dX5_bound_47 : decode cX5_bound 47 = .ok (.iload_n 2, 1) := by decide +kernel
theorem dX5_bound_48 : decode cX5_bound 48 = .ok (.invokestatic 25, 3) := by decide +kernel
theorem dX5_bound_51 : decode cX5_bound 51 = .ok (.invokestatic 31, 3) := by decide +kernel
noncomputable def fX5_bound_6 (σ : zc_N) (i_ : Nat) (a_ : Int32 × Int32) : Int32 × Int32 := ((a_.1 + (if ((σ 17) (nI i_).toNatClampNeg) = (0 : Int32) then (0 : Int32) else (1 : Int32))), (a_.2 ||| ((σ 17) (nI i_).toNatClampNeg)))
def qX5_bound_6 (i_ : Nat) (a_ : Int32 × Int32) : Prop := (vp_in (nI i_) 12 ∧ vp_in (nI i_) 12)
set_option maxHeartbeats 2000000 in
theorem lpX5_bound_6 {G : zc_G} {Q : Option Value → zc_H → Prop} (P : zp) (σ : zc_N) (l1 : Int32) (l2 : Int32) (n_ : Nat) (hC_ : ∀ i6_ : Nat, i6_ ≤ n_ → (((σ 16) 1) ≤ (nI i6_) ↔ n_ ≤ i6_)) (W1_ : ∀ i6_ : Nat, i6_ < n_ → qX5_bound_6 i6_ (zfor (fX5_bound_6 σ) i6_ (l1, l2)))
    (W2_ : zz G mX5_bound 1 0 0 Q 46 [none, some (.int (zfor (fX5_bound_6 σ) n_ (l1, l2)).1), some (.int (zfor (fX5_bound_6 σ) n_ (l1, l2)).2), none] [] (hh P σ) 0 0) :
    zz G mX5_bound 1 0 0 Q 6 [some (.ref 16), some (.int l1), some (.int l2), some (.int (nI 0))] [] (hh P σ) 0 0 := by
  refine zfor_nI (fun i_ a_ => zz G mX5_bound 1 0 0 Q 6 [some (.ref 16), some (.int a_.1), some (.int a_.2), some (.int i_)] [] (hh P σ) 0 0) (fX5_bound_6 σ) n_ (l1, l2) (fun i_ hi_ k_ => ?_) ?_
  all_goals try dsimp only
  · have W3_ := W1_ i_ hi_
    have hD_ := hC_ i_ (Nat.le_of_lt hi_)
    generalize zfor (fX5_bound_6 σ) i_ (l1, l2) = g_ at k_ W3_ hD_ ⊢
    obtain ⟨x0_, x1_⟩ := g_
    dsimp only at k_ W3_ hD_ ⊢
    rw [fX5_bound_6] at k_
    rw [qX5_bound_6] at W3_
    try dsimp only at W3_
    dsimp only at k_
    refine z_iload_n dX5_bound_6 rfl ?_
    refine z_aloadr_n dX5_bound_7 rfl ?_
    refine z_get (ci := 5) (r := (RX5, TX5, 4)) (j := 1) (v := .int ((σ 16) 1)) dX5_bound_8 (Nat.le_of_ble_eq_true rfl) (zN rfl) rfl rfl (Nat.le_of_ble_eq_true rfl) fl_X5_15 rfl ?_
    refine z_icmp_ge (tgt := 46) dX5_bound_11 (by decide) (fun c_ => absurd c_ (fun q_ => Nat.not_le_of_lt hi_ (hD_.mp q_))) (fun c_ => ?_)
    refine z_iload_n dX5_bound_14 rfl ?_
    refine z_aloadr_n dX5_bound_15 rfl ?_
    refine z_get (ci := 5) (r := (RX5, TX5, 4)) (j := 0) (v := .ref 17) dX5_bound_16 (Nat.le_of_ble_eq_true rfl) (zN rfl) rfl rfl (Nat.le_of_ble_eq_true rfl) fl_X5_9 rfl ?_
    refine z_iload_n dX5_bound_19 rfl ?_
    refine z_iald (v := ((σ 17) (nI i_).toNatClampNeg)) dX5_bound_20 (zN rfl) rfl W3_.1 rfl ?_
    have K_1 : zz G mX5_bound 1 0 0 Q 29 [some (.ref 16), none, some (.int x1_), some (.int (nI i_))] [.int (if ((σ 17) (nI i_).toNatClampNeg) = (0 : Int32) then (0 : Int32) else (1 : Int32)), .int x0_] (hh P σ) 0 0 := by
      refine z_iadd (v := (x0_ + (if ((σ 17) (nI i_).toNatClampNeg) = (0 : Int32) then (0 : Int32) else (1 : Int32)))) dX5_bound_29 rfl ?_
      refine z_istore_n (lv' := [some (.ref 16), some (.int (x0_ + (if ((σ 17) (nI i_).toNatClampNeg) = (0 : Int32) then (0 : Int32) else (1 : Int32)))), some (.int x1_), some (.int (nI i_))]) dX5_bound_30 (Nat.le_of_ble_eq_true rfl) rfl ?_
      refine z_iload_n dX5_bound_31 rfl ?_
      refine z_aloadr_n dX5_bound_32 rfl ?_
      refine z_get (ci := 5) (r := (RX5, TX5, 4)) (j := 0) (v := .ref 17) dX5_bound_33 (Nat.le_of_ble_eq_true rfl) (zN rfl) rfl rfl (Nat.le_of_ble_eq_true rfl) fl_X5_9 rfl ?_
      refine z_iload_n dX5_bound_36 rfl ?_
      refine z_iald (v := ((σ 17) (nI i_).toNatClampNeg)) dX5_bound_37 (zN rfl) rfl W3_.2 rfl ?_
      refine z_ior (v := (x1_ ||| ((σ 17) (nI i_).toNatClampNeg))) dX5_bound_38 rfl ?_
      refine z_istore_n (lv' := [some (.ref 16), some (.int (x0_ + (if ((σ 17) (nI i_).toNatClampNeg) = (0 : Int32) then (0 : Int32) else (1 : Int32)))), some (.int (x1_ ||| ((σ 17) (nI i_).toNatClampNeg))), some (.int (nI i_))]) dX5_bound_39 (Nat.le_of_ble_eq_true rfl) rfl ?_
      refine z_iinc (v := ((nI i_) + (1 : Int32))) (lv' := [some (.ref 16), some (.int (x0_ + (if ((σ 17) (nI i_).toNatClampNeg) = (0 : Int32) then (0 : Int32) else (1 : Int32)))), some (.int (x1_ ||| ((σ 17) (nI i_).toNatClampNeg))), some (.int ((nI i_) + (1 : Int32)))]) dX5_bound_40 (Nat.le_of_ble_eq_true rfl) rfl (by rw [k_iconst_1]) rfl ?_
      refine z_goto (tgt := 6) dX5_bound_43 (by decide) ?_
      rw [nI_1]
      exact k_
    refine z_if_eq (tgt := 28) dX5_bound_21 (by decide) (fun c_2 => ?_) (fun c_2 => ?_)
    · refine z_iconst dX5_bound_28 k_iconst_0 ?_
      refine zz_sub (lv' := [some (.ref 16), none, some (.int x1_), some (.int (nI i_))]) ⟨rfl, ⟨rfl, ⟨rfl, trivial⟩⟩⟩ ?_
      first | exact K_1 | simpa only [if_pos c_2] using K_1
    · refine z_iconst dX5_bound_24 k_iconst_1 ?_
      refine z_goto (tgt := 29) dX5_bound_25 (by decide) ?_
      refine zz_sub (lv' := [some (.ref 16), none, some (.int x1_), some (.int (nI i_))]) ⟨rfl, ⟨rfl, ⟨rfl, trivial⟩⟩⟩ ?_
      first | exact K_1 | simpa only [if_neg c_2] using K_1
  · have hD_ := hC_ n_ (Nat.le_refl _)
    generalize zfor (fX5_bound_6 σ) n_ (l1, l2) = g_ at W2_ hD_ ⊢
    obtain ⟨x0_, x1_⟩ := g_
    dsimp only at W2_ hD_ ⊢
    refine z_iload_n dX5_bound_6 rfl ?_
    refine z_aloadr_n dX5_bound_7 rfl ?_
    refine z_get (ci := 5) (r := (RX5, TX5, 4)) (j := 1) (v := .int ((σ 16) 1)) dX5_bound_8 (Nat.le_of_ble_eq_true rfl) (zN rfl) rfl rfl (Nat.le_of_ble_eq_true rfl) fl_X5_15 rfl ?_
    refine z_icmp_ge (tgt := 46) dX5_bound_11 (by decide) (fun c_ => ?_) (fun c_ => absurd (hD_.mpr (Nat.le_refl _)) c_)
    exact zz_sub (lv' := [none, some (.int x0_), some (.int x1_), none]) ⟨rfl, ⟨rfl, trivial⟩⟩ W2_

theorem dX5_bound_0 : decode cX5_bound 0 = .ok (.iconst 0, 1) := by decide +kernel
theorem dX5_bound_1 : decode cX5_bound 1 = .ok (.istore_n 1, 1) := by decide +kernel
theorem dX5_bound_2 : decode cX5_bound 2 = .ok (.iconst 0, 1) := by decide +kernel
theorem dX5_bound_3 : decode cX5_bound 3 = .ok (.istore_n 2, 1) := by decide +kernel
theorem dX5_bound_4 : decode cX5_bound 4 = .ok (.iconst 0, 1) := by decide +kernel
theorem dX5_bound_5 : decode cX5_bound 5 = .ok (.istore_n 3, 1) := by decide +kernel
theorem dX5_bound_54 : decode cX5_bound 54 = .ok (.ireturn, 1) := by decide +kernel
def pX5_bound (σ : zc_N) : Prop := ((∀ i6_ : Nat, i6_ ≤ ((((σ 16) 1)).toNatClampNeg) → (((σ 16) 1) ≤ (nI i6_) ↔ ((((σ 16) 1)).toNatClampNeg) ≤ i6_)) ∧ (∀ i6_ : Nat, i6_ < ((((σ 16) 1)).toNatClampNeg) → qX5_bound_6 i6_ (zfor (fX5_bound_6 σ) i6_ ((0 : Int32), (0 : Int32)))))
noncomputable def rX5_bound (σ : zc_N) : Int32 := (if (rJ6_bitCount_0f7a4 ((zfor (fX5_bound_6 σ) ((((σ 16) 1)).toNatClampNeg) ((0 : Int32), (0 : Int32))).2)) < (zfor (fX5_bound_6 σ) ((((σ 16) 1)).toNatClampNeg) ((0 : Int32), (0 : Int32))).1 then (rJ6_bitCount_0f7a4 ((zfor (fX5_bound_6 σ) ((((σ 16) 1)).toNatClampNeg) ((0 : Int32), (0 : Int32))).2)) else (zfor (fX5_bound_6 σ) ((((σ 16) 1)).toNatClampNeg) ((0 : Int32), (0 : Int32))).1)
set_option maxHeartbeats 1000000 in
theorem ctX5_bound (P : zp) (σ : zc_N) (W_ : (pX5_bound σ)) : sp mX5_bound 1 0 0 [.ref 16] (hh P σ) (fun r_ h_ => r_ = some (.int (rX5_bound σ)) ∧ h_ = hh P σ) := by
  refine sp_of (lv := [some (.ref 16), none, none, none]) (by decide) (zcats_ok _ rfl) (Nat.le_of_ble_eq_true rfl) (zlv_ok _ 3 rfl) (fun G => ?_)
  generalize hQ_ : (fun (r_ : Option Value) (h_ : zc_H) => r_ = some (.int (rX5_bound σ)) ∧ h_ = hh P σ) = Q_
  unfold pX5_bound at W_
  refine z_iconst dX5_bound_0 k_iconst_0 ?_
  refine z_istore_n (lv' := [some (.ref 16), some (.int (0 : Int32)), none, none]) dX5_bound_1 (Nat.le_of_ble_eq_true rfl) rfl ?_
  refine z_iconst dX5_bound_2 k_iconst_0 ?_
  refine z_istore_n (lv' := [some (.ref 16), some (.int (0 : Int32)), some (.int (0 : Int32)), none]) dX5_bound_3 (Nat.le_of_ble_eq_true rfl) rfl ?_
  refine z_iconst dX5_bound_4 k_iconst_0 ?_
  refine z_istore_n (lv' := [some (.ref 16), some (.int (0 : Int32)), some (.int (0 : Int32)), some (.int (0 : Int32))]) dX5_bound_5 (Nat.le_of_ble_eq_true rfl) rfl ?_
  refine lpX5_bound_6 P σ (0 : Int32) (0 : Int32) ((((σ 16) 1)).toNatClampNeg) W_.1 W_.2 ?_
  refine z_iload_n dX5_bound_46 rfl ?_
  refine z_iload_n dX5_bound_47 rfl ?_
  refine z_callS (As := [.int (zfor (fX5_bound_6 σ) ((((σ 16) 1)).toNatClampNeg) ((0 : Int32), (0 : Int32))).2]) (rest := [.int (zfor (fX5_bound_6 σ) ((((σ 16) 1)).toNatClampNeg) ((0 : Int32), (0 : Int32))).1]) (ctJ6_bitCount_0f7a4 P σ ((zfor (fX5_bound_6 σ) ((((σ 16) 1)).toNatClampNeg) ((0 : Int32), (0 : Int32))).2)) dX5_bound_48 lk_X5_25 ls_J6_bitCount_0f7a4 rfl (Nat.le_of_ble_eq_true rfl) (Nat.le_of_ble_eq_true rfl) (Nat.le_of_ble_eq_true rfl) (Nat.le_of_ble_eq_true rfl) (fun r_ h_ e_ => ?_)
  obtain ⟨e1_, e2_⟩ := e_
  subst e1_
  subst e2_
  show zz G mX5_bound 1 0 0 Q_ 51 [none, some (.int (zfor (fX5_bound_6 σ) ((((σ 16) 1)).toNatClampNeg) ((0 : Int32), (0 : Int32))).1), some (.int (zfor (fX5_bound_6 σ) ((((σ 16) 1)).toNatClampNeg) ((0 : Int32), (0 : Int32))).2), none] [.int (rJ6_bitCount_0f7a4 ((zfor (fX5_bound_6 σ) ((((σ 16) 1)).toNatClampNeg) ((0 : Int32), (0 : Int32))).2)), .int (zfor (fX5_bound_6 σ) ((((σ 16) 1)).toNatClampNeg) ((0 : Int32), (0 : Int32))).1] (hh P σ) 0 0
  refine z_mmin dX5_bound_51 lk_X5_31 (Nat.le_of_ble_eq_true rfl) (Nat.le_of_ble_eq_true rfl) (Nat.le_of_ble_eq_true rfl) (Nat.le_of_ble_eq_true rfl) ?_
  exact z_ireturn dX5_bound_54 rfl rfl (Nat.le_of_ble_eq_true rfl) (Nat.le_of_ble_eq_true rfl) (by rw [← hQ_]; exact ⟨(by rw [rX5_bound]), rfl⟩)

theorem dX9_keptBy_4 : decode cX9_keptBy 4 = .ok (.iload_n 3, 1) := by decide +kernel
theorem dX9_keptBy_5 : decode cX9_keptBy 5 = .ok (.aload_n 0, 1) := by decide +kernel
theorem dX9_keptBy_6 : decode cX9_keptBy 6 = .ok (.getfield 131, 3) := by decide +kernel
theorem dX9_keptBy_9 : decode cX9_keptBy 9 = .ok (.if_icmp .ge 27, 3) := by decide +kernel
theorem dX9_keptBy_12 : decode cX9_keptBy 12 = .ok (.iload_n 2, 1) := by decide +kernel
theorem dX9_keptBy_13 : decode cX9_keptBy 13 = .ok (.aload_n 0, 1) := by decide +kernel
theorem dX9_keptBy_14 : decode cX9_keptBy 14 = .ok (.getfield 38, 3) := by decide +kernel
theorem dX9_keptBy_17 : decode cX9_keptBy 17 = .ok (.iload_n 3, 1) := by decide +kernel
theorem dX9_keptBy_18 : decode cX9_keptBy 18 = .ok (.iaload, 1) := by decide +kernel
theorem dX9_keptBy_19 : decode cX9_keptBy 19 = .ok (.iload_n 1, 1) := by decide +kernel
theorem dX9_keptBy_20 : decode cX9_keptBy 20 = .ok (.if_icmp .ne 7, 3) := by decide +kernel
theorem dX9_keptBy_23 : decode cX9_keptBy 23 = .ok (.iconst 1, 1) := by decide +kernel
theorem dX9_keptBy_24 : decode cX9_keptBy 24 = .ok (.goto 4, 3) := by decide +kernel
theorem dX9_keptBy_27 : decode cX9_keptBy 27 = .ok (.iconst 0, 1) := by decide +kernel
theorem dX9_keptBy_28 : decode cX9_keptBy 28 = .ok (.iadd, 1) := by decide +kernel
theorem dX9_keptBy_29 : decode cX9_keptBy 29 = .ok (.istore_n 2, 1) := by decide +kernel
theorem dX9_keptBy_30 : decode cX9_keptBy 30 = .ok (.iinc 3 1, 3) := by decide +kernel
theorem dX9_keptBy_33 : decode cX9_keptBy 33 = .ok (.goto (-29), 3) := by decide +kernel
theorem dX9_keptBy_36 : decode cX9_keptBy 36 = .ok (.iload_n 2, 1) := by decide +kernel
noncomputable def fX9_keptBy_4 (σ : zc_N) (l1 : Int32) (i_ : Nat) (a_ : Int32) : Int32 := (a_ + (if ((σ 42) (nI i_).toNatClampNeg) = l1 then (1 : Int32) else (0 : Int32)))
def qX9_keptBy_4 (i_ : Nat) (a_ : Int32) : Prop := vp_in (nI i_) 24
set_option maxHeartbeats 2000000 in
theorem lpX9_keptBy_4 {G : zc_G} {Q : Option Value → zc_H → Prop} (P : zp) (σ : zc_N) (l1 : Int32) (l2 : Int32) (n_ : Nat) (hC_ : ∀ i4_ : Nat, i4_ ≤ n_ → (((σ 32) 11) ≤ (nI i4_) ↔ n_ ≤ i4_)) (W1_ : ∀ i4_ : Nat, i4_ < n_ → qX9_keptBy_4 i4_ (zfor (fX9_keptBy_4 σ l1) i4_ l2))
    (W2_ : zz G mX9_keptBy 0 0 0 Q 36 [none, none, some (.int (zfor (fX9_keptBy_4 σ l1) n_ l2)), none] [] (hh P σ) 0 0) :
    zz G mX9_keptBy 0 0 0 Q 4 [some (.ref 32), some (.int l1), some (.int l2), some (.int (nI 0))] [] (hh P σ) 0 0 := by
  refine zfor_nI (fun i_ a_ => zz G mX9_keptBy 0 0 0 Q 4 [some (.ref 32), some (.int l1), some (.int a_), some (.int i_)] [] (hh P σ) 0 0) (fX9_keptBy_4 σ l1) n_ l2 (fun i_ hi_ k_ => ?_) ?_
  · have W3_ := W1_ i_ hi_
    have hD_ := hC_ i_ (Nat.le_of_lt hi_)
    generalize zfor (fX9_keptBy_4 σ l1) i_ l2 = g_ at k_ W3_ hD_ ⊢
    rw [fX9_keptBy_4] at k_
    rw [qX9_keptBy_4] at W3_
    try dsimp only at W3_
    refine z_iload_n dX9_keptBy_4 rfl ?_
    refine z_aloadr_n dX9_keptBy_5 rfl ?_
    refine z_get (ci := 9) (r := (RX9, TX9, 38)) (j := 11) (v := .int ((σ 32) 11)) dX9_keptBy_6 (Nat.le_of_ble_eq_true rfl) (zN rfl) rfl rfl (Nat.le_of_ble_eq_true rfl) fl_X9_131 rfl ?_
    refine z_icmp_ge (tgt := 36) dX9_keptBy_9 (by decide) (fun c_ => absurd c_ (fun q_ => Nat.not_le_of_lt hi_ (hD_.mp q_))) (fun c_ => ?_)
    refine z_iload_n dX9_keptBy_12 rfl ?_
    refine z_aloadr_n dX9_keptBy_13 rfl ?_
    refine z_get (ci := 9) (r := (RX9, TX9, 38)) (j := 9) (v := .ref 42) dX9_keptBy_14 (Nat.le_of_ble_eq_true rfl) (zN rfl) rfl rfl (Nat.le_of_ble_eq_true rfl) fl_X9_38 rfl ?_
    refine z_iload_n dX9_keptBy_17 rfl ?_
    refine z_iald (v := ((σ 42) (nI i_).toNatClampNeg)) dX9_keptBy_18 (zN rfl) rfl W3_ rfl ?_
    refine z_iload_n dX9_keptBy_19 rfl ?_
    have K_1 : zz G mX9_keptBy 0 0 0 Q 28 [some (.ref 32), some (.int l1), none, some (.int (nI i_))] [.int (if ((σ 42) (nI i_).toNatClampNeg) = l1 then (1 : Int32) else (0 : Int32)), .int g_] (hh P σ) 0 0 := by
      refine z_iadd (v := (g_ + (if ((σ 42) (nI i_).toNatClampNeg) = l1 then (1 : Int32) else (0 : Int32)))) dX9_keptBy_28 rfl ?_
      refine z_istore_n (lv' := [some (.ref 32), some (.int l1), some (.int (g_ + (if ((σ 42) (nI i_).toNatClampNeg) = l1 then (1 : Int32) else (0 : Int32)))), some (.int (nI i_))]) dX9_keptBy_29 (Nat.le_of_ble_eq_true rfl) rfl ?_
      refine z_iinc (v := ((nI i_) + (1 : Int32))) (lv' := [some (.ref 32), some (.int l1), some (.int (g_ + (if ((σ 42) (nI i_).toNatClampNeg) = l1 then (1 : Int32) else (0 : Int32)))), some (.int ((nI i_) + (1 : Int32)))]) dX9_keptBy_30 (Nat.le_of_ble_eq_true rfl) rfl (by rw [k_iconst_1]) rfl ?_
      refine z_goto (tgt := 4) dX9_keptBy_33 (by decide) ?_
      rw [nI_1]
      exact k_
    refine z_icmp_ne (tgt := 27) dX9_keptBy_20 (by decide) (fun c_2 => ?_) (fun c_2 => ?_)
    · refine z_iconst dX9_keptBy_27 k_iconst_0 ?_
      refine zz_sub (lv' := [some (.ref 32), some (.int l1), none, some (.int (nI i_))]) ⟨rfl, ⟨rfl, ⟨rfl, trivial⟩⟩⟩ ?_
      first | exact K_1 | simpa only [if_neg c_2] using K_1
    · refine z_iconst dX9_keptBy_23 k_iconst_1 ?_
      refine z_goto (tgt := 28) dX9_keptBy_24 (by decide) ?_
      refine zz_sub (lv' := [some (.ref 32), some (.int l1), none, some (.int (nI i_))]) ⟨rfl, ⟨rfl, ⟨rfl, trivial⟩⟩⟩ ?_
      first | exact K_1 | simpa only [if_pos c_2] using K_1
  · have hD_ := hC_ n_ (Nat.le_refl _)
    generalize zfor (fX9_keptBy_4 σ l1) n_ l2 = g_ at W2_ hD_ ⊢
    refine z_iload_n dX9_keptBy_4 rfl ?_
    refine z_aloadr_n dX9_keptBy_5 rfl ?_
    refine z_get (ci := 9) (r := (RX9, TX9, 38)) (j := 11) (v := .int ((σ 32) 11)) dX9_keptBy_6 (Nat.le_of_ble_eq_true rfl) (zN rfl) rfl rfl (Nat.le_of_ble_eq_true rfl) fl_X9_131 rfl ?_
    refine z_icmp_ge (tgt := 36) dX9_keptBy_9 (by decide) (fun c_ => ?_) (fun c_ => absurd (hD_.mpr (Nat.le_refl _)) c_)
    exact zz_sub (lv' := [none, none, some (.int g_), none]) ⟨rfl, trivial⟩ W2_

theorem dX9_keptBy_0 : decode cX9_keptBy 0 = .ok (.iconst 0, 1) := by decide +kernel
theorem dX9_keptBy_1 : decode cX9_keptBy 1 = .ok (.istore_n 2, 1) := by decide +kernel
theorem dX9_keptBy_2 : decode cX9_keptBy 2 = .ok (.iconst 0, 1) := by decide +kernel
theorem dX9_keptBy_3 : decode cX9_keptBy 3 = .ok (.istore_n 3, 1) := by decide +kernel
theorem dX9_keptBy_37 : decode cX9_keptBy 37 = .ok (.ireturn, 1) := by decide +kernel
def pX9_keptBy (σ : zc_N) (a1 : Int32) : Prop := ((∀ i4_ : Nat, i4_ ≤ ((((σ 32) 11)).toNatClampNeg) → (((σ 32) 11) ≤ (nI i4_) ↔ ((((σ 32) 11)).toNatClampNeg) ≤ i4_)) ∧ (∀ i4_ : Nat, i4_ < ((((σ 32) 11)).toNatClampNeg) → qX9_keptBy_4 i4_ (zfor (fX9_keptBy_4 σ a1) i4_ (0 : Int32))))
noncomputable def rX9_keptBy (σ : zc_N) (a1 : Int32) : Int32 := (zfor (fX9_keptBy_4 σ a1) ((((σ 32) 11)).toNatClampNeg) (0 : Int32))
set_option maxHeartbeats 1000000 in
theorem ctX9_keptBy (P : zp) (σ : zc_N) (a1 : Int32) (W_ : (pX9_keptBy σ a1)) : sp mX9_keptBy 0 0 0 [.ref 32, .int a1] (hh P σ) (fun r_ h_ => r_ = some (.int (rX9_keptBy σ a1)) ∧ h_ = hh P σ) := by
  refine sp_of (lv := [some (.ref 32), some (.int a1), none, none]) (by decide) (zcats_ok _ rfl) (Nat.le_of_ble_eq_true rfl) (zlv_ok _ 2 rfl) (fun G => ?_)
  generalize hQ_ : (fun (r_ : Option Value) (h_ : zc_H) => r_ = some (.int (rX9_keptBy σ a1)) ∧ h_ = hh P σ) = Q_
  unfold pX9_keptBy at W_
  refine z_iconst dX9_keptBy_0 k_iconst_0 ?_
  refine z_istore_n (lv' := [some (.ref 32), some (.int a1), some (.int (0 : Int32)), none]) dX9_keptBy_1 (Nat.le_of_ble_eq_true rfl) rfl ?_
  refine z_iconst dX9_keptBy_2 k_iconst_0 ?_
  refine z_istore_n (lv' := [some (.ref 32), some (.int a1), some (.int (0 : Int32)), some (.int (0 : Int32))]) dX9_keptBy_3 (Nat.le_of_ble_eq_true rfl) rfl ?_
  refine lpX9_keptBy_4 P σ a1 (0 : Int32) ((((σ 32) 11)).toNatClampNeg) W_.1 W_.2 ?_
  refine z_iload_n dX9_keptBy_36 rfl ?_
  exact z_ireturn dX9_keptBy_37 rfl rfl (Nat.le_of_ble_eq_true rfl) (Nat.le_of_ble_eq_true rfl) (by rw [← hQ_]; exact ⟨(by rw [rX9_keptBy]), rfl⟩)
end
section
/-! ===== printed by wip/whole/p14.py: loops that go on till something holds ===== -/
def zit {α : Type} (f : α → α) : Nat → α → α
  | 0, a => a
  | n + 1, a => f (zit f n a)
noncomputable def zwn (E : Nat → Prop) : Nat := Classical.epsilon (fun k => E k ∧ ∀ j, j < k → ¬ E j)
theorem zwn_spec {E : Nat → Prop} (h : ∃ n, E n) : E (zwn E) ∧ ∀ j, j < zwn E → ¬ E j := by
  obtain ⟨k, hk, hm⟩ := pk_least E h
  exact Classical.epsilon_spec (p := fun k => E k ∧ ∀ j, j < k → ¬ E j) ⟨k, hk, hm⟩
theorem zit_Z {α : Type} (Z : α → Prop) (f : α → α) (N : Nat) (a : α) (hs : ∀ i : Nat, i < N → Z (f (zit f i a)) → Z (zit f i a)) (hx : Z (zit f N a)) : Z a := by
  have key : ∀ k : Nat, k ≤ N → Z (zit f k a) := by
    intro k hk
    obtain ⟨j, rfl⟩ : ∃ j, N = k + j := ⟨N - k, by omega⟩
    induction j generalizing k with
    | zero => exact hx
    | succ j ih =>
      refine hs k (by omega) ?_
      have e : k + (j + 1) = k + 1 + j := by omega
      exact ih (k + 1) (fun i hi => hs i (by omega)) (by rw [← e]; exact hx) (by omega)
  exact key 0 (Nat.zero_le N)
theorem ex_l {c A B : Prop} (h : (c ∧ A) ∨ (¬ c ∧ B)) (hc : c) : A := by
  rcases h with h | h
  · exact h.2
  · exact absurd hc h.1
theorem ex_r {c A B : Prop} (h : (c ∧ A) ∨ (¬ c ∧ B)) (hc : ¬ c) : B := by
  rcases h with h | h
  · exact absurd h.1 hc
  · exact h.2

theorem dX9_hangTogether_80 : decode cX9_hangTogether 80 = .ok (.iload 7, 2) := by decide +kernel
theorem dX9_hangTogether_82 : decode cX9_hangTogether 82 = .ok (.bipush 8, 2) := by decide +kernel
theorem dX9_hangTogether_84 : decode cX9_hangTogether 84 = .ok (.if_icmp .ge 114, 3) := by decide +kernel
theorem dX9_hangTogether_87 : decode cX9_hangTogether 87 = .ok (.iload 6, 2) := by decide +kernel
theorem dX9_hangTogether_89 : decode cX9_hangTogether 89 = .ok (.invokestatic 109, 3) := by decide +kernel
theorem dX9_hangTogether_92 : decode cX9_hangTogether 92 = .ok (.iload 7, 2) := by decide +kernel
theorem dX9_hangTogether_94 : decode cX9_hangTogether 94 = .ok (.invokestatic 109, 3) := by decide +kernel
theorem dX9_hangTogether_97 : decode cX9_hangTogether 97 = .ok (.isub, 1) := by decide +kernel
theorem dX9_hangTogether_98 : decode cX9_hangTogether 98 = .ok (.istore 8, 2) := by decide +kernel
theorem dX9_hangTogether_100 : decode cX9_hangTogether 100 = .ok (.iload 6, 2) := by decide +kernel
theorem dX9_hangTogether_102 : decode cX9_hangTogether 102 = .ok (.invokestatic 113, 3) := by decide +kernel
theorem dX9_hangTogether_105 : decode cX9_hangTogether 105 = .ok (.iload 7, 2) := by decide +kernel
theorem dX9_hangTogether_107 : decode cX9_hangTogether 107 = .ok (.invokestatic 113, 3) := by decide +kernel
theorem dX9_hangTogether_110 : decode cX9_hangTogether 110 = .ok (.isub, 1) := by decide +kernel
theorem dX9_hangTogether_111 : decode cX9_hangTogether 111 = .ok (.istore 9, 2) := by decide +kernel
theorem dX9_hangTogether_113 : decode cX9_hangTogether 113 = .ok (.iload 8, 2) := by decide +kernel
theorem dX9_hangTogether_115 : decode cX9_hangTogether 115 = .ok (.iconst (-1), 1) := by decide +kernel
theorem dX9_hangTogether_116 : decode cX9_hangTogether 116 = .ok (.if_icmp .lt 25, 3) := by decide +kernel
theorem dX9_hangTogether_119 : decode cX9_hangTogether 119 = .ok (.iload 8, 2) := by decide +kernel
theorem dX9_hangTogether_121 : decode cX9_hangTogether 121 = .ok (.iconst 1, 1) := by decide +kernel
theorem dX9_hangTogether_122 : decode cX9_hangTogether 122 = .ok (.if_icmp .gt 19, 3) := by decide +kernel
theorem dX9_hangTogether_125 : decode cX9_hangTogether 125 = .ok (.iload 9, 2) := by decide +kernel
theorem dX9_hangTogether_127 : decode cX9_hangTogether 127 = .ok (.iconst (-1), 1) := by decide +kernel
theorem dX9_hangTogether_128 : decode cX9_hangTogether 128 = .ok (.if_icmp .lt 13, 3) := by decide +kernel
theorem dX9_hangTogether_131 : decode cX9_hangTogether 131 = .ok (.iload 9, 2) := by decide +kernel
theorem dX9_hangTogether_133 : decode cX9_hangTogether 133 = .ok (.iconst 1, 1) := by decide +kernel
theorem dX9_hangTogether_134 : decode cX9_hangTogether 134 = .ok (.if_icmp .gt 7, 3) := by decide +kernel
theorem dX9_hangTogether_137 : decode cX9_hangTogether 137 = .ok (.iconst 1, 1) := by decide +kernel
theorem dX9_hangTogether_138 : decode cX9_hangTogether 138 = .ok (.goto 4, 3) := by decide +kernel
theorem dX9_hangTogether_141 : decode cX9_hangTogether 141 = .ok (.iconst 0, 1) := by decide +kernel
theorem dX9_hangTogether_142 : decode cX9_hangTogether 142 = .ok (.istore 10, 2) := by decide +kernel
theorem dX9_hangTogether_144 : decode cX9_hangTogether 144 = .ok (.iload 4, 2) := by decide +kernel
theorem dX9_hangTogether_146 : decode cX9_hangTogether 146 = .ok (.iload 6, 2) := by decide +kernel
theorem dX9_hangTogether_148 : decode cX9_hangTogether 148 = .ok (.ishr, 1) := by decide +kernel
theorem dX9_hangTogether_149 : decode cX9_hangTogether 149 = .ok (.iconst 1, 1) := by decide +kernel
theorem dX9_hangTogether_150 : decode cX9_hangTogether 150 = .ok (.iand, 1) := by decide +kernel
theorem dX9_hangTogether_151 : decode cX9_hangTogether 151 = .ok (.iconst 1, 1) := by decide +kernel
theorem dX9_hangTogether_152 : decode cX9_hangTogether 152 = .ok (.if_icmp .ne 40, 3) := by decide +kernel
theorem dX9_hangTogether_155 : decode cX9_hangTogether 155 = .ok (.iload_n 3, 1) := by decide +kernel
theorem dX9_hangTogether_156 : decode cX9_hangTogether 156 = .ok (.iload 7, 2) := by decide +kernel
theorem dX9_hangTogether_158 : decode cX9_hangTogether 158 = .ok (.ishr, 1) := by decide +kernel
theorem dX9_hangTogether_159 : decode cX9_hangTogether 159 = .ok (.iconst 1, 1) := by decide +kernel
theorem dX9_hangTogether_160 : decode cX9_hangTogether 160 = .ok (.iand, 1) := by decide +kernel
theorem dX9_hangTogether_161 : decode cX9_hangTogether 161 = .ok (.iconst 1, 1) := by decide +kernel
theorem dX9_hangTogether_162 : decode cX9_hangTogether 162 = .ok (.if_icmp .ne 30, 3) := by decide +kernel
theorem dX9_hangTogether_165 : decode cX9_hangTogether 165 = .ok (.iload 4, 2) := by decide +kernel
theorem dX9_hangTogether_167 : decode cX9_hangTogether 167 = .ok (.iload 7, 2) := by decide +kernel
theorem dX9_hangTogether_169 : decode cX9_hangTogether 169 = .ok (.ishr, 1) := by decide +kernel
theorem dX9_hangTogether_170 : decode cX9_hangTogether 170 = .ok (.iconst 1, 1) := by decide +kernel
theorem dX9_hangTogether_171 : decode cX9_hangTogether 171 = .ok (.iand, 1) := by decide +kernel
theorem dX9_hangTogether_172 : decode cX9_hangTogether 172 = .ok (.ifCond .ne 20, 3) := by decide +kernel
theorem dX9_hangTogether_175 : decode cX9_hangTogether 175 = .ok (.iload 10, 2) := by decide +kernel
theorem dX9_hangTogether_177 : decode cX9_hangTogether 177 = .ok (.ifCond .eq 15, 3) := by decide +kernel
theorem dX9_hangTogether_180 : decode cX9_hangTogether 180 = .ok (.iload 4, 2) := by decide +kernel
theorem dX9_hangTogether_182 : decode cX9_hangTogether 182 = .ok (.iconst 1, 1) := by decide +kernel
theorem dX9_hangTogether_183 : decode cX9_hangTogether 183 = .ok (.iload 7, 2) := by decide +kernel
theorem dX9_hangTogether_185 : decode cX9_hangTogether 185 = .ok (.ishl, 1) := by decide +kernel
theorem dX9_hangTogether_186 : decode cX9_hangTogether 186 = .ok (.ior, 1) := by decide +kernel
theorem dX9_hangTogether_187 : decode cX9_hangTogether 187 = .ok (.istore 4, 2) := by decide +kernel
theorem dX9_hangTogether_189 : decode cX9_hangTogether 189 = .ok (.iconst 1, 1) := by decide +kernel
theorem dX9_hangTogether_190 : decode cX9_hangTogether 190 = .ok (.istore 5, 2) := by decide +kernel
theorem dX9_hangTogether_192 : decode cX9_hangTogether 192 = .ok (.iinc 7 1, 3) := by decide +kernel
theorem dX9_hangTogether_195 : decode cX9_hangTogether 195 = .ok (.goto (-115), 3) := by decide +kernel
theorem dX9_hangTogether_198 : decode cX9_hangTogether 198 = .ok (.iinc 6 1, 3) := by decide +kernel
theorem dX9_hangTogether_201 : decode cX9_hangTogether 201 = .ok (.goto (-131), 3) := by decide +kernel
noncomputable def fX9_hangTogether_80 (l3 : Int32) (l6 : Int32) (i_ : Nat) (a_ : Int32 × Int32) : Int32 × Int32 := ((if ((zshr a_.1 l6) &&& (1 : Int32)) = (1 : Int32) then (if ((zshr l3 (nI i_)) &&& (1 : Int32)) = (1 : Int32) then (if ((zshr a_.1 (nI i_)) &&& (1 : Int32)) = (0 : Int32) then (if (if ((rX9_stepX l6) - (rX9_stepX (nI i_))) < (-1 : Int32) then (0 : Int32) else (if (1 : Int32) < ((rX9_stepX l6) - (rX9_stepX (nI i_))) then (0 : Int32) else (if ((rX9_stepY l6) - (rX9_stepY (nI i_))) < (-1 : Int32) then (0 : Int32) else (if (1 : Int32) < ((rX9_stepY l6) - (rX9_stepY (nI i_))) then (0 : Int32) else (1 : Int32))))) = (0 : Int32) then a_.1 else (a_.1 ||| (zshl (1 : Int32) (nI i_)))) else a_.1) else a_.1) else a_.1), (if ((zshr a_.1 l6) &&& (1 : Int32)) = (1 : Int32) then (if ((zshr l3 (nI i_)) &&& (1 : Int32)) = (1 : Int32) then (if ((zshr a_.1 (nI i_)) &&& (1 : Int32)) = (0 : Int32) then (if (if ((rX9_stepX l6) - (rX9_stepX (nI i_))) < (-1 : Int32) then (0 : Int32) else (if (1 : Int32) < ((rX9_stepX l6) - (rX9_stepX (nI i_))) then (0 : Int32) else (if ((rX9_stepY l6) - (rX9_stepY (nI i_))) < (-1 : Int32) then (0 : Int32) else (if (1 : Int32) < ((rX9_stepY l6) - (rX9_stepY (nI i_))) then (0 : Int32) else (1 : Int32))))) = (0 : Int32) then a_.2 else (1 : Int32)) else a_.2) else a_.2) else a_.2))
set_option maxHeartbeats 2000000 in
theorem lpX9_hangTogether_80 {G : zc_G} {Q : Option Value → zc_H → Prop} (P : zp) (σ : zc_N) (l3 : Int32) (l4 : Int32) (l5 : Int32) (l6 : Int32)
    (W2_ : zz G mX9_hangTogether 1 0 0 Q 198 [none, none, none, some (.int l3), some (.int (zfor (fX9_hangTogether_80 l3 l6) 8 (l4, l5)).1), some (.int (zfor (fX9_hangTogether_80 l3 l6) 8 (l4, l5)).2), some (.int l6), none, none, none, none] [] (hh P σ) 0 0) :
    zz G mX9_hangTogether 1 0 0 Q 80 [none, none, none, some (.int l3), some (.int l4), some (.int l5), some (.int l6), some (.int (nI 0)), none, none, none] [] (hh P σ) 0 0 := by
  refine zfor_nI (fun i_ a_ => zz G mX9_hangTogether 1 0 0 Q 80 [none, none, none, some (.int l3), some (.int a_.1), some (.int a_.2), some (.int l6), some (.int i_), none, none, none] [] (hh P σ) 0 0) (fX9_hangTogether_80 l3 l6) 8 (l4, l5) (fun i_ hi_ k_ => ?_) ?_
  all_goals try dsimp only
  · generalize zfor (fX9_hangTogether_80 l3 l6) i_ (l4, l5) = g_ at k_ ⊢
    obtain ⟨x0_, x1_⟩ := g_
    dsimp only at k_ ⊢
    rw [fX9_hangTogether_80] at k_
    dsimp only at k_
    refine z_iload dX9_hangTogether_80 rfl ?_
    refine z_bipush dX9_hangTogether_82 k_bipush_8 ?_
    refine z_icmp_ge (tgt := 198) dX9_hangTogether_84 (by decide) (fun c_ => absurd c_ (nI_ge hi_ (by decide))) (fun c_ => ?_)
    refine z_iload dX9_hangTogether_87 rfl ?_
    refine z_callS (As := [.int l6]) (rest := []) (ctX9_stepX P σ l6) dX9_hangTogether_89 lk_X9_109 ls_X9_stepX rfl (Nat.le_of_ble_eq_true rfl) (Nat.le_of_ble_eq_true rfl) (Nat.le_of_ble_eq_true rfl) (Nat.le_of_ble_eq_true rfl) (fun r_ h_ e_ => ?_)
    obtain ⟨e1_, e2_⟩ := e_
    subst e1_
    subst e2_
    show zz G mX9_hangTogether 1 0 0 Q 92 [none, none, none, some (.int l3), some (.int x0_), some (.int x1_), some (.int l6), some (.int (nI i_)), none, none, none] [.int (rX9_stepX l6)] (hh P σ) 0 0
    refine z_iload dX9_hangTogether_92 rfl ?_
    refine z_callS (As := [.int (nI i_)]) (rest := [.int (rX9_stepX l6)]) (ctX9_stepX P σ (nI i_)) dX9_hangTogether_94 lk_X9_109 ls_X9_stepX rfl (Nat.le_of_ble_eq_true rfl) (Nat.le_of_ble_eq_true rfl) (Nat.le_of_ble_eq_true rfl) (Nat.le_of_ble_eq_true rfl) (fun r_ h_ e_ => ?_)
    obtain ⟨e1_, e2_⟩ := e_
    subst e1_
    subst e2_
    show zz G mX9_hangTogether 1 0 0 Q 97 [none, none, none, some (.int l3), some (.int x0_), some (.int x1_), some (.int l6), some (.int (nI i_)), none, none, none] [.int (rX9_stepX (nI i_)), .int (rX9_stepX l6)] (hh P σ) 0 0
    refine z_isub (v := ((rX9_stepX l6) - (rX9_stepX (nI i_)))) dX9_hangTogether_97 rfl ?_
    refine z_istore (lv' := [none, none, none, some (.int l3), some (.int x0_), some (.int x1_), some (.int l6), some (.int (nI i_)), some (.int ((rX9_stepX l6) - (rX9_stepX (nI i_)))), none, none]) dX9_hangTogether_98 (Nat.le_of_ble_eq_true rfl) rfl ?_
    refine z_iload dX9_hangTogether_100 rfl ?_
    refine z_callS (As := [.int l6]) (rest := []) (ctX9_stepY P σ l6) dX9_hangTogether_102 lk_X9_113 ls_X9_stepY rfl (Nat.le_of_ble_eq_true rfl) (Nat.le_of_ble_eq_true rfl) (Nat.le_of_ble_eq_true rfl) (Nat.le_of_ble_eq_true rfl) (fun r_ h_ e_ => ?_)
    obtain ⟨e1_, e2_⟩ := e_
    subst e1_
    subst e2_
    show zz G mX9_hangTogether 1 0 0 Q 105 [none, none, none, some (.int l3), some (.int x0_), some (.int x1_), some (.int l6), some (.int (nI i_)), some (.int ((rX9_stepX l6) - (rX9_stepX (nI i_)))), none, none] [.int (rX9_stepY l6)] (hh P σ) 0 0
    refine z_iload dX9_hangTogether_105 rfl ?_
    refine z_callS (As := [.int (nI i_)]) (rest := [.int (rX9_stepY l6)]) (ctX9_stepY P σ (nI i_)) dX9_hangTogether_107 lk_X9_113 ls_X9_stepY rfl (Nat.le_of_ble_eq_true rfl) (Nat.le_of_ble_eq_true rfl) (Nat.le_of_ble_eq_true rfl) (Nat.le_of_ble_eq_true rfl) (fun r_ h_ e_ => ?_)
    obtain ⟨e1_, e2_⟩ := e_
    subst e1_
    subst e2_
    show zz G mX9_hangTogether 1 0 0 Q 110 [none, none, none, some (.int l3), some (.int x0_), some (.int x1_), some (.int l6), some (.int (nI i_)), some (.int ((rX9_stepX l6) - (rX9_stepX (nI i_)))), none, none] [.int (rX9_stepY (nI i_)), .int (rX9_stepY l6)] (hh P σ) 0 0
    refine z_isub (v := ((rX9_stepY l6) - (rX9_stepY (nI i_)))) dX9_hangTogether_110 rfl ?_
    refine z_istore (lv' := [none, none, none, some (.int l3), some (.int x0_), some (.int x1_), some (.int l6), some (.int (nI i_)), some (.int ((rX9_stepX l6) - (rX9_stepX (nI i_)))), some (.int ((rX9_stepY l6) - (rX9_stepY (nI i_)))), none]) dX9_hangTogether_111 (Nat.le_of_ble_eq_true rfl) rfl ?_
    refine z_iload dX9_hangTogether_113 rfl ?_
    refine z_iconst dX9_hangTogether_115 k_iconst_m1 ?_
    have K_1 : zz G mX9_hangTogether 1 0 0 Q 142 [none, none, none, some (.int l3), some (.int x0_), some (.int x1_), some (.int l6), some (.int (nI i_)), none, none, none] [.int (if ((rX9_stepX l6) - (rX9_stepX (nI i_))) < (-1 : Int32) then (0 : Int32) else (if (1 : Int32) < ((rX9_stepX l6) - (rX9_stepX (nI i_))) then (0 : Int32) else (if ((rX9_stepY l6) - (rX9_stepY (nI i_))) < (-1 : Int32) then (0 : Int32) else (if (1 : Int32) < ((rX9_stepY l6) - (rX9_stepY (nI i_))) then (0 : Int32) else (1 : Int32)))))] (hh P σ) 0 0 := by
      refine z_istore (lv' := [none, none, none, some (.int l3), some (.int x0_), some (.int x1_), some (.int l6), some (.int (nI i_)), none, none, some (.int (if ((rX9_stepX l6) - (rX9_stepX (nI i_))) < (-1 : Int32) then (0 : Int32) else (if (1 : Int32) < ((rX9_stepX l6) - (rX9_stepX (nI i_))) then (0 : Int32) else (if ((rX9_stepY l6) - (rX9_stepY (nI i_))) < (-1 : Int32) then (0 : Int32) else (if (1 : Int32) < ((rX9_stepY l6) - (rX9_stepY (nI i_))) then (0 : Int32) else (1 : Int32))))))]) dX9_hangTogether_142 (Nat.le_of_ble_eq_true rfl) rfl ?_
      refine z_iload dX9_hangTogether_144 rfl ?_
      refine z_iload dX9_hangTogether_146 rfl ?_
      refine z_ishr (v := (zshr x0_ l6)) dX9_hangTogether_148 rfl ?_
      refine z_iconst dX9_hangTogether_149 k_iconst_1 ?_
      refine z_iand (v := ((zshr x0_ l6) &&& (1 : Int32))) dX9_hangTogether_150 rfl ?_
      refine z_iconst dX9_hangTogether_151 k_iconst_1 ?_
      have K_2 : zz G mX9_hangTogether 1 0 0 Q 192 [none, none, none, some (.int l3), some (.int (if ((zshr x0_ l6) &&& (1 : Int32)) = (1 : Int32) then (if ((zshr l3 (nI i_)) &&& (1 : Int32)) = (1 : Int32) then (if ((zshr x0_ (nI i_)) &&& (1 : Int32)) = (0 : Int32) then (if (if ((rX9_stepX l6) - (rX9_stepX (nI i_))) < (-1 : Int32) then (0 : Int32) else (if (1 : Int32) < ((rX9_stepX l6) - (rX9_stepX (nI i_))) then (0 : Int32) else (if ((rX9_stepY l6) - (rX9_stepY (nI i_))) < (-1 : Int32) then (0 : Int32) else (if (1 : Int32) < ((rX9_stepY l6) - (rX9_stepY (nI i_))) then (0 : Int32) else (1 : Int32))))) = (0 : Int32) then x0_ else (x0_ ||| (zshl (1 : Int32) (nI i_)))) else x0_) else x0_) else x0_)), some (.int (if ((zshr x0_ l6) &&& (1 : Int32)) = (1 : Int32) then (if ((zshr l3 (nI i_)) &&& (1 : Int32)) = (1 : Int32) then (if ((zshr x0_ (nI i_)) &&& (1 : Int32)) = (0 : Int32) then (if (if ((rX9_stepX l6) - (rX9_stepX (nI i_))) < (-1 : Int32) then (0 : Int32) else (if (1 : Int32) < ((rX9_stepX l6) - (rX9_stepX (nI i_))) then (0 : Int32) else (if ((rX9_stepY l6) - (rX9_stepY (nI i_))) < (-1 : Int32) then (0 : Int32) else (if (1 : Int32) < ((rX9_stepY l6) - (rX9_stepY (nI i_))) then (0 : Int32) else (1 : Int32))))) = (0 : Int32) then x1_ else (1 : Int32)) else x1_) else x1_) else x1_)), some (.int l6), some (.int (nI i_)), none, none, none] [] (hh P σ) 0 0 := by
        refine z_iinc (v := ((nI i_) + (1 : Int32))) (lv' := [none, none, none, some (.int l3), some (.int (if ((zshr x0_ l6) &&& (1 : Int32)) = (1 : Int32) then (if ((zshr l3 (nI i_)) &&& (1 : Int32)) = (1 : Int32) then (if ((zshr x0_ (nI i_)) &&& (1 : Int32)) = (0 : Int32) then (if (if ((rX9_stepX l6) - (rX9_stepX (nI i_))) < (-1 : Int32) then (0 : Int32) else (if (1 : Int32) < ((rX9_stepX l6) - (rX9_stepX (nI i_))) then (0 : Int32) else (if ((rX9_stepY l6) - (rX9_stepY (nI i_))) < (-1 : Int32) then (0 : Int32) else (if (1 : Int32) < ((rX9_stepY l6) - (rX9_stepY (nI i_))) then (0 : Int32) else (1 : Int32))))) = (0 : Int32) then x0_ else (x0_ ||| (zshl (1 : Int32) (nI i_)))) else x0_) else x0_) else x0_)), some (.int (if ((zshr x0_ l6) &&& (1 : Int32)) = (1 : Int32) then (if ((zshr l3 (nI i_)) &&& (1 : Int32)) = (1 : Int32) then (if ((zshr x0_ (nI i_)) &&& (1 : Int32)) = (0 : Int32) then (if (if ((rX9_stepX l6) - (rX9_stepX (nI i_))) < (-1 : Int32) then (0 : Int32) else (if (1 : Int32) < ((rX9_stepX l6) - (rX9_stepX (nI i_))) then (0 : Int32) else (if ((rX9_stepY l6) - (rX9_stepY (nI i_))) < (-1 : Int32) then (0 : Int32) else (if (1 : Int32) < ((rX9_stepY l6) - (rX9_stepY (nI i_))) then (0 : Int32) else (1 : Int32))))) = (0 : Int32) then x1_ else (1 : Int32)) else x1_) else x1_) else x1_)), some (.int l6), some (.int ((nI i_) + (1 : Int32))), none, none, none]) dX9_hangTogether_192 (Nat.le_of_ble_eq_true rfl) rfl (by rw [k_iconst_1]) rfl ?_
        refine z_goto (tgt := 80) dX9_hangTogether_195 (by decide) ?_
        rw [nI_1]
        exact k_
      refine z_icmp_ne (tgt := 192) dX9_hangTogether_152 (by decide) (fun c_6 => ?_) (fun c_6 => ?_)
      · refine zz_sub (lv' := [none, none, none, some (.int l3), some (.int x0_), some (.int x1_), some (.int l6), some (.int (nI i_)), none, none, none]) ⟨rfl, ⟨rfl, ⟨rfl, ⟨rfl, ⟨rfl, trivial⟩⟩⟩⟩⟩ ?_
        first | exact K_2 | simpa only [if_neg c_6] using K_2
      · refine z_iload_n dX9_hangTogether_155 rfl ?_
        refine z_iload dX9_hangTogether_156 rfl ?_
        refine z_ishr (v := (zshr l3 (nI i_))) dX9_hangTogether_158 rfl ?_
        refine z_iconst dX9_hangTogether_159 k_iconst_1 ?_
        refine z_iand (v := ((zshr l3 (nI i_)) &&& (1 : Int32))) dX9_hangTogether_160 rfl ?_
        refine z_iconst dX9_hangTogether_161 k_iconst_1 ?_
        refine z_icmp_ne (tgt := 192) dX9_hangTogether_162 (by decide) (fun c_7 => ?_) (fun c_7 => ?_)
        · refine zz_sub (lv' := [none, none, none, some (.int l3), some (.int x0_), some (.int x1_), some (.int l6), some (.int (nI i_)), none, none, none]) ⟨rfl, ⟨rfl, ⟨rfl, ⟨rfl, ⟨rfl, trivial⟩⟩⟩⟩⟩ ?_
          first | exact K_2 | simpa only [if_pos c_6, if_neg c_7] using K_2
        · refine z_iload dX9_hangTogether_165 rfl ?_
          refine z_iload dX9_hangTogether_167 rfl ?_
          refine z_ishr (v := (zshr x0_ (nI i_))) dX9_hangTogether_169 rfl ?_
          refine z_iconst dX9_hangTogether_170 k_iconst_1 ?_
          refine z_iand (v := ((zshr x0_ (nI i_)) &&& (1 : Int32))) dX9_hangTogether_171 rfl ?_
          refine z_if_ne (tgt := 192) dX9_hangTogether_172 (by decide) (fun c_8 => ?_) (fun c_8 => ?_)
          · refine zz_sub (lv' := [none, none, none, some (.int l3), some (.int x0_), some (.int x1_), some (.int l6), some (.int (nI i_)), none, none, none]) ⟨rfl, ⟨rfl, ⟨rfl, ⟨rfl, ⟨rfl, trivial⟩⟩⟩⟩⟩ ?_
            first | exact K_2 | simpa only [if_pos c_6, if_pos c_7, if_neg c_8] using K_2
          · refine z_iload dX9_hangTogether_175 rfl ?_
            refine z_if_eq (tgt := 192) dX9_hangTogether_177 (by decide) (fun c_9 => ?_) (fun c_9 => ?_)
            · refine zz_sub (lv' := [none, none, none, some (.int l3), some (.int x0_), some (.int x1_), some (.int l6), some (.int (nI i_)), none, none, none]) ⟨rfl, ⟨rfl, ⟨rfl, ⟨rfl, ⟨rfl, trivial⟩⟩⟩⟩⟩ ?_
              first | exact K_2 | simpa only [if_pos c_6, if_pos c_7, if_pos c_8, if_pos c_9] using K_2
            · refine z_iload dX9_hangTogether_180 rfl ?_
              refine z_iconst dX9_hangTogether_182 k_iconst_1 ?_
              refine z_iload dX9_hangTogether_183 rfl ?_
              refine z_ishl (v := (zshl (1 : Int32) (nI i_))) dX9_hangTogether_185 rfl ?_
              refine z_ior (v := (x0_ ||| (zshl (1 : Int32) (nI i_)))) dX9_hangTogether_186 rfl ?_
              refine z_istore (lv' := [none, none, none, some (.int l3), some (.int (x0_ ||| (zshl (1 : Int32) (nI i_)))), some (.int x1_), some (.int l6), some (.int (nI i_)), none, none, some (.int (if ((rX9_stepX l6) - (rX9_stepX (nI i_))) < (-1 : Int32) then (0 : Int32) else (if (1 : Int32) < ((rX9_stepX l6) - (rX9_stepX (nI i_))) then (0 : Int32) else (if ((rX9_stepY l6) - (rX9_stepY (nI i_))) < (-1 : Int32) then (0 : Int32) else (if (1 : Int32) < ((rX9_stepY l6) - (rX9_stepY (nI i_))) then (0 : Int32) else (1 : Int32))))))]) dX9_hangTogether_187 (Nat.le_of_ble_eq_true rfl) rfl ?_
              refine z_iconst dX9_hangTogether_189 k_iconst_1 ?_
              refine z_istore (lv' := [none, none, none, some (.int l3), some (.int (x0_ ||| (zshl (1 : Int32) (nI i_)))), some (.int (1 : Int32)), some (.int l6), some (.int (nI i_)), none, none, some (.int (if ((rX9_stepX l6) - (rX9_stepX (nI i_))) < (-1 : Int32) then (0 : Int32) else (if (1 : Int32) < ((rX9_stepX l6) - (rX9_stepX (nI i_))) then (0 : Int32) else (if ((rX9_stepY l6) - (rX9_stepY (nI i_))) < (-1 : Int32) then (0 : Int32) else (if (1 : Int32) < ((rX9_stepY l6) - (rX9_stepY (nI i_))) then (0 : Int32) else (1 : Int32))))))]) dX9_hangTogether_190 (Nat.le_of_ble_eq_true rfl) rfl ?_
              refine zz_sub (lv' := [none, none, none, some (.int l3), some (.int (x0_ ||| (zshl (1 : Int32) (nI i_)))), some (.int (1 : Int32)), some (.int l6), some (.int (nI i_)), none, none, none]) ⟨rfl, ⟨rfl, ⟨rfl, ⟨rfl, ⟨rfl, trivial⟩⟩⟩⟩⟩ ?_
              first | exact K_2 | simpa only [if_pos c_6, if_pos c_7, if_pos c_8, if_neg c_9] using K_2
    refine z_icmp_lt (tgt := 141) dX9_hangTogether_116 (by decide) (fun c_2 => ?_) (fun c_2 => ?_)
    · refine z_iconst dX9_hangTogether_141 k_iconst_0 ?_
      refine zz_sub (lv' := [none, none, none, some (.int l3), some (.int x0_), some (.int x1_), some (.int l6), some (.int (nI i_)), none, none, none]) ⟨rfl, ⟨rfl, ⟨rfl, ⟨rfl, ⟨rfl, trivial⟩⟩⟩⟩⟩ ?_
      first | exact K_1 | simpa only [if_pos c_2] using K_1
    · refine z_iload dX9_hangTogether_119 rfl ?_
      refine z_iconst dX9_hangTogether_121 k_iconst_1 ?_
      refine z_icmp_gt (tgt := 141) dX9_hangTogether_122 (by decide) (fun c_3 => ?_) (fun c_3 => ?_)
      · refine z_iconst dX9_hangTogether_141 k_iconst_0 ?_
        refine zz_sub (lv' := [none, none, none, some (.int l3), some (.int x0_), some (.int x1_), some (.int l6), some (.int (nI i_)), none, none, none]) ⟨rfl, ⟨rfl, ⟨rfl, ⟨rfl, ⟨rfl, trivial⟩⟩⟩⟩⟩ ?_
        first | exact K_1 | simpa only [if_neg c_2, if_pos c_3] using K_1
      · refine z_iload dX9_hangTogether_125 rfl ?_
        refine z_iconst dX9_hangTogether_127 k_iconst_m1 ?_
        refine z_icmp_lt (tgt := 141) dX9_hangTogether_128 (by decide) (fun c_4 => ?_) (fun c_4 => ?_)
        · refine z_iconst dX9_hangTogether_141 k_iconst_0 ?_
          refine zz_sub (lv' := [none, none, none, some (.int l3), some (.int x0_), some (.int x1_), some (.int l6), some (.int (nI i_)), none, none, none]) ⟨rfl, ⟨rfl, ⟨rfl, ⟨rfl, ⟨rfl, trivial⟩⟩⟩⟩⟩ ?_
          first | exact K_1 | simpa only [if_neg c_2, if_neg c_3, if_pos c_4] using K_1
        · refine z_iload dX9_hangTogether_131 rfl ?_
          refine z_iconst dX9_hangTogether_133 k_iconst_1 ?_
          refine z_icmp_gt (tgt := 141) dX9_hangTogether_134 (by decide) (fun c_5 => ?_) (fun c_5 => ?_)
          · refine z_iconst dX9_hangTogether_141 k_iconst_0 ?_
            refine zz_sub (lv' := [none, none, none, some (.int l3), some (.int x0_), some (.int x1_), some (.int l6), some (.int (nI i_)), none, none, none]) ⟨rfl, ⟨rfl, ⟨rfl, ⟨rfl, ⟨rfl, trivial⟩⟩⟩⟩⟩ ?_
            first | exact K_1 | simpa only [if_neg c_2, if_neg c_3, if_neg c_4, if_pos c_5] using K_1
          · refine z_iconst dX9_hangTogether_137 k_iconst_1 ?_
            refine z_goto (tgt := 142) dX9_hangTogether_138 (by decide) ?_
            refine zz_sub (lv' := [none, none, none, some (.int l3), some (.int x0_), some (.int x1_), some (.int l6), some (.int (nI i_)), none, none, none]) ⟨rfl, ⟨rfl, ⟨rfl, ⟨rfl, ⟨rfl, trivial⟩⟩⟩⟩⟩ ?_
            first | exact K_1 | simpa only [if_neg c_2, if_neg c_3, if_neg c_4, if_neg c_5] using K_1
  · generalize zfor (fX9_hangTogether_80 l3 l6) 8 (l4, l5) = g_ at W2_ ⊢
    obtain ⟨x0_, x1_⟩ := g_
    dsimp only at W2_ ⊢
    refine z_iload dX9_hangTogether_80 rfl ?_
    refine z_bipush dX9_hangTogether_82 k_bipush_8 ?_
    refine z_icmp_ge (tgt := 198) dX9_hangTogether_84 (by decide) (fun c_ => ?_) (fun c_ => absurd (by decide) c_)
    exact zz_sub (lv' := [none, none, none, some (.int l3), some (.int x0_), some (.int x1_), some (.int l6), none, none, none, none]) ⟨rfl, ⟨rfl, ⟨rfl, ⟨rfl, trivial⟩⟩⟩⟩ W2_

theorem dX9_hangTogether_70 : decode cX9_hangTogether 70 = .ok (.iload 6, 2) := by decide +kernel
theorem dX9_hangTogether_72 : decode cX9_hangTogether 72 = .ok (.bipush 8, 2) := by decide +kernel
theorem dX9_hangTogether_74 : decode cX9_hangTogether 74 = .ok (.if_icmp .ge 130, 3) := by decide +kernel
theorem dX9_hangTogether_77 : decode cX9_hangTogether 77 = .ok (.iconst 0, 1) := by decide +kernel
theorem dX9_hangTogether_78 : decode cX9_hangTogether 78 = .ok (.istore 7, 2) := by decide +kernel
theorem dX9_hangTogether_204 : decode cX9_hangTogether 204 = .ok (.goto (-145), 3) := by decide +kernel
noncomputable def fX9_hangTogether_70 (l3 : Int32) (i_ : Nat) (a_ : Int32 × Int32) : Int32 × Int32 := ((zfor (fX9_hangTogether_80 l3 (nI i_)) 8 (a_.1, a_.2)).1, (zfor (fX9_hangTogether_80 l3 (nI i_)) 8 (a_.1, a_.2)).2)
set_option maxHeartbeats 2000000 in
theorem lpX9_hangTogether_70 {G : zc_G} {Q : Option Value → zc_H → Prop} (P : zp) (σ : zc_N) (l3 : Int32) (l4 : Int32) (l5 : Int32)
    (W2_ : zz G mX9_hangTogether 1 0 0 Q 204 [none, none, none, some (.int l3), some (.int (zfor (fX9_hangTogether_70 l3) 8 (l4, l5)).1), some (.int (zfor (fX9_hangTogether_70 l3) 8 (l4, l5)).2), none, none, none, none, none] [] (hh P σ) 0 0) :
    zz G mX9_hangTogether 1 0 0 Q 70 [none, none, none, some (.int l3), some (.int l4), some (.int l5), some (.int (nI 0)), none, none, none, none] [] (hh P σ) 0 0 := by
  refine zfor_nI (fun i_ a_ => zz G mX9_hangTogether 1 0 0 Q 70 [none, none, none, some (.int l3), some (.int a_.1), some (.int a_.2), some (.int i_), none, none, none, none] [] (hh P σ) 0 0) (fX9_hangTogether_70 l3) 8 (l4, l5) (fun i_ hi_ k_ => ?_) ?_
  all_goals try dsimp only
  · generalize zfor (fX9_hangTogether_70 l3) i_ (l4, l5) = g_ at k_ ⊢
    obtain ⟨x0_, x1_⟩ := g_
    dsimp only at k_ ⊢
    rw [fX9_hangTogether_70] at k_
    dsimp only at k_
    refine z_iload dX9_hangTogether_70 rfl ?_
    refine z_bipush dX9_hangTogether_72 k_bipush_8 ?_
    refine z_icmp_ge (tgt := 204) dX9_hangTogether_74 (by decide) (fun c_ => absurd c_ (nI_ge hi_ (by decide))) (fun c_ => ?_)
    refine z_iconst dX9_hangTogether_77 k_iconst_0 ?_
    refine z_istore (lv' := [none, none, none, some (.int l3), some (.int x0_), some (.int x1_), some (.int (nI i_)), some (.int (0 : Int32)), none, none, none]) dX9_hangTogether_78 (Nat.le_of_ble_eq_true rfl) rfl ?_
    refine lpX9_hangTogether_80 P σ l3 x0_ x1_ (nI i_) ?_
    refine z_iinc (v := ((nI i_) + (1 : Int32))) (lv' := [none, none, none, some (.int l3), some (.int (zfor (fX9_hangTogether_80 l3 (nI i_)) 8 (x0_, x1_)).1), some (.int (zfor (fX9_hangTogether_80 l3 (nI i_)) 8 (x0_, x1_)).2), some (.int ((nI i_) + (1 : Int32))), none, none, none, none]) dX9_hangTogether_198 (Nat.le_of_ble_eq_true rfl) rfl (by rw [k_iconst_1]) rfl ?_
    refine z_goto (tgt := 70) dX9_hangTogether_201 (by decide) ?_
    rw [nI_1]
    exact k_
  · generalize zfor (fX9_hangTogether_70 l3) 8 (l4, l5) = g_ at W2_ ⊢
    obtain ⟨x0_, x1_⟩ := g_
    dsimp only at W2_ ⊢
    refine z_iload dX9_hangTogether_70 rfl ?_
    refine z_bipush dX9_hangTogether_72 k_bipush_8 ?_
    refine z_icmp_ge (tgt := 204) dX9_hangTogether_74 (by decide) (fun c_ => ?_) (fun c_ => absurd (by decide) c_)
    exact zz_sub (lv' := [none, none, none, some (.int l3), some (.int x0_), some (.int x1_), none, none, none, none, none]) ⟨rfl, ⟨rfl, ⟨rfl, trivial⟩⟩⟩ W2_

theorem dX9_hangTogether_5 : decode cX9_hangTogether 5 = .ok (.iload 4, 2) := by decide +kernel
theorem dX9_hangTogether_7 : decode cX9_hangTogether 7 = .ok (.bipush 8, 2) := by decide +kernel
theorem dX9_hangTogether_9 : decode cX9_hangTogether 9 = .ok (.if_icmp .ge 41, 3) := by decide +kernel
theorem dX9_hangTogether_12 : decode cX9_hangTogether 12 = .ok (.iload_n 3, 1) := by decide +kernel
theorem dX9_hangTogether_13 : decode cX9_hangTogether 13 = .ok (.aload_n 0, 1) := by decide +kernel
theorem dX9_hangTogether_14 : decode cX9_hangTogether 14 = .ok (.iload_n 1, 1) := by decide +kernel
theorem dX9_hangTogether_15 : decode cX9_hangTogether 15 = .ok (.iload 4, 2) := by decide +kernel
theorem dX9_hangTogether_17 : decode cX9_hangTogether 17 = .ok (.invokestatic 109, 3) := by decide +kernel
theorem dX9_hangTogether_20 : decode cX9_hangTogether 20 = .ok (.iadd, 1) := by decide +kernel
theorem dX9_hangTogether_21 : decode cX9_hangTogether 21 = .ok (.iload_n 2, 1) := by decide +kernel
theorem dX9_hangTogether_22 : decode cX9_hangTogether 22 = .ok (.iload 4, 2) := by decide +kernel
theorem dX9_hangTogether_24 : decode cX9_hangTogether 24 = .ok (.invokestatic 113, 3) := by decide +kernel
theorem dX9_hangTogether_27 : decode cX9_hangTogether 27 = .ok (.iadd, 1) := by decide +kernel
theorem dX9_hangTogether_28 : decode cX9_hangTogether 28 = .ok (.invokevirtual 105, 3) := by decide +kernel
theorem dX9_hangTogether_31 : decode cX9_hangTogether 31 = .ok (.ifCond .eq 10, 3) := by decide +kernel
theorem dX9_hangTogether_34 : decode cX9_hangTogether 34 = .ok (.iconst 1, 1) := by decide +kernel
theorem dX9_hangTogether_35 : decode cX9_hangTogether 35 = .ok (.iload 4, 2) := by decide +kernel
theorem dX9_hangTogether_37 : decode cX9_hangTogether 37 = .ok (.ishl, 1) := by decide +kernel
theorem dX9_hangTogether_38 : decode cX9_hangTogether 38 = .ok (.goto 4, 3) := by decide +kernel
theorem dX9_hangTogether_41 : decode cX9_hangTogether 41 = .ok (.iconst 0, 1) := by decide +kernel
theorem dX9_hangTogether_42 : decode cX9_hangTogether 42 = .ok (.ior, 1) := by decide +kernel
theorem dX9_hangTogether_43 : decode cX9_hangTogether 43 = .ok (.istore_n 3, 1) := by decide +kernel
theorem dX9_hangTogether_44 : decode cX9_hangTogether 44 = .ok (.iinc 4 1, 3) := by decide +kernel
theorem dX9_hangTogether_47 : decode cX9_hangTogether 47 = .ok (.goto (-42), 3) := by decide +kernel
theorem dX9_hangTogether_50 : decode cX9_hangTogether 50 = .ok (.iload_n 3, 1) := by decide +kernel
theorem dX9_hangTogether_51 : decode cX9_hangTogether 51 = .ok (.iload_n 3, 1) := by decide +kernel
theorem dX9_hangTogether_52 : decode cX9_hangTogether 52 = .ok (.ineg, 1) := by decide +kernel
theorem dX9_hangTogether_53 : decode cX9_hangTogether 53 = .ok (.iand, 1) := by decide +kernel
theorem dX9_hangTogether_54 : decode cX9_hangTogether 54 = .ok (.istore 4, 2) := by decide +kernel
theorem dX9_hangTogether_56 : decode cX9_hangTogether 56 = .ok (.iconst 1, 1) := by decide +kernel
theorem dX9_hangTogether_57 : decode cX9_hangTogether 57 = .ok (.istore 5, 2) := by decide +kernel
noncomputable def fX9_hangTogether_5 (σ : zc_N) (l1 : Int32) (l2 : Int32) (i_ : Nat) (a_ : Int32) : Int32 := (a_ ||| (if (rX9_isDark σ (l1 + (rX9_stepX (nI i_))) (l2 + (rX9_stepY (nI i_)))) = (0 : Int32) then (0 : Int32) else (zshl (1 : Int32) (nI i_))))
set_option maxHeartbeats 2000000 in
theorem lpX9_hangTogether_5 {G : zc_G} {Q : Option Value → zc_H → Prop} (P : zp) (σ : zc_N) (l1 : Int32) (l2 : Int32) (l3 : Int32)
    (W2_ : zz G mX9_hangTogether 1 0 0 Q 50 [none, none, none, some (.int (zfor (fX9_hangTogether_5 σ l1 l2) 8 l3)), none, none, none, none, none, none, none] [] (hh P σ) 0 0) :
    zz G mX9_hangTogether 1 0 0 Q 5 [some (.ref 32), some (.int l1), some (.int l2), some (.int l3), some (.int (nI 0)), none, none, none, none, none, none] [] (hh P σ) 0 0 := by
  refine zfor_nI (fun i_ a_ => zz G mX9_hangTogether 1 0 0 Q 5 [some (.ref 32), some (.int l1), some (.int l2), some (.int a_), some (.int i_), none, none, none, none, none, none] [] (hh P σ) 0 0) (fX9_hangTogether_5 σ l1 l2) 8 l3 (fun i_ hi_ k_ => ?_) ?_
  · generalize zfor (fX9_hangTogether_5 σ l1 l2) i_ l3 = g_ at k_ ⊢
    rw [fX9_hangTogether_5] at k_
    refine z_iload dX9_hangTogether_5 rfl ?_
    refine z_bipush dX9_hangTogether_7 k_bipush_8 ?_
    refine z_icmp_ge (tgt := 50) dX9_hangTogether_9 (by decide) (fun c_ => absurd c_ (nI_ge hi_ (by decide))) (fun c_ => ?_)
    refine z_iload_n dX9_hangTogether_12 rfl ?_
    refine z_aloadr_n dX9_hangTogether_13 rfl ?_
    refine z_iload_n dX9_hangTogether_14 rfl ?_
    refine z_iload dX9_hangTogether_15 rfl ?_
    refine z_callS (As := [.int (nI i_)]) (rest := [.int l1, .ref 32, .int g_]) (ctX9_stepX P σ (nI i_)) dX9_hangTogether_17 lk_X9_109 ls_X9_stepX rfl (Nat.le_of_ble_eq_true rfl) (Nat.le_of_ble_eq_true rfl) (Nat.le_of_ble_eq_true rfl) (Nat.le_of_ble_eq_true rfl) (fun r_ h_ e_ => ?_)
    obtain ⟨e1_, e2_⟩ := e_
    subst e1_
    subst e2_
    show zz G mX9_hangTogether 1 0 0 Q 20 [some (.ref 32), some (.int l1), some (.int l2), some (.int g_), some (.int (nI i_)), none, none, none, none, none, none] [.int (rX9_stepX (nI i_)), .int l1, .ref 32, .int g_] (hh P σ) 0 0
    refine z_iadd (v := (l1 + (rX9_stepX (nI i_)))) dX9_hangTogether_20 rfl ?_
    refine z_iload_n dX9_hangTogether_21 rfl ?_
    refine z_iload dX9_hangTogether_22 rfl ?_
    refine z_callS (As := [.int (nI i_)]) (rest := [.int l2, .int (l1 + (rX9_stepX (nI i_))), .ref 32, .int g_]) (ctX9_stepY P σ (nI i_)) dX9_hangTogether_24 lk_X9_113 ls_X9_stepY rfl (Nat.le_of_ble_eq_true rfl) (Nat.le_of_ble_eq_true rfl) (Nat.le_of_ble_eq_true rfl) (Nat.le_of_ble_eq_true rfl) (fun r_ h_ e_ => ?_)
    obtain ⟨e1_, e2_⟩ := e_
    subst e1_
    subst e2_
    show zz G mX9_hangTogether 1 0 0 Q 27 [some (.ref 32), some (.int l1), some (.int l2), some (.int g_), some (.int (nI i_)), none, none, none, none, none, none] [.int (rX9_stepY (nI i_)), .int l2, .int (l1 + (rX9_stepX (nI i_))), .ref 32, .int g_] (hh P σ) 0 0
    refine z_iadd (v := (l2 + (rX9_stepY (nI i_)))) dX9_hangTogether_27 rfl ?_
    refine z_callV (ci := 9) (r := (RX9, TX9, 38)) (b := 32) (As := [.int (l1 + (rX9_stepX (nI i_))), .int (l2 + (rX9_stepY (nI i_)))]) (rest := [.int g_]) (ctX9_isDark P σ (l1 + (rX9_stepX (nI i_))) (l2 + (rX9_stepY (nI i_))) (pzX9_isDark P σ (l1 + (rX9_stepX (nI i_))) (l2 + (rX9_stepY (nI i_))))) dX9_hangTogether_28 lk_X9_105 lv_X9_isDark (Nat.le_of_ble_eq_true rfl) (zN rfl) rfl rfl rfl rfl (Nat.le_of_ble_eq_true rfl) (Nat.le_of_ble_eq_true rfl) (Nat.le_of_ble_eq_true rfl) (Nat.le_of_ble_eq_true rfl) (fun r_ h_ e_ => ?_)
    obtain ⟨e1_, e2_⟩ := e_
    subst e1_
    subst e2_
    show zz G mX9_hangTogether 1 0 0 Q 31 [some (.ref 32), some (.int l1), some (.int l2), some (.int g_), some (.int (nI i_)), none, none, none, none, none, none] [.int (rX9_isDark σ (l1 + (rX9_stepX (nI i_))) (l2 + (rX9_stepY (nI i_)))), .int g_] (hh P σ) 0 0
    have K_1 : zz G mX9_hangTogether 1 0 0 Q 42 [some (.ref 32), some (.int l1), some (.int l2), none, some (.int (nI i_)), none, none, none, none, none, none] [.int (if (rX9_isDark σ (l1 + (rX9_stepX (nI i_))) (l2 + (rX9_stepY (nI i_)))) = (0 : Int32) then (0 : Int32) else (zshl (1 : Int32) (nI i_))), .int g_] (hh P σ) 0 0 := by
      refine z_ior (v := (g_ ||| (if (rX9_isDark σ (l1 + (rX9_stepX (nI i_))) (l2 + (rX9_stepY (nI i_)))) = (0 : Int32) then (0 : Int32) else (zshl (1 : Int32) (nI i_))))) dX9_hangTogether_42 rfl ?_
      refine z_istore_n (lv' := [some (.ref 32), some (.int l1), some (.int l2), some (.int (g_ ||| (if (rX9_isDark σ (l1 + (rX9_stepX (nI i_))) (l2 + (rX9_stepY (nI i_)))) = (0 : Int32) then (0 : Int32) else (zshl (1 : Int32) (nI i_))))), some (.int (nI i_)), none, none, none, none, none, none]) dX9_hangTogether_43 (Nat.le_of_ble_eq_true rfl) rfl ?_
      refine z_iinc (v := ((nI i_) + (1 : Int32))) (lv' := [some (.ref 32), some (.int l1), some (.int l2), some (.int (g_ ||| (if (rX9_isDark σ (l1 + (rX9_stepX (nI i_))) (l2 + (rX9_stepY (nI i_)))) = (0 : Int32) then (0 : Int32) else (zshl (1 : Int32) (nI i_))))), some (.int ((nI i_) + (1 : Int32))), none, none, none, none, none, none]) dX9_hangTogether_44 (Nat.le_of_ble_eq_true rfl) rfl (by rw [k_iconst_1]) rfl ?_
      refine z_goto (tgt := 5) dX9_hangTogether_47 (by decide) ?_
      rw [nI_1]
      exact k_
    refine z_if_eq (tgt := 41) dX9_hangTogether_31 (by decide) (fun c_2 => ?_) (fun c_2 => ?_)
    · refine z_iconst dX9_hangTogether_41 k_iconst_0 ?_
      refine zz_sub (lv' := [some (.ref 32), some (.int l1), some (.int l2), none, some (.int (nI i_)), none, none, none, none, none, none]) ⟨rfl, ⟨rfl, ⟨rfl, ⟨rfl, trivial⟩⟩⟩⟩ ?_
      first | exact K_1 | simpa only [if_pos c_2] using K_1
    · refine z_iconst dX9_hangTogether_34 k_iconst_1 ?_
      refine z_iload dX9_hangTogether_35 rfl ?_
      refine z_ishl (v := (zshl (1 : Int32) (nI i_))) dX9_hangTogether_37 rfl ?_
      refine z_goto (tgt := 42) dX9_hangTogether_38 (by decide) ?_
      refine zz_sub (lv' := [some (.ref 32), some (.int l1), some (.int l2), none, some (.int (nI i_)), none, none, none, none, none, none]) ⟨rfl, ⟨rfl, ⟨rfl, ⟨rfl, trivial⟩⟩⟩⟩ ?_
      first | exact K_1 | simpa only [if_neg c_2] using K_1
  · generalize zfor (fX9_hangTogether_5 σ l1 l2) 8 l3 = g_ at W2_ ⊢
    refine z_iload dX9_hangTogether_5 rfl ?_
    refine z_bipush dX9_hangTogether_7 k_bipush_8 ?_
    refine z_icmp_ge (tgt := 50) dX9_hangTogether_9 (by decide) (fun c_ => ?_) (fun c_ => absurd (by decide) c_)
    exact zz_sub (lv' := [none, none, none, some (.int g_), none, none, none, none, none, none, none]) ⟨rfl, trivial⟩ W2_

theorem dX9_hangTogether_59 : decode cX9_hangTogether 59 = .ok (.iload 5, 2) := by decide +kernel
theorem dX9_hangTogether_61 : decode cX9_hangTogether 61 = .ok (.ifCond .eq 146, 3) := by decide +kernel
theorem dX9_hangTogether_64 : decode cX9_hangTogether 64 = .ok (.iconst 0, 1) := by decide +kernel
theorem dX9_hangTogether_65 : decode cX9_hangTogether 65 = .ok (.istore 5, 2) := by decide +kernel
theorem dX9_hangTogether_67 : decode cX9_hangTogether 67 = .ok (.iconst 0, 1) := by decide +kernel
theorem dX9_hangTogether_68 : decode cX9_hangTogether 68 = .ok (.istore 6, 2) := by decide +kernel
theorem dX9_hangTogether_207 : decode cX9_hangTogether 207 = .ok (.iload 4, 2) := by decide +kernel
theorem dX9_hangTogether_209 : decode cX9_hangTogether 209 = .ok (.iload_n 3, 1) := by decide +kernel
theorem dX9_hangTogether_213 : decode cX9_hangTogether 213 = .ok (.iconst 1, 1) := by decide +kernel
theorem dX9_hangTogether_214 : decode cX9_hangTogether 214 = .ok (.goto 4, 3) := by decide +kernel
theorem dX9_hangTogether_217 : decode cX9_hangTogether 217 = .ok (.iconst 0, 1) := by decide +kernel
noncomputable def fX9_hangTogether_59 (l3 : Int32) (a_ : Int32 × Int32) : Int32 × Int32 := ((zfor (fX9_hangTogether_70 l3) 8 (a_.1, (0 : Int32))).1, (zfor (fX9_hangTogether_70 l3) 8 (a_.1, (0 : Int32))).2)
def eX9_hangTogether_59 (a_ : Int32 × Int32) : Prop := ((a_.2 = (0 : Int32) ∧ True) ∨ (¬ a_.2 = (0 : Int32) ∧ False))
set_option maxHeartbeats 2000000 in
theorem whX9_hangTogether_59 {G : zc_G} {Q : Option Value → zc_H → Prop} (P : zp) (σ : zc_N) (l3 : Int32) (l4 : Int32) (l5 : Int32)
    (hT_ : ∃ n_ : Nat, eX9_hangTogether_59 (zit (fX9_hangTogether_59 l3) n_ (l4, l5)))
    (W2_ : eX9_hangTogether_59 (zit (fX9_hangTogether_59 l3) (zwn (fun n_ => eX9_hangTogether_59 (zit (fX9_hangTogether_59 l3) n_ (l4, l5)))) (l4, l5)) → zz G mX9_hangTogether 1 0 0 Q 59 [none, none, none, some (.int l3), some (.int (zit (fX9_hangTogether_59 l3) (zwn (fun n_ => eX9_hangTogether_59 (zit (fX9_hangTogether_59 l3) n_ (l4, l5)))) (l4, l5)).1), some (.int (zit (fX9_hangTogether_59 l3) (zwn (fun n_ => eX9_hangTogether_59 (zit (fX9_hangTogether_59 l3) n_ (l4, l5)))) (l4, l5)).2), none, none, none, none, none] [] (hh P σ) 0 0) :
    zz G mX9_hangTogether 1 0 0 Q 59 [none, none, none, some (.int l3), some (.int l4), some (.int l5), none, none, none, none, none] [] (hh P σ) 0 0 := by
  have hs_ := zwn_spec hT_
  refine zit_Z (fun a_ => zz G mX9_hangTogether 1 0 0 Q 59 [none, none, none, some (.int l3), some (.int a_.1), some (.int a_.2), none, none, none, none, none] [] (hh P σ) 0 0) (fX9_hangTogether_59 l3) (zwn (fun n_ => eX9_hangTogether_59 (zit (fX9_hangTogether_59 l3) n_ (l4, l5)))) (l4, l5) (fun i_ hi_ k_ => ?_) (W2_ hs_.1)
  have hn_ := hs_.2 i_ hi_
  generalize zit (fX9_hangTogether_59 l3) i_ (l4, l5) = g_ at k_ hn_ ⊢
  obtain ⟨x0_, x1_⟩ := g_
  try dsimp only at k_ hn_ ⊢
  rw [fX9_hangTogether_59] at k_
  rw [eX9_hangTogether_59] at hn_
  try dsimp only at k_ hn_
  refine z_iload dX9_hangTogether_59 rfl ?_
  refine z_if_eq (tgt := 207) dX9_hangTogether_61 (by decide) (fun c_1 => ?_) (fun c_1 => ?_)
  · exact absurd (Or.inl ⟨c_1, trivial⟩) hn_
  · refine z_iconst dX9_hangTogether_64 k_iconst_0 ?_
    refine z_istore (lv' := [none, none, none, some (.int l3), some (.int x0_), some (.int (0 : Int32)), none, none, none, none, none]) dX9_hangTogether_65 (Nat.le_of_ble_eq_true rfl) rfl ?_
    refine z_iconst dX9_hangTogether_67 k_iconst_0 ?_
    refine z_istore (lv' := [none, none, none, some (.int l3), some (.int x0_), some (.int (0 : Int32)), some (.int (0 : Int32)), none, none, none, none]) dX9_hangTogether_68 (Nat.le_of_ble_eq_true rfl) rfl ?_
    refine lpX9_hangTogether_70 P σ l3 x0_ (0 : Int32) ?_
    refine z_goto (tgt := 59) dX9_hangTogether_204 (by decide) ?_
    simpa only [if_neg c_1] using k_

theorem dX9_hangTogether_0 : decode cX9_hangTogether 0 = .ok (.iconst 0, 1) := by decide +kernel
theorem dX9_hangTogether_1 : decode cX9_hangTogether 1 = .ok (.istore_n 3, 1) := by decide +kernel
theorem dX9_hangTogether_2 : decode cX9_hangTogether 2 = .ok (.iconst 0, 1) := by decide +kernel
theorem dX9_hangTogether_3 : decode cX9_hangTogether 3 = .ok (.istore 4, 2) := by decide +kernel
theorem dX9_hangTogether_210 : decode cX9_hangTogether 210 = .ok (.if_icmp .ne 7, 3) := by decide +kernel
theorem dX9_hangTogether_218 : decode cX9_hangTogether 218 = .ok (.ireturn, 1) := by decide +kernel
def pX9_hangTogether (σ : zc_N) (a1 : Int32) (a2 : Int32) : Prop := (∃ n_ : Nat, eX9_hangTogether_59 (zit (fX9_hangTogether_59 (zfor (fX9_hangTogether_5 σ a1 a2) 8 (0 : Int32))) n_ (((zfor (fX9_hangTogether_5 σ a1 a2) 8 (0 : Int32)) &&& (-(zfor (fX9_hangTogether_5 σ a1 a2) 8 (0 : Int32)))), (1 : Int32))))
noncomputable def rX9_hangTogether (σ : zc_N) (a1 : Int32) (a2 : Int32) : Int32 := (if (zit (fX9_hangTogether_59 (zfor (fX9_hangTogether_5 σ a1 a2) 8 (0 : Int32))) (zwn (fun n_ => eX9_hangTogether_59 (zit (fX9_hangTogether_59 (zfor (fX9_hangTogether_5 σ a1 a2) 8 (0 : Int32))) n_ (((zfor (fX9_hangTogether_5 σ a1 a2) 8 (0 : Int32)) &&& (-(zfor (fX9_hangTogether_5 σ a1 a2) 8 (0 : Int32)))), (1 : Int32))))) (((zfor (fX9_hangTogether_5 σ a1 a2) 8 (0 : Int32)) &&& (-(zfor (fX9_hangTogether_5 σ a1 a2) 8 (0 : Int32)))), (1 : Int32))).1 = (zfor (fX9_hangTogether_5 σ a1 a2) 8 (0 : Int32)) then (1 : Int32) else (0 : Int32))
set_option maxHeartbeats 1000000 in
theorem ctX9_hangTogether (P : zp) (σ : zc_N) (a1 : Int32) (a2 : Int32) (W_ : (pX9_hangTogether σ a1 a2)) : sp mX9_hangTogether 1 0 0 [.ref 32, .int a1, .int a2] (hh P σ) (fun r_ h_ => r_ = some (.int (rX9_hangTogether σ a1 a2)) ∧ h_ = hh P σ) := by
  refine sp_of (lv := [some (.ref 32), some (.int a1), some (.int a2), none, none, none, none, none, none, none, none]) (by decide) (zcats_ok _ rfl) (Nat.le_of_ble_eq_true rfl) (zlv_ok _ 8 rfl) (fun G => ?_)
  generalize hQ_ : (fun (r_ : Option Value) (h_ : zc_H) => r_ = some (.int (rX9_hangTogether σ a1 a2)) ∧ h_ = hh P σ) = Q_
  unfold pX9_hangTogether at W_
  refine z_iconst dX9_hangTogether_0 k_iconst_0 ?_
  refine z_istore_n (lv' := [some (.ref 32), some (.int a1), some (.int a2), some (.int (0 : Int32)), none, none, none, none, none, none, none]) dX9_hangTogether_1 (Nat.le_of_ble_eq_true rfl) rfl ?_
  refine z_iconst dX9_hangTogether_2 k_iconst_0 ?_
  refine z_istore (lv' := [some (.ref 32), some (.int a1), some (.int a2), some (.int (0 : Int32)), some (.int (0 : Int32)), none, none, none, none, none, none]) dX9_hangTogether_3 (Nat.le_of_ble_eq_true rfl) rfl ?_
  refine lpX9_hangTogether_5 P σ a1 a2 (0 : Int32) ?_
  refine z_iload_n dX9_hangTogether_50 rfl ?_
  refine z_iload_n dX9_hangTogether_51 rfl ?_
  refine z_ineg (v := (-(zfor (fX9_hangTogether_5 σ a1 a2) 8 (0 : Int32)))) dX9_hangTogether_52 rfl ?_
  refine z_iand (v := ((zfor (fX9_hangTogether_5 σ a1 a2) 8 (0 : Int32)) &&& (-(zfor (fX9_hangTogether_5 σ a1 a2) 8 (0 : Int32))))) dX9_hangTogether_53 rfl ?_
  refine z_istore (lv' := [none, none, none, some (.int (zfor (fX9_hangTogether_5 σ a1 a2) 8 (0 : Int32))), some (.int ((zfor (fX9_hangTogether_5 σ a1 a2) 8 (0 : Int32)) &&& (-(zfor (fX9_hangTogether_5 σ a1 a2) 8 (0 : Int32))))), none, none, none, none, none, none]) dX9_hangTogether_54 (Nat.le_of_ble_eq_true rfl) rfl ?_
  refine z_iconst dX9_hangTogether_56 k_iconst_1 ?_
  refine z_istore (lv' := [none, none, none, some (.int (zfor (fX9_hangTogether_5 σ a1 a2) 8 (0 : Int32))), some (.int ((zfor (fX9_hangTogether_5 σ a1 a2) 8 (0 : Int32)) &&& (-(zfor (fX9_hangTogether_5 σ a1 a2) 8 (0 : Int32))))), some (.int (1 : Int32)), none, none, none, none, none]) dX9_hangTogether_57 (Nat.le_of_ble_eq_true rfl) rfl ?_
  refine whX9_hangTogether_59 P σ (zfor (fX9_hangTogether_5 σ a1 a2) 8 (0 : Int32)) ((zfor (fX9_hangTogether_5 σ a1 a2) 8 (0 : Int32)) &&& (-(zfor (fX9_hangTogether_5 σ a1 a2) 8 (0 : Int32)))) (1 : Int32) W_ (fun hX59_ => ?_)
  rw [eX9_hangTogether_59] at hX59_
  try dsimp only at hX59_
  refine z_iload dX9_hangTogether_59 rfl ?_
  refine z_if_eq (tgt := 207) dX9_hangTogether_61 (by decide) (fun c_1 => ?_) (fun c_1 => ?_)
  · refine z_iload dX9_hangTogether_207 rfl ?_
    refine z_iload_n dX9_hangTogether_209 rfl ?_
    have K_1 : zz G mX9_hangTogether 1 0 0 Q_ 218 [none, none, none, none, none, none, none, none, none, none, none] [.int (if (zit (fX9_hangTogether_59 (zfor (fX9_hangTogether_5 σ a1 a2) 8 (0 : Int32))) (zwn (fun n_ => eX9_hangTogether_59 (zit (fX9_hangTogether_59 (zfor (fX9_hangTogether_5 σ a1 a2) 8 (0 : Int32))) n_ (((zfor (fX9_hangTogether_5 σ a1 a2) 8 (0 : Int32)) &&& (-(zfor (fX9_hangTogether_5 σ a1 a2) 8 (0 : Int32)))), (1 : Int32))))) (((zfor (fX9_hangTogether_5 σ a1 a2) 8 (0 : Int32)) &&& (-(zfor (fX9_hangTogether_5 σ a1 a2) 8 (0 : Int32)))), (1 : Int32))).1 = (zfor (fX9_hangTogether_5 σ a1 a2) 8 (0 : Int32)) then (1 : Int32) else (0 : Int32))] (hh P σ) 0 0 := by
      exact z_ireturn dX9_hangTogether_218 rfl (by (repeat' split) <;> rfl) (Nat.le_of_ble_eq_true rfl) (Nat.le_of_ble_eq_true rfl) (by rw [← hQ_]; exact ⟨(by rw [rX9_hangTogether]; simp only [if_pos c_1]), rfl⟩)
    refine z_icmp_ne (tgt := 217) dX9_hangTogether_210 (by decide) (fun c_2 => ?_) (fun c_2 => ?_)
    · refine z_iconst dX9_hangTogether_217 k_iconst_0 ?_
      refine zz_sub (lv' := [none, none, none, none, none, none, none, none, none, none, none]) trivial ?_
      first | exact K_1 | simpa only [if_neg c_2] using K_1
    · refine z_iconst dX9_hangTogether_213 k_iconst_1 ?_
      refine z_goto (tgt := 218) dX9_hangTogether_214 (by decide) ?_
      refine zz_sub (lv' := [none, none, none, none, none, none, none, none, none, none, none]) trivial ?_
      first | exact K_1 | simpa only [if_pos c_2] using K_1
  · refine z_iconst dX9_hangTogether_64 k_iconst_0 ?_
    refine z_istore (lv' := [none, none, none, some (.int (zfor (fX9_hangTogether_5 σ a1 a2) 8 (0 : Int32))), some (.int (zit (fX9_hangTogether_59 (zfor (fX9_hangTogether_5 σ a1 a2) 8 (0 : Int32))) (zwn (fun n_ => eX9_hangTogether_59 (zit (fX9_hangTogether_59 (zfor (fX9_hangTogether_5 σ a1 a2) 8 (0 : Int32))) n_ (((zfor (fX9_hangTogether_5 σ a1 a2) 8 (0 : Int32)) &&& (-(zfor (fX9_hangTogether_5 σ a1 a2) 8 (0 : Int32)))), (1 : Int32))))) (((zfor (fX9_hangTogether_5 σ a1 a2) 8 (0 : Int32)) &&& (-(zfor (fX9_hangTogether_5 σ a1 a2) 8 (0 : Int32)))), (1 : Int32))).1), some (.int (0 : Int32)), none, none, none, none, none]) dX9_hangTogether_65 (Nat.le_of_ble_eq_true rfl) rfl ?_
    refine z_iconst dX9_hangTogether_67 k_iconst_0 ?_
    refine z_istore (lv' := [none, none, none, some (.int (zfor (fX9_hangTogether_5 σ a1 a2) 8 (0 : Int32))), some (.int (zit (fX9_hangTogether_59 (zfor (fX9_hangTogether_5 σ a1 a2) 8 (0 : Int32))) (zwn (fun n_ => eX9_hangTogether_59 (zit (fX9_hangTogether_59 (zfor (fX9_hangTogether_5 σ a1 a2) 8 (0 : Int32))) n_ (((zfor (fX9_hangTogether_5 σ a1 a2) 8 (0 : Int32)) &&& (-(zfor (fX9_hangTogether_5 σ a1 a2) 8 (0 : Int32)))), (1 : Int32))))) (((zfor (fX9_hangTogether_5 σ a1 a2) 8 (0 : Int32)) &&& (-(zfor (fX9_hangTogether_5 σ a1 a2) 8 (0 : Int32)))), (1 : Int32))).1), some (.int (0 : Int32)), some (.int (0 : Int32)), none, none, none, none]) dX9_hangTogether_68 (Nat.le_of_ble_eq_true rfl) rfl ?_
    refine lpX9_hangTogether_70 P σ (zfor (fX9_hangTogether_5 σ a1 a2) 8 (0 : Int32)) ((zit (fX9_hangTogether_59 (zfor (fX9_hangTogether_5 σ a1 a2) 8 (0 : Int32))) (zwn (fun n_ => eX9_hangTogether_59 (zit (fX9_hangTogether_59 (zfor (fX9_hangTogether_5 σ a1 a2) 8 (0 : Int32))) n_ (((zfor (fX9_hangTogether_5 σ a1 a2) 8 (0 : Int32)) &&& (-(zfor (fX9_hangTogether_5 σ a1 a2) 8 (0 : Int32)))), (1 : Int32))))) (((zfor (fX9_hangTogether_5 σ a1 a2) 8 (0 : Int32)) &&& (-(zfor (fX9_hangTogether_5 σ a1 a2) 8 (0 : Int32)))), (1 : Int32))).1) (0 : Int32) ?_
    refine z_goto (tgt := 59) dX9_hangTogether_204 (by decide) ?_
    exact (ex_r hX59_ c_1).elim

theorem dX9_thin_12 : decode cX9_thin 12 = .ok (.iload_n 3, 1) := by decide +kernel
theorem dX9_thin_13 : decode cX9_thin 13 = .ok (.sipush 256, 3) := by decide +kernel
theorem dX9_thin_16 : decode cX9_thin 16 = .ok (.if_icmp .ge 129, 3) := by decide +kernel
theorem dX9_thin_19 : decode cX9_thin 19 = .ok (.iload_n 3, 1) := by decide +kernel
theorem dX9_thin_20 : decode cX9_thin 20 = .ok (.bipush 16, 2) := by decide +kernel
theorem dX9_thin_22 : decode cX9_thin 22 = .ok (.irem, 1) := by decide +kernel
theorem dX9_thin_23 : decode cX9_thin 23 = .ok (.istore 4, 2) := by decide +kernel
theorem dX9_thin_25 : decode cX9_thin 25 = .ok (.iload_n 3, 1) := by decide +kernel
theorem dX9_thin_26 : decode cX9_thin 26 = .ok (.bipush 16, 2) := by decide +kernel
theorem dX9_thin_28 : decode cX9_thin 28 = .ok (.idiv, 1) := by decide +kernel
theorem dX9_thin_29 : decode cX9_thin 29 = .ok (.istore 5, 2) := by decide +kernel
theorem dX9_thin_31 : decode cX9_thin 31 = .ok (.aload_n 0, 1) := by decide +kernel
theorem dX9_thin_32 : decode cX9_thin 32 = .ok (.iload 4, 2) := by decide +kernel
theorem dX9_thin_34 : decode cX9_thin 34 = .ok (.iconst 1, 1) := by decide +kernel
theorem dX9_thin_35 : decode cX9_thin 35 = .ok (.isub, 1) := by decide +kernel
theorem dX9_thin_36 : decode cX9_thin 36 = .ok (.iload 5, 2) := by decide +kernel
theorem dX9_thin_38 : decode cX9_thin 38 = .ok (.invokevirtual 105, 3) := by decide +kernel
theorem dX9_thin_41 : decode cX9_thin 41 = .ok (.ifCond .eq 42, 3) := by decide +kernel
theorem dX9_thin_44 : decode cX9_thin 44 = .ok (.aload_n 0, 1) := by decide +kernel
theorem dX9_thin_45 : decode cX9_thin 45 = .ok (.iload 4, 2) := by decide +kernel
theorem dX9_thin_47 : decode cX9_thin 47 = .ok (.iconst 1, 1) := by decide +kernel
theorem dX9_thin_48 : decode cX9_thin 48 = .ok (.iadd, 1) := by decide +kernel
theorem dX9_thin_49 : decode cX9_thin 49 = .ok (.iload 5, 2) := by decide +kernel
theorem dX9_thin_51 : decode cX9_thin 51 = .ok (.invokevirtual 105, 3) := by decide +kernel
theorem dX9_thin_54 : decode cX9_thin 54 = .ok (.ifCond .eq 29, 3) := by decide +kernel
theorem dX9_thin_57 : decode cX9_thin 57 = .ok (.aload_n 0, 1) := by decide +kernel
theorem dX9_thin_58 : decode cX9_thin 58 = .ok (.iload 4, 2) := by decide +kernel
theorem dX9_thin_60 : decode cX9_thin 60 = .ok (.iload 5, 2) := by decide +kernel
theorem dX9_thin_62 : decode cX9_thin 62 = .ok (.iconst 1, 1) := by decide +kernel
theorem dX9_thin_63 : decode cX9_thin 63 = .ok (.isub, 1) := by decide +kernel
theorem dX9_thin_64 : decode cX9_thin 64 = .ok (.invokevirtual 105, 3) := by decide +kernel
theorem dX9_thin_67 : decode cX9_thin 67 = .ok (.ifCond .eq 16, 3) := by decide +kernel
theorem dX9_thin_70 : decode cX9_thin 70 = .ok (.aload_n 0, 1) := by decide +kernel
theorem dX9_thin_71 : decode cX9_thin 71 = .ok (.iload 4, 2) := by decide +kernel
theorem dX9_thin_73 : decode cX9_thin 73 = .ok (.iload 5, 2) := by decide +kernel
theorem dX9_thin_75 : decode cX9_thin 75 = .ok (.iconst 1, 1) := by decide +kernel
theorem dX9_thin_76 : decode cX9_thin 76 = .ok (.iadd, 1) := by decide +kernel
theorem dX9_thin_77 : decode cX9_thin 77 = .ok (.invokevirtual 105, 3) := by decide +kernel
theorem dX9_thin_80 : decode cX9_thin 80 = .ok (.ifCond .ne 7, 3) := by decide +kernel
theorem dX9_thin_83 : decode cX9_thin 83 = .ok (.iconst 1, 1) := by decide +kernel
theorem dX9_thin_84 : decode cX9_thin 84 = .ok (.goto 4, 3) := by decide +kernel
theorem dX9_thin_87 : decode cX9_thin 87 = .ok (.iconst 0, 1) := by decide +kernel
theorem dX9_thin_88 : decode cX9_thin 88 = .ok (.istore 6, 2) := by decide +kernel
theorem dX9_thin_90 : decode cX9_thin 90 = .ok (.aload_n 0, 1) := by decide +kernel
theorem dX9_thin_91 : decode cX9_thin 91 = .ok (.getfield 9, 3) := by decide +kernel
theorem dX9_thin_94 : decode cX9_thin 94 = .ok (.iload_n 3, 1) := by decide +kernel
theorem dX9_thin_95 : decode cX9_thin 95 = .ok (.baload, 1) := by decide +kernel
theorem dX9_thin_96 : decode cX9_thin 96 = .ok (.ifCond .eq 43, 3) := by decide +kernel
theorem dX9_thin_99 : decode cX9_thin 99 = .ok (.iload 6, 2) := by decide +kernel
theorem dX9_thin_101 : decode cX9_thin 101 = .ok (.ifCond .eq 38, 3) := by decide +kernel
theorem dX9_thin_104 : decode cX9_thin 104 = .ok (.aload_n 0, 1) := by decide +kernel
theorem dX9_thin_105 : decode cX9_thin 105 = .ok (.iload 4, 2) := by decide +kernel
theorem dX9_thin_107 : decode cX9_thin 107 = .ok (.iload 5, 2) := by decide +kernel
theorem dX9_thin_109 : decode cX9_thin 109 = .ok (.invokevirtual 116, 3) := by decide +kernel
theorem dX9_thin_112 : decode cX9_thin 112 = .ok (.iconst 2, 1) := by decide +kernel
theorem dX9_thin_113 : decode cX9_thin 113 = .ok (.if_icmp .lt 26, 3) := by decide +kernel
theorem dX9_thin_116 : decode cX9_thin 116 = .ok (.aload_n 0, 1) := by decide +kernel
theorem dX9_thin_117 : decode cX9_thin 117 = .ok (.iload 4, 2) := by decide +kernel
theorem dX9_thin_119 : decode cX9_thin 119 = .ok (.iload 5, 2) := by decide +kernel
theorem dX9_thin_121 : decode cX9_thin 121 = .ok (.invokevirtual 120, 3) := by decide +kernel
theorem dX9_thin_124 : decode cX9_thin 124 = .ok (.ifCond .eq 15, 3) := by decide +kernel
theorem dX9_thin_127 : decode cX9_thin 127 = .ok (.aload_n 0, 1) := by decide +kernel
theorem dX9_thin_128 : decode cX9_thin 128 = .ok (.getfield 9, 3) := by decide +kernel
theorem dX9_thin_131 : decode cX9_thin 131 = .ok (.iload_n 3, 1) := by decide +kernel
theorem dX9_thin_132 : decode cX9_thin 132 = .ok (.iconst 0, 1) := by decide +kernel
theorem dX9_thin_133 : decode cX9_thin 133 = .ok (.bastore, 1) := by decide +kernel
theorem dX9_thin_134 : decode cX9_thin 134 = .ok (.iinc 1 1, 3) := by decide +kernel
theorem dX9_thin_137 : decode cX9_thin 137 = .ok (.iconst 1, 1) := by decide +kernel
theorem dX9_thin_138 : decode cX9_thin 138 = .ok (.istore_n 2, 1) := by decide +kernel
theorem dX9_thin_139 : decode cX9_thin 139 = .ok (.iinc 3 1, 3) := by decide +kernel
theorem dX9_thin_142 : decode cX9_thin 142 = .ok (.goto (-130), 3) := by decide +kernel
theorem dX9_thin_145 : decode cX9_thin 145 = .ok (.goto (-141), 3) := by decide +kernel
noncomputable def fX9_thin_12 (i_ : Nat) (a_ : Int32 × Int32 × zc_N) : Int32 × Int32 × zc_N := ((if ((a_.2.2 33) (nI i_).toNatClampNeg) = (0 : Int32) then a_.1 else (if (if (rX9_isDark a_.2.2 (((nI i_) - (nI i_) / (16 : Int32) * (16 : Int32)) - (1 : Int32)) ((nI i_) / (16 : Int32))) = (0 : Int32) then (1 : Int32) else (if (rX9_isDark a_.2.2 (((nI i_) - (nI i_) / (16 : Int32) * (16 : Int32)) + (1 : Int32)) ((nI i_) / (16 : Int32))) = (0 : Int32) then (1 : Int32) else (if (rX9_isDark a_.2.2 ((nI i_) - (nI i_) / (16 : Int32) * (16 : Int32)) (((nI i_) / (16 : Int32)) - (1 : Int32))) = (0 : Int32) then (1 : Int32) else (if (rX9_isDark a_.2.2 ((nI i_) - (nI i_) / (16 : Int32) * (16 : Int32)) (((nI i_) / (16 : Int32)) + (1 : Int32))) = (0 : Int32) then (1 : Int32) else (0 : Int32))))) = (0 : Int32) then a_.1 else (if (rX9_neighbours a_.2.2 ((nI i_) - (nI i_) / (16 : Int32) * (16 : Int32)) ((nI i_) / (16 : Int32))) < (2 : Int32) then a_.1 else (if (rX9_hangTogether a_.2.2 ((nI i_) - (nI i_) / (16 : Int32) * (16 : Int32)) ((nI i_) / (16 : Int32))) = (0 : Int32) then a_.1 else (a_.1 + (1 : Int32)))))), (if ((a_.2.2 33) (nI i_).toNatClampNeg) = (0 : Int32) then a_.2.1 else (if (if (rX9_isDark a_.2.2 (((nI i_) - (nI i_) / (16 : Int32) * (16 : Int32)) - (1 : Int32)) ((nI i_) / (16 : Int32))) = (0 : Int32) then (1 : Int32) else (if (rX9_isDark a_.2.2 (((nI i_) - (nI i_) / (16 : Int32) * (16 : Int32)) + (1 : Int32)) ((nI i_) / (16 : Int32))) = (0 : Int32) then (1 : Int32) else (if (rX9_isDark a_.2.2 ((nI i_) - (nI i_) / (16 : Int32) * (16 : Int32)) (((nI i_) / (16 : Int32)) - (1 : Int32))) = (0 : Int32) then (1 : Int32) else (if (rX9_isDark a_.2.2 ((nI i_) - (nI i_) / (16 : Int32) * (16 : Int32)) (((nI i_) / (16 : Int32)) + (1 : Int32))) = (0 : Int32) then (1 : Int32) else (0 : Int32))))) = (0 : Int32) then a_.2.1 else (if (rX9_neighbours a_.2.2 ((nI i_) - (nI i_) / (16 : Int32) * (16 : Int32)) ((nI i_) / (16 : Int32))) < (2 : Int32) then a_.2.1 else (if (rX9_hangTogether a_.2.2 ((nI i_) - (nI i_) / (16 : Int32) * (16 : Int32)) ((nI i_) / (16 : Int32))) = (0 : Int32) then a_.2.1 else (1 : Int32))))), (if ((a_.2.2 33) (nI i_).toNatClampNeg) = (0 : Int32) then a_.2.2 else (if (if (rX9_isDark a_.2.2 (((nI i_) - (nI i_) / (16 : Int32) * (16 : Int32)) - (1 : Int32)) ((nI i_) / (16 : Int32))) = (0 : Int32) then (1 : Int32) else (if (rX9_isDark a_.2.2 (((nI i_) - (nI i_) / (16 : Int32) * (16 : Int32)) + (1 : Int32)) ((nI i_) / (16 : Int32))) = (0 : Int32) then (1 : Int32) else (if (rX9_isDark a_.2.2 ((nI i_) - (nI i_) / (16 : Int32) * (16 : Int32)) (((nI i_) / (16 : Int32)) - (1 : Int32))) = (0 : Int32) then (1 : Int32) else (if (rX9_isDark a_.2.2 ((nI i_) - (nI i_) / (16 : Int32) * (16 : Int32)) (((nI i_) / (16 : Int32)) + (1 : Int32))) = (0 : Int32) then (1 : Int32) else (0 : Int32))))) = (0 : Int32) then a_.2.2 else (if (rX9_neighbours a_.2.2 ((nI i_) - (nI i_) / (16 : Int32) * (16 : Int32)) ((nI i_) / (16 : Int32))) < (2 : Int32) then a_.2.2 else (if (rX9_hangTogether a_.2.2 ((nI i_) - (nI i_) / (16 : Int32) * (16 : Int32)) ((nI i_) / (16 : Int32))) = (0 : Int32) then a_.2.2 else (zu a_.2.2 33 (zu (a_.2.2 33) (nI i_).toNatClampNeg (0 : Int32))))))))
def qX9_thin_12 (i_ : Nat) (a_ : Int32 × Int32 × zc_N) : Prop := ((((a_.2.2 33) (nI i_).toNatClampNeg) = (0 : Int32) → True) ∧ (¬ ((a_.2.2 33) (nI i_).toNatClampNeg) = (0 : Int32) → (((if (rX9_isDark a_.2.2 (((nI i_) - (nI i_) / (16 : Int32) * (16 : Int32)) - (1 : Int32)) ((nI i_) / (16 : Int32))) = (0 : Int32) then (1 : Int32) else (if (rX9_isDark a_.2.2 (((nI i_) - (nI i_) / (16 : Int32) * (16 : Int32)) + (1 : Int32)) ((nI i_) / (16 : Int32))) = (0 : Int32) then (1 : Int32) else (if (rX9_isDark a_.2.2 ((nI i_) - (nI i_) / (16 : Int32) * (16 : Int32)) (((nI i_) / (16 : Int32)) - (1 : Int32))) = (0 : Int32) then (1 : Int32) else (if (rX9_isDark a_.2.2 ((nI i_) - (nI i_) / (16 : Int32) * (16 : Int32)) (((nI i_) / (16 : Int32)) + (1 : Int32))) = (0 : Int32) then (1 : Int32) else (0 : Int32))))) = (0 : Int32) → True) ∧ (¬ (if (rX9_isDark a_.2.2 (((nI i_) - (nI i_) / (16 : Int32) * (16 : Int32)) - (1 : Int32)) ((nI i_) / (16 : Int32))) = (0 : Int32) then (1 : Int32) else (if (rX9_isDark a_.2.2 (((nI i_) - (nI i_) / (16 : Int32) * (16 : Int32)) + (1 : Int32)) ((nI i_) / (16 : Int32))) = (0 : Int32) then (1 : Int32) else (if (rX9_isDark a_.2.2 ((nI i_) - (nI i_) / (16 : Int32) * (16 : Int32)) (((nI i_) / (16 : Int32)) - (1 : Int32))) = (0 : Int32) then (1 : Int32) else (if (rX9_isDark a_.2.2 ((nI i_) - (nI i_) / (16 : Int32) * (16 : Int32)) (((nI i_) / (16 : Int32)) + (1 : Int32))) = (0 : Int32) then (1 : Int32) else (0 : Int32))))) = (0 : Int32) → ((pX9_neighbours a_.2.2 ((nI i_) - (nI i_) / (16 : Int32) * (16 : Int32)) ((nI i_) / (16 : Int32))) ∧ (((rX9_neighbours a_.2.2 ((nI i_) - (nI i_) / (16 : Int32) * (16 : Int32)) ((nI i_) / (16 : Int32))) < (2 : Int32) → True) ∧ (¬ (rX9_neighbours a_.2.2 ((nI i_) - (nI i_) / (16 : Int32) * (16 : Int32)) ((nI i_) / (16 : Int32))) < (2 : Int32) → (pX9_hangTogether a_.2.2 ((nI i_) - (nI i_) / (16 : Int32) * (16 : Int32)) ((nI i_) / (16 : Int32))))))))))
set_option maxHeartbeats 2000000 in
theorem lpX9_thin_12 {G : zc_G} {Q : Option Value → zc_H → Prop} (P : zp) (σ : zc_N) (l1 : Int32) (l2 : Int32) (W1_ : ∀ i12_ : Nat, i12_ < 256 → qX9_thin_12 i12_ (zfor fX9_thin_12 i12_ (l1, l2, σ)))
    (W2_ : zz G mX9_thin 3 0 0 Q 145 [some (.ref 32), some (.int (zfor fX9_thin_12 256 (l1, l2, σ)).1), some (.int (zfor fX9_thin_12 256 (l1, l2, σ)).2.1), none, none, none, none] [] (hh P (zfor fX9_thin_12 256 (l1, l2, σ)).2.2) 0 0) :
    zz G mX9_thin 3 0 0 Q 12 [some (.ref 32), some (.int l1), some (.int l2), some (.int (nI 0)), none, none, none] [] (hh P σ) 0 0 := by
  refine zfor_nI (fun i_ a_ => zz G mX9_thin 3 0 0 Q 12 [some (.ref 32), some (.int a_.1), some (.int a_.2.1), some (.int i_), none, none, none] [] (hh P a_.2.2) 0 0) fX9_thin_12 256 (l1, l2, σ) (fun i_ hi_ k_ => ?_) ?_
  all_goals try dsimp only
  · have W3_ := W1_ i_ hi_
    generalize zfor fX9_thin_12 i_ (l1, l2, σ) = g_ at k_ W3_ ⊢
    obtain ⟨x0_, x1_, x2_⟩ := g_
    dsimp only at k_ W3_ ⊢
    rw [fX9_thin_12] at k_
    rw [qX9_thin_12] at W3_
    try dsimp only at W3_
    dsimp only at k_
    refine z_iload_n dX9_thin_12 rfl ?_
    refine z_sipush dX9_thin_13 k_sipush_256 ?_
    refine z_icmp_ge (tgt := 145) dX9_thin_16 (by decide) (fun c_ => absurd c_ (nI_ge hi_ (by decide))) (fun c_ => ?_)
    refine z_iload_n dX9_thin_19 rfl ?_
    refine z_bipush dX9_thin_20 k_bipush_16 ?_
    refine z_irem (v := ((nI i_) - (nI i_) / (16 : Int32) * (16 : Int32))) dX9_thin_22 (by decide) rfl ?_
    refine z_istore (lv' := [some (.ref 32), some (.int x0_), some (.int x1_), some (.int (nI i_)), some (.int ((nI i_) - (nI i_) / (16 : Int32) * (16 : Int32))), none, none]) dX9_thin_23 (Nat.le_of_ble_eq_true rfl) rfl ?_
    refine z_iload_n dX9_thin_25 rfl ?_
    refine z_bipush dX9_thin_26 k_bipush_16 ?_
    refine z_idiv (v := ((nI i_) / (16 : Int32))) dX9_thin_28 (by decide) rfl ?_
    refine z_istore (lv' := [some (.ref 32), some (.int x0_), some (.int x1_), some (.int (nI i_)), some (.int ((nI i_) - (nI i_) / (16 : Int32) * (16 : Int32))), some (.int ((nI i_) / (16 : Int32))), none]) dX9_thin_29 (Nat.le_of_ble_eq_true rfl) rfl ?_
    refine z_aloadr_n dX9_thin_31 rfl ?_
    refine z_iload dX9_thin_32 rfl ?_
    refine z_iconst dX9_thin_34 k_iconst_1 ?_
    refine z_isub (v := (((nI i_) - (nI i_) / (16 : Int32) * (16 : Int32)) - (1 : Int32))) dX9_thin_35 rfl ?_
    refine z_iload dX9_thin_36 rfl ?_
    refine z_callV (ci := 9) (r := (RX9, TX9, 38)) (b := 32) (As := [.int (((nI i_) - (nI i_) / (16 : Int32) * (16 : Int32)) - (1 : Int32)), .int ((nI i_) / (16 : Int32))]) (rest := []) (ctX9_isDark P x2_ (((nI i_) - (nI i_) / (16 : Int32) * (16 : Int32)) - (1 : Int32)) ((nI i_) / (16 : Int32)) (pzX9_isDark P x2_ (((nI i_) - (nI i_) / (16 : Int32) * (16 : Int32)) - (1 : Int32)) ((nI i_) / (16 : Int32)))) dX9_thin_38 lk_X9_105 lv_X9_isDark (Nat.le_of_ble_eq_true rfl) (zN rfl) rfl rfl rfl rfl (Nat.le_of_ble_eq_true rfl) (Nat.le_of_ble_eq_true rfl) (Nat.le_of_ble_eq_true rfl) (Nat.le_of_ble_eq_true rfl) (fun r_ h_ e_ => ?_)
    obtain ⟨e1_, e2_⟩ := e_
    subst e1_
    subst e2_
    show zz G mX9_thin 3 0 0 Q 41 [some (.ref 32), some (.int x0_), some (.int x1_), some (.int (nI i_)), some (.int ((nI i_) - (nI i_) / (16 : Int32) * (16 : Int32))), some (.int ((nI i_) / (16 : Int32))), none] [.int (rX9_isDark x2_ (((nI i_) - (nI i_) / (16 : Int32) * (16 : Int32)) - (1 : Int32)) ((nI i_) / (16 : Int32)))] (hh P x2_) 0 0
    have K_1 : zz G mX9_thin 3 0 0 Q 88 [some (.ref 32), some (.int x0_), some (.int x1_), some (.int (nI i_)), some (.int ((nI i_) - (nI i_) / (16 : Int32) * (16 : Int32))), some (.int ((nI i_) / (16 : Int32))), none] [.int (if (rX9_isDark x2_ (((nI i_) - (nI i_) / (16 : Int32) * (16 : Int32)) - (1 : Int32)) ((nI i_) / (16 : Int32))) = (0 : Int32) then (1 : Int32) else (if (rX9_isDark x2_ (((nI i_) - (nI i_) / (16 : Int32) * (16 : Int32)) + (1 : Int32)) ((nI i_) / (16 : Int32))) = (0 : Int32) then (1 : Int32) else (if (rX9_isDark x2_ ((nI i_) - (nI i_) / (16 : Int32) * (16 : Int32)) (((nI i_) / (16 : Int32)) - (1 : Int32))) = (0 : Int32) then (1 : Int32) else (if (rX9_isDark x2_ ((nI i_) - (nI i_) / (16 : Int32) * (16 : Int32)) (((nI i_) / (16 : Int32)) + (1 : Int32))) = (0 : Int32) then (1 : Int32) else (0 : Int32)))))] (hh P x2_) 0 0 := by
      refine z_istore (lv' := [some (.ref 32), some (.int x0_), some (.int x1_), some (.int (nI i_)), some (.int ((nI i_) - (nI i_) / (16 : Int32) * (16 : Int32))), some (.int ((nI i_) / (16 : Int32))), some (.int (if (rX9_isDark x2_ (((nI i_) - (nI i_) / (16 : Int32) * (16 : Int32)) - (1 : Int32)) ((nI i_) / (16 : Int32))) = (0 : Int32) then (1 : Int32) else (if (rX9_isDark x2_ (((nI i_) - (nI i_) / (16 : Int32) * (16 : Int32)) + (1 : Int32)) ((nI i_) / (16 : Int32))) = (0 : Int32) then (1 : Int32) else (if (rX9_isDark x2_ ((nI i_) - (nI i_) / (16 : Int32) * (16 : Int32)) (((nI i_) / (16 : Int32)) - (1 : Int32))) = (0 : Int32) then (1 : Int32) else (if (rX9_isDark x2_ ((nI i_) - (nI i_) / (16 : Int32) * (16 : Int32)) (((nI i_) / (16 : Int32)) + (1 : Int32))) = (0 : Int32) then (1 : Int32) else (0 : Int32))))))]) dX9_thin_88 (Nat.le_of_ble_eq_true rfl) rfl ?_
      refine z_aloadr_n dX9_thin_90 rfl ?_
      refine z_get (ci := 9) (r := (RX9, TX9, 38)) (j := 0) (v := .ref 33) dX9_thin_91 (Nat.le_of_ble_eq_true rfl) (zN rfl) rfl rfl (Nat.le_of_ble_eq_true rfl) fl_X9_9 rfl ?_
      refine z_iload_n dX9_thin_94 rfl ?_
      refine z_bald (v := ((x2_ 33) (nI i_).toNatClampNeg)) dX9_thin_95 (Nat.le_of_ble_eq_true rfl) (zN rfl) rfl (vp_in_nI (Nat.lt_of_lt_of_le hi_ (Nat.le_of_ble_eq_true rfl)) (by decide)) rfl ?_
      refine z_if_eq (tgt := 139) dX9_thin_96 (by decide) (fun c_6 => ?_) (fun c_6 => ?_)
      · refine z_iinc (v := ((nI i_) + (1 : Int32))) (lv' := [some (.ref 32), some (.int x0_), some (.int x1_), some (.int ((nI i_) + (1 : Int32))), some (.int ((nI i_) - (nI i_) / (16 : Int32) * (16 : Int32))), some (.int ((nI i_) / (16 : Int32))), some (.int (if (rX9_isDark x2_ (((nI i_) - (nI i_) / (16 : Int32) * (16 : Int32)) - (1 : Int32)) ((nI i_) / (16 : Int32))) = (0 : Int32) then (1 : Int32) else (if (rX9_isDark x2_ (((nI i_) - (nI i_) / (16 : Int32) * (16 : Int32)) + (1 : Int32)) ((nI i_) / (16 : Int32))) = (0 : Int32) then (1 : Int32) else (if (rX9_isDark x2_ ((nI i_) - (nI i_) / (16 : Int32) * (16 : Int32)) (((nI i_) / (16 : Int32)) - (1 : Int32))) = (0 : Int32) then (1 : Int32) else (if (rX9_isDark x2_ ((nI i_) - (nI i_) / (16 : Int32) * (16 : Int32)) (((nI i_) / (16 : Int32)) + (1 : Int32))) = (0 : Int32) then (1 : Int32) else (0 : Int32))))))]) dX9_thin_139 (Nat.le_of_ble_eq_true rfl) rfl (by rw [k_iconst_1]) rfl ?_
        refine z_goto (tgt := 12) dX9_thin_142 (by decide) ?_
        refine zz_sub (lv' := [some (.ref 32), some (.int x0_), some (.int x1_), some (.int ((nI i_) + (1 : Int32))), none, none, none]) ⟨rfl, ⟨rfl, ⟨rfl, ⟨rfl, trivial⟩⟩⟩⟩ ?_
        rw [nI_1]
        simpa only [if_pos c_6] using k_
      · refine z_iload dX9_thin_99 rfl ?_
        refine z_if_eq (tgt := 139) dX9_thin_101 (by decide) (fun c_7 => ?_) (fun c_7 => ?_)
        · refine z_iinc (v := ((nI i_) + (1 : Int32))) (lv' := [some (.ref 32), some (.int x0_), some (.int x1_), some (.int ((nI i_) + (1 : Int32))), some (.int ((nI i_) - (nI i_) / (16 : Int32) * (16 : Int32))), some (.int ((nI i_) / (16 : Int32))), some (.int (if (rX9_isDark x2_ (((nI i_) - (nI i_) / (16 : Int32) * (16 : Int32)) - (1 : Int32)) ((nI i_) / (16 : Int32))) = (0 : Int32) then (1 : Int32) else (if (rX9_isDark x2_ (((nI i_) - (nI i_) / (16 : Int32) * (16 : Int32)) + (1 : Int32)) ((nI i_) / (16 : Int32))) = (0 : Int32) then (1 : Int32) else (if (rX9_isDark x2_ ((nI i_) - (nI i_) / (16 : Int32) * (16 : Int32)) (((nI i_) / (16 : Int32)) - (1 : Int32))) = (0 : Int32) then (1 : Int32) else (if (rX9_isDark x2_ ((nI i_) - (nI i_) / (16 : Int32) * (16 : Int32)) (((nI i_) / (16 : Int32)) + (1 : Int32))) = (0 : Int32) then (1 : Int32) else (0 : Int32))))))]) dX9_thin_139 (Nat.le_of_ble_eq_true rfl) rfl (by rw [k_iconst_1]) rfl ?_
          refine z_goto (tgt := 12) dX9_thin_142 (by decide) ?_
          refine zz_sub (lv' := [some (.ref 32), some (.int x0_), some (.int x1_), some (.int ((nI i_) + (1 : Int32))), none, none, none]) ⟨rfl, ⟨rfl, ⟨rfl, ⟨rfl, trivial⟩⟩⟩⟩ ?_
          rw [nI_1]
          simpa only [if_neg c_6, if_pos c_7] using k_
        · refine z_aloadr_n dX9_thin_104 rfl ?_
          refine z_iload dX9_thin_105 rfl ?_
          refine z_iload dX9_thin_107 rfl ?_
          refine z_callV (ci := 9) (r := (RX9, TX9, 38)) (b := 32) (As := [.int ((nI i_) - (nI i_) / (16 : Int32) * (16 : Int32)), .int ((nI i_) / (16 : Int32))]) (rest := []) (ctX9_neighbours P x2_ ((nI i_) - (nI i_) / (16 : Int32) * (16 : Int32)) ((nI i_) / (16 : Int32)) (((W3_.2 c_6).2 c_7).1)) dX9_thin_109 lk_X9_116 lv_X9_neighbours (Nat.le_of_ble_eq_true rfl) (zN rfl) rfl rfl rfl rfl (Nat.le_of_ble_eq_true rfl) (Nat.le_of_ble_eq_true rfl) (Nat.le_of_ble_eq_true rfl) (Nat.le_of_ble_eq_true rfl) (fun r_ h_ e_ => ?_)
          obtain ⟨e1_, e2_⟩ := e_
          subst e1_
          subst e2_
          show zz G mX9_thin 3 0 0 Q 112 [some (.ref 32), some (.int x0_), some (.int x1_), some (.int (nI i_)), some (.int ((nI i_) - (nI i_) / (16 : Int32) * (16 : Int32))), some (.int ((nI i_) / (16 : Int32))), some (.int (if (rX9_isDark x2_ (((nI i_) - (nI i_) / (16 : Int32) * (16 : Int32)) - (1 : Int32)) ((nI i_) / (16 : Int32))) = (0 : Int32) then (1 : Int32) else (if (rX9_isDark x2_ (((nI i_) - (nI i_) / (16 : Int32) * (16 : Int32)) + (1 : Int32)) ((nI i_) / (16 : Int32))) = (0 : Int32) then (1 : Int32) else (if (rX9_isDark x2_ ((nI i_) - (nI i_) / (16 : Int32) * (16 : Int32)) (((nI i_) / (16 : Int32)) - (1 : Int32))) = (0 : Int32) then (1 : Int32) else (if (rX9_isDark x2_ ((nI i_) - (nI i_) / (16 : Int32) * (16 : Int32)) (((nI i_) / (16 : Int32)) + (1 : Int32))) = (0 : Int32) then (1 : Int32) else (0 : Int32))))))] [.int (rX9_neighbours x2_ ((nI i_) - (nI i_) / (16 : Int32) * (16 : Int32)) ((nI i_) / (16 : Int32)))] (hh P x2_) 0 0
          refine z_iconst dX9_thin_112 k_iconst_2 ?_
          refine z_icmp_lt (tgt := 139) dX9_thin_113 (by decide) (fun c_8 => ?_) (fun c_8 => ?_)
          · refine z_iinc (v := ((nI i_) + (1 : Int32))) (lv' := [some (.ref 32), some (.int x0_), some (.int x1_), some (.int ((nI i_) + (1 : Int32))), some (.int ((nI i_) - (nI i_) / (16 : Int32) * (16 : Int32))), some (.int ((nI i_) / (16 : Int32))), some (.int (if (rX9_isDark x2_ (((nI i_) - (nI i_) / (16 : Int32) * (16 : Int32)) - (1 : Int32)) ((nI i_) / (16 : Int32))) = (0 : Int32) then (1 : Int32) else (if (rX9_isDark x2_ (((nI i_) - (nI i_) / (16 : Int32) * (16 : Int32)) + (1 : Int32)) ((nI i_) / (16 : Int32))) = (0 : Int32) then (1 : Int32) else (if (rX9_isDark x2_ ((nI i_) - (nI i_) / (16 : Int32) * (16 : Int32)) (((nI i_) / (16 : Int32)) - (1 : Int32))) = (0 : Int32) then (1 : Int32) else (if (rX9_isDark x2_ ((nI i_) - (nI i_) / (16 : Int32) * (16 : Int32)) (((nI i_) / (16 : Int32)) + (1 : Int32))) = (0 : Int32) then (1 : Int32) else (0 : Int32))))))]) dX9_thin_139 (Nat.le_of_ble_eq_true rfl) rfl (by rw [k_iconst_1]) rfl ?_
            refine z_goto (tgt := 12) dX9_thin_142 (by decide) ?_
            refine zz_sub (lv' := [some (.ref 32), some (.int x0_), some (.int x1_), some (.int ((nI i_) + (1 : Int32))), none, none, none]) ⟨rfl, ⟨rfl, ⟨rfl, ⟨rfl, trivial⟩⟩⟩⟩ ?_
            rw [nI_1]
            simpa only [if_neg c_6, if_neg c_7, if_pos c_8] using k_
          · refine z_aloadr_n dX9_thin_116 rfl ?_
            refine z_iload dX9_thin_117 rfl ?_
            refine z_iload dX9_thin_119 rfl ?_
            refine z_callV (ci := 9) (r := (RX9, TX9, 38)) (b := 32) (As := [.int ((nI i_) - (nI i_) / (16 : Int32) * (16 : Int32)), .int ((nI i_) / (16 : Int32))]) (rest := []) (ctX9_hangTogether P x2_ ((nI i_) - (nI i_) / (16 : Int32) * (16 : Int32)) ((nI i_) / (16 : Int32)) (((W3_.2 c_6).2 c_7).2.2 c_8)) dX9_thin_121 lk_X9_120 lv_X9_hangTogether (Nat.le_of_ble_eq_true rfl) (zN rfl) rfl rfl rfl rfl (Nat.le_of_ble_eq_true rfl) (Nat.le_of_ble_eq_true rfl) (Nat.le_of_ble_eq_true rfl) (Nat.le_of_ble_eq_true rfl) (fun r_ h_ e_ => ?_)
            obtain ⟨e1_, e2_⟩ := e_
            subst e1_
            subst e2_
            show zz G mX9_thin 3 0 0 Q 124 [some (.ref 32), some (.int x0_), some (.int x1_), some (.int (nI i_)), some (.int ((nI i_) - (nI i_) / (16 : Int32) * (16 : Int32))), some (.int ((nI i_) / (16 : Int32))), some (.int (if (rX9_isDark x2_ (((nI i_) - (nI i_) / (16 : Int32) * (16 : Int32)) - (1 : Int32)) ((nI i_) / (16 : Int32))) = (0 : Int32) then (1 : Int32) else (if (rX9_isDark x2_ (((nI i_) - (nI i_) / (16 : Int32) * (16 : Int32)) + (1 : Int32)) ((nI i_) / (16 : Int32))) = (0 : Int32) then (1 : Int32) else (if (rX9_isDark x2_ ((nI i_) - (nI i_) / (16 : Int32) * (16 : Int32)) (((nI i_) / (16 : Int32)) - (1 : Int32))) = (0 : Int32) then (1 : Int32) else (if (rX9_isDark x2_ ((nI i_) - (nI i_) / (16 : Int32) * (16 : Int32)) (((nI i_) / (16 : Int32)) + (1 : Int32))) = (0 : Int32) then (1 : Int32) else (0 : Int32))))))] [.int (rX9_hangTogether x2_ ((nI i_) - (nI i_) / (16 : Int32) * (16 : Int32)) ((nI i_) / (16 : Int32)))] (hh P x2_) 0 0
            refine z_if_eq (tgt := 139) dX9_thin_124 (by decide) (fun c_9 => ?_) (fun c_9 => ?_)
            · refine z_iinc (v := ((nI i_) + (1 : Int32))) (lv' := [some (.ref 32), some (.int x0_), some (.int x1_), some (.int ((nI i_) + (1 : Int32))), some (.int ((nI i_) - (nI i_) / (16 : Int32) * (16 : Int32))), some (.int ((nI i_) / (16 : Int32))), some (.int (if (rX9_isDark x2_ (((nI i_) - (nI i_) / (16 : Int32) * (16 : Int32)) - (1 : Int32)) ((nI i_) / (16 : Int32))) = (0 : Int32) then (1 : Int32) else (if (rX9_isDark x2_ (((nI i_) - (nI i_) / (16 : Int32) * (16 : Int32)) + (1 : Int32)) ((nI i_) / (16 : Int32))) = (0 : Int32) then (1 : Int32) else (if (rX9_isDark x2_ ((nI i_) - (nI i_) / (16 : Int32) * (16 : Int32)) (((nI i_) / (16 : Int32)) - (1 : Int32))) = (0 : Int32) then (1 : Int32) else (if (rX9_isDark x2_ ((nI i_) - (nI i_) / (16 : Int32) * (16 : Int32)) (((nI i_) / (16 : Int32)) + (1 : Int32))) = (0 : Int32) then (1 : Int32) else (0 : Int32))))))]) dX9_thin_139 (Nat.le_of_ble_eq_true rfl) rfl (by rw [k_iconst_1]) rfl ?_
              refine z_goto (tgt := 12) dX9_thin_142 (by decide) ?_
              refine zz_sub (lv' := [some (.ref 32), some (.int x0_), some (.int x1_), some (.int ((nI i_) + (1 : Int32))), none, none, none]) ⟨rfl, ⟨rfl, ⟨rfl, ⟨rfl, trivial⟩⟩⟩⟩ ?_
              rw [nI_1]
              simpa only [if_neg c_6, if_neg c_7, if_neg c_8, if_pos c_9] using k_
            · refine z_aloadr_n dX9_thin_127 rfl ?_
              refine z_get (ci := 9) (r := (RX9, TX9, 38)) (j := 0) (v := .ref 33) dX9_thin_128 (Nat.le_of_ble_eq_true rfl) (zN rfl) rfl rfl (Nat.le_of_ble_eq_true rfl) fl_X9_9 rfl ?_
              refine z_iload_n dX9_thin_131 rfl ?_
              refine z_iconst dX9_thin_132 k_iconst_0 ?_
              refine z_bast (σ' := (zu x2_ 33 (zu (x2_ 33) (nI i_).toNatClampNeg (0 : Int32)))) dX9_thin_133 (Nat.le_of_ble_eq_true rfl) (zN rfl) rfl (vp_in_nI (Nat.lt_of_lt_of_le hi_ (Nat.le_of_ble_eq_true rfl)) (by decide)) rfl rfl ?_
              refine z_iinc (v := (x0_ + (1 : Int32))) (lv' := [some (.ref 32), some (.int (x0_ + (1 : Int32))), some (.int x1_), some (.int (nI i_)), some (.int ((nI i_) - (nI i_) / (16 : Int32) * (16 : Int32))), some (.int ((nI i_) / (16 : Int32))), some (.int (if (rX9_isDark x2_ (((nI i_) - (nI i_) / (16 : Int32) * (16 : Int32)) - (1 : Int32)) ((nI i_) / (16 : Int32))) = (0 : Int32) then (1 : Int32) else (if (rX9_isDark x2_ (((nI i_) - (nI i_) / (16 : Int32) * (16 : Int32)) + (1 : Int32)) ((nI i_) / (16 : Int32))) = (0 : Int32) then (1 : Int32) else (if (rX9_isDark x2_ ((nI i_) - (nI i_) / (16 : Int32) * (16 : Int32)) (((nI i_) / (16 : Int32)) - (1 : Int32))) = (0 : Int32) then (1 : Int32) else (if (rX9_isDark x2_ ((nI i_) - (nI i_) / (16 : Int32) * (16 : Int32)) (((nI i_) / (16 : Int32)) + (1 : Int32))) = (0 : Int32) then (1 : Int32) else (0 : Int32))))))]) dX9_thin_134 (Nat.le_of_ble_eq_true rfl) rfl (by rw [k_iconst_1]) rfl ?_
              refine z_iconst dX9_thin_137 k_iconst_1 ?_
              refine z_istore_n (lv' := [some (.ref 32), some (.int (x0_ + (1 : Int32))), some (.int (1 : Int32)), some (.int (nI i_)), some (.int ((nI i_) - (nI i_) / (16 : Int32) * (16 : Int32))), some (.int ((nI i_) / (16 : Int32))), some (.int (if (rX9_isDark x2_ (((nI i_) - (nI i_) / (16 : Int32) * (16 : Int32)) - (1 : Int32)) ((nI i_) / (16 : Int32))) = (0 : Int32) then (1 : Int32) else (if (rX9_isDark x2_ (((nI i_) - (nI i_) / (16 : Int32) * (16 : Int32)) + (1 : Int32)) ((nI i_) / (16 : Int32))) = (0 : Int32) then (1 : Int32) else (if (rX9_isDark x2_ ((nI i_) - (nI i_) / (16 : Int32) * (16 : Int32)) (((nI i_) / (16 : Int32)) - (1 : Int32))) = (0 : Int32) then (1 : Int32) else (if (rX9_isDark x2_ ((nI i_) - (nI i_) / (16 : Int32) * (16 : Int32)) (((nI i_) / (16 : Int32)) + (1 : Int32))) = (0 : Int32) then (1 : Int32) else (0 : Int32))))))]) dX9_thin_138 (Nat.le_of_ble_eq_true rfl) rfl ?_
              refine z_iinc (v := ((nI i_) + (1 : Int32))) (lv' := [some (.ref 32), some (.int (x0_ + (1 : Int32))), some (.int (1 : Int32)), some (.int ((nI i_) + (1 : Int32))), some (.int ((nI i_) - (nI i_) / (16 : Int32) * (16 : Int32))), some (.int ((nI i_) / (16 : Int32))), some (.int (if (rX9_isDark x2_ (((nI i_) - (nI i_) / (16 : Int32) * (16 : Int32)) - (1 : Int32)) ((nI i_) / (16 : Int32))) = (0 : Int32) then (1 : Int32) else (if (rX9_isDark x2_ (((nI i_) - (nI i_) / (16 : Int32) * (16 : Int32)) + (1 : Int32)) ((nI i_) / (16 : Int32))) = (0 : Int32) then (1 : Int32) else (if (rX9_isDark x2_ ((nI i_) - (nI i_) / (16 : Int32) * (16 : Int32)) (((nI i_) / (16 : Int32)) - (1 : Int32))) = (0 : Int32) then (1 : Int32) else (if (rX9_isDark x2_ ((nI i_) - (nI i_) / (16 : Int32) * (16 : Int32)) (((nI i_) / (16 : Int32)) + (1 : Int32))) = (0 : Int32) then (1 : Int32) else (0 : Int32))))))]) dX9_thin_139 (Nat.le_of_ble_eq_true rfl) rfl (by rw [k_iconst_1]) rfl ?_
              refine z_goto (tgt := 12) dX9_thin_142 (by decide) ?_
              refine zz_sub (lv' := [some (.ref 32), some (.int (x0_ + (1 : Int32))), some (.int (1 : Int32)), some (.int ((nI i_) + (1 : Int32))), none, none, none]) ⟨rfl, ⟨rfl, ⟨rfl, ⟨rfl, trivial⟩⟩⟩⟩ ?_
              rw [nI_1]
              simpa only [if_neg c_6, if_neg c_7, if_neg c_8, if_neg c_9] using k_
    refine z_if_eq (tgt := 83) dX9_thin_41 (by decide) (fun c_2 => ?_) (fun c_2 => ?_)
    · refine z_iconst dX9_thin_83 k_iconst_1 ?_
      refine z_goto (tgt := 88) dX9_thin_84 (by decide) ?_
      first | exact K_1 | simpa only [if_pos c_2] using K_1
    · refine z_aloadr_n dX9_thin_44 rfl ?_
      refine z_iload dX9_thin_45 rfl ?_
      refine z_iconst dX9_thin_47 k_iconst_1 ?_
      refine z_iadd (v := (((nI i_) - (nI i_) / (16 : Int32) * (16 : Int32)) + (1 : Int32))) dX9_thin_48 rfl ?_
      refine z_iload dX9_thin_49 rfl ?_
      refine z_callV (ci := 9) (r := (RX9, TX9, 38)) (b := 32) (As := [.int (((nI i_) - (nI i_) / (16 : Int32) * (16 : Int32)) + (1 : Int32)), .int ((nI i_) / (16 : Int32))]) (rest := []) (ctX9_isDark P x2_ (((nI i_) - (nI i_) / (16 : Int32) * (16 : Int32)) + (1 : Int32)) ((nI i_) / (16 : Int32)) (pzX9_isDark P x2_ (((nI i_) - (nI i_) / (16 : Int32) * (16 : Int32)) + (1 : Int32)) ((nI i_) / (16 : Int32)))) dX9_thin_51 lk_X9_105 lv_X9_isDark (Nat.le_of_ble_eq_true rfl) (zN rfl) rfl rfl rfl rfl (Nat.le_of_ble_eq_true rfl) (Nat.le_of_ble_eq_true rfl) (Nat.le_of_ble_eq_true rfl) (Nat.le_of_ble_eq_true rfl) (fun r_ h_ e_ => ?_)
      obtain ⟨e1_, e2_⟩ := e_
      subst e1_
      subst e2_
      show zz G mX9_thin 3 0 0 Q 54 [some (.ref 32), some (.int x0_), some (.int x1_), some (.int (nI i_)), some (.int ((nI i_) - (nI i_) / (16 : Int32) * (16 : Int32))), some (.int ((nI i_) / (16 : Int32))), none] [.int (rX9_isDark x2_ (((nI i_) - (nI i_) / (16 : Int32) * (16 : Int32)) + (1 : Int32)) ((nI i_) / (16 : Int32)))] (hh P x2_) 0 0
      refine z_if_eq (tgt := 83) dX9_thin_54 (by decide) (fun c_3 => ?_) (fun c_3 => ?_)
      · refine z_iconst dX9_thin_83 k_iconst_1 ?_
        refine z_goto (tgt := 88) dX9_thin_84 (by decide) ?_
        first | exact K_1 | simpa only [if_neg c_2, if_pos c_3] using K_1
      · refine z_aloadr_n dX9_thin_57 rfl ?_
        refine z_iload dX9_thin_58 rfl ?_
        refine z_iload dX9_thin_60 rfl ?_
        refine z_iconst dX9_thin_62 k_iconst_1 ?_
        refine z_isub (v := (((nI i_) / (16 : Int32)) - (1 : Int32))) dX9_thin_63 rfl ?_
        refine z_callV (ci := 9) (r := (RX9, TX9, 38)) (b := 32) (As := [.int ((nI i_) - (nI i_) / (16 : Int32) * (16 : Int32)), .int (((nI i_) / (16 : Int32)) - (1 : Int32))]) (rest := []) (ctX9_isDark P x2_ ((nI i_) - (nI i_) / (16 : Int32) * (16 : Int32)) (((nI i_) / (16 : Int32)) - (1 : Int32)) (pzX9_isDark P x2_ ((nI i_) - (nI i_) / (16 : Int32) * (16 : Int32)) (((nI i_) / (16 : Int32)) - (1 : Int32)))) dX9_thin_64 lk_X9_105 lv_X9_isDark (Nat.le_of_ble_eq_true rfl) (zN rfl) rfl rfl rfl rfl (Nat.le_of_ble_eq_true rfl) (Nat.le_of_ble_eq_true rfl) (Nat.le_of_ble_eq_true rfl) (Nat.le_of_ble_eq_true rfl) (fun r_ h_ e_ => ?_)
        obtain ⟨e1_, e2_⟩ := e_
        subst e1_
        subst e2_
        show zz G mX9_thin 3 0 0 Q 67 [some (.ref 32), some (.int x0_), some (.int x1_), some (.int (nI i_)), some (.int ((nI i_) - (nI i_) / (16 : Int32) * (16 : Int32))), some (.int ((nI i_) / (16 : Int32))), none] [.int (rX9_isDark x2_ ((nI i_) - (nI i_) / (16 : Int32) * (16 : Int32)) (((nI i_) / (16 : Int32)) - (1 : Int32)))] (hh P x2_) 0 0
        refine z_if_eq (tgt := 83) dX9_thin_67 (by decide) (fun c_4 => ?_) (fun c_4 => ?_)
        · refine z_iconst dX9_thin_83 k_iconst_1 ?_
          refine z_goto (tgt := 88) dX9_thin_84 (by decide) ?_
          first | exact K_1 | simpa only [if_neg c_2, if_neg c_3, if_pos c_4] using K_1
        · refine z_aloadr_n dX9_thin_70 rfl ?_
          refine z_iload dX9_thin_71 rfl ?_
          refine z_iload dX9_thin_73 rfl ?_
          refine z_iconst dX9_thin_75 k_iconst_1 ?_
          refine z_iadd (v := (((nI i_) / (16 : Int32)) + (1 : Int32))) dX9_thin_76 rfl ?_
          refine z_callV (ci := 9) (r := (RX9, TX9, 38)) (b := 32) (As := [.int ((nI i_) - (nI i_) / (16 : Int32) * (16 : Int32)), .int (((nI i_) / (16 : Int32)) + (1 : Int32))]) (rest := []) (ctX9_isDark P x2_ ((nI i_) - (nI i_) / (16 : Int32) * (16 : Int32)) (((nI i_) / (16 : Int32)) + (1 : Int32)) (pzX9_isDark P x2_ ((nI i_) - (nI i_) / (16 : Int32) * (16 : Int32)) (((nI i_) / (16 : Int32)) + (1 : Int32)))) dX9_thin_77 lk_X9_105 lv_X9_isDark (Nat.le_of_ble_eq_true rfl) (zN rfl) rfl rfl rfl rfl (Nat.le_of_ble_eq_true rfl) (Nat.le_of_ble_eq_true rfl) (Nat.le_of_ble_eq_true rfl) (Nat.le_of_ble_eq_true rfl) (fun r_ h_ e_ => ?_)
          obtain ⟨e1_, e2_⟩ := e_
          subst e1_
          subst e2_
          show zz G mX9_thin 3 0 0 Q 80 [some (.ref 32), some (.int x0_), some (.int x1_), some (.int (nI i_)), some (.int ((nI i_) - (nI i_) / (16 : Int32) * (16 : Int32))), some (.int ((nI i_) / (16 : Int32))), none] [.int (rX9_isDark x2_ ((nI i_) - (nI i_) / (16 : Int32) * (16 : Int32)) (((nI i_) / (16 : Int32)) + (1 : Int32)))] (hh P x2_) 0 0
          refine z_if_ne (tgt := 87) dX9_thin_80 (by decide) (fun c_5 => ?_) (fun c_5 => ?_)
          · refine z_iconst dX9_thin_87 k_iconst_0 ?_
            first | exact K_1 | simpa only [if_neg c_2, if_neg c_3, if_neg c_4, if_neg c_5] using K_1
          · refine z_iconst dX9_thin_83 k_iconst_1 ?_
            refine z_goto (tgt := 88) dX9_thin_84 (by decide) ?_
            first | exact K_1 | simpa only [if_neg c_2, if_neg c_3, if_neg c_4, if_pos c_5] using K_1
  · generalize zfor fX9_thin_12 256 (l1, l2, σ) = g_ at W2_ ⊢
    obtain ⟨x0_, x1_, x2_⟩ := g_
    dsimp only at W2_ ⊢
    refine z_iload_n dX9_thin_12 rfl ?_
    refine z_sipush dX9_thin_13 k_sipush_256 ?_
    refine z_icmp_ge (tgt := 145) dX9_thin_16 (by decide) (fun c_ => ?_) (fun c_ => absurd (by decide) c_)
    exact zz_sub (lv' := [some (.ref 32), some (.int x0_), some (.int x1_), none, none, none, none]) ⟨rfl, ⟨rfl, ⟨rfl, trivial⟩⟩⟩ W2_

theorem dX9_thin_4 : decode cX9_thin 4 = .ok (.iload_n 2, 1) := by decide +kernel
theorem dX9_thin_5 : decode cX9_thin 5 = .ok (.ifCond .eq 143, 3) := by decide +kernel
theorem dX9_thin_8 : decode cX9_thin 8 = .ok (.iconst 0, 1) := by decide +kernel
theorem dX9_thin_9 : decode cX9_thin 9 = .ok (.istore_n 2, 1) := by decide +kernel
theorem dX9_thin_10 : decode cX9_thin 10 = .ok (.iconst 0, 1) := by decide +kernel
theorem dX9_thin_11 : decode cX9_thin 11 = .ok (.istore_n 3, 1) := by decide +kernel
theorem dX9_thin_148 : decode cX9_thin 148 = .ok (.iload_n 1, 1) := by decide +kernel
noncomputable def fX9_thin_4 (a_ : Int32 × Int32 × zc_N) : Int32 × Int32 × zc_N := ((zfor fX9_thin_12 256 (a_.1, (0 : Int32), a_.2.2)).1, (zfor fX9_thin_12 256 (a_.1, (0 : Int32), a_.2.2)).2.1, (zfor fX9_thin_12 256 (a_.1, (0 : Int32), a_.2.2)).2.2)
def eX9_thin_4 (a_ : Int32 × Int32 × zc_N) : Prop := ((a_.2.1 = (0 : Int32) ∧ True) ∨ (¬ a_.2.1 = (0 : Int32) ∧ False))
def qX9_thin_4 (a_ : Int32 × Int32 × zc_N) : Prop := ((a_.2.1 = (0 : Int32) → True) ∧ (¬ a_.2.1 = (0 : Int32) → (∀ i12_ : Nat, i12_ < 256 → qX9_thin_12 i12_ (zfor fX9_thin_12 i12_ (a_.1, (0 : Int32), a_.2.2)))))
set_option maxHeartbeats 2000000 in
theorem whX9_thin_4 {G : zc_G} {Q : Option Value → zc_H → Prop} (P : zp) (σ : zc_N) (l1 : Int32) (l2 : Int32)
    (hT_ : ∃ n_ : Nat, eX9_thin_4 (zit fX9_thin_4 n_ (l1, l2, σ))) (W1_ : ∀ i4_ : Nat, i4_ < (zwn (fun n_ => eX9_thin_4 (zit fX9_thin_4 n_ (l1, l2, σ)))) → qX9_thin_4 (zit fX9_thin_4 i4_ (l1, l2, σ)))
    (W2_ : eX9_thin_4 (zit fX9_thin_4 (zwn (fun n_ => eX9_thin_4 (zit fX9_thin_4 n_ (l1, l2, σ)))) (l1, l2, σ)) → zz G mX9_thin 3 0 0 Q 4 [some (.ref 32), some (.int (zit fX9_thin_4 (zwn (fun n_ => eX9_thin_4 (zit fX9_thin_4 n_ (l1, l2, σ)))) (l1, l2, σ)).1), some (.int (zit fX9_thin_4 (zwn (fun n_ => eX9_thin_4 (zit fX9_thin_4 n_ (l1, l2, σ)))) (l1, l2, σ)).2.1), none, none, none, none] [] (hh P (zit fX9_thin_4 (zwn (fun n_ => eX9_thin_4 (zit fX9_thin_4 n_ (l1, l2, σ)))) (l1, l2, σ)).2.2) 0 0) :
    zz G mX9_thin 3 0 0 Q 4 [some (.ref 32), some (.int l1), some (.int l2), none, none, none, none] [] (hh P σ) 0 0 := by
  have hs_ := zwn_spec hT_
  refine zit_Z (fun a_ => zz G mX9_thin 3 0 0 Q 4 [some (.ref 32), some (.int a_.1), some (.int a_.2.1), none, none, none, none] [] (hh P a_.2.2) 0 0) fX9_thin_4 (zwn (fun n_ => eX9_thin_4 (zit fX9_thin_4 n_ (l1, l2, σ)))) (l1, l2, σ) (fun i_ hi_ k_ => ?_) (W2_ hs_.1)
  have hn_ := hs_.2 i_ hi_
  have W3_ := W1_ i_ hi_
  generalize zit fX9_thin_4 i_ (l1, l2, σ) = g_ at k_ hn_ W3_ ⊢
  obtain ⟨x0_, x1_, x2_⟩ := g_
  try dsimp only at k_ hn_ W3_ ⊢
  rw [fX9_thin_4] at k_
  rw [eX9_thin_4] at hn_
  try dsimp only at k_ hn_
  rw [qX9_thin_4] at W3_
  try dsimp only at W3_
  refine z_iload_n dX9_thin_4 rfl ?_
  refine z_if_eq (tgt := 148) dX9_thin_5 (by decide) (fun c_1 => ?_) (fun c_1 => ?_)
  · exact absurd (Or.inl ⟨c_1, trivial⟩) hn_
  · refine z_iconst dX9_thin_8 k_iconst_0 ?_
    refine z_istore_n (lv' := [some (.ref 32), some (.int x0_), some (.int (0 : Int32)), none, none, none, none]) dX9_thin_9 (Nat.le_of_ble_eq_true rfl) rfl ?_
    refine z_iconst dX9_thin_10 k_iconst_0 ?_
    refine z_istore_n (lv' := [some (.ref 32), some (.int x0_), some (.int (0 : Int32)), some (.int (0 : Int32)), none, none, none]) dX9_thin_11 (Nat.le_of_ble_eq_true rfl) rfl ?_
    refine lpX9_thin_12 P x2_ x0_ (0 : Int32) (W3_.2 c_1) ?_
    refine z_goto (tgt := 4) dX9_thin_145 (by decide) ?_
    simpa only [if_neg c_1] using k_

theorem dX9_thin_0 : decode cX9_thin 0 = .ok (.iconst 0, 1) := by decide +kernel
theorem dX9_thin_1 : decode cX9_thin 1 = .ok (.istore_n 1, 1) := by decide +kernel
theorem dX9_thin_2 : decode cX9_thin 2 = .ok (.iconst 1, 1) := by decide +kernel
theorem dX9_thin_3 : decode cX9_thin 3 = .ok (.istore_n 2, 1) := by decide +kernel
theorem dX9_thin_149 : decode cX9_thin 149 = .ok (.ireturn, 1) := by decide +kernel
def pX9_thin (σ : zc_N) : Prop := (((∃ n_ : Nat, eX9_thin_4 (zit fX9_thin_4 n_ ((0 : Int32), (1 : Int32), σ))) ∧ (∀ i4_ : Nat, i4_ < (zwn (fun n_ => eX9_thin_4 (zit fX9_thin_4 n_ ((0 : Int32), (1 : Int32), σ)))) → qX9_thin_4 (zit fX9_thin_4 i4_ ((0 : Int32), (1 : Int32), σ)))) ∧ (((zit fX9_thin_4 (zwn (fun n_ => eX9_thin_4 (zit fX9_thin_4 n_ ((0 : Int32), (1 : Int32), σ)))) ((0 : Int32), (1 : Int32), σ)).2.1 = (0 : Int32) → True) ∧ (¬ (zit fX9_thin_4 (zwn (fun n_ => eX9_thin_4 (zit fX9_thin_4 n_ ((0 : Int32), (1 : Int32), σ)))) ((0 : Int32), (1 : Int32), σ)).2.1 = (0 : Int32) → (∀ i12_ : Nat, i12_ < 256 → qX9_thin_12 i12_ (zfor fX9_thin_12 i12_ (((zit fX9_thin_4 (zwn (fun n_ => eX9_thin_4 (zit fX9_thin_4 n_ ((0 : Int32), (1 : Int32), σ)))) ((0 : Int32), (1 : Int32), σ)).1), (0 : Int32), ((zit fX9_thin_4 (zwn (fun n_ => eX9_thin_4 (zit fX9_thin_4 n_ ((0 : Int32), (1 : Int32), σ)))) ((0 : Int32), (1 : Int32), σ)).2.2)))))))
noncomputable def rX9_thin (σ : zc_N) : Int32 := (zit fX9_thin_4 (zwn (fun n_ => eX9_thin_4 (zit fX9_thin_4 n_ ((0 : Int32), (1 : Int32), σ)))) ((0 : Int32), (1 : Int32), σ)).1
noncomputable def sX9_thin (σ : zc_N) : zc_N := (zit fX9_thin_4 (zwn (fun n_ => eX9_thin_4 (zit fX9_thin_4 n_ ((0 : Int32), (1 : Int32), σ)))) ((0 : Int32), (1 : Int32), σ)).2.2
set_option maxHeartbeats 1000000 in
theorem ctX9_thin (P : zp) (σ : zc_N) (W_ : (pX9_thin σ)) : sp mX9_thin 3 0 0 [.ref 32] (hh P σ) (fun r_ h_ => r_ = some (.int (rX9_thin σ)) ∧ h_ = hh P (sX9_thin σ)) := by
  refine sp_of (lv := [some (.ref 32), none, none, none, none, none, none]) (by decide) (zcats_ok _ rfl) (Nat.le_of_ble_eq_true rfl) (zlv_ok _ 6 rfl) (fun G => ?_)
  generalize hQ_ : (fun (r_ : Option Value) (h_ : zc_H) => r_ = some (.int (rX9_thin σ)) ∧ h_ = hh P (sX9_thin σ)) = Q_
  unfold pX9_thin at W_
  refine z_iconst dX9_thin_0 k_iconst_0 ?_
  refine z_istore_n (lv' := [some (.ref 32), some (.int (0 : Int32)), none, none, none, none, none]) dX9_thin_1 (Nat.le_of_ble_eq_true rfl) rfl ?_
  refine z_iconst dX9_thin_2 k_iconst_1 ?_
  refine z_istore_n (lv' := [some (.ref 32), some (.int (0 : Int32)), some (.int (1 : Int32)), none, none, none, none]) dX9_thin_3 (Nat.le_of_ble_eq_true rfl) rfl ?_
  refine whX9_thin_4 P σ (0 : Int32) (1 : Int32) W_.1.1 W_.1.2 (fun hX4_ => ?_)
  rw [eX9_thin_4] at hX4_
  try dsimp only at hX4_
  refine z_iload_n dX9_thin_4 rfl ?_
  refine z_if_eq (tgt := 148) dX9_thin_5 (by decide) (fun c_1 => ?_) (fun c_1 => ?_)
  · refine z_iload_n dX9_thin_148 rfl ?_
    exact z_ireturn dX9_thin_149 rfl rfl (Nat.le_of_ble_eq_true rfl) (Nat.le_of_ble_eq_true rfl) (by rw [← hQ_]; exact ⟨(by rw [rX9_thin]), (by rw [sX9_thin])⟩)
  · refine z_iconst dX9_thin_8 k_iconst_0 ?_
    refine z_istore_n (lv' := [some (.ref 32), some (.int (zit fX9_thin_4 (zwn (fun n_ => eX9_thin_4 (zit fX9_thin_4 n_ ((0 : Int32), (1 : Int32), σ)))) ((0 : Int32), (1 : Int32), σ)).1), some (.int (0 : Int32)), none, none, none, none]) dX9_thin_9 (Nat.le_of_ble_eq_true rfl) rfl ?_
    refine z_iconst dX9_thin_10 k_iconst_0 ?_
    refine z_istore_n (lv' := [some (.ref 32), some (.int (zit fX9_thin_4 (zwn (fun n_ => eX9_thin_4 (zit fX9_thin_4 n_ ((0 : Int32), (1 : Int32), σ)))) ((0 : Int32), (1 : Int32), σ)).1), some (.int (0 : Int32)), some (.int (0 : Int32)), none, none, none]) dX9_thin_11 (Nat.le_of_ble_eq_true rfl) rfl ?_
    refine lpX9_thin_12 P ((zit fX9_thin_4 (zwn (fun n_ => eX9_thin_4 (zit fX9_thin_4 n_ ((0 : Int32), (1 : Int32), σ)))) ((0 : Int32), (1 : Int32), σ)).2.2) ((zit fX9_thin_4 (zwn (fun n_ => eX9_thin_4 (zit fX9_thin_4 n_ ((0 : Int32), (1 : Int32), σ)))) ((0 : Int32), (1 : Int32), σ)).1) (0 : Int32) (W_.2.2 c_1) ?_
    refine z_goto (tgt := 4) dX9_thin_145 (by decide) ?_
    exact (ex_r hX4_ c_1).elim

theorem dX1_takeThinned_4 : decode cX1_takeThinned 4 = .ok (.iload_n 2, 1) := by decide +kernel
theorem dX1_takeThinned_5 : decode cX1_takeThinned 5 = .ok (.sipush 256, 3) := by decide +kernel
theorem dX1_takeThinned_8 : decode cX1_takeThinned 8 = .ok (.if_icmp .gt 25, 3) := by decide +kernel
theorem dX1_takeThinned_11 : decode cX1_takeThinned 11 = .ok (.aload_n 0, 1) := by decide +kernel
theorem dX1_takeThinned_12 : decode cX1_takeThinned 12 = .ok (.invokevirtual 27, 3) := by decide +kernel
theorem dX1_takeThinned_15 : decode cX1_takeThinned 15 = .ok (.istore_n 3, 1) := by decide +kernel
theorem dX1_takeThinned_16 : decode cX1_takeThinned 16 = .ok (.iload_n 3, 1) := by decide +kernel
theorem dX1_takeThinned_17 : decode cX1_takeThinned 17 = .ok (.ifCond .ne 6, 3) := by decide +kernel
theorem dX1_takeThinned_20 : decode cX1_takeThinned 20 = .ok (.goto 13, 3) := by decide +kernel
theorem dX1_takeThinned_23 : decode cX1_takeThinned 23 = .ok (.iload_n 1, 1) := by decide +kernel
theorem dX1_takeThinned_24 : decode cX1_takeThinned 24 = .ok (.iload_n 3, 1) := by decide +kernel
theorem dX1_takeThinned_25 : decode cX1_takeThinned 25 = .ok (.iadd, 1) := by decide +kernel
theorem dX1_takeThinned_26 : decode cX1_takeThinned 26 = .ok (.istore_n 1, 1) := by decide +kernel
theorem dX1_takeThinned_27 : decode cX1_takeThinned 27 = .ok (.iinc 2 1, 3) := by decide +kernel
theorem dX1_takeThinned_30 : decode cX1_takeThinned 30 = .ok (.goto (-26), 3) := by decide +kernel
theorem dX1_takeThinned_33 : decode cX1_takeThinned 33 = .ok (.iload_n 1, 1) := by decide +kernel
noncomputable def fX1_takeThinned_4 (a_ : Int32 × Int32 × zc_N) : Int32 × Int32 × zc_N := ((a_.1 + (rX1_sweepOnce a_.2.2)), (a_.2.1 + (1 : Int32)), (sX1_sweepOnce a_.2.2))
def eX1_takeThinned_4 (a_ : Int32 × Int32 × zc_N) : Prop := (((256 : Int32) < a_.2.1 ∧ True) ∨ (¬ (256 : Int32) < a_.2.1 ∧ (((rX1_sweepOnce a_.2.2) = (0 : Int32) ∧ True) ∨ (¬ (rX1_sweepOnce a_.2.2) = (0 : Int32) ∧ False))))
def qX1_takeThinned_4 (a_ : Int32 × Int32 × zc_N) : Prop := (((256 : Int32) < a_.2.1 → True) ∧ (¬ (256 : Int32) < a_.2.1 → (pX1_sweepOnce a_.2.2)))
set_option maxHeartbeats 2000000 in
theorem whX1_takeThinned_4 {G : zc_G} {Q : Option Value → zc_H → Prop} (P : zp) (σ : zc_N) (l1 : Int32) (l2 : Int32)
    (hT_ : ∃ n_ : Nat, eX1_takeThinned_4 (zit fX1_takeThinned_4 n_ (l1, l2, σ))) (W1_ : ∀ i4_ : Nat, i4_ < (zwn (fun n_ => eX1_takeThinned_4 (zit fX1_takeThinned_4 n_ (l1, l2, σ)))) → qX1_takeThinned_4 (zit fX1_takeThinned_4 i4_ (l1, l2, σ)))
    (W2_ : eX1_takeThinned_4 (zit fX1_takeThinned_4 (zwn (fun n_ => eX1_takeThinned_4 (zit fX1_takeThinned_4 n_ (l1, l2, σ)))) (l1, l2, σ)) → zz G mX1_takeThinned 4 0 0 Q 4 [some (.ref 4), some (.int (zit fX1_takeThinned_4 (zwn (fun n_ => eX1_takeThinned_4 (zit fX1_takeThinned_4 n_ (l1, l2, σ)))) (l1, l2, σ)).1), some (.int (zit fX1_takeThinned_4 (zwn (fun n_ => eX1_takeThinned_4 (zit fX1_takeThinned_4 n_ (l1, l2, σ)))) (l1, l2, σ)).2.1), none] [] (hh P (zit fX1_takeThinned_4 (zwn (fun n_ => eX1_takeThinned_4 (zit fX1_takeThinned_4 n_ (l1, l2, σ)))) (l1, l2, σ)).2.2) 0 0) :
    zz G mX1_takeThinned 4 0 0 Q 4 [some (.ref 4), some (.int l1), some (.int l2), none] [] (hh P σ) 0 0 := by
  have hs_ := zwn_spec hT_
  refine zit_Z (fun a_ => zz G mX1_takeThinned 4 0 0 Q 4 [some (.ref 4), some (.int a_.1), some (.int a_.2.1), none] [] (hh P a_.2.2) 0 0) fX1_takeThinned_4 (zwn (fun n_ => eX1_takeThinned_4 (zit fX1_takeThinned_4 n_ (l1, l2, σ)))) (l1, l2, σ) (fun i_ hi_ k_ => ?_) (W2_ hs_.1)
  have hn_ := hs_.2 i_ hi_
  have W3_ := W1_ i_ hi_
  generalize zit fX1_takeThinned_4 i_ (l1, l2, σ) = g_ at k_ hn_ W3_ ⊢
  obtain ⟨x0_, x1_, x2_⟩ := g_
  try dsimp only at k_ hn_ W3_ ⊢
  rw [fX1_takeThinned_4] at k_
  rw [eX1_takeThinned_4] at hn_
  try dsimp only at k_ hn_
  rw [qX1_takeThinned_4] at W3_
  try dsimp only at W3_
  refine z_iload_n dX1_takeThinned_4 rfl ?_
  refine z_sipush dX1_takeThinned_5 k_sipush_256 ?_
  refine z_icmp_gt (tgt := 33) dX1_takeThinned_8 (by decide) (fun c_1 => ?_) (fun c_1 => ?_)
  · exact absurd (Or.inl ⟨c_1, trivial⟩) hn_
  · refine z_aloadr_n dX1_takeThinned_11 rfl ?_
    refine z_callV (ci := 1) (r := (RX1, TX1, 3)) (b := 4) (As := []) (rest := []) (ctX1_sweepOnce P x2_ (W3_.2 c_1)) dX1_takeThinned_12 lk_X1_27 lv_X1_sweepOnce (Nat.le_of_ble_eq_true rfl) (zN rfl) rfl rfl rfl rfl (Nat.le_of_ble_eq_true rfl) (Nat.le_of_ble_eq_true rfl) (Nat.le_of_ble_eq_true rfl) (Nat.le_of_ble_eq_true rfl) (fun r_ h_ e_ => ?_)
    obtain ⟨e1_, e2_⟩ := e_
    subst e1_
    subst e2_
    show zz G mX1_takeThinned 4 0 0 Q 15 [some (.ref 4), some (.int x0_), some (.int x1_), none] [.int (rX1_sweepOnce x2_)] (hh P (sX1_sweepOnce x2_)) 0 0
    refine z_istore_n (lv' := [some (.ref 4), some (.int x0_), some (.int x1_), some (.int (rX1_sweepOnce x2_))]) dX1_takeThinned_15 (Nat.le_of_ble_eq_true rfl) rfl ?_
    refine z_iload_n dX1_takeThinned_16 rfl ?_
    refine z_if_ne (tgt := 23) dX1_takeThinned_17 (by decide) (fun c_2 => ?_) (fun c_2 => ?_)
    · refine z_iload_n dX1_takeThinned_23 rfl ?_
      refine z_iload_n dX1_takeThinned_24 rfl ?_
      refine z_iadd (v := (x0_ + (rX1_sweepOnce x2_))) dX1_takeThinned_25 rfl ?_
      refine z_istore_n (lv' := [some (.ref 4), some (.int (x0_ + (rX1_sweepOnce x2_))), some (.int x1_), some (.int (rX1_sweepOnce x2_))]) dX1_takeThinned_26 (Nat.le_of_ble_eq_true rfl) rfl ?_
      refine z_iinc (v := (x1_ + (1 : Int32))) (lv' := [some (.ref 4), some (.int (x0_ + (rX1_sweepOnce x2_))), some (.int (x1_ + (1 : Int32))), some (.int (rX1_sweepOnce x2_))]) dX1_takeThinned_27 (Nat.le_of_ble_eq_true rfl) rfl (by rw [k_iconst_1]) rfl ?_
      refine z_goto (tgt := 4) dX1_takeThinned_30 (by decide) ?_
      refine zz_sub (lv' := [some (.ref 4), some (.int (x0_ + (rX1_sweepOnce x2_))), some (.int (x1_ + (1 : Int32))), none]) ⟨rfl, ⟨rfl, ⟨rfl, trivial⟩⟩⟩ ?_
      simpa only [if_neg c_1, if_neg c_2] using k_
    · exact absurd (Or.inr ⟨c_1, (Or.inl ⟨c_2, trivial⟩)⟩) hn_

theorem dX1_takeThinned_0 : decode cX1_takeThinned 0 = .ok (.iconst 0, 1) := by decide +kernel
theorem dX1_takeThinned_1 : decode cX1_takeThinned 1 = .ok (.istore_n 1, 1) := by decide +kernel
theorem dX1_takeThinned_2 : decode cX1_takeThinned 2 = .ok (.iconst 0, 1) := by decide +kernel
theorem dX1_takeThinned_3 : decode cX1_takeThinned 3 = .ok (.istore_n 2, 1) := by decide +kernel
theorem dX1_takeThinned_34 : decode cX1_takeThinned 34 = .ok (.ireturn, 1) := by decide +kernel
def pX1_takeThinned (σ : zc_N) : Prop := (((∃ n_ : Nat, eX1_takeThinned_4 (zit fX1_takeThinned_4 n_ ((0 : Int32), (0 : Int32), σ))) ∧ (∀ i4_ : Nat, i4_ < (zwn (fun n_ => eX1_takeThinned_4 (zit fX1_takeThinned_4 n_ ((0 : Int32), (0 : Int32), σ)))) → qX1_takeThinned_4 (zit fX1_takeThinned_4 i4_ ((0 : Int32), (0 : Int32), σ)))) ∧ (((256 : Int32) < (zit fX1_takeThinned_4 (zwn (fun n_ => eX1_takeThinned_4 (zit fX1_takeThinned_4 n_ ((0 : Int32), (0 : Int32), σ)))) ((0 : Int32), (0 : Int32), σ)).2.1 → True) ∧ (¬ (256 : Int32) < (zit fX1_takeThinned_4 (zwn (fun n_ => eX1_takeThinned_4 (zit fX1_takeThinned_4 n_ ((0 : Int32), (0 : Int32), σ)))) ((0 : Int32), (0 : Int32), σ)).2.1 → (pX1_sweepOnce ((zit fX1_takeThinned_4 (zwn (fun n_ => eX1_takeThinned_4 (zit fX1_takeThinned_4 n_ ((0 : Int32), (0 : Int32), σ)))) ((0 : Int32), (0 : Int32), σ)).2.2)))))
noncomputable def rX1_takeThinned (σ : zc_N) : Int32 := (zit fX1_takeThinned_4 (zwn (fun n_ => eX1_takeThinned_4 (zit fX1_takeThinned_4 n_ ((0 : Int32), (0 : Int32), σ)))) ((0 : Int32), (0 : Int32), σ)).1
noncomputable def sX1_takeThinned (σ : zc_N) : zc_N := (if (256 : Int32) < (zit fX1_takeThinned_4 (zwn (fun n_ => eX1_takeThinned_4 (zit fX1_takeThinned_4 n_ ((0 : Int32), (0 : Int32), σ)))) ((0 : Int32), (0 : Int32), σ)).2.1 then (zit fX1_takeThinned_4 (zwn (fun n_ => eX1_takeThinned_4 (zit fX1_takeThinned_4 n_ ((0 : Int32), (0 : Int32), σ)))) ((0 : Int32), (0 : Int32), σ)).2.2 else (sX1_sweepOnce ((zit fX1_takeThinned_4 (zwn (fun n_ => eX1_takeThinned_4 (zit fX1_takeThinned_4 n_ ((0 : Int32), (0 : Int32), σ)))) ((0 : Int32), (0 : Int32), σ)).2.2)))
set_option maxHeartbeats 1000000 in
theorem ctX1_takeThinned (P : zp) (σ : zc_N) (W_ : (pX1_takeThinned σ)) : sp mX1_takeThinned 4 0 0 [.ref 4] (hh P σ) (fun r_ h_ => r_ = some (.int (rX1_takeThinned σ)) ∧ h_ = hh P (sX1_takeThinned σ)) := by
  refine sp_of (lv := [some (.ref 4), none, none, none]) (by decide) (zcats_ok _ rfl) (Nat.le_of_ble_eq_true rfl) (zlv_ok _ 3 rfl) (fun G => ?_)
  generalize hQ_ : (fun (r_ : Option Value) (h_ : zc_H) => r_ = some (.int (rX1_takeThinned σ)) ∧ h_ = hh P (sX1_takeThinned σ)) = Q_
  unfold pX1_takeThinned at W_
  refine z_iconst dX1_takeThinned_0 k_iconst_0 ?_
  refine z_istore_n (lv' := [some (.ref 4), some (.int (0 : Int32)), none, none]) dX1_takeThinned_1 (Nat.le_of_ble_eq_true rfl) rfl ?_
  refine z_iconst dX1_takeThinned_2 k_iconst_0 ?_
  refine z_istore_n (lv' := [some (.ref 4), some (.int (0 : Int32)), some (.int (0 : Int32)), none]) dX1_takeThinned_3 (Nat.le_of_ble_eq_true rfl) rfl ?_
  refine whX1_takeThinned_4 P σ (0 : Int32) (0 : Int32) W_.1.1 W_.1.2 (fun hX4_ => ?_)
  rw [eX1_takeThinned_4] at hX4_
  try dsimp only at hX4_
  refine z_iload_n dX1_takeThinned_4 rfl ?_
  refine z_sipush dX1_takeThinned_5 k_sipush_256 ?_
  refine z_icmp_gt (tgt := 33) dX1_takeThinned_8 (by decide) (fun c_1 => ?_) (fun c_1 => ?_)
  · refine z_iload_n dX1_takeThinned_33 rfl ?_
    exact z_ireturn dX1_takeThinned_34 rfl rfl (Nat.le_of_ble_eq_true rfl) (Nat.le_of_ble_eq_true rfl) (by rw [← hQ_]; exact ⟨(by rw [rX1_takeThinned]), (by rw [sX1_takeThinned]; simp only [if_pos c_1])⟩)
  · refine z_aloadr_n dX1_takeThinned_11 rfl ?_
    refine z_callV (ci := 1) (r := (RX1, TX1, 3)) (b := 4) (As := []) (rest := []) (ctX1_sweepOnce P ((zit fX1_takeThinned_4 (zwn (fun n_ => eX1_takeThinned_4 (zit fX1_takeThinned_4 n_ ((0 : Int32), (0 : Int32), σ)))) ((0 : Int32), (0 : Int32), σ)).2.2) (W_.2.2 c_1)) dX1_takeThinned_12 lk_X1_27 lv_X1_sweepOnce (Nat.le_of_ble_eq_true rfl) (zN rfl) rfl rfl rfl rfl (Nat.le_of_ble_eq_true rfl) (Nat.le_of_ble_eq_true rfl) (Nat.le_of_ble_eq_true rfl) (Nat.le_of_ble_eq_true rfl) (fun r_ h_ e_ => ?_)
    obtain ⟨e1_, e2_⟩ := e_
    subst e1_
    subst e2_
    show zz G mX1_takeThinned 4 0 0 Q_ 15 [some (.ref 4), some (.int (zit fX1_takeThinned_4 (zwn (fun n_ => eX1_takeThinned_4 (zit fX1_takeThinned_4 n_ ((0 : Int32), (0 : Int32), σ)))) ((0 : Int32), (0 : Int32), σ)).1), some (.int (zit fX1_takeThinned_4 (zwn (fun n_ => eX1_takeThinned_4 (zit fX1_takeThinned_4 n_ ((0 : Int32), (0 : Int32), σ)))) ((0 : Int32), (0 : Int32), σ)).2.1), none] [.int (rX1_sweepOnce ((zit fX1_takeThinned_4 (zwn (fun n_ => eX1_takeThinned_4 (zit fX1_takeThinned_4 n_ ((0 : Int32), (0 : Int32), σ)))) ((0 : Int32), (0 : Int32), σ)).2.2))] (hh P (sX1_sweepOnce ((zit fX1_takeThinned_4 (zwn (fun n_ => eX1_takeThinned_4 (zit fX1_takeThinned_4 n_ ((0 : Int32), (0 : Int32), σ)))) ((0 : Int32), (0 : Int32), σ)).2.2))) 0 0
    refine z_istore_n (lv' := [some (.ref 4), some (.int (zit fX1_takeThinned_4 (zwn (fun n_ => eX1_takeThinned_4 (zit fX1_takeThinned_4 n_ ((0 : Int32), (0 : Int32), σ)))) ((0 : Int32), (0 : Int32), σ)).1), some (.int (zit fX1_takeThinned_4 (zwn (fun n_ => eX1_takeThinned_4 (zit fX1_takeThinned_4 n_ ((0 : Int32), (0 : Int32), σ)))) ((0 : Int32), (0 : Int32), σ)).2.1), some (.int (rX1_sweepOnce ((zit fX1_takeThinned_4 (zwn (fun n_ => eX1_takeThinned_4 (zit fX1_takeThinned_4 n_ ((0 : Int32), (0 : Int32), σ)))) ((0 : Int32), (0 : Int32), σ)).2.2)))]) dX1_takeThinned_15 (Nat.le_of_ble_eq_true rfl) rfl ?_
    refine z_iload_n dX1_takeThinned_16 rfl ?_
    refine z_if_ne (tgt := 23) dX1_takeThinned_17 (by decide) (fun c_2 => ?_) (fun c_2 => ?_)
    · refine z_iload_n dX1_takeThinned_23 rfl ?_
      refine z_iload_n dX1_takeThinned_24 rfl ?_
      refine z_iadd (v := ((zit fX1_takeThinned_4 (zwn (fun n_ => eX1_takeThinned_4 (zit fX1_takeThinned_4 n_ ((0 : Int32), (0 : Int32), σ)))) ((0 : Int32), (0 : Int32), σ)).1 + (rX1_sweepOnce ((zit fX1_takeThinned_4 (zwn (fun n_ => eX1_takeThinned_4 (zit fX1_takeThinned_4 n_ ((0 : Int32), (0 : Int32), σ)))) ((0 : Int32), (0 : Int32), σ)).2.2)))) dX1_takeThinned_25 rfl ?_
      refine z_istore_n (lv' := [some (.ref 4), some (.int ((zit fX1_takeThinned_4 (zwn (fun n_ => eX1_takeThinned_4 (zit fX1_takeThinned_4 n_ ((0 : Int32), (0 : Int32), σ)))) ((0 : Int32), (0 : Int32), σ)).1 + (rX1_sweepOnce ((zit fX1_takeThinned_4 (zwn (fun n_ => eX1_takeThinned_4 (zit fX1_takeThinned_4 n_ ((0 : Int32), (0 : Int32), σ)))) ((0 : Int32), (0 : Int32), σ)).2.2)))), some (.int (zit fX1_takeThinned_4 (zwn (fun n_ => eX1_takeThinned_4 (zit fX1_takeThinned_4 n_ ((0 : Int32), (0 : Int32), σ)))) ((0 : Int32), (0 : Int32), σ)).2.1), some (.int (rX1_sweepOnce ((zit fX1_takeThinned_4 (zwn (fun n_ => eX1_takeThinned_4 (zit fX1_takeThinned_4 n_ ((0 : Int32), (0 : Int32), σ)))) ((0 : Int32), (0 : Int32), σ)).2.2)))]) dX1_takeThinned_26 (Nat.le_of_ble_eq_true rfl) rfl ?_
      refine z_iinc (v := ((zit fX1_takeThinned_4 (zwn (fun n_ => eX1_takeThinned_4 (zit fX1_takeThinned_4 n_ ((0 : Int32), (0 : Int32), σ)))) ((0 : Int32), (0 : Int32), σ)).2.1 + (1 : Int32))) (lv' := [some (.ref 4), some (.int ((zit fX1_takeThinned_4 (zwn (fun n_ => eX1_takeThinned_4 (zit fX1_takeThinned_4 n_ ((0 : Int32), (0 : Int32), σ)))) ((0 : Int32), (0 : Int32), σ)).1 + (rX1_sweepOnce ((zit fX1_takeThinned_4 (zwn (fun n_ => eX1_takeThinned_4 (zit fX1_takeThinned_4 n_ ((0 : Int32), (0 : Int32), σ)))) ((0 : Int32), (0 : Int32), σ)).2.2)))), some (.int ((zit fX1_takeThinned_4 (zwn (fun n_ => eX1_takeThinned_4 (zit fX1_takeThinned_4 n_ ((0 : Int32), (0 : Int32), σ)))) ((0 : Int32), (0 : Int32), σ)).2.1 + (1 : Int32))), some (.int (rX1_sweepOnce ((zit fX1_takeThinned_4 (zwn (fun n_ => eX1_takeThinned_4 (zit fX1_takeThinned_4 n_ ((0 : Int32), (0 : Int32), σ)))) ((0 : Int32), (0 : Int32), σ)).2.2)))]) dX1_takeThinned_27 (Nat.le_of_ble_eq_true rfl) rfl (by rw [k_iconst_1]) rfl ?_
      refine z_goto (tgt := 4) dX1_takeThinned_30 (by decide) ?_
      exact (ex_r (ex_r hX4_ c_1) c_2).elim
    · refine z_goto (tgt := 33) dX1_takeThinned_20 (by decide) ?_
      refine z_iload_n dX1_takeThinned_33 rfl ?_
      exact z_ireturn dX1_takeThinned_34 rfl rfl (Nat.le_of_ble_eq_true rfl) (Nat.le_of_ble_eq_true rfl) (by rw [← hQ_]; exact ⟨(by rw [rX1_takeThinned]), (by rw [sX1_takeThinned]; simp only [if_neg c_1, if_pos c_2])⟩)

theorem dX9_spread_18 : decode cX9_spread 18 = .ok (.iload 4, 2) := by decide +kernel
theorem dX9_spread_20 : decode cX9_spread 20 = .ok (.sipush 256, 3) := by decide +kernel
theorem dX9_spread_23 : decode cX9_spread 23 = .ok (.if_icmp .ge 50, 3) := by decide +kernel
theorem dX9_spread_26 : decode cX9_spread 26 = .ok (.aload_n 0, 1) := by decide +kernel
theorem dX9_spread_27 : decode cX9_spread 27 = .ok (.getfield 9, 3) := by decide +kernel
theorem dX9_spread_30 : decode cX9_spread 30 = .ok (.iload 4, 2) := by decide +kernel
theorem dX9_spread_32 : decode cX9_spread 32 = .ok (.baload, 1) := by decide +kernel
theorem dX9_spread_33 : decode cX9_spread 33 = .ok (.iload_n 2, 1) := by decide +kernel
theorem dX9_spread_34 : decode cX9_spread 34 = .ok (.if_icmp .ne 33, 3) := by decide +kernel
theorem dX9_spread_37 : decode cX9_spread 37 = .ok (.aload_n 0, 1) := by decide +kernel
theorem dX9_spread_38 : decode cX9_spread 38 = .ok (.getfield 13, 3) := by decide +kernel
theorem dX9_spread_41 : decode cX9_spread 41 = .ok (.iload 4, 2) := by decide +kernel
theorem dX9_spread_43 : decode cX9_spread 43 = .ok (.baload, 1) := by decide +kernel
theorem dX9_spread_44 : decode cX9_spread 44 = .ok (.ifCond .ne 23, 3) := by decide +kernel
theorem dX9_spread_47 : decode cX9_spread 47 = .ok (.aload_n 0, 1) := by decide +kernel
theorem dX9_spread_48 : decode cX9_spread 48 = .ok (.iload 4, 2) := by decide +kernel
theorem dX9_spread_50 : decode cX9_spread 50 = .ok (.iload_n 2, 1) := by decide +kernel
theorem dX9_spread_51 : decode cX9_spread 51 = .ok (.invokevirtual 123, 3) := by decide +kernel
theorem dX9_spread_54 : decode cX9_spread 54 = .ok (.ifCond .eq 13, 3) := by decide +kernel
theorem dX9_spread_57 : decode cX9_spread 57 = .ok (.aload_n 0, 1) := by decide +kernel
theorem dX9_spread_58 : decode cX9_spread 58 = .ok (.getfield 13, 3) := by decide +kernel
theorem dX9_spread_61 : decode cX9_spread 61 = .ok (.iload 4, 2) := by decide +kernel
theorem dX9_spread_63 : decode cX9_spread 63 = .ok (.iconst 1, 1) := by decide +kernel
theorem dX9_spread_64 : decode cX9_spread 64 = .ok (.bastore, 1) := by decide +kernel
theorem dX9_spread_65 : decode cX9_spread 65 = .ok (.iconst 1, 1) := by decide +kernel
theorem dX9_spread_66 : decode cX9_spread 66 = .ok (.istore_n 3, 1) := by decide +kernel
theorem dX9_spread_67 : decode cX9_spread 67 = .ok (.iinc 4 1, 3) := by decide +kernel
theorem dX9_spread_70 : decode cX9_spread 70 = .ok (.goto (-52), 3) := by decide +kernel
theorem dX9_spread_73 : decode cX9_spread 73 = .ok (.goto (-64), 3) := by decide +kernel
noncomputable def fX9_spread_18 (l2 : Int32) (i_ : Nat) (a_ : Int32 × zc_N) : Int32 × zc_N := ((if ((a_.2 33) (nI i_).toNatClampNeg) = l2 then (if ((a_.2 34) (nI i_).toNatClampNeg) = (0 : Int32) then (if (rX9_besideSeen a_.2 (nI i_) l2) = (0 : Int32) then a_.1 else (1 : Int32)) else a_.1) else a_.1), (if ((a_.2 33) (nI i_).toNatClampNeg) = l2 then (if ((a_.2 34) (nI i_).toNatClampNeg) = (0 : Int32) then (if (rX9_besideSeen a_.2 (nI i_) l2) = (0 : Int32) then a_.2 else (zu a_.2 34 (zu (a_.2 34) (nI i_).toNatClampNeg (1 : Int32)))) else a_.2) else a_.2))
def qX9_spread_18 (l2 : Int32) (i_ : Nat) (a_ : Int32 × zc_N) : Prop := ((((a_.2 33) (nI i_).toNatClampNeg) = l2 → ((((a_.2 34) (nI i_).toNatClampNeg) = (0 : Int32) → (pX9_besideSeen a_.2 (nI i_) l2)) ∧ (¬ ((a_.2 34) (nI i_).toNatClampNeg) = (0 : Int32) → True))) ∧ (¬ ((a_.2 33) (nI i_).toNatClampNeg) = l2 → True))
set_option maxHeartbeats 2000000 in
theorem lpX9_spread_18 {G : zc_G} {Q : Option Value → zc_H → Prop} (P : zp) (σ : zc_N) (l2 : Int32) (l3 : Int32) (W1_ : ∀ i18_ : Nat, i18_ < 256 → qX9_spread_18 l2 i18_ (zfor (fX9_spread_18 l2) i18_ (l3, σ)))
    (W2_ : zz G mX9_spread 2 0 0 Q 73 [some (.ref 32), none, some (.int l2), some (.int (zfor (fX9_spread_18 l2) 256 (l3, σ)).1), none] [] (hh P (zfor (fX9_spread_18 l2) 256 (l3, σ)).2) 0 0) :
    zz G mX9_spread 2 0 0 Q 18 [some (.ref 32), none, some (.int l2), some (.int l3), some (.int (nI 0))] [] (hh P σ) 0 0 := by
  refine zfor_nI (fun i_ a_ => zz G mX9_spread 2 0 0 Q 18 [some (.ref 32), none, some (.int l2), some (.int a_.1), some (.int i_)] [] (hh P a_.2) 0 0) (fX9_spread_18 l2) 256 (l3, σ) (fun i_ hi_ k_ => ?_) ?_
  all_goals try dsimp only
  · have W3_ := W1_ i_ hi_
    generalize zfor (fX9_spread_18 l2) i_ (l3, σ) = g_ at k_ W3_ ⊢
    obtain ⟨x0_, x1_⟩ := g_
    dsimp only at k_ W3_ ⊢
    rw [fX9_spread_18] at k_
    rw [qX9_spread_18] at W3_
    try dsimp only at W3_
    dsimp only at k_
    refine z_iload dX9_spread_18 rfl ?_
    refine z_sipush dX9_spread_20 k_sipush_256 ?_
    refine z_icmp_ge (tgt := 73) dX9_spread_23 (by decide) (fun c_ => absurd c_ (nI_ge hi_ (by decide))) (fun c_ => ?_)
    refine z_aloadr_n dX9_spread_26 rfl ?_
    refine z_get (ci := 9) (r := (RX9, TX9, 38)) (j := 0) (v := .ref 33) dX9_spread_27 (Nat.le_of_ble_eq_true rfl) (zN rfl) rfl rfl (Nat.le_of_ble_eq_true rfl) fl_X9_9 rfl ?_
    refine z_iload dX9_spread_30 rfl ?_
    refine z_bald (v := ((x1_ 33) (nI i_).toNatClampNeg)) dX9_spread_32 (Nat.le_of_ble_eq_true rfl) (zN rfl) rfl (vp_in_nI (Nat.lt_of_lt_of_le hi_ (Nat.le_of_ble_eq_true rfl)) (by decide)) rfl ?_
    refine z_iload_n dX9_spread_33 rfl ?_
    refine z_icmp_ne (tgt := 67) dX9_spread_34 (by decide) (fun c_2 => ?_) (fun c_2 => ?_)
    · refine z_iinc (v := ((nI i_) + (1 : Int32))) (lv' := [some (.ref 32), none, some (.int l2), some (.int x0_), some (.int ((nI i_) + (1 : Int32)))]) dX9_spread_67 (Nat.le_of_ble_eq_true rfl) rfl (by rw [k_iconst_1]) rfl ?_
      refine z_goto (tgt := 18) dX9_spread_70 (by decide) ?_
      rw [nI_1]
      simpa only [if_neg c_2] using k_
    · refine z_aloadr_n dX9_spread_37 rfl ?_
      refine z_get (ci := 9) (r := (RX9, TX9, 38)) (j := 1) (v := .ref 34) dX9_spread_38 (Nat.le_of_ble_eq_true rfl) (zN rfl) rfl rfl (Nat.le_of_ble_eq_true rfl) fl_X9_13 rfl ?_
      refine z_iload dX9_spread_41 rfl ?_
      refine z_bald (v := ((x1_ 34) (nI i_).toNatClampNeg)) dX9_spread_43 (Nat.le_of_ble_eq_true rfl) (zN rfl) rfl (vp_in_nI (Nat.lt_of_lt_of_le hi_ (Nat.le_of_ble_eq_true rfl)) (by decide)) rfl ?_
      refine z_if_ne (tgt := 67) dX9_spread_44 (by decide) (fun c_3 => ?_) (fun c_3 => ?_)
      · refine z_iinc (v := ((nI i_) + (1 : Int32))) (lv' := [some (.ref 32), none, some (.int l2), some (.int x0_), some (.int ((nI i_) + (1 : Int32)))]) dX9_spread_67 (Nat.le_of_ble_eq_true rfl) rfl (by rw [k_iconst_1]) rfl ?_
        refine z_goto (tgt := 18) dX9_spread_70 (by decide) ?_
        rw [nI_1]
        simpa only [if_pos c_2, if_neg c_3] using k_
      · refine z_aloadr_n dX9_spread_47 rfl ?_
        refine z_iload dX9_spread_48 rfl ?_
        refine z_iload_n dX9_spread_50 rfl ?_
        refine z_callV (ci := 9) (r := (RX9, TX9, 38)) (b := 32) (As := [.int (nI i_), .int l2]) (rest := []) (ctX9_besideSeen P x1_ (nI i_) l2 ((W3_.1 c_2).1 c_3)) dX9_spread_51 lk_X9_123 lv_X9_besideSeen (Nat.le_of_ble_eq_true rfl) (zN rfl) rfl rfl rfl rfl (Nat.le_of_ble_eq_true rfl) (Nat.le_of_ble_eq_true rfl) (Nat.le_of_ble_eq_true rfl) (Nat.le_of_ble_eq_true rfl) (fun r_ h_ e_ => ?_)
        obtain ⟨e1_, e2_⟩ := e_
        subst e1_
        subst e2_
        show zz G mX9_spread 2 0 0 Q 54 [some (.ref 32), none, some (.int l2), some (.int x0_), some (.int (nI i_))] [.int (rX9_besideSeen x1_ (nI i_) l2)] (hh P x1_) 0 0
        refine z_if_eq (tgt := 67) dX9_spread_54 (by decide) (fun c_4 => ?_) (fun c_4 => ?_)
        · refine z_iinc (v := ((nI i_) + (1 : Int32))) (lv' := [some (.ref 32), none, some (.int l2), some (.int x0_), some (.int ((nI i_) + (1 : Int32)))]) dX9_spread_67 (Nat.le_of_ble_eq_true rfl) rfl (by rw [k_iconst_1]) rfl ?_
          refine z_goto (tgt := 18) dX9_spread_70 (by decide) ?_
          rw [nI_1]
          simpa only [if_pos c_2, if_pos c_3, if_pos c_4] using k_
        · refine z_aloadr_n dX9_spread_57 rfl ?_
          refine z_get (ci := 9) (r := (RX9, TX9, 38)) (j := 1) (v := .ref 34) dX9_spread_58 (Nat.le_of_ble_eq_true rfl) (zN rfl) rfl rfl (Nat.le_of_ble_eq_true rfl) fl_X9_13 rfl ?_
          refine z_iload dX9_spread_61 rfl ?_
          refine z_iconst dX9_spread_63 k_iconst_1 ?_
          refine z_bast (σ' := (zu x1_ 34 (zu (x1_ 34) (nI i_).toNatClampNeg (1 : Int32)))) dX9_spread_64 (Nat.le_of_ble_eq_true rfl) (zN rfl) rfl (vp_in_nI (Nat.lt_of_lt_of_le hi_ (Nat.le_of_ble_eq_true rfl)) (by decide)) rfl rfl ?_
          refine z_iconst dX9_spread_65 k_iconst_1 ?_
          refine z_istore_n (lv' := [some (.ref 32), none, some (.int l2), some (.int (1 : Int32)), some (.int (nI i_))]) dX9_spread_66 (Nat.le_of_ble_eq_true rfl) rfl ?_
          refine z_iinc (v := ((nI i_) + (1 : Int32))) (lv' := [some (.ref 32), none, some (.int l2), some (.int (1 : Int32)), some (.int ((nI i_) + (1 : Int32)))]) dX9_spread_67 (Nat.le_of_ble_eq_true rfl) rfl (by rw [k_iconst_1]) rfl ?_
          refine z_goto (tgt := 18) dX9_spread_70 (by decide) ?_
          rw [nI_1]
          simpa only [if_pos c_2, if_pos c_3, if_neg c_4] using k_
  · generalize zfor (fX9_spread_18 l2) 256 (l3, σ) = g_ at W2_ ⊢
    obtain ⟨x0_, x1_⟩ := g_
    dsimp only at W2_ ⊢
    refine z_iload dX9_spread_18 rfl ?_
    refine z_sipush dX9_spread_20 k_sipush_256 ?_
    refine z_icmp_ge (tgt := 73) dX9_spread_23 (by decide) (fun c_ => ?_) (fun c_ => absurd (by decide) c_)
    exact zz_sub (lv' := [some (.ref 32), none, some (.int l2), some (.int x0_), none]) ⟨rfl, ⟨rfl, ⟨rfl, trivial⟩⟩⟩ W2_

theorem dX9_spread_9 : decode cX9_spread 9 = .ok (.iload_n 3, 1) := by decide +kernel
theorem dX9_spread_10 : decode cX9_spread 10 = .ok (.ifCond .eq 66, 3) := by decide +kernel
theorem dX9_spread_13 : decode cX9_spread 13 = .ok (.iconst 0, 1) := by decide +kernel
theorem dX9_spread_14 : decode cX9_spread 14 = .ok (.istore_n 3, 1) := by decide +kernel
theorem dX9_spread_15 : decode cX9_spread 15 = .ok (.iconst 0, 1) := by decide +kernel
theorem dX9_spread_16 : decode cX9_spread 16 = .ok (.istore 4, 2) := by decide +kernel
noncomputable def fX9_spread_9 (l2 : Int32) (a_ : Int32 × zc_N) : Int32 × zc_N := ((zfor (fX9_spread_18 l2) 256 ((0 : Int32), a_.2)).1, (zfor (fX9_spread_18 l2) 256 ((0 : Int32), a_.2)).2)
def eX9_spread_9 (a_ : Int32 × zc_N) : Prop := ((a_.1 = (0 : Int32) ∧ True) ∨ (¬ a_.1 = (0 : Int32) ∧ False))
def qX9_spread_9 (l2 : Int32) (a_ : Int32 × zc_N) : Prop := ((a_.1 = (0 : Int32) → True) ∧ (¬ a_.1 = (0 : Int32) → (∀ i18_ : Nat, i18_ < 256 → qX9_spread_18 l2 i18_ (zfor (fX9_spread_18 l2) i18_ ((0 : Int32), a_.2)))))
set_option maxHeartbeats 2000000 in
theorem whX9_spread_9 {G : zc_G} {Q : Option Value → zc_H → Prop} (P : zp) (σ : zc_N) (l2 : Int32) (l3 : Int32)
    (hT_ : ∃ n_ : Nat, eX9_spread_9 (zit (fX9_spread_9 l2) n_ (l3, σ))) (W1_ : ∀ i9_ : Nat, i9_ < (zwn (fun n_ => eX9_spread_9 (zit (fX9_spread_9 l2) n_ (l3, σ)))) → qX9_spread_9 l2 (zit (fX9_spread_9 l2) i9_ (l3, σ)))
    (W2_ : eX9_spread_9 (zit (fX9_spread_9 l2) (zwn (fun n_ => eX9_spread_9 (zit (fX9_spread_9 l2) n_ (l3, σ)))) (l3, σ)) → zz G mX9_spread 2 0 0 Q 9 [some (.ref 32), none, some (.int l2), some (.int (zit (fX9_spread_9 l2) (zwn (fun n_ => eX9_spread_9 (zit (fX9_spread_9 l2) n_ (l3, σ)))) (l3, σ)).1), none] [] (hh P (zit (fX9_spread_9 l2) (zwn (fun n_ => eX9_spread_9 (zit (fX9_spread_9 l2) n_ (l3, σ)))) (l3, σ)).2) 0 0) :
    zz G mX9_spread 2 0 0 Q 9 [some (.ref 32), none, some (.int l2), some (.int l3), none] [] (hh P σ) 0 0 := by
  have hs_ := zwn_spec hT_
  refine zit_Z (fun a_ => zz G mX9_spread 2 0 0 Q 9 [some (.ref 32), none, some (.int l2), some (.int a_.1), none] [] (hh P a_.2) 0 0) (fX9_spread_9 l2) (zwn (fun n_ => eX9_spread_9 (zit (fX9_spread_9 l2) n_ (l3, σ)))) (l3, σ) (fun i_ hi_ k_ => ?_) (W2_ hs_.1)
  have hn_ := hs_.2 i_ hi_
  have W3_ := W1_ i_ hi_
  generalize zit (fX9_spread_9 l2) i_ (l3, σ) = g_ at k_ hn_ W3_ ⊢
  obtain ⟨x0_, x1_⟩ := g_
  try dsimp only at k_ hn_ W3_ ⊢
  rw [fX9_spread_9] at k_
  rw [eX9_spread_9] at hn_
  try dsimp only at k_ hn_
  rw [qX9_spread_9] at W3_
  try dsimp only at W3_
  refine z_iload_n dX9_spread_9 rfl ?_
  refine z_if_eq (tgt := 76) dX9_spread_10 (by decide) (fun c_1 => ?_) (fun c_1 => ?_)
  · exact absurd (Or.inl ⟨c_1, trivial⟩) hn_
  · refine z_iconst dX9_spread_13 k_iconst_0 ?_
    refine z_istore_n (lv' := [some (.ref 32), none, some (.int l2), some (.int (0 : Int32)), none]) dX9_spread_14 (Nat.le_of_ble_eq_true rfl) rfl ?_
    refine z_iconst dX9_spread_15 k_iconst_0 ?_
    refine z_istore (lv' := [some (.ref 32), none, some (.int l2), some (.int (0 : Int32)), some (.int (0 : Int32))]) dX9_spread_16 (Nat.le_of_ble_eq_true rfl) rfl ?_
    refine lpX9_spread_18 P x1_ l2 (0 : Int32) (W3_.2 c_1) ?_
    refine z_goto (tgt := 9) dX9_spread_73 (by decide) ?_
    simpa only [if_neg c_1] using k_

theorem dX9_spread_0 : decode cX9_spread 0 = .ok (.aload_n 0, 1) := by decide +kernel
theorem dX9_spread_1 : decode cX9_spread 1 = .ok (.getfield 13, 3) := by decide +kernel
theorem dX9_spread_4 : decode cX9_spread 4 = .ok (.iload_n 1, 1) := by decide +kernel
theorem dX9_spread_5 : decode cX9_spread 5 = .ok (.iconst 1, 1) := by decide +kernel
theorem dX9_spread_6 : decode cX9_spread 6 = .ok (.bastore, 1) := by decide +kernel
theorem dX9_spread_7 : decode cX9_spread 7 = .ok (.iconst 1, 1) := by decide +kernel
theorem dX9_spread_8 : decode cX9_spread 8 = .ok (.istore_n 3, 1) := by decide +kernel
theorem dX9_spread_76 : decode cX9_spread 76 = .ok (.return_, 1) := by decide +kernel
def pX9_spread (σ : zc_N) (a1 : Int32) (a2 : Int32) : Prop := (vp_in a1 256 ∧ (((∃ n_ : Nat, eX9_spread_9 (zit (fX9_spread_9 a2) n_ ((1 : Int32), (zu σ 34 (zu (σ 34) a1.toNatClampNeg (1 : Int32)))))) ∧ (∀ i9_ : Nat, i9_ < (zwn (fun n_ => eX9_spread_9 (zit (fX9_spread_9 a2) n_ ((1 : Int32), (zu σ 34 (zu (σ 34) a1.toNatClampNeg (1 : Int32))))))) → qX9_spread_9 a2 (zit (fX9_spread_9 a2) i9_ ((1 : Int32), (zu σ 34 (zu (σ 34) a1.toNatClampNeg (1 : Int32))))))) ∧ (((zit (fX9_spread_9 a2) (zwn (fun n_ => eX9_spread_9 (zit (fX9_spread_9 a2) n_ ((1 : Int32), (zu σ 34 (zu (σ 34) a1.toNatClampNeg (1 : Int32))))))) ((1 : Int32), (zu σ 34 (zu (σ 34) a1.toNatClampNeg (1 : Int32))))).1 = (0 : Int32) → True) ∧ (¬ (zit (fX9_spread_9 a2) (zwn (fun n_ => eX9_spread_9 (zit (fX9_spread_9 a2) n_ ((1 : Int32), (zu σ 34 (zu (σ 34) a1.toNatClampNeg (1 : Int32))))))) ((1 : Int32), (zu σ 34 (zu (σ 34) a1.toNatClampNeg (1 : Int32))))).1 = (0 : Int32) → (∀ i18_ : Nat, i18_ < 256 → qX9_spread_18 a2 i18_ (zfor (fX9_spread_18 a2) i18_ ((0 : Int32), ((zit (fX9_spread_9 a2) (zwn (fun n_ => eX9_spread_9 (zit (fX9_spread_9 a2) n_ ((1 : Int32), (zu σ 34 (zu (σ 34) a1.toNatClampNeg (1 : Int32))))))) ((1 : Int32), (zu σ 34 (zu (σ 34) a1.toNatClampNeg (1 : Int32))))).2))))))))
noncomputable def sX9_spread (σ : zc_N) (a1 : Int32) (a2 : Int32) : zc_N := (zit (fX9_spread_9 a2) (zwn (fun n_ => eX9_spread_9 (zit (fX9_spread_9 a2) n_ ((1 : Int32), (zu σ 34 (zu (σ 34) a1.toNatClampNeg (1 : Int32))))))) ((1 : Int32), (zu σ 34 (zu (σ 34) a1.toNatClampNeg (1 : Int32))))).2
set_option maxHeartbeats 1000000 in
theorem ctX9_spread (P : zp) (σ : zc_N) (a1 : Int32) (a2 : Int32) (W_ : (pX9_spread σ a1 a2)) : sp mX9_spread 2 0 0 [.ref 32, .int a1, .int a2] (hh P σ) (fun r_ h_ => r_ = none ∧ h_ = hh P (sX9_spread σ a1 a2)) := by
  refine sp_of (lv := [some (.ref 32), some (.int a1), some (.int a2), none, none]) (by decide) (zcats_ok _ rfl) (Nat.le_of_ble_eq_true rfl) (zlv_ok _ 2 rfl) (fun G => ?_)
  generalize hQ_ : (fun (r_ : Option Value) (h_ : zc_H) => r_ = none ∧ h_ = hh P (sX9_spread σ a1 a2)) = Q_
  unfold pX9_spread at W_
  refine z_aloadr_n dX9_spread_0 rfl ?_
  refine z_get (ci := 9) (r := (RX9, TX9, 38)) (j := 1) (v := .ref 34) dX9_spread_1 (Nat.le_of_ble_eq_true rfl) (zN rfl) rfl rfl (Nat.le_of_ble_eq_true rfl) fl_X9_13 rfl ?_
  refine z_iload_n dX9_spread_4 rfl ?_
  refine z_iconst dX9_spread_5 k_iconst_1 ?_
  refine z_bast (σ' := (zu σ 34 (zu (σ 34) a1.toNatClampNeg (1 : Int32)))) dX9_spread_6 (Nat.le_of_ble_eq_true rfl) (zN rfl) rfl W_.1 rfl rfl ?_
  refine z_iconst dX9_spread_7 k_iconst_1 ?_
  refine z_istore_n (lv' := [some (.ref 32), some (.int a1), some (.int a2), some (.int (1 : Int32)), none]) dX9_spread_8 (Nat.le_of_ble_eq_true rfl) rfl ?_
  refine zz_sub (lv' := [some (.ref 32), none, some (.int a2), some (.int (1 : Int32)), none]) ⟨rfl, ⟨rfl, ⟨rfl, trivial⟩⟩⟩ ?_
  refine whX9_spread_9 P (zu σ 34 (zu (σ 34) a1.toNatClampNeg (1 : Int32))) a2 (1 : Int32) W_.2.1.1 W_.2.1.2 (fun hX9_ => ?_)
  rw [eX9_spread_9] at hX9_
  try dsimp only at hX9_
  refine z_iload_n dX9_spread_9 rfl ?_
  refine z_if_eq (tgt := 76) dX9_spread_10 (by decide) (fun c_1 => ?_) (fun c_1 => ?_)
  · exact z_return dX9_spread_76 rfl (Nat.le_of_ble_eq_true rfl) (Nat.le_of_ble_eq_true rfl) (by rw [← hQ_]; exact ⟨rfl, (by rw [sX9_spread])⟩)
  · refine z_iconst dX9_spread_13 k_iconst_0 ?_
    refine z_istore_n (lv' := [some (.ref 32), none, some (.int a2), some (.int (0 : Int32)), none]) dX9_spread_14 (Nat.le_of_ble_eq_true rfl) rfl ?_
    refine z_iconst dX9_spread_15 k_iconst_0 ?_
    refine z_istore (lv' := [some (.ref 32), none, some (.int a2), some (.int (0 : Int32)), some (.int (0 : Int32))]) dX9_spread_16 (Nat.le_of_ble_eq_true rfl) rfl ?_
    refine lpX9_spread_18 P ((zit (fX9_spread_9 a2) (zwn (fun n_ => eX9_spread_9 (zit (fX9_spread_9 a2) n_ ((1 : Int32), (zu σ 34 (zu (σ 34) a1.toNatClampNeg (1 : Int32))))))) ((1 : Int32), (zu σ 34 (zu (σ 34) a1.toNatClampNeg (1 : Int32))))).2) a2 (0 : Int32) (W_.2.2.2 c_1) ?_
    refine z_goto (tgt := 9) dX9_spread_73 (by decide) ?_
    exact (ex_r hX9_ c_1).elim
end
