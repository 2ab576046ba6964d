section
-- ===== PART A: goes FIRST, ahead of the names: the tables' words, and 'selects' of the private methods out of them =====
/-- a private method of a class that the tables say can be made, by its rows of tables_1 -/
def lw_okq (q : MethodName × Nat) : Prop := (q.1.cls ≠ "java/lang/invoke/MethodHandle" ∧ q.1.cls ≠ "java/lang/invoke/VarHandle") ∧ Cond.instantiable q.1.cls q.2 ∈ tables_1 ∧ Cond.privateMethod q.1 ∈ tables_1 ∧ Cond.instanceMethod q.1 ∈ tables_1
theorem lw_p0 : lw_okq (⟨"FloatingDock$Fitting", "survey", "(LFloatingDock$Dock;)V"⟩, 6) := ⟨⟨by decide +kernel, by decide +kernel⟩, List.mem_of_getElem? (i := 199) (by decide +kernel), List.mem_of_getElem? (i := 363) (by decide +kernel), List.mem_of_getElem? (i := 364) (by decide +kernel)⟩
theorem lw_p1 : lw_okq (⟨"FloatingDock$Dock", "canEnterNow", "(LFloatingDock$Ship;)Z"⟩, 8) := ⟨⟨by decide +kernel, by decide +kernel⟩, List.mem_of_getElem? (i := 46) (by decide +kernel), List.mem_of_getElem? (i := 372) (by decide +kernel), List.mem_of_getElem? (i := 373) (by decide +kernel)⟩
theorem lw_p2 : lw_okq (⟨"FloatingDock$Fitting", "addGap", "(I)V"⟩, 6) := ⟨⟨by decide +kernel, by decide +kernel⟩, List.mem_of_getElem? (i := 199) (by decide +kernel), List.mem_of_getElem? (i := 384) (by decide +kernel), List.mem_of_getElem? (i := 385) (by decide +kernel)⟩
theorem lw_p3 : lw_okq (⟨"FloatingDock$Fitting", "fillTable", "()V"⟩, 6) := ⟨⟨by decide +kernel, by decide +kernel⟩, List.mem_of_getElem? (i := 199) (by decide +kernel), List.mem_of_getElem? (i := 402) (by decide +kernel), List.mem_of_getElem? (i := 403) (by decide +kernel)⟩
theorem lw_p4 : lw_okq (⟨"FloatingDock$Fitting", "sumOf", "(I)I"⟩, 6) := ⟨⟨by decide +kernel, by decide +kernel⟩, List.mem_of_getElem? (i := 199) (by decide +kernel), List.mem_of_getElem? (i := 406) (by decide +kernel), List.mem_of_getElem? (i := 407) (by decide +kernel)⟩
theorem lw_p5 : lw_okq (⟨"FloatingDock$Fitting", "fillGap", "(I)V"⟩, 6) := ⟨⟨by decide +kernel, by decide +kernel⟩, List.mem_of_getElem? (i := 199) (by decide +kernel), List.mem_of_getElem? (i := 410) (by decide +kernel), List.mem_of_getElem? (i := 411) (by decide +kernel)⟩
theorem lw_p6 : lw_okq (⟨"FloatingDock$Fitting", "fitsWith", "(II)Z"⟩, 6) := ⟨⟨by decide +kernel, by decide +kernel⟩, List.mem_of_getElem? (i := 199) (by decide +kernel), List.mem_of_getElem? (i := 414) (by decide +kernel), List.mem_of_getElem? (i := 415) (by decide +kernel)⟩
theorem lw_p7 : lw_okq (⟨"java/lang/Throwable", "fillInStackTrace", "(I)Ljava/lang/Throwable;"⟩, 6) := ⟨⟨by decide +kernel, by decide +kernel⟩, List.mem_of_getElem? (i := 693) (by decide +kernel), List.mem_of_getElem? (i := 691) (by decide +kernel), List.mem_of_getElem? (i := 692) (by decide +kernel)⟩
theorem lw_p8 : lw_okq (⟨"FloatingDock$Blocks", "indexOf", "(I)I"⟩, 2) := ⟨⟨by decide +kernel, by decide +kernel⟩, List.mem_of_getElem? (i := 132) (by decide +kernel), List.mem_of_getElem? (i := 810) (by decide +kernel), List.mem_of_getElem? (i := 811) (by decide +kernel)⟩
theorem lw_p9 : lw_okq (⟨"FloatingDock", "startChange", "()V"⟩, 11) := ⟨⟨by decide +kernel, by decide +kernel⟩, List.mem_of_getElem? (i := 38) (by decide +kernel), List.mem_of_getElem? (i := 929) (by decide +kernel), List.mem_of_getElem? (i := 930) (by decide +kernel)⟩
theorem lw_p10 : lw_okq (⟨"FloatingDock", "keepChange", "()V"⟩, 11) := ⟨⟨by decide +kernel, by decide +kernel⟩, List.mem_of_getElem? (i := 38) (by decide +kernel), List.mem_of_getElem? (i := 957) (by decide +kernel), List.mem_of_getElem? (i := 958) (by decide +kernel)⟩
theorem lw_p11 : lw_okq (⟨"FloatingDock$Fleet", "moveToEnd", "(LFloatingDock$Ship;)V"⟩, 3) := ⟨⟨by decide +kernel, by decide +kernel⟩, List.mem_of_getElem? (i := 52) (by decide +kernel), List.mem_of_getElem? (i := 999) (by decide +kernel), List.mem_of_getElem? (i := 1000) (by decide +kernel)⟩
theorem lw_p12 : lw_okq (⟨"FloatingDock", "letIn", "(II)I"⟩, 11) := ⟨⟨by decide +kernel, by decide +kernel⟩, List.mem_of_getElem? (i := 38) (by decide +kernel), List.mem_of_getElem? (i := 1011) (by decide +kernel), List.mem_of_getElem? (i := 1012) (by decide +kernel)⟩
theorem lw_p13 : lw_okq (⟨"FloatingDock", "refuseFor", "(I)V"⟩, 11) := ⟨⟨by decide +kernel, by decide +kernel⟩, List.mem_of_getElem? (i := 38) (by decide +kernel), List.mem_of_getElem? (i := 1026) (by decide +kernel), List.mem_of_getElem? (i := 1027) (by decide +kernel)⟩
theorem lw_p14 : lw_okq (⟨"FloatingDock", "letOut", "(I)I"⟩, 11) := ⟨⟨by decide +kernel, by decide +kernel⟩, List.mem_of_getElem? (i := 38) (by decide +kernel), List.mem_of_getElem? (i := 1065) (by decide +kernel), List.mem_of_getElem? (i := 1066) (by decide +kernel)⟩
theorem lw_p15 : lw_okq (⟨"FloatingDock$Dock", "passHour", "()I"⟩, 8) := ⟨⟨by decide +kernel, by decide +kernel⟩, List.mem_of_getElem? (i := 46) (by decide +kernel), List.mem_of_getElem? (i := 1242) (by decide +kernel), List.mem_of_getElem? (i := 1243) (by decide +kernel)⟩
def lw_privs_1 : List (MethodName × Nat) := [(⟨"FloatingDock$Fitting", "survey", "(LFloatingDock$Dock;)V"⟩, 6), (⟨"FloatingDock$Dock", "canEnterNow", "(LFloatingDock$Ship;)Z"⟩, 8), (⟨"FloatingDock$Fitting", "addGap", "(I)V"⟩, 6), (⟨"FloatingDock$Fitting", "fillTable", "()V"⟩, 6), (⟨"FloatingDock$Fitting", "sumOf", "(I)I"⟩, 6), (⟨"FloatingDock$Fitting", "fillGap", "(I)V"⟩, 6), (⟨"FloatingDock$Fitting", "fitsWith", "(II)Z"⟩, 6), (⟨"java/lang/Throwable", "fillInStackTrace", "(I)Ljava/lang/Throwable;"⟩, 6), (⟨"FloatingDock$Blocks", "indexOf", "(I)I"⟩, 2), (⟨"FloatingDock", "startChange", "()V"⟩, 11), (⟨"FloatingDock", "keepChange", "()V"⟩, 11), (⟨"FloatingDock$Fleet", "moveToEnd", "(LFloatingDock$Ship;)V"⟩, 3), (⟨"FloatingDock", "letIn", "(II)I"⟩, 11), (⟨"FloatingDock", "refuseFor", "(I)V"⟩, 11), (⟨"FloatingDock", "letOut", "(I)I"⟩, 11), (⟨"FloatingDock$Dock", "passHour", "()I"⟩, 8)]
theorem lw_r1 : ∀ q ∈ lw_privs_1, lw_okq q := List.forall_mem_cons.mpr ⟨lw_p0, List.forall_mem_cons.mpr ⟨lw_p1, List.forall_mem_cons.mpr ⟨lw_p2, List.forall_mem_cons.mpr ⟨lw_p3, List.forall_mem_cons.mpr ⟨lw_p4, List.forall_mem_cons.mpr ⟨lw_p5, List.forall_mem_cons.mpr ⟨lw_p6, List.forall_mem_cons.mpr ⟨lw_p7, List.forall_mem_cons.mpr ⟨lw_p8, List.forall_mem_cons.mpr ⟨lw_p9, List.forall_mem_cons.mpr ⟨lw_p10, List.forall_mem_cons.mpr ⟨lw_p11, List.forall_mem_cons.mpr ⟨lw_p12, List.forall_mem_cons.mpr ⟨lw_p13, List.forall_mem_cons.mpr ⟨lw_p14, List.forall_mem_cons.mpr ⟨lw_p15, fun _ h => absurd h List.not_mem_nil⟩⟩⟩⟩⟩⟩⟩⟩⟩⟩⟩⟩⟩⟩⟩⟩
theorem lw_p16 : lw_okq (⟨"FloatingDock$Dock", "levelInHour", "(II)I"⟩, 8) := ⟨⟨by decide +kernel, by decide +kernel⟩, List.mem_of_getElem? (i := 46) (by decide +kernel), List.mem_of_getElem? (i := 1246) (by decide +kernel), List.mem_of_getElem? (i := 1247) (by decide +kernel)⟩
theorem lw_p17 : lw_okq (⟨"FloatingDock$Dock", "spendHour", "(LFloatingDock$Ship;)I"⟩, 8) := ⟨⟨by decide +kernel, by decide +kernel⟩, List.mem_of_getElem? (i := 46) (by decide +kernel), List.mem_of_getElem? (i := 1252) (by decide +kernel), List.mem_of_getElem? (i := 1253) (by decide +kernel)⟩
theorem lw_p18 : lw_okq (⟨"FloatingDock$Dock", "charge", "(LFloatingDock$Ship;I)V"⟩, 8) := ⟨⟨by decide +kernel, by decide +kernel⟩, List.mem_of_getElem? (i := 46) (by decide +kernel), List.mem_of_getElem? (i := 1256) (by decide +kernel), List.mem_of_getElem? (i := 1257) (by decide +kernel)⟩
theorem lw_p19 : lw_okq (⟨"FloatingDock$Dock", "checkWorkAt", "(I)V"⟩, 8) := ⟨⟨by decide +kernel, by decide +kernel⟩, List.mem_of_getElem? (i := 46) (by decide +kernel), List.mem_of_getElem? (i := 1306) (by decide +kernel), List.mem_of_getElem? (i := 1307) (by decide +kernel)⟩
theorem lw_p20 : lw_okq (⟨"FloatingDock$Fleet", "rankOf", "(LFloatingDock$Ship;)I"⟩, 3) := ⟨⟨by decide +kernel, by decide +kernel⟩, List.mem_of_getElem? (i := 52) (by decide +kernel), List.mem_of_getElem? (i := 1423) (by decide +kernel), List.mem_of_getElem? (i := 1424) (by decide +kernel)⟩
theorem lw_p21 : lw_okq (⟨"FloatingDock$CommandText", "matches", "(LFloatingDock$Form;)Z"⟩, 7) := ⟨⟨by decide +kernel, by decide +kernel⟩, List.mem_of_getElem? (i := 225) (by decide +kernel), List.mem_of_getElem? (i := 1472) (by decide +kernel), List.mem_of_getElem? (i := 1473) (by decide +kernel)⟩
theorem lw_p22 : lw_okq (⟨"FloatingDock$CommandText", "passSign", "(IC)I"⟩, 7) := ⟨⟨by decide +kernel, by decide +kernel⟩, List.mem_of_getElem? (i := 225) (by decide +kernel), List.mem_of_getElem? (i := 1492) (by decide +kernel), List.mem_of_getElem? (i := 1493) (by decide +kernel)⟩
theorem lw_p23 : lw_okq (⟨"FloatingDock$CommandText", "passNumber", "(I)I"⟩, 7) := ⟨⟨by decide +kernel, by decide +kernel⟩, List.mem_of_getElem? (i := 225) (by decide +kernel), List.mem_of_getElem? (i := 1496) (by decide +kernel), List.mem_of_getElem? (i := 1497) (by decide +kernel)⟩
theorem lw_p24 : lw_okq (⟨"FloatingDock$CommandText", "isDigitAt", "(I)Z"⟩, 7) := ⟨⟨by decide +kernel, by decide +kernel⟩, List.mem_of_getElem? (i := 225) (by decide +kernel), List.mem_of_getElem? (i := 1500) (by decide +kernel), List.mem_of_getElem? (i := 1501) (by decide +kernel)⟩
theorem lw_p25 : lw_okq (⟨"FloatingDock$CommandText", "isAt", "(IC)Z"⟩, 7) := ⟨⟨by decide +kernel, by decide +kernel⟩, List.mem_of_getElem? (i := 225) (by decide +kernel), List.mem_of_getElem? (i := 1514) (by decide +kernel), List.mem_of_getElem? (i := 1515) (by decide +kernel)⟩
theorem lw_p26 : lw_okq (⟨"FloatingDock$CommandText", "keepNumber", "(I)V"⟩, 7) := ⟨⟨by decide +kernel, by decide +kernel⟩, List.mem_of_getElem? (i := 225) (by decide +kernel), List.mem_of_getElem? (i := 1518) (by decide +kernel), List.mem_of_getElem? (i := 1519) (by decide +kernel)⟩
theorem lw_p27 : lw_okq (⟨"FloatingDock$CommandText", "passSeparator", "()Z"⟩, 7) := ⟨⟨by decide +kernel, by decide +kernel⟩, List.mem_of_getElem? (i := 225) (by decide +kernel), List.mem_of_getElem? (i := 1523) (by decide +kernel), List.mem_of_getElem? (i := 1524) (by decide +kernel)⟩
theorem lw_p28 : lw_okq (⟨"FloatingDock", "succeeds", "()Z"⟩, 11) := ⟨⟨by decide +kernel, by decide +kernel⟩, List.mem_of_getElem? (i := 38) (by decide +kernel), List.mem_of_getElem? (i := 1537) (by decide +kernel), List.mem_of_getElem? (i := 1538) (by decide +kernel)⟩
theorem lw_p29 : lw_okq (⟨"FloatingDock", "carryOut", "(LFloatingDock$Form;)V"⟩, 11) := ⟨⟨by decide +kernel, by decide +kernel⟩, List.mem_of_getElem? (i := 38) (by decide +kernel), List.mem_of_getElem? (i := 1542) (by decide +kernel), List.mem_of_getElem? (i := 1543) (by decide +kernel)⟩
theorem lw_p30 : lw_okq (⟨"FloatingDockModel", "goes", "(Z)Z"⟩, 20) := ⟨⟨by decide +kernel, by decide +kernel⟩, List.mem_of_getElem? (i := 1642) (by decide +kernel), List.mem_of_getElem? (i := 1717) (by decide +kernel), List.mem_of_getElem? (i := 1718) (by decide +kernel)⟩
theorem lw_p31 : lw_okq (⟨"FloatingDockModel", "holds", "(ZZZZ)Z"⟩, 20) := ⟨⟨by decide +kernel, by decide +kernel⟩, List.mem_of_getElem? (i := 1642) (by decide +kernel), List.mem_of_getElem? (i := 1721) (by decide +kernel), List.mem_of_getElem? (i := 1722) (by decide +kernel)⟩
def lw_privs_2 : List (MethodName × Nat) := [(⟨"FloatingDock$Dock", "levelInHour", "(II)I"⟩, 8), (⟨"FloatingDock$Dock", "spendHour", "(LFloatingDock$Ship;)I"⟩, 8), (⟨"FloatingDock$Dock", "charge", "(LFloatingDock$Ship;I)V"⟩, 8), (⟨"FloatingDock$Dock", "checkWorkAt", "(I)V"⟩, 8), (⟨"FloatingDock$Fleet", "rankOf", "(LFloatingDock$Ship;)I"⟩, 3), (⟨"FloatingDock$CommandText", "matches", "(LFloatingDock$Form;)Z"⟩, 7), (⟨"FloatingDock$CommandText", "passSign", "(IC)I"⟩, 7), (⟨"FloatingDock$CommandText", "passNumber", "(I)I"⟩, 7), (⟨"FloatingDock$CommandText", "isDigitAt", "(I)Z"⟩, 7), (⟨"FloatingDock$CommandText", "isAt", "(IC)Z"⟩, 7), (⟨"FloatingDock$CommandText", "keepNumber", "(I)V"⟩, 7), (⟨"FloatingDock$CommandText", "passSeparator", "()Z"⟩, 7), (⟨"FloatingDock", "succeeds", "()Z"⟩, 11), (⟨"FloatingDock", "carryOut", "(LFloatingDock$Form;)V"⟩, 11), (⟨"FloatingDockModel", "goes", "(Z)Z"⟩, 20), (⟨"FloatingDockModel", "holds", "(ZZZZ)Z"⟩, 20)]
theorem lw_r2 : ∀ q ∈ lw_privs_2, lw_okq q := List.forall_mem_cons.mpr ⟨lw_p16, List.forall_mem_cons.mpr ⟨lw_p17, List.forall_mem_cons.mpr ⟨lw_p18, List.forall_mem_cons.mpr ⟨lw_p19, List.forall_mem_cons.mpr ⟨lw_p20, List.forall_mem_cons.mpr ⟨lw_p21, List.forall_mem_cons.mpr ⟨lw_p22, List.forall_mem_cons.mpr ⟨lw_p23, List.forall_mem_cons.mpr ⟨lw_p24, List.forall_mem_cons.mpr ⟨lw_p25, List.forall_mem_cons.mpr ⟨lw_p26, List.forall_mem_cons.mpr ⟨lw_p27, List.forall_mem_cons.mpr ⟨lw_p28, List.forall_mem_cons.mpr ⟨lw_p29, List.forall_mem_cons.mpr ⟨lw_p30, List.forall_mem_cons.mpr ⟨lw_p31, fun _ h => absurd h List.not_mem_nil⟩⟩⟩⟩⟩⟩⟩⟩⟩⟩⟩⟩⟩⟩⟩⟩
theorem lw_p32 : lw_okq (⟨"FloatingDockModel", "begins", "()V"⟩, 20) := ⟨⟨by decide +kernel, by decide +kernel⟩, List.mem_of_getElem? (i := 1642) (by decide +kernel), List.mem_of_getElem? (i := 1740) (by decide +kernel), List.mem_of_getElem? (i := 1741) (by decide +kernel)⟩
theorem lw_p33 : lw_okq (⟨"FloatingDockModel", "adds", "(III)I"⟩, 20) := ⟨⟨by decide +kernel, by decide +kernel⟩, List.mem_of_getElem? (i := 1642) (by decide +kernel), List.mem_of_getElem? (i := 1744) (by decide +kernel), List.mem_of_getElem? (i := 1745) (by decide +kernel)⟩
theorem lw_p34 : lw_okq (⟨"FloatingDockModel", "ends", "(I)I"⟩, 20) := ⟨⟨by decide +kernel, by decide +kernel⟩, List.mem_of_getElem? (i := 1642) (by decide +kernel), List.mem_of_getElem? (i := 1755) (by decide +kernel), List.mem_of_getElem? (i := 1756) (by decide +kernel)⟩
theorem lw_p35 : lw_okq (⟨"FloatingDockModel", "remembers", "()V"⟩, 20) := ⟨⟨by decide +kernel, by decide +kernel⟩, List.mem_of_getElem? (i := 1642) (by decide +kernel), List.mem_of_getElem? (i := 1759) (by decide +kernel), List.mem_of_getElem? (i := 1760) (by decide +kernel)⟩
theorem lw_p36 : lw_okq (⟨"FloatingDockModel", "removes", "(I)I"⟩, 20) := ⟨⟨by decide +kernel, by decide +kernel⟩, List.mem_of_getElem? (i := 1642) (by decide +kernel), List.mem_of_getElem? (i := 1767) (by decide +kernel), List.mem_of_getElem? (i := 1768) (by decide +kernel)⟩
theorem lw_p37 : lw_okq (⟨"FloatingDockModel", "find", "(I)I"⟩, 20) := ⟨⟨by decide +kernel, by decide +kernel⟩, List.mem_of_getElem? (i := 1642) (by decide +kernel), List.mem_of_getElem? (i := 1771) (by decide +kernel), List.mem_of_getElem? (i := 1772) (by decide +kernel)⟩
theorem lw_p38 : lw_okq (⟨"FloatingDockModel", "of", "(II)I"⟩, 20) := ⟨⟨by decide +kernel, by decide +kernel⟩, List.mem_of_getElem? (i := 1642) (by decide +kernel), List.mem_of_getElem? (i := 1775) (by decide +kernel), List.mem_of_getElem? (i := 1776) (by decide +kernel)⟩
theorem lw_p39 : lw_okq (⟨"FloatingDockModel", "isDocked", "(I)Z"⟩, 20) := ⟨⟨by decide +kernel, by decide +kernel⟩, List.mem_of_getElem? (i := 1642) (by decide +kernel), List.mem_of_getElem? (i := 1779) (by decide +kernel), List.mem_of_getElem? (i := 1780) (by decide +kernel)⟩
theorem lw_p40 : lw_okq (⟨"FloatingDockModel", "enters", "(II)I"⟩, 20) := ⟨⟨by decide +kernel, by decide +kernel⟩, List.mem_of_getElem? (i := 1642) (by decide +kernel), List.mem_of_getElem? (i := 1787) (by decide +kernel), List.mem_of_getElem? (i := 1788) (by decide +kernel)⟩
theorem lw_p41 : lw_okq (⟨"FloatingDockModel", "isFree", "(II)Z"⟩, 20) := ⟨⟨by decide +kernel, by decide +kernel⟩, List.mem_of_getElem? (i := 1642) (by decide +kernel), List.mem_of_getElem? (i := 1794) (by decide +kernel), List.mem_of_getElem? (i := 1795) (by decide +kernel)⟩
theorem lw_p42 : lw_okq (⟨"FloatingDockModel", "at", "(I)I"⟩, 20) := ⟨⟨by decide +kernel, by decide +kernel⟩, List.mem_of_getElem? (i := 1642) (by decide +kernel), List.mem_of_getElem? (i := 1798) (by decide +kernel), List.mem_of_getElem? (i := 1799) (by decide +kernel)⟩
theorem lw_p43 : lw_okq (⟨"FloatingDockModel", "refuses", "(II)V"⟩, 20) := ⟨⟨by decide +kernel, by decide +kernel⟩, List.mem_of_getElem? (i := 1642) (by decide +kernel), List.mem_of_getElem? (i := 1802) (by decide +kernel), List.mem_of_getElem? (i := 1803) (by decide +kernel)⟩
theorem lw_p44 : lw_okq (⟨"FloatingDockModel", "docked", "()I"⟩, 20) := ⟨⟨by decide +kernel, by decide +kernel⟩, List.mem_of_getElem? (i := 1642) (by decide +kernel), List.mem_of_getElem? (i := 1806) (by decide +kernel), List.mem_of_getElem? (i := 1807) (by decide +kernel)⟩
theorem lw_p45 : lw_okq (⟨"FloatingDockModel", "leaves", "(I)I"⟩, 20) := ⟨⟨by decide +kernel, by decide +kernel⟩, List.mem_of_getElem? (i := 1642) (by decide +kernel), List.mem_of_getElem? (i := 1814) (by decide +kernel), List.mem_of_getElem? (i := 1815) (by decide +kernel)⟩
theorem lw_p46 : lw_okq (⟨"FloatingDockModel", "floats", "(I)Z"⟩, 20) := ⟨⟨by decide +kernel, by decide +kernel⟩, List.mem_of_getElem? (i := 1642) (by decide +kernel), List.mem_of_getElem? (i := 1818) (by decide +kernel), List.mem_of_getElem? (i := 1819) (by decide +kernel)⟩
theorem lw_p47 : lw_okq (⟨"FloatingDockModel", "cleans", "(II)I"⟩, 20) := ⟨⟨by decide +kernel, by decide +kernel⟩, List.mem_of_getElem? (i := 1642) (by decide +kernel), List.mem_of_getElem? (i := 1826) (by decide +kernel), List.mem_of_getElem? (i := 1827) (by decide +kernel)⟩
def lw_privs_3 : List (MethodName × Nat) := [(⟨"FloatingDockModel", "begins", "()V"⟩, 20), (⟨"FloatingDockModel", "adds", "(III)I"⟩, 20), (⟨"FloatingDockModel", "ends", "(I)I"⟩, 20), (⟨"FloatingDockModel", "remembers", "()V"⟩, 20), (⟨"FloatingDockModel", "removes", "(I)I"⟩, 20), (⟨"FloatingDockModel", "find", "(I)I"⟩, 20), (⟨"FloatingDockModel", "of", "(II)I"⟩, 20), (⟨"FloatingDockModel", "isDocked", "(I)Z"⟩, 20), (⟨"FloatingDockModel", "enters", "(II)I"⟩, 20), (⟨"FloatingDockModel", "isFree", "(II)Z"⟩, 20), (⟨"FloatingDockModel", "at", "(I)I"⟩, 20), (⟨"FloatingDockModel", "refuses", "(II)V"⟩, 20), (⟨"FloatingDockModel", "docked", "()I"⟩, 20), (⟨"FloatingDockModel", "leaves", "(I)I"⟩, 20), (⟨"FloatingDockModel", "floats", "(I)Z"⟩, 20), (⟨"FloatingDockModel", "cleans", "(II)I"⟩, 20)]
theorem lw_r3 : ∀ q ∈ lw_privs_3, lw_okq q := List.forall_mem_cons.mpr ⟨lw_p32, List.forall_mem_cons.mpr ⟨lw_p33, List.forall_mem_cons.mpr ⟨lw_p34, List.forall_mem_cons.mpr ⟨lw_p35, List.forall_mem_cons.mpr ⟨lw_p36, List.forall_mem_cons.mpr ⟨lw_p37, List.forall_mem_cons.mpr ⟨lw_p38, List.forall_mem_cons.mpr ⟨lw_p39, List.forall_mem_cons.mpr ⟨lw_p40, List.forall_mem_cons.mpr ⟨lw_p41, List.forall_mem_cons.mpr ⟨lw_p42, List.forall_mem_cons.mpr ⟨lw_p43, List.forall_mem_cons.mpr ⟨lw_p44, List.forall_mem_cons.mpr ⟨lw_p45, List.forall_mem_cons.mpr ⟨lw_p46, List.forall_mem_cons.mpr ⟨lw_p47, fun _ h => absurd h List.not_mem_nil⟩⟩⟩⟩⟩⟩⟩⟩⟩⟩⟩⟩⟩⟩⟩⟩
theorem lw_p48 : lw_okq (⟨"FloatingDockModel", "pays", "(II)I"⟩, 20) := ⟨⟨by decide +kernel, by decide +kernel⟩, List.mem_of_getElem? (i := 1642) (by decide +kernel), List.mem_of_getElem? (i := 1834) (by decide +kernel), List.mem_of_getElem? (i := 1835) (by decide +kernel)⟩
theorem lw_p49 : lw_okq (⟨"FloatingDockModel", "gates", "(I)I"⟩, 20) := ⟨⟨by decide +kernel, by decide +kernel⟩, List.mem_of_getElem? (i := 1642) (by decide +kernel), List.mem_of_getElem? (i := 1842) (by decide +kernel), List.mem_of_getElem? (i := 1843) (by decide +kernel)⟩
theorem lw_p50 : lw_okq (⟨"FloatingDockModel", "pumps", "(I)I"⟩, 20) := ⟨⟨by decide +kernel, by decide +kernel⟩, List.mem_of_getElem? (i := 1642) (by decide +kernel), List.mem_of_getElem? (i := 1854) (by decide +kernel), List.mem_of_getElem? (i := 1855) (by decide +kernel)⟩
theorem lw_p51 : lw_okq (⟨"FloatingDockModel", "lays", "(I)I"⟩, 20) := ⟨⟨by decide +kernel, by decide +kernel⟩, List.mem_of_getElem? (i := 1642) (by decide +kernel), List.mem_of_getElem? (i := 1862) (by decide +kernel), List.mem_of_getElem? (i := 1863) (by decide +kernel)⟩
theorem lw_p52 : lw_okq (⟨"FloatingDockModel", "blocks", "()I"⟩, 20) := ⟨⟨by decide +kernel, by decide +kernel⟩, List.mem_of_getElem? (i := 1642) (by decide +kernel), List.mem_of_getElem? (i := 1866) (by decide +kernel), List.mem_of_getElem? (i := 1867) (by decide +kernel)⟩
theorem lw_p53 : lw_okq (⟨"FloatingDockModel", "isBlock", "(I)Z"⟩, 20) := ⟨⟨by decide +kernel, by decide +kernel⟩, List.mem_of_getElem? (i := 1642) (by decide +kernel), List.mem_of_getElem? (i := 1870) (by decide +kernel), List.mem_of_getElem? (i := 1871) (by decide +kernel)⟩
theorem lw_p54 : lw_okq (⟨"FloatingDockModel", "takes", "(I)I"⟩, 20) := ⟨⟨by decide +kernel, by decide +kernel⟩, List.mem_of_getElem? (i := 1642) (by decide +kernel), List.mem_of_getElem? (i := 1878) (by decide +kernel), List.mem_of_getElem? (i := 1879) (by decide +kernel)⟩
theorem lw_p55 : lw_okq (⟨"FloatingDockModel", "waits", "(I)I"⟩, 20) := ⟨⟨by decide +kernel, by decide +kernel⟩, List.mem_of_getElem? (i := 1642) (by decide +kernel), List.mem_of_getElem? (i := 1886) (by decide +kernel), List.mem_of_getElem? (i := 1887) (by decide +kernel)⟩
theorem lw_p56 : lw_okq (⟨"FloatingDockModel", "levelThen", "(II)I"⟩, 20) := ⟨⟨by decide +kernel, by decide +kernel⟩, List.mem_of_getElem? (i := 1642) (by decide +kernel), List.mem_of_getElem? (i := 1890) (by decide +kernel), List.mem_of_getElem? (i := 1891) (by decide +kernel)⟩
theorem lw_p57 : lw_okq (⟨"FloatingDockModel", "spends", "(I)I"⟩, 20) := ⟨⟨by decide +kernel, by decide +kernel⟩, List.mem_of_getElem? (i := 1642) (by decide +kernel), List.mem_of_getElem? (i := 1895) (by decide +kernel), List.mem_of_getElem? (i := 1896) (by decide +kernel)⟩
theorem lw_p58 : lw_okq (⟨"FloatingDockModel", "beneath", "(I)I"⟩, 20) := ⟨⟨by decide +kernel, by decide +kernel⟩, List.mem_of_getElem? (i := 1642) (by decide +kernel), List.mem_of_getElem? (i := 1899) (by decide +kernel), List.mem_of_getElem? (i := 1900) (by decide +kernel)⟩
theorem lw_p59 : lw_okq (⟨"FloatingDockModel", "charges", "(II)V"⟩, 20) := ⟨⟨by decide +kernel, by decide +kernel⟩, List.mem_of_getElem? (i := 1642) (by decide +kernel), List.mem_of_getElem? (i := 1903) (by decide +kernel), List.mem_of_getElem? (i := 1904) (by decide +kernel)⟩
theorem lw_p60 : lw_okq (⟨"FloatingDockModel", "asks", "(II)I"⟩, 20) := ⟨⟨by decide +kernel, by decide +kernel⟩, List.mem_of_getElem? (i := 1642) (by decide +kernel), List.mem_of_getElem? (i := 1919) (by decide +kernel), List.mem_of_getElem? (i := 1920) (by decide +kernel)⟩
theorem lw_p61 : lw_okq (⟨"FloatingDockModel", "sea", "(I)I"⟩, 20) := ⟨⟨by decide +kernel, by decide +kernel⟩, List.mem_of_getElem? (i := 1642) (by decide +kernel), List.mem_of_getElem? (i := 1963) (by decide +kernel), List.mem_of_getElem? (i := 1964) (by decide +kernel)⟩
theorem lw_p62 : lw_okq (⟨"FloatingDockModel", "asksBeneath", "(I)I"⟩, 20) := ⟨⟨by decide +kernel, by decide +kernel⟩, List.mem_of_getElem? (i := 1642) (by decide +kernel), List.mem_of_getElem? (i := 1991) (by decide +kernel), List.mem_of_getElem? (i := 1992) (by decide +kernel)⟩
theorem lw_p63 : lw_okq (⟨"FloatingDockModel", "gap", "(I)I"⟩, 20) := ⟨⟨by decide +kernel, by decide +kernel⟩, List.mem_of_getElem? (i := 1642) (by decide +kernel), List.mem_of_getElem? (i := 2007) (by decide +kernel), List.mem_of_getElem? (i := 2008) (by decide +kernel)⟩
def lw_privs_4 : List (MethodName × Nat) := [(⟨"FloatingDockModel", "pays", "(II)I"⟩, 20), (⟨"FloatingDockModel", "gates", "(I)I"⟩, 20), (⟨"FloatingDockModel", "pumps", "(I)I"⟩, 20), (⟨"FloatingDockModel", "lays", "(I)I"⟩, 20), (⟨"FloatingDockModel", "blocks", "()I"⟩, 20), (⟨"FloatingDockModel", "isBlock", "(I)Z"⟩, 20), (⟨"FloatingDockModel", "takes", "(I)I"⟩, 20), (⟨"FloatingDockModel", "waits", "(I)I"⟩, 20), (⟨"FloatingDockModel", "levelThen", "(II)I"⟩, 20), (⟨"FloatingDockModel", "spends", "(I)I"⟩, 20), (⟨"FloatingDockModel", "beneath", "(I)I"⟩, 20), (⟨"FloatingDockModel", "charges", "(II)V"⟩, 20), (⟨"FloatingDockModel", "asks", "(II)I"⟩, 20), (⟨"FloatingDockModel", "sea", "(I)I"⟩, 20), (⟨"FloatingDockModel", "asksBeneath", "(I)I"⟩, 20), (⟨"FloatingDockModel", "gap", "(I)I"⟩, 20)]
theorem lw_r4 : ∀ q ∈ lw_privs_4, lw_okq q := List.forall_mem_cons.mpr ⟨lw_p48, List.forall_mem_cons.mpr ⟨lw_p49, List.forall_mem_cons.mpr ⟨lw_p50, List.forall_mem_cons.mpr ⟨lw_p51, List.forall_mem_cons.mpr ⟨lw_p52, List.forall_mem_cons.mpr ⟨lw_p53, List.forall_mem_cons.mpr ⟨lw_p54, List.forall_mem_cons.mpr ⟨lw_p55, List.forall_mem_cons.mpr ⟨lw_p56, List.forall_mem_cons.mpr ⟨lw_p57, List.forall_mem_cons.mpr ⟨lw_p58, List.forall_mem_cons.mpr ⟨lw_p59, List.forall_mem_cons.mpr ⟨lw_p60, List.forall_mem_cons.mpr ⟨lw_p61, List.forall_mem_cons.mpr ⟨lw_p62, List.forall_mem_cons.mpr ⟨lw_p63, fun _ h => absurd h List.not_mem_nil⟩⟩⟩⟩⟩⟩⟩⟩⟩⟩⟩⟩⟩⟩⟩⟩
theorem lw_p64 : lw_okq (⟨"FloatingDockModel", "freeOnes", "()I"⟩, 20) := ⟨⟨by decide +kernel, by decide +kernel⟩, List.mem_of_getElem? (i := 1642) (by decide +kernel), List.mem_of_getElem? (i := 2019) (by decide +kernel), List.mem_of_getElem? (i := 2020) (by decide +kernel)⟩
theorem lw_p65 : lw_okq (⟨"FloatingDockModel", "mostOf", "(Z)I"⟩, 20) := ⟨⟨by decide +kernel, by decide +kernel⟩, List.mem_of_getElem? (i := 1642) (by decide +kernel), List.mem_of_getElem? (i := 2027) (by decide +kernel), List.mem_of_getElem? (i := 2028) (by decide +kernel)⟩
theorem lw_p66 : lw_okq (⟨"FloatingDockModel", "packs", "()V"⟩, 20) := ⟨⟨by decide +kernel, by decide +kernel⟩, List.mem_of_getElem? (i := 1642) (by decide +kernel), List.mem_of_getElem? (i := 2031) (by decide +kernel), List.mem_of_getElem? (i := 2032) (by decide +kernel)⟩
theorem lw_p67 : lw_okq (⟨"FloatingDockModel", "takesGap", "(I)V"⟩, 20) := ⟨⟨by decide +kernel, by decide +kernel⟩, List.mem_of_getElem? (i := 1642) (by decide +kernel), List.mem_of_getElem? (i := 2035) (by decide +kernel), List.mem_of_getElem? (i := 2036) (by decide +kernel)⟩
theorem lw_p68 : lw_okq (⟨"FloatingDockModel", "metres", "(I)I"⟩, 20) := ⟨⟨by decide +kernel, by decide +kernel⟩, List.mem_of_getElem? (i := 1642) (by decide +kernel), List.mem_of_getElem? (i := 2039) (by decide +kernel), List.mem_of_getElem? (i := 2040) (by decide +kernel)⟩
theorem lw_p69 : lw_okq (⟨"FloatingDockModel", "sum", "(I)I"⟩, 20) := ⟨⟨by decide +kernel, by decide +kernel⟩, List.mem_of_getElem? (i := 1642) (by decide +kernel), List.mem_of_getElem? (i := 2056) (by decide +kernel), List.mem_of_getElem? (i := 2057) (by decide +kernel)⟩
theorem lw_p70 : lw_okq (⟨"FloatingDockModel", "put", "(II)I"⟩, 20) := ⟨⟨by decide +kernel, by decide +kernel⟩, List.mem_of_getElem? (i := 1642) (by decide +kernel), List.mem_of_getElem? (i := 2093) (by decide +kernel), List.mem_of_getElem? (i := 2094) (by decide +kernel)⟩
theorem lw_p71 : lw_okq (⟨"FloatingDockModel", "writesNumber", "(II)I"⟩, 20) := ⟨⟨by decide +kernel, by decide +kernel⟩, List.mem_of_getElem? (i := 1642) (by decide +kernel), List.mem_of_getElem? (i := 2097) (by decide +kernel), List.mem_of_getElem? (i := 2098) (by decide +kernel)⟩
theorem lw_p72 : lw_okq (⟨"FloatingDockModel", "readsAll", "()V"⟩, 20) := ⟨⟨by decide +kernel, by decide +kernel⟩, List.mem_of_getElem? (i := 1642) (by decide +kernel), List.mem_of_getElem? (i := 2113) (by decide +kernel), List.mem_of_getElem? (i := 2114) (by decide +kernel)⟩
theorem lw_p73 : lw_okq (⟨"FloatingDockModel", "readsCommand", "()V"⟩, 20) := ⟨⟨by decide +kernel, by decide +kernel⟩, List.mem_of_getElem? (i := 1642) (by decide +kernel), List.mem_of_getElem? (i := 2117) (by decide +kernel), List.mem_of_getElem? (i := 2118) (by decide +kernel)⟩
theorem lw_p74 : lw_okq (⟨"FloatingDockModel", "kindHere", "()I"⟩, 20) := ⟨⟨by decide +kernel, by decide +kernel⟩, List.mem_of_getElem? (i := 1642) (by decide +kernel), List.mem_of_getElem? (i := 2121) (by decide +kernel), List.mem_of_getElem? (i := 2122) (by decide +kernel)⟩
theorem lw_p75 : lw_okq (⟨"FloatingDockModel", "letterHere", "()I"⟩, 20) := ⟨⟨by decide +kernel, by decide +kernel⟩, List.mem_of_getElem? (i := 1642) (by decide +kernel), List.mem_of_getElem? (i := 2130) (by decide +kernel), List.mem_of_getElem? (i := 2131) (by decide +kernel)⟩
theorem lw_p76 : lw_okq (⟨"FloatingDockModel", "numberBehind", "(I)I"⟩, 20) := ⟨⟨by decide +kernel, by decide +kernel⟩, List.mem_of_getElem? (i := 1642) (by decide +kernel), List.mem_of_getElem? (i := 2134) (by decide +kernel), List.mem_of_getElem? (i := 2135) (by decide +kernel)⟩
theorem lw_p77 : lw_okq (⟨"FloatingDockModel", "reads", "(II)I"⟩, 20) := ⟨⟨by decide +kernel, by decide +kernel⟩, List.mem_of_getElem? (i := 1642) (by decide +kernel), List.mem_of_getElem? (i := 2138) (by decide +kernel), List.mem_of_getElem? (i := 2139) (by decide +kernel)⟩
theorem lw_p78 : lw_okq (⟨"FloatingDockModel", "number", "()I"⟩, 20) := ⟨⟨by decide +kernel, by decide +kernel⟩, List.mem_of_getElem? (i := 1642) (by decide +kernel), List.mem_of_getElem? (i := 2142) (by decide +kernel), List.mem_of_getElem? (i := 2143) (by decide +kernel)⟩
theorem lw_p79 : lw_okq (⟨"FloatingDockModel", "does", "(I)I"⟩, 20) := ⟨⟨by decide +kernel, by decide +kernel⟩, List.mem_of_getElem? (i := 1642) (by decide +kernel), List.mem_of_getElem? (i := 2146) (by decide +kernel), List.mem_of_getElem? (i := 2147) (by decide +kernel)⟩
def lw_privs_5 : List (MethodName × Nat) := [(⟨"FloatingDockModel", "freeOnes", "()I"⟩, 20), (⟨"FloatingDockModel", "mostOf", "(Z)I"⟩, 20), (⟨"FloatingDockModel", "packs", "()V"⟩, 20), (⟨"FloatingDockModel", "takesGap", "(I)V"⟩, 20), (⟨"FloatingDockModel", "metres", "(I)I"⟩, 20), (⟨"FloatingDockModel", "sum", "(I)I"⟩, 20), (⟨"FloatingDockModel", "put", "(II)I"⟩, 20), (⟨"FloatingDockModel", "writesNumber", "(II)I"⟩, 20), (⟨"FloatingDockModel", "readsAll", "()V"⟩, 20), (⟨"FloatingDockModel", "readsCommand", "()V"⟩, 20), (⟨"FloatingDockModel", "kindHere", "()I"⟩, 20), (⟨"FloatingDockModel", "letterHere", "()I"⟩, 20), (⟨"FloatingDockModel", "numberBehind", "(I)I"⟩, 20), (⟨"FloatingDockModel", "reads", "(II)I"⟩, 20), (⟨"FloatingDockModel", "number", "()I"⟩, 20), (⟨"FloatingDockModel", "does", "(I)I"⟩, 20)]
theorem lw_r5 : ∀ q ∈ lw_privs_5, lw_okq q := List.forall_mem_cons.mpr ⟨lw_p64, List.forall_mem_cons.mpr ⟨lw_p65, List.forall_mem_cons.mpr ⟨lw_p66, List.forall_mem_cons.mpr ⟨lw_p67, List.forall_mem_cons.mpr ⟨lw_p68, List.forall_mem_cons.mpr ⟨lw_p69, List.forall_mem_cons.mpr ⟨lw_p70, List.forall_mem_cons.mpr ⟨lw_p71, List.forall_mem_cons.mpr ⟨lw_p72, List.forall_mem_cons.mpr ⟨lw_p73, List.forall_mem_cons.mpr ⟨lw_p74, List.forall_mem_cons.mpr ⟨lw_p75, List.forall_mem_cons.mpr ⟨lw_p76, List.forall_mem_cons.mpr ⟨lw_p77, List.forall_mem_cons.mpr ⟨lw_p78, List.forall_mem_cons.mpr ⟨lw_p79, fun _ h => absurd h List.not_mem_nil⟩⟩⟩⟩⟩⟩⟩⟩⟩⟩⟩⟩⟩⟩⟩⟩
def lw_privs : List (MethodName × Nat) := lw_privs_1 ++ (lw_privs_2 ++ (lw_privs_3 ++ (lw_privs_4 ++ (lw_privs_5))))
def lw_tbl : List Cond := k2_sels lw_privs ++ tables_1
theorem lw_privs_ok : ∀ q ∈ lw_privs, lw_okq q := by
  show ∀ q ∈ lw_privs_1 ++ (lw_privs_2 ++ (lw_privs_3 ++ (lw_privs_4 ++ (lw_privs_5)))), lw_okq q
  exact List.forall_mem_append.mpr ⟨lw_r1, List.forall_mem_append.mpr ⟨lw_r2, List.forall_mem_append.mpr ⟨lw_r3, List.forall_mem_append.mpr ⟨lw_r4, lw_r5⟩⟩⟩⟩
/-- the streams that the claim lets the run draw from -/
abbrev lw_cs : List Choice := [Jvm.Choice.named "NaN.bits"]
theorem lw_bits : nanBits ∈ lw_cs := by first | decide | exact List.mem_cons_self | simp [lw_cs, nanBits]
end
section
/-! ===== BEGIN words of one list among another's, by their places ===== -/
theorem goodIn_r {big : List Cond} (ws : List Cond) (ps : List Nat) (hp : ws = ps.filterMap (fun i => big[i]?)) (h : ws.all goodWord = true) : GoodIn big ws := by
  intro w hw
  have h1 := List.all_eq_true.mp h w hw
  rw [hp] at hw
  obtain ⟨i, -, hi⟩ := List.mem_filterMap.mp hw
  have hm : w ∈ big := by first | exact List.mem_of_getElem? hi | exact List.getElem?_mem hi
  exact ⟨hm, good_of_word h1⟩
theorem goodIn_app {big a b : List Cond} (ha : GoodIn big a) (hb : GoodIn big b) : GoodIn big (a ++ b) := fun w h => (List.mem_append.mp h).elim (ha w) (hb w)
theorem goodIn_ca {big a b : List Cond} {c : Cond} (ha : GoodIn big (c :: a)) (hb : GoodIn big b) : GoodIn big (c :: (a ++ b)) := fun w h => (List.mem_cons.mp h).elim (fun e => ha w (List.mem_cons.mpr (Or.inl e))) (fun h => (List.mem_append.mp h).elim (fun h => ha w (List.mem_cons.mpr (Or.inr h))) (hb w))
theorem goodIn_sub {big ws : List Cond} (hm : ∀ w ∈ ws, w ∈ big) (h : ws.all goodWord = true) : GoodIn big ws := fun w hw => ⟨hm w hw, good_of_word (List.all_eq_true.mp h w hw)⟩
/-! ===== END ===== -/

/-! ===== BEGIN exceptions that leave a method, and their catching by the caller (launches without stack traces) ===== -/
section VXA
/-! The laws vx_back, vx_callV, vx_callS, vx_callSW, vx_throw0, vx_throwS follow proofs of the library, with one case more: JvmDerived/Free/Laws.lean (Back.of_free), Shelf42/LK1.lean (callV, callS), Shelf/KitTraced.lean (throwNew0V, throwNewS). -/
/-- where a method has thrown q: the class by its name, the cell, what was written, the world -/
def vx_T (XC : String → State → State → Prop) (st : State) (q : Addr) (t : State) (mc ms : Nat) (free : Addr → Prop) : Prop :=
  ∃ (E : String) (ce : Cell) (L : List Loc), XC E st t ∧ t.heap[q]? = some ce ∧ ce.vm = .none ∧ st.vm.findClass E = some ce.cls ∧ st.WarmedH t.vm ∧ st.sameButNew ({ t with vm := st.vm } : State) L mc ms ∧ ∀ z ∈ L, free z.base
def vx_Q (Qc : Array Value → State → Outcome → State → Prop) (XC : String → State → State → Prop) (mc ms : Nat) (free : Addr → Prop) : Array Value → State → Outcome → State → Prop := fun a st o t =>
  (Qc a st o t ∧ ∃ L, FrameEnd st o t L mc ms ∧ ∀ q ∈ L, free q.base) ∨ ∃ q, o = .threw q ∧ vx_T XC st q t mc ms free
/-- a callee that returns or throws -/
def vx_Met (l : Launch) (y : MethodName) (ws : List Cond) (rm : Room) (Pc : Array Value → State → Prop) (Qc : Array Value → State → Outcome → State → Prop) (XC : String → State → State → Prop) (mc ms : Nat) (free : Addr → Prop) : Prop :=
  MetFree l y (headSpec ws rm) Pc (fun _ _ _ _ _ => True) (vx_Q Qc XC mc ms free)
def vx_Post (XC : String → State → State → Prop) (mc ms : Nat) (free : Addr → Prop) : Pt → Array Value → Addr → Pt → Prop := fun A a q B =>
  ∃ (g : JFrame) (mk : MethodId) (t : State) (L : List Loc) (E : String) (ce : Cell), B.U.heap = t.heap ∧ B.U.vm = t.vm ∧ XC E (A.U.calling g mk a) t ∧ t.heap[q]? = some ce ∧ ce.vm = .none ∧ A.U.vm.findClass E = some ce.cls ∧ B.locs = A.locs ++ L ∧ (∀ z ∈ L, free z.base) ∧ B.cells = A.cells + mc ∧ B.slots = A.slots + ms
def vx_Back (l : Launch) (R : Room) (p : Program) (e : Env) (below : List Frame) (s : State) (sargs : Array Value) (y : MethodName) (len W9 : Nat)
    (Pre : Pt → Array Value → Prop) (Post : Pt → Array Value → Option Value → Pt → Prop) (PostX : Pt → Array Value → Addr → Pt → Prop) : Prop :=
  ∀ (m : MethodId) (meth : Method) (c : Code) (A : Pt) (g : JFrame) (ig : Instr) (mk : MethodId) (a : Array Value),
    Stand p l e R s m sargs below meth c A.U A.locs A.cells A.slots → g.method = m → g.locals.size = c.maxLocals → decode c.code g.pc = .ok (ig, len) →
    2 * g.monitorRoom + (g.stack.map fun v => v.category).sum ≤ W9 → A.U.methodNamed? y = some mk → Pre A a →
    (∃ (v : Option Value) (B : Pt), Stand p l e R s m sargs below meth c B.U B.locs B.cells B.slots ∧ Post A a v B ∧
      Steps p.tables e below (doInvoke e (A.U.setTop g) [] mk a).1 (B.U.setTop { g with pc := g.pc + len, stack := v.toList ++ g.stack })) ∨
    (∃ (q : Addr) (B : Pt), Stand p l e R s m sargs below meth c B.U B.locs B.cells B.slots ∧ PostX A a q B ∧
      Steps p.tables e below (doInvoke e (A.U.setTop g) [] mk a).1 ((B.U.setTop g).pushFrame (.throwing q)))
section Payer
variable {l : Launch} {R : Room} {p : Program} {e : Env} {below : List Frame} {s : State} {sargs : Array Value} {y : MethodName} {len W9 : Nat}
theorem vx_back {ws : List Cond} {rm : Room} {Pc : Array Value → State → Prop} {Qc : Array Value → State → Outcome → State → Prop} {XC : String → State → State → Prop} {mc ms : Nat} {free : Addr → Prop} {bytes : ByteArray} {maxL : Nat} {ret : Option FieldType}
    (hM : vx_Met l y ws rm Pc Qc XC mc ms free) (hblind : FrameBlind Pc) (hrc : rm.cells = mc) (hrs : rm.slots = ms)
    (hframes : rm.frames + 1 ≤ R.frames) (hlocals : W9 + (maxL + 11) + rm.locals ≤ R.locals)
    (hws : ∀ w ∈ ws, ∀ a' U, s.WarmedH U.vm → w.before a' U = true) (hcode : Cond.code y bytes maxL ret ∈ ws) (hinit : ∀ a' U, s.WarmedH U.vm → (Cond.initialized y.cls).before a' U = true) :
    vx_Back l R p e below s sargs y len W9 (PreOf R mc ms Pc) (PostOf Qc mc ms free) (vx_Post XC mc ms free) := by
  intro m meth c A g ig mk a X hg hsize hdg hW hn hp
  have h1 : (headSpec ws rm).pre.before a A.U = true := atoms_intro fun w hw => hws w hw _ _ X.warmed
  have h2 : (Cond.code y bytes maxL ret).before a A.U = true := hws _ hcode _ _ X.warmed
  have h3 : (Cond.initialized y.cls).before a A.U = true := hinit _ _ X.warmed
  have h4 : A.cells + (headSpec ws rm).room.cells ≤ R.cells := by rw [show (headSpec ws rm).room.cells = mc from hrc]; exact hp.1
  have h5 : A.slots + (headSpec ws rm).room.slots ≤ R.slots := by rw [show (headSpec ws rm).room.slots = ms from hrs]; exact hp.2.1
  have hPc : Pc a (A.U.calling g mk a) := hblind _ _ _ _ hp.2.2
  obtain ⟨U, Ls, c0, s0⟩ := A
  dsimp only [Pt.U, Pt.locs, Pt.cells, Pt.slots] at h1 h2 h3 h4 h5 X hn hPc ⊢
  obtain ⟨methY, cY, hmY, hcY, -, hlY, -, -, -, -⟩ := Cond.code_spec hn h2
  obtain ⟨kY, hkY, -⟩ := className_of_methodNamed hn
  have hinitY : kY.init = .initialized := Cond.initialized_spec (findClass_of_methodNamed hn) hkY h3
  have h : At U g.method c below := by rw [hg]; exact X.here
  have hlocals9 : W9 + (maxL + 11) + (headSpec ws rm).room.locals ≤ R.locals := hlocals
  have happ : (headSpec ws rm).appliesLoose y e.platform (U.calling g mk a) = true :=
    Spec.appliesLoose_calling (g := g) h hdg hn hkY hinitY
      (X.room_calling (g := g) (R' := (headSpec ws rm).room) hsize hmY hcY hframes (by rw [hlY]; omega) h4 h5) h1
  obtain ⟨mid, hmid⟩ := h.above
  have hfr : (U.setTop g).frames = (.java g :: mid) ++ below := by rw [State.frames_setTop' g h.top, hmid]; rfl
  obtain ⟨o, s₂, hsteps, -, hend, hq⟩ := Steps.callFree hM p X.admits X.cas X.clock (acts := []) hfr happ hPc trivial
  have hq' : vx_Q Qc XC mc ms free a (U.calling g mk a) o s₂ := hq
  rw [State.frames_setTop' g h.top] at hend
  obtain ⟨g₀, hg0⟩ := Option.isSome_iff_exists.mp h.top
  obtain ⟨r, hr⟩ := State.topJava?_eq_some.mp hg0
  have hr' : (({ U with heap := s₂.heap, slotsUsed := s₂.slotsUsed } : State).setVm s₂.vm).frames = .java g₀ :: r := hr
  rcases hq' with ⟨hqc, L, hfe, hL⟩ | ⟨q, rfl, E, ce, L, hx, hce, hcv, hcl, hW₂, hsm, hL⟩
  · obtain ⟨⟨v, rfl⟩, hW₂, e2, q2, q3, q4, q5, q6⟩ := id hfe
    have e3 : s₂ = ({ (U.calling g mk a).setFrames s₂.frames with heap := s₂.heap, slotsUsed := s₂.slotsUsed } : State).setVm s₂.vm := by
      have : s₂ = ({ s₂ with vm := (U.calling g mk a).vm } : State).setVm s₂.vm := rfl
      rw [e2] at this
      exact this
    obtain ⟨c₂, i₂, len₂, hc₂, hd₂, hf₂⟩ := hend
    have hW' : U.WarmedH s₂.vm := hW₂
    have hcc : c₂ = c := by
      have h1 : s₂.code? g.method = U.code? g.method := by
        rw [State.code?_eq, State.code?_eq, hW'.alike.method?]
      exact Option.some.inj (hc₂.symm.trans (h1.trans h.code))
    subst hcc
    have hlen : len₂ = len := by rw [hdg] at hd₂; cases hd₂; rfl
    subst hlen
    have hs₂ : s₂ = (({ U with heap := s₂.heap, slotsUsed := s₂.slotsUsed } : State).setVm s₂.vm).setTop { g with pc := g.pc + len₂, stack := v.toList ++ g.stack } := by
      refine e3.trans ?_
      rw [hf₂, State.calling_eq h.top, State.setFrames_setFrames, State.setTop_of_frames _ hr', hr]
      rfl
    have hsame : U.sameButNew ({ U with heap := s₂.heap, slotsUsed := s₂.slotsUsed } : State) L mc ms := by
      refine ⟨?_, q2, q3, q4, q5, q6⟩
      obtain ⟨t, ht, -⟩ := State.frames_cons hr
      show ({ U with heap := s₂.heap, slotsUsed := s₂.slotsUsed } : State) = { U.setFrames U.frames with heap := s₂.heap, slotsUsed := s₂.slotsUsed }
      rw [State.setFrames_self ht]
    subst hg
    refine Or.inl ⟨v, ⟨(({ U with heap := s₂.heap, slotsUsed := s₂.slotsUsed } : State).setVm s₂.vm), Ls ++ L, c0 + mc, s0 + ms⟩,
      ⟨X.admits, X.cas, X.clock, X.frames, X.room, X.hears, X.method, X.code, (X.here.setHeapUsed s₂.heap s₂.slotsUsed).setVm hW'.alike, X.tail, State.WarmedH.trans X.warmed hW', X.limits, X.bytes, X.same.trans (hsame.setVm s.vm)⟩,
      ⟨g, mk, s₂, L, rfl, rfl, hqc, rfl, hL, rfl, rfl⟩, ?_⟩
    show Steps p.tables e below _ ((({ U with heap := s₂.heap, slotsUsed := s₂.slotsUsed } : State).setVm s₂.vm).setTop { g with pc := g.pc + len₂, stack := v.toList ++ g.stack })
    rw [← hs₂]
    exact hsteps
  · obtain ⟨e2, q2, q3, q4, q5, q6⟩ := id hsm
    have e3 : s₂ = ({ (U.calling g mk a).setFrames s₂.frames with heap := s₂.heap, slotsUsed := s₂.slotsUsed } : State).setVm s₂.vm := by
      have : s₂ = ({ s₂ with vm := (U.calling g mk a).vm } : State).setVm s₂.vm := rfl
      rw [e2] at this
      exact this
    have hf₂ : s₂.frames = .throwing q :: .java g :: U.frames.tail := hend
    have hW' : U.WarmedH s₂.vm := hW₂
    have hs₂ : s₂ = ((({ U with heap := s₂.heap, slotsUsed := s₂.slotsUsed } : State).setVm s₂.vm).setTop g).pushFrame (.throwing q) := by
      refine e3.trans ?_
      rw [hf₂, State.calling_eq h.top, State.setFrames_setFrames, State.pushFrame, State.frames_setTop _ hr', State.setTop_of_frames _ hr', State.setFrames_setFrames, hr]
      rfl
    have hsame : U.sameButNew ({ U with heap := s₂.heap, slotsUsed := s₂.slotsUsed } : State) L mc ms := by
      refine ⟨?_, q2, q3, q4, q5, q6⟩
      obtain ⟨t, ht, -⟩ := State.frames_cons hr
      show ({ U with heap := s₂.heap, slotsUsed := s₂.slotsUsed } : State) = { U.setFrames U.frames with heap := s₂.heap, slotsUsed := s₂.slotsUsed }
      rw [State.setFrames_self ht]
    subst hg
    refine Or.inr ⟨q, ⟨(({ U with heap := s₂.heap, slotsUsed := s₂.slotsUsed } : State).setVm s₂.vm), Ls ++ L, c0 + mc, s0 + ms⟩,
      ⟨X.admits, X.cas, X.clock, X.frames, X.room, X.hears, X.method, X.code, (X.here.setHeapUsed s₂.heap s₂.slotsUsed).setVm hW'.alike, X.tail, State.WarmedH.trans X.warmed hW', X.limits, X.bytes, X.same.trans (hsame.setVm s.vm)⟩,
      ⟨g, mk, s₂, L, E, ce, rfl, rfl, hx, hce, hcv, hcl, rfl, hL, rfl, rfl⟩, ?_⟩
    show Steps p.tables e below _ (((({ U with heap := s₂.heap, slotsUsed := s₂.slotsUsed } : State).setVm s₂.vm).setTop g).pushFrame (.throwing q))
    rw [← hs₂]
    exact hsteps
end Payer
section Calls
variable {p : Program} {l : Launch} {e : Env} {R : Room} {s : State} {m : MethodId} {args : Array Value} {below : List Frame} {meth : Method} {c : Code} {T : State} {locs : List Loc} {cells slots : Nat}
theorem vx_callV (X : Stand p l e R s m args below meth c T locs cells slots) (hexec : p.tables.exec = Jvm.exec) {own C : String} {index : Nat} {y : MethodName} {bytes : ByteArray} {maxL : Nat} {ret : Option FieldType}
    (hown : s.vm.findClass own = some m.cls) (hlink : (Cond.methodLink own index y).before args s = true) (hinst : (Cond.instanceMethod y).before args s = true) (hsel : (Cond.selects C y y).before args s = true)
    (hcode : (Cond.code y bytes maxL ret).before args s = true) (hy : y.cls ≠ "java/lang/invoke/MethodHandle" ∧ y.cls ≠ "java/lang/invoke/VarHandle")
    {W9 : Nat} {Pre : Pt → Array Value → Prop} {Post : Pt → Array Value → Option Value → Pt → Prop} {PostX : Pt → Array Value → Addr → Pt → Prop} (hK : vx_Back l R p e below s args y 3 W9 Pre Post PostX)
    {b : Addr} {cellB : Cell} (hcell : T.heap[b]? = some cellB) (hobj : cellB.vm.isStatics = false) (hcls : s.vm.findClass C = some cellB.cls)
    {g : JFrame} (hg : g.method = m) (hsize : g.locals.size = c.maxLocals) {argsL rest : List Value} (hlen : ∀ sig, parseMethodDescriptor y.desc = some sig → argsL.length = sig.parameters.length)
    (hstack : g.stack = argsL.reverse ++ .ref b :: rest) (hW : 2 * g.monitorRoom + (rest.map fun v => v.category).sum ≤ W9) (hdg : decode c.code g.pc = .ok (.invokevirtual index, 3))
    (hpre : ∀ vm₁, s.WarmedH vm₁ → Pre ⟨T.setVm vm₁, locs, cells, slots⟩ (Value.ref b :: argsL).toArray) :
    (∃ (v : Option Value) (vm₁ : Vm) (B : Pt), s.WarmedH vm₁ ∧ Stand p l e R s m args below meth c B.U B.locs B.cells B.slots ∧ Post ⟨T.setVm vm₁, locs, cells, slots⟩ (Value.ref b :: argsL).toArray v B ∧
      ∀ target, Steps p.tables e below (B.U.setTop { g with pc := g.pc + 3, stack := v.toList ++ rest }) target → Steps p.tables e below (T.setTop g) target) ∨
    (∃ (q : Addr) (vm₁ : Vm) (B : Pt), s.WarmedH vm₁ ∧ Stand p l e R s m args below meth c B.U B.locs B.cells B.slots ∧ PostX ⟨T.setVm vm₁, locs, cells, slots⟩ (Value.ref b :: argsL).toArray q B ∧
      Steps p.tables e below (T.setTop g) ((B.U.setTop { g with stack := rest }).pushFrame (.throwing q))) := by
  obtain ⟨mk, methM, hnamed, hmethM, hstM, habM⟩ := Cond.instanceMethod_spec hinst
  obtain ⟨methM', cM, hmethM', -, -, -, -, -, -, hsigM⟩ := Cond.code_spec hnamed hcode
  cases hmethM.symm.trans hmethM'
  obtain ⟨c2, r2, m2, q1, q2, q3, q4, kP, hkP, hkPi⟩ := Cond.selects_spec hsel
  cases hcls.symm.trans q1
  cases (State.methodFound?_of_named hnamed hy).symm.trans q2
  cases hnamed.symm.trans q3
  have hselP : selectMethod e.platform s.vm cellB.cls mk = .method mk := by rw [Launch.admits_selectMethod X.admits]; exact q4
  obtain ⟨vm₁, X₁, hstep₁⟩ := X.invokevirtual hexec hown hlink hnamed hmethM hstM hkP hkPi hy (a := b) (cell := cellB) hcell
    (fun z h => by rw [h] at hobj; cases hobj) hselP hmethM habM hkP hkPi (g := g) hg (argsL := argsL) (rest := rest) (hlen _ hsigM) hstack hdg
  rcases hK m meth c ⟨T.setVm vm₁, locs, cells, slots⟩ { g with stack := rest } (.invokevirtual index) mk (Value.ref b :: argsL).toArray X₁ hg hsize hdg hW (X₁.named hnamed) (hpre vm₁ X₁.warmed) with ⟨v, B, X', hpost, hsteps⟩ | ⟨q, B, X', hpost, hsteps⟩
  · exact Or.inl ⟨v, vm₁, B, X₁.warmed, X', hpost, fun target h => hstep₁ _ fun acts => by rw [doInvoke_state]; exact hsteps.trans h⟩
  · exact Or.inr ⟨q, vm₁, B, X₁.warmed, X', hpost, hstep₁ _ fun acts => by rw [doInvoke_state]; exact hsteps⟩
theorem vx_callS (X : Stand p l e R s m args below meth c T locs cells slots) (hexec : p.tables.exec = Jvm.exec) {own : String} {index : Nat} {y : MethodName} {bytes : ByteArray} {maxL : Nat} {ret : Option FieldType}
    (hown : s.vm.findClass own = some m.cls) (hlink : (Cond.methodLink own index y).before args s = true) (hstat : (Cond.static y).before args s = true) (hinit : (Cond.initialized y.cls).before args s = true)
    (hcode : (Cond.code y bytes maxL ret).before args s = true) (hy : y.cls ≠ "java/lang/invoke/MethodHandle" ∧ y.cls ≠ "java/lang/invoke/VarHandle")
    {W9 : Nat} {Pre : Pt → Array Value → Prop} {Post : Pt → Array Value → Option Value → Pt → Prop} {PostX : Pt → Array Value → Addr → Pt → Prop} (hK : vx_Back l R p e below s args y 3 W9 Pre Post PostX)
    {g : JFrame} (hg : g.method = m) (hsize : g.locals.size = c.maxLocals) {argsL rest : List Value} (hlen : ∀ sig, parseMethodDescriptor y.desc = some sig → argsL.length = sig.parameters.length)
    (hstack : g.stack = argsL.reverse ++ rest) (hW : 2 * g.monitorRoom + (rest.map fun v => v.category).sum ≤ W9) (hdg : decode c.code g.pc = .ok (.invokestatic index, 3))
    (hpre : ∀ vm₁, s.WarmedH vm₁ → Pre ⟨T.setVm vm₁, locs, cells, slots⟩ argsL.toArray) :
    (∃ (v : Option Value) (vm₁ : Vm) (B : Pt), s.WarmedH vm₁ ∧ Stand p l e R s m args below meth c B.U B.locs B.cells B.slots ∧ Post ⟨T.setVm vm₁, locs, cells, slots⟩ argsL.toArray v B ∧
      ∀ target, Steps p.tables e below (B.U.setTop { g with pc := g.pc + 3, stack := v.toList ++ rest }) target → Steps p.tables e below (T.setTop g) target) ∨
    (∃ (q : Addr) (vm₁ : Vm) (B : Pt), s.WarmedH vm₁ ∧ Stand p l e R s m args below meth c B.U B.locs B.cells B.slots ∧ PostX ⟨T.setVm vm₁, locs, cells, slots⟩ argsL.toArray q B ∧
      Steps p.tables e below (T.setTop g) ((B.U.setTop { g with stack := rest }).pushFrame (.throwing q))) := by
  obtain ⟨mk, hnamed⟩ := Cond.code_named hcode
  obtain ⟨methM, cM, hmethM, -, -, -, -, -, -, hsigM⟩ := Cond.code_spec hnamed hcode
  have hstatic : methM.isStatic = true := Cond.static_spec hnamed hmethM hstat
  obtain ⟨kP, hkP, -⟩ := className_of_methodNamed hnamed
  have hinitP : kP.init = .initialized := Cond.initialized_spec (findClass_of_methodNamed hnamed) hkP hinit
  obtain ⟨vm₁, X₁, hstep₁⟩ := X.invokestatic hexec hown hlink hnamed hmethM hstatic hkP hinitP hy (g := g) hg (argsL := argsL) (rest := rest) (hlen _ hsigM) hstack hdg
  rcases hK m meth c ⟨T.setVm vm₁, locs, cells, slots⟩ { g with stack := rest } (.invokestatic index) mk argsL.toArray X₁ hg hsize hdg hW (X₁.named hnamed) (hpre vm₁ X₁.warmed) with ⟨v, B, X', hpost, hsteps⟩ | ⟨q, B, X', hpost, hsteps⟩
  · exact Or.inl ⟨v, vm₁, B, X₁.warmed, X', hpost, fun target h => hstep₁ _ fun acts => by rw [doInvoke_state]; exact hsteps.trans h⟩
  · exact Or.inr ⟨q, vm₁, B, X₁.warmed, X', hpost, hstep₁ _ fun acts => by rw [doInvoke_state]; exact hsteps⟩
end Calls
theorem vx_cls {s : State} {T : State} {vm₁ : Vm} {E : String} {k : ClassId} (hW : s.WarmedH vm₁) (h : (T.setVm vm₁).vm.findClass E = some k) : s.vm.findClass E = some k := by
  have h1 : vm₁.findClass E = some k := h
  rw [hW.alike.findClass] at h1
  exact h1
/-- the method's frame g, with q thrown over it -/
def vx_W (p : Program) (l : Launch) (e : Env) (R : Room) (s : State) (m : MethodId) (args : Array Value) (below : List Frame) (meth : Method) (c : Code) (H : Heap) (locs : List Loc) (cells slots : Nat) (Q : State → Prop) (g : JFrame) (q : Addr) : Prop :=
  ∀ T : State, T.heap = H → Stand p l e R s m args below meth c T locs cells slots → ∃ t, Steps p.tables e below ((T.setTop g).pushFrame (.throwing q)) t ∧ Q t
def vx_Run (p : Program) (l : Launch) (e : Env) (R : Room) (s : State) (m : MethodId) (args : Array Value) (below : List Frame) (meth : Method) (c : Code) (H : Heap) (locs : List Loc) (cells slots mc ms : Nat) (g : JFrame) (rest : List Value) (Qa : State → Outcome → State → Prop) (XC : String → State → State → Prop) (free : Addr → Prop) : Prop :=
  ∀ T : State, T.heap = H → Stand p l e R s m args below meth c T locs cells slots →
    (∃ (v : Option Value) (st₀ t T' : State) (L : List Loc), st₀.heap = H ∧ Stand p l e R s m args below meth c T' (locs ++ L) (cells + mc) (slots + ms) ∧ (∀ q ∈ L, free q.base) ∧ T'.heap = t.heap ∧ T'.vm = t.vm ∧ Qa st₀ (.returned v) t ∧
      Goes p e below T g T' { g with pc := g.pc + 3, stack := v.toList ++ rest }) ∨
    (∃ (q : Addr) (st₀ t T' : State) (L : List Loc) (E : String) (ce : Cell), st₀.heap = H ∧ Stand p l e R s m args below meth c T' (locs ++ L) (cells + mc) (slots + ms) ∧ (∀ z ∈ L, free z.base) ∧ T'.heap = t.heap ∧ T'.vm = t.vm ∧ XC E st₀ t ∧ t.heap[q]? = some ce ∧ ce.vm = .none ∧ s.vm.findClass E = some ce.cls ∧
      Steps p.tables e below (T.setTop g) ((T'.setTop { g with stack := rest }).pushFrame (.throwing q)))
def vx_X {S : Type} (px : S → Prop) (B : String → S → State → Prop) (A : Nat → Prop) : String → State → State → Prop := fun E st t => ∃ u : S, px u ∧ B E u t ∧ va_F A st t
section Runs
variable {p : Program} {l : Launch} {e : Env} {R : Room} {s : State} {m : MethodId} {args : Array Value} {below : List Frame} {meth : Method} {c : Code} {H : Heap} {locs : List Loc} {cells slots : Nat}
variable {y : MethodName} {bytes cc : ByteArray} {maxL nL mc ms n index : Nat} {ret : Option FieldType} {ws : List Cond} {rm : Room} {Pc : Array Value → State → Prop} {Qc : Array Value → State → Outcome → State → Prop} {XC : String → State → State → Prop} {free : Addr → Prop} {Ts : List Cond} {own C : String} {b : Addr} {As rest : List Value} {g : JFrame}
theorem vx_callBack (cb : CallB R s args own index y bytes maxL ret ws rm mc ms n) (hM : vx_Met l y ws rm Pc Qc XC mc ms free) (hbl : FrameBlind Pc) : vx_Back l R p e below s args y 3 8 (PreOf R mc ms Pc) (PostOf Qc mc ms free) (vx_Post XC mc ms free) := by
  obtain ⟨hrc, hrs, hfr, hlo, hws, hcw, -, hini, -⟩ := cb
  exact vx_back (bytes := bytes) (maxL := maxL) (ret := ret) hM hbl hrc hrs hfr hlo hws hcw (fun a' U hW => word_at hW (Or.inl (by first | rfl | simp [Cond.onTables, Cond.keeps, Cond.steady])) hini)
theorem vx_runV (S : CallFix p m c cc nL s args Ts own) (hM : vx_Met l y ws rm Pc Qc XC mc ms free) (cw : CallW R s args own C index y bytes maxL ret ws rm mc ms n) (hp : PreV s H C b Pc As)
    (hg : g.method = m) (hn : As.length = n) (hsize : g.locals.size = nL) (hstack : g.stack = As.reverse ++ .ref b :: rest) (hW : 2 * g.monitorRoom + (rest.map fun v => v.category).sum ≤ 8) (hdg : decode cc g.pc = .ok (.invokevirtual index, 3)) (hf : cells + mc ≤ R.cells ∧ slots + ms ≤ R.slots) :
    vx_Run p l e R s m args below meth c H locs cells slots mc ms g rest (Qc (Value.ref b :: As).toArray) XC free := by
  have hK : vx_Back l R p e below s args y 3 8 (PreOf R mc ms Pc) (PostOf Qc mc ms free) (vx_Post XC mc ms free) := vx_callBack cw.1 hM hp.1
  obtain ⟨⟨-, -, -, -, -, -, hcode, -, hy, hlen, hl⟩, hin, hse⟩ := cw
  obtain ⟨hx, hb, hml, ho, -⟩ := S
  obtain ⟨-, ⟨cellB, hcB, hoB, hclB⟩, hPc⟩ := hp
  intro T hT X
  rcases vx_callV X hx (C := C) (bytes := bytes) (maxL := maxL) (ret := ret) ho hl hin hse hcode hy hK (by rw [hT]; exact hcB) hoB hclB hg (hsize.trans hml.symm) (argsL := As) (rest := rest) (fun sig h => hn.trans (hlen sig h)) hstack hW (by rw [hb]; exact hdg)
    (fun vm₁ hW₁ => ⟨hf.1, hf.2, hPc (T.setVm vm₁) hT hW₁⟩) with ⟨v, vm₁, ⟨U', l2, c2, s2⟩, hW₁, X', ⟨g', mk, t, L, e1, e2, hq, h1, hL, h2, h3⟩, st⟩ | ⟨q, vm₁, ⟨U', l2, c2, s2⟩, hW₁, X', ⟨g', mk, t, L, E, ce, e1, e2, hq, hce, hcv, hcl, h1, hL, h2, h3⟩, st⟩
  · dsimp only [Pt.U, Pt.locs, Pt.cells, Pt.slots] at X' e1 e2 h1 h2 h3 st
    subst h1; subst h2; subst h3
    exact Or.inl ⟨v, (T.setVm vm₁).calling g' mk (Value.ref b :: As).toArray, t, U', L, hT, X', hL, e1, e2, hq, st⟩
  · dsimp only [Pt.U, Pt.locs, Pt.cells, Pt.slots] at X' e1 e2 h1 h2 h3 st hcl
    subst h1; subst h2; subst h3
    exact Or.inr ⟨q, (T.setVm vm₁).calling g' mk (Value.ref b :: As).toArray, t, U', L, E, ce, hT, X', hL, e1, e2, hq, hce, hcv, vx_cls hW₁ hcl, st⟩
theorem vx_runS (S : CallFix p m c cc nL s args Ts own) (hM : vx_Met l y ws rm Pc Qc XC mc ms free) (cw : CallB R s args own index y bytes maxL ret ws rm mc ms n ∧ (Cond.static y).before args s = true) (hp : PreS s H Pc As)
    (hg : g.method = m) (hn : As.length = n) (hsize : g.locals.size = nL) (hstack : g.stack = As.reverse ++ rest) (hW : 2 * g.monitorRoom + (rest.map fun v => v.category).sum ≤ 8) (hdg : decode cc g.pc = .ok (.invokestatic index, 3)) (hf : cells + mc ≤ R.cells ∧ slots + ms ≤ R.slots) :
    vx_Run p l e R s m args below meth c H locs cells slots mc ms g rest (Qc As.toArray) XC free := by
  have hK : vx_Back l R p e below s args y 3 8 (PreOf R mc ms Pc) (PostOf Qc mc ms free) (vx_Post XC mc ms free) := vx_callBack cw.1 hM hp.1
  obtain ⟨⟨-, -, -, -, -, -, hcode, hini, hy, hlen, hl⟩, hstt⟩ := cw
  obtain ⟨hx, hb, hml, ho, -⟩ := S
  intro T hT X
  rcases vx_callS X hx (bytes := bytes) (maxL := maxL) (ret := ret) ho hl hstt hini hcode hy hK hg (hsize.trans hml.symm) (argsL := As) (rest := rest) (fun sig h => hn.trans (hlen sig h)) hstack hW (by rw [hb]; exact hdg)
    (fun vm₁ hW₁ => ⟨hf.1, hf.2, hp.2 (T.setVm vm₁) hT hW₁⟩) with ⟨v, vm₁, ⟨U', l2, c2, s2⟩, hW₁, X', ⟨g', mk, t, L, e1, e2, hq, h1, hL, h2, h3⟩, st⟩ | ⟨q, vm₁, ⟨U', l2, c2, s2⟩, hW₁, X', ⟨g', mk, t, L, E, ce, e1, e2, hq, hce, hcv, hcl, h1, hL, h2, h3⟩, st⟩
  · dsimp only [Pt.U, Pt.locs, Pt.cells, Pt.slots] at X' e1 e2 h1 h2 h3 st
    subst h1; subst h2; subst h3
    exact Or.inl ⟨v, (T.setVm vm₁).calling g' mk As.toArray, t, U', L, hT, X', hL, e1, e2, hq, st⟩
  · dsimp only [Pt.U, Pt.locs, Pt.cells, Pt.slots] at X' e1 e2 h1 h2 h3 st hcl
    subst h1; subst h2; subst h3
    exact Or.inr ⟨q, (T.setVm vm₁).calling g' mk As.toArray, t, U', L, E, ce, hT, X', hL, e1, e2, hq, hce, hcv, vx_cls hW₁ hcl, st⟩
end Runs
section Rows
variable {p : Program} {l : Launch} {e : Env} {R : Room} {s : State} {m : MethodId} {args : Array Value} {below : List Frame} {meth : Method} {c : Code} {H : Heap} {locs : List Loc} {cells slots : Nat} {Q : State → Prop}
variable {mc ms : Nat} {free : Addr → Prop} {A0 A1 : Nat → Prop} {H0 : Heap} {a : Array Value} {pc : Nat} {ls : Array Slot} {st0 rest : List Value}
theorem vx_keep {st₀ t T' : State} {L : List Loc} (h0 : st₀.heap = H) (e1 : T'.heap = t.heap) (hS : va_S A0 H0 H locs) (hA : ∀ q, q < H.size → A1 q → A0 q) (hf : ∀ q, free q → A0 q) (hL : ∀ q ∈ L, free q.base) (hF : va_F A1 st₀ t) :
    H.size ≤ T'.heap.size ∧ (∀ q : Nat, q < H.size → ¬ A1 q → T'.heap[q]? = H[q]?) ∧ va_S A0 H0 T'.heap (locs ++ L) := by
  obtain ⟨hz, hk⟩ := hF
  rw [h0] at hz hk
  exact ⟨by rw [e1]; exact hz, fun q h1 h2 => by rw [e1]; exact hk q h1 h2,
    ⟨Nat.le_trans hS.1 (by rw [e1]; exact hz), fun q h1 h2 => by rw [e1, hk q (Nat.lt_of_lt_of_le h1 hS.1) (fun z => h2 (hA q (Nat.lt_of_lt_of_le h1 hS.1) z))]; exact hS.2.1 q h1 h2, fun q hq => by
      rcases List.mem_append.mp hq with h | h
      · exact hS.2.2 q h
      · exact hf _ (hL q h)⟩⟩
theorem vx_calli {S SX : Type} {post : Int32 → S → Prop} {px : SX → Prop} {B : S → State → Prop} {BX : String → SX → State → Prop} {AX : Nat → Prop} (hr : vx_Run p l e R s m args below meth c H locs cells slots mc ms (F0 m pc ls st0) rest (va_Qi post B A1 a) (vx_X px BX AX) free) (hS : va_S A0 H0 H locs) (hA : ∀ q, q < H.size → A1 q → A0 q) (hf : ∀ q, free q → A0 q) (hAX : ∀ q, q < H.size → AX q → A0 q)
    (kx : ∀ (E : String) (ce : Cell) (q9 : Addr) (u : SX) (t : State) (H1 : Heap) (locs1 : List Loc), t.heap = H1 → s.vm.Alike t.vm → px u → BX E u t → H.size ≤ H1.size → (∀ q : Nat, q < H.size → ¬ AX q → H1[q]? = H[q]?) → va_S A0 H0 H1 locs1 → H1[q9]? = some ce → ce.vm = .none → s.vm.findClass E = some ce.cls → vx_W p l e R s m args below meth c H1 locs1 (cells + mc) (slots + ms) Q (F0 m pc ls rest) q9)
    (kk : ∀ (r : Int32) (u : S) (t : State) (H1 : Heap) (locs1 : List Loc), t.heap = H1 → s.vm.Alike t.vm → post r u → B u t → H.size ≤ H1.size → (∀ q : Nat, q < H.size → ¬ A1 q → H1[q]? = H[q]?) → va_S A0 H0 H1 locs1 → W p l e R s m args below meth c H1 locs1 (cells + mc) (slots + ms) Q (F0 m (pc + 3) ls (.int r :: rest))) : W p l e R s m args below meth c H locs cells slots Q (F0 m pc ls st0) := by
  intro T hT X
  rcases hr T hT X with ⟨v, st₀, t, T', L, h0, X', hL, e1, e2, ⟨⟨r, u, hv, hp, hb⟩, hF⟩, st⟩ | ⟨q, st₀, t, T', L, E, ce, h0, X', hL, e1, e2, ⟨u, hp, hb, hF⟩, hce, hcv, hcl, st⟩
  · cases hv
    obtain ⟨k1, k2, k3⟩ := vx_keep h0 e1 hS hA hf hL hF
    obtain ⟨t2, a1, b1⟩ := kk r u t T'.heap (locs ++ L) e1.symm (by rw [← e2]; exact X'.warmed.alike) hp hb k1 k2 k3 T' rfl X'
    exact ⟨t2, st t2 a1, b1⟩
  · obtain ⟨k1, k2, k3⟩ := vx_keep h0 e1 hS hAX hf hL hF
    obtain ⟨t2, a1, b1⟩ := kx E ce q u t T'.heap (locs ++ L) e1.symm (by rw [← e2]; exact X'.warmed.alike) hp hb k1 k2 k3 (by rw [e1]; exact hce) hcv hcl T' rfl X'
    exact ⟨t2, st.trans a1, b1⟩
theorem vx_calll {S SX : Type} {post : Int64 → S → Prop} {px : SX → Prop} {B : S → State → Prop} {BX : String → SX → State → Prop} {AX : Nat → Prop} (hr : vx_Run p l e R s m args below meth c H locs cells slots mc ms (F0 m pc ls st0) rest (va_Ql post B A1 a) (vx_X px BX AX) free) (hS : va_S A0 H0 H locs) (hA : ∀ q, q < H.size → A1 q → A0 q) (hf : ∀ q, free q → A0 q) (hAX : ∀ q, q < H.size → AX q → A0 q)
    (kx : ∀ (E : String) (ce : Cell) (q9 : Addr) (u : SX) (t : State) (H1 : Heap) (locs1 : List Loc), t.heap = H1 → s.vm.Alike t.vm → px u → BX E u t → H.size ≤ H1.size → (∀ q : Nat, q < H.size → ¬ AX q → H1[q]? = H[q]?) → va_S A0 H0 H1 locs1 → H1[q9]? = some ce → ce.vm = .none → s.vm.findClass E = some ce.cls → vx_W p l e R s m args below meth c H1 locs1 (cells + mc) (slots + ms) Q (F0 m pc ls rest) q9)
    (kk : ∀ (r : Int64) (u : S) (t : State) (H1 : Heap) (locs1 : List Loc), t.heap = H1 → s.vm.Alike t.vm → post r u → B u t → H.size ≤ H1.size → (∀ q : Nat, q < H.size → ¬ A1 q → H1[q]? = H[q]?) → va_S A0 H0 H1 locs1 → W p l e R s m args below meth c H1 locs1 (cells + mc) (slots + ms) Q (F0 m (pc + 3) ls (.long r :: rest))) : W p l e R s m args below meth c H locs cells slots Q (F0 m pc ls st0) := by
  intro T hT X
  rcases hr T hT X with ⟨v, st₀, t, T', L, h0, X', hL, e1, e2, ⟨⟨r, u, hv, hp, hb⟩, hF⟩, st⟩ | ⟨q, st₀, t, T', L, E, ce, h0, X', hL, e1, e2, ⟨u, hp, hb, hF⟩, hce, hcv, hcl, st⟩
  · cases hv
    obtain ⟨k1, k2, k3⟩ := vx_keep h0 e1 hS hA hf hL hF
    obtain ⟨t2, a1, b1⟩ := kk r u t T'.heap (locs ++ L) e1.symm (by rw [← e2]; exact X'.warmed.alike) hp hb k1 k2 k3 T' rfl X'
    exact ⟨t2, st t2 a1, b1⟩
  · obtain ⟨k1, k2, k3⟩ := vx_keep h0 e1 hS hAX hf hL hF
    obtain ⟨t2, a1, b1⟩ := kx E ce q u t T'.heap (locs ++ L) e1.symm (by rw [← e2]; exact X'.warmed.alike) hp hb k1 k2 k3 (by rw [e1]; exact hce) hcv hcl T' rfl X'
    exact ⟨t2, st.trans a1, b1⟩
theorem vx_callf {S SX : Type} {post : UInt32 → S → Prop} {px : SX → Prop} {B : S → State → Prop} {BX : String → SX → State → Prop} {AX : Nat → Prop} (hr : vx_Run p l e R s m args below meth c H locs cells slots mc ms (F0 m pc ls st0) rest (va_Qf post B A1 a) (vx_X px BX AX) free) (hS : va_S A0 H0 H locs) (hA : ∀ q, q < H.size → A1 q → A0 q) (hf : ∀ q, free q → A0 q) (hAX : ∀ q, q < H.size → AX q → A0 q)
    (kx : ∀ (E : String) (ce : Cell) (q9 : Addr) (u : SX) (t : State) (H1 : Heap) (locs1 : List Loc), t.heap = H1 → s.vm.Alike t.vm → px u → BX E u t → H.size ≤ H1.size → (∀ q : Nat, q < H.size → ¬ AX q → H1[q]? = H[q]?) → va_S A0 H0 H1 locs1 → H1[q9]? = some ce → ce.vm = .none → s.vm.findClass E = some ce.cls → vx_W p l e R s m args below meth c H1 locs1 (cells + mc) (slots + ms) Q (F0 m pc ls rest) q9)
    (kk : ∀ (r : UInt32) (u : S) (t : State) (H1 : Heap) (locs1 : List Loc), t.heap = H1 → s.vm.Alike t.vm → post r u → B u t → H.size ≤ H1.size → (∀ q : Nat, q < H.size → ¬ A1 q → H1[q]? = H[q]?) → va_S A0 H0 H1 locs1 → W p l e R s m args below meth c H1 locs1 (cells + mc) (slots + ms) Q (F0 m (pc + 3) ls (.float r :: rest))) : W p l e R s m args below meth c H locs cells slots Q (F0 m pc ls st0) := by
  intro T hT X
  rcases hr T hT X with ⟨v, st₀, t, T', L, h0, X', hL, e1, e2, ⟨⟨r, u, hv, hp, hb⟩, hF⟩, st⟩ | ⟨q, st₀, t, T', L, E, ce, h0, X', hL, e1, e2, ⟨u, hp, hb, hF⟩, hce, hcv, hcl, st⟩
  · cases hv
    obtain ⟨k1, k2, k3⟩ := vx_keep h0 e1 hS hA hf hL hF
    obtain ⟨t2, a1, b1⟩ := kk r u t T'.heap (locs ++ L) e1.symm (by rw [← e2]; exact X'.warmed.alike) hp hb k1 k2 k3 T' rfl X'
    exact ⟨t2, st t2 a1, b1⟩
  · obtain ⟨k1, k2, k3⟩ := vx_keep h0 e1 hS hAX hf hL hF
    obtain ⟨t2, a1, b1⟩ := kx E ce q u t T'.heap (locs ++ L) e1.symm (by rw [← e2]; exact X'.warmed.alike) hp hb k1 k2 k3 (by rw [e1]; exact hce) hcv hcl T' rfl X'
    exact ⟨t2, st.trans a1, b1⟩
theorem vx_calld {S SX : Type} {post : UInt64 → S → Prop} {px : SX → Prop} {B : S → State → Prop} {BX : String → SX → State → Prop} {AX : Nat → Prop} (hr : vx_Run p l e R s m args below meth c H locs cells slots mc ms (F0 m pc ls st0) rest (va_Qd post B A1 a) (vx_X px BX AX) free) (hS : va_S A0 H0 H locs) (hA : ∀ q, q < H.size → A1 q → A0 q) (hf : ∀ q, free q → A0 q) (hAX : ∀ q, q < H.size → AX q → A0 q)
    (kx : ∀ (E : String) (ce : Cell) (q9 : Addr) (u : SX) (t : State) (H1 : Heap) (locs1 : List Loc), t.heap = H1 → s.vm.Alike t.vm → px u → BX E u t → H.size ≤ H1.size → (∀ q : Nat, q < H.size → ¬ AX q → H1[q]? = H[q]?) → va_S A0 H0 H1 locs1 → H1[q9]? = some ce → ce.vm = .none → s.vm.findClass E = some ce.cls → vx_W p l e R s m args below meth c H1 locs1 (cells + mc) (slots + ms) Q (F0 m pc ls rest) q9)
    (kk : ∀ (r : UInt64) (u : S) (t : State) (H1 : Heap) (locs1 : List Loc), t.heap = H1 → s.vm.Alike t.vm → post r u → B u t → H.size ≤ H1.size → (∀ q : Nat, q < H.size → ¬ A1 q → H1[q]? = H[q]?) → va_S A0 H0 H1 locs1 → W p l e R s m args below meth c H1 locs1 (cells + mc) (slots + ms) Q (F0 m (pc + 3) ls (.double r :: rest))) : W p l e R s m args below meth c H locs cells slots Q (F0 m pc ls st0) := by
  intro T hT X
  rcases hr T hT X with ⟨v, st₀, t, T', L, h0, X', hL, e1, e2, ⟨⟨r, u, hv, hp, hb⟩, hF⟩, st⟩ | ⟨q, st₀, t, T', L, E, ce, h0, X', hL, e1, e2, ⟨u, hp, hb, hF⟩, hce, hcv, hcl, st⟩
  · cases hv
    obtain ⟨k1, k2, k3⟩ := vx_keep h0 e1 hS hA hf hL hF
    obtain ⟨t2, a1, b1⟩ := kk r u t T'.heap (locs ++ L) e1.symm (by rw [← e2]; exact X'.warmed.alike) hp hb k1 k2 k3 T' rfl X'
    exact ⟨t2, st t2 a1, b1⟩
  · obtain ⟨k1, k2, k3⟩ := vx_keep h0 e1 hS hAX hf hL hF
    obtain ⟨t2, a1, b1⟩ := kx E ce q u t T'.heap (locs ++ L) e1.symm (by rw [← e2]; exact X'.warmed.alike) hp hb k1 k2 k3 (by rw [e1]; exact hce) hcv hcl T' rfl X'
    exact ⟨t2, st.trans a1, b1⟩
theorem vx_callv {S SX : Type} {post : S → Prop} {px : SX → Prop} {B : S → State → Prop} {BX : String → SX → State → Prop} {AX : Nat → Prop} (hr : vx_Run p l e R s m args below meth c H locs cells slots mc ms (F0 m pc ls st0) rest (va_Qv post B A1 a) (vx_X px BX AX) free) (hS : va_S A0 H0 H locs) (hA : ∀ q, q < H.size → A1 q → A0 q) (hf : ∀ q, free q → A0 q) (hAX : ∀ q, q < H.size → AX q → A0 q)
    (kx : ∀ (E : String) (ce : Cell) (q9 : Addr) (u : SX) (t : State) (H1 : Heap) (locs1 : List Loc), t.heap = H1 → s.vm.Alike t.vm → px u → BX E u t → H.size ≤ H1.size → (∀ q : Nat, q < H.size → ¬ AX q → H1[q]? = H[q]?) → va_S A0 H0 H1 locs1 → H1[q9]? = some ce → ce.vm = .none → s.vm.findClass E = some ce.cls → vx_W p l e R s m args below meth c H1 locs1 (cells + mc) (slots + ms) Q (F0 m pc ls rest) q9)
    (kk : ∀ (u : S) (t : State) (H1 : Heap) (locs1 : List Loc), t.heap = H1 → s.vm.Alike t.vm → post u → B u t → H.size ≤ H1.size → (∀ q : Nat, q < H.size → ¬ A1 q → H1[q]? = H[q]?) → va_S A0 H0 H1 locs1 → W p l e R s m args below meth c H1 locs1 (cells + mc) (slots + ms) Q (F0 m (pc + 3) ls (rest))) : W p l e R s m args below meth c H locs cells slots Q (F0 m pc ls st0) := by
  intro T hT X
  rcases hr T hT X with ⟨v, st₀, t, T', L, h0, X', hL, e1, e2, ⟨⟨u, hv, hp, hb⟩, hF⟩, st⟩ | ⟨q, st₀, t, T', L, E, ce, h0, X', hL, e1, e2, ⟨u, hp, hb, hF⟩, hce, hcv, hcl, st⟩
  · cases hv
    obtain ⟨k1, k2, k3⟩ := vx_keep h0 e1 hS hA hf hL hF
    obtain ⟨t2, a1, b1⟩ := kk u t T'.heap (locs ++ L) e1.symm (by rw [← e2]; exact X'.warmed.alike) hp hb k1 k2 k3 T' rfl X'
    exact ⟨t2, st t2 a1, b1⟩
  · obtain ⟨k1, k2, k3⟩ := vx_keep h0 e1 hS hAX hf hL hF
    obtain ⟨t2, a1, b1⟩ := kx E ce q u t T'.heap (locs ++ L) e1.symm (by rw [← e2]; exact X'.warmed.alike) hp hb k1 k2 k3 (by rw [e1]; exact hce) hcv hcl T' rfl X'
    exact ⟨t2, st.trans a1, b1⟩
/-- caught by the row x of this method's table; the rows ahead don't take it -/
theorem vx_catch {own name : String} {E : String} {ce : Cell} {q : Addr} (hown : s.vm.findClass own = some m.cls) (pre : List ExceptionTableEntry) (x : ExceptionTableEntry) (suf : List ExceptionTableEntry) (hsplit : c.exceptionTable.toList = pre ++ x :: suf)
    (hpass : ∀ z ∈ pre, covers z pc = false ∨ (z.catchType ≠ 0 ∧ ∃ nm : String, (Cond.classLink own z.catchType nm).before args s = true ∧ va_Nc E nm s)) (hx : covers x pc = true) (h0 : x.catchType ≠ 0)
    (hlink : (Cond.classLink own x.catchType name).before args s = true) (hcast : (Cond.castable E name).before args s = true) (hcell : H[q]? = some ce) (hv : ce.vm = .none) (hcl : s.vm.findClass E = some ce.cls)
    (kk : W p l e R s m args below meth c H locs cells slots Q (F0 m x.handlerPc ls [.ref q])) : vx_W p l e R s m args below meth c H locs cells slots Q (F0 m pc ls rest) q := by
  intro T hT X
  have hpl : e.platform.magicAccessors = ({} : Platform).magicAccessors := by rw [X.admits.platform]
  obtain ⟨c3, c4, hc3, hc4, hasg⟩ := Cond.castable_spec hcast
  cases Option.some.inj (hc3.symm.trans hcl)
  obtain ⟨c5, hc5, hcl5⟩ := Cond.classLink_spec hown hlink e.platform hpl
  cases Option.some.inj (hc4.symm.trans hc5)
  obtain ⟨vm', X', st⟩ := X.thenCaughtThrough q (g := F0 m pc ls rest) rfl (Steps.refl _) (by rw [hT]; exact hcell) (by rw [hv]; rfl) (by obtain ⟨k9, h9, -⟩ := Vm.findClass_spec hcl; exact ⟨k9, h9⟩) pre x suf hsplit
    (fun z hz => by
      rcases hpass z hz with h | ⟨hz0, nm, hl1, hn1⟩
      · exact Or.inl h
      · obtain ⟨c6, hc6, hcl6⟩ := Cond.classLink_spec hown hl1 e.platform hpl
        obtain ⟨a8, b8, h1, h2, h3⟩ := hn1
        cases Option.some.inj (h1.symm.trans hcl)
        cases Option.some.inj (h2.symm.trans hc6)
        exact Or.inr ⟨hz0, _, hcl6, h3⟩) hx (Or.inr ⟨h0, c4, hcl5, hasg⟩)
  obtain ⟨t, a1, b1⟩ := kk (T.setVm vm') hT X'
  exact ⟨t, st.trans a1, b1⟩
end Rows
section Ends
variable {p : Program} {l : Launch} {e : Env} {R : Room} {s : State} {m : MethodId} {args : Array Value} {below : List Frame} {meth : Method} {c : Code} {H : Heap} {locs : List Loc} {cells slots : Nat} {Q : State → Prop}
variable {mc ms : Nat} {free : Addr → Prop} {A0 A1 : Nat → Prop} {H0 : Heap} {a : Array Value} {ls : Array Slot} {st0 rest : List Value}
variable {Qc : Array Value → State → Outcome → State → Prop} {XC : String → State → State → Prop}
/-- what a body that may throw owes at its end -/
def vx_MQ (below : List Frame) (Qc : Array Value → State → Outcome → State → Prop) (XC : String → State → State → Prop) (a : Array Value) (s : State) (mc ms : Nat) (free : Addr → Prop) : State → Prop := fun t =>
  ∃ o, t.status = .running ∧ Ended t below o ∧ vx_Q Qc XC mc ms free a s o t
theorem vx_ret {g : JFrame} {mc ms : Nat} (k : W p l e R s m args below meth c H locs cells slots (MQ below Qc args s mc ms free) g) : W p l e R s m args below meth c H locs cells slots (vx_MQ below Qc XC args s mc ms free) g := by
  intro T hT X
  obtain ⟨t, a1, o, b1, b2, b3, b4⟩ := k T hT X
  exact ⟨t, a1, o, b1, b2, Or.inl ⟨b3, b4⟩⟩
/-- not caught here: it goes on to the caller -/
theorem vx_widen {g : JFrame} {q : Addr} {k n : Nat} (h1 : cells ≤ k) (h2 : slots ≤ n) (kk : vx_W p l e R s m args below meth c H locs k n Q g q) : vx_W p l e R s m args below meth c H locs cells slots Q g q := fun T hT X => kk T hT (stand_widen X h1 h2)
theorem vx_out {pc : Nat} {E : String} {ce : Cell} {q : Addr} {mc ms : Nat} (hout : ∀ x ∈ c.exceptionTable.toList, covers x pc = false) (hlocks : meth.locks = false) (hcell : H[q]? = some ce) (hv : ce.vm = .none) (hcl : s.vm.findClass E = some ce.cls)
    (hx : ∀ t : State, t.heap = H → s.vm.Alike t.vm → XC E s t) (hf : ∀ z ∈ locs, free z.base) (hc : cells ≤ mc) (hs : slots ≤ ms) :
    vx_W p l e R s m args below meth c H locs cells slots (vx_MQ below Qc XC args s mc ms free) (F0 m pc ls rest) q := by
  intro T hT X
  obtain ⟨st1, hrun, hend, hW, hsm⟩ := X.leaveThrown q (g := F0 m pc ls rest) rfl rfl rfl hout hlocks
  have hcell9 : (T.setFrames (.throwing q :: below)).heap[q]? = some ce := by
    show T.heap[q]? = some ce
    rw [hT]; exact hcell
  exact ⟨_, st1, .threw q, hrun, hend, Or.inr ⟨q, rfl, E, ce, locs, hx _ hT hW.alike, hcell9, hv, hcl, hW, hsm.mono hc hs, hf⟩⟩
theorem vx_frame {U : State} {k n : Nat} (h : s.sameButNew ({ U with vm := s.vm } : State) locs k n) : s.heap.size ≤ U.heap.size ∧ ∀ q : Nat, q < s.heap.size → (∀ z ∈ locs, z.base ≠ q) → U.heap[q]? = s.heap[q]? := by
  obtain ⟨-, h2, -, -, -, h6⟩ := h
  refine ⟨h2, fun q hq hz => ?_⟩
  obtain ⟨c9, e1, e2, e3, e4⟩ := h6 q _ (Array.getElem?_eq_getElem hq)
  have hs : c9.slots = (s.heap[q]).slots := Array.ext_getElem? fun i => e4 i fun hm => hz _ hm rfl
  have h9 : c9 = s.heap[q] := by
    rw [hs] at e2
    exact e2
  have e5 : U.heap[q]? = some c9 := e1
  rw [e5, h9, Array.getElem?_eq_getElem hq]
/-- the words of a throw but the four that speak of the heap -/
def vx_no (w : Cond) : Bool := decide (w ≠ .isRef (.static Bundle.tN "UNASSIGNED_STACK" Bundle.steD)) && decide (w ≠ .isRef (.static Bundle.tN "SUPPRESSED_SENTINEL" Bundle.listD)) && decide (w ≠ .laysStatic Bundle.tN "UNASSIGNED_STACK" Bundle.steD) && decide (w ≠ .laysStatic Bundle.tN "SUPPRESSED_SENTINEL" Bundle.listD)
def vx_at0 (own : String) (ic : Nat) (X : String) (names : List String) : List Cond := (Bundle.ownAtoms0 own ic X names).filter vx_no
def vx_atS (own : String) (ic : Nat) (X : String) (names : List String) : List Cond := (Bundle.ownAtoms own ic X names).filter vx_no
/-- a word that the tables alone decide, or a good one -/
def vx_ot (w : Cond) : Bool := w.onTables || goodWord w
theorem vx_ot_at {args a' : Array Value} {s U : State} {w : Cond} (hW : s.WarmedH U.vm) (hvm : s.vm = U.vm) (hg : vx_ot w = true) (h : w.before args s = true) : w.before a' U = true := by
  simp only [vx_ot, Bool.or_eq_true] at hg
  rcases hg with hg | hg
  · exact va_tabs hg hvm h
  · exact word_at hW (good_of_word hg) h
/-- a list's words: the good ones out of the method's own list, the others by premises of their own -/
theorem vx_hat {args : Array Value} {s : State} {L B : List Cond} (h1 : ∀ w ∈ L.filter goodWord, w.before args s = true) (h2 : ∀ w ∈ L.filter (fun w => !goodWord w), w ∈ B) (h3 : ∀ w ∈ B, w.before args s = true) : ∀ w ∈ L, w.before args s = true := by
  intro w hw
  by_cases g : goodWord w = true
  · exact h1 w (List.mem_filter.mpr ⟨hw, g⟩)
  · refine h3 w (h2 w (List.mem_filter.mpr ⟨hw, ?_⟩))
    show (!goodWord w) = true
    cases hgw : goodWord w
    · rfl
    · exact absurd hgw g
theorem vx_c {args : Array Value} {s : State} {w : Cond} {B : List Cond} (h : w.before args s = true) (t : ∀ w ∈ B, w.before args s = true) : ∀ w' ∈ w :: B, w'.before args s = true := fun w' h' => (List.mem_cons.mp h').elim (fun e => by rw [e]; exact h) (t w')
theorem vx_n {args : Array Value} {s : State} : ∀ w ∈ ([] : List Cond), w.before args s = true := fun _ h => nomatch h
theorem vx_own {args : Array Value} {s : State} {L : List Cond} (h1 : ∀ w ∈ L.filter vx_no, w.before args s = true)
    (hU : (Cond.isRef (.static Bundle.tN "UNASSIGNED_STACK" Bundle.steD)).before args s = true) (hN : (Cond.isRef (.static Bundle.tN "SUPPRESSED_SENTINEL" Bundle.listD)).before args s = true)
    (lU : (Cond.laysStatic Bundle.tN "UNASSIGNED_STACK" Bundle.steD).before args s = true) (lN : (Cond.laysStatic Bundle.tN "SUPPRESSED_SENTINEL" Bundle.listD).before args s = true) : ∀ w ∈ L, w.before args s = true := by
  intro w hw
  by_cases e1 : w = .isRef (.static Bundle.tN "UNASSIGNED_STACK" Bundle.steD)
  · rw [e1]; exact hU
  · by_cases e2 : w = .isRef (.static Bundle.tN "SUPPRESSED_SENTINEL" Bundle.listD)
    · rw [e2]; exact hN
    · by_cases e3 : w = .laysStatic Bundle.tN "UNASSIGNED_STACK" Bundle.steD
      · rw [e3]; exact lU
      · by_cases e4 : w = .laysStatic Bundle.tN "SUPPRESSED_SENTINEL" Bundle.listD
        · rw [e4]; exact lN
        · exact h1 w (List.mem_filter.mpr ⟨hw, by unfold vx_no; rw [decide_eq_true e1, decide_eq_true e2, decide_eq_true e3, decide_eq_true e4]; rfl⟩)
/-- where a static field lies, its class's statics cell in H -/
def vx_L (C n d : String) (A : Nat → Prop) (U : State) (H : Heap) : Prop := ∃ (c : ClassId) (k : Class) (i : Nat) (f : Field) (a : Nat) (cell : Cell), U.vm.findClass C = some c ∧ U.fieldFound? C n d = some (c, k, i, f) ∧ f.isStatic = true ∧ k.statics = some a ∧ H[a]? = some cell ∧ cell.vm.isStatics = true ∧ cell.cls = c ∧ f.slot < cell.slots.size ∧ k.staticTypes[f.slot]? = some f.type ∧ ¬ A a
theorem vx_L.moved {C n d : String} {A : Nat → Prop} {u U : State} {H : Heap} (hvm : u.vm.Alike U.vm) (h : vx_L C n d A u H) : vx_L C n d A U H := by
  obtain ⟨c, k, i, f, a, cell, h1, h2, h3, h4, h5, h6, h7, h8, h9, h10⟩ := h
  obtain ⟨k', hi', he⟩ := State.fieldFound?_setVm hvm h2
  exact ⟨c, k', i, f, a, cell, by rw [hvm.findClass]; exact h1, hi', h3, by rw [he]; exact h4, h5, h6, h7, h8, by rw [he]; exact h9, h10⟩
theorem vx_L.kept {C n d : String} {A : Nat → Prop} {U : State} {H H1 : Heap} (h : vx_L C n d A U H) (hq : ∀ a : Nat, a < H.size → ¬ A a → H1[a]? = H[a]?) : vx_L C n d A U H1 := by
  obtain ⟨c, k, i, f, a, cell, h1, h2, h3, h4, h5, h6, h7, h8, h9, h10⟩ := h
  exact ⟨c, k, i, f, a, cell, h1, h2, h3, h4, by rw [hq a (Array.getElem?_eq_some_iff.mp h5).1 h10]; exact h5, h6, h7, h8, h9, h10⟩
theorem vx_L.narrow {C n d : String} {A B : Nat → Prop} {U : State} {H : Heap} (h : vx_L C n d A U H) (hAB : ∀ q, B q → A q) : vx_L C n d B U H := by
  obtain ⟨c, k, i, f, a, cell, h1, h2, h3, h4, h5, h6, h7, h8, h9, h10⟩ := h
  exact ⟨c, k, i, f, a, cell, h1, h2, h3, h4, h5, h6, h7, h8, h9, fun z => h10 (hAB _ z)⟩
theorem vx_L.word {C n d : String} {A : Nat → Prop} {s : State} {args : Array Value} (h : vx_L C n d A s s.heap) : (Cond.laysStatic C n d).before args s = true := by
  obtain ⟨c, k, i, f, a, cell, h1, h2, h3, h4, h5, h6, h7, h8, h9, -⟩ := h
  show (Cond.laysStatic C n d).holds args s none s [] = true
  exact Cond.laysStatic_of h1 h2 h3 h4 h5 h6 h7 h8 h9
/-- .. and what it holds: null or some reference -/
def vx_Zq (C n d : String) (A : Nat → Prop) (U : State) (H : Heap) : Prop := va_Zq C n d A U H ∧ vx_L C n d A U H
theorem vx_Zq.moved {C n d : String} {A : Nat → Prop} {u U : State} {H : Heap} (hvm : u.vm.Alike U.vm) (h : vx_Zq C n d A u H) : vx_Zq C n d A U H := ⟨va_Zq.moved hvm h.1, vx_L.moved hvm h.2⟩
theorem vx_Zq.kept {C n d : String} {A : Nat → Prop} {U : State} {H H1 : Heap} (h : vx_Zq C n d A U H) (hq : ∀ a : Nat, a < H.size → ¬ A a → H1[a]? = H[a]?) : vx_Zq C n d A U H1 := ⟨va_Zq.kept h.1 hq, vx_L.kept h.2 hq⟩
theorem vx_Zq.narrow {C n d : String} {A B : Nat → Prop} {U : State} {H : Heap} (h : vx_Zq C n d A U H) (hAB : ∀ q, B q → A q) : vx_Zq C n d B U H := ⟨va_Zq.narrow h.1 hAB, vx_L.narrow h.2 hAB⟩
theorem vx_Zqof {args : Array Value} {s : State} {C n d : String} {A : Nat → Prop} (hl : (Cond.laysStatic C n d).before args s = true) (hini : (Cond.initialized C).before args s = true) (h : (Cond.isRef (.static C n d)).before args s = true) (hA : ∀ a : Nat, a < s.heap.size → ¬ A a) : vx_Zq C n d A s s.heap := by
  refine ⟨va_Zqof hl hini h hA, ?_⟩
  obtain ⟨c, k, i, f, a, cell, h1, h2, h3, h4, h5, h6, h7, h8, h9⟩ := Cond.laysStatic_spec hl
  exact ⟨c, k, i, f, a, cell, h1, h2, h3, h4, h5, h6, h7, h8, h9, hA a (Array.getElem?_eq_some_iff.mp h5).1⟩
theorem vx_isRef {C n d : String} {v : Value} {A : Nat → Prop} {s : State} {args : Array Value} (h : va_Z C n d v A s s.heap) (hv : v.isRef = true) : (Cond.isRef (.static C n d)).before args s = true := by
  obtain ⟨cf, kf, fi, f, a, cell, h1, h2, h3, h4, h5, h6, h7, -⟩ := h
  have he : (Term.static C n d).eval args s none [] s = some v := by
    simp [Term.eval, State.fieldNamed?, h1, h2, h4, h5, h6, h7]
  simp only [Cond.before, Cond.holds, Cond.value, he]
  cases v <;> simp_all [Value.isRef]
theorem vx_isRefq {C n d : String} {A : Nat → Prop} {s : State} {args : Array Value} (h : va_Zq C n d A s s.heap) : (Cond.isRef (.static C n d)).before args s = true := by
  rcases h with h | ⟨t, h⟩
  · exact vx_isRef h rfl
  · exact vx_isRef h rfl
/-- the same frame, seen from here: as if the method were called anew in this heap -/
theorem vx_rebase {T : State} (X : Stand p l e R s m args below meth c T locs cells slots) {R' : Room} (hf : R'.frames ≤ R.frames) (hl : R'.locals ≤ R.locals) (hc : cells + R'.cells ≤ R.cells) (hs : slots + R'.slots ≤ R.slots) :
    Stand p l e R' ((T.setVm s.vm).setFrames (.invoking m args :: below)) m args below meth c T [] 0 0 := by
  have htop : (T.setVm s.vm).topJava?.isSome := X.here.top
  have hF : ((T.setVm s.vm).setFrames (.invoking m args :: below)).frames = .invoking m args :: below := State.frames_setFrames _ (State.cur_lt_of_top htop)
  obtain ⟨g₀, hg0⟩ := Option.isSome_iff_exists.mp htop
  obtain ⟨r, hr⟩ := State.topJava?_eq_some.mp hg0
  have hl9 : e.platform.stackLimits (T.setVm s.vm).me = e.platform.stackLimits s.me := X.limits
  have hb9 : (T.setVm s.vm).me.stackBytes = s.me.stackBytes := X.bytes
  refine ⟨X.admits, X.cas, X.clock, hF, ?_, X.hears, X.method, X.code, X.here, X.tail, X.warmed, ?_, ?_, ?_⟩
  · have h := X.room
    have hU : ((T.setVm s.vm).setFrames (.invoking m args :: below)).localsInUse = s.localsInUse := by
      rw [State.localsInUse_invoking hF (meth := meth) (c := c) X.method X.code, State.localsInUse_invoking X.frames X.method X.code]
    simp only [State.hasRoom, Bool.and_eq_true, decide_eq_true_eq] at h ⊢
    obtain ⟨⟨⟨⟨h1, h2, h3, h4, h5, h6⟩, h7⟩, h8⟩, h9⟩ := h
    rw [X.frames, List.length_cons] at h2 h3
    have q1 := X.heapSize
    have q2 := X.used
    simp only [hF, hU, List.length_cons, State.stackLimits_setFrames, State.stackBytes_setFrames, hl9, hb9]
    refine ⟨⟨⟨⟨by omega, by omega, by omega, by omega, by omega, h6⟩, ?_⟩, ?_⟩, X.book⟩
    · show T.heap.size + R'.cells ≤ e.platform.maxCells
      omega
    · show T.slotsUsed + R'.slots ≤ e.platform.maxSlots
      omega
  · rw [State.stackLimits_setFrames]; rfl
  · rw [State.stackBytes_setFrames]; rfl
  · refine ⟨?_, Nat.le_refl _, Nat.le_refl _, ?_, ?_, fun a c9 h9 => ⟨c9, h9, rfl, rfl, fun _ _ => rfl⟩⟩
    · obtain ⟨t, ht, -⟩ := State.frames_cons hr
      show T.setVm s.vm = { ((T.setVm s.vm).setFrames (.invoking m args :: below)).setFrames (T.setVm s.vm).frames with heap := T.heap, slotsUsed := T.slotsUsed }
      rw [State.setFrames_setFrames, State.setFrames_self ht]
      rfl
    · show T.slotsUsed = T.slotsUsed + ((T.heap.toList.drop T.heap.size).map (·.slots.size)).sum
      rw [List.drop_eq_nil_of_le (Nat.le_of_eq Array.length_toList)]
      rfl
    · show ((T.heap.toList.drop T.heap.size).map (·.slots.size)).sum ≤ 0
      rw [List.drop_eq_nil_of_le (Nat.le_of_eq Array.length_toList)]
      exact Nat.le_refl _
/-- 'throw new E()': new; dup; invokespecial; athrow -/
theorem vx_throw0 {cc : ByteArray} {pc : Nat} (hexec : p.tables.exec = Jvm.exec) (hb : c.code = cc) (hl : l.stackTraces = false) {own cls : String} {names : List String} {ik ic mc ms : Nat} {A : Nat → Prop}
    (hown : s.vm.findClass own = some m.cls) (hcls : Bundle.fit cls = true) (hnames : ∀ n ∈ names, Bundle.fit n = true)
    (hk : (Cond.classLink own ik cls).before args s = true) (hini : (Cond.initialized cls).before args s = true) (hat : ∀ w ∈ vx_at0 own ic cls names, w.before args s = true)
    (hgood : ∀ w ∈ Cond.classLink own ik cls :: Cond.initialized cls :: vx_at0 own ic cls names, vx_ot w = true)
    (hU : vx_Zq Bundle.tN "UNASSIGNED_STACK" Bundle.steD A s s.heap) (hN : vx_Zq Bundle.tN "SUPPRESSED_SENTINEL" Bundle.listD A s s.heap) (hS : va_S A s.heap H locs) (hsize : ls.size = c.maxLocals)
    (d0 : decode cc pc = .ok (.new ik, 3)) (d3 : decode cc (pc + 3) = .ok (.dup, 1)) (d4 : decode cc (pc + 4) = .ok (.invokespecial ic, 3)) (d7 : decode cc (pc + 7) = .ok (.athrow, 1))
    (hout : ∀ x ∈ c.exceptionTable.toList, covers x (pc + 7) = false)
    (hRframes : names.length + 3 < R.frames) (hRlocals : (rest.map fun v => v.category).sum + (13 * (names.length + 1) + 42) ≤ R.locals) (hRcells : cells + 1 ≤ R.cells) (hRslots : slots + 6 ≤ R.slots) (hlocks : meth.locks = false)
    (hx : ∀ t : State, s.vm.Alike t.vm → H.size ≤ t.heap.size → (∀ q : Nat, q < H.size → t.heap[q]? = H[q]?) → XC cls s t)
    (hf : ∀ z ∈ locs, free z.base) (hc : cells + 1 ≤ mc) (hs : slots + 6 ≤ ms) :
    W p l e R s m args below meth c H locs cells slots (vx_MQ below Qc XC args s mc ms free) (F0 m pc ls rest) := by
  intro T hT X
  have htr : e.platform.stackTraces = false := (show e.platform.stackTraces = l.stackTraces by rw [X.admits.platform]).trans hl
  have Y := vx_rebase X (R' := { frames := R.frames, locals := R.locals, cells := 1, slots := 6 }) (Nat.le_refl _) (Nat.le_refl _) hRcells hRslots
  obtain ⟨s', hA⟩ : ∃ z, z = (T.setVm s.vm).setFrames (.invoking m args :: below) := ⟨_, rfl⟩
  rw [← hA] at Y
  have hvm : s'.vm = s.vm := by rw [hA]; rfl
  have hhp : s'.heap = H := by rw [hA]; exact hT
  have hW0 : s.WarmedH s'.vm := by rw [hvm]; exact State.WarmedH.refl s
  have hat' : ∀ w ∈ vx_at0 own ic cls names, w.before args s' = true := fun w hw => vx_ot_at hW0 hvm.symm (hgood w (List.mem_cons_of_mem _ (List.mem_cons_of_mem _ hw))) (hat w hw)
  have hk' : (Cond.classLink own ik cls).before args s' = true := vx_ot_at hW0 hvm.symm (hgood _ List.mem_cons_self) hk
  have hini' : (Cond.initialized cls).before args s' = true := vx_ot_at hW0 hvm.symm (hgood _ (List.mem_cons_of_mem _ List.mem_cons_self)) hini
  have hU' : vx_Zq Bundle.tN "UNASSIGNED_STACK" Bundle.steD A s' s'.heap := by rw [hhp]; exact vx_Zq.moved hW0.alike (hU.kept hS.2.1)
  have hN' : vx_Zq Bundle.tN "SUPPRESSED_SENTINEL" Bundle.listD A s' s'.heap := by rw [hhp]; exact vx_Zq.moved hW0.alike (hN.kept hS.2.1)
  have h : ∀ w ∈ Bundle.ownAtoms0 own ic cls names, w.before args s' = true := vx_own hat' (vx_isRefq hU'.1) (vx_isRefq hN'.1) hU'.2.word hN'.2.word
  have hown' : s'.vm.findClass own = some m.cls := by rw [hvm]; exact hown
  have hins : (Cond.instantiable cls 6).before args s' = true := h _ (by simp [Bundle.ownAtoms0])
  obtain ⟨vm₁, cX, kX, hfX, hkX, -, -, X₁, st1⟩ := Y.newCold hexec (own := own) (C := cls) (index := ik) (n := 6) hown' hk' hins hini'
    (g := F0 m pc ls rest) rfl (by rw [hb]; exact d0) (Nat.le_refl _) (Nat.le_refl _)
  generalize hT1 : (T.setVm vm₁).pushCell { cls := cX, slots := kX.instanceTypes.map defaultValue, vm := .none } = T1 at X₁ st1
  have hcat : (Value.ref T.heap.size).category = 1 := rfl
  have hcellA : T1.heap[T.heap.size]? = some (freshCell cX kX) := by rw [← hT1]; exact State.heap_pushCell_size _ _
  have d3' : decode c.code (pc + 3) = .ok (.dup, 1) := by rw [hb]; exact d3
  obtain ⟨U, hsteps, hrun, hend, hW, hsame, ce, hce, hO⟩ := X₁.ctorThrow0 hexec htr (own := own) (cls := cls) (names := names) (ic := ic) hown' hcls hnames h (fun x hx => nomatch hx) hfX hkX hcellA (by rw [hhp, hT]; exact Nat.le_refl _)
    (g := { method := m, pc := pc + 4, locals := ls, stack := .ref T.heap.size :: .ref T.heap.size :: rest, locked := none }) rfl hsize rfl rfl (rest := rest) rfl
    (by rw [hb]; exact d4) (by rw [hb]; exact d7) hout hRframes (by simp only [List.map_cons, List.sum_cons, hcat]; omega) hlocks
  obtain ⟨f1, f2⟩ := vx_frame hsame
  rw [hhp] at f1 f2
  have hWs : s.WarmedH U.vm := State.WarmedH.trans hW0 hW
  have hcl : s.vm.findClass cls = some ce.cls := by
    have h9 := hO.cls
    rw [hvm] at h9
    exact h9
  have hall : s.sameButNew ({ U with vm := s.vm } : State) locs mc ms := by
    subst hA
    obtain ⟨e1, e2⟩ := hsame
    rw [State.setFrames_setFrames] at e1
    have h2 : (T.setVm s.vm).sameButNew ({ U with vm := s.vm } : State) [] (0 + 1) (0 + 6) := ⟨e1, e2⟩
    have h3 := X.same.trans h2
    rw [List.append_nil] at h3
    exact h3.mono hc hs
  refine ⟨U, ?_, .threw T.heap.size, hrun, hend, Or.inr ⟨T.heap.size, rfl, cls, ce, locs, hx U hWs.alike f1 (fun q hq => f2 q hq (fun z hz => nomatch hz)), hce, hO.vm, hcl, hWs, hall, hf⟩⟩
  refine st1 _ ?_
  show Steps p.tables e below (T1.setTop { method := m, pc := pc + 3, locals := ls, stack := .ref T.heap.size :: rest, locked := none }) _
  jvm_step X₁.here [X₁.here.top, hexec, d3', Value.category]
  exact hsteps
/-- 'throw new E("text")': new; dup; ldc; invokespecial; athrow -/
theorem vx_throwS {cc : ByteArray} {pc : Nat} (hexec : p.tables.exec = Jvm.exec) (hb : c.code = cc) (hl : l.stackTraces = false) {own cls text : String} {names : List String} {ik is ic mc ms sa : Nat} {A : Nat → Prop}
    (hown : s.vm.findClass own = some m.cls) (hcls : Bundle.fit cls = true) (hnames : ∀ n ∈ names, Bundle.fit n = true)
    (hk : (Cond.classLink own ik cls).before args s = true) (hini : (Cond.initialized cls).before args s = true) (hstr : vk_R own is text sa s) (hat : ∀ w ∈ vx_atS own ic cls names, w.before args s = true)
    (hgood : ∀ w ∈ Cond.classLink own ik cls :: Cond.initialized cls :: vx_atS own ic cls names, vx_ot w = true)
    (hU : vx_Zq Bundle.tN "UNASSIGNED_STACK" Bundle.steD A s s.heap) (hN : vx_Zq Bundle.tN "SUPPRESSED_SENTINEL" Bundle.listD A s s.heap) (hS : va_S A s.heap H locs) (hsize : ls.size = c.maxLocals)
    (d0 : decode cc pc = .ok (.new ik, 3)) (d3 : decode cc (pc + 3) = .ok (.dup, 1)) (d4 : decode cc (pc + 4) = .ok (.ldc is, 2)) (d6 : decode cc (pc + 6) = .ok (.invokespecial ic, 3)) (d9 : decode cc (pc + 9) = .ok (.athrow, 1))
    (hout : ∀ x ∈ c.exceptionTable.toList, covers x (pc + 9) = false)
    (hRframes : names.length + 3 < R.frames) (hRlocals : (rest.map fun v => v.category).sum + (13 * (names.length + 1) + 43) ≤ R.locals) (hRcells : cells + 1 ≤ R.cells) (hRslots : slots + 6 ≤ R.slots) (hlocks : meth.locks = false)
    (hx : ∀ t : State, s.vm.Alike t.vm → H.size ≤ t.heap.size → (∀ q : Nat, q < H.size → t.heap[q]? = H[q]?) → XC cls s t)
    (hf : ∀ z ∈ locs, free z.base) (hc : cells + 1 ≤ mc) (hs : slots + 6 ≤ ms) :
    W p l e R s m args below meth c H locs cells slots (vx_MQ below Qc XC args s mc ms free) (F0 m pc ls rest) := by
  intro T hT X
  have htr : e.platform.stackTraces = false := (show e.platform.stackTraces = l.stackTraces by rw [X.admits.platform]).trans hl
  have Y := vx_rebase X (R' := { frames := R.frames, locals := R.locals, cells := 1, slots := 6 }) (Nat.le_refl _) (Nat.le_refl _) hRcells hRslots
  obtain ⟨s', hA⟩ : ∃ z, z = (T.setVm s.vm).setFrames (.invoking m args :: below) := ⟨_, rfl⟩
  rw [← hA] at Y
  have hvm : s'.vm = s.vm := by rw [hA]; rfl
  have hhp : s'.heap = H := by rw [hA]; exact hT
  have hW0 : s.WarmedH s'.vm := by rw [hvm]; exact State.WarmedH.refl s
  have hat' : ∀ w ∈ vx_atS own ic cls names, w.before args s' = true := fun w hw => vx_ot_at hW0 hvm.symm (hgood w (List.mem_cons_of_mem _ (List.mem_cons_of_mem _ hw))) (hat w hw)
  have hk' : (Cond.classLink own ik cls).before args s' = true := vx_ot_at hW0 hvm.symm (hgood _ List.mem_cons_self) hk
  have hini' : (Cond.initialized cls).before args s' = true := vx_ot_at hW0 hvm.symm (hgood _ (List.mem_cons_of_mem _ List.mem_cons_self)) hini
  have hU' : vx_Zq Bundle.tN "UNASSIGNED_STACK" Bundle.steD A s' s'.heap := by rw [hhp]; exact vx_Zq.moved hW0.alike (hU.kept hS.2.1)
  have hN' : vx_Zq Bundle.tN "SUPPRESSED_SENTINEL" Bundle.listD A s' s'.heap := by rw [hhp]; exact vx_Zq.moved hW0.alike (hN.kept hS.2.1)
  have h : ∀ w ∈ Bundle.ownAtoms own ic cls names, w.before args s' = true := vx_own hat' (vx_isRefq hU'.1) (vx_isRefq hN'.1) hU'.2.word hN'.2.word
  have hown' : s'.vm.findClass own = some m.cls := by rw [hvm]; exact hown
  have hins : (Cond.instantiable cls 6).before args s' = true := h _ (by simp [Bundle.ownAtoms])
  obtain ⟨vm₁, cX, kX, hfX, hkX, -, -, X₁, st1⟩ := Y.newCold hexec (own := own) (C := cls) (index := ik) (n := 6) hown' hk' hins hini'
    (g := F0 m pc ls rest) rfl (by rw [hb]; exact d0) (Nat.le_refl _) (Nat.le_refl _)
  generalize hT1 : (T.setVm vm₁).pushCell { cls := cX, slots := kX.instanceTypes.map defaultValue, vm := .none } = T1 at X₁ st1
  have hcat : (Value.ref T.heap.size).category = 1 := rfl
  have hcellA : T1.heap[T.heap.size]? = some (freshCell cX kX) := by rw [← hT1]; exact State.heap_pushCell_size _ _
  have d3' : decode c.code (pc + 3) = .ok (.dup, 1) := by rw [hb]; exact d3
  have d4' : decode c.code (pc + 4) = .ok (.ldc is, 2) := by rw [hb]; exact d4
  have hstr' : vk_R own is text sa s' := vk_R.warm hW0 hstr
  obtain ⟨U, hsteps, hrun, hend, hW, hsame, ce, hce, hO⟩ := X₁.ctorThrowS hexec htr (own := own) (cls := cls) (names := names) (ic := ic) hown' hcls hnames h (fun x hx => nomatch hx) hfX hkX hcellA (by rw [hhp, hT]; exact Nat.le_refl _) (msg := .ref sa) rfl
    (g := { method := m, pc := pc + 6, locals := ls, stack := .ref sa :: .ref T.heap.size :: .ref T.heap.size :: rest, locked := none }) rfl hsize rfl rfl (rest := rest) rfl
    (by rw [hb]; exact d6) (by rw [hb]; exact d9) hout hRframes (by simp only [List.map_cons, List.sum_cons, hcat]; omega) hlocks
  obtain ⟨f1, f2⟩ := vx_frame hsame
  rw [hhp] at f1 f2
  have hWs : s.WarmedH U.vm := State.WarmedH.trans hW0 hW
  have hcl : s.vm.findClass cls = some ce.cls := by
    have h9 := hO.cls
    rw [hvm] at h9
    exact h9
  have hall : s.sameButNew ({ U with vm := s.vm } : State) locs mc ms := by
    subst hA
    obtain ⟨e1, e2⟩ := hsame
    rw [State.setFrames_setFrames] at e1
    have h2 : (T.setVm s.vm).sameButNew ({ U with vm := s.vm } : State) [] (0 + 1) (0 + 6) := ⟨e1, e2⟩
    have h3 := X.same.trans h2
    rw [List.append_nil] at h3
    exact h3.mono hc hs
  refine ⟨U, ?_, .threw T.heap.size, hrun, hend, Or.inr ⟨T.heap.size, rfl, cls, ce, locs, hx U hWs.alike f1 (fun q hq => f2 q hq (fun z hz => nomatch hz)), hce, hO.vm, hcl, hWs, hall, hf⟩⟩
  refine st1 _ ?_
  show Steps p.tables e below (T1.setTop { method := m, pc := pc + 3, locals := ls, stack := .ref T.heap.size :: rest, locked := none }) _
  jvm_step X₁.here [X₁.here.top, hexec, d3', Value.category]
  exact X₁.ldcString hexec (own := own) (text := text) (index := is) (a := sa) hown' hstr'.1 hstr'.2
    (g := { method := m, pc := pc + 4, locals := ls, stack := .ref T.heap.size :: .ref T.heap.size :: rest, locked := none }) rfl d4' _ hsteps
/-- 'throw new E("text")', the text by a wide index -/
theorem vx_throwSW {cc : ByteArray} {pc : Nat} (hexec : p.tables.exec = Jvm.exec) (hb : c.code = cc) (hl : l.stackTraces = false) {own cls text : String} {names : List String} {ik is ic mc ms sa : Nat} {A : Nat → Prop}
    (hown : s.vm.findClass own = some m.cls) (hcls : Bundle.fit cls = true) (hnames : ∀ n ∈ names, Bundle.fit n = true)
    (hk : (Cond.classLink own ik cls).before args s = true) (hini : (Cond.initialized cls).before args s = true) (hstr : vk_R own is text sa s) (hat : ∀ w ∈ vx_atS own ic cls names, w.before args s = true)
    (hgood : ∀ w ∈ Cond.classLink own ik cls :: Cond.initialized cls :: vx_atS own ic cls names, vx_ot w = true)
    (hU : vx_Zq Bundle.tN "UNASSIGNED_STACK" Bundle.steD A s s.heap) (hN : vx_Zq Bundle.tN "SUPPRESSED_SENTINEL" Bundle.listD A s s.heap) (hS : va_S A s.heap H locs) (hsize : ls.size = c.maxLocals)
    (d0 : decode cc pc = .ok (.new ik, 3)) (d3 : decode cc (pc + 3) = .ok (.dup, 1)) (d4 : decode cc (pc + 4) = .ok (.ldc_w is, 3)) (d7 : decode cc (pc + 7) = .ok (.invokespecial ic, 3)) (d10 : decode cc (pc + 10) = .ok (.athrow, 1))
    (hout : ∀ x ∈ c.exceptionTable.toList, covers x (pc + 10) = false)
    (hRframes : names.length + 3 < R.frames) (hRlocals : (rest.map fun v => v.category).sum + (13 * (names.length + 1) + 43) ≤ R.locals) (hRcells : cells + 1 ≤ R.cells) (hRslots : slots + 6 ≤ R.slots) (hlocks : meth.locks = false)
    (hx : ∀ t : State, s.vm.Alike t.vm → H.size ≤ t.heap.size → (∀ q : Nat, q < H.size → t.heap[q]? = H[q]?) → XC cls s t)
    (hf : ∀ z ∈ locs, free z.base) (hc : cells + 1 ≤ mc) (hs : slots + 6 ≤ ms) :
    W p l e R s m args below meth c H locs cells slots (vx_MQ below Qc XC args s mc ms free) (F0 m pc ls rest) := by
  intro T hT X
  have htr : e.platform.stackTraces = false := (show e.platform.stackTraces = l.stackTraces by rw [X.admits.platform]).trans hl
  have Y := vx_rebase X (R' := { frames := R.frames, locals := R.locals, cells := 1, slots := 6 }) (Nat.le_refl _) (Nat.le_refl _) hRcells hRslots
  obtain ⟨s', hA⟩ : ∃ z, z = (T.setVm s.vm).setFrames (.invoking m args :: below) := ⟨_, rfl⟩
  rw [← hA] at Y
  have hvm : s'.vm = s.vm := by rw [hA]; rfl
  have hhp : s'.heap = H := by rw [hA]; exact hT
  have hW0 : s.WarmedH s'.vm := by rw [hvm]; exact State.WarmedH.refl s
  have hat' : ∀ w ∈ vx_atS own ic cls names, w.before args s' = true := fun w hw => vx_ot_at hW0 hvm.symm (hgood w (List.mem_cons_of_mem _ (List.mem_cons_of_mem _ hw))) (hat w hw)
  have hk' : (Cond.classLink own ik cls).before args s' = true := vx_ot_at hW0 hvm.symm (hgood _ List.mem_cons_self) hk
  have hini' : (Cond.initialized cls).before args s' = true := vx_ot_at hW0 hvm.symm (hgood _ (List.mem_cons_of_mem _ List.mem_cons_self)) hini
  have hU' : vx_Zq Bundle.tN "UNASSIGNED_STACK" Bundle.steD A s' s'.heap := by rw [hhp]; exact vx_Zq.moved hW0.alike (hU.kept hS.2.1)
  have hN' : vx_Zq Bundle.tN "SUPPRESSED_SENTINEL" Bundle.listD A s' s'.heap := by rw [hhp]; exact vx_Zq.moved hW0.alike (hN.kept hS.2.1)
  have h : ∀ w ∈ Bundle.ownAtoms own ic cls names, w.before args s' = true := vx_own hat' (vx_isRefq hU'.1) (vx_isRefq hN'.1) hU'.2.word hN'.2.word
  have hown' : s'.vm.findClass own = some m.cls := by rw [hvm]; exact hown
  have hins : (Cond.instantiable cls 6).before args s' = true := h _ (by simp [Bundle.ownAtoms])
  obtain ⟨vm₁, cX, kX, hfX, hkX, -, -, X₁, st1⟩ := Y.newCold hexec (own := own) (C := cls) (index := ik) (n := 6) hown' hk' hins hini'
    (g := F0 m pc ls rest) rfl (by rw [hb]; exact d0) (Nat.le_refl _) (Nat.le_refl _)
  generalize hT1 : (T.setVm vm₁).pushCell { cls := cX, slots := kX.instanceTypes.map defaultValue, vm := .none } = T1 at X₁ st1
  have hcat : (Value.ref T.heap.size).category = 1 := rfl
  have hcellA : T1.heap[T.heap.size]? = some (freshCell cX kX) := by rw [← hT1]; exact State.heap_pushCell_size _ _
  have d3' : decode c.code (pc + 3) = .ok (.dup, 1) := by rw [hb]; exact d3
  have d4' : decode c.code (pc + 4) = .ok (.ldc_w is, 3) := by rw [hb]; exact d4
  have hstr' : vk_R own is text sa s' := vk_R.warm hW0 hstr
  obtain ⟨U, hsteps, hrun, hend, hW, hsame, ce, hce, hO⟩ := X₁.ctorThrowS hexec htr (own := own) (cls := cls) (names := names) (ic := ic) hown' hcls hnames h (fun x hx => nomatch hx) hfX hkX hcellA (by rw [hhp, hT]; exact Nat.le_refl _) (msg := .ref sa) rfl
    (g := { method := m, pc := pc + 7, locals := ls, stack := .ref sa :: .ref T.heap.size :: .ref T.heap.size :: rest, locked := none }) rfl hsize rfl rfl (rest := rest) rfl
    (by rw [hb]; exact d7) (by rw [hb]; exact d10) hout hRframes (by simp only [List.map_cons, List.sum_cons, hcat]; omega) hlocks
  obtain ⟨f1, f2⟩ := vx_frame hsame
  rw [hhp] at f1 f2
  have hWs : s.WarmedH U.vm := State.WarmedH.trans hW0 hW
  have hcl : s.vm.findClass cls = some ce.cls := by
    have h9 := hO.cls
    rw [hvm] at h9
    exact h9
  have hall : s.sameButNew ({ U with vm := s.vm } : State) locs mc ms := by
    subst hA
    obtain ⟨e1, e2⟩ := hsame
    rw [State.setFrames_setFrames] at e1
    have h2 : (T.setVm s.vm).sameButNew ({ U with vm := s.vm } : State) [] (0 + 1) (0 + 6) := ⟨e1, e2⟩
    have h3 := X.same.trans h2
    rw [List.append_nil] at h3
    exact h3.mono hc hs
  refine ⟨U, ?_, .threw T.heap.size, hrun, hend, Or.inr ⟨T.heap.size, rfl, cls, ce, locs, hx U hWs.alike f1 (fun q hq => f2 q hq (fun z hz => nomatch hz)), hce, hO.vm, hcl, hWs, hall, hf⟩⟩
  refine st1 _ ?_
  show Steps p.tables e below (T1.setTop { method := m, pc := pc + 3, locals := ls, stack := .ref T.heap.size :: rest, locked := none }) _
  jvm_step X₁.here [X₁.here.top, hexec, d3', Value.category]
  exact X₁.ldcStringW hexec (own := own) (text := text) (index := is) (a := sa) hown' hstr'.1 hstr'.2
    (g := { method := m, pc := pc + 4, locals := ls, stack := .ref T.heap.size :: .ref T.heap.size :: rest, locked := none }) rfl d4' _ hsteps
end Ends
section Bodies
variable {l : Launch}
theorem vx_ofW {y : MethodName} {ws ws' : List Cond} {rm : Room} {Pc : Array Value → State → Prop} {Qc : Array Value → State → Outcome → State → Prop} {XC : String → State → State → Prop} {mc ms : Nat} {free : Addr → Prop} {cc : ByteArray} {maxL : Nat} {ret : Option FieldType}
    (hy : plainName y.cls = true) (hw : ws = Cond.code y cc maxL ret :: ws')
    (body : ∀ p e s m args below meth c s₁, BodyLoose p l y (headSpec ws rm) cc maxL ret e s m args below meth c s₁ → c.maxLocals = maxL → (∀ x ∈ c.exceptionTable.toList, False) → Pc args s →
      W p l e (headSpec ws rm).room s m args below meth c s.heap [] 0 0 (vx_MQ below Qc XC args s mc ms free) (entryFrame m args maxL)) : vx_Met l y ws rm Pc Qc XC mc ms free := by
  refine MetFree.of_bodyS (code := cc) (maxLocals := maxL) (ret := ret) hy ?_ ?_
  · intro args s m h hn
    obtain ⟨meth, c, h1, h2, h3, h4, h5, h6, -, -⟩ := Cond.code_spec hn (atoms_spec (ws := ws) h _ (by rw [hw]; exact List.mem_cons_self))
    exact ⟨meth, c, h1, h2, h3, h4, h5, h6⟩
  · intro p e s m args below meth c s₁ B hml hP _
    have hh0 : s₁.heap = s.heap := by rw [B.state]; rfl
    have ht : ∀ x ∈ c.exceptionTable.toList, False := by
      obtain ⟨meth9, c9, h1, h2, -, -, -, -, h7, -⟩ := Cond.code_spec B.named (atoms_spec (ws := ws) B.pre _ (by rw [hw]; exact List.mem_cons_self))
      cases Option.some.inj (h1.symm.trans B.method)
      cases Option.some.inj (h2.symm.trans (Stand.of_body B).code)
      intro x hx
      rw [Array.isEmpty_iff.mp h7] at hx
      cases hx
    obtain ⟨t, a1, o, b1, b2, b3⟩ := body p e s m args below meth c s₁ B hml ht hP s₁ hh0 (Stand.of_body B)
    exact ⟨t, o, a1, b1, b2, b3⟩
/-- the table of a body with handlers -/
theorem vx_table {p : Program} {x y : MethodName} {S : Spec} {cc bytes : ByteArray} {maxL maxL' : Nat} {ret ret' : Option FieldType} {e : Env} {s s₁ : State} {m : MethodId} {args : Array Value} {below : List Frame} {meth : Method} {c : Code} {hh : List (Nat × Nat × Nat × Nat)}
    (B : BodyLoose p l y S cc maxL ret e s m args below meth c s₁) (h : (Cond.codeWith y bytes maxL' ret' hh).before args s = true) : c.exceptionTable.toList = tableOf hh := by
  obtain ⟨m9, meth9, c9, hn9, h1, h2, -, -, h6, -⟩ := Cond.codeWith_spec h
  cases Option.some.inj (hn9.symm.trans B.named)
  cases Option.some.inj (h1.symm.trans B.method)
  cases Option.some.inj (h2.symm.trans (Stand.of_body B).code)
  rw [← h6, table_eq]
end Bodies
end VXA
/-! ===== END ===== -/
/-! ===== BEGIN a static call of a method with an exception table ===== -/
section VXS
variable {p : Program} {l : Launch} {e : Env} {R : Room} {s : State} {m : MethodId} {args : Array Value} {below : List Frame} {meth : Method} {c : Code} {T : State} {H : Heap} {locs : List Loc} {cells slots : Nat}
abbrev vx_CSW (R : Room) (s : State) (args : Array Value) (own : String) (index : Nat) (y : MethodName) (bytes : ByteArray) (maxL : Nat) (ret : Option FieldType) (hh : List (Nat × Nat × Nat × Nat)) (ws : List Cond) (rm : Room) (mc ms n : Nat) : Prop :=
  (rm.cells = mc ∧ rm.slots = ms ∧ rm.frames + 1 ≤ R.frames ∧ 8 + (maxL + 11) + rm.locals ≤ R.locals ∧ (∀ w ∈ ws, ∀ (a' : Array Value) (U : State), s.WarmedH U.vm → w.before a' U = true) ∧ Cond.codeWith y bytes maxL ret hh ∈ ws) ∧
  (Cond.codeWith y bytes maxL ret hh).before args s = true ∧ (Cond.initialized y.cls).before args s = true ∧ (y.cls ≠ "java/lang/invoke/MethodHandle" ∧ y.cls ≠ "java/lang/invoke/VarHandle") ∧
  (∀ sig, parseMethodDescriptor y.desc = some sig → n = sig.parameters.length) ∧ (Cond.methodLink own index y).before args s = true ∧ (Cond.static y).before args s = true
theorem vx_cwSW {own : String} {index maxL mc ms : Nat} {y : MethodName} {bytes : ByteArray} {ret : Option FieldType} {hh : List (Nat × Nat × Nat × Nat)} {Ts ws ws' : List Cond} {rm : Room} (n : Nat) (ht : ∀ w ∈ Ts, w.before args s = true) (hT : GoodIn Ts (va_wsS own index y ws)) (hw : ws = Cond.codeWith y bytes maxL ret hh :: ws') (hrc : rm.cells = mc) (hrs : rm.slots = ms)
    (hd : y.cls ≠ "java/lang/invoke/MethodHandle" ∧ y.cls ≠ "java/lang/invoke/VarHandle" ∧ (parseMethodDescriptor y.desc).map (fun d => d.parameters.length) = some n) (hR : rm.frames + 1 ≤ R.frames ∧ 8 + (maxL + 11) + rm.locals ≤ R.locals) :
    vx_CSW R s args own index y bytes maxL ret hh ws rm mc ms n := by
  have ok : ∀ w ∈ va_wsS own index y ws, w.before args s = true := fun w h => ht w (hT w h).1
  have hG : GoodIn Ts ws := fun w h => hT w (by unfold va_wsS; exact List.mem_append_right _ h)
  have hc : Cond.codeWith y bytes maxL ret hh ∈ ws := by rw [hw]; exact List.mem_cons_self
  refine ⟨⟨hrc, hrs, hR.1, hR.2, pay_in ht hG, hc⟩, ht _ (hG _ hc).1, ok _ (by simp [va_wsS]), ⟨hd.1, hd.2.1⟩, fun sig h => ?_, ok _ (by simp [va_wsS]), ok _ (by simp [va_wsS])⟩
  have h2 := hd.2.2
  rw [h] at h2
  exact (Option.some.inj h2).symm
theorem vx_callSW (X : Stand p l e R s m args below meth c T locs cells slots) (hexec : p.tables.exec = Jvm.exec) {own : String} {index : Nat} {y : MethodName} {bytes : ByteArray} {maxL : Nat} {ret : Option FieldType} {hh : List (Nat × Nat × Nat × Nat)}
    (hown : s.vm.findClass own = some m.cls) (hlink : (Cond.methodLink own index y).before args s = true) (hstat : (Cond.static y).before args s = true) (hinit : (Cond.initialized y.cls).before args s = true)
    (hcode : (Cond.codeWith y bytes maxL ret hh).before args s = true) (hy : y.cls ≠ "java/lang/invoke/MethodHandle" ∧ y.cls ≠ "java/lang/invoke/VarHandle")
    {W9 : Nat} {Pre : Pt → Array Value → Prop} {Post : Pt → Array Value → Option Value → Pt → Prop} (hK : Back l R p e below s args y 3 W9 Pre Post)
    {g : JFrame} (hg : g.method = m) (hsize : g.locals.size = c.maxLocals) {argsL rest : List Value} (hlen : ∀ sig, parseMethodDescriptor y.desc = some sig → argsL.length = sig.parameters.length)
    (hstack : g.stack = argsL.reverse ++ rest) (hW : 2 * g.monitorRoom + (rest.map fun v => v.category).sum ≤ W9) (hdg : decode c.code g.pc = .ok (.invokestatic index, 3))
    (hpre : ∀ vm₁, s.WarmedH vm₁ → Pre ⟨T.setVm vm₁, locs, cells, slots⟩ argsL.toArray) :
    ∃ (v : Option Value) (vm₁ : Vm) (B : Pt), s.WarmedH vm₁ ∧ Stand p l e R s m args below meth c B.U B.locs B.cells B.slots ∧ Post ⟨T.setVm vm₁, locs, cells, slots⟩ argsL.toArray v B ∧
      ∀ target, Steps p.tables e below (B.U.setTop { g with pc := g.pc + 3, stack := v.toList ++ rest }) target → Steps p.tables e below (T.setTop g) target := by
  obtain ⟨mk, methM, cM, hnamed, hmethM, -, -, -, -, -, -, hsigM⟩ := Cond.codeWith_spec hcode
  have hstatic : methM.isStatic = true := Cond.static_spec hnamed hmethM hstat
  obtain ⟨kP, hkP, -⟩ := className_of_methodNamed hnamed
  have hinitP : kP.init = .initialized := Cond.initialized_spec (findClass_of_methodNamed hnamed) hkP hinit
  obtain ⟨vm₁, X₁, hstep₁⟩ := X.invokestatic hexec hown hlink hnamed hmethM hstatic hkP hinitP hy (g := g) hg (argsL := argsL) (rest := rest) (hlen _ hsigM) hstack hdg
  obtain ⟨v, B, X', hpost, hsteps⟩ := hK m meth c ⟨T.setVm vm₁, locs, cells, slots⟩ { g with stack := rest } (.invokestatic index) mk argsL.toArray X₁ hg hsize hdg hW (X₁.named hnamed) (hpre vm₁ X₁.warmed)
  exact ⟨v, vm₁, B, X₁.warmed, X', hpost, fun target h => hstep₁ _ fun acts => by rw [doInvoke_state]; exact hsteps.trans h⟩
theorem vx_runSW {y : MethodName} {bytes cc : ByteArray} {maxL nL mc ms n index : Nat} {ret : Option FieldType} {hh : List (Nat × Nat × Nat × Nat)} {ws : List Cond} {rm : Room} {Pc : Array Value → State → Prop} {Qc : Array Value → State → Outcome → State → Prop} {free : Addr → Prop} {Ts : List Cond} {own : String} {As rest : List Value} {g : JFrame}
    (S : CallFix p m c cc nL s args Ts own) (hM : Met l y ws rm Pc Qc mc ms free) (cw : vx_CSW R s args own index y bytes maxL ret hh ws rm mc ms n) (hp : PreS s H Pc As)
    (hg : g.method = m) (hn : As.length = n) (hsize : g.locals.size = nL) (hstack : g.stack = As.reverse ++ rest) (hW : 2 * g.monitorRoom + (rest.map fun v => v.category).sum ≤ 8) (hdg : decode cc g.pc = .ok (.invokestatic index, 3)) (hf : cells + mc ≤ R.cells ∧ slots + ms ≤ R.slots) :
    va_Run p l e R s m args below meth c H locs cells slots mc ms g rest (Qc As.toArray) (free) := by
  obtain ⟨⟨hrc, hrs, hfr, hlo, hws, hcw⟩, hcode, hini, hy, hlen, hl, hstt⟩ := cw
  have hK : Back l R p e below s args y 3 8 (PreOf R mc ms Pc) (PostOf Qc mc ms free) := va_backW (hh := hh) (bytes := bytes) (maxL := maxL) (ret := ret) hM hp.1 hrc hrs hfr hlo hws hcw (fun a' U hW => word_at hW (Or.inl (by first | rfl | simp [Cond.onTables, Cond.keeps, Cond.steady])) hini)
  obtain ⟨hx, hb, hml, ho, -⟩ := S
  intro T hT X
  obtain ⟨v, vm₁, ⟨U', l2, c2, s2⟩, hW₁, X', ⟨g', mk, t, L, e1, e2, hq, h1, hL, h2, h3⟩, st⟩ := vx_callSW X hx (hh := hh) (bytes := bytes) (maxL := maxL) (ret := ret) ho hl hstt hini hcode hy hK hg (hsize.trans hml.symm) (argsL := As) (rest := rest) (fun sig h => hn.trans (hlen sig h)) hstack hW (by rw [hb]; exact hdg)
    (fun vm₁ hW₁ => ⟨hf.1, hf.2, hp.2 (T.setVm vm₁) hT hW₁⟩)
  dsimp only [Pt.U, Pt.locs, Pt.cells, Pt.slots] at X' e1 e2 h1 h2 h3 st
  subst h1; subst h2; subst h3
  exact ⟨v, (T.setVm vm₁).calling g' mk As.toArray, t, U', L, hT, X', hL, e1, e2, hq, st⟩
/-- not caught here, past rows that name other classes: it goes on to the caller -/
theorem vx_outP {p : Program} {l : Launch} {e : Env} {R : Room} {s : State} {m : MethodId} {args : Array Value} {below : List Frame} {meth : Method} {c : Code} {H : Heap} {locs : List Loc} {cells slots : Nat} {free : Addr → Prop} {ls : Array Slot} {rest : List Value} {Qc : Array Value → State → Outcome → State → Prop} {XC : String → State → State → Prop}
    {pc : Nat} {own E : String} {ce : Cell} {q : Addr} {mc ms : Nat} (hown : s.vm.findClass own = some m.cls) (hlocks : meth.locks = false)
    (hpass : ∀ z ∈ c.exceptionTable.toList, covers z pc = false ∨ (z.catchType ≠ 0 ∧ ∃ nm : String, (Cond.classLink own z.catchType nm).before args s = true ∧ va_Nc E nm s)) (hcell : H[q]? = some ce) (hv : ce.vm = .none) (hcl : s.vm.findClass E = some ce.cls)
    (hx : ∀ t : State, t.heap = H → s.vm.Alike t.vm → XC E s t) (hf : ∀ z ∈ locs, free z.base) (hc : cells ≤ mc) (hs : slots ≤ ms) :
    vx_W p l e R s m args below meth c H locs cells slots (vx_MQ below Qc XC args s mc ms free) (F0 m pc ls rest) q := by
  intro T hT X
  have hpl : e.platform.magicAccessors = ({} : Platform).magicAccessors := by rw [X.admits.platform]
  obtain ⟨vm', hW', X', st⟩ := X.outThrough hlocks q (g := F0 m pc ls rest) rfl rfl rfl (cell := ce) (by rw [hT]; exact hcell) (by rw [hv]; rfl)
    (by obtain ⟨k9, h9, -⟩ := Vm.findClass_spec hcl; exact ⟨k9, h9⟩) (fun z hz => by
      rcases hpass z hz with h | ⟨hz0, nm, hl1, hn1⟩
      · exact Or.inl h
      · obtain ⟨c6, hc6, hcl6⟩ := Cond.classLink_spec hown hl1 e.platform hpl
        obtain ⟨a8, b8, h1, h2, h3⟩ := hn1
        cases Option.some.inj (h1.symm.trans hcl)
        cases Option.some.inj (h2.symm.trans hc6)
        exact Or.inr ⟨hz0, _, hcl6, h3⟩)
  obtain ⟨g₀, hfr⟩ := X'.frames_eq
  have hcell9 : ((T.setVm vm').setFrames (.throwing q :: below)).heap[q]? = some ce := by
    show T.heap[q]? = some ce
    rw [hT]; exact hcell
  have hend : Ended ((T.setVm vm').setFrames (.throwing q :: below)) below (.threw q) := State.frames_setFrames _ (State.cur_lt_of_frames hfr)
  refine ⟨(T.setVm vm').setFrames (.throwing q :: below), ?_, .threw q, X'.here.running, hend, Or.inr ⟨q, rfl, E, ce, locs, hx _ hT (X'.ends _).1.alike, hcell9, hv, hcl, (X'.ends _).1, (X'.ends _).2.mono hc hs, hf⟩⟩
  rw [X.pushThrowing_eq]
  exact st
/-- a thing of a world lies in the heap -/
theorem vx_lt {D : va_G} {cl : List vw_C} {ws : va_W} {H1 : Heap} (h : va_P D cl ws H1) {k : Nat} {q : Nat × va_E} (hk : ws[k]? = some q) : q.1 < H1.size := (h k q hk).lt
end VXS
/-! ===== END ===== -/
/-! ===== BEGIN methods with a table of their own: called by a name, returning or throwing ===== -/
section VXH
/-! vx_backW, vx_callVX, vx_callSX, vx_callVW, vx_runVW, vx_runVX, vx_runSX, vx_ofWH follow the same proofs as their sisters above (Free/Laws.lean, Shelf42/LK1.lean); vx_outP calls Shelf42/NT130.lean (outThrough). -/
section
variable {l : Launch} {R : Room} {p : Program} {e : Env} {below : List Frame} {s : State} {sargs : Array Value} {y : MethodName} {len W9 : Nat}
theorem vx_backW {ws : List Cond} {rm : Room} {Pc : Array Value → State → Prop} {Qc : Array Value → State → Outcome → State → Prop} {XC : String → State → State → Prop} {mc ms : Nat} {free : Addr → Prop} {bytes : ByteArray} {maxL : Nat} {ret : Option FieldType} {hh : List (Nat × Nat × Nat × Nat)}
    (hM : vx_Met l y ws rm Pc Qc XC mc ms free) (hblind : FrameBlind Pc) (hrc : rm.cells = mc) (hrs : rm.slots = ms)
    (hframes : rm.frames + 1 ≤ R.frames) (hlocals : W9 + (maxL + 11) + rm.locals ≤ R.locals)
    (hws : ∀ w ∈ ws, ∀ a' U, s.WarmedH U.vm → w.before a' U = true) (hcode : Cond.codeWith y bytes maxL ret hh ∈ ws) (hinit : ∀ a' U, s.WarmedH U.vm → (Cond.initialized y.cls).before a' U = true) :
    vx_Back l R p e below s sargs y len W9 (PreOf R mc ms Pc) (PostOf Qc mc ms free) (vx_Post XC mc ms free) := by
  intro m meth c A g ig mk a X hg hsize hdg hW hn hp
  have h1 : (headSpec ws rm).pre.before a A.U = true := atoms_intro fun w hw => hws w hw _ _ X.warmed
  have h2 : (Cond.codeWith y bytes maxL ret hh).before a A.U = true := hws _ hcode _ _ X.warmed
  have h3 : (Cond.initialized y.cls).before a A.U = true := hinit _ _ X.warmed
  have h4 : A.cells + (headSpec ws rm).room.cells ≤ R.cells := by rw [show (headSpec ws rm).room.cells = mc from hrc]; exact hp.1
  have h5 : A.slots + (headSpec ws rm).room.slots ≤ R.slots := by rw [show (headSpec ws rm).room.slots = ms from hrs]; exact hp.2.1
  have hPc : Pc a (A.U.calling g mk a) := hblind _ _ _ _ hp.2.2
  obtain ⟨U, Ls, c0, s0⟩ := A
  dsimp only [Pt.U, Pt.locs, Pt.cells, Pt.slots] at h1 h2 h3 h4 h5 X hn hPc ⊢
  obtain ⟨m9, methY, cY, hn9, hmY, hcY, -, hlY, -⟩ := Cond.codeWith_spec h2
  cases Option.some.inj (hn9.symm.trans hn)
  obtain ⟨kY, hkY, -⟩ := className_of_methodNamed hn
  have hinitY : kY.init = .initialized := Cond.initialized_spec (findClass_of_methodNamed hn) hkY h3
  have h : At U g.method c below := by rw [hg]; exact X.here
  have hlocals9 : W9 + (maxL + 11) + (headSpec ws rm).room.locals ≤ R.locals := hlocals
  have happ : (headSpec ws rm).appliesLoose y e.platform (U.calling g mk a) = true :=
    Spec.appliesLoose_calling (g := g) h hdg hn hkY hinitY
      (X.room_calling (g := g) (R' := (headSpec ws rm).room) hsize hmY hcY hframes (by rw [hlY]; omega) h4 h5) h1
  obtain ⟨mid, hmid⟩ := h.above
  have hfr : (U.setTop g).frames = (.java g :: mid) ++ below := by rw [State.frames_setTop' g h.top, hmid]; rfl
  obtain ⟨o, s₂, hsteps, -, hend, hq⟩ := Steps.callFree hM p X.admits X.cas X.clock (acts := []) hfr happ hPc trivial
  have hq' : vx_Q Qc XC mc ms free a (U.calling g mk a) o s₂ := hq
  rw [State.frames_setTop' g h.top] at hend
  obtain ⟨g₀, hg0⟩ := Option.isSome_iff_exists.mp h.top
  obtain ⟨r, hr⟩ := State.topJava?_eq_some.mp hg0
  have hr' : (({ U with heap := s₂.heap, slotsUsed := s₂.slotsUsed } : State).setVm s₂.vm).frames = .java g₀ :: r := hr
  rcases hq' with ⟨hqc, L, hfe, hL⟩ | ⟨q, rfl, E, ce, L, hx, hce, hcv, hcl, hW₂, hsm, hL⟩
  · obtain ⟨⟨v, rfl⟩, hW₂, e2, q2, q3, q4, q5, q6⟩ := id hfe
    have e3 : s₂ = ({ (U.calling g mk a).setFrames s₂.frames with heap := s₂.heap, slotsUsed := s₂.slotsUsed } : State).setVm s₂.vm := by
      have : s₂ = ({ s₂ with vm := (U.calling g mk a).vm } : State).setVm s₂.vm := rfl
      rw [e2] at this
      exact this
    obtain ⟨c₂, i₂, len₂, hc₂, hd₂, hf₂⟩ := hend
    have hW' : U.WarmedH s₂.vm := hW₂
    have hcc : c₂ = c := by
      have h1 : s₂.code? g.method = U.code? g.method := by
        rw [State.code?_eq, State.code?_eq, hW'.alike.method?]
      exact Option.some.inj (hc₂.symm.trans (h1.trans h.code))
    subst hcc
    have hlen : len₂ = len := by rw [hdg] at hd₂; cases hd₂; rfl
    subst hlen
    have hs₂ : s₂ = (({ U with heap := s₂.heap, slotsUsed := s₂.slotsUsed } : State).setVm s₂.vm).setTop { g with pc := g.pc + len₂, stack := v.toList ++ g.stack } := by
      refine e3.trans ?_
      rw [hf₂, State.calling_eq h.top, State.setFrames_setFrames, State.setTop_of_frames _ hr', hr]
      rfl
    have hsame : U.sameButNew ({ U with heap := s₂.heap, slotsUsed := s₂.slotsUsed } : State) L mc ms := by
      refine ⟨?_, q2, q3, q4, q5, q6⟩
      obtain ⟨t, ht, -⟩ := State.frames_cons hr
      show ({ U with heap := s₂.heap, slotsUsed := s₂.slotsUsed } : State) = { U.setFrames U.frames with heap := s₂.heap, slotsUsed := s₂.slotsUsed }
      rw [State.setFrames_self ht]
    subst hg
    refine Or.inl ⟨v, ⟨(({ U with heap := s₂.heap, slotsUsed := s₂.slotsUsed } : State).setVm s₂.vm), Ls ++ L, c0 + mc, s0 + ms⟩,
      ⟨X.admits, X.cas, X.clock, X.frames, X.room, X.hears, X.method, X.code, (X.here.setHeapUsed s₂.heap s₂.slotsUsed).setVm hW'.alike, X.tail, State.WarmedH.trans X.warmed hW', X.limits, X.bytes, X.same.trans (hsame.setVm s.vm)⟩,
      ⟨g, mk, s₂, L, rfl, rfl, hqc, rfl, hL, rfl, rfl⟩, ?_⟩
    show Steps p.tables e below _ ((({ U with heap := s₂.heap, slotsUsed := s₂.slotsUsed } : State).setVm s₂.vm).setTop { g with pc := g.pc + len₂, stack := v.toList ++ g.stack })
    rw [← hs₂]
    exact hsteps
  · obtain ⟨e2, q2, q3, q4, q5, q6⟩ := id hsm
    have e3 : s₂ = ({ (U.calling g mk a).setFrames s₂.frames with heap := s₂.heap, slotsUsed := s₂.slotsUsed } : State).setVm s₂.vm := by
      have : s₂ = ({ s₂ with vm := (U.calling g mk a).vm } : State).setVm s₂.vm := rfl
      rw [e2] at this
      exact this
    have hf₂ : s₂.frames = .throwing q :: .java g :: U.frames.tail := hend
    have hW' : U.WarmedH s₂.vm := hW₂
    have hs₂ : s₂ = ((({ U with heap := s₂.heap, slotsUsed := s₂.slotsUsed } : State).setVm s₂.vm).setTop g).pushFrame (.throwing q) := by
      refine e3.trans ?_
      rw [hf₂, State.calling_eq h.top, State.setFrames_setFrames, State.pushFrame, State.frames_setTop _ hr', State.setTop_of_frames _ hr', State.setFrames_setFrames, hr]
      rfl
    have hsame : U.sameButNew ({ U with heap := s₂.heap, slotsUsed := s₂.slotsUsed } : State) L mc ms := by
      refine ⟨?_, q2, q3, q4, q5, q6⟩
      obtain ⟨t, ht, -⟩ := State.frames_cons hr
      show ({ U with heap := s₂.heap, slotsUsed := s₂.slotsUsed } : State) = { U.setFrames U.frames with heap := s₂.heap, slotsUsed := s₂.slotsUsed }
      rw [State.setFrames_self ht]
    subst hg
    refine Or.inr ⟨q, ⟨(({ U with heap := s₂.heap, slotsUsed := s₂.slotsUsed } : State).setVm s₂.vm), Ls ++ L, c0 + mc, s0 + ms⟩,
      ⟨X.admits, X.cas, X.clock, X.frames, X.room, X.hears, X.method, X.code, (X.here.setHeapUsed s₂.heap s₂.slotsUsed).setVm hW'.alike, X.tail, State.WarmedH.trans X.warmed hW', X.limits, X.bytes, X.same.trans (hsame.setVm s.vm)⟩,
      ⟨g, mk, s₂, L, E, ce, rfl, rfl, hx, hce, hcv, hcl, rfl, hL, rfl, rfl⟩, ?_⟩
    show Steps p.tables e below _ (((({ U with heap := s₂.heap, slotsUsed := s₂.slotsUsed } : State).setVm s₂.vm).setTop g).pushFrame (.throwing q))
    rw [← hs₂]
    exact hsteps
end
variable {p : Program} {l : Launch} {e : Env} {R : Room} {s : State} {m : MethodId} {args : Array Value} {below : List Frame} {meth : Method} {c : Code} {T : State} {H : Heap} {locs : List Loc} {cells slots : Nat}
theorem vx_callVX (X : Stand p l e R s m args below meth c T locs cells slots) (hexec : p.tables.exec = Jvm.exec) {own C : String} {index : Nat} {y : MethodName} {bytes : ByteArray} {maxL : Nat} {ret : Option FieldType} {hh : List (Nat × Nat × Nat × Nat)}
    (hown : s.vm.findClass own = some m.cls) (hlink : (Cond.methodLink own index y).before args s = true) (hinst : (Cond.instanceMethod y).before args s = true) (hsel : (Cond.selects C y y).before args s = true)
    (hcode : (Cond.codeWith y bytes maxL ret hh).before args s = true) (hy : y.cls ≠ "java/lang/invoke/MethodHandle" ∧ y.cls ≠ "java/lang/invoke/VarHandle")
    {W9 : Nat} {Pre : Pt → Array Value → Prop} {Post : Pt → Array Value → Option Value → Pt → Prop} {PostX : Pt → Array Value → Addr → Pt → Prop} (hK : vx_Back l R p e below s args y 3 W9 Pre Post PostX)
    {b : Addr} {cellB : Cell} (hcell : T.heap[b]? = some cellB) (hobj : cellB.vm.isStatics = false) (hcls : s.vm.findClass C = some cellB.cls)
    {g : JFrame} (hg : g.method = m) (hsize : g.locals.size = c.maxLocals) {argsL rest : List Value} (hlen : ∀ sig, parseMethodDescriptor y.desc = some sig → argsL.length = sig.parameters.length)
    (hstack : g.stack = argsL.reverse ++ .ref b :: rest) (hW : 2 * g.monitorRoom + (rest.map fun v => v.category).sum ≤ W9) (hdg : decode c.code g.pc = .ok (.invokevirtual index, 3))
    (hpre : ∀ vm₁, s.WarmedH vm₁ → Pre ⟨T.setVm vm₁, locs, cells, slots⟩ (Value.ref b :: argsL).toArray) :
    (∃ (v : Option Value) (vm₁ : Vm) (B : Pt), s.WarmedH vm₁ ∧ Stand p l e R s m args below meth c B.U B.locs B.cells B.slots ∧ Post ⟨T.setVm vm₁, locs, cells, slots⟩ (Value.ref b :: argsL).toArray v B ∧
      ∀ target, Steps p.tables e below (B.U.setTop { g with pc := g.pc + 3, stack := v.toList ++ rest }) target → Steps p.tables e below (T.setTop g) target) ∨
    (∃ (q : Addr) (vm₁ : Vm) (B : Pt), s.WarmedH vm₁ ∧ Stand p l e R s m args below meth c B.U B.locs B.cells B.slots ∧ PostX ⟨T.setVm vm₁, locs, cells, slots⟩ (Value.ref b :: argsL).toArray q B ∧
      Steps p.tables e below (T.setTop g) ((B.U.setTop { g with stack := rest }).pushFrame (.throwing q))) := by
  obtain ⟨mk, methM, hnamed, hmethM, hstM, habM⟩ := Cond.instanceMethod_spec hinst
  obtain ⟨m8, methM', cM, hn8, hmethM', -, -, -, -, -, -, hsigM⟩ := Cond.codeWith_spec hcode
  cases Option.some.inj (hn8.symm.trans hnamed)
  cases hmethM.symm.trans hmethM'
  obtain ⟨c2, r2, m2, q1, q2, q3, q4, kP, hkP, hkPi⟩ := Cond.selects_spec hsel
  cases hcls.symm.trans q1
  cases (State.methodFound?_of_named hnamed hy).symm.trans q2
  cases hnamed.symm.trans q3
  have hselP : selectMethod e.platform s.vm cellB.cls mk = .method mk := by rw [Launch.admits_selectMethod X.admits]; exact q4
  obtain ⟨vm₁, X₁, hstep₁⟩ := X.invokevirtual hexec hown hlink hnamed hmethM hstM hkP hkPi hy (a := b) (cell := cellB) hcell
    (fun z h => by rw [h] at hobj; cases hobj) hselP hmethM habM hkP hkPi (g := g) hg (argsL := argsL) (rest := rest) (hlen _ hsigM) hstack hdg
  rcases hK m meth c ⟨T.setVm vm₁, locs, cells, slots⟩ { g with stack := rest } (.invokevirtual index) mk (Value.ref b :: argsL).toArray X₁ hg hsize hdg hW (X₁.named hnamed) (hpre vm₁ X₁.warmed) with ⟨v, B, X', hpost, hsteps⟩ | ⟨q, B, X', hpost, hsteps⟩
  · exact Or.inl ⟨v, vm₁, B, X₁.warmed, X', hpost, fun target h => hstep₁ _ fun acts => by rw [doInvoke_state]; exact hsteps.trans h⟩
  · exact Or.inr ⟨q, vm₁, B, X₁.warmed, X', hpost, hstep₁ _ fun acts => by rw [doInvoke_state]; exact hsteps⟩
theorem vx_callSX (X : Stand p l e R s m args below meth c T locs cells slots) (hexec : p.tables.exec = Jvm.exec) {own : String} {index : Nat} {y : MethodName} {bytes : ByteArray} {maxL : Nat} {ret : Option FieldType} {hh : List (Nat × Nat × Nat × Nat)}
    (hown : s.vm.findClass own = some m.cls) (hlink : (Cond.methodLink own index y).before args s = true) (hstat : (Cond.static y).before args s = true) (hinit : (Cond.initialized y.cls).before args s = true)
    (hcode : (Cond.codeWith y bytes maxL ret hh).before args s = true) (hy : y.cls ≠ "java/lang/invoke/MethodHandle" ∧ y.cls ≠ "java/lang/invoke/VarHandle")
    {W9 : Nat} {Pre : Pt → Array Value → Prop} {Post : Pt → Array Value → Option Value → Pt → Prop} {PostX : Pt → Array Value → Addr → Pt → Prop} (hK : vx_Back l R p e below s args y 3 W9 Pre Post PostX)
    {g : JFrame} (hg : g.method = m) (hsize : g.locals.size = c.maxLocals) {argsL rest : List Value} (hlen : ∀ sig, parseMethodDescriptor y.desc = some sig → argsL.length = sig.parameters.length)
    (hstack : g.stack = argsL.reverse ++ rest) (hW : 2 * g.monitorRoom + (rest.map fun v => v.category).sum ≤ W9) (hdg : decode c.code g.pc = .ok (.invokestatic index, 3))
    (hpre : ∀ vm₁, s.WarmedH vm₁ → Pre ⟨T.setVm vm₁, locs, cells, slots⟩ argsL.toArray) :
    (∃ (v : Option Value) (vm₁ : Vm) (B : Pt), s.WarmedH vm₁ ∧ Stand p l e R s m args below meth c B.U B.locs B.cells B.slots ∧ Post ⟨T.setVm vm₁, locs, cells, slots⟩ argsL.toArray v B ∧
      ∀ target, Steps p.tables e below (B.U.setTop { g with pc := g.pc + 3, stack := v.toList ++ rest }) target → Steps p.tables e below (T.setTop g) target) ∨
    (∃ (q : Addr) (vm₁ : Vm) (B : Pt), s.WarmedH vm₁ ∧ Stand p l e R s m args below meth c B.U B.locs B.cells B.slots ∧ PostX ⟨T.setVm vm₁, locs, cells, slots⟩ argsL.toArray q B ∧
      Steps p.tables e below (T.setTop g) ((B.U.setTop { g with stack := rest }).pushFrame (.throwing q))) := by
  obtain ⟨mk, methM, cM, hnamed, hmethM, -, -, -, -, -, -, hsigM⟩ := Cond.codeWith_spec hcode
  have hstatic : methM.isStatic = true := Cond.static_spec hnamed hmethM hstat
  obtain ⟨kP, hkP, -⟩ := className_of_methodNamed hnamed
  have hinitP : kP.init = .initialized := Cond.initialized_spec (findClass_of_methodNamed hnamed) hkP hinit
  obtain ⟨vm₁, X₁, hstep₁⟩ := X.invokestatic hexec hown hlink hnamed hmethM hstatic hkP hinitP hy (g := g) hg (argsL := argsL) (rest := rest) (hlen _ hsigM) hstack hdg
  rcases hK m meth c ⟨T.setVm vm₁, locs, cells, slots⟩ { g with stack := rest } (.invokestatic index) mk argsL.toArray X₁ hg hsize hdg hW (X₁.named hnamed) (hpre vm₁ X₁.warmed) with ⟨v, B, X', hpost, hsteps⟩ | ⟨q, B, X', hpost, hsteps⟩
  · exact Or.inl ⟨v, vm₁, B, X₁.warmed, X', hpost, fun target h => hstep₁ _ fun acts => by rw [doInvoke_state]; exact hsteps.trans h⟩
  · exact Or.inr ⟨q, vm₁, B, X₁.warmed, X', hpost, hstep₁ _ fun acts => by rw [doInvoke_state]; exact hsteps⟩
theorem vx_callVW (X : Stand p l e R s m args below meth c T locs cells slots) (hexec : p.tables.exec = Jvm.exec) {own C : String} {index : Nat} {y : MethodName} {bytes : ByteArray} {maxL : Nat} {ret : Option FieldType} {hh : List (Nat × Nat × Nat × Nat)}
    (hown : s.vm.findClass own = some m.cls) (hlink : (Cond.methodLink own index y).before args s = true) (hinst : (Cond.instanceMethod y).before args s = true) (hsel : (Cond.selects C y y).before args s = true)
    (hcode : (Cond.codeWith y bytes maxL ret hh).before args s = true) (hy : y.cls ≠ "java/lang/invoke/MethodHandle" ∧ y.cls ≠ "java/lang/invoke/VarHandle")
    {W9 : Nat} {Pre : Pt → Array Value → Prop} {Post : Pt → Array Value → Option Value → Pt → Prop} (hK : Back l R p e below s args y 3 W9 Pre Post)
    {b : Addr} {cellB : Cell} (hcell : T.heap[b]? = some cellB) (hobj : cellB.vm.isStatics = false) (hcls : s.vm.findClass C = some cellB.cls)
    {g : JFrame} (hg : g.method = m) (hsize : g.locals.size = c.maxLocals) {argsL rest : List Value} (hlen : ∀ sig, parseMethodDescriptor y.desc = some sig → argsL.length = sig.parameters.length)
    (hstack : g.stack = argsL.reverse ++ .ref b :: rest) (hW : 2 * g.monitorRoom + (rest.map fun v => v.category).sum ≤ W9) (hdg : decode c.code g.pc = .ok (.invokevirtual index, 3))
    (hpre : ∀ vm₁, s.WarmedH vm₁ → Pre ⟨T.setVm vm₁, locs, cells, slots⟩ (Value.ref b :: argsL).toArray) :
    ∃ (v : Option Value) (vm₁ : Vm) (B : Pt), s.WarmedH vm₁ ∧ Stand p l e R s m args below meth c B.U B.locs B.cells B.slots ∧ Post ⟨T.setVm vm₁, locs, cells, slots⟩ (Value.ref b :: argsL).toArray v B ∧
      ∀ target, Steps p.tables e below (B.U.setTop { g with pc := g.pc + 3, stack := v.toList ++ rest }) target → Steps p.tables e below (T.setTop g) target := by
  obtain ⟨mk, methM, hnamed, hmethM, hstM, habM⟩ := Cond.instanceMethod_spec hinst
  obtain ⟨m8, methM', cM, hn8, hmethM', -, -, -, -, -, -, hsigM⟩ := Cond.codeWith_spec hcode
  cases Option.some.inj (hn8.symm.trans hnamed)
  cases hmethM.symm.trans hmethM'
  obtain ⟨c2, r2, m2, q1, q2, q3, q4, kP, hkP, hkPi⟩ := Cond.selects_spec hsel
  cases hcls.symm.trans q1
  cases (State.methodFound?_of_named hnamed hy).symm.trans q2
  cases hnamed.symm.trans q3
  have hselP : selectMethod e.platform s.vm cellB.cls mk = .method mk := by rw [Launch.admits_selectMethod X.admits]; exact q4
  obtain ⟨vm₁, X₁, hstep₁⟩ := X.invokevirtual hexec hown hlink hnamed hmethM hstM hkP hkPi hy (a := b) (cell := cellB) hcell
    (fun z h => by rw [h] at hobj; cases hobj) hselP hmethM habM hkP hkPi (g := g) hg (argsL := argsL) (rest := rest) (hlen _ hsigM) hstack hdg
  obtain ⟨v, B, X', hpost, hsteps⟩ := hK m meth c ⟨T.setVm vm₁, locs, cells, slots⟩ { g with stack := rest } (.invokevirtual index) mk (Value.ref b :: argsL).toArray X₁ hg hsize hdg hW (X₁.named hnamed) (hpre vm₁ X₁.warmed)
  exact ⟨v, vm₁, B, X₁.warmed, X', hpost, fun target h => hstep₁ _ fun acts => by rw [doInvoke_state]; exact hsteps.trans h⟩
abbrev vx_CVW (R : Room) (s : State) (args : Array Value) (own C : String) (index : Nat) (y : MethodName) (bytes : ByteArray) (maxL : Nat) (ret : Option FieldType) (hh : List (Nat × Nat × Nat × Nat)) (ws : List Cond) (rm : Room) (mc ms n : Nat) : Prop :=
  (rm.cells = mc ∧ rm.slots = ms ∧ rm.frames + 1 ≤ R.frames ∧ 8 + (maxL + 11) + rm.locals ≤ R.locals ∧ (∀ w ∈ ws, ∀ (a' : Array Value) (U : State), s.WarmedH U.vm → w.before a' U = true) ∧ Cond.codeWith y bytes maxL ret hh ∈ ws) ∧
  (Cond.codeWith y bytes maxL ret hh).before args s = true ∧ (Cond.initialized y.cls).before args s = true ∧ (y.cls ≠ "java/lang/invoke/MethodHandle" ∧ y.cls ≠ "java/lang/invoke/VarHandle") ∧
  (∀ sig, parseMethodDescriptor y.desc = some sig → n = sig.parameters.length) ∧ (Cond.methodLink own index y).before args s = true ∧ (Cond.instanceMethod y).before args s = true ∧ (Cond.selects C y y).before args s = true
theorem vx_cwVW {own C : String} {index maxL mc ms : Nat} {y : MethodName} {bytes : ByteArray} {ret : Option FieldType} {hh : List (Nat × Nat × Nat × Nat)} {Ts ws ws' : List Cond} {rm : Room} (n : Nat) (ht : ∀ w ∈ Ts, w.before args s = true) (hT : GoodIn Ts (wsV own index C y ws)) (hw : ws = Cond.codeWith y bytes maxL ret hh :: ws') (hrc : rm.cells = mc) (hrs : rm.slots = ms)
    (hd : y.cls = C ∧ y.cls ≠ "java/lang/invoke/MethodHandle" ∧ y.cls ≠ "java/lang/invoke/VarHandle" ∧ (parseMethodDescriptor y.desc).map (fun d => d.parameters.length) = some n) (hR : rm.frames + 1 ≤ R.frames ∧ 8 + (maxL + 11) + rm.locals ≤ R.locals) :
    vx_CVW R s args own C index y bytes maxL ret hh ws rm mc ms n := by
  obtain ⟨hC, hd⟩ := hd
  subst hC
  have ok : ∀ w ∈ wsV own index y.cls y ws, w.before args s = true := fun w h => ht w (hT w h).1
  have hG : GoodIn Ts ws := fun w h => hT w (by unfold wsV; exact List.mem_append_right _ h)
  have hc : Cond.codeWith y bytes maxL ret hh ∈ ws := by rw [hw]; exact List.mem_cons_self
  refine ⟨⟨hrc, hrs, hR.1, hR.2, pay_in ht hG, hc⟩, ht _ (hG _ hc).1, ok _ (by simp [wsV]), ⟨hd.1, hd.2.1⟩, fun sig h => ?_, ok _ (by simp [wsV]), ok _ (by simp [wsV]), ok _ (by simp [wsV])⟩
  have h2 := hd.2.2
  rw [h] at h2
  exact (Option.some.inj h2).symm
theorem vx_runVW {y : MethodName} {bytes cc : ByteArray} {maxL nL mc ms n index : Nat} {ret : Option FieldType} {hh : List (Nat × Nat × Nat × Nat)} {ws : List Cond} {rm : Room} {Pc : Array Value → State → Prop} {Qc : Array Value → State → Outcome → State → Prop} {free : Addr → Prop} {Ts : List Cond} {own C : String} {b : Addr} {As rest : List Value} {g : JFrame}
    (S : CallFix p m c cc nL s args Ts own) (hM : Met l y ws rm Pc Qc mc ms free) (cw : vx_CVW R s args own C index y bytes maxL ret hh ws rm mc ms n) (hp : PreV s H C b Pc As)
    (hg : g.method = m) (hn : As.length = n) (hsize : g.locals.size = nL) (hstack : g.stack = As.reverse ++ .ref b :: rest) (hW : 2 * g.monitorRoom + (rest.map fun v => v.category).sum ≤ 8) (hdg : decode cc g.pc = .ok (.invokevirtual index, 3)) (hf : cells + mc ≤ R.cells ∧ slots + ms ≤ R.slots) :
    va_Run p l e R s m args below meth c H locs cells slots mc ms g rest (Qc (Value.ref b :: As).toArray) free := by
  obtain ⟨⟨hrc, hrs, hfr, hlo, hws, hcw⟩, hcode, hini, hy, hlen, hl, hin, hse⟩ := cw
  have hK : Back l R p e below s args y 3 8 (PreOf R mc ms Pc) (PostOf Qc mc ms free) := va_backW (hh := hh) (bytes := bytes) (maxL := maxL) (ret := ret) hM hp.1 hrc hrs hfr hlo hws hcw (fun a' U hW => word_at hW (Or.inl (by first | rfl | simp [Cond.onTables, Cond.keeps, Cond.steady])) hini)
  obtain ⟨hx, hb, hml, ho, -⟩ := S
  obtain ⟨-, ⟨cellB, hcB, hoB, hclB⟩, hPc⟩ := hp
  intro T hT X
  obtain ⟨v, vm₁, ⟨U', l2, c2, s2⟩, hW₁, X', ⟨g', mk, t, L, e1, e2, hq, h1, hL, h2, h3⟩, st⟩ := vx_callVW X hx (C := C) (hh := hh) (bytes := bytes) (maxL := maxL) (ret := ret) ho hl hin hse hcode hy hK (by rw [hT]; exact hcB) hoB hclB hg (hsize.trans hml.symm) (argsL := As) (rest := rest) (fun sig h => hn.trans (hlen sig h)) hstack hW (by rw [hb]; exact hdg)
    (fun vm₁ hW₁ => ⟨hf.1, hf.2, hPc (T.setVm vm₁) hT hW₁⟩)
  dsimp only [Pt.U, Pt.locs, Pt.cells, Pt.slots] at X' e1 e2 h1 h2 h3 st
  subst h1; subst h2; subst h3
  exact ⟨v, (T.setVm vm₁).calling g' mk (Value.ref b :: As).toArray, t, U', L, hT, X', hL, e1, e2, hq, st⟩
section
variable {y : MethodName} {bytes cc : ByteArray} {maxL nL mc ms n index : Nat} {ret : Option FieldType} {ws : List Cond} {rm : Room} {Pc : Array Value → State → Prop} {Qc : Array Value → State → Outcome → State → Prop} {XC : String → State → State → Prop} {free : Addr → Prop} {Ts : List Cond} {own C : String} {b : Addr} {As rest : List Value} {g : JFrame}
theorem vx_runVX {hh : List (Nat × Nat × Nat × Nat)} (S : CallFix p m c cc nL s args Ts own) (hM : vx_Met l y ws rm Pc Qc XC mc ms free) (cw : vx_CVW R s args own C index y bytes maxL ret hh ws rm mc ms n) (hp : PreV s H C b Pc As)
    (hg : g.method = m) (hn : As.length = n) (hsize : g.locals.size = nL) (hstack : g.stack = As.reverse ++ .ref b :: rest) (hW : 2 * g.monitorRoom + (rest.map fun v => v.category).sum ≤ 8) (hdg : decode cc g.pc = .ok (.invokevirtual index, 3)) (hf : cells + mc ≤ R.cells ∧ slots + ms ≤ R.slots) :
    vx_Run p l e R s m args below meth c H locs cells slots mc ms g rest (Qc (Value.ref b :: As).toArray) XC free := by
  obtain ⟨⟨hrc, hrs, hfr, hlo, hws, hcw⟩, hcode, hini, hy, hlen, hl, hin, hse⟩ := cw
  have hK : vx_Back l R p e below s args y 3 8 (PreOf R mc ms Pc) (PostOf Qc mc ms free) (vx_Post XC mc ms free) := vx_backW (hh := hh) (bytes := bytes) (maxL := maxL) (ret := ret) hM hp.1 hrc hrs hfr hlo hws hcw (fun a' U hW => word_at hW (Or.inl (by first | rfl | simp [Cond.onTables, Cond.keeps, Cond.steady])) hini)
  obtain ⟨hx, hb, hml, ho, -⟩ := S
  obtain ⟨-, ⟨cellB, hcB, hoB, hclB⟩, hPc⟩ := hp
  intro T hT X
  rcases vx_callVX X hx (C := C) (hh := hh) (bytes := bytes) (maxL := maxL) (ret := ret) ho hl hin hse hcode hy hK (by rw [hT]; exact hcB) hoB hclB hg (hsize.trans hml.symm) (argsL := As) (rest := rest) (fun sig h => hn.trans (hlen sig h)) hstack hW (by rw [hb]; exact hdg)
    (fun vm₁ hW₁ => ⟨hf.1, hf.2, hPc (T.setVm vm₁) hT hW₁⟩) with ⟨v, vm₁, ⟨U', l2, c2, s2⟩, hW₁, X', ⟨g', mk, t, L, e1, e2, hq, h1, hL, h2, h3⟩, st⟩ | ⟨q, vm₁, ⟨U', l2, c2, s2⟩, hW₁, X', ⟨g', mk, t, L, E, ce, e1, e2, hq, hce, hcv, hcl, h1, hL, h2, h3⟩, st⟩
  · dsimp only [Pt.U, Pt.locs, Pt.cells, Pt.slots] at X' e1 e2 h1 h2 h3 st
    subst h1; subst h2; subst h3
    exact Or.inl ⟨v, (T.setVm vm₁).calling g' mk (Value.ref b :: As).toArray, t, U', L, hT, X', hL, e1, e2, hq, st⟩
  · dsimp only [Pt.U, Pt.locs, Pt.cells, Pt.slots] at X' e1 e2 h1 h2 h3 st hcl
    subst h1; subst h2; subst h3
    exact Or.inr ⟨q, (T.setVm vm₁).calling g' mk (Value.ref b :: As).toArray, t, U', L, E, ce, hT, X', hL, e1, e2, hq, hce, hcv, vx_cls hW₁ hcl, st⟩
theorem vx_runSX {hh : List (Nat × Nat × Nat × Nat)} (S : CallFix p m c cc nL s args Ts own) (hM : vx_Met l y ws rm Pc Qc XC mc ms free) (cw : vx_CSW R s args own index y bytes maxL ret hh ws rm mc ms n) (hp : PreS s H Pc As)
    (hg : g.method = m) (hn : As.length = n) (hsize : g.locals.size = nL) (hstack : g.stack = As.reverse ++ rest) (hW : 2 * g.monitorRoom + (rest.map fun v => v.category).sum ≤ 8) (hdg : decode cc g.pc = .ok (.invokestatic index, 3)) (hf : cells + mc ≤ R.cells ∧ slots + ms ≤ R.slots) :
    vx_Run p l e R s m args below meth c H locs cells slots mc ms g rest (Qc As.toArray) XC free := by
  obtain ⟨⟨hrc, hrs, hfr, hlo, hws, hcw⟩, hcode, hini, hy, hlen, hl, hstt⟩ := cw
  have hK : vx_Back l R p e below s args y 3 8 (PreOf R mc ms Pc) (PostOf Qc mc ms free) (vx_Post XC mc ms free) := vx_backW (hh := hh) (bytes := bytes) (maxL := maxL) (ret := ret) hM hp.1 hrc hrs hfr hlo hws hcw (fun a' U hW => word_at hW (Or.inl (by first | rfl | simp [Cond.onTables, Cond.keeps, Cond.steady])) hini)
  obtain ⟨hx, hb, hml, ho, -⟩ := S
  intro T hT X
  rcases vx_callSX X hx (hh := hh) (bytes := bytes) (maxL := maxL) (ret := ret) ho hl hstt hini hcode hy hK hg (hsize.trans hml.symm) (argsL := As) (rest := rest) (fun sig h => hn.trans (hlen sig h)) hstack hW (by rw [hb]; exact hdg)
    (fun vm₁ hW₁ => ⟨hf.1, hf.2, hp.2 (T.setVm vm₁) hT hW₁⟩) with ⟨v, vm₁, ⟨U', l2, c2, s2⟩, hW₁, X', ⟨g', mk, t, L, e1, e2, hq, h1, hL, h2, h3⟩, st⟩ | ⟨q, vm₁, ⟨U', l2, c2, s2⟩, hW₁, X', ⟨g', mk, t, L, E, ce, e1, e2, hq, hce, hcv, hcl, h1, hL, h2, h3⟩, st⟩
  · dsimp only [Pt.U, Pt.locs, Pt.cells, Pt.slots] at X' e1 e2 h1 h2 h3 st
    subst h1; subst h2; subst h3
    exact Or.inl ⟨v, (T.setVm vm₁).calling g' mk As.toArray, t, U', L, hT, X', hL, e1, e2, hq, st⟩
  · dsimp only [Pt.U, Pt.locs, Pt.cells, Pt.slots] at X' e1 e2 h1 h2 h3 st hcl
    subst h1; subst h2; subst h3
    exact Or.inr ⟨q, (T.setVm vm₁).calling g' mk As.toArray, t, U', L, E, ce, hT, X', hL, e1, e2, hq, hce, hcv, vx_cls hW₁ hcl, st⟩
end
end VXH
theorem vx_ofWH {l : Launch} {y : MethodName} {ws ws' : List Cond} {rm : Room} {Pc : Array Value → State → Prop} {Qc : Array Value → State → Outcome → State → Prop} {XC : String → State → State → Prop} {mc ms : Nat} {free : Addr → Prop} {cc : ByteArray} {maxL : Nat} {ret : Option FieldType} {hh : List (Nat × Nat × Nat × Nat)}
    (hy : plainName y.cls = true) (hw : ws = Cond.codeWith y cc maxL ret hh :: ws')
    (body : ∀ p e s m args below meth c s₁, BodyLoose p l y (headSpec ws rm) cc maxL ret e s m args below meth c s₁ → c.maxLocals = maxL → Pc args s →
      W p l e (headSpec ws rm).room s m args below meth c s.heap [] 0 0 (vx_MQ below Qc XC args s mc ms free) (entryFrame m args maxL)) : vx_Met l y ws rm Pc Qc XC mc ms free := by
  refine MetFree.of_bodyS (code := cc) (maxLocals := maxL) (ret := ret) hy ?_ ?_
  · intro args s m h hn
    obtain ⟨m9, meth, c, hn9, h1, h2, h3, h4, -, h5, h6, -⟩ := Cond.codeWith_spec (atoms_spec (ws := ws) h _ (by rw [hw]; exact List.mem_cons_self))
    cases hn.symm.trans hn9
    exact ⟨meth, c, h1, h2, h3, h4, h5, h6⟩
  · intro p e s m args below meth c s₁ B hml hP _
    have hh0 : s₁.heap = s.heap := by rw [B.state]; rfl
    obtain ⟨t, a1, o, b1, b2, b3⟩ := body p e s m args below meth c s₁ B hml hP s₁ hh0 (Stand.of_body B)
    exact ⟨t, o, a1, b1, b2, b3⟩
/-! ===== END ===== -/
end
section
/-! the tables' words by their places; the classes of the worlds -/
def mTP : List (List Cond) := [k2_sels lw_privs, tables_1_1, tables_1_2, tables_1_3, tables_1_4, tables_1_5, tables_1_6, tables_1_7, tables_1_8, tables_1_9, tables_1_10]
theorem mTP_in : ∀ part ∈ mTP, ∀ w ∈ part, w ∈ lw_tbl := by
  intro part hp w hw
  unfold lw_tbl tables_1
  simp only [List.mem_append]
  simp only [mTP, List.mem_cons, List.not_mem_nil, or_false] at hp
  rcases hp with rfl | rfl | rfl | rfl | rfl | rfl | rfl | rfl | rfl | rfl | rfl <;> simp only [hw, true_or, or_true]
def mAt (q : Nat × Nat) : Option Cond := (mTP[q.1]?).bind (fun l => l[q.2]?)
theorem mAt_in {q : Nat × Nat} {w : Cond} (h : mAt q = some w) : w ∈ lw_tbl := by
  unfold mAt at h
  cases e : mTP[q.1]? with
  | none => rw [e] at h; cases h
  | some l => rw [e] at h; exact mTP_in l (List.mem_of_getElem? e) w (List.mem_of_getElem? h)
/-- the words that a warmed machine keeps -/
def gtbl : List Cond := lw_tbl.filter goodWord
theorem mG {w : Cond} (q : Nat × Nat) (h : (decide (mAt q = some w) && goodWord w) = true) : w ∈ gtbl := by
  rw [Bool.and_eq_true] at h
  exact List.mem_filter.mpr ⟨mAt_in (of_decide_eq_true h.1), h.2⟩
theorem mGs {ws : List Cond} (qs : List (Nat × Nat)) (h : (decide (qs.map mAt = ws.map some) && ws.all goodWord) = true) : ∀ w ∈ ws, w ∈ gtbl := by
  rw [Bool.and_eq_true] at h
  intro w hw
  have h1 := of_decide_eq_true h.1
  have h2 : some w ∈ qs.map mAt := by rw [h1]; exact List.mem_map.mpr ⟨w, hw, rfl⟩
  obtain ⟨q, -, hq⟩ := List.mem_map.mp h2
  exact List.mem_filter.mpr ⟨mAt_in hq, List.all_eq_true.mp h.2 w hw⟩
theorem gtbl_good : GoodIn gtbl gtbl := fun w h => ⟨h, good_of_word (List.mem_filter.mp h).2⟩
def mT0 : u_T := fun k => match k with
  | 0 => ("FloatingDock", "now", "LFloatingDock$Dock;", false)
  | 1 => ("FloatingDock", "before", "LFloatingDock$Dock;", false)
  | 2 => ("FloatingDock", "history", "LFloatingDock$History;", true)
  | 3 => ("FloatingDock", "snapshot", "LFloatingDock$Dock;", true)
  | 4 => ("FloatingDock", "hasSnapshot", "Z", false)
  | 5 => ("FloatingDock", "fitting", "LFloatingDock$Fitting;", true)
  | 6 => ("FloatingDock", "commands", "LFloatingDock$CommandText;", true)
  | 7 => ("FloatingDock", "line", "Ljava/lang/StringBuilder;", true)
  | 8 => ("FloatingDock", "keptReason", "I", false)
  | 9 => ("FloatingDock", "lastError", "I", false)
  | _ => ("FloatingDock", "lastFailure", "I", false)
theorem mT0_in : ∀ w ∈ u_ws "FloatingDock" mT0 11, w ∈ gtbl := mGs [(2, 63), (2, 65), (2, 67), (2, 69), (2, 71), (2, 73), (2, 75), (2, 77), (2, 79), (2, 81), (2, 83)] (by decide +kernel)
theorem mT0_ty : ∀ k, k < 11 → (parseFieldDescriptor (mT0 k).2.2.1).isSome = true := by decide +kernel
theorem mT0_nm : ∀ a, a < 11 → ∀ b, b < 11 → a ≠ b → (mT0 a).2.1 ≠ (mT0 b).2.1 := by decide +kernel
def mT1 : u_T := fun k => match k with
  | 0 => ("FloatingDock$Dock", "ships", "LFloatingDock$Fleet;", true)
  | 1 => ("FloatingDock$Dock", "blocks", "LFloatingDock$Blocks;", true)
  | 2 => ("FloatingDock$Dock", "waterLevel", "I", false)
  | 3 => ("FloatingDock$Dock", "gateOpen", "Z", false)
  | 4 => ("FloatingDock$Dock", "pumpRate", "I", false)
  | 5 => ("FloatingDock$Dock", "hours", "I", false)
  | 6 => ("FloatingDock$Dock", "charged", "I", false)
  | _ => ("FloatingDock$Dock", "paid", "I", false)
theorem mT1_in : ∀ w ∈ u_ws "FloatingDock$Dock" mT1 8, w ∈ gtbl := mGs [(1, 161), (1, 163), (1, 165), (1, 167), (1, 169), (1, 171), (1, 173), (1, 175)] (by decide +kernel)
theorem mT1_ty : ∀ k, k < 8 → (parseFieldDescriptor (mT1 k).2.2.1).isSome = true := by decide +kernel
theorem mT1_nm : ∀ a, a < 8 → ∀ b, b < 8 → a ≠ b → (mT1 a).2.1 ≠ (mT1 b).2.1 := by decide +kernel
def mT2 : u_T := fun k => match k with
  | 0 => ("FloatingDock$Fleet", "rows", "[LFloatingDock$Ship;", true)
  | 1 => ("FloatingDock$Fleet", "count", "I", false)
  | _ => ("FloatingDock$Fleet", "nextId", "I", false)
theorem mT2_in : ∀ w ∈ u_ws "FloatingDock$Fleet" mT2 3, w ∈ gtbl := mGs [(1, 124), (1, 126), (1, 128)] (by decide +kernel)
theorem mT2_ty : ∀ k, k < 3 → (parseFieldDescriptor (mT2 k).2.2.1).isSome = true := by decide +kernel
theorem mT2_nm : ∀ a, a < 3 → ∀ b, b < 3 → a ≠ b → (mT2 a).2.1 ≠ (mT2 b).2.1 := by decide +kernel
def mT3 : u_T := fun k => match k with
  | 0 => ("FloatingDock$Ship", "id", "I", false)
  | 1 => ("FloatingDock$Ship", "length", "I", false)
  | 2 => ("FloatingDock$Ship", "draught", "I", false)
  | 3 => ("FloatingDock$Ship", "dirt", "I", false)
  | 4 => ("FloatingDock$Ship", "damage", "I", false)
  | 5 => ("FloatingDock$Ship", "afloatHours", "I", false)
  | 6 => ("FloatingDock$Ship", "bill", "I", false)
  | 7 => ("FloatingDock$Ship", "position", "I", false)
  | _ => ("FloatingDock$Ship", "cleaned", "Z", false)
theorem mT3_in : ∀ w ∈ u_ws "FloatingDock$Ship" mT3 9, w ∈ gtbl := mGs [(1, 94), (1, 96), (1, 98), (1, 100), (1, 102), (1, 104), (1, 106), (1, 108), (1, 110)] (by decide +kernel)
theorem mT3_ty : ∀ k, k < 9 → (parseFieldDescriptor (mT3 k).2.2.1).isSome = true := by decide +kernel
theorem mT3_nm : ∀ a, a < 9 → ∀ b, b < 9 → a ≠ b → (mT3 a).2.1 ≠ (mT3 b).2.1 := by decide +kernel
def mT4 : u_T := fun k => match k with
  | 0 => ("FloatingDock$Blocks", "positions", "[I", true)
  | _ => ("FloatingDock$Blocks", "count", "I", false)
theorem mT4_in : ∀ w ∈ u_ws "FloatingDock$Blocks" mT4 2, w ∈ gtbl := mGs [(1, 140), (1, 142)] (by decide +kernel)
theorem mT4_ty : ∀ k, k < 2 → (parseFieldDescriptor (mT4 k).2.2.1).isSome = true := by decide +kernel
theorem mT4_nm : ∀ a, a < 2 → ∀ b, b < 2 → a ≠ b → (mT4 a).2.1 ≠ (mT4 b).2.1 := by decide +kernel
def mT5 : u_T := fun k => match k with
  | 0 => ("FloatingDock$History", "states", "[LFloatingDock$Dock;", true)
  | 1 => ("FloatingDock$History", "next", "I", false)
  | _ => ("FloatingDock$History", "count", "I", false)
theorem mT5_in : ∀ w ∈ u_ws "FloatingDock$History" mT5 3, w ∈ gtbl := mGs [(1, 191), (1, 193), (1, 195)] (by decide +kernel)
theorem mT5_ty : ∀ k, k < 3 → (parseFieldDescriptor (mT5 k).2.2.1).isSome = true := by decide +kernel
theorem mT5_nm : ∀ a, a < 3 → ∀ b, b < 3 → a ≠ b → (mT5 a).2.1 ≠ (mT5 b).2.1 := by decide +kernel
def mT6 : u_T := fun k => match k with
  | 0 => ("FloatingDock$Fitting", "gaps", "[I", true)
  | 1 => ("FloatingDock$Fitting", "gapCount", "I", false)
  | 2 => ("FloatingDock$Fitting", "lengths", "[I", true)
  | 3 => ("FloatingDock$Fitting", "waiting", "I", false)
  | 4 => ("FloatingDock$Fitting", "metresOf", "[I", true)
  | _ => ("FloatingDock$Fitting", "fits", "[Z", true)
theorem mT6_in : ∀ w ∈ u_ws "FloatingDock$Fitting" mT6 6, w ∈ gtbl := mGs [(1, 210), (1, 212), (1, 214), (1, 216), (1, 218), (1, 220)] (by decide +kernel)
theorem mT6_ty : ∀ k, k < 6 → (parseFieldDescriptor (mT6 k).2.2.1).isSome = true := by decide +kernel
theorem mT6_nm : ∀ a, a < 6 → ∀ b, b < 6 → a ≠ b → (mT6 a).2.1 ≠ (mT6 b).2.1 := by decide +kernel
def mT7 : u_T := fun k => match k with
  | 0 => ("FloatingDock$CommandText", "text", "Ljava/lang/StringBuilder;", true)
  | 1 => ("FloatingDock$CommandText", "position", "I", false)
  | 2 => ("FloatingDock$CommandText", "furthest", "I", false)
  | 3 => ("FloatingDock$CommandText", "commandsRead", "I", false)
  | 4 => ("FloatingDock$CommandText", "form", "LFloatingDock$Form;", false)
  | 5 => ("FloatingDock$CommandText", "numbers", "[I", true)
  | _ => ("FloatingDock$CommandText", "numbersRead", "I", false)
theorem mT7_in : ∀ w ∈ u_ws "FloatingDock$CommandText" mT7 7, w ∈ gtbl := mGs [(2, 35), (2, 37), (2, 39), (2, 41), (2, 43), (2, 45), (2, 47)] (by decide +kernel)
theorem mT7_ty : ∀ k, k < 7 → (parseFieldDescriptor (mT7 k).2.2.1).isSome = true := by decide +kernel
theorem mT7_nm : ∀ a, a < 7 → ∀ b, b < 7 → a ≠ b → (mT7 a).2.1 ≠ (mT7 b).2.1 := by decide +kernel
def mT8 : u_T := fun k => match k with
  | 0 => ("java/lang/AbstractStringBuilder", "value", "[B", false)
  | 1 => ("java/lang/AbstractStringBuilder", "coder", "B", false)
  | 2 => ("java/lang/AbstractStringBuilder", "maybeLatin1", "Z", false)
  | _ => ("java/lang/AbstractStringBuilder", "count", "I", false)
theorem mT8_in : ∀ w ∈ u_ws "java/lang/StringBuilder" mT8 4, w ∈ gtbl := mGs [(2, 13), (2, 15), (2, 17), (2, 19)] (by decide +kernel)
theorem mT8_ty : ∀ k, k < 4 → (parseFieldDescriptor (mT8 k).2.2.1).isSome = true := by decide +kernel
theorem mT8_nm : ∀ a, a < 4 → ∀ b, b < 4 → a ≠ b → (mT8 a).2.1 ≠ (mT8 b).2.1 := by decide +kernel
def mT9 : u_T := fun k => match k with
  | 0 => ("FloatingDockModel", "now", "[I", true)
  | 1 => ("FloatingDockModel", "before", "[I", true)
  | 2 => ("FloatingDockModel", "saved", "[I", true)
  | 3 => ("FloatingDockModel", "history", "[I", true)
  | 4 => ("FloatingDockModel", "isSaved", "Z", false)
  | 5 => ("FloatingDockModel", "remembered", "I", false)
  | 6 => ("FloatingDockModel", "errorAt", "I", false)
  | 7 => ("FloatingDockModel", "failedAt", "I", false)
  | 8 => ("FloatingDockModel", "reason", "I", false)
  | 9 => ("FloatingDockModel", "text", "[I", true)
  | 10 => ("FloatingDockModel", "typed", "I", false)
  | 11 => ("FloatingDockModel", "line", "[I", true)
  | 12 => ("FloatingDockModel", "lined", "I", false)
  | 13 => ("FloatingDockModel", "thrown", "I", false)
  | 14 => ("FloatingDockModel", "fits", "[Z", true)
  | 15 => ("FloatingDockModel", "size", "I", false)
  | 16 => ("FloatingDockModel", "spot", "I", false)
  | 17 => ("FloatingDockModel", "wrong", "I", false)
  | 18 => ("FloatingDockModel", "told", "I", false)
  | _ => ("FloatingDockModel", "numbers", "[I", true)
theorem mT9_in : ∀ w ∈ u_ws "FloatingDockModel" mT9 20, w ∈ gtbl := mGs [(7, 227), (7, 229), (7, 231), (7, 233), (7, 235), (7, 237), (7, 239), (8, 1), (8, 3), (8, 5), (8, 7), (8, 9), (8, 11), (8, 13), (8, 15), (8, 17), (8, 19), (8, 21), (8, 23), (8, 25)] (by decide +kernel)
theorem mT9_ty : ∀ k, k < 20 → (parseFieldDescriptor (mT9 k).2.2.1).isSome = true := by decide +kernel
theorem mT9_nm : ∀ a, a < 20 → ∀ b, b < 20 → a ≠ b → (mT9 a).2.1 ≠ (mT9 b).2.1 := by decide +kernel
def mTe : u_T := fun _ => ("", "", "", false)
def mCl : List vw_C := [("FloatingDock", mT0, 11), ("FloatingDock$Dock", mT1, 8), ("FloatingDock$Fleet", mT2, 3), ("FloatingDock$Ship", mT3, 9), ("FloatingDock$Blocks", mT4, 2), ("FloatingDock$History", mT5, 3), ("FloatingDock$Fitting", mT6, 6), ("FloatingDock$CommandText", mT7, 7), ("java/lang/StringBuilder", mT8, 4), ("FloatingDockModel", mT9, 20), ("java/util/NoSuchElementException", mTe, 0), ("java/lang/IllegalArgumentException", mTe, 0), ("java/lang/IllegalStateException", mTe, 0), ("java/lang/UnsupportedOperationException", mTe, 0), ("java/lang/IndexOutOfBoundsException", mTe, 0), ("java/lang/ArithmeticException", mTe, 0)]
def mClOK (r : vw_C) : Prop := (∀ w ∈ u_ws r.1 r.2.1 r.2.2, w ∈ gtbl) ∧ (∀ k, k < r.2.2 → (parseFieldDescriptor (r.2.1 k).2.2.1).isSome = true) ∧ (∀ a, a < r.2.2 → ∀ b, b < r.2.2 → a ≠ b → (r.2.1 a).2.1 ≠ (r.2.1 b).2.1)
theorem mClOK_e (C : String) : mClOK (C, mTe, 0) := ⟨fun w h => (by simp [u_ws] at h), fun k h => absurd h (Nat.not_lt_zero k), fun a h => absurd h (Nat.not_lt_zero a)⟩
theorem mCl_ok : ∀ r ∈ mCl, mClOK r := by
  intro r hr
  simp only [mCl, List.mem_cons, List.not_mem_nil, or_false] at hr
  rcases hr with rfl | rfl | rfl | rfl | rfl | rfl | rfl | rfl | rfl | rfl | rfl | rfl | rfl | rfl | rfl | rfl
  · exact ⟨mT0_in, mT0_ty, mT0_nm⟩
  · exact ⟨mT1_in, mT1_ty, mT1_nm⟩
  · exact ⟨mT2_in, mT2_ty, mT2_nm⟩
  · exact ⟨mT3_in, mT3_ty, mT3_nm⟩
  · exact ⟨mT4_in, mT4_ty, mT4_nm⟩
  · exact ⟨mT5_in, mT5_ty, mT5_nm⟩
  · exact ⟨mT6_in, mT6_ty, mT6_nm⟩
  · exact ⟨mT7_in, mT7_ty, mT7_nm⟩
  · exact ⟨mT8_in, mT8_ty, mT8_nm⟩
  · exact ⟨mT9_in, mT9_ty, mT9_nm⟩
  · exact mClOK_e _
  · exact mClOK_e _
  · exact mClOK_e _
  · exact mClOK_e _
  · exact mClOK_e _
  · exact mClOK_e _
end
section
/-! what lies in the heap ahead of the law, by numbers -/
abbrev mW : Type := va_G × (Nat → ClassId) × Nat × (Nat → Nat) × Value × Nat × (Nat → Int32)
abbrev mwD (Θ : mW) : va_G := Θ.1
abbrev mwtC (Θ : mW) : Nat → ClassId := Θ.2.1
abbrev mwB (Θ : mW) : Nat := Θ.2.2.1
abbrev mwad (Θ : mW) : Nat → Nat := Θ.2.2.2.1
abbrev mwsq (Θ : mW) : Value := Θ.2.2.2.2.1
abbrev mwL (Θ : mW) : Nat := Θ.2.2.2.2.2.1
abbrev mwxs (Θ : mW) : Nat → Int32 := Θ.2.2.2.2.2.2
def mwA (Θ : mW) : Nat → Prop := fun q => mwB Θ ≤ q
def mTys : List FieldType := [.int, .boolean, .long, .double, .byte, .object "FloatingDock$Ship", .object "FloatingDock$Dock"]
def mTyC (Θ : mW) : List (ClassId × FieldType) := [(mwtC Θ 0, .int), (mwtC Θ 1, .boolean), (mwtC Θ 2, .long), (mwtC Θ 3, .double), (mwtC Θ 4, .byte), (mwtC Θ 5, .object "FloatingDock$Ship"), (mwtC Θ 6, .object "FloatingDock$Dock")]
def mSt (Θ : mW) : List (String × String × String × Value) := [("java/lang/String", "COMPACT_STRINGS", "Z", .int 1), ("FloatingDock$Form", "OPEN", "LFloatingDock$Form;", .ref (mwad Θ 5)), ("FloatingDock$Form", "ALL", "[LFloatingDock$Form;", .ref (mwad Θ 12)), ("FloatingDock$1", "$SwitchMap$FloatingDock$Form", "[I", .ref (mwad Θ 13)), ("jdk/internal/util/Preconditions", "SIOOBE_FORMATTER", "Ljava/util/function/BiFunction;", mwsq Θ), ("java/lang/Integer", "DigitOnes", "[B", .ref (mwad Θ 41)), ("java/lang/Integer", "DigitTens", "[B", .ref (mwad Θ 42))]
def mTx : List (List Nat) := [[115, 104, 105, 112, 32, 35, 32, 35, 32, 35], [101, 110, 116, 101, 114, 32, 35, 64, 35], [108, 101, 97, 118, 101, 32, 35], [99, 108, 101, 97, 110, 32, 35], [115, 116, 111, 112, 32, 35], [111, 112, 101, 110], [99, 108, 111, 115, 101], [112, 117, 109, 112, 32, 45, 35], [112, 97, 115, 115, 32, 35], [98, 108, 111, 99, 107, 32, 35], [117, 110, 98, 108, 111, 99, 107, 32, 35], [112, 97, 121, 32, 35, 43, 35], [115, 104, 105, 112, 32, 101, 110, 116, 101, 114, 32, 108, 101, 97, 118, 101, 32, 99, 108, 101, 97, 110, 32, 115, 116, 111, 112, 32, 111, 112, 101, 110, 99, 108, 111, 115, 101, 112, 117, 109, 112, 32, 112, 97, 115, 115, 32, 98, 108, 111, 99, 107, 32, 117, 110, 98, 108, 111, 99, 107, 32, 112, 97, 121, 32]]
/-- the letter j of the constant text i -/
def mLet (i j : Nat) : Nat := (mTx.getD i []).getD j 0
def mLen (i : Nat) : Nat := (mTx.getD i []).length
/-- arrays: number, type, length, contents -/
def mOA (Θ : mW) : List (Nat × FieldType × Nat × (Nat → Value)) := [(12, .object "FloatingDock$Form", 12, fun j => .ref (mwad Θ j)), (13, .int, 12, fun j => .int (nI (j + 1))), (26, .byte, 10, fun j => .int (nI (mLet 0 j))), (27, .byte, 9, fun j => .int (nI (mLet 1 j))), (28, .byte, 7, fun j => .int (nI (mLet 2 j))), (29, .byte, 7, fun j => .int (nI (mLet 3 j))), (30, .byte, 6, fun j => .int (nI (mLet 4 j))), (31, .byte, 4, fun j => .int (nI (mLet 5 j))), (32, .byte, 5, fun j => .int (nI (mLet 6 j))), (33, .byte, 7, fun j => .int (nI (mLet 7 j))), (34, .byte, 6, fun j => .int (nI (mLet 8 j))), (35, .byte, 7, fun j => .int (nI (mLet 9 j))), (36, .byte, 9, fun j => .int (nI (mLet 10 j))), (37, .byte, 7, fun j => .int (nI (mLet 11 j))), (39, .byte, 65, fun j => .int (nI (mLet 12 j))), (40, .int, mwL Θ, fun j => .int (mwxs Θ j)), (41, .byte, 100, fun j => .int (nI (48 + j % 10))), (42, .byte, 100, fun j => .int (nI (48 + j / 10)))]
/-- fields: number, declarer, name, descriptor, value -/
def mOF (Θ : mW) : List (Nat × String × String × String × Value) := [(0, "java/lang/Enum", "ordinal", "I", .int 0), (1, "java/lang/Enum", "ordinal", "I", .int 1), (2, "java/lang/Enum", "ordinal", "I", .int 2), (3, "java/lang/Enum", "ordinal", "I", .int 3), (4, "java/lang/Enum", "ordinal", "I", .int 4), (5, "java/lang/Enum", "ordinal", "I", .int 5), (6, "java/lang/Enum", "ordinal", "I", .int 6), (7, "java/lang/Enum", "ordinal", "I", .int 7), (8, "java/lang/Enum", "ordinal", "I", .int 8), (9, "java/lang/Enum", "ordinal", "I", .int 9), (10, "java/lang/Enum", "ordinal", "I", .int 10), (11, "java/lang/Enum", "ordinal", "I", .int 11), (0, "FloatingDock$Form", "pattern", "Ljava/lang/String;", .ref (mwad Θ 14)), (1, "FloatingDock$Form", "pattern", "Ljava/lang/String;", .ref (mwad Θ 15)), (2, "FloatingDock$Form", "pattern", "Ljava/lang/String;", .ref (mwad Θ 16)), (3, "FloatingDock$Form", "pattern", "Ljava/lang/String;", .ref (mwad Θ 17)), (4, "FloatingDock$Form", "pattern", "Ljava/lang/String;", .ref (mwad Θ 18)), (5, "FloatingDock$Form", "pattern", "Ljava/lang/String;", .ref (mwad Θ 19)), (6, "FloatingDock$Form", "pattern", "Ljava/lang/String;", .ref (mwad Θ 20)), (7, "FloatingDock$Form", "pattern", "Ljava/lang/String;", .ref (mwad Θ 21)), (8, "FloatingDock$Form", "pattern", "Ljava/lang/String;", .ref (mwad Θ 22)), (9, "FloatingDock$Form", "pattern", "Ljava/lang/String;", .ref (mwad Θ 23)), (10, "FloatingDock$Form", "pattern", "Ljava/lang/String;", .ref (mwad Θ 24)), (11, "FloatingDock$Form", "pattern", "Ljava/lang/String;", .ref (mwad Θ 25)), (14, "java/lang/String", "coder", "B", .int 0), (15, "java/lang/String", "coder", "B", .int 0), (16, "java/lang/String", "coder", "B", .int 0), (17, "java/lang/String", "coder", "B", .int 0), (18, "java/lang/String", "coder", "B", .int 0), (19, "java/lang/String", "coder", "B", .int 0), (20, "java/lang/String", "coder", "B", .int 0), (21, "java/lang/String", "coder", "B", .int 0), (22, "java/lang/String", "coder", "B", .int 0), (23, "java/lang/String", "coder", "B", .int 0), (24, "java/lang/String", "coder", "B", .int 0), (25, "java/lang/String", "coder", "B", .int 0), (38, "java/lang/String", "coder", "B", .int 0), (14, "java/lang/String", "value", "[B", .ref (mwad Θ 26)), (15, "java/lang/String", "value", "[B", .ref (mwad Θ 27)), (16, "java/lang/String", "value", "[B", .ref (mwad Θ 28)), (17, "java/lang/String", "value", "[B", .ref (mwad Θ 29)), (18, "java/lang/String", "value", "[B", .ref (mwad Θ 30)), (19, "java/lang/String", "value", "[B", .ref (mwad Θ 31)), (20, "java/lang/String", "value", "[B", .ref (mwad Θ 32)), (21, "java/lang/String", "value", "[B", .ref (mwad Θ 33)), (22, "java/lang/String", "value", "[B", .ref (mwad Θ 34)), (23, "java/lang/String", "value", "[B", .ref (mwad Θ 35)), (24, "java/lang/String", "value", "[B", .ref (mwad Θ 36)), (25, "java/lang/String", "value", "[B", .ref (mwad Θ 37)), (38, "java/lang/String", "value", "[B", .ref (mwad Θ 39))]
def mOO : List (Nat × String) := [(0, "FloatingDock$Form"), (1, "FloatingDock$Form"), (2, "FloatingDock$Form"), (3, "FloatingDock$Form"), (4, "FloatingDock$Form"), (5, "FloatingDock$Form"), (6, "FloatingDock$Form"), (7, "FloatingDock$Form"), (8, "FloatingDock$Form"), (9, "FloatingDock$Form"), (10, "FloatingDock$Form"), (11, "FloatingDock$Form"), (14, "java/lang/String"), (15, "java/lang/String"), (16, "java/lang/String"), (17, "java/lang/String"), (18, "java/lang/String"), (19, "java/lang/String"), (20, "java/lang/String"), (21, "java/lang/String"), (22, "java/lang/String"), (23, "java/lang/String"), (24, "java/lang/String"), (25, "java/lang/String"), (38, "java/lang/String")]
def mSR : List (Nat × String × Nat × String) := [(38, "FloatingDockModel", 253, "ship enter leave clean stop openclosepump pass block unblock pay "), (43, "java/lang/StringIndexOutOfBoundsException", 13, "String index out of range: "), (44, "java/util/Arrays", 337, " > "), (45, "java/util/Arrays", 48, "fromIndex("), (46, "java/util/Arrays", 57, ") > toIndex("), (47, "java/util/Arrays", 59, ")"), (48, "java/lang/ArrayIndexOutOfBoundsException", 13, "Array index out of range: "), (49, "FloatingDock$Fleet", 52, "a number is out of range"), (50, "FloatingDock$Fleet", 55, "there are 8 ships"), (51, "FloatingDock$Fleet", 32, "there is no such ship"), (52, "FloatingDock$Fleet", 64, "the ship is in the dock or has a bill"), (53, "FloatingDock$Dock", 61, "the ship would not lie within the dock"), (54, "FloatingDock$Dock", 72, "the ship is in the dock or the gate is closed"), (55, "FloatingDock", 376, "refused"), (56, "FloatingDock$Fleet", 47, "the ship is not in the dock"), (57, "FloatingDock$Dock", 97, "the gate is closed"), (58, "FloatingDock", 100, "no such place"), (59, "FloatingDock", 146, "nothing was refused"), (60, "FloatingDock$Dock", 122, "the levels differ too much"), (61, "FloatingDock$Dock", 125, "the rate is out of range"), (62, "FloatingDock$Sea", 11, "the hour is out of range"), (63, "FloatingDock$Dock", 127, "the number of hours is out of range"), (64, "FloatingDock$Dock", 169, "the ship would not be afloat in time"), (65, "FloatingDock$Blocks", 27, "the position is out of range"), (66, "FloatingDock$Dock", 180, "there are 20 blocks or a block is there"), (67, "FloatingDock$Dock", 197, "the level is too high or a ship is there"), (68, "FloatingDock$Dock", 191, "no block is there"), (69, "FloatingDock", 212, "no ship is there"), (70, "FloatingDock$Fleet", 90, "the length is out of range"), (71, "FloatingDock", 379, "there is no such gap"), (72, "FloatingDock$Dock", 202, "the number of coins is out of range"), (73, "FloatingDock$Dock", 204, "the bill is less"), (74, "FloatingDock", 258, "no such rank"), (75, "FloatingDock$CommandText", 44, "the character is out of range"), (76, "FloatingDock$CommandText", 55, "the command text is full"), (77, "FloatingDock", 272, "not a command text"), (78, "FloatingDock", 293, "a command failed"), (79, "FloatingDock", 296, "no error position was set"), (80, "FloatingDock", 298, "no command has failed"), (81, "FloatingDock", 317, "no such index"), (82, "FloatingDock", 324, "there are no ships"), (83, "FloatingDock", 345, "there is no change to undo"), (84, "FloatingDock", 351, "there is no snapshot")]
def mIsN : Cond → Bool
  | .fieldLinkNest _ _ _ _ _ _ => true
  | .methodLinkNest _ _ _ _ => true
  | .castable _ _ => true
  | .declares _ => true
  | _ => false
/-- words that a warmed machine keeps by laws of their own -/
def mNs : List Cond := lw_tbl.filter mIsN
theorem mN {w : Cond} (q : Nat × Nat) (h : (decide (mAt q = some w) && mIsN w) = true) : w ∈ mNs := by
  rw [Bool.and_eq_true] at h
  exact List.mem_filter.mpr ⟨mAt_in (of_decide_eq_true h.1), h.2⟩
def mNc : List (String × String) := [("java/util/NoSuchElementException", "java/lang/IllegalArgumentException"), ("java/util/NoSuchElementException", "java/lang/IllegalStateException"), ("java/util/NoSuchElementException", "java/lang/UnsupportedOperationException"), ("java/util/NoSuchElementException", "java/lang/IndexOutOfBoundsException"), ("java/util/NoSuchElementException", "java/lang/ArithmeticException"), ("java/lang/IllegalArgumentException", "java/util/NoSuchElementException"), ("java/lang/IllegalArgumentException", "java/lang/IllegalStateException"), ("java/lang/IllegalArgumentException", "java/lang/UnsupportedOperationException"), ("java/lang/IllegalArgumentException", "java/lang/IndexOutOfBoundsException"), ("java/lang/IllegalArgumentException", "java/lang/ArithmeticException"), ("java/lang/IllegalStateException", "java/util/NoSuchElementException"), ("java/lang/IllegalStateException", "java/lang/IllegalArgumentException"), ("java/lang/IllegalStateException", "java/lang/UnsupportedOperationException"), ("java/lang/IllegalStateException", "java/lang/IndexOutOfBoundsException"), ("java/lang/IllegalStateException", "java/lang/ArithmeticException"), ("java/lang/UnsupportedOperationException", "java/util/NoSuchElementException"), ("java/lang/UnsupportedOperationException", "java/lang/IllegalArgumentException"), ("java/lang/UnsupportedOperationException", "java/lang/IllegalStateException"), ("java/lang/UnsupportedOperationException", "java/lang/IndexOutOfBoundsException"), ("java/lang/UnsupportedOperationException", "java/lang/ArithmeticException"), ("java/lang/IndexOutOfBoundsException", "java/util/NoSuchElementException"), ("java/lang/IndexOutOfBoundsException", "java/lang/IllegalArgumentException"), ("java/lang/IndexOutOfBoundsException", "java/lang/IllegalStateException"), ("java/lang/IndexOutOfBoundsException", "java/lang/UnsupportedOperationException"), ("java/lang/IndexOutOfBoundsException", "java/lang/ArithmeticException"), ("java/lang/ArithmeticException", "java/util/NoSuchElementException"), ("java/lang/ArithmeticException", "java/lang/IllegalArgumentException"), ("java/lang/ArithmeticException", "java/lang/IllegalStateException"), ("java/lang/ArithmeticException", "java/lang/UnsupportedOperationException"), ("java/lang/ArithmeticException", "java/lang/IndexOutOfBoundsException")]
def mKS (Θ : mW) (U : State) (H : Heap) : Prop :=
  va_K (mwD Θ) mCl (mTyC Θ) U ∧ (∀ q ∈ mSt Θ, va_Z q.1 q.2.1 q.2.2.1 q.2.2.2 (mwA Θ) U H) ∧ (∀ q ∈ mOA Θ, va_T q.2.1 (mwad Θ q.1) q.2.2.1 q.2.2.2 (mwA Θ) U H) ∧
  (∀ q ∈ mOF Θ, va_OF q.2.1 q.2.2.1 q.2.2.2.1 q.2.2.2.2 (mwad Θ q.1) (mwA Θ) U H) ∧ (∀ q ∈ mOO, va_O q.2 (mwad Θ q.1) (mwA Θ) U H) ∧ (∀ q ∈ mSR, vk_R q.2.1 q.2.2.1 q.2.2.2 (mwad Θ q.1) U) ∧
  (∀ w ∈ mNs, va_Nw w U) ∧ (∀ q ∈ mNc, va_Nc q.1 q.2 U) ∧ vx_Zq Bundle.tN "UNASSIGNED_STACK" Bundle.steD (mwA Θ) U H ∧ vx_Zq Bundle.tN "SUPPRESSED_SENTINEL" Bundle.listD (mwA Θ) U H ∧ mwB Θ ≤ H.size
theorem mNs_warm {w : Cond} (hn : mIsN w = true) {u U : State} (hW : u.WarmedH U.vm) (h : va_Nw w u) : va_Nw w U := by
  cases w <;> first | exact va_Nw.warmF hW h | exact va_Nw.warmM hW h | exact va_Nw.warmC hW h | exact va_Nw.warmD hW h | cases hn
theorem mKS.moved {Θ : mW} {u U : State} {H : Heap} (hW : u.WarmedH U.vm) (h : mKS Θ u H) : mKS Θ U H := by
  obtain ⟨h1, h2, h3, h4, h5, h6, h7, h8, h9, h10, h11⟩ := h
  exact ⟨va_K.moved hW.alike h1, fun q hq => va_Z.moved hW.alike (h2 q hq), fun q hq => va_T.moved hW.alike (h3 q hq), fun q hq => va_OF.moved hW.alike (h4 q hq), fun q hq => va_O.moved hW.alike (h5 q hq), fun q hq => vk_R.warm hW (h6 q hq), fun w hw => mNs_warm (List.mem_filter.mp hw).2 hW (h7 w hw), fun q hq => va_Nc.moved hW.alike (h8 q hq), vx_Zq.moved hW.alike h9, vx_Zq.moved hW.alike h10, h11⟩
theorem mKS.same {Θ : mW} {u U : State} {H : Heap} (hv : u.vm = U.vm) (h : mKS Θ u H) : mKS Θ U H := h.moved (hv ▸ State.WarmedH.refl u)
theorem mKS.kept {Θ : mW} {U : State} {H H1 : Heap} (h : mKS Θ U H) (hz : H.size ≤ H1.size) (hq : ∀ a : Nat, a < mwB Θ → H1[a]? = H[a]?) : mKS Θ U H1 := by
  obtain ⟨h1, h2, h3, h4, h5, h6, h7, h8, h9, h10, h11⟩ := h
  have hk : ∀ a : Nat, a < H.size → ¬ mwA Θ a → H1[a]? = H[a]? := fun a _ ha => hq a (Nat.not_le.mp ha)
  exact ⟨h1, fun q hq => (h2 q hq).kept hk, fun q hq => (h3 q hq).kept hk, fun q hq => (h4 q hq).kept hk, fun q hq => (h5 q hq).kept hk, h6, h7, h8, h9.kept hk, h10.kept hk, Nat.le_trans h11 hz⟩
end
section
/-! A JUDGEMENT over a heap by numbers: mX says of a method's frame how it ends (what is returned or thrown, which heap); mM says it of a method. -/
abbrev mE : Type := (Nat × vp_A) ⊕ (Nat × List Value)
abbrev mH : Type := List mE
/-- the end: returned, or thrown (the number of the class) -/
abbrev mO : Type := Option Value ⊕ Nat
/-- a method: name, bytes, locals, result, handlers -/
abbrev mM : Type := MethodName × ByteArray × Nat × Option FieldType × List (Nat × Nat × Nat × Nat)
abbrev mMy (M : mM) : MethodName := M.1
abbrev mMc (M : mM) : ByteArray := M.2.1
abbrev mMl (M : mM) : Nat := M.2.2.1
abbrev mMr (M : mM) : Option FieldType := M.2.2.2.1
abbrev mMh (M : mM) : List (Nat × Nat × Nat × Nat) := M.2.2.2.2
def mMw (M : mM) : Cond := if (mMh M).isEmpty then .code (mMy M) (mMc M) (mMl M) (mMr M) else .codeWith (mMy M) (mMc M) (mMl M) (mMr M) (mMh M)
def mWs (M : mM) : List Cond := mMw M :: gtbl
def mEx (n : Nat) : String := (mCl.getD n ("", mTe, 0)).1
def mcv (Θ : mW) : mE → va_E
  | .inl a => .inl (mwtC Θ a.1, a.2)
  | .inr o => .inr o
def mRel (Θ : mW) (h : mH) (H : Heap) : Prop := H.size = mwB Θ + h.length ∧ ∀ (k : Nat) (e : mE), h[k]? = some e → va_at (mwD Θ) mCl (mwB Θ + k, mcv Θ e) H
def gt (Θ : mW) (h : mH) (q : Nat) : Option mE := if mwB Θ ≤ q then h[q - mwB Θ]? else none
def pt (Θ : mW) (h : mH) (q : Nat) (e : mE) : mH := h.set (q - mwB Θ) e
def msz1 : mE → Nat
  | .inl a => a.2.1
  | .inr o => if o.2.length = 0 then 6 else o.2.length
def msz (h : mH) : Nat := (h.map msz1).sum
def mOld (Θ : mW) (H0 H : Heap) : Prop := ∀ q : Nat, q < mwB Θ → H[q]? = H0[q]?
def mLoc (ls : Array Slot) (n : Nat) (loc : List (Option Value)) : Prop := ls.size = n ∧ lv_wf ls ∧ loc.length = n ∧ ∀ (i : Nat) (v : Value), loc[i]? = some (some v) → ls[i]? = some (.val v)
theorem gt_some {Θ : mW} {h : mH} {q : Nat} {e : mE} (hg : gt Θ h q = some e) : mwB Θ ≤ q ∧ h[q - mwB Θ]? = some e := by
  unfold gt at hg
  split at hg
  · rename_i h1; exact ⟨h1, hg⟩
  · cases hg
theorem mRel.get {Θ : mW} {h : mH} {H : Heap} {q : Nat} {e : mE} (hR : mRel Θ h H) (hg : gt Θ h q = some e) : va_at (mwD Θ) mCl (q, mcv Θ e) H := by
  obtain ⟨h1, h2⟩ := gt_some hg
  have h3 := hR.2 _ _ h2
  rw [show mwB Θ + (q - mwB Θ) = q by omega] at h3
  exact h3
theorem pt_length {Θ : mW} {h : mH} {q : Nat} {e : mE} : (pt Θ h q e).length = h.length := by simp [pt]
theorem gt_lt {Θ : mW} {h : mH} {q : Nat} {e : mE} (hg : gt Θ h q = some e) : q - mwB Θ < h.length := by
  obtain ⟨-, h2⟩ := gt_some hg
  exact (List.getElem?_eq_some_iff.mp h2).1
theorem mRel.put {Θ : mW} {h : mH} {H H1 : Heap} {q : Nat} {e0 e : mE} (hR : mRel Θ h H) (hg : gt Θ h q = some e0) (hz : H1.size = H.size) (ho : ∀ x : Nat, x ≠ q → H1[x]? = H[x]?) (he : va_at (mwD Θ) mCl (q, mcv Θ e) H1) : mRel Θ (pt Θ h q e) H1 := by
  obtain ⟨h1, h2⟩ := gt_some hg
  have hl := gt_lt hg
  refine ⟨by rw [hz, pt_length]; exact hR.1, fun k x hk => ?_⟩
  unfold pt at hk
  by_cases hq : k = q - mwB Θ
  · subst hq
    rw [List.getElem?_set_self hl] at hk
    cases hk
    rw [show mwB Θ + (q - mwB Θ) = q by omega]
    exact he
  · rw [List.getElem?_set_ne (fun z => hq z.symm)] at hk
    exact (hR.2 k x hk).kept (ho _ (by show mwB Θ + k ≠ q; omega))
theorem mRel.push {Θ : mW} {h : mH} {H H1 : Heap} {e : mE} (hR : mRel Θ h H) (hz : H1.size = H.size + 1) (ho : ∀ x : Nat, x < H.size → H1[x]? = H[x]?) (he : va_at (mwD Θ) mCl (H.size, mcv Θ e) H1) : mRel Θ (h ++ [e]) H1 := by
  refine ⟨by rw [hz, hR.1, List.length_append, List.length_singleton]; omega, fun k x hk => ?_⟩
  by_cases hq : k < h.length
  · rw [List.getElem?_append_left hq] at hk
    exact (hR.2 k x hk).kept (ho _ (by show mwB Θ + k < _; rw [hR.1]; omega))
  · have hl := (List.getElem?_eq_some_iff.mp hk).1
    rw [List.length_append, List.length_singleton] at hl
    rw [List.getElem?_append_right (by omega), show k - h.length = 0 by omega] at hk
    cases hk
    rw [show mwB Θ + k = H.size by rw [hR.1]; omega]
    exact he
theorem sum_set : ∀ (l : List Nat) (k : Nat) (a : Nat), l[k]? = some a → (l.set k a).sum = l.sum
  | [], k, a, h => by simp at h
  | x :: l, 0, a, h => by simp at h; simp [h]
  | x :: l, k + 1, a, h => by
    simp only [List.getElem?_cons_succ] at h
    simp only [List.set_cons_succ, List.sum_cons, sum_set l k a h]
theorem msz_pt {Θ : mW} {h : mH} {q : Nat} {e0 e : mE} (hg : gt Θ h q = some e0) (he : msz1 e = msz1 e0) : msz (pt Θ h q e) = msz h := by
  obtain ⟨-, h2⟩ := gt_some hg
  unfold msz pt
  rw [List.map_set]
  exact sum_set _ _ _ (by rw [List.getElem?_map, h2, he]; rfl)
theorem msz_app {h : mH} {e : mE} : msz (h ++ [e]) = msz h + msz1 e := by simp [msz]
theorem gt_pt {Θ : mW} {h : mH} {q x : Nat} {e0 e : mE} (hg : gt Θ h q = some e0) : gt Θ (pt Θ h q e) x = if x = q then some e else gt Θ h x := by
  obtain ⟨h1, h2⟩ := gt_some hg
  have hl := gt_lt hg
  unfold gt pt
  by_cases hx : x = q
  · subst hx
    rw [if_pos h1, if_pos rfl, List.getElem?_set_self hl]
  · rw [if_neg hx]
    by_cases hb : mwB Θ ≤ x
    · rw [if_pos hb, if_pos hb, List.getElem?_set_ne (by omega)]
    · rw [if_neg hb, if_neg hb]
theorem gt_app {Θ : mW} {h : mH} {q : Nat} {e e1 : mE} (hg : gt Θ h q = some e) : gt Θ (h ++ [e1]) q = some e := by
  obtain ⟨h1, h2⟩ := gt_some hg
  have hl := gt_lt hg
  unfold gt
  rw [if_pos h1, List.getElem?_append_left hl, h2]
theorem gt_new {Θ : mW} {h : mH} {e : mE} : gt Θ (h ++ [e]) (mwB Θ + h.length) = some e := by
  unfold gt
  rw [if_pos (Nat.le_add_right _ _), show mwB Θ + h.length - mwB Θ = h.length by omega, List.getElem?_append_right (Nat.le_refl _)]
  simp
/-! locals -/
def mPs (i : Nat) : List (Option Value) → List (Nat × Value)
  | [] => []
  | none :: r => mPs (i + 1) r
  | some v :: r => (i, v) :: mPs (i + 1) r
theorem mPs_mem : ∀ (l : List (Option Value)) (i j : Nat) (v : Value), l[j]? = some (some v) ↔ (i + j, v) ∈ mPs i l
  | [], i, j, v => by simp [mPs]
  | none :: r, i, 0, v => by
    simp only [List.getElem?_cons_zero, mPs, Nat.add_zero]
    constructor
    · intro h; cases h
    · intro h
      exfalso
      have : ∀ (l : List (Option Value)) (k : Nat) (q : Nat × Value), q ∈ mPs k l → k ≤ q.1 := by
        intro l
        induction l with
        | nil => intro k q h; simp [mPs] at h
        | cons a l ih =>
          intro k q h
          cases a with
          | none => exact Nat.le_of_succ_le (ih (k + 1) q h)
          | some v => 
            rcases List.mem_cons.mp h with rfl | h
            · exact Nat.le_refl _
            · exact Nat.le_of_succ_le (ih (k + 1) q h)
      have := this r (i + 1) _ h
      simp at this
      omega
  | none :: r, i, j + 1, v => by
    simp only [List.getElem?_cons_succ, mPs]
    rw [mPs_mem r (i + 1) j v, show i + 1 + j = i + (j + 1) by omega]
  | some w :: r, i, 0, v => by
    simp only [List.getElem?_cons_zero, mPs, Nat.add_zero, List.mem_cons]
    constructor
    · intro h; cases h; exact Or.inl rfl
    · rintro (h | h)
      · cases h; rfl
      · exfalso
        have : ∀ (l : List (Option Value)) (k : Nat) (q : Nat × Value), q ∈ mPs k l → k ≤ q.1 := by
          intro l
          induction l with
          | nil => intro k q h; simp [mPs] at h
          | cons a l ih =>
            intro k q h
            cases a with
            | none => exact Nat.le_of_succ_le (ih (k + 1) q h)
            | some v => 
              rcases List.mem_cons.mp h with rfl | h
              · exact Nat.le_refl _
              · exact Nat.le_of_succ_le (ih (k + 1) q h)
        have := this r (i + 1) _ h
        simp at this
        omega
  | some w :: r, i, j + 1, v => by
    simp only [List.getElem?_cons_succ, mPs, List.mem_cons]
    rw [mPs_mem r (i + 1) j v, show i + 1 + j = i + (j + 1) by omega]
    constructor
    · intro h; exact Or.inr h
    · rintro (h | h)
      · cases h
      · exact h
theorem mLoc.has {ls : Array Slot} {n : Nat} {loc : List (Option Value)} (h : mLoc ls n loc) : lv_has ls n (mPs 0 loc) := by
  refine ⟨h.1, h.2.1, fun q hq => h.2.2.2 q.1 q.2 ?_⟩
  rw [mPs_mem loc 0 q.1 q.2, Nat.zero_add]
  exact hq
theorem mLoc.at {ls : Array Slot} {n : Nat} {loc : List (Option Value)} (h : mLoc ls n loc) {i : Nat} {v : Value} (hl : loc[i]? = some (some v)) : ls[i]? = some (.val v) := h.2.2.2 i v hl
/-- what a store at i leaves of the place before it -/
def mSt1 (loc : List (Option Value)) (i : Nat) : Bool := match i with
  | 0 => true
  | j + 1 => match loc[j]? with
    | some (some v) => v.category == 1
    | _ => true
theorem mLoc.set1 {ls ls' : Array Slot} {n i : Nat} {v : Value} {loc : List (Option Value)} (h : mLoc ls n loc) (hi : i < n) (hk : mSt1 loc i = true) (h' : lv_has ls' n ((i, v) :: (mPs 0 loc).filter (fun q => !(q.1 == i) && !(q.1 + 1 == i && q.2.category == 2)))) : mLoc ls' n (loc.set i (some v)) := by
  refine ⟨h'.1, h'.2.1, by rw [List.length_set]; exact h.2.2.1, fun j w hj => ?_⟩
  by_cases hq : j = i
  · subst hq
    rw [List.getElem?_set_self (by rw [h.2.2.1]; exact hi)] at hj
    cases hj
    exact h'.2.2 (j, v) List.mem_cons_self
  · rw [List.getElem?_set_ne (fun z => hq z.symm)] at hj
    refine h'.2.2 (j, w) (List.mem_cons_of_mem _ (List.mem_filter.mpr ⟨?_, ?_⟩))
    · have := (mPs_mem loc 0 j w).mp hj
      rwa [Nat.zero_add] at this
    · simp only [Bool.and_eq_true, Bool.not_eq_true', beq_eq_false_iff_ne, ne_eq, Bool.and_eq_false_iff]
      refine ⟨hq, ?_⟩
      by_cases h2 : j + 1 = i
      · subst h2
        simp only [mSt1, hj] at hk
        right
        have h3 : w.category = 1 := by simpa using hk
        omega
      · exact Or.inl h2
theorem mLoc.set2 {ls ls' : Array Slot} {n i : Nat} {v : Value} {loc : List (Option Value)} (h : mLoc ls n loc) (hi : i + 1 < n) (hk : mSt1 loc i = true) (h' : lv_has ls' n ((i, v) :: (mPs 0 loc).filter (fun q => !(q.1 == i) && (!(q.1 == i + 1) && !(q.1 + 1 == i && q.2.category == 2))))) : mLoc ls' n ((loc.set i (some v)).set (i + 1) none) := by
  refine ⟨h'.1, h'.2.1, by rw [List.length_set, List.length_set]; exact h.2.2.1, fun j w hj => ?_⟩
  by_cases hq1 : j = i + 1
  · subst hq1
    rw [List.getElem?_set_self (by rw [List.length_set, h.2.2.1]; exact hi)] at hj
    cases hj
  rw [List.getElem?_set_ne (fun z => hq1 z.symm)] at hj
  by_cases hq : j = i
  · subst hq
    rw [List.getElem?_set_self (by rw [h.2.2.1]; omega)] at hj
    cases hj
    exact h'.2.2 (j, v) List.mem_cons_self
  · rw [List.getElem?_set_ne (fun z => hq z.symm)] at hj
    refine h'.2.2 (j, w) (List.mem_cons_of_mem _ (List.mem_filter.mpr ⟨?_, ?_⟩))
    · have := (mPs_mem loc 0 j w).mp hj
      rwa [Nat.zero_add] at this
    · simp only [Bool.and_eq_true, Bool.not_eq_true', beq_eq_false_iff_ne, ne_eq, Bool.and_eq_false_iff]
      refine ⟨hq, hq1, ?_⟩
      by_cases h2 : j + 1 = i
      · subst h2
        simp only [mSt1, hj] at hk
        right
        have h3 : w.category = 1 := by simpa using hk
        omega
      · exact Or.inl h2
/-! the judgements -/
def mQc (Θ : mW) (o : mO) (h' : mH) : Array Value → State → Outcome → State → Prop := fun _ st oc t => (∃ v, o = .inl v ∧ oc = .returned v) ∧ mRel Θ h' t.heap ∧ mOld Θ st.heap t.heap
def mXC (Θ : mW) (o : mO) (h' : mH) : String → State → State → Prop := fun E st t => (∃ n, o = .inr n ∧ E = mEx n) ∧ mRel Θ h' t.heap ∧ mOld Θ st.heap t.heap
def mPc (Θ : mW) (as : List Value) (h : mH) : Array Value → State → Prop := fun a U => a = as.toArray ∧ mRel Θ h U.heap ∧ mKS Θ U U.heap
def mRm (d : Nat) (h h' : mH) : Room := { frames := d, cells := h'.length - h.length, slots := msz h' - msz h, locals := 80 * d }
def mMet (l : Launch) (Θ : mW) (d : Nat) (M : mM) (as : List Value) (h : mH) (o : mO) (h' : mH) : Prop :=
  h.length ≤ h'.length ∧ msz h ≤ msz h' ∧ vx_Met l (mMy M) (mWs M) (mRm d h h') (mPc Θ as h) (mQc Θ o h') (mXC Θ o h') (h'.length - h.length) (msz h' - msz h) (mwA Θ)
def mCtx (l : Launch) (Θ : mW) (d : Nat) (M : mM) (p : Program) (R : Room) (s : State) (m : MethodId) (args : Array Value) (meth : Method) (c : Code) : Prop :=
  l.flags = flags0 ∧ p.tables.exec = Jvm.exec ∧ c.code = mMc M ∧ meth.sig.returnType = mMr M ∧ c.maxLocals = mMl M ∧ (∀ w ∈ gtbl, w.before args s = true) ∧ s.vm.findClass (mMy M).cls = some m.cls ∧ meth.locks = false ∧ meth.name = (mMy M).name ∧ c.exceptionTable.toList = tableOf (mMh M) ∧ mKS Θ s s.heap ∧ d ≤ R.frames ∧ 80 * d ≤ R.locals
def mX (l : Launch) (Θ : mW) (d : Nat) (M : mM) (pc : Nat) (loc : List (Option Value)) (stk : List Value) (h : mH) (o : mO) (h' : mH) : Prop :=
  h.length ≤ h'.length ∧ msz h ≤ msz h' ∧ ∀ (p : Program) (e : Env) (R : Room) (s : State) (m : MethodId) (args : Array Value) (below : List Frame) (meth : Method) (c : Code), mCtx l Θ d M p R s m args meth c →
    ∀ (H : Heap) (locs : List Loc) (cells slots mc ms : Nat) (ls : Array Slot), mRel Θ h H → va_S (mwA Θ) s.heap H locs → mLoc ls (mMl M) loc → cells + (h'.length - h.length) = mc → slots + (msz h' - msz h) = ms → mc ≤ R.cells → ms ≤ R.slots →
      W p l e R s m args below meth c H locs cells slots (vx_MQ below (mQc Θ o h') (mXC Θ o h') args s mc ms (mwA Θ)) (F0 m pc ls stk)
end
section
/-- .. and of its end Q holds -/
def mZ (l : Launch) (Θ : mW) (d : Nat) (M : mM) (pc : Nat) (loc : List (Option Value)) (stk : List Value) (h : mH) (Q : mO → mH → Prop) : Prop := ∃ (o : mO) (h' : mH), Q o h' ∧ mX l Θ d M pc loc stk h o h'
section ZR
variable {l : Launch} {Θ : mW} {d : Nat} {M : mM} {pc : Nat} {loc loc2 : List (Option Value)} {stk stk2 rest : List Value} {h : mH} {o : mO} {h' : mH} {Q : mO → mH → Prop} {p : Program} {R : Room} {s : State} {m : MethodId} {args : Array Value} {meth : Method} {c : Code}
theorem mCtx.exec (C : mCtx l Θ d M p R s m args meth c) : p.tables.exec = Jvm.exec := C.2.1
theorem mCtx.bytes (C : mCtx l Θ d M p R s m args meth c) : c.code = mMc M := C.2.2.1
theorem mCtx.ret (C : mCtx l Θ d M p R s m args meth c) : meth.sig.returnType = mMr M := C.2.2.2.1
theorem mCtx.maxl (C : mCtx l Θ d M p R s m args meth c) : c.maxLocals = mMl M := C.2.2.2.2.1
theorem mCtx.hts (C : mCtx l Θ d M p R s m args meth c) : ∀ w ∈ gtbl, w.before args s = true := C.2.2.2.2.2.1
theorem mCtx.own (C : mCtx l Θ d M p R s m args meth c) : s.vm.findClass (mMy M).cls = some m.cls := C.2.2.2.2.2.2.1
theorem mCtx.locks (C : mCtx l Θ d M p R s m args meth c) : meth.locks = false := C.2.2.2.2.2.2.2.1
theorem mCtx.name (C : mCtx l Θ d M p R s m args meth c) : meth.name = (mMy M).name := C.2.2.2.2.2.2.2.2.1
theorem mCtx.table (C : mCtx l Θ d M p R s m args meth c) : c.exceptionTable.toList = tableOf (mMh M) := C.2.2.2.2.2.2.2.2.2.1
theorem mCtx.ks (C : mCtx l Θ d M p R s m args meth c) : mKS Θ s s.heap := C.2.2.2.2.2.2.2.2.2.2.1
theorem mCtx.frames (C : mCtx l Θ d M p R s m args meth c) : d ≤ R.frames := C.2.2.2.2.2.2.2.2.2.2.2.1
theorem mCtx.room (C : mCtx l Θ d M p R s m args meth c) : 80 * d ≤ R.locals := C.2.2.2.2.2.2.2.2.2.2.2.2
theorem mX.pure {pc2 : Nat} (hs : ∀ (p : Program) (e : Env) (R : Room) (s : State) (m : MethodId) (args : Array Value) (below : List Frame) (meth : Method) (c : Code) (H : Heap) (locs : List Loc) (cells slots : Nat) (Q : State → Prop) (ls : Array Slot), mCtx l Θ d M p R s m args meth c → mLoc ls (mMl M) loc → va_S (mwA Θ) s.heap H locs → (∀ ls', mLoc ls' (mMl M) loc2 → W p l e R s m args below meth c H locs cells slots Q (F0 m pc2 ls' stk2)) → W p l e R s m args below meth c H locs cells slots Q (F0 m pc ls stk))
    (k : mX l Θ d M pc2 loc2 stk2 h o h') : mX l Θ d M pc loc stk h o h' :=
  ⟨k.1, k.2.1, fun p e R s m args below meth c C H locs cells slots mc ms ls hR hS hL h1 h2 h3 h4 => hs p e R s m args below meth c H locs cells slots _ ls C hL hS (fun ls' hL' => k.2.2 p e R s m args below meth c C H locs cells slots mc ms ls' hR hS hL' h1 h2 h3 h4)⟩
theorem mZ.pure {pc2 : Nat} (hs : ∀ (p : Program) (e : Env) (R : Room) (s : State) (m : MethodId) (args : Array Value) (below : List Frame) (meth : Method) (c : Code) (H : Heap) (locs : List Loc) (cells slots : Nat) (Q : State → Prop) (ls : Array Slot), mCtx l Θ d M p R s m args meth c → mLoc ls (mMl M) loc → va_S (mwA Θ) s.heap H locs → (∀ ls', mLoc ls' (mMl M) loc2 → W p l e R s m args below meth c H locs cells slots Q (F0 m pc2 ls' stk2)) → W p l e R s m args below meth c H locs cells slots Q (F0 m pc ls stk))
    (k : mZ l Θ d M pc2 loc2 stk2 h Q) : mZ l Θ d M pc loc stk h Q := by
  obtain ⟨o, h', q, x⟩ := k
  exact ⟨o, h', q, mX.pure hs x⟩
theorem z_iconst {n : Int} {v : Int32} (hd : decode (mMc M) pc = .ok (.iconst n, 1)) (hv : Int32.ofInt n = v) (k : mZ l Θ d M (pc + 1) loc (.int v :: stk) h Q) : mZ l Θ d M (pc) loc stk h Q := mZ.pure (fun p e R s m args below meth c H locs cells slots Q ls C hL hS kk => lv_iconst C.exec C.bytes hd hv (kk ls hL)) k
theorem z_bipush {n : Int} {v : Int32} (hd : decode (mMc M) pc = .ok (.bipush n, 2)) (hv : (Int8.ofInt n).toInt32 = v) (k : mZ l Θ d M (pc + 2) loc (.int v :: stk) h Q) : mZ l Θ d M (pc) loc stk h Q := mZ.pure (fun p e R s m args below meth c H locs cells slots Q ls C hL hS kk => lv_bipush C.exec C.bytes hd hv (kk ls hL)) k
theorem z_sipush {n : Int} {v : Int32} (hd : decode (mMc M) pc = .ok (.sipush n, 3)) (hv : (Int16.ofInt n).toInt32 = v) (k : mZ l Θ d M (pc + 3) loc (.int v :: stk) h Q) : mZ l Θ d M (pc) loc stk h Q := mZ.pure (fun p e R s m args below meth c H locs cells slots Q ls C hL hS kk => lv_sipush C.exec C.bytes hd hv (kk ls hL)) k
theorem z_lconst {n : Fin 2} {v : Int64} (hd : decode (mMc M) pc = .ok (.lconst n, 1)) (hv : Int64.ofNat (n : Nat) = v) (k : mZ l Θ d M (pc + 1) loc (.long v :: stk) h Q) : mZ l Θ d M (pc) loc stk h Q := mZ.pure (fun p e R s m args below meth c H locs cells slots Q ls C hL hS kk => lv_lconst C.exec C.bytes hd hv (kk ls hL)) k
theorem z_dconst0  (hd : decode (mMc M) pc = .ok (.dconst 0, 1)) (k : mZ l Θ d M (pc + 1) loc (.double 0 :: stk) h Q) : mZ l Θ d M (pc) loc stk h Q := mZ.pure (fun p e R s m args below meth c H locs cells slots Q ls C hL hS kk => lv_dconst0 C.exec C.bytes hd (kk ls hL)) k
theorem z_null  (hd : decode (mMc M) pc = .ok (.aconst_null, 1)) (k : mZ l Θ d M (pc + 1) loc (.null :: stk) h Q) : mZ l Θ d M (pc) loc stk h Q := mZ.pure (fun p e R s m args below meth c H locs cells slots Q ls C hL hS kk => lv_null C.exec C.bytes hd (kk ls hL)) k
theorem z_ldc {i : Nat} {v : Int32} (hd : decode (mMc M) pc = .ok (.ldc i, 2)) (hw : Cond.constant (mMy M).cls i v ∈ gtbl) (k : mZ l Θ d M (pc + 2) loc (.int v :: stk) h Q) : mZ l Θ d M (pc) loc stk h Q := mZ.pure (fun p e R s m args below meth c H locs cells slots Q ls C hL hS kk => lv_ldc C.exec C.bytes C.own (C.hts _ hw) hd (kk ls hL)) k
theorem z_ldcw {i : Nat} {v : Int32} (hd : decode (mMc M) pc = .ok (.ldc_w i, 3)) (hw : Cond.constant (mMy M).cls i v ∈ gtbl) (k : mZ l Θ d M (pc + 3) loc (.int v :: stk) h Q) : mZ l Θ d M (pc) loc stk h Q := mZ.pure (fun p e R s m args below meth c H locs cells slots Q ls C hL hS kk => lv_ldcw C.exec C.bytes C.own (C.hts _ hw) hd (kk ls hL)) k
theorem z_ldcf {i : Nat} {v : UInt32} (hd : decode (mMc M) pc = .ok (.ldc i, 2)) (hw : Cond.constantFloat (mMy M).cls i v ∈ gtbl) (k : mZ l Θ d M (pc + 2) loc (.float v :: stk) h Q) : mZ l Θ d M (pc) loc stk h Q := mZ.pure (fun p e R s m args below meth c H locs cells slots Q ls C hL hS kk => lv_ldcf C.exec C.bytes C.own (C.hts _ hw) hd (kk ls hL)) k
theorem z_ldcS {i n : Nat} {tx : String} (hd : decode (mMc M) pc = .ok (.ldc i, 2)) (hw : (n, (mMy M).cls, i, tx) ∈ mSR) (k : mZ l Θ d M (pc + 2) loc (.ref (mwad Θ n) :: stk) h Q) : mZ l Θ d M (pc) loc stk h Q := mZ.pure (fun p e R s m args below meth c H locs cells slots Q ls C hL hS kk => va_ldcS C.exec C.bytes C.own (C.ks.2.2.2.2.2.1 _ hw) hd (kk ls hL)) k
theorem z_iload {i : Nat} {x : Int32} (hd : decode (mMc M) pc = .ok (.iload i, 2)) (hl : loc[i]? = some (some (.int x))) (k : mZ l Θ d M (pc + 2) loc (.int x :: stk) h Q) : mZ l Θ d M (pc) loc stk h Q := mZ.pure (fun p e R s m args below meth c H locs cells slots Q ls C hL hS kk => lv_iload C.exec C.bytes hd (hL.at hl) (kk ls hL)) k
theorem z_iload_n {i : Fin 4} {x : Int32} (hd : decode (mMc M) pc = .ok (.iload_n i, 1)) (hl : loc[(i : Nat)]? = some (some (.int x))) (k : mZ l Θ d M (pc + 1) loc (.int x :: stk) h Q) : mZ l Θ d M (pc) loc stk h Q := mZ.pure (fun p e R s m args below meth c H locs cells slots Q ls C hL hS kk => lv_iload_n C.exec C.bytes hd rfl (hL.at hl) (kk ls hL)) k
theorem z_aload {i : Nat} {x : Nat} (hd : decode (mMc M) pc = .ok (.aload i, 2)) (hl : loc[i]? = some (some (.ref x))) (k : mZ l Θ d M (pc + 2) loc (.ref x :: stk) h Q) : mZ l Θ d M (pc) loc stk h Q := mZ.pure (fun p e R s m args below meth c H locs cells slots Q ls C hL hS kk => lv_aload C.exec C.bytes hd (hL.at hl) (kk ls hL)) k
theorem z_aload_n {i : Fin 4} {x : Nat} (hd : decode (mMc M) pc = .ok (.aload_n i, 1)) (hl : loc[(i : Nat)]? = some (some (.ref x))) (k : mZ l Θ d M (pc + 1) loc (.ref x :: stk) h Q) : mZ l Θ d M (pc) loc stk h Q := mZ.pure (fun p e R s m args below meth c H locs cells slots Q ls C hL hS kk => lv_aload_n C.exec C.bytes hd rfl (hL.at hl) (kk ls hL)) k
theorem z_dload {i : Nat} {x : UInt64} (hd : decode (mMc M) pc = .ok (.dload i, 2)) (hl : loc[i]? = some (some (.double x))) (k : mZ l Θ d M (pc + 2) loc (.double x :: stk) h Q) : mZ l Θ d M (pc) loc stk h Q := mZ.pure (fun p e R s m args below meth c H locs cells slots Q ls C hL hS kk => lv_dload C.exec C.bytes hd (hL.at hl) (kk ls hL)) k
theorem z_dload_n {i : Fin 4} {x : UInt64} (hd : decode (mMc M) pc = .ok (.dload_n i, 1)) (hl : loc[(i : Nat)]? = some (some (.double x))) (k : mZ l Θ d M (pc + 1) loc (.double x :: stk) h Q) : mZ l Θ d M (pc) loc stk h Q := mZ.pure (fun p e R s m args below meth c H locs cells slots Q ls C hL hS kk => lv_dload_n C.exec C.bytes hd rfl (hL.at hl) (kk ls hL)) k
theorem z_aloadN {i : Nat} (hd : decode (mMc M) pc = .ok (.aload i, 2)) (hl : loc[i]? = some (some .null)) (k : mZ l Θ d M (pc + 2) loc (.null :: stk) h Q) : mZ l Θ d M (pc) loc stk h Q := mZ.pure (fun p e R s m args below meth c H locs cells slots Q ls C hL hS kk => lv_aloadN C.exec C.bytes hd (hL.at hl) (kk ls hL)) k
theorem z_aload_nN {i : Fin 4} (hd : decode (mMc M) pc = .ok (.aload_n i, 1)) (hl : loc[(i : Nat)]? = some (some .null)) (k : mZ l Θ d M (pc + 1) loc (.null :: stk) h Q) : mZ l Θ d M (pc) loc stk h Q := mZ.pure (fun p e R s m args below meth c H locs cells slots Q ls C hL hS kk => lv_aload_nN C.exec C.bytes hd rfl (hL.at hl) (kk ls hL)) k
theorem z_istore {i : Nat} {x : Int32} (hd : decode (mMc M) pc = .ok (.istore i, 2)) (hi : i < mMl M) (hk : mSt1 loc i = true) (hl : loc.set i (some (.int x)) = loc2) (k : mZ l Θ d M (pc + 2) loc2 stk h Q) : mZ l Θ d M (pc) loc (.int x :: stk) h Q := mZ.pure (fun p e R s m args below meth c H locs cells slots Q ls C hL hS kk => lv_istore C.exec C.bytes hd hL.has hi rfl (fun ls' hl' => kk ls' (hl ▸ hL.set1 hi hk hl'))) k
theorem z_istore_n {i : Fin 4} {x : Int32} (hd : decode (mMc M) pc = .ok (.istore_n i, 1)) (hi : (i : Nat) < mMl M) (hk : mSt1 loc i = true) (hl : loc.set (i : Nat) (some (.int x)) = loc2) (k : mZ l Θ d M (pc + 1) loc2 stk h Q) : mZ l Θ d M (pc) loc (.int x :: stk) h Q := mZ.pure (fun p e R s m args below meth c H locs cells slots Q ls C hL hS kk => lv_istore_n C.exec C.bytes hd rfl hL.has hi rfl (fun ls' hl' => kk ls' (hl ▸ hL.set1 hi hk hl'))) k
theorem z_astore {i : Nat} {x : Nat} (hd : decode (mMc M) pc = .ok (.astore i, 2)) (hi : i < mMl M) (hk : mSt1 loc i = true) (hl : loc.set i (some (.ref x)) = loc2) (k : mZ l Θ d M (pc + 2) loc2 stk h Q) : mZ l Θ d M (pc) loc (.ref x :: stk) h Q := mZ.pure (fun p e R s m args below meth c H locs cells slots Q ls C hL hS kk => lv_astore C.exec C.bytes hd hL.has hi rfl (fun ls' hl' => kk ls' (hl ▸ hL.set1 hi hk hl'))) k
theorem z_astore_n {i : Fin 4} {x : Nat} (hd : decode (mMc M) pc = .ok (.astore_n i, 1)) (hi : (i : Nat) < mMl M) (hk : mSt1 loc i = true) (hl : loc.set (i : Nat) (some (.ref x)) = loc2) (k : mZ l Θ d M (pc + 1) loc2 stk h Q) : mZ l Θ d M (pc) loc (.ref x :: stk) h Q := mZ.pure (fun p e R s m args below meth c H locs cells slots Q ls C hL hS kk => lv_astore_n C.exec C.bytes hd rfl hL.has hi rfl (fun ls' hl' => kk ls' (hl ▸ hL.set1 hi hk hl'))) k
theorem z_astoreN {i : Nat} (hd : decode (mMc M) pc = .ok (.astore i, 2)) (hi : i < mMl M) (hk : mSt1 loc i = true) (hl : loc.set i (some .null) = loc2) (k : mZ l Θ d M (pc + 2) loc2 stk h Q) : mZ l Θ d M (pc) loc (.null :: stk) h Q := mZ.pure (fun p e R s m args below meth c H locs cells slots Q ls C hL hS kk => lv_astoreN C.exec C.bytes hd hL.has hi rfl (fun ls' hl' => kk ls' (hl ▸ hL.set1 hi hk hl'))) k
theorem z_astore_nN {i : Fin 4} (hd : decode (mMc M) pc = .ok (.astore_n i, 1)) (hi : (i : Nat) < mMl M) (hk : mSt1 loc i = true) (hl : loc.set (i : Nat) (some .null) = loc2) (k : mZ l Θ d M (pc + 1) loc2 stk h Q) : mZ l Θ d M (pc) loc (.null :: stk) h Q := mZ.pure (fun p e R s m args below meth c H locs cells slots Q ls C hL hS kk => lv_astore_nN C.exec C.bytes hd rfl hL.has hi rfl (fun ls' hl' => kk ls' (hl ▸ hL.set1 hi hk hl'))) k
theorem z_dstore {i : Nat} {x : UInt64} (hd : decode (mMc M) pc = .ok (.dstore i, 2)) (hi : i + 1 < mMl M) (hk : mSt1 loc i = true) (hl : (loc.set i (some (.double x))).set (i + 1) none = loc2) (k : mZ l Θ d M (pc + 2) loc2 stk h Q) : mZ l Θ d M (pc) loc (.double x :: stk) h Q := mZ.pure (fun p e R s m args below meth c H locs cells slots Q ls C hL hS kk => lv_dstore C.exec C.bytes hd hL.has hi rfl (fun ls' hl' => kk ls' (hl ▸ hL.set2 hi hk hl'))) k
theorem mPs_get {n : Nat} {ls : Array Slot} {i : Nat} {v : Value} (hL : mLoc ls n loc) (hl : loc[i]? = some (some v)) : ∃ k : Nat, (mPs 0 loc)[k]? = some (i, v) := by
  have h1 := (mPs_mem loc 0 i v).mp hl
  rw [Nat.zero_add] at h1
  exact List.getElem?_of_mem h1
theorem z_iinc {i : Nat} {n : Int} {x v : Int32} (hd : decode (mMc M) pc = .ok (.iinc i n, 3)) (hx : loc[i]? = some (some (.int x))) (hv : x + Int32.ofInt n = v) (hi : i < mMl M) (hk : mSt1 loc i = true) (hl : loc.set i (some (.int v)) = loc2) (k : mZ l Θ d M (pc + 3) loc2 stk h Q) : mZ l Θ d M (pc) loc stk h Q := mZ.pure (fun p e R s m args below meth c H locs cells slots Q ls C hL hS kk => by
  obtain ⟨k9, h9⟩ := mPs_get hL hx
  exact lv_iinc C.exec C.bytes hd hL.has h9 hv hi rfl (fun ls' hl' => kk ls' (hl ▸ hL.set1 hi hk hl'))) k
theorem z_iadd {x y v : Int32} (hd : decode (mMc M) pc = .ok (.iadd, 1)) (hv : x + y = v) (k : mZ l Θ d M (pc + 1) loc (.int v :: stk) h Q) : mZ l Θ d M (pc) loc (.int y :: .int x :: stk) h Q := mZ.pure (fun p e R s m args below meth c H locs cells slots Q ls C hL hS kk => lv_iadd C.exec C.bytes hd (hv ▸ kk ls hL)) k
theorem z_isub {x y v : Int32} (hd : decode (mMc M) pc = .ok (.isub, 1)) (hv : x - y = v) (k : mZ l Θ d M (pc + 1) loc (.int v :: stk) h Q) : mZ l Θ d M (pc) loc (.int y :: .int x :: stk) h Q := mZ.pure (fun p e R s m args below meth c H locs cells slots Q ls C hL hS kk => lv_isub C.exec C.bytes hd (hv ▸ kk ls hL)) k
theorem z_imul {x y v : Int32} (hd : decode (mMc M) pc = .ok (.imul, 1)) (hv : x * y = v) (k : mZ l Θ d M (pc + 1) loc (.int v :: stk) h Q) : mZ l Θ d M (pc) loc (.int y :: .int x :: stk) h Q := mZ.pure (fun p e R s m args below meth c H locs cells slots Q ls C hL hS kk => lv_imul C.exec C.bytes hd (hv ▸ kk ls hL)) k
theorem z_iand {x y v : Int32} (hd : decode (mMc M) pc = .ok (.iand, 1)) (hv : x &&& y = v) (k : mZ l Θ d M (pc + 1) loc (.int v :: stk) h Q) : mZ l Θ d M (pc) loc (.int y :: .int x :: stk) h Q := mZ.pure (fun p e R s m args below meth c H locs cells slots Q ls C hL hS kk => lv_iand C.exec C.bytes hd (hv ▸ kk ls hL)) k
theorem z_ior {x y v : Int32} (hd : decode (mMc M) pc = .ok (.ior, 1)) (hv : x ||| y = v) (k : mZ l Θ d M (pc + 1) loc (.int v :: stk) h Q) : mZ l Θ d M (pc) loc (.int y :: .int x :: stk) h Q := mZ.pure (fun p e R s m args below meth c H locs cells slots Q ls C hL hS kk => lv_ior C.exec C.bytes hd (hv ▸ kk ls hL)) k
theorem z_ixor {x y v : Int32} (hd : decode (mMc M) pc = .ok (.ixor, 1)) (hv : x ^^^ y = v) (k : mZ l Θ d M (pc + 1) loc (.int v :: stk) h Q) : mZ l Θ d M (pc) loc (.int y :: .int x :: stk) h Q := mZ.pure (fun p e R s m args below meth c H locs cells slots Q ls C hL hS kk => lv_ixor C.exec C.bytes hd (hv ▸ kk ls hL)) k
theorem z_ishl {x y v : Int32} (hd : decode (mMc M) pc = .ok (.ishl, 1)) (hv : x <<< (y &&& 31) = v) (k : mZ l Θ d M (pc + 1) loc (.int v :: stk) h Q) : mZ l Θ d M (pc) loc (.int y :: .int x :: stk) h Q := mZ.pure (fun p e R s m args below meth c H locs cells slots Q ls C hL hS kk => lv_ishl C.exec C.bytes hd (hv ▸ kk ls hL)) k
theorem z_ishr {x y v : Int32} (hd : decode (mMc M) pc = .ok (.ishr, 1)) (hv : x >>> (y &&& 31) = v) (k : mZ l Θ d M (pc + 1) loc (.int v :: stk) h Q) : mZ l Θ d M (pc) loc (.int y :: .int x :: stk) h Q := mZ.pure (fun p e R s m args below meth c H locs cells slots Q ls C hL hS kk => lv_ishr C.exec C.bytes hd (hv ▸ kk ls hL)) k
theorem z_iushr {x y v : Int32} (hd : decode (mMc M) pc = .ok (.iushr, 1)) (hv : (x.toUInt32 >>> (y.toUInt32 &&& Int32.toUInt32 31)).toInt32 = v) (k : mZ l Θ d M (pc + 1) loc (.int v :: stk) h Q) : mZ l Θ d M (pc) loc (.int y :: .int x :: stk) h Q := mZ.pure (fun p e R s m args below meth c H locs cells slots Q ls C hL hS kk => lv_iushr C.exec C.bytes hd hv (kk ls hL)) k
theorem z_idiv {x y v : Int32} (hd : decode (mMc M) pc = .ok (.idiv, 1)) (hn : ¬ y = 0) (hv : x / y = v) (k : mZ l Θ d M (pc + 1) loc (.int v :: stk) h Q) : mZ l Θ d M (pc) loc (.int y :: .int x :: stk) h Q := mZ.pure (fun p e R s m args below meth c H locs cells slots Q ls C hL hS kk => lv_idiv C.exec C.bytes hd hn (hv ▸ kk ls hL)) k
theorem z_irem {x y v : Int32} (hd : decode (mMc M) pc = .ok (.irem, 1)) (hn : ¬ y = 0) (hv : x - x / y * y = v) (k : mZ l Θ d M (pc + 1) loc (.int v :: stk) h Q) : mZ l Θ d M (pc) loc (.int y :: .int x :: stk) h Q := mZ.pure (fun p e R s m args below meth c H locs cells slots Q ls C hL hS kk => lv_irem C.exec C.bytes hd hn (hv ▸ kk ls hL)) k
theorem z_ineg {x v : Int32} (hd : decode (mMc M) pc = .ok (.ineg, 1)) (hv : -x = v) (k : mZ l Θ d M (pc + 1) loc (.int v :: stk) h Q) : mZ l Θ d M (pc) loc (.int x :: stk) h Q := mZ.pure (fun p e R s m args below meth c H locs cells slots Q ls C hL hS kk => lv_ineg C.exec C.bytes hd (hv ▸ kk ls hL)) k
theorem z_i2l {x : Int32} {v : Int64} (hd : decode (mMc M) pc = .ok (.i2l, 1)) (hv : x.toInt64 = v) (k : mZ l Θ d M (pc + 1) loc (.long v :: stk) h Q) : mZ l Θ d M (pc) loc (.int x :: stk) h Q := mZ.pure (fun p e R s m args below meth c H locs cells slots Q ls C hL hS kk => lv_i2l C.exec C.bytes hd hv (kk ls hL)) k
theorem z_i2b {x v : Int32} (hd : decode (mMc M) pc = .ok (.i2b, 1)) (hv : x.toInt8.toInt32 = v) (k : mZ l Θ d M (pc + 1) loc (.int v :: stk) h Q) : mZ l Θ d M (pc) loc (.int x :: stk) h Q := mZ.pure (fun p e R s m args below meth c H locs cells slots Q ls C hL hS kk => lv_i2b C.exec C.bytes hd hv (kk ls hL)) k
theorem z_i2c {x v : Int32} (hd : decode (mMc M) pc = .ok (.i2c, 1)) (hv : (x.toUInt32 % 65536).toInt32 = v) (k : mZ l Θ d M (pc + 1) loc (.int v :: stk) h Q) : mZ l Θ d M (pc) loc (.int x :: stk) h Q := mZ.pure (fun p e R s m args below meth c H locs cells slots Q ls C hL hS kk => lv_i2c C.exec C.bytes hd hv (kk ls hL)) k
theorem z_i2d {x : Int32} (hd : decode (mMc M) pc = .ok (.i2d, 1)) (k : mZ l Θ d M (pc + 1) loc (.double (FP.i2d x) :: stk) h Q) : mZ l Θ d M (pc) loc (.int x :: stk) h Q := mZ.pure (fun p e R s m args below meth c H locs cells slots Q ls C hL hS kk => lv_i2d C.exec C.bytes hd (kk ls hL)) k
theorem z_i2f {x : Int32} (hd : decode (mMc M) pc = .ok (.i2f, 1)) (k : mZ l Θ d M (pc + 1) loc (.float (FP.i2f x) :: stk) h Q) : mZ l Θ d M (pc) loc (.int x :: stk) h Q := mZ.pure (fun p e R s m args below meth c H locs cells slots Q ls C hL hS kk => lv_i2f C.exec C.bytes hd (kk ls hL)) k
theorem z_f2d {x : UInt32} (hd : decode (mMc M) pc = .ok (.f2d, 1)) (hn : vf_n64 (FP.f2d x)) (k : mZ l Θ d M (pc + 1) loc (.double (FP.f2d x) :: stk) h Q) : mZ l Θ d M (pc) loc (.float x :: stk) h Q := mZ.pure (fun p e R s m args below meth c H locs cells slots Q ls C hL hS kk => lv_f2d C.exec C.bytes hd hn (kk ls hL)) k
theorem z_ddiv {x y : UInt64} (hd : decode (mMc M) pc = .ok (.ddiv, 1)) (hn : vf_n64 (FP.ddiv x y)) (k : mZ l Θ d M (pc + 1) loc (.double (FP.ddiv x y) :: stk) h Q) : mZ l Θ d M (pc) loc (.double y :: .double x :: stk) h Q := mZ.pure (fun p e R s m args below meth c H locs cells slots Q ls C hL hS kk => lv_ddiv C.exec C.bytes hd hn (kk ls hL)) k
theorem z_fdiv {x y : UInt32} (hd : decode (mMc M) pc = .ok (.fdiv, 1)) (hn : vf_n32 (FP.fdiv x y)) (k : mZ l Θ d M (pc + 1) loc (.float (FP.fdiv x y) :: stk) h Q) : mZ l Θ d M (pc) loc (.float y :: .float x :: stk) h Q := mZ.pure (fun p e R s m args below meth c H locs cells slots Q ls C hL hS kk => lv_fdiv C.exec C.bytes hd hn (kk ls hL)) k
theorem z_lcmp {x y : Int64} {v : Int32} (hd : decode (mMc M) pc = .ok (.lcmp, 1)) (hv : lg_cmp x y = v) (k : mZ l Θ d M (pc + 1) loc (.int v :: stk) h Q) : mZ l Θ d M (pc) loc (.long y :: .long x :: stk) h Q := mZ.pure (fun p e R s m args below meth c H locs cells slots Q ls C hL hS kk => W.lcmp C.exec C.bytes hd (hv ▸ kk ls hL)) k
theorem z_dcmp {x y : UInt64} {op : CmpOp} {v : Int32} (hd : decode (mMc M) pc = .ok (.dcmp op, 1)) (hv : Op.cmpValue (FP.dcmp x y) op = v) (k : mZ l Θ d M (pc + 1) loc (.int v :: stk) h Q) : mZ l Θ d M (pc) loc (.double y :: .double x :: stk) h Q := mZ.pure (fun p e R s m args below meth c H locs cells slots Q ls C hL hS kk => lv_dcmp C.exec C.bytes hd (hv ▸ kk ls hL)) k
theorem z_dup {v : Value} (hd : decode (mMc M) pc = .ok (.dup, 1)) (hv : v.category = 1) (k : mZ l Θ d M (pc + 1) loc (v :: v :: stk) h Q) : mZ l Θ d M (pc) loc (v :: stk) h Q := mZ.pure (fun p e R s m args below meth c H locs cells slots Q ls C hL hS kk => lv_dup C.exec C.bytes hd hv (kk ls hL)) k
theorem z_dup_x1 {v w : Value} (hd : decode (mMc M) pc = .ok (.dup_x1, 1)) (hv : v.category = 1) (hw : w.category = 1) (k : mZ l Θ d M (pc + 1) loc (v :: w :: v :: stk) h Q) : mZ l Θ d M (pc) loc (v :: w :: stk) h Q := mZ.pure (fun p e R s m args below meth c H locs cells slots Q ls C hL hS kk => lv_dup_x1 C.exec C.bytes hd hv hw (kk ls hL)) k
theorem z_dup2 {v w : Value} (hd : decode (mMc M) pc = .ok (.dup2, 1)) (hv : v.category = 1) (hw : w.category = 1) (k : mZ l Θ d M (pc + 1) loc (v :: w :: v :: w :: stk) h Q) : mZ l Θ d M (pc) loc (v :: w :: stk) h Q := mZ.pure (fun p e R s m args below meth c H locs cells slots Q ls C hL hS kk => lv_dup2_11 C.exec C.bytes hd hv hw (kk ls hL)) k
theorem z_pop {v : Value} (hd : decode (mMc M) pc = .ok (.pop, 1)) (hv : v.category = 1) (k : mZ l Θ d M (pc + 1) loc stk h Q) : mZ l Θ d M (pc) loc (v :: stk) h Q := mZ.pure (fun p e R s m args below meth c H locs cells slots Q ls C hL hS kk => lv_pop C.exec C.bytes hd hv (kk ls hL)) k
theorem z_goto {off : Int} {tgt : Nat} (hd : decode (mMc M) pc = .ok (.goto off, 3)) (ht : (pc : Int) + off = (tgt : Int)) (k : mZ l Θ d M (tgt) loc stk h Q) : mZ l Θ d M (pc) loc stk h Q := mZ.pure (fun p e R s m args below meth c H locs cells slots Q ls C hL hS kk => lv_goto C.exec C.bytes hd ht (kk ls hL)) k
theorem z_icmp_eq {x y : Int32} {off : Int} {tgt : Nat} (hd : decode (mMc M) pc = .ok (.if_icmp .eq off, 3)) (ht : (pc : Int) + off = (tgt : Int)) (kt : x = y → mZ l Θ d M (tgt) loc stk h Q) (kf : ¬ (x = y) → mZ l Θ d M (pc + 3) loc stk h Q) : mZ l Θ d M (pc) loc (.int y :: .int x :: stk) h Q := by
  by_cases hc : x = y
  · exact mZ.pure (fun p e R s m args below meth c H locs cells slots Q ls C hL hS kk => lv_icmp_eq C.exec C.bytes hd ht (fun _ => kk ls hL) (fun n => absurd hc n)) (kt hc)
  · exact mZ.pure (fun p e R s m args below meth c H locs cells slots Q ls C hL hS kk => lv_icmp_eq C.exec C.bytes hd ht (fun n => absurd n hc) (fun _ => kk ls hL)) (kf hc)
theorem z_if_eq {x : Int32} {off : Int} {tgt : Nat} (hd : decode (mMc M) pc = .ok (.ifCond .eq off, 3)) (ht : (pc : Int) + off = (tgt : Int)) (kt : x = 0 → mZ l Θ d M (tgt) loc stk h Q) (kf : ¬ (x = 0) → mZ l Θ d M (pc + 3) loc stk h Q) : mZ l Θ d M (pc) loc (.int x :: stk) h Q := by
  by_cases hc : x = 0
  · exact mZ.pure (fun p e R s m args below meth c H locs cells slots Q ls C hL hS kk => lv_if_eq C.exec C.bytes hd ht (fun _ => kk ls hL) (fun n => absurd hc n)) (kt hc)
  · exact mZ.pure (fun p e R s m args below meth c H locs cells slots Q ls C hL hS kk => lv_if_eq C.exec C.bytes hd ht (fun n => absurd n hc) (fun _ => kk ls hL)) (kf hc)
theorem z_icmp_ne {x y : Int32} {off : Int} {tgt : Nat} (hd : decode (mMc M) pc = .ok (.if_icmp .ne off, 3)) (ht : (pc : Int) + off = (tgt : Int)) (kt : ¬ x = y → mZ l Θ d M (tgt) loc stk h Q) (kf : x = y → mZ l Θ d M (pc + 3) loc stk h Q) : mZ l Θ d M (pc) loc (.int y :: .int x :: stk) h Q := by
  by_cases hc : x = y
  · exact mZ.pure (fun p e R s m args below meth c H locs cells slots Q ls C hL hS kk => lv_icmp_ne C.exec C.bytes hd ht (fun n => absurd hc n) (fun _ => kk ls hL)) (kf hc)
  · exact mZ.pure (fun p e R s m args below meth c H locs cells slots Q ls C hL hS kk => lv_icmp_ne C.exec C.bytes hd ht (fun _ => kk ls hL) (fun n => absurd n hc)) (kt hc)
theorem z_if_ne {x : Int32} {off : Int} {tgt : Nat} (hd : decode (mMc M) pc = .ok (.ifCond .ne off, 3)) (ht : (pc : Int) + off = (tgt : Int)) (kt : ¬ x = 0 → mZ l Θ d M (tgt) loc stk h Q) (kf : x = 0 → mZ l Θ d M (pc + 3) loc stk h Q) : mZ l Θ d M (pc) loc (.int x :: stk) h Q := by
  by_cases hc : x = 0
  · exact mZ.pure (fun p e R s m args below meth c H locs cells slots Q ls C hL hS kk => lv_if_ne C.exec C.bytes hd ht (fun n => absurd hc n) (fun _ => kk ls hL)) (kf hc)
  · exact mZ.pure (fun p e R s m args below meth c H locs cells slots Q ls C hL hS kk => lv_if_ne C.exec C.bytes hd ht (fun _ => kk ls hL) (fun n => absurd n hc)) (kt hc)
theorem z_icmp_lt {x y : Int32} {off : Int} {tgt : Nat} (hd : decode (mMc M) pc = .ok (.if_icmp .lt off, 3)) (ht : (pc : Int) + off = (tgt : Int)) (kt : x < y → mZ l Θ d M (tgt) loc stk h Q) (kf : ¬ (x < y) → mZ l Θ d M (pc + 3) loc stk h Q) : mZ l Θ d M (pc) loc (.int y :: .int x :: stk) h Q := by
  by_cases hc : x < y
  · exact mZ.pure (fun p e R s m args below meth c H locs cells slots Q ls C hL hS kk => lv_icmp_lt C.exec C.bytes hd ht (fun _ => kk ls hL) (fun n => absurd hc n)) (kt hc)
  · exact mZ.pure (fun p e R s m args below meth c H locs cells slots Q ls C hL hS kk => lv_icmp_lt C.exec C.bytes hd ht (fun n => absurd n hc) (fun _ => kk ls hL)) (kf hc)
theorem z_if_lt {x : Int32} {off : Int} {tgt : Nat} (hd : decode (mMc M) pc = .ok (.ifCond .lt off, 3)) (ht : (pc : Int) + off = (tgt : Int)) (kt : x < 0 → mZ l Θ d M (tgt) loc stk h Q) (kf : ¬ (x < 0) → mZ l Θ d M (pc + 3) loc stk h Q) : mZ l Θ d M (pc) loc (.int x :: stk) h Q := by
  by_cases hc : x < 0
  · exact mZ.pure (fun p e R s m args below meth c H locs cells slots Q ls C hL hS kk => lv_if_lt C.exec C.bytes hd ht (fun _ => kk ls hL) (fun n => absurd hc n)) (kt hc)
  · exact mZ.pure (fun p e R s m args below meth c H locs cells slots Q ls C hL hS kk => lv_if_lt C.exec C.bytes hd ht (fun n => absurd n hc) (fun _ => kk ls hL)) (kf hc)
theorem z_icmp_ge {x y : Int32} {off : Int} {tgt : Nat} (hd : decode (mMc M) pc = .ok (.if_icmp .ge off, 3)) (ht : (pc : Int) + off = (tgt : Int)) (kt : y ≤ x → mZ l Θ d M (tgt) loc stk h Q) (kf : ¬ (y ≤ x) → mZ l Θ d M (pc + 3) loc stk h Q) : mZ l Θ d M (pc) loc (.int y :: .int x :: stk) h Q := by
  by_cases hc : y ≤ x
  · exact mZ.pure (fun p e R s m args below meth c H locs cells slots Q ls C hL hS kk => lv_icmp_ge C.exec C.bytes hd ht (fun _ => kk ls hL) (fun n => absurd hc n)) (kt hc)
  · exact mZ.pure (fun p e R s m args below meth c H locs cells slots Q ls C hL hS kk => lv_icmp_ge C.exec C.bytes hd ht (fun n => absurd n hc) (fun _ => kk ls hL)) (kf hc)
theorem z_if_ge {x : Int32} {off : Int} {tgt : Nat} (hd : decode (mMc M) pc = .ok (.ifCond .ge off, 3)) (ht : (pc : Int) + off = (tgt : Int)) (kt : 0 ≤ x → mZ l Θ d M (tgt) loc stk h Q) (kf : ¬ (0 ≤ x) → mZ l Θ d M (pc + 3) loc stk h Q) : mZ l Θ d M (pc) loc (.int x :: stk) h Q := by
  by_cases hc : 0 ≤ x
  · exact mZ.pure (fun p e R s m args below meth c H locs cells slots Q ls C hL hS kk => lv_if_ge C.exec C.bytes hd ht (fun _ => kk ls hL) (fun n => absurd hc n)) (kt hc)
  · exact mZ.pure (fun p e R s m args below meth c H locs cells slots Q ls C hL hS kk => lv_if_ge C.exec C.bytes hd ht (fun n => absurd n hc) (fun _ => kk ls hL)) (kf hc)
theorem z_icmp_gt {x y : Int32} {off : Int} {tgt : Nat} (hd : decode (mMc M) pc = .ok (.if_icmp .gt off, 3)) (ht : (pc : Int) + off = (tgt : Int)) (kt : y < x → mZ l Θ d M (tgt) loc stk h Q) (kf : ¬ (y < x) → mZ l Θ d M (pc + 3) loc stk h Q) : mZ l Θ d M (pc) loc (.int y :: .int x :: stk) h Q := by
  by_cases hc : y < x
  · exact mZ.pure (fun p e R s m args below meth c H locs cells slots Q ls C hL hS kk => lv_icmp_gt C.exec C.bytes hd ht (fun _ => kk ls hL) (fun n => absurd hc n)) (kt hc)
  · exact mZ.pure (fun p e R s m args below meth c H locs cells slots Q ls C hL hS kk => lv_icmp_gt C.exec C.bytes hd ht (fun n => absurd n hc) (fun _ => kk ls hL)) (kf hc)
theorem z_if_gt {x : Int32} {off : Int} {tgt : Nat} (hd : decode (mMc M) pc = .ok (.ifCond .gt off, 3)) (ht : (pc : Int) + off = (tgt : Int)) (kt : 0 < x → mZ l Θ d M (tgt) loc stk h Q) (kf : ¬ (0 < x) → mZ l Θ d M (pc + 3) loc stk h Q) : mZ l Θ d M (pc) loc (.int x :: stk) h Q := by
  by_cases hc : 0 < x
  · exact mZ.pure (fun p e R s m args below meth c H locs cells slots Q ls C hL hS kk => lv_if_gt C.exec C.bytes hd ht (fun _ => kk ls hL) (fun n => absurd hc n)) (kt hc)
  · exact mZ.pure (fun p e R s m args below meth c H locs cells slots Q ls C hL hS kk => lv_if_gt C.exec C.bytes hd ht (fun n => absurd n hc) (fun _ => kk ls hL)) (kf hc)
theorem z_icmp_le {x y : Int32} {off : Int} {tgt : Nat} (hd : decode (mMc M) pc = .ok (.if_icmp .le off, 3)) (ht : (pc : Int) + off = (tgt : Int)) (kt : x ≤ y → mZ l Θ d M (tgt) loc stk h Q) (kf : ¬ (x ≤ y) → mZ l Θ d M (pc + 3) loc stk h Q) : mZ l Θ d M (pc) loc (.int y :: .int x :: stk) h Q := by
  by_cases hc : x ≤ y
  · exact mZ.pure (fun p e R s m args below meth c H locs cells slots Q ls C hL hS kk => lv_icmp_le C.exec C.bytes hd ht (fun _ => kk ls hL) (fun n => absurd hc n)) (kt hc)
  · exact mZ.pure (fun p e R s m args below meth c H locs cells slots Q ls C hL hS kk => lv_icmp_le C.exec C.bytes hd ht (fun n => absurd n hc) (fun _ => kk ls hL)) (kf hc)
theorem z_if_le {x : Int32} {off : Int} {tgt : Nat} (hd : decode (mMc M) pc = .ok (.ifCond .le off, 3)) (ht : (pc : Int) + off = (tgt : Int)) (kt : x ≤ 0 → mZ l Θ d M (tgt) loc stk h Q) (kf : ¬ (x ≤ 0) → mZ l Θ d M (pc + 3) loc stk h Q) : mZ l Θ d M (pc) loc (.int x :: stk) h Q := by
  by_cases hc : x ≤ 0
  · exact mZ.pure (fun p e R s m args below meth c H locs cells slots Q ls C hL hS kk => lv_if_le C.exec C.bytes hd ht (fun _ => kk ls hL) (fun n => absurd hc n)) (kt hc)
  · exact mZ.pure (fun p e R s m args below meth c H locs cells slots Q ls C hL hS kk => lv_if_le C.exec C.bytes hd ht (fun n => absurd n hc) (fun _ => kk ls hL)) (kf hc)
theorem z_ifnonnull {off : Int} {tgt x : Nat} (hd : decode (mMc M) pc = .ok (.ifnonnull off, 3)) (ht : (pc : Int) + off = (tgt : Int)) (k : mZ l Θ d M (tgt) loc stk h Q) : mZ l Θ d M (pc) loc (.ref x :: stk) h Q := mZ.pure (fun p e R s m args below meth c H locs cells slots Q ls C hL hS kk => lv_ifnonnull C.exec C.bytes hd ht (kk ls hL)) k
theorem z_ifnull {off : Int} {x : Nat} (hd : decode (mMc M) pc = .ok (.ifnull off, 3)) (k : mZ l Θ d M (pc + 3) loc stk h Q) : mZ l Θ d M (pc) loc (.ref x :: stk) h Q := mZ.pure (fun p e R s m args below meth c H locs cells slots Q ls C hL hS kk => lv_ifnull C.exec C.bytes hd (kk ls hL)) k
theorem z_ifnullN {off : Int} {tgt : Nat} (hd : decode (mMc M) pc = .ok (.ifnull off, 3)) (ht : (pc : Int) + off = (tgt : Int)) (k : mZ l Θ d M (tgt) loc stk h Q) : mZ l Θ d M (pc) loc (.null :: stk) h Q := mZ.pure (fun p e R s m args below meth c H locs cells slots Q ls C hL hS kk => lv_ifnullN C.exec C.bytes hd ht (kk ls hL)) k
theorem z_ifnonnullN {off : Int} (hd : decode (mMc M) pc = .ok (.ifnonnull off, 3)) (k : mZ l Θ d M (pc + 3) loc stk h Q) : mZ l Θ d M (pc) loc (.null :: stk) h Q := mZ.pure (fun p e R s m args below meth c H locs cells slots Q ls C hL hS kk => lv_ifnonnullN C.exec C.bytes hd (kk ls hL)) k
theorem z_acmp_ne {x y : Nat} {off : Int} {tgt : Nat} (hd : decode (mMc M) pc = .ok (.if_acmp .ne off, 3)) (ht : (pc : Int) + off = (tgt : Int)) (kt : ¬ x = y → mZ l Θ d M (tgt) loc stk h Q) (kf : x = y → mZ l Θ d M (pc + 3) loc stk h Q) : mZ l Θ d M (pc) loc (.ref y :: .ref x :: stk) h Q := by
  by_cases hc : x = y
  · exact mZ.pure (fun p e R s m args below meth c H locs cells slots Q ls C hL hS kk => lv_acmp_ne (rx := some x) (ry := some y) C.exec C.bytes hd ht (fun n => absurd (congrArg some hc) n) (fun _ => kk ls hL)) (kf hc)
  · exact mZ.pure (fun p e R s m args below meth c H locs cells slots Q ls C hL hS kk => lv_acmp_ne (rx := some x) (ry := some y) C.exec C.bytes hd ht (fun _ => kk ls hL) (fun n => absurd (Option.some.inj n) hc)) (kt hc)
theorem z_tableOut {dflt lo hi : Int} {offs : Array Int} {len tgt : Nat} {x : Int32} (hd : decode (mMc M) pc = .ok (.tableswitch dflt lo hi offs, len)) (hx : x.toInt < lo ∨ hi < x.toInt) (ht : (pc : Int) + dflt = (tgt : Int)) (k : mZ l Θ d M (tgt) loc stk h Q) : mZ l Θ d M (pc) loc (.int x :: stk) h Q := mZ.pure (fun p e R s m args below meth c H locs cells slots Q ls C hL hS kk => lv_tableOut C.exec C.bytes hd hx ht (kk ls hL)) k
theorem z_tableIn {dflt lo hi off : Int} {offs : Array Int} {len tgt : Nat} {x : Int32} (hd : decode (mMc M) pc = .ok (.tableswitch dflt lo hi offs, len)) (h1 : ¬ x.toInt < lo) (h2 : ¬ hi < x.toInt) (ho : offs[(x.toInt - lo).toNat]? = some off) (ht : (pc : Int) + off = (tgt : Int)) (k : mZ l Θ d M (tgt) loc stk h Q) : mZ l Θ d M (pc) loc (.int x :: stk) h Q := mZ.pure (fun p e R s m args below meth c H locs cells slots Q ls C hL hS kk => lv_tableIn C.exec C.bytes hd h1 h2 ho ht (kk ls hL)) k
theorem z_getstatic {i : Nat} {C0 n0 d0 : String} {v : Value} (hd : decode (mMc M) pc = .ok (.getstatic i, 3)) (hw : Cond.fieldLink (mMy M).cls i C0 n0 d0 ∈ gtbl) (hq : (C0, n0, d0, v) ∈ mSt Θ) (k : mZ l Θ d M (pc + 3) loc (v :: stk) h Q) : mZ l Θ d M (pc) loc stk h Q := mZ.pure (fun p e R s m args below meth c H locs cells slots Q ls C hL hS kk => va_gets C.exec C.bytes (C.ks.2.1 _ hq) hS C.own (C.hts _ hw) (fun _ h9 => h9) hd (kk ls hL)) k
theorem z_oldget {i j : Nat} {C0 n0 d0 : String} {v : Value} (hd : decode (mMc M) pc = .ok (.getfield i, 3)) (hw : Cond.fieldLink (mMy M).cls i C0 n0 d0 ∈ gtbl) (hq : (j, C0, n0, d0, v) ∈ mOF Θ) (k : mZ l Θ d M (pc + 3) loc (v :: stk) h Q) : mZ l Θ d M (pc) loc (.ref (mwad Θ j) :: stk) h Q := mZ.pure (fun p e R s m args below meth c H locs cells slots Q ls C hL hS kk => vk_getf C.exec C.bytes (C.ks.2.2.2.1 _ hq) hS C.own (C.hts _ hw) (fun _ h9 => h9) hd (kk ls hL)) k
theorem z_oldiald {j N : Nat} {f : Nat → Value} {x : Int32} {v : Value} (hd : decode (mMc M) pc = .ok (.iaload, 1)) (hq : (j, .int, N, f) ∈ mOA Θ) (hin : vp_in x N) (hv : f x.toNatClampNeg = v) (k : mZ l Θ d M (pc + 1) loc (v :: stk) h Q) : mZ l Θ d M (pc) loc (.int x :: .ref (mwad Θ j) :: stk) h Q := mZ.pure (fun p e R s m args below meth c H locs cells slots Q ls C hL hS kk => va_ti C.exec C.bytes (C.ks.2.2.1 _ hq) hS hin hv hd (kk ls hL)) k
theorem z_oldbald {j N : Nat} {f : Nat → Value} {x : Int32} {v : Value} (hd : decode (mMc M) pc = .ok (.baload, 1)) (hq : (j, .byte, N, f) ∈ mOA Θ) (hin : vp_in x N) (hv : f x.toNatClampNeg = v) (k : mZ l Θ d M (pc + 1) loc (v :: stk) h Q) : mZ l Θ d M (pc) loc (.int x :: .ref (mwad Θ j) :: stk) h Q := mZ.pure (fun p e R s m args below meth c H locs cells slots Q ls C hL hS kk => va_tb C.exec C.bytes (C.ks.2.2.1 _ hq) hS hin hv hd (kk ls hL)) k
theorem z_oldaald {j N : Nat} {C0 : String} {f : Nat → Value} {x : Int32} {v : Value} (hd : decode (mMc M) pc = .ok (.aaload, 1)) (hq : (j, .object C0, N, f) ∈ mOA Θ) (hin : vp_in x N) (hv : f x.toNatClampNeg = v) (k : mZ l Θ d M (pc + 1) loc (v :: stk) h Q) : mZ l Θ d M (pc) loc (.int x :: .ref (mwad Θ j) :: stk) h Q := mZ.pure (fun p e R s m args below meth c H locs cells slots Q ls C hL hS kk => vb_tq C.exec C.bytes (C.ks.2.2.1 _ hq) hS hin hv hd (kk ls hL)) k
theorem z_oldalen {j N : Nat} {ty : FieldType} {f : Nat → Value} {v : Int32} (hd : decode (mMc M) pc = .ok (.arraylength, 1)) (hq : (j, ty, N, f) ∈ mOA Θ) (hv : Int32.ofNat N = v) (k : mZ l Θ d M (pc + 1) loc (.int v :: stk) h Q) : mZ l Θ d M (pc) loc (.ref (mwad Θ j) :: stk) h Q := mZ.pure (fun p e R s m args below meth c H locs cells slots Q ls C hL hS kk => va_tlen C.exec C.bytes (C.ks.2.2.1 _ hq) hS hv hd (kk ls hL)) k
end ZR
end
section
/-! rows of instructions that read, write and make cells -/
abbrev aI (t n : Nat) (f : Nat → Int32) : mE := .inl (t, n, .inl f)
abbrev aL (n : Nat) (f : Nat → Int64) : mE := .inl (2, n, .inr (.inl f))
abbrev aD (n : Nat) (f : Nat → UInt64) : mE := .inl (3, n, .inr (.inr (.inr (.inl f))))
abbrev aQ (t n : Nat) (f : Nat → Option Nat) : mE := .inl (t, n, .inr (.inr (.inr (.inr f))))
abbrev oB (ci : Nat) (fs : List Value) : mE := .inr (ci, fs)
/-- the field of an entry of a class's pool: in which class of the list, at which place -/
def mFl (own : String) (i ci k : Nat) : Prop := ∃ r : vw_C, mCl[ci]? = some r ∧ k < r.2.2 ∧ (Cond.fieldLink own i (r.2.1 k).1 (r.2.1 k).2.1 (r.2.1 k).2.2.1 ∈ gtbl ∨ ∃ host, Cond.fieldLinkNest own i (r.2.1 k).1 (r.2.1 k).2.1 (r.2.1 k).2.2.1 host ∈ mNs)
/-- .. one that may be written: its type -/
def mFp (own : String) (i ci k : Nat) (ty : FieldType) : Prop := ∃ r : vw_C, mCl[ci]? = some r ∧ k < r.2.2 ∧ (r.2.1 k).2.2.2 = false ∧ parseFieldDescriptor (r.2.1 k).2.2.1 = some ty ∧ (Cond.fieldLink own i (r.2.1 k).1 (r.2.1 k).2.1 (r.2.1 k).2.2.1 ∈ gtbl ∨ ∃ host, Cond.fieldLinkNest own i (r.2.1 k).1 (r.2.1 k).2.1 (r.2.1 k).2.2.1 host ∈ mNs)
/-- .. a final one, in its class's constructor -/
def mFf (own : String) (i ci k : Nat) (ty : FieldType) : Prop := ∃ r : vw_C, mCl[ci]? = some r ∧ k < r.2.2 ∧ (r.2.1 k).2.2.2 = true ∧ (r.2.1 k).1 = own ∧ parseFieldDescriptor (r.2.1 k).2.2.1 = some ty ∧ Cond.fieldLink own i (r.2.1 k).1 (r.2.1 k).2.1 (r.2.1 k).2.2.1 ∈ gtbl
theorem mTy_some {T : u_T} {N : Nat} (h : ∀ k, k < N → (parseFieldDescriptor (T k).2.2.1).isSome = true) : ∀ k, k < N → parseFieldDescriptor (T k).2.2.1 = some ((fun k => (parseFieldDescriptor (T k).2.2.1).getD .int) k) := by
  intro k hk
  have := h k hk
  cases e : parseFieldDescriptor (T k).2.2.1 with
  | none => rw [e] at this; cases this
  | some t => simp [e]
section HR
variable {l : Launch} {Θ : mW} {d : Nat} {M : mM} {pc : Nat} {loc : List (Option Value)} {stk : List Value} {h : mH} {o : mO} {h' : mH} {Q : mO → mH → Prop}
theorem mX.heap {h2 : mH} {pc2 : Nat} {loc2 : List (Option Value)} {stk2 : List Value} (hlen : h.length ≤ h2.length) (hsz : msz h ≤ msz h2)
    (hs : ∀ (p : Program) (e : Env) (R : Room) (s : State) (m : MethodId) (args : Array Value) (below : List Frame) (meth : Method) (c : Code) (H : Heap) (locs : List Loc) (cells slots : Nat) (Q : State → Prop) (ls : Array Slot), mCtx l Θ d M p R s m args meth c → mRel Θ h H → mLoc ls (mMl M) loc → va_S (mwA Θ) s.heap H locs → cells + (h2.length - h.length) ≤ R.cells → slots + (msz h2 - msz h) ≤ R.slots →
      (∀ (H1 : Heap) (locs1 : List Loc) (ls1 : Array Slot), mRel Θ h2 H1 → mLoc ls1 (mMl M) loc2 → va_S (mwA Θ) s.heap H1 locs1 → W p l e R s m args below meth c H1 locs1 (cells + (h2.length - h.length)) (slots + (msz h2 - msz h)) Q (F0 m pc2 ls1 stk2)) → W p l e R s m args below meth c H locs cells slots Q (F0 m pc ls stk))
    (k : mX l Θ d M pc2 loc2 stk2 h2 o h') : mX l Θ d M pc loc stk h o h' := by
  refine ⟨Nat.le_trans hlen k.1, Nat.le_trans hsz k.2.1, fun p e R s m args below meth c C H locs cells slots mc ms ls hR hS hL h1 h2' h3 h4 => ?_⟩
  have k1 := k.1
  have k2 := k.2.1
  refine hs p e R s m args below meth c H locs cells slots _ ls C hR hL hS (by omega) (by omega) (fun H1 locs1 ls1 hR1 hL1 hS1 => ?_)
  exact k.2.2 p e R s m args below meth c C H1 locs1 _ _ mc ms ls1 hR1 hS1 hL1 (by omega) (by omega) h3 h4
theorem mZ.heap {h2 : mH} {pc2 : Nat} {loc2 : List (Option Value)} {stk2 : List Value} (hlen : h.length ≤ h2.length) (hsz : msz h ≤ msz h2)
    (hs : ∀ (p : Program) (e : Env) (R : Room) (s : State) (m : MethodId) (args : Array Value) (below : List Frame) (meth : Method) (c : Code) (H : Heap) (locs : List Loc) (cells slots : Nat) (Q : State → Prop) (ls : Array Slot), mCtx l Θ d M p R s m args meth c → mRel Θ h H → mLoc ls (mMl M) loc → va_S (mwA Θ) s.heap H locs → cells + (h2.length - h.length) ≤ R.cells → slots + (msz h2 - msz h) ≤ R.slots →
      (∀ (H1 : Heap) (locs1 : List Loc) (ls1 : Array Slot), mRel Θ h2 H1 → mLoc ls1 (mMl M) loc2 → va_S (mwA Θ) s.heap H1 locs1 → W p l e R s m args below meth c H1 locs1 (cells + (h2.length - h.length)) (slots + (msz h2 - msz h)) Q (F0 m pc2 ls1 stk2)) → W p l e R s m args below meth c H locs cells slots Q (F0 m pc ls stk))
    (k : mZ l Θ d M pc2 loc2 stk2 h2 Q) : mZ l Θ d M pc loc stk h Q := by
  obtain ⟨o, h', q, x⟩ := k
  exact ⟨o, h', q, mX.heap hlen hsz hs x⟩
/-- a read: the heap stays -/
theorem mZ.read {pc2 : Nat} {loc2 : List (Option Value)} {stk2 : List Value}
    (hs : ∀ (p : Program) (e : Env) (R : Room) (s : State) (m : MethodId) (args : Array Value) (below : List Frame) (meth : Method) (c : Code) (H : Heap) (locs : List Loc) (cells slots : Nat) (Q : State → Prop) (ls : Array Slot), mCtx l Θ d M p R s m args meth c → mRel Θ h H → mLoc ls (mMl M) loc → va_S (mwA Θ) s.heap H locs →
      W p l e R s m args below meth c H locs cells slots Q (F0 m pc2 ls stk2) → W p l e R s m args below meth c H locs cells slots Q (F0 m pc ls stk))
    (k : mZ l Θ d M pc2 loc stk2 h Q) : mZ l Θ d M pc loc stk h Q := by
  obtain ⟨o, h', q, x⟩ := k
  refine ⟨o, h', q, x.1, x.2.1, fun p e R s m args below meth c C H locs cells slots mc ms ls hR hS hL h1 h2' h3 h4 => ?_⟩
  exact hs p e R s m args below meth c H locs cells slots _ ls C hR hL hS (x.2.2 p e R s m args below meth c C H locs cells slots mc ms ls hR hS hL h1 h2' h3 h4)
/-- a write of one cell that keeps its size -/
theorem mZ.write {q : Nat} {e0 e1 : mE} {pc2 : Nat} {stk2 : List Value} (hg : gt Θ h q = some e0) (hz : msz1 e1 = msz1 e0)
    (hs : ∀ (p : Program) (e : Env) (R : Room) (s : State) (m : MethodId) (args : Array Value) (below : List Frame) (meth : Method) (c : Code) (H : Heap) (locs : List Loc) (cells slots : Nat) (Q : State → Prop) (ls : Array Slot), mCtx l Θ d M p R s m args meth c → mRel Θ h H → va_at (mwD Θ) mCl (q, mcv Θ e0) H → va_S (mwA Θ) s.heap H locs →
      (∀ (H1 : Heap) (k : Nat), H1.size = H.size → (∀ x : Nat, x ≠ q → H1[x]? = H[x]?) → va_at (mwD Θ) mCl (q, mcv Θ e1) H1 → W p l e R s m args below meth c H1 (locs ++ [⟨q, k⟩]) cells slots Q (F0 m pc2 ls stk2)) → W p l e R s m args below meth c H locs cells slots Q (F0 m pc ls stk))
    (k : mZ l Θ d M pc2 loc stk2 (pt Θ h q e1) Q) : mZ l Θ d M pc loc stk h Q := by
  have hl : (pt Θ h q e1).length = h.length := pt_length
  have hm : msz (pt Θ h q e1) = msz h := msz_pt hg hz
  refine mZ.heap (by rw [hl]; exact Nat.le_refl _) (by rw [hm]; exact Nat.le_refl _) (fun p e R s m args below meth c H locs cells slots Q ls C hR hL hS h1 h2 kk => ?_) k
  refine hs p e R s m args below meth c H locs cells slots Q ls C hR (hR.get hg) hS (fun H1 k9 z1 o1 a1 => ?_)
  have := kk H1 (locs ++ [⟨q, k9⟩]) ls (hR.put hg z1 o1 a1) hL (hS.put z1 o1 (gt_some hg).1)
  rw [hl, hm, Nat.sub_self, Nat.sub_self, Nat.add_zero, Nat.add_zero] at this
  exact this
theorem mRel.P {q : Nat} {e : mE} {H : Heap} (hR : mRel Θ h H) (hg : gt Θ h q = some e) : va_P (mwD Θ) mCl [(q, mcv Θ e)] H := fun k x hx => by
  have hz : k < 1 := (List.getElem?_eq_some_iff.mp hx).1
  rw [show k = 0 by omega] at hx
  cases hx
  exact hR.get hg
theorem z_getfield {i q ci k : Nat} {fs : List Value} {v : Value} (hd : decode (mMc M) pc = .ok (.getfield i, 3)) (hf : mFl (mMy M).cls i ci k) (hg : gt Θ h q = some (oB ci fs)) (hv : fs[k]? = some v) (kk : mZ l Θ d M (pc + 3) loc (v :: stk) h Q) : mZ l Θ d M pc loc (.ref q :: stk) h Q := by
  obtain ⟨⟨C0, T, N⟩, hc, hk, hw⟩ := hf
  have hok := mCl_ok _ (List.mem_of_getElem? hc)
  refine mZ.read (loc2 := loc) (fun p e R s m args below meth c H locs cells slots Q ls C hR hL hS kk => ?_) kk
  rcases hw with hw | ⟨host, hw⟩
  · exact va_get C.exec C.bytes C.hts hok.1 C.own C.ks.1 (hR.P hg) 0 rfl hc k hk (C.hts _ hw) (fun _ h9 => h9) hv hd kk
  · exact va_getN (host := host) C.exec C.bytes C.hts hok.1 C.own C.ks.1 (hR.P hg) 0 rfl hc k hk ((C.ks.2.2.2.2.2.2.1 _ hw).use rfl) (fun _ h9 => h9) hv hd kk
theorem fs_size {fs : List Value} {k : Nat} {v : Value} : (fs.set k v).length = fs.length := List.length_set
theorem z_putfield {i q ci k : Nat} {fs : List Value} {v : Value} {ty : FieldType} (hd : decode (mMc M) pc = .ok (.putfield i, 3)) (hf : mFp (mMy M).cls i ci k ty) (hg : gt Θ h q = some (oB ci fs)) (hl : k < fs.length) (hn : narrow ty v = v) (hfit : fits ty v = true) (kk : mZ l Θ d M (pc + 3) loc stk (pt Θ h q (oB ci (fs.set k v))) Q) : mZ l Θ d M pc loc (v :: .ref q :: stk) h Q := by
  obtain ⟨⟨C0, T, N⟩, hc, hk, hfin, hty, hw⟩ := hf
  have hok := mCl_ok _ (List.mem_of_getElem? hc)
  refine mZ.write hg (by simp [msz1]) (fun p e R s m args below meth c H locs cells slots Q ls C hR hat hS kk => ?_) kk
  have hap := va_apart (own := (mMy M).cls) C.hts hok.1 _ (mTy_some hok.2.1) hok.2.2 C.ks.1 hc
  obtain ⟨r, h1, cell, q1, q2, q3, q4⟩ := hat
  have hr : r = (C0, T, N) := Option.some.inj (h1.symm.trans hc)
  subst hr
  obtain ⟨hS9, hfc, kC, hkC, hkind⟩ := C.ks.1.1 ci _ hc
  obtain ⟨cf, kf, fi, f, hi, hsl⟩ := hS9 k hk
  have hlay := C.hts _ (hok.1 _ (u_in_lay hk))
  unfold u_lay at hlay
  rw [if_neg (by rw [hfin]; decide)] at hlay
  have hst := (u_facts hfc hkC (u_lays C.hts hok.1 hk) hi).1
  have h6 := u_store hfc hkC hkind hlay hi hty hn hfit
  have fin : ∀ H1 : Heap, H1[q]? = some (cell.setSlot f.slot v) → va_at (mwD Θ) mCl (q, mcv Θ (oB ci (fs.set k v))) H1 := fun H1 e1 => by
    rw [hsl] at e1
    exact ⟨_, hc, t_OB.to (V := updV (vp_V fs) k v) ⟨_, e1, q2, q3, t_set q4 hap hk v⟩ (fun j _ => vp_updV_set hl v j)⟩
  rcases hw with hw | ⟨host, hw⟩
  · exact W.putK C.exec C.bytes (f := f) ⟨C.own, C.hts _ hw, ⟨_, _, _, hi⟩, hst⟩ (by rw [q2]; exact h6) q1 q3 (by rw [hsl]; exact k2_hasslot (q4 k hk)) rfl rfl hd fun H1 e1 e2 e3 => kk H1 _ e2 e3 (fin H1 e1)
  · exact va_WputK (host := host) C.exec C.bytes (f := f) C.own ((C.ks.2.2.2.2.2.2.1 _ hw).use rfl) hi hst (by rw [q2]; exact h6) q1 q3 (by rw [hsl]; exact k2_hasslot (q4 k hk)) rfl rfl hd fun H1 e1 e2 e3 => kk H1 _ e2 e3 (fin H1 e1)
theorem z_putfieldF {i q ci k : Nat} {fs : List Value} {v : Value} {ty : FieldType} (hd : decode (mMc M) pc = .ok (.putfield i, 3)) (hin : (mMy M).name = "<init>") (hf : mFf (mMy M).cls i ci k ty) (hg : gt Θ h q = some (oB ci fs)) (hl : k < fs.length) (hn : narrow ty v = v) (hfit : fits ty v = true) (kk : mZ l Θ d M (pc + 3) loc stk (pt Θ h q (oB ci (fs.set k v))) Q) : mZ l Θ d M pc loc (v :: .ref q :: stk) h Q := by
  obtain ⟨⟨C0, T, N⟩, hc, hk, hfin, hdecl, hty, hw⟩ := hf
  have hok := mCl_ok _ (List.mem_of_getElem? hc)
  refine mZ.write hg (by simp [msz1]) (fun p e R s m args below meth c H locs cells slots Q ls C hR hat hS kk => ?_) kk
  have hap := va_apart (own := (mMy M).cls) C.hts hok.1 _ (mTy_some hok.2.1) hok.2.2 C.ks.1 hc
  obtain ⟨r, h1, cell, q1, q2, q3, q4⟩ := hat
  have hr : r = (C0, T, N) := Option.some.inj (h1.symm.trans hc)
  subst hr
  obtain ⟨hS9, hfc, kC, hkC, hkind⟩ := C.ks.1.1 ci _ hc
  obtain ⟨cf, kf, fi, f, hi, hsl⟩ := hS9 k hk
  have hlay := C.hts _ (hok.1 _ (u_in_lay hk))
  unfold u_lay at hlay
  rw [if_pos hfin] at hlay
  have hst := (u_facts hfc hkC (u_lays C.hts hok.1 hk) hi).1
  have hcf : m.cls = cf := by
    obtain ⟨_, _, c', _, _, _, -, -, hf', -, -, -, hown2, -⟩ := Cond.laysFinal_spec hlay
    have e1 : c' = cf := by have := hi.symm.trans hf'; simp at this; exact this.1.symm
    have h9 : (T k).1 = (mMy M).cls := hdecl
    rw [h9] at hown2
    rw [← e1]; exact Option.some.inj (C.own.symm.trans hown2)
  have h6 := u_fits hfc hkC hkind (Or.inr hlay) hi hty hn hfit
  exact W.putFinK C.exec C.bytes C.own (C.hts _ hw) hi hst hcf (C.name.trans hin) (by rw [q2]; exact h6) q1 q3 (by rw [hsl]; exact k2_hasslot (q4 k hk)) rfl rfl hd fun H1 e1 e2 e3 => kk H1 _ e2 e3 (by
    rw [hsl] at e1
    exact ⟨_, hc, t_OB.to (V := updV (vp_V fs) k v) ⟨_, e1, q2, q3, t_set q4 hap hk v⟩ (fun j _ => vp_updV_set hl v j)⟩)
-- arrays
theorem z_iald {q n : Nat} {f : Nat → Int32} {i v : Int32} (hd : decode (mMc M) pc = .ok (.iaload, 1)) (hg : gt Θ h q = some (aI 0 n f)) (hin : vp_in i n) (hv : f i.toNatClampNeg = v) (kk : mZ l Θ d M (pc + 1) loc (.int v :: stk) h Q) : mZ l Θ d M pc loc (.int i :: .ref q :: stk) h Q :=
  mZ.read (loc2 := loc) (fun p e R s m args below meth c H locs cells slots Q ls C hR hL hS kk => va_iald C.exec C.bytes C.ks.1 (hR.P hg) 0 0 rfl rfl hin hd (hv.symm ▸ kk)) kk
theorem z_zald {q n : Nat} {f : Nat → Int32} {i v : Int32} (hd : decode (mMc M) pc = .ok (.baload, 1)) (hg : gt Θ h q = some (aI 1 n f)) (hin : vp_in i n) (hv : f i.toNatClampNeg = v) (kk : mZ l Θ d M (pc + 1) loc (.int v :: stk) h Q) : mZ l Θ d M pc loc (.int i :: .ref q :: stk) h Q :=
  mZ.read (loc2 := loc) (fun p e R s m args below meth c H locs cells slots Q ls C hR hL hS kk => va_zald C.exec C.bytes C.ks.1 (hR.P hg) 0 1 rfl rfl hin hd (hv.symm ▸ kk)) kk
theorem z_bald {q n : Nat} {f : Nat → Int32} {i v : Int32} (hd : decode (mMc M) pc = .ok (.baload, 1)) (hg : gt Θ h q = some (aI 4 n f)) (hin : vp_in i n) (hv : f i.toNatClampNeg = v) (kk : mZ l Θ d M (pc + 1) loc (.int v :: stk) h Q) : mZ l Θ d M pc loc (.int i :: .ref q :: stk) h Q :=
  mZ.read (loc2 := loc) (fun p e R s m args below meth c H locs cells slots Q ls C hR hL hS kk => va_bald C.exec C.bytes C.ks.1 (hR.P hg) 0 4 rfl rfl hin hd (hv.symm ▸ kk)) kk
theorem z_lald {q n : Nat} {f : Nat → Int64} {i : Int32} {v : Int64} (hd : decode (mMc M) pc = .ok (.laload, 1)) (hg : gt Θ h q = some (aL n f)) (hin : vp_in i n) (hv : f i.toNatClampNeg = v) (kk : mZ l Θ d M (pc + 1) loc (.long v :: stk) h Q) : mZ l Θ d M pc loc (.int i :: .ref q :: stk) h Q :=
  mZ.read (loc2 := loc) (fun p e R s m args below meth c H locs cells slots Q ls C hR hL hS kk => va_lald C.exec C.bytes C.ks.1 (hR.P hg) 0 2 rfl rfl hin hd (hv.symm ▸ kk)) kk
theorem z_dald {q n : Nat} {f : Nat → UInt64} {i : Int32} {v : UInt64} (hd : decode (mMc M) pc = .ok (.daload, 1)) (hg : gt Θ h q = some (aD n f)) (hin : vp_in i n) (hv : f i.toNatClampNeg = v) (kk : mZ l Θ d M (pc + 1) loc (.double v :: stk) h Q) : mZ l Θ d M pc loc (.int i :: .ref q :: stk) h Q :=
  mZ.read (loc2 := loc) (fun p e R s m args below meth c H locs cells slots Q ls C hR hL hS kk => va_dald C.exec C.bytes C.ks.1 (hR.P hg) 0 3 rfl rfl hin hd (hv.symm ▸ kk)) kk
theorem z_qald {q t n : Nat} {f : Nat → Option Nat} {i : Int32} {v : Value} (ht : t = 5 ∨ t = 6) (hd : decode (mMc M) pc = .ok (.aaload, 1)) (hg : gt Θ h q = some (aQ t n f)) (hin : vp_in i n) (hv : va_rf (f i.toNatClampNeg) = v) (kk : mZ l Θ d M (pc + 1) loc (v :: stk) h Q) : mZ l Θ d M pc loc (.int i :: .ref q :: stk) h Q :=
  mZ.read (loc2 := loc) (fun p e R s m args below meth c H locs cells slots Q ls C hR hL hS kk => by
    rcases ht with rfl | rfl
    · exact va_aldq C.exec C.bytes C.ks.1 (hR.P hg) 0 5 rfl rfl hin hd (hv.symm ▸ kk)
    · exact va_aldq C.exec C.bytes C.ks.1 (hR.P hg) 0 6 rfl rfl hin hd (hv.symm ▸ kk)) kk
theorem z_alen {q t n : Nat} {x : (Nat → Int32) ⊕ (Nat → Int64) ⊕ (Nat → UInt32) ⊕ (Nat → UInt64) ⊕ (Nat → Option Nat)} {v : Int32} (ht : t < 7) (hd : decode (mMc M) pc = .ok (.arraylength, 1)) (hg : gt Θ h q = some (.inl (t, n, x))) (hv : Int32.ofNat n = v) (kk : mZ l Θ d M (pc + 1) loc (.int v :: stk) h Q) : mZ l Θ d M pc loc (.ref q :: stk) h Q :=
  mZ.read (loc2 := loc) (fun p e R s m args below meth c H locs cells slots Q ls C hR hL hS kk => by
    obtain ⟨ty, hty⟩ : ∃ ty, (mTyC Θ)[t]? = some (mwtC Θ t, ty) := by
      rcases (show t = 0 ∨ t = 1 ∨ t = 2 ∨ t = 3 ∨ t = 4 ∨ t = 5 ∨ t = 6 by omega) with rfl | rfl | rfl | rfl | rfl | rfl | rfl <;> exact ⟨_, rfl⟩
    exact va_alen C.exec C.bytes C.ks.1 (hR.P hg) 0 t rfl hty hv hd kk) kk
end HR
end
section
/-! stores into arrays, new cells, ends -/
section HS
variable {l : Launch} {Θ : mW} {d : Nat} {M : mM} {pc : Nat} {loc : List (Option Value)} {stk : List Value} {h : mH} {o : mO} {h' : mH} {Q : mO → mH → Prop}
theorem z_iast {q n : Nat} {f : Nat → Int32} {i : Int32} {x : Int32} (hd : decode (mMc M) pc = .ok (.iastore, 1)) (hg : gt Θ h q = some (aI 0 n (f))) (hin : vp_in i n) (kk : mZ l Θ d M (pc + 1) loc stk (pt Θ h q (aI 0 n (upd f i.toNatClampNeg x))) Q) : mZ l Θ d M pc loc (.int x :: .int i :: .ref q :: stk) h Q := by
  refine mZ.write (pc2 := pc + 1) (stk2 := stk) (e1 := aI 0 n (upd f i.toNatClampNeg x)) hg rfl (fun p e R s m args below meth c H locs cells slots Q ls C hR hat hS kk => by
    refine W.iast C.exec C.bytes hat ((C.ks.1.2 0 _ rfl).1 n (fun j => .int (f j))) (fun q => by cases q) (by show ¬ (i < 0 ∨ (arrV _ _ _).slots.size ≤ _); rw [arrV_size]; exact hin) rfl rfl hd fun H1 e1 z oq => ?_
    refine kk H1 _ z oq ?_
    show H1[q]? = some (vp_cell _ _)
    rw [e1]
    show some ((vp_cell _ _).setSlot _ _) = some (vp_cell _ _)
    rw [vp_cell_i, vp_cell_i, arrV_store]
    congr 2
    funext q9
    by_cases hq : q9 = i.toNatClampNeg
    · subst hq
      simp [updV, upd]
      try rfl
    · simp [updV, upd, hq]) kk
theorem z_zast {q n : Nat} {f : Nat → Int32} {i : Int32} {x : Int32} (hd : decode (mMc M) pc = .ok (.bastore, 1)) (hg : gt Θ h q = some (aI 1 n (f))) (hin : vp_in i n) (kk : mZ l Θ d M (pc + 1) loc stk (pt Θ h q (aI 1 n (upd f i.toNatClampNeg (vp_nar .boolean x)))) Q) : mZ l Θ d M pc loc (.int x :: .int i :: .ref q :: stk) h Q := by
  refine mZ.write (pc2 := pc + 1) (stk2 := stk) (e1 := aI 1 n (upd f i.toNatClampNeg (vp_nar .boolean x))) hg rfl (fun p e R s m args below meth c H locs cells slots Q ls C hR hat hS kk => by
    refine W.zast C.exec C.bytes hat ((C.ks.1.2 1 _ rfl).1 n (fun j => .int (f j))) (fun q => by cases q) (by show ¬ (i < 0 ∨ (arrV _ _ _).slots.size ≤ _); rw [arrV_size]; exact hin) rfl rfl hd fun H1 e1 z oq => ?_
    refine kk H1 _ z oq ?_
    show H1[q]? = some (vp_cell _ _)
    rw [e1]
    show some ((vp_cell _ _).setSlot _ _) = some (vp_cell _ _)
    rw [vp_cell_i, vp_cell_i, arrV_store]
    congr 2
    funext q9
    by_cases hq : q9 = i.toNatClampNeg
    · subst hq
      simp [updV, upd, vp_nar]
      try rfl
    · simp [updV, upd, vp_nar, hq]) kk
theorem z_bast {q n : Nat} {f : Nat → Int32} {i : Int32} {x : Int32} (hd : decode (mMc M) pc = .ok (.bastore, 1)) (hg : gt Θ h q = some (aI 4 n (f))) (hin : vp_in i n) (kk : mZ l Θ d M (pc + 1) loc stk (pt Θ h q (aI 4 n (upd f i.toNatClampNeg (vp_nar .byte x)))) Q) : mZ l Θ d M pc loc (.int x :: .int i :: .ref q :: stk) h Q := by
  refine mZ.write (pc2 := pc + 1) (stk2 := stk) (e1 := aI 4 n (upd f i.toNatClampNeg (vp_nar .byte x))) hg rfl (fun p e R s m args below meth c H locs cells slots Q ls C hR hat hS kk => by
    refine W.bast C.exec C.bytes hat ((C.ks.1.2 4 _ rfl).1 n (fun j => .int (f j))) (fun q => by cases q) (by show ¬ (i < 0 ∨ (arrV _ _ _).slots.size ≤ _); rw [arrV_size]; exact hin) rfl rfl hd fun H1 e1 z oq => ?_
    refine kk H1 _ z oq ?_
    show H1[q]? = some (vp_cell _ _)
    rw [e1]
    show some ((vp_cell _ _).setSlot _ _) = some (vp_cell _ _)
    rw [vp_cell_i, vp_cell_i, arrV_store]
    congr 2
    funext q9
    by_cases hq : q9 = i.toNatClampNeg
    · subst hq
      simp [updV, upd, vp_nar]
      try rfl
    · simp [updV, upd, vp_nar, hq]) kk
theorem z_last {q n : Nat} {f : Nat → Int64} {i : Int32} {x : Int64} (hd : decode (mMc M) pc = .ok (.lastore, 1)) (hg : gt Θ h q = some (aL n (f))) (hin : vp_in i n) (kk : mZ l Θ d M (pc + 1) loc stk (pt Θ h q (aL n (vp_updL f i.toNatClampNeg x))) Q) : mZ l Θ d M pc loc (.long x :: .int i :: .ref q :: stk) h Q := by
  refine mZ.write (pc2 := pc + 1) (stk2 := stk) (e1 := aL n (vp_updL f i.toNatClampNeg x)) hg rfl (fun p e R s m args below meth c H locs cells slots Q ls C hR hat hS kk => by
    refine W.last C.exec C.bytes hat ((C.ks.1.2 2 _ rfl).1 n (fun j => .long (f j))) (fun q => by cases q) (by show ¬ (i < 0 ∨ (arrV _ _ _).slots.size ≤ _); rw [arrV_size]; exact hin) rfl rfl hd fun H1 e1 z oq => ?_
    refine kk H1 _ z oq ?_
    show H1[q]? = some (vp_cell _ _)
    rw [e1]
    show some ((vp_cell _ _).setSlot _ _) = some (vp_cell _ _)
    rw [vp_cell_l, vp_cell_l, arrV_store]
    congr 2
    funext q9
    by_cases hq : q9 = i.toNatClampNeg
    · subst hq
      simp [updV, vp_updL]
      try rfl
    · simp [updV, vp_updL, hq]) kk
theorem z_dast {q n : Nat} {f : Nat → UInt64} {i : Int32} {x : UInt64} (hd : decode (mMc M) pc = .ok (.dastore, 1)) (hg : gt Θ h q = some (aD n (f))) (hin : vp_in i n) (kk : mZ l Θ d M (pc + 1) loc stk (pt Θ h q (aD n (vf_upd f i.toNatClampNeg x))) Q) : mZ l Θ d M pc loc (.double x :: .int i :: .ref q :: stk) h Q := by
  refine mZ.write (pc2 := pc + 1) (stk2 := stk) (e1 := aD n (vf_upd f i.toNatClampNeg x)) hg rfl (fun p e R s m args below meth c H locs cells slots Q ls C hR hat hS kk => by
    refine W.dast C.exec C.bytes hat ((C.ks.1.2 3 _ rfl).1 n (fun j => .double (f j))) (fun q => by cases q) (by show ¬ (i < 0 ∨ (arrV _ _ _).slots.size ≤ _); rw [arrV_size]; exact hin) rfl rfl hd fun H1 e1 z oq => ?_
    refine kk H1 _ z oq ?_
    show H1[q]? = some (vp_cell _ _)
    rw [e1]
    show some ((vp_cell _ _).setSlot _ _) = some (vp_cell _ _)
    rw [vp_cell_d, vp_cell_d, arrV_store]
    congr 2
    funext q9
    by_cases hq : q9 = i.toNatClampNeg
    · subst hq
      simp [updV, vf_upd]
      try rfl
    · simp [updV, vf_upd, hq]) kk
theorem mAsg {U : State} {C0 : String} {cC : ClassId} (h : ClassAt U C0 cC) : U.vm.assignable cC cC = true := va_assign h
theorem z_qast {q t n v ci : Nat} {f : Nat → Option Nat} {vs : List Value} {i : Int32} (ht : (t = 5 ∧ ci = 3) ∨ (t = 6 ∧ ci = 1)) (hd : decode (mMc M) pc = .ok (.aastore, 1)) (hg : gt Θ h q = some (aQ t n f)) (hv : gt Θ h v = some (oB ci vs)) (hin : vp_in i n) (kk : mZ l Θ d M (pc + 1) loc stk (pt Θ h q (aQ t n (va_up f i.toNatClampNeg (some v)))) Q) : mZ l Θ d M pc loc (.ref v :: .int i :: .ref q :: stk) h Q := by
  have hlt : i.toNatClampNeg < n := Nat.not_le.mp fun q => hin (Or.inr q)
  have h0 : ¬ i < 0 := fun q => hin (Or.inl q)
  refine mZ.write (pc2 := pc + 1) (stk2 := stk) (e1 := aQ t n (va_up f i.toNatClampNeg (some v))) hg rfl (fun p e R s m args below meth c H locs cells slots Q ls C hR hat hS kk => by
    obtain ⟨r, hcr, htr⟩ : ∃ r : vw_C, mCl[ci]? = some r ∧ (mTyC Θ)[t]? = some (mwtC Θ t, .object r.1) := by
      rcases ht with ⟨rfl, rfl⟩ | ⟨rfl, rfl⟩ <;> exact ⟨_, rfl, rfl⟩
    obtain ⟨r', hr', cellV, g1, g2, g3, -⟩ := hR.get hv
    have hcls := (C.ks.1.1 ci r hcr).2
    obtain ⟨hAr, kA, comp, k1, k2, k3, -⟩ := C.ks.1.2 t _ htr
    have hcomp : comp = (mwD Θ).1 ci := Option.some.inj (k3.symm.trans hcls.1)
    subst hcomp
    obtain ⟨kC, hkC, -⟩ := hcls.2
    refine W.aast C.exec C.bytes hat (fun q h => by cases h) (fun h => by cases h) k1 k2 rfl hkC ⟨h0, by show _ < (arrV _ _ _).slots.size; rw [arrV_size]; exact hlt⟩ g1 (fun q h => by rw [g3] at h; cases h) (by rw [g2]; exact hkC) (by rw [g2]; exact va_assign hcls) rfl rfl hd fun H1 e1 z oq => ?_
    refine kk H1 _ z oq ?_
    show H1[q]? = some (vp_cell _ _)
    rw [e1]
    show some ((vp_cell _ _).setSlot _ _) = some (vp_cell _ _)
    rw [vp_cell_q, vp_cell_q, arrV_store]
    congr 2
    funext q9
    by_cases hq : q9 = i.toNatClampNeg
    · subst hq
      simp [updV, va_up, va_rf]
    · simp [updV, va_up, hq]) kk
/-- what a new object's fields hold -/
def mDef (r : vw_C) : List Value := (List.range r.2.2).map (fun k => defaultValue ((parseFieldDescriptor (r.2.1 k).2.2.1).getD .int))
theorem mDef_at {r : vw_C} {j : Nat} (hj : j < r.2.2) : defaultValue ((parseFieldDescriptor (r.2.1 j).2.2.1).getD .int) = vp_V (mDef r) j := by
  simp [vp_V, mDef, hj]
/-- what 'new' asks -/
def mNw (own : String) (i ci : Nat) (fs : List Value) : Prop := ∃ r : vw_C, mCl[ci]? = some r ∧ Cond.classLink own i r.1 ∈ gtbl ∧ Cond.instantiable r.1 r.2.2 ∈ gtbl ∧ Cond.initialized r.1 ∈ gtbl ∧ mDef r = fs ∧ fs.length = r.2.2 ∧ 0 < r.2.2
theorem z_new {i ci : Nat} {fs : List Value} (hd : decode (mMc M) pc = .ok (.new i, 3)) (hw : mNw (mMy M).cls i ci fs) (kk : mZ l Θ d M (pc + 3) loc (.ref (mwB Θ + h.length) :: stk) (h ++ [oB ci fs]) Q) : mZ l Θ d M pc loc stk h Q := by
  obtain ⟨r, hc, w1, w2, w3, hdf, hlen, hpos⟩ := hw
  have hok := mCl_ok _ (List.mem_of_getElem? hc)
  have hz : msz1 (oB ci fs) = r.2.2 := by show (if fs.length = 0 then 6 else fs.length) = r.2.2; rw [if_neg (by omega), hlen]
  refine mZ.heap (by simp) (by rw [msz_app]; omega) (fun p e R s m args below meth c H locs cells slots Q ls C hR hL hS h1 h2 kk => ?_) kk
  rw [show (h ++ [oB ci fs]).length - h.length = 1 by simp] at h1 kk
  rw [show msz (h ++ [oB ci fs]) - msz h = r.2.2 by rw [msz_app, hz]; omega] at h2 kk
  have hKn := C.ks.1.1 ci _ hc
  refine W.newcK C.exec C.bytes C.own (C.hts _ w1) (C.hts _ w2) (C.hts _ w3) rfl hd h1 h2 hKn.2.1 rfl fun H1 kC hkC e1 z1 o1 => ?_
  have hq : H.size = mwB Θ + h.length := hR.1
  rw [hq]
  refine kk H1 locs ls (hR.push z1 o1 ⟨r, hc, ?_⟩) hL ⟨Nat.le_trans hS.1 (by omega), fun x h1 h2 => (o1 x (Nat.lt_of_lt_of_le h1 hS.1)).trans (hS.2.1 x h1 h2), hS.2.2⟩
  exact (u_born _ C.hts hok.1 hKn hkC e1 (mTy_some hok.2.1)).to (fun j hj => by rw [← hdf]; exact mDef_at hj)
theorem mArr_find {U : State} {H : Heap} {t : Nat} {ty : FieldType} {cA : ClassId} (hK : mKS Θ U H) (ht : (mTyC Θ)[t]? = some (mwtC Θ t, ty)) (hnm : U.vm.findClass ("[" ++ ty.toString) = some cA) : cA = mwtC Θ t := by
  have h1 := (hK.1.2 t _ ht).2
  have h2 : U.vm.findClass ("[" ++ ty.toString) = some (mwtC Θ t) := by
    cases ty with
    | object C0 => obtain ⟨_, _, _, _, _, h4⟩ := h1; exact h4
    | _ => exact h1
  exact Option.some.inj (hnm.symm.trans h2)
theorem mX.newarr {t N' : Nat} {a0 : vp_A} {H H1 : Heap} {s : State} {locs : List Loc} (hR : mRel Θ h H) (hS : va_S (mwA Θ) s.heap H locs) (z1 : H1.size = H.size + 1) (o1 : ∀ q : Nat, q < H.size → H1[q]? = H[q]?) (e1 : H1[H.size]? = some (vp_cell (mwtC Θ t) a0)) : mRel Θ (h ++ [.inl (t, a0)]) H1 ∧ va_S (mwA Θ) s.heap H1 locs :=
  ⟨hR.push z1 o1 e1, ⟨Nat.le_trans hS.1 (by omega), fun x h1 h2 => (o1 x (Nat.lt_of_lt_of_le h1 hS.1)).trans (hS.2.1 x h1 h2), hS.2.2⟩⟩
/-- a new array of numbers -/
theorem z_newarray {atype : ArrayType} {t n : Nat} {ty : FieldType} {x : Int32} {a0 : vp_A} (hd : decode (mMc M) pc = .ok (.newarray atype, 2)) (hty : newarray.typeOf atype = ty) (ht : ∀ Θ : mW, (mTyC Θ)[t]? = some (mwtC Θ t, ty)) (hw : Cond.arrayClass ty ∈ gtbl) (ha : ∀ cA : ClassId, vp_cell cA a0 = arrV cA n (fun _ => defaultValue ty)) (h0 : a0.1 = n) (hx : ¬ x < 0) (hN : x.toNatClampNeg = n) (hb : n * componentBytes ty ≤ 536870912)
    (kk : mZ l Θ d M (pc + 2) loc (.ref (mwB Θ + h.length) :: stk) (h ++ [.inl (t, a0)]) Q) : mZ l Θ d M pc loc (.int x :: stk) h Q := by
  subst hty
  have hz : msz1 (.inl (t, a0)) = n := h0
  refine mZ.heap (by simp) (by rw [msz_app]; omega) (fun p e R s m args below meth c H locs cells slots Q ls C hR hL hS h1 h2 kk => ?_) kk
  rw [show (h ++ [(.inl (t, a0) : mE)]).length - h.length = 1 by simp] at h1 kk
  rw [show msz (h ++ [(.inl (t, a0) : mE)]) - msz h = n by rw [msz_app, hz]; omega] at h2 kk
  refine va_newaK C.exec C.bytes (C.hts _ hw) rfl hd rfl hx hN hb h1 h2 hR.1 fun H1 cA e1 z1 o1 hAr hNm => ?_
  have hcA := mArr_find C.ks (ht Θ) hNm
  subst hcA
  obtain ⟨r1, r2⟩ := mX.newarr (t := t) (N' := n) (a0 := a0) hR hS (by rw [z1, hR.1]) (by rw [hR.1]; exact o1) (by rw [ha, hR.1]; exact e1)
  exact kk H1 locs ls r1 hL r2
/-- a new array of references -/
theorem z_anewarray {i t n : Nat} {C0 : String} {x : Int32} (hd : decode (mMc M) pc = .ok (.anewarray i, 3)) (ht : ∀ Θ : mW, (mTyC Θ)[t]? = some (mwtC Θ t, .object C0)) (hw : Cond.classLink (mMy M).cls i C0 ∈ gtbl) (hw2 : Cond.arrayOver (.object C0) ∈ gtbl) (hx : ¬ x < 0) (hN : x.toNatClampNeg = n) (hb : n * 4 ≤ 536870912)
    (kk : mZ l Θ d M (pc + 3) loc (.ref (mwB Θ + h.length) :: stk) (h ++ [aQ t n (fun _ => none)]) Q) : mZ l Θ d M pc loc (.int x :: stk) h Q := by
  have hz : msz1 (aQ t n (fun _ => none)) = n := rfl
  refine mZ.heap (by simp) (by rw [msz_app]; omega) (fun p e R s m args below meth c H locs cells slots Q ls C hR hL hS h1 h2 kk => ?_) kk
  rw [show (h ++ [aQ t n (fun _ => none)]).length - h.length = 1 by simp] at h1 kk
  rw [show msz (h ++ [aQ t n (fun _ => none)]) - msz h = n by rw [msz_app, hz]; omega] at h2 kk
  subst hN
  refine W.anew C.exec C.bytes C.own (C.hts _ hw) (C.hts _ hw2) rfl hd rfl hx hb h1 h2 fun cA kA comp f1 f2 f3 f4 => ?_
  generalize hH1 : H.push ({ cls := cA, slots := Array.replicate x.toNatClampNeg .null, vm := .none } : Cell) = H1
  have z1 : H1.size = H.size + 1 := by rw [← hH1, Array.size_push]
  have e1 : H1[H.size]? = some (arrV cA x.toNatClampNeg (fun _ => .null)) := by rw [← hH1, Array.getElem?_push_size, ← arrV_new]
  have o1 : ∀ q : Nat, q < H.size → H1[q]? = H[q]? := fun q hq => by rw [← hH1, Array.getElem?_push, if_neg (Nat.ne_of_lt hq)]
  have hcA : cA = mwtC Θ t := mArr_find C.ks (ht Θ) f1
  subst hcA
  obtain ⟨r1, r2⟩ := mX.newarr (t := t) (N' := x.toNatClampNeg) (a0 := (x.toNatClampNeg, .inr (.inr (.inr (.inr (fun _ => none)))))) hR hS z1 o1 e1
  rw [hR.1]
  exact kk H1 locs ls r1 hL r2
/-! ends -/
theorem mZ.ended {v : Option Value} (hq : Q (.inl v) h) (hs : ∀ (p : Program) (e : Env) (R : Room) (s : State) (m : MethodId) (args : Array Value) (below : List Frame) (meth : Method) (c : Code) (H : Heap) (locs : List Loc) (cells slots : Nat) (Qc : Array Value → State → Outcome → State → Prop) (free : Addr → Prop) (ls : Array Slot), mCtx l Θ d M p R s m args meth c →
      (∀ t : State, t.heap = H → s.WarmedH t.vm → Qc args s (.returned v) t) → (∀ q ∈ locs, free q.base) → W p l e R s m args below meth c H locs cells slots (MQ below Qc args s cells slots free) (F0 m pc ls stk)) : mZ l Θ d M pc loc stk h Q := by
  refine ⟨.inl v, h, hq, Nat.le_refl _, Nat.le_refl _, fun p e R s m args below meth c C H locs cells slots mc ms ls hR hS hL h1 h2 h3 h4 => ?_⟩
  rw [Nat.sub_self, Nat.add_zero] at h1 h2
  subst h1; subst h2
  refine vx_ret (hs p e R s m args below meth c H locs cells slots _ _ ls C (fun t ht hW => ⟨⟨v, rfl, rfl⟩, by rw [ht]; exact hR, fun q hq => ?_⟩) hS.2.2)
  rw [ht]
  exact hS.2.1 q (Nat.lt_of_lt_of_le hq C.ks.2.2.2.2.2.2.2.2.2.2) (Nat.not_le.mpr hq)
theorem z_ireturn {v : Int32} {ty : FieldType} (hd : decode (mMc M) pc = .ok (.ireturn, 1)) (hr : mMr M = some ty) (hn : narrow ty (.int v) = .int v) (hq : Q (.inl (some (.int v))) h) : mZ l Θ d M pc loc [.int v] h Q :=
  mZ.ended hq (fun p e R s m args below meth c H locs cells slots Qc free ls C hQ hf => W.zret (ty := ty) C.exec C.bytes (C.ret.trans hr) hn hQ hf hd C.locks)
theorem z_return (hd : decode (mMc M) pc = .ok (.return_, 1)) (hr : mMr M = none) (hq : Q (.inl none) h) : mZ l Θ d M pc loc [] h Q :=
  mZ.ended hq (fun p e R s m args below meth c H locs cells slots Qc free ls C hQ hf => W.vret C.exec C.bytes (C.ret.trans hr) hQ hf hd C.locks)
theorem z_areturn {v : Value} {rt : FieldType} (hd : decode (mMc M) pc = .ok (.areturn, 1)) (hr : mMr M = some rt) (hrt : (∃ n, rt = .object n) ∨ ∃ t, rt = .array t) (hv : v = .null ∨ ∃ a, v = .ref a) (hq : Q (.inl (some v)) h) : mZ l Θ d M pc loc [v] h Q :=
  mZ.ended hq (fun p e R s m args below meth c H locs cells slots Qc free ls C hQ hf => W.aret C.exec C.bytes (C.ret.trans hr) hrt hv hQ hf hd C.locks)
theorem z_dreturn {v : UInt64} (hd : decode (mMc M) pc = .ok (.dreturn, 1)) (hr : mMr M = some .double) (hq : Q (.inl (some (.double v))) h) : mZ l Θ d M pc loc [.double v] h Q :=
  mZ.ended hq (fun p e R s m args below meth c H locs cells slots Qc free ls C hQ hf => W.dret C.exec C.bytes (C.ret.trans hr) hQ hf hd C.locks)
theorem z_freturn {v : UInt32} (hd : decode (mMc M) pc = .ok (.freturn, 1)) (hr : mMr M = some .float) (hq : Q (.inl (some (.float v))) h) : mZ l Θ d M pc loc [.float v] h Q :=
  mZ.ended hq (fun p e R s m args below meth c H locs cells slots Qc free ls C hQ hf => W.fret C.exec C.bytes (C.ret.trans hr) hQ hf hd C.locks)
end HS
end
section
/-! methods: from a walk of the body; calls -/
theorem mArgs_mem : ∀ (as : List Value) (i j : Nat) (v : Value), as.all (fun v => v.category == 1) = true → as[j]? = some v → (i + j, v) ∈ lv_args i as
  | [], i, j, v, _, h => by simp at h
  | a :: as, i, 0, v, _, h => by
    simp only [List.getElem?_cons_zero, Option.some.injEq] at h
    subst h
    exact List.mem_cons_self
  | a :: as, i, j + 1, v, hc, h => by
    simp only [List.all_cons, Bool.and_eq_true, beq_iff_eq] at hc
    simp only [List.getElem?_cons_succ] at h
    have h1 := mArgs_mem as (i + 1) j v hc.2 h
    have h2 : (if a.category = 2 then i + 2 else i + 1) = i + 1 := if_neg (by omega)
    rw [lv_args, h2, show i + (j + 1) = i + 1 + j by omega]
    exact List.mem_cons_of_mem _ h1
theorem lg_sl_length : ∀ (as : List Value), as.all (fun v => v.category == 1) = true → (lg_sl as).length = as.length
  | [], _ => rfl
  | a :: as, hc => by
    simp only [List.all_cons, Bool.and_eq_true, beq_iff_eq] at hc
    have := lg_sl_length as hc.2
    unfold lg_sl at this ⊢
    rw [List.flatMap_cons, if_neg (by omega), List.length_append, this]
    simp
    omega
def mLoc0 (as : List Value) (n : Nat) : List (Option Value) := as.map some ++ List.replicate (n - as.length) none
theorem mLoc0_ok {ls : Array Slot} {as : List Value} {n : Nat} (hc : as.all (fun v => v.category == 1) = true) (hn : as.length ≤ n) (h : lv_has ls n (lv_args 0 as)) : mLoc ls n (mLoc0 as n) := by
  refine ⟨h.1, h.2.1, by simp [mLoc0]; omega, fun i v hi => ?_⟩
  unfold mLoc0 at hi
  by_cases hl : i < as.length
  · rw [List.getElem?_append_left (by simpa using hl), List.getElem?_map] at hi
    cases e : as[i]? with
    | none => rw [e] at hi; cases hi
    | some w =>
      rw [e] at hi
      have h9 : w = v := Option.some.inj (Option.some.inj hi)
      subst h9
      have h1 := mArgs_mem as 0 i w hc e
      rw [Nat.zero_add] at h1
      exact h.2.2 _ h1
  · rw [List.getElem?_append_right (by simpa using hl), List.getElem?_replicate] at hi
    split at hi <;> cases hi
section CR
variable {l : Launch} {Θ : mW} {d : Nat} {M : mM} {pc : Nat} {loc : List (Option Value)} {stk : List Value} {h : mH} {o : mO} {h' : mH} {Q : mO → mH → Prop}
theorem mMet.of {as : List Value} (hfl : l.flags = flags0) (hy : plainName (mMy M).cls = true) (hc : as.all (fun v => v.category == 1) = true) (hn : as.length ≤ mMl M) (hX : mX l Θ d M 0 (mLoc0 as (mMl M)) [] h o h') : mMet l Θ d M as h o h' := by
  have hlg : (lg_sl as).length ≤ mMl M := by rw [lg_sl_length as hc]; exact hn
  refine ⟨hX.1, hX.2.1, ?_⟩
  by_cases hh : (mMh M).isEmpty = true
  · refine vx_ofW (cc := mMc M) (maxL := mMl M) (ret := mMr M) (ws' := gtbl) hy (by rw [mWs, mMw, if_pos hh]) ?_
    intro p e s m args below meth c s₁ B hml ht hP
    obtain ⟨rfl, hR, hK⟩ := hP
    have hts := atoms_spec (ws := mWs M) B.pre
    have hl := lv_entry as (n := mMl M) hlg
    rw [lg_entry_eq]
    have htab : c.exceptionTable.toList = tableOf (mMh M) := by
      rw [List.isEmpty_iff.mp hh]
      cases e9 : c.exceptionTable.toList with
      | nil => rfl
      | cons a b => exact absurd (ht a (by rw [e9]; exact List.mem_cons_self)) id
    exact hX.2.2 p e _ s m _ below meth c ⟨hfl, B.exec, B.bytes, B.returns, hml, fun w hw => hts w (List.mem_cons_of_mem _ hw), findClass_of_methodNamed B.named, B.notSynchronized, (name_of_methodNamed B.named B.method).1, htab, hK, Nat.le_refl _, Nat.le_refl _⟩ s.heap [] 0 0 _ _ _ hR va_S.rf (mLoc0_ok hc hn hl) (Nat.zero_add _) (Nat.zero_add _) (Nat.le_refl _) (Nat.le_refl _)
  · have hw0 : mMw M = .codeWith (mMy M) (mMc M) (mMl M) (mMr M) (mMh M) := by rw [mMw, if_neg hh]
    refine vx_ofWH (cc := mMc M) (maxL := mMl M) (ret := mMr M) (hh := mMh M) (ws' := gtbl) hy (by rw [mWs, hw0]) ?_
    intro p e s m args below meth c s₁ B hml hP
    obtain ⟨rfl, hR, hK⟩ := hP
    have hts := atoms_spec (ws := mWs M) B.pre
    have hl := lv_entry as (n := mMl M) hlg
    rw [lg_entry_eq]
    have hcw := hts _ List.mem_cons_self
    rw [hw0] at hcw
    have htab : c.exceptionTable.toList = tableOf (mMh M) := vx_table (x := mMy M) B hcw
    exact hX.2.2 p e _ s m _ below meth c ⟨hfl, B.exec, B.bytes, B.returns, hml, fun w hw => hts w (List.mem_cons_of_mem _ hw), findClass_of_methodNamed B.named, B.notSynchronized, (name_of_methodNamed B.named B.method).1, htab, hK, Nat.le_refl _, Nat.le_refl _⟩ s.heap [] 0 0 _ _ _ hR va_S.rf (mLoc0_ok hc hn hl) (Nat.zero_add _) (Nat.zero_add _) (Nat.le_refl _) (Nat.le_refl _)
/-- a method's contract with a post -/
def mT (l : Launch) (Θ : mW) (d : Nat) (M : mM) (as : List Value) (h : mH) (Q : mO → mH → Prop) : Prop := ∃ (o : mO) (h' : mH), Q o h' ∧ mMet l Θ d M as h o h'
theorem mT.of {as : List Value} (hfl : l.flags = flags0) (hy : plainName (mMy M).cls = true) (hc : as.all (fun v => v.category == 1) = true) (hn : as.length ≤ mMl M) (hX : mZ l Θ d M 0 (mLoc0 as (mMl M)) [] h Q) : mT l Θ d M as h Q := by
  obtain ⟨o, h', q, x⟩ := hX
  exact ⟨o, h', q, mMet.of hfl hy hc hn x⟩
theorem mT.mono {as : List Value} {Q' : mO → mH → Prop} (x : mT l Θ d M as h Q) (hq : ∀ o h', Q o h' → Q' o h') : mT l Θ d M as h Q' := by
  obtain ⟨o, h', q, x⟩ := x
  exact ⟨o, h', hq _ _ q, x⟩
theorem mZ.mono {Q' : mO → mH → Prop} (x : mZ l Θ d M pc loc stk h Q) (hq : ∀ o h', Q o h' → Q' o h') : mZ l Θ d M pc loc stk h Q' := by
  obtain ⟨o, h', q, x⟩ := x
  exact ⟨o, h', hq _ _ q, x⟩
theorem mPc_blind {as : List Value} : FrameBlind (mPc Θ as h) := fun a U g mk q => ⟨q.1, q.2.1, mKS.same (u := U) (U := U.calling g mk a) rfl q.2.2⟩
theorem mMet.met {v : Option Value} {as : List Value} {dj : Nat} {M' : mM} {h1 : mH} (hM : mMet l Θ dj M' as h (.inl v) h1) : Met l (mMy M') (mWs M') (mRm dj h h1) (mPc Θ as h) (mQc Θ (.inl v) h1) (h1.length - h.length) (msz h1 - msz h) (mwA Θ) := by
  refine MetFree.mono hM.2.2 (fun _ _ h => h) (fun _ _ _ _ _ h => h) (fun a s o s' _ q => ?_)
  rcases q with q | ⟨q, -, E, ce, L, ⟨⟨n, hn, -⟩, -⟩, -⟩
  · exact q
  · cases hn
/-- a run that comes back, among those that come back or throw -/
theorem va_Run.vx {p : Program} {e : Env} {R : Room} {s : State} {m : MethodId} {args : Array Value} {below : List Frame} {meth : Method} {c : Code} {H : Heap} {locs : List Loc} {cells slots mc ms : Nat} {g : JFrame} {rest : List Value} {Qa : State → Outcome → State → Prop} {XC : String → State → State → Prop} {free : Addr → Prop}
    (hr : va_Run p l e R s m args below meth c H locs cells slots mc ms g rest Qa free) : vx_Run p l e R s m args below meth c H locs cells slots mc ms g rest Qa XC free := fun T hT X => Or.inl (hr T hT X)
/-- a call's run, whatever its kind -/
def mCall (l : Launch) (Θ : mW) (d : Nat) (M : mM) (pc : Nat) (loc : List (Option Value)) (stk rest : List Value) (h : mH) (o1 : mO) (h1 : mH) : Prop :=
  h.length ≤ h1.length ∧ msz h ≤ msz h1 ∧ ∀ (p : Program) (e : Env) (R : Room) (s : State) (m : MethodId) (args : Array Value) (below : List Frame) (meth : Method) (c : Code) (H : Heap) (locs : List Loc) (cells slots : Nat) (ls : Array Slot), mCtx l Θ d M p R s m args meth c → mRel Θ h H → va_S (mwA Θ) s.heap H locs → mLoc ls (mMl M) loc → cells + (h1.length - h.length) ≤ R.cells → slots + (msz h1 - msz h) ≤ R.slots →
    ∃ a, vx_Run p l e R s m args below meth c H locs cells slots (h1.length - h.length) (msz h1 - msz h) (F0 m pc ls stk) rest (mQc Θ o1 h1 a) (mXC Θ o1 h1) (mwA Θ)
theorem mCall_S {st0 t : State} {T' : State} {H : Heap} {s : State} {locs L : List Loc} {h1 : mH} (hR : mRel Θ h H) (hlen : h.length ≤ h1.length) (hR1 : mRel Θ h1 t.heap) (hO : mOld Θ st0.heap t.heap) (h0 : st0.heap = H) (e1 : T'.heap = t.heap) (hS : va_S (mwA Θ) s.heap H locs) (hL : ∀ q ∈ L, mwA Θ q.base) : va_S (mwA Θ) s.heap T'.heap (locs ++ L) := by
  refine ⟨Nat.le_trans hS.1 (by rw [e1, hR1.1, hR.1]; omega), fun q h1 h2 => ?_, fun q hq => ?_⟩
  · rw [e1, hO q (Nat.not_le.mp h2), h0]
    exact hS.2.1 q h1 h2
  · rcases List.mem_append.mp hq with h | h
    · exact hS.2.2 q h
    · exact hL q h
theorem mX.callR {v : Option Value} {rest : List Value} {h1 : mH} (hc : mCall l Θ d M pc loc stk rest h (.inl v) h1) (k : mX l Θ d M (pc + 3) loc (v.toList ++ rest) h1 o h') : mX l Θ d M pc loc stk h o h' := by
  refine ⟨Nat.le_trans hc.1 k.1, Nat.le_trans hc.2.1 k.2.1, fun p e R s m args below meth c C H locs cells slots mc ms ls hR hS hL e1 e2 e3 e4 => ?_⟩
  have c1 := hc.1
  have c2 := hc.2.1
  have k1 := k.1
  have k2 := k.2.1
  intro T hT X
  obtain ⟨a9, hr⟩ := hc.2.2 p e R s m args below meth c H locs cells slots ls C hR hS hL (by omega) (by omega)
  rcases hr T hT X with ⟨w, st₀, t, T', L, h0, X', hL', g1, g2, ⟨⟨w', q1, q2⟩, hR1, hO⟩, st⟩ | ⟨q, st₀, t, T', L, E, ce, h0, X', hL', g1, g2, ⟨⟨n, q1, -⟩, -⟩, -⟩
  · cases q1
    cases q2
    obtain ⟨t2, a1, b1⟩ := k.2.2 p e R s m args below meth c C T'.heap (locs ++ L) _ _ mc ms ls (by rw [g1]; exact hR1) (mCall_S hR hc.1 hR1 hO h0 g1 hS hL') hL (by omega) (by omega) e3 e4 T' rfl X'
    exact ⟨t2, st t2 a1, b1⟩
  · cases q1
/-- thrown out of a method without handlers -/
theorem mX.callX {n : Nat} {rest : List Value} {h1 : mH} (hh : mMh M = []) (hc : mCall l Θ d M pc loc stk rest h (.inr n) h1) : mX l Θ d M pc loc stk h (.inr n) h1 := by
  refine ⟨hc.1, hc.2.1, fun p e R s m args below meth c C H locs cells slots mc ms ls hR hS hL e1 e2 e3 e4 => ?_⟩
  intro T hT X
  obtain ⟨a9, hr⟩ := hc.2.2 p e R s m args below meth c H locs cells slots ls C hR hS hL (by omega) (by omega)
  rcases hr T hT X with ⟨w, st₀, t, T', L, h0, X', hL', g1, g2, ⟨⟨w', q1, q2⟩, hR1, hO⟩, st⟩ | ⟨q, st₀, t, T', L, E, ce, h0, X', hL', g1, g2, ⟨⟨n', q1, hE⟩, hR1, hO⟩, hce, hcv, hcl, st⟩
  · cases q1
  · have hSS := mCall_S hR hc.1 hR1 hO h0 g1 hS hL'
    have hout : vx_W p l e R s m args below meth c T'.heap (locs ++ L) (cells + (h1.length - h.length)) (slots + (msz h1 - msz h)) (vx_MQ below (mQc Θ (.inr n) h1) (mXC Θ (.inr n) h1) args s mc ms (mwA Θ)) (F0 m pc ls rest) q := by
      refine vx_outP C.own C.locks (fun z hz => ?_) (by rw [g1]; exact hce) hcv hcl (fun t9 ht9 _ => ⟨⟨n', q1, hE⟩, by rw [ht9, g1]; exact hR1, fun x hx => ?_⟩) hSS.2.2 (Nat.le_of_eq e1) (Nat.le_of_eq e2)
      · rw [C.table, hh] at hz
        cases hz
      · rw [ht9]
        exact hSS.2.1 x (Nat.lt_of_lt_of_le hx C.ks.2.2.2.2.2.2.2.2.2.2) (Nat.not_le.mpr hx)
    obtain ⟨t2, a1, b1⟩ := hout T' rfl X'
    exact ⟨t2, st.trans a1, b1⟩
/-- which handler takes a class of exceptions -/
def mCatch (M : mM) (pc n hpc : Nat) : Prop := ∃ (pre : List (Nat × Nat × Nat × Nat)) (x : Nat × Nat × Nat × Nat) (suf : List (Nat × Nat × Nat × Nat)) (nm : String), mMh M = pre ++ x :: suf ∧ covers ⟨x.1, x.2.1, x.2.2.1, x.2.2.2⟩ pc = true ∧ x.2.2.2 ≠ 0 ∧ x.2.2.1 = hpc ∧ Cond.classLink (mMy M).cls x.2.2.2 nm ∈ gtbl ∧ Cond.castable (mEx n) nm ∈ mNs ∧
  ∀ z ∈ pre, z.2.2.2 ≠ 0 ∧ ∃ nm', Cond.classLink (mMy M).cls z.2.2.2 nm' ∈ gtbl ∧ (mEx n, nm') ∈ mNc
theorem mX.callC {n hpc : Nat} {rest : List Value} {h1 : mH} (hcat : mCatch M pc n hpc) (hc : mCall l Θ d M pc loc stk rest h (.inr n) h1) (k : ∀ q : Nat, mX l Θ d M hpc loc [.ref q] h1 o h') : mX l Θ d M pc loc stk h o h' := by
  have k1 := (k 0).1
  have k2 := (k 0).2.1
  have c1 := hc.1
  have c2 := hc.2.1
  refine ⟨Nat.le_trans hc.1 k1, Nat.le_trans hc.2.1 k2, fun p e R s m args below meth c C H locs cells slots mc ms ls hR hS hL e1 e2 e3 e4 => ?_⟩
  intro T hT X
  obtain ⟨a9, hr⟩ := hc.2.2 p e R s m args below meth c H locs cells slots ls C hR hS hL (by omega) (by omega)
  rcases hr T hT X with ⟨w, st₀, t, T', L, h0, X', hL', g1, g2, ⟨⟨w', q1, q2⟩, hR1, hO⟩, st⟩ | ⟨q, st₀, t, T', L, E, ce, h0, X', hL', g1, g2, ⟨⟨n', q1, hE⟩, hR1, hO⟩, hce, hcv, hcl, st⟩
  · cases q1
  · cases q1
    subst hE
    obtain ⟨pre, x, suf, nm, hs1, hs2, hs3, hs4, hs5, hs6, hs7⟩ := hcat
    subst hs4
    have hSS := mCall_S hR hc.1 hR1 hO h0 g1 hS hL'
    have hin := vx_catch (p := p) (l := l) (e := e) (R := R) (m := m) (args := args) (below := below) (meth := meth) (c := c) (s := s) (H := T'.heap) (locs := locs ++ L) (cells := cells + (h1.length - h.length)) (slots := slots + (msz h1 - msz h)) (ls := ls) (rest := rest) (pc := pc) C.own (tableOf pre) ⟨x.1, x.2.1, x.2.2.1, x.2.2.2⟩ (tableOf suf) (by rw [C.table, hs1]; simp [tableOf]) (fun z hz => by
      obtain ⟨z0, hz0, rfl⟩ := List.mem_map.mp hz
      obtain ⟨y1, nm', y2, y3⟩ := hs7 z0 hz0
      exact Or.inr ⟨y1, nm', C.hts _ y2, C.ks.2.2.2.2.2.2.2.1 _ y3⟩) hs2 hs3 (C.hts _ hs5) ((C.ks.2.2.2.2.2.2.1 _ hs6).use rfl) (by rw [g1]; exact hce) hcv hcl ((k q).2.2 p e R s m args below meth c C T'.heap (locs ++ L) _ _ mc ms ls (by rw [g1]; exact hR1) hSS hL (by omega) (by omega) e3 e4)
    obtain ⟨t2, a1, b1⟩ := hin T' rfl X'
    exact ⟨t2, st.trans a1, b1⟩
/-! the kinds of calls -/
/-- what is asked of a callee -/
def mCd (M' : mM) (n : Nat) : Prop := (mMy M').cls ≠ "java/lang/invoke/MethodHandle" ∧ (mMy M').cls ≠ "java/lang/invoke/VarHandle" ∧ (parseMethodDescriptor (mMy M').desc).map (fun d => d.parameters.length) = some n ∧ mMl M' ≤ 60 ∧ mMw M' ∈ gtbl ∧ Cond.initialized (mMy M').cls ∈ gtbl
theorem mWs_good {M' : mM} {n : Nat} (h : mCd M' n) : GoodIn gtbl (mWs M') := fun w hw => by
  rcases List.mem_cons.mp hw with rfl | hw
  · exact gtbl_good _ h.2.2.2.2.1
  · exact gtbl_good _ hw
def mRecv (Θ : mW) (h : mH) (b : Nat) (C0 : String) : Prop := (∃ (ci : Nat) (fs : List Value) (r : vw_C), gt Θ h b = some (oB ci fs) ∧ mCl[ci]? = some r ∧ r.1 = C0) ∨ ∃ j, (j, C0) ∈ mOO ∧ b = mwad Θ j
theorem mRecv.cell {b : Nat} {C0 : String} {s : State} {H : Heap} {locs : List Loc} (hr : mRecv Θ h b C0) (hK : mKS Θ s s.heap) (hR : mRel Θ h H) (hS : va_S (mwA Θ) s.heap H locs) : ∃ cell : Cell, H[b]? = some cell ∧ cell.vm.isStatics = false ∧ s.vm.findClass C0 = some cell.cls := by
  rcases hr with ⟨ci, fs, r, hg, hc, rfl⟩ | ⟨j, hj, rfl⟩
  · exact va_recv hK.1 (hR.P hg) (q0 := 0) hc rfl
  · obtain ⟨cell, h1, h2, h3, -⟩ := (hK.2.2.2.2.1 _ hj).kept hS.2.1
    exact ⟨cell, h1, h2, h3⟩
theorem mPre_U {as : List Value} {H : Heap} {s : State} {locs : List Loc} (C : mKS Θ s s.heap) (hR : mRel Θ h H) (hS : va_S (mwA Θ) s.heap H locs) : ∀ U : State, U.heap = H → s.WarmedH U.vm → mPc Θ as h as.toArray U := fun U hU hW => ⟨rfl, by rw [hU]; exact hR, by
  rw [hU]
  exact mKS.moved hW (C.kept hS.1 (fun a ha => hS.2.1 a (Nat.lt_of_lt_of_le ha C.2.2.2.2.2.2.2.2.2.2) (Nat.not_le.mpr ha)))⟩
theorem mHead {M' : mM} {n dj : Nat} {h1 : mH} {R : Room} (hd9 : mCd M' n) (hdj : dj + 1 ≤ d) (h1' : d ≤ R.frames) (h2 : 80 * d ≤ R.locals) : (mRm dj h h1).frames + 1 ≤ R.frames ∧ 8 + (mMl M' + 11) + (mRm dj h h1).locals ≤ R.locals := by
  have := hd9.2.2.2.1
  constructor
  · show dj + 1 ≤ R.frames; omega
  · show 8 + (mMl M' + 11) + 80 * dj ≤ R.locals; omega
theorem mLenF {M' : mM} {n : Nat} (hd9 : mCd M' n) : ∀ sig, parseMethodDescriptor (mMy M').desc = some sig → n = sig.parameters.length := fun sig h => by
  have h2 := hd9.2.2.1
  rw [h] at h2
  exact (Option.some.inj h2).symm
theorem mRoom8 {ls : Array Slot} {m : MethodId} {rest : List Value} (h8 : (rest.map fun v => v.category).sum ≤ 8) : 2 * (F0 m pc ls stk).monitorRoom + (rest.map fun v => v.category).sum ≤ 8 := lv_room h8
/-- static -/
def mCs (own : String) (i : Nat) (M' : mM) : Prop := Cond.methodLink own i (mMy M') ∈ gtbl ∧ Cond.static (mMy M') ∈ gtbl
theorem mCall.st {i n dj : Nat} {M' : mM} {As rest : List Value} {o1 : mO} {h1 : mH} (hd : decode (mMc M) pc = .ok (.invokestatic i, 3)) (hd9 : mCd M' n) (hw : mCs (mMy M).cls i M') (hn : As.length = n) (hst : stk = As.reverse ++ rest) (h8 : (rest.map fun v => v.category).sum ≤ 8) (hdj : dj + 1 ≤ d) (hM : mMet l Θ dj M' As h o1 h1) : mCall l Θ d M pc loc stk rest h o1 h1 := by
  refine ⟨hM.1, hM.2.1, fun p e R s m args below meth c H locs cells slots ls C hR hS hL e1 e2 => ⟨As.toArray, ?_⟩⟩
  have hH := mHead (h := h) (h1 := h1) hd9 hdj C.frames C.room
  by_cases hh : (mMh M').isEmpty = true
  · have hcw : mMw M' = .code (mMy M') (mMc M') (mMl M') (mMr M') := by rw [mMw, if_pos hh]
    have hin : Cond.code (mMy M') (mMc M') (mMl M') (mMr M') ∈ mWs M' := by rw [mWs, hcw]; exact List.mem_cons_self
    exact vx_runS (As := As) (rest := rest) ⟨C.exec, C.bytes, C.maxl, C.own, C.hts⟩ hM.2.2 ⟨⟨rfl, rfl, hH.1, hH.2, pay_in C.hts (mWs_good hd9), hin, C.hts _ (hcw ▸ hd9.2.2.2.2.1), C.hts _ hd9.2.2.2.2.2, ⟨hd9.1, hd9.2.1⟩, mLenF hd9, C.hts _ hw.1⟩, C.hts _ hw.2⟩ ⟨mPc_blind, mPre_U C.ks hR hS⟩ rfl hn hL.1 hst (mRoom8 h8) hd ⟨e1, e2⟩
  · have hcw : mMw M' = .codeWith (mMy M') (mMc M') (mMl M') (mMr M') (mMh M') := by rw [mMw, if_neg hh]
    have hin : Cond.codeWith (mMy M') (mMc M') (mMl M') (mMr M') (mMh M') ∈ mWs M' := by rw [mWs, hcw]; exact List.mem_cons_self
    exact vx_runSX (As := As) (rest := rest) ⟨C.exec, C.bytes, C.maxl, C.own, C.hts⟩ hM.2.2 ⟨⟨rfl, rfl, hH.1, hH.2, pay_in C.hts (mWs_good hd9), hin⟩, C.hts _ (hcw ▸ hd9.2.2.2.2.1), C.hts _ hd9.2.2.2.2.2, ⟨hd9.1, hd9.2.1⟩, mLenF hd9, C.hts _ hw.1, C.hts _ hw.2⟩ ⟨mPc_blind, mPre_U C.ks hR hS⟩ rfl hn hL.1 hst (mRoom8 h8) hd ⟨e1, e2⟩
/-- virtual -/
def mCv (own : String) (i : Nat) (M' : mM) (C0 : String) : Prop := Cond.methodLink own i (mMy M') ∈ gtbl ∧ Cond.instanceMethod (mMy M') ∈ gtbl ∧ Cond.selects C0 (mMy M') (mMy M') ∈ gtbl
theorem mCall.vi {i n dj b : Nat} {M' : mM} {C0 : String} {As rest : List Value} {o1 : mO} {h1 : mH} (hd : decode (mMc M) pc = .ok (.invokevirtual i, 3)) (hd9 : mCd M' n) (hw : mCv (mMy M).cls i M' C0) (hrc : mRecv Θ h b C0) (hn : As.length = n) (hst : stk = As.reverse ++ .ref b :: rest) (h8 : (rest.map fun v => v.category).sum ≤ 8) (hdj : dj + 1 ≤ d) (hM : mMet l Θ dj M' (.ref b :: As) h o1 h1) : mCall l Θ d M pc loc stk rest h o1 h1 := by
  refine ⟨hM.1, hM.2.1, fun p e R s m args below meth c H locs cells slots ls C hR hS hL e1 e2 => ⟨(Value.ref b :: As).toArray, ?_⟩⟩
  have hH := mHead (h := h) (h1 := h1) hd9 hdj C.frames C.room
  have hcell := hrc.cell C.ks hR hS
  by_cases hh : (mMh M').isEmpty = true
  · have hcw : mMw M' = .code (mMy M') (mMc M') (mMl M') (mMr M') := by rw [mMw, if_pos hh]
    have hin : Cond.code (mMy M') (mMc M') (mMl M') (mMr M') ∈ mWs M' := by rw [mWs, hcw]; exact List.mem_cons_self
    exact vx_runV (C := C0) (b := b) (As := As) (rest := rest) ⟨C.exec, C.bytes, C.maxl, C.own, C.hts⟩ hM.2.2 ⟨⟨rfl, rfl, hH.1, hH.2, pay_in C.hts (mWs_good hd9), hin, C.hts _ (hcw ▸ hd9.2.2.2.2.1), C.hts _ hd9.2.2.2.2.2, ⟨hd9.1, hd9.2.1⟩, mLenF hd9, C.hts _ hw.1⟩, C.hts _ hw.2.1, C.hts _ hw.2.2⟩ ⟨mPc_blind, hcell, mPre_U C.ks hR hS⟩ rfl hn hL.1 hst (mRoom8 h8) hd ⟨e1, e2⟩
  · have hcw : mMw M' = .codeWith (mMy M') (mMc M') (mMl M') (mMr M') (mMh M') := by rw [mMw, if_neg hh]
    have hin : Cond.codeWith (mMy M') (mMc M') (mMl M') (mMr M') (mMh M') ∈ mWs M' := by rw [mWs, hcw]; exact List.mem_cons_self
    exact vx_runVX (C := C0) (b := b) (As := As) (rest := rest) ⟨C.exec, C.bytes, C.maxl, C.own, C.hts⟩ hM.2.2 ⟨⟨rfl, rfl, hH.1, hH.2, pay_in C.hts (mWs_good hd9), hin⟩, C.hts _ (hcw ▸ hd9.2.2.2.2.1), C.hts _ hd9.2.2.2.2.2, ⟨hd9.1, hd9.2.1⟩, mLenF hd9, C.hts _ hw.1, C.hts _ hw.2.1, C.hts _ hw.2.2⟩ ⟨mPc_blind, hcell, mPre_U C.ks hR hS⟩ rfl hn hL.1 hst (mRoom8 h8) hd ⟨e1, e2⟩
/-- a constructor -/
def mCi (own : String) (i : Nat) (M' : mM) : Prop := (Cond.methodLink own i (mMy M') ∈ gtbl ∨ ∃ host, Cond.methodLinkNest own i (mMy M') host ∈ mNs) ∧ Cond.instanceMethod (mMy M') ∈ gtbl ∧ (mMy M').name = "<init>" ∧ mMr M' = none ∧ mMh M' = []
theorem mCall.ini {i n dj b : Nat} {M' : mM} {As rest : List Value} {h1 : mH} (hd : decode (mMc M) pc = .ok (.invokespecial i, 3)) (hd9 : mCd M' n) (hw : mCi (mMy M).cls i M') (hn : As.length = n) (hst : stk = As.reverse ++ .ref b :: rest) (h8 : (rest.map fun v => v.category).sum ≤ 8) (hdj : dj + 1 ≤ d) (hM : mMet l Θ dj M' (.ref b :: As) h (.inl none) h1) : mCall l Θ d M pc loc stk rest h (.inl none) h1 := by
  refine ⟨hM.1, hM.2.1, fun p e R s m args below meth c H locs cells slots ls C hR hS hL e1 e2 => ⟨(Value.ref b :: As).toArray, ?_⟩⟩
  have hH := mHead (h := h) (h1 := h1) hd9 hdj C.frames C.room
  obtain ⟨hw1, hw2, hw3, hw4, hw5⟩ := hw
  have hcw : mMw M' = .code (mMy M') (mMc M') (mMl M') none := by rw [mMw, hw5, hw4]; rfl
  have hin : Cond.code (mMy M') (mMc M') (mMl M') none ∈ mWs M' := by rw [mWs, hcw]; exact List.mem_cons_self
  rcases hw1 with hw1 | ⟨host, hw1⟩
  · exact (va_runI (b := b) (As := As) (rest := rest) ⟨C.exec, C.bytes, C.maxl, C.own, C.hts⟩ hM.met ⟨⟨rfl, rfl, hH.1, hH.2, pay_in C.hts (mWs_good hd9), hin, C.hts _ (hcw ▸ hd9.2.2.2.2.1), C.hts _ hd9.2.2.2.2.2, ⟨hd9.1, hd9.2.1⟩, mLenF hd9, C.hts _ hw1⟩, hw3, C.hts _ hw2⟩ ⟨mPc_blind, mPre_U C.ks hR hS⟩ rfl hn hL.1 hst (mRoom8 h8) hd ⟨e1, e2⟩).vx
  · exact (va_runIN (host := host) (b := b) (As := As) (rest := rest) ⟨C.exec, C.bytes, C.maxl, C.own, C.hts⟩ hM.met ⟨⟨⟨rfl, rfl, hH.1, hH.2, pay_in C.hts (mWs_good hd9), hin⟩, C.hts _ (hcw ▸ hd9.2.2.2.2.1), C.hts _ hd9.2.2.2.2.2, ⟨hd9.1, hd9.2.1⟩, mLenF hd9, (C.ks.2.2.2.2.2.2.1 _ hw1).use rfl⟩, hw3, C.hts _ hw2⟩ ⟨mPc_blind, mPre_U C.ks hR hS⟩ rfl hn hL.1 hst (mRoom8 h8) hd ⟨e1, e2⟩).vx
/-- a method that is called under another class's name -/
def mCu (own : String) (i : Nat) (M' : mM) (C0 xcls owner : String) : Prop := Cond.methodLink own i ⟨xcls, (mMy M').name, (mMy M').desc⟩ ∈ gtbl ∧ Cond.sameMethod xcls owner (mMy M').name (mMy M').desc ∈ gtbl ∧ Cond.selects C0 ⟨xcls, (mMy M').name, (mMy M').desc⟩ (mMy M') ∈ gtbl ∧ Cond.instanceMethod (mMy M') ∈ gtbl ∧ owner = (mMy M').cls ∧ mMh M' = []
theorem mCall.un {i n dj b : Nat} {M' : mM} {C0 xcls owner : String} {As rest : List Value} {v : Option Value} {h1 : mH} (hd : decode (mMc M) pc = .ok (.invokevirtual i, 3)) (hd9 : mCd M' n) (hw : mCu (mMy M).cls i M' C0 xcls owner) (hrc : mRecv Θ h b C0) (hn : As.length = n) (hst : stk = As.reverse ++ .ref b :: rest) (h8 : (rest.map fun v => v.category).sum ≤ 8) (hdj : dj + 1 ≤ d) (hM : mMet l Θ dj M' (.ref b :: As) h (.inl v) h1) : mCall l Θ d M pc loc stk rest h (.inl v) h1 := by
  refine ⟨hM.1, hM.2.1, fun p e R s m args below meth c H locs cells slots ls C hR hS hL e1 e2 => ⟨(Value.ref b :: As).toArray, ?_⟩⟩
  have hH := mHead (h := h) (h1 := h1) hd9 hdj C.frames C.room
  have hcell := hrc.cell C.ks hR hS
  obtain ⟨w1, w2, w3, w4, rfl, w5⟩ := hw
  have hcw : mMw M' = .code (mMy M') (mMc M') (mMl M') (mMr M') := by rw [mMw, w5]; rfl
  have hin : Cond.code (mMy M') (mMc M') (mMl M') (mMr M') ∈ mWs M' := by rw [mWs, hcw]; exact List.mem_cons_self
  exact (va_runU (x := ⟨xcls, (mMy M').name, (mMy M').desc⟩) (C := C0) (owner := (mMy M').cls) (b := b) (As := As) (rest := rest) ⟨C.exec, C.bytes, C.maxl, C.own, C.hts⟩ hM.met ⟨⟨rfl, rfl, hH.1, hH.2, pay_in C.hts (mWs_good hd9), hin⟩, C.hts _ (hcw ▸ hd9.2.2.2.2.1), C.hts _ hd9.2.2.2.2.2, ⟨hd9.1, hd9.2.1⟩, mLenF hd9, C.hts _ w1, C.hts _ w2, va_Decl.of (C.hts _ w4) (C.hts _ (hcw ▸ hd9.2.2.2.2.1)), C.hts _ w3, C.hts _ w4⟩ ⟨mPc_blind, hcell, mPre_U C.ks hR hS⟩ rfl hn hL.1 hst (mRoom8 h8) hd ⟨e1, e2⟩).vx
/-- super -/
def mCp (own : String) (i : Nat) (M' : mM) : Prop := Cond.methodLink own i (mMy M') ∈ gtbl ∧ Cond.sameMethod (mMy M').cls (mMy M').cls (mMy M').name (mMy M').desc ∈ gtbl ∧ Cond.superclass own (mMy M').cls ∈ gtbl ∧ Cond.instanceMethod (mMy M') ∈ gtbl ∧ (mMy M').name ≠ "<init>" ∧ mMh M' = []
theorem mCall.su {i n dj b ci : Nat} {M' : mM} {fs As rest : List Value} {v : Option Value} {h1 : mH} (hd : decode (mMc M) pc = .ok (.invokespecial i, 3)) (hd9 : mCd M' n) (hw : mCp (mMy M).cls i M') (hg : gt Θ h b = some (oB ci fs)) (hn : As.length = n) (hst : stk = As.reverse ++ .ref b :: rest) (h8 : (rest.map fun v => v.category).sum ≤ 8) (hdj : dj + 1 ≤ d) (hM : mMet l Θ dj M' (.ref b :: As) h (.inl v) h1) : mCall l Θ d M pc loc stk rest h (.inl v) h1 := by
  refine ⟨hM.1, hM.2.1, fun p e R s m args below meth c H locs cells slots ls C hR hS hL e1 e2 => ⟨(Value.ref b :: As).toArray, ?_⟩⟩
  have hH := mHead (h := h) (h1 := h1) hd9 hdj C.frames C.room
  obtain ⟨w1, w2, w3, w4, w6, w5⟩ := hw
  have hcw : mMw M' = .code (mMy M') (mMc M') (mMl M') (mMr M') := by rw [mMw, w5]; rfl
  have hin : Cond.code (mMy M') (mMc M') (mMl M') (mMr M') ∈ mWs M' := by rw [mWs, hcw]; exact List.mem_cons_self
  obtain ⟨r, hr, -⟩ := hR.get hg
  have hcell := mRecv.cell (Or.inl ⟨ci, fs, r, hg, hr, rfl⟩) C.ks hR hS
  exact (va_runSU (C := r.1) (cC := (mwD Θ).1 ci) (b := b) (As := As) (rest := rest) (C.ks.1.1 ci r hr).2 ⟨C.exec, C.bytes, C.maxl, C.own, C.hts⟩ hM.met ⟨⟨rfl, rfl, hH.1, hH.2, pay_in C.hts (mWs_good hd9), hin⟩, C.hts _ w1, C.hts _ w2, C.hts _ w3, C.hts _ w4, C.hts _ hd9.2.2.2.2.2, C.hts _ (hcw ▸ hd9.2.2.2.2.1), w6, mLenF hd9⟩ ⟨mPc_blind, hcell, mPre_U C.ks hR hS⟩ rfl hn hL.1 hst (mRoom8 h8) hd ⟨e1, e2⟩).vx
/-- Object's constructor -/
theorem z_objInit {i b : Nat} (hd : decode (mMc M) pc = .ok (.invokespecial i, 3)) (h1 : Cond.methodLink (mMy M).cls i objectInit ∈ gtbl) (h2 : Cond.instanceMethod objectInit ∈ gtbl) (h3 : Cond.code objectInit ⟨#[0xb1]⟩ 1 none ∈ gtbl) (h8 : (stk.map fun v => v.category).sum ≤ 8) (hdj : 1 ≤ d) (k : mZ l Θ d M (pc + 3) loc stk h Q) : mZ l Θ d M pc loc (.ref b :: stk) h Q :=
  mZ.read (loc2 := loc) (fun p e R s m args below meth c H locs cells slots Q ls C hR hL hS kk => by
    have hf := C.frames
    have hr := C.room
    have h9 : 2 * (F0 m pc ls (.ref b :: stk)).monitorRoom + (stk.map fun v => v.category).sum ≤ 8 := mRoom8 h8
    refine W.objInit C.exec C.bytes C.own (C.hts _ h1) (C.hts _ h2) (C.hts _ h3) rfl (by rw [C.maxl]; exact hL.1) rfl hd (by omega) (by omega) kk) k
end CR
end
section
/-! throws -/
def mTw (X : String) (ix : Nat) (rx : ByteArray) : List Cond := Bundle.throwableAtoms ++ Bundle.throwableSAtoms ++ Bundle.passSAtoms X "java/lang/RuntimeException" ix rx ++ Bundle.chainSAtoms "java/lang/RuntimeException" ["java/lang/Exception"] ++
  [.instantiable X 6, .castable X X, .selects X Bundle.tFill0 Bundle.tFill0, .selects X Bundle.tFill Bundle.tFill,
   .lays X Bundle.tN "cause" "Ljava/lang/Throwable;", .lays X Bundle.tN "stackTrace" Bundle.steD, .lays X Bundle.tN "suppressedExceptions" Bundle.listD, .lays X Bundle.tN "detailMessage" "Ljava/lang/String;",
   .fieldLink Bundle.tN 198 Bundle.tN "backtrace" "Ljava/lang/Object;", .lays Bundle.tN Bundle.tN "backtrace" "Ljava/lang/Object;", .lays X Bundle.tN "backtrace" "Ljava/lang/Object;"]
def mTall (own : String) (ic : Nat) (X : String) (ix : Nat) (rx : ByteArray) : List Cond := mTw X ix rx ++ [.methodLink own ic (Bundle.initS X), .isRef (.static Bundle.tN "UNASSIGNED_STACK" Bundle.steD), .isRef (.static Bundle.tN "SUPPRESSED_SENTINEL" Bundle.listD)]
section TC
variable {p : Program} {l : Launch} {e : Env} {R : Room} {s : State} {m₀ : MethodId} {args : Array Value} {below : List Frame} {meth : Method} {c : Code} {W0 : State} {locs : List Loc} {cells slots : Nat}
set_option maxHeartbeats 1000000 in
theorem my_ctor (X : Stand p l e R s m₀ args below meth c W0 locs cells slots) (hexec : p.tables.exec = Jvm.exec) (htr : e.platform.stackTraces = false) {own cls : String} {ic ix : Nat} {rx : ByteArray}
    (x0 : decode rx 0 = .ok (.aload_n 0, 1)) (x1 : decode rx 1 = .ok (.aload_n 1, 1)) (x2 : decode rx 2 = .ok (.invokespecial ix, 3)) (x5 : decode rx 5 = .ok (.return_, 1))
    (hown : s.vm.findClass own = some m₀.cls) (hcls : Bundle.fit cls = true)
    (h : ∀ a ∈ mTall own ic cls ix rx, a.before args s = true)
    (hlocs : ∀ x ∈ locs, ∀ cell, s.heap[x.base]? = some cell → cell.vm.isStatics = false)
    {a : Addr} {cX : ClassId} {kX : Class} (hfoundX : s.vm.findClass cls = some cX) (hkX : s.vm.classes[cX]? = some kX) (hcell : W0.heap[a]? = some (freshCell cX kX)) (hnew : s.heap.size ≤ a)
    {msg : Value} (hmsg : msg.isRef = true)
    {g : JFrame} (hg : g.method = m₀) (hsize : g.locals.size = c.maxLocals) (hlocked : g.locked = none) (hentered : g.entered = []) {rest : List Value} (hstack : g.stack = msg :: .ref a :: .ref a :: rest)
    (hd6 : decode c.code g.pc = .ok (.invokespecial ic, 3)) (hd9 : decode c.code (g.pc + 3) = .ok (.athrow, 1)) (hout : ∀ x ∈ c.exceptionTable.toList, covers x (g.pc + 3) = false)
    (hRframes : 5 < R.frames) (hRlocals : 2 * g.monitorRoom + ((Value.ref a :: rest).map fun v => v.category).sum + (13 * 3 + 42) ≤ R.locals) (hlocks : meth.locks = false) :
    ∃ U : State, Steps p.tables e below (W0.setTop g) U ∧ U.status = .running ∧ Ended U below (.threw a) ∧ s.WarmedH U.vm ∧ s.sameButNew ({ U with vm := s.vm } : State) locs cells slots ∧
      ∃ ce, U.heap[a]? = some ce ∧ s.vm.findClass cls = some ce.cls ∧ ce.vm = .none := by
  have howns : e.platform.frameOwnsMonitors = true := by rw [X.admits.platform]
  have hfin : e.platform.finalization = false := by rw [X.admits.platform]
  have hpl : e.platform.magicAccessors = ({} : Platform).magicAccessors := by rw [X.admits.platform]
  have a' : ∀ x, x ∈ mTall own ic cls ix rx → x.holds args s none s [] = true := fun x hx => h x hx
  obtain ⟨T, Z0, L, -, Y⟩ := Jvm.ThrowableC.of_atoms (args := args) howns hfin hpl (fun x hx => h x (by simp [mTall, mTw, hx]))
  obtain ⟨Z, M, LZ, LM, hnZ⟩ := Jvm.Init0T.ofS_atoms (args := args) hpl L Y (fun x hx => h x (by simp [mTall, mTw, hx]))
  obtain ⟨P1, L1, hP1m, hs1⟩ := Jvm.PassC.ofS_atoms (args := args) (s := s) hpl (X := cls) (Y := "java/lang/RuntimeException") (Bundle.fit_spec hcls).1 (by decide) x0 x1 x2 x5 (fun x hx => h x (by simp [mTall, mTw, hx]))
  obtain ⟨P2, Ps2, hlen, L2, hL2, hP2m, hlink2, hlinkr⟩ := Bundle.chainS (args := args) hpl hnZ ["java/lang/Exception"] "java/lang/RuntimeException" (by decide) (by decide) (fun x hx => h x (by simp [mTall, mTw, hx]))
  have hsup : P1.sup = P2.m := Option.some.inj (hs1.symm.trans hP2m)
  have hfound : s.vm.findClass cls = some P1.m.cls := findClass_of_methodNamed hP1m
  cases Option.some.inj (hfoundX.symm.trans hfound)
  obtain ⟨c1, kX', hc1, hk, hord, -, -, hn6⟩ := Cond.instantiable_spec (a' (.instantiable cls 6) (by simp [mTall, mTw]))
  cases Option.some.inj (hc1.symm.trans hfound)
  cases Option.some.inj (hkX.symm.trans hk)
  have hsel0 : selectMethod e.platform s.vm P1.m.cls T.fill0 = .method T.fill0 := by
    obtain ⟨c2, r2, m2, q1, q2, q3, q4, -⟩ := Cond.selects_spec (a' (.selects cls Bundle.tFill0 Bundle.tFill0) (by simp [mTall, mTw]))
    cases Option.some.inj (q1.symm.trans hfound)
    cases Option.some.inj (q2.symm.trans (State.methodFound?_of_named Y.fill0 (by decide)))
    cases Option.some.inj (q3.symm.trans Y.fill0)
    rw [Launch.admits_selectMethod X.admits]; exact q4
  have hselF : selectMethod e.platform s.vm P1.m.cls T.fill = .method T.fill := by
    obtain ⟨c2, r2, m2, q1, q2, q3, q4, -⟩ := Cond.selects_spec (a' (.selects cls Bundle.tFill Bundle.tFill) (by simp [mTall, mTw]))
    cases Option.some.inj (q1.symm.trans hfound)
    cases Option.some.inj (q2.symm.trans (State.methodFound?_of_named Y.fill (by decide)))
    cases Option.some.inj (q3.symm.trans Y.fill)
    rw [Launch.admits_selectMethod X.admits]; exact q4
  obtain ⟨cellS0, hcS0, hiss⟩ := Y.statics
  obtain ⟨u0, hu0⟩ := Cond.staticRefV Y.unassigned L.unassignedStatic L.statics hcS0 hiss (a' (.isRef (.static Bundle.tN "UNASSIGNED_STACK" Bundle.steD)) (by simp [mTall]))
  obtain ⟨sen, hsen⟩ := Cond.staticRefV Y.sentinel L.sentinelStatic L.statics hcS0 hiss (a' (.isRef (.static Bundle.tN "SUPPRESSED_SENTINEL" Bundle.listD)) (by simp [mTall]))
  obtain ⟨ci198, i198, fB, hk198, hg198, ha198, hsB, -, hnB, htB, hffB⟩ := Cond.ownField (t := .object "java/lang/Object") Y.found L.cls (by decide +kernel) (a' (.fieldLink Bundle.tN 198 Bundle.tN "backtrace" "Ljava/lang/Object;") (by simp [mTall, mTw])) (a' (.lays Bundle.tN Bundle.tN "backtrace" "Ljava/lang/Object;") (by simp [mTall, mTw])) e.platform hpl
  obtain ⟨cellS, hcS', heS, -, hkeep⟩ := X.same.2.2.2.2.2 T.aS cellS0 hcS0
  have hcellS : W0.heap[T.aS]? = some cellS := hcS'
  have hout' : ∀ i, (⟨T.aS, i⟩ : Loc) ∉ locs := fun i hmem => by
    have := hlocs _ hmem cellS0 hcS0
    rw [hiss] at this; cases this
  have hknownS : cellS.vm ≠ .unknown := by
    rw [heS]; intro hu
    rw [show cellS0.vm = .unknown from hu] at hiss
    cases hiss
  have hneS : T.aS ≠ a := Nat.ne_of_lt (Nat.lt_of_lt_of_le (Array.getElem?_eq_some_iff.mp hcS0).1 hnew)
  obtain ⟨iM, hffM⟩ := Y.msg
  obtain ⟨tyC, dC, hdC, hdnC⟩ := Cond.laysAt hfound hk Y.cause (a' (.lays cls Bundle.tN "cause" "Ljava/lang/Throwable;") (by simp [mTall, mTw]))
  obtain ⟨tyS, dS, hdS, hdnS⟩ := Cond.laysAt hfound hk Y.stack (a' (.lays cls Bundle.tN "stackTrace" Bundle.steD) (by simp [mTall, mTw]))
  obtain ⟨tyP, dP, hdP, hdnP⟩ := Cond.laysAt hfound hk Y.supp (a' (.lays cls Bundle.tN "suppressedExceptions" Bundle.listD) (by simp [mTall, mTw]))
  obtain ⟨tyM, dM, hdM, hdnM⟩ := Cond.laysAt hfound hk hffM (a' (.lays cls Bundle.tN "detailMessage" "Ljava/lang/String;") (by simp [mTall, mTw]))
  obtain ⟨tyB, dB, hdB, hdnB⟩ := Cond.laysAt hfound hk hffB (a' (.lays cls Bundle.tN "backtrace" "Ljava/lang/Object;") (by simp [mTall, mTw]))
  have bC := Cond.laysApart hdB hdC hdnB hdnC (by rw [hnB, Y.causeName]; decide)
  have bS := Cond.laysApart hdB hdS hdnB hdnS (by rw [hnB, Y.stackName]; decide)
  have bP := Cond.laysApart hdB hdP hdnB hdnP (by rw [hnB, Y.suppName]; decide)
  have hskip : SkipFacts T e.platform s (fun u => u) u0 ((preparedCellV T.toThrowableT (freshCell P1.m.cls kX) a u0 sen).withEntry W0.cur) :=
    ⟨{ ci198 := ci198, i198 := i198, fBack := fB }, ⟨hk198, hg198, ha198, hsB⟩, by
      have := fresh_default (c := P1.m.cls) tyB
      rw [htB] at this
      simpa [preparedCellV, Cell.setSlot, Cell.withEntry, Array.getElem?_setIfInBounds, bC, bS, bP, bC.symm, bS.symm, bP.symm, defaultValue] using this, fun _ _ => rfl⟩
  obtain ⟨tm, methC, cdC, kC, vm₁, hnC, -, -, -, -, -, -, -, hW₁, st1⟩ := Steps.initColdS (tb := p.tables) (e := e) (below := below) (s := s) (U := W0) X.here hexec X.warmed hpl hown (t := Bundle.initS cls) rfl rfl (Bundle.fit_spec hcls).2
    (a' (.methodLink own ic (Bundle.initS cls)) (by simp [mTall])) (h (.instanceMethod (Bundle.initS cls)) (by simp [mTall, mTw, Bundle.passSAtoms])) (bytes := rx) (maxL := 2) (h (.code (Bundle.initS cls) rx 2 none) (by simp [mTall, mTw, Bundle.passSAtoms]))
    (f := g) hg (a := a) (msg := msg) (rest := .ref a :: rest) hstack hd6
  cases Option.some.inj (hnC.symm.trans hP1m)
  have X₁ := X.noted hW₁
  obtain ⟨vm₂, X₂, st2⟩ := X₁.ctorMessageOffV hexec (g := { g with stack := .ref a :: rest }) hg hsize T L Z LZ M LM (P1 :: P2 :: Ps2)
    (fun P hP => by
      rcases List.mem_cons.mp hP with rfl | hP
      · exact L1
      · rcases List.mem_cons.mp hP with rfl | hP
        · exact L2
        · exact hL2 P hP) ⟨hsup, hlink2, hlinkr⟩ (u0 := u0) (sen := sen) (self := a) hmsg (cell := freshCell P1.m.cls kX) (cellS := cellS)
    hcell (fun _ => by simp) (by simp) rfl rfl hsel0 hselF hcellS hneS hknownS (by rw [hkeep _ (hout' _)]; exact hu0) (by rw [hkeep _ (hout' _)]; exact hsen)
    (Takes.of_laid hk hord tyC (by rw [Y.causeType]; rfl)) (Takes.of_laid hk hord tyS (by rw [Y.stackType]; exact fits_refV_array _ u0)) (Takes.of_laid hk hord tyP (by rw [Y.suppType]; exact fits_refV_object _ sen))
    (Takes.of_laid hk hord tyM (by rw [Y.msgType]; exact fits_refV_object _ ⟨msg, hmsg⟩)) Y.objLocals hskip htr [] hd6
    (by simp only [List.length_cons, hlen, List.length_nil]; omega) (by simp only [List.length_cons, hlen, List.length_nil]; exact hRlocals)
  obtain ⟨hwalk, hrun, hended, hWU, hsame⟩ := X₂.athrowLeaves hexec (g := { g with stack := .ref a :: rest, pc := g.pc + 3 }) hg hlocked hentered hout (a := a) (rest := rest) rfl hd9
  have hlt : a < ((W0.setVm vm₁).setVm vm₂).heap.size := (Array.getElem?_eq_some_iff.mp hcell).1
  have hU := heapAt_setCell_self (s := (W0.setVm vm₁).setVm vm₂) (plainBareV T.toThrowableT (freshCell P1.m.cls kX) a u0 sen msg) hlt
  refine ⟨_, st1 _ (fun acts => ?_), hrun, hended, hWU, hsame.weaken (fun y hy hlt' => ?_) (Nat.le_refl _) (Nat.le_refl _), _, hU, hfound, rfl⟩
  · rw [doInvoke_state]
    exact st2 _ hwalk
  · rcases List.mem_append.mp hy with h1 | h1
    · exact h1
    · exfalso
      have hb : y.base = a := by
        simp only [List.mem_cons, List.not_mem_nil, or_false] at h1
        rcases h1 with rfl | rfl | rfl | rfl | rfl <;> rfl
      rw [hb] at hlt'
      exact Nat.not_lt.mpr hnew hlt'
end TC
section TH
variable {p : Program} {l : Launch} {e : Env} {R : Room} {s : State} {m : MethodId} {args : Array Value} {below : List Frame} {meth : Method} {c : Code} {H : Heap} {locs : List Loc} {cells slots : Nat} {Q : State → Prop}
variable {mc ms : Nat} {free : Addr → Prop} {A0 A1 : Nat → Prop} {H0 : Heap} {a : Array Value} {ls : Array Slot} {st0 rest : List Value}
variable {Qc : Array Value → State → Outcome → State → Prop} {XC : String → State → State → Prop}
theorem my_throwS {cc : ByteArray} {pc : Nat} (hexec : p.tables.exec = Jvm.exec) (hb : c.code = cc) (hl : l.stackTraces = false) {own cls text : String} {ik is ic ix mc ms sa : Nat} {rx : ByteArray} (x0 : decode rx 0 = .ok (.aload_n 0, 1)) (x1 : decode rx 1 = .ok (.aload_n 1, 1)) (x2 : decode rx 2 = .ok (.invokespecial ix, 3)) (x5 : decode rx 5 = .ok (.return_, 1)) {A : Nat → Prop}
    (hown : s.vm.findClass own = some m.cls) (hcls : Bundle.fit cls = true)
    (hk : (Cond.classLink own ik cls).before args s = true) (hini : (Cond.initialized cls).before args s = true) (hstr : vk_R own is text sa s) (hat : ∀ w ∈ (mTall own ic cls ix rx).filter vx_no, w.before args s = true)
    (hgood : ∀ w ∈ Cond.classLink own ik cls :: Cond.initialized cls :: (mTall own ic cls ix rx).filter vx_no, vx_ot w = true)
    (hU : vx_Zq Bundle.tN "UNASSIGNED_STACK" Bundle.steD A s s.heap) (hN : vx_Zq Bundle.tN "SUPPRESSED_SENTINEL" Bundle.listD A s s.heap) (hS : va_S A s.heap H locs) (hsize : ls.size = c.maxLocals)
    (d0 : decode cc pc = .ok (.new ik, 3)) (d3 : decode cc (pc + 3) = .ok (.dup, 1)) (d4 : decode cc (pc + 4) = .ok (.ldc is, 2)) (d6 : decode cc (pc + 6) = .ok (.invokespecial ic, 3)) (d9 : decode cc (pc + 9) = .ok (.athrow, 1))
    (hout : ∀ x ∈ c.exceptionTable.toList, covers x (pc + 9) = false)
    (hRframes : 5 < R.frames) (hRlocals : (rest.map fun v => v.category).sum + (13 * 3 + 43) ≤ R.locals) (hRcells : cells + 1 ≤ R.cells) (hRslots : slots + 6 ≤ R.slots) (hlocks : meth.locks = false)
    (hx : ∀ t : State, s.vm.Alike t.vm → t.heap.size = H.size + 1 → (∀ q : Nat, q < H.size → t.heap[q]? = H[q]?) → (∃ ce : Cell, t.heap[H.size]? = some ce ∧ ce.vm = .none ∧ s.vm.findClass cls = some ce.cls) → XC cls s t)
    (hf : ∀ z ∈ locs, free z.base) (hc : cells + 1 ≤ mc) (hs : slots + 6 ≤ ms) :
    W p l e R s m args below meth c H locs cells slots (vx_MQ below Qc XC args s mc ms free) (F0 m pc ls rest) := by
  intro T hT X
  have htr : e.platform.stackTraces = false := (show e.platform.stackTraces = l.stackTraces by rw [X.admits.platform]).trans hl
  have Y := vx_rebase X (R' := { frames := R.frames, locals := R.locals, cells := 1, slots := 6 }) (Nat.le_refl _) (Nat.le_refl _) hRcells hRslots
  obtain ⟨s', hA⟩ : ∃ z, z = (T.setVm s.vm).setFrames (.invoking m args :: below) := ⟨_, rfl⟩
  rw [← hA] at Y
  have hvm : s'.vm = s.vm := by rw [hA]; rfl
  have hhp : s'.heap = H := by rw [hA]; exact hT
  have hW0 : s.WarmedH s'.vm := by rw [hvm]; exact State.WarmedH.refl s
  have hat' : ∀ w ∈ (mTall own ic cls ix rx).filter vx_no, w.before args s' = true := fun w hw => vx_ot_at hW0 hvm.symm (hgood w (List.mem_cons_of_mem _ (List.mem_cons_of_mem _ hw))) (hat w hw)
  have hk' : (Cond.classLink own ik cls).before args s' = true := vx_ot_at hW0 hvm.symm (hgood _ List.mem_cons_self) hk
  have hini' : (Cond.initialized cls).before args s' = true := vx_ot_at hW0 hvm.symm (hgood _ (List.mem_cons_of_mem _ List.mem_cons_self)) hini
  have hU' : vx_Zq Bundle.tN "UNASSIGNED_STACK" Bundle.steD A s' s'.heap := by rw [hhp]; exact vx_Zq.moved hW0.alike (hU.kept hS.2.1)
  have hN' : vx_Zq Bundle.tN "SUPPRESSED_SENTINEL" Bundle.listD A s' s'.heap := by rw [hhp]; exact vx_Zq.moved hW0.alike (hN.kept hS.2.1)
  have h : ∀ w ∈ mTall own ic cls ix rx, w.before args s' = true := vx_own hat' (vx_isRefq hU'.1) (vx_isRefq hN'.1) hU'.2.word hN'.2.word
  have hown' : s'.vm.findClass own = some m.cls := by rw [hvm]; exact hown
  have hins : (Cond.instantiable cls 6).before args s' = true := h _ (by simp [mTall, mTw])
  obtain ⟨vm₁, cX, kX, hfX, hkX, -, -, X₁, st1⟩ := Y.newCold hexec (own := own) (C := cls) (index := ik) (n := 6) hown' hk' hins hini'
    (g := F0 m pc ls rest) rfl (by rw [hb]; exact d0) (Nat.le_refl _) (Nat.le_refl _)
  generalize hT1 : (T.setVm vm₁).pushCell { cls := cX, slots := kX.instanceTypes.map defaultValue, vm := .none } = T1 at X₁ st1
  have hcat : (Value.ref T.heap.size).category = 1 := rfl
  have hcellA : T1.heap[T.heap.size]? = some (freshCell cX kX) := by rw [← hT1]; exact State.heap_pushCell_size _ _
  have d3' : decode c.code (pc + 3) = .ok (.dup, 1) := by rw [hb]; exact d3
  have d4' : decode c.code (pc + 4) = .ok (.ldc is, 2) := by rw [hb]; exact d4
  have hstr' : vk_R own is text sa s' := vk_R.warm hW0 hstr
  obtain ⟨U, hsteps, hrun, hend, hW, hsame, ce, hce, hcl9, hv9⟩ := my_ctor X₁ hexec htr x0 x1 x2 x5 (own := own) (cls := cls) (ic := ic) hown' hcls h (fun x hx => nomatch hx) hfX hkX hcellA (by rw [hhp, hT]; exact Nat.le_refl _) (msg := .ref sa) rfl
    (g := { method := m, pc := pc + 6, locals := ls, stack := .ref sa :: .ref T.heap.size :: .ref T.heap.size :: rest, locked := none }) rfl hsize rfl rfl (rest := rest) rfl
    (by rw [hb]; exact d6) (by rw [hb]; exact d9) hout hRframes (by simp only [List.map_cons, List.sum_cons, hcat]; omega) hlocks
  obtain ⟨f1, f2⟩ := vx_frame hsame
  rw [hhp] at f1 f2
  have hWs : s.WarmedH U.vm := State.WarmedH.trans hW0 hW
  have hcl : s.vm.findClass cls = some ce.cls := by
    have h9 := hcl9
    rw [hvm] at h9
    exact h9
  have hsz9 : U.heap.size = H.size + 1 := by
    have g1 := hsame.2.2.1
    have g2 : T.heap.size < U.heap.size := (Array.getElem?_eq_some_iff.mp hce).1
    have g3 : s'.heap.size = H.size := by rw [hhp]
    have g4 : T.heap.size = H.size := by rw [hT]
    have g5 : U.heap.size ≤ s'.heap.size + 1 := g1
    omega
  have hall : s.sameButNew ({ U with vm := s.vm } : State) locs mc ms := by
    subst hA
    obtain ⟨e1, e2⟩ := hsame
    rw [State.setFrames_setFrames] at e1
    have h2 : (T.setVm s.vm).sameButNew ({ U with vm := s.vm } : State) [] (0 + 1) (0 + 6) := ⟨e1, e2⟩
    have h3 := X.same.trans h2
    rw [List.append_nil] at h3
    exact h3.mono hc hs
  refine ⟨U, ?_, .threw T.heap.size, hrun, hend, Or.inr ⟨T.heap.size, rfl, cls, ce, locs, hx U hWs.alike hsz9 (fun q hq => f2 q hq (fun z hz => nomatch hz)) ⟨ce, hT ▸ hce, hv9, hcl⟩, hce, hv9, hcl, hWs, hall, hf⟩⟩
  refine st1 _ ?_
  show Steps p.tables e below (T1.setTop { method := m, pc := pc + 3, locals := ls, stack := .ref T.heap.size :: rest, locked := none }) _
  jvm_step X₁.here [X₁.here.top, hexec, d3', Value.category]
  exact X₁.ldcString hexec (own := own) (text := text) (index := is) (a := sa) hown' hstr'.1 hstr'.2
    (g := { method := m, pc := pc + 4, locals := ls, stack := .ref T.heap.size :: .ref T.heap.size :: rest, locked := none }) rfl d4' _ hsteps
theorem my_throwSW {cc : ByteArray} {pc : Nat} (hexec : p.tables.exec = Jvm.exec) (hb : c.code = cc) (hl : l.stackTraces = false) {own cls text : String} {ik is ic ix mc ms sa : Nat} {rx : ByteArray} (x0 : decode rx 0 = .ok (.aload_n 0, 1)) (x1 : decode rx 1 = .ok (.aload_n 1, 1)) (x2 : decode rx 2 = .ok (.invokespecial ix, 3)) (x5 : decode rx 5 = .ok (.return_, 1)) {A : Nat → Prop}
    (hown : s.vm.findClass own = some m.cls) (hcls : Bundle.fit cls = true)
    (hk : (Cond.classLink own ik cls).before args s = true) (hini : (Cond.initialized cls).before args s = true) (hstr : vk_R own is text sa s) (hat : ∀ w ∈ (mTall own ic cls ix rx).filter vx_no, w.before args s = true)
    (hgood : ∀ w ∈ Cond.classLink own ik cls :: Cond.initialized cls :: (mTall own ic cls ix rx).filter vx_no, vx_ot w = true)
    (hU : vx_Zq Bundle.tN "UNASSIGNED_STACK" Bundle.steD A s s.heap) (hN : vx_Zq Bundle.tN "SUPPRESSED_SENTINEL" Bundle.listD A s s.heap) (hS : va_S A s.heap H locs) (hsize : ls.size = c.maxLocals)
    (d0 : decode cc pc = .ok (.new ik, 3)) (d3 : decode cc (pc + 3) = .ok (.dup, 1)) (d4 : decode cc (pc + 4) = .ok (.ldc_w is, 3)) (d7 : decode cc (pc + 7) = .ok (.invokespecial ic, 3)) (d10 : decode cc (pc + 10) = .ok (.athrow, 1))
    (hout : ∀ x ∈ c.exceptionTable.toList, covers x (pc + 10) = false)
    (hRframes : 5 < R.frames) (hRlocals : (rest.map fun v => v.category).sum + (13 * 3 + 43) ≤ R.locals) (hRcells : cells + 1 ≤ R.cells) (hRslots : slots + 6 ≤ R.slots) (hlocks : meth.locks = false)
    (hx : ∀ t : State, s.vm.Alike t.vm → t.heap.size = H.size + 1 → (∀ q : Nat, q < H.size → t.heap[q]? = H[q]?) → (∃ ce : Cell, t.heap[H.size]? = some ce ∧ ce.vm = .none ∧ s.vm.findClass cls = some ce.cls) → XC cls s t)
    (hf : ∀ z ∈ locs, free z.base) (hc : cells + 1 ≤ mc) (hs : slots + 6 ≤ ms) :
    W p l e R s m args below meth c H locs cells slots (vx_MQ below Qc XC args s mc ms free) (F0 m pc ls rest) := by
  intro T hT X
  have htr : e.platform.stackTraces = false := (show e.platform.stackTraces = l.stackTraces by rw [X.admits.platform]).trans hl
  have Y := vx_rebase X (R' := { frames := R.frames, locals := R.locals, cells := 1, slots := 6 }) (Nat.le_refl _) (Nat.le_refl _) hRcells hRslots
  obtain ⟨s', hA⟩ : ∃ z, z = (T.setVm s.vm).setFrames (.invoking m args :: below) := ⟨_, rfl⟩
  rw [← hA] at Y
  have hvm : s'.vm = s.vm := by rw [hA]; rfl
  have hhp : s'.heap = H := by rw [hA]; exact hT
  have hW0 : s.WarmedH s'.vm := by rw [hvm]; exact State.WarmedH.refl s
  have hat' : ∀ w ∈ (mTall own ic cls ix rx).filter vx_no, w.before args s' = true := fun w hw => vx_ot_at hW0 hvm.symm (hgood w (List.mem_cons_of_mem _ (List.mem_cons_of_mem _ hw))) (hat w hw)
  have hk' : (Cond.classLink own ik cls).before args s' = true := vx_ot_at hW0 hvm.symm (hgood _ List.mem_cons_self) hk
  have hini' : (Cond.initialized cls).before args s' = true := vx_ot_at hW0 hvm.symm (hgood _ (List.mem_cons_of_mem _ List.mem_cons_self)) hini
  have hU' : vx_Zq Bundle.tN "UNASSIGNED_STACK" Bundle.steD A s' s'.heap := by rw [hhp]; exact vx_Zq.moved hW0.alike (hU.kept hS.2.1)
  have hN' : vx_Zq Bundle.tN "SUPPRESSED_SENTINEL" Bundle.listD A s' s'.heap := by rw [hhp]; exact vx_Zq.moved hW0.alike (hN.kept hS.2.1)
  have h : ∀ w ∈ mTall own ic cls ix rx, w.before args s' = true := vx_own hat' (vx_isRefq hU'.1) (vx_isRefq hN'.1) hU'.2.word hN'.2.word
  have hown' : s'.vm.findClass own = some m.cls := by rw [hvm]; exact hown
  have hins : (Cond.instantiable cls 6).before args s' = true := h _ (by simp [mTall, mTw])
  obtain ⟨vm₁, cX, kX, hfX, hkX, -, -, X₁, st1⟩ := Y.newCold hexec (own := own) (C := cls) (index := ik) (n := 6) hown' hk' hins hini'
    (g := F0 m pc ls rest) rfl (by rw [hb]; exact d0) (Nat.le_refl _) (Nat.le_refl _)
  generalize hT1 : (T.setVm vm₁).pushCell { cls := cX, slots := kX.instanceTypes.map defaultValue, vm := .none } = T1 at X₁ st1
  have hcat : (Value.ref T.heap.size).category = 1 := rfl
  have hcellA : T1.heap[T.heap.size]? = some (freshCell cX kX) := by rw [← hT1]; exact State.heap_pushCell_size _ _
  have d3' : decode c.code (pc + 3) = .ok (.dup, 1) := by rw [hb]; exact d3
  have d4' : decode c.code (pc + 4) = .ok (.ldc_w is, 3) := by rw [hb]; exact d4
  have hstr' : vk_R own is text sa s' := vk_R.warm hW0 hstr
  obtain ⟨U, hsteps, hrun, hend, hW, hsame, ce, hce, hcl9, hv9⟩ := my_ctor X₁ hexec htr x0 x1 x2 x5 (own := own) (cls := cls) (ic := ic) hown' hcls h (fun x hx => nomatch hx) hfX hkX hcellA (by rw [hhp, hT]; exact Nat.le_refl _) (msg := .ref sa) rfl
    (g := { method := m, pc := pc + 7, locals := ls, stack := .ref sa :: .ref T.heap.size :: .ref T.heap.size :: rest, locked := none }) rfl hsize rfl rfl (rest := rest) rfl
    (by rw [hb]; exact d7) (by rw [hb]; exact d10) hout hRframes (by simp only [List.map_cons, List.sum_cons, hcat]; omega) hlocks
  obtain ⟨f1, f2⟩ := vx_frame hsame
  rw [hhp] at f1 f2
  have hWs : s.WarmedH U.vm := State.WarmedH.trans hW0 hW
  have hcl : s.vm.findClass cls = some ce.cls := by
    have h9 := hcl9
    rw [hvm] at h9
    exact h9
  have hsz9 : U.heap.size = H.size + 1 := by
    have g1 := hsame.2.2.1
    have g2 : T.heap.size < U.heap.size := (Array.getElem?_eq_some_iff.mp hce).1
    have g3 : s'.heap.size = H.size := by rw [hhp]
    have g4 : T.heap.size = H.size := by rw [hT]
    have g5 : U.heap.size ≤ s'.heap.size + 1 := g1
    omega
  have hall : s.sameButNew ({ U with vm := s.vm } : State) locs mc ms := by
    subst hA
    obtain ⟨e1, e2⟩ := hsame
    rw [State.setFrames_setFrames] at e1
    have h2 : (T.setVm s.vm).sameButNew ({ U with vm := s.vm } : State) [] (0 + 1) (0 + 6) := ⟨e1, e2⟩
    have h3 := X.same.trans h2
    rw [List.append_nil] at h3
    exact h3.mono hc hs
  refine ⟨U, ?_, .threw T.heap.size, hrun, hend, Or.inr ⟨T.heap.size, rfl, cls, ce, locs, hx U hWs.alike hsz9 (fun q hq => f2 q hq (fun z hz => nomatch hz)) ⟨ce, hT ▸ hce, hv9, hcl⟩, hce, hv9, hcl, hWs, hall, hf⟩⟩
  refine st1 _ ?_
  show Steps p.tables e below (T1.setTop { method := m, pc := pc + 3, locals := ls, stack := .ref T.heap.size :: rest, locked := none }) _
  jvm_step X₁.here [X₁.here.top, hexec, d3', Value.category]
  exact X₁.ldcStringW hexec (own := own) (text := text) (index := is) (a := sa) hown' hstr'.1 hstr'.2
    (g := { method := m, pc := pc + 4, locals := ls, stack := .ref T.heap.size :: .ref T.heap.size :: rest, locked := none }) rfl d4' _ hsteps
end TH
end
section
/-! throws and calls over the judgement -/
theorem mChk_in {ws : List Cond} (qs : List (Nat × Nat)) (h : (decide (qs.map mAt = ws.map some) && ws.all (fun w => goodWord w || mIsN w)) = true) {w : Cond} (hw : w ∈ ws) : w ∈ gtbl ∨ w ∈ mNs := by
  rw [Bool.and_eq_true] at h
  have h1 := of_decide_eq_true h.1
  have h2 : some w ∈ qs.map mAt := by rw [h1]; exact List.mem_map.mpr ⟨w, hw, rfl⟩
  obtain ⟨q, -, hq⟩ := List.mem_map.mp h2
  have h3 := List.all_eq_true.mp h.2 w hw
  rw [Bool.or_eq_true] at h3
  rcases h3 with h3 | h3
  · exact Or.inl (List.mem_filter.mpr ⟨mAt_in hq, h3⟩)
  · exact Or.inr (List.mem_filter.mpr ⟨mAt_in hq, h3⟩)
/-- what is known of a class of exceptions -/
def mExc (n ix : Nat) (rx : ByteArray) : Prop := decode rx 0 = .ok (.aload_n 0, 1) ∧ decode rx 1 = .ok (.aload_n 1, 1) ∧ decode rx 2 = .ok (.invokespecial ix, 3) ∧ decode rx 5 = .ok (.return_, 1) ∧ Bundle.fit (mEx n) = true ∧ Cond.initialized (mEx n) ∈ gtbl ∧ (∀ w ∈ (mTw (mEx n) ix rx).filter vx_no, w ∈ gtbl ∨ w ∈ mNs) ∧ mCl[n]? = some (mEx n, mTe, 0)
theorem mIsN_tab {w : Cond} (h : mIsN w = true) : w.onTables = true := by
  cases w <;> first | rfl | cases h
theorem mBefore {Θ : mW} {s : State} {H : Heap} {args : Array Value} (hts : ∀ w ∈ gtbl, w.before args s = true) (hK : mKS Θ s H) {w : Cond} (h : w ∈ gtbl ∨ w ∈ mNs) : w.before args s = true := by
  rcases h with h | h
  · exact hts w h
  · exact (hK.2.2.2.2.2.2.1 w h).use (mIsN_tab (List.mem_filter.mp h).2)
theorem mOt {w : Cond} (h : w ∈ gtbl ∨ w ∈ mNs) : vx_ot w = true := by
  unfold vx_ot
  rw [Bool.or_eq_true]
  rcases h with h | h
  · exact Or.inr (List.mem_filter.mp h).2
  · exact Or.inl (mIsN_tab (List.mem_filter.mp h).2)
theorem mTall_in {own X : String} {ic ix : Nat} {rx : ByteArray} {w : Cond} (h : w ∈ (mTall own ic X ix rx).filter vx_no) : w = .methodLink own ic (Bundle.initS X) ∨ w ∈ (mTw X ix rx).filter vx_no := by
  obtain ⟨h1, h2⟩ := List.mem_filter.mp h
  rcases List.mem_append.mp h1 with h3 | h3
  · exact Or.inr (List.mem_filter.mpr ⟨h3, h2⟩)
  · simp only [List.mem_cons, List.not_mem_nil, or_false] at h3
    rcases h3 with h3 | h3 | h3
    · exact Or.inl h3
    · subst h3; simp [vx_no] at h2
    · subst h3; simp [vx_no] at h2
section ZC
variable {l : Launch} {Θ : mW} {d : Nat} {M : mM} {pc : Nat} {loc : List (Option Value)} {stk : List Value} {h : mH} {o : mO} {h' : mH} {Q : mO → mH → Prop}
theorem mTraces (hfl : l.flags = flags0) : l.stackTraces = false := by
  unfold Launch.stackTraces
  rw [hfl]
  decide +kernel
theorem mX.throwX {n : Nat} (hn : mCl[n]? = some (mEx n, mTe, 0))
    (hs : ∀ (p : Program) (e : Env) (R : Room) (s : State) (m : MethodId) (args : Array Value) (below : List Frame) (meth : Method) (c : Code) (H : Heap) (locs : List Loc) (cells slots mc ms : Nat) (ls : Array Slot), mCtx l Θ d M p R s m args meth c → mLoc ls (mMl M) loc → va_S (mwA Θ) s.heap H locs → cells + 1 ≤ R.cells → slots + 6 ≤ R.slots → cells + 1 ≤ mc → slots + 6 ≤ ms →
      (∀ t : State, s.vm.Alike t.vm → t.heap.size = H.size + 1 → (∀ q : Nat, q < H.size → t.heap[q]? = H[q]?) → (∃ ce : Cell, t.heap[H.size]? = some ce ∧ ce.vm = .none ∧ s.vm.findClass (mEx n) = some ce.cls) → mXC Θ (.inr n) (h ++ [oB n []]) (mEx n) s t) →
      W p l e R s m args below meth c H locs cells slots (vx_MQ below (mQc Θ (.inr n) (h ++ [oB n []])) (mXC Θ (.inr n) (h ++ [oB n []])) args s mc ms (mwA Θ)) (F0 m pc ls stk)) : mX l Θ d M pc loc stk h (.inr n) (h ++ [oB n []]) := by
  have hz : msz1 (oB n []) = 6 := rfl
  refine ⟨by simp, by rw [msz_app]; omega, fun p e R s m args below meth c C H locs cells slots mc ms ls hR hS hL e1 e2 e3 e4 => ?_⟩
  rw [show (h ++ [oB n []]).length - h.length = 1 by simp] at e1
  rw [show msz (h ++ [oB n []]) - msz h = 6 by rw [msz_app, hz]; omega] at e2
  refine hs p e R s m args below meth c H locs cells slots mc ms ls C hL hS (by omega) (by omega) (by omega) (by omega) (fun t hA hsz hsame hce => ?_)
  obtain ⟨ce, g1, g2, g3⟩ := hce
  refine ⟨⟨n, rfl, rfl⟩, hR.push hsz hsame ⟨_, hn, ce, g1, ?_, g2, fun k hk => absurd hk (Nat.not_lt_zero k)⟩, fun q hq => ?_⟩
  · exact Option.some.inj (g3.symm.trans (C.ks.1.1 n _ hn).2.1)
  · rw [hsame q (by rw [hR.1]; omega)]
    exact hS.2.1 q (Nat.lt_of_lt_of_le hq C.ks.2.2.2.2.2.2.2.2.2.2) (Nat.not_le.mpr hq)
theorem z_throw {ik is ic n j ix : Nat} {tx : String} {rx : ByteArray} (hh : mMh M = []) (d0 : decode (mMc M) pc = .ok (.new ik, 3)) (d3 : decode (mMc M) (pc + 3) = .ok (.dup, 1)) (d4 : decode (mMc M) (pc + 4) = .ok (.ldc is, 2)) (d6 : decode (mMc M) (pc + 6) = .ok (.invokespecial ic, 3)) (d9 : decode (mMc M) (pc + 9) = .ok (.athrow, 1))
    (hE : mExc n ix rx) (w1 : Cond.classLink (mMy M).cls ik (mEx n) ∈ gtbl) (w2 : Cond.methodLink (mMy M).cls ic (Bundle.initS (mEx n)) ∈ gtbl) (hs : (j, (mMy M).cls, is, tx) ∈ mSR) (h8 : (stk.map fun v => v.category).sum ≤ 8) (hd : 6 ≤ d) (hq : Q (.inr n) (h ++ [oB n []])) : mZ l Θ d M pc loc stk h Q := by
  obtain ⟨x0, x1, x2, x5, hf, hi, hw, hc⟩ := hE
  refine ⟨_, _, hq, mX.throwX hc (fun p e R s m args below meth c H locs cells slots mc ms ls C hL hS c1 c2 c3 c4 hx => ?_)⟩
  have hfr := C.frames
  have hrm := C.room
  have hall : ∀ w ∈ (mTall (mMy M).cls ic (mEx n) ix rx).filter vx_no, w ∈ gtbl ∨ w ∈ mNs := fun w h9 => by
    rcases mTall_in h9 with rfl | h9
    · exact Or.inl w2
    · exact hw w h9
  refine my_throwS C.exec C.bytes (mTraces C.1) x0 x1 x2 x5 C.own hf (C.hts _ w1) (C.hts _ hi) (C.ks.2.2.2.2.2.1 _ hs) (fun w h9 => mBefore C.hts C.ks (hall w h9)) (fun w h9 => ?_) C.ks.2.2.2.2.2.2.2.2.1 C.ks.2.2.2.2.2.2.2.2.2.1 hS (hL.1.trans C.maxl.symm) d0 d3 d4 d6 d9 (fun x hx => by rw [C.table, hh] at hx; cases hx) (by omega) (by omega) c1 c2 C.locks hx hS.2.2 c3 c4
  rcases List.mem_cons.mp h9 with rfl | h9
  · exact mOt (Or.inl w1)
  · rcases List.mem_cons.mp h9 with rfl | h9
    · exact mOt (Or.inl hi)
    · exact mOt (hall w h9)
theorem z_throwW {ik is ic n j ix : Nat} {tx : String} {rx : ByteArray} (hh : mMh M = []) (d0 : decode (mMc M) pc = .ok (.new ik, 3)) (d3 : decode (mMc M) (pc + 3) = .ok (.dup, 1)) (d4 : decode (mMc M) (pc + 4) = .ok (.ldc_w is, 3)) (d7 : decode (mMc M) (pc + 7) = .ok (.invokespecial ic, 3)) (d10 : decode (mMc M) (pc + 10) = .ok (.athrow, 1))
    (hE : mExc n ix rx) (w1 : Cond.classLink (mMy M).cls ik (mEx n) ∈ gtbl) (w2 : Cond.methodLink (mMy M).cls ic (Bundle.initS (mEx n)) ∈ gtbl) (hs : (j, (mMy M).cls, is, tx) ∈ mSR) (h8 : (stk.map fun v => v.category).sum ≤ 8) (hd : 6 ≤ d) (hq : Q (.inr n) (h ++ [oB n []])) : mZ l Θ d M pc loc stk h Q := by
  obtain ⟨x0, x1, x2, x5, hf, hi, hw, hc⟩ := hE
  refine ⟨_, _, hq, mX.throwX hc (fun p e R s m args below meth c H locs cells slots mc ms ls C hL hS c1 c2 c3 c4 hx => ?_)⟩
  have hfr := C.frames
  have hrm := C.room
  have hall : ∀ w ∈ (mTall (mMy M).cls ic (mEx n) ix rx).filter vx_no, w ∈ gtbl ∨ w ∈ mNs := fun w h9 => by
    rcases mTall_in h9 with rfl | h9
    · exact Or.inl w2
    · exact hw w h9
  refine my_throwSW C.exec C.bytes (mTraces C.1) x0 x1 x2 x5 C.own hf (C.hts _ w1) (C.hts _ hi) (C.ks.2.2.2.2.2.1 _ hs) (fun w h9 => mBefore C.hts C.ks (hall w h9)) (fun w h9 => ?_) C.ks.2.2.2.2.2.2.2.2.1 C.ks.2.2.2.2.2.2.2.2.2.1 hS (hL.1.trans C.maxl.symm) d0 d3 d4 d7 d10 (fun x hx => by rw [C.table, hh] at hx; cases hx) (by omega) (by omega) c1 c2 C.locks hx hS.2.2 c3 c4
  rcases List.mem_cons.mp h9 with rfl | h9
  · exact mOt (Or.inl w1)
  · rcases List.mem_cons.mp h9 with rfl | h9
    · exact mOt (Or.inl hi)
    · exact mOt (hall w h9)
/-- where a callee threw: on to the caller, or to a handler -/
def mThr (l : Launch) (Θ : mW) (d : Nat) (M : mM) (pc : Nat) (loc : List (Option Value)) (n : Nat) (h1 : mH) (Q : mO → mH → Prop) : Prop :=
  (mMh M = [] ∧ Q (.inr n) h1) ∨ ∃ (hpc : Nat) (o0 : mO) (h0 : mH), mCatch M pc n hpc ∧ Q o0 h0 ∧ ∀ q : Nat, mZ l Θ d M hpc loc [.ref q] h1 (fun o h' => o = o0 ∧ h' = h0)
theorem mZ.call {rest : List Value} {Qc : mO → mH → Prop} (hT : ∃ (o1 : mO) (h1 : mH), Qc o1 h1 ∧ mCall l Θ d M pc loc stk rest h o1 h1) (k : ∀ v h1, Qc (.inl v) h1 → mZ l Θ d M (pc + 3) loc (v.toList ++ rest) h1 Q) (kx : ∀ n h1, Qc (.inr n) h1 → mThr l Θ d M pc loc n h1 Q) : mZ l Θ d M pc loc stk h Q := by
  obtain ⟨o1, h1, q, hc⟩ := hT
  rcases o1 with v | n
  · obtain ⟨o, h', q2, x⟩ := k v h1 q
    exact ⟨o, h', q2, mX.callR hc x⟩
  · rcases kx n h1 q with ⟨hh, q2⟩ | ⟨hpc, o0, h0, hcat, q2, hz⟩
    · exact ⟨_, _, q2, mX.callX hh hc⟩
    · refine ⟨o0, h0, q2, mX.callC hcat hc (fun q9 => ?_)⟩
      obtain ⟨o, h', ⟨rfl, rfl⟩, x⟩ := hz q9
      exact x
theorem z_static {i n dj : Nat} {M' : mM} {As rest : List Value} {Qc : mO → mH → Prop} (hd : decode (mMc M) pc = .ok (.invokestatic i, 3)) (hd9 : mCd M' n) (hw : mCs (mMy M).cls i M') (hn : As.length = n) (hst : stk = As.reverse ++ rest) (h8 : (rest.map fun v => v.category).sum ≤ 8) (hdj : dj + 1 ≤ d) (hT : mT l Θ dj M' As h Qc)
    (k : ∀ v h1, Qc (.inl v) h1 → mZ l Θ d M (pc + 3) loc (v.toList ++ rest) h1 Q) (kx : ∀ n h1, Qc (.inr n) h1 → mThr l Θ d M pc loc n h1 Q) : mZ l Θ d M pc loc stk h Q := by
  obtain ⟨o1, h1, q, x⟩ := hT
  exact mZ.call ⟨o1, h1, q, mCall.st hd hd9 hw hn hst h8 hdj x⟩ k kx
theorem z_virtual {i n dj b : Nat} {M' : mM} {C0 : String} {As rest : List Value} {Qc : mO → mH → Prop} (hd : decode (mMc M) pc = .ok (.invokevirtual i, 3)) (hd9 : mCd M' n) (hw : mCv (mMy M).cls i M' C0) (hrc : mRecv Θ h b C0) (hn : As.length = n) (hst : stk = As.reverse ++ .ref b :: rest) (h8 : (rest.map fun v => v.category).sum ≤ 8) (hdj : dj + 1 ≤ d) (hT : mT l Θ dj M' (.ref b :: As) h Qc)
    (k : ∀ v h1, Qc (.inl v) h1 → mZ l Θ d M (pc + 3) loc (v.toList ++ rest) h1 Q) (kx : ∀ n h1, Qc (.inr n) h1 → mThr l Θ d M pc loc n h1 Q) : mZ l Θ d M pc loc stk h Q := by
  obtain ⟨o1, h1, q, x⟩ := hT
  exact mZ.call ⟨o1, h1, q, mCall.vi hd hd9 hw hrc hn hst h8 hdj x⟩ k kx
theorem z_init {i n dj b : Nat} {M' : mM} {As rest : List Value} {Qc : mO → mH → Prop} (hd : decode (mMc M) pc = .ok (.invokespecial i, 3)) (hd9 : mCd M' n) (hw : mCi (mMy M).cls i M') (hn : As.length = n) (hst : stk = As.reverse ++ .ref b :: rest) (h8 : (rest.map fun v => v.category).sum ≤ 8) (hdj : dj + 1 ≤ d) (hT : mT l Θ dj M' (.ref b :: As) h Qc)
    (hv : ∀ o h1, Qc o h1 → o = .inl none) (k : ∀ h1, Qc (.inl none) h1 → mZ l Θ d M (pc + 3) loc rest h1 Q) : mZ l Θ d M pc loc stk h Q := by
  obtain ⟨o1, h1, q, x⟩ := hT
  obtain rfl := hv _ _ q
  obtain ⟨o, h', q2, x2⟩ := k h1 q
  exact ⟨o, h', q2, mX.callR (mCall.ini hd hd9 hw hn hst h8 hdj x) x2⟩
theorem z_under {i n dj b : Nat} {M' : mM} {C0 xcls owner : String} {As rest : List Value} {Qc : mO → mH → Prop} (hd : decode (mMc M) pc = .ok (.invokevirtual i, 3)) (hd9 : mCd M' n) (hw : mCu (mMy M).cls i M' C0 xcls owner) (hrc : mRecv Θ h b C0) (hn : As.length = n) (hst : stk = As.reverse ++ .ref b :: rest) (h8 : (rest.map fun v => v.category).sum ≤ 8) (hdj : dj + 1 ≤ d) (hT : mT l Θ dj M' (.ref b :: As) h Qc)
    (hv : ∀ n h1, ¬ Qc (.inr n) h1) (k : ∀ v h1, Qc (.inl v) h1 → mZ l Θ d M (pc + 3) loc (v.toList ++ rest) h1 Q) : mZ l Θ d M pc loc stk h Q := by
  obtain ⟨o1, h1, q, x⟩ := hT
  rcases o1 with v | n9
  · obtain ⟨o, h', q2, x2⟩ := k v h1 q
    exact ⟨o, h', q2, mX.callR (mCall.un hd hd9 hw hrc hn hst h8 hdj x) x2⟩
  · exact absurd q (hv _ _)
theorem z_super {i n dj b ci : Nat} {M' : mM} {fs As rest : List Value} {Qc : mO → mH → Prop} (hd : decode (mMc M) pc = .ok (.invokespecial i, 3)) (hd9 : mCd M' n) (hw : mCp (mMy M).cls i M') (hg : gt Θ h b = some (oB ci fs)) (hn : As.length = n) (hst : stk = As.reverse ++ .ref b :: rest) (h8 : (rest.map fun v => v.category).sum ≤ 8) (hdj : dj + 1 ≤ d) (hT : mT l Θ dj M' (.ref b :: As) h Qc)
    (hv : ∀ n h1, ¬ Qc (.inr n) h1) (k : ∀ v h1, Qc (.inl v) h1 → mZ l Θ d M (pc + 3) loc (v.toList ++ rest) h1 Q) : mZ l Θ d M pc loc stk h Q := by
  obtain ⟨o1, h1, q, x⟩ := hT
  rcases o1 with v | n9
  · obtain ⟨o, h', q2, x2⟩ := k v h1 q
    exact ⟨o, h', q2, mX.callR (mCall.su hd hd9 hw hg hn hst h8 hdj x) x2⟩
  · exact absurd q (hv _ _)
end ZC
end
section
/-! the classes of exceptions: what their constructors ask, by places in the tables -/
theorem mExc_10 : mExc 10 13 prog_42_method_4_code := ⟨by decide +kernel, by decide +kernel, by decide +kernel, by decide +kernel, by decide +kernel, mG (1, 23) (by decide +kernel), fun w hw => mChk_in [(1, 17), (3, 191), (3, 200), (3, 209), (3, 212), (3, 214), (3, 192), (3, 193), (1, 43), (1, 44), (3, 194), (3, 199), (3, 210), (3, 235), (3, 181), (3, 236), (3, 183), (3, 237), (3, 185), (3, 195), (3, 197), (3, 187), (3, 231), (3, 232), (3, 234), (3, 187), (5, 32), (5, 33), (5, 34), (3, 225), (3, 173), (3, 225), (3, 226), (3, 227), (3, 228), (3, 175), (3, 228), (3, 229), (3, 230), (3, 231), (3, 177), (5, 22), (5, 23), (5, 24), (3, 208), (5, 25), (5, 26), (5, 27), (5, 28), (3, 190), (3, 189), (5, 29)] (ws := (mTw "java/util/NoSuchElementException" 13 prog_42_method_4_code).filter vx_no) (by decide +kernel) hw, rfl⟩
theorem mExc_11 : mExc 11 7 prog_24_method_2_code := ⟨by decide +kernel, by decide +kernel, by decide +kernel, by decide +kernel, by decide +kernel, mG (1, 20) (by decide +kernel), fun w hw => mChk_in [(1, 17), (3, 191), (3, 200), (3, 209), (3, 212), (3, 214), (3, 192), (3, 193), (1, 43), (1, 44), (3, 194), (3, 199), (3, 210), (3, 235), (3, 181), (3, 236), (3, 183), (3, 237), (3, 185), (3, 195), (3, 197), (3, 187), (3, 231), (3, 232), (3, 234), (3, 187), (3, 222), (3, 223), (3, 224), (3, 225), (3, 173), (3, 225), (3, 226), (3, 227), (3, 228), (3, 175), (3, 228), (3, 229), (3, 230), (3, 231), (3, 177), (3, 170), (3, 171), (3, 178), (3, 179), (3, 180), (3, 182), (3, 184), (3, 186), (3, 190), (3, 189), (3, 188)] (ws := (mTw "java/lang/IllegalArgumentException" 7 prog_24_method_2_code).filter vx_no) (by decide +kernel) hw, rfl⟩
theorem mExc_12 : mExc 12 7 prog_25_method_2_code := ⟨by decide +kernel, by decide +kernel, by decide +kernel, by decide +kernel, by decide +kernel, mG (1, 21) (by decide +kernel), fun w hw => mChk_in [(1, 17), (3, 191), (3, 200), (3, 209), (3, 212), (3, 214), (3, 192), (3, 193), (1, 43), (1, 44), (3, 194), (3, 199), (3, 210), (3, 235), (3, 181), (3, 236), (3, 183), (3, 237), (3, 185), (3, 195), (3, 197), (3, 187), (3, 231), (3, 232), (3, 234), (3, 187), (4, 230), (4, 231), (4, 232), (3, 225), (3, 173), (3, 225), (3, 226), (3, 227), (3, 228), (3, 175), (3, 228), (3, 229), (3, 230), (3, 231), (3, 177), (4, 220), (4, 221), (4, 222), (3, 204), (4, 223), (4, 224), (4, 225), (4, 226), (3, 190), (3, 189), (4, 227)] (ws := (mTw "java/lang/IllegalStateException" 7 prog_25_method_2_code).filter vx_no) (by decide +kernel) hw, rfl⟩
theorem mExc_13 : mExc 13 7 prog_38_method_2_code := ⟨by decide +kernel, by decide +kernel, by decide +kernel, by decide +kernel, by decide +kernel, mG (1, 24) (by decide +kernel), fun w hw => mChk_in [(1, 17), (3, 191), (3, 200), (3, 209), (3, 212), (3, 214), (3, 192), (3, 193), (1, 43), (1, 44), (3, 194), (3, 199), (3, 210), (3, 235), (3, 181), (3, 236), (3, 183), (3, 237), (3, 185), (3, 195), (3, 197), (3, 187), (3, 231), (3, 232), (3, 234), (3, 187), (5, 80), (5, 81), (5, 82), (3, 225), (3, 173), (3, 225), (3, 226), (3, 227), (3, 228), (3, 175), (3, 228), (3, 229), (3, 230), (3, 231), (3, 177), (5, 70), (5, 71), (5, 72), (3, 207), (5, 73), (5, 74), (5, 75), (5, 76), (3, 190), (3, 189), (5, 77)] (ws := (mTw "java/lang/UnsupportedOperationException" 7 prog_38_method_2_code).filter vx_no) (by decide +kernel) hw, rfl⟩
theorem mExc_14 : mExc 14 7 prog_26_method_2_code := ⟨by decide +kernel, by decide +kernel, by decide +kernel, by decide +kernel, by decide +kernel, mG (1, 25) (by decide +kernel), fun w hw => mChk_in [(1, 17), (3, 191), (3, 200), (3, 209), (3, 212), (3, 214), (3, 192), (3, 193), (1, 43), (1, 44), (3, 194), (3, 199), (3, 210), (3, 235), (3, 181), (3, 236), (3, 183), (3, 237), (3, 185), (3, 195), (3, 197), (3, 187), (3, 231), (3, 232), (3, 234), (3, 187), (4, 31), (4, 32), (4, 33), (3, 225), (3, 173), (3, 225), (3, 226), (3, 227), (3, 228), (3, 175), (3, 228), (3, 229), (3, 230), (3, 231), (3, 177), (5, 149), (5, 150), (5, 151), (3, 205), (5, 152), (5, 153), (5, 154), (5, 155), (3, 190), (3, 189), (5, 156)] (ws := (mTw "java/lang/IndexOutOfBoundsException" 7 prog_26_method_2_code).filter vx_no) (by decide +kernel) hw, rfl⟩
theorem mExc_15 : mExc 15 7 prog_17_method_2_code := ⟨by decide +kernel, by decide +kernel, by decide +kernel, by decide +kernel, by decide +kernel, mG (1, 36) (by decide +kernel), fun w hw => mChk_in [(1, 17), (3, 191), (3, 200), (3, 209), (3, 212), (3, 214), (3, 192), (3, 193), (1, 43), (1, 44), (3, 194), (3, 199), (3, 210), (3, 235), (3, 181), (3, 236), (3, 183), (3, 237), (3, 185), (3, 195), (3, 197), (3, 187), (3, 231), (3, 232), (3, 234), (3, 187), (7, 153), (7, 154), (7, 155), (3, 225), (3, 173), (3, 225), (3, 226), (3, 227), (3, 228), (3, 175), (3, 228), (3, 229), (3, 230), (3, 231), (3, 177), (7, 152), (7, 163), (7, 164), (3, 202), (7, 158), (7, 159), (7, 161), (7, 157), (3, 190), (3, 189), (7, 156)] (ws := (mTw "java/lang/ArithmeticException" 7 prog_17_method_2_code).filter vx_no) (by decide +kernel) hw, rfl⟩
end
section
/-! System.arraycopy between two arrays of numbers (follows the kit's row of it, with the heap said exactly) -/
section AC
variable {l : Launch} {Θ : mW} {d : Nat} {M : mM} {pc : Nat} {loc : List (Option Value)} {stk : List Value} {h : mH} {o : mO} {h' : mH} {Q : mO → mH → Prop}
theorem mNN : ∀ z : Int32, ¬ z < 0 → z.toInt = (z.toNatClampNeg : Int) := by
  intro z hz
  have hz0 : (0 : Int) ≤ z.toInt := by
    have := Int32.not_lt.mp hz
    simpa using Int32.le_iff_toInt_le.mp this
  show z.toInt = ((z.toInt.toNat : Nat) : Int)
  omega
theorem z_acopy {i t n0 n1 q0 q1 : Nat} {ty : FieldType} {f g : Nat → Int32} {sp dp n : Int32} (hd : decode (mMc M) pc = .ok (.invokestatic i, 3)) (w1 : Cond.methodLink (mMy M).cls i arraycopyName ∈ gtbl) (w2 : Cond.native arraycopyName ∈ gtbl) (w3 : Cond.static arraycopyName ∈ gtbl) (w4 : Cond.initialized "java/lang/System" ∈ gtbl)
    (ht : ∀ Θ : mW, (mTyC Θ)[t]? = some (mwtC Θ t, ty)) (hprim : refKind ty = false) (ha0 : gt Θ h q0 = some (aI t n0 f)) (ha1 : gt Θ h q1 = some (aI t n1 g)) (h1 : ¬ sp < 0) (h2 : ¬ dp < 0) (h3 : ¬ n < 0) (h4 : sp.toNatClampNeg + n.toNatClampNeg ≤ n0) (h5 : dp.toNatClampNeg + n.toNatClampNeg ≤ n1) (hfit : ∀ i, i < n.toNatClampNeg → fits ty (.int (f (sp.toNatClampNeg + i))) = true)
    (h8 : (stk.map fun v => v.category).sum ≤ 8) (hd1 : 1 ≤ d)
    (kk : mZ l Θ d M (pc + 3) loc stk (pt Θ h q1 (aI t n1 (va_cpy f g sp.toNatClampNeg dp.toNatClampNeg n.toNatClampNeg))) Q) : mZ l Θ d M pc loc (.int n :: .int dp :: .ref q1 :: .int sp :: .ref q0 :: stk) h Q := by
  have hl9 : (pt Θ h q1 (aI t n1 (va_cpy f g sp.toNatClampNeg dp.toNatClampNeg n.toNatClampNeg))).length = h.length := pt_length
  have hm9 : msz (pt Θ h q1 (aI t n1 (va_cpy f g sp.toNatClampNeg dp.toNatClampNeg n.toNatClampNeg))) = msz h := msz_pt ha1 rfl
  refine mZ.heap (by rw [hl9]; exact Nat.le_refl _) (by rw [hm9]; exact Nat.le_refl _) (fun p e R s m args below meth c H locs cells slots Q ls C hR hL hS c1 c2 kk => ?_) kk
  have hfr := C.frames
  have hrm := C.room
  have hW9 : nativeFrameWords "java/lang/System" "arraycopy" 5 ≤ 40 := by decide +kernel
  intro T hT X
  have hc0 : H[q0]? = some (vp_cell (mwtC Θ t) (n0, .inl f)) := hR.get ha0
  have hc1 : H[q1]? = some (vp_cell (mwtC Θ t) (n1, .inl g)) := hR.get ha1
  obtain ⟨-, k0, hk0, cm0, hkk0⟩ := (C.ks.1.2 t _ (ht Θ)).1 n0 (fun j => .int (f j))
  obtain ⟨-, k1, hk1, cm1, hkk1⟩ := (C.ks.1.2 t _ (ht Θ)).1 n1 (fun j => .int (g j))
  obtain ⟨vm', X', step⟩ := X.arraycopy C.exec C.own (C.hts _ w1) (C.hts _ w2) (C.hts _ w3) (C.hts _ w4) (src := q0) (dst := q1) (cs := vp_cell (mwtC Θ t) (n0, .inl f)) (cd := vp_cell (mwtC Θ t) (n1, .inl g)) (srcPos := sp) (destPos := dp) (n := n) (by rw [hT]; exact hc0) (by rw [hT]; exact hc1)
    (fun _ h => by cases h) (fun _ h => by cases h) (fun h => by cases h) (fun h => by cases h) hk0 hk1 hkk0 hkk1 (by simp [hprim]) h1 h2 h3
    (by rw [mNN sp h1, mNN n h3]; show ¬ _ > ((arrV (mwtC Θ t) n0 (fun j => .int (f j))).slots.size : Int); rw [arrV_size]; omega)
    (by rw [mNN dp h2, mNN n h3]; show ¬ _ > ((arrV (mwtC Θ t) n1 (fun j => .int (g j))).slots.size : Int); rw [arrV_size]; omega)
    (fun vm₁ _ i hi => by
      have e : (vp_cell (mwtC Θ t) (n0, .inl f)).slots.getD (sp.toNatClampNeg + i) .null = .int (f (sp.toNatClampNeg + i)) := by
        show (arrV (mwtC Θ t) n0 (fun j => .int (f j))).slots.getD _ _ = _
        rw [Array.getD_eq_getD_getElem?, arrV_read _ _ (by omega)]
        rfl
      refine ⟨?_, ?_⟩
      · rw [e]
        exact hfit i hi
      · rw [e]
        exact trivial)
    (g := F0 m pc ls (.int n :: .int dp :: .ref q1 :: .int sp :: .ref q0 :: stk)) rfl (by rw [C.maxl]; exact hL.1) (rest := stk) rfl (by rw [C.bytes]; exact hd) (by omega) (by show 2 * 0 + _ + _ ≤ _; omega)
  have e1 : copied (vp_cell (mwtC Θ t) (n0, .inl f)) (vp_cell (mwtC Θ t) (n1, .inl g)) sp dp n = vp_cell (mwtC Θ t) (n1, .inl (va_cpy f g sp.toNatClampNeg dp.toNatClampNeg n.toNatClampNeg)) := va_copied (fun z => .int z) _ _ f g h4
  rw [e1] at X' step
  have hl : q1 < H.size := (Array.getElem?_eq_some_iff.mp hc1).1
  have hheap : ((T.setVm vm').setCell q1 (vp_cell (mwtC Θ t) (n1, .inl (va_cpy f g sp.toNatClampNeg dp.toNatClampNeg n.toNatClampNeg)))).heap = H.setIfInBounds q1 (vp_cell (mwtC Θ t) (n1, .inl (va_cpy f g sp.toNatClampNeg dp.toNatClampNeg n.toNatClampNeg))) := by rw [← hT]; rfl
  have oq : ∀ q : Nat, q ≠ q1 → (H.setIfInBounds q1 (vp_cell (mwtC Θ t) (n1, .inl (va_cpy f g sp.toNatClampNeg dp.toNatClampNeg n.toNatClampNeg))))[q]? = H[q]? := fun q hq => by simp [Array.getElem?_setIfInBounds, Ne.symm hq]
  have hq1 : mwA Θ q1 := (gt_some ha1).1
  rw [hl9, hm9, Nat.sub_self, Nat.sub_self, Nat.add_zero, Nat.add_zero] at kk
  obtain ⟨t9, a1, b1⟩ := kk (H.setIfInBounds q1 (vp_cell (mwtC Θ t) (n1, .inl (va_cpy f g sp.toNatClampNeg dp.toNatClampNeg n.toNatClampNeg)))) _ ls
    (hR.put ha1 (by simp) oq (show (H.setIfInBounds q1 _)[q1]? = some _ by simp [Array.getElem?_setIfInBounds, hl])) hL ⟨by simp; exact hS.1, fun q g1 g2 => by
      rw [oq q (fun e => g2 (by rw [e]; exact hq1))]
      exact hS.2.1 q g1 g2, fun q hq => by
      rcases List.mem_append.mp hq with h | h
      · exact hS.2.2 q h
      · obtain ⟨z, -, hz⟩ := List.mem_map.mp h
        rw [← hz]
        exact hq1⟩ _ hheap X'
  exact ⟨t9, step t9 a1, b1⟩
end AC
end
