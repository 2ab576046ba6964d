/-! the tables' words by their places; the classes of the worlds -/
/-- private methods of AbstractStringBuilder are selected in StringBuilder too (my_selP) -/
def mSelX : List Cond := [.selects "java/lang/StringBuilder" ⟨"java/lang/AbstractStringBuilder", "ensureCapacityInternal", "(I)V"⟩ ⟨"java/lang/AbstractStringBuilder", "ensureCapacityInternal", "(I)V"⟩, .selects "java/lang/StringBuilder" ⟨"java/lang/AbstractStringBuilder", "newCapacity", "(I)I"⟩ ⟨"java/lang/AbstractStringBuilder", "newCapacity", "(I)I"⟩, .selects "java/lang/StringBuilder" ⟨"java/lang/AbstractStringBuilder", "putStringAt", "(ILjava/lang/String;)V"⟩ ⟨"java/lang/AbstractStringBuilder", "putStringAt", "(ILjava/lang/String;)V"⟩, .selects "java/lang/StringBuilder" ⟨"java/lang/AbstractStringBuilder", "inflateIfNeededFor", "(Ljava/lang/String;)V"⟩ ⟨"java/lang/AbstractStringBuilder", "inflateIfNeededFor", "(Ljava/lang/String;)V"⟩]
def mTbl : List Cond := lw_tbl ++ mSelX
def mTP : List (List Cond) := [k2_sels lw_privs, tables_1_1, tables_1_2, tables_1_3, tables_1_4, tables_1_5, tables_1_6, tables_1_7, mSelX]
theorem mTP_in : ∀ part ∈ mTP, ∀ w ∈ part, w ∈ mTbl := by
  intro part hp w hw
  unfold mTbl lw_tbl tables_1
  simp only [List.mem_append]
  simp only [mTP, List.mem_cons, List.not_mem_nil, or_false] at hp
  rcases hp with rfl | rfl | rfl | rfl | rfl | rfl | rfl | rfl | rfl <;> simp only [hw, true_or, or_true]
def mAt (q : Nat × Nat) : Option Cond := (mTP[q.1]?).bind (fun l => l[q.2]?)
theorem mAt_in {q : Nat × Nat} {w : Cond} (h : mAt q = some w) : w ∈ mTbl := by
  unfold mAt at h
  cases e : mTP[q.1]? with
  | none => rw [e] at h; cases h
  | some l => rw [e] at h; exact mTP_in l (List.mem_of_getElem? e) w (List.mem_of_getElem? h)
/-- the words that a warmed machine keeps -/
def gtbl : List Cond := mTbl.filter goodWord
theorem mG {w : Cond} (q : Nat × Nat) (h : (decide (mAt q = some w) && goodWord w) = true) : w ∈ gtbl := by
  rw [Bool.and_eq_true] at h
  exact List.mem_filter.mpr ⟨mAt_in (of_decide_eq_true h.1), h.2⟩
theorem mGs {ws : List Cond} (qs : List (Nat × Nat)) (h : (decide (qs.map mAt = ws.map some) && ws.all goodWord) = true) : ∀ w ∈ ws, w ∈ gtbl := by
  rw [Bool.and_eq_true] at h
  intro w hw
  have h1 := of_decide_eq_true h.1
  have h2 : some w ∈ qs.map mAt := by rw [h1]; exact List.mem_map.mpr ⟨w, hw, rfl⟩
  obtain ⟨q, -, hq⟩ := List.mem_map.mp h2
  exact List.mem_filter.mpr ⟨mAt_in hq, List.all_eq_true.mp h.2 w hw⟩
theorem gtbl_good : GoodIn gtbl gtbl := fun w h => ⟨h, good_of_word (List.mem_filter.mp h).2⟩
def mT0 : u_T := fun k => match k with
  | 0 => ("FloatingDock", "now", "LFloatingDock$Dock;", false)
  | 1 => ("FloatingDock", "before", "LFloatingDock$Dock;", false)
  | 2 => ("FloatingDock", "history", "LFloatingDock$History;", true)
  | 3 => ("FloatingDock", "snapshot", "LFloatingDock$Dock;", true)
  | 4 => ("FloatingDock", "hasSnapshot", "Z", false)
  | 5 => ("FloatingDock", "fitting", "LFloatingDock$Fitting;", true)
  | 6 => ("FloatingDock", "commands", "LFloatingDock$CommandText;", true)
  | 7 => ("FloatingDock", "line", "Ljava/lang/StringBuilder;", true)
  | 8 => ("FloatingDock", "keptReason", "I", false)
  | 9 => ("FloatingDock", "lastError", "I", false)
  | _ => ("FloatingDock", "lastFailure", "I", false)
theorem mT0_in : ∀ w ∈ u_ws "FloatingDock" mT0 11, w ∈ gtbl := mGs [(2, 61), (2, 63), (2, 65), (2, 67), (2, 69), (2, 71), (2, 73), (2, 75), (2, 77), (2, 79), (2, 81)] (by decide +kernel)
theorem mT0_ty : ∀ k, k < 11 → (parseFieldDescriptor (mT0 k).2.2.1).isSome = true := by decide +kernel
theorem mT0_nm : ∀ a, a < 11 → ∀ b, b < 11 → a ≠ b → (mT0 a).2.1 ≠ (mT0 b).2.1 := by decide +kernel
def mT1 : u_T := fun k => match k with
  | 0 => ("FloatingDock$Dock", "ships", "LFloatingDock$Fleet;", true)
  | 1 => ("FloatingDock$Dock", "blocks", "LFloatingDock$Blocks;", true)
  | 2 => ("FloatingDock$Dock", "waterLevel", "I", false)
  | 3 => ("FloatingDock$Dock", "gateOpen", "Z", false)
  | 4 => ("FloatingDock$Dock", "pumpRate", "I", false)
  | 5 => ("FloatingDock$Dock", "hours", "I", false)
  | 6 => ("FloatingDock$Dock", "charged", "I", false)
  | _ => ("FloatingDock$Dock", "paid", "I", false)
theorem mT1_in : ∀ w ∈ u_ws "FloatingDock$Dock" mT1 8, w ∈ gtbl := mGs [(1, 160), (1, 162), (1, 164), (1, 166), (1, 168), (1, 170), (1, 172), (1, 174)] (by decide +kernel)
theorem mT1_ty : ∀ k, k < 8 → (parseFieldDescriptor (mT1 k).2.2.1).isSome = true := by decide +kernel
theorem mT1_nm : ∀ a, a < 8 → ∀ b, b < 8 → a ≠ b → (mT1 a).2.1 ≠ (mT1 b).2.1 := by decide +kernel
def mT2 : u_T := fun k => match k with
  | 0 => ("FloatingDock$Fleet", "rows", "[LFloatingDock$Ship;", true)
  | 1 => ("FloatingDock$Fleet", "count", "I", false)
  | _ => ("FloatingDock$Fleet", "nextId", "I", false)
theorem mT2_in : ∀ w ∈ u_ws "FloatingDock$Fleet" mT2 3, w ∈ gtbl := mGs [(1, 123), (1, 125), (1, 127)] (by decide +kernel)
theorem mT2_ty : ∀ k, k < 3 → (parseFieldDescriptor (mT2 k).2.2.1).isSome = true := by decide +kernel
theorem mT2_nm : ∀ a, a < 3 → ∀ b, b < 3 → a ≠ b → (mT2 a).2.1 ≠ (mT2 b).2.1 := by decide +kernel
def mT3 : u_T := fun k => match k with
  | 0 => ("FloatingDock$Ship", "id", "I", false)
  | 1 => ("FloatingDock$Ship", "length", "I", false)
  | 2 => ("FloatingDock$Ship", "draught", "I", false)
  | 3 => ("FloatingDock$Ship", "dirt", "I", false)
  | 4 => ("FloatingDock$Ship", "damage", "I", false)
  | 5 => ("FloatingDock$Ship", "afloatHours", "I", false)
  | 6 => ("FloatingDock$Ship", "bill", "I", false)
  | 7 => ("FloatingDock$Ship", "position", "I", false)
  | _ => ("FloatingDock$Ship", "cleaned", "Z", false)
theorem mT3_in : ∀ w ∈ u_ws "FloatingDock$Ship" mT3 9, w ∈ gtbl := mGs [(1, 93), (1, 95), (1, 97), (1, 99), (1, 101), (1, 103), (1, 105), (1, 107), (1, 109)] (by decide +kernel)
theorem mT3_ty : ∀ k, k < 9 → (parseFieldDescriptor (mT3 k).2.2.1).isSome = true := by decide +kernel
theorem mT3_nm : ∀ a, a < 9 → ∀ b, b < 9 → a ≠ b → (mT3 a).2.1 ≠ (mT3 b).2.1 := by decide +kernel
def mT4 : u_T := fun k => match k with
  | 0 => ("FloatingDock$Blocks", "positions", "[I", true)
  | _ => ("FloatingDock$Blocks", "count", "I", false)
theorem mT4_in : ∀ w ∈ u_ws "FloatingDock$Blocks" mT4 2, w ∈ gtbl := mGs [(1, 139), (1, 141)] (by decide +kernel)
theorem mT4_ty : ∀ k, k < 2 → (parseFieldDescriptor (mT4 k).2.2.1).isSome = true := by decide +kernel
theorem mT4_nm : ∀ a, a < 2 → ∀ b, b < 2 → a ≠ b → (mT4 a).2.1 ≠ (mT4 b).2.1 := by decide +kernel
def mT5 : u_T := fun k => match k with
  | 0 => ("FloatingDock$History", "states", "[LFloatingDock$Dock;", true)
  | 1 => ("FloatingDock$History", "next", "I", false)
  | _ => ("FloatingDock$History", "count", "I", false)
theorem mT5_in : ∀ w ∈ u_ws "FloatingDock$History" mT5 3, w ∈ gtbl := mGs [(1, 189), (1, 191), (1, 193)] (by decide +kernel)
theorem mT5_ty : ∀ k, k < 3 → (parseFieldDescriptor (mT5 k).2.2.1).isSome = true := by decide +kernel
theorem mT5_nm : ∀ a, a < 3 → ∀ b, b < 3 → a ≠ b → (mT5 a).2.1 ≠ (mT5 b).2.1 := by decide +kernel
def mT6 : u_T := fun k => match k with
  | 0 => ("FloatingDock$Fitting", "gaps", "[I", true)
  | 1 => ("FloatingDock$Fitting", "gapCount", "I", false)
  | 2 => ("FloatingDock$Fitting", "lengths", "[I", true)
  | 3 => ("FloatingDock$Fitting", "waiting", "I", false)
  | 4 => ("FloatingDock$Fitting", "metresOf", "[I", true)
  | _ => ("FloatingDock$Fitting", "fits", "[Z", true)
theorem mT6_in : ∀ w ∈ u_ws "FloatingDock$Fitting" mT6 6, w ∈ gtbl := mGs [(1, 208), (1, 210), (1, 212), (1, 214), (1, 216), (1, 218)] (by decide +kernel)
theorem mT6_ty : ∀ k, k < 6 → (parseFieldDescriptor (mT6 k).2.2.1).isSome = true := by decide +kernel
theorem mT6_nm : ∀ a, a < 6 → ∀ b, b < 6 → a ≠ b → (mT6 a).2.1 ≠ (mT6 b).2.1 := by decide +kernel
def mT7 : u_T := fun k => match k with
  | 0 => ("FloatingDock$CommandText", "text", "Ljava/lang/StringBuilder;", true)
  | 1 => ("FloatingDock$CommandText", "position", "I", false)
  | 2 => ("FloatingDock$CommandText", "furthest", "I", false)
  | 3 => ("FloatingDock$CommandText", "commandsRead", "I", false)
  | 4 => ("FloatingDock$CommandText", "form", "LFloatingDock$Form;", false)
  | 5 => ("FloatingDock$CommandText", "numbers", "[I", true)
  | _ => ("FloatingDock$CommandText", "numbersRead", "I", false)
theorem mT7_in : ∀ w ∈ u_ws "FloatingDock$CommandText" mT7 7, w ∈ gtbl := mGs [(2, 33), (2, 35), (2, 37), (2, 39), (2, 41), (2, 43), (2, 45)] (by decide +kernel)
theorem mT7_ty : ∀ k, k < 7 → (parseFieldDescriptor (mT7 k).2.2.1).isSome = true := by decide +kernel
theorem mT7_nm : ∀ a, a < 7 → ∀ b, b < 7 → a ≠ b → (mT7 a).2.1 ≠ (mT7 b).2.1 := by decide +kernel
def mT8 : u_T := fun k => match k with
  | 0 => ("java/lang/AbstractStringBuilder", "value", "[B", false)
  | 1 => ("java/lang/AbstractStringBuilder", "coder", "B", false)
  | 2 => ("java/lang/AbstractStringBuilder", "maybeLatin1", "Z", false)
  | _ => ("java/lang/AbstractStringBuilder", "count", "I", false)
theorem mT8_in : ∀ w ∈ u_ws "java/lang/StringBuilder" mT8 4, w ∈ gtbl := mGs [(2, 11), (2, 13), (2, 15), (2, 17)] (by decide +kernel)
theorem mT8_ty : ∀ k, k < 4 → (parseFieldDescriptor (mT8 k).2.2.1).isSome = true := by decide +kernel
theorem mT8_nm : ∀ a, a < 4 → ∀ b, b < 4 → a ≠ b → (mT8 a).2.1 ≠ (mT8 b).2.1 := by decide +kernel
def mT9 : u_T := fun k => match k with
  | 0 => ("java/lang/String", "value", "[B", true)
  | 1 => ("java/lang/String", "coder", "B", true)
  | 2 => ("java/lang/String", "hash", "I", false)
  | _ => ("java/lang/String", "hashIsZero", "Z", false)
theorem mT9_in : ∀ w ∈ u_ws "java/lang/String" mT9 4, w ∈ gtbl := mGs [(5, 80), (5, 82), (5, 84), (5, 86)] (by decide +kernel)
theorem mT9_ty : ∀ k, k < 4 → (parseFieldDescriptor (mT9 k).2.2.1).isSome = true := by decide +kernel
theorem mT9_nm : ∀ a, a < 4 → ∀ b, b < 4 → a ≠ b → (mT9 a).2.1 ≠ (mT9 b).2.1 := by decide +kernel
def mTe : u_T := fun _ => ("", "", "", false)
def mCl : List vw_C := [("FloatingDock", mT0, 11), ("FloatingDock$Dock", mT1, 8), ("FloatingDock$Fleet", mT2, 3), ("FloatingDock$Ship", mT3, 9), ("FloatingDock$Blocks", mT4, 2), ("FloatingDock$History", mT5, 3), ("FloatingDock$Fitting", mT6, 6), ("FloatingDock$CommandText", mT7, 7), ("java/lang/StringBuilder", mT8, 4), ("java/lang/String", mT9, 4), ("java/util/NoSuchElementException", mTe, 0), ("java/lang/IllegalArgumentException", mTe, 0), ("java/lang/IllegalStateException", mTe, 0), ("java/lang/UnsupportedOperationException", mTe, 0), ("java/lang/IndexOutOfBoundsException", mTe, 0), ("java/lang/ArithmeticException", mTe, 0)]
def mClOK (r : vw_C) : Prop := (∀ w ∈ u_ws r.1 r.2.1 r.2.2, w ∈ gtbl) ∧ (∀ k, k < r.2.2 → (parseFieldDescriptor (r.2.1 k).2.2.1).isSome = true) ∧ (∀ a, a < r.2.2 → ∀ b, b < r.2.2 → a ≠ b → (r.2.1 a).2.1 ≠ (r.2.1 b).2.1)
theorem mClOK_e (C : String) : mClOK (C, mTe, 0) := ⟨fun w h => (by simp [u_ws] at h), fun k h => absurd h (Nat.not_lt_zero k), fun a h => absurd h (Nat.not_lt_zero a)⟩
theorem mCl_ok : ∀ r ∈ mCl, mClOK r := by
  intro r hr
  simp only [mCl, List.mem_cons, List.not_mem_nil, or_false] at hr
  rcases hr with rfl | rfl | rfl | rfl | rfl | rfl | rfl | rfl | rfl | rfl | rfl | rfl | rfl | rfl | rfl | rfl
  · exact ⟨mT0_in, mT0_ty, mT0_nm⟩
  · exact ⟨mT1_in, mT1_ty, mT1_nm⟩
  · exact ⟨mT2_in, mT2_ty, mT2_nm⟩
  · exact ⟨mT3_in, mT3_ty, mT3_nm⟩
  · exact ⟨mT4_in, mT4_ty, mT4_nm⟩
  · exact ⟨mT5_in, mT5_ty, mT5_nm⟩
  · exact ⟨mT6_in, mT6_ty, mT6_nm⟩
  · exact ⟨mT7_in, mT7_ty, mT7_nm⟩
  · exact ⟨mT8_in, mT8_ty, mT8_nm⟩
  · exact ⟨mT9_in, mT9_ty, mT9_nm⟩
  · exact mClOK_e _
  · exact mClOK_e _
  · exact mClOK_e _
  · exact mClOK_e _
  · exact mClOK_e _
  · exact mClOK_e _
