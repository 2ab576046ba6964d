/-! from the start: what the law's row needs of it -/
/-! THE CLAIM OUT OF ONE WALK OF THE LAW'S BODY. Your part is whole_start (and what it stands on); all else here is the same for every law, but numbers. -/
def R_law : String := "FloatingDockLaw"
def lw_P (b : Addr) (xs : List Int32) (args : Array Value) (s : State) : Prop := args = #[.ref b] ∧ s.IntsAt b xs ∧ xs.length ≤ 260 ∧ (Jvm.Cond.and given_1 narrow_1).before args s = true
/-- what a walk over the start with the record d0 says of its end, said of the start itself -/
theorem lw_closed {s t : State} {o : Outcome} {d0 : Drawn} {L : List Loc} {k n : Nat} (hd0 : s.drawn.sameBut d0 lw_cs) (hv : ∃ v, o = .returned v) (hW : (s.setDrawn d0).WarmedH t.vm) (hs : (s.setDrawn d0).sameButNew ({ t with vm := s.vm } : State) L k n) : State.butDraws s t lw_cs (fun t1 => Framed s o t1 L k n) := by
  have h2 : t.drawn = d0 := congrArg State.drawn hs.1
  refine ⟨⟨hv, hW, State.sameButNew.setDrawn hs s.drawn⟩, ?_, by decide⟩
  rw [h2]
  exact hd0
def lw_Q (_ : Array Value) (s : State) (o : Outcome) (t : State) : Prop := o = .returned (some (.int 1)) ∧ State.butDraws s t lw_cs (fun t1 => Framed s o t1 [] room_1.cells room_1.slots)
def lw_Z (below : List Frame) (a : Array Value) (s : State) : State → Prop := fun t => ∃ o, t.status = .running ∧ Ended t below o ∧ lw_Q a s o t
/-- what holds at the law's entry: the machine, the code, the tables' words (any of lw_tbl by 'hts w (by decide +kernel)'), the script of L ints xs at the cell b, what the Statement gives of the start (any of its parts by flat_of_before) -/
def lw_At (p : Program) (s : State) (m : MethodId) (meth : Method) (c : Code) (b L : Nat) (xs : Nat → Int32) : Prop :=
  p.tables.exec = Jvm.exec ∧ c.code = code ∧ meth.sig.returnType = ret ∧ c.maxLocals = 4 ∧ s.vm.findClass R_law = some m.cls ∧ (∀ w ∈ lw_tbl, w.before #[Value.ref b] s = true) ∧ va_X b L xs s s.heap ∧ b < s.heap.size ∧ meth.locks = false ∧ (Jvm.Cond.and given_1 narrow_1).before #[Value.ref b] s = true ∧ meth.name = x.name ∧ c.exceptionTable.toList = []

theorem sbn_wid {s t : State} {L : List Loc} {k n k2 n2 : Nat} (h : s.sameButNew t L k n) (hL : ∀ q ∈ L, s.heap.size ≤ q.base) (hk : k ≤ k2) (hn : n ≤ n2) : s.sameButNew t [] k2 n2 := by
  obtain ⟨h1, h2, h3, h4, h5, h6⟩ := h
  refine ⟨h1, h2, by omega, h4, by omega, fun a c hc => ?_⟩
  obtain ⟨c', q1, q2, q3, q4⟩ := h6 a c hc
  refine ⟨c', q1, q2, q3, fun i _ => q4 i (fun hm => ?_)⟩
  have h7 := hL _ hm
  have h8 := (Array.getElem?_eq_some_iff.mp hc).1
  exact absurd h8 (Nat.not_lt.mpr h7)
theorem start_go {p : Program} {e : Env} {s : State} {m : MethodId} {below : List Frame} {meth : Method} {c : Code} {l : Launch} {b L : Nat} {xs : Nat → Int32} (Θ : mW) (hfl : HF l Θ) (mi : mI9 Θ) (hL : mwL Θ ≤ 1000000) (hb : mwad Θ 40 = b) (hB : mwB Θ = s.heap.size) (hK : mKS Θ s s.heap) (hg : ∀ w ∈ gtbl, w.before #[Value.ref b] s = true) (C0 : lw_At p s m meth c b L xs) : W p l e room_1 s m #[Value.ref b] below meth c s.heap [] 0 0 (lw_Z below #[Value.ref b] s) (entryFrame m ([Value.ref b] : List Value).toArray 4) := by
  obtain ⟨c1, c2, c3, c4, c5, c6, c7, c8, c9, c10, c11, c12⟩ := C0
  obtain ⟨h', e1, e2, e3⟩ := law_all (N := 100000) mi (by omega) hL
  obtain ⟨o, h2, q, mx⟩ := S_W_law (l := l) (d := 14) (N := 100000) hfl (by omega) [] (.inl (J 1), h') e1
  obtain ⟨rfl, rfl⟩ : o = .inl (vI (J 1)) ∧ h2 = h' := Prod.mk.inj q
  have hl := lv_entry [Value.ref b] (n := 4) (by show 1 ≤ 4; decide)
  have R0 : mRel Θ [] s.heap := ⟨by rw [← hB]; rfl, fun k e hk => by cases hk⟩
  have hloc := mLoc0_ok (as := [Value.ref b]) (n := 4) rfl (by show 1 ≤ 4; decide) hl
  have lc : mLoc0 [Value.ref b] 4 = [some (.ref (mwad Θ 40)), none, none, none] := by rw [hb]; rfl
  rw [lc] at hloc
  have k := mx.2.2 p e room_1 s m #[Value.ref b] below meth c ⟨hfl.1, c1, c2, c3, c4, hg, c5, c9, c11, c12, hK, by decide, by decide⟩ s.heap [] 0 0 _ _ _ R0 va_S.rf hloc rfl rfl (Nat.le_trans (by show 0 + (h2.length - 0) ≤ 37400; omega) (by decide : 37400 ≤ room_1.cells)) (Nat.le_trans (by show 0 + (msz h2 - 0) ≤ 857000; omega) (by decide : 857000 ≤ room_1.slots))
  rw [lg_entry_eq]
  intro T hT X
  obtain ⟨t, a1, oc, b1, b2, b3⟩ := k T hT X
  refine ⟨t, a1, oc, b1, b2, ?_⟩
  rcases b3 with ⟨⟨⟨v, hv, hoc⟩, -, -⟩, Ls, fe, hfree⟩ | ⟨q9, hq9, hx9⟩
  · injection hv with hv
    have hvv : v = some (.int 1) := hv.symm
    refine ⟨by rw [hoc, hvv], ?_⟩
    obtain ⟨f1, f2, f3⟩ := fe
    exact lw_closed (d0 := s.drawn) (Drawn.sameBut.refl s.drawn lw_cs) f1 f2 (sbn_wid f3 (fun q hq => by show s.heap.size ≤ q.base; rw [← hB]; exact hfree q hq) (Nat.le_trans (by show 0 + (h2.length - 0) ≤ 37400; omega) (by decide : 37400 ≤ room_1.cells)) (Nat.le_trans (by show 0 + (msz h2 - 0) ≤ 857000; omega) (by decide : 857000 ≤ room_1.slots)))
  · obtain ⟨E9, ce, L9, ⟨⟨n9, hn9, -⟩, -, -⟩, -⟩ := hx9
    cases hn9
