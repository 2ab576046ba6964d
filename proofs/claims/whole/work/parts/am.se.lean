/-! the start: arrays and things -/
theorem fa_c {α : Type} {P : α → Prop} {a : α} {l : List α} (h : P a) (t : ∀ q ∈ l, P q) : ∀ q ∈ a :: l, P q := List.forall_mem_cons.mpr ⟨h, t⟩
theorem fa_n {α : Type} {P : α → Prop} : ∀ q ∈ ([] : List α), P q := fun _ h => absurd h List.not_mem_nil
section SE
variable {s : State} {args : Array Value} {A : Nat → Prop}
def thW (args : Array Value) (s : State) (D : va_G) (tc : Nat → ClassId) (sq : Value) (L : Nat) (xs : Nat → Int32) : mW := (D, tc, s.heap.size, otAd args s, sq, L, xs)
theorem ot_12 (hgv : (Jvm.Cond.and given_1 narrow_1).before args s = true) (hA : ∀ a : Nat, a < s.heap.size → ¬ A a) : otEv args s 12 ∧ va_T (.object "FloatingDock$Form") (otAd args s 12) 12 (fun j => .ref (otAd args s j)) A s s.heap := by
  have hs : ∀ c ∈ sFL, c.before args s = true := flat_of_before _ hgv
  have hev : ∀ j : Nat, j < 12 → otEv args s j := by
    intro j hj
    have : j = 0 ∨ j = 1 ∨ j = 2 ∨ j = 3 ∨ j = 4 ∨ j = 5 ∨ j = 6 ∨ j = 7 ∨ j = 8 ∨ j = 9 ∨ j = 10 ∨ j = 11 := by omega
    rcases this with rfl | rfl | rfl | rfl | rfl | rfl | rfl | rfl | rfl | rfl | rfl | rfl
    · exact (ot_ex hgv hA ex_0).1
    · exact (ot_ex hgv hA ex_1).1
    · exact (ot_ex hgv hA ex_2).1
    · exact (ot_ex hgv hA ex_3).1
    · exact (ot_ex hgv hA ex_4).1
    · exact (ot_ex hgv hA ex_5).1
    · exact (ot_ex hgv hA ex_6).1
    · exact (ot_ex hgv hA ex_7).1
    · exact (ot_ex hgv hA ex_8).1
    · exact (ot_ex hgv hA ex_9).1
    · exact (ot_ex hgv hA ex_10).1
    · exact (ot_ex hgv hA ex_11).1
  refine ot_T (va_Tof (by decide +kernel) (hs _ ar_12) (va_eqt (hs _ ln_12)) (fun j hj => ?_) hA)
  have hm : Cond.eq (.elem (sTm 12) (.int (Int32.ofNat j))) (sTm j) ∈ sFL.filter (isElT (sTm 12)) := by
    rw [el_12]
    exact List.mem_map.mpr ⟨j, List.mem_range.mpr hj, rfl⟩
  exact va_eqv (hs _ (List.mem_filter.mp hm).1) (hev j hj)
theorem ot_N (hgv : (Jvm.Cond.and given_1 narrow_1).before args s = true) (hA : ∀ a : Nat, a < s.heap.size → ¬ A a) {n N : Nat} {ty : FieldType} {f : Nat → Int32} (hN : N < 2 ^ 31) (h1 : Cond.arrayOf (sTm n) ty ∈ sFL) (h2 : Cond.eq (.length (sTm n)) (.int (Int32.ofNat N)) ∈ sFL) (h3 : sFL.filter (isEl (sTm n)) = (List.range N).map (fun j => Cond.eq (.elem (sTm n) (.int (Int32.ofNat j))) (.int (f j)))) : otEv args s n ∧ va_T ty (otAd args s n) N (fun j => .int (f j)) A s s.heap := ot_T (txE hgv hA hN h1 h2 h3)
theorem ot_40 {b L : Nat} {xs : Nat → Int32} (hb : b < s.heap.size) (hA : ∀ a : Nat, a < s.heap.size → ¬ A a) (hX : va_X b L xs s s.heap) : va_T .int b L (fun j => .int (xs j)) A s s.heap := by
  obtain ⟨scr, h1, h2, h3, h4, h5⟩ := hX
  exact ⟨scr, h1, h2, h3, by omega, by rw [h4], h5, hA b hb⟩
theorem ot_b {b : Nat} : otAd #[Value.ref b] s 40 = b := (ot_ev (n := 40) (args := #[Value.ref b]) (s := s) (a := b) rfl).2
theorem ks_OA {D : va_G} {tc : Nat → ClassId} {sq : Value} {L : Nat} {xs : Nat → Int32} (hgv : (Jvm.Cond.and given_1 narrow_1).before args s = true) (hA : ∀ a : Nat, a < s.heap.size → ¬ A a) (h40 : va_T .int (otAd args s 40) L (fun j => .int (xs j)) A s s.heap) : ∀ q ∈ mOA (thW args s D tc sq L xs), va_T q.2.1 (mwad (thW args s D tc sq L xs) q.1) q.2.2.1 q.2.2.2 A s s.heap :=
  fa_c ((ot_12 hgv hA).2) (fa_c ((ot_N hgv hA (N := 12) (by decide +kernel) ar_13 ln_13 el_13).2) (fa_c ((ot_N hgv hA (N := mLen 0) (by decide +kernel) ar_26 ln_26 el_26).2) (fa_c ((ot_N hgv hA (N := mLen 1) (by decide +kernel) ar_27 ln_27 el_27).2) (fa_c ((ot_N hgv hA (N := mLen 2) (by decide +kernel) ar_28 ln_28 el_28).2) (fa_c ((ot_N hgv hA (N := mLen 3) (by decide +kernel) ar_29 ln_29 el_29).2) (fa_c ((ot_N hgv hA (N := mLen 4) (by decide +kernel) ar_30 ln_30 el_30).2) (fa_c ((ot_N hgv hA (N := mLen 5) (by decide +kernel) ar_31 ln_31 el_31).2) (fa_c ((ot_N hgv hA (N := mLen 6) (by decide +kernel) ar_32 ln_32 el_32).2) (fa_c ((ot_N hgv hA (N := mLen 7) (by decide +kernel) ar_33 ln_33 el_33).2) (fa_c ((ot_N hgv hA (N := mLen 8) (by decide +kernel) ar_34 ln_34 el_34).2) (fa_c ((ot_N hgv hA (N := mLen 9) (by decide +kernel) ar_35 ln_35 el_35).2) (fa_c ((ot_N hgv hA (N := mLen 10) (by decide +kernel) ar_36 ln_36 el_36).2) (fa_c ((ot_N hgv hA (N := mLen 11) (by decide +kernel) ar_37 ln_37 el_37).2) (fa_c ((ot_N hgv hA (N := 65) (by decide +kernel) ar_39 ln_39 el_39).2) (fa_c (h40) (fa_c ((ot_N hgv hA (N := 100) (by decide +kernel) ar_41 ln_41 el_41).2) (fa_c ((ot_N hgv hA (N := 100) (by decide +kernel) ar_42 ln_42 el_42).2) (fa_n))))))))))))))))))
theorem ks_OO {D : va_G} {tc : Nat → ClassId} {sq : Value} {L : Nat} {xs : Nat → Int32} (hgv : (Jvm.Cond.and given_1 narrow_1).before args s = true) (hA : ∀ a : Nat, a < s.heap.size → ¬ A a) : ∀ q ∈ mOO, va_O q.2 (mwad (thW args s D tc sq L xs) q.1) A s s.heap :=
  fa_c (ot_ex hgv hA ex_0).2 (fa_c (ot_ex hgv hA ex_1).2 (fa_c (ot_ex hgv hA ex_2).2 (fa_c (ot_ex hgv hA ex_3).2 (fa_c (ot_ex hgv hA ex_4).2 (fa_c (ot_ex hgv hA ex_5).2 (fa_c (ot_ex hgv hA ex_6).2 (fa_c (ot_ex hgv hA ex_7).2 (fa_c (ot_ex hgv hA ex_8).2 (fa_c (ot_ex hgv hA ex_9).2 (fa_c (ot_ex hgv hA ex_10).2 (fa_c (ot_ex hgv hA ex_11).2 (fa_c (ot_ex hgv hA ex_14).2 (fa_c (ot_ex hgv hA ex_15).2 (fa_c (ot_ex hgv hA ex_16).2 (fa_c (ot_ex hgv hA ex_17).2 (fa_c (ot_ex hgv hA ex_18).2 (fa_c (ot_ex hgv hA ex_19).2 (fa_c (ot_ex hgv hA ex_20).2 (fa_c (ot_ex hgv hA ex_21).2 (fa_c (ot_ex hgv hA ex_22).2 (fa_c (ot_ex hgv hA ex_23).2 (fa_c (ot_ex hgv hA ex_24).2 (fa_c (ot_ex hgv hA ex_25).2 (fa_c (ot_ex hgv hA ex_38).2 (fa_n)))))))))))))))))))))))))
end SE
