/-! the start: all of it -/
section SG
variable {s : State} {args : Array Value}
theorem ks_all {D : va_G} {tc : Nat → ClassId} {sq : Value} {b L : Nat} {xs : Nat → Int32} (hts : ∀ w ∈ lw_tbl, w.before #[Value.ref b] s = true) (hgv : (Jvm.Cond.and given_1 narrow_1).before #[Value.ref b] s = true) (hX : va_X b L xs s s.heap) (hb : b < s.heap.size) (hsq : (Term.static "jdk/internal/util/Preconditions" "SIOOBE_FORMATTER" "Ljava/util/function/BiFunction;").eval #[Value.ref b] s none [] s = some sq) (hD : ∀ (c : Nat) (q : vw_C), mCl[c]? = some q → u_Kn s q.1 q.2.1 q.2.2 (D.1 c) (D.2 c)) (hT : ∀ (k : Nat) (q : ClassId × FieldType), ([(tc 0, .int), (tc 1, .boolean), (tc 2, .int), (tc 3, .int), (tc 4, .byte), (tc 5, .object "FloatingDock$Ship"), (tc 6, .object "FloatingDock$Dock")] : List (ClassId × FieldType))[k]? = some q → ArrOfT s q.1 q.2 ∧ va_RA s q.1 q.2) : mKS (thW #[Value.ref b] s D tc sq L xs) s s.heap := by
  have hA : ∀ a : Nat, a < s.heap.size → ¬ mwA (thW #[Value.ref b] s D tc sq L xs) a := fun a h1 h2 => absurd h1 (Nat.not_lt.mpr h2)
  have h40 : va_T .int (otAd #[Value.ref b] s 40) L (fun j => .int (xs j)) (mwA (thW #[Value.ref b] s D tc sq L xs)) s s.heap := by
    rw [ot_b]
    exact ot_40 hb hA hX
  exact ⟨⟨hD, hT⟩, ks_St hts hgv hA hsq, ks_OA hgv hA h40, ks_OF hgv hA, ks_OO hgv hA, ks_SR hts, st_nws hts, st_nc hgv, st_zq1 hts hgv hA, ⟨st_zq2 hts hgv hA, st_ao hts⟩, Nat.le_refl _⟩
end SG
