/-! the questions of the face, on -/
section QB
variable {Θ : mW} {N f b : Nat} {c k : Int} {S S' S2 : Nat → Int → Int} {h h2 : mH} {tb : Int → Nat} {vp : Int → Prop} {bO : (Int → Int) → Prop} {D G : Nat → Int → Int} {V : Int → Int}
theorem bnt_out (I : In c V) {q : Int} (q0 : 0 ≤ q) (q1 : q < V 4) (hz : fd V q 4 = -1) : bnt V q 60 = 0 := by
  have g : ∀ n : Nat, n ≤ 60 → bnt V q n = 0 := by
    intro n
    induction n with
    | zero => intro _; rfl
    | succ n ih =>
      intro hn
      rw [bnt, ih (by omega)]
      have na : ¬ at' V (n : Int) = q := fun z => by
        have := (at_iff I q0 q1).mp z
        exact this.1 hz
      simp [na]
  exact g 60 (by omega)
theorem gpf_rng {l : Int} (l0 : 0 ≤ l) : ∀ (r : Nat) (a : Int), 0 ≤ a → -1 ≤ gpf V l r a ∧ gpf V l r a ≤ 60
  | 0, a, _ => by rw [gpf]; omega
  | r + 1, a, ha => by
    rw [gpf]
    split
    · omega
    · split
      · omega
      · exact gpf_rng l0 r (a + 1) (by omega)
end QB
