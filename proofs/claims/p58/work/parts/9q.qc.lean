/-! the questions of the face, on: what fits, shares; undo, save, restore; append, lineAt -/
theorem vn64 {x : UInt64} (hx : FP.Core.dIsNaN x = false) : x &&& 0x7fffffffffffffff ≤ 0x7ff0000000000000 := by
  rw [FP.Core.notNaN_iff, FP.Core.ne_nan] at hx
  rw [UInt64.le_iff_toNat_le, UInt64.toNat_and]
  have e : (0x7fffffffffffffff : UInt64).toNat = 2 ^ 63 - 1 := by decide
  rw [e, Nat.and_two_pow_sub_one_eq_mod]
  exact hx
theorem vn32 {x : UInt32} (hx : FP.Core.fIsNaN x = false) : x &&& 0x7fffffff ≤ 0x7f800000 := by
  rw [FP.Core.notNaN_iff32, FP.Core.ne_nan32] at hx
  rw [UInt32.le_iff_toNat_le, UInt32.toNat_and]
  have e : (0x7fffffff : UInt32).toNat = 2 ^ 31 - 1 := by decide
  rw [e, Nat.and_two_pow_sub_one_eq_mod]
  exact hx
theorem dd_nn {s n : Int} (n0 : 1 ≤ n) (n1 : n ≤ 8) : FP.Core.dIsNaN (FP.ddiv (FP.i2d (J s)) (FP.i2d (J n))) = false := by
  refine FP.Core.ddiv_out ((FP.Core.notNaN_iff _).mpr (FP.Core.i2d_fin _).ne_nan) (FP.Core.i2d_fin _) (fun z => ?_)
  rw [FP.Core.zero_bits2] at z
  exact FP.Core.i2d_ne_zero (v := J n) (by
    intro e
    have e2 : J n = J 0 := e
    rw [J_eq (by omega) (by omega) (by omega) (by omega)] at e2
    omega) z
theorem ff_nn {s : Int32} : FP.Core.fIsNaN (FP.fdiv (FP.i2f s) (1114636288 : UInt32)) = false := by
  refine FP.Core.fdiv_out (FP.Core.FFin.notNaN (FP.Core.i2f_fin _)) ((FP.Core.fin_bits32 _).mpr (by decide)) (fun z => ?_)
  rw [FP.Core.zero_bits232] at z
  exact absurd z (by decide)
theorem f2d_nn {x : UInt32} (hx : FP.Core.fIsNaN x = false) : FP.Core.dIsNaN (FP.f2d x) = false := (FP.f2d_nan x).trans hx
theorem cmp_self {x : UInt64} (hx : FP.Core.dIsNaN x = false) : Op.cmpValue (FP.dcmp x x) .l = 0 := by
  have e : FP.dcmp x x = some .eq := FP.Core.dcmp_self ((FP.Core.notNaN_iff x).mp hx)
  rw [e]
  rfl
section QC
variable {Θ : mW} {N f b : Nat} {c k : Int} {S S' S2 : Nat → Int → Int} {h h2 : mH} {tb : Int → Nat} {vp : Int → Prop} {bO : (Int → Int) → Prop} {D G : Nat → Int → Int} {V : Int → Int} {P : Nat → Prop} {y z : Nat}
theorem k_most (kx : KX Θ f c h S bO) (hg : HB Θ shG (f + 146) G h) {op : mH → Nat → Nat → Option (Int32 × mH)} {pv : Int → Prop} (ho : ∀ (b : Nat) (D : Nat → Int → Int), bOK Θ 5 (f + 146) h → HB Θ shD b D h → (f + 146 + 5 ≤ b ∨ b + 13 ≤ f + 146) → DV D (S 1) → In c (S 1) → ∃ E' v, op (HG Θ (f + 146) G h) (f + 146) b = some (J v, HG Θ (f + 146) E' h) ∧ pv v) : ∃ (b : Nat) (v : Int) (G' : Nat → Int → Int) (h2 : mH), rA Θ h 0 f 0 = some b ∧ (∀ {ρ : Type} {p : Option ρ}, gO Θ h 6 (f + 146) p = p) ∧ op h (f + 146) b = some (J v, h2) ∧ pv v ∧ KX Θ f c h2 S bO ∧ HB Θ shG (f + 146) G' h2 ∧ Nx Θ h h2 (fun x => f + 146 ≤ x ∧ x < f + 151) 0 0 := by
  obtain ⟨b, D, r0, hs, hd, I, rng, -⟩ := kx.now
  obtain ⟨E', v, q1, q2⟩ := ho b D hg.1 hs (by omega) hd I
  rw [show HG Θ (f + 146) G h = h from hg.2] at q1
  have x : Nx Θ h (HG Θ (f + 146) E' h) (fun x => f + 146 ≤ x ∧ x < f + 151) 0 0 := (Nx.bk hg).wid (fun u _ q => ⟨by omega, by have : shG.length = 5 := rfl; omega⟩) (by omega) (by omega)
  exact ⟨b, v, E', _, r0, fun {ρ p} => HB.xO hg (i := 0) rfl, q1, q2, kx.nx x (fun u hu q => by unfold KR at hu; omega), HB.self hg.1, x⟩
end QC
