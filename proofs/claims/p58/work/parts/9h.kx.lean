/-! the class's world: its docks, what it remembers -/
def dk (i : Nat) : Nat := ([1, 14, 29, 42, 55, 68, 81, 94, 107, 120, 133] : List Nat).getD i 133
theorem dk_rng0 : ∀ i : Fin 11, 1 ≤ dk i ∧ dk i + 13 ≤ 146 ∧ (dk i + 13 ≤ 27 ∨ 29 ≤ dk i) := by decide +kernel
theorem dk_dis0 : ∀ i j : Fin 11, i ≠ j → dk i + 13 ≤ dk j ∨ dk j + 13 ≤ dk i := by decide +kernel
theorem dk_rng {i : Nat} (h : i < 11) : 1 ≤ dk i ∧ dk i + 13 ≤ 146 ∧ (dk i + 13 ≤ 27 ∨ 29 ≤ dk i) := dk_rng0 ⟨i, h⟩
theorem dk_dis {i j : Nat} (h : i < 11) (h2 : j < 11) (hn : i ≠ j) : dk i + 13 ≤ dk j ∨ dk j + 13 ≤ dk i := dk_dis0 ⟨i, h⟩ ⟨j, h2⟩ (fun e => hn (Fin.mk.inj e))
def shF : List Sh := [.inl (0, [some none, some none, some none, some none, none, some none, some none, some none, none, none, none])]
def shY : List Sh := [.inl (5, [some (some 1), none, none]), .inr (.inr (6, 8, none))]
def In (c : Int) (V : Int → Int) : Prop := Inv (11904 * c) (48 * c + 3) c V
def NV (c : Int) (D : Nat → Int → Int) (U : Int → Int) : Prop := ∃ V, DV D V ∧ In c V ∧ ∀ j : Int, 0 ≤ j → j < 140 → V j = U j
def krf (y : Int) : Int := if y = 0 then -1 else y
def KF (f : Nat) (S : Nat → Int → Int) (a b : Nat) (F : Nat → Int → Int) : Prop := (F 0 0 = (f + dk a : Nat) ∧ F 0 1 = (f + dk b : Nat) ∧ F 0 2 = (f + 27 : Nat) ∧ F 0 3 = (f + 133 : Nat) ∧ F 0 5 = (f + 146 : Nat) ∧ F 0 6 = (f + 151 : Nat) ∧ F 0 7 = (f + 155 : Nat)) ∧ (F 0 4 = S 0 4 ∧ F 0 8 = krf (S 0 8) ∧ F 0 9 = S 0 6 ∧ F 0 10 = S 0 7)
def KP (a b : Nat) (r : Int → Nat) : Prop := (a < 10 ∧ b < 10 ∧ a ≠ b) ∧ (∀ i : Int, 0 ≤ i → i < 8 → r i < 10 ∧ r i ≠ a ∧ r i ≠ b) ∧ (∀ i j : Int, 0 ≤ i → i < 8 → 0 ≤ j → j < 8 → i ≠ j → r i ≠ r j)
def KQ (f : Nat) (S : Nat → Int → Int) (r : Int → Nat) (x : Int) (Q : Nat → Int → Int) : Prop := (Q 0 1 = x ∧ Q 0 2 = S 0 5) ∧ (0 ≤ x ∧ x < 8) ∧ (0 ≤ S 0 5 ∧ S 0 5 ≤ 8) ∧ ∀ i : Int, 0 ≤ i → i < 8 → Q 1 i = (f + dk (r i) : Nat)
def KE (c : Int) (S : Nat → Int → Int) (a b : Nat) (r : Int → Nat) (x : Int) (bO : (Int → Int) → Prop) (E : Nat → Nat → Int → Int) : Prop := (∀ i, i < 11 → PM (E i)) ∧ (DV (E a) (S 1) ∧ In c (S 1)) ∧ (∀ B, bO B → NV c (E b) B) ∧ (∀ e : Int, 0 ≤ e → e < S 0 5 → NV c (E (r ((x - S 0 5 + e) % 8))) (fun j => S 4 (140 * e + j))) ∧ (S 0 4 = 0 ∨ S 0 4 = 1) ∧ (S 0 4 = 1 → NV c (E 10) (S 3))
def KH (Θ : mW) (f : Nat) (h : mH) (F : Nat → Int → Int) (E : Nat → Nat → Int → Int) (Q : Nat → Int → Int) : Prop := HB Θ shF f F h ∧ (∀ i, i < 11 → HB Θ shD (f + dk i) (E i) h) ∧ HB Θ shY (f + 27) Q h
def KX (Θ : mW) (f : Nat) (c : Int) (h : mH) (S : Nat → Int → Int) (bO : (Int → Int) → Prop) : Prop := ∃ a b r x F E Q, KH Θ f h F E Q ∧ KF f S a b F ∧ KP a b r ∧ KQ f S r x Q ∧ KE c S a b r x bO E
/-- the class's cells but for what it works with -/
def KR (f : Nat) (x : Nat) : Prop := f ≤ x ∧ x < f + 146
section KX
variable {Θ : mW} {N f m : Nat} {c c2 : Int} {S S2 : Nat → Int → Int} {h h2 : mH} {bO : (Int → Int) → Prop} {F Q : Nat → Int → Int} {E : Nat → Nat → Int → Int} {a b : Nat} {r : Int → Nat} {x : Int} {V V2 : Int → Int} {D : Nat → Int → Int} {P : Nat → Prop} {k z : Nat}
theorem In.mono (I : In c V) (h : c ≤ c2) : In c2 V := Inv.mono I (by omega) (by omega) h
theorem NV.mono {U : Int → Int} (I : NV c D U) (h : c ≤ c2) : NV c2 D U := by
  obtain ⟨V, a, b, d⟩ := I
  exact ⟨V, a, b.mono h, d⟩
theorem fd_cong (e : ∀ j : Int, 0 ≤ j → j < 140 → V j = V2 j) {k i : Int} (h0 : 0 ≤ k) (h1 : k < 8) (i0 : 0 ≤ i) (i1 : i ≤ 8) : fd V k i = fd V2 k i := by
  unfold fd
  exact e _ (by omega) (by omega)
theorem blk_cong (e : ∀ j : Int, 0 ≤ j → j < 140 → V j = V2 j) : blk V 60 = blk V2 60 := blk_ext 60 (fun p hp => e _ (by omega) (by omega))
theorem DV.cong (d : DV D V) (h4 : V 4 ≤ 8) (e : ∀ j : Int, 0 ≤ j → j < 140 → V j = V2 j) : DV D V2 := by
  obtain ⟨d1, d2, d3, d4, d5, d6, d7, d8⟩ := d
  refine ⟨?_, d2, fun k k0 k1 i i0 i1 => ?_, d4, by rw [d5, blk_cong e], d6, d7, fun p p0 p1 => ?_⟩
  · rw [← e 0 (by omega) (by omega), ← e 1 (by omega) (by omega), ← e 2 (by omega) (by omega), ← e 3 (by omega) (by omega), ← e 4 (by omega) (by omega), ← e 5 (by omega) (by omega), ← e 6 (by omega) (by omega), ← e 7 (by omega) (by omega)]
    exact d1
  · rw [← e 4 (by omega) (by omega)] at k1
    rw [← fd_cong e k0 (by omega) i0 i1]
    exact d3 k k0 k1 i i0 i1
  · rw [← e _ (by omega) (by omega)]
    exact d8 p p0 p1
theorem In.cong (I : In c V) (ok : ∀ j, -100000000 ≤ V2 j ∧ V2 j ≤ 100000000) (e : ∀ j : Int, 0 ≤ j → j < 140 → V j = V2 j) : In c V2 := by
  have h4 := I.h4
  have e4 := e 4 (by omega) (by omega)
  have e5 := e 5 (by omega) (by omega)
  have e6 := e 6 (by omega) (by omega)
  have em : mny V2 = mny V := by unfold mny; rw [e4]
  have es : smm V2 8 (mny V2) = smm V 8 (mny V) := by
    rw [em]
    exact smm_ext _ (fun q hq => (fd_cong e (by omega) (by unfold mny at hq; omega) (by omega) (by omega)).symm)
  refine ⟨⟨ok, by rw [← e4]; exact h4⟩, ?_, ?_, ?_, ?_, ?_, ?_, fun q q0 q1 => ?_, fun q l q0 ql l1 => ?_, fun p p0 p1 => ?_, ?_⟩
  · rw [← e 0 (by omega) (by omega)]; exact I.h0
  · rw [← e 1 (by omega) (by omega)]; exact I.h1
  · rw [← e 2 (by omega) (by omega)]; exact I.h2
  · rw [← e 3 (by omega) (by omega)]; exact I.h3
  · rw [← e5]; exact I.h5
  · rw [es, ← e6, ← e 7 (by omega) (by omega)]; exact I.h7
  · rw [← e4] at q1
    have s := I.sh q q0 q1
    unfold shOK at s ⊢
    rw [← fd_cong e q0 (by omega) (i := 0) (by omega) (by omega), ← fd_cong e q0 (by omega) (i := 1) (by omega) (by omega), ← fd_cong e q0 (by omega) (i := 2) (by omega) (by omega), ← fd_cong e q0 (by omega) (i := 3) (by omega) (by omega), ← fd_cong e q0 (by omega) (i := 4) (by omega) (by omega), ← fd_cong e q0 (by omega) (i := 5) (by omega) (by omega), ← fd_cong e q0 (by omega) (i := 6) (by omega) (by omega), ← fd_cong e q0 (by omega) (i := 7) (by omega) (by omega), ← fd_cong e q0 (by omega) (i := 8) (by omega) (by omega), ← e5, ← e6]
    exact s
  · rw [← e4] at l1
    have s := I.pr q l q0 ql l1
    unfold pr2 at s ⊢
    rw [← fd_cong e q0 (by omega) (i := 0) (by omega) (by omega), ← fd_cong e q0 (by omega) (i := 1) (by omega) (by omega), ← fd_cong e q0 (by omega) (i := 4) (by omega) (by omega), ← fd_cong e (k := l) (by omega) (by omega) (i := 0) (by omega) (by omega), ← fd_cong e (k := l) (by omega) (by omega) (i := 1) (by omega) (by omega), ← fd_cong e (k := l) (by omega) (by omega) (i := 4) (by omega) (by omega)]
    exact s
  · rw [← e _ (by omega) (by omega)]
    exact I.bl p p0 p1
  · rw [← blk_cong e]
    exact I.b20
/-- from what lies in a dock to what is compared -/
theorem NV.to {U : Int → Int} (w : NV c D U) (ok : ∀ j, -100000000 ≤ V2 j ∧ V2 j ≤ 100000000) (e : ∀ j : Int, 0 ≤ j → j < 140 → U j = V2 j) : DV D V2 ∧ In c V2 := by
  obtain ⟨V, d, I, q⟩ := w
  have h4 := I.h4
  exact ⟨d.cong h4.2 (fun j a b => (q j a b).trans (e j a b)), I.cong ok (fun j a b => (q j a b).trans (e j a b))⟩
theorem NV.cong {U U2 : Int → Int} (w : NV c D U) (e : ∀ j : Int, 0 ≤ j → j < 140 → U j = U2 j) : NV c D U2 := by
  obtain ⟨V, d, I, q⟩ := w
  exact ⟨V, d, I, fun j a b => (q j a b).trans (e j a b)⟩
theorem KX.nx (w : KX Θ f c h S bO) (y : Nx Θ h h2 P k z) (hp : ∀ x, KR f x → ¬ P x) : KX Θ f c h2 S bO := by
  obtain ⟨a, b, r, x, F, E, Q, ⟨k1, k2, k3⟩, o⟩ := w
  refine ⟨a, b, r, x, F, E, Q, ⟨k1.nx y (fun x u v => hp x ⟨u, ?_⟩), fun i hi => (k2 i hi).nx y (fun x u v => hp x ?_), k3.nx y (fun x u v => hp x ?_)⟩, o⟩
  · have : shF.length = 1 := rfl
    omega
  · have : shD.length = 13 := rfl
    have := dk_rng hi
    exact ⟨by omega, by omega⟩
  · have : shY.length = 2 := rfl
    exact ⟨by omega, by omega⟩
theorem KX.mono (w : KX Θ f c h S bO) (hc : c ≤ c2) : KX Θ f c2 h S bO := by
  obtain ⟨a, b, r, x, F, E, Q, o1, o2, o3, o4, p1, ⟨p2, p3⟩, p4, p5, p6, p7⟩ := w
  exact ⟨a, b, r, x, F, E, Q, o1, o2, o3, o4, p1, ⟨p2, p3.mono hc⟩, fun B hB => (p4 B hB).mono hc, fun e e0 e1 => (p5 e e0 e1).mono hc, p6, fun g => (p7 g).mono hc⟩
theorem KX.forget (w : KX Θ f c h S bO) : KX Θ f c h S (fun _ => False) := by
  obtain ⟨a, b, r, x, F, E, Q, o1, o2, o3, o4, p1, p2, p4, p5, p6, p7⟩ := w
  exact ⟨a, b, r, x, F, E, Q, o1, o2, o3, o4, p1, p2, fun B hB => hB.elim, p5, p6, p7⟩
/-- what of the reference's numbers the class's world speaks of -/
def Sm (S S2 : Nat → Int → Int) : Prop := S2 0 4 = S 0 4 ∧ S2 0 5 = S 0 5 ∧ S2 0 6 = S 0 6 ∧ S2 0 7 = S 0 7 ∧ S2 0 8 = S 0 8 ∧ S2 1 = S 1 ∧ S2 3 = S 3 ∧ S2 4 = S 4
theorem KX.sm (w : KX Θ f c h S bO) (s : Sm S S2) : KX Θ f c h S2 bO := by
  obtain ⟨s4, s5, s6, s7, s8, t1, t3, t4⟩ := s
  obtain ⟨a, b, r, x, F, E, Q, o1, o2, o3, o4, o5⟩ := w
  refine ⟨a, b, r, x, F, E, Q, o1, ?_, o3, ?_, ?_⟩
  · unfold KF at o2 ⊢
    rw [s4, s8, s6, s7]
    exact o2
  · unfold KQ at o4 ⊢
    rw [s5]
    exact o4
  · unfold KE at o5 ⊢
    rw [t1, s5, s4, t3, t4]
    exact o5
/-- the dock that is now -/
theorem KX.now (w : KX Θ f c h S bO) : ∃ b D, rA Θ h 0 f 0 = some b ∧ HB Θ shD b D h ∧ DV D (S 1) ∧ In c (S 1) ∧ (f + 1 ≤ b ∧ b + 13 ≤ f + 133) ∧ ∀ (D' : Nat → Int → Int) (S2 : Nat → Int → Int), DV D' (S2 1) → In c (S2 1) → Sm S (ur S2 (S 1)) → KX Θ f c (HD Θ b D' h) S2 bO := by
  obtain ⟨a, b, r, x, F, E, Q, ⟨k1, k2, k3⟩, o2, o3, o4, o5⟩ := w
  have ha := o3.1.1
  have hL : shD.length = 13 := rfl
  have dl : dk 10 = 133 := rfl
  have d10 := dk_dis (i := a) (j := 10) (by omega) (by omega) (by omega)
  have dr := dk_rng (i := a) (by omega)
  refine ⟨f + dk a, E a, ?_, k2 a (by omega), o5.2.1.1, o5.2.1.2, ⟨by omega, by omega⟩, fun D' S2 q1 q2 s => ?_⟩
  · have := HB.xB k1 (i := 0) (k := 0) rfl rfl
    rw [show F 0 ((0 : Nat) : Int) = (f + dk a : Nat) from o2.1.1, Int.toNat_natCast] at this
    exact this
  · have hb := (k2 a (by omega)).1
    obtain ⟨s4, s5, s6, s7, s8, t1, t3, t4⟩ := s
    simp only [ur, if_neg (show ¬ ((0 : Nat) = 1) by decide), if_neg (show ¬ ((3 : Nat) = 1) by decide), if_neg (show ¬ ((4 : Nat) = 1) by decide)] at s4 s5 s6 s7 s8 t3 t4
    refine ⟨a, b, r, x, F, fun i => if i = a then D' else E i, Q, ⟨k1.other hb (by have : shF.length = 1 := rfl; omega), fun i hi => ?_, k3.other hb (by have : shY.length = 2 := rfl; omega)⟩, ?_, o3, ?_, ?_⟩
    · by_cases e : i = a
      · subst e
        dsimp only
        rw [if_pos rfl]
        exact HB.self hb
      · dsimp only
        rw [if_neg e]
        have := dk_dis hi (j := a) (by omega) e
        exact (k2 i hi).other hb (by omega)
    · unfold KF at o2 ⊢
      rw [s4, s8, s6, s7]
      exact o2
    · unfold KQ at o4 ⊢
      rw [s5]
      exact o4
    · obtain ⟨p1, p2, p4, p5, p6, p7⟩ := o5
      have p3 := o3.2.1
      unfold KE
      rw [s5, s4, t3, t4]
      refine ⟨fun i hi => ?_, ?_, fun B hB => ?_, fun e e0 e1 => ?_, p6, fun g => ?_⟩
      · dsimp only
        by_cases e : i = a
        · rw [if_pos e]; exact q1.pm
        · rw [if_neg e]; exact p1 i hi
      · dsimp only
        rw [if_pos rfl]; exact ⟨q1, q2⟩
      · have := o3.1.2.2
        dsimp only
        rw [if_neg (by omega)]; exact p4 B hB
      · have := p3 ((x - S 0 5 + e) % 8) (by omega) (by omega)
        dsimp only
        rw [if_neg this.2.1]; exact p5 e e0 e1
      · dsimp only
        rw [if_neg (by omega)]; exact p7 g
theorem KX.gO (w : KX Θ f c h S bO) {ρ : Type} {p : Option ρ} : gO Θ h 0 f p = p := by
  obtain ⟨a, b, r, x, F, E, Q, ⟨k1, k2, k3⟩, o⟩ := w
  exact HB.xO k1 (i := 0) rfl
theorem KX.r2 (w : KX Θ f c h S bO) : rA Θ h 0 f 2 = some (f + 27) := by
  obtain ⟨a, b, r, x, F, E, Q, ⟨k1, k2, k3⟩, o, -⟩ := w
  have := HB.xB k1 (i := 0) (k := 2) rfl rfl
  rwa [show F 0 ((2 : Nat) : Int) = (f + 27 : Nat) from o.1.2.2.1, Int.toNat_natCast] at this
theorem KX.r3 (w : KX Θ f c h S bO) : rA Θ h 0 f 3 = some (f + 133) := by
  obtain ⟨a, b, r, x, F, E, Q, ⟨k1, k2, k3⟩, o, -⟩ := w
  have := HB.xB k1 (i := 0) (k := 3) rfl rfl
  rwa [show F 0 ((3 : Nat) : Int) = (f + 133 : Nat) from o.1.2.2.2.1, Int.toNat_natCast] at this
theorem KX.r5 (w : KX Θ f c h S bO) : rA Θ h 0 f 5 = some (f + 146) := by
  obtain ⟨a, b, r, x, F, E, Q, ⟨k1, k2, k3⟩, o, -⟩ := w
  have := HB.xB k1 (i := 0) (k := 5) rfl rfl
  rwa [show F 0 ((5 : Nat) : Int) = (f + 146 : Nat) from o.1.2.2.2.2.1, Int.toNat_natCast] at this
theorem KX.r6 (w : KX Θ f c h S bO) : rA Θ h 0 f 6 = some (f + 151) := by
  obtain ⟨a, b, r, x, F, E, Q, ⟨k1, k2, k3⟩, o, -⟩ := w
  have := HB.xB k1 (i := 0) (k := 6) rfl rfl
  rwa [show F 0 ((6 : Nat) : Int) = (f + 151 : Nat) from o.1.2.2.2.2.2.1, Int.toNat_natCast] at this
theorem KX.r7 (w : KX Θ f c h S bO) : rA Θ h 0 f 7 = some (f + 155) := by
  obtain ⟨a, b, r, x, F, E, Q, ⟨k1, k2, k3⟩, o, -⟩ := w
  have := HB.xB k1 (i := 0) (k := 7) rfl rfl
  rwa [show F 0 ((7 : Nat) : Int) = (f + 155 : Nat) from o.1.2.2.2.2.2.2, Int.toNat_natCast] at this
theorem KX.r4 (w : KX Θ f c h S bO) : rI Θ h 0 f 4 = some (J (S 0 4)) := by
  obtain ⟨a, b, r, x, F, E, Q, ⟨k1, k2, k3⟩, o, -⟩ := w
  rw [← o.2.1]
  exact HB.xI k1 (i := 0) (k := 4) rfl rfl
theorem KX.r8 (w : KX Θ f c h S bO) : rI Θ h 0 f 8 = some (J (krf (S 0 8))) := by
  obtain ⟨a, b, r, x, F, E, Q, ⟨k1, k2, k3⟩, o, -⟩ := w
  rw [← o.2.2.1]
  exact HB.xI k1 (i := 0) (k := 8) rfl rfl
theorem KX.r9 (w : KX Θ f c h S bO) : rI Θ h 0 f 9 = some (J (S 0 6)) := by
  obtain ⟨a, b, r, x, F, E, Q, ⟨k1, k2, k3⟩, o, -⟩ := w
  rw [← o.2.2.2.1]
  exact HB.xI k1 (i := 0) (k := 9) rfl rfl
theorem KX.r10 (w : KX Θ f c h S bO) : rI Θ h 0 f 10 = some (J (S 0 7)) := by
  obtain ⟨a, b, r, x, F, E, Q, ⟨k1, k2, k3⟩, o, -⟩ := w
  rw [← o.2.2.2.2]
  exact HB.xI k1 (i := 0) (k := 10) rfl rfl
theorem KX.ok (w : KX Θ f c h S bO) : In c (S 1) ∧ (0 ≤ S 0 5 ∧ S 0 5 ≤ 8) ∧ (S 0 4 = 0 ∨ S 0 4 = 1) := by
  obtain ⟨a, b, r, x, F, E, Q, o1, o2, o3, o4, o5⟩ := w
  exact ⟨o5.2.1.2, o4.2.2.1, o5.2.2.2.2.1⟩
/-- the face's numbers are written -/
theorem KX.w (w : KX Θ f c h S bO) {i : Nat} {v : Int} (hi : i = 8 ∨ i = 9 ∨ i = 10 ∨ i = 4) (h4 : i = 4 → v = 0) (hs : KF f S2 0 0 (up2 (fun _ j => if j = 0 then (f + dk 0 : Nat) else if j = 1 then (f + dk 0 : Nat) else if j = 2 then (f + 27 : Nat) else if j = 3 then (f + 133 : Nat) else if j = 5 then (f + 146 : Nat) else if j = 6 then (f + 151 : Nat) else if j = 7 then (f + 155 : Nat) else if j = 4 then S 0 4 else if j = 8 then krf (S 0 8) else if j = 9 then S 0 6 else S 0 7) 0 i v)) (s5 : S2 0 5 = S 0 5) (hr : ∀ a : Nat, a ≠ 0 → S2 a = S a) : ∃ h2, wF Θ h 0 f i (.int (J v)) = some h2 ∧ KX Θ f c h2 S2 bO ∧ Nx Θ h h2 (KR f) 0 0 := by
  obtain ⟨a, b, r, x, F, E, Q, ⟨k1, k2, k3⟩, o2, o3, o4, o5⟩ := w
  have hL : shF.length = 1 := rfl
  have hk : (([some none, some none, some none, some none, none, some none, some none, some none, none, none, none] : List (Option (Option Nat)))[i]?) = some none := by rcases hi with rfl | rfl | rfl | rfl <;> rfl
  have hw := HB.xF k1 (i := 0) (ci := 0) (k := i) (w := v) rfl hk
  refine ⟨_, hw, ?_, (Nx.bk k1).wid (fun x _ p => ⟨p.1, by have := p.2; omega⟩) (Nat.le_refl _) (Nat.le_refl _)⟩
  refine ⟨a, b, r, x, up2 F 0 i v, E, Q, ⟨HB.self k1.1, fun q hq => (k2 q hq).other k1.1 ?_, k3.other k1.1 (by omega)⟩, ?_, o3, ?_, ?_⟩
  · have := dk_rng hq
    omega
  · unfold KF at hs o2 ⊢
    rcases hi with rfl | rfl | rfl | rfl <;> simp [up2_at] at hs o2 ⊢ <;> simp_all
  · unfold KQ at o4 ⊢
    rw [s5]
    exact o4
  · obtain ⟨p1, p2, p4, p5, p6, p7⟩ := o5
    have g4 : S2 0 4 = S 0 4 ∨ S2 0 4 = 0 := by
      have := hs.2.1
      rcases hi with rfl | rfl | rfl | rfl <;> simp [up2_at] at this
      · exact Or.inl this.symm
      · exact Or.inl this.symm
      · exact Or.inl this.symm
      · rw [h4 rfl] at this
        exact Or.inr this.symm
    unfold KE
    rw [hr 1 (by decide), s5, hr 4 (by decide), hr 3 (by decide)]
    refine ⟨p1, p2, p4, p5, ?_, fun g => p7 ?_⟩
    · rcases g4 with g | g <;> omega
    · rcases g4 with g | g <;> omega
end KX
