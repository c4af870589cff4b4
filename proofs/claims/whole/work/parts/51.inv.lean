/-! WHAT STANDS BETWEEN CALLS -/
def xTx (h : Hp) : Prop := zV h 82 1 = zV h 129 9 ∧ 0 ≤ zV h 82 1 ∧ zV h 82 1 ≤ 100 ∧ ∀ k, k < 100 → zV h 83 k = zV h 136 k ∧ 0 ≤ zV h 83 k ∧ zV h 83 k ≤ 127
def xTp1 (h : Hp) (t : Nat) : Prop := zV h (117 + 2 * t) 1 = zV h 159 t ∧ zV h (117 + 2 * t) 2 = zV h 160 t ∧ -1 ≤ zV h 159 t ∧ zV h 159 t ≤ 4 ∧ 0 ≤ zV h 160 t ∧ zV h 160 t ≤ 60 ∧ (zV h 159 t = -1 → zV h 160 t = 0) ∧ ∀ k : Nat, (k : Int) < zV h 160 t → zJ h (117 + 2 * t + 1) k = zJ h 161 (60 * t + k)
def xTp (h : Hp) : Prop := ∀ t : Nat, t < 6 → xTp1 h t
def xAc (h : Hp) : Prop := zV h 86 1 = zV h 129 36 ∧ 0 ≤ zV h 86 1 ∧ zV h 86 1 ≤ 100000 ∧ ∀ k : Nat, k < 20 → (k : Int) < zV h 86 1 → zV h 87 k = zV h 152 k
def xIm (h : Hp) : Prop := zV h 32 4 = zV h 129 38 ∧ (zV h 32 4 = 0 ∨ (zV h 32 4 = 1 ∧ hvC h 67 = hvI h 153 ∧ Rg 9999 (hvC h 67) ∧ hvC h 67 0 6 < zV h 129 15))
/-- the state of the heads, in both -/
def xNw (h : Hp) : Prop := hvC h 37 = hvM h ∧ Rg 9999 (hvM h) ∧ hvM h 0 6 < zV h 129 15
def xShp (h : Hp) : Prop := zV h 32 7 = zV h 129 15 ∧ 0 ≤ zV h 129 23 ∧ zV h 129 23 ≤ 100 * zV h 129 15 ∧ ∀ j i : Nat, (j : Int) < zV h 129 15 → (i : Int) < zV h 137 j → zV h 140 (10 * j + i) + zV h 141 (10 * j + i) ≤ zV h 129 23
def Inv (zl : Nat) (nl : Option Nat) (xs : Nat → Int) (h : Hp) : Prop := yWF zl nl h ∧ xST h ∧ xNw h ∧ xShp h ∧ xTx h ∧ xTp h ∧ xAc h ∧ xIm h ∧ ∀ k, zV h 0 k = xs k
section XIN
variable {zl : Nat} {nl : Option Nat} {xs : Nat → Int} {h h' h2 : Hp} {d : Nat} {K : Int → Hp → Prop} {U : Hp → Prop} {a n s b j k i : Nat} {x y z B : Int} {M : Nat → Nat → Prop}
theorem Inv.w (I : Inv zl nl xs h) : yWF zl nl h := I.1
theorem Inv.st (I : Inv zl nl xs h) : xST h := I.2.1
theorem Inv.nw (I : Inv zl nl xs h) : xNw h := I.2.2.1
theorem Inv.sh (I : Inv zl nl xs h) : xShp h := I.2.2.2.1
theorem Inv.tx (I : Inv zl nl xs h) : xTx h := I.2.2.2.2.1
theorem Inv.tp (I : Inv zl nl xs h) : xTp h := I.2.2.2.2.2.1
theorem Inv.ac (I : Inv zl nl xs h) : xAc h := I.2.2.2.2.2.2.1
theorem Inv.im (I : Inv zl nl xs h) : xIm h := I.2.2.2.2.2.2.2.1
theorem Inv.xss (I : Inv zl nl xs h) : ∀ k, zV h 0 k = xs k := I.2.2.2.2.2.2.2.2
theorem Inv.v (I : Inv zl nl xs h) : hvC h 37 = hvM h := I.nw.1
theorem Inv.rg (I : Inv zl nl xs h) : Rg 9999 (hvM h) := I.nw.2.1
theorem Inv.mo (I : Inv zl nl xs h) : xMO 9999 h := ⟨I.st, I.nw.2.1, I.nw.2.2⟩
theorem Inv.rgC (I : Inv zl nl xs h) : Rg 9999 (hvC h 37) := by rw [I.v]; exact I.rg
/-- the parts that speak of cells -/
theorem xTx_fr (f : Fr M h h2) (e : ∀ b k, (b = 82 ∧ k = 1) ∨ (b = 129 ∧ k = 9) ∨ (b = 83 ∧ k < 100) ∨ (b = 136 ∧ k < 100) → ¬ M b k) (t : xTx h) : xTx h2 := by
  obtain ⟨t1, t2, t3, t4⟩ := t
  unfold xTx
  rw [f.V 82 1 (e _ _ (by omega)), f.V 129 9 (e _ _ (by omega))]
  refine ⟨t1, t2, t3, fun k hk => ?_⟩
  rw [f.V 83 k (e _ _ (by omega)), f.V 136 k (e _ _ (by omega))]
  exact t4 k hk
theorem xTp_fr (f : Fr M h h2) (e : ∀ b k, (117 ≤ b ∧ b ≤ 128) ∨ ((b = 159 ∨ b = 160) ∧ k < 6) → ¬ M b k) (t : xTp h) : xTp h2 := by
  intro i hi
  have t := t i hi
  unfold xTp1 at t ⊢
  rw [f.V (117 + 2 * i) 1 (e _ _ (by omega)), f.V (117 + 2 * i) 2 (e _ _ (by omega)), f.V 159 i (e _ _ (by omega)), f.V 160 i (e _ _ (by omega)), f.J]
  exact t
theorem xAc_fr (f : Fr M h h2) (e : ∀ b k, (b = 86 ∧ k = 1) ∨ (b = 129 ∧ k = 36) ∨ (b = 87 ∧ k < 20) ∨ (b = 152 ∧ k < 20) → ¬ M b k) (t : xAc h) : xAc h2 := by
  obtain ⟨t1, t2, t3, t4⟩ := t
  unfold xAc
  rw [f.V 86 1 (e _ _ (by omega)), f.V 129 36 (e _ _ (by omega))]
  refine ⟨t1, t2, t3, fun k hk hk2 => ?_⟩
  rw [f.V 87 k (e _ _ (by omega)), f.V 152 k (e _ _ (by omega))]
  exact t4 k hk hk2
theorem xIm_fr (f : Fr M h h2) (e : ∀ b k, (b = 32 ∧ k = 4) ∨ (b = 129 ∧ (k = 38 ∨ k = 15)) ∨ (67 ≤ b ∧ b ≤ 81 ∧ b ≠ 73) ∨ (b = 153 ∧ k < 149) → ¬ M b k) (t : xIm h) : xIm h2 := by
  obtain ⟨t1, t2⟩ := t
  have v1 : hvC h2 67 = hvC h 67 := f.hvC (fun b i q1 q2 q3 q4 => e b i (by omega)) (by decide) (by decide)
  have v2 : hvI h2 153 = hvI h 153 := hvI_fr fun i hi => f.V 153 i (e _ _ (by omega))
  unfold xIm
  rw [f.V 32 4 (e _ _ (by omega)), f.V 129 38 (e _ _ (by omega)), f.V 129 15 (e _ _ (by omega)), v1, v2]
  exact ⟨t1, t2⟩
theorem xShp_fr (f : Fr M h h2) (e : ∀ b k, (b = 32 ∧ k = 7) ∨ (b = 129 ∧ (k = 23 ∨ k = 15)) ∨ (137 ≤ b ∧ b ≤ 141) → ¬ M b k) (t : xShp h) : xShp h2 := by
  obtain ⟨t1, t2, t3, t4⟩ := t
  unfold xShp
  rw [f.V 32 7 (e _ _ (by omega)), f.V 129 23 (e _ _ (by omega)), f.V 129 15 (e _ _ (by omega))]
  refine ⟨t1, t2, t3, fun j i hj hi => ?_⟩
  rw [f.V 137 j (e _ _ (by omega))] at hi
  rw [f.V 140 (10 * j + i) (e _ _ (by omega)), f.V 141 (10 * j + i) (e _ _ (by omega))]
  exact t4 j i hj hi
theorem xNw_fr (f : Fr M h h2) (e : ∀ b k, (b = 129 ∧ k = 15) ∨ (37 ≤ b ∧ b ≤ 51 ∧ b ≠ 43) ∨ xOM b k → ¬ M b k) (t : xNw h) : xNw h2 := by
  have v1 : hvC h2 37 = hvC h 37 := f.hvC (fun b i q1 q2 q3 q4 => e b i (by omega)) (by decide) (by decide)
  have v2 : hvM h2 = hvM h := f.hvM (fun b i q => e b i (Or.inr (Or.inr q)))
  unfold xNw
  rw [v1, v2, f.V 129 15 (e _ _ (by omega))]
  exact t
/-- a question leaves all as it is -/
theorem Inv.sc (I : Inv zl nl xs h) (w2 : yWF zl nl h2) (f : Fr xSc h h2) : Inv zl nl xs h2 := by
  refine ⟨w2, f.scST I.st, xNw_fr f (fun b k q => ?_) I.nw, xShp_fr f (fun b k q => ?_) I.sh, xTx_fr f (fun b k q => ?_) I.tx, xTp_fr f (fun b k q => ?_) I.tp, xAc_fr f (fun b k q => ?_) I.ac, xIm_fr f (fun b k q => ?_) I.im, fun k => ?_⟩
  · unfold xOM at q; unfold xSc; omega
  · unfold xSc; omega
  · unfold xSc; omega
  · unfold xSc; omega
  · unfold xSc; omega
  · unfold xSc; omega
  · rw [f.V 0 k (by unfold xSc; omega)]
    exact I.xss k
theorem Inv.rf (I : Inv zl nl xs h) : Inv zl nl xs h := I
theorem fF (I : Inv zl nl xs h) (f : Fr xSc h h2) : xF h2 = xF h := f.scF I.st
end XIN
