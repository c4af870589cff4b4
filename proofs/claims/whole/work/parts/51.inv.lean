/-! WHAT STANDS BETWEEN CALLS -/
def xTx (h : Hp) : Prop := zV h 90 1 = zV h 137 9 ∧ 0 ≤ zV h 90 1 ∧ zV h 90 1 ≤ 100 ∧ ∀ k, k < 100 → zV h 91 k = zV h 144 k ∧ 0 ≤ zV h 91 k ∧ zV h 91 k ≤ 127
def xTp1 (h : Hp) (t : Nat) : Prop := zV h (125 + 2 * t) 1 = zV h 167 t ∧ zV h (125 + 2 * t) 2 = zV h 168 t ∧ -1 ≤ zV h 167 t ∧ zV h 167 t ≤ 4 ∧ 0 ≤ zV h 168 t ∧ zV h 168 t ≤ 60 ∧ (zV h 167 t = -1 → zV h 168 t = 0) ∧ ∀ k : Nat, (k : Int) < zV h 168 t → zJ h (125 + 2 * t + 1) k = zJ h 169 (60 * t + k)
def xTp (h : Hp) : Prop := ∀ t : Nat, t < 6 → xTp1 h t
def xAc (h : Hp) : Prop := zV h 94 1 = zV h 137 36 ∧ 0 ≤ zV h 94 1 ∧ zV h 94 1 ≤ 100000 ∧ ∀ k : Nat, k < 20 → (k : Int) < zV h 94 1 → zV h 95 k = zV h 160 k
def xIm (h : Hp) : Prop := zV h 32 3 = zV h 137 38 ∧ (zV h 32 3 = 0 ∨ (zV h 32 3 = 1 ∧ hvC h 71 = hvI h 161 ∧ Rg 9999 (hvC h 71) ∧ hvC h 71 0 6 < zV h 137 15))
/-- the state of the heads, in both -/
def xNw (h : Hp) : Prop := hvC h 33 = hvM h ∧ Rg 9999 (hvM h) ∧ hvM h 0 6 < zV h 137 15
def xShp (h : Hp) : Prop := zV h 32 6 = zV h 137 15 ∧ 0 ≤ zV h 137 23 ∧ zV h 137 23 ≤ 100 * zV h 137 15 ∧ ∀ j i : Nat, (j : Int) < zV h 137 15 → (i : Int) < zV h 145 j → zV h 148 (10 * j + i) + zV h 149 (10 * j + i) ≤ zV h 137 23
def Inv (zl : Nat) (nl : Option Nat) (xs : Nat → Int) (h : Hp) : Prop := yWF zl nl h ∧ xST h ∧ xNw h ∧ xShp h ∧ xTx h ∧ xTp h ∧ xAc h ∧ xIm h ∧ ∀ k, zV h 0 k = xs k
section XIN
variable {zl : Nat} {nl : Option Nat} {xs : Nat → Int} {h h' h2 : Hp} {d : Nat} {K : Int → Hp → Prop} {U : Hp → Prop} {a n s b j k i : Nat} {x y z B : Int} {M : Nat → Nat → Prop}
theorem Inv.w (I : Inv zl nl xs h) : yWF zl nl h := I.1
theorem Inv.st (I : Inv zl nl xs h) : xST h := I.2.1
theorem Inv.nw (I : Inv zl nl xs h) : xNw h := I.2.2.1
theorem Inv.sh (I : Inv zl nl xs h) : xShp h := I.2.2.2.1
theorem Inv.tx (I : Inv zl nl xs h) : xTx h := I.2.2.2.2.1
theorem Inv.tp (I : Inv zl nl xs h) : xTp h := I.2.2.2.2.2.1
theorem Inv.ac (I : Inv zl nl xs h) : xAc h := I.2.2.2.2.2.2.1
theorem Inv.im (I : Inv zl nl xs h) : xIm h := I.2.2.2.2.2.2.2.1
theorem Inv.xss (I : Inv zl nl xs h) : ∀ k, zV h 0 k = xs k := I.2.2.2.2.2.2.2.2
theorem Inv.v (I : Inv zl nl xs h) : hvC h 33 = hvM h := I.nw.1
theorem Inv.rg (I : Inv zl nl xs h) : Rg 9999 (hvM h) := I.nw.2.1
theorem Inv.mo (I : Inv zl nl xs h) : xMO 9999 h := ⟨I.st, I.nw.2.1, I.nw.2.2⟩
theorem Inv.rgC (I : Inv zl nl xs h) : Rg 9999 (hvC h 33) := by rw [I.v]; exact I.rg
/-- the parts that speak of cells -/
theorem xTx_fr (f : Fr M h h2) (e : ∀ b k, (b = 90 ∧ k = 1) ∨ (b = 137 ∧ k = 9) ∨ (b = 91 ∧ k < 100) ∨ (b = 144 ∧ k < 100) → ¬ M b k) (t : xTx h) : xTx h2 := by
  obtain ⟨t1, t2, t3, t4⟩ := t
  unfold xTx
  rw [f.V 90 1 (e _ _ (by omega)), f.V 137 9 (e _ _ (by omega))]
  refine ⟨t1, t2, t3, fun k hk => ?_⟩
  rw [f.V 91 k (e _ _ (by omega)), f.V 144 k (e _ _ (by omega))]
  exact t4 k hk
theorem xTp_fr (f : Fr M h h2) (e : ∀ b k, (125 ≤ b ∧ b ≤ 136) ∨ ((b = 167 ∨ b = 168) ∧ k < 6) → ¬ M b k) (t : xTp h) : xTp h2 := by
  intro i hi
  have t := t i hi
  unfold xTp1 at t ⊢
  rw [f.V (125 + 2 * i) 1 (e _ _ (by omega)), f.V (125 + 2 * i) 2 (e _ _ (by omega)), f.V 167 i (e _ _ (by omega)), f.V 168 i (e _ _ (by omega)), f.J]
  exact t
theorem xAc_fr (f : Fr M h h2) (e : ∀ b k, (b = 94 ∧ k = 1) ∨ (b = 137 ∧ k = 36) ∨ (b = 95 ∧ k < 20) ∨ (b = 160 ∧ k < 20) → ¬ M b k) (t : xAc h) : xAc h2 := by
  obtain ⟨t1, t2, t3, t4⟩ := t
  unfold xAc
  rw [f.V 94 1 (e _ _ (by omega)), f.V 137 36 (e _ _ (by omega))]
  refine ⟨t1, t2, t3, fun k hk hk2 => ?_⟩
  rw [f.V 95 k (e _ _ (by omega)), f.V 160 k (e _ _ (by omega))]
  exact t4 k hk hk2
theorem xIm_fr (f : Fr M h h2) (e : ∀ b k, (b = 32 ∧ k = 3) ∨ (b = 137 ∧ (k = 38 ∨ k = 15)) ∨ (71 ≤ b ∧ b ≤ 85 ∧ b ≠ 77) ∨ (b = 161 ∧ k < 149) → ¬ M b k) (t : xIm h) : xIm h2 := by
  obtain ⟨t1, t2⟩ := t
  have v1 : hvC h2 71 = hvC h 71 := f.hvC (fun b i q1 q2 q3 q4 => e b i (by omega)) (by decide) (by decide)
  have v2 : hvI h2 161 = hvI h 161 := hvI_fr fun i hi => f.V 161 i (e _ _ (by omega))
  unfold xIm
  rw [f.V 32 3 (e _ _ (by omega)), f.V 137 38 (e _ _ (by omega)), f.V 137 15 (e _ _ (by omega)), v1, v2]
  exact ⟨t1, t2⟩
theorem xShp_fr (f : Fr M h h2) (e : ∀ b k, (b = 32 ∧ k = 6) ∨ (b = 137 ∧ (k = 23 ∨ k = 15)) ∨ (145 ≤ b ∧ b ≤ 149) → ¬ M b k) (t : xShp h) : xShp h2 := by
  obtain ⟨t1, t2, t3, t4⟩ := t
  unfold xShp
  rw [f.V 32 6 (e _ _ (by omega)), f.V 137 23 (e _ _ (by omega)), f.V 137 15 (e _ _ (by omega))]
  refine ⟨t1, t2, t3, fun j i hj hi => ?_⟩
  rw [f.V 145 j (e _ _ (by omega))] at hi
  rw [f.V 148 (10 * j + i) (e _ _ (by omega)), f.V 149 (10 * j + i) (e _ _ (by omega))]
  exact t4 j i hj hi
theorem xNw_fr (f : Fr M h h2) (e : ∀ b k, (b = 137 ∧ k = 15) ∨ (33 ≤ b ∧ b ≤ 47 ∧ b ≠ 39) ∨ xOM b k → ¬ M b k) (t : xNw h) : xNw h2 := by
  have v1 : hvC h2 33 = hvC h 33 := f.hvC (fun b i q1 q2 q3 q4 => e b i (by omega)) (by decide) (by decide)
  have v2 : hvM h2 = hvM h := f.hvM (fun b i q => e b i (Or.inr (Or.inr q)))
  unfold xNw
  rw [v1, v2, f.V 137 15 (e _ _ (by omega))]
  exact t
/-- a question leaves all as it is -/
theorem Inv.sc (I : Inv zl nl xs h) (w2 : yWF zl nl h2) (f : Fr xSc h h2) : Inv zl nl xs h2 := by
  refine ⟨w2, f.scST I.st, xNw_fr f (fun b k q => ?_) I.nw, xShp_fr f (fun b k q => ?_) I.sh, xTx_fr f (fun b k q => ?_) I.tx, xTp_fr f (fun b k q => ?_) I.tp, xAc_fr f (fun b k q => ?_) I.ac, xIm_fr f (fun b k q => ?_) I.im, fun k => ?_⟩
  · unfold xOM at q; unfold xSc; omega
  · unfold xSc; omega
  · unfold xSc; omega
  · unfold xSc; omega
  · unfold xSc; omega
  · unfold xSc; omega
  · rw [f.V 0 k (by unfold xSc; omega)]
    exact I.xss k
theorem Inv.rf (I : Inv zl nl xs h) : Inv zl nl xs h := I
theorem fF (I : Inv zl nl xs h) (f : Fr xSc h h2) : xF h2 = xF h := f.scF I.st
end XIN
