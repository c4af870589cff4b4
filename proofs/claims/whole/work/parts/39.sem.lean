/-! FRAMES (printed by wip/whole/gen_sem.py): outside of M nothing has changed -/
def Fr (M : Nat → Nat → Prop) (h h' : Hp) : Prop := zS h' = zS h ∧ zJ h' = zJ h ∧ zN h' = zN h ∧ zM h' = zM h ∧ (∀ a k, ¬ (a = 52 ∧ k = 12) → ¬ (a = 90 ∧ k = 4) → zP h' a k = zP h a k) ∧ ∀ b k, ¬ M b k → zV h' b k = zV h b k
section XFR
variable {M M' : Nat → Nat → Prop} {h h2 h3 : Hp} {zl : Nat} {nl : Option Nat} {a b k s : Nat} {x : Int}
theorem Fr.rfl' : Fr M h h := ⟨rfl, rfl, rfl, rfl, fun _ _ _ _ => rfl, fun _ _ _ => rfl⟩
theorem Fr.trans (f : Fr M h h2) (g : Fr M h2 h3) : Fr M h h3 := by
  obtain ⟨a1, a2, a3, a4, a5, a6⟩ := f
  obtain ⟨b1, b2, b3, b4, b5, b6⟩ := g
  exact ⟨b1.trans a1, b2.trans a2, b3.trans a3, b4.trans a4, fun a k p q => (b5 a k p q).trans (a5 a k p q), fun b k p => (b6 b k p).trans (a6 b k p)⟩
theorem Fr.mono (f : Fr M h h2) (m : ∀ b k, M b k → M' b k) : Fr M' h h2 := by
  obtain ⟨a1, a2, a3, a4, a5, a6⟩ := f
  exact ⟨a1, a2, a3, a4, a5, fun b k p => a6 b k (fun q => p (m b k q))⟩
theorem Fr.V (f : Fr M h h2) (b k : Nat) (p : ¬ M b k) : zV h2 b k = zV h b k := f.2.2.2.2.2 b k p
theorem Fr.P (f : Fr M h h2) (a k : Nat) (p : ¬ (a = 52 ∧ k = 12)) (q : ¬ (a = 90 ∧ k = 4)) : zP h2 a k = zP h a k := f.2.2.2.2.1 a k p q
theorem Fr.J (f : Fr M h h2) : zJ h2 = zJ h := f.2.1
theorem Fr.set (p : M b k) : Fr M h (zsetV h b k x) := by
  refine ⟨rfl, rfl, rfl, rfl, fun _ _ _ _ => rfl, fun c j q => ?_⟩
  rw [zV_V, if_neg]
  rintro ⟨rfl, rfl⟩
  exact q p
theorem ySm.fr (m : ySm h h2) : Fr (fun b _ => ySc b) h h2 := by
  obtain ⟨⟨a1, a2, a3, a4, a5⟩, a6⟩ := id m
  exact ⟨a1, a2, a4, a5, fun a k _ _ => by rw [a3], fun b k p => m.V p k⟩
theorem Fr.wf (w : yWF zl nl h) (f : Fr M h h2) (e : ∃ s, zP h2 52 12 = some s ∧ ySh s) : yWF zl nl h2 := by
  obtain ⟨a1, a2, a3, a4, a5, a6⟩ := f
  obtain ⟨w1, w2, w3, w4, w5⟩ := w
  refine ⟨a1.trans w1, fun a k q => ?_, fun a q => ?_, a3.trans w4, a4.trans w5⟩
  · have q1 : ¬ (a = 52 ∧ k = 12) := by rintro ⟨rfl, rfl⟩; cases q
    have q2 : ¬ (a = 90 ∧ k = 4) := by rintro ⟨rfl, rfl⟩; cases q
    rw [a5 a k q1 q2]
    exact w2 a k q
  · rcases q with rfl | rfl | rfl
    · rw [a5 33 12 (by omega) (by omega)]
      exact w3 33 (Or.inl rfl)
    · exact e
    · rw [a5 71 12 (by omega) (by omega)]
      exact w3 71 (Or.inr (Or.inr rfl))
theorem Fr.wfp (w : yWF zl nl h) (f : Fr M h h2) (e : zP h2 52 12 = zP h 52 12) : yWF zl nl h2 := f.wf w (by rw [e]; exact w.2.2.1 52 (Or.inr (Or.inl rfl)))
theorem Fr.hvC (f : Fr M h h2) (e : ∀ b i, a ≤ b → b ≤ a + 14 → b ≠ a + 6 → (b = a → i = 10 ∨ i = 11) → ¬ M b i) (h5 : a ≠ 52) (h8 : a ≠ 90) : hvC h2 a = hvC h a :=
  hvC_fr (fun b i q1 q2 q3 q4 => f.V b i (e b i q1 q2 q3 q4)) (f.P a 12 (by omega) (by omega))
theorem Fr.hvM (f : Fr M h h2) (e : ∀ b i, xOM b i → ¬ M b i) : hvM h2 = hvM h := hvM_fr (fun b i q => f.V b i (e b i q))
end XFR
/-- what a question may leave otherwise -/
def xSc (b k : Nat) : Prop := b = 39 ∨ (52 ≤ b ∧ b ≤ 66) ∨ b = 77 ∨ (96 ≤ b ∧ b ≤ 100) ∨ (b = 90 ∧ (k = 2 ∨ k = 3)) ∨ (b = 94 ∧ (k = 2 ∨ k = 3 ∨ k = 4)) ∨ b = 151 ∨ (162 ≤ b ∧ b ≤ 166) ∨ (b = 137 ∧ (k = 11 ∨ k = 12 ∨ k = 13 ∨ k = 14 ∨ k = 45)) ∨ ((b = 138 ∨ b = 139 ∨ b = 141) ∧ 6 ≤ k) ∨ (b = 140 ∧ 36 ≤ k) ∨ (b = 142 ∧ 24 ≤ k) ∨ ((b = 143 ∨ b = 158 ∨ b = 159) ∧ 8 ≤ k) ∨ (152 ≤ b ∧ b ≤ 155 ∧ 5 ≤ k) ∨ ((b = 156 ∨ b = 157) ∧ 10 ≤ k)
/-! WHAT IT MEANS, of a view σ; F: what a shop adds, G: by how many years it grows -/
def xfact (σ : Vw) (p i : Int) (j : Nat) : Int := match j with
  | 0 => p
  | 1 => σ 1 p.toNat
  | 2 => σ 2 p.toNat
  | 3 => i
  | 4 => σ 4 (6 * p + i).toNat
  | 5 => zrem (σ 0 1) 10
  | _ => 0
def xpit (F : Int → (Nat → Int) → Int) (σ : Vw) (p i : Int) : Int := ypit (σ 1 p.toNat) (σ 2 p.toNat) i (zw (σ 4 (6 * p + i).toNat + F (σ 0 6) (xfact σ p i))) (σ 3 p.toNat) (σ 5 (4 * p + σ 0 1 % 4).toNat)
def xN (F : Int → (Nat → Int) → Int) (σ : Vw) (p i : Int) : Int := ydig (xpit F σ p i)
def xsnd (F : Int → (Nat → Int) → Int) (σ : Vw) (p : Int) : Int := ysnd (xN F σ p) 6
def xsh (ho : Int) : Nat := if ho < 0 ∨ 5 < ho then (if ho = -2 then 67 else if ho = -3 then 86 else 48) else 101 + 4 * ho.toNat
def xF (h : Hp) (ho : Int) (f : Nat → Int) : Int := ysharp (zV h) (xsh ho) f
def xG (h : Hp) (ho : Int) : Int := zV h (xsh ho) 4
/-- all shops' cells are in order -/
def xSO (h : Hp) : Prop := ∀ s, ySh s → yShopOk (zV h) s
noncomputable def xlst (P : Nat → Prop) : Nat → Nat → Int
  | 0, _ => -5
  | n + 1, i => @ite _ (P i) (Classical.propDecidable _) (i : Int) (xlst P n (i + 1))
noncomputable def xgrt (P : Nat → Prop) : Nat → Int
  | 0 => 0
  | n + 1 => @ite _ (P (n + 1)) (Classical.propDecidable _) ((n + 1 : Nat) : Int) (xgrt P n)
theorem xlst_t {P : Nat → Prop} {n i : Nat} (c : P i) : xlst P (n + 1) i = (i : Int) := if_pos c
theorem xlst_f {P : Nat → Prop} {n i : Nat} (c : ¬ P i) : xlst P (n + 1) i = xlst P n (i + 1) := if_neg c
theorem xgrt_t {P : Nat → Prop} {n : Nat} (c : P (n + 1)) : xgrt P (n + 1) = ((n + 1 : Nat) : Int) := if_pos c
theorem xgrt_f {P : Nat → Prop} {n : Nat} (c : ¬ P (n + 1)) : xgrt P (n + 1) = xgrt P n := if_neg c
/-- THE TUNE lies in a HEAD's SOUND from a place on -/
def xmt (F : Int → (Nat → Int) → Int) (σ : Vw) (p : Int) (i : Nat) : Prop := ∀ k : Nat, (k : Int) < σ 0 2 → xN F σ p ((i + k : Nat) : Int) = σ 6 k
noncomputable def xhd (F : Int → (Nat → Int) → Int) (σ : Vw) (p : Int) : Int := xlst (xmt F σ p) (7 - σ 0 2).toNat 0
/-- with how many the one ends and the other begins -/
noncomputable def xshr (f g : Int → Int) : Int := xgrt (fun n => ∀ k : Nat, k < n → f ((6 - n + k : Nat) : Int) = g (k : Int)) 6
/-- all numbers are as told; years and ages at most B -/
def Rg (B : Int) (σ : Vw) : Prop := (0 ≤ σ 0 0 ∧ σ 0 0 ≤ 6) ∧ (0 ≤ σ 0 1 ∧ σ 0 1 ≤ B) ∧ (0 ≤ σ 0 2 ∧ σ 0 2 ≤ 8) ∧ (0 ≤ σ 0 3 ∧ σ 0 3 ≤ 5) ∧ (0 ≤ σ 0 4 ∧ σ 0 4 ≤ 10) ∧ (0 ≤ σ 0 5 ∧ σ 0 5 ≤ 8) ∧ (-1 ≤ σ 0 6 ∧ σ 0 6 ≤ 5) ∧ (∀ k, 0 ≤ σ 1 k ∧ σ 1 k ≤ 6) ∧ (∀ k, 0 ≤ σ 2 k ∧ σ 2 k ≤ 9) ∧ (∀ k, 0 ≤ σ 3 k ∧ σ 3 k ≤ B) ∧ (∀ k, 0 ≤ σ 4 k ∧ σ 4 k ≤ 9) ∧ (∀ k, 0 ≤ σ 5 k ∧ σ 5 k ≤ 9) ∧ (∀ k, 0 ≤ σ 6 k ∧ σ 6 k ≤ 9) ∧ (∀ k, 0 ≤ σ 7 k ∧ σ 7 k ≤ 3) ∧ (∀ k, 0 ≤ σ 8 k ∧ σ 8 k ≤ 5) ∧ (∀ k, 0 ≤ σ 9 k ∧ σ 9 k ≤ 5) ∧ (∀ k, 0 ≤ σ 10 k ∧ σ 10 k ≤ 9999) ∧ (∀ k, 0 ≤ σ 11 k ∧ σ 11 k ≤ 5) ∧ (∀ k, 0 ≤ σ 12 k ∧ σ 12 k ≤ 5) ∧ (∀ k, 0 ≤ σ 13 k ∧ σ 13 k ≤ 12) ∧ (∀ k, 0 ≤ σ 14 k ∧ σ 14 k ≤ 9) ∧ (∀ r : Nat, (r : Int) < σ 0 5 → σ 9 r < σ 0 0)
section XRG
variable {B B' : Int} {σ : Vw} {k : Nat} {x : Int}
theorem Rg.sz (r : Rg B σ) : (0 ≤ σ 0 0 ∧ σ 0 0 ≤ 6) := r.1
theorem Rg.yr (r : Rg B σ) : (0 ≤ σ 0 1 ∧ σ 0 1 ≤ B) := r.2.1
theorem Rg.tn (r : Rg B σ) : (0 ≤ σ 0 2 ∧ σ 0 2 ≤ 8) := r.2.2.1
theorem Rg.sn (r : Rg B σ) : (0 ≤ σ 0 3 ∧ σ 0 3 ≤ 5) := r.2.2.2.1
theorem Rg.pn (r : Rg B σ) : (0 ≤ σ 0 4 ∧ σ 0 4 ≤ 10) := r.2.2.2.2.1
theorem Rg.bn (r : Rg B σ) : (0 ≤ σ 0 5 ∧ σ 0 5 ≤ 8) := r.2.2.2.2.2.1
theorem Rg.ho (r : Rg B σ) : (-1 ≤ σ 0 6 ∧ σ 0 6 ≤ 5) := r.2.2.2.2.2.2.1
theorem Rg.kd (r : Rg B σ) : (∀ k, 0 ≤ σ 1 k ∧ σ 1 k ≤ 6) := r.2.2.2.2.2.2.2.1
theorem Rg.vs (r : Rg B σ) : (∀ k, 0 ≤ σ 2 k ∧ σ 2 k ≤ 9) := r.2.2.2.2.2.2.2.2.1
theorem Rg.ag (r : Rg B σ) : (∀ k, 0 ≤ σ 3 k ∧ σ 3 k ≤ B) := r.2.2.2.2.2.2.2.2.2.1
theorem Rg.bu (r : Rg B σ) : (∀ k, 0 ≤ σ 4 k ∧ σ 4 k ≤ 9) := r.2.2.2.2.2.2.2.2.2.2.1
theorem Rg.rw (r : Rg B σ) : (∀ k, 0 ≤ σ 5 k ∧ σ 5 k ≤ 9) := r.2.2.2.2.2.2.2.2.2.2.2.1
theorem Rg.tu (r : Rg B σ) : (∀ k, 0 ≤ σ 6 k ∧ σ 6 k ≤ 9) := r.2.2.2.2.2.2.2.2.2.2.2.2.1
theorem Rg.pw (r : Rg B σ) : (∀ k, 0 ≤ σ 7 k ∧ σ 7 k ≤ 3) := r.2.2.2.2.2.2.2.2.2.2.2.2.2.1
theorem Rg.ph (r : Rg B σ) : (∀ k, 0 ≤ σ 8 k ∧ σ 8 k ≤ 5) := r.2.2.2.2.2.2.2.2.2.2.2.2.2.2.1
theorem Rg.bh (r : Rg B σ) : (∀ k, 0 ≤ σ 9 k ∧ σ 9 k ≤ 5) := r.2.2.2.2.2.2.2.2.2.2.2.2.2.2.2.1
theorem Rg.ba (r : Rg B σ) : (∀ k, 0 ≤ σ 10 k ∧ σ 10 k ≤ 9999) := r.2.2.2.2.2.2.2.2.2.2.2.2.2.2.2.2.1
theorem Rg.s1 (r : Rg B σ) : (∀ k, 0 ≤ σ 11 k ∧ σ 11 k ≤ 5) := r.2.2.2.2.2.2.2.2.2.2.2.2.2.2.2.2.2.1
theorem Rg.s2 (r : Rg B σ) : (∀ k, 0 ≤ σ 12 k ∧ σ 12 k ≤ 5) := r.2.2.2.2.2.2.2.2.2.2.2.2.2.2.2.2.2.2.1
theorem Rg.s3 (r : Rg B σ) : (∀ k, 0 ≤ σ 13 k ∧ σ 13 k ≤ 12) := r.2.2.2.2.2.2.2.2.2.2.2.2.2.2.2.2.2.2.2.1
theorem Rg.s4 (r : Rg B σ) : (∀ k, 0 ≤ σ 14 k ∧ σ 14 k ≤ 9) := r.2.2.2.2.2.2.2.2.2.2.2.2.2.2.2.2.2.2.2.2.1
theorem Rg.bl (r : Rg B σ) : (∀ r : Nat, (r : Int) < σ 0 5 → σ 9 r < σ 0 0) := r.2.2.2.2.2.2.2.2.2.2.2.2.2.2.2.2.2.2.2.2.2
theorem Rg.mono (r : Rg B σ) (hB : B ≤ B') : Rg B' σ := ⟨r.sz, ⟨r.yr.1, Int.le_trans r.yr.2 hB⟩, r.tn, r.sn, r.pn, r.bn, r.ho, r.kd, r.vs, fun k => ⟨(r.ag k).1, Int.le_trans (r.ag k).2 hB⟩, r.bu, r.rw, r.tu, r.pw, r.ph, r.bh, r.ba, r.s1, r.s2, r.s3, r.s4, r.bl⟩
theorem Rg.up1 (r : Rg B σ) (hx : 0 ≤ x ∧ x ≤ 6) : Rg B (up σ 1 k x) := ⟨r.sz, r.yr, r.tn, r.sn, r.pn, r.bn, r.ho, fun k' => by unfold up; split; exact hx; exact r.kd k', r.vs, r.ag, r.bu, r.rw, r.tu, r.pw, r.ph, r.bh, r.ba, r.s1, r.s2, r.s3, r.s4, r.bl⟩
theorem Rg.up2 (r : Rg B σ) (hx : 0 ≤ x ∧ x ≤ 9) : Rg B (up σ 2 k x) := ⟨r.sz, r.yr, r.tn, r.sn, r.pn, r.bn, r.ho, r.kd, fun k' => by unfold up; split; exact hx; exact r.vs k', r.ag, r.bu, r.rw, r.tu, r.pw, r.ph, r.bh, r.ba, r.s1, r.s2, r.s3, r.s4, r.bl⟩
theorem Rg.up3 (r : Rg B σ) (hx : 0 ≤ x ∧ x ≤ B) : Rg B (up σ 3 k x) := ⟨r.sz, r.yr, r.tn, r.sn, r.pn, r.bn, r.ho, r.kd, r.vs, fun k' => by unfold up; split; exact hx; exact r.ag k', r.bu, r.rw, r.tu, r.pw, r.ph, r.bh, r.ba, r.s1, r.s2, r.s3, r.s4, r.bl⟩
theorem Rg.up4 (r : Rg B σ) (hx : 0 ≤ x ∧ x ≤ 9) : Rg B (up σ 4 k x) := ⟨r.sz, r.yr, r.tn, r.sn, r.pn, r.bn, r.ho, r.kd, r.vs, r.ag, fun k' => by unfold up; split; exact hx; exact r.bu k', r.rw, r.tu, r.pw, r.ph, r.bh, r.ba, r.s1, r.s2, r.s3, r.s4, r.bl⟩
theorem Rg.up5 (r : Rg B σ) (hx : 0 ≤ x ∧ x ≤ 9) : Rg B (up σ 5 k x) := ⟨r.sz, r.yr, r.tn, r.sn, r.pn, r.bn, r.ho, r.kd, r.vs, r.ag, r.bu, fun k' => by unfold up; split; exact hx; exact r.rw k', r.tu, r.pw, r.ph, r.bh, r.ba, r.s1, r.s2, r.s3, r.s4, r.bl⟩
theorem Rg.up6 (r : Rg B σ) (hx : 0 ≤ x ∧ x ≤ 9) : Rg B (up σ 6 k x) := ⟨r.sz, r.yr, r.tn, r.sn, r.pn, r.bn, r.ho, r.kd, r.vs, r.ag, r.bu, r.rw, fun k' => by unfold up; split; exact hx; exact r.tu k', r.pw, r.ph, r.bh, r.ba, r.s1, r.s2, r.s3, r.s4, r.bl⟩
theorem Rg.up7 (r : Rg B σ) (hx : 0 ≤ x ∧ x ≤ 3) : Rg B (up σ 7 k x) := ⟨r.sz, r.yr, r.tn, r.sn, r.pn, r.bn, r.ho, r.kd, r.vs, r.ag, r.bu, r.rw, r.tu, fun k' => by unfold up; split; exact hx; exact r.pw k', r.ph, r.bh, r.ba, r.s1, r.s2, r.s3, r.s4, r.bl⟩
theorem Rg.up8 (r : Rg B σ) (hx : 0 ≤ x ∧ x ≤ 5) : Rg B (up σ 8 k x) := ⟨r.sz, r.yr, r.tn, r.sn, r.pn, r.bn, r.ho, r.kd, r.vs, r.ag, r.bu, r.rw, r.tu, r.pw, fun k' => by unfold up; split; exact hx; exact r.ph k', r.bh, r.ba, r.s1, r.s2, r.s3, r.s4, r.bl⟩
theorem Rg.up10 (r : Rg B σ) (hx : 0 ≤ x ∧ x ≤ 9999) : Rg B (up σ 10 k x) := ⟨r.sz, r.yr, r.tn, r.sn, r.pn, r.bn, r.ho, r.kd, r.vs, r.ag, r.bu, r.rw, r.tu, r.pw, r.ph, r.bh, fun k' => by unfold up; split; exact hx; exact r.ba k', r.s1, r.s2, r.s3, r.s4, r.bl⟩
theorem Rg.up11 (r : Rg B σ) (hx : 0 ≤ x ∧ x ≤ 5) : Rg B (up σ 11 k x) := ⟨r.sz, r.yr, r.tn, r.sn, r.pn, r.bn, r.ho, r.kd, r.vs, r.ag, r.bu, r.rw, r.tu, r.pw, r.ph, r.bh, r.ba, fun k' => by unfold up; split; exact hx; exact r.s1 k', r.s2, r.s3, r.s4, r.bl⟩
theorem Rg.up12 (r : Rg B σ) (hx : 0 ≤ x ∧ x ≤ 5) : Rg B (up σ 12 k x) := ⟨r.sz, r.yr, r.tn, r.sn, r.pn, r.bn, r.ho, r.kd, r.vs, r.ag, r.bu, r.rw, r.tu, r.pw, r.ph, r.bh, r.ba, r.s1, fun k' => by unfold up; split; exact hx; exact r.s2 k', r.s3, r.s4, r.bl⟩
theorem Rg.up13 (r : Rg B σ) (hx : 0 ≤ x ∧ x ≤ 12) : Rg B (up σ 13 k x) := ⟨r.sz, r.yr, r.tn, r.sn, r.pn, r.bn, r.ho, r.kd, r.vs, r.ag, r.bu, r.rw, r.tu, r.pw, r.ph, r.bh, r.ba, r.s1, r.s2, fun k' => by unfold up; split; exact hx; exact r.s3 k', r.s4, r.bl⟩
theorem Rg.up14 (r : Rg B σ) (hx : 0 ≤ x ∧ x ≤ 9) : Rg B (up σ 14 k x) := ⟨r.sz, r.yr, r.tn, r.sn, r.pn, r.bn, r.ho, r.kd, r.vs, r.ag, r.bu, r.rw, r.tu, r.pw, r.ph, r.bh, r.ba, r.s1, r.s2, r.s3, fun k' => by unfold up; split; exact hx; exact r.s4 k', r.bl⟩
theorem Rg.up9 (r : Rg B σ) (hx : 0 ≤ x ∧ x ≤ 5) (hb : (k : Int) < σ 0 5 → x < σ 0 0) : Rg B (up σ 9 k x) := ⟨r.sz, r.yr, r.tn, r.sn, r.pn, r.bn, r.ho, r.kd, r.vs, r.ag, r.bu, r.rw, r.tu, r.pw, r.ph, fun k' => by unfold up; split; exact hx; exact r.bh k', r.ba, r.s1, r.s2, r.s3, r.s4, fun k' hk => by show (if 9 = 9 ∧ k' = k then x else σ 9 k') < σ 0 0; split; exact hb (by rename_i c; rw [← c.2]; exact hk); exact r.bl k' hk⟩
theorem Rg.ups0 (r : Rg B σ) (hx : 0 ≤ x ∧ x ≤ 6) (hb : σ 0 0 ≤ x) : Rg B (up σ 0 0 x) := ⟨hx, r.yr, r.tn, r.sn, r.pn, r.bn, r.ho, r.kd, r.vs, r.ag, r.bu, r.rw, r.tu, r.pw, r.ph, r.bh, r.ba, r.s1, r.s2, r.s3, r.s4, fun k hk => Int.lt_of_lt_of_le (r.bl k hk) hb⟩
theorem Rg.ups1 (r : Rg B σ) (hx : 0 ≤ x ∧ x ≤ B) : Rg B (up σ 0 1 x) := ⟨r.sz, hx, r.tn, r.sn, r.pn, r.bn, r.ho, r.kd, r.vs, r.ag, r.bu, r.rw, r.tu, r.pw, r.ph, r.bh, r.ba, r.s1, r.s2, r.s3, r.s4, r.bl⟩
theorem Rg.ups2 (r : Rg B σ) (hx : 0 ≤ x ∧ x ≤ 8) : Rg B (up σ 0 2 x) := ⟨r.sz, r.yr, hx, r.sn, r.pn, r.bn, r.ho, r.kd, r.vs, r.ag, r.bu, r.rw, r.tu, r.pw, r.ph, r.bh, r.ba, r.s1, r.s2, r.s3, r.s4, r.bl⟩
theorem Rg.ups3 (r : Rg B σ) (hx : 0 ≤ x ∧ x ≤ 5) : Rg B (up σ 0 3 x) := ⟨r.sz, r.yr, r.tn, hx, r.pn, r.bn, r.ho, r.kd, r.vs, r.ag, r.bu, r.rw, r.tu, r.pw, r.ph, r.bh, r.ba, r.s1, r.s2, r.s3, r.s4, r.bl⟩
theorem Rg.ups4 (r : Rg B σ) (hx : 0 ≤ x ∧ x ≤ 10) : Rg B (up σ 0 4 x) := ⟨r.sz, r.yr, r.tn, r.sn, hx, r.bn, r.ho, r.kd, r.vs, r.ag, r.bu, r.rw, r.tu, r.pw, r.ph, r.bh, r.ba, r.s1, r.s2, r.s3, r.s4, r.bl⟩
theorem Rg.ups5 (r : Rg B σ) (hx : 0 ≤ x ∧ x ≤ 8) (hb : ∀ k : Nat, (k : Int) < x → σ 9 k < σ 0 0) : Rg B (up σ 0 5 x) := ⟨r.sz, r.yr, r.tn, r.sn, r.pn, hx, r.ho, r.kd, r.vs, r.ag, r.bu, r.rw, r.tu, r.pw, r.ph, r.bh, r.ba, r.s1, r.s2, r.s3, r.s4, hb⟩
theorem Rg.ups6 (r : Rg B σ) (hx : -1 ≤ x ∧ x ≤ 5) : Rg B (up σ 0 6 x) := ⟨r.sz, r.yr, r.tn, r.sn, r.pn, r.bn, hx, r.kd, r.vs, r.ag, r.bu, r.rw, r.tu, r.pw, r.ph, r.bh, r.ba, r.s1, r.s2, r.s3, r.s4, r.bl⟩
end XRG
section XSE
variable {zl : Nat} {nl : Option Nat} {h h2 h' : Hp} {d : Nat} {K : Int → Hp → Prop} {U : Hp → Prop} {a n s b : Nat} {x y z B : Int} {M : Nat → Nat → Prop}
theorem xsh_S (ho : Int) : ySh (xsh ho) := by
  unfold xsh ySh
  split
  · split
    · exact Or.inr (Or.inl rfl)
    · split
      · exact Or.inr (Or.inr (Or.inl rfl))
      · exact Or.inl rfl
  · omega
theorem xsh_ho (hs : ySh s) : xsh (yho (some s)) = s := by
  unfold yho
  show xsh (if s = 48 then -1 else if s = 67 then -2 else if s = 86 then -3 else ((s : Int) - 101) / 4) = s
  unfold xsh
  rcases hs with rfl | rfl | rfl | rfl | rfl | rfl | rfl | rfl | rfl <;> rfl
theorem xsh_C (w : yWF zl nl h) (ha : yHs a) : xsh (hvC h a 0 6) = yshp h a := by
  obtain ⟨e, hs⟩ := yshp_of w ha
  rw [vC0_6, e]
  exact xsh_ho hs
theorem xHOk (w : yWF zl nl h) (ha : yHs a) (so : xSO h) (r : Rg B (hvC h a)) (hB : B ≤ 100000) : yHOk h a := by
  refine ⟨so _ (yshp_of w ha).2, ?_⟩
  have := r.yr
  rw [vC0_1] at this
  omega
theorem xF_fr (so : xSO h) (e : ∀ s, ySh s → ∀ j, j < 4 → ∀ k, zV h' (s + j) k = zV h (s + j) k) : xF h' = xF h := by
  funext ho f
  unfold xF
  exact (ysharp_congr (so _ (xsh_S ho)) (fun j hj k => (e _ (xsh_S ho) j hj k).symm) (fun _ _ => rfl)).symm
theorem xG_fr (e : ∀ s, ySh s → ∀ k, zV h' s k = zV h s k) : xG h' = xG h := by
  funext ho
  exact e _ (xsh_S ho) 4
theorem xSO_fr (so : xSO h) (e : ∀ s, ySh s → ∀ j, j < 4 → ∀ k, zV h' (s + j) k = zV h (s + j) k) : xSO h' := by
  intro s hs
  obtain ⟨o1, o2, o3⟩ := so s hs
  have e0 := fun k => e s hs 0 (by decide) k
  unfold yShopOk
  have e3 : zV h' s 3 = zV h s 3 := e0 3
  rw [e3]
  refine ⟨o1, o2, fun i hi => ?_⟩
  rw [e s hs 2 (by decide)]
  exact o3 i hi
/-- cells of shops -/
def xShC (b : Nat) : Prop := (48 ≤ b ∧ b ≤ 51) ∨ (67 ≤ b ∧ b ≤ 70) ∨ (86 ≤ b ∧ b ≤ 89) ∨ (101 ≤ b ∧ b ≤ 124)
theorem xShC_S (hs : ySh s) {j : Nat} (hj : j < 4) : xShC (s + j) := by unfold xShC; unfold ySh at hs; omega
theorem Fr.xF (f : Fr M h h') (so : xSO h) (e : ∀ b k, xShC b → ¬ M b k) : xF h' = xF h := xF_fr so fun s hs j hj k => f.V _ _ (e _ _ (xShC_S hs hj))
theorem Fr.xG (f : Fr M h h') (e : ∀ b k, xShC b → ¬ M b k) : xG h' = xG h := xG_fr fun s hs k => f.V _ _ (e _ _ (xShC_S (j := 0) hs (by decide)))
theorem Fr.xSO (f : Fr M h h') (so : xSO h) (e : ∀ b k, xShC b → ¬ M b k) : xSO h' := xSO_fr so fun s hs j hj k => f.V _ _ (e _ _ (xShC_S hs hj))
theorem ySc_Sh {b k : Nat} (q : xShC b) : ¬ ySc b := by unfold xShC at q; unfold ySc; omega
theorem ySm.hvC (m : ySm h h') (ha : yHs a) : hvC h' a = hvC h a := by
  refine hvC_fr (fun b i q1 q2 q3 q4 => m.V ?_ i) (by rw [m.1.2.2.1])
  unfold ySc
  rcases ha with rfl | rfl | rfl <;> omega
theorem ySm.hvM (m : ySm h h') : hvM h' = hvM h := hvM_fr fun b i q => m.V (by unfold ySc; unfold xOM at q; omega) i
theorem xC_f1 (w : yWF zl nl h) (ha : yHs a) (p : 0 ≤ x ∧ x < 6) : xfact (hvC h a) x y 1 = yfact (ymk h) a x y 1 := by
  have e : hvC h a 1 x.toNat = ymk h (a + 1) x.toNat := by rw [vC_1 (by omega), ymkH ha (j := 1) (by decide)]
  exact e
theorem xC_f2 (w : yWF zl nl h) (ha : yHs a) (p : 0 ≤ x ∧ x < 6) : xfact (hvC h a) x y 2 = yfact (ymk h) a x y 2 := by
  have e : hvC h a 2 x.toNat = ymk h (a + 2) x.toNat := by rw [vC_2 (by omega), ymkH ha (j := 2) (by decide)]
  exact e
theorem xC_f4 (w : yWF zl nl h) (ha : yHs a) (p : 0 ≤ x ∧ x < 6 ∧ 0 ≤ y ∧ y < 6) : xfact (hvC h a) x y 4 = yfact (ymk h) a x y 4 := by
  have e : hvC h a 4 (6 * x + y).toNat = ymk h (a + 4) (6 * x + y).toNat := by rw [vC_4 (by omega), ymkH ha (j := 4) (by decide)]
  exact e
theorem xC_f5 (w : yWF zl nl h) (ha : yHs a) : xfact (hvC h a) x y 5 = yfact (ymk h) a x y 5 := by
  have e : hvC h a 0 1 = ymk h a 11 := by rw [vC0_1, ymkH0 ha]
  simp only [xfact, yfact]
  rw [e]
theorem xC_f0 : xfact (hvC h a) x y 0 = yfact (ymk h) a x y 0 := by simp only [xfact, yfact]
theorem xC_f3 : xfact (hvC h a) x y 3 = yfact (ymk h) a x y 3 := by simp only [xfact, yfact]
theorem xC_fact (w : yWF zl nl h) (ha : yHs a) (p : 0 ≤ x ∧ x < 6 ∧ 0 ≤ y ∧ y < 6) (j : Nat) (hj : j < 6) : xfact (hvC h a) x y j = yfact (ymk h) a x y j := by
  have hc : j = 0 ∨ j = 1 ∨ j = 2 ∨ j = 3 ∨ j = 4 ∨ j = 5 := by omega
  rcases hc with rfl | rfl | rfl | rfl | rfl | rfl
  · exact xC_f0
  · exact xC_f1 w ha (by omega)
  · exact xC_f2 w ha (by omega)
  · exact xC_f3
  · exact xC_f4 w ha p
  · exact xC_f5 w ha
theorem xC_shp (w : yWF zl nl h) (ha : yHs a) (so : xSO h) (p : 0 ≤ x ∧ x < 6 ∧ 0 ≤ y ∧ y < 6) : ysharp (ymk h) (yshp h a) (yfact (ymk h) a x y) = xF h (hvC h a 0 6) (xfact (hvC h a) x y) := by
  have hS := (yshp_of w ha).2
  unfold xF
  rw [xsh_C w ha]
  exact (ysharp_congr (so _ hS) (fun j hj i => (ymk_of (ySn_S hS hj)).symm) (xC_fact w ha p)).symm
/-- the class's pitch is the view's -/
theorem xC_pit (w : yWF zl nl h) (ha : yHs a) (so : xSO h) (r : Rg B (hvC h a)) (p : 0 ≤ x ∧ x < 6 ∧ 0 ≤ y ∧ y < 6) : ypC (ymk h) a (yshp h a) x y = xpit (xF h) (hvC h a) x y := by
  have e0 : hvC h a 0 1 = ymk h a 11 := by rw [vC0_1, ymkH0 ha]
  have em : ymk h a 11 % 4 < 4 := Int.emod_lt_of_pos _ (by decide)
  have en : 0 ≤ ymk h a 11 % 4 := Int.emod_nonneg _ (by decide)
  unfold ypC xpit
  rw [xC_shp w ha so p, e0, vC_1 (by omega), vC_2 (by omega), vC_3 (by omega), vC_4 (by omega), vC_5 (by omega), ymkH ha (j := 1) (by decide), ymkH ha (j := 2) (by decide), ymkH ha (j := 3) (by decide), ymkH ha (j := 4) (by decide), ymkH ha (j := 5) (by decide)]
theorem xC_note (w : yWF zl nl h) (ha : yHs a) (so : xSO h) (r : Rg B (hvC h a)) (p : 0 ≤ x ∧ x < 6 ∧ 0 ≤ y ∧ y < 6) : ynote h a x y = xN (xF h) (hvC h a) x y := by
  unfold ynote xN
  rw [xC_pit w ha so r p]
theorem ysnd_congr {f g : Int → Int} {n : Nat} (e : ∀ i : Nat, i < n → f i = g i) : ysnd f n = ysnd g n := by
  induction n with
  | zero => rfl
  | succ n ih => unfold ysnd; rw [ih (fun i hi => e i (by omega)), e n (by omega)]
theorem xC_sound (w : yWF zl nl h) (ha : yHs a) (so : xSO h) (r : Rg B (hvC h a)) (p : 0 ≤ x ∧ x < 6) : ysound h a x = xsnd (xF h) (hvC h a) x :=
  ysnd_congr fun i hi => xC_note w ha so r (by omega)
end XSE
