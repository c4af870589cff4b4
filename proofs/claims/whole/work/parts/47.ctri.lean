/-! THE CLASS: what is tried out -/
theorem xSc_St : ∀ b k, xStC b k → ¬ xSc b k := by intro b k q; unfold xStC xShC at q; unfold xSc; omega
theorem xSc_M : ∀ b k, xOM b k → ¬ xSc b k := by intro b k q; unfold xOM at q; unfold xSc; omega
theorem Sc2 {b k : Nat} (q : 52 ≤ b ∧ b ≤ 66) : xSc b k := Or.inr (Or.inl q)
theorem Sc4 {b k : Nat} (q : 96 ≤ b ∧ b ≤ 100) : xSc b k := Or.inr (Or.inr (Or.inr (Or.inl q)))
theorem Sc5 {k : Nat} (q : k = 2 ∨ k = 3) : xSc 90 k := Or.inr (Or.inr (Or.inr (Or.inr (Or.inl ⟨rfl, q⟩))))
theorem Sc6 {k : Nat} (q : k = 2 ∨ k = 3 ∨ k = 4) : xSc 94 k := Or.inr (Or.inr (Or.inr (Or.inr (Or.inr (Or.inl ⟨rfl, q⟩)))))
theorem Sc7 {k : Nat} : xSc 151 k := Or.inr (Or.inr (Or.inr (Or.inr (Or.inr (Or.inr (Or.inl rfl))))))
theorem Sc8 {b k : Nat} (q : 162 ≤ b ∧ b ≤ 166) : xSc b k := Or.inr (Or.inr (Or.inr (Or.inr (Or.inr (Or.inr (Or.inr (Or.inl q)))))))
theorem Sc9 {k : Nat} (q : k = 11 ∨ k = 12 ∨ k = 13 ∨ k = 14 ∨ k = 45) : xSc 137 k := Or.inr (Or.inr (Or.inr (Or.inr (Or.inr (Or.inr (Or.inr (Or.inr (Or.inl ⟨rfl, q⟩))))))))
theorem Sc10 {b k : Nat} (q : b = 138 ∨ b = 139 ∨ b = 141) (hk : 6 ≤ k) : xSc b k := Or.inr (Or.inr (Or.inr (Or.inr (Or.inr (Or.inr (Or.inr (Or.inr (Or.inr (Or.inl ⟨q, hk⟩)))))))))
theorem Sc11 {k : Nat} (hk : 36 ≤ k) : xSc 140 k := Or.inr (Or.inr (Or.inr (Or.inr (Or.inr (Or.inr (Or.inr (Or.inr (Or.inr (Or.inr (Or.inl ⟨rfl, hk⟩))))))))))
theorem ySc_Sc {b k : Nat} (q : ySc b) : xSc b k := by
  rcases q with rfl | rfl | rfl | rfl | rfl | rfl
  · exact Or.inl rfl
  · exact Sc2 (by decide)
  · exact Or.inr (Or.inr (Or.inl rfl))
  · exact Sc7
  · exact Sc8 (by decide)
  · exact Sc8 (by decide)
theorem xHm_Sc {b k : Nat} (q : xHm 52 b k) : xSc b k := by
  rcases q with rfl | rfl | ⟨rfl, _⟩ | q
  · exact Sc2 (by decide)
  · exact Sc2 (by decide)
  · exact Sc2 (by decide)
  · exact ySc_Sc q
section XCT
variable {zl : Nat} {nl : Option Nat} {h h' h2 h3 : Hp} {d : Nat} {K : Int → Hp → Prop} {U : Hp → Prop} {a n s b j : Nat} {x y z B : Int} {σ τ : Vw} {p i : Int} {k : Nat}
theorem up_up (v : σ j k = y) : up (up σ j k x) j k y = σ := by
  funext j' k'
  unfold up
  by_cases c : j' = j ∧ k' = k
  · rw [if_pos c, c.1, c.2, v]
  · rw [if_neg c, if_neg c]
theorem up_self : up σ j k (σ j k) = σ := by
  funext a b
  unfold up
  by_cases c : a = j ∧ b = k
  · rw [if_pos c, c.1, c.2]
  · rw [if_neg c]
theorem up_up2 : up (up σ j k x) j k y = up σ j k y := by
  funext j' k'
  unfold up
  by_cases c : j' = j ∧ k' = k
  · rw [if_pos c, if_pos c]
  · rw [if_neg c, if_neg c, if_neg c]
/-- after a copy, with the years and the presses that were tried, the trial stands at τ -/
def xT (zl : Nat) (nl : Option Nat) (h h2 : Hp) (τ : Vw) : Prop := yWF zl nl h2 ∧ Fr xSc h h2 ∧ hvC h2 52 = τ
theorem Fa.sc (f : Fa 52 h h2) : Fr xSc h h2 := by
  obtain ⟨f1, f2, f3, f4, f5, f6⟩ := f
  exact ⟨f1, f2, f3, f4, fun c k q _ => f5 c k q, fun c k q => f6 c k (fun r => q (Or.inr (Or.inl (by omega))))⟩
theorem fr_scC (f : Fr xSc h h2) : hvC h2 33 = hvC h 33 := f.hvC (fun b i q1 q2 q3 q4 => by unfold xSc; omega) (by decide) (by decide)
def Fr.scC {h h2 : Hp} (f : Fr xSc h h2) := fr_scC f
theorem fr_scF (f : Fr xSc h h2) (st : xST h) : xF h2 = xF h := f.xF st.1 (fun b k q => xSc_St b k (Or.inr (Or.inl q)))
def Fr.scF {h h2 : Hp} (f : Fr xSc h h2) (st : xST h) := fr_scF f st
theorem fr_scG (f : Fr xSc h h2) : xG h2 = xG h := f.xG (fun b k q => xSc_St b k (Or.inr (Or.inl q)))
def Fr.scG {h h2 : Hp} (f : Fr xSc h h2) := fr_scG f
theorem fr_scST (f : Fr xSc h h2) (st : xST h) : xST h2 := f.ST st xSc_St
def Fr.scST {h h2 : Hp} (f : Fr xSc h h2) (st : xST h) := fr_scST f st
theorem yH52 : yHs 52 := Or.inr (Or.inl rfl)
theorem yH37 : yHs 33 := Or.inl rfl
theorem yH67 : yHs 71 := Or.inr (Or.inr rfl)
theorem ct_copy (w : yWF zl nl h) (hd : 2 ≤ d) (k : ∀ h', xT zl nl h h' (hvC h 33) → U h') : yU d 28 [vR (some 52), vR (some 33)] h U :=
  cp28 w yH52 yH37 (by decide) hd fun h' w' f' v' => k h' ⟨w', f'.sc, v'⟩
theorem ct_copy2 (hd : 2 ≤ d) (t : xT zl nl h h2 τ) (k : ∀ h', xT zl nl h h' (hvC h 33) → U h') : yU d 28 [vR (some 52), vR (some 33)] h2 U :=
  ct_copy t.1 hd fun h' t' => k h' ⟨t'.1, t.2.1.trans t'.2.1, by rw [t'.2.2, t.2.1.scC]⟩
theorem ct_hd (st : xST h) (t : xT zl nl h h2 τ) (hd : 6 ≤ d) (r : Rg B τ) (hB : B ≤ 100000) (p : 0 ≤ x ∧ x < 6) (k : ∀ h', xT zl nl h h' τ → K (xhd (xF h) τ x) h') : yI d 24 [vR (some 52), vI x] h2 K := by
  obtain ⟨w2, f2, v2⟩ := t
  have st2 := f2.scST st
  refine cp24 w2 yH52 hd st2.2.2.1 st2.1 (by rw [v2]; exact r) hB p fun h3 s3 => ?_
  rw [f2.scF st, v2]
  exact k h3 ⟨s3.wf w2, f2.trans (s3.fr.mono fun b k q => ySc_Sc q), by rw [s3.hvC yH52, v2]⟩
theorem ct_gy (st : xST h) (t : xT zl nl h h2 τ) (hd : 2 ≤ d) (r : Rg B τ) (hB : B ≤ 50000) (k : ∀ h', xT zl nl h h' (xgy xca (xG h) τ) → U h') : yU d 30 [vR (some 52)] h2 U := by
  obtain ⟨w2, f2, v2⟩ := t
  have st2 := f2.scST st
  refine cp30 w2 yH52 hd (by rw [v2]; exact r) hB (st2.2.1 _) fun h3 w3 f3 v3 => ?_
  refine k h3 ⟨w3, f2.trans (f3.mono fun b k q => xHm_Sc q), ?_⟩
  rw [v3, f2.scG, v2]
theorem ct_set (t : xT zl nl h h2 τ) {j m : Nat} (hm : xcC 52 j m = some (b, n)) (hb : 52 ≤ b ∧ b ≤ 66) (hj : j ≠ 7 ∧ j ≠ 8) (h6 : ¬ (j = 0 ∧ m = 6)) : xT zl nl h (zsetV h2 b n x) (up τ j m x) := by
  obtain ⟨w2, f2, v2⟩ := t
  exact ⟨yWFV w2, f2.trans (Fr.set (Or.inr (Or.inl hb))), by rw [hvC_set hm hj h6, v2]⟩
/-- WHEN -/
theorem cp27_loop (st : xST h) (hd : 7 ≤ d) (r : Rg B (hvC h 33)) (hB : B ≤ 20000) (p : 0 ≤ x ∧ x < 6) (k : ∀ h', yWF zl nl h' → Fr xSc h h' → K (xwh xca (xF h) (xG h) (hvC h 33) x) h') : ∀ (m i : Nat) (h2 : Hp), i + m = 61 → xT zl nl h h2 (xit xca (xG h) i (hvC h 33)) → xwh xca (xF h) (xG h) (hvC h 33) x = xlst (fun n => xhd (xF h) (xit xca (xG h) n (hvC h 33)) x ≠ -5) m i → ZW d prog_1_method_5_code 7 13 [some (vR (some 32)), some (vI x), some (vI i)] [] h2 (yq 1 (yqI K)) := by
  intro m
  induction m with
  | zero =>
    intro i h2 hm t hx
    refine W27_13 t.1 (by omega) ⟨fun _ => ?_, fun c => absurd (by omega) c⟩
    have := k h2 t.1 t.2.1
    rw [hx] at this
    exact this
  | succ m ih =>
    intro i h2 hm t hx
    have rr : Rg (B + i) (xit xca (xG h) i (hvC h 33)) := xit_rg r xca_r
    refine W27_13 t.1 (by omega) ⟨fun c => absurd c (by omega), fun c => ?_⟩
    refine ct_hd st t (by omega) rr (by omega) p fun h3 t3 => W27_27 t3.1 (by omega) ⟨fun c2 => ?_, fun c2 => ?_⟩
    · refine ct_gy st t3 (by omega) rr (by omega) fun h4 t4 => W27_41 t4.1 ?_
      rw [nz (by omega)]
      exact ih (i + 1) h4 (by omega) t4 (by rw [hx, xlst_f (fun q => q c2)])
    · have := k h3 t3.1 t3.2.1
      rw [hx, xlst_t (P := fun n : Nat => xhd (xF h) (xit xca (xG h) n (hvC h 33)) x ≠ -5) c2] at this
      exact this
theorem cp27 (w : yWF zl nl h) (st : xST h) (hd : 7 ≤ d) (r : Rg B (hvC h 33)) (hB : B ≤ 20000) (p : 0 ≤ x ∧ x < 6) (k : ∀ h', yWF zl nl h' → Fr xSc h h' → K (xwh xca (xF h) (xG h) (hvC h 33) x) h') : yI d 27 [vR (some 32), vI x] h K :=
  E27 w (by omega) (ct_copy w (by omega) fun h2 t => W27_11 t.1 (cp27_loop st hd r hB p k 61 0 h2 rfl t rfl))
/-- whether a press would let it be heard -/
theorem cp33 (st : xST h) (hd : 7 ≤ d) (r : Rg B (hvC h 33)) (hB : B ≤ 20000) (p : 0 ≤ x ∧ x < 6) {c : Nat} (hc : c < 60) (t : xT zl nl h h2 (hvC h 33)) (k1 : ∀ h', xT zl nl h h' (hvC h 33) → xpP (xF h) (hvC h 33) x c → K 1 h') (k0 : ∀ h', xT zl nl h h' (hvC h 33) → ¬ xpP (xF h) (hvC h 33) x c → K 0 h') : yI d 33 [vR (some 32), vI x, vI (c : Int)] h2 K := by
  have e1 : zdiv (c : Int) 10 = ((c / 10 : Nat) : Int) := by rw [zdiv_nn (by omega) (by decide)]; omega
  have e2 : zrem (c : Int) 10 = ((c % 10 : Nat) : Int) := by rw [zrem_nn (by omega) (by decide)]; omega
  refine E33 t.1 (by omega) ?_
  rw [e1, e2]
  refine ⟨by omega, ?_⟩
  have hi : (6 * x + ((c / 10 : Nat) : Int)).toNat < 36 := by omega
  have t2 : xT zl nl h (zsetV h2 (52 + 4) (6 * x + ((c / 10 : Nat) : Int)).toNat ((c % 10 : Nat) : Int)) (xpc (hvC h 33) x c) := ct_set t (xC_4 hi) (by omega) (by decide) (by omega)
  have r2 : Rg B (xpc (hvC h 33) x c) := r.up4 (by omega)
  refine ct_hd st t2 (by omega) r2 (by omega) p fun h3 t3 => W33_26 t3.1 (by omega) ?_
  have e4 : zV h3 (33 + 4) (6 * x + ((c / 10 : Nat) : Int)).toNat = hvC h 33 4 (6 * x + ((c / 10 : Nat) : Int)).toNat := by rw [← t3.2.1.scC, vC_4 hi]
  have t4 : xT zl nl h (zsetV h3 (52 + 4) (6 * x + ((c / 10 : Nat) : Int)).toNat (zV h3 (33 + 4) (6 * x + ((c / 10 : Nat) : Int)).toNat)) (hvC h 33) := by
    have q := ct_set (x := zV h3 (33 + 4) (6 * x + ((c / 10 : Nat) : Int)).toNat) t3 (xC_4 hi) (by omega) (by decide) (by omega)
    unfold xpc at q
    rw [up_up e4.symm] at q
    exact q
  refine ⟨fun c2 => ⟨by omega, by omega, ?_⟩, fun c2 => ⟨by omega, by omega, ?_⟩⟩
  · exact k0 _ t4 (fun q => q c2)
  · exact k1 _ t4 c2
/-- PRESS -/
theorem cp32_loop (st : xST h) (hd : 8 ≤ d) (r : Rg B (hvC h 33)) (hB : B ≤ 20000) (p : 0 ≤ x ∧ x < 6) (k : ∀ h', yWF zl nl h' → Fr xSc h h' → K (xlst (xpP (xF h) (hvC h 33) x) 60 0) h') : ∀ (m i : Nat) (h2 : Hp), i + m = 60 → xT zl nl h h2 (hvC h 33) → xlst (xpP (xF h) (hvC h 33) x) 60 0 = xlst (xpP (xF h) (hvC h 33) x) m i → ZW d prog_1_method_6_code 7 13 [some (vR (some 32)), some (vI x), some (vI i)] [] h2 (yq 1 (yqI K)) := by
  intro m
  induction m with
  | zero =>
    intro i h2 hm t hx
    refine W32_13 t.1 (by omega) ⟨fun _ => ?_, fun c => absurd (by omega) c⟩
    have := k h2 t.1 t.2.1
    rw [hx] at this
    exact this
  | succ m ih =>
    intro i h2 hm t hx
    refine W32_13 t.1 (by omega) ⟨fun c => absurd c (by omega), fun c => ?_⟩
    refine cp33 st (by omega) r hB p (by omega) t (fun h3 t3 c3 => W32_25 t3.1 ⟨fun c4 => absurd c4 (by decide), fun _ => ?_⟩) (fun h3 t3 c3 => W32_25 t3.1 ⟨fun _ => ?_, fun c4 => absurd rfl c4⟩)
    · have := k h3 t3.1 t3.2.1
      rw [hx, xlst_t c3] at this
      exact this
    · rw [nz (by omega)]
      exact ih (i + 1) h3 (by omega) t3 (by rw [hx, xlst_f c3])
theorem cp32 (w : yWF zl nl h) (st : xST h) (hd : 8 ≤ d) (r : Rg B (hvC h 33)) (hB : B ≤ 20000) (p : 0 ≤ x ∧ x < 6) (k : ∀ h', yWF zl nl h' → Fr xSc h h' → K (xlst (xpP (xF h) (hvC h 33) x) 60 0) h') : yI d 32 [vR (some 32), vI x] h K :=
  E32 w (by omega) (ct_copy w (by omega) fun h2 t => W32_11 t.1 (cp32_loop st hd r hB p k 60 0 h2 rfl t rfl))
theorem cp92_loop (st : xST h) (hd : 8 ≤ d) (r : Rg B (hvC h 33)) (hB : B ≤ 20000) (p : 0 ≤ x ∧ x < 6) (k : ∀ h', yWF zl nl h' → Fr xSc h h' → K (xcnt (xpP (xF h) (hvC h 33) x) 60) h') : ∀ (m i : Nat) (h2 : Hp), i + m = 60 → xT zl nl h h2 (hvC h 33) → ZW d prog_1_method_23_code 7 15 [some (vR (some 32)), some (vI x), some (vI (xcnt (xpP (xF h) (hvC h 33) x) i)), some (vI i)] [] h2 (yq 1 (yqI K)) := by
  intro m
  induction m with
  | zero =>
    intro i h2 hm t
    obtain rfl : i = 60 := by omega
    exact W92_15 t.1 (by omega) ⟨fun _ => k h2 t.1 t.2.1, fun c => absurd (by omega) c⟩
  | succ m ih =>
    intro i h2 hm t
    have rc := xcnt_r (xpP (xF h) (hvC h 33) x) i
    refine W92_15 t.1 (by omega) ⟨fun c => absurd c (by omega), fun c => ?_⟩
    refine cp33 st (by omega) r hB p (by omega) t (fun h3 t3 c3 => W92_27 t3.1 ⟨fun c4 => absurd c4 (by decide), fun _ => ?_⟩) (fun h3 t3 c3 => W92_27 t3.1 ⟨fun _ => ?_, fun c4 => absurd rfl c4⟩)
    · rw [nz (by omega), zwi (x := xcnt _ i + 1) (by omega), ← xcnt_t c3]
      exact ih (i + 1) h3 (by omega) t3
    · rw [nz (by omega), ← xcnt_f c3]
      exact ih (i + 1) h3 (by omega) t3
theorem cp92 (w : yWF zl nl h) (st : xST h) (hd : 8 ≤ d) (r : Rg B (hvC h 33)) (hB : B ≤ 20000) (p : 0 ≤ x ∧ x < 6) (k : ∀ h', yWF zl nl h' → Fr xSc h h' → K (xcnt (xpP (xF h) (hvC h 33) x) 60) h') : yI d 92 [vR (some 32), vI x] h K :=
  E92 w (by omega) (ct_copy w (by omega) fun h2 t => W92_13 t.1 (cp92_loop st hd r hB p k 60 0 h2 rfl t))
/-- whether all of SEEN is so, tried out from τ on -/
theorem cp36_in (st : xST h) (hd : 5 ≤ d) (r : Rg B τ) (hB : B ≤ 20000) (p : 0 ≤ x ∧ x < 6) {y : Nat} (hy : y ≤ 12) (k0 : ∀ h', yWF zl nl h' → Fr xSc h h' → ¬ xsn xca (xF h) (xG h) τ x → K 0 h') (kn : ∀ (h' : Hp) (l3 : Int) (l4 : Option Int), xT zl nl h h' (xit xca (xG h) y τ) → (∀ r : Nat, (r : Int) < τ 0 3 → τ 11 r = x → τ 13 r = y → xN (xF h) (xit xca (xG h) (τ 13 r).toNat τ) x (τ 12 r) = τ 14 r) → yU (d - 1) 30 [vR (some 52)] h' (fun h' => ZW d prog_4_method_19_code 2 97 [some (vR (some 52)), some (vI x), some (vI y), some (vI l3), yo l4] [] h' (yq 2 (yqI K)))) : ∀ (m i : Nat) (h2 : Hp) (l4 : Option Int), (i : Int) + m = τ 0 3 → xT zl nl h h2 (xit xca (xG h) y τ) → (∀ r : Nat, r < i → τ 11 r = x → τ 13 r = y → xN (xF h) (xit xca (xG h) (τ 13 r).toNat τ) x (τ 12 r) = τ 14 r) → ZW d prog_4_method_19_code 2 10 [some (vR (some 52)), some (vI x), some (vI y), some (vI i), yo l4] [] h2 (yq 2 (yqI K)) := by
  have rs := r.sn
  intro m
  induction m with
  | zero =>
    intro i h2 l4 hm t q
    have e0 : zV h2 (52 + 9) 1 = τ 0 3 := by rw [← vC0_3, t.2.2, xit_o (by decide) (by decide) (by decide)]
    exact W36_10 t.1 yH52 (by omega) ⟨fun _ => kn h2 _ l4 t (fun r hr => q r (by omega)), fun c => absurd (by omega) c⟩
  | succ m ih =>
    intro i h2 l4 hm t q
    have e0 : zV h2 (52 + 9) 1 = τ 0 3 := by rw [← vC0_3, t.2.2, xit_o (by decide) (by decide) (by decide)]
    have i0 : (4 * (i : Int) + 0).toNat = 4 * i := by omega
    have i1 : (4 * (i : Int) + 1).toNat = 4 * i + 1 := by omega
    have i2 : (4 * (i : Int) + 2).toNat = 4 * i + 2 := by omega
    have i3 : (4 * (i : Int) + 3).toNat = 4 * i + 3 := by omega
    have v0 : ∀ {h2 : Hp}, xT zl nl h h2 (xit xca (xG h) y τ) → zV h2 (52 + 9 + 1) (4 * i) = τ 11 i := by
      intro h2 t; have := vC_11 (h := h2) (a := 52) (k := i) (by omega); rw [t.2.2, xit_o (by omega) (by decide) (by decide)] at this; exact this.symm
    have v1 : ∀ {h2 : Hp}, xT zl nl h h2 (xit xca (xG h) y τ) → zV h2 (52 + 9 + 1) (4 * i + 1) = τ 12 i := by
      intro h2 t; have := vC_12 (h := h2) (a := 52) (k := i) (by omega); rw [t.2.2, xit_o (by omega) (by decide) (by decide)] at this; exact this.symm
    have v2 : ∀ {h2 : Hp}, xT zl nl h h2 (xit xca (xG h) y τ) → zV h2 (52 + 9 + 1) (4 * i + 2) = τ 13 i := by
      intro h2 t; have := vC_13 (h := h2) (a := 52) (k := i) (by omega); rw [t.2.2, xit_o (by omega) (by decide) (by decide)] at this; exact this.symm
    have v3 : ∀ {h2 : Hp}, xT zl nl h h2 (xit xca (xG h) y τ) → zV h2 (52 + 9 + 1) (4 * i + 3) = τ 14 i := by
      intro h2 t; have := vC_14 (h := h2) (a := 52) (k := i) (by omega); rw [t.2.2, xit_o (by omega) (by decide) (by decide)] at this; exact this.symm
    have r12 := r.s2 i
    have rr : Rg (B + y) (xit xca (xG h) y τ) := xit_rg r xca_r
    have st2 := t.2.1.scST st
    have skip : ∀ (h3 : Hp) (l4 : Option Int), xT zl nl h h3 (xit xca (xG h) y τ) → (τ 11 i = x → τ 13 i = y → xN (xF h) (xit xca (xG h) (τ 13 i).toNat τ) x (τ 12 i) = τ 14 i) → ZW d prog_4_method_19_code 2 10 [some (vR (some 52)), some (vI x), some (vI y), some (vI ((i + 1 : Nat) : Int)), yo l4] [] h3 (yq 2 (yqI K)) := by
      intro h3 l4 t3 q3
      refine ih (i + 1) h3 l4 (by omega) t3 (fun r hr e1 e2 => ?_)
      by_cases c : r = i
      · subst c; exact q3 e1 e2
      · exact q r (by omega) e1 e2
    refine W36_10 t.1 yH52 (by omega) ⟨fun c => absurd c (by omega), fun c => ⟨by omega, ?_⟩⟩
    rw [i0, i1, i2, i3, v0 t, v1 t, v2 t, nz (by omega)]
    refine ⟨fun c1 => ?_, fun c1 => ⟨by omega, fun c2 => ?_, fun c2 => ⟨by omega, ?_, by omega, fun h3 s3 => ?_⟩⟩⟩
    · exact skip h2 (some 0) t (fun q1 => absurd q1 c1)
    · exact skip h2 (some 0) t (fun _ q2 => absurd q2 c2)
    · exact xHOk t.1 yH52 st2.1 (by rw [t.2.2]; exact rr) (by omega)
    · have t3 : xT zl nl h h3 (xit xca (xG h) y τ) := ⟨s3.wf t.1, t.2.1.trans (s3.fr.mono fun b k q => ySc_Sc q), by rw [s3.hvC yH52, t.2.2]⟩
      rw [v3 t3, xC_note t.1 yH52 st2.1 (by rw [t.2.2]; exact rr) (by omega), t.2.1.scF st, t.2.2]
      have e13 : (τ 13 i).toNat = y := by omega
      refine ⟨by omega, fun c3 => ?_, fun c3 => ?_⟩
      · exact skip h3 (some 1) t3 (fun _ _ => by rw [e13]; exact c3)
      · refine k0 h3 t3.1 t3.2.1 (fun q => c3 ?_)
        have := q i (by omega) (by omega)
        rw [e13] at this
        exact this
theorem cp36_loop (st : xST h) (hd : 5 ≤ d) (r : Rg B τ) (hB : B ≤ 20000) (p : 0 ≤ x ∧ x < 6) (k0 : ∀ h', yWF zl nl h' → Fr xSc h h' → ¬ xsn xca (xF h) (xG h) τ x → K 0 h') (k1 : ∀ h', yWF zl nl h' → Fr xSc h h' → xsn xca (xF h) (xG h) τ x → K 1 h') : ∀ (m y : Nat) (h2 : Hp) (l3 l4 : Option Int), y + m = 13 → xT zl nl h h2 (xit xca (xG h) y τ) → (∀ r : Nat, (r : Int) < τ 0 3 → τ 11 r = x → τ 13 r < y → xN (xF h) (xit xca (xG h) (τ 13 r).toNat τ) x (τ 12 r) = τ 14 r) → ZW d prog_4_method_19_code 2 2 [some (vR (some 52)), some (vI x), some (vI y), yo l3, yo l4] [] h2 (yq 2 (yqI K)) := by
  have rs := r.sn
  intro m
  induction m with
  | zero =>
    intro y h2 l3 l4 hm t q
    exact W36_2 t.1 yH52 ⟨fun _ => k1 h2 t.1 t.2.1 (fun i hi e => q i hi e (by have := r.s3 i; omega)), fun c => absurd (by omega) c⟩
  | succ m ih =>
    intro y h2 l3 l4 hm t q
    refine W36_2 t.1 yH52 ⟨fun c => absurd c (by omega), fun c => ?_⟩
    refine cp36_in st hd r hB p (by omega) k0 (fun h3 l3 l4 t3 q3 => ?_) (τ 0 3).toNat 0 h2 l4 (by omega) t (fun r hr => absurd hr (by omega))
    have rr : Rg (B + y) (xit xca (xG h) y τ) := xit_rg r xca_r
    refine ct_gy st t3 (by omega) rr (by omega) fun h4 t4 => W36_97 t4.1 yH52 ?_
    rw [nz (by omega)]
    refine ih (y + 1) h4 (some l3) l4 (by omega) t4 (fun i hi e e2 => ?_)
    by_cases c5 : τ 13 i = y
    · exact q3 i hi e c5
    · exact q i hi e (by omega)
theorem cp36 (st : xST h) (hd : 5 ≤ d) (t : xT zl nl h h2 τ) (r : Rg B τ) (hB : B ≤ 20000) (p : 0 ≤ x ∧ x < 6) (k0 : ∀ h', yWF zl nl h' → Fr xSc h h' → ¬ xsn xca (xF h) (xG h) τ x → K 0 h') (k1 : ∀ h', yWF zl nl h' → Fr xSc h h' → xsn xca (xF h) (xG h) τ x → K 1 h') : yI d 36 [vR (some 52), vI x] h2 K :=
  E36 t.1 yH52 (cp36_loop st hd r hB p k0 k1 13 0 h2 none none rfl t (fun i _ _ e => by have := r.s3 i; omega))
/-- BUMPS of one, as bits -/
theorem cp35_loop (st : xST h) (hd : 6 ≤ d) (r : Rg B (hvC h 33)) (hB : B ≤ 20000) (p : 0 ≤ x ∧ x < 6 ∧ 0 ≤ y ∧ y < 6) (k : ∀ h', yWF zl nl h' → Fr xSc h h' → K (xbo xca (xF h) (xG h) (hvC h 33) x y) h') : ∀ (m i : Nat) (h2 : Hp), i + m = 10 → yWF zl nl h2 → Fr xSc h h2 → ZW d prog_1_method_8_code 7 5 [some (vR (some 32)), some (vI x), some (vI y), some (vI (xbts (fun n => xsn xca (xF h) (xG h) (up (hvC h 33) 4 (6 * x + y).toNat (n : Int)) x) i)), some (vI i)] [] h2 (yq 1 (yqI K)) := by
  intro m
  induction m with
  | zero =>
    intro i h2 hm w2 f2
    obtain rfl : i = 10 := by omega
    exact W35_5 w2 (by omega) ⟨fun _ => k h2 w2 f2, fun c => absurd (by decide) c⟩
  | succ m ih =>
    intro i h2 hm w2 f2
    refine W35_5 w2 (by omega) ⟨fun c => absurd c (by omega), fun c => ?_⟩
    refine ct_copy2 (h := h) (τ := hvC h2 52) (by omega) ⟨w2, f2, rfl⟩ fun h3 t3 => W35_23 t3.1 (by omega) ⟨by omega, ?_⟩
    have t4 : xT zl nl h (zsetV h3 (52 + 4) (6 * x + y).toNat (i : Int)) (up (hvC h 33) 4 (6 * x + y).toNat (i : Int)) := ct_set t3 (xC_4 (by omega)) (by omega) (by decide) (by omega)
    refine cp36 st (by omega) t4 (r.up4 (by omega)) hB (by omega) (fun h5 w5 f5 c5 => W35_42 w5 ⟨fun _ => ?_, fun c6 => absurd rfl c6⟩) (fun h5 w5 f5 c5 => W35_42 w5 ⟨fun c6 => absurd c6 (by decide), fun _ => ?_⟩)
    · rw [nz (by omega), ← xbts_f (P := fun n : Nat => xsn xca (xF h) (xG h) (up (hvC h 33) 4 (6 * x + y).toNat (n : Int)) x) c5]
      exact ih (i + 1) h5 (by omega) w5 f5
    · rw [nz (by omega), ← xbts_t (P := fun n : Nat => xsn xca (xF h) (xG h) (up (hvC h 33) 4 (6 * x + y).toNat (n : Int)) x) c5]
      exact ih (i + 1) h5 (by omega) w5 f5
theorem cp35 (w : yWF zl nl h) (st : xST h) (hd : 6 ≤ d) (r : Rg B (hvC h 33)) (hB : B ≤ 20000) (p : 0 ≤ x ∧ x < 6 ∧ 0 ≤ y ∧ y < 6) (k : ∀ h', yWF zl nl h' → Fr xSc h h' → K (xbo xca (xF h) (xG h) (hvC h 33) x y) h') : yI d 35 [vR (some 32), vI x, vI y] h K :=
  E35 w (cp35_loop st hd r hB p k 10 0 h rfl w Fr.rfl')
/-- CAN -/
theorem cp90_loop (st : xST h) (hd : 6 ≤ d) (r : Rg B (hvC h 33)) (hB : B ≤ 20000) (p : 0 ≤ x ∧ x < 6) (k : ∀ h', yWF zl nl h' → Fr xSc h h' → K (if y = 0 then (xcnl (xcnP xca (xF h) (xG h) (hvC h 33) x) 10).1 else (xcnl (xcnP xca (xF h) (xG h) (hvC h 33) x) 10).2) h') : ∀ (m i : Nat) (h2 : Hp) (v : Int), i + m = 10 → v = 9 - i → yWF zl nl h2 → Fr xSc h h2 → ZW d prog_1_method_21_code 7 28 [some (vR (some 32)), some (vI x), some (vI y), some (vI (xcnl (xcnP xca (xF h) (xG h) (hvC h 33) x) i).1), some (vI (xcnl (xcnP xca (xF h) (xG h) (hvC h 33) x) i).2), some (vI v)] [] h2 (yq 1 (yqI K)) := by
  intro m
  induction m with
  | zero =>
    intro i h2 v hm hv w2 f2
    obtain rfl : i = 10 := by omega
    have k := k h2 w2 f2
    refine W90_28 w2 (by omega) ⟨fun _ => ⟨fun c => ?_, fun c => ?_⟩, fun c => absurd (by omega) c⟩
    · rw [if_neg c] at k; exact k
    · rw [if_pos (Classical.byContradiction c)] at k; exact k
  | succ m ih =>
    intro i h2 v hm hv w2 f2
    have rc := xcnl_r (xcnP xca (xF h) (xG h) (hvC h 33) x) i
    obtain rfl : v = ((9 - i : Nat) : Int) := by omega
    refine W90_28 w2 (by omega) ⟨fun c => absurd c (by omega), fun c => ?_⟩
    refine ct_copy2 (h := h) (τ := hvC h2 52) (by omega) ⟨w2, f2, rfl⟩ fun h3 t3 => W90_44 t3.1 (by omega) ⟨by omega, ?_⟩
    have t4 : xT zl nl h (zsetV h3 54 x.toNat ((9 - i : Nat) : Int)) (up (hvC h 33) 2 x.toNat ((9 - i : Nat) : Int)) := ct_set t3 (xC_2 (by omega)) (by omega) (by decide) (by omega)
    have z1 : zw (((9 - i : Nat) : Int) + -1) = 8 - (i : Int) := by rw [zwi (by omega)]; omega
    refine cp36 st (by omega) t4 (r.up2 (by omega)) hB (by omega) (fun h5 w5 f5 c5 => W90_63 w5 ⟨fun _ => ?_, fun c6 => absurd rfl c6⟩) (fun h5 w5 f5 c5 => W90_63 w5 ⟨fun c6 => absurd c6 (by decide), fun _ => ?_⟩)
    · rw [z1]
      have e := xcnl_f (P := xcnP xca (xF h) (xG h) (hvC h 33) x) (m := i) c5
      rw [← e]
      exact ih (i + 1) h5 _ (by omega) (by omega) w5 f5
    · rw [z1, zwi (x := (xcnl _ i).1 + 1) (by omega)]
      have e := xcnl_t (P := xcnP xca (xF h) (xG h) (hvC h 33) x) (m := i) c5
      have q := ih (i + 1) h5 (8 - (i : Int)) (by omega) (by omega) w5 f5
      rw [e] at q
      exact q
end XCT
