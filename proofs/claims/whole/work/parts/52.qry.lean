/-! QUESTIONS: what the class answers, what the model answers -/
theorem zdiv_neg {x : Int} (hx : zr x) (h : x < 0) : zdiv x 10 ≤ 0 := by
  have hz : -2147483648 ≤ x ∧ x < 2147483648 := hx
  have e : x.tdiv 10 = -((-x) / 10) := by
    rw [← Int.tdiv_eq_ediv_of_nonneg (by omega : 0 ≤ -x), Int.neg_tdiv]; omega
  unfold zdiv
  rw [Int32.toInt_div, zi_toInt hx, zi_toInt (by unfold zr; omega), e, zi_bm (by omega)]
  omega
theorem zrem_neg {x : Int} (hx : zr x) (h : x < 0) : zrem x 10 ≤ 0 := by
  rw [zrem_t hx (by decide)]
  have := Int.tmod_nonneg (a := -x) 10 (by omega)
  rw [Int.neg_tmod] at this
  omega
noncomputable def xof (ca : Int → Int) (F : Int → (Nat → Int) → Int) (G : Int → Int) (σ : Vw) (p what : Int) : Int :=
  if ¬ (0 ≤ p ∧ p < σ 0 0) then -10001 else
  if what = 0 then σ 1 p.toNat else if what = 1 then σ 2 p.toNat else if what = 2 then σ 3 p.toNat else if what = 3 then xsnd F σ p else if what = 4 then xhd F σ p else if what = 5 then xwh ca F G σ p else if what = 6 then xlst (xpP F σ p) 60 0 else
  if 10 ≤ what ∧ what < 16 then σ 4 (6 * p + (what - 10)).toNat else if 20 ≤ what ∧ what < 26 then xN F σ p (what - 20) else if 30 ≤ what ∧ what < 36 then xpit F σ p (what - 30) else if 40 ≤ what ∧ what < 46 then xbo ca F G σ p (what - 40) else -10001
section XQ
variable {zl : Nat} {nl : Option Nat} {xs : Nat → Int} {h h' h2 : Hp} {d : Nat} {K : Int → Hp → Prop} {KJ : Int64 → Hp → Prop} {U : Hp → Prop} {a n s b j k i : Nat} {x y z B : Int} {M : Nat → Nat → Prop}
theorem xof_c {F : Int → (Nat → Int) → Int} {G : Int → Int} {σ : Vw} {p w : Int} : xof xca F G σ p w = xof xcm F G σ p w := by
  unfold xof
  rw [xwh_c xcc_am, xbo_c xcc_am]
theorem smSc (m : ySm h h2) : Fr xSc h h2 := m.fr.mono fun _ _ q => ySc_Sc q
theorem cp14 (w : yWF zl nl h) (st : xST h) (hd : 12 ≤ d) (r : Rg B (hvC h 33)) (hB : B ≤ 20000) (hy : zr y) (k : ∀ h', yWF zl nl h' → Fr xSc h h' → K (xof xca (xF h) (xG h) (hvC h 33) x y) h') : yI d 14 [vR (some 32), vI x, vI y] h K := by
  have rs := r.sz
  have e0 : zV h 33 10 = hvC h 33 0 0 := rfl
  have ok := xHOk w yH37 st.1 r (by omega)
  have k0 := k h w Fr.rfl'
  refine E14 w (by omega) ⟨fun c => ⟨fun c1 => ⟨by omega, ?_⟩, fun c1 => ⟨by omega, ?_⟩, fun c1 => ⟨by omega, ?_⟩, fun c1 => ⟨ok, by omega, fun h2 s2 => ?_⟩, fun c1 => ?_, fun c1 => ?_, fun c1 => ?_, fun c1 => ?_⟩, fun c => ?_⟩
  · unfold xof at k0
    repeat (first | rw [if_neg (by omega)] at k0 | rw [if_pos (by omega)] at k0)
    rw [vC_1 (by omega)] at k0
    exact k0
  · unfold xof at k0
    repeat (first | rw [if_neg (by omega)] at k0 | rw [if_pos (by omega)] at k0)
    rw [vC_2 (by omega)] at k0
    exact k0
  · unfold xof at k0
    repeat (first | rw [if_neg (by omega)] at k0 | rw [if_pos (by omega)] at k0)
    rw [vC_3 (by omega)] at k0
    exact k0
  · have k := k h2 (s2.wf w) (smSc s2)
    unfold xof at k
    repeat (first | rw [if_neg (by omega)] at k | rw [if_pos (by omega)] at k)
    rw [xC_sound w yH37 st.1 r (by omega)]
    exact k
  · refine cp24 w yH37 (by omega) st.2.2.1 st.1 r (by omega) (by omega) fun h2 s2 => W14_103 (s2.wf w) ?_
    have k := k h2 (s2.wf w) (smSc s2)
    unfold xof at k
    repeat (first | rw [if_neg (by omega)] at k | rw [if_pos (by omega)] at k)
    exact k
  · refine cp27 w st (by omega) r hB (by omega) fun h2 w2 f2 => W14_109 w2 ?_
    have k := k h2 w2 f2
    unfold xof at k
    repeat (first | rw [if_neg (by omega)] at k | rw [if_pos (by omega)] at k)
    exact k
  · refine cp32 w st (by omega) r hB (by omega) fun h2 w2 f2 => W14_115 w2 ?_
    have k := k h2 w2 f2
    unfold xof at k
    repeat (first | rw [if_neg (by omega)] at k | rw [if_pos (by omega)] at k)
    exact k
  · have none_ : ∀ h2, yWF zl nl h2 → ¬ ((10 ≤ y ∧ y < 16) ∨ (20 ≤ y ∧ y < 26) ∨ (30 ≤ y ∧ y < 36) ∨ (40 ≤ y ∧ y < 46)) → Fr xSc h h2 → ZW d prog_1_method_3_code 7 129 [some (vR (some 32)), some (vI x), some (vI y)] [vI (-10001)] h2 (yq 1 (yqI K)) := by
      intro h2 w2 q f2
      refine W14_129 w2 ?_
      have k := k h2 w2 f2
      unfold xof at k
      repeat (first | rw [if_neg (by omega)] at k | rw [if_pos (by omega)] at k)
      exact k
    by_cases cn : y < 0
    · have g1 := zdiv_neg hy cn
      refine E34 w (by omega) ⟨fun c2 => ⟨fun c3 => by omega, fun c3 => by omega, fun c3 => by omega, fun c3 => by omega, fun c3 => none_ h w (by omega) Fr.rfl'⟩, fun c2 => none_ h w (by omega) Fr.rfl'⟩
    · unfold zr at hy
      rw [zdiv_nn (by omega) (by decide), zrem_nn (by omega) (by decide)]
      refine E34 w (by omega) ⟨fun c2 => ⟨fun c3 => ⟨by omega, ?_⟩, fun c3 => ⟨ok, by omega, fun h2 s2 => ?_⟩, fun c3 => ⟨ok, by omega, fun h2 s2 => ?_⟩, fun c3 => ?_, fun c3 => none_ h w (by omega) Fr.rfl'⟩, fun c2 => none_ h w (by omega) Fr.rfl'⟩
      · refine W14_129 w ?_
        unfold xof at k0
        repeat (first | rw [if_neg (by omega)] at k0 | rw [if_pos (by omega)] at k0)
        rw [vC_4 (by omega)] at k0
        rw [show y % 10 = y - 10 by omega]
        exact k0
      · refine W14_129 (s2.wf w) ?_
        have k := k h2 (s2.wf w) (smSc s2)
        unfold xof at k
        repeat (first | rw [if_neg (by omega)] at k | rw [if_pos (by omega)] at k)
        rw [xC_note w yH37 st.1 r (by omega), show y % 10 = y - 20 by omega]
        exact k
      · refine W14_129 (s2.wf w) ?_
        have k := k h2 (s2.wf w) (smSc s2)
        unfold xof at k
        repeat (first | rw [if_neg (by omega)] at k | rw [if_pos (by omega)] at k)
        rw [xC_pit w yH37 st.1 r (by omega), show y % 10 = y - 30 by omega]
        exact k
      · rw [show y % 10 = y - 40 by omega]
        refine cp35 w st (by omega) r hB (by omega) fun h2 w2 f2 => W34_80 w2 (W14_129 w2 ?_)
        have k := k h2 w2 f2
        unfold xof at k
        repeat (first | rw [if_neg (by omega)] at k | rw [if_pos (by omega)] at k)
        exact k
  · unfold xof at k0
    rw [if_pos (by omega)] at k0
    exact k0
theorem mp130 (w : yWF zl nl h) (hd : 12 ≤ d) (o : xMO B h) (hB : B ≤ 20000) (hy : zr y) (k : ∀ h', yWF zl nl h' → Fr xSc h h' → K (xof xcm (xF h) (xG h) (hvM h) x y) h') : yI d 130 [vR (some 137), vI x, vI y] h K := by
  have rs := o.2.1.sz
  have e0 : zV h 137 0 = hvM h 0 0 := rfl
  have k0 := k h w Fr.rfl'
  unfold zr at hy
  have q1 : (0 ≤ zw (y - 10) ∧ zw (y - 10) < 6) ↔ (10 ≤ y ∧ y < 16) := by unfold zw; omega
  have q2 : (0 ≤ zw (y - 20) ∧ zw (y - 20) < 6) ↔ (20 ≤ y ∧ y < 26) := by unfold zw; omega
  have q3 : (0 ≤ zw (y - 30) ∧ zw (y - 30) < 6) ↔ (30 ≤ y ∧ y < 36) := by unfold zw; omega
  have q4 : (0 ≤ zw (y - 40) ∧ zw (y - 40) < 6) ↔ (40 ≤ y ∧ y < 46) := by unfold zw; omega
  refine E130 w (by omega) ⟨by omega, fun c => ⟨fun c1 => ?_, fun c1 => ⟨fun c2 => ?_, fun c2 => ⟨fun c3 => ?_, fun c3 => ⟨fun c4 => ?_, fun c4 => ⟨fun c5 => ⟨by omega, ?_⟩, fun c5 => ⟨by omega, ?_⟩, fun c5 => ⟨by omega, ?_⟩, fun c5 => ?_, fun c5 => ?_, fun c5 => ?_, fun c5 => ?_, fun c5 => ?_⟩⟩⟩⟩⟩, fun c => ?_⟩
  · rw [q1] at c1
    have z1 : zw (zw (zw (6 * x) + y) - 10) = 6 * x + (y - 10) := by rw [zwi (x := 6 * x) (by omega), zwi (x := 6 * x + y) (by omega), zwi (by omega)]; omega
    rw [z1]
    refine ⟨by omega, ?_⟩
    unfold xof at k0
    repeat (first | rw [if_neg (by omega)] at k0 | rw [if_pos (by omega)] at k0)
    rw [vM_4 (by omega)] at k0
    exact k0
  · rw [q2] at c2
    rw [zwi (x := y - 20) (by omega)]
    refine mp133 w (by omega) o (by omega) (by omega) fun h2 w2 f2 => W130_56 w2 ?_
    have k := k h2 w2 (f2.mono fun _ _ q => xMq_Sc (xM1_q _ _ q))
    unfold xof at k
    repeat (first | rw [if_neg (by omega)] at k | rw [if_pos (by omega)] at k)
    exact k
  · rw [q3] at c3
    rw [zwi (x := y - 30) (by omega)]
    refine mp134 w (by omega) o (by omega) (by omega) fun h2 w2 f2 => W130_76 w2 ?_
    have k := k h2 w2 (f2.mono fun _ _ q => xMq_Sc (xM1_q _ _ q))
    unfold xof at k
    repeat (first | rw [if_neg (by omega)] at k | rw [if_pos (by omega)] at k)
    exact k
  · rw [q4] at c4
    rw [zwi (x := y - 40) (by omega)]
    refine mp138 w (by omega) o hB (by omega) (by omega) fun h2 w2 f2 => W130_96 w2 ?_
    have k := k h2 w2 f2
    unfold xof at k
    repeat (first | rw [if_neg (by omega)] at k | rw [if_pos (by omega)] at k)
    exact k
  · unfold xof at k0
    repeat (first | rw [if_neg (by omega)] at k0 | rw [if_pos (by omega)] at k0)
    rw [vM_1 (by omega)] at k0
    exact k0
  · unfold xof at k0
    repeat (first | rw [if_neg (by omega)] at k0 | rw [if_pos (by omega)] at k0)
    rw [vM_2 (by omega)] at k0
    exact k0
  · unfold xof at k0
    repeat (first | rw [if_neg (by omega)] at k0 | rw [if_pos (by omega)] at k0)
    rw [vM_3 (by omega)] at k0
    exact k0
  · refine mp144 w (by omega) o (by omega) (by omega) fun h2 w2 f2 => W130_166 w2 ?_
    have k := k h2 w2 (f2.mono fun _ _ q => xMq_Sc (xM1_q _ _ q))
    unfold xof at k
    repeat (first | rw [if_neg (by omega)] at k | rw [if_pos (by omega)] at k)
    exact k
  · refine mp146 w (by omega) o (by omega) (by omega) fun h2 w2 f2 => W130_172 w2 ?_
    have k := k h2 w2 (f2.mono fun _ _ q => xMq_Sc q)
    unfold xof at k
    repeat (first | rw [if_neg (by omega)] at k | rw [if_pos (by omega)] at k)
    exact k
  · refine mp148 w (by omega) o hB (by omega) fun h2 w2 f2 => W130_178 w2 ?_
    have k := k h2 w2 f2
    unfold xof at k
    repeat (first | rw [if_neg (by omega)] at k | rw [if_pos (by omega)] at k)
    exact k
  · refine mp149 w (by omega) o hB (by omega) fun h2 w2 f2 => W130_184 w2 ?_
    have k := k h2 w2 f2
    unfold xof at k
    repeat (first | rw [if_neg (by omega)] at k | rw [if_pos (by omega)] at k)
    exact k
  · rw [q1] at c1
    rw [q2] at c2
    rw [q3] at c3
    rw [q4] at c4
    unfold xof at k0
    repeat (first | rw [if_neg (by omega)] at k0 | rw [if_pos (by omega)] at k0)
    exact k0
  · unfold xof at k0
    rw [if_pos (by omega)] at k0
    exact k0
/-- the pair of a question -/
theorem ap14 (I : Inv zl nl xs h) (hd : 20 ≤ d) (hy : zr y) : yI d 14 [vR (some 32), vI x, vI y] h (fun t h1 => yI d 130 [vR (some 137), vI x, vI y] h1 (fun u h2 => t = u ∧ Inv zl nl xs h2)) := by
  refine cp14 I.w I.st (by omega) I.rgC (by decide) hy fun h1 w1 f1 => ?_
  have I1 := I.sc w1 f1
  refine mp130 w1 (by omega) I1.mo (by decide) hy fun h2 w2 f2 => ⟨?_, I1.sc w2 f2⟩
  rw [f1.scF I.st, f1.scG, ← I1.v, f1.scC, xof_c]
end XQ
