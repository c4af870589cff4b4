/-! ANTHEMS: the model's search, and both -/
theorem zb4 : ∀ l : Fin 64, (zand (zw ((zw ((zand (zw ((zw ((zand (zw (((l.val : Nat) : Int) - (zand (zushr ((l.val : Nat) : Int) 1) 1431655765))) 858993459) + (zand (zushr (zw (((l.val : Nat) : Int) - (zand (zushr ((l.val : Nat) : Int) 1) 1431655765))) 2) 858993459))) + (zushr (zw ((zand (zw (((l.val : Nat) : Int) - (zand (zushr ((l.val : Nat) : Int) 1) 1431655765))) 858993459) + (zand (zushr (zw (((l.val : Nat) : Int) - (zand (zushr ((l.val : Nat) : Int) 1) 1431655765))) 2) 858993459))) 4))) 252645135) + (zushr (zand (zw ((zw ((zand (zw (((l.val : Nat) : Int) - (zand (zushr ((l.val : Nat) : Int) 1) 1431655765))) 858993459) + (zand (zushr (zw (((l.val : Nat) : Int) - (zand (zushr ((l.val : Nat) : Int) 1) 1431655765))) 2) 858993459))) + (zushr (zw ((zand (zw (((l.val : Nat) : Int) - (zand (zushr ((l.val : Nat) : Int) 1) 1431655765))) 858993459) + (zand (zushr (zw (((l.val : Nat) : Int) - (zand (zushr ((l.val : Nat) : Int) 1) 1431655765))) 2) 858993459))) 4))) 252645135) 8))) + (zushr (zw ((zand (zw ((zw ((zand (zw (((l.val : Nat) : Int) - (zand (zushr ((l.val : Nat) : Int) 1) 1431655765))) 858993459) + (zand (zushr (zw (((l.val : Nat) : Int) - (zand (zushr ((l.val : Nat) : Int) 1) 1431655765))) 2) 858993459))) + (zushr (zw ((zand (zw (((l.val : Nat) : Int) - (zand (zushr ((l.val : Nat) : Int) 1) 1431655765))) 858993459) + (zand (zushr (zw (((l.val : Nat) : Int) - (zand (zushr ((l.val : Nat) : Int) 1) 1431655765))) 2) 858993459))) 4))) 252645135) + (zushr (zand (zw ((zw ((zand (zw (((l.val : Nat) : Int) - (zand (zushr ((l.val : Nat) : Int) 1) 1431655765))) 858993459) + (zand (zushr (zw (((l.val : Nat) : Int) - (zand (zushr ((l.val : Nat) : Int) 1) 1431655765))) 2) 858993459))) + (zushr (zw ((zand (zw (((l.val : Nat) : Int) - (zand (zushr ((l.val : Nat) : Int) 1) 1431655765))) 858993459) + (zand (zushr (zw (((l.val : Nat) : Int) - (zand (zushr ((l.val : Nat) : Int) 1) 1431655765))) 2) 858993459))) 4))) 252645135) 8))) 16))) 63) = ((xpop l.val : Nat) : Int) := by decide +kernel
theorem zb10 : ∀ n : Fin 7, ((zi ((n.val : Nat) : Int) &&& 31).toBitVec.smod 32).toNat = n.val := by decide +kernel
/-- with how many each ends and each begins -/
noncomputable def xSH (F : Int → (Nat → Int) → Int) (σ : Vw) (a b : Int) : Int := xshr (xN F σ a) (xN F σ b)
/-- the model's search stands so -/
def xMS (zl : Nat) (nl : Option Nat) (h h2 : Hp) (N dp : Nat) (row : Nat → Int) (st : xSt) : Prop := yWF zl nl h2 ∧ Fr xSc h h2 ∧ (-1 ≤ st.1 ∧ st.1 ≤ 36) ∧ zV h2 137 45 = (if st.1 = -1 then 9999 else 6 * (N : Int) - st.1) ∧ (st.1 ≠ -1 → ∀ i, i < 6 → zV h2 166 i = if i < N then st.2 i else -5) ∧ ∀ i, i < dp → zV h2 165 i = row i
section XAO
variable {zl : Nat} {nl : Option Nat} {xs : Nat → Int} {h h' h1 h2 h3 H : Hp} {d : Nat} {K : Int → Hp → Prop} {KJ : Int64 → Hp → Prop} {U : Hp → Prop} {a n b j i m o l N dp left sz : Nat} {x y t u B tog : Int} {Sh : Int → Int → Int} {row : Nat → Int} {st : xSt} {σ : Vw} {F : Int → (Nat → Int) → Int}
theorem sp85 (w : yWF zl nl h) (hl : l < 64) (k : K ((xpop l : Nat) : Int) h) : yI d 85 [vI (l : Int)] h K :=
  E85 w ((congrArg (fun v => K v h) (zb4 ⟨l, hl⟩)).mpr k)
theorem xgrt_r {P : Nat → Prop} : 0 ≤ xgrt P n ∧ xgrt P n ≤ n := by
  induction n with
  | zero => exact ⟨Int.le_refl _, Int.le_refl _⟩
  | succ n ih =>
    by_cases c : P (n + 1)
    · rw [xgrt_t c]; omega
    · rw [xgrt_f c]; omega
theorem xSH_r : ∀ a b, 0 ≤ xSH F σ a b ∧ xSH F σ a b ≤ 6 := fun _ _ => xgrt_r
theorem mp190_leaf (c : xMS zl nl h h2 N N row st) (hN : N ≤ 6) {left : Int} (ht : 0 ≤ tog ∧ tog ≤ 36) (ht2 : tog ≤ 6 * N) (k : ∀ h', xMS zl nl h h' N N row (tog, row) → U h') : ∀ (m i : Nat) (h3 : Hp), i + m = 6 → yWF zl nl h3 → Fr xSc h h3 → zV h3 137 45 = 6 * (N : Int) - tog → (∀ j, j < i → zV h3 166 j = if j < N then row j else -5) → (∀ j, j < N → zV h3 165 j = row j) → ZW d prog_10_method_42_code 8 21 [some (vR (some 137)), some (vI (N : Int)), some (vI left), some (vI (6 * (N : Int) - tog)), some (vI (i : Int))] [] h3 (yq 0 (yqU U)) := by
  intro m
  induction m with
  | zero =>
    intro i h3 hm w3 f3 e1 e2 e3
    obtain rfl : i = 6 := by omega
    refine W190_21 w3 ⟨fun _ => k h3 ⟨w3, f3, by show -1 ≤ tog ∧ tog ≤ 36; omega, ?_, fun _ => e2, e3⟩, fun q => absurd (by decide) q⟩
    show _ = if tog = -1 then 9999 else 6 * (N : Int) - tog
    rw [if_neg (by omega)]
    exact e1
  | succ m ih =>
    intro i h3 hm w3 f3 e1 e2 e3
    have set : ∀ v : Int, v = (if i < N then row i else -5) → ZW d prog_10_method_42_code 8 21 [some (vR (some 137)), some (vI (N : Int)), some (vI left), some (vI (6 * (N : Int) - tog)), some (vI ((i + 1 : Nat) : Int))] [] (zsetV h3 166 i v) (yq 0 (yqU U)) := by
      intro v hv
      refine ih (i + 1) _ (by omega) (yWFV w3) (f3.trans (Fr.set (Sc8 (by decide)))) ?_ (fun j hj => ?_) (fun j hj => ?_)
      · rw [zV_V, if_neg (by omega)]
        exact e1
      · rw [zV_V]
        by_cases q : j = i
        · rw [if_pos ⟨rfl, q⟩, q, hv]
        · rw [if_neg (fun r => q r.2)]
          exact e2 j (by omega)
      · rw [zV_V, if_neg (by omega)]
        exact e3 j hj
    refine W190_21 w3 ⟨fun q => absurd q (by omega), fun _ => ⟨fun q => ⟨by omega, ?_⟩, fun q => ⟨by omega, by omega, ?_⟩⟩⟩
    · rw [nz (by omega), Int.toNat_natCast]
      exact set _ (by rw [if_neg (by omega)])
    · rw [nz (by omega), Int.toNat_natCast]
      exact set _ (by rw [if_pos (by omega), e3 i (by omega)])
theorem xMS_set {hd : Nat} (c : xMS zl nl h h2 N dp row st) : xMS zl nl h (zsetV h2 165 dp (hd : Int)) N (dp + 1) (xro row dp hd) st := by
  obtain ⟨c1, c2, c3, c4, c5, c6⟩ := c
  refine ⟨yWFV c1, c2.trans (Fr.set (Sc8 (by decide))), c3, ?_, fun q i hi => ?_, fun i hi => ?_⟩
  · rw [zV_V, if_neg (by omega)]
    exact c4
  · rw [zV_V, if_neg (by omega)]
    exact c5 q i hi
  · rw [zV_V]
    unfold xro
    by_cases q : i = dp
    · rw [if_pos ⟨rfl, q⟩, if_pos q]
    · rw [if_neg (fun r => q r.2), if_neg q]
      exact c6 i (by omega)
theorem xMS_q (c : xMS zl nl h h2 N dp row st) (w3 : yWF zl nl h3) (f : Fr xMq h2 h3) : xMS zl nl h h3 N dp row st := by
  obtain ⟨c1, c2, c3, c4, c5, c6⟩ := c
  have e : ∀ b k, b = 137 ∨ b = 165 ∨ b = 166 → zV h3 b k = zV h2 b k := fun b k q => f.V b k (by unfold xMq; omega)
  refine ⟨w3, c2.trans (f.mono fun _ _ q => xMq_Sc q), c3, by rw [e _ _ (by decide)]; exact c4, fun q i hi => by rw [e _ _ (by decide)]; exact c5 q i hi, fun i hi => by rw [e _ _ (by decide)]; exact c6 i hi⟩
theorem xMS_dn {hd : Nat} (c : xMS zl nl h h2 N (dp + 1) (xro row dp hd) st) : xMS zl nl h h2 N dp row st := by
  obtain ⟨c1, c2, c3, c4, c5, c6⟩ := c
  refine ⟨c1, c2, c3, c4, c5, fun i hi => ?_⟩
  rw [c6 i (by omega)]
  unfold xro
  rw [if_neg (by omega)]
theorem mp190 (o : xMO B h) (hB : B ≤ 100000) (eF : xF h = F) (eσ : hvM h = σ) (hsz : hvM h 0 0 = (sz : Int)) (h6 : sz ≤ 6) (hN : N ≤ 6) : ∀ (f : Nat) {d left dp : Nat} {row : Nat → Int} {tog : Int} {st : xSt} {h2 : Hp} {U : Hp → Prop}, f + 8 ≤ d → left < 2 ^ sz → xpop left < f → dp + xpop left = N → (0 ≤ tog ∧ tog ≤ 6 * dp) → (∀ i, i < dp → 0 ≤ row i ∧ row i < sz) → xMS zl nl h h2 N dp row st → (∀ h', xMS zl nl h h' N dp row (xex (xSH F σ) f left dp row tog st) → U h') → yU d 190 [vR (some 137), vI (dp : Int), vI (left : Int), vI (6 * (dp : Int) - tog)] h2 U := by
  intro f
  have p6 := pw6 h6
  induction f with
  | zero => intro d left dp row tog st h2 U h1 h2' h3; omega
  | succ f ih =>
    intro d left dp row tog st h2 U hd hl hp hdp ht hrow c k
    have kk : ∀ h', xMS zl nl h h' N dp row (if left = 0 then (if st.1 < tog then (tog, row) else st) else xfo (fun hd st => if left / 2 ^ hd % 2 = 1 then xex (xSH F σ) f (left - 2 ^ hd) (dp + 1) (xro row dp hd) (xtg (xSH F σ) row dp hd tog) st else st) 6 st) → U h' := k
    by_cases c0 : left = 0
    · subst c0
      have e0 : xpop 0 = 0 := rfl
      obtain rfl : dp = N := by omega
      have c4 := c.2.2.2.1
      have c3 := c.2.2.1
      refine E190 c.1 ⟨fun q => absurd rfl q, fun _ => ⟨fun q => ?_, fun q => kk h2 ?_⟩⟩
      · have q2 : st.1 < tog := by
          rw [c4] at q
          split at q <;> omega
        refine mp190_leaf (N := dp) (st := st) (h2 := h2) c hN (by omega) (by omega) (fun h3 c5 => kk h3 ?_) 6 0 _ rfl (yWFV c.1) (c.2.1.trans (Fr.set (Sc9 (by decide)))) ?_ (fun j hj => absurd hj (by omega)) (fun j hj => ?_)
        · rw [if_pos rfl, if_pos q2]
          exact c5
        · rw [zV_V, if_pos ⟨rfl, rfl⟩]
        · rw [zV_V, if_neg (by omega)]
          exact c.2.2.2.2.2 j hj
      · have q2 : ¬ st.1 < tog := by
          rw [c4] at q
          split at q <;> omega
        rw [if_pos rfl, if_neg q2]
        exact c
    · have hpos : 0 < xpop left := Nat.pos_of_ne_zero (fun q => c0 (bt5 (by omega) q))
      refine E190 c.1 ⟨fun _ => ?_, fun q => absurd (by omega) q⟩
      have cut : ∀ s : xSt, xfo (fun hd st => if left / 2 ^ hd % 2 = 1 then xex (xSH F σ) f (left - 2 ^ hd) (dp + 1) (xro row dp hd) (xtg (xSH F σ) row dp hd tog) st else st) 6 s = xfo (fun hd st => if left / 2 ^ hd % 2 = 1 then xex (xSH F σ) f (left - 2 ^ hd) (dp + 1) (xro row dp hd) (xtg (xSH F σ) row dp hd tog) st else st) sz s := by
        intro s
        have := xfo_e (g := fun hd st => if left / 2 ^ hd % 2 = 1 then xex (xSH F σ) f (left - 2 ^ hd) (dp + 1) (xro row dp hd) (xtg (xSH F σ) row dp hd tog) st else st) (m := sz) (s := s) (fun i s hi => if_neg (by rw [bt0 hl hi]; decide)) (6 - sz)
        have e : sz + (6 - sz) = 6 := by omega
        rw [e] at this
        exact this
      have lp : ∀ (m hd : Nat) (h3 : Hp), hd + m = sz → xMS zl nl h h3 N dp row (xfo (fun hd st => if left / 2 ^ hd % 2 = 1 then xex (xSH F σ) f (left - 2 ^ hd) (dp + 1) (xro row dp hd) (xtg (xSH F σ) row dp hd tog) st else st) hd st) → ZW d prog_10_method_42_code 8 63 [some (vR (some 137)), some (vI (dp : Int)), some (vI (left : Int)), some (vI (6 * (dp : Int) - tog)), some (vI (hd : Int))] [] h3 (yq 0 (yqU U)) := by
        intro m
        induction m with
        | zero =>
          intro hd h3 hm c3
          obtain rfl : hd = sz := by omega
          have v3 : hvM h3 = hvM h := c3.2.1.hvM xSc_M
          have e0 : zV h3 137 0 = (hd : Int) := by rw [← hsz, ← v3]; rfl
          refine W190_63 c3.1 (by omega) ⟨fun _ => kk h3 ?_, fun q => absurd (by omega) q⟩
          rw [if_neg c0, cut]
          exact c3
        | succ m ihm =>
          intro hd h3 hm c3
          have v3 : hvM h3 = hvM h := c3.2.1.hvM xSc_M
          have e0 : zV h3 137 0 = (sz : Int) := by rw [← hsz, ← v3]; rfl
          refine W190_63 c3.1 (by omega) ⟨fun q => absurd q (by omega), fun _ => ⟨fun q => ?_, fun q => ?_⟩⟩
          · rw [bt1 (by omega) (by omega)] at q
            have q2 : left / 2 ^ hd % 2 = 1 := by omega
            have e2 := bt2 (by omega) (by omega) q2
            have e3 := bt3 (by omega) (by omega) q2
            have sl := Nat.sub_le left (2 ^ hd)
            rw [e2, nz (by omega : dp < 100000), Int.toNat_natCast]
            have cs : xMS zl nl h (zsetV h3 165 dp (hd : Int)) N (dp + 1) (xro row dp hd) (xfo (fun hd st => if left / 2 ^ hd % 2 = 1 then xex (xSH F σ) f (left - 2 ^ hd) (dp + 1) (xro row dp hd) (xtg (xSH F σ) row dp hd tog) st else st) hd st) := xMS_set c3
            have rr : ∀ i, i < dp + 1 → 0 ≤ xro row dp hd i ∧ xro row dp hd i < sz := by
              intro i hi
              unfold xro
              split
              · omega
              · exact hrow i (by omega)
            have back : ∀ (h4 : Hp), xMS zl nl h h4 N (dp + 1) (xro row dp hd) (xex (xSH F σ) f (left - 2 ^ hd) (dp + 1) (xro row dp hd) (xtg (xSH F σ) row dp hd tog) (xfo (fun hd st => if left / 2 ^ hd % 2 = 1 then xex (xSH F σ) f (left - 2 ^ hd) (dp + 1) (xro row dp hd) (xtg (xSH F σ) row dp hd tog) st else st) hd st)) → ZW d prog_10_method_42_code 8 134 [some (vR (some 137)), some (vI (dp : Int)), some (vI (left : Int)), some (vI (6 * (dp : Int) - tog)), some (vI (hd : Int))] [] h4 (yq 0 (yqU U)) := by
              intro h4 c4
              refine W190_134 c4.1 ?_
              rw [nz (by omega)]
              refine ihm (hd + 1) h4 (by omega) ?_
              show xMS zl nl h h4 N dp row (if left / 2 ^ hd % 2 = 1 then xex (xSH F σ) f (left - 2 ^ hd) (dp + 1) (xro row dp hd) (xtg (xSH F σ) row dp hd tog) _ else _)
              rw [if_pos q2]
              exact xMS_dn c4
            have z7 : zw (6 * (dp : Int) - tog + 6) = 6 * (dp : Int) - tog + 6 := zwi (by omega)
            refine ⟨by omega, fun qd => ?_, fun qd => ?_⟩
            · have z1 : zw ((dp : Int) - 1) = ((dp - 1 : Nat) : Int) := by rw [zwi (by omega)]; omega
              have r1 := hrow (dp - 1) (by omega)
              have e4 : zV (zsetV h3 165 dp (hd : Int)) 165 (dp - 1) = row (dp - 1) := by
                rw [zV_V, if_neg (by omega)]
                exact c3.2.2.2.2.2 (dp - 1) (by omega)
              rw [z1, Int.toNat_natCast, e4, z7]
              have o2 : xMO B (zsetV h3 165 dp (hd : Int)) := scO cs.2.1 o
              refine ⟨by omega, mp188 cs.1 (by omega) o2 hB (by omega) (by omega) fun h4 w4 f4 => W190_130 w4 (by omega) ?_⟩
              have e5 : xshr (xN (xF (zsetV h3 165 dp (hd : Int))) (hvM (zsetV h3 165 dp (hd : Int))) (row (dp - 1))) (xN (xF (zsetV h3 165 dp (hd : Int))) (hvM (zsetV h3 165 dp (hd : Int))) hd) = xSH F σ (row (dp - 1)) hd := by
                unfold xSH
                rw [cs.2.1.scF o.1, cs.2.1.hvM xSc_M, eF, eσ]
              rw [e5]
              have s5 := xSH_r (F := F) (σ := σ) (row (dp - 1)) hd
              have e6 : zw (6 * (dp : Int) - tog + 6 - xSH F σ (row (dp - 1)) hd) = 6 * ((dp + 1 : Nat) : Int) - xtg (xSH F σ) row dp hd tog := by
                unfold xtg
                rw [if_neg (by omega), zwi (by omega)]
                omega
              rw [e6]
              refine ih (by omega) (by omega) (by omega) (by omega) ?_ rr (xMS_q cs w4 f4) fun h5 c5 => back h5 c5
              unfold xtg
              rw [if_neg (by omega)]
              omega
            · have hd0 : dp = 0 := by omega
              have e6 : zw (zw (6 * (dp : Int) - tog + 6) - 0) = 6 * ((dp + 1 : Nat) : Int) - xtg (xSH F σ) row dp hd tog := by
                unfold xtg
                rw [if_pos hd0, z7, zwi (by omega)]
                omega
              rw [e6]
              refine ih (by omega) (by omega) (by omega) (by omega) ?_ rr cs fun h4 c4 => back h4 c4
              unfold xtg
              rw [if_pos hd0]
              omega
          · have q := Classical.byContradiction q
            rw [bt1 (by omega) (by omega)] at q
            have q2 : ¬ (left / 2 ^ hd % 2 = 1) := by omega
            rw [nz (by omega)]
            refine ihm (hd + 1) h3 (by omega) ?_
            show xMS zl nl h h3 N dp row (if left / 2 ^ hd % 2 = 1 then xex (xSH F σ) f (left - 2 ^ hd) (dp + 1) (xro row dp hd) (xtg (xSH F σ) row dp hd tog) _ else _)
            rw [if_neg q2]
            exact c3
      exact lp sz 0 h2 (by omega) c
end XAO
