/-! ANTHEMS: what is sought, and bits -/
def xfo {S : Type} (g : Nat → S → S) : Nat → S → S
  | 0, s => s
  | n + 1, s => g n (xfo g n s)
abbrev xSt : Type := Int × (Nat → Int)
def xro (row : Nat → Int) (dp hd : Nat) : Nat → Int := fun i => if i = dp then (hd : Int) else row i
def xtg (Sh : Int → Int → Int) (row : Nat → Int) (dp hd : Nat) (tog : Int) : Int := tog + if dp = 0 then 0 else Sh (row (dp - 1)) hd
def xex (Sh : Int → Int → Int) : Nat → Nat → Nat → (Nat → Int) → Int → xSt → xSt
  | 0, _, _, _, _, st => st
  | f + 1, left, dp, row, tog, st => if left = 0 then (if st.1 < tog then (tog, row) else st) else xfo (fun hd st => if left / 2 ^ hd % 2 = 1 then xex Sh f (left - 2 ^ hd) (dp + 1) (xro row dp hd) (xtg Sh row dp hd tog) st else st) 6 st
def xpop (l : Nat) : Nat := l % 2 + l / 2 % 2 + l / 4 % 2 + l / 8 % 2 + l / 16 % 2 + l / 32 % 2
theorem zb1 : ∀ l : Fin 64, ∀ b : Fin 6, zand (zshr ((l.val : Nat) : Int) ((b.val : Nat) : Int)) 1 = ((l.val / 2 ^ b.val % 2 : Nat) : Int) := by decide +kernel
theorem zb2 : ∀ l : Fin 64, ∀ b : Fin 6, l.val / 2 ^ b.val % 2 = 1 → zand ((l.val : Nat) : Int) (zxor (zshl 1 ((b.val : Nat) : Int)) (-1)) = ((l.val - 2 ^ b.val : Nat) : Int) := by decide +kernel
theorem zb3 : ∀ l : Fin 64, ∀ b : Fin 6, l.val / 2 ^ b.val % 2 = 1 → xpop (l.val - 2 ^ b.val) + 1 = xpop l.val := by decide +kernel
theorem zb5 : ∀ l : Fin 64, xpop l.val = 0 → l.val = 0 := by decide +kernel
theorem zb6 : ∀ n : Fin 7, zw (zshl 1 ((n.val : Nat) : Int) - 1) = ((2 ^ n.val : Nat) : Int) - 1 := by decide +kernel
theorem zb7 : ∀ n : Fin 7, ∀ l : Fin 64, l.val < 2 ^ n.val → zshr ((l.val : Nat) : Int) ((n.val : Nat) : Int) = 0 := by decide +kernel
theorem zb8 : ∀ n : Fin 7, ∀ l : Fin 64, l.val < 2 ^ n.val → xpop l.val ≤ n.val := by decide +kernel
theorem zb9 : ∀ l : Fin 64, l.val ≠ 0 → ∃ b : Fin 6, l.val / 2 ^ b.val % 2 = 1 := by decide +kernel
section XAN
variable {zl : Nat} {nl : Option Nat} {xs : Nat → Int} {h h' h1 h2 h3 H : Hp} {d : Nat} {K : Int → Hp → Prop} {KJ : Int64 → Hp → Prop} {U : Hp → Prop} {a n b j i m o l N dp left sz : Nat} {x y t u B tog : Int} {Sh : Int → Int → Int} {row : Nat → Int} {st : xSt} {σ : Vw} {F : Int → (Nat → Int) → Int}
theorem bt1 (hl : l < 64) (hb : b < 6) : zand (zshr (l : Int) (b : Int)) 1 = ((l / 2 ^ b % 2 : Nat) : Int) := zb1 ⟨l, hl⟩ ⟨b, hb⟩
theorem bt2 (hl : l < 64) (hb : b < 6) (q : l / 2 ^ b % 2 = 1) : zand (l : Int) (zxor (zshl 1 (b : Int)) (-1)) = ((l - 2 ^ b : Nat) : Int) := zb2 ⟨l, hl⟩ ⟨b, hb⟩ q
theorem bt3 (hl : l < 64) (hb : b < 6) (q : l / 2 ^ b % 2 = 1) : xpop (l - 2 ^ b) + 1 = xpop l := zb3 ⟨l, hl⟩ ⟨b, hb⟩ q
theorem bt5 (hl : l < 64) (q : xpop l = 0) : l = 0 := zb5 ⟨l, hl⟩ q
theorem pw6 (h : sz ≤ 6) : 2 ^ sz ≤ 64 := Nat.pow_le_pow_right (n := 2) (by decide) h
theorem bt0 (hl : l < 2 ^ sz) (hb : sz ≤ b) : l / 2 ^ b % 2 = 0 := by
  have : 2 ^ sz ≤ 2 ^ b := Nat.pow_le_pow_right (n := 2) (by decide) hb
  rw [Nat.div_eq_of_lt (by omega)]
theorem xfo_e {S : Type} {g : Nat → S → S} {m : Nat} {s : S} (e : ∀ i s, m ≤ i → g i s = s) : ∀ k, xfo g (m + k) s = xfo g m s := by
  intro k
  induction k with
  | zero => rfl
  | succ k ih =>
    show g (m + k) (xfo g (m + k) s) = _
    rw [e _ _ (by omega), ih]
/-- something is always found -/
theorem xex_0 (hSh : ∀ a b, 0 ≤ Sh a b) : ∀ (f left dp : Nat) (row : Nat → Int) (tog : Int) (st : xSt), left < 64 → xpop left < f → 0 ≤ tog → 0 ≤ (xex Sh f left dp row tog st).1 := by
  intro f
  induction f with
  | zero => intro left dp row tog st h1 h2; omega
  | succ f ih =>
    intro left dp row tog st hl hp ht
    show 0 ≤ (if left = 0 then (if st.1 < tog then (tog, row) else st) else _ : xSt).1
    by_cases c : left = 0
    · rw [if_pos c]
      split
      · exact ht
      · omega
    · rw [if_neg c]
      obtain ⟨⟨b, hb⟩, hbit⟩ := zb9 ⟨left, hl⟩ c
      have hbit : left / 2 ^ b % 2 = 1 := hbit
      have gt : ∀ hd (st : xSt), hd < 6 → left / 2 ^ hd % 2 = 1 → 0 ≤ (xex Sh f (left - 2 ^ hd) (dp + 1) (xro row dp hd) (xtg Sh row dp hd tog) st).1 := by
        intro hd st h6 hq
        have := bt3 hl h6 hq
        have sl := Nat.sub_le left (2 ^ hd)
        refine ih _ _ _ _ _ (by omega) (by omega) ?_
        unfold xtg
        split
        · omega
        · have := hSh (row (dp - 1)) hd; omega
      have key : ∀ m, m ≤ 6 → b < m → 0 ≤ (xfo (fun hd st => if left / 2 ^ hd % 2 = 1 then xex Sh f (left - 2 ^ hd) (dp + 1) (xro row dp hd) (xtg Sh row dp hd tog) st else st) m st).1 := by
        intro m
        induction m with
        | zero => intro _ q; omega
        | succ m ihm =>
          intro h6 q
          show 0 ≤ (if left / 2 ^ m % 2 = 1 then xex Sh f (left - 2 ^ m) (dp + 1) (xro row dp m) (xtg Sh row dp m tog) _ else _ : xSt).1
          by_cases c2 : left / 2 ^ m % 2 = 1
          · rw [if_pos c2]
            exact gt m _ (by omega) c2
          · rw [if_neg c2]
            refine ihm (by omega) ?_
            rcases Nat.lt_or_ge b m with r | r
            · exact r
            · have : b = m := by omega
              subst this
              exact absurd hbit c2
      exact key 6 (by decide) hb
/-- the class's search stands so -/
def xCS (zl : Nat) (nl : Option Nat) (h h2 : Hp) (Sh : Int → Int → Int) (sz N dp : Nat) (row : Nat → Int) (st : xSt) : Prop := yWF zl nl h2 ∧ Fr xSc h h2 ∧ zV h2 96 4 = (N : Int) ∧ (∀ a b : Nat, a < sz → b < sz → zV h2 97 (6 * a + b) = Sh a b) ∧ zV h2 96 5 = st.1 ∧ (st.1 ≠ -1 → ∀ i, i < N → zV h2 100 i = st.2 i) ∧ ∀ i, i < dp → zV h2 99 i = row i
theorem cp87 (c : xCS zl nl h h2 Sh sz N N row st) (hd : 1 ≤ d) (hN : N ≤ 6) (k : ∀ h', xCS zl nl h h' Sh sz N N row (if st.1 < tog then (tog, row) else st) → U h') : yU d 87 [vR (some 96), vI tog] h2 U := by
  obtain ⟨c1, c2, c3, c4, c5, c6, c7⟩ := c
  refine E87 c1 hd ⟨fun q => ?_, fun q => ?_⟩
  · refine k h2 ?_
    rw [if_neg (by omega)]
    exact ⟨c1, c2, c3, c4, c5, c6, c7⟩
  · intro g hg
    have vV : ∀ b k, zV g b k = if b = 100 ∧ 0 ≤ k ∧ k < 0 + 6 then (if 99 = 96 ∧ 0 + (k - 0) = 5 then tog else zV h2 99 (0 + (k - 0))) else if b = 96 ∧ k = 5 then tog else zV h2 b k := by
      intro b k
      rw [← hg]
      rfl
    refine k g ?_
    rw [if_pos (by omega)]
    refine ⟨by rw [← hg]; exact c1, c2.trans ?_, ?_, fun a b ha hb => ?_, ?_, fun _ i hi => ?_, fun i hi => ?_⟩
    · refine ⟨by rw [← hg]; rfl, by rw [← hg]; rfl, by rw [← hg]; rfl, by rw [← hg]; rfl, fun a k _ _ => by rw [← hg]; rfl, fun b k q2 => ?_⟩
      have q3 : ¬ (96 ≤ b ∧ b ≤ 100) := fun r => q2 (Sc4 r)
      rw [vV, if_neg (by omega), if_neg (by omega)]
    · rw [vV, if_neg (by omega), if_neg (by omega)]
      exact c3
    · rw [vV, if_neg (by omega), if_neg (by omega)]
      exact c4 a b ha hb
    · rw [vV, if_neg (by omega), if_pos (by omega)]
    · rw [vV, if_pos (by omega), if_neg (by omega)]
      have e : 0 + (i - 0) = i := by omega
      rw [e]
      exact c7 i hi
    · rw [vV, if_neg (by omega), if_neg (by omega)]
      exact c7 i hi
theorem xCS_set {hd : Nat} (c : xCS zl nl h h2 Sh sz N dp row st) : xCS zl nl h (zsetV h2 99 dp (hd : Int)) Sh sz N (dp + 1) (xro row dp hd) st := by
  obtain ⟨c1, c2, c3, c4, c5, c6, c7⟩ := c
  refine ⟨yWFV c1, c2.trans (Fr.set (Sc4 (by decide))), c3, fun a b ha hb => ?_, c5, fun q i hi => ?_, fun i hi => ?_⟩
  · rw [zV_V, if_neg (by omega)]
    exact c4 a b ha hb
  · rw [zV_V, if_neg (by omega)]
    exact c6 q i hi
  · rw [zV_V]
    unfold xro
    by_cases q : i = dp
    · rw [if_pos ⟨rfl, q⟩, if_pos q]
    · rw [if_neg (fun r => q r.2), if_neg q]
      exact c7 i (by omega)
theorem xCS_dn {hd : Nat} (c : xCS zl nl h h2 Sh sz N (dp + 1) (xro row dp hd) st) : xCS zl nl h h2 Sh sz N dp row st := by
  obtain ⟨c1, c2, c3, c4, c5, c6, c7⟩ := c
  refine ⟨c1, c2, c3, c4, c5, c6, fun i hi => ?_⟩
  rw [c7 i (by omega)]
  unfold xro
  rw [if_neg (by omega)]
theorem cp86 (hSh : ∀ a b, 0 ≤ Sh a b ∧ Sh a b ≤ 6) (hsz : sz ≤ 6) (hN : N ≤ 6) : ∀ (f : Nat) {d left dp : Nat} {row : Nat → Int} {tog : Int} {st : xSt} {h2 : Hp} {U : Hp → Prop}, f + 3 ≤ d → left < 2 ^ sz → xpop left < f → dp + xpop left = N → (0 ≤ tog ∧ tog ≤ 6 * dp) → (∀ i, i < dp → 0 ≤ row i ∧ row i < sz) → xCS zl nl h h2 Sh sz N dp row st → (∀ h', xCS zl nl h h' Sh sz N dp row (xex Sh f left dp row tog st) → U h') → yU d 86 [vR (some 96), vI (left : Int), vI (dp : Int), vI tog] h2 U := by
  intro f
  have p6 := pw6 hsz
  induction f with
  | zero => intro d left dp row tog st h2 U h1 h2' h3; omega
  | succ f ih =>
    intro d left dp row tog st h2 U hd hl hp hdp ht hrow c k
    have kk : ∀ h', xCS zl nl h h' Sh sz N dp row (if left = 0 then (if st.1 < tog then (tog, row) else st) else xfo (fun hd st => if left / 2 ^ hd % 2 = 1 then xex Sh f (left - 2 ^ hd) (dp + 1) (xro row dp hd) (xtg Sh row dp hd tog) st else st) 6 st) → U h' := k
    by_cases c0 : left = 0
    · subst c0
      have e0 : xpop 0 = 0 := rfl
      obtain rfl : dp = N := by omega
      refine E86 c.1 (by omega) ⟨fun _ => ?_, fun q => absurd rfl q⟩
      refine cp87 c (by omega) hN fun h3 c3 => W86_15 c3.1 (kk h3 ?_)
      rw [if_pos rfl]
      exact c3
    · have hpos : 0 < xpop left := Nat.pos_of_ne_zero (fun q => c0 (bt5 (by omega) q))
      refine E86 c.1 (by omega) ⟨fun q => absurd q (by omega), fun _ => ⟨fun _ => ?_, fun q => absurd (by omega) q⟩⟩
      have lp : ∀ (m hd : Nat) (h3 : Hp) (l5 : Option Int), hd + m = 6 → xCS zl nl h h3 Sh sz N dp row (xfo (fun hd st => if left / 2 ^ hd % 2 = 1 then xex Sh f (left - 2 ^ hd) (dp + 1) (xro row dp hd) (xtg Sh row dp hd tog) st else st) hd st) → ZW d prog_3_method_4_code 1 19 [some (vR (some 96)), some (vI (left : Int)), some (vI (dp : Int)), some (vI tog), some (vI (hd : Int)), yo l5] [] h3 (yq 0 (yqU U)) := by
        intro m
        induction m with
        | zero =>
          intro hd h3 l5 hm c3
          obtain rfl : hd = 6 := by omega
          refine W86_19 c3.1 (by omega) ⟨fun _ => kk h3 ?_, fun q => absurd (by decide) q⟩
          rw [if_neg c0]
          exact c3
        | succ m ihm =>
          intro hd h3 l5 hm c3
          refine W86_19 c3.1 (by omega) ⟨fun q => absurd q (by omega), fun _ => ⟨fun q => ?_, fun q => ?_⟩⟩
          · rw [bt1 (by omega) (by omega)] at q
            have q2 : ¬ (left / 2 ^ hd % 2 = 1) := fun r => q (by rw [r]; rfl)
            rw [nz (by omega)]
            refine ihm (hd + 1) h3 l5 (by omega) ?_
            show xCS zl nl h h3 Sh sz N dp row (if left / 2 ^ hd % 2 = 1 then xex Sh f (left - 2 ^ hd) (dp + 1) (xro row dp hd) (xtg Sh row dp hd tog) _ else _)
            rw [if_neg q2]
            exact c3
          · have q := Classical.byContradiction q
            rw [bt1 (by omega) (by omega)] at q
            have q2 : left / 2 ^ hd % 2 = 1 := by omega
            have hs : hd < sz := Nat.lt_of_not_le (fun r => by have := bt0 hl r; omega)
            have e2 := bt2 (by omega) (by omega) q2
            have e3 := bt3 (by omega) (by omega) q2
            have sl := Nat.sub_le left (2 ^ hd)
            rw [e2, nz (by omega : dp < 100000), Int.toNat_natCast]
            have cs : xCS zl nl h (zsetV h3 99 dp (hd : Int)) Sh sz N (dp + 1) (xro row dp hd) (xfo (fun hd st => if left / 2 ^ hd % 2 = 1 then xex Sh f (left - 2 ^ hd) (dp + 1) (xro row dp hd) (xtg Sh row dp hd tog) st else st) hd st) := xCS_set c3
            have rr : ∀ i, i < dp + 1 → 0 ≤ xro row dp hd i ∧ xro row dp hd i < sz := by
              intro i hi
              unfold xro
              split
              · omega
              · exact hrow i (by omega)
            have back : ∀ (h4 : Hp) (l5' : Int), xCS zl nl h h4 Sh sz N (dp + 1) (xro row dp hd) (xex Sh f (left - 2 ^ hd) (dp + 1) (xro row dp hd) (xtg Sh row dp hd tog) (xfo (fun hd st => if left / 2 ^ hd % 2 = 1 then xex Sh f (left - 2 ^ hd) (dp + 1) (xro row dp hd) (xtg Sh row dp hd tog) st else st) hd st)) → ZW d prog_3_method_4_code 1 92 [some (vR (some 96)), some (vI (left : Int)), some (vI (dp : Int)), some (vI tog), some (vI (hd : Int)), some (vI l5')] [] h4 (yq 0 (yqU U)) := by
              intro h4 l5' c4
              refine W86_92 c4.1 ?_
              rw [nz (by omega)]
              refine ihm (hd + 1) h4 (some l5') (by omega) ?_
              show xCS zl nl h h4 Sh sz N dp row (if left / 2 ^ hd % 2 = 1 then xex Sh f (left - 2 ^ hd) (dp + 1) (xro row dp hd) (xtg Sh row dp hd tog) _ else _)
              rw [if_pos q2]
              exact xCS_dn c4
            refine ⟨by omega, fun qd => ?_, fun qd => ?_⟩
            · have z1 : zw ((dp : Int) - 1) = ((dp - 1 : Nat) : Int) := by rw [zwi (by omega)]; omega
              have r1 := hrow (dp - 1) (by omega)
              have e4 : zV (zsetV h3 99 dp (hd : Int)) 99 (dp - 1) = row (dp - 1) := by
                rw [zV_V, if_neg (by omega)]
                exact c3.2.2.2.2.2.2 (dp - 1) (by omega)
              rw [z1, Int.toNat_natCast, e4]
              obtain ⟨q, hq⟩ : ∃ q : Nat, row (dp - 1) = q := ⟨(row (dp - 1)).toNat, by omega⟩
              have z2 : zw (zw (row (dp - 1) * 6) + (hd : Int)) = ((6 * q + hd : Nat) : Int) := by rw [hq, zwi (x := (q : Int) * 6) (by omega), zwi (by omega)]; omega
              have e5 : zV (zsetV h3 99 dp (hd : Int)) 97 (6 * q + hd) = Sh (row (dp - 1)) hd := by
                rw [hq]
                exact cs.2.2.2.1 q hd (by omega) hs
              have s5 := hSh (row (dp - 1)) hd
              rw [z2, Int.toNat_natCast, e5, zwi (x := tog + _) (by omega)]
              have e6 : tog + Sh (row (dp - 1)) hd = xtg Sh row dp hd tog := by unfold xtg; rw [if_neg (by omega)]
              rw [e6]
              refine ⟨by omega, by omega, ih (by omega) (by omega) (by omega) (by omega) ?_ rr cs fun h4 c4 => back h4 _ c4⟩
              rw [← e6]
              omega
            · have hd0 : dp = 0 := by omega
              rw [zwi (x := tog + 0) (by omega)]
              have e6 : tog + 0 = xtg Sh row dp hd tog := by unfold xtg; rw [if_pos hd0]
              rw [e6]
              refine ih (by omega) (by omega) (by omega) (by omega) ?_ rr cs fun h4 c4 => back h4 _ c4
              rw [← e6]
              omega
      exact lp 6 0 h2 none rfl c
end XAN
