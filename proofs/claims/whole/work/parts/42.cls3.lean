/-! THE CLASS: years, plans, copies -/
def xGO (h : Hp) : Prop := ∀ ho, 0 ≤ xG h ho ∧ xG h ho ≤ 1000
/-- all cells of a house may have changed, and its shop -/
def Fa (a : Nat) (h h' : Hp) : Prop := zS h' = zS h ∧ zJ h' = zJ h ∧ zN h' = zN h ∧ zM h' = zM h ∧ (∀ c k, ¬ (c = a ∧ k = 12) → zP h' c k = zP h c k) ∧ ∀ b k, ¬ (a ≤ b ∧ b ≤ a + 14) → zV h' b k = zV h b k
/-- one Rows copied to another -/
def Cp (r q n : Nat) (h h' : Hp) : Prop := (zS h' = zS h ∧ zJ h' = zJ h ∧ zP h' = zP h ∧ zN h' = zN h ∧ zM h' = zM h) ∧ ∀ c k, zV h' c k = if c = r ∧ k = 1 then zV h q 1 else if c = r + 1 ∧ k < n then zV h (q + 1) k else zV h c k
def xcO (j k : Nat) : Option (Nat × Nat) :=
  if j = 0 ∧ k = 0 then some (0, 10) else if j = 0 ∧ k = 1 then some (0, 11) else if j = 0 ∧ k = 2 then some (7, 1) else if j = 0 ∧ k = 3 then some (9, 1) else if j = 0 ∧ k = 4 then some (11, 1) else if j = 0 ∧ k = 5 then some (13, 1) else if j = 1 ∧ k < 6 then some (1, k) else if j = 2 ∧ k < 6 then some (2, k) else if j = 3 ∧ k < 6 then some (3, k) else if j = 4 ∧ k < 36 then some (4, k) else if j = 5 ∧ k < 24 then some (5, k) else if j = 6 ∧ k < 8 then some (8, 4 * k) else if j = 7 ∧ k < 10 then some (12, 4 * k) else if j = 8 ∧ k < 10 then some (12, 4 * k + 1) else if j = 9 ∧ k < 8 then some (14, 4 * k) else if j = 10 ∧ k < 8 then some (14, 4 * k + 1) else if j = 11 ∧ k < 5 then some (10, 4 * k) else if j = 12 ∧ k < 5 then some (10, 4 * k + 1) else if j = 13 ∧ k < 5 then some (10, 4 * k + 2) else if j = 14 ∧ k < 5 then some (10, 4 * k + 3) else none
theorem xcC_O (a j k : Nat) : xcC a j k = (xcO j k).map (fun q => (a + q.1, q.2)) := by
  unfold xcC xcO
  by_cases c0 : j = 0 ∧ k = 0
  · rw [if_pos c0, if_pos c0]; rfl
  rw [if_neg c0, if_neg c0]
  by_cases c1 : j = 0 ∧ k = 1
  · rw [if_pos c1, if_pos c1]; rfl
  rw [if_neg c1, if_neg c1]
  by_cases c2 : j = 0 ∧ k = 2
  · rw [if_pos c2, if_pos c2]; rfl
  rw [if_neg c2, if_neg c2]
  by_cases c3 : j = 0 ∧ k = 3
  · rw [if_pos c3, if_pos c3]; rfl
  rw [if_neg c3, if_neg c3]
  by_cases c4 : j = 0 ∧ k = 4
  · rw [if_pos c4, if_pos c4]; rfl
  rw [if_neg c4, if_neg c4]
  by_cases c5 : j = 0 ∧ k = 5
  · rw [if_pos c5, if_pos c5]; rfl
  rw [if_neg c5, if_neg c5]
  by_cases c6 : j = 1 ∧ k < 6
  · rw [if_pos c6, if_pos c6]; rfl
  rw [if_neg c6, if_neg c6]
  by_cases c7 : j = 2 ∧ k < 6
  · rw [if_pos c7, if_pos c7]; rfl
  rw [if_neg c7, if_neg c7]
  by_cases c8 : j = 3 ∧ k < 6
  · rw [if_pos c8, if_pos c8]; rfl
  rw [if_neg c8, if_neg c8]
  by_cases c9 : j = 4 ∧ k < 36
  · rw [if_pos c9, if_pos c9]; rfl
  rw [if_neg c9, if_neg c9]
  by_cases c10 : j = 5 ∧ k < 24
  · rw [if_pos c10, if_pos c10]; rfl
  rw [if_neg c10, if_neg c10]
  by_cases c11 : j = 6 ∧ k < 8
  · rw [if_pos c11, if_pos c11]; rfl
  rw [if_neg c11, if_neg c11]
  by_cases c12 : j = 7 ∧ k < 10
  · rw [if_pos c12, if_pos c12]; rfl
  rw [if_neg c12, if_neg c12]
  by_cases c13 : j = 8 ∧ k < 10
  · rw [if_pos c13, if_pos c13]; rfl
  rw [if_neg c13, if_neg c13]
  by_cases c14 : j = 9 ∧ k < 8
  · rw [if_pos c14, if_pos c14]; rfl
  rw [if_neg c14, if_neg c14]
  by_cases c15 : j = 10 ∧ k < 8
  · rw [if_pos c15, if_pos c15]; rfl
  rw [if_neg c15, if_neg c15]
  by_cases c16 : j = 11 ∧ k < 5
  · rw [if_pos c16, if_pos c16]; rfl
  rw [if_neg c16, if_neg c16]
  by_cases c17 : j = 12 ∧ k < 5
  · rw [if_pos c17, if_pos c17]; rfl
  rw [if_neg c17, if_neg c17]
  by_cases c18 : j = 13 ∧ k < 5
  · rw [if_pos c18, if_pos c18]; rfl
  rw [if_neg c18, if_neg c18]
  by_cases c19 : j = 14 ∧ k < 5
  · rw [if_pos c19, if_pos c19]; rfl
  rw [if_neg c19, if_neg c19]
  rfl
def xoK (c i : Nat) : Prop := (c = 0 ∧ (i = 10 ∨ i = 11)) ∨ ((c = 7 ∨ c = 9 ∨ c = 11 ∨ c = 13) ∧ i = 1) ∨ ((c = 1 ∨ c = 2 ∨ c = 3) ∧ i < 6) ∨ (c = 4 ∧ i < 36) ∨ (c = 5 ∧ i < 24) ∨ ((c = 8 ∨ c = 14) ∧ i < 32) ∨ (c = 12 ∧ i < 40) ∨ (c = 10 ∧ i < 20)
theorem xcO_inv {j k c i : Nat} (e : xcO j k = some (c, i)) : xoK c i := by
  unfold xcO at e
  by_cases c0 : j = 0 ∧ k = 0
  · rw [if_pos c0] at e
    have e1 : 0 = c := congrArg Prod.fst (Option.some.inj e)
    have e2 : 10 = i := congrArg Prod.snd (Option.some.inj e)
    unfold xoK; omega
  rw [if_neg c0] at e
  by_cases c1 : j = 0 ∧ k = 1
  · rw [if_pos c1] at e
    have e1 : 0 = c := congrArg Prod.fst (Option.some.inj e)
    have e2 : 11 = i := congrArg Prod.snd (Option.some.inj e)
    unfold xoK; omega
  rw [if_neg c1] at e
  by_cases c2 : j = 0 ∧ k = 2
  · rw [if_pos c2] at e
    have e1 : 7 = c := congrArg Prod.fst (Option.some.inj e)
    have e2 : 1 = i := congrArg Prod.snd (Option.some.inj e)
    unfold xoK; omega
  rw [if_neg c2] at e
  by_cases c3 : j = 0 ∧ k = 3
  · rw [if_pos c3] at e
    have e1 : 9 = c := congrArg Prod.fst (Option.some.inj e)
    have e2 : 1 = i := congrArg Prod.snd (Option.some.inj e)
    unfold xoK; omega
  rw [if_neg c3] at e
  by_cases c4 : j = 0 ∧ k = 4
  · rw [if_pos c4] at e
    have e1 : 11 = c := congrArg Prod.fst (Option.some.inj e)
    have e2 : 1 = i := congrArg Prod.snd (Option.some.inj e)
    unfold xoK; omega
  rw [if_neg c4] at e
  by_cases c5 : j = 0 ∧ k = 5
  · rw [if_pos c5] at e
    have e1 : 13 = c := congrArg Prod.fst (Option.some.inj e)
    have e2 : 1 = i := congrArg Prod.snd (Option.some.inj e)
    unfold xoK; omega
  rw [if_neg c5] at e
  by_cases c6 : j = 1 ∧ k < 6
  · rw [if_pos c6] at e
    have e1 : 1 = c := congrArg Prod.fst (Option.some.inj e)
    have e2 : k = i := congrArg Prod.snd (Option.some.inj e)
    unfold xoK; omega
  rw [if_neg c6] at e
  by_cases c7 : j = 2 ∧ k < 6
  · rw [if_pos c7] at e
    have e1 : 2 = c := congrArg Prod.fst (Option.some.inj e)
    have e2 : k = i := congrArg Prod.snd (Option.some.inj e)
    unfold xoK; omega
  rw [if_neg c7] at e
  by_cases c8 : j = 3 ∧ k < 6
  · rw [if_pos c8] at e
    have e1 : 3 = c := congrArg Prod.fst (Option.some.inj e)
    have e2 : k = i := congrArg Prod.snd (Option.some.inj e)
    unfold xoK; omega
  rw [if_neg c8] at e
  by_cases c9 : j = 4 ∧ k < 36
  · rw [if_pos c9] at e
    have e1 : 4 = c := congrArg Prod.fst (Option.some.inj e)
    have e2 : k = i := congrArg Prod.snd (Option.some.inj e)
    unfold xoK; omega
  rw [if_neg c9] at e
  by_cases c10 : j = 5 ∧ k < 24
  · rw [if_pos c10] at e
    have e1 : 5 = c := congrArg Prod.fst (Option.some.inj e)
    have e2 : k = i := congrArg Prod.snd (Option.some.inj e)
    unfold xoK; omega
  rw [if_neg c10] at e
  by_cases c11 : j = 6 ∧ k < 8
  · rw [if_pos c11] at e
    have e1 : 8 = c := congrArg Prod.fst (Option.some.inj e)
    have e2 : 4 * k = i := congrArg Prod.snd (Option.some.inj e)
    unfold xoK; omega
  rw [if_neg c11] at e
  by_cases c12 : j = 7 ∧ k < 10
  · rw [if_pos c12] at e
    have e1 : 12 = c := congrArg Prod.fst (Option.some.inj e)
    have e2 : 4 * k = i := congrArg Prod.snd (Option.some.inj e)
    unfold xoK; omega
  rw [if_neg c12] at e
  by_cases c13 : j = 8 ∧ k < 10
  · rw [if_pos c13] at e
    have e1 : 12 = c := congrArg Prod.fst (Option.some.inj e)
    have e2 : 4 * k + 1 = i := congrArg Prod.snd (Option.some.inj e)
    unfold xoK; omega
  rw [if_neg c13] at e
  by_cases c14 : j = 9 ∧ k < 8
  · rw [if_pos c14] at e
    have e1 : 14 = c := congrArg Prod.fst (Option.some.inj e)
    have e2 : 4 * k = i := congrArg Prod.snd (Option.some.inj e)
    unfold xoK; omega
  rw [if_neg c14] at e
  by_cases c15 : j = 10 ∧ k < 8
  · rw [if_pos c15] at e
    have e1 : 14 = c := congrArg Prod.fst (Option.some.inj e)
    have e2 : 4 * k + 1 = i := congrArg Prod.snd (Option.some.inj e)
    unfold xoK; omega
  rw [if_neg c15] at e
  by_cases c16 : j = 11 ∧ k < 5
  · rw [if_pos c16] at e
    have e1 : 10 = c := congrArg Prod.fst (Option.some.inj e)
    have e2 : 4 * k = i := congrArg Prod.snd (Option.some.inj e)
    unfold xoK; omega
  rw [if_neg c16] at e
  by_cases c17 : j = 12 ∧ k < 5
  · rw [if_pos c17] at e
    have e1 : 10 = c := congrArg Prod.fst (Option.some.inj e)
    have e2 : 4 * k + 1 = i := congrArg Prod.snd (Option.some.inj e)
    unfold xoK; omega
  rw [if_neg c17] at e
  by_cases c18 : j = 13 ∧ k < 5
  · rw [if_pos c18] at e
    have e1 : 10 = c := congrArg Prod.fst (Option.some.inj e)
    have e2 : 4 * k + 2 = i := congrArg Prod.snd (Option.some.inj e)
    unfold xoK; omega
  rw [if_neg c18] at e
  by_cases c19 : j = 14 ∧ k < 5
  · rw [if_pos c19] at e
    have e1 : 10 = c := congrArg Prod.fst (Option.some.inj e)
    have e2 : 4 * k + 3 = i := congrArg Prod.snd (Option.some.inj e)
    unfold xoK; omega
  rw [if_neg c19] at e
  cases e
section XC3
variable {zl : Nat} {nl : Option Nat} {h : Hp} {d : Nat} {K : Int → Hp → Prop} {U : Hp → Prop} {a n s b : Nat} {x y z B : Int}
theorem ymin_nn {n : Nat} : ymin (n : Int) (n : Int) = n := by unfold ymin; split <;> rfl
theorem cp29 {r q : Nat} (w : yWF zl nl h) (ha : yRs r n) (hb : yRs q n) (hd : 1 ≤ d) (k : ∀ h', yWF zl nl h' → Cp r q n h h' → U h') : yU d 29 [vR (some r), vR (some q)] h U := by
  have h40 := yR_n ha
  have hne : ¬ (q = r + 1) := by
    obtain ⟨a, rfl | rfl | rfl, e⟩ := ha <;> obtain ⟨b, rfl | rfl | rfl, e2⟩ := hb <;> omega
  refine E29 w ha hb hd ?_
  rw [ymin_nn]
  refine ⟨by omega, ?_⟩
  rintro _ rfl
  rw [Int.toNat_natCast]
  refine k _ (yWFV w) ⟨⟨rfl, rfl, rfl, rfl, rfl⟩, fun c j => ?_⟩
  rw [zV_V, zV_c, zV_c, if_neg (by omega : ¬ (q = r + 1 ∧ _))]
  by_cases c1 : c = r ∧ j = 1
  · rw [if_pos c1, if_pos c1]
  · rw [if_neg c1, if_neg c1]
    by_cases c2 : c = r + 1 ∧ j < n
    · rw [if_pos ⟨c2.1, by omega, by omega⟩, if_pos c2]
      congr 1
      omega
    · rw [if_neg (by omega), if_neg c2]
theorem cp28 (w : yWF zl nl h) (ha : yHs a) (hb : yHs b) (hab : a ≠ b) (hd : 2 ≤ d) (k : ∀ h', yWF zl nl h' → Fa a h h' → hvC h' a = hvC h b → U h') : yU d 28 [vR (some a), vR (some b)] h U := by
  have hA : a = 33 ∨ a = 52 ∨ a = 71 := ha
  have hB : b = 33 ∨ b = 52 ∨ b = 71 := hb
  refine E28 w ha hb (by omega) ?_
  intro h1 e1 h2 e2
  have w1 : yWF zl nl h1 := by rw [← e1]; exact w
  have w2 : yWF zl nl h2 := by rw [← e2]; exact w1
  have p1 : ∀ c k, zV h1 c k = if c = a + 2 ∧ 0 ≤ k ∧ k < 0 + 6 then zV (zcpV h (b + 1) 0 (a + 1) 0 6) (b + 2) (0 + (k - 0)) else if c = a + 1 ∧ 0 ≤ k ∧ k < 0 + 6 then zV h (b + 1) (0 + (k - 0)) else zV h c k := by intro c k; rw [← e1]; rfl
  have p2 : ∀ c k, zV h2 c k = if c = a + 4 ∧ 0 ≤ k ∧ k < 0 + 36 then zV (zcpV h1 (b + 3) 0 (a + 3) 0 6) (b + 4) (0 + (k - 0)) else if c = a + 3 ∧ 0 ≤ k ∧ k < 0 + 6 then zV h1 (b + 3) (0 + (k - 0)) else zV h1 c k := by intro c k; rw [← e2]; rfl
  have q1 : zS h1 = zS h ∧ zJ h1 = zJ h ∧ zP h1 = zP h ∧ zN h1 = zN h ∧ zM h1 = zM h := by rw [← e1]; exact ⟨rfl, rfl, rfl, rfl, rfl⟩
  have q2 : zS h2 = zS h1 ∧ zJ h2 = zJ h1 ∧ zP h2 = zP h1 ∧ zN h2 = zN h1 ∧ zM h2 = zM h1 := by rw [← e2]; exact ⟨rfl, rfl, rfl, rfl, rfl⟩
  obtain ⟨h3, e3⟩ : ∃ h3, h3 = zcpV h2 (b + 5) 0 (a + 5) 0 24 := ⟨_, rfl⟩
  rw [← e3]
  have w3 : yWF zl nl h3 := by rw [e3]; exact w2
  have p3 : ∀ c k, zV h3 c k = if c = a + 5 ∧ 0 ≤ k ∧ k < 0 + 24 then zV h2 (b + 5) (0 + (k - 0)) else zV h2 c k := by intro c k; rw [e3]; rfl
  have q3 : zS h3 = zS h2 ∧ zJ h3 = zJ h2 ∧ zP h3 = zP h2 ∧ zN h3 = zN h2 ∧ zM h3 = zM h2 := by rw [e3]; exact ⟨rfl, rfl, rfl, rfl, rfl⟩
  -- frames and what stands so far
  have f3 : ∀ c k, ¬ (a ≤ c ∧ c ≤ a + 14) → zV h3 c k = zV h c k := by
    intro c k hc
    rw [p3, if_neg (by omega), p2, if_neg (by omega), if_neg (by omega), p1, if_neg (by omega), if_neg (by omega)]
  have f2 : ∀ c k, ¬ (a ≤ c ∧ c ≤ a + 14) → zV h2 c k = zV h c k := by
    intro c k hc
    rw [p2, if_neg (by omega), if_neg (by omega), p1, if_neg (by omega), if_neg (by omega)]
  have f1 : ∀ c k, ¬ (a ≤ c ∧ c ≤ a + 14) → zV h1 c k = zV h c k := by
    intro c k hc
    rw [p1, if_neg (by omega), if_neg (by omega)]
  have d1 : ∀ k, k < 6 → zV h3 (a + 1) k = zV h (b + 1) k := by
    intro k hk
    rw [p3, if_neg (by omega), p2, if_neg (by omega), if_neg (by omega), p1, if_neg (by omega), if_pos (by omega)]
    congr 1; omega
  have d2 : ∀ k, k < 6 → zV h3 (a + 2) k = zV h (b + 2) k := by
    intro k hk
    rw [p3, if_neg (by omega), p2, if_neg (by omega), if_neg (by omega), p1, if_pos (by omega), zV_c, if_neg (by omega)]
    congr 1; omega
  have d3 : ∀ k, k < 6 → zV h3 (a + 3) k = zV h (b + 3) k := by
    intro k hk
    rw [p3, if_neg (by omega), p2, if_neg (by omega), if_pos (by omega), f1 _ _ (by omega)]
    congr 1; omega
  have d4 : ∀ k, k < 36 → zV h3 (a + 4) k = zV h (b + 4) k := by
    intro k hk
    rw [p3, if_neg (by omega), p2, if_pos (by omega), zV_c, if_neg (by omega), f1 _ _ (by omega)]
    congr 1; omega
  have d5 : ∀ k, k < 24 → zV h3 (a + 5) k = zV h (b + 5) k := by
    intro k hk
    rw [p3, if_pos (by omega), f2 _ _ (by omega)]
    congr 1; omega
  refine cp29 w3 (yR7 ha) (yR7 hb) (by omega) fun h4 w4 c4 => W28_86 w4 ha hb (by omega) ?_
  refine cp29 w4 (yR9 ha) (yR9 hb) (by omega) fun h5 w5 c5 => W28_97 w5 ha hb (by omega) ?_
  refine cp29 w5 (yR11 ha) (yR11 hb) (by omega) fun h6 w6 c6 => W28_108 w6 ha hb (by omega) ?_
  refine cp29 w6 (yR13 ha) (yR13 hb) (by omega) fun h7 w7 c7 => W28_119 w7 ha hb ?_
  obtain ⟨q4, p4⟩ := c4
  obtain ⟨q5, p5⟩ := c5
  obtain ⟨q6, p6⟩ := c6
  obtain ⟨q7, p7⟩ := c7
  have f4 : ∀ c k, ¬ (a ≤ c ∧ c ≤ a + 14) → zV h4 c k = zV h c k := fun c k hc => by rw [p4, if_neg (by omega), if_neg (by omega), f3 c k hc]
  have f5 : ∀ c k, ¬ (a ≤ c ∧ c ≤ a + 14) → zV h5 c k = zV h c k := fun c k hc => by rw [p5, if_neg (by omega), if_neg (by omega), f4 c k hc]
  have f6 : ∀ c k, ¬ (a ≤ c ∧ c ≤ a + 14) → zV h6 c k = zV h c k := fun c k hc => by rw [p6, if_neg (by omega), if_neg (by omega), f5 c k hc]
  have f7 : ∀ c k, ¬ (a ≤ c ∧ c ≤ a + 14) → zV h7 c k = zV h c k := fun c k hc => by rw [p7, if_neg (by omega), if_neg (by omega), f6 c k hc]
  intro h8 e8 s hs hS
  have q8 : zS h8 = zS h7 ∧ zJ h8 = zJ h7 ∧ zP h8 = zP h7 ∧ zN h8 = zN h7 ∧ zM h8 = zM h7 := by rw [← e8]; exact ⟨rfl, rfl, rfl, rfl, rfl⟩
  have p8 : ∀ c k, zV h8 c k = if c = a ∧ k = 11 then zV h b 11 else if c = a ∧ k = 10 then zV h b 10 else zV h7 c k := by
    intro c k
    rw [← e8, zV_V, zV_V, zV_V, if_neg (by omega : ¬ (b = a ∧ _)), f7 b 11 (by omega), f7 b 10 (by omega)]
  obtain ⟨s1, s2, s3, s4, s5⟩ := q1
  obtain ⟨t1, t2, t3, t4, t5⟩ := q2
  obtain ⟨u1, u2, u3, u4, u5⟩ := q3
  obtain ⟨v1, v2, v3, v4, v5⟩ := q4
  obtain ⟨x1, x2, x3, x4, x5⟩ := q5
  obtain ⟨y1, y2, y3, y4, y5⟩ := q6
  obtain ⟨z1, z2, z3, z4, z5⟩ := q7
  obtain ⟨r1, r2, r3, r4, r5⟩ := q8
  have eP : zP h8 = zP h := by rw [r3, z3, y3, x3, v3, u3, t3, s3]
  have eS : zS h8 = zS h := by rw [r1, z1, y1, x1, v1, u1, t1, s1]
  have eJ : zJ h8 = zJ h := by rw [r2, z2, y2, x2, v2, u2, t2, s2]
  have eN : zN h8 = zN h := by rw [r4, z4, y4, x4, v4, u4, t4, s4]
  have eM : zM h8 = zM h := by rw [r5, z5, y5, x5, v5, u5, t5, s5]
  have ePP : ∀ c k, zP (zsetP h8 a 12 (some s)) c k = if c = a ∧ k = 12 then some s else zP h c k := by
    intro c k
    rw [← eP]
    rfl
  have w8 : yWF zl nl (zsetP h8 a 12 (some s)) := by
    obtain ⟨o1, o2, o3, o4, o5⟩ := w
    refine ⟨eS.trans o1, fun c k hc => ?_, fun c hc => ?_, eN.trans o4, eM.trans o5⟩
    · have hcn : ¬ (c = a ∧ k = 12) := by
        rintro ⟨rfl, rfl⟩
        rcases hA with rfl | rfl | rfl <;> cases hc
      rw [ePP, if_neg hcn]
      exact o2 c k hc
    · rw [ePP]
      split
      · exact ⟨s, rfl, hS⟩
      · exact o3 c hc
  refine ⟨w8, k _ w8 ⟨eS, eJ, eN, eM, fun c k hc => by rw [ePP, if_neg hc], fun c k hc => ?_⟩ ?_⟩
  · show zV h8 c k = _
    rw [p8, if_neg (by omega), if_neg (by omega), f7 c k hc]
  · have key : ∀ j k, cg (zsetP h8 a 12 (some s)) (xcC a j k) = cg h (xcC b j k) := by
      intro j k
      rw [xcC_O a, xcC_O b]
      cases ho : xcO j k with
      | none => rfl
      | some t =>
        obtain ⟨c, i⟩ := t
        have q := xcO_inv ho
        show zV h8 (a + c) i = zV h (b + c) i
        rw [p8]
        unfold xoK at q
        rcases q with ⟨rfl, rfl | rfl⟩ | ⟨rfl | rfl | rfl | rfl, rfl⟩ | ⟨rfl | rfl | rfl, qi⟩ | ⟨rfl, qi⟩ | ⟨rfl, qi⟩ | ⟨rfl | rfl, qi⟩ | ⟨rfl, qi⟩ | ⟨rfl, qi⟩
        · rw [if_neg (by omega), if_pos (by omega)]; rfl
        · rw [if_pos (by omega)]; rfl
        · rw [if_neg (by omega), if_neg (by omega), p7, if_neg (by omega), if_neg (by omega), p6, if_neg (by omega), if_neg (by omega), p5, if_neg (by omega), if_neg (by omega), p4, if_pos (by omega), f3 _ _ (by omega)]
        · rw [if_neg (by omega), if_neg (by omega), p7, if_neg (by omega), if_neg (by omega), p6, if_neg (by omega), if_neg (by omega), p5, if_pos (by omega), f4 _ _ (by omega)]
        · rw [if_neg (by omega), if_neg (by omega), p7, if_neg (by omega), if_neg (by omega), p6, if_pos (by omega), f5 _ _ (by omega)]
        · rw [if_neg (by omega), if_neg (by omega), p7, if_pos (by omega), f6 _ _ (by omega)]
        · rw [if_neg (by omega), if_neg (by omega), p7, if_neg (by omega), if_neg (by omega), p6, if_neg (by omega), if_neg (by omega), p5, if_neg (by omega), if_neg (by omega), p4, if_neg (by omega), if_neg (by omega), d1 _ (by omega)]
        · rw [if_neg (by omega), if_neg (by omega), p7, if_neg (by omega), if_neg (by omega), p6, if_neg (by omega), if_neg (by omega), p5, if_neg (by omega), if_neg (by omega), p4, if_neg (by omega), if_neg (by omega), d2 _ (by omega)]
        · rw [if_neg (by omega), if_neg (by omega), p7, if_neg (by omega), if_neg (by omega), p6, if_neg (by omega), if_neg (by omega), p5, if_neg (by omega), if_neg (by omega), p4, if_neg (by omega), if_neg (by omega), d3 _ (by omega)]
        · rw [if_neg (by omega), if_neg (by omega), p7, if_neg (by omega), if_neg (by omega), p6, if_neg (by omega), if_neg (by omega), p5, if_neg (by omega), if_neg (by omega), p4, if_neg (by omega), if_neg (by omega), d4 _ (by omega)]
        · rw [if_neg (by omega), if_neg (by omega), p7, if_neg (by omega), if_neg (by omega), p6, if_neg (by omega), if_neg (by omega), p5, if_neg (by omega), if_neg (by omega), p4, if_neg (by omega), if_neg (by omega), d5 _ (by omega)]
        · rw [if_neg (by omega), if_neg (by omega), p7, if_neg (by omega), if_neg (by omega), p6, if_neg (by omega), if_neg (by omega), p5, if_neg (by omega), if_neg (by omega), p4, if_neg (by omega), if_pos (by omega), f3 _ _ (by omega)]
        · rw [if_neg (by omega), if_neg (by omega), p7, if_neg (by omega), if_pos (by omega), f6 _ _ (by omega)]
        · rw [if_neg (by omega), if_neg (by omega), p7, if_neg (by omega), if_neg (by omega), p6, if_neg (by omega), if_pos (by omega), f5 _ _ (by omega)]
        · rw [if_neg (by omega), if_neg (by omega), p7, if_neg (by omega), if_neg (by omega), p6, if_neg (by omega), if_neg (by omega), p5, if_neg (by omega), if_pos (by omega), f4 _ _ (by omega)]
    funext j k
    unfold hvC
    rw [key, key, ePP, show (if a = a ∧ 12 = 12 then some s else zP h a 12) = some s from if_pos ⟨rfl, rfl⟩]
    rw [eP] at hs
    rw [hs]
/-- all BUMPS of a HEAD -/
theorem cp12_loop (ha : yHs a) (hd : 2 ≤ d) (p : 0 ≤ x ∧ x < 6) (k : ∀ h', yWF zl nl h' → Fr (fun b _ => b = a + 4) h h' → hvC h' a = xab (fun _ => z) x 6 (hvC h a) → U h') : ∀ (m i : Nat) (h2 : Hp), i + m = 6 → yWF zl nl h2 → Fr (fun b _ => b = a + 4) h h2 → hvC h2 a = xab (fun _ => z) x i (hvC h a) → ZW d prog_4_method_6_code 2 2 [some (vR (some a)), some (vI x), some (vI z), some (vI i)] [] h2 (yq 0 (yqU U)) := by
  intro m
  induction m with
  | zero =>
    intro i h2 hm w2 f2 v2
    obtain rfl : i = 6 := by omega
    exact W12_2 w2 ha (by omega) ⟨fun _ => k h2 w2 f2 v2, fun c => absurd (by decide) c⟩
  | succ m ih =>
    intro i h2 hm w2 f2 v2
    refine W12_2 w2 ha (by omega) ⟨fun c => absurd c (by omega), fun c => ?_⟩
    refine sp13 w2 ha (by omega) (W12_15 (yWFV w2) ha ?_)
    rw [nz (by omega)]
    refine ih (i + 1) _ (by omega) (yWFV w2) (f2.trans (Fr.set rfl)) ?_
    rw [hvC_set (xC_4 (by omega)) (by decide) (by omega), v2]
    rfl
theorem cp12 (w : yWF zl nl h) (ha : yHs a) (hd : 2 ≤ d) (p : 0 ≤ x ∧ x < 6) (k : ∀ h', yWF zl nl h' → Fr (fun b _ => b = a + 4) h h' → hvC h' a = xab (fun _ => z) x 6 (hvC h a) → U h') : yU d 12 [vR (some a), vI x, vI z] h U :=
  E12 w ha (cp12_loop ha hd p k 6 0 h rfl w Fr.rfl' rfl)
theorem cp99_loop (ha : yHs a) (hd : 2 ≤ d) (p : 0 ≤ x ∧ x < 6) (r : Rg B (hvC h a)) (k : ∀ h', yWF zl nl h' → Fr (fun b _ => b = a + 4) h h' → hvC h' a = xab (fun x => (x + 1) % 10) x 6 (hvC h a) → U h') : ∀ (m i : Nat) (h2 : Hp), i + m = 6 → yWF zl nl h2 → Fr (fun b _ => b = a + 4) h h2 → hvC h2 a = xab (fun x => (x + 1) % 10) x i (hvC h a) → ZW d prog_4_method_8_code 2 2 [some (vR (some a)), some (vI x), some (vI i)] [] h2 (yq 0 (yqU U)) := by
  intro m
  induction m with
  | zero =>
    intro i h2 hm w2 f2 v2
    obtain rfl : i = 6 := by omega
    exact W99_2 w2 ha (by omega) ⟨fun _ => k h2 w2 f2 v2, fun c => absurd (by decide) c⟩
  | succ m ih =>
    intro i h2 hm w2 f2 v2
    refine W99_2 w2 ha (by omega) ⟨fun c => absurd c (by omega), fun c => ⟨by omega, ?_⟩⟩
    rw [nz (by omega)]
    have rr : Rg B (hvC h2 a) := by rw [v2]; exact xab_rg r (fun x _ _ => by omega)
    have b2 := rr.bu (6 * x + i).toNat
    have e4 : zV h2 (a + 4) (6 * x + i).toNat = hvC h2 a 4 (6 * x + i).toNat := (vC_4 (by omega)).symm
    rw [e4, zwi (by omega), zrem_nn (by omega) (by decide)]
    refine ih (i + 1) _ (by omega) (yWFV w2) (f2.trans (Fr.set rfl)) ?_
    rw [hvC_set (xC_4 (by omega)) (by decide) (by omega), v2]
    rfl
theorem cp99 (w : yWF zl nl h) (ha : yHs a) (hd : 2 ≤ d) (p : 0 ≤ x ∧ x < 6) (r : Rg B (hvC h a)) (k : ∀ h', yWF zl nl h' → Fr (fun b _ => b = a + 4) h h' → hvC h' a = xab (fun x => (x + 1) % 10) x 6 (hvC h a) → U h') : yU d 99 [vR (some a), vI x] h U :=
  E99 w ha (cp99_loop ha hd p r k 6 0 h rfl w Fr.rfl' rfl)
theorem Fr.GO {M : Nat → Nat → Prop} {h h' : Hp} (f : Fr M h h') (g : xGO h) (e : ∀ b k, xShC b → ¬ M b k) : xGO h' := fun ho => by rw [f.xG e]; exact g ho
/-- n YEARS go in a house -/
theorem cp79_loop (w0 : yWF zl nl h) (ha : yHs a) (hd : 3 ≤ d) (r : Rg B (hvC h a)) (hG : xGO h) (hx : 0 ≤ x) (hB : B + x ≤ 50000) (k : ∀ h', yWF zl nl h' → Fr (xHm a) h h' → hvC h' a = xit xca (xG h) x.toNat (hvC h a) → U h') : ∀ (m i : Nat) (h2 : Hp), (i : Int) + m = x → yWF zl nl h2 → Fr (xHm a) h h2 → hvC h2 a = xit xca (xG h) i (hvC h a) → ZW d prog_4_method_9_code 2 2 [some (vR (some a)), some (vI x), some (vI i)] [] h2 (yq 0 (yqU U)) := by
  have ryr := r.yr
  intro m
  induction m with
  | zero =>
    intro i h2 hm w2 f2 v2
    refine W79_2 w2 ha (by omega) ⟨fun _ => ?_, fun c => absurd (by omega) c⟩
    have e : i = x.toNat := by omega
    rw [e] at v2
    exact k h2 w2 f2 v2
  | succ m ih =>
    intro i h2 hm w2 f2 v2
    refine W79_2 w2 ha (by omega) ⟨fun c => absurd c (by omega), fun c => ?_⟩
    have rr : Rg (B + i) (hvC h2 a) := by rw [v2]; exact xit_rg r xca_r
    have eG : xG h2 = xG h := f2.xG (xHm_Sh ha)
    refine cp30 w2 ha (by omega) rr (by omega) (by rw [eG]; exact hG _) fun h3 w3 f3 v3 => W79_11 w3 ha ?_
    rw [nz (by omega)]
    refine ih (i + 1) h3 (by omega) w3 (f2.trans f3) ?_
    rw [v3, eG, v2]
    rfl
theorem cp79 (w : yWF zl nl h) (ha : yHs a) (hd : 3 ≤ d) (r : Rg B (hvC h a)) (hG : xGO h) (hx : 0 ≤ x) (hB : B + x ≤ 50000) (k : ∀ h', yWF zl nl h' → Fr (xHm a) h h' → hvC h' a = xit xca (xG h) x.toNat (hvC h a) → U h') : yU d 79 [vR (some a), vI x] h U :=
  E79 w ha (cp79_loop w ha hd r hG hx hB k x.toNat 0 h (by omega) w Fr.rfl' rfl)
/-- the PLAN is gone through -/
theorem cp98_loop (w0 : yWF zl nl h) (ha : yHs a) (hd : 3 ≤ d) (r : Rg B (hvC h a)) (hG : xGO h) (hB0 : 0 ≤ B) (hB : B ≤ 40000) (k : ∀ h', yWF zl nl h' → Fr (xHm a) h h' → hvC h' a = xpn xca (xG h) (hvC h a 0 4).toNat (hvC h a) → U h') : ∀ (m i : Nat) (h2 : Hp) (l2 : Option Int), (i : Int) + m = hvC h a 0 4 → yWF zl nl h2 → Fr (xHm a) h h2 → hvC h2 a = xpn xca (xG h) i (hvC h a) → ZW d prog_4_method_20_code 2 2 [some (vR (some a)), some (vI i), yo l2] [] h2 (yq 0 (yqU U)) := by
  have rp := r.pn
  intro m
  induction m with
  | zero =>
    intro i h2 l2 hm w2 f2 v2
    have e0 : zV h2 (a + 11) 1 = hvC h a 0 4 := by rw [← vC0_4, v2, xpn_o (by decide) (by decide) (by decide)]
    refine W98_2 w2 ha (by omega) ⟨fun _ => ?_, fun c => absurd (by omega) c⟩
    have e : i = (hvC h a 0 4).toNat := by omega
    rw [e] at v2
    exact k h2 w2 f2 v2
  | succ m ih =>
    intro i h2 l2 hm w2 f2 v2
    have e0 : zV h2 (a + 11) 1 = hvC h a 0 4 := by rw [← vC0_4, v2, xpn_o (by decide) (by decide) (by decide)]
    have rr : Rg (B + i) (hvC h2 a) := by rw [v2]; exact xpn_rg r hB0 xca_r
    have eG : xG h2 = xG h := f2.xG (xHm_Sh ha)
    have i0 : (4 * (i : Int) + 0).toNat = 4 * i := by omega
    have i1 : (4 * (i : Int) + 1).toNat = 4 * i + 1 := by omega
    have ew : zV h2 (a + 11 + 1) (4 * i) = hvC h2 a 7 i := (vC_7 (by omega)).symm
    have eh : hvC h2 a 7 i ≠ 0 → zV h2 (a + 11 + 1) (4 * i + 1) = hvC h2 a 8 i := by
      intro q
      rw [vC_8 (by omega), if_neg (by rw [← ew] at q; exact q)]
    have r7 := rr.pw i
    have r8 := rr.ph i
    have fin : ∀ h3 (l2 : Option Int), yWF zl nl h3 → Fr (xHm a) h2 h3 → hvC h3 a = xps xca (xG h) (hvC h2 a) i → ZW d prog_4_method_20_code 2 2 [some (vR (some a)), some (vI ((i + 1 : Nat) : Int)), yo l2] [] h3 (yq 0 (yqU U)) := by
      intro h3 l2 w3 f3 v3
      refine ih (i + 1) h3 l2 (by omega) w3 (f2.trans f3) ?_
      rw [v3, v2]
      rfl
    refine W98_2 w2 ha (by omega) ⟨fun c => absurd c (by omega), fun c => ⟨by omega, by omega, ?_⟩⟩
    rw [i0, i1, ew, nz (by omega)]
    refine ⟨fun c1 => ?_, fun c1 => ?_, fun c1 => ?_, fun c1 => ?_⟩
    · refine cp30 w2 ha (by omega) rr (by omega) (by rw [eG]; exact hG _) fun h3 w3 f3 v3 => W98_64 w3 ha ?_
      rw [nz (by omega)]
      refine fin h3 (some _) w3 f3 ?_
      rw [v3, eG]
      unfold xps
      rw [if_pos c1]
    · rw [eh (by omega)]
      refine cp12 w2 ha (by omega) (by omega) fun h3 w3 f3 v3 => W98_73 w3 ha ?_
      rw [nz (by omega)]
      refine fin h3 (some _) w3 (f3.mono (fun b k q => Or.inr (Or.inl q))) ?_
      rw [v3]
      unfold xps
      rw [if_neg (by omega), if_pos c1]
    · rw [eh (by omega)]
      refine ⟨by omega, ?_⟩
      refine fin _ (some _) (yWFV w2) (Fr.set (Or.inl rfl)) ?_
      rw [hvC_set (xC_3 (by omega)) (by decide) (by omega)]
      unfold xps
      rw [if_neg (by omega), if_neg (by omega), if_pos c1]
    · rw [eh (by omega)]
      refine cp99 w2 ha (by omega) (by omega) rr fun h3 w3 f3 v3 => W98_91 w3 ha ?_
      rw [nz (by omega)]
      refine fin h3 (some _) w3 (f3.mono (fun b k q => Or.inr (Or.inl q))) ?_
      rw [v3]
      unfold xps
      rw [if_neg (by omega), if_neg (by omega), if_neg (by omega)]
theorem cp98 (w : yWF zl nl h) (ha : yHs a) (hd : 3 ≤ d) (r : Rg B (hvC h a)) (hG : xGO h) (hB0 : 0 ≤ B) (hB : B ≤ 40000) (k : ∀ h', yWF zl nl h' → Fr (xHm a) h h' → hvC h' a = xpn xca (xG h) (hvC h a 0 4).toNat (hvC h a) → U h') : yU d 98 [vR (some a)] h U := by
  have := r.pn
  exact E98 w ha (cp98_loop w ha hd r hG hB0 hB k (hvC h a 0 4).toNat 0 h none (by omega) w Fr.rfl' rfl)
end XC3
