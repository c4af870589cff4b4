/-! WHAT THE SMALL METHODS DO -/
theorem zwi {x : Int} (h : -2147483648 ≤ x ∧ x < 2147483648) : zw x = x := by unfold zw; omega
theorem zV_V (h : Hp) (a k : Nat) (x : Int) (b j : Nat) : zV (zsetV h a k x) b j = if b = a ∧ j = k then x else zV h b j := rfl
theorem zV_J (h : Hp) (a k : Nat) (x : Int64) (b j : Nat) : zV (zsetJ h a k x) b j = zV h b j := rfl
theorem zV_P (h : Hp) (a k : Nat) (x : Option Nat) (b j : Nat) : zV (zsetP h a k x) b j = zV h b j := rfl
theorem zV_c (h : Hp) (a sp b dp n c k : Nat) : zV (zcpV h a sp b dp n) c k = if c = b ∧ dp ≤ k ∧ k < dp + n then zV h a (sp + (k - dp)) else zV h c k := rfl
def ypeek (h : Hp) : Int := if 0 ≤ zV h 90 2 ∧ zV h 90 2 < zV h 90 1 then zV h 91 (zV h 90 2).toNat else -1
def ylet (x : Int) : Int := if x = 112 then 0 else if x = 107 then 1 else if x = 118 then 2 else if x = 105 then 3 else if x = 98 then 4 else if x = 121 then 5 else -1
def yrel (x : Int) : Int := if x = 60 then 1 else if x = 61 then 2 else if x = 62 then 3 else -1
section YSA
variable {zl : Nat} {nl : Option Nat} {h : Hp} {d : Nat} {K : Int → Hp → Prop} {U : Hp → Prop} {a n : Nat} {x y z : Int}
theorem sp10 (w : yWF zl nl h) (k1 : (0 ≤ x ∧ x < y) → K 1 h) (k0 : ¬ (0 ≤ x ∧ x < y) → K 0 h) : yI d 10 [vI x, vI y] h K :=
  E10 w ⟨fun c => k0 (by omega), fun c => ⟨fun c => k0 (by omega), fun c => k1 (by omega)⟩⟩
theorem sp129 (w : yWF zl nl h) (k1 : (y ≤ x ∧ x ≤ z) → K 1 h) (k0 : ¬ (y ≤ x ∧ x ≤ z) → K 0 h) : yI d 129 [vI x, vI y, vI z] h K :=
  E129 w ⟨fun c => k0 (by omega), fun c => ⟨fun c => k0 (by omega), fun c => k1 (by omega)⟩⟩
theorem sp26 (w : yWF zl nl h) (ha : yRs a n) (p : 0 ≤ x ∧ 0 ≤ y ∧ 4 * x + y < (n : Int)) (k : K (zV h (a + 1) (4 * x + y).toNat) h) : yI d 26 [vR (some a), vI x, vI y] h K := by
  have := yR_n ha
  refine E26 w ha ?_
  rw [zwi (x := x * 4) (by omega), zwi (x := x * 4 + y) (by omega), Int.mul_comm x 4]
  exact ⟨by omega, k⟩
theorem sp20 (w : yWF zl nl h) (ha : yHs a) (p : 0 ≤ x ∧ x < 6 ∧ 0 ≤ y ∧ y < 6) (k : K (zV h (a + 4) (6 * x + y).toNat) h) : yI d 20 [vR (some a), vI x, vI y] h K := by
  refine E20 w ha ?_
  rw [zwi (x := x * 6) (by omega), zwi (x := x * 6 + y) (by omega), Int.mul_comm x 6]
  exact ⟨by omega, k⟩
theorem sp13 (w : yWF zl nl h) (ha : yHs a) (p : 0 ≤ x ∧ x < 6 ∧ 0 ≤ y ∧ y < 6) (k : U (zsetV h (a + 4) (6 * x + y).toNat z)) : yU d 13 [vR (some a), vI x, vI y, vI z] h U := by
  refine E13 w ha ?_
  rw [zwi (x := x * 6) (by omega), zwi (x := x * 6 + y) (by omega), Int.mul_comm x 6]
  exact ⟨by omega, k⟩
theorem sp39 (w : yWF zl nl h) (ha : yRs a n) (k : K 0 (zsetV h a 1 0)) : yI d 39 [vR (some a)] h K := E39 w ha k
theorem sp40 (w : yWF zl nl h) (ha : yRs a n) (p : 0 ≤ zV h a 1 ∧ zV h a 1 ≤ 10) (k1 : (n : Int) ≤ 4 * zV h a 1 → K 1 h) (k0 : ¬ ((n : Int) ≤ 4 * zV h a 1) → K 0 h) : yI d 40 [vR (some a)] h K := by
  refine E40 w ha ?_
  rw [zwi (by omega)]
  exact ⟨fun c => k0 (by omega), fun c => k1 (by omega)⟩
theorem sp44 (w : yWF zl nl h) (k1 : 100 ≤ zV h 90 1 → K 1 h) (k0 : ¬ (100 ≤ zV h 90 1) → K 0 h) : yI d 44 [vR (some 90)] h K :=
  E44 w ⟨fun c => k0 (by omega), fun c => k1 (by omega)⟩
theorem sp45 (w : yWF zl nl h) (p : 0 ≤ zV h 90 1 ∧ zV h 90 1 < 100) (k : K (zV h 90 1 + 1) (zsetV (zsetV h 91 (zV h 90 1).toNat x) 90 1 (zV h 90 1 + 1))) : yI d 45 [vR (some 90), vI x] h K := by
  refine E45 w ⟨p, ?_⟩
  rintro _ rfl
  simp only [zV_V]
  simp only [show ¬ (90 = 91 ∧ 1 = (zV h 90 1).toNat) from fun q => by omega, if_false, and_self, if_true]
  rw [zwi (by omega)]
  exact k
theorem sp48 (w : yWF zl nl h) (ha : ySh a) (k : U (zsetV (zsetV h a 3 0) a 4 0)) : yU d 48 [vR (some a)] h U := E48 w ha (fun _ e => e ▸ k)
theorem sp50 (w : yWF zl nl h) (p : zV h 90 1 ≤ 100) (k : K (ypeek h) h) : yI d 50 [vR (some 90)] h K := by
  unfold ypeek at k
  exact E50 w ⟨fun c => by rw [if_neg (by omega)] at k; exact k, fun c => ⟨fun c => by rw [if_neg (by omega)] at k; exact k, fun c => ⟨by omega, by rw [if_pos (by omega)] at k; exact k⟩⟩⟩
theorem sp66 (w : yWF zl nl h) (k1 : (48 ≤ x ∧ x ≤ 57) → K 1 h) (k0 : ¬ (48 ≤ x ∧ x ≤ 57) → K 0 h) : yI d 66 [vI x] h K :=
  E66 w ⟨fun c => k0 (by omega), fun c => ⟨fun c => k0 (by omega), fun c => k1 (by omega)⟩⟩
theorem sp72 (w : yWF zl nl h) (k : K (ylet x) h) : yI d 72 [vI x] h K := by
  refine E72 w ⟨?_, ?_, ?_, ?_, ?_, ?_, ?_⟩
  all_goals intro c
  all_goals unfold ylet at k
  all_goals simp [c] at k
  all_goals exact k
theorem sp73 (w : yWF zl nl h) (k : K (yrel x) h) : yI d 73 [vI x] h K := by
  refine E73 w ⟨?_, ?_, ?_, ?_⟩
  all_goals intro c
  all_goals unfold yrel at k
  · simp [c] at k; exact k
  · simp [c] at k; exact k
  · simp [c] at k; exact k
  · rw [if_neg (by omega), if_neg (by omega), if_neg (by omega)] at k; exact k
theorem sp103 (w : yWF zl nl h) (ha : yTp a) (k1 : zV h a 1 ≠ -1 → K 1 h) (k0 : ¬ (zV h a 1 ≠ -1) → K 0 h) : yI d 103 [vR (some a)] h K :=
  E103 w ha ⟨fun c => k0 (by omega), fun c => k1 c⟩
theorem sp126 (w : yWF zl nl h) (ha : yTp a) (p : 0 ≤ zV h a 2 ∧ zV h a 2 ≤ 60) (k1 : (0 ≤ x ∧ 0 ≤ y ∧ x + y ≤ zV h a 2) → K 1 h) (k0 : ¬ (0 ≤ x ∧ 0 ≤ y ∧ x + y ≤ zV h a 2) → K 0 h) : yI d 126 [vR (some a), vI x, vI y] h K := by
  refine E126 w ha ⟨fun c => k0 (by omega), fun c => ⟨fun c => k0 (by omega), fun c => ⟨fun c => k0 (by omega), fun c => ?_⟩⟩⟩
  rw [zwi (by omega)]
  exact ⟨fun c => k0 (by omega), fun c => k1 (by omega)⟩
end YSA
