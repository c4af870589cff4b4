/-! ARITHMETIC and the cells that are only scratch -/
theorem zi_bm {x : Int} (h : -2147483648 ≤ x ∧ x < 2147483648) : x.bmod (2 ^ 32) = x := by
  rw [Int.bmod_def]
  split <;> omega
theorem zdiv_nn {x y : Int} (hx : 0 ≤ x ∧ x < 2147483648) (hy : 0 < y ∧ y < 2147483648) : zdiv x y = x / y := by
  have e : x.tdiv y = x / y := Int.tdiv_eq_ediv_of_nonneg hx.1
  have h1 : 0 ≤ x / y := Int.ediv_nonneg hx.1 (by omega)
  have h2 : x / y ≤ x := Int.ediv_le_self _ hx.1
  unfold zdiv
  rw [Int32.toInt_div, zi_toInt (by unfold zr; omega), zi_toInt (by unfold zr; omega), e, zi_bm (by omega)]
theorem zrem_t {x y : Int} (hx : zr x) (hy : 0 < y ∧ y < 2147483648) : zrem x y = x.tmod y := by
  unfold zrem
  have hz : -2147483648 ≤ x ∧ x < 2147483648 := hx
  obtain ⟨n, hn, hn2, hq, hr⟩ : ∃ n : Int, 0 ≤ n ∧ n ≤ 2147483648 ∧ (x = n ∨ x = -n) ∧ ((x = n ∧ x.tdiv y = n / y ∧ x.tmod y = n % y) ∨ (x = -n ∧ x.tdiv y = -(n / y) ∧ x.tmod y = -(n % y))) := by
    rcases Int.le_total 0 x with c | c
    · exact ⟨x, c, by omega, Or.inl rfl, Or.inl ⟨rfl, Int.tdiv_eq_ediv_of_nonneg c, Int.tmod_eq_emod_of_nonneg c⟩⟩
    · refine ⟨-x, by omega, by omega, Or.inr (by omega), Or.inr ⟨by omega, ?_, ?_⟩⟩
      · rw [← Int.tdiv_eq_ediv_of_nonneg (by omega : 0 ≤ -x), Int.neg_tdiv]; omega
      · rw [← Int.tmod_eq_emod_of_nonneg (by omega : 0 ≤ -x), Int.neg_tmod]; omega
  have c1 : 0 ≤ n / y := Int.ediv_nonneg hn (by omega)
  have c2 : n / y ≤ n := Int.ediv_le_self _ hn
  have c3 : y * (n / y) + n % y = n := Int.mul_ediv_add_emod n y
  have c4 : 0 ≤ n % y := Int.emod_nonneg n (by omega)
  have c5 : n % y < y := Int.emod_lt_of_pos n hy.1
  have c6 : 0 ≤ y * (n / y) := Int.mul_nonneg (by omega) c1
  have cz : x.tdiv y < 2147483648 := by
    rcases hr with ⟨e, e1, e2⟩ | ⟨e, e1, e2⟩ <;> omega
  rw [Int32.toInt_sub, Int32.toInt_mul, Int32.toInt_div, zi_toInt hx, zi_toInt (by unfold zr; omega)]
  rcases hr with ⟨e, e1, e2⟩ | ⟨e, e1, e2⟩
  · rw [e1, e2, zi_bm (x := n / y) (by omega), Int.mul_comm, zi_bm (x := y * (n / y)) (by omega), zi_bm (by omega)]
    omega
  · rw [e1, e2, zi_bm (x := -(n / y)) (by omega), Int.mul_comm, Int.mul_neg, zi_bm (x := -(y * (n / y))) (by omega), zi_bm (by omega)]
    omega
theorem zrem_nn {x y : Int} (hx : 0 ≤ x ∧ x < 2147483648) (hy : 0 < y ∧ y < 2147483648) : zrem x y = x % y := by
  rw [zrem_t (by unfold zr; omega) hy]
  exact Int.tmod_eq_emod_of_nonneg hx.1
def ySc (b : Nat) : Prop := b = 39 ∨ b = 58 ∨ b = 77 ∨ b = 151 ∨ b = 163 ∨ b = 164
def ymk (h : Hp) (b k : Nat) : Int := if b = 39 ∨ b = 58 ∨ b = 77 ∨ b = 151 ∨ b = 163 ∨ b = 164 then 0 else zV h b k
def ySm (h h' : Hp) : Prop := (zS h' = zS h ∧ zJ h' = zJ h ∧ zP h' = zP h ∧ zN h' = zN h ∧ zM h' = zM h) ∧ ymk h' = ymk h
theorem ymk_of {h : Hp} {b k : Nat} (hb : ¬ ySc b) : ymk h b k = zV h b k := if_neg hb
theorem ySm.refl (h : Hp) : ySm h h := ⟨⟨rfl, rfl, rfl, rfl, rfl⟩, rfl⟩
theorem ySm.trans {h h2 h3 : Hp} (x : ySm h h2) (y : ySm h2 h3) : ySm h h3 := by
  obtain ⟨⟨a1, a2, a3, a4, a5⟩, a6⟩ := x
  obtain ⟨⟨b1, b2, b3, b4, b5⟩, b6⟩ := y
  exact ⟨⟨b1.trans a1, b2.trans a2, b3.trans a3, b4.trans a4, b5.trans a5⟩, b6.trans a6⟩
theorem ySm.wf {zl : Nat} {nl : Option Nat} {h h' : Hp} (w : yWF zl nl h) (x : ySm h h') : yWF zl nl h' := by
  obtain ⟨⟨a1, a2, a3, a4, a5⟩, a6⟩ := x
  unfold yWF
  rw [a1, a3, a4, a5]
  exact w
theorem ySm.V {h h' : Hp} (x : ySm h h') {b : Nat} (hb : ¬ ySc b) (k : Nat) : zV h' b k = zV h b k := by
  have := congrFun (congrFun x.2 b) k
  rw [ymk_of hb, ymk_of hb] at this
  exact this
theorem ySm.set {h : Hp} {b k : Nat} {x : Int} (hb : ySc b) : ySm h (zsetV h b k x) := by
  refine ⟨⟨rfl, rfl, rfl, rfl, rfl⟩, ?_⟩
  funext c j
  unfold ymk
  split
  · rfl
  · next hc =>
    rw [zV_V, if_neg (fun q => hc (by rw [q.1]; exact hb))]
theorem ySc_H {a : Nat} (ha : yHs a) : ySc (a + 6) := by unfold ySc; rcases ha with rfl | rfl | rfl <;> omega
theorem ySn_H {a j : Nat} (ha : yHs a) (hj : j ≠ 6 ∧ j < 15) : ¬ ySc (a + j) := by unfold ySc; rcases ha with rfl | rfl | rfl <;> omega
theorem ySn_S {s j : Nat} (hs : ySh s) (hj : j < 4) : ¬ ySc (s + j) := by unfold ySc; unfold ySh at hs; omega
