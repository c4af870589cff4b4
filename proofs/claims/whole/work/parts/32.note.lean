/-! NOTE: the class -/
theorem yxs (b : Int32) : 0 ≤ b ^^^ 10 ↔ 0 ≤ b.toInt := by
  rw [Int32.le_iff_toInt_le]
  have e : ∀ c : Int32, (0 : Int32).toInt ≤ c.toInt ↔ c.toBitVec.msb = false := by
    intro c
    show (0 : Int) ≤ c.toBitVec.toInt ↔ _
    rw [BitVec.msb_eq_toInt]
    simp
  rw [e, Int32.toBitVec_xor, BitVec.msb_xor]
  have e10 : (10 : Int32).toBitVec.msb = false := by decide
  rw [e10, Bool.xor_false, ← e]
  exact Iff.rfl
theorem yfm10 (x : Int) : yfm x 10 = if 0 ≤ zrem x 10 then zrem x 10 else zw (zrem x 10 + 10) := by
  have ht : zr (zi x).toInt := zr_toInt _
  have e0 : zrem (zi x).toInt 10 = zrem x 10 := by unfold zrem; rw [zi_of]
  have e1 := zrem_t ht (y := 10) (by decide)
  rw [e0] at e1
  have e2 : (zi x - zi x / zi 10 * zi 10).toInt = zrem x 10 := rfl
  have h10 : zi 10 = 10 := by decide +kernel
  rw [h10] at e2
  unfold yfm zfm32
  rw [h10]
  by_cases c : 0 ≤ zi x ^^^ 10
  · have c2 := (yxs _).1 c
    rw [if_pos c, e2, if_pos]
    rw [e1]
    exact Int.tmod_nonneg _ c2
  · have c2 : ¬ 0 ≤ (zi x).toInt := fun q => c ((yxs _).2 q)
    have c3 : zrem x 10 ≤ 0 := by
      rw [e1]
      have := Int.tmod_nonneg (a := -(zi x).toInt) 10 (by omega)
      rw [Int.neg_tmod] at this
      omega
    rw [if_neg c]
    by_cases c4 : zi x - zi x / 10 * 10 = 0
    · have c5 : zrem x 10 = 0 := by rw [← e2, c4]; rfl
      rw [if_pos c4, e2, if_pos (by omega)]
    · have c5 : ¬ 0 ≤ zrem x 10 := by
        intro q
        have : zrem x 10 = 0 := by omega
        rw [← e2] at this
        exact c4 (Int32.toInt_inj.1 this)
      rw [if_neg c4, if_neg c5, Int32.toInt_add, e2]
      have c6 : -10 < zrem x 10 := by
        have := Int.tmod_lt_of_pos (a := -(zi x).toInt) (b := 10) (by decide)
        rw [Int.neg_tmod] at this
        omega
      have e10 : (10 : Int32).toInt = 10 := rfl
      rw [e10, zi_bm (by omega), zwi (by omega)]
def yshp (h : Hp) (a : Nat) : Nat := (zP h a 12).getD 0
/-- the house at a can be heard -/
def yHOk (h : Hp) (a : Nat) : Prop := yShopOk (zV h) (yshp h a) ∧ 0 ≤ zV h a 11 ∧ zV h a 11 < 2147483648
def ydig (x : Int) : Int := if 0 ≤ zrem x 10 then zrem x 10 else zw (zrem x 10 + 10)
def ynote (h : Hp) (a : Nat) (p i : Int) : Int := ydig (ypC (ymk h) a (yshp h a) p i)
theorem ydig_r (x : Int) : 0 ≤ ydig x ∧ ydig x < 10 := by
  have ht : zr (zi x).toInt := zr_toInt _
  have e0 : zrem (zi x).toInt 10 = zrem x 10 := by unfold zrem; rw [zi_of]
  have e1 := zrem_t ht (y := 10) (by decide)
  rw [e0] at e1
  have q1 : zrem x 10 < 10 := by rw [e1]; exact Int.tmod_lt_of_pos _ (by decide)
  have q2 : -10 < zrem x 10 := by
    have := Int.tmod_lt_of_pos (a := -(zi x).toInt) (b := 10) (by decide)
    rw [Int.neg_tmod] at this
    omega
  unfold ydig
  split
  · omega
  · rw [zwi (by omega)]; omega
section YNO
variable {zl : Nat} {nl : Option Nat} {h h' : Hp} {d : Nat} {K : Int → Hp → Prop} {U : Hp → Prop} {a n s b : Nat} {x y z : Int}
theorem yshp_of (w : yWF zl nl h) (ha : yHs a) : zP h a 12 = some (yshp h a) ∧ ySh (yshp h a) := by
  obtain ⟨s, e, hs⟩ := ypH12 w ha
  unfold yshp
  rw [e]
  exact ⟨rfl, hs⟩
theorem ySm.shp (m : ySm h h') (a : Nat) : yshp h' a = yshp h a := by unfold yshp; rw [m.1.2.2.1]
theorem ySm.note (m : ySm h h') (a : Nat) (p i : Int) : ynote h' a p i = ynote h a p i := by unfold ynote; rw [m.shp, m.2]
theorem ySm.ok (w : yWF zl nl h) (m : ySm h h') (ha : yHs a) (o : yHOk h a) : yHOk h' a := by
  have hS := (yshp_of w ha).2
  obtain ⟨⟨o1, o2, o3⟩, o4, o5⟩ := o
  have e0 : zV h' (yshp h a) 3 = zV h (yshp h a) 3 := m.V (by have := ySn_S (j := 0) hS (by decide); exact this) 3
  have e1 : zV h' a 11 = zV h a 11 := m.V (by have := ySn_H (j := 0) ha (by decide); exact this) 11
  unfold yHOk yShopOk
  rw [m.shp, e0, e1]
  refine ⟨⟨o1, o2, fun i hi => ?_⟩, o4, o5⟩
  rw [m.V (ySn_S hS (by decide))]
  exact o3 i hi
theorem sp17 (w : yWF zl nl h) (ha : yHs a) (hd : 4 ≤ d) (o : yHOk h a) (p : 0 ≤ x ∧ x < 6 ∧ 0 ≤ y ∧ y < 6) (k : ∀ h', ySm h h' → K (ynote h a x y) h') : yI d 17 [vR (some a), vI x, vI y] h K := by
  refine E17 w ha (by omega) (sp18 w ha (by omega) (yshp_of w ha).1 o.1 o.2 p fun h2 m => ?_)
  refine W17_6 (m.wf w) ha (by omega) ?_
  rw [yfm10]
  exact k h2 m
theorem sp18' (w : yWF zl nl h) (ha : yHs a) (hd : 3 ≤ d) (o : yHOk h a) (p : 0 ≤ x ∧ x < 6 ∧ 0 ≤ y ∧ y < 6) (k : ∀ h', ySm h h' → K (ypC (ymk h) a (yshp h a) x y) h') : yI d 18 [vR (some a), vI x, vI y] h K := sp18 w ha hd (yshp_of w ha).1 o.1 o.2 p k
/-- a sound as a number -/
def ysnd (f : Int → Int) : Nat → Int
  | 0 => 0
  | n + 1 => 10 * ysnd f n + f n
theorem ysnd_r {f : Int → Int} (hf : ∀ i, 0 ≤ f i ∧ f i < 10) (n : Nat) : 0 ≤ ysnd f n ∧ ysnd f n < 10 ^ n := by
  induction n with
  | zero => exact ⟨Int.le_refl 0, by show (0 : Int) < 1; decide⟩
  | succ n ih =>
    have := hf n
    have e : (10 : Int) ^ (n + 1) = 10 ^ n * 10 := Int.pow_succ 10 n
    unfold ysnd
    omega
theorem sp16_loop (w0 : yWF zl nl h) (ha : yHs a) (hd : 5 ≤ d) (o : yHOk h a) (p : 0 ≤ x ∧ x < 6) (k : ∀ h', ySm h h' → K (ysnd (ynote h a x) 6) h') : ∀ (m i : Nat) (h2 : Hp), i + m = 6 → ySm h h2 → ZW d prog_4_method_14_code 2 4 [some (vR (some a)), some (vI x), some (vI (ysnd (ynote h a x) i)), some (vI i)] [] h2 (yq 1 (yqI K)) := by
  intro m
  induction m with
  | zero =>
    intro i h2 hm s2
    obtain rfl : i = 6 := by omega
    exact W16_4 (s2.wf w0) ha (by omega) ⟨fun _ => k h2 s2, fun c => absurd (by decide) c⟩
  | succ m ih =>
    intro i h2 hm s2
    refine W16_4 (s2.wf w0) ha (by omega) ⟨fun c => absurd c (by omega), fun c => ?_⟩
    refine sp17 (s2.wf w0) ha (by omega) (s2.ok w0 ha o) (by omega) fun h3 s3 => ?_
    refine W16_20 (s3.wf (s2.wf w0)) ha ?_
    have r := ysnd_r (f := ynote h a x) (fun i => ydig_r _) i
    have r2 : (10 : Int) ^ i ≤ 10 ^ 5 := by
      match i, hm with
      | 0, _ => decide
      | 1, _ => decide
      | 2, _ => decide
      | 3, _ => decide
      | 4, _ => decide
      | 5, _ => decide
      | i + 6, hm => omega
    have r3 := ydig_r (ypC (ymk h) a (yshp h a) x i)
    have r4 : ynote h a x i = ydig (ypC (ymk h) a (yshp h a) x i) := rfl
    rw [← r4] at r3
    have e5 : (10 : Int) ^ 5 = 100000 := rfl
    have e : zw (zw (ysnd (ynote h a x) i * 10) + ynote h2 a x i) = ysnd (ynote h a x) (i + 1) := by
      rw [s2.note, zwi (x := ysnd (ynote h a x) i * 10) (by omega), zwi (by omega)]
      show _ = 10 * ysnd (ynote h a x) i + ynote h a x i
      omega
    have e2 : zw ((i : Int) + 1) = ((i + 1 : Nat) : Int) := by rw [zwi (by omega)]; rfl
    rw [e, e2]
    exact ih (i + 1) h3 (by omega) (s2.trans s3)
def ysound (h : Hp) (a : Nat) (p : Int) : Int := ysnd (ynote h a p) 6
theorem sp16 (w : yWF zl nl h) (ha : yHs a) (hd : 5 ≤ d) (o : yHOk h a) (p : 0 ≤ x ∧ x < 6) (k : ∀ h', ySm h h' → K (ysound h a x) h') : yI d 16 [vR (some a), vI x] h K :=
  E16 w ha (sp16_loop w ha hd o p k 6 0 h rfl (ySm.refl h))
end YNO
