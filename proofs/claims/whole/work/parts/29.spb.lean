/-! WHAT THE NEXT METHODS DO -/
/-- one step of a shop's rule: the sum and the answers -/
def ysT (k n f : Int) (q : Int × Int) : Int × Int :=
  if k = 1 then (q.1, zor (zshl q.2 1) (if n ≤ f then 0 else 1)) else
  if k = 2 then (q.1, zor (zshl q.2 1) (if f ≠ n then 0 else 1)) else
  if k = 3 then (q.1, zor (zshl q.2 1) (if f ≤ n then 0 else 1)) else
  if k = 4 then (q.1, zxor q.2 1) else
  if k = 5 then (q.1, if zand q.2 1 ≠ 1 then zand (zshr q.2 1) (-2) else zshr q.2 1) else
  if k = 6 then (q.1, zor (zshr q.2 1) (zand q.2 1)) else
  (if zand q.2 1 ≠ 1 then zw (q.1 + 0) else zw (q.1 + n), 0)
def yshR (V : Nat → Nat → Int) (s : Nat) (f : Nat → Int) : Nat → Nat → Int × Int → Int
  | 0, _, q => q.1
  | m + 1, i, q => yshR V s f m (i + 1) (ysT (V (s + 1) i) (V (s + 3) i) (f (V (s + 2) i).toNat) q)
/-- what a shop adds -/
def ysharp (V : Nat → Nat → Int) (s : Nat) (f : Nat → Int) : Int := yshR V s f (V s 3).toNat 0 (0, 0)
/-- a shop's own cells are in order -/
def yShopOk (V : Nat → Nat → Int) (s : Nat) : Prop := 0 ≤ V s 3 ∧ V s 3 ≤ 100 ∧ ∀ i : Nat, (i : Int) < V s 3 → 0 ≤ V (s + 2) i ∧ V (s + 2) i < 6
section YSB
variable {zl : Nat} {nl : Option Nat} {h : Hp} {d : Nat} {K : Int → Hp → Prop} {U : Hp → Prop} {a n s b : Nat} {x y z : Int}
theorem sp15 (w : yWF zl nl h) (hd : 1 ≤ d) (k1 : (0 ≤ x ∧ x < zV h 33 10) → K 1 h) (k0 : ¬ (0 ≤ x ∧ x < zV h 33 10) → K 0 h) : yI d 15 [vR (some 32), vI x] h K := E15 w hd ⟨k1, k0⟩
theorem sp104 (w : yWF zl nl h) (ha : yTp a) (hd : 1 ≤ d) (k1 : (0 ≤ x ∧ x < zV h a 2) → K 1 h) (k0 : ¬ (0 ≤ x ∧ x < zV h a 2) → K 0 h) : yI d 104 [vR (some a), vI x] h K := E104 w ha hd ⟨k1, k0⟩
theorem sp131 (w : yWF zl nl h) (hd : 1 ≤ d) (p : 0 ≤ zV h 137 0 ∧ zV h 137 0 ≤ 6) (k1 : (0 ≤ x ∧ x < zV h 137 0) → K 1 h) (k0 : ¬ (0 ≤ x ∧ x < zV h 137 0) → K 0 h) : yI d 131 [vR (some 137), vI x] h K := by
  refine E131 w hd ?_
  rw [zwi (by omega)]
  exact ⟨fun c => k1 (by omega), fun c => k0 (by omega)⟩
theorem sp132 (w : yWF zl nl h) (hd : 1 ≤ d) (k1 : (0 ≤ x ∧ x < 6) → K 1 h) (k0 : ¬ (0 ≤ x ∧ x < 6) → K 0 h) : yI d 132 [vI x] h K := E132 w hd ⟨fun c => k1 (by omega), fun c => k0 (by omega)⟩
theorem sp151 (w : yWF zl nl h) (hd : 1 ≤ d) (k1 : (0 ≤ x ∧ x < 10) → K 1 h) (k0 : ¬ (0 ≤ x ∧ x < 10) → K 0 h) : yI d 151 [vI x] h K := E151 w hd ⟨fun c => k1 (by omega), fun c => k0 (by omega)⟩
theorem sp214 (w : yWF zl nl h) (hd : 1 ≤ d) (k1 : (0 ≤ x ∧ x < 6) → K 1 h) (k0 : ¬ (0 ≤ x ∧ x < 6) → K 0 h) : yI d 214 [vI x] h K := E214 w hd ⟨fun c => k1 (by omega), fun c => k0 (by omega)⟩
theorem sp31 (w : yWF zl nl h) (ha : yHs a) (hd : 1 ≤ d) (p : 0 ≤ x ∧ x < 6 ∧ 0 ≤ y ∧ y < 6) (k : U (zsetV h (a + 4) (6 * x + y).toNat (zrem (zw (zV h (a + 4) (6 * x + y).toNat + 1)) 10))) : yU d 31 [vR (some a), vI x, vI y] h U := E31 w ha hd ⟨p, p, k⟩
theorem sp21_loop (w : yWF zl nl h) (ha : ySh a) (hb : zS h b = (1, 6)) (hb2 : 32 ≤ b) (ok : yShopOk (zV h) a) : ∀ (m i : Nat) (q : Int × Int) (l5 l6 : Option Int), (i : Int) + m = zV h a 3 → K (yshR (zV h) a (zV h b) m i q) h → ZW d prog_6_method_4_code 4 7 [some (vR (some a)), some (vR (some b)), some (vI q.1), some (vI q.2), some (vI i), yo l5, yo l6] [] h (yq 1 (yqI K)) := by
  intro m
  induction m with
  | zero =>
    intro i q l5 l6 hm k
    exact W21_7 w ha hb hb2 ⟨fun _ => k, fun c => absurd (by omega) c⟩
  | succ m ih =>
    intro i q l5 l6 hm k
    obtain ⟨o1, o2, o3⟩ := ok
    have o3 := o3 i (by omega)
    have e : (i : Int).toNat = i := Int.toNat_natCast i
    have e1 : zw ((i : Int) + 1) = ((i + 1 : Nat) : Int) := by rw [zwi (by omega)]; rfl
    have ih := fun q => ih (i + 1) q (some (zV h (a + 3) i)) (some (zV h b (zV h (a + 2) i).toNat)) (by omega)
    refine W21_7 w ha hb hb2 ⟨fun c => absurd c (by omega), fun c => ⟨by omega, by omega, ?_, by omega, ?_, ?_, ?_, ?_, ?_, ?_, ?_⟩⟩
    all_goals rw [e]
    · exact o3
    all_goals rw [e1]
    all_goals simp only [yshR, ysT] at k
    · intro c
      simp only [c, if_true] at k
      refine ⟨fun c => ?_, fun c => ?_⟩
      · rw [if_pos c] at k; exact ih _ k
      · rw [if_neg c] at k; exact ih _ k
    · intro c
      simp only [c, if_true] at k
      refine ⟨fun c => ?_, fun c => ?_⟩
      · rw [if_neg (by decide), if_pos c] at k; exact ih _ k
      · rw [if_neg (by decide), if_neg c] at k; exact ih _ k
    · intro c
      simp only [c, if_true] at k
      refine ⟨fun c => ?_, fun c => ?_⟩
      · rw [if_neg (by decide), if_neg (by decide), if_pos c] at k; exact ih _ k
      · rw [if_neg (by decide), if_neg (by decide), if_neg c] at k; exact ih _ k
    · intro c
      simp only [c, if_true] at k
      rw [if_neg (by decide), if_neg (by decide), if_neg (by decide)] at k
      exact ih _ k
    · intro c
      simp only [c, if_true] at k
      rw [if_neg (by decide), if_neg (by decide), if_neg (by decide), if_neg (by decide)] at k
      refine ⟨fun c => ?_, fun c => ?_⟩
      · rw [if_pos c] at k; exact ih _ k
      · rw [if_neg c] at k; exact ih _ k
    · intro c
      simp only [c, if_true] at k
      rw [if_neg (by decide), if_neg (by decide), if_neg (by decide), if_neg (by decide), if_neg (by decide)] at k
      exact ih _ k
    · intro c
      rw [if_neg (by omega), if_neg (by omega), if_neg (by omega), if_neg (by omega), if_neg (by omega), if_neg (by omega)] at k
      refine ⟨fun c => ?_, fun c => ?_⟩
      · rw [if_pos c] at k; exact ih _ k
      · rw [if_neg c] at k; exact ih _ k
theorem sp21 (w : yWF zl nl h) (ha : ySh a) (hb : zS h b = (1, 6)) (hb2 : 32 ≤ b) (ok : yShopOk (zV h) a) (k : K (ysharp (zV h) a (zV h b)) h) : yI d 21 [vR (some a), vR (some b)] h K :=
  E21 w ha hb hb2 (sp21_loop w ha hb hb2 ok _ 0 (0, 0) none none (by have := ok.1; omega) k)
end YSB
