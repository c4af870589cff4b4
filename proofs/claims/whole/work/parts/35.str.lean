/-! RULES: texts (String), some more -/
def yStr (q n : Nat) : Prop := (q = 4 ∧ n = 6) ∨ (q = 6 ∧ n = 5) ∨ (q = 8 ∧ n = 5) ∨ (q = 10 ∧ n = 6) ∨ (q = 12 ∧ n = 5) ∨ (q = 14 ∧ n = 5) ∨ (q = 16 ∧ n = 6) ∨ (q = 18 ∧ n = 3)
def zi2c (x : Int) : Int := ((zi x).toUInt32 % 65536).toInt32.toInt
def zushr (x y : Int) : Int := ((zi x).toUInt32 >>> ((zi y).toUInt32 &&& Int32.toUInt32 31)).toInt32.toInt
theorem yst4 : yStr 4 6 := by unfold yStr; decide
theorem yst6 : yStr 6 5 := by unfold yStr; decide
theorem yst8 : yStr 8 5 := by unfold yStr; decide
theorem yst10 : yStr 10 6 := by unfold yStr; decide
theorem yst12 : yStr 12 5 := by unfold yStr; decide
theorem yst14 : yStr 14 5 := by unfold yStr; decide
theorem yst16 : yStr 16 6 := by unfold yStr; decide
theorem yst18 : yStr 18 3 := by unfold yStr; decide
section YST
variable {zl : Nat} {nl : Option Nat} {h : Hp} {q n : Nat}
theorem yQ_32 (hq : yStr q n) : q < 32 := by unfold yStr at hq; omega
theorem yQ1_32 (hq : yStr q n) : q + 1 < 32 := by unfold yStr at hq; omega
theorem yQ_n (hq : yStr q n) : n ≤ 6 := by unfold yStr at hq; omega
theorem ysQ0 (w : yWF zl nl h) (hq : yStr q n) : zS h q = (20, 2) := by
  rcases hq with ⟨rfl, rfl⟩ | ⟨rfl, rfl⟩ | ⟨rfl, rfl⟩ | ⟨rfl, rfl⟩ | ⟨rfl, rfl⟩ | ⟨rfl, rfl⟩ | ⟨rfl, rfl⟩ | ⟨rfl, rfl⟩
  all_goals exact congrFun w.1 _
theorem ysQ1 (w : yWF zl nl h) (hq : yStr q n) : zS h (q + 1) = (4, n) := by
  rcases hq with ⟨rfl, rfl⟩ | ⟨rfl, rfl⟩ | ⟨rfl, rfl⟩ | ⟨rfl, rfl⟩ | ⟨rfl, rfl⟩ | ⟨rfl, rfl⟩ | ⟨rfl, rfl⟩ | ⟨rfl, rfl⟩
  all_goals exact congrFun w.1 _
theorem ypQ (w : yWF zl nl h) (hq : yStr q n) : zP h q 0 = some (q + 1) := by
  rcases hq with ⟨rfl, rfl⟩ | ⟨rfl, rfl⟩ | ⟨rfl, rfl⟩ | ⟨rfl, rfl⟩ | ⟨rfl, rfl⟩ | ⟨rfl, rfl⟩ | ⟨rfl, rfl⟩ | ⟨rfl, rfl⟩
  all_goals exact w.2.1 _ _ rfl
end YST
section YSR
variable {d : Nat} {cc : ByteArray} {o pc pc' : Nat} {L : LL} {st r : List AV} {h : Hp} {Q : Option AV → Hp → Prop}
theorem y_gq0 {k a b : Nat} (e : decode cc pc = .ok (.getfield k, 3)) (hf : zfld o k = some (9, 0)) (hs : zS h a = (20, 2)) (hb : zP h a 0 = some b) (ha : a < 32) (hp : pc + 3 = pc') (w : ZW d cc o pc' L (vR (some b) :: r) h Q) : ZW d cc o pc L (vR (some a) :: r) h Q := by
  refine y_s e ?_ w
  show zgetf (zfld o k) pc 3 L (vR (some a) :: r) h = _
  rw [hf]
  show (if 3 = 3 ∧ zS h a = (zkd 9, zNf 9) ∧ (9 = 9 → a < 32) then zn (pc + 3) L (zfv h 9 a 0 :: r) h else none) = _
  rw [if_pos ⟨rfl, hs, fun _ => ha⟩, hp]
  show zn pc' L (vR (zP h a 0) :: r) h = _
  rw [hb]
  rfl
theorem y_gq1 {k a : Nat} (e : decode cc pc = .ok (.getfield k, 3)) (hf : zfld o k = some (9, 1)) (hs : zS h a = (20, 2)) (ha : a < 32) (hp : pc + 3 = pc') (w : ZW d cc o pc' L (vI (zV h a 1) :: r) h Q) : ZW d cc o pc L (vR (some a) :: r) h Q := by
  refine y_s e ?_ w
  show zgetf (zfld o k) pc 3 L (vR (some a) :: r) h = _
  rw [hf]
  show (if 3 = 3 ∧ zS h a = (zkd 9, zNf 9) ∧ (9 = 9 → a < 32) then zn (pc + 3) L (zfv h 9 a 1 :: r) h else none) = _
  rw [if_pos ⟨rfl, hs, fun _ => ha⟩, hp]
  rfl
theorem y_alb {a n : Nat} (e : decode cc pc = .ok (.arraylength, 1)) (hs : zS h a = (4, n)) (ha : a < 32) (hn : n < 2147483648) (hp : pc + 1 = pc') (w : ZW d cc o pc' L (vI (n : Int) :: r) h Q) : ZW d cc o pc L (vR (some a) :: r) h Q := by
  refine y_s e ?_ w
  show (if 1 = 1 ∧ 1 ≤ (zS h a).1 ∧ (zS h a).1 ≤ 6 ∧ (zS h a).2 < 2147483648 ∧ ((zS h a).1 = 4 → a < 32) then _ else _) = _
  rw [if_pos (by rw [hs]; exact ⟨rfl, by show 1 ≤ 4; omega, by show 4 ≤ 6; omega, hn, fun _ => ha⟩), hp, hs]
  rfl
theorem yzvs {k z a : Nat} {as : List AV} (hm : zmth o k = some (0, z)) (hn : st[zna z]? = some (vR (some a))) (hs : zS h a = (20, 2)) (ha : a < 32) (hz : zrc z = (20, 2)) (hc : zcall 3 (zna z + 1) z st = some (.inr (.inl (z, as, r)))) : zin d o pc 3 L st h (.invokevirtual k) = some (.inr (.inl (z, as, r))) := by
  show zinv (zmth o k) 3 st h = _
  rw [hm]
  show (match st[zna z]? with
    | some (.inr (.inr (some a))) => if zS h a = zrc z ∧ 10 ≤ (zrc z).1 ∧ ((zrc z).1 = 20 → a < 32) then zcall 3 (zna z + 1) z st else none
    | _ => none) = _
  rw [hn]
  show (if zS h a = zrc z ∧ 10 ≤ (zrc z).1 ∧ ((zrc z).1 = 20 → a < 32) then zcall 3 (zna z + 1) z st else none) = _
  rw [if_pos ⟨hs.trans hz.symm, by rw [hz]; show 10 ≤ 20; omega, fun _ => ha⟩]
  exact hc
end YSR
