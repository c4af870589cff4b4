/-! RULES: stores to locals, the rest -/
def yo (q : Option Int) : Option AV := match q with
  | none => none
  | some x => some (vI x)
def yoj (q : Option Int64) : Option AV := match q with
  | none => none
  | some x => some (vJ x)
theorem yzp (q : Option Int) : (match some (yo q) with
    | some (some (.inr (.inl _))) => false
    | _ => true) = true := by cases q <;> rfl
section YR2
variable {d : Nat} {cc : ByteArray} {o pc pc' : Nat} {L L' : LL} {st r : List AV} {h : Hp} {Q : Option AV → Hp → Prop}
theorem y_sto {i : Instr} {l t k : Nat} {v : AV} (e : decode cc pc = .ok (i, l)) (hz : zin d o pc l L (v :: r) h i = zsto t k l pc l L (v :: r) h) (ht : ztag v = t) (hv : zprev L k = true) (hk : Nat.blt k L.length = true) (hL : L.set k (some v) = L') (hp : pc + l = pc') (w : ZW d cc o pc' L' r h Q) : ZW d cc o pc L (v :: r) h Q := by
  refine y_s e ?_ w
  rw [hz]
  show (if l = l ∧ ztag v = t ∧ zprev L k = true ∧ k < L.length then zn (pc + l) (L.set k (some v)) r h else none) = _
  rw [if_pos ⟨rfl, ht, hv, Nat.lt_of_succ_le (Nat.le_of_ble_eq_true hk)⟩, hL, hp]
  rfl
theorem y_inc {k : Nat} {c x : Int} (e : decode cc pc = .ok (.iinc k c, 3)) (hg : zget L k 0 = some (vI x)) (hv : zprev L k = true) (hL : L.set k (some (vI (zw (x + c)))) = L') (hp : pc + 3 = pc') (w : ZW d cc o pc' L' st h Q) : ZW d cc o pc L st h Q := by
  refine y_s e ?_ w
  show (match zget L k 0 with
    | some (.inl x) => if 3 = 3 ∧ zprev L k = true then zn (pc + 3) (L.set k (some (vI (zw (x + c))))) st h else none
    | _ => none) = _
  rw [hg]
  show (if 3 = 3 ∧ zprev L k = true then zn (pc + 3) (L.set k (some (vI (zw (x + c))))) st h else none) = _
  rw [if_pos ⟨rfl, hv⟩, hL, hp]
  rfl
end YR2
section YBS
variable {zl : Nat} {nl : Option Nat} {h : Hp}
theorem ysb0 (w : yWF zl nl h) : zS h 0 = yTS zl 0 := congrFun w.1 0
theorem ysb1 (w : yWF zl nl h) : zS h 1 = (1, 7) := congrFun w.1 1
theorem ysb2 (w : yWF zl nl h) : zS h 2 = (1, 7) := congrFun w.1 2
theorem ysb3 (w : yWF zl nl h) : zS h 3 = (1, 21) := congrFun w.1 3
end YBS
