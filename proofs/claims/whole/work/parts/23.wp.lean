/-! RULES, the other way about: what is enough ahead -/
section YR
variable {d : Nat} {cc : ByteArray} {o pc pc' : Nat} {L : LL} {st r : List AV} {h : Hp} {Q : Option AV → Hp → Prop}
theorem y_s {i : Instr} {l : Nat} {L' : LL} {st' : List AV} {h' : Hp} (e : decode cc pc = .ok (i, l)) (hz : zin d o pc l L st h i = some (.inl (pc', L', st', h'))) (k : ZW d cc o pc' L' st' h' Q) : ZW d cc o pc L st h Q := by
  have q : zact d cc o pc L st h = some (.inl (pc', L', st', h')) := by
    unfold zact
    rw [e]
    exact hz
  rw [ZW_next q]
  exact k
theorem y_go {off : Int} (e : decode cc pc = .ok (.goto off, 3)) (hp : ((pc : Int) + off == (pc' : Int)) = true) (k : ZW d cc o pc' L st h Q) : ZW d cc o pc L st h Q := by
  have hp := eq_of_beq hp
  refine y_s e ?_ k
  show (if 3 = 3 then (if 0 ≤ (pc : Int) + off then zn ((pc : Int) + off).toNat L st h else none) else none) = _
  rw [if_pos rfl, hp, if_pos (by omega)]
  rfl
theorem y_if {c : Jvm.ClassFile.Cond} {off x : Int} {pcT : Nat} {P : Prop} {i : Decidable P} (e : decode cc pc = .ok (.ifCond c off, 3)) (hp : ((pc : Int) + off == (pcT : Int)) = true) (hq : pc + 3 = pc') (hP : zcond c x 0 = @decide P i) (k1 : P → ZW d cc o pcT L r h Q) (k2 : ¬ P → ZW d cc o pc' L r h Q) : ZW d cc o pc L (vI x :: r) h Q := by
  have hp := eq_of_beq hp
  have hz : zin d o pc 3 L (vI x :: r) h (.ifCond c off) = if zcond c x 0 = true then zn pcT L r h else zn pc' L r h := by
    show (if 3 = 3 ∧ 0 ≤ (pc : Int) + off then _ else _) = _
    rw [hp, if_pos ⟨rfl, by omega⟩, hq]
    rfl
  by_cases q : P
  · exact y_s e (by rw [hz, hP, if_pos (decide_eq_true q)]; rfl) (k1 q)
  · exact y_s e (by rw [hz, hP, if_neg (by simpa using q)]; rfl) (k2 q)
theorem y_ic {c : Jvm.ClassFile.Cond} {off x y : Int} {pcT : Nat} {P : Prop} {i : Decidable P} (e : decode cc pc = .ok (.if_icmp c off, 3)) (hp : ((pc : Int) + off == (pcT : Int)) = true) (hq : pc + 3 = pc') (hP : zcond c x y = @decide P i) (k1 : P → ZW d cc o pcT L r h Q) (k2 : ¬ P → ZW d cc o pc' L r h Q) : ZW d cc o pc L (vI y :: vI x :: r) h Q := by
  have hp := eq_of_beq hp
  have hz : zin d o pc 3 L (vI y :: vI x :: r) h (.if_icmp c off) = if zcond c x y = true then zn pcT L r h else zn pc' L r h := by
    show (if 3 = 3 ∧ 0 ≤ (pc : Int) + off then _ else _) = _
    rw [hp, if_pos ⟨rfl, by omega⟩, hq]
    rfl
  by_cases q : P
  · exact y_s e (by rw [hz, hP, if_pos (decide_eq_true q)]; rfl) (k1 q)
  · exact y_s e (by rw [hz, hP, if_neg (by simpa using q)]; rfl) (k2 q)
theorem y_ift {c : Jvm.ClassFile.Cond} {off x : Int} {pcT : Nat} (e : decode cc pc = .ok (.ifCond c off, 3)) (hp : ((pc : Int) + off == (pcT : Int)) = true) (hP : zcond c x 0 = true) (k : ZW d cc o pcT L r h Q) : ZW d cc o pc L (vI x :: r) h Q :=
  y_if (P := zcond c x 0 = true) (i := inferInstance) e hp rfl (by simp [hP]) (fun _ => k) (fun q => absurd hP q)
theorem y_iff {c : Jvm.ClassFile.Cond} {off x : Int} {pcT : Nat} (e : decode cc pc = .ok (.ifCond c off, 3)) (hp : ((pc : Int) + off == (pcT : Int)) = true) (hq : pc + 3 = pc') (hP : zcond c x 0 = false) (k : ZW d cc o pc' L r h Q) : ZW d cc o pc L (vI x :: r) h Q :=
  y_if (P := zcond c x 0 = true) (i := inferInstance) e hp hq (by simp [hP]) (fun q => by rw [hP] at q; cases q) (fun _ => k)
theorem y_tc {dflt lo hi : Int} {offs : Array Int} {x v off : Int} {l : Nat} (e : decode cc pc = .ok (.tableswitch dflt lo hi offs, l)) (hx : x = v) (hv : (decide (lo ≤ v) && decide (v ≤ hi)) = true) (ho : offs[(v - lo).toNat]? = some off) (hp : ((pc : Int) + off == (pc' : Int)) = true) (k : ZW d cc o pc' L r h Q) : ZW d cc o pc L (vI x :: r) h Q := by
  have hp := eq_of_beq hp
  simp at hv
  subst hx
  refine y_s e ?_ k
  show (if x < lo ∨ hi < x then _ else _) = _
  rw [if_neg (by omega)]
  simp only [ho]
  unfold zjmp
  rw [hp, if_pos (by omega)]
  rfl
theorem y_td {dflt lo hi : Int} {offs : Array Int} {x : Int} {l : Nat} (e : decode cc pc = .ok (.tableswitch dflt lo hi offs, l)) (hx : x < lo ∨ hi < x) (hp : ((pc : Int) + dflt == (pc' : Int)) = true) (k : ZW d cc o pc' L r h Q) : ZW d cc o pc L (vI x :: r) h Q := by
  have hp := eq_of_beq hp
  refine y_s e ?_ k
  show (if x < lo ∨ hi < x then _ else _) = _
  rw [if_pos hx]
  unfold zjmp
  rw [hp, if_pos (by omega)]
  rfl
theorem y_ls {dflt : Int} {ps : Array (Int × Int)} {x off : Int} {l : Nat} (e : decode cc pc = .ok (.lookupswitch dflt ps, l)) (hs : (ps.toList.zip (ps.toList.drop 1)).all (fun (a, next) => a.1 < next.1) = true) (ho : Op.lookupswitch.offset ps.toList dflt x = off) (hp : ((pc : Int) + off == (pc' : Int)) = true) (k : ZW d cc o pc' L r h Q) : ZW d cc o pc L (vI x :: r) h Q := by
  have hp := eq_of_beq hp
  refine y_s e ?_ k
  show (if _ then _ else _) = _
  rw [if_pos hs, ho]
  unfold zjmp
  rw [hp, if_pos (by omega)]
  rfl
theorem y_gi {k ci f a : Nat} (e : decode cc pc = .ok (.getfield k, 3)) (hf : zfld o k = some (ci, f)) (ht : (zft ci f == 2) = false) (hc : Nat.ble 9 ci = false) (hs : zS h a = (zkd ci, zNf ci)) (hp : pc + 3 = pc') (w : ZW d cc o pc' L (vI (zV h a f) :: r) h Q) : ZW d cc o pc L (vR (some a) :: r) h Q := by
  have hc : ¬ 9 ≤ ci := fun q => by rw [Nat.ble_eq_true_of_le q] at hc; cases hc
  refine y_s e ?_ w
  show zgetf (zfld o k) pc 3 L (vR (some a) :: r) h = _
  rw [hf]
  show (if 3 = 3 ∧ zS h a = (zkd ci, zNf ci) ∧ (ci = 9 → a < 32) then zn (pc + 3) L (zfv h ci a f :: r) h else none) = _
  rw [if_pos ⟨rfl, hs, fun q => absurd q (by omega)⟩, hp]
  unfold zfv
  rw [if_neg (by simpa using ht)]
  rfl
theorem y_gr {k ci f a : Nat} {q : Option Nat} (e : decode cc pc = .ok (.getfield k, 3)) (hf : zfld o k = some (ci, f)) (ht : (zft ci f == 2) = true) (hc : Nat.ble 9 ci = false) (hs : zS h a = (zkd ci, zNf ci)) (hb : zP h a f = q) (hp : pc + 3 = pc') (w : ZW d cc o pc' L (vR q :: r) h Q) : ZW d cc o pc L (vR (some a) :: r) h Q := by
  have hc : ¬ 9 ≤ ci := fun q => by rw [Nat.ble_eq_true_of_le q] at hc; cases hc
  refine y_s e ?_ w
  show zgetf (zfld o k) pc 3 L (vR (some a) :: r) h = _
  rw [hf]
  show (if 3 = 3 ∧ zS h a = (zkd ci, zNf ci) ∧ (ci = 9 → a < 32) then zn (pc + 3) L (zfv h ci a f :: r) h else none) = _
  rw [if_pos ⟨rfl, hs, fun q => absurd q (by omega)⟩, hp]
  unfold zfv
  rw [if_pos (by simpa using ht), hb]
  rfl
theorem y_pi {k ci f a : Nat} {x : Int} (e : decode cc pc = .ok (.putfield k, 3)) (hf : zfld o k = some (ci, f)) (hc : Nat.ble 9 ci = false) (hn : zfin ci f = false) (hs : zS h a = (10 + ci, zNf ci)) (ha : 32 ≤ a) (ht : zft ci f = 0 ∨ (zft ci f = 1 ∧ (x = 0 ∨ x = 1))) (hp : pc + 3 = pc') (w : ZW d cc o pc' L r (zsetV h a f x) Q) : ZW d cc o pc L (vI x :: vR (some a) :: r) h Q := by
  have hc : ¬ 9 ≤ ci := fun q => by rw [Nat.ble_eq_true_of_le q] at hc; cases hc
  refine y_s e ?_ w
  show zputf o (zfld o k) pc 3 L (vI x :: vR (some a) :: r) h = _
  rw [hf]
  show (if 3 = 3 ∧ ci < 9 ∧ zS h a = (10 + ci, zNf ci) ∧ 32 ≤ a ∧ (zft ci f = 0 ∨ (zft ci f = 1 ∧ (x = 0 ∨ x = 1))) ∧ (zfin ci f = true → 100 ≤ o ∧ o % 100 = ci) then zn (pc + 3) L r (zsetV h a f x) else none) = _
  rw [if_pos ⟨rfl, by omega, hs, ha, ht, fun q => by rw [hn] at q; cases q⟩, hp]
  rfl
theorem y_pr {k ci f a : Nat} {q : Option Nat} (e : decode cc pc = .ok (.putfield k, 3)) (hf : zfld o k = some (ci, f)) (hc : Nat.ble 9 ci = false) (hn : zfin ci f = false) (hs : zS h a = (10 + ci, zNf ci)) (ha : 32 ≤ a) (ht : zft ci f = 2) (hp : pc + 3 = pc') (w : ZW d cc o pc' L r (zsetP h a f q) Q) : ZW d cc o pc L (vR q :: vR (some a) :: r) h Q := by
  have hc : ¬ 9 ≤ ci := fun q => by rw [Nat.ble_eq_true_of_le q] at hc; cases hc
  refine y_s e ?_ w
  show zputf o (zfld o k) pc 3 L (vR q :: vR (some a) :: r) h = _
  rw [hf]
  show (if 3 = 3 ∧ ci < 9 ∧ zS h a = (10 + ci, zNf ci) ∧ 32 ≤ a ∧ zft ci f = 2 ∧ (zfin ci f = true → 100 ≤ o ∧ o % 100 = ci) then zn (pc + 3) L r (zsetP h a f q) else none) = _
  rw [if_pos ⟨rfl, by omega, hs, ha, ht, fun q => by rw [hn] at q; cases q⟩, hp]
  rfl
theorem y_ia {a n : Nat} {i : Int} (e : decode cc pc = .ok (.iaload, 1)) (hs : zS h a = (1, n)) (hi : 0 ≤ i ∧ i < (n : Int)) {x : Int} (hx : zV h a i.toNat = x) (hp : pc + 1 = pc') (w : ZW d cc o pc' L (vI x :: r) h Q) : ZW d cc o pc L (vI i :: vR (some a) :: r) h Q := by
  subst hx
  refine y_s e ?_ w
  show (if 1 = 1 ∧ (zS h a).1 = 1 ∧ 0 ≤ i ∧ i < ((zS h a).2 : Int) then _ else _) = _
  rw [if_pos (by rw [hs]; exact ⟨rfl, rfl, hi⟩), hp]
  rfl
theorem y_ba {a n : Nat} {i : Int} (e : decode cc pc = .ok (.baload, 1)) (hs : zS h a = (2, n)) (hi : 0 ≤ i ∧ i < (n : Int)) {x : Int} (hx : zV h a i.toNat = x) (hp : pc + 1 = pc') (w : ZW d cc o pc' L (vI x :: r) h Q) : ZW d cc o pc L (vI i :: vR (some a) :: r) h Q := by
  subst hx
  refine y_s e ?_ w
  show (if (zS h a).1 = 4 then _ else _) = _
  rw [if_neg (by rw [hs]; simp)]
  show (if 1 = 1 ∧ (zS h a).1 = 2 ∧ 0 ≤ i ∧ i < ((zS h a).2 : Int) then _ else _) = _
  rw [if_pos (by rw [hs]; exact ⟨rfl, rfl, hi⟩), hp]
  rfl
theorem y_by {a n : Nat} {i : Int} (e : decode cc pc = .ok (.baload, 1)) (hs : zS h a = (4, n)) (ha : a < 32) (hi : 0 ≤ i ∧ i < (n : Int)) (hp : pc + 1 = pc') (w : ZW d cc o pc' L (vI (zV h a i.toNat) :: r) h Q) : ZW d cc o pc L (vI i :: vR (some a) :: r) h Q := by
  refine y_s e ?_ w
  show (if (zS h a).1 = 4 then _ else _) = _
  rw [if_pos (by rw [hs]), if_pos ha]
  show (if 1 = 1 ∧ (zS h a).1 = 4 ∧ 0 ≤ i ∧ i < ((zS h a).2 : Int) then _ else _) = _
  rw [if_pos (by rw [hs]; exact ⟨rfl, rfl, hi⟩), hp]
  rfl
theorem y_ja {a n : Nat} {i : Int} (e : decode cc pc = .ok (.laload, 1)) (hs : zS h a = (3, n)) (hi : 0 ≤ i ∧ i < (n : Int)) {x : Int64} (hx : zJ h a i.toNat = x) (hp : pc + 1 = pc') (w : ZW d cc o pc' L (vJ x :: r) h Q) : ZW d cc o pc L (vI i :: vR (some a) :: r) h Q := by
  subst hx
  refine y_s e ?_ w
  show (if 1 = 1 ∧ (zS h a).1 = 3 ∧ 0 ≤ i ∧ i < ((zS h a).2 : Int) then _ else _) = _
  rw [if_pos (by rw [hs]; exact ⟨rfl, rfl, hi⟩), hp]
  rfl
theorem y_aa {a n kd : Nat} {i : Int} {q : Option Nat} (e : decode cc pc = .ok (.aaload, 1)) (hk : kd = 5 ∨ kd = 6) (hs : zS h a = (kd, n)) (hi : 0 ≤ i ∧ i < (n : Int)) (hq : zP h a i.toNat = q) (hp : pc + 1 = pc') (w : ZW d cc o pc' L (vR q :: r) h Q) : ZW d cc o pc L (vI i :: vR (some a) :: r) h Q := by
  refine y_s e ?_ w
  show (if (zS h a).1 = 6 then _ else _) = _
  rcases hk with rfl | rfl
  · rw [if_neg (by rw [hs]; simp)]
    show (if 1 = 1 ∧ (zS h a).1 = 5 ∧ 0 ≤ i ∧ i < ((zS h a).2 : Int) then _ else _) = _
    rw [if_pos (by rw [hs]; exact ⟨rfl, rfl, hi⟩), hp]
    show zn pc' L (vR (zP h a i.toNat) :: r) h = _
    rw [hq]
    rfl
  · rw [if_pos (by rw [hs])]
    show (if 1 = 1 ∧ (zS h a).1 = 6 ∧ 0 ≤ i ∧ i < ((zS h a).2 : Int) then _ else _) = _
    rw [if_pos (by rw [hs]; exact ⟨rfl, rfl, hi⟩), hp]
    show zn pc' L (vR (zP h a i.toNat) :: r) h = _
    rw [hq]
    rfl
theorem y_is {a n : Nat} {i x : Int} (e : decode cc pc = .ok (.iastore, 1)) (hs : zS h a = (1, n)) (ha : 32 ≤ a) (hi : 0 ≤ i ∧ i < (n : Int)) {h' : Hp} (hh : zsetV h a i.toNat x = h') (hp : pc + 1 = pc') (w : ZW d cc o pc' L r h' Q) : ZW d cc o pc L (vI x :: vI i :: vR (some a) :: r) h Q := by
  subst hh
  refine y_s e ?_ w
  show (if 1 = 1 ∧ (zS h a).1 = 1 ∧ 32 ≤ a ∧ 0 ≤ i ∧ i < ((zS h a).2 : Int) then _ else _) = _
  rw [if_pos (by rw [hs]; exact ⟨rfl, rfl, ha, hi⟩), hp]
  rfl
theorem y_bs {a n : Nat} {i x : Int} (e : decode cc pc = .ok (.bastore, 1)) (hs : zS h a = (2, n)) (ha : 32 ≤ a) (hi : 0 ≤ i ∧ i < (n : Int)) (hx : x = 0 ∨ x = 1) {h' : Hp} (hh : zsetV h a i.toNat x = h') (hp : pc + 1 = pc') (w : ZW d cc o pc' L r h' Q) : ZW d cc o pc L (vI x :: vI i :: vR (some a) :: r) h Q := by
  subst hh
  refine y_s e ?_ w
  show (if 1 = 1 ∧ (zS h a).1 = 2 ∧ 32 ≤ a ∧ 0 ≤ i ∧ i < ((zS h a).2 : Int) ∧ (x = 0 ∨ x = 1) then _ else _) = _
  rw [if_pos (by rw [hs]; exact ⟨rfl, rfl, ha, hi.1, hi.2, hx⟩), hp]
  rfl
theorem y_js {a n : Nat} {i : Int} {x : Int64} (e : decode cc pc = .ok (.lastore, 1)) (hs : zS h a = (3, n)) (ha : 32 ≤ a) (hi : 0 ≤ i ∧ i < (n : Int)) {h' : Hp} (hh : zsetJ h a i.toNat x = h') (hp : pc + 1 = pc') (w : ZW d cc o pc' L r h' Q) : ZW d cc o pc L (vJ x :: vI i :: vR (some a) :: r) h Q := by
  subst hh
  refine y_s e ?_ w
  show (if 1 = 1 ∧ (zS h a).1 = 3 ∧ 32 ≤ a ∧ 0 ≤ i ∧ i < ((zS h a).2 : Int) then _ else _) = _
  rw [if_pos (by rw [hs]; exact ⟨rfl, rfl, ha, hi⟩), hp]
  rfl
theorem y_al {a n kd : Nat} (e : decode cc pc = .ok (.arraylength, 1)) (hs : zS h a = (kd, n)) (hk : (decide (1 ≤ kd) && decide (kd ≤ 3)) = true) (hn : n < 2147483648) (hp : pc + 1 = pc') (w : ZW d cc o pc' L (vI (n : Int) :: r) h Q) : ZW d cc o pc L (vR (some a) :: r) h Q := by
  simp at hk
  refine y_s e ?_ w
  show (if 1 = 1 ∧ 1 ≤ (zS h a).1 ∧ (zS h a).1 ≤ 6 ∧ (zS h a).2 < 2147483648 ∧ ((zS h a).1 = 4 → a < 32) then _ else _) = _
  rw [if_pos (by rw [hs]; exact ⟨rfl, hk.1, by show kd ≤ 6; omega, hn, fun q => by have q : kd = 4 := q; omega⟩), hp, hs]
  rfl
def zdiv (x y : Int) : Int := (zi x / zi y).toInt
def zrem (x y : Int) : Int := (zi x - zi x / zi y * zi y).toInt
def zand (x y : Int) : Int := (zi x &&& zi y).toInt
def zor (x y : Int) : Int := (zi x ||| zi y).toInt
def zxor (x y : Int) : Int := (zi x ^^^ zi y).toInt
def zshl (x y : Int) : Int := (zi x <<< (zi y &&& 31)).toInt
def zshr (x y : Int) : Int := (zi x >>> (zi y &&& 31)).toInt
theorem y_dv {x y : Int} (e : decode cc pc = .ok (.idiv, 1)) (hy : y ≠ 0) (hp : pc + 1 = pc') (w : ZW d cc o pc' L (vI (zdiv x y) :: r) h Q) : ZW d cc o pc L (vI y :: vI x :: r) h Q := by
  refine y_s e ?_ w
  show (if 1 = 1 ∧ y ≠ 0 then _ else _) = _
  rw [if_pos ⟨rfl, hy⟩, hp]
  rfl
theorem y_rm {x y : Int} (e : decode cc pc = .ok (.irem, 1)) (hy : y ≠ 0) (hp : pc + 1 = pc') (w : ZW d cc o pc' L (vI (zrem x y) :: r) h Q) : ZW d cc o pc L (vI y :: vI x :: r) h Q := by
  refine y_s e ?_ w
  show (if 1 = 1 ∧ y ≠ 0 then _ else _) = _
  rw [if_pos ⟨rfl, hy⟩, hp]
  rfl
theorem y_jd {x y : Int64} (e : decode cc pc = .ok (.ldiv, 1)) (hy : y ≠ 0) (hp : pc + 1 = pc') (w : ZW d cc o pc' L (vJ (x / y) :: r) h Q) : ZW d cc o pc L (vJ y :: vJ x :: r) h Q := by
  refine y_s e ?_ w
  show (if 1 = 1 ∧ y ≠ 0 then _ else _) = _
  rw [if_pos ⟨rfl, hy⟩, hp]
  rfl
theorem y_jr {x y : Int64} (e : decode cc pc = .ok (.lrem, 1)) (hy : y ≠ 0) (hp : pc + 1 = pc') (w : ZW d cc o pc' L (vJ (x - x / y * y) :: r) h Q) : ZW d cc o pc L (vJ y :: vJ x :: r) h Q := by
  refine y_s e ?_ w
  show (if 1 = 1 ∧ y ≠ 0 then _ else _) = _
  rw [if_pos ⟨rfl, hy⟩, hp]
  rfl
/-- what a call gives, by type -/
def yqI (K : Int → Hp → Prop) (v : Option AV) (h : Hp) : Prop := match v with
  | some (.inl x) => K x h
  | _ => False
def yqJ (K : Int64 → Hp → Prop) (v : Option AV) (h : Hp) : Prop := match v with
  | some (.inr (.inl x)) => K x h
  | _ => False
def yqU (K : Hp → Prop) (v : Option AV) (h : Hp) : Prop := match v with
  | none => K h
  | _ => False
def yq (t : Nat) (K : Option AV → Hp → Prop) (v : Option AV) (h : Hp) : Prop := zretok t v = true ∧ K v h
def yI (d z : Nat) (as : List AV) (h : Hp) (K : Int → Hp → Prop) : Prop := ZM d z as h (yqI K)
def yJ (d z : Nat) (as : List AV) (h : Hp) (K : Int64 → Hp → Prop) : Prop := ZM d z as h (yqJ K)
def yU (d z : Nat) (as : List AV) (h : Hp) (K : Hp → Prop) : Prop := ZM d z as h (yqU K)
theorem y_en {z : Nat} {as : List AV} {K : Option AV → Hp → Prop} (hl : Nat.ble (zenl as).length (zml z) = true) (hE : zent (zml z) as = L) (k : ZW d (zb z) (zo z) 0 L [] h (yq (zrt z) K)) : ZM d z as h K := by
  refine ⟨Nat.le_of_ble_eq_true hl, ?_⟩
  rw [hE]
  exact k
theorem yI.mono {z : Nat} {as : List AV} {K K' : Int → Hp → Prop} (w : yI d z as h K) (k : ∀ x h', K x h' → K' x h') : yI d z as h K' := ZM.mono w fun v h' q => match v, q with
  | some (.inl x), q => k x h' q
theorem yJ.mono {z : Nat} {as : List AV} {K K' : Int64 → Hp → Prop} (w : yJ d z as h K) (k : ∀ x h', K x h' → K' x h') : yJ d z as h K' := ZM.mono w fun v h' q => match v, q with
  | some (.inr (.inl x)), q => k x h' q
theorem yU.mono {z : Nat} {as : List AV} {K K' : Hp → Prop} (w : yU d z as h K) (k : ∀ h', K h' → K' h') : yU d z as h K' := ZM.mono w fun v h' q => match v, q with
  | none, q => k h' q
theorem y_cl {i : Instr} {l z : Nat} {as : List AV} (e : decode cc pc = .ok (i, l)) (hz : zin d o pc l L st h i = some (.inr (.inl (z, as, r)))) (hd : 1 ≤ d) (hp : pc + 3 = pc') (k : ZM (d - 1) z as h (fun v h' => ZW d cc o pc' L (v.toList ++ r) h' Q)) : ZW d cc o pc L st h Q := by
  obtain ⟨d, rfl⟩ : ∃ d', d = d' + 1 := ⟨d - 1, by omega⟩
  have q : zact (d + 1) cc o pc L st h = some (.inr (.inl (z, as, r))) := by
    unfold zact
    rw [e]
    exact hz
  rw [ZW_call q, hp]
  exact k
theorem y_cI {i : Instr} {l z : Nat} {as : List AV} (e : decode cc pc = .ok (i, l)) (hz : zin d o pc l L st h i = some (.inr (.inl (z, as, r)))) (hd : 1 ≤ d) (hp : pc + 3 = pc') (k : yI (d - 1) z as h (fun x h' => ZW d cc o pc' L (vI x :: r) h' Q)) : ZW d cc o pc L st h Q :=
  y_cl e hz hd hp (ZM.mono k fun v h' q => match v, q with
    | some (.inl x), q => q)
theorem y_cJ {i : Instr} {l z : Nat} {as : List AV} (e : decode cc pc = .ok (i, l)) (hz : zin d o pc l L st h i = some (.inr (.inl (z, as, r)))) (hd : 1 ≤ d) (hp : pc + 3 = pc') (k : yJ (d - 1) z as h (fun x h' => ZW d cc o pc' L (vJ x :: r) h' Q)) : ZW d cc o pc L st h Q :=
  y_cl e hz hd hp (ZM.mono k fun v h' q => match v, q with
    | some (.inr (.inl x)), q => q)
theorem y_cU {i : Instr} {l z : Nat} {as : List AV} (e : decode cc pc = .ok (i, l)) (hz : zin d o pc l L st h i = some (.inr (.inl (z, as, r)))) (hd : 1 ≤ d) (hp : pc + 3 = pc') (k : yU (d - 1) z as h (fun h' => ZW d cc o pc' L r h' Q)) : ZW d cc o pc L st h Q :=
  y_cl e hz hd hp (ZM.mono k fun v h' q => match v, q with
    | none, q => q)
/-- the target of a virtual call -/
theorem yzv {k z a : Nat} {as : List AV} (hm : zmth o k = some (0, z)) (hn : st[zna z]? = some (vR (some a))) (hs : zS h a = zrc z) (h10 : (Nat.ble 10 (zrc z).1 && Nat.blt (zrc z).1 20) = true) (hc : zcall 3 (zna z + 1) z st = some (.inr (.inl (z, as, r)))) : zin d o pc 3 L st h (.invokevirtual k) = some (.inr (.inl (z, as, r))) := by
  simp [Nat.blt] at h10
  show zinv (zmth o k) 3 st h = _
  rw [hm]
  show (match st[zna z]? with
    | some (.inr (.inr (some a))) => if zS h a = zrc z ∧ 10 ≤ (zrc z).1 ∧ ((zrc z).1 = 20 → a < 32) then zcall 3 (zna z + 1) z st else none
    | _ => none) = _
  rw [hn]
  show (if zS h a = zrc z ∧ 10 ≤ (zrc z).1 ∧ ((zrc z).1 = 20 → a < 32) then zcall 3 (zna z + 1) z st else none) = _
  rw [if_pos ⟨hs, by omega, fun q => by omega⟩]
  exact hc
end YR
