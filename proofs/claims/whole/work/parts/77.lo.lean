/-! WHAT WAS THERE BEFORE stays through every run -/
def Lo (h h' : Hp) : Prop := zN h ≤ zN h' ∧ (∀ a, a < 32 + zN h → zS h' a = zS h a) ∧ ∀ a k, a < 32 → zV h' a k = zV h a k
def zLo (h : Hp) (r : ZA) : Prop := ∀ x, r = some (.inl x) → Lo h x.2.2.2
section LOW
variable {h h2 h3 : Hp} {a k n kd sp b dp : Nat} {x : Int} {y : Int64} {q : Option Nat}
theorem Lo.rf : Lo h h := ⟨Nat.le_refl _, fun _ _ => rfl, fun _ _ _ => rfl⟩
theorem Lo.tr (f : Lo h h2) (g : Lo h2 h3) : Lo h h3 := ⟨Nat.le_trans f.1 g.1, fun a ha => (g.2.1 a (by have := f.1; omega)).trans (f.2.1 a ha), fun a k ha => (g.2.2 a k ha).trans (f.2.2 a k ha)⟩
theorem Lo.sV (ha : 32 ≤ a) : Lo h (zsetV h a k x) := ⟨Nat.le_refl _, fun _ _ => rfl, fun c j hc => by show (if c = a ∧ j = k then x else zV h c j) = _; rw [if_neg (by omega)]⟩
theorem Lo.sJ : Lo h (zsetJ h a k y) := ⟨Nat.le_refl _, fun _ _ => rfl, fun _ _ _ => rfl⟩
theorem Lo.sP : Lo h (zsetP h a k q) := ⟨Nat.le_refl _, fun _ _ => rfl, fun _ _ _ => rfl⟩
theorem Lo.cV (hb : 32 ≤ b) : Lo h (zcpV h a sp b dp n) := ⟨Nat.le_refl _, fun _ _ => rfl, fun c j hc => by show (if c = b ∧ dp ≤ j ∧ j < dp + n then zV h a (sp + (j - dp)) else zV h c j) = _; rw [if_neg (by omega)]⟩
theorem Lo.cJ : Lo h (zcpJ h a sp b dp n) := ⟨Nat.le_refl _, fun _ _ => rfl, fun _ _ _ => rfl⟩
theorem Lo.mk : Lo h (zmk kd n h) := ⟨Nat.le_succ _, fun c hc => by show (if c = 32 + zN h then (kd, n) else zS h c) = _; rw [if_neg (by omega)], fun c j hc => by show (if c = 32 + zN h then 0 else zV h c j) = _; rw [if_neg (by omega)]⟩
theorem zLo_n {pc : Nat} {L : LL} {st : List AV} : zLo h (zn pc L st h) := fun x e => by cases e; exact Lo.rf
theorem zLo_h {pc : Nat} {L : LL} {st : List AV} (f : Lo h h2) : zLo h (zn pc L st h2) := fun x e => by cases e; exact f
theorem zLo_0 : zLo h none := fun x e => by cases e
theorem zLo_c {z : Nat × List AV × List AV} : zLo h (some (.inr (.inl z))) := fun x e => by cases e
theorem zLo_r {z : Option AV} : zLo h (some (.inr (.inr z))) := fun x e => by cases e
end LOW
section LOW2
variable {h : Hp} {L : LL} {st : List AV}
theorem lo_zld {t k len pc l : Nat} : zLo h (zld t k len pc l L st h) := by
  unfold zld
  repeat' split
  all_goals first
    | exact zLo_n
    | exact zLo_0
    | exact zLo_c
    | exact zLo_r
theorem lo_zsto {t k len pc l : Nat} : zLo h (zsto t k len pc l L st h) := by
  unfold zsto
  repeat' split
  all_goals first
    | exact zLo_n
    | exact zLo_0
    | exact zLo_c
    | exact zLo_r
theorem lo_zsto2 {k len pc l : Nat} : zLo h (zsto2 k len pc l L st h) := by
  unfold zsto2
  repeat' split
  all_goals first
    | exact zLo_n
    | exact zLo_0
    | exact zLo_c
    | exact zLo_r
theorem lo_zc1 {len : Nat} {v : AV} {pc l : Nat} : zLo h (zc1 len v pc l L st h) := by
  unfold zc1
  repeat' split
  all_goals first
    | exact zLo_n
    | exact zLo_0
    | exact zLo_c
    | exact zLo_r
theorem lo_zi2 {f : Int → Int → Int} {pc l : Nat} : zLo h (zi2 f pc l L st h) := by
  unfold zi2
  repeat' split
  all_goals first
    | exact zLo_n
    | exact zLo_0
    | exact zLo_c
    | exact zLo_r
theorem lo_zi2d {f : Int → Int → Int} {pc l : Nat} : zLo h (zi2d f pc l L st h) := by
  unfold zi2d
  repeat' split
  all_goals first
    | exact zLo_n
    | exact zLo_0
    | exact zLo_c
    | exact zLo_r
theorem lo_zi1 {f : Int → AV} {pc l : Nat} : zLo h (zi1 f pc l L st h) := by
  unfold zi1
  repeat' split
  all_goals first
    | exact zLo_n
    | exact zLo_0
    | exact zLo_c
    | exact zLo_r
theorem lo_zj1 {f : Int64 → AV} {pc l : Nat} : zLo h (zj1 f pc l L st h) := by
  unfold zj1
  repeat' split
  all_goals first
    | exact zLo_n
    | exact zLo_0
    | exact zLo_c
    | exact zLo_r
theorem lo_zj2 {f : Int64 → Int64 → AV} {pc l : Nat} : zLo h (zj2 f pc l L st h) := by
  unfold zj2
  repeat' split
  all_goals first
    | exact zLo_n
    | exact zLo_0
    | exact zLo_c
    | exact zLo_r
theorem lo_zj2d {f : Int64 → Int64 → AV} {pc l : Nat} : zLo h (zj2d f pc l L st h) := by
  unfold zj2d
  repeat' split
  all_goals first
    | exact zLo_n
    | exact zLo_0
    | exact zLo_c
    | exact zLo_r
theorem lo_zji {f : Int64 → Int → AV} {pc l : Nat} : zLo h (zji f pc l L st h) := by
  unfold zji
  repeat' split
  all_goals first
    | exact zLo_n
    | exact zLo_0
    | exact zLo_c
    | exact zLo_r
theorem lo_zjmp {pc : Nat} {off : Int} : zLo h (zjmp pc off L st h) := by
  unfold zjmp
  repeat' split
  all_goals first
    | exact zLo_n
    | exact zLo_0
    | exact zLo_c
    | exact zLo_r
theorem lo_zgetf {e : Option (Nat × Nat)} {pc l : Nat} : zLo h (zgetf e pc l L st h) := by
  unfold zgetf
  repeat' split
  all_goals first
    | exact zLo_n
    | exact zLo_0
    | exact zLo_c
    | exact zLo_r
theorem lo_zald {kd : Nat} {f : Nat → Nat → AV} {pc l : Nat} : zLo h (zald kd f pc l L st h) := by
  unfold zald
  repeat' split
  all_goals first
    | exact zLo_n
    | exact zLo_0
    | exact zLo_c
    | exact zLo_r
theorem lo_zalen {pc l : Nat} : zLo h (zalen pc l L st h) := by
  unfold zalen
  repeat' split
  all_goals first
    | exact zLo_n
    | exact zLo_0
    | exact zLo_c
    | exact zLo_r
theorem lo_zmm {f : Int → Int → Int} {d pc l : Nat} : zLo h (zmm f d pc l L st h) := by
  unfold zmm
  repeat' split
  all_goals first
    | exact zLo_n
    | exact zLo_0
    | exact zLo_c
    | exact zLo_r
theorem lo_zmab {d pc l : Nat} : zLo h (zmab d pc l L st h) := by
  unfold zmab
  repeat' split
  all_goals first
    | exact zLo_n
    | exact zLo_0
    | exact zLo_c
    | exact zLo_r
theorem lo_zmfm {d pc l : Nat} : zLo h (zmfm d pc l L st h) := by
  unfold zmfm
  repeat' split
  all_goals first
    | exact zLo_n
    | exact zLo_0
    | exact zLo_c
    | exact zLo_r
theorem lo_zoinit {d pc l : Nat} : zLo h (zoinit d pc l L st h) := by
  unfold zoinit
  repeat' split
  all_goals first
    | exact zLo_n
    | exact zLo_0
    | exact zLo_c
    | exact zLo_r
theorem lo_zco {len : Nat} {v : Option AV} {pc l : Nat} : zLo h (zco len v pc l L st h) := by
  unfold zco
  split
  · exact lo_zc1
  · exact zLo_0
theorem lo_zputf {o : Nat} {e : Option (Nat × Nat)} {pc l : Nat} : zLo h (zputf o e pc l L st h) := by
  unfold zputf
  split
  · split
    · rename_i c
      exact zLo_h (Lo.sV c.2.2.2.1)
    · exact zLo_0
  · split
    · exact zLo_h Lo.sP
    · exact zLo_0
  · exact zLo_0
theorem lo_ziast {pc l : Nat} : zLo h (ziast pc l L st h) := by
  unfold ziast
  split
  · split
    · rename_i c
      exact zLo_h (Lo.sV c.2.2.1)
    · exact zLo_0
  · exact zLo_0
theorem lo_zbast {pc l : Nat} : zLo h (zbast pc l L st h) := by
  unfold zbast
  split
  · split
    · rename_i c
      exact zLo_h (Lo.sV c.2.2.1)
    · exact zLo_0
  · exact zLo_0
theorem lo_zlast {pc l : Nat} : zLo h (zlast pc l L st h) := by
  unfold zlast
  split
  · split
    · exact zLo_h Lo.sJ
    · exact zLo_0
  · exact zLo_0
theorem lo_zaast {pc l : Nat} : zLo h (zaast pc l L st h) := by
  unfold zaast
  split
  · split
    · exact zLo_h Lo.sP
    · exact zLo_0
  · exact zLo_0
theorem lo_znew {e : Option Nat} {pc l : Nat} : zLo h (znew e pc l L st h) := by
  unfold znew
  split
  · split
    · exact zLo_h Lo.mk
    · exact zLo_0
  · exact zLo_0
theorem lo_znewa {kd len pc l : Nat} : zLo h (znewa kd len pc l L st h) := by
  unfold znewa
  split
  · split
    · exact zLo_h Lo.mk
    · exact zLo_0
  · exact zLo_0
theorem lo_zcpy {d pc l : Nat} : zLo h (zcpy d pc l L st h) := by
  unfold zcpy
  split
  · split
    · rename_i c
      repeat' split
      all_goals first
        | exact zLo_h (Lo.cV c.2.2.2.2.1)
        | exact zLo_h Lo.cJ
        | exact zLo_0
    · exact zLo_0
  · exact zLo_0
theorem lo_zcall {l na z : Nat} : zLo h (zcall l na z st) := by
  unfold zcall
  split
  · exact zLo_c
  · exact zLo_0
theorem lo_zinv {e : Option (Nat × Nat)} {l : Nat} : zLo h (zinv e l st h) := by
  unfold zinv
  repeat' split
  all_goals first
    | exact lo_zcall
    | exact zLo_0
theorem lo_zinvS {e : Option (Nat × Nat)} {l : Nat} : zLo h (zinvS e l st) := by
  unfold zinvS
  repeat' split
  all_goals first
    | exact lo_zcall
    | exact zLo_0
theorem lo_zinvI {d pc l : Nat} {e : Option (Nat × Nat)} : zLo h (zinvI d e pc l L st h) := by
  unfold zinvI
  repeat' split
  all_goals first
    | exact lo_zcall
    | exact lo_zoinit
    | exact zLo_0
theorem lo_zret {v : Option AV} {l : Nat} : zLo h (zret v l) := by
  unfold zret
  split
  · exact zLo_r
  · exact zLo_0
theorem lo_zin {d o pc l : Nat} {i : Instr} : zLo h (zin d o pc l L st h i) := by
  unfold zin
  repeat' split
  all_goals first
    | exact zLo_0
    | exact zLo_n
    | exact lo_zld
    | exact lo_zsto
    | exact lo_zsto2
    | exact lo_zc1
    | exact lo_zco
    | exact lo_zgetf
    | exact lo_zputf
    | exact lo_zi2
    | exact lo_zi2d
    | exact lo_zi1
    | exact lo_zj1
    | exact lo_zj2
    | exact lo_zj2d
    | exact lo_zji
    | exact lo_zjmp
    | exact lo_zald
    | exact lo_ziast
    | exact lo_zbast
    | exact lo_zlast
    | exact lo_zaast
    | exact lo_zalen
    | exact lo_znew
    | exact lo_znewa
    | exact lo_zinv
    | exact lo_zcpy
    | exact lo_zmm
    | exact lo_zmab
    | exact lo_zmfm
    | exact lo_zinvS
    | exact lo_zinvI
    | exact lo_zret
theorem lo_zact {d o pc : Nat} {cc : ByteArray} : zLo h (zact d cc o pc L st h) := by
  unfold zact
  split
  · exact lo_zin
  · exact zLo_0
end LOW2
theorem zrun_lo : ∀ (n : Nat) {d : Nat} {cc : ByteArray} {o pc : Nat} {L : LL} {st : List AV} {h h' : Hp} {v : Option AV}, zrun n d cc o pc L st h = some (v, h') → Lo h h' := by
  intro n
  induction n with
  | zero => intro d cc o pc L st h h' v e; cases e
  | succ n ih =>
    intro d cc o pc L st h h' v e
    rw [zrun_succ] at e
    unfold zstep at e
    split at e
    · cases e
    · next ha => exact Lo.tr (lo_zact _ ha) (ih e)
    · split at e
      · cases e
      · split at e
        · split at e
          · next hc =>
            split at e
            · exact Lo.tr (ih hc) (ih e)
            · cases e
          · cases e
        · cases e
    · cases e
      exact Lo.rf
theorem ZW.lo {d : Nat} {cc : ByteArray} {o pc : Nat} {L : LL} {st : List AV} {h : Hp} {Q : Option AV → Hp → Prop} (w : ZW d cc o pc L st h Q) : ZW d cc o pc L st h (fun v h' => Q v h' ∧ Lo h h') := by
  obtain ⟨n, v, h', e, q⟩ := w
  exact ⟨n, v, h', e, q, zrun_lo n e⟩
theorem ZM.lo {d z : Nat} {as : List AV} {h : Hp} {K : Option AV → Hp → Prop} (w : ZM d z as h K) : ZM d z as h (fun v h' => K v h' ∧ Lo h h') := ⟨w.1, w.2.lo.mono fun v h' q => ⟨q.1.1, q.1.2, q.2⟩⟩
theorem yI.lo {d z : Nat} {as : List AV} {h : Hp} {K : Int → Hp → Prop} (w : yI d z as h K) : yI d z as h (fun t h' => K t h' ∧ Lo h h') := by
  refine ZM.mono (ZM.lo w) fun v h' q => ?_
  match v, q with
  | none, q => exact q.1.elim
  | some (.inl x), q => exact q
  | some (.inr x), q => exact q.1.elim
theorem yJ.lo {d z : Nat} {as : List AV} {h : Hp} {K : Int64 → Hp → Prop} (w : yJ d z as h K) : yJ d z as h (fun t h' => K t h' ∧ Lo h h') := by
  refine ZM.mono (ZM.lo w) fun v h' q => ?_
  match v, q with
  | none, q => exact q.1.elim
  | some (.inl x), q => exact q.1.elim
  | some (.inr (.inl x)), q => exact q
  | some (.inr (.inr x)), q => exact q.1.elim
