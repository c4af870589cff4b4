/-! SOUNDNESS 5: the heap's picture under stores and makings -/
theorem zws_get {E : ZE} {h : Hp} {a : Nat} (h1 : 32 ≤ a) (h2 : a < 32 + zN h) : (zws E h)[a - 32]? = some (zad E a, zcell E h a) := by
  unfold zws
  rw [List.getElem?_map, List.getElem?_range (by omega)]
  simp only [Option.map_some, zad]
  rw [if_neg (by omega), show 32 + (a - 32) = a by omega]
theorem zalloc {E : ZE} {H : Heap} {h : Hp} (hI : ZI E H h) {a : Nat} (hk : (zS h a).1 ≠ 0) : a < 32 + zN h := by
  apply Nat.lt_of_not_le
  intro hle
  exact hk (by rw [hI.2.2.2.2.2.2 a hle])
theorem zws_D (E : ZE) (h : Hp) : va_D (zA E) (zws E h) := by
  have key : ∀ (i : Nat) (q : Nat × va_E), (zws E h)[i]? = some q → q.1 = eB E + i := by
    intro i q hq
    unfold zws at hq
    rw [List.getElem?_map] at hq
    by_cases hi : i < zN h
    · rw [List.getElem?_range hi] at hq
      cases hq; rfl
    · rw [List.getElem?_eq_none (by simpa using hi)] at hq
      cases hq
  refine ⟨fun i j p q hp hq e => ?_, fun k q hq => ?_⟩
  · rw [key i p hp, key j q hq] at e
    omega
  · unfold zA
    rw [key k q hq]
    omega
theorem zcell_congr {E : ZE} {h h' : Hp} {a : Nat} (hS : zS h' a = zS h a) (hV : ∀ k, zV h' a k = zV h a k) (hJ : ∀ k, zJ h' a k = zJ h a k) (hP : ∀ k, zP h' a k = zP h a k) : zcell E h' a = zcell E h a := by
  have hJ' : zJ h' a = zJ h a := funext hJ
  have hf : ∀ ci n, zfs E h' ci a n = zfs E h ci a n := by
    intro ci n
    unfold zfs
    refine List.map_congr_left fun k _ => ?_
    unfold zfv
    rw [hV, hP]
  unfold zcell
  rw [hS]
  simp only [hV, hJ', hP, hf]
theorem zws_set {E : ZE} {h h' : Hp} {a : Nat} {x : va_E} (hN : zN h' = zN h) (ho : ∀ b, b ≠ a → zcell E h' b = zcell E h b) (ha : zcell E h' a = x) (h32 : 32 ≤ a) : (zws E h).set (a - 32) (zad E a, x) = zws E h' := by
  apply List.ext_getElem?
  intro i
  unfold zws
  rw [List.getElem?_set, hN]
  simp only [List.length_map, List.length_range, List.getElem?_map]
  by_cases hi : i < zN h
  · rw [List.getElem?_range hi]
    simp only [Option.map_some]
    by_cases e : a - 32 = i
    · rw [if_pos e, if_pos (by omega)]
      simp only [zad]
      rw [if_neg (by omega), e, show 32 + i = a by omega, ha]
    · rw [if_neg e, ho (32 + i) (by omega)]
  · rw [List.getElem?_eq_none (by simpa using hi)]
    simp only [Option.map_none]
    split
    · rw [if_neg (by omega)]
    · rfl
theorem zws_push {E : ZE} {h h' : Hp} {x : va_E} (hN : zN h' = zN h + 1) (ho : ∀ b, b < 32 + zN h → zcell E h' b = zcell E h b) (ha : zcell E h' (32 + zN h) = x) : zws E h' = zws E h ++ [(eB E + zN h, x)] := by
  unfold zws
  rw [hN, List.range_succ, List.map_append, List.map_cons, List.map_nil, ha]
  congr 1
  refine List.map_congr_left fun j hj => ?_
  rw [ho (32 + j) (by have := List.mem_range.mp hj; omega)]
def okH (h : Hp) : Prop := ∀ a k : Nat, zr (zV h a k)
theorem va_S.two {A : Nat → Prop} {H0 H H1 : Heap} {locs locs1 : List Loc} (h1 : va_S A H0 H locs) (h2 : va_S A H H1 locs1) : va_S A H0 H1 locs1 :=
  ⟨Nat.le_trans h1.1 h2.1, fun q a b => by rw [h2.2.1 q (Nat.lt_of_lt_of_le a h1.1) b]; exact h1.2.1 q a b, h2.2.2⟩
theorem va_S.here {A : Nat → Prop} {H0 H : Heap} {locs : List Loc} (h1 : va_S A H0 H locs) : va_S A H H locs := ⟨Nat.le_refl _, fun _ _ _ => rfl, h1.2.2⟩
section ZPM
variable {p : Program} {l0 : Launch} {e : Env} {R : Room} {s : State} {m : MethodId} {args : Array Value} {below : List Frame} {meth : Method} {c : Code} {Q : State → Prop} {E : ZE} {cc : ByteArray} {o pc nL d l cells slots : Nat} {L : LL} {st : List AV} {h : Hp} {pc' : Nat} {L' : LL} {st' : List AV} {h' : Hp} {H H1 : Heap} {locs locs1 : List Loc} {g : JFrame}
theorem zsz (k : H1.size ≤ s.heap.size + cells → W p l0 e R s m args below meth c H1 locs cells slots Q g) : W p l0 e R s m args below meth c H1 locs cells slots Q g := fun T hT X => k (by rw [← hT]; exact X.heapSize) T hT X
/-- what a step comes to -/
def ZOkH (E : ZE) (p : Program) (l : Launch) (e : Env) (R : Room) (s : State) (m : MethodId) (args : Array Value) (below : List Frame) (meth : Method) (c : Code) (nL : Nat) (Q : State → Prop) (cells slots pc : Nat) (L : LL) (st : List AV) (h : Hp) (pc' : Nat) (L' : LL) (st' : List AV) (h' : Hp) : Prop :=
  zN h ≤ zN h' ∧ zM h ≤ zM h' ∧ okH h' ∧ okL L' ∧ okst st' ∧ (cells + (zN h' - zN h) ≤ R.cells → slots + (zM h' - zM h) ≤ R.slots → ZPt E p l e R s m args below meth c nL Q (cells + (zN h' - zN h)) (slots + (zM h' - zM h)) pc' L' st' h' → ZPt E p l e R s m args below meth c nL Q cells slots pc L st h)
theorem ZOk.toH (hH : okH h) (k : ZOk E p l0 e R s m args below meth c nL Q cells slots pc L st h pc' L' st' h') : ZOkH E p l0 e R s m args below meth c nL Q cells slots pc L st h pc' L' st' h' := by
  obtain ⟨rfl, hL, hs, k⟩ := k
  refine ⟨Nat.le_refl _, Nat.le_refl _, hH, hL, hs, fun _ _ z => k ?_⟩
  simpa using z
/-- a store that makes nothing: from the new picture of the cells to the new picture of the heap -/
theorem ZI.store {a : Nat} {x : va_E} (hI : ZI E H h) (hV : ZV E s H locs cells) (hN : zN h' = zN h) (ho : ∀ b, b ≠ a → zcell E h' b = zcell E h b) (ha : zcell E h' a = x) (h32 : 32 ≤ a) (hok : okH h') (hS : ∀ b, zS h' b = zS h b) (hVb : ∀ b k, b < 32 → zV h' b k = zV h b k) (hPb : ∀ b k, b < 32 → zP h' b k = zP h b k)
    (hP1 : va_P (eC E, eI E) zcls9 ((zws E h).set (a - 32) (zad E a, x)) H1) (hS1 : va_S (zA E) H H1 locs1) (hz : H1.size ≤ s.heap.size + cells) : ZI E H1 h' ∧ ZV E s H1 locs1 cells := by
  rw [zws_set hN ho ha h32] at hP1
  have hz1 : H.size ≤ H1.size := hS1.1
  have hz2 := hV.2
  have hz3 := hI.2.1
  refine ⟨⟨hP1, by rw [hN]; omega, hok, fun b hb => by rw [hS]; exact hI.2.2.2.1 b hb, fun b k hb => by rw [hVb b k hb]; exact hI.2.2.2.2.1 b k hb, fun b k hb => by rw [hPb b k hb]; exact hI.2.2.2.2.2.1 b k hb, fun b hb => by rw [hS]; exact hI.2.2.2.2.2.2 b (by omega)⟩, hV.1.two hS1, by omega⟩
theorem zcell_1 {a : Nat} (h1 : (zS h a).1 = 1) : zcell E h a = .inl (eR E 1, ((zS h a).2, .inl (fun k => zi (zV h a k)))) := by unfold zcell; rw [if_pos h1]
theorem zcell_2 {a : Nat} (h1 : (zS h a).1 = 2) : zcell E h a = .inl (eR E 2, ((zS h a).2, .inl (fun k => zi (zV h a k)))) := by unfold zcell; rw [if_neg (by omega), if_pos h1]
theorem zcell_3 {a : Nat} (h1 : (zS h a).1 = 3) : zcell E h a = .inl (eR E 3, ((zS h a).2, .inr (.inl (zJ h a)))) := by unfold zcell; rw [if_neg (by omega), if_neg (by omega), if_pos h1]
theorem zcell_5 {a : Nat} (h1 : (zS h a).1 = 5) : zcell E h a = .inl (eR E 5, ((zS h a).2, .inr (.inr (.inr (.inr (fun k => (zP h a k).map (zad E))))))) := by unfold zcell; rw [if_neg (by omega), if_neg (by omega), if_neg (by omega), if_pos h1]
theorem zcell_6 {a : Nat} (h1 : (zS h a).1 = 6) : zcell E h a = .inl (eR E 6, ((zS h a).2, .inr (.inr (.inr (.inr (fun k => (zP h a k).map (zad E))))))) := by unfold zcell; rw [if_neg (by omega), if_neg (by omega), if_neg (by omega), if_neg (by omega), if_pos h1]
theorem zcell_o {a ci : Nat} (h1 : zS h a = (10 + ci, zNf ci)) : zcell E h a = .inr (ci, zfs E h ci a (zNf ci)) := by
  unfold zcell
  rw [h1]
  rw [if_neg (by omega), if_neg (by omega), if_neg (by omega), if_neg (by omega), if_neg (by omega), show 10 + ci - 10 = ci by omega]
theorem zV_set (a k : Nat) (x : Int) (b j : Nat) : zV (zsetV h a k x) b j = if b = a ∧ j = k then x else zV h b j := rfl
theorem zJ_set (a k : Nat) (x : Int64) (b j : Nat) : zJ (zsetJ h a k x) b j = if b = a ∧ j = k then x else zJ h b j := rfl
theorem zP_set (a k : Nat) (x : Option Nat) (b j : Nat) : zP (zsetP h a k x) b j = if b = a ∧ j = k then x else zP h b j := rfl
theorem okH.setV {a k : Nat} {x : Int} (hH : okH h) (hx : zr x) : okH (zsetV h a k x) := by
  intro b j
  rw [zV_set]
  split
  · exact hx
  · exact hH b j
theorem zcell_setV {a k b : Nat} {x : Int} (hb : b ≠ a) : zcell E (zsetV h a k x) b = zcell E h b := zcell_congr rfl (fun j => by rw [zV_set, if_neg (fun q => hb q.1)]) (fun _ => rfl) (fun _ => rfl)
theorem zcell_setJ {a k b : Nat} {x : Int64} (hb : b ≠ a) : zcell E (zsetJ h a k x) b = zcell E h b := zcell_congr rfl (fun _ => rfl) (fun j => by rw [zJ_set, if_neg (fun q => hb q.1)]) (fun _ => rfl)
theorem zcell_setP {a k b : Nat} {x : Option Nat} (hb : b ≠ a) : zcell E (zsetP h a k x) b = zcell E h b := zcell_congr rfl (fun _ => rfl) (fun _ => rfl) (fun j => by rw [zP_set, if_neg (fun q => hb q.1)])
end ZPM
