/-! SOUNDNESS 1: numbers, locals, the picture of a heap -/
theorem zi_toInt {x : Int} (h : zr x) : (zi x).toInt = x := by
  obtain ⟨h1, h2⟩ := h
  unfold zi
  rw [Int32.toInt_ofInt, show Int32.size = 4294967296 from rfl, Int.bmod_def]
  split <;> omega
theorem zr_toInt (x : Int32) : zr x.toInt := by
  have h1 := Int32.le_toInt x
  have h2 := Int32.toInt_lt x
  unfold zr
  omega
theorem zi_of (x : Int32) : zi x.toInt = x := by unfold zi; exact Int32.ofInt_toInt x
theorem zr_zw (x : Int) : zr (zw x) := by unfold zr zw; omega
theorem zi_inj {x y : Int} (hx : zr x) (hy : zr y) (h : zi x = zi y) : x = y := by
  rw [← zi_toInt hx, ← zi_toInt hy, h]
theorem zi_zw (x : Int) : zi (zw x) = zi x := by
  have e : zw x = x + 4294967296 * (-((x + 2147483648) / 4294967296)) := by unfold zw; omega
  unfold zi
  apply Int32.toInt_inj.mp
  rw [Int32.toInt_ofInt, Int32.toInt_ofInt, e, show Int32.size = 4294967296 from rfl]
  generalize -((x + 2147483648) / 4294967296) = k
  have e2 : (x + 4294967296 * k) % ((4294967296 : Nat) : Int) = x % ((4294967296 : Nat) : Int) := by omega
  rw [Int.bmod_def, Int.bmod_def, e2]
theorem zi_add (x y : Int) : zi (zw (x + y)) = zi x + zi y := by rw [zi_zw]; unfold zi; exact Int32.ofInt_add x y
theorem zi_sub (x y : Int) : zi (zw (x - y)) = zi x - zi y := by rw [zi_zw]; unfold zi; exact Int32.ofInt_sub x y
theorem zi_mul (x y : Int) : zi (zw (x * y)) = zi x * zi y := by rw [zi_zw]; unfold zi; exact Int32.ofInt_mul x y
theorem zi_neg (x : Int) : zi (zw (-x)) = -zi x := by rw [zi_zw]; unfold zi; exact Int32.ofInt_neg x
theorem zi_0 : zi 0 = 0 := by decide +kernel
theorem zi_lt {x y : Int} (hx : zr x) (hy : zr y) : zi x < zi y ↔ x < y := by rw [Int32.lt_iff_toInt_lt, zi_toInt hx, zi_toInt hy]
theorem zi_le {x y : Int} (hx : zr x) (hy : zr y) : zi x ≤ zi y ↔ x ≤ y := by rw [Int32.le_iff_toInt_le, zi_toInt hx, zi_toInt hy]
theorem zi_eq {x y : Int} (hx : zr x) (hy : zr y) : zi x = zi y ↔ x = y := ⟨zi_inj hx hy, fun h => by rw [h]⟩
theorem zr_0 : zr 0 := by unfold zr; omega
theorem zi_nat (n : Nat) : zi (n : Int) = Int32.ofNat n := by
  unfold zi
  apply Int32.toInt_inj.mp
  rw [Int32.toInt_ofInt, Int32.toInt_ofNat']
theorem zi_clamp {x : Int} (hx : zr x) : (zi x).toNatClampNeg = x.toNat := by
  rw [← Int32.toNat_toInt, zi_toInt hx]
theorem zi_in {x : Int} (hx : zr x) {n : Nat} (h0 : 0 ≤ x) (h1 : x < (n : Int)) : vp_in (zi x) n := by
  rw [vp_in_iff, zi_toInt hx]
  exact ⟨h0, h1⟩
/-- the environment: addresses of what was there; where our cells begin; class numbers; slots; array classes; the script's length; the script -/
abbrev ZE : Type := (Nat → Nat) × Nat × (Nat → ClassId) × (Nat → Nat → Nat) × (Nat → ClassId) × Nat × (Nat → Int) × Option Nat
def eA (E : ZE) : Nat → Nat := E.1
def eB (E : ZE) : Nat := E.2.1
def eC (E : ZE) : Nat → ClassId := E.2.2.1
def eI (E : ZE) : Nat → Nat → Nat := E.2.2.2.1
def eR (E : ZE) : Nat → ClassId := E.2.2.2.2.1
def eL (E : ZE) : Nat := E.2.2.2.2.2.1
def eX (E : ZE) : Nat → Int := E.2.2.2.2.2.2.1
def eN (E : ZE) : Option Nat := E.2.2.2.2.2.2.2
def zad (E : ZE) (a : Nat) : Nat := if a < 32 then eA E a else eB E + (a - 32)
def cv (E : ZE) (v : AV) : Value := match v with
  | .inl x => .int (zi x)
  | .inr (.inl x) => .long x
  | .inr (.inr none) => .null
  | .inr (.inr (some a)) => .ref (zad E a)
def okv (v : AV) : Prop := match v with
  | .inl x => zr x
  | _ => True
def okst (st : List AV) : Prop := ∀ v ∈ st, okv v
def okL (L : LL) : Prop := ∀ (i : Nat) (v : AV), L[i]? = some (some v) → okv v
theorem cv_cat (E : ZE) (v : AV) : (cv E v).category = zcat v := by
  rcases v with x | x | x
  · rfl
  · rfl
  · cases x <;> rfl
def LRel (E : ZE) (ls : Array Slot) (nL : Nat) (L : LL) : Prop := ls.size = nL ∧ lv_wf ls ∧ L.length = nL ∧ ∀ (i : Nat) (v : AV), L[i]? = some (some v) → ls[i]? = some (.val (cv E v))
def zlv (E : ZE) (L : LL) : List (Nat × Value) := (List.range L.length).filterMap fun i => match L[i]? with
  | some (some v) => some (i, cv E v)
  | _ => none
theorem zlv_mem {E : ZE} {L : LL} {i : Nat} {v : AV} (h : L[i]? = some (some v)) : (i, cv E v) ∈ zlv E L := by
  refine List.mem_filterMap.mpr ⟨i, List.mem_range.mpr (List.getElem?_eq_some_iff.mp h).1, ?_⟩
  rw [h]
theorem zlv_mem' {E : ZE} {L : LL} {q : Nat × Value} (h : q ∈ zlv E L) : ∃ v, L[q.1]? = some (some v) ∧ q.2 = cv E v := by
  obtain ⟨i, -, hi⟩ := List.mem_filterMap.mp h
  split at hi
  · next v hv => cases hi; exact ⟨v, hv, rfl⟩
  · cases hi
theorem LRel.has {E : ZE} {ls : Array Slot} {nL : Nat} {L : LL} (h : LRel E ls nL L) : lv_has ls nL (zlv E L) := by
  refine ⟨h.1, h.2.1, fun q hq => ?_⟩
  obtain ⟨v, h1, h2⟩ := zlv_mem' hq
  rw [h2]
  exact h.2.2.2 q.1 v h1
theorem zget_some {L : LL} {k t : Nat} {v : AV} (h : zget L k t = some v) : L[k]? = some (some v) ∧ ztag v = t := by
  unfold zget at h
  split at h
  · next w hw =>
    split at h
    · next ht => cases h; exact ⟨hw, ht⟩
    · cases h
  · cases h
theorem zprev_ok {E : ZE} {L : LL} {k : Nat} (h : zprev L k = true) {i : Nat} {v : AV} (hi : i + 1 = k) (hv : L[i]? = some (some v)) : ¬ (cv E v).category = 2 := by
  subst hi
  unfold zprev at h
  rw [cv_cat]
  intro hc
  rcases v with x | x | x
  · simp [zcat] at hc
  · simp only [hv] at h
    cases h
  · simp [zcat] at hc
theorem LRel.set1 {E : ZE} {ls : Array Slot} {nL : Nat} {L : LL} (h : LRel E ls nL L) {k : Nat} {v : AV} (hk : k < L.length) (hp : zprev L k = true) {ls' : Array Slot} (h' : lv_has ls' nL ((k, cv E v) :: (zlv E L).filter (fun q => !(q.1 == k) && !(q.1 + 1 == k && q.2.category == 2)))) : LRel E ls' nL (L.set k (some v)) := by
  refine ⟨h'.1, h'.2.1, by rw [List.length_set]; exact h.2.2.1, fun i w hw => ?_⟩
  rw [List.getElem?_set] at hw
  by_cases e : k = i
  · subst e
    rw [if_pos rfl, if_pos hk] at hw
    cases hw
    exact h'.2.2 (k, cv E v) List.mem_cons_self
  · rw [if_neg e] at hw
    refine h'.2.2 (i, cv E w) (List.mem_cons_of_mem _ (List.mem_filter.mpr ⟨zlv_mem hw, ?_⟩))
    have e' : ¬ i = k := fun z => e z.symm
    by_cases e2 : i + 1 = k
    · have := zprev_ok (E := E) hp e2 hw
      simp [e', this]
    · simp [e', e2]
theorem LRel.set2 {E : ZE} {ls : Array Slot} {nL : Nat} {L : LL} (h : LRel E ls nL L) {k : Nat} {v : AV} (hk : k + 1 < L.length) (hp : zprev L k = true) {ls' : Array Slot} (h' : lv_has ls' nL ((k, cv E v) :: (zlv E L).filter (fun q => !(q.1 == k) && (!(q.1 == k + 1) && !(q.1 + 1 == k && q.2.category == 2))))) : LRel E ls' nL ((L.set k (some v)).set (k + 1) none) := by
  refine ⟨h'.1, h'.2.1, by rw [List.length_set, List.length_set]; exact h.2.2.1, fun i w hw => ?_⟩
  rw [List.getElem?_set, List.getElem?_set] at hw
  by_cases e : k + 1 = i
  · rw [if_pos e] at hw
    split at hw <;> cases hw
  · rw [if_neg e] at hw
    by_cases e1 : k = i
    · subst e1
      rw [if_pos rfl, if_pos (by omega)] at hw
      cases hw
      exact h'.2.2 (k, cv E v) List.mem_cons_self
    · rw [if_neg e1] at hw
      refine h'.2.2 (i, cv E w) (List.mem_cons_of_mem _ (List.mem_filter.mpr ⟨zlv_mem hw, ?_⟩))
      have e' : ¬ i = k := fun z => e1 z.symm
      have e'' : ¬ i = k + 1 := fun z => e z.symm
      by_cases e2 : i + 1 = k
      · have := zprev_ok (E := E) hp e2 hw
        simp [e', e'', this]
      · simp [e', e'', e2]
theorem okL.set {L : LL} {k : Nat} {v : AV} (h : okL L) (hv : okv v) : okL (L.set k (some v)) := by
  intro i w hw
  rw [List.getElem?_set] at hw
  split at hw
  · split at hw
    · cases hw; exact hv
    · cases hw
  · exact h i w hw
theorem okL.setN {L : LL} {k : Nat} (h : okL L) : okL (L.set k none) := by
  intro i w hw
  rw [List.getElem?_set] at hw
  split at hw
  · split at hw <;> cases hw
  · exact h i w hw
theorem zenl_args (E : ZE) (as : List AV) : ∀ (j i : Nat) (v : AV), (zenl as)[i]? = some (some v) → (j + i, cv E v) ∈ lv_args j (as.map (cv E)) := by
  induction as with
  | nil => intro j i v h; simp [zenl] at h
  | cons a as ih =>
    intro j i v h
    unfold zenl at h
    simp only [List.map_cons, lv_args, cv_cat]
    split at h
    · next hc =>
      rw [if_pos hc]
      match i, h with
      | 0, h => simp at h; subst h; exact List.mem_cons_self
      | 1, h => simp at h
      | i + 2, h =>
        have := ih (j + 2) i v (by simpa using h)
        refine List.mem_cons_of_mem _ ?_
        rw [show j + (i + 2) = j + 2 + i by omega]
        exact this
    · next hc =>
      rw [if_neg hc]
      match i, h with
      | 0, h => simp at h; subst h; exact List.mem_cons_self
      | i + 1, h =>
        have := ih (j + 1) i v (by simpa using h)
        refine List.mem_cons_of_mem _ ?_
        rw [show j + (i + 1) = j + 1 + i by omega]
        exact this
theorem zenl_len (E : ZE) (as : List AV) : (lg_sl (as.map (cv E))).length = (zenl as).length := by
  induction as with
  | nil => rfl
  | cons a as ih =>
    have e : lg_sl ((a :: as).map (cv E)) = (if (cv E a).category = 2 then [Slot.val (cv E a), Slot.second] else [Slot.val (cv E a)]) ++ lg_sl (as.map (cv E)) := by simp [lg_sl]
    rw [e, cv_cat]
    unfold zenl
    split <;> simp [ih]
theorem zenl_ok {as : List AV} (h : okst as) : okL (zenl as) := by
  induction as with
  | nil => intro i v hv; simp [zenl] at hv
  | cons a as ih =>
    have ih := ih (fun v hv => h v (List.mem_cons_of_mem _ hv))
    intro i v hv
    unfold zenl at hv
    split at hv
    · match i, hv with
      | 0, hv => simp at hv; subst hv; exact h _ List.mem_cons_self
      | 1, hv => simp at hv
      | i + 2, hv => exact ih i v (by simpa using hv)
    · match i, hv with
      | 0, hv => simp at hv; subst hv; exact h _ List.mem_cons_self
      | i + 1, hv => exact ih i v (by simpa using hv)
theorem LRel.entry (E : ZE) {as : List AV} {n : Nat} (h : (zenl as).length ≤ n) : LRel E ((lg_sl (as.map (cv E)) ++ List.replicate (n - (lg_sl (as.map (cv E))).length) Slot.unset).toArray) n (zent n as) := by
  obtain ⟨h1, h2, h3⟩ := lv_entry (as.map (cv E)) (n := n) (by rw [zenl_len]; exact h)
  refine ⟨h1, h2, by unfold zent; rw [List.length_append, List.length_replicate]; omega, fun i v hv => ?_⟩
  unfold zent at hv
  by_cases hi : i < (zenl as).length
  · rw [List.getElem?_append_left hi] at hv
    have := zenl_args E as 0 i v hv
    rw [Nat.zero_add] at this
    exact h3 _ this
  · rw [List.getElem?_append_right (by omega)] at hv
    have := List.eq_of_mem_replicate (List.mem_of_getElem? hv)
    cases this
theorem okL.entry {as : List AV} {n : Nat} (h : okst as) : okL (zent n as) := by
  intro i v hv
  unfold zent at hv
  by_cases hi : i < (zenl as).length
  · rw [List.getElem?_append_left hi] at hv
    exact zenl_ok h i v hv
  · rw [List.getElem?_append_right (by omega)] at hv
    have := List.eq_of_mem_replicate (List.mem_of_getElem? hv)
    cases this
