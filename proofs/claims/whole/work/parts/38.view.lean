/-! VIEWS of the state (printed by wip/whole/gen_view.py): the class's houses, the model's fields, the model's images.
Rows: 0 heads, year, notes, seen, plan, book, which shop holds; 1 kinds; 2 v; 3 ages; 4 bumps; 5 rows; 6 the tune; 7, 8 the plan; 9, 10 the book; 11 .. 14 seen -/
abbrev Vw : Type := Nat → Nat → Int
def up (σ : Vw) (j k : Nat) (x : Int) : Vw := fun j' k' => if j' = j ∧ k' = k then x else σ j' k'
def xcC (a j k : Nat) : Option (Nat × Nat) :=
  if j = 0 ∧ k = 0 then some (a, 10) else if j = 0 ∧ k = 1 then some (a, 11) else if j = 0 ∧ k = 2 then some (a + 7, 1) else if j = 0 ∧ k = 3 then some (a + 9, 1) else if j = 0 ∧ k = 4 then some (a + 11, 1) else if j = 0 ∧ k = 5 then some (a + 13, 1) else if j = 1 ∧ k < 6 then some (a + 1, k) else if j = 2 ∧ k < 6 then some (a + 2, k) else if j = 3 ∧ k < 6 then some (a + 3, k) else if j = 4 ∧ k < 36 then some (a + 4, k) else if j = 5 ∧ k < 24 then some (a + 5, k) else if j = 6 ∧ k < 8 then some (a + 8, 4 * k) else if j = 7 ∧ k < 10 then some (a + 12, 4 * k) else if j = 8 ∧ k < 10 then some (a + 12, 4 * k + 1) else if j = 9 ∧ k < 8 then some (a + 14, 4 * k) else if j = 10 ∧ k < 8 then some (a + 14, 4 * k + 1) else if j = 11 ∧ k < 5 then some (a + 10, 4 * k) else if j = 12 ∧ k < 5 then some (a + 10, 4 * k + 1) else if j = 13 ∧ k < 5 then some (a + 10, 4 * k + 2) else if j = 14 ∧ k < 5 then some (a + 10, 4 * k + 3) else none
def xcM (j k : Nat) : Option (Nat × Nat) :=
  if j = 0 ∧ k = 0 then some (137, 0) else if j = 0 ∧ k = 1 then some (137, 8) else if j = 0 ∧ k = 2 then some (137, 6) else if j = 0 ∧ k = 3 then some (137, 25) else if j = 0 ∧ k = 4 then some (137, 30) else if j = 0 ∧ k = 5 then some (137, 33) else if j = 0 ∧ k = 6 then some (137, 16) else if j = 1 ∧ k < 6 then some (138, k) else if j = 2 ∧ k < 6 then some (139, k) else if j = 3 ∧ k < 6 then some (141, k) else if j = 4 ∧ k < 36 then some (140, k) else if j = 5 ∧ k < 24 then some (142, k) else if j = 6 ∧ k < 8 then some (143, k) else if j = 7 ∧ k < 10 then some (156, k) else if j = 8 ∧ k < 10 then some (157, k) else if j = 9 ∧ k < 8 then some (158, k) else if j = 10 ∧ k < 8 then some (159, k) else if j = 11 ∧ k < 5 then some (152, k) else if j = 12 ∧ k < 5 then some (153, k) else if j = 13 ∧ k < 5 then some (154, k) else if j = 14 ∧ k < 5 then some (155, k) else none
def xcI (a j k : Nat) : Option (Nat × Nat) :=
  if j = 0 ∧ k = 0 then some (a, 142) else if j = 0 ∧ k = 1 then some (a, 144) else if j = 0 ∧ k = 2 then some (a, 143) else if j = 0 ∧ k = 3 then some (a, 145) else if j = 0 ∧ k = 4 then some (a, 146) else if j = 0 ∧ k = 5 then some (a, 147) else if j = 0 ∧ k = 6 then some (a, 148) else if j = 1 ∧ k < 6 then some (a, 0 + k) else if j = 2 ∧ k < 6 then some (a, 6 + k) else if j = 3 ∧ k < 6 then some (a, 12 + k) else if j = 4 ∧ k < 36 then some (a, 18 + k) else if j = 5 ∧ k < 24 then some (a, 54 + k) else if j = 6 ∧ k < 8 then some (a, 78 + k) else if j = 7 ∧ k < 10 then some (a, 122 + k) else if j = 8 ∧ k < 10 then some (a, 132 + k) else if j = 9 ∧ k < 8 then some (a, 86 + k) else if j = 10 ∧ k < 8 then some (a, 94 + k) else if j = 11 ∧ k < 5 then some (a, 102 + k) else if j = 12 ∧ k < 5 then some (a, 107 + k) else if j = 13 ∧ k < 5 then some (a, 112 + k) else if j = 14 ∧ k < 5 then some (a, 117 + k) else none
def xiC (a b i : Nat) : Nat × Nat := if b = a then (0, i - 10) else if b = a + 7 then (0, 2) else if b = a + 9 then (0, 3) else if b = a + 11 then (0, 4) else if b = a + 13 then (0, 5) else if b = a + 8 then (6, i / 4) else if b = a + 12 then (7 + i % 4, i / 4) else if b = a + 14 then (9 + i % 4, i / 4) else if b = a + 10 then (11 + i % 4, i / 4) else (b - a, i)
def xiM (b i : Nat) : Nat × Nat := if b = 137 then (0, if i = 0 then 0 else if i = 8 then 1 else if i = 6 then 2 else if i = 25 then 3 else if i = 30 then 4 else if i = 33 then 5 else 6) else if b = 140 then (4, i) else if b = 141 then (3, i) else if b ≤ 143 then (b - 137, i) else if b ≤ 155 then (b - 141, i) else (b - 149, i)
def xiI (i : Nat) : Nat × Nat := if 142 ≤ i then (0, if i = 142 then 0 else if i = 144 then 1 else if i = 143 then 2 else i - 142) else if 132 ≤ i then (8, i - 132) else if 122 ≤ i then (7, i - 122) else if 117 ≤ i then (14, i - 117) else if 112 ≤ i then (13, i - 112) else if 107 ≤ i then (12, i - 107) else if 102 ≤ i then (11, i - 102) else if 94 ≤ i then (10, i - 94) else if 86 ≤ i then (9, i - 86) else if 78 ≤ i then (6, i - 78) else if 54 ≤ i then (5, i - 54) else if 18 ≤ i then (4, i - 18) else if 12 ≤ i then (3, i - 12) else if 6 ≤ i then (2, i - 6) else (1, i)

section XV
variable {a j k b i j' k' : Nat}
def xOM (b i : Nat) : Prop := (b = 137 ∧ (i = 0 ∨ i = 8 ∨ i = 6 ∨ i = 25 ∨ i = 30 ∨ i = 33 ∨ i = 16)) ∨ ((b = 138 ∨ b = 139 ∨ b = 141) ∧ i < 6) ∨ (b = 140 ∧ i < 36) ∨ (b = 142 ∧ i < 24) ∨ ((b = 143 ∨ b = 158 ∨ b = 159) ∧ i < 8) ∨ (152 ≤ b ∧ b ≤ 155 ∧ i < 5) ∨ ((b = 156 ∨ b = 157) ∧ i < 10)
theorem xcC_inv (e : xcC a j k = some (b, i)) : xiC a b i = (j, k) ∧ a ≤ b ∧ b ≤ a + 14 ∧ b ≠ a + 6 ∧ (b = a → i = 10 ∨ i = 11) := by
  unfold xcC at e
  by_cases c0 : j = 0 ∧ k = 0
  · rw [if_pos c0] at e
    have e1 : a = b := congrArg Prod.fst (Option.some.inj e)
    have e2 : 10 = i := congrArg Prod.snd (Option.some.inj e)
    subst e1
    subst e2
    refine ⟨?_, by omega, by omega, by omega, by omega⟩
    unfold xiC
    repeat (first | rw [if_neg (by omega)] | rw [if_pos (by omega)])
    all_goals (rw [Prod.mk.injEq]; omega)
  rw [if_neg c0] at e
  by_cases c1 : j = 0 ∧ k = 1
  · rw [if_pos c1] at e
    have e1 : a = b := congrArg Prod.fst (Option.some.inj e)
    have e2 : 11 = i := congrArg Prod.snd (Option.some.inj e)
    subst e1
    subst e2
    refine ⟨?_, by omega, by omega, by omega, by omega⟩
    unfold xiC
    repeat (first | rw [if_neg (by omega)] | rw [if_pos (by omega)])
    all_goals (rw [Prod.mk.injEq]; omega)
  rw [if_neg c1] at e
  by_cases c2 : j = 0 ∧ k = 2
  · rw [if_pos c2] at e
    have e1 : a + 7 = b := congrArg Prod.fst (Option.some.inj e)
    have e2 : 1 = i := congrArg Prod.snd (Option.some.inj e)
    subst e1
    subst e2
    refine ⟨?_, by omega, by omega, by omega, by omega⟩
    unfold xiC
    repeat (first | rw [if_neg (by omega)] | rw [if_pos (by omega)])
    all_goals (rw [Prod.mk.injEq]; omega)
  rw [if_neg c2] at e
  by_cases c3 : j = 0 ∧ k = 3
  · rw [if_pos c3] at e
    have e1 : a + 9 = b := congrArg Prod.fst (Option.some.inj e)
    have e2 : 1 = i := congrArg Prod.snd (Option.some.inj e)
    subst e1
    subst e2
    refine ⟨?_, by omega, by omega, by omega, by omega⟩
    unfold xiC
    repeat (first | rw [if_neg (by omega)] | rw [if_pos (by omega)])
    all_goals (rw [Prod.mk.injEq]; omega)
  rw [if_neg c3] at e
  by_cases c4 : j = 0 ∧ k = 4
  · rw [if_pos c4] at e
    have e1 : a + 11 = b := congrArg Prod.fst (Option.some.inj e)
    have e2 : 1 = i := congrArg Prod.snd (Option.some.inj e)
    subst e1
    subst e2
    refine ⟨?_, by omega, by omega, by omega, by omega⟩
    unfold xiC
    repeat (first | rw [if_neg (by omega)] | rw [if_pos (by omega)])
    all_goals (rw [Prod.mk.injEq]; omega)
  rw [if_neg c4] at e
  by_cases c5 : j = 0 ∧ k = 5
  · rw [if_pos c5] at e
    have e1 : a + 13 = b := congrArg Prod.fst (Option.some.inj e)
    have e2 : 1 = i := congrArg Prod.snd (Option.some.inj e)
    subst e1
    subst e2
    refine ⟨?_, by omega, by omega, by omega, by omega⟩
    unfold xiC
    repeat (first | rw [if_neg (by omega)] | rw [if_pos (by omega)])
    all_goals (rw [Prod.mk.injEq]; omega)
  rw [if_neg c5] at e
  by_cases c6 : j = 1 ∧ k < 6
  · rw [if_pos c6] at e
    have e1 : a + 1 = b := congrArg Prod.fst (Option.some.inj e)
    have e2 : k = i := congrArg Prod.snd (Option.some.inj e)
    subst e1
    subst e2
    refine ⟨?_, by omega, by omega, by omega, by omega⟩
    unfold xiC
    repeat (first | rw [if_neg (by omega)] | rw [if_pos (by omega)])
    all_goals (rw [Prod.mk.injEq]; omega)
  rw [if_neg c6] at e
  by_cases c7 : j = 2 ∧ k < 6
  · rw [if_pos c7] at e
    have e1 : a + 2 = b := congrArg Prod.fst (Option.some.inj e)
    have e2 : k = i := congrArg Prod.snd (Option.some.inj e)
    subst e1
    subst e2
    refine ⟨?_, by omega, by omega, by omega, by omega⟩
    unfold xiC
    repeat (first | rw [if_neg (by omega)] | rw [if_pos (by omega)])
    all_goals (rw [Prod.mk.injEq]; omega)
  rw [if_neg c7] at e
  by_cases c8 : j = 3 ∧ k < 6
  · rw [if_pos c8] at e
    have e1 : a + 3 = b := congrArg Prod.fst (Option.some.inj e)
    have e2 : k = i := congrArg Prod.snd (Option.some.inj e)
    subst e1
    subst e2
    refine ⟨?_, by omega, by omega, by omega, by omega⟩
    unfold xiC
    repeat (first | rw [if_neg (by omega)] | rw [if_pos (by omega)])
    all_goals (rw [Prod.mk.injEq]; omega)
  rw [if_neg c8] at e
  by_cases c9 : j = 4 ∧ k < 36
  · rw [if_pos c9] at e
    have e1 : a + 4 = b := congrArg Prod.fst (Option.some.inj e)
    have e2 : k = i := congrArg Prod.snd (Option.some.inj e)
    subst e1
    subst e2
    refine ⟨?_, by omega, by omega, by omega, by omega⟩
    unfold xiC
    repeat (first | rw [if_neg (by omega)] | rw [if_pos (by omega)])
    all_goals (rw [Prod.mk.injEq]; omega)
  rw [if_neg c9] at e
  by_cases c10 : j = 5 ∧ k < 24
  · rw [if_pos c10] at e
    have e1 : a + 5 = b := congrArg Prod.fst (Option.some.inj e)
    have e2 : k = i := congrArg Prod.snd (Option.some.inj e)
    subst e1
    subst e2
    refine ⟨?_, by omega, by omega, by omega, by omega⟩
    unfold xiC
    repeat (first | rw [if_neg (by omega)] | rw [if_pos (by omega)])
    all_goals (rw [Prod.mk.injEq]; omega)
  rw [if_neg c10] at e
  by_cases c11 : j = 6 ∧ k < 8
  · rw [if_pos c11] at e
    have e1 : a + 8 = b := congrArg Prod.fst (Option.some.inj e)
    have e2 : 4 * k = i := congrArg Prod.snd (Option.some.inj e)
    subst e1
    subst e2
    refine ⟨?_, by omega, by omega, by omega, by omega⟩
    unfold xiC
    repeat (first | rw [if_neg (by omega)] | rw [if_pos (by omega)])
    all_goals (rw [Prod.mk.injEq]; omega)
  rw [if_neg c11] at e
  by_cases c12 : j = 7 ∧ k < 10
  · rw [if_pos c12] at e
    have e1 : a + 12 = b := congrArg Prod.fst (Option.some.inj e)
    have e2 : 4 * k = i := congrArg Prod.snd (Option.some.inj e)
    subst e1
    subst e2
    refine ⟨?_, by omega, by omega, by omega, by omega⟩
    unfold xiC
    repeat (first | rw [if_neg (by omega)] | rw [if_pos (by omega)])
    all_goals (rw [Prod.mk.injEq]; omega)
  rw [if_neg c12] at e
  by_cases c13 : j = 8 ∧ k < 10
  · rw [if_pos c13] at e
    have e1 : a + 12 = b := congrArg Prod.fst (Option.some.inj e)
    have e2 : 4 * k + 1 = i := congrArg Prod.snd (Option.some.inj e)
    subst e1
    subst e2
    refine ⟨?_, by omega, by omega, by omega, by omega⟩
    unfold xiC
    repeat (first | rw [if_neg (by omega)] | rw [if_pos (by omega)])
    all_goals (rw [Prod.mk.injEq]; omega)
  rw [if_neg c13] at e
  by_cases c14 : j = 9 ∧ k < 8
  · rw [if_pos c14] at e
    have e1 : a + 14 = b := congrArg Prod.fst (Option.some.inj e)
    have e2 : 4 * k = i := congrArg Prod.snd (Option.some.inj e)
    subst e1
    subst e2
    refine ⟨?_, by omega, by omega, by omega, by omega⟩
    unfold xiC
    repeat (first | rw [if_neg (by omega)] | rw [if_pos (by omega)])
    all_goals (rw [Prod.mk.injEq]; omega)
  rw [if_neg c14] at e
  by_cases c15 : j = 10 ∧ k < 8
  · rw [if_pos c15] at e
    have e1 : a + 14 = b := congrArg Prod.fst (Option.some.inj e)
    have e2 : 4 * k + 1 = i := congrArg Prod.snd (Option.some.inj e)
    subst e1
    subst e2
    refine ⟨?_, by omega, by omega, by omega, by omega⟩
    unfold xiC
    repeat (first | rw [if_neg (by omega)] | rw [if_pos (by omega)])
    all_goals (rw [Prod.mk.injEq]; omega)
  rw [if_neg c15] at e
  by_cases c16 : j = 11 ∧ k < 5
  · rw [if_pos c16] at e
    have e1 : a + 10 = b := congrArg Prod.fst (Option.some.inj e)
    have e2 : 4 * k = i := congrArg Prod.snd (Option.some.inj e)
    subst e1
    subst e2
    refine ⟨?_, by omega, by omega, by omega, by omega⟩
    unfold xiC
    repeat (first | rw [if_neg (by omega)] | rw [if_pos (by omega)])
    all_goals (rw [Prod.mk.injEq]; omega)
  rw [if_neg c16] at e
  by_cases c17 : j = 12 ∧ k < 5
  · rw [if_pos c17] at e
    have e1 : a + 10 = b := congrArg Prod.fst (Option.some.inj e)
    have e2 : 4 * k + 1 = i := congrArg Prod.snd (Option.some.inj e)
    subst e1
    subst e2
    refine ⟨?_, by omega, by omega, by omega, by omega⟩
    unfold xiC
    repeat (first | rw [if_neg (by omega)] | rw [if_pos (by omega)])
    all_goals (rw [Prod.mk.injEq]; omega)
  rw [if_neg c17] at e
  by_cases c18 : j = 13 ∧ k < 5
  · rw [if_pos c18] at e
    have e1 : a + 10 = b := congrArg Prod.fst (Option.some.inj e)
    have e2 : 4 * k + 2 = i := congrArg Prod.snd (Option.some.inj e)
    subst e1
    subst e2
    refine ⟨?_, by omega, by omega, by omega, by omega⟩
    unfold xiC
    repeat (first | rw [if_neg (by omega)] | rw [if_pos (by omega)])
    all_goals (rw [Prod.mk.injEq]; omega)
  rw [if_neg c18] at e
  by_cases c19 : j = 14 ∧ k < 5
  · rw [if_pos c19] at e
    have e1 : a + 10 = b := congrArg Prod.fst (Option.some.inj e)
    have e2 : 4 * k + 3 = i := congrArg Prod.snd (Option.some.inj e)
    subst e1
    subst e2
    refine ⟨?_, by omega, by omega, by omega, by omega⟩
    unfold xiC
    repeat (first | rw [if_neg (by omega)] | rw [if_pos (by omega)])
    all_goals (rw [Prod.mk.injEq]; omega)
  rw [if_neg c19] at e
  cases e
theorem xcM_inv (e : xcM j k = some (b, i)) : xiM b i = (j, k) ∧ xOM b i := by
  unfold xcM at e
  by_cases c0 : j = 0 ∧ k = 0
  · rw [if_pos c0] at e
    have e1 : 137 = b := congrArg Prod.fst (Option.some.inj e)
    have e2 : 0 = i := congrArg Prod.snd (Option.some.inj e)
    subst e1
    subst e2
    refine ⟨?_, by unfold xOM; omega⟩
    unfold xiM
    repeat (first | rw [if_neg (by omega)] | rw [if_pos (by omega)])
    all_goals (rw [Prod.mk.injEq]; omega)
  rw [if_neg c0] at e
  by_cases c1 : j = 0 ∧ k = 1
  · rw [if_pos c1] at e
    have e1 : 137 = b := congrArg Prod.fst (Option.some.inj e)
    have e2 : 8 = i := congrArg Prod.snd (Option.some.inj e)
    subst e1
    subst e2
    refine ⟨?_, by unfold xOM; omega⟩
    unfold xiM
    repeat (first | rw [if_neg (by omega)] | rw [if_pos (by omega)])
    all_goals (rw [Prod.mk.injEq]; omega)
  rw [if_neg c1] at e
  by_cases c2 : j = 0 ∧ k = 2
  · rw [if_pos c2] at e
    have e1 : 137 = b := congrArg Prod.fst (Option.some.inj e)
    have e2 : 6 = i := congrArg Prod.snd (Option.some.inj e)
    subst e1
    subst e2
    refine ⟨?_, by unfold xOM; omega⟩
    unfold xiM
    repeat (first | rw [if_neg (by omega)] | rw [if_pos (by omega)])
    all_goals (rw [Prod.mk.injEq]; omega)
  rw [if_neg c2] at e
  by_cases c3 : j = 0 ∧ k = 3
  · rw [if_pos c3] at e
    have e1 : 137 = b := congrArg Prod.fst (Option.some.inj e)
    have e2 : 25 = i := congrArg Prod.snd (Option.some.inj e)
    subst e1
    subst e2
    refine ⟨?_, by unfold xOM; omega⟩
    unfold xiM
    repeat (first | rw [if_neg (by omega)] | rw [if_pos (by omega)])
    all_goals (rw [Prod.mk.injEq]; omega)
  rw [if_neg c3] at e
  by_cases c4 : j = 0 ∧ k = 4
  · rw [if_pos c4] at e
    have e1 : 137 = b := congrArg Prod.fst (Option.some.inj e)
    have e2 : 30 = i := congrArg Prod.snd (Option.some.inj e)
    subst e1
    subst e2
    refine ⟨?_, by unfold xOM; omega⟩
    unfold xiM
    repeat (first | rw [if_neg (by omega)] | rw [if_pos (by omega)])
    all_goals (rw [Prod.mk.injEq]; omega)
  rw [if_neg c4] at e
  by_cases c5 : j = 0 ∧ k = 5
  · rw [if_pos c5] at e
    have e1 : 137 = b := congrArg Prod.fst (Option.some.inj e)
    have e2 : 33 = i := congrArg Prod.snd (Option.some.inj e)
    subst e1
    subst e2
    refine ⟨?_, by unfold xOM; omega⟩
    unfold xiM
    repeat (first | rw [if_neg (by omega)] | rw [if_pos (by omega)])
    all_goals (rw [Prod.mk.injEq]; omega)
  rw [if_neg c5] at e
  by_cases c6 : j = 0 ∧ k = 6
  · rw [if_pos c6] at e
    have e1 : 137 = b := congrArg Prod.fst (Option.some.inj e)
    have e2 : 16 = i := congrArg Prod.snd (Option.some.inj e)
    subst e1
    subst e2
    refine ⟨?_, by unfold xOM; omega⟩
    unfold xiM
    repeat (first | rw [if_neg (by omega)] | rw [if_pos (by omega)])
    all_goals (rw [Prod.mk.injEq]; omega)
  rw [if_neg c6] at e
  by_cases c7 : j = 1 ∧ k < 6
  · rw [if_pos c7] at e
    have e1 : 138 = b := congrArg Prod.fst (Option.some.inj e)
    have e2 : k = i := congrArg Prod.snd (Option.some.inj e)
    subst e1
    subst e2
    refine ⟨?_, by unfold xOM; omega⟩
    unfold xiM
    repeat (first | rw [if_neg (by omega)] | rw [if_pos (by omega)])
    all_goals (rw [Prod.mk.injEq]; omega)
  rw [if_neg c7] at e
  by_cases c8 : j = 2 ∧ k < 6
  · rw [if_pos c8] at e
    have e1 : 139 = b := congrArg Prod.fst (Option.some.inj e)
    have e2 : k = i := congrArg Prod.snd (Option.some.inj e)
    subst e1
    subst e2
    refine ⟨?_, by unfold xOM; omega⟩
    unfold xiM
    repeat (first | rw [if_neg (by omega)] | rw [if_pos (by omega)])
    all_goals (rw [Prod.mk.injEq]; omega)
  rw [if_neg c8] at e
  by_cases c9 : j = 3 ∧ k < 6
  · rw [if_pos c9] at e
    have e1 : 141 = b := congrArg Prod.fst (Option.some.inj e)
    have e2 : k = i := congrArg Prod.snd (Option.some.inj e)
    subst e1
    subst e2
    refine ⟨?_, by unfold xOM; omega⟩
    unfold xiM
    repeat (first | rw [if_neg (by omega)] | rw [if_pos (by omega)])
    all_goals (rw [Prod.mk.injEq]; omega)
  rw [if_neg c9] at e
  by_cases c10 : j = 4 ∧ k < 36
  · rw [if_pos c10] at e
    have e1 : 140 = b := congrArg Prod.fst (Option.some.inj e)
    have e2 : k = i := congrArg Prod.snd (Option.some.inj e)
    subst e1
    subst e2
    refine ⟨?_, by unfold xOM; omega⟩
    unfold xiM
    repeat (first | rw [if_neg (by omega)] | rw [if_pos (by omega)])
    all_goals (rw [Prod.mk.injEq]; omega)
  rw [if_neg c10] at e
  by_cases c11 : j = 5 ∧ k < 24
  · rw [if_pos c11] at e
    have e1 : 142 = b := congrArg Prod.fst (Option.some.inj e)
    have e2 : k = i := congrArg Prod.snd (Option.some.inj e)
    subst e1
    subst e2
    refine ⟨?_, by unfold xOM; omega⟩
    unfold xiM
    repeat (first | rw [if_neg (by omega)] | rw [if_pos (by omega)])
    all_goals (rw [Prod.mk.injEq]; omega)
  rw [if_neg c11] at e
  by_cases c12 : j = 6 ∧ k < 8
  · rw [if_pos c12] at e
    have e1 : 143 = b := congrArg Prod.fst (Option.some.inj e)
    have e2 : k = i := congrArg Prod.snd (Option.some.inj e)
    subst e1
    subst e2
    refine ⟨?_, by unfold xOM; omega⟩
    unfold xiM
    repeat (first | rw [if_neg (by omega)] | rw [if_pos (by omega)])
    all_goals (rw [Prod.mk.injEq]; omega)
  rw [if_neg c12] at e
  by_cases c13 : j = 7 ∧ k < 10
  · rw [if_pos c13] at e
    have e1 : 156 = b := congrArg Prod.fst (Option.some.inj e)
    have e2 : k = i := congrArg Prod.snd (Option.some.inj e)
    subst e1
    subst e2
    refine ⟨?_, by unfold xOM; omega⟩
    unfold xiM
    repeat (first | rw [if_neg (by omega)] | rw [if_pos (by omega)])
    all_goals (rw [Prod.mk.injEq]; omega)
  rw [if_neg c13] at e
  by_cases c14 : j = 8 ∧ k < 10
  · rw [if_pos c14] at e
    have e1 : 157 = b := congrArg Prod.fst (Option.some.inj e)
    have e2 : k = i := congrArg Prod.snd (Option.some.inj e)
    subst e1
    subst e2
    refine ⟨?_, by unfold xOM; omega⟩
    unfold xiM
    repeat (first | rw [if_neg (by omega)] | rw [if_pos (by omega)])
    all_goals (rw [Prod.mk.injEq]; omega)
  rw [if_neg c14] at e
  by_cases c15 : j = 9 ∧ k < 8
  · rw [if_pos c15] at e
    have e1 : 158 = b := congrArg Prod.fst (Option.some.inj e)
    have e2 : k = i := congrArg Prod.snd (Option.some.inj e)
    subst e1
    subst e2
    refine ⟨?_, by unfold xOM; omega⟩
    unfold xiM
    repeat (first | rw [if_neg (by omega)] | rw [if_pos (by omega)])
    all_goals (rw [Prod.mk.injEq]; omega)
  rw [if_neg c15] at e
  by_cases c16 : j = 10 ∧ k < 8
  · rw [if_pos c16] at e
    have e1 : 159 = b := congrArg Prod.fst (Option.some.inj e)
    have e2 : k = i := congrArg Prod.snd (Option.some.inj e)
    subst e1
    subst e2
    refine ⟨?_, by unfold xOM; omega⟩
    unfold xiM
    repeat (first | rw [if_neg (by omega)] | rw [if_pos (by omega)])
    all_goals (rw [Prod.mk.injEq]; omega)
  rw [if_neg c16] at e
  by_cases c17 : j = 11 ∧ k < 5
  · rw [if_pos c17] at e
    have e1 : 152 = b := congrArg Prod.fst (Option.some.inj e)
    have e2 : k = i := congrArg Prod.snd (Option.some.inj e)
    subst e1
    subst e2
    refine ⟨?_, by unfold xOM; omega⟩
    unfold xiM
    repeat (first | rw [if_neg (by omega)] | rw [if_pos (by omega)])
    all_goals (rw [Prod.mk.injEq]; omega)
  rw [if_neg c17] at e
  by_cases c18 : j = 12 ∧ k < 5
  · rw [if_pos c18] at e
    have e1 : 153 = b := congrArg Prod.fst (Option.some.inj e)
    have e2 : k = i := congrArg Prod.snd (Option.some.inj e)
    subst e1
    subst e2
    refine ⟨?_, by unfold xOM; omega⟩
    unfold xiM
    repeat (first | rw [if_neg (by omega)] | rw [if_pos (by omega)])
    all_goals (rw [Prod.mk.injEq]; omega)
  rw [if_neg c18] at e
  by_cases c19 : j = 13 ∧ k < 5
  · rw [if_pos c19] at e
    have e1 : 154 = b := congrArg Prod.fst (Option.some.inj e)
    have e2 : k = i := congrArg Prod.snd (Option.some.inj e)
    subst e1
    subst e2
    refine ⟨?_, by unfold xOM; omega⟩
    unfold xiM
    repeat (first | rw [if_neg (by omega)] | rw [if_pos (by omega)])
    all_goals (rw [Prod.mk.injEq]; omega)
  rw [if_neg c19] at e
  by_cases c20 : j = 14 ∧ k < 5
  · rw [if_pos c20] at e
    have e1 : 155 = b := congrArg Prod.fst (Option.some.inj e)
    have e2 : k = i := congrArg Prod.snd (Option.some.inj e)
    subst e1
    subst e2
    refine ⟨?_, by unfold xOM; omega⟩
    unfold xiM
    repeat (first | rw [if_neg (by omega)] | rw [if_pos (by omega)])
    all_goals (rw [Prod.mk.injEq]; omega)
  rw [if_neg c20] at e
  cases e
theorem xcI_inv (e : xcI a j k = some (b, i)) : xiI i = (j, k) ∧ b = a ∧ i < 149 := by
  unfold xcI at e
  by_cases c0 : j = 0 ∧ k = 0
  · rw [if_pos c0] at e
    have e1 : a = b := congrArg Prod.fst (Option.some.inj e)
    have e2 : 142 = i := congrArg Prod.snd (Option.some.inj e)
    subst e1
    subst e2
    refine ⟨?_, rfl, by omega⟩
    unfold xiI
    repeat (first | rw [if_neg (by omega)] | rw [if_pos (by omega)])
    all_goals (rw [Prod.mk.injEq]; omega)
  rw [if_neg c0] at e
  by_cases c1 : j = 0 ∧ k = 1
  · rw [if_pos c1] at e
    have e1 : a = b := congrArg Prod.fst (Option.some.inj e)
    have e2 : 144 = i := congrArg Prod.snd (Option.some.inj e)
    subst e1
    subst e2
    refine ⟨?_, rfl, by omega⟩
    unfold xiI
    repeat (first | rw [if_neg (by omega)] | rw [if_pos (by omega)])
    all_goals (rw [Prod.mk.injEq]; omega)
  rw [if_neg c1] at e
  by_cases c2 : j = 0 ∧ k = 2
  · rw [if_pos c2] at e
    have e1 : a = b := congrArg Prod.fst (Option.some.inj e)
    have e2 : 143 = i := congrArg Prod.snd (Option.some.inj e)
    subst e1
    subst e2
    refine ⟨?_, rfl, by omega⟩
    unfold xiI
    repeat (first | rw [if_neg (by omega)] | rw [if_pos (by omega)])
    all_goals (rw [Prod.mk.injEq]; omega)
  rw [if_neg c2] at e
  by_cases c3 : j = 0 ∧ k = 3
  · rw [if_pos c3] at e
    have e1 : a = b := congrArg Prod.fst (Option.some.inj e)
    have e2 : 145 = i := congrArg Prod.snd (Option.some.inj e)
    subst e1
    subst e2
    refine ⟨?_, rfl, by omega⟩
    unfold xiI
    repeat (first | rw [if_neg (by omega)] | rw [if_pos (by omega)])
    all_goals (rw [Prod.mk.injEq]; omega)
  rw [if_neg c3] at e
  by_cases c4 : j = 0 ∧ k = 4
  · rw [if_pos c4] at e
    have e1 : a = b := congrArg Prod.fst (Option.some.inj e)
    have e2 : 146 = i := congrArg Prod.snd (Option.some.inj e)
    subst e1
    subst e2
    refine ⟨?_, rfl, by omega⟩
    unfold xiI
    repeat (first | rw [if_neg (by omega)] | rw [if_pos (by omega)])
    all_goals (rw [Prod.mk.injEq]; omega)
  rw [if_neg c4] at e
  by_cases c5 : j = 0 ∧ k = 5
  · rw [if_pos c5] at e
    have e1 : a = b := congrArg Prod.fst (Option.some.inj e)
    have e2 : 147 = i := congrArg Prod.snd (Option.some.inj e)
    subst e1
    subst e2
    refine ⟨?_, rfl, by omega⟩
    unfold xiI
    repeat (first | rw [if_neg (by omega)] | rw [if_pos (by omega)])
    all_goals (rw [Prod.mk.injEq]; omega)
  rw [if_neg c5] at e
  by_cases c6 : j = 0 ∧ k = 6
  · rw [if_pos c6] at e
    have e1 : a = b := congrArg Prod.fst (Option.some.inj e)
    have e2 : 148 = i := congrArg Prod.snd (Option.some.inj e)
    subst e1
    subst e2
    refine ⟨?_, rfl, by omega⟩
    unfold xiI
    repeat (first | rw [if_neg (by omega)] | rw [if_pos (by omega)])
    all_goals (rw [Prod.mk.injEq]; omega)
  rw [if_neg c6] at e
  by_cases c7 : j = 1 ∧ k < 6
  · rw [if_pos c7] at e
    have e1 : a = b := congrArg Prod.fst (Option.some.inj e)
    have e2 : 0 + k = i := congrArg Prod.snd (Option.some.inj e)
    subst e1
    subst e2
    refine ⟨?_, rfl, by omega⟩
    unfold xiI
    repeat (first | rw [if_neg (by omega)] | rw [if_pos (by omega)])
    all_goals (rw [Prod.mk.injEq]; omega)
  rw [if_neg c7] at e
  by_cases c8 : j = 2 ∧ k < 6
  · rw [if_pos c8] at e
    have e1 : a = b := congrArg Prod.fst (Option.some.inj e)
    have e2 : 6 + k = i := congrArg Prod.snd (Option.some.inj e)
    subst e1
    subst e2
    refine ⟨?_, rfl, by omega⟩
    unfold xiI
    repeat (first | rw [if_neg (by omega)] | rw [if_pos (by omega)])
    all_goals (rw [Prod.mk.injEq]; omega)
  rw [if_neg c8] at e
  by_cases c9 : j = 3 ∧ k < 6
  · rw [if_pos c9] at e
    have e1 : a = b := congrArg Prod.fst (Option.some.inj e)
    have e2 : 12 + k = i := congrArg Prod.snd (Option.some.inj e)
    subst e1
    subst e2
    refine ⟨?_, rfl, by omega⟩
    unfold xiI
    repeat (first | rw [if_neg (by omega)] | rw [if_pos (by omega)])
    all_goals (rw [Prod.mk.injEq]; omega)
  rw [if_neg c9] at e
  by_cases c10 : j = 4 ∧ k < 36
  · rw [if_pos c10] at e
    have e1 : a = b := congrArg Prod.fst (Option.some.inj e)
    have e2 : 18 + k = i := congrArg Prod.snd (Option.some.inj e)
    subst e1
    subst e2
    refine ⟨?_, rfl, by omega⟩
    unfold xiI
    repeat (first | rw [if_neg (by omega)] | rw [if_pos (by omega)])
    all_goals (rw [Prod.mk.injEq]; omega)
  rw [if_neg c10] at e
  by_cases c11 : j = 5 ∧ k < 24
  · rw [if_pos c11] at e
    have e1 : a = b := congrArg Prod.fst (Option.some.inj e)
    have e2 : 54 + k = i := congrArg Prod.snd (Option.some.inj e)
    subst e1
    subst e2
    refine ⟨?_, rfl, by omega⟩
    unfold xiI
    repeat (first | rw [if_neg (by omega)] | rw [if_pos (by omega)])
    all_goals (rw [Prod.mk.injEq]; omega)
  rw [if_neg c11] at e
  by_cases c12 : j = 6 ∧ k < 8
  · rw [if_pos c12] at e
    have e1 : a = b := congrArg Prod.fst (Option.some.inj e)
    have e2 : 78 + k = i := congrArg Prod.snd (Option.some.inj e)
    subst e1
    subst e2
    refine ⟨?_, rfl, by omega⟩
    unfold xiI
    repeat (first | rw [if_neg (by omega)] | rw [if_pos (by omega)])
    all_goals (rw [Prod.mk.injEq]; omega)
  rw [if_neg c12] at e
  by_cases c13 : j = 7 ∧ k < 10
  · rw [if_pos c13] at e
    have e1 : a = b := congrArg Prod.fst (Option.some.inj e)
    have e2 : 122 + k = i := congrArg Prod.snd (Option.some.inj e)
    subst e1
    subst e2
    refine ⟨?_, rfl, by omega⟩
    unfold xiI
    repeat (first | rw [if_neg (by omega)] | rw [if_pos (by omega)])
    all_goals (rw [Prod.mk.injEq]; omega)
  rw [if_neg c13] at e
  by_cases c14 : j = 8 ∧ k < 10
  · rw [if_pos c14] at e
    have e1 : a = b := congrArg Prod.fst (Option.some.inj e)
    have e2 : 132 + k = i := congrArg Prod.snd (Option.some.inj e)
    subst e1
    subst e2
    refine ⟨?_, rfl, by omega⟩
    unfold xiI
    repeat (first | rw [if_neg (by omega)] | rw [if_pos (by omega)])
    all_goals (rw [Prod.mk.injEq]; omega)
  rw [if_neg c14] at e
  by_cases c15 : j = 9 ∧ k < 8
  · rw [if_pos c15] at e
    have e1 : a = b := congrArg Prod.fst (Option.some.inj e)
    have e2 : 86 + k = i := congrArg Prod.snd (Option.some.inj e)
    subst e1
    subst e2
    refine ⟨?_, rfl, by omega⟩
    unfold xiI
    repeat (first | rw [if_neg (by omega)] | rw [if_pos (by omega)])
    all_goals (rw [Prod.mk.injEq]; omega)
  rw [if_neg c15] at e
  by_cases c16 : j = 10 ∧ k < 8
  · rw [if_pos c16] at e
    have e1 : a = b := congrArg Prod.fst (Option.some.inj e)
    have e2 : 94 + k = i := congrArg Prod.snd (Option.some.inj e)
    subst e1
    subst e2
    refine ⟨?_, rfl, by omega⟩
    unfold xiI
    repeat (first | rw [if_neg (by omega)] | rw [if_pos (by omega)])
    all_goals (rw [Prod.mk.injEq]; omega)
  rw [if_neg c16] at e
  by_cases c17 : j = 11 ∧ k < 5
  · rw [if_pos c17] at e
    have e1 : a = b := congrArg Prod.fst (Option.some.inj e)
    have e2 : 102 + k = i := congrArg Prod.snd (Option.some.inj e)
    subst e1
    subst e2
    refine ⟨?_, rfl, by omega⟩
    unfold xiI
    repeat (first | rw [if_neg (by omega)] | rw [if_pos (by omega)])
    all_goals (rw [Prod.mk.injEq]; omega)
  rw [if_neg c17] at e
  by_cases c18 : j = 12 ∧ k < 5
  · rw [if_pos c18] at e
    have e1 : a = b := congrArg Prod.fst (Option.some.inj e)
    have e2 : 107 + k = i := congrArg Prod.snd (Option.some.inj e)
    subst e1
    subst e2
    refine ⟨?_, rfl, by omega⟩
    unfold xiI
    repeat (first | rw [if_neg (by omega)] | rw [if_pos (by omega)])
    all_goals (rw [Prod.mk.injEq]; omega)
  rw [if_neg c18] at e
  by_cases c19 : j = 13 ∧ k < 5
  · rw [if_pos c19] at e
    have e1 : a = b := congrArg Prod.fst (Option.some.inj e)
    have e2 : 112 + k = i := congrArg Prod.snd (Option.some.inj e)
    subst e1
    subst e2
    refine ⟨?_, rfl, by omega⟩
    unfold xiI
    repeat (first | rw [if_neg (by omega)] | rw [if_pos (by omega)])
    all_goals (rw [Prod.mk.injEq]; omega)
  rw [if_neg c19] at e
  by_cases c20 : j = 14 ∧ k < 5
  · rw [if_pos c20] at e
    have e1 : a = b := congrArg Prod.fst (Option.some.inj e)
    have e2 : 117 + k = i := congrArg Prod.snd (Option.some.inj e)
    subst e1
    subst e2
    refine ⟨?_, rfl, by omega⟩
    unfold xiI
    repeat (first | rw [if_neg (by omega)] | rw [if_pos (by omega)])
    all_goals (rw [Prod.mk.injEq]; omega)
  rw [if_neg c20] at e
  cases e
end XV
def cg (h : Hp) (c : Option (Nat × Nat)) : Int := match c with
  | some q => zV h q.1 q.2
  | none => 0
/-- which shop holds -/
def yho (q : Option Nat) : Int := match q with
  | some s => if s = 48 then -1 else if s = 67 then -2 else if s = 86 then -3 else ((s : Int) - 101) / 4
  | none => -1
def hvC (h : Hp) (a : Nat) : Vw := fun j k => if j = 0 ∧ k = 6 then yho (zP h a 12) else if j = 8 ∧ cg h (xcC a 7 k) = 0 then 0 else cg h (xcC a j k)
def hvM (h : Hp) : Vw := fun j k => cg h (xcM j k)
def hvI (h : Hp) (a : Nat) : Vw := fun j k => cg h (xcI a j k)
section XV2
variable {h h' : Hp} {a j k b i : Nat} {x : Int}
theorem cg_V (c : Option (Nat × Nat)) : cg (zsetV h b i x) c = if c = some (b, i) then x else cg h c := by
  cases c with
  | none => rfl
  | some q =>
    obtain ⟨q1, q2⟩ := q
    show (if q1 = b ∧ q2 = i then x else zV h q1 q2) = _
    simp only [Option.some.injEq, Prod.mk.injEq]
    rfl
theorem hvC_set (e : xcC a j k = some (b, i)) (hj : j ≠ 7 ∧ j ≠ 8) (h6 : ¬ (j = 0 ∧ k = 6)) : hvC (zsetV h b i x) a = up (hvC h a) j k x := by
  funext j' k'
  unfold hvC up
  have key : ∀ j' k', cg (zsetV h b i x) (xcC a j' k') = if j' = j ∧ k' = k then x else cg h (xcC a j' k') := by
    intro j' k'
    rw [cg_V]
    by_cases c : xcC a j' k' = some (b, i)
    · have h1 := (xcC_inv c).1
      rw [(xcC_inv e).1, Prod.mk.injEq] at h1
      rw [if_pos c, if_pos ⟨h1.1.symm, h1.2.symm⟩]
    · rw [if_neg c, if_neg (fun q => c (by rw [q.1, q.2]; exact e))]
  show (if j' = 0 ∧ k' = 6 then yho (zP h a 12) else _) = _
  rw [key, key]
  have h7 : ¬ (7 = j ∧ k' = k) := fun q => hj.1 q.1.symm
  rw [if_neg h7]
  by_cases c : j' = j ∧ k' = k
  · obtain ⟨rfl, rfl⟩ := c
    rw [if_neg h6, if_neg (fun q => hj.2 q.1), if_pos ⟨rfl, rfl⟩, if_pos ⟨rfl, rfl⟩]
  · rw [if_neg c, if_neg c]
theorem hvM_set (e : xcM j k = some (b, i)) : hvM (zsetV h b i x) = up (hvM h) j k x := by
  funext j' k'
  unfold hvM up
  rw [cg_V]
  by_cases c : xcM j' k' = some (b, i)
  · have h1 := (xcM_inv c).1
    rw [(xcM_inv e).1, Prod.mk.injEq] at h1
    rw [if_pos c, if_pos ⟨h1.1.symm, h1.2.symm⟩]
  · rw [if_neg c, if_neg (fun q => c (by rw [q.1, q.2]; exact e))]
theorem hvC_fr (e : ∀ b i, a ≤ b → b ≤ a + 14 → b ≠ a + 6 → (b = a → i = 10 ∨ i = 11) → zV h' b i = zV h b i) (p : zP h' a 12 = zP h a 12) : hvC h' a = hvC h a := by
  have key : ∀ j k, cg h' (xcC a j k) = cg h (xcC a j k) := by
    intro j k
    cases q : xcC a j k with
    | none => rfl
    | some t =>
      obtain ⟨b, i⟩ := t
      obtain ⟨-, q1, q2, q3, q4⟩ := xcC_inv q
      exact e b i q1 q2 q3 q4
  funext j k
  unfold hvC
  rw [p, key, key]
theorem hvM_fr (e : ∀ b i, xOM b i → zV h' b i = zV h b i) : hvM h' = hvM h := by
  funext j k
  unfold hvM
  cases q : xcM j k with
  | none => rfl
  | some t =>
    obtain ⟨b, i⟩ := t
    exact e b i (xcM_inv q).2
theorem hvI_fr (e : ∀ i, i < 149 → zV h' a i = zV h a i) : hvI h' a = hvI h a := by
  funext j k
  unfold hvI
  cases q : xcI a j k with
  | none => rfl
  | some t =>
    obtain ⟨b, i⟩ := t
    obtain ⟨-, rfl, q2⟩ := xcI_inv q
    exact e i q2
theorem vC0_0 : hvC h a 0 0 = zV h (a) 10 := rfl
theorem vC0_1 : hvC h a 0 1 = zV h (a) 11 := rfl
theorem vC0_2 : hvC h a 0 2 = zV h (a + 7) 1 := rfl
theorem vC0_3 : hvC h a 0 3 = zV h (a + 9) 1 := rfl
theorem vC0_4 : hvC h a 0 4 = zV h (a + 11) 1 := rfl
theorem vC0_5 : hvC h a 0 5 = zV h (a + 13) 1 := rfl
theorem vC0_6 : hvC h a 0 6 = yho (zP h a 12) := rfl
theorem vM0_0 : hvM h 0 0 = zV h 137 0 := rfl
theorem vM0_1 : hvM h 0 1 = zV h 137 8 := rfl
theorem vM0_2 : hvM h 0 2 = zV h 137 6 := rfl
theorem vM0_3 : hvM h 0 3 = zV h 137 25 := rfl
theorem vM0_4 : hvM h 0 4 = zV h 137 30 := rfl
theorem vM0_5 : hvM h 0 5 = zV h 137 33 := rfl
theorem vM0_6 : hvM h 0 6 = zV h 137 16 := rfl
theorem vI0_0 : hvI h a 0 0 = zV h a 142 := rfl
theorem vI0_1 : hvI h a 0 1 = zV h a 144 := rfl
theorem vI0_2 : hvI h a 0 2 = zV h a 143 := rfl
theorem vI0_3 : hvI h a 0 3 = zV h a 145 := rfl
theorem vI0_4 : hvI h a 0 4 = zV h a 146 := rfl
theorem vI0_5 : hvI h a 0 5 = zV h a 147 := rfl
theorem vI0_6 : hvI h a 0 6 = zV h a 148 := rfl
theorem xC_1 (hk : k < 6) : xcC a 1 k = some (a + 1, k) := by simp [xcC, hk]
theorem xM_1 (hk : k < 6) : xcM 1 k = some (138, k) := by simp [xcM, hk]
theorem xI_1 (hk : k < 6) : xcI a 1 k = some (a, 0 + k) := by simp [xcI, hk]
theorem vC_1 (hk : k < 6) : hvC h a 1 k = zV h (a + 1) (k) := by unfold hvC; rw [xC_1 hk]; simp [cg]
theorem vM_1 (hk : k < 6) : hvM h 1 k = zV h 138 k := by unfold hvM; rw [xM_1 hk]; rfl
theorem vI_1 (hk : k < 6) : hvI h a 1 k = zV h a (0 + k) := by unfold hvI; rw [xI_1 hk]; rfl
theorem xC_2 (hk : k < 6) : xcC a 2 k = some (a + 2, k) := by simp [xcC, hk]
theorem xM_2 (hk : k < 6) : xcM 2 k = some (139, k) := by simp [xcM, hk]
theorem xI_2 (hk : k < 6) : xcI a 2 k = some (a, 6 + k) := by simp [xcI, hk]
theorem vC_2 (hk : k < 6) : hvC h a 2 k = zV h (a + 2) (k) := by unfold hvC; rw [xC_2 hk]; simp [cg]
theorem vM_2 (hk : k < 6) : hvM h 2 k = zV h 139 k := by unfold hvM; rw [xM_2 hk]; rfl
theorem vI_2 (hk : k < 6) : hvI h a 2 k = zV h a (6 + k) := by unfold hvI; rw [xI_2 hk]; rfl
theorem xC_3 (hk : k < 6) : xcC a 3 k = some (a + 3, k) := by simp [xcC, hk]
theorem xM_3 (hk : k < 6) : xcM 3 k = some (141, k) := by simp [xcM, hk]
theorem xI_3 (hk : k < 6) : xcI a 3 k = some (a, 12 + k) := by simp [xcI, hk]
theorem vC_3 (hk : k < 6) : hvC h a 3 k = zV h (a + 3) (k) := by unfold hvC; rw [xC_3 hk]; simp [cg]
theorem vM_3 (hk : k < 6) : hvM h 3 k = zV h 141 k := by unfold hvM; rw [xM_3 hk]; rfl
theorem vI_3 (hk : k < 6) : hvI h a 3 k = zV h a (12 + k) := by unfold hvI; rw [xI_3 hk]; rfl
theorem xC_4 (hk : k < 36) : xcC a 4 k = some (a + 4, k) := by simp [xcC, hk]
theorem xM_4 (hk : k < 36) : xcM 4 k = some (140, k) := by simp [xcM, hk]
theorem xI_4 (hk : k < 36) : xcI a 4 k = some (a, 18 + k) := by simp [xcI, hk]
theorem vC_4 (hk : k < 36) : hvC h a 4 k = zV h (a + 4) (k) := by unfold hvC; rw [xC_4 hk]; simp [cg]
theorem vM_4 (hk : k < 36) : hvM h 4 k = zV h 140 k := by unfold hvM; rw [xM_4 hk]; rfl
theorem vI_4 (hk : k < 36) : hvI h a 4 k = zV h a (18 + k) := by unfold hvI; rw [xI_4 hk]; rfl
theorem xC_5 (hk : k < 24) : xcC a 5 k = some (a + 5, k) := by simp [xcC, hk]
theorem xM_5 (hk : k < 24) : xcM 5 k = some (142, k) := by simp [xcM, hk]
theorem xI_5 (hk : k < 24) : xcI a 5 k = some (a, 54 + k) := by simp [xcI, hk]
theorem vC_5 (hk : k < 24) : hvC h a 5 k = zV h (a + 5) (k) := by unfold hvC; rw [xC_5 hk]; simp [cg]
theorem vM_5 (hk : k < 24) : hvM h 5 k = zV h 142 k := by unfold hvM; rw [xM_5 hk]; rfl
theorem vI_5 (hk : k < 24) : hvI h a 5 k = zV h a (54 + k) := by unfold hvI; rw [xI_5 hk]; rfl
theorem xC_6 (hk : k < 8) : xcC a 6 k = some (a + 8, 4 * k) := by simp [xcC, hk]
theorem xM_6 (hk : k < 8) : xcM 6 k = some (143, k) := by simp [xcM, hk]
theorem xI_6 (hk : k < 8) : xcI a 6 k = some (a, 78 + k) := by simp [xcI, hk]
theorem vC_6 (hk : k < 8) : hvC h a 6 k = zV h (a + 8) (4 * k) := by unfold hvC; rw [xC_6 hk]; simp [cg]
theorem vM_6 (hk : k < 8) : hvM h 6 k = zV h 143 k := by unfold hvM; rw [xM_6 hk]; rfl
theorem vI_6 (hk : k < 8) : hvI h a 6 k = zV h a (78 + k) := by unfold hvI; rw [xI_6 hk]; rfl
theorem xC_7 (hk : k < 10) : xcC a 7 k = some (a + 12, 4 * k) := by simp [xcC, hk]
theorem xM_7 (hk : k < 10) : xcM 7 k = some (156, k) := by simp [xcM, hk]
theorem xI_7 (hk : k < 10) : xcI a 7 k = some (a, 122 + k) := by simp [xcI, hk]
theorem vC_7 (hk : k < 10) : hvC h a 7 k = zV h (a + 12) (4 * k) := by unfold hvC; rw [xC_7 hk]; simp [cg]
theorem vM_7 (hk : k < 10) : hvM h 7 k = zV h 156 k := by unfold hvM; rw [xM_7 hk]; rfl
theorem vI_7 (hk : k < 10) : hvI h a 7 k = zV h a (122 + k) := by unfold hvI; rw [xI_7 hk]; rfl
theorem xC_8 (hk : k < 10) : xcC a 8 k = some (a + 12, 4 * k + 1) := by simp [xcC, hk]
theorem xM_8 (hk : k < 10) : xcM 8 k = some (157, k) := by simp [xcM, hk]
theorem xI_8 (hk : k < 10) : xcI a 8 k = some (a, 132 + k) := by simp [xcI, hk]
theorem vC_8 (hk : k < 10) : hvC h a 8 k = if zV h (a + 12) (4 * k) = 0 then 0 else zV h (a + 12) (4 * k + 1) := by unfold hvC; rw [xC_7 hk, xC_8 hk]; simp [cg]
theorem vM_8 (hk : k < 10) : hvM h 8 k = zV h 157 k := by unfold hvM; rw [xM_8 hk]; rfl
theorem vI_8 (hk : k < 10) : hvI h a 8 k = zV h a (132 + k) := by unfold hvI; rw [xI_8 hk]; rfl
theorem xC_9 (hk : k < 8) : xcC a 9 k = some (a + 14, 4 * k) := by simp [xcC, hk]
theorem xM_9 (hk : k < 8) : xcM 9 k = some (158, k) := by simp [xcM, hk]
theorem xI_9 (hk : k < 8) : xcI a 9 k = some (a, 86 + k) := by simp [xcI, hk]
theorem vC_9 (hk : k < 8) : hvC h a 9 k = zV h (a + 14) (4 * k) := by unfold hvC; rw [xC_9 hk]; simp [cg]
theorem vM_9 (hk : k < 8) : hvM h 9 k = zV h 158 k := by unfold hvM; rw [xM_9 hk]; rfl
theorem vI_9 (hk : k < 8) : hvI h a 9 k = zV h a (86 + k) := by unfold hvI; rw [xI_9 hk]; rfl
theorem xC_10 (hk : k < 8) : xcC a 10 k = some (a + 14, 4 * k + 1) := by simp [xcC, hk]
theorem xM_10 (hk : k < 8) : xcM 10 k = some (159, k) := by simp [xcM, hk]
theorem xI_10 (hk : k < 8) : xcI a 10 k = some (a, 94 + k) := by simp [xcI, hk]
theorem vC_10 (hk : k < 8) : hvC h a 10 k = zV h (a + 14) (4 * k + 1) := by unfold hvC; rw [xC_10 hk]; simp [cg]
theorem vM_10 (hk : k < 8) : hvM h 10 k = zV h 159 k := by unfold hvM; rw [xM_10 hk]; rfl
theorem vI_10 (hk : k < 8) : hvI h a 10 k = zV h a (94 + k) := by unfold hvI; rw [xI_10 hk]; rfl
theorem xC_11 (hk : k < 5) : xcC a 11 k = some (a + 10, 4 * k) := by simp [xcC, hk]
theorem xM_11 (hk : k < 5) : xcM 11 k = some (152, k) := by simp [xcM, hk]
theorem xI_11 (hk : k < 5) : xcI a 11 k = some (a, 102 + k) := by simp [xcI, hk]
theorem vC_11 (hk : k < 5) : hvC h a 11 k = zV h (a + 10) (4 * k) := by unfold hvC; rw [xC_11 hk]; simp [cg]
theorem vM_11 (hk : k < 5) : hvM h 11 k = zV h 152 k := by unfold hvM; rw [xM_11 hk]; rfl
theorem vI_11 (hk : k < 5) : hvI h a 11 k = zV h a (102 + k) := by unfold hvI; rw [xI_11 hk]; rfl
theorem xC_12 (hk : k < 5) : xcC a 12 k = some (a + 10, 4 * k + 1) := by simp [xcC, hk]
theorem xM_12 (hk : k < 5) : xcM 12 k = some (153, k) := by simp [xcM, hk]
theorem xI_12 (hk : k < 5) : xcI a 12 k = some (a, 107 + k) := by simp [xcI, hk]
theorem vC_12 (hk : k < 5) : hvC h a 12 k = zV h (a + 10) (4 * k + 1) := by unfold hvC; rw [xC_12 hk]; simp [cg]
theorem vM_12 (hk : k < 5) : hvM h 12 k = zV h 153 k := by unfold hvM; rw [xM_12 hk]; rfl
theorem vI_12 (hk : k < 5) : hvI h a 12 k = zV h a (107 + k) := by unfold hvI; rw [xI_12 hk]; rfl
theorem xC_13 (hk : k < 5) : xcC a 13 k = some (a + 10, 4 * k + 2) := by simp [xcC, hk]
theorem xM_13 (hk : k < 5) : xcM 13 k = some (154, k) := by simp [xcM, hk]
theorem xI_13 (hk : k < 5) : xcI a 13 k = some (a, 112 + k) := by simp [xcI, hk]
theorem vC_13 (hk : k < 5) : hvC h a 13 k = zV h (a + 10) (4 * k + 2) := by unfold hvC; rw [xC_13 hk]; simp [cg]
theorem vM_13 (hk : k < 5) : hvM h 13 k = zV h 154 k := by unfold hvM; rw [xM_13 hk]; rfl
theorem vI_13 (hk : k < 5) : hvI h a 13 k = zV h a (112 + k) := by unfold hvI; rw [xI_13 hk]; rfl
theorem xC_14 (hk : k < 5) : xcC a 14 k = some (a + 10, 4 * k + 3) := by simp [xcC, hk]
theorem xM_14 (hk : k < 5) : xcM 14 k = some (155, k) := by simp [xcM, hk]
theorem xI_14 (hk : k < 5) : xcI a 14 k = some (a, 117 + k) := by simp [xcI, hk]
theorem vC_14 (hk : k < 5) : hvC h a 14 k = zV h (a + 10) (4 * k + 3) := by unfold hvC; rw [xC_14 hk]; simp [cg]
theorem vM_14 (hk : k < 5) : hvM h 14 k = zV h 155 k := by unfold hvM; rw [xM_14 hk]; rfl
theorem vI_14 (hk : k < 5) : hvI h a 14 k = zV h a (117 + k) := by unfold hvI; rw [xI_14 hk]; rfl
end XV2
