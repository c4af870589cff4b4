/-! WHERE THE LAW'S LOOP BEGINS -/
theorem cP_1 : cPW.all (fun e => (yPb.getD (e.1 - 32) []).getD e.2.1 none == some e.2.2) = true := by decide +kernel
theorem cP_2 : (List.range 138).all (fun a => (List.range (yPb.getD a []).length).all (fun k => (yPb.getD a []).getD k none == none || cPW.any (fun e => e.1 == 32 + a && e.2.1 == k))) = true := by decide +kernel
theorem cP_a : cPW.all (fun e => Nat.blt e.1 162 && Nat.ble 32 e.1) = true := by decide +kernel
theorem cV_a : cVW.all (fun e => Nat.ble 32 e.1) = true := by decide +kernel
section INI
variable {zl : Nat} {nl : Option Nat} {xs : Nat → Int} {a k : Nat}
theorem fP_all {v : Option Nat} : ∀ (l : List (Nat × Nat × Nat)) (f : Nat → Nat → Option Nat), (∀ e ∈ l, e.1 = a → e.2.1 = k → some e.2.2 = v) → (f a k = v ∨ ∃ e ∈ l, e.1 = a ∧ e.2.1 = k) → fP l f a k = v
  | [], f, _, h => by
    rcases h with h | ⟨e, he, _⟩
    · exact h
    · cases he
  | e :: l, f, h1, h => by
    refine fP_all l _ (fun e' he' => h1 e' (List.mem_cons_of_mem _ he')) ?_
    by_cases c : a = e.1 ∧ k = e.2.1
    · refine Or.inl ?_
      show (if a = e.1 ∧ k = e.2.1 then some e.2.2 else f a k) = v
      rw [if_pos c]
      exact h1 e List.mem_cons_self c.1.symm c.2.symm
    · rcases h with h | ⟨e', he', h3⟩
      · refine Or.inl ?_
        show (if a = e.1 ∧ k = e.2.1 then some e.2.2 else f a k) = v
        rw [if_neg c]
        exact h
      · rcases List.mem_cons.1 he' with rfl | q
        · exact absurd ⟨h3.1.symm, h3.2.symm⟩ c
        · exact Or.inr ⟨e', q, h3⟩
theorem all_ne {α : Type} {p q : α → Bool} (h : ∀ x, p x = true → q x = true) : ∀ l : List α, l.all p = true → l.all q = true
  | [], _ => rfl
  | x :: l, e => by
    rw [List.all_cons, Bool.and_eq_true] at e ⊢
    exact ⟨h x e.1, all_ne h l e.2⟩
theorem ini_P (ha : 32 ≤ a) : fP cPW (zbP nl) a k = yTP nl a k := by
  have e0 : zbP nl a k = none := by unfold zbP; rw [if_neg (by omega), if_neg (by omega)]
  unfold yTP
  rw [if_neg (by omega)]
  refine fP_all cPW _ (fun e he h1 h2 => ?_) ?_
  · have q := List.all_eq_true.1 cP_1 e he
    rw [h1, h2] at q
    exact (eq_of_beq q).symm
  · cases hv : (yPb.getD (a - 32) []).getD k none with
    | none => exact Or.inl e0
    | some q =>
      refine Or.inr ?_
      have h138 : a - 32 < 138 := by
        rcases Nat.lt_or_ge (a - 32) 138 with h | h
        · exact h
        · rw [List.getD_eq_getElem?_getD (l := yPb), List.getElem?_eq_none (show yPb.length ≤ a - 32 from h)] at hv
          cases hv
      have hl : k < (yPb.getD (a - 32) []).length := by
        rcases Nat.lt_or_ge k (yPb.getD (a - 32) []).length with h | h
        · exact h
        · rw [List.getD_eq_getElem?_getD (l := yPb.getD (a - 32) []), List.getElem?_eq_none h] at hv
          cases hv
      have q2 := List.all_eq_true.1 (List.all_eq_true.1 cP_2 (a - 32) (List.mem_range.2 h138)) k (List.mem_range.2 hl)
      rw [hv] at q2
      have q3 : cPW.any (fun e => e.1 == 32 + (a - 32) && e.2.1 == k) = true := q2
      obtain ⟨e, he, h3⟩ := List.any_eq_true.1 q3
      rw [Bool.and_eq_true] at h3
      have h4 := eq_of_beq h3.1
      exact ⟨e, he, by omega, eq_of_beq h3.2⟩
theorem ini_w : yWF zl nl (HH zl xs nl 138 136 13) := by
  refine ⟨?_, fun a k _ => ?_, fun a ha => ?_, rfl, by show ((yTb.take 138).map (fun e => e.2)).sum = 6193; decide +kernel⟩
  · funext b
    show (if b < 32 + 138 then yTS zl b else (0, 0)) = yTS zl b
    by_cases h : b < 32 + 138
    · rw [if_pos h]
    · rw [if_neg h]
      unfold yTS
      rw [if_neg (by omega), List.getD_eq_getElem?_getD, List.getElem?_eq_none (by show 138 ≤ b - 32; omega)]
      rfl
  · show fP (cPW.take 136) (zbP nl) a k = _
    rw [show cPW.take 136 = cPW from rfl]
    by_cases h : 32 ≤ a
    · exact ini_P h
    · rw [fP_no]
      · unfold yTP
        rw [if_pos (by omega)]
      · refine all_ne (fun e he => ?_) cPW cP_a
        rw [Bool.and_eq_true] at he
        have := Nat.le_of_ble_eq_true he.2
        have n : ¬ e.1 = a := by omega
        simp [n]
  · have q : ∃ s, yTP nl a 12 = some s ∧ ySh s := by
      rcases ha with rfl | rfl | rfl
      · exact ⟨48, rfl, Or.inl rfl⟩
      · exact ⟨67, rfl, Or.inr (Or.inl rfl)⟩
      · exact ⟨86, rfl, Or.inr (Or.inr (Or.inl rfl))⟩
    obtain ⟨s, e, hs⟩ := q
    refine ⟨s, ?_, hs⟩
    show fP (cPW.take 136) (zbP nl) a 12 = _
    rw [show cPW.take 136 = cPW from rfl, ini_P (by unfold yHs at ha; omega)]
    exact e
end INI
