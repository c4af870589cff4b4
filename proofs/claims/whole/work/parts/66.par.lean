/-! THE SHOP'S TEXT, as a function of the text alone: where the place stands behind, and the codes (none: a fault) -/
abbrev PR : Type := Nat × Option (List Int)
def ptk (T : Nat → Int) (n p : Nat) (c : Int) : Bool := decide (p < n ∧ T p = c)
def pdg (T : Nat → Int) (n p : Nat) : Bool := decide (p < n ∧ 48 ≤ T p ∧ T p ≤ 57)
def pnum (T : Nat → Int) (n p : Nat) : Nat × Option Int := if pdg T n p = true then (if pdg T n (p + 1) = true then (p + 2, some (10 * (T p - 48) + (T (p + 1) - 48))) else (p + 1, some (T p - 48))) else (p, none)
def ppk (T : Nat → Int) (n p : Nat) : Int := if p < n then T p else -1
def ptest (T : Nat → Int) (n p : Nat) : PR := if 0 ≤ ylet (ppk T n p) then (if 0 ≤ yrel (ppk T n (p + 1)) then (match pnum T n (p + 2) with
    | (q, some v) => (q, some [3 + 300 * ylet (ppk T n p) + 100 * (yrel (ppk T n (p + 1)) - 1) + v])
    | (q, none) => (q, none)) else (p + 1, none)) else (p, none)
def prest (sub : Nat → PR) (T : Nat → Int) (n : Nat) (sg c : Int) : Nat → Nat → PR
  | 0, p => (p, some [])
  | m + 1, p => if ptk T n p sg = true then (match sub (p + 1) with
      | (q, none) => (q, none)
      | (q, some a) => match prest sub T n sg c m q with
        | (r, none) => (r, none)
        | (r, some b) => (r, some (a ++ c :: b))) else (p, some [])
def pseq (sub : Nat → PR) (T : Nat → Int) (n : Nat) (sg c : Int) (p : Nat) : PR := match sub p with
  | (q, none) => (q, none)
  | (q, some a) => match prest sub T n sg c n q with
    | (r, none) => (r, none)
    | (r, some b) => (r, some (a ++ b))
def pnot (r : PR) : PR := match r with
  | (q, none) => (q, none)
  | (q, some a) => (q, some (a ++ [0]))
def pcl (T : Nat → Int) (n : Nat) (r : PR) : PR := match r with
  | (q, none) => (q, none)
  | (q, some a) => if ptk T n q 41 = true then (q + 1, some a) else (q, none)
def pF (T : Nat → Int) (n : Nat) : Nat → Nat → PR
  | 0, p => ptest T n p
  | r + 1, p => if ptk T n p 33 = true then pnot (pF T n r (p + 1)) else if ptk T n p 40 = true then pcl T n (pseq (pseq (pF T n r) T n 38 1) T n 124 2 (p + 1)) else ptest T n p
def pT (T : Nat → Int) (n r : Nat) : Nat → PR := pseq (pF T n r) T n 38 1
def pE (T : Nat → Int) (n r : Nat) : Nat → PR := pseq (pT T n r) T n 124 2
/-- codes in order, that need m at most -/
def pok (m : Nat) (a : List Int) : Prop := (∀ c ∈ a, 0 ≤ c ∧ c < 1803) ∧ ∀ (k : Nat) (cs : List Int), k + m ≤ 12 → xdp (a ++ cs) k = xdp cs (k + 1)
def pokr (m : Nat) (a : List Int) : Prop := (∀ c ∈ a, 0 ≤ c ∧ c < 1803) ∧ ∀ (k : Nat) (cs : List Int), 1 ≤ k → k + m ≤ 12 → xdp (a ++ cs) k = xdp cs k
section XPA
variable {T : Nat → Int} {n p q r m : Nat} {sub : Nat → PR} {a b : List Int} {x v sg c : Int}
theorem ylet_r (x : Int) : -1 ≤ ylet x ∧ ylet x ≤ 5 := by unfold ylet; omega
theorem yrel_r (x : Int) : yrel x = -1 ∨ (1 ≤ yrel x ∧ yrel x ≤ 3) := by unfold yrel; omega
theorem pnum_r (e : pnum T n p = (q, some v)) : p < q ∧ q ≤ n ∧ 0 ≤ v ∧ v ≤ 99 := by
  unfold pnum at e
  split at e
  · rename_i c
    unfold pdg at c
    have c := of_decide_eq_true c
    split at e
    · rename_i c2
      unfold pdg at c2
      have c2 := of_decide_eq_true c2
      cases e
      omega
    · cases e
      omega
  · cases e
theorem pnum_n (e : pnum T n p = (q, none)) : q = p := by
  unfold pnum at e
  split at e
  · split at e <;> cases e
  · cases e; rfl
theorem xcs_t (v l s : Int) (h : 0 ≤ v ∧ v ≤ 99 ∧ 0 ≤ l ∧ 1 ≤ s ∧ s ≤ 3) : xcs (3 + 300 * l + 100 * (s - 1) + v) = (s, l, v) := by
  unfold xcs
  rw [if_pos (by omega)]
  have e1 : (3 + 300 * l + 100 * (s - 1) + v - 3) / 100 % 3 + 1 = s := by omega
  have e2 : (3 + 300 * l + 100 * (s - 1) + v - 3) / 300 = l := by omega
  have e3 : (3 + 300 * l + 100 * (s - 1) + v - 3) % 100 = v := by omega
  rw [e1, e2, e3]
theorem prest_no (e : ptk T n p sg = false) (m : Nat) : prest sub T n sg c m p = (p, some []) := by
  cases m
  · rfl
  · show (if ptk T n p sg = true then _ else (p, some [])) = _
    rw [if_neg (by rw [e]; decide)]
theorem pok_test (h : 3 ≤ x ∧ x < 1803) : pok 1 [x] := by
  refine ⟨fun c hc => by rw [List.mem_singleton] at hc; omega, fun k cs hk => ?_⟩
  show (if 3 ≤ x then (if k < 12 then xdp cs (k + 1) else none) else _) = _
  rw [if_pos h.1, if_pos (by omega)]
theorem ptest_ok (e : ptest T n p = (q, some a)) : pok 1 a := by
  unfold ptest at e
  split at e
  · rename_i c
    split at e
    · rename_i c2
      split at e
      · rename_i q2 v2 e2
        cases e
        have r := pnum_r e2
        have r1 := ylet_r (ppk T n p)
        have r2 := yrel_r (ppk T n (p + 1))
        exact pok_test (by omega)
      · cases e
    · cases e
  · cases e
theorem pok_mono (h : pok m a) (hm : m ≤ r) : pok r a := ⟨h.1, fun k cs hk => h.2 k cs (by omega)⟩
theorem pok_two (h : pok m a) (hc : c = 1 ∨ c = 2) (hb : pokr m b) : pokr m (a ++ c :: b) := by
  refine ⟨fun x hx => ?_, fun k cs h1 hk => ?_⟩
  · rcases List.mem_append.1 hx with hx | hx
    · exact h.1 x hx
    · rcases List.mem_cons.1 hx with hx | hx
      · omega
      · exact hb.1 x hx
  · rw [List.append_assoc, h.2 k _ (by omega)]
    show (if 3 ≤ c then _ else if c = 0 then _ else (if 2 ≤ k + 1 then xdp (b ++ cs) (k + 1 - 1) else none)) = _
    rw [if_neg (by omega), if_neg (by omega), if_pos (by omega)]
    exact hb.2 k cs h1 hk
theorem prest_ok (hs : ∀ p q a, sub p = (q, some a) → pok m a) (hc : c = 1 ∨ c = 2) : ∀ (i p q : Nat) (b : List Int), prest sub T n sg c i p = (q, some b) → pokr m b
  | 0, p, q, b, e => by
    cases e
    exact ⟨fun c hc => absurd hc (List.not_mem_nil), fun k cs _ _ => rfl⟩
  | i + 1, p, q, b, e => by
    have e : (if ptk T n p sg = true then (match sub (p + 1) with
      | (q, none) => (q, none)
      | (q, some a) => match prest sub T n sg c i q with
        | (r, none) => (r, none)
        | (r, some b) => (r, some (a ++ c :: b))) else (p, some [])) = (q, some b) := e
    split at e
    · split at e
      · cases e
      · rename_i q2 a2 e2
        split at e
        · cases e
        · rename_i q3 b3 e3
          cases e
          exact pok_two (hs _ _ _ e2) hc (prest_ok hs hc i _ _ _ e3)
    · cases e
      exact ⟨fun c hc => absurd hc (List.not_mem_nil), fun k cs _ _ => rfl⟩
theorem pseq_ok (hs : ∀ p q a, sub p = (q, some a) → pok m a) (hc : c = 1 ∨ c = 2) (p q : Nat) (b : List Int) (e : pseq sub T n sg c p = (q, some b)) : pok (m + 1) b := by
  unfold pseq at e
  split at e
  · cases e
  · rename_i q2 a2 e2
    split at e
    · cases e
    · rename_i q3 b3 e3
      cases e
      have h1 := hs _ _ _ e2
      have h2 := prest_ok hs hc _ _ _ _ e3
      refine ⟨fun x hx => ?_, fun k cs hk => ?_⟩
      · rcases List.mem_append.1 hx with hx | hx
        · exact h1.1 x hx
        · exact h2.1 x hx
      · rw [List.append_assoc, h1.2 k _ (by omega), h2.2 (k + 1) cs (by omega) (by omega)]
theorem pF_ok : ∀ (r p q : Nat) (b : List Int), pF T n r p = (q, some b) → pok (2 * r + 1) b
  | 0, p, q, b, e => ptest_ok e
  | r + 1, p, q, b, e => by
    have e : (if ptk T n p 33 = true then pnot (pF T n r (p + 1)) else if ptk T n p 40 = true then pcl T n (pseq (pseq (pF T n r) T n 38 1) T n 124 2 (p + 1)) else ptest T n p) = (q, some b) := e
    split at e
    · unfold pnot at e
      split at e
      · cases e
      · rename_i q2 a2 e2
        cases e
        have h1 := pF_ok r _ _ _ e2
        refine ⟨fun x hx => ?_, fun k cs hk => ?_⟩
        · rcases List.mem_append.1 hx with hx | hx
          · exact h1.1 x hx
          · rw [List.mem_singleton] at hx; omega
        · rw [List.append_assoc, h1.2 k _ (by omega)]
          show (if (3 : Int) ≤ 0 then _ else if (0 : Int) = 0 then (if 1 ≤ k + 1 then xdp cs (k + 1) else none) else _) = _
          rw [if_neg (by omega), if_pos rfl, if_pos (by omega)]
    · split at e
      · unfold pcl at e
        split at e
        · cases e
        · rename_i q2 a2 e2
          split at e
          · cases e
            exact pok_mono (pseq_ok (pseq_ok (pF_ok r) (Or.inl rfl)) (Or.inr rfl) _ _ _ e2) (by omega)
          · cases e
      · exact pok_mono (ptest_ok e) (by omega)
theorem pE_ok (e : pE T n 4 p = (q, some b)) : xdp b 0 = some 1 ∧ ∀ c ∈ b, 0 ≤ c ∧ c < 1803 := by
  have h1 : pok (2 * 4 + 1 + 1 + 1) b := pseq_ok (pseq_ok (pF_ok 4) (Or.inl rfl)) (Or.inr rfl) _ _ _ e
  refine ⟨?_, h1.1⟩
  have h2 := h1.2 0 [] (by omega)
  rw [List.append_nil] at h2
  exact h2
end XPA
