/-! SHOPS: the clauses that both hold. A clause: its word (0 sharp, 1 flat, 2 grow), its number, its codes (0 not, 1 and, 2 or, else a test) -/
abbrev Cls : Type := List (Int × Int × List Int)
/-- how high the answers stand -/
def xdp : List Int → Nat → Option Nat
  | [], m => some m
  | c :: cs, m => if 3 ≤ c then (if m < 30 then xdp cs (m + 1) else none) else if c = 0 then (if 1 ≤ m then xdp cs m else none) else (if 2 ≤ m then xdp cs (m - 1) else none)
def xts (f : Nat → Int) (c : Int) : Bool := if (c - 3) / 100 % 3 = 0 then decide (f ((c - 3) / 300).toNat < (c - 3) % 100) else if (c - 3) / 100 % 3 = 1 then decide (f ((c - 3) / 300).toNat = (c - 3) % 100) else decide ((c - 3) % 100 < f ((c - 3) / 300).toNat)
def xev (f : Nat → Int) : List Int → List Bool → List Bool
  | [], s => s
  | c :: cs, s => if 3 ≤ c then xev f cs (xts f c :: s) else if c = 0 then (match s with
      | b :: s => xev f cs ((!b) :: s)
      | [] => []) else (match s with
      | b :: a :: s => xev f cs ((if c = 1 then (a && b) else (a || b)) :: s)
      | _ => [])
def xtop (s : List Bool) : Bool := s.headD false
/-- what a clause adds -/
def xca1 (f : Nat → Int) (e : Int × Int × List Int) : Int := if e.1 < 2 ∧ xtop (xev f e.2.2 []) = true then (if e.1 = 0 then e.2.1 else -e.2.1) else 0
def xsum (f : Nat → Int) (cl : Cls) : Int := (cl.map (xca1 f)).sum
def xgrow (cl : Cls) : Int := cl.foldl (fun g e => if e.1 = 2 then e.2.1 else g) 0
def xOKe (e : Int × Int × List Int) : Prop := 0 ≤ e.1 ∧ e.1 ≤ 2 ∧ 0 ≤ e.2.1 ∧ e.2.1 ≤ 99 ∧ (e.1 < 2 → xdp e.2.2 0 = some 1) ∧ ∀ c ∈ e.2.2, 0 ≤ c ∧ c < 1803
/-- the model's rows of a shop -/
def xMR (h : Hp) (j : Nat) (cl : Cls) : Prop := zV h 137 j = (cl.length : Int) ∧ cl.length ≤ 10 ∧ ∀ i e, cl[i]? = some e → zV h 138 (10 * j + i) = e.1 ∧ zV h 139 (10 * j + i) = e.2.1 ∧ zV h 141 (10 * j + i) = (e.2.2.length : Int) ∧ 0 ≤ zV h 140 (10 * j + i) ∧ zV h 140 (10 * j + i) + e.2.2.length ≤ 800 ∧ ∀ t c, e.2.2[t]? = some c → zV h 142 ((zV h 140 (10 * j + i)).toNat + t) = c
/-- the class's steps -/
def xcs (c : Int) : Int × Int × Int := if 3 ≤ c then ((c - 3) / 100 % 3 + 1, (c - 3) / 300, (c - 3) % 100) else if c = 0 then (4, 0, 0) else if c = 1 then (5, 0, 0) else (6, 0, 0)
def xst1 (e : Int × Int × List Int) : List (Int × Int × Int) := if e.1 < 2 then e.2.2.map xcs ++ [(7, 0, if e.1 = 0 then e.2.1 else -e.2.1)] else []
def xst (cl : Cls) : List (Int × Int × Int) := cl.flatMap xst1
def xCR (h : Hp) (s : Nat) (cl : Cls) : Prop := zV h s 3 = ((xst cl).length : Int) ∧ (xst cl).length ≤ 100 ∧ zV h s 4 = xgrow cl ∧ ∀ i e, (xst cl)[i]? = some e → zV h (s + 1) i = e.1 ∧ zV h (s + 2) i = e.2.1 ∧ zV h (s + 3) i = e.2.2
/-- all shops stand in both alike -/
def xPS (h : Hp) : Prop := ∀ j : Nat, (j : Int) < zV h 129 15 → ∃ cl, xMR h j cl ∧ xCR h (93 + 4 * j) cl ∧ ∀ e ∈ cl, xOKe e
/-- what stands through all questions -/
def xST (h : Hp) : Prop := xSO h ∧ xGO h ∧ yB h ∧ xPS h ∧ 0 ≤ zV h 129 15 ∧ zV h 129 15 ≤ 6 ∧ zV h 33 3 = 0 ∧ zV h 33 4 = 0
def xStC (b k : Nat) : Prop := b < 32 ∨ xShC b ∨ (137 ≤ b ∧ b ≤ 142) ∨ (b = 129 ∧ k = 15)
section XSH
variable {zl : Nat} {nl : Option Nat} {h h' : Hp} {d : Nat} {K : Int → Hp → Prop} {U : Hp → Prop} {a n s b j : Nat} {x y z B : Int} {M : Nat → Nat → Prop} {cl : Cls}
theorem xMR_fr (e : ∀ b k, 137 ≤ b → b ≤ 142 → zV h' b k = zV h b k) (r : xMR h j cl) : xMR h' j cl := by
  obtain ⟨r1, r2, r3⟩ := r
  refine ⟨by rw [e 137 _ (by omega) (by omega)]; exact r1, r2, fun i q hq => ?_⟩
  have r4 := r3 i q hq
  rw [e 138 _ (by omega) (by omega), e 139 _ (by omega) (by omega), e 141 _ (by omega) (by omega), e 140 _ (by omega) (by omega)]
  exact ⟨r4.1, r4.2.1, r4.2.2.1, r4.2.2.2.1, r4.2.2.2.2.1, fun t c ht => by rw [e 142 _ (by omega) (by omega)]; exact r4.2.2.2.2.2 t c ht⟩
theorem xCR_fr (hs : ySh s) (e : ∀ b k, xShC b → zV h' b k = zV h b k) (r : xCR h s cl) : xCR h' s cl := by
  obtain ⟨r1, r2, r3, r4⟩ := r
  have e0 := fun k => e s k (xShC_S (j := 0) hs (by decide))
  refine ⟨by rw [e0]; exact r1, r2, by rw [e0]; exact r3, fun i q hq => ?_⟩
  rw [e _ _ (xShC_S hs (j := 1) (by decide)), e _ _ (xShC_S hs (j := 2) (by decide)), e _ _ (xShC_S hs (j := 3) (by decide))]
  exact r4 i q hq
theorem ySh_j (hj : j < 6) : ySh (93 + 4 * j) := by unfold ySh; omega
theorem Fr.ST (f : Fr M h h') (st : xST h) (e : ∀ b k, xStC b k → ¬ M b k) : xST h' := by
  obtain ⟨s1, s2, s3, s4, s5, s6, s7, s8⟩ := st
  have eS : ∀ b k, xShC b → ¬ M b k := fun b k q => e b k (Or.inr (Or.inl q))
  have e15 : zV h' 129 15 = zV h 129 15 := f.V 129 15 (e _ _ (Or.inr (Or.inr (Or.inr ⟨rfl, rfl⟩))))
  refine ⟨f.xSO s1 eS, f.GO s2 eS, f.B s3 (fun b k q => e b k (Or.inl q)), fun j hj => ?_, by rw [e15]; exact s5, by rw [e15]; exact s6, by rw [f.V 33 3 (eS _ _ (by unfold xShC; omega))]; exact s7, by rw [f.V 33 4 (eS _ _ (by unfold xShC; omega))]; exact s8⟩
  rw [e15] at hj
  obtain ⟨cl, c1, c2, c3⟩ := s4 j hj
  exact ⟨cl, xMR_fr (fun b k q1 q2 => f.V b k (e _ _ (Or.inr (Or.inr (Or.inl ⟨q1, q2⟩))))) c1, xCR_fr (ySh_j (by omega)) (fun b k q => f.V b k (eS b k q)) c2, c3⟩
theorem ySm.ST (m : ySm h h') (st : xST h) : xST h' := m.fr.ST st (fun b k q => by unfold xStC xShC at q; unfold ySc; omega)
/-- what the model's questions write over -/
def xM1 (c _k : Nat) : Prop := c = 143
def xMq (c _k : Nat) : Prop := c = 143 ∨ c = 155 ∨ c = 156
/-- the model's growth, and its sum -/
theorem mp143 (w : yWF zl nl h) (st : xST h) (r : Rg B (hvM h)) (hh : hvM h 0 6 < zV h 129 15) (k : K (xG h (hvM h 0 6)) h) : yI d 143 [vR (some 129)] h K := by
  sorry
theorem mp135 (w : yWF zl nl h) (hd : 2 ≤ d) (st : xST h) (r : Rg B (hvM h)) (hB : B ≤ 100000) (hh : hvM h 0 6 < zV h 129 15) (p : 0 ≤ x ∧ x < 6 ∧ 0 ≤ y ∧ y < 6) (k : ∀ h', yWF zl nl h' → Fr xM1 h h' → K (zw (hvM h 4 (6 * x + y).toNat + xF h (hvM h 0 6) (xfact (hvM h) x y))) h') : yI d 135 [vR (some 129), vI x, vI y] h K := by
  sorry
end XSH
