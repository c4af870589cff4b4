/-! SHOPS: the clauses that both hold. A clause: its word (0 sharp, 1 flat, 2 grow), its number, its codes (0 not, 1 and, 2 or, else a test) -/
abbrev Cls : Type := List (Int × Int × List Int)
/-- how high the answers stand -/
def xdp : List Int → Nat → Option Nat
  | [], m => some m
  | c :: cs, m => if 3 ≤ c then (if m < 12 then xdp cs (m + 1) else none) else if c = 0 then (if 1 ≤ m then xdp cs m else none) else (if 2 ≤ m then xdp cs (m - 1) else none)
def xts (f : Nat → Int) (c : Int) : Bool := if (c - 3) / 100 % 3 = 0 then decide (f ((c - 3) / 300).toNat < (c - 3) % 100) else if (c - 3) / 100 % 3 = 1 then decide (f ((c - 3) / 300).toNat = (c - 3) % 100) else decide ((c - 3) % 100 < f ((c - 3) / 300).toNat)
def xev (f : Nat → Int) : List Int → List Bool → List Bool
  | [], s => s
  | c :: cs, s => if 3 ≤ c then xev f cs (xts f c :: s) else if c = 0 then (match s with
      | b :: s => xev f cs ((!b) :: s)
      | [] => []) else (match s with
      | b :: a :: s => xev f cs ((if c = 1 then (a && b) else (a || b)) :: s)
      | _ => [])
def xtop (s : List Bool) : Bool := s.headD false
/-- what a clause adds -/
def xca1 (f : Nat → Int) (e : Int × Int × List Int) : Int := if e.1 < 2 ∧ xtop (xev f e.2.2 []) = true then (if e.1 = 0 then e.2.1 else -e.2.1) else 0
def xsum (f : Nat → Int) (cl : Cls) : Int := (cl.map (xca1 f)).sum
def xgrow (cl : Cls) : Int := cl.foldl (fun g e => if e.1 = 2 then e.2.1 else g) 0
def xOKe (e : Int × Int × List Int) : Prop := 0 ≤ e.1 ∧ e.1 ≤ 2 ∧ 0 ≤ e.2.1 ∧ e.2.1 ≤ 99 ∧ (e.1 < 2 → xdp e.2.2 0 = some 1) ∧ ∀ c ∈ e.2.2, 0 ≤ c ∧ c < 1803
/-- the model's rows of a shop -/
def xMR (h : Hp) (j : Nat) (cl : Cls) : Prop := zV h 145 j = (cl.length : Int) ∧ cl.length ≤ 10 ∧ ∀ i e, cl[i]? = some e → zV h 146 (10 * j + i) = e.1 ∧ zV h 147 (10 * j + i) = e.2.1 ∧ zV h 149 (10 * j + i) = (e.2.2.length : Int) ∧ 0 ≤ zV h 148 (10 * j + i) ∧ zV h 148 (10 * j + i) + e.2.2.length ≤ 800 ∧ ∀ t c, e.2.2[t]? = some c → zV h 150 ((zV h 148 (10 * j + i)).toNat + t) = c
/-- the class's steps -/
def xcs (c : Int) : Int × Int × Int := if 3 ≤ c then ((c - 3) / 100 % 3 + 1, (c - 3) / 300, (c - 3) % 100) else if c = 0 then (4, 0, 0) else if c = 1 then (5, 0, 0) else (6, 0, 0)
def xst1 (e : Int × Int × List Int) : List (Int × Int × Int) := if e.1 < 2 then e.2.2.map xcs ++ [(7, 0, if e.1 = 0 then e.2.1 else -e.2.1)] else []
def xst (cl : Cls) : List (Int × Int × Int) := cl.flatMap xst1
def xCR (h : Hp) (s : Nat) (cl : Cls) : Prop := zV h s 3 = ((xst cl).length : Int) ∧ (xst cl).length ≤ 100 ∧ zV h s 4 = xgrow cl ∧ ∀ i e, (xst cl)[i]? = some e → zV h (s + 1) i = e.1 ∧ zV h (s + 2) i = e.2.1 ∧ zV h (s + 3) i = e.2.2
/-- all shops stand in both alike -/
def xPS (h : Hp) : Prop := ∀ j : Nat, (j : Int) < zV h 137 15 → ∃ cl, xMR h j cl ∧ xCR h (101 + 4 * j) cl ∧ ∀ e ∈ cl, xOKe e
/-- what stands through all questions -/
def xST (h : Hp) : Prop := xSO h ∧ xGO h ∧ yB h ∧ xPS h ∧ 0 ≤ zV h 137 15 ∧ zV h 137 15 ≤ 6 ∧ zV h 48 3 = 0 ∧ zV h 48 4 = 0
def xStC (b k : Nat) : Prop := b < 32 ∨ xShC b ∨ (145 ≤ b ∧ b ≤ 150) ∨ (b = 137 ∧ k = 15)
section XSH
variable {zl : Nat} {nl : Option Nat} {h h' : Hp} {d : Nat} {K : Int → Hp → Prop} {U : Hp → Prop} {a n s b j : Nat} {x y z B : Int} {M : Nat → Nat → Prop} {cl : Cls}
theorem xMR_fr (e : ∀ b k, 145 ≤ b → b ≤ 150 → zV h' b k = zV h b k) (r : xMR h j cl) : xMR h' j cl := by
  obtain ⟨r1, r2, r3⟩ := r
  refine ⟨by rw [e 145 _ (by omega) (by omega)]; exact r1, r2, fun i q hq => ?_⟩
  have r4 := r3 i q hq
  rw [e 146 _ (by omega) (by omega), e 147 _ (by omega) (by omega), e 149 _ (by omega) (by omega), e 148 _ (by omega) (by omega)]
  exact ⟨r4.1, r4.2.1, r4.2.2.1, r4.2.2.2.1, r4.2.2.2.2.1, fun t c ht => by rw [e 150 _ (by omega) (by omega)]; exact r4.2.2.2.2.2 t c ht⟩
theorem xCR_fr (hs : ySh s) (e : ∀ b k, xShC b → zV h' b k = zV h b k) (r : xCR h s cl) : xCR h' s cl := by
  obtain ⟨r1, r2, r3, r4⟩ := r
  have e0 := fun k => e s k (xShC_S (j := 0) hs (by decide))
  refine ⟨by rw [e0]; exact r1, r2, by rw [e0]; exact r3, fun i q hq => ?_⟩
  rw [e _ _ (xShC_S hs (j := 1) (by decide)), e _ _ (xShC_S hs (j := 2) (by decide)), e _ _ (xShC_S hs (j := 3) (by decide))]
  exact r4 i q hq
theorem ySh_j (hj : j < 6) : ySh (101 + 4 * j) := by unfold ySh; omega
theorem Fr.ST (f : Fr M h h') (st : xST h) (e : ∀ b k, xStC b k → ¬ M b k) : xST h' := by
  obtain ⟨s1, s2, s3, s4, s5, s6, s7, s8⟩ := st
  have eS : ∀ b k, xShC b → ¬ M b k := fun b k q => e b k (Or.inr (Or.inl q))
  have e15 : zV h' 137 15 = zV h 137 15 := f.V 137 15 (e _ _ (Or.inr (Or.inr (Or.inr ⟨rfl, rfl⟩))))
  refine ⟨f.xSO s1 eS, f.GO s2 eS, f.B s3 (fun b k q => e b k (Or.inl q)), fun j hj => ?_, by rw [e15]; exact s5, by rw [e15]; exact s6, by rw [f.V 48 3 (eS _ _ (by unfold xShC; omega))]; exact s7, by rw [f.V 48 4 (eS _ _ (by unfold xShC; omega))]; exact s8⟩
  rw [e15] at hj
  obtain ⟨cl, c1, c2, c3⟩ := s4 j hj
  exact ⟨cl, xMR_fr (fun b k q1 q2 => f.V b k (e _ _ (Or.inr (Or.inr (Or.inl ⟨q1, q2⟩))))) c1, xCR_fr (ySh_j (by omega)) (fun b k q => f.V b k (eS b k q)) c2, c3⟩
theorem ySm.ST (m : ySm h h') (st : xST h) : xST h' := m.fr.ST st (fun b k q => by unfold xStC xShC at q; unfold ySc; omega)
/-- what the model's questions write over -/
def xM1 (c _k : Nat) : Prop := c = 151
def xMq (c _k : Nat) : Prop := c = 151 ∨ c = 163 ∨ c = 164
end XSH
def bI (b : Bool) : Int := match b with
  | true => 1
  | false => 0
/-- answers as a number -/
def xenc : List Bool → Nat
  | [] => 0
  | b :: s => 2 * xenc s + (if b = true then 1 else 0)
def ysL (f : Nat → Int) : List (Int × Int × Int) → Int × Int → Int × Int
  | [], q => q
  | e :: L, q => ysL f L (ysT e.1 e.2.2 (f e.2.1.toNat) q)
theorem zs1' : ∀ a : Fin 64, ∀ b : Fin 64, zor (zshl (((64 * a.val + b.val) : Nat) : Int) 1) 0 = ((2 * (64 * a.val + b.val) : Nat) : Int) := by decide +kernel
theorem zs1 {e : Nat} (h : e < 4096) : zor (zshl ((e : Nat) : Int) 1) 0 = ((2 * e : Nat) : Int) := by
  have q := zs1' ⟨e / 64, by omega⟩ ⟨e % 64, by omega⟩
  have r : 64 * (e / 64) + e % 64 = e := by omega
  dsimp only at q
  rw [r] at q
  exact q
theorem zs2' : ∀ a : Fin 64, ∀ b : Fin 64, zor (zshl (((64 * a.val + b.val) : Nat) : Int) 1) 1 = ((2 * (64 * a.val + b.val) + 1 : Nat) : Int) := by decide +kernel
theorem zs2 {e : Nat} (h : e < 4096) : zor (zshl ((e : Nat) : Int) 1) 1 = ((2 * e + 1 : Nat) : Int) := by
  have q := zs2' ⟨e / 64, by omega⟩ ⟨e % 64, by omega⟩
  have r : 64 * (e / 64) + e % 64 = e := by omega
  dsimp only at q
  rw [r] at q
  exact q
theorem zs3' : ∀ a : Fin 64, ∀ b : Fin 64, zxor (((64 * a.val + b.val) : Nat) : Int) 1 = ((if (64 * a.val + b.val) % 2 = 0 then (64 * a.val + b.val) + 1 else (64 * a.val + b.val) - 1 : Nat) : Int) := by decide +kernel
theorem zs3 {e : Nat} (h : e < 4096) : zxor ((e : Nat) : Int) 1 = ((if e % 2 = 0 then e + 1 else e - 1 : Nat) : Int) := by
  have q := zs3' ⟨e / 64, by omega⟩ ⟨e % 64, by omega⟩
  have r : 64 * (e / 64) + e % 64 = e := by omega
  dsimp only at q
  rw [r] at q
  exact q
theorem zs4' : ∀ a : Fin 64, ∀ b : Fin 64, zand (((64 * a.val + b.val) : Nat) : Int) 1 = (((64 * a.val + b.val) % 2 : Nat) : Int) := by decide +kernel
theorem zs4 {e : Nat} (h : e < 4096) : zand ((e : Nat) : Int) 1 = ((e % 2 : Nat) : Int) := by
  have q := zs4' ⟨e / 64, by omega⟩ ⟨e % 64, by omega⟩
  have r : 64 * (e / 64) + e % 64 = e := by omega
  dsimp only at q
  rw [r] at q
  exact q
theorem zs5' : ∀ a : Fin 64, ∀ b : Fin 64, zshr (((64 * a.val + b.val) : Nat) : Int) 1 = (((64 * a.val + b.val) / 2 : Nat) : Int) := by decide +kernel
theorem zs5 {e : Nat} (h : e < 4096) : zshr ((e : Nat) : Int) 1 = ((e / 2 : Nat) : Int) := by
  have q := zs5' ⟨e / 64, by omega⟩ ⟨e % 64, by omega⟩
  have r : 64 * (e / 64) + e % 64 = e := by omega
  dsimp only at q
  rw [r] at q
  exact q
theorem zs6' : ∀ a : Fin 64, ∀ b : Fin 64, zand (((64 * a.val + b.val) : Nat) : Int) (-2) = (((64 * a.val + b.val) - (64 * a.val + b.val) % 2 : Nat) : Int) := by decide +kernel
theorem zs6 {e : Nat} (h : e < 4096) : zand ((e : Nat) : Int) (-2) = ((e - e % 2 : Nat) : Int) := by
  have q := zs6' ⟨e / 64, by omega⟩ ⟨e % 64, by omega⟩
  have r : 64 * (e / 64) + e % 64 = e := by omega
  dsimp only at q
  rw [r] at q
  exact q
theorem zs7' : ∀ a : Fin 64, ∀ b : Fin 64, zor (((64 * a.val + b.val) : Nat) : Int) 0 = (((64 * a.val + b.val) : Nat) : Int) := by decide +kernel
theorem zs7 {e : Nat} (h : e < 4096) : zor ((e : Nat) : Int) 0 = ((e : Nat) : Int) := by
  have q := zs7' ⟨e / 64, by omega⟩ ⟨e % 64, by omega⟩
  have r : 64 * (e / 64) + e % 64 = e := by omega
  dsimp only at q
  rw [r] at q
  exact q
theorem zs8' : ∀ a : Fin 64, ∀ b : Fin 64, zor (((64 * a.val + b.val) : Nat) : Int) 1 = (((64 * a.val + b.val) - (64 * a.val + b.val) % 2 + 1 : Nat) : Int) := by decide +kernel
theorem zs8 {e : Nat} (h : e < 4096) : zor ((e : Nat) : Int) 1 = ((e - e % 2 + 1 : Nat) : Int) := by
  have q := zs8' ⟨e / 64, by omega⟩ ⟨e % 64, by omega⟩
  have r : 64 * (e / 64) + e % 64 = e := by omega
  dsimp only at q
  rw [r] at q
  exact q
theorem xenc_r : ∀ s : List Bool, xenc s < 2 ^ s.length := by
  intro s
  induction s with
  | nil => decide
  | cons b s ih =>
    have e : 2 ^ (b :: s).length = 2 ^ s.length * 2 := by rw [List.length_cons, Nat.pow_succ]
    rw [e]
    unfold xenc
    split <;> omega
theorem xenc_12 {s : List Bool} (h : s.length ≤ 12) : xenc s < 4096 := by
  have h1 := xenc_r s
  have h2 : 2 ^ s.length ≤ 2 ^ 12 := Nat.pow_le_pow_right (by decide) h
  have h3 : 2 ^ 12 = 4096 := by decide
  omega
section XSH2
variable {zl : Nat} {nl : Option Nat} {h h' h2 : Hp} {d : Nat} {K : Int → Hp → Prop} {U : Hp → Prop} {a n s b j : Nat} {x y z B : Int} {M : Nat → Nat → Prop} {cl : Cls} {f : Nat → Int} {V : Nat → Nat → Int}
theorem ysL_app (A C : List (Int × Int × Int)) : ∀ q, ysL f (A ++ C) q = ysL f C (ysL f A q) := by
  induction A with
  | nil => intro q; rfl
  | cons e A ih => intro q; exact ih _
theorem yshR_L : ∀ (L : List (Int × Int × Int)) (o : Nat) (q : Int × Int), (∀ i e, L[i]? = some e → V (s + 1) (o + i) = e.1 ∧ V (s + 2) (o + i) = e.2.1 ∧ V (s + 3) (o + i) = e.2.2) → yshR V s f L.length o q = (ysL f L q).1 := by
  intro L
  induction L with
  | nil => intro o q _; rfl
  | cons e L ih =>
    intro o q hL
    have h0 : V (s + 1) o = e.1 ∧ V (s + 2) o = e.2.1 ∧ V (s + 3) o = e.2.2 := hL 0 e rfl
    show yshR V s f L.length (o + 1) (ysT (V (s + 1) o) (V (s + 3) o) (f (V (s + 2) o).toNat) q) = _
    rw [h0.1, h0.2.1, h0.2.2]
    refine ih (o + 1) _ (fun i e' hi => ?_)
    have e1 : o + 1 + i = o + (i + 1) := by omega
    rw [e1]
    exact hL (i + 1) e' hi
/-- the codes of a clause, in the class -/
theorem ysL_codes : ∀ (cs : List Int) (st : List Bool) (q1 : Int) (m : Nat), xdp cs st.length = some m → st.length ≤ 12 → (∀ c ∈ cs, 0 ≤ c ∧ c < 1803) → ysL f (cs.map xcs) (q1, (xenc st : Int)) = (q1, (xenc (xev f cs st) : Int)) ∧ (xev f cs st).length = m ∧ m ≤ 12 := by
  intro cs
  induction cs with
  | nil =>
    intro st q1 m hm hl _
    exact ⟨rfl, Option.some.inj hm, by have := Option.some.inj hm; omega⟩
  | cons c cs ih =>
    intro st q1 m hm hl hc
    have rc := hc c List.mem_cons_self
    have hc' : ∀ c' ∈ cs, 0 ≤ c' ∧ c' < 1803 := fun c' q => hc c' (List.mem_cons_of_mem _ q)
    show ysL f (cs.map xcs) (ysT (xcs c).1 (xcs c).2.2 (f (xcs c).2.1.toNat) (q1, (xenc st : Int))) = (q1, (xenc (xev f (c :: cs) st) : Int)) ∧ (xev f (c :: cs) st).length = m ∧ m ≤ 12
    have el := xenc_12 hl
    unfold xdp at hm
    unfold xev
    by_cases c3 : 3 ≤ c
    · rw [if_pos c3] at hm
      rw [if_pos c3]
      by_cases cm : st.length < 12
      · rw [if_pos cm] at hm
        have key : ysT (xcs c).1 (xcs c).2.2 (f (xcs c).2.1.toNat) (q1, (xenc st : Int)) = (q1, (xenc (xts f c :: st) : Int)) := by
          unfold xcs
          rw [if_pos c3]
          show ysT ((c - 3) / 100 % 3 + 1) ((c - 3) % 100) (f ((c - 3) / 300).toNat) (q1, (xenc st : Int)) = _
          have k0 : (c - 3) / 100 % 3 = 0 ∨ (c - 3) / 100 % 3 = 1 ∨ (c - 3) / 100 % 3 = 2 := by omega
          generalize hg : f ((c - 3) / 300).toNat = g
          have push0 : zor (zshl (xenc st : Int) 1) 0 = ((2 * xenc st : Nat) : Int) := zs1 el
          have push1 : zor (zshl (xenc st : Int) 1) 1 = ((2 * xenc st + 1 : Nat) : Int) := zs2 el
          have fin : ∀ b : Bool, xts f c = b → (xenc (xts f c :: st)) = 2 * xenc st + (if b = true then 1 else 0) := fun b q => by rw [q]; rfl
          unfold ysT
          rcases k0 with k0 | k0 | k0
          · have hx : xts f c = decide (g < (c - 3) % 100) := by unfold xts; rw [if_pos k0, hg]
            rw [k0, if_pos (by decide), fin _ hx]
            by_cases q : (c - 3) % 100 ≤ g
            · rw [if_pos q, push0, if_neg (by simpa using q)]
              rfl
            · rw [if_neg q, push1, if_pos (by simpa using q)]
          · have hx : xts f c = decide (g = (c - 3) % 100) := by unfold xts; rw [if_neg (by omega), if_pos k0, hg]
            rw [k0, if_neg (by decide), if_pos (by decide), fin _ hx]
            by_cases q : g ≠ (c - 3) % 100
            · rw [if_pos q, push0, if_neg (by simpa using q)]
              rfl
            · rw [if_neg q, push1, if_pos (by simpa using q)]
          · have hx : xts f c = decide ((c - 3) % 100 < g) := by unfold xts; rw [if_neg (by omega), if_neg (by omega), hg]
            rw [k0, if_neg (by decide), if_neg (by decide), if_pos (by decide), fin _ hx]
            by_cases q : g ≤ (c - 3) % 100
            · rw [if_pos q, push0, if_neg (by simpa using q)]
              rfl
            · rw [if_neg q, push1, if_pos (by simpa using q)]
        rw [key]
        exact ih (xts f c :: st) q1 m hm (by rw [List.length_cons]; omega) hc'
      · rw [if_neg cm] at hm
        cases hm
    · rw [if_neg c3] at hm
      rw [if_neg c3]
      by_cases c0 : c = 0
      · subst c0
        rw [if_pos rfl] at hm
        rw [if_pos rfl]
        cases st with
        | nil => cases hm
        | cons b st =>
          rw [if_pos (by rw [List.length_cons]; omega)] at hm
          have key : ysT (xcs 0).1 (xcs 0).2.2 (f (xcs 0).2.1.toNat) (q1, (xenc (b :: st) : Int)) = (q1, (xenc ((!b) :: st) : Int)) := by
            show (q1, zxor (xenc (b :: st) : Int) 1) = _
            have this : zxor ((xenc (b :: st) : Nat) : Int) 1 = ((if xenc (b :: st) % 2 = 0 then xenc (b :: st) + 1 else xenc (b :: st) - 1 : Nat) : Int) := zs3 el
            rw [this]
            congr 2
            cases b
            · show (if (2 * xenc st + 0) % 2 = 0 then (2 * xenc st + 0) + 1 else _) = 2 * xenc st + 1
              rw [if_pos (by omega)]
            · show (if (2 * xenc st + 1) % 2 = 0 then _ else (2 * xenc st + 1) - 1) = 2 * xenc st + 0
              rw [if_neg (by omega)]
              omega
          rw [key]
          exact ih ((!b) :: st) q1 m hm hl hc'
      · rw [if_neg c0] at hm
        rw [if_neg c0]
        cases st with
        | nil => cases hm
        | cons b st =>
          cases st with
          | nil => cases hm
          | cons a st =>
            rw [if_pos (by rw [List.length_cons, List.length_cons]; omega)] at hm
            have l2 : (b :: a :: st).length - 1 = st.length + 1 := by rw [List.length_cons, List.length_cons]; omega
            rw [l2] at hm
            rw [List.length_cons, List.length_cons] at hl
            have el2 := xenc_12 (s := a :: st) (by rw [List.length_cons]; omega)
            have q4 : zand ((xenc (b :: a :: st) : Nat) : Int) 1 = ((xenc (b :: a :: st) % 2 : Nat) : Int) := zs4 el
            have q5 : zshr ((xenc (b :: a :: st) : Nat) : Int) 1 = ((xenc (b :: a :: st) / 2 : Nat) : Int) := zs5 el
            have q6 : zand ((xenc (a :: st) : Nat) : Int) (-2) = ((xenc (a :: st) - xenc (a :: st) % 2 : Nat) : Int) := zs6 el2
            have q7 : zor ((xenc (a :: st) : Nat) : Int) 0 = ((xenc (a :: st) : Nat) : Int) := zs7 el2
            have q8 : zor ((xenc (a :: st) : Nat) : Int) 1 = ((xenc (a :: st) - xenc (a :: st) % 2 + 1 : Nat) : Int) := zs8 el2
            have ea : xenc (a :: st) = 2 * xenc st + (if a = true then 1 else 0) := rfl
            have eb : xenc (b :: a :: st) = 2 * xenc (a :: st) + (if b = true then 1 else 0) := rfl
            have hb2 : xenc (b :: a :: st) / 2 = xenc (a :: st) := by rw [eb]; split <;> omega
            have hb1 : xenc (b :: a :: st) % 2 = if b = true then 1 else 0 := by rw [eb]; split <;> omega
            rw [hb2] at q5
            rw [hb1] at q4
            have c12 : c = 1 ∨ c = 2 := by omega
            rcases c12 with rfl | rfl
            · have key : ysT (xcs 1).1 (xcs 1).2.2 (f (xcs 1).2.1.toNat) (q1, (xenc (b :: a :: st) : Int)) = (q1, (xenc ((a && b) :: st) : Int)) := by
                show (q1, if zand (xenc (b :: a :: st) : Int) 1 ≠ 1 then zand (zshr (xenc (b :: a :: st) : Int) 1) (-2) else zshr (xenc (b :: a :: st) : Int) 1) = _
                rw [q4, q5, q6]
                cases b
                · rw [if_pos (by decide)]
                  congr 2
                  have e3 : xenc ((a && false) :: st) = 2 * xenc st + 0 := by cases a <;> rfl
                  rw [e3, ea]
                  split <;> omega
                · rw [if_neg (by decide)]
                  have e3 : (a && true) = a := by cases a <;> rfl
                  rw [e3]
              rw [key]
              exact ih ((a && b) :: st) q1 m hm (by rw [List.length_cons]; omega) hc'
            · have key : ysT (xcs 2).1 (xcs 2).2.2 (f (xcs 2).2.1.toNat) (q1, (xenc (b :: a :: st) : Int)) = (q1, (xenc ((a || b) :: st) : Int)) := by
                show (q1, zor (zshr (xenc (b :: a :: st) : Int) 1) (zand (xenc (b :: a :: st) : Int) 1)) = _
                rw [q4, q5]
                cases b
                · have e3 : (a || false) = a := by cases a <;> rfl
                  rw [e3]
                  show (q1, zor (xenc (a :: st) : Int) 0) = _
                  rw [q7]
                · show (q1, zor (xenc (a :: st) : Int) 1) = _
                  rw [q8]
                  congr 2
                  have e3 : xenc ((a || true) :: st) = 2 * xenc st + 1 := by cases a <;> rfl
                  rw [e3, ea]
                  split <;> omega
              rw [key]
              exact ih ((a || b) :: st) q1 m hm (by rw [List.length_cons]; omega) hc'
theorem xca1_r {e : Int × Int × List Int} (ok : xOKe e) : -99 ≤ xca1 f e ∧ xca1 f e ≤ 99 := by
  obtain ⟨o1, o2, o3, o4, o5, o6⟩ := ok
  unfold xca1
  split
  · split <;> omega
  · omega
theorem xsum_r (ok : ∀ e ∈ cl, xOKe e) : -(99 * (cl.length : Int)) ≤ xsum f cl ∧ xsum f cl ≤ 99 * (cl.length : Int) := by
  induction cl with
  | nil => exact ⟨Int.le_refl 0, Int.le_refl 0⟩
  | cons e cl ih =>
    have i1 := ih (fun e' q => ok e' (List.mem_cons_of_mem _ q))
    have i2 := xca1_r (f := f) (ok e List.mem_cons_self)
    have e1 : xsum f (e :: cl) = xca1 f e + xsum f cl := by unfold xsum; rw [List.map_cons, List.sum_cons]
    rw [e1, List.length_cons]
    omega
/-- all clauses, in the class -/
theorem ysL_cl : ∀ (cl : Cls) (q1 : Int), (∀ e ∈ cl, xOKe e) → -100000 ≤ q1 - 99 * (cl.length : Int) → q1 + 99 * (cl.length : Int) ≤ 100000 → ysL f (xst cl) (q1, 0) = (q1 + xsum f cl, 0) := by
  intro cl
  induction cl with
  | nil =>
    intro q1 _ _ _
    show (q1, (0 : Int)) = (q1 + 0, 0)
    rw [Int.add_zero]
  | cons e cl ih =>
    intro q1 ok r1 r2
    have oe := ok e List.mem_cons_self
    have i2 := xca1_r (f := f) oe
    obtain ⟨o1, o2, o3, o4, o5, o6⟩ := id oe
    rw [List.length_cons] at r1 r2
    have e1 : xsum f (e :: cl) = xca1 f e + xsum f cl := by unfold xsum; rw [List.map_cons, List.sum_cons]
    have e2 : xst (e :: cl) = xst1 e ++ xst cl := by unfold xst; rw [List.flatMap_cons]
    have key : ysL f (xst1 e) (q1, 0) = (q1 + xca1 f e, 0) := by
      unfold xst1
      by_cases c2 : e.1 < 2
      · rw [if_pos c2, ysL_app]
        obtain ⟨s1, s2, s3⟩ := ysL_codes (f := f) e.2.2 [] q1 1 (o5 c2) (by decide) o6
        have s1 : ysL f (e.2.2.map xcs) (q1, 0) = (q1, (xenc (xev f e.2.2 []) : Int)) := s1
        rw [s1]
        show ((if zand (xenc (xev f e.2.2 []) : Int) 1 ≠ 1 then zw (q1 + 0) else zw (q1 + (if e.1 = 0 then e.2.1 else -e.2.1)), (0 : Int))) = _
        have hx : xca1 f e = if xtop (xev f e.2.2 []) = true then (if e.1 = 0 then e.2.1 else -e.2.1) else 0 := by
          unfold xca1
          by_cases c4 : xtop (xev f e.2.2 []) = true
          · rw [if_pos ⟨c2, c4⟩, if_pos c4]
          · rw [if_neg (fun q => c4 q.2), if_neg c4]
        rw [hx]
        generalize xev f e.2.2 [] = t at s2
        cases t with
        | nil => cases s2
        | cons b t =>
          cases t with
          | cons b' t => rw [List.length_cons, List.length_cons] at s2; omega
          | nil =>
            cases b
            · have z1 : zand ((xenc [false] : Nat) : Int) 1 = 0 := by decide +kernel
              rw [z1, if_pos (by decide), zwi (by omega)]
              rfl
            · have z1 : zand ((xenc [true] : Nat) : Int) 1 = 1 := by decide +kernel
              rw [z1, if_neg (by decide)]
              show (zw (q1 + (if e.1 = 0 then e.2.1 else -e.2.1)), (0 : Int)) = (q1 + (if e.1 = 0 then e.2.1 else -e.2.1), 0)
              rw [zwi (by split <;> omega)]
      · rw [if_neg c2]
        have hx : xca1 f e = 0 := by unfold xca1; rw [if_neg (fun q => c2 q.1)]
        rw [hx, Int.add_zero]
        rfl
    rw [e2, ysL_app, key, ih _ (fun e' q => ok e' (List.mem_cons_of_mem _ q)) (by omega) (by omega), e1, Int.add_assoc]
theorem xF_sum (r : xCR h s cl) (ok : ∀ e ∈ cl, xOKe e) (hl : cl.length ≤ 10) : ysharp (zV h) s f = xsum f cl := by
  obtain ⟨r1, r2, r3, r4⟩ := r
  unfold ysharp
  have e : (zV h s 3).toNat = (xst cl).length := by rw [r1]; exact Int.toNat_natCast _
  rw [e, yshR_L (xst cl) 0 (0, 0) (fun i e hi => by rw [Nat.zero_add]; exact r4 i e hi)]
  rw [ysL_cl cl 0 ok (by omega) (by omega), Int.zero_add]
end XSH2
