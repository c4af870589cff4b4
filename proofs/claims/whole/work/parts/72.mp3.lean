/-! THE MODEL: words, clauses, the whole text -/
def xMm (sh W b k : Nat) : Prop := (b = 137 ∧ (k = 11 ∨ k = 12 ∨ k = 13 ∨ k = 14 ∨ k = 23)) ∨ (146 ≤ b ∧ b ≤ 149 ∧ 10 * sh ≤ k) ∨ (b = 150 ∧ W ≤ k)
def xMRo (h : Hp) (i : Nat) (Q : Nat) (e : Int × Int × List Int) : Prop := zV h 146 i = e.1 ∧ zV h 147 i = e.2.1 ∧ zV h 149 i = (e.2.2.length : Int) ∧ ∃ B : Nat, zV h 148 i = (B : Int) ∧ B + e.2.2.length ≤ Q ∧ ∀ (t : Nat) (c : Int), e.2.2[t]? = some c → zV h 150 (B + t) = c
def xMT (zl : Nat) (nl : Option Nat) (h0 : Hp) (n sh W : Nat) (h : Hp) (p a : Nat) (cl : Cls) : Prop :=
  yWF zl nl h ∧ Fr (xMm sh W) h0 h ∧ zV h 137 11 = (p : Int) ∧ p ≤ n ∧ cl.length ≤ 10 ∧ ∃ Q : Nat, zV h 137 23 = (Q : Int) ∧ W ≤ Q ∧ Q + a ≤ W + p ∧ ∀ (i : Nat) (e : Int × Int × List Int), cl[i]? = some e → xMRo h (10 * sh + i) Q e
def xMF (zl : Nat) (nl : Option Nat) (h0 : Hp) (n sh W : Nat) (h : Hp) (q : Nat) : Prop := yWF zl nl h ∧ Fr (xMm sh W) h0 h ∧ zV h 137 11 = (q : Int) ∧ q ≤ n
def xMc (Q i b k : Nat) : Prop := xMe Q b k ∨ (146 ≤ b ∧ b ≤ 149 ∧ k = i)
section XML3
variable {zl : Nat} {nl : Option Nat} {h0 h h' h5 : Hp} {d : Nat} {K : Int → Hp → Prop} {U : Hp → Prop} {T : Nat → Int} {n q0 W p q r m a k b i sh Q u : Nat} {o : Int} {C : List Int} {P : Nat → PR} {x y z v g w : Int} {cl : Cls}
theorem cm157_loop (c0 : xM0 h0 T n W) (hd : 6 ≤ d) (hb : yStr b m) : ∀ (ws : List Int) (i : Nat) (h : Hp) (p : Nat) (K : Int → Hp → Prop), i + ws.length = m → (∀ j, j < ws.length → ws.getD j 0 = (zbvT.getD (b + 1) []).getD (i + j) 0) → xMP zl nl h0 n q0 W h p a o C → (∀ q h', pwrd T n ws p = (q, true) → xMP zl nl h0 n q0 W h' q a o C → K 1 h') → (∀ q h', pwrd T n ws p = (q, false) → xMP zl nl h0 n q0 W h' q a o C → K 0 h') → ZW d prog_10_method_15_code 8 2 [some (vR (some 137)), some (vR (some b)), some (vI (i : Int))] [] h (yq 2 (yqI K))
  | [], i, h, p, K, hi, hw, c, k1, k0 => by
    have hi : i = m := hi
    exact W157_2 c.w hb (by omega) (st52 c.w (by omega) hb (c.B c0) (W157_7 c.w hb (by omega) ⟨fun _ => k1 p h rfl c, fun q => absurd (by omega) q⟩))
  | x :: ws, i, h, p, K, hi, hw, c, k1, k0 => by
    have hi : i + (ws.length + 1) = m := hi
    have r := yStr_r hb
    have hx : x = (zbvT.getD (b + 1) []).getD i 0 := hw 0 (Nat.zero_lt_succ _)
    refine W157_2 c.w hb (by omega) (st52 c.w (by omega) hb (c.B c0) (W157_7 c.w hb (by omega) ⟨fun q => by omega, fun _ => st54 c.w (by omega) hb (c.B c0) (by omega) ?_⟩))
    rw [← hx]
    refine W157_16 c.w hb (by omega) (cm158 c0 c (fun e h2 c2 => ?_) (fun e => ?_))
    · refine W157_19 c2.w hb ⟨fun _ => ?_, fun q => absurd (by decide) q⟩
      rw [zwi (by omega)]
      refine cm157_loop c0 hd hb ws (i + 1) h2 (p + 1) K (by omega) (fun j hj => ?_) (c2.le (by omega)) (fun q h3 e3 c3 => k1 q h3 ?_ c3) (fun q h3 e3 c3 => k0 q h3 ?_ c3)
      · have t := hw (j + 1) (Nat.succ_lt_succ hj)
        rw [show i + (j + 1) = i + 1 + j by omega] at t
        exact t
      · show (if ptk T n p x = true then _ else _) = _
        rw [if_pos e]; exact e3
      · show (if ptk T n p x = true then _ else _) = _
        rw [if_pos e]; exact e3
    · refine W157_19 c.w hb ⟨fun q => absurd rfl q, fun _ => k0 p h ?_ c⟩
      show (if ptk T n p x = true then _ else _) = _
      rw [if_neg (by rw [e]; decide)]
theorem cm157 (c0 : xM0 h0 T n W) (hd : 6 ≤ d) {ws : List Int} (hb : yStr b ws.length) (hw : zbvT.getD (b + 1) [] = ws) (c : xMP zl nl h0 n q0 W h p a o C) (k1 : ∀ q h', pwrd T n ws p = (q, true) → xMP zl nl h0 n q0 W h' q a o C → K 1 h') (k0 : ∀ q h', pwrd T n ws p = (q, false) → xMP zl nl h0 n q0 W h' q a o C → K 0 h') : yI d 157 [vR (some 137), vR (some b)] h K :=
  E157 c.w hb (cm157_loop c0 hd hb ws 0 h p K (by omega) (fun j _ => by rw [hw, Nat.zero_add]) c k1 k0)
theorem xMRo_fr (hW : W ≤ Q) (f : Fr (xMc Q (10 * sh + r)) h h5) {e : Int × Int × List Int} (hi : i < r) (hQ : Q ≤ u) (ro : xMRo h (10 * sh + i) Q e) : xMRo h5 (10 * sh + i) u e := by
  obtain ⟨r1, r2, r3, B, r4, r5, r6⟩ := ro
  unfold xMRo
  rw [f.V 146 _ (by unfold xMc xMe; omega), f.V 147 _ (by unfold xMc xMe; omega), f.V 149 _ (by unfold xMc xMe; omega), f.V 148 _ (by unfold xMc xMe; omega)]
  refine ⟨r1, r2, r3, B, r4, by omega, fun t c ht => ?_⟩
  have lt : t < e.2.2.length := by
    rcases Nat.lt_or_ge t e.2.2.length with q | q
    · exact q
    · rw [List.getElem?_eq_none q] at ht; cases ht
  rw [f.V 150 _ (by unfold xMc xMe; omega)]
  exact r6 t c ht
/-- the clause is noted -/
theorem cmfin (c : xMT zl nl h0 n sh W h p a cl) (hQ : zV h 137 23 = (Q : Int)) (hc : cl.length < 10) (w5 : yWF zl nl h5) (f5 : Fr (xMc Q (10 * sh + cl.length)) h h5) (e8 : zV h5 146 (10 * sh + cl.length) = w) (e9 : zV h5 147 (10 * sh + cl.length) = v) (e0 : zV h5 148 (10 * sh + cl.length) = (Q : Int)) (e1 : zV h5 149 (10 * sh + cl.length) = (C.length : Int)) (ec : ∀ (t : Nat) (c : Int), C[t]? = some c → zV h5 150 (Q + t) = c) (ep : zV h5 137 11 = (u : Int)) (hu : u ≤ n) (eq : zV h5 137 23 = ((Q + C.length : Nat) : Int)) (hl : Q + C.length + a ≤ W + u) : xMT zl nl h0 n sh W h5 u a (cl ++ [(w, v, C)]) := by
  obtain ⟨c1, c2, c3, c4, c5, Q', c6, c7, c8, c9⟩ := c
  have hq : Q' = Q := by omega
  subst hq
  refine ⟨w5, c2.trans (f5.mono fun b k q => ?_), ep, hu, by rw [List.length_append]; show cl.length + 1 ≤ 10; omega, Q' + C.length, eq, by omega, hl, fun i e he => ?_⟩
  · unfold xMc xMe at q
    unfold xMm
    omega
  · rcases Nat.lt_or_ge i cl.length with hi | hi
    · rw [List.getElem?_append_left hi] at he
      exact xMRo_fr c7 f5 hi (by omega) (c9 i e he)
    · rw [List.getElem?_append_right hi] at he
      have h1 : i = cl.length := by
        rcases Nat.eq_zero_or_pos (i - cl.length) with q | q
        · omega
        · obtain ⟨j, hj⟩ : ∃ j, i - cl.length = j + 1 := ⟨i - cl.length - 1, by omega⟩
          rw [hj] at he
          cases he
      subst h1
      rw [Nat.sub_self] at he
      cases he
      exact ⟨e8, e9, e1, Q', e0, Nat.le_refl _, ec⟩
theorem xMT.fail (c : xMT zl nl h0 n sh W h p a cl) (hQ : zV h 137 23 = (Q : Int)) (c5 : xMP zl nl h n Q W h5 q b o C) : xMF zl nl h0 n sh W h5 q := by
  obtain ⟨c1, c2, c3, c4, c5', Q', c6, c7, c8, c9⟩ := c
  refine ⟨c5.w, c2.trans (c5.2.1.mono fun b k q => ?_), c5.pl, c5.pn⟩
  unfold xMe at q
  unfold xMm
  omega
end XML3
