/-! THE MODEL READS A SHOP'S TEXT -/
def xMe (q b k : Nat) : Prop := (b = 137 ∧ (k = 11 ∨ k = 12 ∨ k = 13 ∨ k = 14 ∨ k = 23)) ∨ (b = 150 ∧ q ≤ k)
def xM0 (h0 : Hp) (T : Nat → Int) (n W : Nat) : Prop := zV h0 137 9 = (n : Int) ∧ n ≤ 100 ∧ (∀ k, k < 100 → zV h0 144 k = T k ∧ 0 ≤ T k ∧ T k ≤ 127) ∧ W ≤ 500 ∧ yB h0
def xMP (zl : Nat) (nl : Option Nat) (h0 : Hp) (n q0 W : Nat) (h : Hp) (p a : Nat) (o : Int) (C : List Int) : Prop :=
  yWF zl nl h ∧ Fr (xMe q0) h0 h ∧ zV h 137 11 = (p : Int) ∧ p ≤ n ∧ q0 + C.length + a ≤ W + p ∧ zV h 137 14 = o ∧ zV h 137 23 = ((q0 + C.length : Nat) : Int) ∧ ∀ (t : Nat) (c : Int), C[t]? = some c → zV h 150 (q0 + t) = c
def xMJ (zl : Nat) (nl : Option Nat) (h0 : Hp) (n q0 W d z : Nat) (o : Int) (P : Nat → PR) : Prop := ∀ (h : Hp) (p a : Nat) (C : List Int) (K : Int → Hp → Prop), xMP zl nl h0 n q0 W h p a o C → (∀ q b h', P p = (q, some b) → xMP zl nl h0 n q0 W h' q a o (C ++ b) → K 1 h') → (∀ q (o' : Int) C' h', P p = (q, none) → xMP zl nl h0 n q0 W h' q a o' C' → K 0 h') → yI d z [vR (some 137)] h K
/-- where a sign first stands -/
def zix (x : Int) : List Int → Nat → Int
  | [], _ => -1
  | c :: cs, i => if c = x then (i : Int) else zix x cs (i + 1)
theorem zi8_b : ∀ x : Fin 128, ((zi ((x.val : Nat) : Int)).toInt8.toInt32.toInt) = ((x.val : Nat) : Int) := by decide +kernel
theorem zix_let (x : Int) : zix x [112, 107, 118, 105, 98, 121] 0 = ylet x := by
  unfold ylet
  simp only [zix]
  omega
theorem zix_rel (x : Int) : zix x [60, 61, 62] 0 = (if yrel x = -1 then -1 else yrel x - 1) := by
  unfold yrel
  simp only [zix]
  omega
section XML
variable {zl : Nat} {nl : Option Nat} {h0 h h' : Hp} {d : Nat} {K : Int → Hp → Prop} {U : Hp → Prop} {T : Nat → Int} {n q0 W p q r m a k b i : Nat} {o : Int} {C : List Int} {P : Nat → PR} {x y z v g : Int}
theorem st172 (w : yWF zl nl h) (hb : yStr b m) (bb : yB h) (k : K (zix x (zbvT.getD (b + 1) []) 0) h) (l1 l2 : Int) : ∀ (ws : List Int) (i : Nat), i + ws.length = m → (∀ j, j < ws.length → ws.getD j 0 = (zbvT.getD (b + 1) []).getD (i + j) 0) → zix x (zbvT.getD (b + 1) []) 0 = zix x ws i → ZW d prog_15_method_23_code 11 7 [some (vR (some (b + 1))), some (vI l1), some (vI l2), some (vI (m : Int)), some (vI x), some (vI (i : Int))] [] h (yq 1 (yqI K))
  | [], i, hi, hw, e => by
    have hi : i = m := hi
    rw [e] at k
    exact W172_7 w hb ⟨fun _ => k, fun q => by omega⟩
  | c :: ws, i, hi, hw, e => by
    have hi : i + (ws.length + 1) = m := hi
    have r := yStr_r hb
    have hc : c = (zbvT.getD (b + 1) []).getD i 0 := hw 0 (Nat.zero_lt_succ _)
    have hv : zV h (b + 1) ((i : Int)).toNat = c := by rw [hc, show ((i : Int)).toNat = i by omega]; exact bb (b + 1) (by omega) (by omega) i
    have e : zix x (zbvT.getD (b + 1) []) 0 = (if c = x then (i : Int) else zix x ws (i + 1)) := e
    refine W172_7 w hb ⟨fun q => by omega, fun _ => ⟨by omega, ?_⟩⟩
    rw [hv]
    refine ⟨fun q => ?_, fun q => ?_⟩
    · rw [if_neg q] at e
      rw [zwi (by omega)]
      refine st172 w hb bb k l1 l2 ws (i + 1) (by omega) (fun j hj => ?_) e
      have t := hw (j + 1) (Nat.succ_lt_succ hj)
      rw [show i + (j + 1) = i + 1 + j by omega] at t
      exact t
    · rw [if_pos (Classical.byContradiction q)] at e
      rw [e] at k
      exact k
/-- indexOf -/
theorem st167 (w : yWF zl nl h) (hd : 6 ≤ d) {ws : List Int} (hb : yStr b ws.length) (hw : zbvT.getD (b + 1) [] = ws) (bb : yB h) (hx : 1 ≤ x ∧ x ≤ 127) (h0 : 0 < ws.length) (k : K (zix x ws 0) h) : yI d 167 [vR (some b), vI x] h K := by
  have z := yStr_0 hb bb
  have r := yStr_r hb
  have m1 : ymax 0 0 = 0 := by unfold ymax; split <;> rfl
  have m2 : ymin (ws.length : Int) (ws.length : Int) = (ws.length : Int) := by unfold ymin; split <;> rfl
  have x8 : ((zi x).toInt8.toInt32.toInt) = x := by
    have q := zi8_b ⟨x.toNat, by omega⟩
    rw [show (((⟨x.toNat, by omega⟩ : Fin 128).val : Nat) : Int) = x by show ((x.toNat : Nat) : Int) = x; omega] at q
    exact q
  refine E167 w hb (by omega) (E168 w hb (by omega) (E55 w hb ⟨fun q => absurd z q, fun _ => W168_4 w hb (by omega) ⟨fun q => absurd q (by decide), fun _ => st52 w (by omega) hb bb (W168_17 w hb (by omega) (E169 w hb (by omega) (E170 w ⟨fun q => by omega, fun _ => ⟨fun q => by omega, fun _ => W169_4 w hb (by omega) ⟨fun _ => ⟨fun _ => ?_, fun q => ?_⟩, fun q => absurd (by decide) q⟩⟩⟩)))⟩⟩))
  · rw [m1, m2]
    refine E172 w hb ?_
    rw [x8]
    refine st172 w hb bb ?_ x 0 ws 0 (by omega) (fun j _ => by rw [hw, Nat.zero_add]) (by rw [hw])
    rw [hw]
    exact W169_36 w hb (W168_20 w hb (W167_6 w hb k))
  · rw [m1, m2] at q
    exact absurd (by omega) q
theorem xMP.w (c : xMP zl nl h0 n q0 W h p a o C) : yWF zl nl h := c.1
theorem xMP.pl (c : xMP zl nl h0 n q0 W h p a o C) : zV h 137 11 = (p : Int) := c.2.2.1
theorem xMP.pn (c : xMP zl nl h0 n q0 W h p a o C) : p ≤ n := c.2.2.2.1
theorem xMP.sl (c : xMP zl nl h0 n q0 W h p a o C) : q0 + C.length + a ≤ W + p := c.2.2.2.2.1
theorem xMP.op (c : xMP zl nl h0 n q0 W h p a o C) : zV h 137 14 = o := c.2.2.2.2.2.1
theorem xMP.co (c : xMP zl nl h0 n q0 W h p a o C) : zV h 137 23 = ((q0 + C.length : Nat) : Int) := c.2.2.2.2.2.2.1
theorem xMP.len (c : xMP zl nl h0 n q0 W h p a o C) (c0 : xM0 h0 T n W) : zV h 137 9 = (n : Int) := by
  rw [c.2.1.V 137 9 (by unfold xMe; omega)]
  exact c0.1
theorem xMP.tx (c : xMP zl nl h0 n q0 W h p a o C) (c0 : xM0 h0 T n W) (hp : p < n) : zV h 144 ((p : Int)).toNat = T p ∧ 0 ≤ T p ∧ T p ≤ 127 := by
  have q := c0.2.2.1 p (by have := c0.2.1; omega)
  rw [show ((p : Int)).toNat = p by omega, c.2.1.V 144 p (by unfold xMe; omega)]
  exact q
theorem xMP.B (c : xMP zl nl h0 n q0 W h p a o C) (c0 : xM0 h0 T n W) : yB h := c.2.1.B c0.2.2.2.2 (fun b k q => by unfold xMe; omega)
theorem xMP.le (c : xMP zl nl h0 n q0 W h p a o C) (hb : b ≤ a) : xMP zl nl h0 n q0 W h p b o C := by
  obtain ⟨c1, c2, c3, c4, c5, c6, c7, c8⟩ := c
  exact ⟨c1, c2, c3, c4, by omega, c6, c7, c8⟩
theorem xMP.s11 (c : xMP zl nl h0 n q0 W h p a o C) (hq : q ≤ n) (hl : q0 + C.length + b ≤ W + q) (hy : y = (q : Int)) : xMP zl nl h0 n q0 W (zsetV h 137 11 y) q b o C := by
  obtain ⟨c1, c2, c3, c4, c5, c6, c7, c8⟩ := c
  refine ⟨yWFV c1, c2.trans (Fr.set (Or.inl ⟨rfl, Or.inl rfl⟩)), by rw [zV_V, if_pos ⟨rfl, rfl⟩]; exact hy, hq, hl, by rw [zV_V, if_neg (by decide)]; exact c6, by rw [zV_V, if_neg (by decide)]; exact c7, fun t u ht => ?_⟩
  rw [zV_V, if_neg (by omega)]
  exact c8 t u ht
theorem xMP.s12 (c : xMP zl nl h0 n q0 W h p a o C) (hk : k = 12 ∨ k = 13) : xMP zl nl h0 n q0 W (zsetV h 137 k y) p a o C := by
  obtain ⟨c1, c2, c3, c4, c5, c6, c7, c8⟩ := c
  refine ⟨yWFV c1, c2.trans (Fr.set (Or.inl ⟨rfl, by omega⟩)), by rw [zV_V, if_neg (by omega)]; exact c3, c4, c5, by rw [zV_V, if_neg (by omega)]; exact c6, by rw [zV_V, if_neg (by omega)]; exact c7, fun t u ht => ?_⟩
  rw [zV_V, if_neg (by omega)]
  exact c8 t u ht
theorem xMP.s14 (c : xMP zl nl h0 n q0 W h p a o C) : xMP zl nl h0 n q0 W (zsetV h 137 14 y) p a y C := by
  obtain ⟨c1, c2, c3, c4, c5, c6, c7, c8⟩ := c
  refine ⟨yWFV c1, c2.trans (Fr.set (Or.inl ⟨rfl, Or.inr (Or.inr (Or.inr (Or.inl rfl)))⟩)), by rw [zV_V, if_neg (by decide)]; exact c3, c4, c5, by rw [zV_V, if_pos ⟨rfl, rfl⟩], by rw [zV_V, if_neg (by decide)]; exact c7, fun t u ht => ?_⟩
  rw [zV_V, if_neg (by omega)]
  exact c8 t u ht
/-- is -/
theorem cm158 (c0 : xM0 h0 T n W) (c : xMP zl nl h0 n q0 W h p a o C) (k1 : ptk T n p x = true → ∀ h', xMP zl nl h0 n q0 W h' (p + 1) (a + 1) o C → K 1 h') (k0 : ptk T n p x = false → K 0 h) : yI d 158 [vR (some 137), vI x] h K := by
  have hn := c0.2.1
  have hl := c.len c0
  have hs := c.sl
  have hp := c.pl
  have hpn := c.pn
  refine E158 c.w ⟨fun e => k0 (decide_eq_false (by omega)), fun e => ?_⟩
  have t := c.tx c0 (by omega)
  rw [hp, t.1]
  refine ⟨by omega, fun f => ?_, fun f => k0 (decide_eq_false (by omega))⟩
  exact k1 (decide_eq_true (by omega)) _ (c.s11 (by omega) (by omega) (by rw [zwi (by omega)]; omega))
/-- isDigit -/
theorem cm160 (c0 : xM0 h0 T n W) (c : xMP zl nl h0 n q0 W h p a o C) (k1 : pdg T n p = true → K 1 h) (k0 : pdg T n p = false → K 0 h) : yI d 160 [vR (some 137)] h K := by
  have hn := c0.2.1
  have hl := c.len c0
  have hp := c.pl
  have hpn := c.pn
  refine E160 c.w ⟨fun e => k0 (decide_eq_false (by omega)), fun e => ?_⟩
  have t := c.tx c0 (by omega)
  rw [hp, t.1]
  exact ⟨by omega, fun f => k0 (decide_eq_false (by omega)), fun f => ⟨by omega, fun g => k0 (decide_eq_false (by omega)), fun g => k1 (decide_eq_true (by omega))⟩⟩
/-- isNumber -/
theorem cm159 (c0 : xM0 h0 T n W) (hd : 2 ≤ d) (c : xMP zl nl h0 n q0 W h p a o C) (k1 : ∀ q v h', pnum T n p = (q, some v) → xMP zl nl h0 n q0 W h' q (a + 1) o C → zV h' 137 12 = v → K 1 h') (k0 : ∀ h', pnum T n p = (p, none) → xMP zl nl h0 n q0 W h' p a o C → K 0 h') : yI d 159 [vR (some 137)] h K := by
  have hn := c0.2.1
  refine E159 c.w fun h1 e1 => ?_
  have c1 : xMP zl nl h0 n q0 W h1 p a o C := by rw [← e1]; exact (c.s12 (Or.inl rfl)).s12 (Or.inr rfl)
  have v1 : zV h1 137 12 = 0 := by rw [← e1, zV_V, if_neg (by decide), zV_V, if_pos ⟨rfl, rfl⟩]
  have w1 : zV h1 137 13 = 0 := by rw [← e1, zV_V, if_pos ⟨rfl, rfl⟩]
  clear e1 c
  have hs := c1.sl
  have hp := c1.pl
  refine W159_10 c1.w (by omega) ⟨fun q => by omega, fun _ => cm160 c0 c1 (fun d1 => ?_) (fun d1 => ?_)⟩
  · have t := of_decide_eq_true d1
    have tx := c1.tx c0 t.1
    refine W159_22 c1.w ⟨fun q => absurd q (by decide), fun _ => ?_⟩
    rw [hp, tx.1, v1]
    refine ⟨by omega, fun h2 e2 => ?_⟩
    rw [zwi (x := 10 * 0) (by decide), zwi (x := 10 * 0 + T p) (by omega), zwi (x := 10 * 0 + T p - 48) (by omega)] at e2
    have b2 : xMP zl nl h0 n q0 W h2 (p + 1) (a + 1) o C := by
      rw [← e2]
      exact (c1.s12 (Or.inl rfl)).s11 (by omega) (by omega) (by rw [(c1.s12 (Or.inl rfl)).pl, zwi (by omega)]; omega)
    have v2 : zV h2 137 12 = T p - 48 := by rw [← e2, zV_V, if_neg (by decide), zV_V, if_pos ⟨rfl, rfl⟩]; omega
    have w2 : zV h2 137 13 = 0 := by rw [← e2, zV_V, if_neg (by decide), zV_V, if_neg (by decide)]; exact w1
    rw [w2, zwi (by decide)]
    have c2 : xMP zl nl h0 n q0 W (zsetV h2 137 13 (0 + 1)) (p + 1) (a + 1) o C := b2.s12 (Or.inr rfl)
    have v3 : zV (zsetV h2 137 13 (0 + 1)) 137 12 = T p - 48 := by rw [zV_V, if_neg (by decide)]; exact v2
    have w3 : zV (zsetV h2 137 13 (0 + 1)) 137 13 = 1 := by rw [zV_V, if_pos ⟨rfl, rfl⟩]; rfl
    generalize zsetV h2 137 13 (0 + 1) = h3 at c2 v3 w3 ⊢
    clear e2 b2 v2 w2
    have hp2 := c2.pl
    have hs2 := c2.sl
    refine W159_10 c2.w (by omega) ⟨fun q => by omega, fun _ => cm160 c0 c2 (fun d2 => ?_) (fun d2 => ?_)⟩
    · have t2 := of_decide_eq_true d2
      have tx2 := c2.tx c0 t2.1
      refine W159_22 c2.w ⟨fun q => absurd q (by decide), fun _ => ?_⟩
      rw [hp2, tx2.1, v3]
      refine ⟨by omega, fun h4 e4 => ?_⟩
      rw [zwi (x := 10 * (T p - 48)) (by omega), zwi (x := 10 * (T p - 48) + T (p + 1)) (by omega), zwi (x := 10 * (T p - 48) + T (p + 1) - 48) (by omega)] at e4
      have b4 : xMP zl nl h0 n q0 W h4 (p + 1 + 1) (a + 1) o C := by
        rw [← e4]
        exact (c2.s12 (Or.inl rfl)).s11 (by omega) (by omega) (by rw [(c2.s12 (Or.inl rfl)).pl, zwi (by omega)]; omega)
      have v4 : zV h4 137 12 = 10 * (T p - 48) + (T (p + 1) - 48) := by rw [← e4, zV_V, if_neg (by decide), zV_V, if_pos ⟨rfl, rfl⟩]; omega
      have w4 : zV h4 137 13 = 1 := by rw [← e4, zV_V, if_neg (by decide), zV_V, if_neg (by decide)]; exact w3
      rw [w4, zwi (by decide)]
      have c4 : xMP zl nl h0 n q0 W (zsetV h4 137 13 (1 + 1)) (p + 1 + 1) (a + 1) o C := b4.s12 (Or.inr rfl)
      have v5 : zV (zsetV h4 137 13 (1 + 1)) 137 12 = 10 * (T p - 48) + (T (p + 1) - 48) := by rw [zV_V, if_neg (by decide)]; exact v4
      have w5 : zV (zsetV h4 137 13 (1 + 1)) 137 13 = 2 := by rw [zV_V, if_pos ⟨rfl, rfl⟩]; rfl
      generalize zsetV h4 137 13 (1 + 1) = h5 at c4 v5 w5 ⊢
      clear e4 b4 v4 w4
      refine W159_10 c4.w (by omega) ⟨fun _ => ⟨fun q => by omega, fun _ => k1 _ _ h5 (by unfold pnum; rw [if_pos d1, if_pos d2]) c4 v5⟩, fun q => by omega⟩
    · exact W159_22 c2.w ⟨fun _ => ⟨fun q => by omega, fun _ => k1 _ _ h3 (by unfold pnum; rw [if_pos d1, if_neg (by rw [d2]; decide)]) c2 v3⟩, fun q => absurd rfl q⟩
  · exact W159_22 c1.w ⟨fun _ => ⟨fun _ => k0 h1 (by unfold pnum; rw [if_neg (by rw [d1]; decide)]) c1, fun q => by omega⟩, fun q => absurd rfl q⟩
/-- codes -/
theorem cm165 (c0 : xM0 h0 T n W) (c : xMP zl nl h0 n q0 W h p (a + 1) o C) (k : ∀ h', xMP zl nl h0 n q0 W h' p a o (C ++ [x]) → K 1 h') : yI d 165 [vR (some 137), vI x] h K := by
  have hn := c0.2.1
  have hW := c0.2.2.2.1
  obtain ⟨c1, c2, c3, c4, c5, c6, c7, c8⟩ := c
  refine E165 c1 ?_
  rw [c7, show (((q0 + C.length : Nat) : Int)).toNat = q0 + C.length by omega]
  refine ⟨by omega, fun h2 e2 => k h2 ?_⟩
  rw [zwi (by omega)] at e2
  have hv : ∀ b k, zV h2 b k = if b = 150 ∧ k = q0 + C.length then x else if b = 137 ∧ k = 23 then ((q0 + C.length : Nat) : Int) + 1 else zV h b k := fun b k => by rw [← e2, zV_V, zV_V]
  refine ⟨by rw [← e2]; exact yWFV (yWFV c1), by rw [← e2]; exact c2.trans ((Fr.set (Or.inl ⟨rfl, Or.inr (Or.inr (Or.inr (Or.inr rfl)))⟩)).trans (Fr.set (Or.inr ⟨rfl, by omega⟩))), by rw [hv, if_neg (by omega), if_neg (by omega)]; exact c3, c4, by rw [List.length_append]; show q0 + (C.length + 1) + a ≤ W + p; omega, by rw [hv, if_neg (by omega), if_neg (by omega)]; exact c6, by rw [hv, if_neg (by omega), if_pos ⟨rfl, rfl⟩, List.length_append]; show _ = ((q0 + (C.length + 1) : Nat) : Int); omega, fun t u ht => ?_⟩
  rcases Nat.lt_or_ge t C.length with hi | hi
  · rw [List.getElem?_append_left hi] at ht
    rw [hv, if_neg (by omega), if_neg (by omega)]
    exact c8 t u ht
  · rw [List.getElem?_append_right hi] at ht
    have h1 : t = C.length := by
      rcases Nat.eq_zero_or_pos (t - C.length) with q | q
      · omega
      · obtain ⟨j, hj⟩ : ∃ j, t - C.length = j + 1 := ⟨t - C.length - 1, by omega⟩
        rw [hj] at ht
        cases ht
    subst h1
    rw [Nat.sub_self] at ht
    cases ht
    rw [hv, if_pos ⟨rfl, rfl⟩]
/-- isOpened -/
theorem cm164 (c0 : xM0 h0 T n W) (hd : 2 ≤ d) (ho : 0 ≤ o ∧ o ≤ 4) (c : xMP zl nl h0 n q0 W h p a o C) (k1 : o < 4 → ptk T n p x = true → ∀ h', xMP zl nl h0 n q0 W h' (p + 1) (a + 1) (o + 1) C → K 1 h') (k0 : o = 4 ∨ ptk T n p x = false → K 0 h) : yI d 164 [vR (some 137), vI x] h K := by
  have hop := c.op
  refine E164 c.w (by omega) ⟨fun e => k0 (Or.inl (by omega)), fun e => cm158 c0 c (fun t h2 c2 => ?_) (fun t => ?_)⟩
  · have hop2 := c2.op
    refine W164_13 c2.w ⟨fun _ => k1 (by omega) t _ (by rw [hop2, zwi (by omega)]; exact c2.s14), fun q => absurd (by decide) q⟩
  · exact W164_13 c.w ⟨fun q => absurd rfl q, fun _ => k0 (Or.inr t)⟩
end XML
