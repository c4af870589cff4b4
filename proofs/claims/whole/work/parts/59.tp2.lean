/-! TAPES: judge, tape, item, read, shift -/
section XTB
variable {zl : Nat} {nl : Option Nat} {xs : Nat → Int} {h h' h1 h2 h3 H : Hp} {d : Nat} {K : Int → Hp → Prop} {KJ : Int64 → Hp → Prop} {U : Hp → Prop} {a n s b j k i m o : Nat} {x y z t u B : Int} {v p q : Int64} {M : Nat → Nat → Prop} {σ τ : Vw} {V : Nat → Nat → Int} {J : Nat → Nat → Int64} {P : Nat → Prop}
theorem xju_0 {i n : Int} : xju P i n 0 k = -5 := rfl
theorem xju_t {i n : Int} (c : 0 ≤ i ∧ i + k < n) (c2 : P k) : xju P i n (m + 1) k = xju P i n m (k + 1) := by
  show (if 0 ≤ i ∧ i + k < n then @ite _ (P k) (Classical.propDecidable _) (xju P i n m (k + 1)) (k : Int) else 100 + k) = _
  rw [if_pos c, if_pos c2]
theorem xju_f {i n : Int} (c : 0 ≤ i ∧ i + k < n) (c2 : ¬ P k) : xju P i n (m + 1) k = k := by
  show (if 0 ≤ i ∧ i + k < n then @ite _ (P k) (Classical.propDecidable _) (xju P i n m (k + 1)) (k : Int) else 100 + k) = _
  rw [if_pos c, if_neg c2]
theorem xju_e {i n : Int} (c : ¬ (0 ≤ i ∧ i + k < n)) : xju P i n (m + 1) k = 100 + k := by
  show (if 0 ≤ i ∧ i + k < n then @ite _ (P k) (Classical.propDecidable _) (xju P i n m (k + 1)) (k : Int) else 100 + k) = _
  rw [if_neg c]
theorem lc_eq : (lg_cmp p q).toInt = 0 ↔ p = q := by
  have e0 : (0 : Int32).toInt = 0 := rfl
  rw [← lg_cmp_eq]
  constructor
  · intro r
    exact Int32.toInt_inj.1 (by rw [r]; rfl)
  · intro r
    rw [r]
    rfl
theorem lc_lt : (lg_cmp p q).toInt < 0 ↔ p < q := by
  rw [← lg_cmp_lt, Int32.lt_iff_toInt_lt]
  rfl
theorem lc_gt : 0 < (lg_cmp p q).toInt ↔ q < p := by
  rw [← lg_cmp_gt, Int32.lt_iff_toInt_lt]
  rfl
theorem lc_le : (lg_cmp p q).toInt ≤ 0 ↔ p ≤ q := by
  rw [← lg_cmp_le, Int32.le_iff_toInt_le]
  rfl
theorem j64_add {a b : Int} (ha : zr a) (hb : zr b) : ((zi a).toInt64 + (zi b).toInt64).toInt = a + b := by
  have h1 : -2147483648 ≤ a ∧ a < 2147483648 := ha
  have h2 : -2147483648 ≤ b ∧ b < 2147483648 := hb
  rw [Int64.toInt_add, Int32.toInt_toInt64, Int32.toInt_toInt64, zi_toInt ha, zi_toInt hb, bm64 (by omega)]
theorem j64_n {a : Int} (ha : zr a) : ((zi a).toInt64).toInt = a := j64_toInt ha
theorem jad_lt {a b c : Int} (ha : zr a) (hb : zr b) (hc : zr c) : (lg_cmp ((zi a).toInt64 + (zi b).toInt64) ((zi c).toInt64)).toInt < 0 ↔ a + b < c := by
  rw [lc_lt, Int64.lt_iff_toInt_lt, j64_add ha hb, j64_n hc]
theorem jad_gt {a b c : Int} (ha : zr a) (hb : zr b) (hc : zr c) : 0 < (lg_cmp ((zi a).toInt64 + (zi b).toInt64) ((zi c).toInt64)).toInt ↔ c < a + b := by
  rw [lc_gt, Int64.lt_iff_toInt_lt, j64_add ha hb, j64_n hc]
theorem jad_le {a b c : Int} (ha : zr a) (hb : zr b) (hc : zr c) : (lg_cmp ((zi a).toInt64 + (zi b).toInt64) ((zi c).toInt64)).toInt ≤ 0 ↔ a + b ≤ c := by
  rw [lc_le, Int64.le_iff_toInt_le, j64_add ha hb, j64_n hc]
/-- judge -/
theorem cp102_loop (w : yWF zl nl h) (hd : 1 ≤ d) (ha : yTp a) {l1 : Int} {nt n : Int} (hnt : 0 < nt ∧ nt ≤ 8) (hn : 0 ≤ n ∧ n ≤ 60) (hy : 0 ≤ y ∧ y < n) (T : Nat → Int) (eT : ∀ k : Nat, k < 8 → zV h 41 (4 * k) = T k) : ∀ (m i : Nat), (i : Int) + m = ymin nt (n - y) → K (xju (fun k => zJ h (a + 1) (y.toNat + k) = (zi (T k)).toInt64) y n (nt.toNat - i) i) h → ZW d prog_1_method_31_code 7 82 [some (vR (some 32)), some (vI l1), some (vI y), some (vR (some a)), some (vI nt), some (vI (ymin nt (n - y))), some (vI i)] [] h (yq 1 (yqI K)) := by
  have rm : ymin nt (n - y) ≤ nt ∧ ymin nt (n - y) ≤ n - y ∧ 0 < ymin nt (n - y) ∧ (ymin nt (n - y) = nt ∨ ymin nt (n - y) = n - y) := by unfold ymin; split <;> omega
  generalize ymin nt (n - y) = lk at rm ⊢
  intro m
  induction m with
  | zero =>
    intro i hm k
    refine W102_82 w ha hd ⟨fun _ => ⟨fun c => ?_, fun c => ?_⟩, fun c => absurd (by omega) c⟩
    · have : nt.toNat - i = 0 := by omega
      rw [this] at k
      exact k
    · obtain ⟨r, hr⟩ : ∃ r, nt.toNat - i = r + 1 := ⟨nt.toNat - i - 1, by omega⟩
      rw [hr, xju_e (by omega)] at k
      have e : zw (100 + lk) = 100 + (i : Int) := by rw [zwi (by omega)]; omega
      rw [e]
      exact k
  | succ m ih =>
    intro i hm k
    obtain ⟨r, hr⟩ : ∃ r, nt.toNat - i = r + 1 := ⟨nt.toNat - i - 1, by omega⟩
    have z1 : zw (y + (i : Int)) = y + i := zwi (by omega)
    have z2 : (y + (i : Int)).toNat = y.toNat + i := by omega
    have z3 : (4 * (i : Int) + 0).toNat = 4 * i := by omega
    have z4 : zV h (40 + 1) (4 * i) = T i := eT i (by omega)
    refine W102_82 w ha hd ⟨fun c => absurd c (by omega), fun c => ?_⟩
    rw [z1, z2, z3, z4, nz (by omega)]
    refine ⟨by omega, by omega, fun c2 => ?_, fun c2 => ?_⟩
    · refine ih (i + 1) (by omega) ?_
      have e : nt.toNat - (i + 1) = r := by omega
      rw [hr, xju_t (by omega) (lc_eq.1 c2)] at k
      rw [e]
      exact k
    · rw [hr, xju_f (P := fun k => zJ h (a + 1) (y.toNat + k) = (zi (T k)).toInt64) (by omega) (fun q => c2 (lc_eq.2 q))] at k
      exact k
theorem mp201_loop (w : yWF zl nl h) (hx : 0 ≤ x ∧ x < 6) (hy : zr y) {n nt : Int} (hn : 0 ≤ n ∧ n ≤ 60) (en : zV h 168 x.toNat = n) (es : zV h 167 x.toNat = -1 → n = 0) (ent : zV h 137 6 = nt) (hnt : 0 ≤ nt ∧ nt ≤ 8) (P : Nat → Prop) (hP : ∀ k : Nat, k < 8 → 0 ≤ y → y + k < n → (zJ h 169 (60 * x.toNat + (y.toNat + k)) = (zi (zV h 143 k)).toInt64 ↔ P k)) : ∀ (m i : Nat), (i : Int) + m = nt → K (xju P y n m i) h → ZW d prog_10_method_56_code 8 35 [some (vR (some 137)), some (vI x), some (vI y), some (vI i)] [] h (yq 1 (yqI K)) := by
  have hy2 : -2147483648 ≤ y ∧ y < 2147483648 := hy
  intro m
  induction m with
  | zero =>
    intro i hm k
    exact W201_35 w ⟨fun _ => k, fun c => absurd (by omega) c⟩
  | succ m ih =>
    intro i hm k
    have e1 : zw (100 + (i : Int)) = 100 + i := zwi (by omega)
    have rn : zr (i : Int) := by unfold zr; omega
    have rn2 : zr n := by unfold zr; omega
    refine W201_35 w ⟨fun c => absurd c (by omega), fun c => ⟨hx, fun c2 => ?_, fun c2 => ⟨fun c3 => ?_, fun c3 => ⟨hx, fun c4 => ?_, fun c4 => ?_⟩⟩⟩⟩
    · rw [xju_e (by have := es c2; omega)] at k
      rw [e1]
      exact k
    · rw [xju_e (by omega)] at k
      rw [e1]
      exact k
    · rw [en, jad_lt hy rn rn2] at c4
      have z1 : zw (zw (zw (60 * x) + y) + (i : Int)) = 60 * x + y + i := by rw [zwi (x := 60 * x) (by omega), zwi (x := 60 * x + y) (by omega), zwi (by omega)]
      have z2 : (60 * x + y + (i : Int)).toNat = 60 * x.toNat + (y.toNat + i) := by omega
      rw [z1, z2, Int.toNat_natCast, nz (by omega)]
      have hPi := hP i (by omega) (by omega) c4
      refine ⟨by omega, by omega, fun c5 => ?_, fun c5 => ?_⟩
      · exact ih (i + 1) (by omega) (by rw [xju_t (by omega) (hPi.1 (lc_eq.1 c5))] at k; exact k)
      · rw [xju_f (by omega) (fun r => c5 (lc_eq.2 (hPi.2 r)))] at k
        exact k
    · rw [en, jad_lt hy rn rn2] at c4
      rw [xju_e (by omega)] at k
      rw [e1]
      exact k
theorem ap102 (I : Inv zl nl xs h) (hd : 20 ≤ d) (hy : zr y) : yI d 102 [vR (some 32), vI x, vI y] h (fun t h1 => yI d 201 [vR (some 137), vI x, vI y] h1 (fun u h2 => t = u ∧ Inv zl nl xs h2)) := by
  have w := I.w
  have rt := I.rg.tn
  have e44 : zV h 40 1 = hvM h 0 2 := by rw [← I.v]; rfl
  have e6 : zV h 137 6 = hvM h 0 2 := rfl
  have hy2 : -2147483648 ≤ y ∧ y < 2147483648 := hy
  by_cases cx : 0 ≤ x ∧ x < 6
  · obtain ⟨t1, t2, t3, t4, t5, t6, t7, t8⟩ := I.tp x.toNat (by omega)
    have hT := yp93' cx
    generalize hA : 125 + 2 * x.toNat = A at t1 t2 t8 hT
    have eT : ∀ k : Nat, k < 8 → zV h 41 (4 * k) = hvM h 6 k := fun k hk => by rw [← I.v, vC_6 hk]
    -- the model, where it comes to the loop
    have md : ∀ r : Int, (zV h 167 x.toNat = -1 ∨ zV h 167 x.toNat = 0) → r = xju (fun k => zJ h (A + 1) (y.toNat + k) = (zi (hvM h 6 k)).toInt64) y (zV h 168 x.toNat) (hvM h 0 2).toNat 0 → yI d 201 [vR (some 137), vI x, vI y] h (fun u h2 => r = u ∧ Inv zl nl xs h2) := by
      intro r c hr
      have go := mp201_loop (K := fun u h2 => r = u ∧ Inv zl nl xs h2) (d := d) w cx hy (n := zV h 168 x.toNat) (nt := hvM h 0 2) (by omega) rfl t7 e6 rt (fun k => zJ h (A + 1) (y.toNat + k) = (zi (hvM h 6 k)).toInt64) (fun k hk h0 hlt => ?_) (hvM h 0 2).toNat 0 (by omega) ⟨hr, I⟩
      · exact E201 w (by omega) ⟨fun _ => ⟨cx, fun _ => go, fun c3 => ⟨cx, fun _ => go, fun c4 => absurd c (by omega)⟩⟩, fun c3 => absurd (by omega) c3⟩
      · have q8 := t8 (y.toNat + k) (by omega)
        rw [q8, ← vM_6 hk]
    have mc : zV h 167 x.toNat ≠ -1 → zV h 167 x.toNat ≠ 0 → yI d 201 [vR (some 137), vI x, vI y] h (fun u h2 => -12 = u ∧ Inv zl nl xs h2) := by
      intro c1 c2
      exact E201 w (by omega) ⟨fun _ => ⟨cx, fun c3 => absurd c3 c1, fun c3 => ⟨cx, fun c4 => absurd c4 c2, fun _ => ⟨rfl, I⟩⟩⟩, fun c3 => absurd (by omega) c3⟩
    have tail : (zV h 167 x.toNat = -1 ∨ zV h 167 x.toNat = 0) → ((zV h 40 1 ≠ 0 → ((((0 : Int) ≤ y ∧ y < zV h A 2) → ZW d prog_1_method_31_code 7 82 [some (vR (some 32)), some (vI x), some (vI y), some (vR (some A)), some (vI (zV h 40 1)), some (vI (ymin (zV h 40 1) (zw (zV h A 2 - y)))), some (vI 0)] [] h (yq 1 (yqI (fun t h1 => yI d 201 [vR (some 137), vI x, vI y] h1 (fun u h2 => t = u ∧ Inv zl nl xs h2))))) ∧ (¬ ((0 : Int) ≤ y ∧ y < zV h A 2) → yI d 201 [vR (some 137), vI x, vI y] h (fun u h2 => 100 = u ∧ Inv zl nl xs h2)))) ∧ (¬ (zV h 40 1 ≠ 0) → yI d 201 [vR (some 137), vI x, vI y] h (fun u h2 => -5 = u ∧ Inv zl nl xs h2))) := by
      intro c
      refine ⟨fun c1 => ⟨fun c2 => ?_, fun c2 => ?_⟩, fun c1 => ?_⟩
      · rw [t2] at c2 ⊢
        rw [e44, zwi (by omega)]
        exact cp102_loop w (by omega) hT (by omega) (by omega) c2 (hvM h 6) eT (ymin (hvM h 0 2) (zV h 168 x.toNat - y)).toNat 0 (by unfold ymin; split <;> omega) (md _ c rfl)
      · refine md _ c ?_
        obtain ⟨r, hr⟩ : ∃ r, (hvM h 0 2).toNat = r + 1 := ⟨(hvM h 0 2).toNat - 1, by omega⟩
        rw [hr, xju_e (by rw [t2] at c2; omega)]
        rfl
      · refine md _ c ?_
        have : (hvM h 0 2).toNat = 0 := by omega
        rw [this]
        rfl
    refine E102 w (by omega) ⟨fun _ => ⟨cx, ?_⟩, fun c => absurd cx c⟩
    rw [hA]
    refine ⟨fun c => ⟨fun c2 => tail (Or.inr (t1.symm.trans c2)), fun c2 => mc (by rw [← t1]; exact c) (by rw [← t1]; exact c2)⟩, fun c => tail (Or.inl (by omega))⟩
  · exact E102 w (by omega) ⟨fun c => absurd c cx, fun _ => E201 w (by omega) ⟨fun c => absurd (by omega) cx, fun _ => ⟨rfl, I⟩⟩⟩
/-- tape -/
theorem jz_s (e : zJ h = jz J a o i) : zJ (zsetJ h a (o + i) 0) = jz J a o (i + 1) := by
  funext b k
  rw [zJ_J, e]
  unfold jz
  by_cases c : b = a ∧ k = o + i
  · rw [if_pos c, if_pos (by omega)]
  · rw [if_neg c]
    by_cases c2 : b = a ∧ o ≤ k ∧ k < o + i
    · rw [if_pos c2, if_pos (by omega)]
    · rw [if_neg c2, if_neg (by omega)]
theorem jz_0 : jz J a o 0 = J := by
  funext b k
  unfold jz
  rw [if_neg (by omega)]
theorem cp120_loop (ha : yTp a) {l1 : Int} (hz : 0 ≤ z ∧ z ≤ 60) (k : ∀ h', xQ zl nl h h' V (jz J (a + 1) 0 z.toNat) → K 1 h') : ∀ (m i : Nat) (h2 : Hp), (i : Int) + m = z → xQ zl nl h h2 V (jz J (a + 1) 0 i) → ZW d prog_7_method_6_code 5 12 [some (vR (some a)), some (vI l1), some (vI z), some (vI i)] [] h2 (yq 1 (yqI K)) := by
  intro m
  induction m with
  | zero =>
    intro i h2 hm r
    refine W120_12 r.1 ha ⟨fun _ => ?_, fun c => absurd (by omega) c⟩
    have ei : i = z.toNat := by omega
    rw [ei] at r
    exact k h2 r
  | succ m ih =>
    intro i h2 hm r
    refine W120_12 r.1 ha ⟨fun c => absurd c (by omega), fun c => ⟨by omega, ?_⟩⟩
    rw [Int.toNat_natCast, nz (by omega)]
    obtain ⟨r1, r2, r3, r4⟩ := r
    refine ih (i + 1) _ (by omega) ⟨yWFJ r1, r2, r3, ?_⟩
    have := jz_s r4
    rw [Nat.zero_add] at this
    exact this
theorem mp213_loop (hx : 0 ≤ x ∧ x < 6) {l2 l3 : Int} (k : ∀ h', xQ zl nl h h' V (jz J 169 (60 * x.toNat) 60) → K 1 h') : ∀ (m i : Nat) (h2 : Hp), i + m = 60 → xQ zl nl h h2 V (jz J 169 (60 * x.toNat) i) → ZW d prog_10_method_71_code 8 67 [some (vR (some 137)), some (vI x), some (vI l2), some (vI l3), some (vI i)] [] h2 (yq 1 (yqI K)) := by
  intro m
  induction m with
  | zero =>
    intro i h2 hm r
    obtain rfl : i = 60 := by omega
    exact W213_67 r.1 ⟨fun _ => k h2 r, fun c => absurd (by decide) c⟩
  | succ m ih =>
    intro i h2 hm r
    have z1 : zw (zw (60 * x) + (i : Int)) = 60 * x + i := by rw [zwi (x := 60 * x) (by omega), zwi (by omega)]
    have z2 : (60 * x + (i : Int)).toNat = 60 * x.toNat + i := by omega
    refine W213_67 r.1 ⟨fun c => absurd c (by omega), fun c => ?_⟩
    rw [z1, z2, nz (by omega)]
    obtain ⟨r1, r2, r3, r4⟩ := r
    exact ⟨by omega, ih (i + 1) _ (by omega) ⟨yWFJ r1, r2, r3, jz_s r4⟩⟩
theorem tp_fin (I : Inv zl nl xs h) (hx : 0 ≤ x ∧ x < 6) {f g : Int} (hf : -1 ≤ f ∧ f ≤ 4) (hg : 0 ≤ g ∧ g ≤ 60) (hfg : f = -1 → g = 0) (w2 : yWF zl nl h2) (p2 : zP h2 = zP h) (eV : ∀ b k, zV h2 b k = if b = 168 ∧ k = x.toNat then g else if b = 167 ∧ k = x.toNat then f else if b = 125 + 2 * x.toNat ∧ k = 2 then g else if b = 125 + 2 * x.toNat ∧ k = 1 then f else zV h b k) (eJ : zJ h2 = jz (jz (zJ h) (125 + 2 * x.toNat + 1) 0 g.toNat) 169 (60 * x.toNat) 60) : Inv zl nl xs h2 := by
  refine I.ot w2 p2 (fun b k q => ?_) (xTx_e (fun b k q => ?_) I.tx) (fun i hi => ?_) (xAc_e (fun b k q => ?_) I.ac)
  · unfold xOt at q
    rw [eV, if_neg (by omega), if_neg (by omega), if_neg (by omega), if_neg (by omega)]
  · rw [eV, if_neg (by omega), if_neg (by omega), if_neg (by omega), if_neg (by omega)]
  · have q := I.tp i hi
    unfold xTp1 at q ⊢
    by_cases c : i = x.toNat
    · subst c
      have a1 : zV h2 (125 + 2 * x.toNat) 1 = f := by rw [eV, if_neg (by omega), if_neg (by omega), if_neg (by omega), if_pos (by omega)]
      have a2 : zV h2 (125 + 2 * x.toNat) 2 = g := by rw [eV, if_neg (by omega), if_neg (by omega), if_pos (by omega)]
      have a3 : zV h2 167 x.toNat = f := by rw [eV, if_neg (by omega), if_pos (by omega)]
      have a4 : zV h2 168 x.toNat = g := by rw [eV, if_pos (by omega)]
      rw [a1, a2, a3, a4, eJ]
      refine ⟨rfl, rfl, hf.1, hf.2, hg.1, hg.2, hfg, fun k hk => ?_⟩
      unfold jz
      rw [if_neg (by omega), if_pos (by omega), if_pos (by omega)]
    · have a1 : zV h2 (125 + 2 * i) 1 = zV h (125 + 2 * i) 1 := by rw [eV, if_neg (by omega), if_neg (by omega), if_neg (by omega), if_neg (by omega)]
      have a2 : zV h2 (125 + 2 * i) 2 = zV h (125 + 2 * i) 2 := by rw [eV, if_neg (by omega), if_neg (by omega), if_neg (by omega), if_neg (by omega)]
      have a3 : zV h2 167 i = zV h 167 i := by rw [eV, if_neg (by omega), if_neg (by omega), if_neg (by omega), if_neg (by omega)]
      have a4 : zV h2 168 i = zV h 168 i := by rw [eV, if_neg (by omega), if_neg (by omega), if_neg (by omega), if_neg (by omega)]
      rw [a1, a2, a3, a4, eJ]
      obtain ⟨q1, q2, q3, q4, q5, q6, q7, q8⟩ := q
      refine ⟨q1, q2, q3, q4, q5, q6, q7, fun k hk => ?_⟩
      unfold jz
      rw [if_neg (by omega), if_neg (by omega), if_neg (by omega), if_neg (by omega)]
      exact q8 k hk
  · rw [eV, if_neg (by omega), if_neg (by omega), if_neg (by omega), if_neg (by omega)]
theorem ap118 (I : Inv zl nl xs h) (hd : 20 ≤ d) : yI d 118 [vR (some 32), vI x, vI y, vI z] h (fun t h1 => yI d 213 [vR (some 137), vI x, vI y, vI z] h1 (fun u h2 => t = u ∧ Inv zl nl xs h2)) := by
  have w := I.w
  by_cases cx : 0 ≤ x ∧ x < 6
  · have hT := yp93' cx
    -- the model's two ways
    have m1 : ∀ {K : Int → Hp → Prop} {h1 : Hp}, yWF zl nl h1 → ∀ g : Int, (∀ h', xQ zl nl h1 h' (fun b k => if b = 168 ∧ k = x.toNat then g else if b = 167 ∧ k = x.toNat then y else zV h1 b k) (jz (zJ h1) 169 (60 * x.toNat) 60) → K 1 h') → ∀ h_64, zsetV (zsetV h1 167 x.toNat y) 168 x.toNat g = h_64 → ZW d prog_10_method_71_code 8 67 [some (vR (some 137)), some (vI x), some (vI y), some (vI z), some (vI 0)] [] h_64 (yq 1 (yqI K)) := by
      rintro K h1 w1 g k _ rfl
      refine mp213_loop (h := h1) cx k 60 0 _ rfl ⟨yWFV (yWFV w1), rfl, rfl, ?_⟩
      rw [jz_0]
      rfl
    refine E118 w (by omega) ⟨fun _ => ⟨fun c => ⟨fun c1 => ⟨fun c2 => ⟨fun c3 => ⟨cx, ?_⟩, fun c3 => ?_⟩, fun c2 => ?_⟩, fun c1 => ?_⟩, fun c => ⟨cx, ?_⟩⟩, fun c => absurd cx c⟩
    · refine E120 w hT ?_
      rintro _ rfl
      refine cp120_loop (h := h) (V := zV (zsetV (zsetV h (125 + 2 * x.toNat) 1 y) (125 + 2 * x.toNat) 2 z)) (J := zJ h) hT (by omega) (fun h1 r1 => W118_63 r1.1 ?_) z.toNat 0 _ (by omega) ⟨yWFV (yWFV w), rfl, rfl, by rw [jz_0]; rfl⟩
      obtain ⟨w1, p1, v1, j1⟩ := r1
      have go := m1 (K := fun u h2 => 1 = u ∧ Inv zl nl xs h2) w1 z (fun h2 r2 => ⟨rfl, ?_⟩)
      · exact E213 w1 (by omega) ⟨fun _ => ⟨fun _ => ⟨fun c4 => absurd c4 (by omega), fun _ => ⟨fun _ => ⟨fun c4 => absurd c4 (by omega), fun _ => ⟨fun _ => ⟨cx, fun _ => ⟨cx, go⟩, fun c4 => absurd (by omega) c4⟩, fun c4 => absurd (by omega) c4⟩⟩, fun c4 => absurd (by omega) c4⟩⟩, fun c4 => absurd (by omega) c4⟩, fun c4 => absurd cx c4⟩
      · obtain ⟨w2, p2, v2, j2⟩ := r2
        refine tp_fin I cx (f := y) (g := z) (by omega) (by omega) (by omega) w2 (p2.trans p1) (fun b k => ?_) (by rw [j2, j1])
        rw [v2, v1]
        rfl
    · exact E213 w (by omega) ⟨fun _ => ⟨fun _ => ⟨fun c4 => absurd c4 (by omega), fun _ => ⟨fun _ => ⟨fun c4 => absurd c4 (by omega), fun _ => ⟨fun c4 => absurd c4 c3, fun _ => ⟨rfl, I⟩⟩⟩, fun c4 => absurd (by omega) c4⟩⟩, fun c4 => absurd (by omega) c4⟩, fun c4 => absurd cx c4⟩
    · exact E213 w (by omega) ⟨fun _ => ⟨fun _ => ⟨fun c4 => absurd c4 (by omega), fun _ => ⟨fun c4 => absurd c4 c2, fun _ => ⟨rfl, I⟩⟩⟩, fun c4 => absurd (by omega) c4⟩, fun c4 => absurd cx c4⟩
    · exact E213 w (by omega) ⟨fun _ => ⟨fun c4 => absurd c4 (by omega), fun _ => ⟨rfl, I⟩⟩, fun c4 => absurd cx c4⟩
    · have cy : y = -1 := Classical.byContradiction c
      subst cy
      refine E119 w hT ?_
      rintro _ rfl
      have w1 : yWF zl nl (zsetV (zsetV h (125 + 2 * x.toNat) 1 (-1)) (125 + 2 * x.toNat) 2 0) := yWFV (yWFV w)
      refine W118_25 w1 ?_
      have go := m1 (K := fun u h2 => 1 = u ∧ Inv zl nl xs h2) w1 0 (fun h2 r2 => ⟨rfl, ?_⟩)
      · exact E213 w1 (by omega) ⟨fun _ => ⟨fun _ => ⟨fun _ => ⟨fun _ => ⟨cx, fun c4 => absurd c4 (by omega), fun _ => ⟨cx, go⟩⟩, fun c4 => absurd (by omega) c4⟩, fun c4 => absurd (by omega) c4⟩, fun c4 => absurd (by omega) c4⟩, fun c4 => absurd cx c4⟩
      · obtain ⟨w2, p2, v2, j2⟩ := r2
        refine tp_fin I cx (f := -1) (g := 0) (by omega) (by omega) (by omega) w2 p2 (fun b k => ?_) ?_
        · rw [v2]
          rfl
        · rw [j2]
          show jz (zJ h) _ _ _ = jz (jz (zJ h) _ 0 0) _ _ _
          rw [jz_0]
  · exact E118 w (by omega) ⟨fun c => absurd c cx, fun _ => E213 w (by omega) ⟨fun c => absurd c cx, fun _ => ⟨rfl, I⟩⟩⟩
/-- item -/
noncomputable def xkp (s : Int) (v : Int64) : Int64 := if s = 0 then (zi ((zi (v.toInt32.toInt)).toInt8.toInt32.toInt)).toInt64 else if s = 1 then (zi ((zi (v.toInt32.toInt)).toInt16.toInt32.toInt)).toInt64 else if s = 2 then (zi (v.toInt32.toInt)).toInt64 else if s = 3 then v else if (lg_cmp v 0).toInt = 0 then 0 else 1
theorem sp216 (w : yWF zl nl h) (k : KJ (xkp x v) h) : yJ d 216 [vI x, vJ v] h KJ := by
  unfold xkp at k
  refine E216 w ⟨fun c => ?_, fun c => ?_, fun c => ?_, fun c => ?_, fun c => ⟨fun c2 => ?_, fun c2 => ?_⟩⟩
  · rw [if_pos c] at k; exact k
  · rw [if_neg (by omega), if_pos c] at k; exact k
  · rw [if_neg (by omega), if_neg (by omega), if_pos c] at k; exact k
  · rw [if_neg (by omega), if_neg (by omega), if_neg (by omega), if_pos c] at k; exact k
  · rw [if_neg (by omega), if_neg (by omega), if_neg (by omega), if_neg (by omega), if_pos c2] at k; exact k
  · rw [if_neg (by omega), if_neg (by omega), if_neg (by omega), if_neg (by omega), if_neg c2] at k; exact k
theorem sp123 (w : yWF zl nl h) (ha : yTp a) (k : KJ (xkp (zV h a 1) v) h) : yJ d 123 [vR (some a), vJ v] h KJ := by
  unfold xkp at k
  refine E123 w ha ⟨fun c => ?_, fun c => ?_, fun c => ?_, fun c => ?_, fun c => ⟨fun c2 => ?_, fun c2 => ?_⟩⟩
  · rw [if_pos c] at k; exact k
  · rw [if_neg (by omega), if_pos c] at k; exact k
  · rw [if_neg (by omega), if_neg (by omega), if_pos c] at k; exact k
  · rw [if_neg (by omega), if_neg (by omega), if_neg (by omega), if_pos c] at k; exact k
  · rw [if_neg (by omega), if_neg (by omega), if_neg (by omega), if_neg (by omega), if_pos c2] at k; exact k
  · rw [if_neg (by omega), if_neg (by omega), if_neg (by omega), if_neg (by omega), if_neg c2] at k; exact k
theorem ap121 (I : Inv zl nl xs h) (hd : 20 ≤ d) : yI d 121 [vR (some 32), vI x, vI y, vJ v] h (fun t h1 => yI d 215 [vR (some 137), vI x, vI y, vJ v] h1 (fun u h2 => t = u ∧ Inv zl nl xs h2)) := by
  have w := I.w
  by_cases cx : 0 ≤ x ∧ x < 6
  · have hT := yp93' cx
    obtain ⟨t1, t2, t3, t4, t5, t6, t7, t8⟩ := I.tp x.toNat (by omega)
    have zs : zw (zV h 168 x.toNat - 1) = zV h 168 x.toNat - 1 := zwi (by omega)
    refine E121 w (by omega) ⟨fun _ => ⟨cx, fun c1 => ⟨cx, fun c2 => ⟨cx, ?_⟩, fun c2 => ?_⟩, fun c1 => ?_⟩, fun c => absurd cx c⟩
    · refine E122 w hT (by omega) (sp123 w hT (W122_10 w hT ⟨by omega, ?_⟩))
      rw [t1]
      generalize hr : xkp (zV h 167 x.toNat) v = r
      have w1 : yWF zl nl (zsetJ h (125 + 2 * x.toNat + 1) y.toNat r) := yWFJ w
      refine W121_50 w1 ?_
      have u1 : y ≤ zw (zV (zsetJ h (125 + 2 * x.toNat + 1) y.toNat r) 168 x.toNat - 1) := by
        show y ≤ zw (zV h 168 x.toNat - 1)
        omega
      have u2 : 0 ≤ zV (zsetJ h (125 + 2 * x.toNat + 1) y.toNat r) 167 x.toNat := by
        show 0 ≤ zV h 167 x.toNat
        omega
      refine E215 w1 (by omega) ⟨fun _ => ⟨cx, fun _ => ⟨cx, fun _ => ⟨cx, ?_⟩, fun c3 => absurd ⟨c2.1, u1⟩ c3⟩, fun c3 => absurd u2 c3⟩, fun c => absurd cx c⟩
      refine sp216 w1 (W215_60 w1 ?_)
      have z1 : zw (zw (60 * x) + y) = 60 * x + y := by rw [zwi (x := 60 * x) (by omega), zwi (by omega)]
      have z2 : (60 * x + y).toNat = 60 * x.toNat + y.toNat := by omega
      have e1 : zV (zsetJ h (125 + 2 * x.toNat + 1) y.toNat r) 167 x.toNat = zV h 167 x.toNat := rfl
      rw [z1, z2, e1, hr]
      refine ⟨by omega, rfl, ?_⟩
      refine I.ot (yWFJ w1) rfl (fun b k q => rfl) (xTx_e (fun b k q => rfl) I.tx) (fun i hi => ?_) (xAc_e (fun b k q => rfl) I.ac)
      obtain ⟨q1, q2, q3, q4, q5, q6, q7, q8⟩ := I.tp i hi
      refine ⟨q1, q2, q3, q4, q5, q6, q7, fun k hk => ?_⟩
      have hk2 : (k : Int) < zV h 168 i := hk
      rw [zJ_J, zJ_J, zJ_J, zJ_J]
      by_cases c : i = x.toNat ∧ k = y.toNat
      · obtain ⟨rfl, rfl⟩ := c
        rw [if_neg (by omega), if_pos ⟨rfl, rfl⟩, if_pos ⟨rfl, rfl⟩]
      · rw [if_neg (by omega), if_neg (by omega), if_neg (by omega), if_neg (by omega)]
        exact q8 k hk2
    · refine E215 w (by omega) ⟨fun _ => ⟨cx, fun _ => ⟨cx, fun c3 => absurd ⟨c3.1, by omega⟩ c2, fun _ => ⟨rfl, I⟩⟩, fun c3 => absurd (by omega) c3⟩, fun c => absurd cx c⟩
    · exact E215 w (by omega) ⟨fun _ => ⟨cx, fun c3 => absurd (by omega) c1, fun _ => ⟨rfl, I⟩⟩, fun c => absurd cx c⟩
  · exact E121 w (by omega) ⟨fun c => absurd c cx, fun _ => E215 w (by omega) ⟨fun c => absurd c cx, fun _ => ⟨rfl, I⟩⟩⟩
/-- read -/
theorem ap124 (I : Inv zl nl xs h) (hd : 20 ≤ d) : yJ d 124 [vR (some 32), vI x, vI y] h (fun t h1 => yJ d 217 [vR (some 137), vI x, vI y] h1 (fun u h2 => t = u ∧ Inv zl nl xs h2)) := by
  have w := I.w
  by_cases cx : 0 ≤ x ∧ x < 6
  · have hT := yp93' cx
    obtain ⟨t1, t2, t3, t4, t5, t6, t7, t8⟩ := I.tp x.toNat (by omega)
    have zs : zw (zV h 168 x.toNat - 1) = zV h 168 x.toNat - 1 := zwi (by omega)
    refine E124 w (by omega) ⟨fun _ => ⟨cx, fun c1 => ⟨cx, by omega, ?_⟩, fun c1 => ?_⟩, fun c => absurd cx c⟩
    · refine E217 w (by omega) ⟨fun _ => ⟨cx, fun c3 => absurd (by omega : zV h 167 x.toNat = -1) (fun q => by have := t7 q; omega), fun _ => ⟨cx, fun _ => ?_, fun c3 => absurd ⟨c1.1, by omega⟩ c3⟩⟩, fun c => absurd cx c⟩
      have z1 : zw (zw (60 * x) + y) = 60 * x + y := by rw [zwi (x := 60 * x) (by omega), zwi (by omega)]
      have z2 : (60 * x + y).toNat = 60 * x.toNat + y.toNat := by omega
      rw [z1, z2]
      exact ⟨by omega, t8 y.toNat (by omega), I⟩
    · exact E217 w (by omega) ⟨fun _ => ⟨cx, fun _ => ⟨rfl, I⟩, fun _ => ⟨cx, fun c3 => absurd ⟨c3.1, by omega⟩ c1, fun _ => ⟨rfl, I⟩⟩⟩, fun c => absurd cx c⟩
  · exact E124 w (by omega) ⟨fun c => absurd c cx, fun _ => E217 w (by omega) ⟨fun c => absurd c cx, fun _ => ⟨rfl, I⟩⟩⟩
end XTB
