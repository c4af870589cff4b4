section XAP46
variable {zl : Nat} {nl : Option Nat} {xs : Nat → Int} {h : Hp} {d : Nat}
/-- shop -/
theorem ap46 (I : Inv zl nl xs h) (hd : 30 ≤ d) : yI d 46 [vR (some 32)] h (fun t h1 => yI d 155 [vR (some 137)] h1 (fun u h2 => t = u ∧ Inv zl nl xs h2)) := by
  have w := I.w
  obtain ⟨p1, p2, p3, p4⟩ := I.sh
  obtain ⟨t1, t2, t3, t4⟩ := I.tx
  have s5 := I.st.2.2.2.2.1
  have s6 := I.st.2.2.2.2.2.1
  obtain ⟨sh, hsh⟩ : ∃ sh : Nat, zV h 137 15 = (sh : Int) := ⟨(zV h 137 15).toNat, by omega⟩
  obtain ⟨n, hn⟩ : ∃ n : Nat, zV h 90 1 = (n : Int) := ⟨(zV h 90 1).toNat, by omega⟩
  obtain ⟨W, hW⟩ : ∃ W : Nat, zV h 137 23 = (W : Int) := ⟨(zV h 137 23).toNat, by omega⟩
  refine E46 w (by omega) ⟨fun q => ⟨by omega, ?_⟩, fun q => ?_⟩
  · have hs : sh < 6 := by omega
    obtain ⟨s, es⟩ : ∃ s, 101 + 4 * sh = s := ⟨_, rfl⟩
    have hS : ySh s := by rw [← es]; exact ySh_j hs
    have r82 := ySh_82 hS
    rw [p1, hsh, show ((sh : Int)).toNat = sh by omega, es]
    have c0 : xC0 h (fun k => zV h 144 k) n s := ⟨hS, hn, by omega, fun k hk => (t4 k hk).1⟩
    have bb := I.st.2.2.1
    have m0 : ∀ hA, (∀ b k, ¬ xCm s b k → ¬ (b = 90 ∧ k = 1) → ¬ (b = 32 ∧ k = 6) → zV hA b k = zV h b k) → xM0 hA (fun k => zV h 144 k) n W := by
      intro hA eA
      refine ⟨by rw [eA 137 9 (by unfold xCm; omega) (by omega) (by omega), ← t1]; exact hn, by omega, fun k hk => ⟨eA 144 k (by unfold xCm; omega) (by omega) (by omega), ?_⟩, by omega, fun a q1 q2 k => ?_⟩
      · have := t4 k hk
        show 0 ≤ zV h 144 k ∧ zV h 144 k ≤ 127
        omega
      · rw [eA a k (by unfold xCm; omega) (by omega) (by omega)]
        exact bb a q1 q2 k
    have so : ∀ {h1 : Hp} {S : List (Int × Int × Int)} {g : Int} {p : Nat}, xCP zl nl h n s h1 p 0 S g → ∀ {hB : Hp}, (∀ b k, s ≤ b → b ≤ s + 3 → zV hB b k = zV h1 b k) → yShopOk (zV hB) s ∧ 0 ≤ zV hB s 4 ∧ zV hB s 4 ≤ 99 := by
      intro h1 S g p c hB e
      obtain ⟨c1, c2, c3, c4, c5, c6, c7, c8, c9, c10⟩ := c
      have e0 := e s 3 (by omega) (by omega)
      have e4 := e s 4 (by omega) (by omega)
      refine ⟨⟨by omega, by omega, fun i hi => ?_⟩, by omega, by omega⟩
      rw [e0, c7] at hi
      rw [e (s + 2) i (by omega) (by omega)]
      have ht : S[i]? = some (S[i]'(by omega)) := List.getElem?_eq_getElem (by omega)
      have r := c10 i _ ht
      rw [r.2.2.1]
      exact r.1
    refine cq47 w c0 (by omega) bb (fun l h1 e1 c1 => ?_) (fun q h1S h1g h1 e1 c1 => ?_)
    · have f1 := c1.2.1
      have w1 : yWF zl nl (zsetV h1 90 1 0) := yWFV c1.1
      refine W46_30 w1 hS ⟨fun _ => ⟨yWF_P37 w1 hS, fun hA eA => ?_⟩, fun q => absurd (by decide) q⟩
      have e7 : zV (zsetP (zsetV h1 90 1 0) 33 12 (some s)) 32 6 = (sh : Int) := by
        rw [zV_P, zV_V, if_neg (by decide), f1.V 32 6 (by unfold xCm; omega)]
        omega
      rw [e7, zwi (by omega)] at eA
      rw [e7]
      have wA : yWF zl nl hA := by rw [← eA]; exact yWFV (yWF_P37 w1 hS)
      have vA : ∀ b k, ¬ (b = 90 ∧ k = 1) → ¬ (b = 32 ∧ k = 6) → zV hA b k = zV h1 b k := fun b k q1 q2 => by rw [← eA, zV_V, if_neg q2, zV_P, zV_V, if_neg q1]
      have vA1 : zV hA 90 1 = 0 := by rw [← eA, zV_V, if_neg (by decide), zV_P, zV_V, if_pos ⟨rfl, rfl⟩]
      have vA7 : zV hA 32 6 = (sh : Int) + 1 := by rw [← eA, zV_V, if_pos ⟨rfl, rfl⟩]
      have vAh : ∀ b k, ¬ xCm s b k → ¬ (b = 90 ∧ k = 1) → ¬ (b = 32 ∧ k = 6) → zV hA b k = zV h b k := fun b k q1 q2 q3 => by rw [vA b k q2 q3, f1.V b k q1]
      have jA : zJ hA = zJ h := by rw [← eA]; exact f1.J
      have pA : zP hA 33 12 = some s := by
        rw [← eA]
        show zP (zsetP (zsetV h1 90 1 0) 33 12 (some s)) 33 12 = _
        rw [zP_set, if_pos ⟨rfl, rfl⟩]
      have pA6 : zP hA 71 12 = zP h 71 12 := by
        rw [← eA]
        show zP (zsetP (zsetV h1 90 1 0) 33 12 (some s)) 71 12 = _
        rw [zP_set, if_neg (by decide)]
        exact f1.P 71 12 (by decide) (by decide)
      clear eA e7 w1
      have mA := m0 hA vAh
      refine cm155 wA mA (by omega) (by rw [vAh 137 15 (by unfold xCm; omega) (by omega) (by omega)]; exact hsh) hs (by rw [vAh 137 23 (by unfold xCm; omega) (by omega) (by omega)]; exact hW) (fun l2 h2 e2 c2 => ?_) (fun q h2 e2 c2 => ?_)
      · refine ⟨rfl, ?_⟩
        rw [e1] at e2
        cases e2
        have f2 := c2.2.1
        have ok := pall_ok e1
        obtain ⟨d1, d2, d3, d4, d5, Q, d6, d7, d8, d9⟩ := c2
        have vB : ∀ b k, ¬ (b = 137 ∧ (k = 9 ∨ k = 15 ∨ k = 16)) → ¬ (b = 145 ∧ k = sh) → zV (xmS h2 sh l.length) b k = zV h2 b k := fun b k q1 q2 => by
          unfold xmS
          rw [zV_V, if_neg (by omega), zV_V, if_neg (by omega), zV_V, if_neg (by omega), zV_V, if_neg (by omega)]
        have vB9 : zV (xmS h2 sh l.length) 137 9 = 0 := by unfold xmS; rw [zV_V, if_neg (by decide), zV_V, if_neg (by decide), zV_V, if_neg (by omega), zV_V, if_pos ⟨rfl, rfl⟩]
        have vB15 : zV (xmS h2 sh l.length) 137 15 = (sh : Int) + 1 := by unfold xmS; rw [zV_V, if_pos ⟨rfl, rfl⟩]
        have vB16 : zV (xmS h2 sh l.length) 137 16 = (sh : Int) := by unfold xmS; rw [zV_V, if_neg (by decide), zV_V, if_pos ⟨rfl, rfl⟩]
        have vB137 : zV (xmS h2 sh l.length) 145 sh = (l.length : Int) := by unfold xmS; rw [zV_V, if_neg (by omega), zV_V, if_neg (by omega), zV_V, if_pos ⟨rfl, rfl⟩]
        have wB : yWF zl nl (xmS h2 sh l.length) := yWFV (yWFV (yWFV (yWFV d1)))
        have pB : zP (xmS h2 sh l.length) = zP h2 := rfl
        have jB : zJ (xmS h2 sh l.length) = zJ h2 := rfl
        generalize xmS h2 sh l.length = hB at vB vB9 vB15 vB16 vB137 wB pB jB ⊢
        have vs : ∀ b k, s ≤ b → b ≤ s + 3 → zV hB b k = zV h1 b k := fun b k q1 q2 => by
          rw [vB b k (by omega) (by omega), f2.V b k (by unfold xMm; omega), vA b k (by omega) (by omega)]
        have sk := so c1 vs
        obtain ⟨g1, g2, g3, g4, g5, g6, g7, g8, g9, g10⟩ := c1
        refine shop_yes (cl := l) (Q := Q) I hsh hs hW wB ?_ ?_ ?_ (fun b k q => ?_) (by rw [es]; exact sk.1) (by rw [es]; exact sk.2) ?_ vB9 vB15 vB16 ?_ ?_ d7 (by omega) ?_ ?_ ok (fun i t ht => ?_)
        · rw [pB, f2.P 33 12 (by decide) (by decide), pA, es]
        · rw [pB, f2.P 71 12 (by decide) (by decide), pA6]
        · rw [jB, f2.J, jA]
        · unfold xE at q
          rw [es] at q
          rw [vB b k (by omega) (by omega), f2.V b k (fun z => q (Or.inr (Or.inl z))), vAh b k (fun z => q (Or.inl z)) (by omega) (by omega)]
        · rw [vB 90 1 (by omega) (by omega), f2.V 90 1 (by unfold xMm; omega)]; exact vA1
        · rw [vB 32 6 (by omega) (by omega), f2.V 32 6 (by unfold xMm; omega)]; exact vA7
        · rw [vB 137 23 (by omega) (by omega)]; exact d6
        · refine ⟨vB137, d5, fun i t ht => ?_⟩
          obtain ⟨r1, r2, r3, B, r4, r5, r6⟩ := d9 i t ht
          rw [vB 146 _ (by omega) (by omega), vB 147 _ (by omega) (by omega), vB 148 _ (by omega) (by omega), vB 149 _ (by omega) (by omega), r4]
          refine ⟨r1, r2, r3, by omega, by omega, fun u c hu => ?_⟩
          rw [show ((B : Int)).toNat = B by omega, vB 150 _ (by omega) (by omega)]
          exact r6 u c hu
        · rw [es]
          refine ⟨by rw [vs s 3 (by omega) (by omega)]; exact g7, by omega, by rw [vs s 4 (by omega) (by omega)]; exact g8, fun i t ht => ?_⟩
          rw [vs _ _ (by omega) (by omega), vs _ _ (by omega) (by omega), vs _ _ (by omega) (by omega)]
          exact (g10 i t ht).2
        · obtain ⟨r1, r2, r3, B, r4, r5, r6⟩ := d9 i t ht
          rw [vB 148 _ (by omega) (by omega), vB 149 _ (by omega) (by omega), r4, r3]
          omega
      · rw [e1] at e2
        cases e2
    · have f1 := c1.2.1
      have q100 : q ≤ n := c1.pn
      refine W46_30 (yWFV c1.1) hS ⟨fun z => by omega, fun _ => ?_⟩
      rw [zwi (by omega)]
      have wA : yWF zl nl (zsetV h1 90 1 0) := yWFV c1.1
      have vA : ∀ b k, ¬ (b = 90 ∧ k = 1) → zV (zsetV h1 90 1 0) b k = zV h1 b k := fun b k q1 => by rw [zV_V, if_neg q1]
      have vA1 : zV (zsetV h1 90 1 0) 90 1 = 0 := by rw [zV_V, if_pos ⟨rfl, rfl⟩]
      have jA : zJ (zsetV h1 90 1 0) = zJ h := f1.J
      have pA : ∀ a, a = 33 ∨ a = 71 → zP (zsetV h1 90 1 0) a 12 = zP h a 12 := fun a ha => f1.P a 12 (by omega) (by omega)
      generalize zsetV h1 90 1 0 = hA at wA vA vA1 jA pA ⊢
      have vAh : ∀ b k, ¬ xCm s b k → ¬ (b = 90 ∧ k = 1) → ¬ (b = 32 ∧ k = 6) → zV hA b k = zV h b k := fun b k q1 q2 q3 => by rw [vA b k q2, f1.V b k q1]
      have mA := m0 hA vAh
      refine cm155 wA mA (by omega) (by rw [vAh 137 15 (by unfold xCm; omega) (by omega) (by omega)]; exact hsh) hs (by rw [vAh 137 23 (by unfold xCm; omega) (by omega) (by omega)]; exact hW) (fun l2 h2 e2 c2 => ?_) (fun q2 h2 e2 c2 => ?_)
      · rw [e1] at e2
        cases e2
      · rw [e1] at e2
        cases e2
        refine ⟨rfl, ?_⟩
        obtain ⟨d1, f2, d3, d4⟩ := c2
        have vB : ∀ b k, ¬ (b = 137 ∧ (k = 9 ∨ k = 23)) → zV (zsetV (zsetV h2 137 9 0) 137 23 (W : Int)) b k = zV h2 b k := fun b k q1 => by
          rw [zV_V, if_neg (by omega), zV_V, if_neg (by omega)]
        have vB9 : zV (zsetV (zsetV h2 137 9 0) 137 23 (W : Int)) 137 9 = 0 := by rw [zV_V, if_neg (by decide), zV_V, if_pos ⟨rfl, rfl⟩]
        have vB23 : zV (zsetV (zsetV h2 137 9 0) 137 23 (W : Int)) 137 23 = (W : Int) := by rw [zV_V, if_pos ⟨rfl, rfl⟩]
        have wB : yWF zl nl (zsetV (zsetV h2 137 9 0) 137 23 (W : Int)) := yWFV (yWFV d1)
        have pB : zP (zsetV (zsetV h2 137 9 0) 137 23 (W : Int)) = zP h2 := rfl
        have jB : zJ (zsetV (zsetV h2 137 9 0) 137 23 (W : Int)) = zJ h2 := rfl
        generalize zsetV (zsetV h2 137 9 0) 137 23 (W : Int) = hB at vB vB9 vB23 wB pB jB ⊢
        have vs : ∀ b k, s ≤ b → b ≤ s + 3 → zV hB b k = zV h1 b k := fun b k q1 q2 => by
          rw [vB b k (by omega), f2.V b k (by unfold xMm; omega), vA b k (by omega)]
        have sk := so c1 vs
        refine shop_no I hsh hs hW wB ?_ ?_ ?_ (fun b k q => ?_) (by rw [es]; exact sk.1) (by rw [es]; exact sk.2) ?_ vB9 ?_ ?_ ?_ (by rw [vB23, hW]) ?_
        · rw [pB, f2.P 33 12 (by decide) (by decide), pA 33 (Or.inl rfl)]
        · rw [pB, f2.P 71 12 (by decide) (by decide), pA 71 (Or.inr rfl)]
        · rw [jB, f2.J, jA]
        · unfold xE at q
          rw [es] at q
          have q2 : ¬ (b = 137 ∧ (k = 9 ∨ k = 23)) := fun z => q (by unfold xMm; omega)
          rw [vB b k q2, f2.V b k (fun z => q (Or.inr (Or.inl z))), vAh b k (fun z => q (Or.inl z)) (by omega) (by omega)]
        · rw [vB 90 1 (by omega), f2.V 90 1 (by unfold xMm; omega)]; exact vA1
        · rw [vB 137 15 (by omega), f2.V 137 15 (by unfold xMm; omega), vAh 137 15 (by unfold xCm; omega) (by omega) (by omega)]
        · rw [vB 137 16 (by omega), f2.V 137 16 (by unfold xMm; omega), vAh 137 16 (by unfold xCm; omega) (by omega) (by omega)]
        · rw [vB 32 6 (by omega), f2.V 32 6 (by unfold xMm; omega), vA 32 6 (by omega), f1.V 32 6 (by unfold xCm; omega)]
        · rw [vB 145 sh (by omega), f2.V 145 sh (by unfold xMm; omega), vAh 145 sh (by unfold xCm; omega) (by omega) (by omega)]
  · have w2 := w
    exact E155 w ⟨fun z => absurd (by omega) z, fun _ => ⟨rfl, I⟩⟩
end XAP46
