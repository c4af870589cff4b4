/-! A SHOP IS READ IN BOTH -/
def xE (sh W b k : Nat) : Prop := xCm (101 + 4 * sh) b k ∨ xMm sh W b k ∨ (b = 90 ∧ k = 1) ∨ (b = 137 ∧ (k = 9 ∨ k = 15 ∨ k = 16)) ∨ (b = 32 ∧ k = 6) ∨ (b = 145 ∧ k = sh)
def xC4 (xs : Nat → Int) (sh W : Nat) (h : Hp) : Prop := xSO h ∧ xGO h ∧ yB h ∧ (∀ j : Nat, j < sh → ∃ cl, xMR h j cl ∧ xCR h (101 + 4 * j) cl ∧ ∀ e ∈ cl, xOKe e) ∧ (zV h 48 3 = 0 ∧ zV h 48 4 = 0) ∧ xTx h ∧ xTp h ∧ xAc h ∧ (∀ k, zV h 0 k = xs k) ∧ ∀ j i : Nat, j < sh → (i : Int) < zV h 145 j → zV h 148 (10 * j + i) + zV h 149 (10 * j + i) ≤ (W : Int)
section XSHE
variable {zl : Nat} {nl : Option Nat} {xs : Nat → Int} {h h' h1 h2 hB : Hp} {d : Nat} {K : Int → Hp → Prop} {n s sh W : Nat} {cl : Cls} {S : List (Int × Int × Int)} {g : Int}
theorem xE_no {b k : Nat} (hs : sh < 6) (hb : b < 90 ∨ (91 ≤ b ∧ b < 101) ∨ (125 ≤ b ∧ b < 137) ∨ (138 ≤ b ∧ b < 145) ∨ 151 ≤ b) (h32 : ¬ (b = 32 ∧ k = 6)) : ¬ xE sh W b k := by
  unfold xE xCm xMm
  omega
theorem shop_c4 (I : Inv zl nl xs h) (h15 : zV h 137 15 = (sh : Int)) (hs : sh < 6) (hW : zV h 137 23 = (W : Int)) (eJ : zJ hB = zJ h) (e : ∀ b k, ¬ xE sh W b k → zV hB b k = zV h b k) (so : yShopOk (zV hB) (101 + 4 * sh)) (hg : 0 ≤ zV hB (101 + 4 * sh) 4 ∧ zV hB (101 + 4 * sh) 4 ≤ 99) (t1 : zV hB 90 1 = 0) (t2 : zV hB 137 9 = 0) : xC4 xs sh W hB := by
  obtain ⟨s1, s2, s3, s4, s5, s6, s7, s8⟩ := I.st
  obtain ⟨p1, p2, p3, p4⟩ := I.sh
  have eg : ∀ (b k : Nat), (b < 90 ∨ (91 ≤ b ∧ b < 101) ∨ (125 ≤ b ∧ b < 137) ∨ (138 ≤ b ∧ b < 145) ∨ 151 ≤ b) → ¬ (b = 32 ∧ k = 6) → zV hB b k = zV h b k := fun b k hb h32 => e b k (xE_no hs hb h32)
  have es : ∀ (b k : Nat), xShC b → (b < 101 + 4 * sh ∨ 101 + 4 * sh + 3 < b) → zV hB b k = zV h b k := fun b k hb hn => e b k (by unfold xShC at hb; unfold xE xCm xMm; omega)
  refine ⟨fun s' hs' => ?_, fun ho => ?_, fun a q1 q2 k => ?_, fun j hj => ?_, ⟨?_, ?_⟩, ?_, ?_, ?_, fun k => ?_, fun j i hj hi => ?_⟩
  · by_cases q : s' = 101 + 4 * sh
    · rw [q]; exact so
    · have r := s1 s' hs'
      have n3 : s' + 3 < 101 + 4 * sh ∨ 101 + 4 * sh + 3 < s' := by unfold ySh at hs'; omega
      unfold yShopOk at r ⊢
      rw [es s' 3 (xShC_S (j := 0) hs' (by decide)) (by omega)]
      refine ⟨r.1, r.2.1, fun i hi => ?_⟩
      rw [es (s' + 2) i (xShC_S (j := 2) hs' (by decide)) (by omega)]
      exact r.2.2 i hi
  · have r := s2 ho
    unfold xG at r ⊢
    by_cases q : xsh ho = 101 + 4 * sh
    · rw [q]; omega
    · have n3 : xShC (xsh ho) ∧ (xsh ho < 101 + 4 * sh ∨ 101 + 4 * sh + 3 < xsh ho) := by
        have hS := xsh_S ho
        unfold ySh at hS
        unfold xShC
        omega
      rw [es _ 4 n3.1 n3.2]
      exact r
  · rw [eg a k (by omega) (by omega)]
    exact s3 a q1 q2 k
  · obtain ⟨cl, r1, r2, r3⟩ := s4 j (by omega)
    refine ⟨cl, ?_, ?_, r3⟩
    · obtain ⟨m1, m2, m3⟩ := r1
      refine ⟨by rw [e 145 j (by unfold xE xCm xMm; omega)]; exact m1, m2, fun i t ht => ?_⟩
      have lt : i < cl.length := by
        rcases Nat.lt_or_ge i cl.length with q | q
        · exact q
        · rw [List.getElem?_eq_none q] at ht; cases ht
      have er : ∀ b, 146 ≤ b → b ≤ 149 → zV hB b (10 * j + i) = zV h b (10 * j + i) := fun b q1 q2 => e b _ (by unfold xE xCm xMm; omega)
      rw [er 146 (by omega) (by omega), er 147 (by omega) (by omega), er 148 (by omega) (by omega), er 149 (by omega) (by omega)]
      obtain ⟨n1, n2, n3, n4, n5, n6⟩ := m3 i t ht
      have n7 := p4 j i (by omega) (by omega)
      refine ⟨n1, n2, n3, n4, n5, fun u c hu => ?_⟩
      have lu : u < t.2.2.length := by
        rcases Nat.lt_or_ge u t.2.2.length with q | q
        · exact q
        · rw [List.getElem?_eq_none q] at hu; cases hu
      rw [e 150 _ (by unfold xE xCm xMm; omega)]
      exact n6 u c hu
    · obtain ⟨m1, m2, m3, m4⟩ := r2
      have ej : ∀ b k, 101 + 4 * j ≤ b → b ≤ 101 + 4 * j + 3 → zV hB b k = zV h b k := fun b k q1 q2 => e b k (by unfold xE xCm xMm; omega)
      refine ⟨by rw [ej _ _ (by omega) (by omega)]; exact m1, m2, by rw [ej _ _ (by omega) (by omega)]; exact m3, fun i t ht => ?_⟩
      rw [ej _ _ (by omega) (by omega), ej _ _ (by omega) (by omega), ej _ _ (by omega) (by omega)]
      exact m4 i t ht
  · rw [e 48 3 (by unfold xE xCm xMm; omega)]; exact s7
  · rw [e 48 4 (by unfold xE xCm xMm; omega)]; exact s8
  · obtain ⟨q1, q2, q3, q4⟩ := I.tx
    refine ⟨by rw [t1, t2], by omega, by omega, fun k hk => ?_⟩
    rw [eg 91 k (by omega) (by omega), eg 144 k (by omega) (by omega)]
    exact q4 k hk
  · exact xTp_e (fun b k hb => eg b k (by omega) (by omega)) eJ I.tp
  · obtain ⟨q1, q2, q3, q4⟩ := I.ac
    unfold xAc
    rw [eg 94 1 (by omega) (by omega), e 137 36 (by unfold xE xCm xMm; omega)]
    refine ⟨q1, q2, q3, fun k hk hk2 => ?_⟩
    rw [eg 95 k (by omega) (by omega), eg 160 k (by omega) (by omega)]
    exact q4 k hk hk2
  · rw [eg 0 k (by omega) (by omega)]
    exact I.xss k
  · rw [e 145 j (by unfold xE xCm xMm; omega)] at hi
    have hi10 : i < 10 := by
      obtain ⟨cl, r1, r2, r3⟩ := s4 j (by omega)
      have m1 := r1.1
      have m2 := r1.2.1
      omega
    rw [e 148 _ (by unfold xE xCm xMm; omega), e 149 _ (by unfold xE xCm xMm; omega), ← hW]
    exact p4 j i (by omega) hi
/-- a faulty text changes no shop -/
theorem shop_no (I : Inv zl nl xs h) (h15 : zV h 137 15 = (sh : Int)) (hs : sh < 6) (hW : zV h 137 23 = (W : Int)) (w : yWF zl nl hB) (eP : zP hB 33 12 = zP h 33 12) (e67 : zP hB 71 12 = zP h 71 12) (eJ : zJ hB = zJ h) (e : ∀ b k, ¬ xE sh W b k → zV hB b k = zV h b k) (so : yShopOk (zV hB) (101 + 4 * sh)) (hg : 0 ≤ zV hB (101 + 4 * sh) 4 ∧ zV hB (101 + 4 * sh) 4 ≤ 99) (t1 : zV hB 90 1 = 0) (t2 : zV hB 137 9 = 0) (u1 : zV hB 137 15 = zV h 137 15) (u2 : zV hB 137 16 = zV h 137 16) (u3 : zV hB 32 6 = zV h 32 6) (u4 : zV hB 137 23 = zV h 137 23) (u5 : zV hB 145 sh = zV h 145 sh) : Inv zl nl xs hB := by
  obtain ⟨c1, c2, c3, c4, ⟨c5, c6⟩, c7, c8, c9, c10, c11⟩ := shop_c4 I h15 hs hW eJ e so hg t1 t2
  obtain ⟨p1, p2, p3, p4⟩ := I.sh
  have eC : ∀ a, a = 33 ∨ a = 71 → zP hB a 12 = zP h a 12 → hvC hB a = hvC h a := fun a ha hp => hvC_fr (fun b i q1 q2 q3 q4 => e b i (xE_no hs (by omega) (by omega))) hp
  have eM : hvM hB = hvM h := hvM_fr fun b i q => by
    by_cases q2 : b = 137 ∧ i = 16
    · rw [q2.1, q2.2]; exact u2
    · exact e b i (by unfold xOM at q; unfold xE xCm xMm; omega)
  have eI : hvI hB 161 = hvI h 161 := hvI_fr fun i _ => e 161 i (xE_no hs (by omega) (by omega))
  refine ⟨w, ⟨c1, c2, c3, fun j hj => c4 j (by omega), by omega, by omega, c5, c6⟩, ?_, ⟨by rw [u3, u1]; exact p1, by omega, by omega, fun j i hj hi => ?_⟩, c7, c8, c9, ?_, c10⟩
  · obtain ⟨n1, n2, n3⟩ := I.nw
    exact ⟨by rw [eC 33 (Or.inl rfl) eP, eM]; exact n1, by rw [eM]; exact n2, by rw [eM, u1]; exact n3⟩
  · have := c11 j i (by omega) hi
    omega
  · have q := I.im
    unfold xIm at q ⊢
    rw [e 32 3 (xE_no hs (by omega) (by omega)), e 137 38 (by unfold xE xCm xMm; omega), u1, eC 71 (Or.inr rfl) e67, eI]
    exact q
theorem hvC_P (hs : ySh s) : hvC (zsetP h 33 12 (some s)) 33 = up (hvC h 33) 0 6 (yho (some s)) := by
  funext j k
  show (if j = 0 ∧ k = 6 then yho (zP (zsetP h 33 12 (some s)) 33 12) else if j = 8 ∧ cg h (xcC 33 7 k) = 0 then 0 else cg h (xcC 33 j k)) = (if j = 0 ∧ k = 6 then yho (some s) else (if j = 0 ∧ k = 6 then yho (zP h 33 12) else if j = 8 ∧ cg h (xcC 33 7 k) = 0 then 0 else cg h (xcC 33 j k)))
  by_cases q : j = 0 ∧ k = 6
  · rw [if_pos q, if_pos q]
    rfl
  · rw [if_neg q, if_neg q, if_neg q]
theorem yho_j (hs : sh < 6) : yho (some (101 + 4 * sh)) = (sh : Int) := by
  have e : sh = 0 ∨ sh = 1 ∨ sh = 2 ∨ sh = 3 ∨ sh = 4 ∨ sh = 5 := by omega
  rcases e with rfl | rfl | rfl | rfl | rfl | rfl <;> rfl
/-- a sound text makes a shop -/
theorem shop_yes (I : Inv zl nl xs h) (h15 : zV h 137 15 = (sh : Int)) (hs : sh < 6) (hW : zV h 137 23 = (W : Int)) (w : yWF zl nl hB) (eP : zP hB 33 12 = some (101 + 4 * sh)) (e67 : zP hB 71 12 = zP h 71 12) (eJ : zJ hB = zJ h) (e : ∀ b k, ¬ xE sh W b k → zV hB b k = zV h b k) (so : yShopOk (zV hB) (101 + 4 * sh)) (hg : 0 ≤ zV hB (101 + 4 * sh) 4 ∧ zV hB (101 + 4 * sh) 4 ≤ 99) (t1 : zV hB 90 1 = 0) (t2 : zV hB 137 9 = 0) (u1 : zV hB 137 15 = (sh : Int) + 1) (u2 : zV hB 137 16 = (sh : Int)) (u3 : zV hB 32 6 = (sh : Int) + 1) {Q : Nat} (u4 : zV hB 137 23 = (Q : Int)) (hQ : W ≤ Q) (hQ2 : Q ≤ W + 100) (mr : xMR hB sh cl) (cr : xCR hB (101 + 4 * sh) cl) (ok : ∀ t ∈ cl, xOKe t) (ro : ∀ (i : Nat) (t : Int × Int × List Int), cl[i]? = some t → zV hB 148 (10 * sh + i) + zV hB 149 (10 * sh + i) ≤ (Q : Int)) : Inv zl nl xs hB := by
  obtain ⟨c1, c2, c3, c4, ⟨c5, c6⟩, c7, c8, c9, c10, c11⟩ := shop_c4 I h15 hs hW eJ e so hg t1 t2
  obtain ⟨p1, p2, p3, p4⟩ := I.sh
  have e6 : hvC hB 71 = hvC h 71 := hvC_fr (fun b i q1 q2 q3 q4 => e b i (xE_no hs (by omega) (by omega))) e67
  have e3 : hvC hB 33 = up (hvC h 33) 0 6 (sh : Int) := by
    rw [← yho_j hs, ← hvC_P (ySh_j hs)]
    refine hvC_fr (fun b i q1 q2 q3 q4 => e b i (xE_no hs (by omega) (by omega))) ?_
    rw [eP]
    rfl
  have eM : hvM hB = up (hvM h) 0 6 (sh : Int) := by
    rw [← hvM_set (h := h) (b := 137) (i := 16) (j := 0) (k := 6) (x := (sh : Int)) rfl]
    refine hvM_fr fun b i q => ?_
    rw [zV_V]
    by_cases q2 : b = 137 ∧ i = 16
    · rw [if_pos q2, q2.1, q2.2]; exact u2
    · rw [if_neg q2]
      exact e b i (by unfold xOM at q; unfold xE xCm xMm; omega)
  have eI : hvI hB 161 = hvI h 161 := hvI_fr fun i _ => e 161 i (xE_no hs (by omega) (by omega))
  refine ⟨w, ⟨c1, c2, c3, fun j hj => ?_, by omega, by omega, c5, c6⟩, ?_, ⟨by rw [u3, u1], by omega, by omega, fun j i hj hi => ?_⟩, c7, c8, c9, ?_, c10⟩
  · by_cases q : j = sh
    · rw [q]; exact ⟨cl, mr, cr, ok⟩
    · exact c4 j (by omega)
  · obtain ⟨n1, n2, n3⟩ := I.nw
    refine ⟨by rw [e3, eM, n1], by rw [eM]; exact n2.ups6 (by omega), ?_⟩
    rw [eM, u1]
    show (if 0 = 0 ∧ 6 = 6 then (sh : Int) else _) < _
    rw [if_pos ⟨rfl, rfl⟩]
    omega
  · by_cases q : j = sh
    · rw [q] at hi ⊢
      have m1 := mr.1
      obtain ⟨t, ht⟩ : ∃ t, cl[i]? = some t := ⟨cl[i]'(by omega), List.getElem?_eq_getElem (by omega)⟩
      rw [u4]
      exact ro i t ht
    · have := c11 j i (by omega) hi
      omega
  · have q := I.im
    unfold xIm at q ⊢
    rw [e 32 3 (xE_no hs (by omega) (by omega)), e 137 38 (by unfold xE xCm xMm; omega), u1, e6, eI]
    refine ⟨q.1, q.2.imp id fun r => ⟨r.1, r.2.1, r.2.2.1, ?_⟩⟩
    have := r.2.2.2
    omega
end XSHE
