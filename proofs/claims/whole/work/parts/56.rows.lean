/-! CHANGES: THE TUNE, SEEN, the PLAN, the BOOK -/
section XRW
variable {zl : Nat} {nl : Option Nat} {xs : Nat → Int} {h h' h1 h2 h3 H : Hp} {d : Nat} {K : Int → Hp → Prop} {KJ : Int64 → Hp → Prop} {U : Hp → Prop} {a n s b j k i m : Nat} {x y z t u B : Int} {M : Nat → Nat → Prop} {σ τ : Vw}
theorem sp41_end (e : zV H a 1 = (s : Int)) (hs : s ≤ 40) (k : K ((s : Int) + 1) (zsetV H a 1 ((s : Int) + 1))) : K (zV (zsetV H a 1 (zw (zV H a 1 + 1))) a 1) (zsetV H a 1 (zw (zV H a 1 + 1))) := by
  rw [zV_V, if_pos ⟨rfl, rfl⟩, e, zwi (by omega)]
  exact k
theorem sp41 (w : yWF zl nl h) (ha : yRs a n) (hs : zV h a 1 = (s : Int)) (p : 4 * s + 3 < n) (k : K ((s : Int) + 1) (zsetV (zsetV (zsetV (zsetV (zsetV h (a + 1) (4 * s) x) (a + 1) (4 * s + 1) y) (a + 1) (4 * s + 2) z) (a + 1) (4 * s + 3) t) a 1 ((s : Int) + 1))) : yI d 41 [vR (some a), vI x, vI y, vI z, vI t] h K := by
  have hn := yR_n ha
  have z0 : zw ((s : Int) * 4) = ((4 * s : Nat) : Int) := by rw [zwi (by omega)]; omega
  have z1 : zw (((4 * s : Nat) : Int) + 1) = ((4 * s + 1 : Nat) : Int) := by rw [zwi (by omega)]; omega
  have z2 : zw (((4 * s : Nat) : Int) + 2) = ((4 * s + 2 : Nat) : Int) := by rw [zwi (by omega)]; omega
  have z3 : zw (((4 * s : Nat) : Int) + 3) = ((4 * s + 3 : Nat) : Int) := by rw [zwi (by omega)]; omega
  refine E41 w ha ?_
  rw [hs, z0, z1, z2, z3, Int.toNat_natCast, Int.toNat_natCast, Int.toNat_natCast, Int.toNat_natCast]
  refine ⟨by omega, by omega, ?_⟩
  rintro _ rfl
  refine ⟨by omega, by omega, ?_⟩
  rintro _ rfl
  refine sp41_end ?_ (by omega) k
  rw [zV_V, if_neg (by omega), zV_V, if_neg (by omega), zV_V, if_neg (by omega), zV_V, if_neg (by omega), hs]
theorem xD.jk2 (t : xD zl nl h h2 σ τ) (hb : 33 ≤ b ∧ b ≤ 47) (e1 : xiC 33 b n = (j, m)) (e2 : xcC 33 j m ≠ some (b, n)) : xD zl nl h (zsetV h2 b n x) σ τ := by
  obtain ⟨w2, f2, v2, u2⟩ := t
  refine ⟨yWFV w2, f2.trans (Fr.set (Or.inr (Or.inr (by omega)))), ?_, ?_⟩
  · rw [← v2]
    have key : ∀ j' k', cg (zsetV h2 b n x) (xcC 33 j' k') = cg h2 (xcC 33 j' k') := by
      intro j' k'
      rw [cg_V, if_neg]
      intro c
      have o1 := (xcC_inv c).1
      rw [e1, Prod.mk.injEq] at o1
      rw [← o1.1, ← o1.2] at c
      exact e2 c
    funext j' k'
    unfold hvC
    show (if j' = 0 ∧ k' = 6 then yho (zP h2 33 12) else _) = _
    rw [key, key]
  · rw [← u2]
    exact hvM_fr fun c k q => by
      rw [zV_V, if_neg]
      unfold xOM at q
      omega
theorem xi6 (q : i / 4 = s) : xiC 33 41 i = (6, s) := by subst q; simp [xiC]
theorem xi9 (q : i / 4 = s) (r : 9 + i % 4 = j) : xiC 33 47 i = (j, s) := by subst q; subst r; simp [xiC]
theorem xi7 (q : i / 4 = s) (r : 7 + i % 4 = j) : xiC 33 45 i = (j, s) := by subst q; subst r; simp [xiC]
theorem xj11 : xcC 33 11 s ≠ some (47, i) := by
  intro c
  by_cases q : s < 5
  · rw [xC_11 q] at c
    have o : 33 + 10 = 47 := congrArg Prod.fst (Option.some.inj c)
    omega
  · simp [xcC, q] at c
theorem xj12 : xcC 33 12 s ≠ some (47, i) := by
  intro c
  by_cases q : s < 5
  · rw [xC_12 q] at c
    have o : 33 + 10 = 47 := congrArg Prod.fst (Option.some.inj c)
    omega
  · simp [xcC, q] at c
theorem xj9 : xcC 33 9 s ≠ some (45, i) := by
  intro c
  by_cases q : s < 8
  · rw [xC_9 q] at c
    have o : 33 + 14 = 45 := congrArg Prod.fst (Option.some.inj c)
    omega
  · simp [xcC, q] at c
theorem xj10 : xcC 33 10 s ≠ some (45, i) := by
  intro c
  by_cases q : s < 8
  · rw [xC_10 q] at c
    have o : 33 + 14 = 45 := congrArg Prod.fst (Option.some.inj c)
    omega
  · simp [xcC, q] at c
theorem xD.a6 (q : xD zl nl h h2 σ τ) (h8 : s < 8) : xD zl nl h (zsetV (zsetV (zsetV (zsetV (zsetV h2 (40 + 1) (4 * s) x) (40 + 1) (4 * s + 1) y) (40 + 1) (4 * s + 2) z) (40 + 1) (4 * s + 3) t) 40 1 u) (up (up σ 6 s x) 0 2 u) τ := by
  have q1 : xD zl nl h (zsetV h2 41 (4 * s) x) (up σ 6 s x) τ := q.c (xC_6 h8) (by decide) (by omega)
  have q2 : xD zl nl h (zsetV (zsetV h2 41 (4 * s) x) 41 (4 * s + 1) y) (up σ 6 s x) τ := q1.jk (xC_6 h8) (xi6 (by omega)) (by omega)
  have q3 : xD zl nl h (zsetV (zsetV (zsetV h2 41 (4 * s) x) 41 (4 * s + 1) y) 41 (4 * s + 2) z) (up σ 6 s x) τ := q2.jk (xC_6 h8) (xi6 (by omega)) (by omega)
  have q4 : xD zl nl h (zsetV (zsetV (zsetV (zsetV h2 41 (4 * s) x) 41 (4 * s + 1) y) 41 (4 * s + 2) z) 41 (4 * s + 3) t) (up σ 6 s x) τ := q3.jk (xC_6 h8) (xi6 (by omega)) (by omega)
  exact q4.c (j := 0) (m := 2) rfl (by decide) (by decide)
theorem xD.a11 (q : xD zl nl h h2 σ τ) (h5 : s < 5) : xD zl nl h (zsetV (zsetV (zsetV (zsetV (zsetV h2 (42 + 1) (4 * s) x) (42 + 1) (4 * s + 1) y) (42 + 1) (4 * s + 2) z) (42 + 1) (4 * s + 3) t) 42 1 u) (up (up (up (up (up σ 11 s x) 12 s y) 13 s z) 14 s t) 0 3 u) τ := by
  have q1 : xD zl nl h (zsetV h2 43 (4 * s) x) (up σ 11 s x) τ := q.c (xC_11 h5) (by decide) (by omega)
  have q2 : xD zl nl h (zsetV (zsetV h2 43 (4 * s) x) 43 (4 * s + 1) y) (up (up σ 11 s x) 12 s y) τ := q1.c (xC_12 h5) (by decide) (by omega)
  have q3 : xD zl nl h (zsetV (zsetV (zsetV h2 43 (4 * s) x) 43 (4 * s + 1) y) 43 (4 * s + 2) z) (up (up (up σ 11 s x) 12 s y) 13 s z) τ := q2.c (xC_13 h5) (by decide) (by omega)
  have q4 : xD zl nl h (zsetV (zsetV (zsetV (zsetV h2 43 (4 * s) x) 43 (4 * s + 1) y) 43 (4 * s + 2) z) 43 (4 * s + 3) t) (up (up (up (up σ 11 s x) 12 s y) 13 s z) 14 s t) τ := q3.c (xC_14 h5) (by decide) (by omega)
  exact q4.c (j := 0) (m := 3) rfl (by decide) (by decide)
theorem xD.a9 (q : xD zl nl h h2 σ τ) (h8 : s < 8) : xD zl nl h (zsetV (zsetV (zsetV (zsetV (zsetV h2 (46 + 1) (4 * s) x) (46 + 1) (4 * s + 1) y) (46 + 1) (4 * s + 2) z) (46 + 1) (4 * s + 3) t) 46 1 u) (up (up (up σ 9 s x) 10 s y) 0 5 u) τ := by
  have q1 : xD zl nl h (zsetV h2 47 (4 * s) x) (up σ 9 s x) τ := q.c (xC_9 h8) (by decide) (by omega)
  have q2 : xD zl nl h (zsetV (zsetV h2 47 (4 * s) x) 47 (4 * s + 1) y) (up (up σ 9 s x) 10 s y) τ := q1.c (xC_10 h8) (by decide) (by omega)
  have q3 : xD zl nl h (zsetV (zsetV (zsetV h2 47 (4 * s) x) 47 (4 * s + 1) y) 47 (4 * s + 2) z) (up (up σ 9 s x) 10 s y) τ := q2.jk2 (by decide) (xi9 (s := s) (by omega) (j := 11) (by omega)) xj11
  have q4 : xD zl nl h (zsetV (zsetV (zsetV (zsetV h2 47 (4 * s) x) 47 (4 * s + 1) y) 47 (4 * s + 2) z) 47 (4 * s + 3) t) (up (up σ 9 s x) 10 s y) τ := q3.jk2 (by decide) (xi9 (s := s) (by omega) (j := 12) (by omega)) xj12
  exact q4.c (j := 0) (m := 5) rfl (by decide) (by decide)
theorem hvC_pl (h10 : s < 10) : hvC (zsetV (zsetV h 45 (4 * s) x) 45 (4 * s + 1) y) 33 = up (up (hvC h 33) 7 s x) 8 s (if x = 0 then 0 else y) := by
  have key : ∀ j k, cg (zsetV (zsetV h 45 (4 * s) x) 45 (4 * s + 1) y) (xcC 33 j k) = if j = 8 ∧ k = s then y else if j = 7 ∧ k = s then x else cg h (xcC 33 j k) := by
    intro j k
    have e7 : xcC 33 7 s = some (45, 4 * s) := xC_7 h10
    have e8 : xcC 33 8 s = some (45, 4 * s + 1) := xC_8 h10
    rw [cg_V, cg_V]
    by_cases c8 : j = 8 ∧ k = s
    · rw [if_pos c8, c8.1, c8.2, if_pos e8]
    · have n8 : xcC 33 j k ≠ some (45, 4 * s + 1) := by
        intro c
        have o := (xcC_inv c).1
        rw [(xcC_inv e8).1, Prod.mk.injEq] at o
        exact c8 ⟨o.1.symm, o.2.symm⟩
      rw [if_neg c8, if_neg n8]
      by_cases c7 : j = 7 ∧ k = s
      · rw [if_pos c7, c7.1, c7.2, if_pos e7]
      · have n7 : xcC 33 j k ≠ some (45, 4 * s) := by
          intro c
          have o := (xcC_inv c).1
          rw [(xcC_inv e7).1, Prod.mk.injEq] at o
          exact c7 ⟨o.1.symm, o.2.symm⟩
        rw [if_neg c7, if_neg n7]
  funext j k
  unfold hvC up
  show (if j = 0 ∧ k = 6 then yho (zP h 33 12) else _) = _
  rw [key, key]
  dsimp only
  by_cases c0 : j = 0 ∧ k = 6
  · rw [if_pos c0, if_neg (by omega), if_neg (by omega), if_pos c0]
  · rw [if_neg c0]
    by_cases c8 : j = 8 ∧ k = s
    · obtain ⟨rfl, rfl⟩ := c8
      simp
    · rw [if_neg c8, if_neg c8]
      by_cases c7 : j = 7 ∧ k = s
      · obtain ⟨rfl, rfl⟩ := c7
        simp
      · rw [if_neg c7, if_neg c7, if_neg c0]
        by_cases c : j = 8
        · have ck : ¬ k = s := fun q => c8 ⟨c, q⟩
          simp [ck]
        · simp [c]
theorem xD.pl (q : xD zl nl h h2 σ τ) (h10 : s < 10) : xD zl nl h (zsetV (zsetV (zsetV (zsetV (zsetV h2 (44 + 1) (4 * s) x) (44 + 1) (4 * s + 1) y) (44 + 1) (4 * s + 2) z) (44 + 1) (4 * s + 3) t) 44 1 u) (up (up (up σ 7 s x) 8 s (if x = 0 then 0 else y)) 0 4 u) τ := by
  have q2 : xD zl nl h (zsetV (zsetV h2 45 (4 * s) x) 45 (4 * s + 1) y) (up (up σ 7 s x) 8 s (if x = 0 then 0 else y)) τ := by
    obtain ⟨w2, f2, v2, u2⟩ := q
    refine ⟨yWFV (yWFV w2), (f2.trans (Fr.set (Or.inr (Or.inr (by decide))))).trans (Fr.set (Or.inr (Or.inr (by decide)))), by rw [hvC_pl h10, v2], ?_⟩
    rw [← u2]
    exact hvM_fr fun c k q => by
      unfold xOM at q
      rw [zV_V, if_neg (by omega), zV_V, if_neg (by omega)]
  have q3 : xD zl nl h (zsetV (zsetV (zsetV h2 45 (4 * s) x) 45 (4 * s + 1) y) 45 (4 * s + 2) z) (up (up σ 7 s x) 8 s (if x = 0 then 0 else y)) τ := q2.jk2 (by decide) (xi7 (s := s) (by omega) (j := 9) (by omega)) xj9
  have q4 : xD zl nl h (zsetV (zsetV (zsetV (zsetV h2 45 (4 * s) x) 45 (4 * s + 1) y) 45 (4 * s + 2) z) 45 (4 * s + 3) t) (up (up σ 7 s x) 8 s (if x = 0 then 0 else y)) τ := q3.jk2 (by decide) (xi7 (s := s) (by omega) (j := 10) (by omega)) xj10
  exact q4.c (j := 0) (m := 4) rfl (by decide) (by decide)
/-- note -/
theorem ap38 (I : Inv zl nl xs h) (hd : 20 ≤ d) : yI d 38 [vR (some 32), vI x] h (fun t h1 => yI d 152 [vR (some 137), vI x] h1 (fun u h2 => t = u ∧ Inv zl nl xs h2)) := by
  have w := I.w
  have rt := I.rg.tn
  have e44 : zV h 40 1 = hvM h 0 2 := by rw [← I.v]; rfl
  have e6 : zV h 137 6 = hvM h 0 2 := rfl
  obtain ⟨s, hs⟩ : ∃ s : Nat, hvM h 0 2 = s := ⟨(hvM h 0 2).toNat, by omega⟩
  refine E38 w (by omega) ⟨fun c => ⟨fun c1 => ⟨by omega, fun c2 => ?_, fun c2 => ?_⟩, fun c1 => ?_⟩, fun c => ?_⟩
  · exact E152 w (by omega) ⟨fun _ => ⟨fun _ => ⟨fun c3 => absurd (by omega) c3, fun _ => ⟨rfl, I⟩⟩, fun c3 => absurd c1 c3⟩, fun c3 => absurd c c3⟩
  · refine sp41 w (yR7 (a := 33) yH37) (e44.trans hs) (by omega) ?_
    have t1 := (xD.rf w).a6 (s := s) (x := x) (y := 0) (z := 0) (t := 0) (u := (s : Int) + 1) (by omega)
    refine W38_60 t1.1 ?_
    have e1 : zV (zsetV (zsetV (zsetV (zsetV (zsetV h (40 + 1) (4 * s) x) (40 + 1) (4 * s + 1) 0) (40 + 1) (4 * s + 2) 0) (40 + 1) (4 * s + 3) 0) 40 1 ((s : Int) + 1)) 137 6 = (s : Int) := e6.trans hs
    refine E152 t1.1 (by omega) ⟨fun _ => ⟨fun _ => ⟨fun _ => ?_, fun c3 => absurd (by omega) c3⟩, fun c3 => absurd c1 c3⟩, fun c3 => absurd c c3⟩
    rw [e1, zwi (by omega), Int.toNat_natCast]
    refine ⟨by omega, ?_⟩
    rintro _ rfl
    refine ⟨rfl, ?_⟩
    refine I.ch ((t1.mm (j := 0) (m := 2) rfl).mm (xM_6 (by omega))) ?_ ?_ I.ho
    · rw [I.v]
      exact up_comm (by omega)
    · exact (I.rg.ups2 (by omega)).up6 (by omega)
  · exact E152 w (by omega) ⟨fun _ => ⟨fun c3 => absurd c3 c1, fun _ => ⟨rfl, I⟩⟩, fun c3 => absurd c c3⟩
  · have t1 : xD zl nl h (zsetV h 40 1 0) (up (hvC h 33) 0 2 0) (hvM h) := (xD.rf w).c (j := 0) (m := 2) rfl (by decide) (by decide)
    refine E152 t1.1 (by omega) ⟨fun c3 => absurd c3 c, fun _ => ⟨rfl, ?_⟩⟩
    exact I.ch (t1.mm (j := 0) (m := 2) rfl) (by rw [I.v]) (I.rg.ups2 (by omega)) I.ho
/-- see -/
theorem mp191 (q : xD zl nl h h1 σ τ) (hd : 2 ≤ d) (hs : τ 0 3 = (s : Int)) (h5 : s < 5) (hx : 0 ≤ x ∧ x < τ 0 0) (h00 : 0 ≤ τ 0 0 ∧ τ 0 0 ≤ 6) (hy : 0 ≤ y ∧ y < 6) (hz : 0 ≤ z ∧ z ≤ 12) (hu : 0 ≤ u ∧ u < 10) (k : ∀ h', xD zl nl h h' σ (up (up (up (up (up τ 11 s x) 12 s y) 13 s z) 0 3 ((s : Int) + 1)) 14 s u) → K ((s : Int) + 1) h') : yI d 191 [vR (some 137), vI x, vI y, vI z, vI u] h1 K := by
  have q0 : zV h1 137 0 = τ 0 0 := by rw [← vM0_0, q.2.2.2]
  have q1 : zV h1 137 25 = (s : Int) := by rw [← vM0_3, q.2.2.2, hs]
  have q2 : zV (zsetV h1 152 s x) 137 25 = (s : Int) := q1
  refine E191 q.1 hd ⟨fun _ => ⟨by omega, fun _ => ⟨fun _ => ⟨fun _ => ⟨fun _ => ⟨fun _ => ?_, fun c6 => absurd (by omega) c6⟩, fun c6 => absurd hu c6⟩, fun c6 => absurd hz c6⟩, fun c6 => absurd hy c6⟩, fun c6 => absurd (by omega) c6⟩, fun c6 => absurd (by omega) c6⟩
  rw [q1, Int.toNat_natCast, q2, Int.toNat_natCast]
  refine ⟨by omega, by omega, ?_⟩
  intro g hg
  have t2 : xD zl nl h g σ (up (up τ 11 s x) 12 s y) := by
    rw [← hg]
    exact (q.mm (xM_11 h5)).mm (xM_12 h5)
  have q3 : zV g 137 25 = (s : Int) := by rw [← vM0_3, t2.2.2.2, ← hs]; rfl
  have q4 : zV (zsetV g 154 s z) 137 25 = (s : Int) := q3
  have t3 : xD zl nl h (zsetV g 154 s z) σ (up (up (up τ 11 s x) 12 s y) 13 s z) := t2.mm (xM_13 h5)
  rw [q3, Int.toNat_natCast, q4, Int.toNat_natCast, zwi (by omega)]
  refine ⟨by omega, ?_⟩
  intro g2 hg2
  have t4 : xD zl nl h g2 σ (up (up (up (up τ 11 s x) 12 s y) 13 s z) 0 3 ((s : Int) + 1)) := by
    rw [← hg2]
    exact t3.mm (j := 0) (m := 3) rfl
  refine ⟨by omega, ?_⟩
  intro g3 hg3
  have t5 : xD zl nl h g3 σ (up (up (up (up (up τ 11 s x) 12 s y) 13 s z) 0 3 ((s : Int) + 1)) 14 s u) := by
    rw [← hg3]
    exact t4.mm (xM_14 h5)
  have q5 : zV g3 137 25 = (s : Int) + 1 := by rw [← vM0_3, t5.2.2.2]; rfl
  rw [q5]
  exact k _ t5
theorem ap89 (I : Inv zl nl xs h) (hd : 20 ≤ d) : yI d 89 [vR (some 32), vI x, vI y, vI z, vI u] h (fun t h1 => yI d 191 [vR (some 137), vI x, vI y, vI z, vI u] h1 (fun u h2 => t = u ∧ Inv zl nl xs h2)) := by
  have w := I.w
  have rt := I.rg.sn
  have rs := I.rg.sz
  have eC := I.sz
  have e0 : zV h 137 0 = hvM h 0 0 := rfl
  have e46 : zV h 42 1 = hvM h 0 3 := by rw [← I.v]; rfl
  have e25 : zV h 137 25 = hvM h 0 3 := rfl
  obtain ⟨s, hs⟩ : ∃ s : Nat, hvM h 0 3 = s := ⟨(hvM h 0 3).toNat, by omega⟩
  refine E89 w (by omega) ⟨fun c => ⟨fun c1 => ⟨fun c2 => ⟨fun c3 => ⟨fun c4 => ⟨by omega, fun c5 => ?_, fun c5 => ?_⟩, fun c4 => ?_⟩, fun c3 => ?_⟩, fun c2 => ?_⟩, fun c1 => ?_⟩, fun c => ?_⟩
  · exact E191 w (by omega) ⟨fun _ => ⟨by omega, fun _ => ⟨fun _ => ⟨fun _ => ⟨fun _ => ⟨fun c6 => absurd (by omega) c6, fun _ => ⟨rfl, I⟩⟩, fun c6 => absurd c4 c6⟩, fun c6 => absurd (by omega) c6⟩, fun c6 => absurd c2 c6⟩, fun c6 => absurd (by omega) c6⟩, fun c6 => absurd c c6⟩
  · refine sp41 w (yR9 (a := 33) yH37) (e46.trans hs) (by omega) ?_
    have t1 := (xD.rf w).a11 (s := s) (x := x) (y := y) (z := z) (t := u) (u := (s : Int) + 1) (by omega)
    refine W89_90 t1.1 ?_
    refine mp191 t1 (by omega) hs (by omega) (by omega) rs (by omega) (by omega) (by omega) fun h2 t2 => ⟨rfl, I.ch t2 ?_ ?_ I.ho⟩
    · rw [I.v]
      exact up_comm (by omega)
    · exact ((((I.rg.up11 (by omega)).up12 (by omega)).up13 (by omega)).ups3 (by omega)).up14 (by omega)
  · exact E191 w (by omega) ⟨fun _ => ⟨by omega, fun _ => ⟨fun _ => ⟨fun _ => ⟨fun c6 => absurd c6 c4, fun _ => ⟨rfl, I⟩⟩, fun c6 => absurd (by omega) c6⟩, fun c6 => absurd c2 c6⟩, fun c6 => absurd (by omega) c6⟩, fun c6 => absurd c c6⟩
  · exact E191 w (by omega) ⟨fun _ => ⟨by omega, fun _ => ⟨fun _ => ⟨fun c6 => absurd c6 (by omega), fun _ => ⟨rfl, I⟩⟩, fun c6 => absurd c2 c6⟩, fun c6 => absurd (by omega) c6⟩, fun c6 => absurd c c6⟩
  · exact E191 w (by omega) ⟨fun _ => ⟨by omega, fun _ => ⟨fun c6 => absurd c6 c2, fun _ => ⟨rfl, I⟩⟩, fun c6 => absurd (by omega) c6⟩, fun c6 => absurd c c6⟩
  · exact E191 w (by omega) ⟨fun _ => ⟨by omega, fun c6 => absurd c6 (by omega), fun _ => ⟨rfl, I⟩⟩, fun c6 => absurd c c6⟩
  · have t1 : xD zl nl h (zsetV h 42 1 0) (up (hvC h 33) 0 3 0) (hvM h) := (xD.rf w).c (j := 0) (m := 3) rfl (by decide) (by decide)
    refine E191 t1.1 (by omega) ⟨fun c3 => absurd c3 c, fun _ => ⟨rfl, ?_⟩⟩
    exact I.ch (t1.mm (j := 0) (m := 3) rfl) (by rw [I.v]) (I.rg.ups3 (by omega)) I.ho
/-- plan -/
theorem mp197 (q : xD zl nl h h1 σ τ) (hd : 2 ≤ d) (hs : τ 0 4 = (s : Int)) (h10 : s < 10) (hx : 0 ≤ x ∧ x ≤ 3) (hz : 0 ≤ τ 0 0 ∧ τ 0 0 ≤ 6) (hy : x ≠ 0 → 0 ≤ y ∧ y < τ 0 0) (k : ∀ h', xD zl nl h h' σ (up (up (up τ 7 s x) 0 4 ((s : Int) + 1)) 8 s (if x = 0 then 0 else y)) → K ((s : Int) + 1) h') : yI d 197 [vR (some 137), vI x, vI y] h1 K := by
  have e30 : zV h1 137 30 = (s : Int) := by rw [← vM0_4, q.2.2.2, hs]
  have e0 : zV h1 137 0 = τ 0 0 := by rw [← vM0_0, q.2.2.2]
  have e1 : zV (zsetV h1 156 s x) 137 30 = (s : Int) := e30
  have z1 : zw ((s : Int) + 1) = (s : Int) + 1 := zwi (by omega)
  have t2 : xD zl nl h (zsetV (zsetV h1 156 s x) 137 30 ((s : Int) + 1)) σ (up (up τ 7 s x) 0 4 ((s : Int) + 1)) := (q.mm (xM_7 h10)).mm (j := 0) (m := 4) rfl
  have fin : ∀ v, v = (if x = 0 then 0 else y) → ∀ g, zsetV (zsetV (zsetV h1 156 s x) 137 30 ((s : Int) + 1)) 157 s v = g → K (zV g 137 30) g := by
    rintro v rfl _ rfl
    exact k _ (t2.mm (xM_8 h10))
  refine E197 q.1 hd ⟨fun _ => ⟨fun _ => ⟨fun c => ⟨fun _ => ?_, fun c2 => absurd (by omega) c2⟩, fun c => ⟨by omega, fun _ => ⟨fun _ => ?_, fun c2 => absurd (by omega) c2⟩, fun c2 => absurd (by rw [e0]; exact hy (by omega)) c2⟩⟩, fun c => absurd hx c⟩, fun c => absurd (by omega) c⟩
  · rw [e30, Int.toNat_natCast, e1, Int.toNat_natCast, z1]
    refine ⟨by omega, ?_⟩
    rintro _ rfl
    exact ⟨fun c2 => absurd (by omega) c2, fun _ => ⟨by omega, fin 0 (by rw [if_pos (by omega)])⟩⟩
  · rw [e30, Int.toNat_natCast, e1, Int.toNat_natCast, z1]
    refine ⟨by omega, ?_⟩
    rintro _ rfl
    exact ⟨fun _ => ⟨by omega, fin y (by rw [if_neg (by omega)])⟩, fun c2 => absurd (by omega) c2⟩
theorem ap96 (I : Inv zl nl xs h) (hd : 20 ≤ d) : yI d 96 [vR (some 32), vI x, vI y] h (fun t h1 => yI d 197 [vR (some 137), vI x, vI y] h1 (fun u h2 => t = u ∧ Inv zl nl xs h2)) := by
  have w := I.w
  have rt := I.rg.pn
  have rs := I.rg.sz
  have eC := I.sz
  have e0 : zV h 137 0 = hvM h 0 0 := rfl
  have e48 : zV h 44 1 = hvM h 0 4 := by rw [← I.v]; rfl
  have e30 : zV h 137 30 = hvM h 0 4 := rfl
  obtain ⟨s, hs⟩ : ∃ s : Nat, hvM h 0 4 = s := ⟨(hvM h 0 4).toNat, by omega⟩
  have go : (0 ≤ x ∧ x < 4) → (x ≠ 0 → 0 ≤ y ∧ y < hvM h 0 0) → s < 10 → yI (d - 1) 41 [vR (some 44), vI x, vI y, vI 0, vI 0] h (fun v h' => ZW d prog_1_method_27_code 7 70 [some (vR (some 32)), some (vI x), some (vI y)] [vI v] h' (yq 1 (yqI (fun t h1 => yI d 197 [vR (some 137), vI x, vI y] h1 (fun u h2 => t = u ∧ Inv zl nl xs h2))))) := by
    intro c1 c2 c3
    refine sp41 w (yR11 (a := 33) yH37) (e48.trans hs) (by omega) ?_
    have t1 := (xD.rf w).pl (s := s) (x := x) (y := y) (z := 0) (t := 0) (u := (s : Int) + 1) c3
    refine W96_70 t1.1 ?_
    refine mp197 t1 (by omega) hs c3 (by omega) rs c2 fun h2 t2 => ⟨rfl, I.ch t2 ?_ ?_ I.ho⟩
    · rw [I.v]
      exact up_comm (by omega)
    · refine ((I.rg.up7 (by omega)).ups4 (by omega)).up8 ?_
      split
      · omega
      · omega
  have full : (0 ≤ x ∧ x < 4) → (x ≠ 0 → 0 ≤ y ∧ y < hvM h 0 0) → s = 10 → yI d 197 [vR (some 137), vI x, vI y] h (fun u h2 => -4 = u ∧ Inv zl nl xs h2) := by
    intro c1 c2 c3
    exact E197 w (by omega) ⟨fun _ => ⟨fun _ => ⟨fun c => ⟨fun c4 => absurd (by omega) c4, fun _ => ⟨rfl, I⟩⟩, fun c => ⟨by omega, fun _ => ⟨fun c4 => absurd (by omega) c4, fun _ => ⟨rfl, I⟩⟩, fun c4 => absurd (by rw [e0]; exact c2 (by omega)) c4⟩⟩, fun c => absurd (by omega) c⟩, fun c => absurd (by omega) c⟩
  refine E96 w (by omega) ⟨fun c => ⟨fun c1 => ⟨fun c2 => ⟨by omega, fun c3 => ?_, fun c3 => ?_⟩, fun c2 => ⟨fun c3 => ⟨by omega, fun c4 => ?_, fun c4 => ?_⟩, fun c3 => ?_⟩⟩, fun c1 => ?_⟩, fun c => ?_⟩
  · exact full c1 (fun q => absurd c2 q) (by omega)
  · exact go c1 (fun q => absurd c2 q) (by omega)
  · exact full c1 (fun _ => by omega) (by omega)
  · exact go c1 (fun _ => by omega) (by omega)
  · exact E197 w (by omega) ⟨fun _ => ⟨fun _ => ⟨fun c4 => by omega, fun c4 => ⟨by omega, fun c5 => absurd (by omega) c3, fun _ => ⟨rfl, I⟩⟩⟩, fun c4 => absurd (by omega) c4⟩, fun c4 => absurd c c4⟩
  · exact E197 w (by omega) ⟨fun _ => ⟨fun c4 => absurd (by omega) c1, fun _ => ⟨rfl, I⟩⟩, fun c4 => absurd c c4⟩
  · have t1 : xD zl nl h (zsetV h 44 1 0) (up (hvC h 33) 0 4 0) (hvM h) := (xD.rf w).c (j := 0) (m := 4) rfl (by decide) (by decide)
    refine E197 t1.1 (by omega) ⟨fun c3 => absurd c3 c, fun _ => ⟨rfl, ?_⟩⟩
    exact I.ch (t1.mm (j := 0) (m := 4) rfl) (by rw [I.v]) (I.rg.ups4 (by omega)) I.ho
/-- book -/
theorem mp199 (q : xD zl nl h h1 σ τ) (hd : 2 ≤ d) (hs : τ 0 5 = (s : Int)) (h8 : s < 8) (hx : 0 ≤ x ∧ x < τ 0 0) (h00 : 0 ≤ τ 0 0 ∧ τ 0 0 ≤ 6) (hy : 0 ≤ y ∧ y ≤ 9999) (k : ∀ h', xD zl nl h h' σ (up (up (up τ 9 s x) 0 5 ((s : Int) + 1)) 10 s y) → K ((s : Int) + 1) h') : yI d 199 [vR (some 137), vI x, vI y] h1 K := by
  have q0 : zV h1 137 0 = τ 0 0 := by rw [← vM0_0, q.2.2.2]
  have q1 : zV h1 137 33 = (s : Int) := by rw [← vM0_5, q.2.2.2, hs]
  have q2 : zV (zsetV h1 158 s x) 137 33 = (s : Int) := q1
  refine E199 q.1 hd ⟨fun _ => ⟨by omega, fun _ => ⟨fun _ => ⟨fun _ => ?_, fun c6 => absurd (by omega) c6⟩, fun c6 => absurd hy c6⟩, fun c6 => absurd (by omega) c6⟩, fun c6 => absurd (by omega) c6⟩
  rw [q1, Int.toNat_natCast, q2, Int.toNat_natCast, zwi (by omega)]
  refine ⟨by omega, ?_⟩
  intro g hg
  have t2 : xD zl nl h g σ (up (up τ 9 s x) 0 5 ((s : Int) + 1)) := by
    rw [← hg]
    exact (q.mm (xM_9 h8)).mm (j := 0) (m := 5) rfl
  refine ⟨by omega, ?_⟩
  intro g2 hg2
  have t3 : xD zl nl h g2 σ (up (up (up τ 9 s x) 0 5 ((s : Int) + 1)) 10 s y) := by
    rw [← hg2]
    exact t2.mm (xM_10 h8)
  have q5 : zV g2 137 33 = (s : Int) + 1 := by rw [← vM0_5, t3.2.2.2]; rfl
  rw [q5]
  exact k _ t3
theorem ap100 (I : Inv zl nl xs h) (hd : 20 ≤ d) : yI d 100 [vR (some 32), vI x, vI y] h (fun t h1 => yI d 199 [vR (some 137), vI x, vI y] h1 (fun u h2 => t = u ∧ Inv zl nl xs h2)) := by
  have w := I.w
  have rt := I.rg.bn
  have rs := I.rg.sz
  have eC := I.sz
  have e0 : zV h 137 0 = hvM h 0 0 := rfl
  have e50 : zV h 46 1 = hvM h 0 5 := by rw [← I.v]; rfl
  have e33 : zV h 137 33 = hvM h 0 5 := rfl
  obtain ⟨s, hs⟩ : ∃ s : Nat, hvM h 0 5 = s := ⟨(hvM h 0 5).toNat, by omega⟩
  refine E100 w (by omega) ⟨fun c => ⟨fun c1 => ⟨fun c2 => ⟨by omega, fun c3 => ?_, fun c3 => ?_⟩, fun c2 => ?_⟩, fun c1 => ?_⟩, fun c => ?_⟩
  · exact E199 w (by omega) ⟨fun _ => ⟨by omega, fun _ => ⟨fun _ => ⟨fun c6 => absurd (by omega) c6, fun _ => ⟨rfl, I⟩⟩, fun c6 => absurd (by omega) c6⟩, fun c6 => absurd (by omega) c6⟩, fun c6 => absurd c c6⟩
  · refine sp41 w (yR13 (a := 33) yH37) (e50.trans hs) (by omega) ?_
    have t1 := (xD.rf w).a9 (s := s) (x := x) (y := y) (z := 0) (t := 0) (u := (s : Int) + 1) (by omega)
    refine W100_71 t1.1 ?_
    refine mp199 t1 (by omega) hs (by omega) (by omega) rs (by omega) fun h2 t2 => ⟨rfl, I.ch t2 ?_ ?_ I.ho⟩
    · rw [I.v]
      exact up_comm (by omega)
    · refine Rg.up10 (Rg.ups5 (I.rg.up9 (by omega) (by omega)) (by omega) (fun k hk => ?_)) (by omega)
      show (if 9 = 9 ∧ k = s then x else hvM h 9 k) < hvM h 0 0
      split
      · omega
      · exact I.rg.bl k (by omega)
  · exact E199 w (by omega) ⟨fun _ => ⟨by omega, fun _ => ⟨fun c6 => absurd (by omega) c2, fun _ => ⟨rfl, I⟩⟩, fun c6 => absurd (by omega) c6⟩, fun c6 => absurd c c6⟩
  · exact E199 w (by omega) ⟨fun _ => ⟨by omega, fun c6 => absurd c6 (by omega), fun _ => ⟨rfl, I⟩⟩, fun c6 => absurd c c6⟩
  · have t1 : xD zl nl h (zsetV h 46 1 0) (up (hvC h 33) 0 5 0) (hvM h) := (xD.rf w).c (j := 0) (m := 5) rfl (by decide) (by decide)
    refine E199 t1.1 (by omega) ⟨fun c3 => absurd c3 c, fun _ => ⟨rfl, ?_⟩⟩
    exact I.ch (t1.mm (j := 0) (m := 5) rfl) (by rw [I.v]) (I.rg.ups5 (by omega) (fun k hk => by omega)) I.ho
end XRW
