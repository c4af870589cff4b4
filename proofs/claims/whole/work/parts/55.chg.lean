/-! CHANGES: the calls that change the heads -/
/-- what such a call may write -/
def xNm (b k : Nat) : Prop := xSc b k ∨ xOM b k ∨ (33 ≤ b ∧ b ≤ 47)
def xD (zl : Nat) (nl : Option Nat) (h h2 : Hp) (σ τ : Vw) : Prop := yWF zl nl h2 ∧ Fr xNm h h2 ∧ hvC h2 33 = σ ∧ hvM h2 = τ
/-- the first n of a ROW are 0 -/
def xrz (p : Int) : Nat → Vw → Vw
  | 0, σ => σ
  | n + 1, σ => up (xrz p n σ) 5 (4 * p + n).toNat 0
/-- a new HEAD -/
def xnh (σ : Vw) (n : Nat) (kd v : Int) : Vw := up (xrz n 4 (xab (fun _ => 0) n 6 (up (up (up σ 1 n kd) 2 n v) 3 n 0))) 0 0 ((n : Int) + 1)
section XCH
variable {zl : Nat} {nl : Option Nat} {xs : Nat → Int} {h h' h1 h2 h3 : Hp} {d : Nat} {K : Int → Hp → Prop} {KJ : Int64 → Hp → Prop} {U : Hp → Prop} {a n s b j k i m : Nat} {x y z t B : Int} {M : Nat → Nat → Prop} {σ τ : Vw}
theorem up_comm {j' k' : Nat} (hn : ¬ (j = j' ∧ k = k')) : up (up σ j k x) j' k' y = up (up σ j' k' y) j k x := by
  funext a b
  unfold up
  by_cases c : a = j ∧ b = k
  · by_cases c2 : a = j' ∧ b = k'
    · exact absurd ⟨c.1.symm.trans c2.1, c.2.symm.trans c2.2⟩ hn
    · simp only [if_pos c, if_neg c2]
  · by_cases c2 : a = j' ∧ b = k'
    · simp only [if_neg c, if_pos c2]
    · simp only [if_neg c, if_neg c2]
theorem xrz_o (h5 : j ≠ 5) : xrz x n σ j k = σ j k := by
  induction n with
  | zero => rfl
  | succ n ih =>
    unfold xrz
    rw [← ih]
    exact if_neg (fun q => h5 q.1)
theorem xrz_rg (r : Rg B σ) : Rg B (xrz x n σ) := by
  induction n with
  | zero => exact r
  | succ n ih => exact ih.up5 (by omega)
theorem xnh_rg (r : Rg B σ) (hB : 0 ≤ B) (hn : σ 0 0 = n) (h6 : n < 6) (hx : 0 ≤ x ∧ x ≤ 6) (hy : 0 ≤ y ∧ y ≤ 9) : Rg B (xnh σ n x y) := by
  unfold xnh
  refine Rg.ups0 (xrz_rg (xab_rg (((r.up1 hx).up2 hy).up3 (by omega)) (fun x _ _ => by omega))) (by omega) ?_
  rw [xrz_o (by decide), xab_o (by decide)]
  show σ 0 0 ≤ _
  omega
theorem xnh_6 : xnh σ n x y 0 6 = σ 0 6 := by
  show (if 0 = 0 ∧ 6 = 0 then (n : Int) + 1 else xrz (n : Int) 4 (xab (fun _ => 0) (n : Int) 6 (up (up (up σ 1 n x) 2 n y) 3 n 0)) 0 6) = _
  rw [if_neg (by decide), xrz_o (by decide), xab_o (by decide)]
  rfl
theorem xD.rf (w : yWF zl nl h) : xD zl nl h h (hvC h 33) (hvM h) := ⟨w, Fr.rfl', rfl, rfl⟩
theorem xD.c (t : xD zl nl h h2 σ τ) (e : xcC 33 j m = some (b, n)) (hj : j ≠ 7 ∧ j ≠ 8) (h6 : ¬ (j = 0 ∧ m = 6)) : xD zl nl h (zsetV h2 b n x) (up σ j m x) τ := by
  obtain ⟨w2, f2, v2, u2⟩ := t
  obtain ⟨-, q1, q2, q3, q4⟩ := xcC_inv e
  refine ⟨yWFV w2, f2.trans (Fr.set (Or.inr (Or.inr (by omega)))), by rw [hvC_set e hj h6, v2], ?_⟩
  rw [← u2]
  exact hvM_fr fun c k q => by
    rw [zV_V, if_neg]
    unfold xOM at q
    omega
theorem xD.mm (t : xD zl nl h h2 σ τ) (e : xcM j m = some (b, n)) : xD zl nl h (zsetV h2 b n x) σ (up τ j m x) := by
  obtain ⟨w2, f2, v2, u2⟩ := t
  have q := (xcM_inv e).2
  refine ⟨yWFV w2, f2.trans (Fr.set (Or.inr (Or.inl q))), ?_, by rw [hvM_set e, u2]⟩
  rw [← v2]
  exact hvC_fr (fun c k q1 q2 q3 q4 => by
    rw [zV_V, if_neg]
    unfold xOM at q
    omega) rfl
/-- a cell that no view shows -/
theorem xD.jk {n' : Nat} (t : xD zl nl h h2 σ τ) (e2 : xcC 33 j m = some (b, n')) (e1 : xiC 33 b n = (j, m)) (hn : n' ≠ n) : xD zl nl h (zsetV h2 b n x) σ τ := by
  obtain ⟨w2, f2, v2, u2⟩ := t
  obtain ⟨-, q1, q2, q3, q4⟩ := xcC_inv e2
  refine ⟨yWFV w2, f2.trans (Fr.set (Or.inr (Or.inr (by omega)))), ?_, ?_⟩
  · rw [← v2]
    have key : ∀ j' k', cg (zsetV h2 b n x) (xcC 33 j' k') = cg h2 (xcC 33 j' k') := by
      intro j' k'
      rw [cg_V, if_neg]
      intro c
      have o1 := (xcC_inv c).1
      rw [e1, Prod.mk.injEq] at o1
      rw [← o1.1, ← o1.2, e2] at c
      exact hn (congrArg Prod.snd (Option.some.inj c))
    funext j' k'
    unfold hvC
    show (if j' = 0 ∧ k' = 6 then yho (zP h2 33 12) else _) = _
    rw [key, key]
  · rw [← u2]
    exact hvM_fr fun c k q => by
      rw [zV_V, if_neg]
      unfold xOM at q
      omega
theorem xD.fr (t : xD zl nl h h2 σ τ) (w3 : yWF zl nl h3) (f : Fr M h2 h3) (hM : ∀ b k, M b k → (33 ≤ b ∧ b ≤ 47) ∨ ySc b) {σ' : Vw} (v : hvC h3 33 = σ') : xD zl nl h h3 σ' τ := by
  obtain ⟨w2, f2, v2, u2⟩ := t
  refine ⟨w3, f2.trans (f.mono fun b k q => ?_), v, ?_⟩
  · rcases hM b k q with q | q
    · exact Or.inr (Or.inr q)
    · exact Or.inl (ySc_Sc q)
  · rw [← u2]
    refine f.hvM fun b k q q2 => ?_
    have := hM b k q2
    unfold ySc at this
    unfold xOM at q
    omega
theorem xNm_St : ∀ b k, xStC b k → ¬ xNm b k := by intro b k q; unfold xStC xShC at q; unfold xNm xSc xOM; omega
theorem Inv.ch (I : Inv zl nl xs h) (t : xD zl nl h h2 σ τ) (e : σ = τ) (r : Rg 9999 τ) (ho : τ 0 6 < zV h 137 15) : Inv zl nl xs h2 := by
  obtain ⟨w2, f, v2, u2⟩ := t
  have e15 : zV h2 137 15 = zV h 137 15 := f.V 137 15 (by unfold xNm xSc xOM; omega)
  refine ⟨w2, f.ST I.st xNm_St, ⟨by rw [v2, u2, e], by rw [u2]; exact r, by rw [u2, e15]; exact ho⟩, xShp_fr f (fun b k q => ?_) I.sh, xTx_fr f (fun b k q => ?_) I.tx, xTp_fr f (fun b k q => ?_) I.tp, xAc_fr f (fun b k q => ?_) I.ac, xIm_fr f (fun b k q => ?_) I.im, fun k => ?_⟩
  · unfold xNm xSc xOM; omega
  · unfold xNm xSc xOM; omega
  · unfold xNm xSc xOM; omega
  · unfold xNm xSc xOM; omega
  · unfold xNm xSc xOM; omega
  · rw [f.V 0 k (by unfold xNm xSc xOM; omega)]
    exact I.xss k
theorem Inv.ho (I : Inv zl nl xs h) : hvM h 0 6 < zV h 137 15 := I.nw.2.2
/-- a new HEAD: the class -/
theorem cp11_loop (p : 0 ≤ x ∧ x < 6) (e0 : σ 0 0 = x) (k : ∀ h', xD zl nl h h' (up (xrz x 4 σ) 0 0 (x + 1)) τ → K x h') : ∀ (m i : Nat) (h2 : Hp), i + m = 4 → xD zl nl h h2 (xrz x i σ) τ → ZW d prog_4_method_3_code 2 35 [some (vR (some 33)), some (vI y), some (vI z), some (vI x), some (vI i)] [] h2 (yq 1 (yqI K)) := by
  intro m
  induction m with
  | zero =>
    intro i h2 hm t
    obtain rfl : i = 4 := by omega
    refine W11_35 t.1 yH37 ⟨fun _ => ?_, fun c => absurd (by decide) c⟩
    have e1 : zV h2 33 10 = x := by rw [← vC0_0, t.2.2.1, xrz_o (by decide), e0]
    rw [e1, zwi (by omega)]
    exact k _ (t.c (j := 0) (m := 0) rfl (by decide) (by decide))
  | succ m ih =>
    intro i h2 hm t
    have z1 : zw (zw (x * 4) + (i : Int)) = 4 * x + i := by rw [zwi (x := x * 4) (by omega), zwi (by omega)]; omega
    refine W11_35 t.1 yH37 ⟨fun c => absurd c (by omega), fun c => ?_⟩
    rw [z1, nz (by omega)]
    exact ⟨by omega, ih (i + 1) _ (by omega) (t.c (xC_5 (by omega)) (by decide) (by omega))⟩
theorem cp11 (w : yWF zl nl h) (hd : 4 ≤ d) (hn : hvC h 33 0 0 = n) (h6 : n < 6) (k : ∀ h', xD zl nl h h' (xnh (hvC h 33) n x y) (hvM h) → K n h') : yI d 11 [vR (some 33), vI x, vI y] h K := by
  have e0 : zV h 33 10 = (n : Int) := hn
  refine E11 w yH37 (by omega) ?_
  rw [e0, Int.toNat_natCast]
  refine ⟨by omega, by omega, ?_⟩
  rintro _ rfl
  refine ⟨by omega, ?_⟩
  have t0 := xD.rf w
  have t1 : xD zl nl h (zsetV (zsetV (zsetV h (33 + 1) n x) (33 + 2) n y) (33 + 3) n 0) (up (up (up (hvC h 33) 1 n x) 2 n y) 3 n 0) (hvM h) := ((t0.c (xC_1 h6) (by decide) (by omega)).c (xC_2 h6) (by decide) (by omega)).c (xC_3 h6) (by decide) (by omega)
  refine cp12 t1.1 yH37 (by omega) (by omega) fun h2 w2 f2 v2 => W11_32 w2 yH37 ?_
  rw [t1.2.2.1] at v2
  have t2 := t1.fr w2 f2 (fun b k q => Or.inl (by omega)) v2
  refine cp11_loop (by omega) ?_ k 4 0 h2 rfl t2
  rw [xab_o (by decide)]
  exact hn
/-- a new HEAD: the model -/
theorem mp128_r (h6 : n < 6) (k : ∀ h', xD zl nl h h' σ (up (xrz n 4 τ) 0 0 ((n : Int) + 1)) → K n h') (e0 : τ 0 0 = n) : ∀ (m i : Nat) (h2 : Hp), i + m = 4 → xD zl nl h h2 σ (xrz n i τ) → ZW d prog_10_method_6_code 8 98 [some (vR (some 137)), some (vI y), some (vI z), some (vI i)] [] h2 (yq 1 (yqI K)) := by
  intro m
  induction m with
  | zero =>
    intro i h2 hm t
    obtain rfl : i = 4 := by omega
    have e1 : zV h2 137 0 = n := by rw [← vM0_0, t.2.2.2, xrz_o (by decide), e0]
    refine W128_98 t.1 ⟨fun _ => ?_, fun c => absurd (by decide) c⟩
    rw [e1, zwi (by omega)]
    exact k _ (t.mm (j := 0) (m := 0) rfl)
  | succ m ih =>
    intro i h2 hm t
    have e1 : zV h2 137 0 = n := by rw [← vM0_0, t.2.2.2, xrz_o (by decide), e0]
    have z1 : zw (zw (4 * (n : Int)) + (i : Int)) = 4 * (n : Int) + i := by rw [zwi (x := 4 * (n : Int)) (by omega), zwi (by omega)]
    refine W128_98 t.1 ⟨fun c => absurd c (by omega), fun c => ?_⟩
    rw [e1, z1, nz (by omega)]
    exact ⟨by omega, ih (i + 1) _ (by omega) (t.mm (xM_5 (by omega)))⟩
theorem mp128_b (h6 : n < 6) (e0 : τ 0 0 = n) (k : ∀ h', xD zl nl h h' σ (xab (fun _ => 0) n 6 τ) → ZW d prog_10_method_6_code 8 98 [some (vR (some 137)), some (vI y), some (vI z), some (vI 0)] [] h' (yq 1 (yqI K))) : ∀ (m i : Nat) (h2 : Hp), i + m = 6 → xD zl nl h h2 σ (xab (fun _ => 0) n i τ) → ZW d prog_10_method_6_code 8 69 [some (vR (some 137)), some (vI y), some (vI z), some (vI i)] [] h2 (yq 1 (yqI K)) := by
  intro m
  induction m with
  | zero =>
    intro i h2 hm t
    obtain rfl : i = 6 := by omega
    exact W128_69 t.1 ⟨fun _ => k h2 t, fun c => absurd (by decide) c⟩
  | succ m ih =>
    intro i h2 hm t
    have e1 : zV h2 137 0 = n := by rw [← vM0_0, t.2.2.2, xab_o (by decide), e0]
    have z1 : zw (zw (6 * (n : Int)) + (i : Int)) = 6 * (n : Int) + i := by rw [zwi (x := 6 * (n : Int)) (by omega), zwi (by omega)]
    refine W128_69 t.1 ⟨fun c => absurd c (by omega), fun c => ?_⟩
    rw [e1, z1, nz (by omega)]
    exact ⟨by omega, ih (i + 1) _ (by omega) (t.mm (xM_4 (by omega)))⟩
/-- head -/
theorem ap9 (I : Inv zl nl xs h) (hd : 20 ≤ d) : yI d 9 [vR (some 32), vI x, vI y] h (fun t h1 => yI d 128 [vR (some 137), vI x, vI y] h1 (fun u h2 => t = u ∧ Inv zl nl xs h2)) := by
  have w := I.w
  have rs := I.rg.sz
  have eC := I.sz
  have e0 : zV h 137 0 = hvM h 0 0 := rfl
  obtain ⟨n, hn⟩ : ∃ n : Nat, hvM h 0 0 = n := ⟨(hvM h 0 0).toNat, by omega⟩
  refine E9 w (by omega) ⟨fun c => ⟨fun c1 => ⟨fun c2 => ?_, fun c2 => ?_⟩, fun c1 => ?_⟩, fun c => ?_⟩
  · refine cp11 w (by omega) (n := n) (by rw [I.v]; exact hn) (by omega) fun h1 t1 => W9_49 t1.1 ?_
    have e1 : zV h1 137 0 = (n : Int) := by rw [← vM0_0, t1.2.2.2, hn]
    refine E128 t1.1 (by omega) ⟨fun _ => ⟨fun _ => ⟨fun _ => ?_, fun c3 => absurd (by omega) c3⟩, fun c3 => absurd (by omega) c3⟩, fun c3 => absurd (by omega) c3⟩
    have e2 : zV (zsetV h1 138 n x) 137 0 = (n : Int) := e1
    have e3 : zV (zsetV (zsetV h1 138 n x) 139 n y) 137 0 = (n : Int) := e1
    rw [e1, Int.toNat_natCast, e2, Int.toNat_natCast]
    refine ⟨by omega, by omega, ?_⟩
    rintro _ rfl
    rw [e3, Int.toNat_natCast]
    refine ⟨by omega, ?_⟩
    have t2 := ((t1.mm (x := x) (xM_1 (k := n) (by omega))).mm (x := y) (xM_2 (k := n) (by omega))).mm (x := 0) (xM_3 (k := n) (by omega))
    refine mp128_b (τ := up (up (up (hvM h) 1 n x) 2 n y) 3 n 0) (by omega) hn (fun h2 t3 => ?_) 6 0 _ rfl t2
    refine mp128_r (τ := xab (fun _ => 0) n 6 (up (up (up (hvM h) 1 n x) 2 n y) 3 n 0)) (by omega) (fun h3 t4 => ⟨rfl, ?_⟩) ?_ 4 0 h2 rfl t3
    · rw [xab_o (by decide)]
      exact hn
    · refine I.ch t4 (by rw [I.v]; rfl) (xnh_rg I.rg (by decide) hn (by omega) (by omega) (by omega)) ?_
      have : xnh (hvM h) n x y 0 6 = hvM h 0 6 := xnh_6
      show xnh (hvM h) n x y 0 6 < _
      rw [this]
      exact I.ho
  · exact E128 w (by omega) ⟨fun _ => ⟨fun _ => ⟨fun c3 => absurd (by omega) c3, fun c3 => ⟨rfl, I⟩⟩, fun c3 => absurd (by omega) c3⟩, fun c3 => absurd (by omega) c3⟩
  · exact E128 w (by omega) ⟨fun _ => ⟨fun c3 => absurd c3 (by omega), fun c3 => ⟨rfl, I⟩⟩, fun c3 => absurd (by omega) c3⟩
  · exact E128 w (by omega) ⟨fun c3 => absurd c3 (by omega), fun c3 => ⟨rfl, I⟩⟩
/-- press -/
theorem ap37 (I : Inv zl nl xs h) (hd : 20 ≤ d) : yI d 37 [vR (some 32), vI x, vI y, vI z] h (fun t h1 => yI d 150 [vR (some 137), vI x, vI y, vI z] h1 (fun u h2 => t = u ∧ Inv zl nl xs h2)) := by
  have w := I.w
  have rs := I.rg.sz
  have eC := I.sz
  have e0 : zV h 137 0 = hvM h 0 0 := rfl
  refine E37 w (by omega) ⟨fun c => ⟨fun c1 => ⟨fun c2 => ⟨by omega, by omega, ?_⟩, fun c2 => ?_⟩, fun c1 => ?_⟩, fun c => ?_⟩
  · have hk : (6 * x + y).toNat < 36 := by omega
    have t1 := (xD.rf w).c (x := z) (xC_4 hk) (by decide) (by omega)
    have e1 : zV (zsetV h (33 + 4) (6 * x + y).toNat z) 137 0 = hvM h 0 0 := by rw [← vM0_0, t1.2.2.2]
    have z1 : zw (zw (6 * x) + y) = 6 * x + y := by rw [zwi (x := 6 * x) (by omega), zwi (by omega)]
    refine E150 t1.1 (by omega) ⟨by omega, fun _ => ⟨fun _ => ⟨fun _ => ?_, fun c3 => absurd c2 c3⟩, fun c3 => absurd c1 c3⟩, fun c3 => absurd (by omega) c3⟩
    rw [z1]
    refine ⟨by omega, by omega, ?_, ?_⟩
    · rw [← vM_4 hk, t1.2.2.2, ← I.v, vC_4 hk]
    · exact I.ch (t1.mm (xM_4 hk)) (by rw [I.v]) (I.rg.up4 (by omega)) I.ho
  · exact E150 w (by omega) ⟨by omega, fun _ => ⟨fun _ => ⟨fun c3 => absurd c3 c2, fun _ => ⟨rfl, I⟩⟩, fun c3 => absurd c1 c3⟩, fun c3 => absurd (by omega) c3⟩
  · exact E150 w (by omega) ⟨by omega, fun _ => ⟨fun c3 => absurd c3 c1, fun _ => ⟨rfl, I⟩⟩, fun c3 => absurd (by omega) c3⟩
  · exact E150 w (by omega) ⟨by omega, fun c3 => absurd c3 (by omega), fun _ => ⟨rfl, I⟩⟩
/-- row -/
theorem ap42 (I : Inv zl nl xs h) (hd : 20 ≤ d) : yI d 42 [vR (some 32), vI x, vI y, vI z] h (fun t h1 => yI d 153 [vR (some 137), vI x, vI y, vI z] h1 (fun u h2 => t = u ∧ Inv zl nl xs h2)) := by
  have w := I.w
  have rs := I.rg.sz
  have eC := I.sz
  have e0 : zV h 137 0 = hvM h 0 0 := rfl
  refine E42 w (by omega) ⟨fun c => ⟨fun c1 => ⟨fun c2 => ⟨by omega, fun c3 => ?_, fun c3 => ?_⟩, fun c2 => ?_⟩, fun c1 => ?_⟩, fun c => ?_⟩
  · have hk : (4 * x + y).toNat < 24 := by omega
    have z1 : zw (zw (x * 4) + y) = 4 * x + y := by rw [zwi (x := x * 4) (by omega), zwi (by omega)]; omega
    have z2 : zw (zw (4 * x) + y) = 4 * x + y := by rw [zwi (x := 4 * x) (by omega), zwi (by omega)]
    rw [z1]
    refine ⟨by omega, by omega, ?_⟩
    have t1 : xD zl nl h (zsetV h 38 (4 * x + y).toNat z) (up (hvC h 33) 5 (4 * x + y).toNat z) (hvM h) := (xD.rf w).c (x := z) (xC_5 hk) (by decide) (by omega)
    have e1 : zV (zsetV h 38 (4 * x + y).toNat z) 137 0 = hvM h 0 0 := by rw [← vM0_0, t1.2.2.2]
    have e2 : zV (zsetV h 38 (4 * x + y).toNat z) 138 x.toNat = 6 := by
      rw [← vM_1 (by omega), t1.2.2.2, ← I.v, vC_1 (by omega)]
      exact c3
    refine E153 t1.1 (by omega) ⟨by omega, fun _ => ⟨fun _ => ⟨fun _ => ⟨by omega, fun _ => ?_, fun c4 => absurd e2 c4⟩, fun c4 => absurd (by omega) c4⟩, fun c4 => absurd (by omega) c4⟩, fun c4 => absurd (by omega) c4⟩
    rw [z2]
    refine ⟨by omega, by omega, ?_, ?_⟩
    · rw [← vM_5 hk, t1.2.2.2, ← I.v, vC_5 hk]
    · exact I.ch (t1.mm (xM_5 hk)) (by rw [I.v]) (I.rg.up5 (by omega)) I.ho
  · have e2 : zV h 138 x.toNat = zV h 34 x.toNat := by
      rw [← vM_1 (by omega), ← I.v, vC_1 (by omega)]
    exact E153 w (by omega) ⟨by omega, fun _ => ⟨fun _ => ⟨fun _ => ⟨by omega, fun c4 => absurd (e2.symm.trans c4) c3, fun _ => ⟨rfl, I⟩⟩, fun c4 => absurd (by omega) c4⟩, fun c4 => absurd (by omega) c4⟩, fun c4 => absurd (by omega) c4⟩
  · exact E153 w (by omega) ⟨by omega, fun _ => ⟨fun _ => ⟨fun c3 => absurd c3 (by omega), fun _ => ⟨rfl, I⟩⟩, fun c3 => absurd (by omega) c3⟩, fun c3 => absurd (by omega) c3⟩
  · exact E153 w (by omega) ⟨by omega, fun _ => ⟨fun c3 => absurd c3 (by omega), fun _ => ⟨rfl, I⟩⟩, fun c3 => absurd (by omega) c3⟩
  · exact E153 w (by omega) ⟨by omega, fun c3 => absurd c3 (by omega), fun _ => ⟨rfl, I⟩⟩
end XCH
