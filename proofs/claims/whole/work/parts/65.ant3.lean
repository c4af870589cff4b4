/-! ANTHEMS: seek, and both -/
/-- what stands while SOUNDS and what is SHARED are laid out -/
def xKS (zl : Nat) (nl : Option Nat) (h h2 : Hp) (N : Nat) : Prop := yWF zl nl h2 ∧ Fr xSc h h2 ∧ zV h2 96 4 = (N : Int) ∧ zV h2 96 5 = -1
section XAP
variable {zl : Nat} {nl : Option Nat} {xs : Nat → Int} {h h' h1 h2 h3 H : Hp} {d : Nat} {K : Int → Hp → Prop} {KJ : Int64 → Hp → Prop} {U : Hp → Prop} {a n b j i m o l N dp left sz : Nat} {x y t u B tog : Int} {Sh : Int → Int → Int} {row : Nat → Int} {st : xSt} {σ : Vw} {F : Int → (Nat → Int) → Int}
theorem zshr_e {n : Nat} (hn : n ≤ 6) (hx : zr x) : zshr x (n : Int) = x / 2 ^ n := by
  have e : ((zi (n : Int) &&& 31).toBitVec.smod 32).toNat = n := zb10 ⟨n, by omega⟩
  unfold zshr
  show ((zi x).toBitVec.sshiftRight ((zi (n : Int) &&& 31).toBitVec.smod 32).toNat).toInt = _
  rw [e, BitVec.toInt_sshiftRight, Int.shiftRight_eq_div_pow]
  have q : (zi x).toBitVec.toInt = x := zi_toInt hx
  rw [q, Int.natCast_pow]
  rfl
theorem zshr_0 {n : Nat} (hn : n ≤ 6) (hx : zr x) : zshr x (n : Int) = 0 ↔ 0 ≤ x ∧ x < ((2 ^ n : Nat) : Int) := by
  rw [zshr_e hn hx]
  have c : n = 0 ∨ n = 1 ∨ n = 2 ∨ n = 3 ∨ n = 4 ∨ n = 5 ∨ n = 6 := by omega
  rcases c with rfl | rfl | rfl | rfl | rfl | rfl | rfl
  · show x / 1 = 0 ↔ 0 ≤ x ∧ x < 1; omega
  · show x / 2 = 0 ↔ 0 ≤ x ∧ x < 2; omega
  · show x / 4 = 0 ↔ 0 ≤ x ∧ x < 4; omega
  · show x / 8 = 0 ↔ 0 ≤ x ∧ x < 8; omega
  · show x / 16 = 0 ↔ 0 ≤ x ∧ x < 16; omega
  · show x / 32 = 0 ↔ 0 ≤ x ∧ x < 32; omega
  · show x / 64 = 0 ↔ 0 ≤ x ∧ x < 64; omega
theorem xex_u (hSh : ∀ a b, Sh a b ≤ 6) : ∀ (f left dp : Nat) (row : Nat → Int) (tog : Int) (st : xSt), left < 64 → tog + 6 * (xpop left : Int) ≤ 36 → st.1 ≤ 36 → (xex Sh f left dp row tog st).1 ≤ 36 := by
  intro f
  induction f with
  | zero => intro left dp row tog st h1 h2 h3; exact h3
  | succ f ih =>
    intro left dp row tog st hl hp hs
    show (if left = 0 then (if st.1 < tog then (tog, row) else st) else _ : xSt).1 ≤ 36
    by_cases c : left = 0
    · rw [if_pos c]
      split
      · show tog ≤ 36
        omega
      · exact hs
    · rw [if_neg c]
      have key : ∀ m, m ≤ 6 → (xfo (fun hd st => if left / 2 ^ hd % 2 = 1 then xex Sh f (left - 2 ^ hd) (dp + 1) (xro row dp hd) (xtg Sh row dp hd tog) st else st) m st).1 ≤ 36 := by
        intro m
        induction m with
        | zero => intro _; exact hs
        | succ m ihm =>
          intro h6
          show (if left / 2 ^ m % 2 = 1 then xex Sh f (left - 2 ^ m) (dp + 1) (xro row dp m) (xtg Sh row dp m tog) _ else _ : xSt).1 ≤ 36
          by_cases c2 : left / 2 ^ m % 2 = 1
          · rw [if_pos c2]
            have e3 := bt3 hl (by omega) c2
            have sl := Nat.sub_le left (2 ^ m)
            refine ih _ _ _ _ _ (by omega) ?_ (ihm (by omega))
            unfold xtg
            have := hSh (row (dp - 1)) m
            split
            · omega
            · omega
          · rw [if_neg c2]
            exact ihm (by omega)
      exact key 6 (by decide)
theorem xKS_fr (c : xKS zl nl h h2 N) (w3 : yWF zl nl h3) (f : Fr xSc h2 h3) (e : ∀ k, zV h3 96 k = zV h2 96 k) : xKS zl nl h h3 N := by
  obtain ⟨c1, c2, c3, c4⟩ := c
  exact ⟨w3, c2.trans f, by rw [e]; exact c3, by rw [e]; exact c4⟩
/-- what is SHARED, of all -/
theorem cp84_s (st : xST h) (hd : 1 ≤ d) (r : Rg B (hvC h 33)) (eF : xF h = F) (eσ : hvC h 33 = σ) (hsz : σ 0 0 = (sz : Int)) (h6 : sz ≤ 6) (bf : ∀ i : Nat, i < sz → zV h2 98 i = xsnd F σ i) (c2 : xKS zl nl h h2 N) {l2 : Int} (k : ∀ h', xKS zl nl h h' N → (∀ a b : Nat, a < sz → b < sz → zV h' 97 (6 * a + b) = xSH F σ a b) → ∀ (l3 : Int) (l4 : Option Int), yU (d - 1) 86 [vR (some 96), vI l2, vI 0, vI 0] h' (fun h' => ZW d prog_3_method_2_code 1 109 [some (vR (some 96)), some (vR (some 33)), some (vI l2), some (vI l3), yo l4] [] h' (yq 0 (yqU U)))) : ∀ (m i : Nat) (h3 : Hp) (l4 : Option Int), i + m = sz → xKS zl nl h h3 N → (∀ i : Nat, i < sz → zV h3 98 i = xsnd F σ i) → (∀ a b : Nat, a < i → b < sz → zV h3 97 (6 * a + b) = xSH F σ a b) → ZW d prog_3_method_2_code 1 42 [some (vR (some 96)), some (vR (some 33)), some (vI l2), some (vI (i : Int)), yo l4] [] h3 (yq 0 (yqU U)) := by
  have ez : ∀ {h3 : Hp}, xKS zl nl h h3 N → zV h3 33 10 = (sz : Int) := by
    intro h3 c
    rw [← hsz, ← eσ, ← c.2.1.scC]
    rfl
  intro m
  induction m with
  | zero =>
    intro i h3 l4 hm c bf ss
    obtain rfl : i = sz := by omega
    have e := ez c
    exact W84_42 c.1 yH37 hd ⟨fun _ => k h3 c ss _ l4, fun q => absurd (by omega) q⟩
  | succ m ih =>
    intro i h3 l4 hm c bf ss
    have e := ez c
    refine W84_42 c.1 yH37 hd ⟨fun q => absurd q (by omega), fun _ => ?_⟩
    have lp : ∀ (q j : Nat) (h4 : Hp), j + q = sz → xKS zl nl h h4 N → (∀ i : Nat, i < sz → zV h4 98 i = xsnd F σ i) → (∀ a b : Nat, (a < i ∧ b < sz) ∨ (a = i ∧ b < j) → zV h4 97 (6 * a + b) = xSH F σ a b) → ZW d prog_3_method_2_code 1 53 [some (vR (some 96)), some (vR (some 33)), some (vI l2), some (vI (i : Int)), some (vI (j : Int))] [] h4 (yq 0 (yqU U)) := by
      intro q
      induction q with
      | zero =>
        intro j h4 hj c4 b4 s4
        obtain rfl : j = sz := by omega
        have e := ez c4
        refine W84_53 c4.1 yH37 hd ⟨fun _ => ?_, fun q => absurd (by omega) q⟩
        rw [nz (by omega)]
        exact ih (i + 1) h4 (some _) (by omega) c4 b4 (fun a b ha hb => s4 a b (by omega))
      | succ q ihq =>
        intro j h4 hj c4 b4 s4
        have e := ez c4
        refine W84_53 c4.1 yH37 hd ⟨fun q => absurd q (by omega), fun _ => ⟨by omega, by omega, ?_⟩⟩
        have z1 : zw (zw ((i : Int) * 6) + (j : Int)) = ((6 * i + j : Nat) : Int) := by rw [zwi (x := (i : Int) * 6) (by omega), zwi (by omega)]; omega
        rw [Int.toNat_natCast, Int.toNat_natCast, b4 i (by omega), b4 j (by omega), z1]
        have st4 := c4.2.1.scST st
        refine cp82 c4.1 st4.2.2.1 (fun _ => ydig_r _) (fun _ => ydig_r _) (W84_89 c4.1 yH37 ⟨by omega, ?_⟩)
        rw [Int.toNat_natCast, nz (by omega)]
        refine ihq (j + 1) _ (by omega) (xKS_fr c4 (yWFV c4.1) (Fr.set (Sc4 (by decide))) (fun k => ?_)) (fun k hk => ?_) (fun a b hab => ?_)
        · rw [zV_V, if_neg (by omega)]
        · rw [zV_V, if_neg (by omega)]
          exact b4 k hk
        · rw [zV_V]
          by_cases cc : a = i ∧ b = j
          · obtain ⟨rfl, rfl⟩ := cc
            rw [if_pos ⟨rfl, rfl⟩]
            rfl
          · rw [if_neg (by omega)]
            exact s4 a b (by omega)
    exact lp sz 0 h3 (by omega) c bf (fun a b hab => ss a b (by omega) (by omega))
theorem cp84 (w : yWF zl nl h) (st : xST h) (hd : 20 ≤ d) (r : Rg B (hvC h 33)) (hB : B ≤ 100000) (eF : xF h = F) (eσ : hvC h 33 = σ) (hsz : σ 0 0 = (sz : Int)) (h6 : sz ≤ 6) (hl : left < 2 ^ sz) (k : ∀ h', xCS zl nl h h' (xSH F σ) sz (xpop left) 0 (fun _ => 0) (xex (xSH F σ) 7 left 0 (fun _ => 0) 0 (-1, fun _ => 0)) → U h') : yU d 84 [vR (some 96), vR (some 33), vI (left : Int)] h U := by
  have p6 := pw6 h6
  have hpop : xpop left ≤ sz := zb8 ⟨sz, by omega⟩ ⟨left, by omega⟩ hl
  have ez : ∀ {h3 : Hp}, xKS zl nl h h3 (xpop left) → zV h3 33 10 = (sz : Int) := by
    intro h3 c
    rw [← hsz, ← eσ, ← c.2.1.scC]
    rfl
  refine E84 w yH37 (by omega) (sp85 w (by omega) (W84_5 w yH37 ?_))
  intro g hg
  have c0 : xKS zl nl h g (xpop left) := by
    rw [← hg]
    exact ⟨yWFV (yWFV w), (Fr.set (Sc4 (by decide))).trans (Fr.set (Sc4 (by decide))), rfl, rfl⟩
  have lp : ∀ (m i : Nat) (h3 : Hp), i + m = sz → xKS zl nl h h3 (xpop left) → (∀ j : Nat, j < i → zV h3 98 j = xsnd F σ j) → ZW d prog_3_method_2_code 1 15 [some (vR (some 96)), some (vR (some 33)), some (vI (left : Int)), some (vI (i : Int)), none] [] h3 (yq 0 (yqU U)) := by
    intro m
    induction m with
    | zero =>
      intro i h3 hm c b3
      obtain rfl : i = sz := by omega
      have e := ez c
      refine W84_15 c.1 yH37 (by omega) ⟨fun _ => ?_, fun q => absurd (by omega) q⟩
      refine cp84_s (h2 := h3) (l2 := (left : Int)) st (by omega) r eF eσ hsz h6 b3 c (fun h4 c4 s4 l3 l4 => ?_) i 0 h3 none (by omega) c b3 (fun a b ha => absurd ha (by omega))
      refine cp86 (h := h) (Sh := xSH F σ) (sz := i) (N := xpop left) xSH_r h6 (by omega) 7 (dp := 0) (row := fun _ => 0) (tog := 0) (st := (-1, fun _ => 0)) (by omega) hl (by omega) (by omega) (by decide) (fun i hi => absurd hi (by omega)) ⟨c4.1, c4.2.1, c4.2.2.1, s4, c4.2.2.2, fun q => absurd rfl q, fun i hi => absurd hi (by omega)⟩ fun h5 c5 => W84_109 c5.1 yH37 (k h5 c5)
    | succ m ih =>
      intro i h3 hm c b3
      have e := ez c
      have st3 := c.2.1.scST st
      have r3 : Rg B (hvC h3 33) := by rw [c.2.1.scC]; exact r
      refine W84_15 c.1 yH37 (by omega) ⟨fun q => absurd q (by omega), fun _ => ⟨xHOk c.1 yH37 st3.1 r3 hB, by omega, fun h4 s4 => ⟨by omega, ?_⟩⟩⟩
      rw [Int.toNat_natCast, nz (by omega), xC_sound c.1 yH37 st3.1 r3 (by omega), c.2.1.scF st, c.2.1.scC, eF, eσ]
      have c4 : xKS zl nl h h4 (xpop left) := xKS_fr c (s4.wf c.1) (s4.fr.mono fun b k q => ySc_Sc q) (fun k => s4.V (by unfold ySc; omega) k)
      refine ih (i + 1) _ (by omega) (xKS_fr c4 (yWFV c4.1) (Fr.set (Sc4 (by decide))) (fun k => ?_)) (fun j hj => ?_)
      · rw [zV_V, if_neg (by omega)]
      · rw [zV_V]
        by_cases q : j = i
        · rw [if_pos ⟨rfl, q⟩, q]
        · rw [if_neg (fun r => q r.2), s4.V (by unfold ySc; omega)]
          exact b3 j (by omega)
  exact lp sz 0 g (by omega) c0 (fun j hj => absurd hj (by omega))
/-- anthem -/
theorem ap83 (I : Inv zl nl xs h) (hd : 25 ≤ d) (hx : zr x) : yI d 83 [vR (some 32), vI x, vI y] h (fun t h1 => yI d 189 [vR (some 137), vI x, vI y] h1 (fun u h2 => t = u ∧ Inv zl nl xs h2)) := by
  have w := I.w
  have rs := I.rg.sz
  have eC := I.sz
  have e0 : zV h 137 0 = hvM h 0 0 := rfl
  obtain ⟨sz, hsz⟩ : ∃ sz : Nat, hvM h 0 0 = sz := ⟨(hvM h 0 0).toNat, by omega⟩
  have h6 : sz ≤ 6 := by omega
  have eb : zw (zshl 1 (zV h 137 0) - 1) = ((2 ^ sz : Nat) : Int) - 1 := by
    rw [e0, hsz]
    exact zb6 ⟨sz, by omega⟩
  have p6 := pw6 h6
  have none_ : (y < -1 ∨ 6 ≤ y) → yI d 189 [vR (some 137), vI x, vI y] h (fun u h2 => -1 = u ∧ Inv zl nl xs h2) := by
    intro c
    exact E189 w (by omega) ⟨fun q => by omega, fun _ => ⟨rfl, I⟩⟩
  have ez : zshr x (zV h 33 10) = 0 ↔ 0 ≤ x ∧ x < ((2 ^ sz : Nat) : Int) := by
    rw [eC, hsz]
    exact zshr_0 h6 hx
  refine E83 w (by omega) ⟨fun c => none_ (Or.inl c), fun c => ⟨fun c1 => ⟨fun c2 => ?_, fun c2 => ?_⟩, fun c1 => none_ (by omega)⟩⟩
  · rw [ez] at c2
    obtain ⟨left, rfl⟩ : ∃ left : Nat, x = left := ⟨x.toNat, by omega⟩
    have hl : left < 2 ^ sz := by omega
    have hpop : xpop left ≤ sz := zb8 ⟨sz, by omega⟩ ⟨left, by omega⟩ hl
    have s0 := xex_0 (Sh := xSH (xF h) (hvM h)) (fun a b => (xSH_r a b).1) 7 left 0 (fun _ => 0) 0 (-1, fun _ => 0) (by omega) (by omega) (by decide)
    have u0 := xex_u (Sh := xSH (xF h) (hvM h)) (fun a b => (xSH_r a b).2) 7 left 0 (fun _ => 0) 0 (-1, fun _ => 0) (by omega) (by omega) (by decide)
    refine cp84 (F := xF h) (σ := hvM h) (sz := sz) (left := left) w I.st (by omega) I.rgC (by decide) rfl I.v hsz h6 hl fun h1 k1 => ?_
    obtain ⟨w1, f1, k3, k4, k5, k6, k7⟩ := k1
    have I1 := I.sc w1 f1
    obtain ⟨a1, a2, a3, a4⟩ := xFv I f1
    generalize hr : xex (xSH (xF h) (hvM h)) 7 left 0 (fun _ => 0) 0 (-1, fun _ => 0) = r at s0 u0 k5 k6
    have k6 := k6 (by omega)
    -- the model
    have md : ∀ v : Int, (y = -1 → v = 6 * (xpop left : Int) - r.1) → (y ≠ -1 → v = if y < (xpop left : Int) then r.2 y.toNat else -5) → yI d 189 [vR (some 137), vI (left : Int), vI y] h1 (fun u h2 => v = u ∧ Inv zl nl xs h2) := by
      intro v v1 v2
      have m0 : zV h1 137 0 = (sz : Int) := by rw [← hsz, ← a4]; rfl
      have eb1 : zw (zshl 1 (zV h1 137 0) - 1) = ((2 ^ sz : Nat) : Int) - 1 := by
        rw [m0]
        exact zb6 ⟨sz, by omega⟩
      refine E189 w1 (by omega) ⟨fun _ => ⟨fun _ => ?_, fun q => absurd (by rw [eb1]; omega) q⟩, fun q => absurd (by omega) q⟩
      have c0 : xMS zl nl h1 (zsetV h1 137 45 9999) (xpop left) 0 (fun _ => 0) (-1, fun _ => 0) := ⟨yWFV w1, Fr.set (Sc9 (by decide)), by show (-1 : Int) ≤ -1 ∧ (-1 : Int) ≤ 36; decide, rfl, fun q => absurd rfl q, fun i hi => absurd hi (by omega)⟩
      have go := mp190 (h := h1) (sz := sz) (N := xpop left) I1.mo (by decide) a1 a4 (by rw [a4]; exact hsz) h6 (by omega) 7 (d := d - 1) (left := left) (dp := 0) (row := fun _ => 0) (tog := 0) (st := (-1, fun _ => 0)) (h2 := zsetV h1 137 45 9999) (U := fun h' => ZW d prog_10_method_43_code 8 44 [some (vR (some 137)), some (vI (left : Int)), some (vI y)] [] h' (yq 1 (yqI (fun u h2 => v = u ∧ Inv zl nl xs h2)))) (by omega) hl (by omega) (by omega) (by decide) (fun i hi => absurd hi (by omega)) c0 (fun h2 k2 => ?_)
      · exact go
      · rw [hr] at k2
        obtain ⟨w2, f2, q3, q4, q5, q6⟩ := k2
        refine W189_44 w2 ⟨fun q => ⟨by omega, ?_, I1.sc w2 f2⟩, fun q => ⟨?_, I1.sc w2 f2⟩⟩
        · rw [q5 (by omega) y.toNat (by omega), v2 q]
          by_cases c3 : y < (xpop left : Int)
          · rw [if_pos c3, if_pos (by omega)]
          · rw [if_neg c3, if_neg (by omega)]
        · rw [q4, if_neg (by omega)]
          exact v1 (Classical.byContradiction q)
    refine W83_40 w1 (by omega) ⟨fun q => ⟨fun q2 => ?_, fun q2 => ⟨by omega, ?_⟩⟩, fun q => ?_⟩
    · exact md _ (fun r => absurd r q) (fun _ => by rw [if_neg (by omega)])
    · refine md _ (fun r => absurd r q) (fun _ => ?_)
      rw [if_pos (by omega)]
      exact k6 y.toNat (by omega)
    · refine E88 w1 (W83_52 w1 (md _ (fun _ => ?_) (fun r => absurd r q)))
      rw [k3, k5, zwi (x := 6 * _) (by omega), zwi (by omega)]
  · exact E189 w (by omega) ⟨fun _ => ⟨fun q => absurd (ez.2 (by rw [eb] at q; omega)) c2, fun _ => ⟨rfl, I⟩⟩, fun q => absurd (by omega) q⟩
end XAP
