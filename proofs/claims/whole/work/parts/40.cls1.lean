/-! WHAT THE YEARS DO, of views -/
def xca (x : Int) : Int := ymin (x + 1) 9999
def xcm (x : Int) : Int := x + 1
def xgi (y : Int) (n : Nat) : Nat := 6 * n + ((y + n) % 6).toNat
def xgb (gr : Bool) (y : Int) (n : Nat) (σ : Vw) : Vw := if gr = true then up σ 4 (xgi y n) ((σ 4 (xgi y n) + 1) % 10) else σ
def xgs (ca : Int → Int) (gr : Bool) (y : Int) (n : Nat) (σ : Vw) : Vw := up (xgb gr y n σ) 3 n (ca (xgb gr y n σ 3 n))
def xgh (ca : Int → Int) (gr : Bool) (y : Int) : Nat → Vw → Vw
  | 0, σ => σ
  | n + 1, σ => xgs ca gr y n (xgh ca gr y n σ)
def xgr (G : Int → Int) (σ : Vw) : Bool := decide (0 < G (σ 0 6) ∧ σ 0 1 % G (σ 0 6) = 0)
/-- a YEAR goes -/
def xgy (ca : Int → Int) (G : Int → Int) (σ : Vw) : Vw := up (xgh ca (xgr G σ) (σ 0 1) (σ 0 0).toNat σ) 0 1 (σ 0 1 + 1)
def xit (ca : Int → Int) (G : Int → Int) : Nat → Vw → Vw
  | 0, σ => σ
  | n + 1, σ => xgy ca G (xit ca G n σ)
/-- the first n BUMPS of a HEAD -/
def xab (f : Int → Int) (p : Int) : Nat → Vw → Vw
  | 0, σ => σ
  | n + 1, σ => up (xab f p n σ) 4 (6 * p + n).toNat (f (xab f p n σ 4 (6 * p + n).toNat))
def xps (ca : Int → Int) (G : Int → Int) (σ : Vw) (r : Nat) : Vw := if σ 7 r = 0 then xgy ca G σ else if σ 7 r = 1 then xab (fun _ => 0) (σ 8 r) 6 σ else if σ 7 r = 2 then up σ 3 (σ 8 r).toNat 0 else xab (fun x => (x + 1) % 10) (σ 8 r) 6 σ
def xpn (ca : Int → Int) (G : Int → Int) : Nat → Vw → Vw
  | 0, σ => σ
  | n + 1, σ => xps ca G (xpn ca G n σ) n
section XGY
variable {σ τ : Vw} {ca : Int → Int} {G : Int → Int} {gr : Bool} {y B p : Int} {n j k : Nat} {f : Int → Int}
theorem up_ne (h : ¬ (j = n ∧ k = p.toNat)) {x : Int} : up σ n p.toNat x j k = σ j k := if_neg h
theorem xgs_o (h3 : j ≠ 3) (h4 : j ≠ 4) : xgs ca gr y n σ j k = σ j k := by
  unfold xgs up
  rw [if_neg (fun q => h3 q.1)]
  unfold xgb
  split
  · exact if_neg (fun q => h4 q.1)
  · rfl
theorem xgh_o (h3 : j ≠ 3) (h4 : j ≠ 4) : xgh ca gr y n σ j k = σ j k := by
  induction n with
  | zero => rfl
  | succ n ih => unfold xgh; rw [xgs_o h3 h4, ih]
theorem xgy_o (h0 : ¬ (j = 0 ∧ k = 1)) (h3 : j ≠ 3) (h4 : j ≠ 4) : xgy ca G σ j k = σ j k := by
  unfold xgy up
  rw [if_neg h0, xgh_o h3 h4]
theorem xgy_y : xgy ca G σ 0 1 = σ 0 1 + 1 := by
  unfold xgy up
  rw [if_pos ⟨rfl, rfl⟩]
theorem xit_o (h0 : ¬ (j = 0 ∧ k = 1)) (h3 : j ≠ 3) (h4 : j ≠ 4) : xit ca G n σ j k = σ j k := by
  induction n with
  | zero => rfl
  | succ n ih => unfold xit; rw [xgy_o h0 h3 h4, ih]
theorem xit_y : xit ca G n σ 0 1 = σ 0 1 + n := by
  induction n with
  | zero => show σ 0 1 = σ 0 1 + ((0 : Nat) : Int); omega
  | succ n ih => unfold xit; rw [xgy_y, ih]; omega
theorem xab_o (h4 : j ≠ 4) : xab f p n σ j k = σ j k := by
  induction n with
  | zero => rfl
  | succ n ih =>
    unfold xab
    rw [← ih]
    exact if_neg (fun q => h4 q.1)
theorem xgs_rg (r : Rg B σ) (hca : ∀ x, 0 ≤ x → x ≤ B → 0 ≤ ca x ∧ ca x ≤ B) : Rg B (xgs ca gr y n σ) := by
  have r2 : Rg B (xgb gr y n σ) := by
    unfold xgb
    split
    · exact r.up4 (by omega)
    · exact r
  exact r2.up3 (hca _ (r2.ag n).1 (r2.ag n).2)
/-- years go, and the numbers stay in order; ages that stand at B0 at most stand at B0 + 1 at most -/
theorem xgh_ag (r : Rg B σ) (hca : ∀ x, 0 ≤ x → 0 ≤ ca x ∧ ca x ≤ x + 1) : Rg (B + 1) (xgh ca gr y n σ) ∧ ∀ k, n ≤ k → xgh ca gr y n σ 3 k ≤ B := by
  induction n with
  | zero => exact ⟨r.mono (by omega), fun k _ => (r.ag k).2⟩
  | succ n ih =>
    obtain ⟨i1, i2⟩ := ih
    have r2 : Rg (B + 1) (xgb gr y n (xgh ca gr y n σ)) := by
      unfold xgb
      split
      · exact i1.up4 (by omega)
      · exact i1
    have e : ∀ k, xgb gr y n (xgh ca gr y n σ) 3 k = xgh ca gr y n σ 3 k := by
      intro k
      unfold xgb
      split
      · exact if_neg (fun q => by omega)
      · rfl
    have q := i2 n (Nat.le_refl n)
    have q0 := (i1.ag n).1
    have q2 := hca _ q0
    refine ⟨?_, fun k hk => ?_⟩
    · unfold xgh xgs
      refine r2.up3 ?_
      rw [e]
      omega
    · show (if 3 = 3 ∧ k = n then _ else xgb gr y n (xgh ca gr y n σ) 3 k) ≤ B
      rw [if_neg (by omega), e]
      exact i2 k (by omega)
theorem xgy_rg (r : Rg B σ) (hca : ∀ x, 0 ≤ x → 0 ≤ ca x ∧ ca x ≤ x + 1) : Rg (B + 1) (xgy ca G σ) := by
  have := r.yr
  exact (xgh_ag r hca).1.ups1 (by omega)
theorem xca_r : ∀ x, 0 ≤ x → 0 ≤ xca x ∧ xca x ≤ x + 1 := by
  intro x hx
  unfold xca ymin
  split <;> omega
theorem xcm_r : ∀ x, 0 ≤ x → 0 ≤ xcm x ∧ xcm x ≤ x + 1 := by
  intro x hx
  unfold xcm
  omega
theorem xit_rg (r : Rg B σ) (hca : ∀ x, 0 ≤ x → 0 ≤ ca x ∧ ca x ≤ x + 1) : Rg (B + n) (xit ca G n σ) := by
  induction n with
  | zero => exact r.mono (by omega)
  | succ n ih => exact (xgy_rg ih hca).mono (by omega)
theorem xab_rg (r : Rg B σ) (hf : ∀ x, 0 ≤ x → x ≤ 9 → 0 ≤ f x ∧ f x ≤ 9) : Rg B (xab f p n σ) := by
  induction n with
  | zero => exact r
  | succ n ih => exact ih.up4 (hf _ (ih.bu _).1 (ih.bu _).2)
theorem xps_rg (r : Rg B σ) (hB : 0 ≤ B) (hca : ∀ x, 0 ≤ x → 0 ≤ ca x ∧ ca x ≤ x + 1) : Rg (B + 1) (xps ca G σ n) := by
  unfold xps
  split
  · exact xgy_rg r hca
  · split
    · exact (xab_rg r (fun x _ _ => by omega)).mono (by omega)
    · split
      · exact (r.up3 (by omega)).mono (by omega)
      · exact (xab_rg r (fun x _ _ => by omega)).mono (by omega)
theorem xpn_rg (r : Rg B σ) (hB : 0 ≤ B) (hca : ∀ x, 0 ≤ x → 0 ≤ ca x ∧ ca x ≤ x + 1) : Rg (B + n) (xpn ca G n σ) := by
  induction n with
  | zero => exact r.mono (by omega)
  | succ n ih => exact (xps_rg ih (by omega) hca).mono (by omega)
theorem xps_o (h0 : ¬ (j = 0 ∧ k = 1)) (h3 : j ≠ 3) (h4 : j ≠ 4) : xps ca G σ n j k = σ j k := by
  unfold xps
  split
  · exact xgy_o h0 h3 h4
  · split
    · exact xab_o h4
    · split
      · exact if_neg (fun q => h3 q.1)
      · exact xab_o h4
theorem xpn_o (h0 : ¬ (j = 0 ∧ k = 1)) (h3 : j ≠ 3) (h4 : j ≠ 4) : xpn ca G n σ j k = σ j k := by
  induction n with
  | zero => rfl
  | succ n ih => unfold xpn; rw [xps_o h0 h3 h4, ih]
end XGY
/-! THE CLASS: houses -/
/-- what the methods of a house may change -/
def xHm (a : Nat) (b k : Nat) : Prop := b = a + 3 ∨ b = a + 4 ∨ (b = a ∧ k = 11) ∨ ySc b
section XC1
variable {zl : Nat} {nl : Option Nat} {h : Hp} {d : Nat} {K : Int → Hp → Prop} {U : Hp → Prop} {a n s b : Nat} {x y z B : Int}
theorem nz {i : Nat} (hi : i < 100000) : zw ((i : Int) + 1) = ((i + 1 : Nat) : Int) := by rw [zwi (by omega)]; rfl
theorem xHm_Sh (ha : yHs a) : ∀ b k, xShC b → ¬ xHm a b k := by
  intro b k q
  unfold xShC at q
  unfold xHm ySc
  rcases ha with rfl | rfl | rfl <;> omega
theorem cp77_loop (w0 : yWF zl nl h) (ha : yHs a) (hd : 5 ≤ d) (so : xSO h) (r : Rg B (hvC h a)) (hB : B ≤ 100000) (S : Nat → Nat → Int) (hS : ∀ p i, p < 6 → i < 6 → S p (i + 1) = S p i + xN (xF h) (hvC h a) p i) (hS2 : ∀ p, S (p + 1) 0 = S p 6) (hSr : ∀ p i, p ≤ 6 → i ≤ 6 → -1000 ≤ S p i ∧ S p i ≤ 1000) (k : ∀ h', ySm h h' → K (S (hvC h a 0 0).toNat 0) h') : ∀ (m p : Nat) (h2 : Hp) (l3 : Option Int), (p : Int) + m = hvC h a 0 0 → ySm h h2 → ZW d prog_4_method_18_code 2 4 [some (vR (some a)), some (vI (S p 0)), some (vI p), yo l3] [] h2 (yq 1 (yqI K)) := by
  have rs := r.sz
  intro m
  induction m with
  | zero =>
    intro p h2 l3 hm s2
    have e0 : zV h2 a 10 = hvC h a 0 0 := by rw [← s2.hvC ha]; rfl
    refine W77_4 (s2.wf w0) ha ⟨fun _ => ?_, fun c => absurd (by omega) c⟩
    have : p = (hvC h a 0 0).toNat := by omega
    rw [this]
    exact k h2 s2
  | succ m ih =>
    intro p h2 l3 hm s2
    have e0 : zV h2 a 10 = hvC h a 0 0 := by rw [← s2.hvC ha]; rfl
    refine W77_4 (s2.wf w0) ha ⟨fun c => absurd c (by omega), fun c => ?_⟩
    have lp : ∀ (q i : Nat) (h3 : Hp), i + q = 6 → ySm h h3 → ZW d prog_4_method_18_code 2 14 [some (vR (some a)), some (vI (S p i)), some (vI p), some (vI i)] [] h3 (yq 1 (yqI K)) := by
      intro q
      induction q with
      | zero =>
        intro i h3 hi s3
        obtain rfl : i = 6 := by omega
        refine W77_14 (s3.wf w0) ha (by omega) ⟨fun _ => ?_, fun c => absurd (by decide) c⟩
        rw [nz (by omega), ← hS2]
        exact ih (p + 1) h3 (some 6) (by omega) s3
      | succ q ih2 =>
        intro i h3 hi s3
        refine W77_14 (s3.wf w0) ha (by omega) ⟨fun c => absurd c (by omega), fun c => ⟨s3.ok w0 ha (xHOk w0 ha so r hB), by omega, fun h4 s4 => ?_⟩⟩
        rw [s3.note, xC_note w0 ha so r (by omega), nz (by omega)]
        have q1 := hSr p (i + 1) (by omega) (by omega)
        rw [hS p i (by omega) (by omega)] at q1
        rw [zwi (by omega), ← hS p i (by omega) (by omega)]
        exact ih2 (i + 1) h4 (by omega) (s3.trans s4)
    exact lp 6 0 h2 rfl s2
end XC1
/-- all NOTES of the first HEADS -/
def xsmI (f : Int → Int) : Nat → Int
  | 0 => 0
  | n + 1 => xsmI f n + f n
def xsm (f : Int → Int → Int) : Nat → Int
  | 0 => 0
  | n + 1 => xsm f n + xsmI (f n) 6
def xall (F : Int → (Nat → Int) → Int) (σ : Vw) : Int := xsm (xN F σ) (σ 0 0).toNat
theorem xN_r (F : Int → (Nat → Int) → Int) (σ : Vw) (p i : Int) : 0 ≤ xN F σ p i ∧ xN F σ p i ≤ 9 := by
  have := ydig_r (xpit F σ p i)
  unfold xN
  omega
theorem xsmI_r {f : Int → Int} (hf : ∀ i, 0 ≤ f i ∧ f i ≤ 9) (n : Nat) : 0 ≤ xsmI f n ∧ xsmI f n ≤ 9 * n := by
  induction n with
  | zero => exact ⟨Int.le_refl _, Int.le_refl _⟩
  | succ n ih => have := hf n; unfold xsmI; omega
theorem xsm_r {f : Int → Int → Int} (hf : ∀ p i, 0 ≤ f p i ∧ f p i ≤ 9) (n : Nat) : 0 ≤ xsm f n ∧ xsm f n ≤ 54 * n := by
  induction n with
  | zero => exact ⟨Int.le_refl _, Int.le_refl _⟩
  | succ n ih => have := xsmI_r (hf n) 6; unfold xsm; omega
section XC1b
variable {zl : Nat} {nl : Option Nat} {h : Hp} {d : Nat} {K : Int → Hp → Prop} {U : Hp → Prop} {a n s b : Nat} {x y z B : Int}
theorem cp77 (w : yWF zl nl h) (ha : yHs a) (hd : 5 ≤ d) (so : xSO h) (r : Rg B (hvC h a)) (hB : B ≤ 100000) (k : ∀ h', ySm h h' → K (xall (xF h) (hvC h a)) h') : yI d 77 [vR (some a)] h K := by
  have rs := r.sz
  refine E77 w ha ?_
  refine cp77_loop w ha hd so r hB (fun p i => xsm (xN (xF h) (hvC h a)) p + xsmI (xN (xF h) (hvC h a) p) i) (fun p i _ _ => ?_) (fun p => ?_) (fun p i hp hi => ?_) (fun h' s' => ?_) (hvC h a 0 0).toNat 0 h none (by omega) (ySm.refl h)
  · show xsm _ p + xsmI _ (i + 1) = xsm _ p + xsmI _ i + _
    rw [xsmI]
    omega
  · show xsm _ (p + 1) + xsmI _ 0 = xsm _ p + xsmI _ 6
    rw [xsm]
    show _ + 0 = _
    omega
  · have q1 := xsm_r (xN_r (xF h) (hvC h a)) p
    have q2 := xsmI_r (xN_r (xF h) (hvC h a) p) i
    show -1000 ≤ xsm _ p + xsmI _ i ∧ xsm _ p + xsmI _ i ≤ 1000
    omega
  · have q := k h' s'
    show K (xsm _ _ + 0) h'
    rw [Int.add_zero]
    exact q
/-- a YEAR goes in a house -/
theorem cp30_loop (w0 : yWF zl nl h) (ha : yHs a) (hd : 2 ≤ d) (r : Rg B (hvC h a)) (hB : B ≤ 50000) (gr : Bool) (l1 : Int) (hl : l1 = if gr = true then 1 else 0) (k : ∀ h', yWF zl nl h' → Fr (xHm a) h h' → hvC h' a = up (xgh xca gr (hvC h a 0 1) (hvC h a 0 0).toNat (hvC h a)) 0 1 (hvC h a 0 1 + 1) → U h') : ∀ (m i : Nat) (h2 : Hp), (i : Int) + m = hvC h a 0 0 → yWF zl nl h2 → Fr (xHm a) h h2 → hvC h2 a = xgh xca gr (hvC h a 0 1) i (hvC h a) → ZW d prog_4_method_10_code 2 33 [some (vR (some a)), some (vI l1), some (vI i)] [] h2 (yq 0 (yqU U)) := by
  have rs := r.sz
  have ry := r.yr
  intro m
  induction m with
  | zero =>
    intro i h2 hm w2 f2 v2
    have e0 : zV h2 a 10 = hvC h a 0 0 := by rw [← vC0_0, v2, xgh_o (by decide) (by decide)]
    have e1 : zV h2 a 11 = hvC h a 0 1 := by rw [← vC0_1, v2, xgh_o (by decide) (by decide)]
    refine W30_33 w2 ha hd ⟨fun _ => ?_, fun c => absurd (by omega) c⟩
    refine k _ (yWFV w2) (f2.trans (Fr.set (Or.inr (Or.inr (Or.inl ⟨rfl, rfl⟩))))) ?_
    rw [hvC_set (j := 0) (k := 1) (by simp [xcC]) (by decide) (by decide), v2, e1, zwi (by omega)]
    have : i = (hvC h a 0 0).toNat := by omega
    rw [this]
  | succ m ih =>
    intro i h2 hm w2 f2 v2
    have e0 : zV h2 a 10 = hvC h a 0 0 := by rw [← vC0_0, v2, xgh_o (by decide) (by decide)]
    have e1 : zV h2 a 11 = hvC h a 0 1 := by rw [← vC0_1, v2, xgh_o (by decide) (by decide)]
    have ei : (i : Int).toNat = i := Int.toNat_natCast i
    obtain ⟨rg2, -⟩ := xgh_ag (gr := gr) (y := hvC h a 0 1) (n := i) r xca_r
    rw [← v2] at rg2
    have a2 := rg2.ag i
    have ca : ∀ {t : Int}, 0 ≤ t ∧ t ≤ B + 1 → ymin (zw (t + 1)) 9999 = xca t := by
      intro t ht
      rw [zwi (by omega)]
      rfl
    refine W30_33 w2 ha hd ⟨fun c => absurd c (by omega), fun c => ⟨fun c1 => ?_, fun c1 => ?_⟩⟩
    · have hg : gr = false := by cases gr with | false => rfl | true => simp at hl; omega
      refine ⟨by omega, by omega, ?_⟩
      rw [nz (by omega), ei, ← vC_3 (by omega), ca a2]
      refine ih (i + 1) _ (by omega) (yWFV w2) (f2.trans (Fr.set (Or.inl rfl))) ?_
      rw [hvC_set (xC_3 (by omega)) (by decide) (by omega)]
      show _ = xgs xca gr (hvC h a 0 1) i (xgh xca gr (hvC h a 0 1) i (hvC h a))
      unfold xgs xgb
      rw [hg, if_neg (by decide), ← hg, ← v2]
    · have hg : gr = true := by cases gr with | true => rfl | false => simp at hl; omega
      have em := Int.emod_lt_of_pos (hvC h a 0 1 + i) (show (0 : Int) < 6 by decide)
      have en := Int.emod_nonneg (hvC h a 0 1 + i) (show (6 : Int) ≠ 0 by decide)
      rw [e1, zwi (x := hvC h a 0 1 + i) (by omega), zrem_nn (x := hvC h a 0 1 + i) (by omega) (by decide)]
      refine ⟨by omega, by omega, by omega, ?_⟩
      rintro _ rfl
      have ex : (6 * (i : Int) + (hvC h a 0 1 + i) % 6).toNat = xgi (hvC h a 0 1) i := by unfold xgi; omega
      have ek : xgi (hvC h a 0 1) i < 36 := by unfold xgi; omega
      have b2 := rg2.bu (xgi (hvC h a 0 1) i)
      rw [ex, nz (by omega), ei]
      have e4 : zrem (zw (zV h2 (a + 4) (xgi (hvC h a 0 1) i) + 1)) 10 = (hvC h2 a 4 (xgi (hvC h a 0 1) i) + 1) % 10 := by
        rw [← vC_4 ek, zwi (by omega), zrem_nn (by omega) (by decide)]
      rw [e4]
      have v3 : hvC (zsetV h2 (a + 4) (xgi (hvC h a 0 1) i) ((hvC h2 a 4 (xgi (hvC h a 0 1) i) + 1) % 10)) a = xgb gr (hvC h a 0 1) i (hvC h2 a) := by
        rw [hvC_set (xC_4 ek) (by decide) (by omega)]
        unfold xgb
        rw [if_pos hg]
      have e3 : xgb gr (hvC h a 0 1) i (hvC h2 a) 3 i = hvC h2 a 3 i := by
        unfold xgb
        rw [if_pos hg]
        exact if_neg (fun q => by omega)
      rw [← vC_3 (h := zsetV h2 (a + 4) _ _) (by omega), v3, ca (by rw [e3]; exact a2)]
      refine ih (i + 1) _ (by omega) (yWFV (yWFV w2)) ((f2.trans (Fr.set (Or.inr (Or.inl rfl)))).trans (Fr.set (Or.inl rfl))) ?_
      rw [hvC_set (xC_3 (by omega)) (by decide) (by omega), v3]
      show _ = xgs xca gr (hvC h a 0 1) i (xgh xca gr (hvC h a 0 1) i (hvC h a))
      unfold xgs
      rw [← v2]
theorem cp30 (w : yWF zl nl h) (ha : yHs a) (hd : 2 ≤ d) (r : Rg B (hvC h a)) (hB : B ≤ 50000) (hG : 0 ≤ xG h (hvC h a 0 6) ∧ xG h (hvC h a 0 6) ≤ 1000) (k : ∀ h', yWF zl nl h' → Fr (xHm a) h h' → hvC h' a = xgy xca (xG h) (hvC h a) → U h') : yU d 30 [vR (some a)] h U := by
  have rs := r.sz
  have ry := r.yr
  have es := xsh_C w ha
  obtain ⟨p1, p2⟩ := yshp_of w ha
  have eG : zV h (yshp h a) 4 = xG h (hvC h a 0 6) := by unfold xG; rw [es]
  have e1 : zV h a 11 = hvC h a 0 1 := rfl
  refine E30 w ha ?_
  intro s hs hS
  rw [p1] at hs
  obtain rfl := Option.some.inj hs
  rw [eG, e1]
  refine ⟨fun c => ?_, fun c => ?_⟩
  · refine cp30_loop w ha hd r hB (xgr (xG h) (hvC h a)) 0 ?_ k (hvC h a 0 0).toNat 0 h (by omega) w Fr.rfl' rfl
    have : xgr (xG h) (hvC h a) = false := by unfold xgr; exact decide_eq_false (fun q => by omega)
    rw [this]
    rfl
  · intro s hs hS
    rw [p1] at hs
    obtain rfl := Option.some.inj hs
    rw [eG, zrem_nn (by omega) (by omega)]
    refine ⟨by omega, fun c => ?_, fun c => ?_⟩
    · refine cp30_loop w ha hd r hB (xgr (xG h) (hvC h a)) 0 ?_ k (hvC h a 0 0).toNat 0 h (by omega) w Fr.rfl' rfl
      have : xgr (xG h) (hvC h a) = false := by unfold xgr; exact decide_eq_false (fun q => c q.2)
      rw [this]
      rfl
    · refine cp30_loop w ha hd r hB (xgr (xG h) (hvC h a)) 1 ?_ k (hvC h a 0 0).toNat 0 h (by omega) w Fr.rfl' rfl
      have : xgr (xG h) (hvC h a) = true := by unfold xgr; exact decide_eq_true ⟨by omega, by omega⟩
      rw [this]
      rfl
end XC1b
