/-! DIGITS -/
section XDG
variable {f g : Int → Int}
theorem xdm {A B M : Int} (hB : 0 ≤ B ∧ B < M) : (A * M + B) / M = A ∧ (A * M + B) % M = B := by
  refine (Int.ediv_emod_unique (by omega)).2 ⟨?_, hB.1, hB.2⟩
  rw [Int.mul_comm M A]
  omega
theorem ysnd_split (i n : Nat) : ysnd f (i + n) = ysnd f i * 10 ^ n + ysnd (fun k => f (i + k)) n := by
  induction n with
  | zero => show ysnd f i = ysnd f i * 1 + 0; omega
  | succ n ih =>
    show 10 * ysnd f (i + n) + f ((i + n : Nat) : Int) = ysnd f i * 10 ^ (n + 1) + (10 * ysnd (fun k => f (i + k)) n + f (i + (n : Int)))
    have e : (10 : Int) ^ (n + 1) = 10 ^ n * 10 := Int.pow_succ 10 n
    have e2 : ysnd f i * (10 ^ n * 10) = (ysnd f i * 10 ^ n) * 10 := (Int.mul_assoc _ _ _).symm
    have e3 : ((i + n : Nat) : Int) = (i : Int) + (n : Int) := by omega
    rw [ih, e, e2, e3]
    omega
theorem ysnd_inj (hf : ∀ i, 0 ≤ f i ∧ f i < 10) (hg : ∀ i, 0 ≤ g i ∧ g i < 10) (n : Nat) : ysnd f n = ysnd g n ↔ ∀ k : Nat, k < n → f k = g k := by
  induction n with
  | zero => exact ⟨fun _ k hk => absurd hk (by omega), fun _ => rfl⟩
  | succ n ih =>
    have a := hf n
    have b := hg n
    constructor
    · intro e k hk
      unfold ysnd at e
      have e1 : ysnd f n = ysnd g n := by omega
      by_cases c : k = n
      · subst c; omega
      · exact ih.1 e1 k (by omega)
    · intro e
      unfold ysnd
      rw [ih.2 (fun k hk => e k (by omega)), e n (by omega)]
/-- digits i .. i + n - 1 of a number of six -/
theorem xdg (hf : ∀ i, 0 ≤ f i ∧ f i < 10) {i n r : Nat} (e : i + n + r = 6) : ysnd f 6 / 10 ^ r % 10 ^ n = ysnd (fun k => f (i + k)) n := by
  rw [← e, ysnd_split (i + n) r]
  rw [(xdm (ysnd_r (f := fun k => f (((i + n : Nat) : Int) + k)) (fun _ => hf _) r)).1, ysnd_split i n]
  exact (xdm (ysnd_r (f := fun k => f ((i : Int) + k)) (fun _ => hf _) n)).2
theorem p10 (r : Nat) (h : r < 7) : (1 : Int) ≤ 10 ^ r ∧ (10 : Int) ^ r ≤ 1000000 := by
  match r, h with
  | 0, _ => decide
  | 1, _ => decide
  | 2, _ => decide
  | 3, _ => decide
  | 4, _ => decide
  | 5, _ => decide
  | 6, _ => decide
  | r + 7, h => omega
end XDG
/-- what was there before stands -/
def yB (h : Hp) : Prop := ∀ a, 1 ≤ a → a < 32 → ∀ k, zV h a k = (zbvT.getD a []).getD k 0
theorem yB_pow {h : Hp} (b : yB h) {r : Nat} (hr : r < 7) : zV h 1 r = 10 ^ r := by
  rw [b 1 (by omega) (by omega)]
  match r, hr with
  | 0, _ => rfl
  | 1, _ => rfl
  | 2, _ => rfl
  | 3, _ => rfl
  | 4, _ => rfl
  | 5, _ => rfl
  | 6, _ => rfl
  | r + 7, h => omega
theorem Fr.B {M : Nat → Nat → Prop} {h h' : Hp} (f : Fr M h h') (b : yB h) (e : ∀ b k, b < 32 → ¬ M b k) : yB h' := fun a h1 h2 k => (f.V a k (e a k h2)).trans (b a h1 h2 k)
theorem ySm.B {h h' : Hp} (m : ySm h h') (b : yB h) : yB h' := m.fr.B b (fun b k q => by unfold ySc; omega)
noncomputable def xbts (P : Nat → Prop) : Nat → Int
  | 0 => 0
  | n + 1 => @ite _ (P n) (Classical.propDecidable _) (zor (xbts P n) (zshl 1 n)) (xbts P n)
theorem xbts_t {P : Nat → Prop} {n : Nat} (c : P n) : xbts P (n + 1) = zor (xbts P n) (zshl 1 n) := if_pos c
theorem xbts_f {P : Nat → Prop} {n : Nat} (c : ¬ P n) : xbts P (n + 1) = xbts P n := if_neg c
section XC2
variable {zl : Nat} {nl : Option Nat} {h : Hp} {d : Nat} {K : Int → Hp → Prop} {U : Hp → Prop} {a n s b : Nat} {x y z B : Int}
theorem cp25_loop (w : yWF zl nl h) (ha : yHs a) (hd : 1 ≤ d) (r : Rg B (hvC h a)) (hn : hvC h a 0 2 ≤ 6) (k : K (ysnd (fun k => hvC h a 6 k.toNat) (hvC h a 0 2).toNat) h) : ∀ (m i : Nat), (i : Int) + m = hvC h a 0 2 → ZW d prog_4_method_16_code 2 4 [some (vR (some a)), some (vI (ysnd (fun k => hvC h a 6 k.toNat) i)), some (vI i)] [] h (yq 1 (yqI K)) := by
  intro m
  have e0 : zV h (a + 7) 1 = hvC h a 0 2 := rfl
  induction m with
  | zero =>
    intro i hm
    refine W25_4 w ha hd ⟨fun _ => ?_, fun c => absurd (by omega) c⟩
    have : i = (hvC h a 0 2).toNat := by omega
    rw [this]
    exact k
  | succ m ih =>
    intro i hm
    refine W25_4 w ha hd ⟨fun c => absurd c (by omega), fun c => ⟨by omega, ?_⟩⟩
    have q := (ih (i + 1) (by omega))
    have r1 := ysnd_r (f := fun k => hvC h a 6 k.toNat) (fun j => by have := r.tu j.toNat; omega) i
    have r2 := p10 i (by omega)
    have r3 := r.tu i
    have e1 : zV h (a + 7 + 1) (4 * (i : Int) + 0).toNat = hvC h a 6 i := by
      rw [vC_6 (by omega)]
      have : (4 * (i : Int) + 0).toNat = 4 * i := by omega
      rw [this]
    rw [e1, zwi (x := ysnd _ i * 10) (by omega), zwi (by omega), nz (by omega)]
    have e2 : ysnd (fun k => hvC h a 6 k.toNat) i * 10 + hvC h a 6 i = ysnd (fun k => hvC h a 6 k.toNat) (i + 1) := by
      show _ = 10 * ysnd (fun k => hvC h a 6 k.toNat) i + hvC h a 6 (i : Int).toNat
      rw [Int.toNat_natCast]
      omega
    rw [e2]
    exact q
theorem cp25 (w : yWF zl nl h) (ha : yHs a) (hd : 1 ≤ d) (r : Rg B (hvC h a)) (hn : hvC h a 0 2 ≤ 6) (k : K (ysnd (fun k => hvC h a 6 k.toNat) (hvC h a 0 2).toNat) h) : yI d 25 [vR (some a)] h K := by
  have := r.tn
  exact E25 w ha (cp25_loop w ha hd r hn k (hvC h a 0 2).toNat 0 (by omega))
/-- HEARD -/
theorem cp24_loop (w0 : yWF zl nl h) (ha : yHs a) (bb : yB h) (p : 0 ≤ x ∧ x < 6) (F : Int → (Nat → Int) → Int) (σ : Vw) (r : Rg B σ) (n : Nat) (hn : σ 0 2 = n) (hn1 : 1 ≤ n) (hn6 : n ≤ 6) {t : Int} (ht : t = ysnd (fun k => σ 6 k.toNat) n) {u : Int} (hu : u = xsnd F σ x) (k : ∀ h', ySm h h' → K (xhd F σ x) h') : ∀ (m i : Nat) (h2 : Hp) (l6 : Option Int), i + m = 7 - n → ySm h h2 → (∀ j, j < i → ¬ xmt F σ x j) → xhd F σ x = xlst (xmt F σ x) m i → ZW d prog_4_method_15_code 2 38 [some (vR (some a)), some (vI x), some (vI n), some (vI t), some (vI u), some (vI i), yo l6] [] h2 (yq 1 (yqI K)) := by
  intro m
  have rf : ∀ i, 0 ≤ xN F σ x i ∧ xN F σ x i < 10 := fun i => ydig_r _
  have rg : ∀ i : Int, 0 ≤ (fun k : Int => σ 6 k.toNat) i ∧ (fun k : Int => σ 6 k.toNat) i < 10 := fun j => by have := r.tu j.toNat; show 0 ≤ σ 6 j.toNat ∧ σ 6 j.toNat < 10; omega
  induction m with
  | zero =>
    intro i h2 l6 hm s2 hj hx
    refine W24_38 (s2.wf w0) ha ⟨fun _ => ?_, fun c => absurd (by rw [zwi (by omega)]; omega) c⟩
    have := k h2 s2
    rw [hx] at this
    exact this
  | succ m ih =>
    intro i h2 l6 hm s2 hj hx
    have b2 := s2.B bb
    refine W24_38 (s2.wf w0) ha ⟨fun c => absurd c (by rw [zwi (by omega)]; omega), fun c => ?_⟩
    have ei : zw (zw (6 - (n : Int)) - (i : Int)) = ((6 - n - i : Nat) : Int) := by rw [zwi (x := 6 - (n : Int)) (by omega), zwi (by omega)]; omega
    rw [ei, Int.toNat_natCast, Int.toNat_natCast, yB_pow b2 (by omega), yB_pow b2 (by omega)]
    have q1 := p10 (6 - n - i) (by omega)
    have q2 := p10 n (by omega)
    refine ⟨by omega, by omega, by omega, by omega, ?_⟩
    have ru : 0 ≤ u ∧ u < 1000000 := by rw [hu]; exact ysnd_r rf 6
    have d1 : 0 ≤ u / 10 ^ (6 - n - i) := Int.ediv_nonneg ru.1 (by omega)
    have d2 : u / 10 ^ (6 - n - i) ≤ u := Int.ediv_le_self _ ru.1
    rw [zdiv_nn (by omega) (by omega), zrem_nn (by omega) (by omega), hu]
    have e1 : xsnd F σ x / 10 ^ (6 - n - i) % 10 ^ n = ysnd (fun k => xN F σ x (i + k)) n := xdg rf (i := i) (n := n) (r := 6 - n - i) (by omega)
    rw [e1, ht, nz (by omega)]
    have key : ysnd (fun k => xN F σ x (i + k)) n = ysnd (fun k => σ 6 k.toNat) n ↔ xmt F σ x i := by
      rw [ysnd_inj (f := fun k => xN F σ x (i + k)) (fun _ => rf _) rg]
      unfold xmt
      rw [hn]
      constructor
      · intro q k hk
        have := q k (by omega)
        show xN F σ x ((i + k : Nat) : Int) = σ 6 k
        have e : ((i + k : Nat) : Int) = (i : Int) + (k : Int) := by omega
        rw [e]
        exact this
      · intro q k hk
        have := q k (by omega)
        have e : ((i + k : Nat) : Int) = (i : Int) + (k : Int) := by omega
        rw [e] at this
        exact this
    refine ⟨fun c2 => ?_, fun c2 => ?_⟩
    · have c3 : ¬ xmt F σ x i := fun q => c2 (key.2 q)
      rw [← ht, ← hu]
      refine ih (i + 1) h2 (some _) (by omega) s2 (fun j hj2 => ?_) (by rw [hx, xlst_f c3])
      by_cases c4 : j = i
      · subst c4; exact c3
      · exact hj j (by omega)
    · have c3 : xmt F σ x i := key.1 (Classical.byContradiction c2)
      have := k h2 s2
      rw [hx, xlst_t c3] at this
      exact this
theorem cp24 (w : yWF zl nl h) (ha : yHs a) (hd : 6 ≤ d) (bb : yB h) (so : xSO h) (r : Rg B (hvC h a)) (hB : B ≤ 100000) (p : 0 ≤ x ∧ x < 6) (k : ∀ h', ySm h h' → K (xhd (xF h) (hvC h a) x) h') : yI d 24 [vR (some a), vI x] h K := by
  have rt := r.tn
  have e0 : zV h (a + 7) 1 = hvC h a 0 2 := rfl
  refine E24 w ha (by omega) ⟨fun c => ⟨fun c2 => ?_, fun c2 => ?_⟩, fun c => ?_⟩
  · refine cp25 w ha (by omega) r (by omega) ?_
    refine W24_27 w ha hd ⟨xHOk w ha so r hB, p, fun h3 s3 => ?_⟩
    obtain ⟨n, hn⟩ : ∃ n : Nat, hvC h a 0 2 = n := ⟨(hvC h a 0 2).toNat, by omega⟩
    rw [e0, hn, Int.toNat_natCast, xC_sound w ha so r p]
    refine cp24_loop w ha bb p (xF h) (hvC h a) r n hn (by omega) (by omega) rfl rfl k (7 - n) 0 h3 none (by omega) s3 (fun j hj => absurd hj (by omega)) ?_
    unfold xhd
    rw [hn]
    have : (7 - (n : Int)).toNat = 7 - n := by omega
    rw [this]
  · have := k h (ySm.refl h)
    unfold xhd at this
    have e : (7 - hvC h a 0 2).toNat = 0 := by omega
    rw [e] at this
    exact this
  · have := k h (ySm.refl h)
    unfold xhd at this
    have e : (7 - hvC h a 0 2).toNat = 6 + 1 := by omega
    rw [e, xlst_t (fun k hk => by omega)] at this
    exact this
theorem cp76_loop (w0 : yWF zl nl h) (ha : yHs a) (hd : 7 ≤ d) (bb : yB h) (so : xSO h) (r : Rg B (hvC h a)) (hB : B ≤ 100000) (k : ∀ h', ySm h h' → K (xbts (fun p => xhd (xF h) (hvC h a) p ≠ -5) (hvC h a 0 0).toNat) h') : ∀ (m i : Nat) (h2 : Hp), (i : Int) + m = hvC h a 0 0 → ySm h h2 → ZW d prog_4_method_17_code 2 4 [some (vR (some a)), some (vI (xbts (fun p => xhd (xF h) (hvC h a) p ≠ -5) i)), some (vI i)] [] h2 (yq 1 (yqI K)) := by
  intro m
  have rs := r.sz
  induction m with
  | zero =>
    intro i h2 hm s2
    have e0 : zV h2 a 10 = hvC h a 0 0 := by rw [← s2.hvC ha]; rfl
    refine W76_4 (s2.wf w0) ha (by omega) ⟨fun _ => ?_, fun c => absurd (by omega) c⟩
    have : i = (hvC h a 0 0).toNat := by omega
    rw [this]
    exact k h2 s2
  | succ m ih =>
    intro i h2 hm s2
    have e0 : zV h2 a 10 = hvC h a 0 0 := by rw [← s2.hvC ha]; rfl
    have so2 : xSO h2 := s2.fr.xSO so (fun b k q => ySc_Sh (k := k) q)
    have eF : xF h2 = xF h := s2.fr.xF so (fun b k q => ySc_Sh (k := k) q)
    refine W76_4 (s2.wf w0) ha (by omega) ⟨fun c => absurd c (by omega), fun c => ?_⟩
    refine cp24 (s2.wf w0) ha (by omega) (s2.B bb) so2 (by rw [s2.hvC ha]; exact r) hB (by omega) fun h3 s3 => ?_
    rw [eF, s2.hvC ha]
    refine W76_17 (s3.wf (s2.wf w0)) ha ⟨fun c2 => ?_, fun c2 => ?_⟩
    · rw [nz (by omega), ← xbts_f (P := fun p : Nat => xhd (xF h) (hvC h a) p ≠ -5) (n := i) (fun q => q c2)]
      exact ih (i + 1) h3 (by omega) (s2.trans s3)
    · rw [nz (by omega), ← xbts_t (P := fun p : Nat => xhd (xF h) (hvC h a) p ≠ -5) (n := i) c2]
      exact ih (i + 1) h3 (by omega) (s2.trans s3)
theorem cp76 (w : yWF zl nl h) (ha : yHs a) (hd : 7 ≤ d) (bb : yB h) (so : xSO h) (r : Rg B (hvC h a)) (hB : B ≤ 100000) (k : ∀ h', ySm h h' → K (xbts (fun p => xhd (xF h) (hvC h a) p ≠ -5) (hvC h a 0 0).toNat) h') : yI d 76 [vR (some a)] h K := by
  have := r.sz
  exact E76 w ha (cp76_loop w ha hd bb so r hB k (hvC h a 0 0).toNat 0 h (by omega) (ySm.refl h))
/-- SHARED, of two sounds as numbers -/
theorem cp82_loop (w : yWF zl nl h) (bb : yB h) {f g : Int → Int} (rf : ∀ i, 0 ≤ f i ∧ f i < 10) (rg : ∀ i, 0 ≤ g i ∧ g i < 10) (k : K (xshr f g) h) : ∀ (m : Nat), m ≤ 6 → xshr f g = xgrt (fun n => ∀ k : Nat, k < n → f ((6 - n + k : Nat) : Int) = g (k : Int)) m → ZW d prog_1_method_19_code 7 3 [some (vI (ysnd f 6)), some (vI (ysnd g 6)), some (vI m)] [] h (yq 1 (yqI K)) := by
  intro m
  induction m with
  | zero =>
    intro _ hx
    refine W82_3 w ⟨fun _ => ?_, fun c => absurd (by decide) c⟩
    rw [hx] at k
    exact k
  | succ m ih =>
    intro hm hx
    refine W82_3 w ⟨fun c => absurd c (by omega), fun c => ?_⟩
    have e1 : zw (6 - ((m + 1 : Nat) : Int)) = ((5 - m : Nat) : Int) := by rw [zwi (by omega)]; omega
    rw [e1, Int.toNat_natCast, Int.toNat_natCast, yB_pow bb (by omega), yB_pow bb (by omega)]
    have q1 := p10 (m + 1) (by omega)
    have q2 := p10 (5 - m) (by omega)
    have r1 := ysnd_r rf 6
    have r2 := ysnd_r rg 6
    have e6 : (10 : Int) ^ 6 = 1000000 := by decide
    refine ⟨by omega, by omega, by omega, by omega, ?_⟩
    rw [zdiv_nn (by omega) (by omega), zrem_nn (by omega) (by omega)]
    have a1 : ysnd f 6 % 10 ^ (m + 1) = ysnd (fun k => f (((5 - m : Nat) : Int) + k)) (m + 1) := by
      have := xdg rf (i := 5 - m) (n := m + 1) (r := 0) (by omega)
      rw [← this]
      show _ = ysnd f 6 / 1 % _
      rw [Int.ediv_one]
    have a2 : ysnd g 6 / 10 ^ (5 - m) = ysnd g (m + 1) := by
      have e : 6 = m + 1 + (5 - m) := by omega
      have := ysnd_split (f := g) (m + 1) (5 - m)
      rw [← e] at this
      rw [this]
      exact (xdm (ysnd_r (f := fun k => g (((m + 1 : Nat) : Int) + k)) (fun _ => rg _) (5 - m))).1
    rw [a1, a2, show ((m + 1 : Nat) : Int) + -1 = (m : Int) by omega, zwi (x := (m : Int)) (by omega)]
    have key : ysnd (fun k => f (((5 - m : Nat) : Int) + k)) (m + 1) = ysnd g (m + 1) ↔ ∀ k : Nat, k < m + 1 → f ((6 - (m + 1) + k : Nat) : Int) = g (k : Int) := by
      rw [ysnd_inj (f := fun k => f (((5 - m : Nat) : Int) + k)) (fun _ => rf _) rg]
      refine forall_congr' fun k => imp_congr_right fun hk => ?_
      have e : ((6 - (m + 1) + k : Nat) : Int) = ((5 - m : Nat) : Int) + (k : Int) := by omega
      rw [e]
    refine ⟨fun c2 => ?_, fun c2 => ?_⟩
    · exact ih (by omega) (by rw [hx, xgrt_f (fun q => c2 (key.2 q))])
    · rw [hx, xgrt_t (key.1 (Classical.byContradiction c2))] at k
      exact k
theorem cp82 (w : yWF zl nl h) (bb : yB h) {f g : Int → Int} (rf : ∀ i, 0 ≤ f i ∧ f i < 10) (rg : ∀ i, 0 ≤ g i ∧ g i < 10) (k : K (xshr f g) h) : yI d 82 [vI (ysnd f 6), vI (ysnd g 6)] h K :=
  E82 w (cp82_loop w bb rf rg k 6 (Nat.le_refl 6) rfl)
end XC2
