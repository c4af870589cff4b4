/-! THE MODEL: pitch, note, sound, heard -/
section XM1
variable {zl : Nat} {nl : Option Nat} {h h' h2 : Hp} {d : Nat} {K : Int → Hp → Prop} {U : Hp → Prop} {a n s b j : Nat} {x y z B : Int} {M : Nat → Nat → Prop}
theorem ymin_c (x y : Int) : ymin x y = ymin y x := by unfold ymin; split <;> split <;> omega
/-- the model is in order -/
def xMO (B : Int) (h : Hp) : Prop := xST h ∧ Rg B (hvM h) ∧ hvM h 0 6 < zV h 137 15
theorem xMq_St : ∀ b k, xStC b k → ¬ xMq b k := by intro b k q; unfold xStC xShC at q; unfold xMq; omega
theorem xMq_M : ∀ b k, xOM b k → ¬ xMq b k := by intro b k q; unfold xOM at q; unfold xMq; omega
theorem xM1_q : ∀ b k, xM1 b k → xMq b k := fun _ _ q => Or.inl q
theorem fr_qM (f : Fr xMq h h') : hvM h' = hvM h := f.hvM xMq_M
def Fr.qM {h h2 : Hp} (f : Fr xMq h h2) := fr_qM f
theorem fr_qF (f : Fr xMq h h') (st : xST h) : xF h' = xF h := f.xF st.1 (fun b k q => xMq_St b k (Or.inr (Or.inl q)))
def Fr.qF {h h2 : Hp} (f : Fr xMq h h2) (st : xST h) := fr_qF f st
theorem fr_qG (f : Fr xMq h h') : xG h' = xG h := f.xG (fun b k q => xMq_St b k (Or.inr (Or.inl q)))
def Fr.qG {h h2 : Hp} (f : Fr xMq h h2) := fr_qG f
theorem Fr.qO (f : Fr xMq h h') (o : xMO B h) : xMO B h' := by
  obtain ⟨o1, o2, o3⟩ := o
  refine ⟨f.ST o1 xMq_St, by rw [f.qM]; exact o2, ?_⟩
  rw [f.qM, f.V 137 15 (by unfold xMq; omega)]
  exact o3
theorem mp134 (w : yWF zl nl h) (hd : 3 ≤ d) (o : xMO B h) (hB : B ≤ 100000) (p : 0 ≤ x ∧ x < 6 ∧ 0 ≤ y ∧ y < 6) (k : ∀ h', yWF zl nl h' → Fr xM1 h h' → K (xpit (xF h) (hvM h) x y) h') : yI d 134 [vR (some 137), vI x, vI y] h K := by
  obtain ⟨o1, o2, o3⟩ := id o
  refine E134 w (by omega) (mp135 w (by omega) o1 o2 hB o3 p fun h2 w2 f2 => ?_)
  have k := k h2 w2 f2
  have v2 : hvM h2 = hvM h := (f2.mono xM1_q).qM
  have e1 : zV h2 138 x.toNat = hvM h 1 x.toNat := by rw [← v2, vM_1 (by omega)]
  have e2 : zV h2 139 x.toNat = hvM h 2 x.toNat := by rw [← v2, vM_2 (by omega)]
  have e3 : zV h2 141 x.toNat = hvM h 3 x.toNat := by rw [← v2, vM_3 (by omega)]
  have e0 : zV h2 137 8 = hvM h 0 1 := by rw [← v2, vM0_1]
  have ry := o2.yr
  have em : hvM h 0 1 % 4 < 4 := Int.emod_lt_of_pos _ (by decide)
  have en : 0 ≤ hvM h 0 1 % 4 := Int.emod_nonneg _ (by decide)
  have e5 : zV h2 142 (4 * x + hvM h 0 1 % 4).toNat = hvM h 5 (4 * x + hvM h 0 1 % 4).toNat := by rw [← v2, vM_5 (by omega)]
  refine W134_6 w2 (by omega) ?_
  rw [e0, zrem_nn (x := hvM h 0 1) (by omega) (by decide), zwi (x := 4 * x) (by omega), zwi (x := 4 * x + hvM h 0 1 % 4) (by omega), e1, e2, e3, e5, ymin_c 9]
  have r1 := o2.kd x.toNat
  unfold xpit at k
  generalize zw (hvM h 4 (6 * x + y).toNat + xF h (hvM h 0 6) (xfact (hvM h) x y)) = s at k ⊢
  generalize hvM h 1 x.toNat = kd at k r1 ⊢
  generalize hvM h 2 x.toNat = v at k ⊢
  generalize hvM h 3 x.toNat = ag at k ⊢
  generalize hvM h 5 (4 * x + hvM h 0 1 % 4).toNat = rw5 at k ⊢
  unfold ypit at k
  refine ⟨by omega, fun c => ⟨by omega, ?_⟩, fun c => ⟨by omega, ?_⟩⟩
  · rw [if_neg c] at k
    refine ⟨fun c => ⟨by omega, ?_⟩, fun c => ?_, fun c => ?_, fun c => ⟨fun c2 => ⟨by omega, ?_⟩, fun c2 => ⟨by omega, ?_⟩⟩, fun c => ⟨by omega, ?_⟩, fun c => ⟨by omega, ?_⟩, fun c => ?_⟩
    · rw [if_pos c] at k; exact k
    · rw [if_neg (by omega), if_pos c] at k; exact k
    · rw [if_neg (by omega), if_neg (by omega), if_pos c] at k; exact k
    · rw [if_neg (by omega), if_neg (by omega), if_neg (by omega), if_pos c, if_pos c2] at k; exact k
    · rw [if_neg (by omega), if_neg (by omega), if_neg (by omega), if_pos c, if_neg c2] at k; exact k
    · rw [if_neg (by omega), if_neg (by omega), if_neg (by omega), if_neg (by omega), if_pos c] at k; exact k
    · rw [if_neg (by omega), if_neg (by omega), if_neg (by omega), if_neg (by omega), if_neg (by omega), if_pos c] at k; exact k
    · rw [if_neg (by omega), if_neg (by omega), if_neg (by omega), if_neg (by omega), if_neg (by omega), if_neg (by omega)] at k; exact k
  · have c : y = v := Classical.byContradiction c
    rw [if_pos c] at k
    refine ⟨fun c => ⟨by omega, ?_⟩, fun c => ?_, fun c => ?_, fun c => ⟨fun c2 => ⟨by omega, ?_⟩, fun c2 => ⟨by omega, ?_⟩⟩, fun c => ⟨by omega, ?_⟩, fun c => ⟨by omega, ?_⟩, fun c => ?_⟩
    · rw [if_pos c] at k; exact k
    · rw [if_neg (by omega), if_pos c] at k; exact k
    · rw [if_neg (by omega), if_neg (by omega), if_pos c] at k; exact k
    · rw [if_neg (by omega), if_neg (by omega), if_neg (by omega), if_pos c, if_pos c2] at k; exact k
    · rw [if_neg (by omega), if_neg (by omega), if_neg (by omega), if_pos c, if_neg c2] at k; exact k
    · rw [if_neg (by omega), if_neg (by omega), if_neg (by omega), if_neg (by omega), if_pos c] at k; exact k
    · rw [if_neg (by omega), if_neg (by omega), if_neg (by omega), if_neg (by omega), if_neg (by omega), if_pos c] at k; exact k
    · rw [if_neg (by omega), if_neg (by omega), if_neg (by omega), if_neg (by omega), if_neg (by omega), if_neg (by omega)] at k; exact k
theorem mp133 (w : yWF zl nl h) (hd : 4 ≤ d) (o : xMO B h) (hB : B ≤ 100000) (p : 0 ≤ x ∧ x < 6 ∧ 0 ≤ y ∧ y < 6) (k : ∀ h', yWF zl nl h' → Fr xM1 h h' → K (xN (xF h) (hvM h) x y) h') : yI d 133 [vR (some 137), vI x, vI y] h K := by
  refine E133 w (by omega) (mp134 w (by omega) o hB p fun h2 w2 f2 => W133_6 w2 ?_)
  have k := k h2 w2 f2
  unfold xN ydig at k
  refine ⟨fun c => ?_, fun c => ?_⟩
  · rw [if_pos c] at k; exact k
  · rw [if_neg c] at k; exact k
theorem mp144_loop (hd : 5 ≤ d) (o : xMO B h) (hB : B ≤ 100000) (p : 0 ≤ x ∧ x < 6) (k : ∀ h', yWF zl nl h' → Fr xM1 h h' → K (xsnd (xF h) (hvM h) x) h') : ∀ (m i : Nat) (h2 : Hp), i + m = 6 → yWF zl nl h2 → Fr xM1 h h2 → ZW d prog_10_method_31_code 8 4 [some (vR (some 137)), some (vI x), some (vI (ysnd (xN (xF h) (hvM h) x) i)), some (vI i)] [] h2 (yq 1 (yqI K)) := by
  intro m
  induction m with
  | zero =>
    intro i h2 hm w2 f2
    obtain rfl : i = 6 := by omega
    exact W144_4 w2 (by omega) ⟨fun _ => k h2 w2 f2, fun c => absurd (by decide) c⟩
  | succ m ih =>
    intro i h2 hm w2 f2
    have f2' := f2.mono xM1_q
    refine W144_4 w2 (by omega) ⟨fun c => absurd c (by omega), fun c => ?_⟩
    refine mp133 w2 (by omega) (f2'.qO o) hB (by omega) fun h3 w3 f3 => W144_20 w3 ?_
    rw [f2'.qM, f2'.qF o.1]
    have r := ysnd_r (f := xN (xF h) (hvM h) x) (fun i => ydig_r _) i
    have r2 := p10 i (by omega)
    have r3 := xN_r (xF h) (hvM h) x i
    rw [zwi (x := 10 * ysnd _ i) (by omega), zwi (x := 10 * ysnd _ i + _) (by omega), nz (by omega)]
    exact ih (i + 1) h3 (by omega) w3 (f2.trans f3)
theorem mp144 (w : yWF zl nl h) (hd : 5 ≤ d) (o : xMO B h) (hB : B ≤ 100000) (p : 0 ≤ x ∧ x < 6) (k : ∀ h', yWF zl nl h' → Fr xM1 h h' → K (xsnd (xF h) (hvM h) x) h') : yI d 144 [vR (some 137), vI x] h K :=
  E144 w (mp144_loop hd o hB p k 6 0 h rfl w Fr.rfl')
/-- SOUND of a HEAD into 163 or 164 -/
theorem mp147_loop (hd : 5 ≤ d) (o : xMO B h) (hB : B ≤ 100000) (p : 0 ≤ x ∧ x < 6) (hb : b = 163 ∨ b = 164) (k : ∀ h', yWF zl nl h' → Fr (fun c _ => c = 151 ∨ c = b) h h' → (∀ i : Nat, i < 6 → zV h' b i = xN (xF h) (hvM h) x i) → U h') : ∀ (m i : Nat) (h2 : Hp), i + m = 6 → yWF zl nl h2 → Fr (fun c _ => c = 151 ∨ c = b) h h2 → (∀ j : Nat, j < i → zV h2 b j = xN (xF h) (hvM h) x j) → ZW d prog_10_method_30_code 8 2 [some (vR (some 137)), some (vI x), some (vR (some b)), some (vI i)] [] h2 (yq 0 (yqU U)) := by
  have sb : ∀ {h2 : Hp}, yWF zl nl h2 → zS h2 b = (1, 6) := by
    intro h2 w2
    rcases hb with rfl | rfl
    · exact ys163 w2
    · exact ys164 w2
  have hb2 : 32 ≤ b := by omega
  intro m
  induction m with
  | zero =>
    intro i h2 hm w2 f2 e2
    obtain rfl : i = 6 := by omega
    exact W147_2 w2 (sb w2) hb2 (by omega) ⟨fun _ => k h2 w2 f2 e2, fun c => absurd (by decide) c⟩
  | succ m ih =>
    intro i h2 hm w2 f2 e2
    have f2' : Fr xMq h h2 := f2.mono (fun c k q => by unfold xMq; omega)
    refine W147_2 w2 (sb w2) hb2 (by omega) ⟨fun c => absurd c (by omega), fun c => ?_⟩
    refine mp133 w2 (by omega) (f2'.qO o) hB (by omega) fun h3 w3 f3 => W147_16 w3 (sb w3) hb2 ⟨by omega, ?_⟩
    rw [f2'.qM, f2'.qF o.1, nz (by omega), Int.toNat_natCast]
    refine ih (i + 1) _ (by omega) (yWFV w3) ((f2.trans (f3.mono (fun c k q => Or.inl q))).trans (Fr.set (Or.inr rfl))) (fun j hj => ?_)
    rw [zV_V]
    by_cases c2 : j = i
    · subst c2
      rw [if_pos ⟨rfl, rfl⟩]
    · rw [if_neg (fun q => c2 q.2), f3.V b j (by unfold xM1; omega)]
      exact e2 j (by omega)
theorem mp147 (w : yWF zl nl h) (hd : 5 ≤ d) (o : xMO B h) (hB : B ≤ 100000) (p : 0 ≤ x ∧ x < 6) (hb : b = 163 ∨ b = 164) (k : ∀ h', yWF zl nl h' → Fr (fun c _ => c = 151 ∨ c = b) h h' → (∀ i : Nat, i < 6 → zV h' b i = xN (xF h) (hvM h) x i) → U h') : yU d 147 [vR (some 137), vI x, vR (some b)] h U := by
  have sb : zS h b = (1, 6) := by
    rcases hb with rfl | rfl
    · exact ys163 w
    · exact ys164 w
  exact E147 w sb (by omega) (mp147_loop hd o hB p hb k 6 0 h rfl w Fr.rfl' (fun j hj => absurd hj (by omega)))
/-- HEARD -/
theorem mp146_in (w2 : yWF zl nl h2) {F : Int → (Nat → Int) → Int} {σ : Vw} (hσ : hvM h2 = σ) (hn : 0 ≤ σ 0 2 ∧ σ 0 2 ≤ 8) (e2 : ∀ i : Nat, i < 6 → zV h2 163 i = xN F σ x i) {i : Nat} (hi : (i : Int) + σ 0 2 ≤ 6) (kt : xmt F σ x i → K i h2) (kf : ¬ xmt F σ x i → ∀ l3 l4 : Option Int, ZW d prog_10_method_32_code 8 11 [some (vR (some 137)), some (vI x), some (vI ((i + 1 : Nat) : Int)), yo l3, yo l4] [] h2 (yq 1 (yqI K))) : ∀ (m k : Nat) (l3 : Int), (k : Int) + m = σ 0 2 → ((l3 = 1 ∧ ∀ j : Nat, j < k → xN F σ x ((i + j : Nat) : Int) = σ 6 j) ∨ (l3 = 0 ∧ ¬ xmt F σ x i)) → ZW d prog_10_method_32_code 8 52 [some (vR (some 137)), some (vI x), some (vI i), some (vI l3), some (vI k)] [] h2 (yq 1 (yqI K)) := by
  intro m
  have e6 : zV h2 137 6 = σ 0 2 := by rw [← hσ]; rfl
  induction m with
  | zero =>
    intro k l3 hm hl
    refine W146_52 w2 ⟨fun _ => ⟨fun c => ?_, fun c => ?_⟩, fun c => absurd (by omega) c⟩
    · rw [nz (by omega)]
      rcases hl with hl | hl
      · omega
      · exact kf hl.2 (some l3) (some _)
    · rcases hl with hl | hl
      · exact kt (fun j hj => hl.2 j (by omega))
      · omega
  | succ m ih =>
    intro k l3 hm hl
    refine W146_52 w2 ⟨fun c => absurd c (by omega), fun c => ⟨fun c2 => ⟨fun c3 => ?_, fun c3 => absurd c2 c3⟩, fun c2 => ?_⟩⟩
    · rw [nz (by omega)]
      rcases hl with hl | hl
      · omega
      · exact kf hl.2 (some l3) (some _)
    · rcases hl with hl | hl
      · have z1 : zw ((i : Int) + (k : Int)) = ((i + k : Nat) : Int) := by rw [zwi (by omega)]; omega
        rw [z1, Int.toNat_natCast, Int.toNat_natCast, nz (by omega), e2 (i + k) (by omega)]
        have e3 : zV h2 143 k = σ 6 k := by rw [← hσ, vM_6 (by omega)]
        rw [e3]
        refine ⟨by omega, by omega, fun c3 => ?_, fun c3 => ?_⟩
        · exact ih (k + 1) 0 (by omega) (Or.inr ⟨rfl, fun q => c3 (q k (by omega))⟩)
        · refine ih (k + 1) 1 (by omega) (Or.inl ⟨rfl, fun j hj => ?_⟩)
          by_cases c4 : j = k
          · subst c4; exact Classical.byContradiction c3
          · exact hl.2 j (by omega)
      · omega
theorem mp146_loop (w2 : yWF zl nl h2) {F : Int → (Nat → Int) → Int} {σ : Vw} (hσ : hvM h2 = σ) (hn : 0 ≤ σ 0 2 ∧ σ 0 2 ≤ 8) (e2 : ∀ i : Nat, i < 6 → zV h2 163 i = xN F σ x i) (k : K (xhd F σ x) h2) : ∀ (m i : Nat), (1 ≤ i → (i : Int) + m = 7 - σ 0 2) → 1 ≤ i → xhd F σ x = xlst (xmt F σ x) m i → ∀ l3 l4 : Option Int, ZW d prog_10_method_32_code 8 11 [some (vR (some 137)), some (vI x), some (vI i), yo l3, yo l4] [] h2 (yq 1 (yqI K)) := by
  intro m
  have e6 : zV h2 137 6 = σ 0 2 := by rw [← hσ]; rfl
  induction m with
  | zero =>
    intro i hm hi hx l3 l4
    have hm := hm hi
    rw [hx] at k
    refine W146_11 w2 ⟨fun c => absurd c (by omega), fun c => ⟨fun c2 => k, fun c2 => ⟨fun c3 => k, fun c3 => ?_⟩⟩⟩
    rw [e6, zwi (by omega)] at c2
    omega
  | succ m ih =>
    intro i hm hi hx l3 l4
    have hm := hm hi
    have z1 : zw ((i : Int) + σ 0 2) = (i : Int) + σ 0 2 := zwi (by omega)
    refine W146_11 w2 ⟨fun c => absurd c (by omega), fun c => ⟨fun c2 => ?_, fun c2 => ⟨fun c3 => ?_, fun c3 => ⟨fun c4 => ?_, fun c4 => ?_⟩⟩⟩⟩
    · rw [e6, z1] at c2; omega
    · -- no note: found at 0 already; here σ 0 2 is at least 1, or i is below 6
      by_cases c5 : σ 0 2 = 0
      · have : xhd F σ x = 0 := by
          unfold xhd
          rw [c5]
          exact xlst_t (n := 6) (fun k hk => by omega)
        rw [hx] at this
        have hi6 : xmt F σ x i := fun k hk => by omega
        rw [xlst_t hi6] at this
        omega
      · omega
    · rw [e6, z1] at c4; omega
    · refine mp146_in w2 hσ hn e2 (by rw [e6, z1] at c4; omega) (fun q => ?_) (fun q l3 l4 => ?_) (σ 0 2).toNat 0 1 (by omega) (Or.inl ⟨rfl, fun j hj => absurd hj (by omega)⟩)
      · rw [hx, xlst_t q] at k; exact k
      · exact ih (i + 1) (fun _ => by omega) (by omega) (by rw [hx, xlst_f q]) l3 l4
theorem mp146 (w : yWF zl nl h) (hd : 6 ≤ d) (o : xMO B h) (hB : B ≤ 100000) (p : 0 ≤ x ∧ x < 6) (k : ∀ h', yWF zl nl h' → Fr xMq h h' → K (xhd (xF h) (hvM h) x) h') : yI d 146 [vR (some 137), vI x] h K := by
  have hn := o.2.1.tn
  refine E146 w (by omega) (mp147 w (by omega) o hB p (Or.inl rfl) fun h2 w2 f2 e2 => W146_9 w2 ?_)
  have f2' : Fr xMq h h2 := f2.mono (fun c k q => by unfold xMq; omega)
  have hσ : hvM h2 = hvM h := f2'.qM
  have k := k h2 w2 f2'
  have e6 : zV h2 137 6 = hvM h 0 2 := by rw [← hσ]; rfl
  have z1 : zw (0 + hvM h 0 2) = hvM h 0 2 := by rw [zwi (by omega)]; omega
  refine W146_11 (l3 := none) (l4 := none) w2 ⟨fun _ => ⟨fun c => ?_, fun c => ?_⟩, fun c => absurd rfl c⟩
  · rw [e6, z1] at c
    have hx : xhd (xF h) (hvM h) x = -5 := by
      unfold xhd
      have e : (7 - hvM h 0 2).toNat = 0 := by omega
      rw [e]
      rfl
    rw [hx] at k
    -- the flag is 0: the inner loop ends at once, and the outer at 1
    refine W146_52 w2 ⟨fun c1 => absurd c1 (by omega), fun c1 => ⟨fun _ => ⟨fun _ => ?_, fun c3 => absurd rfl c3⟩, fun c3 => absurd rfl c3⟩⟩
    refine W146_11 w2 (l3 := some 0) (l4 := some 0) ⟨fun c3 => absurd c3 (by decide), fun _ => ⟨fun _ => k, fun c4 => ⟨fun _ => k, fun _ => ?_⟩⟩⟩
    rw [e6] at c4
    have : zw (zw (0 + 1) + hvM h 0 2) = 1 + hvM h 0 2 := by rw [zwi (x := 0 + 1) (by omega), zwi (by omega)]; omega
    rw [this] at c4
    omega
  · rw [e6, z1] at c
    refine mp146_in (i := 0) w2 hσ hn e2 (by omega) (fun q => ?_) (fun q l3 l4 => ?_) (hvM h 0 2).toNat 0 1 (by omega) (Or.inl ⟨rfl, fun j hj => absurd hj (by omega)⟩)
    · unfold xhd at k
      have e : (7 - hvM h 0 2).toNat = (6 - hvM h 0 2).toNat + 1 := by omega
      rw [e, xlst_t q] at k
      exact k
    · refine mp146_loop w2 hσ hn e2 k (6 - hvM h 0 2).toNat 1 (fun _ => by omega) (by omega) ?_ l3 l4
      unfold xhd
      have e : (7 - hvM h 0 2).toNat = (6 - hvM h 0 2).toNat + 1 := by omega
      rw [e, xlst_f q]
end XM1
