/-! THE MODEL: years, and what is tried out in place -/
/-- what the model tries in place -/
def xMx (c k : Nat) : Prop := c = 151 ∨ c = 163 ∨ c = 164 ∨ c = 139 ∨ c = 140 ∨ c = 141 ∨ (c = 137 ∧ k = 8)
def xMy (c k : Nat) : Prop := c = 140 ∨ c = 141 ∨ (c = 137 ∧ k = 8)
def xW (c k : Nat) : Prop := xSc c k ∨ xOM c k
section XM2
variable {zl : Nat} {nl : Option Nat} {h h' h2 h3 : Hp} {d : Nat} {K : Int → Hp → Prop} {U : Hp → Prop} {a n s b j : Nat} {x y z B : Int} {σ τ : Vw} {p i : Int} {k : Nat}
theorem xcM_sur {c i : Nat} (q : xOM c i) : ∃ j k, xcM j k = some (c, i) := by
  unfold xOM at q
  rcases q with ⟨rfl, rfl | rfl | rfl | rfl | rfl | rfl | rfl⟩ | ⟨rfl | rfl | rfl, qi⟩ | ⟨rfl, qi⟩ | ⟨rfl, qi⟩ | ⟨rfl | rfl | rfl, qi⟩ | ⟨q1, q2, qi⟩ | ⟨rfl | rfl, qi⟩
  · exact ⟨0, 0, by simp [xcM]⟩
  · exact ⟨0, 1, by simp [xcM]⟩
  · exact ⟨0, 2, by simp [xcM]⟩
  · exact ⟨0, 3, by simp [xcM]⟩
  · exact ⟨0, 4, by simp [xcM]⟩
  · exact ⟨0, 5, by simp [xcM]⟩
  · exact ⟨0, 6, by simp [xcM]⟩
  · exact ⟨1, i, xM_1 qi⟩
  · exact ⟨2, i, xM_2 qi⟩
  · exact ⟨3, i, xM_3 qi⟩
  · exact ⟨4, i, xM_4 qi⟩
  · exact ⟨5, i, xM_5 qi⟩
  · exact ⟨6, i, xM_6 qi⟩
  · exact ⟨9, i, xM_9 qi⟩
  · exact ⟨10, i, xM_10 qi⟩
  · have hc : c = 152 ∨ c = 153 ∨ c = 154 ∨ c = 155 := by omega
    rcases hc with rfl | rfl | rfl | rfl
    · exact ⟨11, i, xM_11 qi⟩
    · exact ⟨12, i, xM_12 qi⟩
    · exact ⟨13, i, xM_13 qi⟩
    · exact ⟨14, i, xM_14 qi⟩
  · exact ⟨7, i, xM_7 qi⟩
  · exact ⟨8, i, xM_8 qi⟩
/-- if the view is what it was, only scratch has changed -/
theorem xback (f : Fr xW h h2) (v : hvM h2 = hvM h) : Fr xSc h h2 := by
  obtain ⟨f1, f2, f3, f4, f5, f6⟩ := f
  refine ⟨f1, f2, f3, f4, f5, fun c i q => ?_⟩
  by_cases c1 : xOM c i
  · obtain ⟨j, k, e⟩ := xcM_sur c1
    have := congrFun (congrFun v j) k
    unfold hvM at this
    rw [e] at this
    exact this
  · exact f6 c i (fun r => r.elim q c1)
theorem xMq_Sc {b k : Nat} (q : xMq b k) : xSc b k := by
  rcases q with rfl | rfl | rfl
  · exact Sc7
  · exact Sc8 (by decide)
  · exact Sc8 (by decide)
theorem xMq_x {b k : Nat} (q : xMq b k) : xMx b k := by unfold xMq at q; unfold xMx; omega
theorem xMy_x {b k : Nat} (q : xMy b k) : xMx b k := by unfold xMy at q; unfold xMx; omega
theorem xMx_W {b k : Nat} (q : xMx b k) : xW b k := by
  rcases q with rfl | rfl | rfl | rfl | rfl | rfl | ⟨rfl, rfl⟩
  · exact Or.inl Sc7
  · exact Or.inl (Sc8 (by decide))
  · exact Or.inl (Sc8 (by decide))
  · by_cases c : k < 6
    · exact Or.inr (xcM_inv (xM_2 c)).2
    · exact Or.inl (Sc10 (by decide) (by omega))
  · by_cases c : k < 36
    · exact Or.inr (xcM_inv (xM_4 c)).2
    · exact Or.inl (Sc11 (by omega))
  · by_cases c : k < 6
    · exact Or.inr (xcM_inv (xM_3 c)).2
    · exact Or.inl (Sc10 (by decide) (by omega))
  · exact Or.inr (Or.inl ⟨rfl, Or.inr (Or.inl rfl)⟩)
theorem xMx_St : ∀ b k, xStC b k → ¬ xMx b k := by intro b k q; unfold xStC xShC at q; unfold xMx; omega
theorem xW_St : ∀ b k, xStC b k → ¬ xW b k := by intro b k q; unfold xStC xShC at q; unfold xW xSc xOM; omega
theorem xSc_W {b k : Nat} (q : xSc b k) : xW b k := Or.inl q
theorem scO (f : Fr xSc h h2) (o : xMO B h) : xMO B h2 := by
  obtain ⟨o1, o2, o3⟩ := o
  have v : hvM h2 = hvM h := f.hvM xSc_M
  refine ⟨f.ST o1 xSc_St, by rw [v]; exact o2, ?_⟩
  rw [v, f.V 137 15 (by unfold xSc; omega)]
  exact o3
/-- in order, also if the view is another -/
theorem wO (f : Fr xW h h2) (o : xMO B h) (r : Rg y (hvM h2)) (e : hvM h2 0 6 = hvM h 0 6) : xMO y h2 := by
  obtain ⟨o1, o2, o3⟩ := o
  refine ⟨f.ST o1 xW_St, r, ?_⟩
  rw [e, f.V 137 15 (by unfold xW xSc xOM; omega)]
  exact o3
theorem wF (f : Fr xW h h2) (st : xST h) : xF h2 = xF h := f.xF st.1 (fun b k q => xW_St b k (Or.inr (Or.inl q)))
theorem wG (f : Fr xW h h2) : xG h2 = xG h := f.xG (fun b k q => xW_St b k (Or.inr (Or.inl q)))
theorem mp142_loop (w0 : yWF zl nl h) (r : Rg B (hvM h)) (hB : B ≤ 50000) (g : Int) (hg : 0 ≤ g ∧ g ≤ 1000) (gr : Bool) (hgr : gr = decide (0 < g ∧ hvM h 0 1 % g = 0)) (k : ∀ h', yWF zl nl h' → Fr xMy h h' → hvM h' = up (xgh xcm gr (hvM h 0 1) (hvM h 0 0).toNat (hvM h)) 0 1 (hvM h 0 1 + 1) → U h') : ∀ (m i : Nat) (h2 : Hp) (l3 : Option Int), (i : Int) + m = hvM h 0 0 → yWF zl nl h2 → Fr xMy h h2 → hvM h2 = xgh xcm gr (hvM h 0 1) i (hvM h) → ZW d prog_10_method_35_code 8 7 [some (vR (some 137)), some (vI g), some (vI i), yo l3] [] h2 (yq 0 (yqU U)) := by
  have rs := r.sz
  have ry := r.yr
  intro m
  induction m with
  | zero =>
    intro i h2 l3 hm w2 f2 v2
    have e0 : zV h2 137 0 = hvM h 0 0 := by rw [← vM0_0, v2, xgh_o (by decide) (by decide)]
    have e1 : zV h2 137 8 = hvM h 0 1 := by rw [← vM0_1, v2, xgh_o (by decide) (by decide)]
    refine W142_7 w2 ⟨fun _ => ?_, fun c => absurd (by omega) c⟩
    refine k _ (yWFV w2) (f2.trans (Fr.set (Or.inr (Or.inr ⟨rfl, rfl⟩)))) ?_
    rw [hvM_set (j := 0) (k := 1) (by simp [xcM]), v2, e1, zwi (by omega)]
    have : i = (hvM h 0 0).toNat := by omega
    rw [this]
  | succ m ih =>
    intro i h2 l3 hm w2 f2 v2
    have e0 : zV h2 137 0 = hvM h 0 0 := by rw [← vM0_0, v2, xgh_o (by decide) (by decide)]
    have e1 : zV h2 137 8 = hvM h 0 1 := by rw [← vM0_1, v2, xgh_o (by decide) (by decide)]
    have ei : (i : Int).toNat = i := Int.toNat_natCast i
    obtain ⟨rg2, -⟩ := xgh_ag (gr := gr) (y := hvM h 0 1) (n := i) r xcm_r
    rw [← v2] at rg2
    have a2 := rg2.ag i
    have ca : ∀ {t : Int}, 0 ≤ t ∧ t ≤ B + 1 → zw (t + 1) = xcm t := by
      intro t ht
      rw [zwi (by omega)]
      rfl
    have em := Int.emod_lt_of_pos (hvM h 0 1 + i) (show (0 : Int) < 6 by decide)
    have en := Int.emod_nonneg (hvM h 0 1 + i) (show (6 : Int) ≠ 0 by decide)
    have ex : zw (zw (6 * (i : Int)) + zrem (zw (zV h2 137 8 + (i : Int))) 6) = (xgi (hvM h 0 1) i : Int) := by
      rw [e1, zwi (x := hvM h 0 1 + i) (by omega), zrem_nn (x := hvM h 0 1 + i) (by omega) (by decide), zwi (x := 6 * (i : Int)) (by omega), zwi (by omega)]
      unfold xgi
      omega
    have ek : xgi (hvM h 0 1) i < 36 := by unfold xgi; omega
    have only : gr = false → ZW d prog_10_method_35_code 8 7 [some (vR (some 137)), some (vI g), some (vI ((i + 1 : Nat) : Int)), some (vI (xgi (hvM h 0 1) i : Int))] [] (zsetV h2 141 i (xcm (hvM h2 3 i))) (yq 0 (yqU U)) := by
      intro hgf
      refine ih (i + 1) _ (some _) (by omega) (yWFV w2) (f2.trans (Fr.set (Or.inr (Or.inl rfl)))) ?_
      rw [hvM_set (xM_3 (by omega))]
      show _ = xgs xcm gr (hvM h 0 1) i (xgh xcm gr (hvM h 0 1) i (hvM h))
      unfold xgs xgb
      rw [hgf, if_neg (by decide), ← hgf, ← v2]
    refine W142_7 w2 ⟨fun c => absurd c (by omega), fun c => ⟨fun c1 => ?_, fun c1 => ⟨by omega, fun c2 => ?_, fun c2 => ?_⟩⟩⟩
    · refine ⟨by omega, by omega, ?_⟩
      rw [nz (by omega), ei, ← vM_3 (by omega), ca a2, ex]
      exact only (by rw [hgr]; exact decide_eq_false (by omega))
    · refine ⟨by omega, by omega, ?_⟩
      rw [nz (by omega), ei, ← vM_3 (by omega), ca a2, ex]
      rw [e1, zrem_nn (by omega) (by omega)] at c2
      exact only (by rw [hgr]; exact decide_eq_false (fun q => c2 q.2))
    · rw [e1, zrem_nn (x := hvM h 0 1) (by omega) (by omega)] at c2
      have hgt : gr = true := by rw [hgr]; exact decide_eq_true ⟨by omega, by omega⟩
      rw [ex, Int.toNat_natCast, ei, nz (by omega)]
      refine ⟨by omega, by omega, by omega, by omega, ?_⟩
      rintro _ rfl
      have b2 := rg2.bu (xgi (hvM h 0 1) i)
      have e4 : zrem (zw (zV h2 140 (xgi (hvM h 0 1) i) + 1)) 10 = (hvM h2 4 (xgi (hvM h 0 1) i) + 1) % 10 := by
        rw [← vM_4 ek, zwi (by omega), zrem_nn (by omega) (by decide)]
      rw [e4]
      have v3 : hvM (zsetV h2 140 (xgi (hvM h 0 1) i) ((hvM h2 4 (xgi (hvM h 0 1) i) + 1) % 10)) = xgb gr (hvM h 0 1) i (hvM h2) := by
        rw [hvM_set (xM_4 ek)]
        unfold xgb
        rw [if_pos hgt]
      have e3 : xgb gr (hvM h 0 1) i (hvM h2) 3 i = hvM h2 3 i := by
        unfold xgb
        rw [if_pos hgt]
        exact if_neg (fun q => by omega)
      rw [← vM_3 (h := zsetV h2 140 _ _) (by omega), v3, ca (by rw [e3]; exact a2)]
      refine ih (i + 1) _ (some _) (by omega) (yWFV (yWFV w2)) ((f2.trans (Fr.set (Or.inl rfl))).trans (Fr.set (Or.inr (Or.inl rfl)))) ?_
      rw [hvM_set (xM_3 (by omega)), v3]
      show _ = xgs xcm gr (hvM h 0 1) i (xgh xcm gr (hvM h 0 1) i (hvM h))
      unfold xgs
      rw [← v2]
theorem mp142 (w : yWF zl nl h) (hd : 2 ≤ d) (o : xMO B h) (hB : B ≤ 50000) (k : ∀ h', yWF zl nl h' → Fr xMy h h' → hvM h' = xgy xcm (xG h) (hvM h) → U h') : yU d 142 [vR (some 137)] h U := by
  obtain ⟨o1, o2, o3⟩ := o
  have rs := o2.sz
  refine E142 w (by omega) (mp143 w o1 o2 o3 (W142_4 w ?_))
  exact mp142_loop w o2 hB (xG h (hvM h 0 6)) (o1.2.1 _) (xgr (xG h) (hvM h)) rfl k (hvM h 0 0).toNat 0 h none (by omega) w Fr.rfl' rfl
theorem mp185_loop (hd : 5 ≤ d) (o : xMO B h) (hB : B ≤ 100000) (k : ∀ h', yWF zl nl h' → Fr xM1 h h' → K (xall (xF h) (hvM h)) h') : ∀ (m p : Nat) (h2 : Hp) (l3 : Option Int), (p : Int) + m = hvM h 0 0 → yWF zl nl h2 → Fr xM1 h h2 → ZW d prog_10_method_34_code 8 4 [some (vR (some 137)), some (vI (xsm (xN (xF h) (hvM h)) p)), some (vI p), yo l3] [] h2 (yq 1 (yqI K)) := by
  have rs := o.2.1.sz
  intro m
  induction m with
  | zero =>
    intro p h2 l3 hm w2 f2
    have e0 : zV h2 137 0 = hvM h 0 0 := by rw [← (f2.mono xM1_q).qM]; rfl
    refine W185_4 w2 ⟨fun _ => ?_, fun c => absurd (by omega) c⟩
    have := k h2 w2 f2
    unfold xall at this
    have e : p = (hvM h 0 0).toNat := by omega
    rw [e]
    exact this
  | succ m ih =>
    intro p h2 l3 hm w2 f2
    have e0 : zV h2 137 0 = hvM h 0 0 := by rw [← (f2.mono xM1_q).qM]; rfl
    refine W185_4 w2 ⟨fun c => absurd c (by omega), fun c => ?_⟩
    have lp : ∀ (q i : Nat) (h3 : Hp), i + q = 6 → yWF zl nl h3 → Fr xM1 h h3 → ZW d prog_10_method_34_code 8 14 [some (vR (some 137)), some (vI (xsm (xN (xF h) (hvM h)) p + xsmI (xN (xF h) (hvM h) p) i)), some (vI p), some (vI i)] [] h3 (yq 1 (yqI K)) := by
      intro q
      induction q with
      | zero =>
        intro i h3 hi w3 f3
        obtain rfl : i = 6 := by omega
        refine W185_14 w3 (by omega) ⟨fun _ => ?_, fun c => absurd (by decide) c⟩
        rw [nz (by omega)]
        exact ih (p + 1) h3 (some 6) (by omega) w3 f3
      | succ q ih2 =>
        intro i h3 hi w3 f3
        have f3' := f3.mono xM1_q
        refine W185_14 w3 (by omega) ⟨fun c => absurd c (by omega), fun c => ?_⟩
        refine mp133 w3 (by omega) (f3'.qO o) hB (by omega) fun h4 w4 f4 => W185_27 w4 ?_
        rw [f3'.qM, f3'.qF o.1, nz (by omega)]
        have q1 := xsm_r (xN_r (xF h) (hvM h)) p
        have q2 := xsmI_r (xN_r (xF h) (hvM h) p) i
        have q3 := xN_r (xF h) (hvM h) p i
        rw [zwi (by omega)]
        have e : xsm (xN (xF h) (hvM h)) p + xsmI (xN (xF h) (hvM h) p) i + xN (xF h) (hvM h) p i = xsm (xN (xF h) (hvM h)) p + xsmI (xN (xF h) (hvM h) p) (i + 1) := by
          show _ = _ + (xsmI _ i + _)
          omega
        rw [e]
        exact ih2 (i + 1) h4 (by omega) w4 (f3.trans f4)
    have := lp 6 0 h2 rfl w2 f2
    have e : xsm (xN (xF h) (hvM h)) p + xsmI (xN (xF h) (hvM h) p) 0 = xsm (xN (xF h) (hvM h)) p := Int.add_zero _
    rw [e] at this
    exact this
theorem mp185 (w : yWF zl nl h) (hd : 5 ≤ d) (o : xMO B h) (hB : B ≤ 100000) (k : ∀ h', yWF zl nl h' → Fr xM1 h h' → K (xall (xF h) (hvM h)) h') : yI d 185 [vR (some 137)] h K := by
  have := o.2.1.sz
  exact E185 w (mp185_loop hd o hB k (hvM h 0 0).toNat 0 h none (by omega) w Fr.rfl')
theorem mp184_loop (hd : 7 ≤ d) (o : xMO B h) (hB : B ≤ 100000) (k : ∀ h', yWF zl nl h' → Fr xMq h h' → K (xhb (xF h) (hvM h)) h') : ∀ (m i : Nat) (h2 : Hp), (i : Int) + m = hvM h 0 0 → yWF zl nl h2 → Fr xMq h h2 → ZW d prog_10_method_33_code 8 4 [some (vR (some 137)), some (vI (xbts (fun p => xhd (xF h) (hvM h) p ≠ -5) i)), some (vI i)] [] h2 (yq 1 (yqI K)) := by
  have rs := o.2.1.sz
  intro m
  induction m with
  | zero =>
    intro i h2 hm w2 f2
    have e0 : zV h2 137 0 = hvM h 0 0 := by rw [← f2.qM]; rfl
    refine W184_4 w2 (by omega) ⟨fun _ => ?_, fun c => absurd (by omega) c⟩
    have : i = (hvM h 0 0).toNat := by omega
    rw [this]
    exact k h2 w2 f2
  | succ m ih =>
    intro i h2 hm w2 f2
    have e0 : zV h2 137 0 = hvM h 0 0 := by rw [← f2.qM]; rfl
    refine W184_4 w2 (by omega) ⟨fun c => absurd c (by omega), fun c => ?_⟩
    refine mp146 w2 (by omega) (f2.qO o) hB (by omega) fun h3 w3 f3 => W184_17 w3 ?_
    rw [f2.qM, f2.qF o.1]
    refine ⟨fun c2 => ?_, fun c2 => ?_⟩
    · rw [nz (by omega), ← xbts_f (P := fun p : Nat => xhd (xF h) (hvM h) p ≠ -5) (n := i) (fun q => q c2)]
      exact ih (i + 1) h3 (by omega) w3 (f2.trans f3)
    · rw [nz (by omega), ← xbts_t (P := fun p : Nat => xhd (xF h) (hvM h) p ≠ -5) (n := i) c2]
      exact ih (i + 1) h3 (by omega) w3 (f2.trans f3)
theorem mp184 (w : yWF zl nl h) (hd : 7 ≤ d) (o : xMO B h) (hB : B ≤ 100000) (k : ∀ h', yWF zl nl h' → Fr xMq h h' → K (xhb (xF h) (hvM h)) h') : yI d 184 [vR (some 137)] h K := by
  have := o.2.1.sz
  exact E184 w (mp184_loop hd o hB k (hvM h 0 0).toNat 0 h (by omega) w Fr.rfl')
/-- SHARED of two -/
theorem mp188_in (w2 : yWF zl nl h2) {f g : Int → Int} (e1 : ∀ i : Nat, i < 6 → zV h2 163 i = f i) (e2 : ∀ i : Nat, i < 6 → zV h2 164 i = g i) {m : Nat} (hm : m < 6) (kt : (∀ k : Nat, k < m + 1 → f ((6 - (m + 1) + k : Nat) : Int) = g (k : Int)) → K ((m + 1 : Nat) : Int) h2) (kf : ¬ (∀ k : Nat, k < m + 1 → f ((6 - (m + 1) + k : Nat) : Int) = g (k : Int)) → ∀ l4 l5 : Option Int, ZW d prog_10_method_40_code 8 21 [some (vR (some 137)), some (vI x), some (vI y), some (vI (m : Int)), yo l4, yo l5] [] h2 (yq 1 (yqI K))) : ∀ (q k : Nat) (l4 : Int), k + q = m + 1 → ((l4 = 1 ∧ ∀ j : Nat, j < k → f ((6 - (m + 1) + j : Nat) : Int) = g (j : Int)) ∨ (l4 = 0 ∧ ¬ ∀ j : Nat, j < m + 1 → f ((6 - (m + 1) + j : Nat) : Int) = g (j : Int))) → ZW d prog_10_method_40_code 8 31 [some (vR (some 137)), some (vI x), some (vI y), some (vI ((m + 1 : Nat) : Int)), some (vI l4), some (vI k)] [] h2 (yq 1 (yqI K)) := by
  intro q
  induction q with
  | zero =>
    intro k l4 hk hl
    refine W188_31 w2 ⟨fun _ => ⟨fun c => ?_, fun c => ?_⟩, fun c => absurd (by omega) c⟩
    · rw [show ((m + 1 : Nat) : Int) + -1 = (m : Int) by omega, zwi (x := (m : Int)) (by omega)]
      rcases hl with hl | hl
      · omega
      · exact kf hl.2 (some l4) (some _)
    · rcases hl with hl | hl
      · exact kt (fun j hj => hl.2 j (by omega))
      · omega
  | succ q ih =>
    intro k l4 hk hl
    have z1 : zw (zw (6 - ((m + 1 : Nat) : Int)) + (k : Int)) = ((6 - (m + 1) + k : Nat) : Int) := by rw [zwi (x := 6 - _) (by omega), zwi (by omega)]; omega
    refine W188_31 w2 ⟨fun c => absurd c (by omega), fun c => ?_⟩
    rw [z1, Int.toNat_natCast, Int.toNat_natCast, e1 _ (by omega), e2 _ (by omega), nz (by omega)]
    refine ⟨by omega, by omega, fun c3 => ?_, fun c3 => ?_⟩
    · refine ih (k + 1) l4 (by omega) ?_
      rcases hl with hl | hl
      · refine Or.inl ⟨hl.1, fun j hj => ?_⟩
        by_cases c4 : j = k
        · subst c4; exact c3
        · exact hl.2 j (by omega)
      · exact Or.inr hl
    · exact ih (k + 1) 0 (by omega) (Or.inr ⟨rfl, fun r => c3 (r k (by omega))⟩)
theorem mp188_loop (w2 : yWF zl nl h2) {f g : Int → Int} (e1 : ∀ i : Nat, i < 6 → zV h2 163 i = f i) (e2 : ∀ i : Nat, i < 6 → zV h2 164 i = g i) (k : K (xshr f g) h2) : ∀ (m : Nat), m ≤ 6 → xshr f g = xgrt (fun n => ∀ k : Nat, k < n → f ((6 - n + k : Nat) : Int) = g (k : Int)) m → ∀ l4 l5 : Option Int, ZW d prog_10_method_40_code 8 21 [some (vR (some 137)), some (vI x), some (vI y), some (vI (m : Int)), yo l4, yo l5] [] h2 (yq 1 (yqI K)) := by
  intro m
  induction m with
  | zero =>
    intro _ hx l4 l5
    refine W188_21 w2 ⟨fun _ => ?_, fun c => absurd (by decide) c⟩
    rw [hx] at k
    exact k
  | succ m ih =>
    intro hm hx l4 l5
    refine W188_21 w2 ⟨fun c => absurd c (by omega), fun c => ?_⟩
    refine mp188_in w2 e1 e2 (by omega) (fun q => ?_) (fun q l4 l5 => ?_) (m + 1) 0 1 (by omega) (Or.inl ⟨rfl, fun j hj => absurd hj (by omega)⟩)
    · rw [hx, xgrt_t q] at k; exact k
    · exact ih (by omega) (by rw [hx, xgrt_f q]) l4 l5
theorem mp188 (w : yWF zl nl h) (hd : 6 ≤ d) (o : xMO B h) (hB : B ≤ 100000) (p : 0 ≤ x ∧ x < 6) (q : 0 ≤ y ∧ y < 6) (k : ∀ h', yWF zl nl h' → Fr xMq h h' → K (xshr (xN (xF h) (hvM h) x) (xN (xF h) (hvM h) y)) h') : yI d 188 [vR (some 137), vI x, vI y] h K := by
  refine E188 w (by omega) (mp147 w (by omega) o hB p (Or.inl rfl) fun h2 w2 f2 e2 => W188_9 w2 (by omega) ?_)
  have f2' : Fr xMq h h2 := f2.mono (fun c k q => by unfold xMq; omega)
  refine mp147 w2 (by omega) (f2'.qO o) hB q (Or.inr rfl) fun h3 w3 f3 e3 => W188_18 w3 ?_
  have f3' : Fr xMq h2 h3 := f3.mono (fun c k q => by unfold xMq; omega)
  rw [f2'.qM, f2'.qF o.1] at e3
  have e2' : ∀ i : Nat, i < 6 → zV h3 163 i = xN (xF h) (hvM h) x i := fun i hi => by rw [f3.V 163 i (by omega)]; exact e2 i hi
  exact mp188_loop w3 e2' e3 (k h3 w3 (f2'.trans f3')) 6 (Nat.le_refl 6) rfl none none
end XM2
