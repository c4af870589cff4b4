/-! CHANGES: pass, image, undo -/
/-- ages beyond 9999 cut, of the first n -/
def xcl : Nat → Vw → Vw
  | 0, σ => σ
  | n + 1, σ => up (xcl n σ) 3 n (ymin 9999 (xcl n σ 3 n))
def xI1 (b k : Nat) : Prop := (71 ≤ b ∧ b ≤ 85) ∨ (b = 32 ∧ k = 3) ∨ (b = 137 ∧ k = 38) ∨ b = 161
def xU1 (b k : Nat) : Prop := (33 ≤ b ∧ b ≤ 47) ∨ xOM b k
section XPA
variable {zl : Nat} {nl : Option Nat} {xs : Nat → Int} {h h' h1 h2 h3 H : Hp} {d : Nat} {K : Int → Hp → Prop} {KJ : Int64 → Hp → Prop} {U : Hp → Prop} {a n s b j k i m : Nat} {x y z t u B : Int} {M : Nat → Nat → Prop} {σ τ : Vw} {ca cb : Int → Int} {G : Int → Int} {gr : Bool}
theorem xgb_3 : xgb gr y n σ 3 k = σ 3 k := by
  unfold xgb
  split
  · exact if_neg (fun q => by omega)
  · rfl
theorem xgh_3 : xgh ca gr y n σ 3 k = if k < n then ca (σ 3 k) else σ 3 k := by
  induction n with
  | zero => rw [if_neg (by omega)]; rfl
  | succ n ih =>
    show (if 3 = 3 ∧ k = n then ca (xgb gr y n (xgh ca gr y n σ) 3 n) else xgb gr y n (xgh ca gr y n σ) 3 k) = _
    rw [xgb_3, xgb_3]
    by_cases c : k = n
    · subst c
      have e : xgh ca gr y k σ 3 k = σ 3 k := by rw [ih, if_neg (by omega)]
      rw [if_pos ⟨rfl, rfl⟩, if_pos (by omega), e]
    · rw [if_neg (fun q => c q.2), ih]
      by_cases c2 : k < n
      · rw [if_pos c2, if_pos (by omega)]
      · rw [if_neg c2, if_neg (by omega)]
theorem xgh_4 : ∀ k, xgh ca gr y n σ 4 k = xgh cb gr y n σ 4 k := by
  induction n with
  | zero => intro k; rfl
  | succ n ih =>
    intro k
    show (if 4 = 3 ∧ k = n then ca (xgb gr y n (xgh ca gr y n σ) 3 n) else xgb gr y n (xgh ca gr y n σ) 4 k) = (if 4 = 3 ∧ k = n then cb (xgb gr y n (xgh cb gr y n σ) 3 n) else xgb gr y n (xgh cb gr y n σ) 4 k)
    rw [if_neg (by omega), if_neg (by omega)]
    unfold xgb
    by_cases c : gr = true
    · rw [if_pos c, if_pos c]
      unfold up
      rw [ih (xgi y n), ih k]
    · rw [if_neg c, if_neg c, ih k]
theorem xcl_v : xcl n σ j k = if j = 3 ∧ k < n then ymin 9999 (σ j k) else σ j k := by
  induction n generalizing j k with
  | zero => rw [if_neg (by omega)]; rfl
  | succ n ih =>
    show (if j = 3 ∧ k = n then ymin 9999 (xcl n σ 3 n) else xcl n σ j k) = _
    by_cases c : j = 3 ∧ k = n
    · obtain ⟨rfl, rfl⟩ := c
      rw [if_pos ⟨rfl, rfl⟩, if_pos (by omega), ih, if_neg (by omega)]
    · rw [if_neg c, ih]
      by_cases c2 : j = 3 ∧ k < n
      · rw [if_pos c2, if_pos (by omega)]
      · rw [if_neg c2, if_neg (by omega)]
theorem xgy_3 : xgy ca G σ 3 k = if k < (σ 0 0).toNat then ca (σ 3 k) else σ 3 k := by
  show (if 3 = 0 ∧ k = 1 then σ 0 1 + 1 else xgh ca (xgr G σ) (σ 0 1) (σ 0 0).toNat σ 3 k) = _
  rw [if_neg (by omega), xgh_3]
theorem xcl_gy : xcl (σ 0 0).toNat (xgy xcm G σ) = xgy xca G σ := by
  funext j k
  rw [xcl_v]
  by_cases c3 : j = 3
  · subst c3
    rw [xgy_3, xgy_3]
    by_cases c : k < (σ 0 0).toNat
    · rw [if_pos ⟨rfl, c⟩, if_pos c, if_pos c, ymin_c]
      rfl
    · rw [if_neg (fun q => c q.2), if_neg c, if_neg c]
  · rw [if_neg (fun q => c3 q.1)]
    by_cases c4 : j = 4
    · subst c4
      show (if 4 = 0 ∧ k = 1 then σ 0 1 + 1 else xgh xcm (xgr G σ) (σ 0 1) (σ 0 0).toNat σ 4 k) = (if 4 = 0 ∧ k = 1 then σ 0 1 + 1 else xgh xca (xgr G σ) (σ 0 1) (σ 0 0).toNat σ 4 k)
      rw [if_neg (by omega), if_neg (by omega)]
      exact xgh_4 k
    · by_cases c0 : j = 0 ∧ k = 1
      · obtain ⟨rfl, rfl⟩ := c0
        rw [xgy_y, xgy_y]
      · rw [xgy_o c0 c3 c4, xgy_o c0 c3 c4]
theorem xgh_rg9 (r : Rg 9999 σ) : Rg 9999 (xgh xca gr y n σ) := by
  induction n with
  | zero => exact r
  | succ n ih => exact xgs_rg ih (fun x h1 h2 => by unfold xca ymin; split <;> omega)
theorem xgy_rg9 (r : Rg 9999 σ) (e : σ 0 1 + 1 ≤ 9999) : Rg 9999 (xgy xca G σ) := by
  have := r.yr
  exact (xgh_rg9 r).ups1 (by omega)
theorem xit_rg9 (r : Rg 9999 σ) (e : σ 0 1 + n ≤ 9999) : Rg 9999 (xit xca G n σ) := by
  induction n with
  | zero => exact r
  | succ n ih => exact xgy_rg9 (ih (by omega)) (by rw [xit_y]; omega)
theorem xD.frM (q : xD zl nl h h2 σ τ) (w3 : yWF zl nl h3) (f : Fr M h2 h3) (hM : ∀ b k, M b k → xSc b k ∨ xOM b k) {τ' : Vw} (v : hvM h3 = τ') : xD zl nl h h3 σ τ' := by
  obtain ⟨w2, f2, v2, u2⟩ := q
  refine ⟨w3, f2.trans (f.mono fun b k q => ?_), ?_, v⟩
  · rcases hM b k q with q | q
    · exact Or.inl q
    · exact Or.inr (Or.inl q)
  · rw [← v2]
    refine f.hvC (fun b i q1 q2 q3 q4 q5 => ?_) (by decide) (by decide)
    have := hM b i q5
    unfold xSc xOM at this
    omega
theorem xMy_N {b k : Nat} (q : xMy b k) : xSc b k ∨ xOM b k := xMx_W (xMy_x q)
theorem xD.st (q : xD zl nl h h2 σ τ) (st : xST h) : xST h2 := q.2.1.ST st xNm_St
theorem xD.gg (q : xD zl nl h h2 σ τ) : xG h2 = xG h := q.2.1.xG (fun b k q => xNm_St b k (Or.inr (Or.inl q)))
/-- pass: the model cuts the ages -/
theorem mp186_cut {l1 l2 : Int} (rs : 0 ≤ τ 0 0 ∧ τ 0 0 ≤ 6) (hd : 1 ≤ d) (k : ∀ h', xD zl nl h h' σ (xcl (τ 0 0).toNat τ) → ∀ l3 : Option Int, ZW d prog_10_method_37_code 8 30 [some (vR (some 137)), some (vI l1), some (vI (zw (l2 + 1))), yo l3] [] h' (yq 1 (yqI K))) : ∀ (m i : Nat) (h2 : Hp), (i : Int) + m = τ 0 0 → xD zl nl h h2 σ (xcl i τ) → ZW d prog_10_method_37_code 8 41 [some (vR (some 137)), some (vI l1), some (vI l2), some (vI i)] [] h2 (yq 1 (yqI K)) := by
  intro m
  induction m with
  | zero =>
    intro i h2 hm q
    have e0 : zV h2 137 0 = τ 0 0 := by rw [← vM0_0, q.2.2.2, xcl_v, if_neg (by omega)]
    refine W186_41 q.1 hd ⟨fun _ => ?_, fun c => absurd (by omega) c⟩
    have ei : i = (τ 0 0).toNat := by omega
    rw [ei] at q
    exact k h2 q (some _)
  | succ m ih =>
    intro i h2 hm q
    have e0 : zV h2 137 0 = τ 0 0 := by rw [← vM0_0, q.2.2.2, xcl_v, if_neg (by omega)]
    have e3 : zV h2 141 i = xcl i τ 3 i := by rw [← vM_3 (by omega), q.2.2.2]
    refine W186_41 q.1 hd ⟨fun c => absurd c (by omega), fun c => ⟨by omega, by omega, ?_⟩⟩
    rw [Int.toNat_natCast, nz (by omega), e3]
    exact ih (i + 1) _ (by omega) (q.mm (xM_3 (by omega)))
theorem mp186_loop (I : Inv zl nl xs h) (hd : 20 ≤ d) (hx : 0 ≤ x ∧ x ≤ 60) (hy : hvM h 0 1 + x ≤ 9999) (k : ∀ h', xD zl nl h h' σ (xit xca (xG h) x.toNat (hvM h)) → K (hvM h 0 1 + x) h') : ∀ (m i : Nat) (h2 : Hp) (l3 : Option Int), (i : Int) + m = x → xD zl nl h h2 σ (xit xca (xG h) i (hvM h)) → ZW d prog_10_method_37_code 8 30 [some (vR (some 137)), some (vI x), some (vI i), yo l3] [] h2 (yq 1 (yqI K)) := by
  intro m
  induction m with
  | zero =>
    intro i h2 l3 hm q
    have ei : i = x.toNat := by omega
    have e8 : zV h2 137 8 = hvM h 0 1 + x := by
      rw [← vM0_1, q.2.2.2, xit_y]
      omega
    refine W186_30 q.1 (by omega) ⟨fun _ => ?_, fun c => absurd (by omega) c⟩
    rw [e8]
    rw [ei] at q
    exact k h2 q
  | succ m ih =>
    intro i h2 l3 hm q
    have r2 : Rg 9999 (xit xca (xG h) i (hvM h)) := xit_rg9 I.rg (by omega)
    have e6 : xit xca (xG h) i (hvM h) 0 6 = hvM h 0 6 := xit_o (by decide) (by decide) (by decide)
    have e0 : xgy xcm (xG h) (xit xca (xG h) i (hvM h)) 0 0 = hvM h 0 0 := by rw [xgy_o (by decide) (by decide) (by decide), xit_o (by decide) (by decide) (by decide)]
    have e00 : xit xca (xG h) i (hvM h) 0 0 = hvM h 0 0 := xit_o (by decide) (by decide) (by decide)
    have o2 : xMO 9999 h2 := by
      refine ⟨q.st I.st, by rw [q.2.2.2]; exact r2, ?_⟩
      rw [q.2.2.2, e6, q.2.1.V 137 15 (by unfold xNm xSc xOM; omega)]
      exact I.ho
    have rs := I.rg.sz
    refine W186_30 q.1 (by omega) ⟨fun c => absurd c (by omega), fun c => ?_⟩
    refine mp142 q.1 (by omega) o2 (by decide) fun h3 w3 f3 v3 => W186_39 w3 ?_
    rw [q.gg, q.2.2.2] at v3
    have q3 := q.frM w3 f3 (fun b k q => xMy_N q) v3
    refine mp186_cut (σ := σ) (τ := xgy xcm (xG h) (xit xca (xG h) i (hvM h))) (by rw [e0]; exact rs) (by omega) (fun h4 q4 l3 => ?_) (hvM h 0 0).toNat 0 h3 (by rw [e0]; omega) q3
    rw [nz (by omega)]
    refine ih (i + 1) h4 l3 (by omega) ?_
    rw [e0, ← e00, xcl_gy] at q4
    exact q4
theorem ap78 (I : Inv zl nl xs h) (hd : 21 ≤ d) : yI d 78 [vR (some 32), vI x] h (fun t h1 => yI d 186 [vR (some 137), vI x] h1 (fun u h2 => t = u ∧ Inv zl nl xs h2)) := by
  have w := I.w
  have ry := I.rg.yr
  have e11 : zV h 33 11 = hvM h 0 1 := by rw [← I.v]; rfl
  have e8 : zV h 137 8 = hvM h 0 1 := rfl
  refine E78 w (by omega) ⟨fun c => ⟨fun c1 => ?_, fun c1 => ?_⟩, fun c => ?_⟩
  · rw [e11, zwi (by omega)] at c1
    refine cp79 w yH37 (by omega) I.rgC I.st.2.1 c.1 (by omega) fun h1 w1 f1 v1 => W78_38 w1 ?_
    have t1 := (xD.rf w).fr w1 f1 (fun b k q => ?_) v1
    · have f8 : zV h1 137 8 = hvM h 0 1 := by rw [← vM0_1, t1.2.2.2]
      have f11 : zV h1 33 11 = hvM h 0 1 + x := by
        rw [← vC0_1, v1, xit_y, I.v]
        omega
      refine E186 w1 (by omega) ⟨fun _ => ⟨fun _ => ?_, fun c3 => absurd (by rw [f8, zwi (by omega)]; exact c1) c3⟩, fun c3 => absurd (by omega) c3⟩
      refine mp186_loop I (by omega) (by omega) c1 (fun h2 t2 => ⟨f11, ?_⟩) x.toNat 0 h1 none (by omega) t1
      refine I.ch t2 (by rw [I.v]) (xit_rg9 I.rg (by omega)) ?_
      rw [xit_o (by decide) (by decide) (by decide)]
      exact I.ho
    · unfold xHm at q
      rcases q with q | q | q | q
      · exact Or.inl (by omega)
      · exact Or.inl (by omega)
      · exact Or.inl (by omega)
      · exact Or.inr q
  · rw [e11] at c1
    exact E186 w (by omega) ⟨fun _ => ⟨fun c3 => absurd (by rw [e8] at c3; exact c3) c1, fun _ => ⟨rfl, I⟩⟩, fun c3 => absurd (by omega) c3⟩
  · exact E186 w (by omega) ⟨fun c3 => absurd (by omega) c, fun _ => ⟨rfl, I⟩⟩
/-- image -/
theorem ap105 (I : Inv zl nl xs h) (hd : 20 ≤ d) : yI d 105 [vR (some 32)] h (fun t h1 => yI d 202 [vR (some 137)] h1 (fun u h2 => t = u ∧ Inv zl nl xs h2)) := by
  have w := I.w
  refine E105 w (by omega) (cp28 w yH67 yH37 (by decide) (by omega) fun h1 w1 f1 v1 => W105_11 w1 ?_)
  obtain ⟨a1, a2, a3, a4, a5, a6⟩ := f1
  refine E202 (yWFV w1) (by omega) (mp141 (yWFV (yWFV w1)) (Or.inl rfl) fun h2 w2 f2 v2 => W202_13 w2 ?_)
  obtain ⟨b1, b2, b3, b4, b5, b6⟩ := f2
  have vV : ∀ b k, ¬ xI1 b k → zV h2 b k = zV h b k := by
    intro b k q
    unfold xI1 at q
    rw [b6 b k (by omega), zV_V, if_neg (by omega), zV_V, if_neg (by omega), a6 b k (by omega)]
  have f' : Fr xI1 h (zS h2, zV h2, zJ h2, zP h, zN h2, zM h2) := ⟨b1.trans a1, b2.trans a2, b3.trans a3, b4.trans a4, fun _ _ _ _ => rfl, vV⟩
  have e37 : hvC h2 33 = hvC h 33 := by
    refine hvC_fr (fun b i q1 q2 q3 q4 => vV b i (by unfold xI1; omega)) ?_
    rw [b5 33 12 (by omega) (by omega)]
    exact a5 33 12 (by omega)
  have eM : hvM h2 = hvM h := hvM_fr fun b i q => vV b i (by unfold xOM at q; unfold xI1; omega)
  have e67 : hvC h2 71 = hvC h 33 := by
    rw [← v1]
    refine hvC_fr (fun b i q1 q2 q3 q4 => ?_) ?_
    · rw [b6 b i (by omega), zV_V, if_neg (by omega), zV_V, if_neg (by omega)]
    · exact b5 71 12 (by omega) (by omega)
  have eI : hvI h2 161 = hvM h := by
    rw [v2]
    refine hvM_fr fun b i q => ?_
    unfold xOM at q
    rw [zV_V, if_neg (by omega), zV_V, if_neg (by omega), a6 b i (by omega)]
  have e15 : zV h2 137 15 = zV h 137 15 := vV 137 15 (by unfold xI1; omega)
  refine ⟨?_, w2, ?_, ⟨by rw [e37, eM]; exact I.v, by rw [eM]; exact I.rg, by rw [eM, e15]; exact I.ho⟩, ?_, ?_, ?_, ?_, ⟨?_, Or.inr ⟨?_, by rw [e67, eI]; exact I.v, by rw [e67]; exact I.rgC, by rw [e67, I.v, e15]; exact I.ho⟩⟩, fun k => ?_⟩
  · rw [← vM0_0, eM, ← I.sz]
    rw [zV_V, if_neg (by omega), a6 33 10 (by omega)]
  · exact Fr.ST (h' := (zS h2, zV h2, zJ h2, zP h, zN h2, zM h2)) f' I.st (fun b k q => by unfold xStC xShC at q; unfold xI1; omega)
  · exact xShp_fr (h2 := (zS h2, zV h2, zJ h2, zP h, zN h2, zM h2)) f' (fun b k q => by unfold xI1; omega) I.sh
  · exact xTx_fr (h2 := (zS h2, zV h2, zJ h2, zP h, zN h2, zM h2)) f' (fun b k q => by unfold xI1; omega) I.tx
  · exact xTp_fr (h2 := (zS h2, zV h2, zJ h2, zP h, zN h2, zM h2)) f' (fun b k q => by unfold xI1; omega) I.tp
  · exact xAc_fr (h2 := (zS h2, zV h2, zJ h2, zP h, zN h2, zM h2)) f' (fun b k q => by unfold xI1; omega) I.ac
  · rw [b6 32 3 (by omega), b6 137 38 (by omega)]
    rfl
  · rw [b6 32 3 (by omega)]
    rfl
  · rw [vV 0 k (by unfold xI1; omega)]
    exact I.xss k
/-- undo -/
theorem ap106 (I : Inv zl nl xs h) (hd : 20 ≤ d) : yI d 106 [vR (some 32)] h (fun t h1 => yI d 203 [vR (some 137)] h1 (fun u h2 => t = u ∧ Inv zl nl xs h2)) := by
  have w := I.w
  obtain ⟨i1, i2⟩ := I.im
  refine E106 w (by omega) ⟨fun c => ?_, fun c => ?_⟩
  · rcases i2 with i2 | ⟨-, j1, j2, j3⟩
    · exact absurd i2 c
    refine cp28 w yH37 yH67 (by decide) (by omega) fun h1 w1 f1 v1 => W106_21 w1 ?_
    obtain ⟨a1, a2, a3, a4, a5, a6⟩ := f1
    have c1 : zV h1 137 38 ≠ 0 := by rw [a6 137 38 (by omega), ← i1]; exact c
    refine E203 w1 (by omega) ⟨fun _ => ?_, fun c3 => absurd c1 c3⟩
    refine mp145 w1 (Or.inl rfl) fun h2 w2 f2 v2 => W203_18 w2 ?_
    obtain ⟨b1, b2, b3, b4, b5, b6⟩ := f2
    have vV : ∀ b k, ¬ xU1 b k → zV h2 b k = zV h b k := by
      intro b k q
      rw [b6 b k (fun r => q (Or.inr r)), a6 b k (fun r => q (Or.inl (by omega)))]
    have f' : Fr xU1 h (zS h2, zV h2, zJ h2, zP h, zN h2, zM h2) := ⟨b1.trans a1, b2.trans a2, b3.trans a3, b4.trans a4, fun _ _ _ _ => rfl, vV⟩
    have e37 : hvC h2 33 = hvC h 71 := by
      rw [← v1]
      refine hvC_fr (fun b i q1 q2 q3 q4 => b6 b i ?_) (b5 33 12 (by omega) (by omega))
      unfold xOM
      omega
    have eM : hvM h2 = hvC h 71 := by
      rw [v2, j1]
      exact hvI_fr fun i _ => a6 161 i (by omega)
    have e67 : hvC h2 71 = hvC h 71 := by
      refine hvC_fr (fun b i q1 q2 q3 q4 => vV b i (by unfold xU1 xOM; omega)) ?_
      rw [b5 71 12 (by omega) (by omega)]
      exact a5 71 12 (by omega)
    have eI : hvI h2 161 = hvI h 161 := hvI_fr fun i _ => vV 161 i (by unfold xU1 xOM; omega)
    have e15 : zV h2 137 15 = zV h 137 15 := vV 137 15 (by unfold xU1 xOM; omega)
    have e4 : zV h2 32 3 = zV h 32 3 := vV 32 3 (by unfold xU1 xOM; omega)
    have e38 : zV h2 137 38 = zV h 137 38 := vV 137 38 (by unfold xU1 xOM; omega)
    refine ⟨?_, w2, ?_, ⟨by rw [e37, eM], by rw [eM]; exact j2, by rw [eM, e15]; exact j3⟩, ?_, ?_, ?_, ?_, ⟨by rw [e4, e38]; exact i1, Or.inr ⟨?_, by rw [e67, eI]; exact j1, by rw [e67]; exact j2, by rw [e67, e15]; exact j3⟩⟩, fun k => ?_⟩
    · rw [← vM0_0, eM, ← v1]
      rfl
    · exact Fr.ST (h' := (zS h2, zV h2, zJ h2, zP h, zN h2, zM h2)) f' I.st (fun b k q => by unfold xStC xShC at q; unfold xU1 xOM; omega)
    · exact xShp_fr (h2 := (zS h2, zV h2, zJ h2, zP h, zN h2, zM h2)) f' (fun b k q => by unfold xU1 xOM; omega) I.sh
    · exact xTx_fr (h2 := (zS h2, zV h2, zJ h2, zP h, zN h2, zM h2)) f' (fun b k q => by unfold xU1 xOM; omega) I.tx
    · exact xTp_fr (h2 := (zS h2, zV h2, zJ h2, zP h, zN h2, zM h2)) f' (fun b k q => by unfold xU1 xOM; omega) I.tp
    · exact xAc_fr (h2 := (zS h2, zV h2, zJ h2, zP h, zN h2, zM h2)) f' (fun b k q => by unfold xU1 xOM; omega) I.ac
    · rcases I.im.2 with q | q
      · exact absurd q c
      · rw [e4]; exact q.1
    · rw [vV 0 k (by unfold xU1 xOM; omega)]
      exact I.xss k
  · exact E203 w (by omega) ⟨fun c3 => absurd (by rw [← i1] at c3; exact c3) c, fun _ => ⟨rfl, I⟩⟩
end XPA
