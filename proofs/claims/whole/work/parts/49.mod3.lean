/-! THE MODEL: what is asked of years to come -/
section XM3
variable {zl : Nat} {nl : Option Nat} {h h' h1 h2 h3 : Hp} {d : Nat} {K : Int → Hp → Prop} {KJ : Int64 → Hp → Prop} {U : Hp → Prop} {a n s b j : Nat} {x y z B : Int} {σ τ : Vw} {p i : Int} {k : Nat}
/-- h: as it was; h1: behind keep; h2: with what was tried since -/
def xU (zl : Nat) (nl : Option Nat) (h h2 : Hp) (τ : Vw) : Prop := yWF zl nl h2 ∧ hvM h2 = τ ∧ ∃ h1, Fr (fun c _ => c = 162) h h1 ∧ hvI h1 162 = hvM h ∧ Fr xMx h1 h2
theorem xUW (u : xU zl nl h h2 τ) : Fr xW h h2 := by
  obtain ⟨w, v, h1, f1, v1, f2⟩ := u
  exact (f1.mono (fun c k q => Or.inl (Sc8 (by omega)))).trans (f2.mono fun c k q => xMx_W q)
theorem xUO (u : xU zl nl h h2 τ) (o : xMO B h) (r : Rg y τ) (e : τ 0 6 = hvM h 0 6) : xMO y h2 :=
  wO (xUW u) o (by rw [u.2.1]; exact r) (by rw [u.2.1]; exact e)
theorem mu_keep (w : yWF zl nl h) (k : ∀ h', xU zl nl h h' (hvM h) → U h') : yU d 141 [vR (some 137), vR (some 162)] h U := by
  refine mp141 w (Or.inr rfl) fun h1 w1 f1 v1 => k h1 ⟨w1, ?_, h1, f1, v1, Fr.rfl'⟩
  exact f1.hvM (fun c k q => by unfold xOM at q; omega)
theorem mu_again (u : xU zl nl h h2 τ) (k : ∀ h', yWF zl nl h' → Fr xSc h h' → U h') : yU d 145 [vR (some 137), vR (some 162)] h2 U := by
  have fW := xUW u
  obtain ⟨w, v, h1, f1, v1, f2⟩ := u
  refine mp145 w (Or.inr rfl) fun h3 w3 f3 v3 => k h3 w3 ?_
  refine xback (fW.trans (f3.mono fun c k q => Or.inr q)) ?_
  rw [v3, ← v1]
  exact hvI_fr fun i _ => f2.V 162 i (by unfold xMx; omega)
theorem mu_q (u : xU zl nl h h2 τ) (w3 : yWF zl nl h3) (f : Fr xMq h2 h3) : xU zl nl h h3 τ := by
  obtain ⟨w, v, h1, f1, v1, f2⟩ := u
  exact ⟨w3, by rw [f.qM, v], h1, f1, v1, f2.trans (f.mono fun c k q => xMq_x q)⟩
theorem mu_gy (u : xU zl nl h h2 τ) (hd : 2 ≤ d) (o : xMO B h) (r : Rg y τ) (hy : y ≤ 50000) (e : τ 0 6 = hvM h 0 6) (k : ∀ h', xU zl nl h h' (xgy xcm (xG h) τ) → U h') : yU d 142 [vR (some 137)] h2 U := by
  have fW := xUW u
  refine mp142 u.1 hd (xUO u o r e) hy fun h3 w3 f3 v3 => k h3 ?_
  obtain ⟨w, v, h1, f1, v1, f2⟩ := u
  refine ⟨w3, ?_, h1, f1, v1, f2.trans (f3.mono fun c k q => xMy_x q)⟩
  rw [v3, v, wG fW]
theorem mu_set (u : xU zl nl h h2 τ) {j m c i : Nat} (e : xcM j m = some (c, i)) (hc : c = 139 ∨ c = 140 ∨ c = 141) : xU zl nl h (zsetV h2 c i x) (up τ j m x) := by
  obtain ⟨w, v, h1, f1, v1, f2⟩ := u
  exact ⟨yWFV w, by rw [hvM_set e, v], h1, f1, v1, f2.trans (Fr.set (by unfold xMx; omega))⟩
/-- ON -/
theorem mp140_loop (hd : 7 ≤ d) (o : xMO B h) (hB : B ≤ 20000) (p : 0 ≤ x ∧ x < 6) (hn : 0 ≤ y ∧ y ≤ 60) (hz : (0 ≤ z ∧ z < 6) ∨ (10 ≤ z ∧ z < 16) ∨ z = 20) (k : ∀ h', yWF zl nl h' → Fr xSc h h' → K (if z = 20 then xsnd (xF h) (xit xcm (xG h) y.toNat (hvM h)) x else if z < 10 then xN (xF h) (xit xcm (xG h) y.toNat (hvM h)) x z else xit xcm (xG h) y.toNat (hvM h) 4 (6 * x + (z - 10)).toNat) h') : ∀ (m i : Nat) (h2 : Hp), (i : Int) + m = y → xU zl nl h h2 (xit xcm (xG h) i (hvM h)) → ZW d prog_10_method_38_code 8 57 [some (vR (some 137)), some (vI y), some (vI x), some (vI z), some (vI i)] [] h2 (yq 1 (yqI K)) := by
  intro m
  induction m with
  | zero =>
    intro i h2 hm u
    have ei : i = y.toNat := by omega
    rw [← ei] at k
    have rr : Rg (B + i) (xit xcm (xG h) i (hvM h)) := xit_rg o.2.1 xcm_r
    have o2 := xUO u o rr (xit_o (by decide) (by decide) (by decide))
    have eF := wF (xUW u) o.1
    refine W140_57 u.1 (by omega) ⟨fun _ => ⟨fun c => ⟨fun c2 => ?_, fun c2 => ?_⟩, fun c => ?_⟩, fun c => absurd (by omega) c⟩
    · have z1 : zw (zw (zw (6 * x) + z) - 10) = 6 * x + (z - 10) := by rw [zwi (x := 6 * x) (by omega), zwi (x := 6 * x + z) (by omega), zwi (by omega)]; omega
      rw [z1]
      refine ⟨by omega, mu_again u fun h3 w3 f3 => W140_126 w3 ?_⟩
      have := k h3 w3 f3
      rw [if_neg c, if_neg (by omega)] at this
      rw [← vM_4 (by omega), u.2.1]
      exact this
    · refine mp133 u.1 (by omega) o2 (by omega) (by omega) fun h3 w3 f3 => W140_99 w3 (by omega) ?_
      refine mu_again (mu_q u w3 (f3.mono xM1_q)) fun h4 w4 f4 => W140_126 w4 ?_
      have := k h4 w4 f4
      rw [if_neg c, if_pos (by omega)] at this
      rw [eF, u.2.1]
      exact this
    · refine mp144 u.1 (by omega) o2 (by omega) p fun h3 w3 f3 => W140_84 w3 (by omega) ?_
      refine mu_again (mu_q u w3 (f3.mono xM1_q)) fun h4 w4 f4 => W140_126 w4 ?_
      have := k h4 w4 f4
      rw [if_pos (Classical.byContradiction c)] at this
      rw [eF, u.2.1]
      exact this
  | succ m ih =>
    intro i h2 hm u
    have rr : Rg (B + i) (xit xcm (xG h) i (hvM h)) := xit_rg o.2.1 xcm_r
    refine W140_57 u.1 (by omega) ⟨fun c => absurd c (by omega), fun c => ?_⟩
    refine mu_gy u (by omega) o rr (by omega) (xit_o (by decide) (by decide) (by decide)) fun h3 u3 => W140_67 u3.1 ?_
    rw [nz (by omega)]
    exact ih (i + 1) h3 (by omega) u3
theorem mp140 (w : yWF zl nl h) (hd : 7 ≤ d) (o : xMO B h) (hB : B ≤ 20000) (p : 0 ≤ x ∧ x < hvM h 0 0) (hn : 0 ≤ y ∧ y ≤ 60) (hz : (0 ≤ z ∧ z < 6) ∨ (10 ≤ z ∧ z < 16) ∨ z = 20) (k : ∀ h', yWF zl nl h' → Fr xSc h h' → K (if z = 20 then xsnd (xF h) (xit xcm (xG h) y.toNat (hvM h)) x else if z < 10 then xN (xF h) (xit xcm (xG h) y.toNat (hvM h)) x z else xit xcm (xG h) y.toNat (hvM h) 4 (6 * x + (z - 10)).toNat) h') : yI d 140 [vR (some 137), vI y, vI x, vI z] h K := by
  have rs := o.2.1.sz
  have e0 : zV h 137 0 = hvM h 0 0 := rfl
  have go : yU (d - 1) 141 [vR (some 137), vR (some 162)] h (fun h' => ZW d prog_10_method_38_code 8 54 [some (vR (some 137)), some (vI y), some (vI x), some (vI z), none] [] h' (yq 1 (yqI K))) :=
    mu_keep w fun h1 u1 => W140_54 u1.1 (mp140_loop hd o hB (by omega) hn hz k y.toNat 0 h1 (by omega) u1)
  have z1 : zw (z - 10) = z - 10 := zwi (by omega)
  refine E140 w (by omega) ⟨by omega, fun c => ⟨fun c2 => ⟨fun c3 => go, fun c3 => absurd hn c3⟩, fun c2 => ⟨fun c3 => ⟨fun c4 => go, fun c4 => absurd hn c4⟩, fun c3 => ⟨fun c4 => ⟨fun c5 => go, fun c5 => absurd hn c5⟩, fun c4 => ?_⟩⟩⟩, fun c => absurd (by omega) c⟩
  rw [z1] at c3
  omega
/-- whether all of SEEN is so -/
theorem mp139_loop (hd : 8 ≤ d) (o : xMO B h) (hB : B ≤ 20000) (p : 0 ≤ x ∧ x < hvM h 0 0) (k0 : ∀ h', yWF zl nl h' → Fr xSc h h' → ¬ xsn xcm (xF h) (xG h) (hvM h) x → K 0 h') (k1 : ∀ h', yWF zl nl h' → Fr xSc h h' → xsn xcm (xF h) (xG h) (hvM h) x → K 1 h') : ∀ (m i : Nat) (h2 : Hp), (i : Int) + m = hvM h 0 3 → yWF zl nl h2 → Fr xSc h h2 → (∀ r : Nat, r < i → hvM h 11 r = x → xN (xF h) (xit xcm (xG h) (hvM h 13 r).toNat (hvM h)) x (hvM h 12 r) = hvM h 14 r) → ZW d prog_10_method_46_code 8 2 [some (vR (some 137)), some (vI x), some (vI i)] [] h2 (yq 2 (yqI K)) := by
  have rs := o.2.1.sn
  intro m
  induction m with
  | zero =>
    intro i h2 hm w2 f2 q
    have v2 : hvM h2 = hvM h := f2.hvM xSc_M
    have e0 : zV h2 137 25 = hvM h 0 3 := by rw [← v2]; rfl
    exact W139_2 w2 (by omega) ⟨fun _ => k1 h2 w2 f2 (fun r hr e => q r (by omega) e), fun c => absurd (by omega) c⟩
  | succ m ih =>
    intro i h2 hm w2 f2 q
    have v2 : hvM h2 = hvM h := f2.hvM xSc_M
    have e0 : zV h2 137 25 = hvM h 0 3 := by rw [← v2]; rfl
    have r2 := o.2.1.s2 i
    have r3 := o.2.1.s3 i
    have e11 : zV h2 152 i = hvM h 11 i := by rw [← v2, vM_11 (by omega)]
    have e12 : zV h2 153 i = hvM h 12 i := by rw [← v2, vM_12 (by omega)]
    have e13 : zV h2 154 i = hvM h 13 i := by rw [← v2, vM_13 (by omega)]
    refine W139_2 w2 (by omega) ⟨fun c => absurd c (by omega), fun c => ⟨by omega, ?_⟩⟩
    rw [Int.toNat_natCast, e11, e12, e13, nz (by omega)]
    refine ⟨fun c1 => ?_, fun c1 => ⟨by omega, by omega, ?_⟩⟩
    · refine ih (i + 1) h2 (by omega) w2 f2 (fun r hr e => ?_)
      by_cases c2 : r = i
      · subst c2; exact absurd e c1
      · exact q r (by omega) e
    · refine mp140 w2 (by omega) (scO f2 o) hB (by rw [v2]; exact p) (by omega) (Or.inl (by omega)) fun h3 w3 f3 => W139_37 w3 ⟨by omega, ?_⟩
      have f3' := f2.trans f3
      have v3 : hvM h3 = hvM h := f3'.hvM xSc_M
      have e14 : zV h3 155 i = hvM h 14 i := by rw [← v3, vM_14 (by omega)]
      rw [Int.toNat_natCast, e14, if_neg (by omega), if_pos (by omega), v2, f2.scG, f2.scF o.1, nz (by omega)]
      refine ⟨fun c2 => ?_, fun c2 => k0 h3 w3 f3' (fun t => c2 (t i (by omega) (Classical.byContradiction c1)))⟩
      refine ih (i + 1) h3 (by omega) w3 f3' (fun r hr e => ?_)
      by_cases c3 : r = i
      · subst c3; exact c2
      · exact q r (by omega) e
theorem mp139 (w : yWF zl nl h) (hd : 8 ≤ d) (o : xMO B h) (hB : B ≤ 20000) (p : 0 ≤ x ∧ x < hvM h 0 0) (k0 : ∀ h', yWF zl nl h' → Fr xSc h h' → ¬ xsn xcm (xF h) (xG h) (hvM h) x → K 0 h') (k1 : ∀ h', yWF zl nl h' → Fr xSc h h' → xsn xcm (xF h) (xG h) (hvM h) x → K 1 h') : yI d 139 [vR (some 137), vI x] h K := by
  have := o.2.1.sn
  exact E139 w (mp139_loop hd o hB p k0 k1 (hvM h 0 3).toNat 0 h (by omega) w Fr.rfl' (fun r hr => absurd hr (by omega)))
theorem scW (f : Fr xSc h h2) : Fr xW h h2 := f.mono fun _ _ q => xSc_W q
/-- BUMPS of one, as bits -/
theorem mp138_loop (hd : 9 ≤ d) (o : xMO B h) (hB : B ≤ 20000) (p : 0 ≤ x ∧ x < hvM h 0 0) (q : 0 ≤ y ∧ y < 6) (k : ∀ h', yWF zl nl h' → Fr xSc h h' → K (xbo xcm (xF h) (xG h) (hvM h) x y) h') : ∀ (m i : Nat) (h2 : Hp) (t : Int), i + m = 10 → yWF zl nl h2 → Fr xW h h2 → hvM h2 = up (hvM h) 4 (6 * x + y).toNat t → ZW d prog_10_method_47_code 8 18 [some (vR (some 137)), some (vI x), some (vI y), some (vI (hvM h 4 (6 * x + y).toNat)), some (vI (xbts (fun n => xsn xcm (xF h) (xG h) (up (hvM h) 4 (6 * x + y).toNat (n : Int)) x) i)), some (vI i)] [] h2 (yq 1 (yqI K)) := by
  have rs := o.2.1.sz
  have hk : (6 * x + y).toNat < 36 := by omega
  have z1 : zw (zw (6 * x) + y) = 6 * x + y := by rw [zwi (x := 6 * x) (by omega), zwi (by omega)]
  intro m
  induction m with
  | zero =>
    intro i h2 t hm w2 f2 v2
    obtain rfl : i = 10 := by omega
    refine W138_18 w2 (by omega) ⟨fun _ => ⟨by omega, ?_⟩, fun c => absurd (by decide) c⟩
    rw [z1]
    refine k _ (yWFV w2) (xback (f2.trans (Fr.set (Or.inr (xcM_inv (xM_4 hk)).2))) ?_)
    rw [hvM_set (xM_4 hk), v2, up_up2]
    exact up_self
  | succ m ih =>
    intro i h2 t hm w2 f2 v2
    refine W138_18 w2 (by omega) ⟨fun c => absurd c (by omega), fun c => ⟨by omega, ?_⟩⟩
    rw [z1]
    have w3 : yWF zl nl (zsetV h2 140 (6 * x + y).toNat (i : Int)) := yWFV w2
    have f3 : Fr xW h (zsetV h2 140 (6 * x + y).toNat (i : Int)) := f2.trans (Fr.set (Or.inr (xcM_inv (xM_4 hk)).2))
    have v3 : hvM (zsetV h2 140 (6 * x + y).toNat (i : Int)) = up (hvM h) 4 (6 * x + y).toNat (i : Int) := by rw [hvM_set (xM_4 hk), v2, up_up2]
    have o3 : xMO B (zsetV h2 140 (6 * x + y).toNat (i : Int)) := wO f3 o (by rw [v3]; exact o.2.1.up4 (by omega)) (by rw [v3]; rfl)
    have e1 := wF f3 o.1
    have e2 := wG f3
    refine mp139 w3 (by omega) o3 hB (by rw [v3]; exact p) (fun h4 w4 f4 c4 => W138_43 w4 ⟨fun _ => ?_, fun c6 => absurd rfl c6⟩) (fun h4 w4 f4 c4 => W138_43 w4 ⟨fun c6 => absurd c6 (by decide), fun _ => ?_⟩)
    · rw [e1, e2, v3] at c4
      rw [nz (by omega), ← xbts_f (P := fun n : Nat => xsn xcm (xF h) (xG h) (up (hvM h) 4 (6 * x + y).toNat (n : Int)) x) c4]
      exact ih (i + 1) h4 i (by omega) w4 (f3.trans (scW f4)) (by rw [f4.hvM xSc_M, v3])
    · rw [e1, e2, v3] at c4
      rw [nz (by omega), ← xbts_t (P := fun n : Nat => xsn xcm (xF h) (xG h) (up (hvM h) 4 (6 * x + y).toNat (n : Int)) x) c4]
      exact ih (i + 1) h4 i (by omega) w4 (f3.trans (scW f4)) (by rw [f4.hvM xSc_M, v3])
theorem mp138 (w : yWF zl nl h) (hd : 9 ≤ d) (o : xMO B h) (hB : B ≤ 20000) (p : 0 ≤ x ∧ x < hvM h 0 0) (q : 0 ≤ y ∧ y < 6) (k : ∀ h', yWF zl nl h' → Fr xSc h h' → K (xbo xcm (xF h) (xG h) (hvM h) x y) h') : yI d 138 [vR (some 137), vI x, vI y] h K := by
  have rs := o.2.1.sz
  have z1 : zw (zw (6 * x) + y) = 6 * x + y := by rw [zwi (x := 6 * x) (by omega), zwi (by omega)]
  refine E138 w ⟨by omega, ?_⟩
  rw [z1, ← vM_4 (by omega)]
  exact mp138_loop hd o hB p q k 10 0 h _ rfl w Fr.rfl' up_self.symm
/-- CAN -/
theorem mp192_loop (hd : 9 ≤ d) (o : xMO B h) (hB : B ≤ 20000) (p : 0 ≤ x ∧ x < hvM h 0 0) (k : ∀ h', yWF zl nl h' → Fr xSc h h' → K (if y = 0 then (xcnl (xcnP xcm (xF h) (xG h) (hvM h) x) 10).1 else (xcnl (xcnP xcm (xF h) (xG h) (hvM h) x) 10).2) h') : ∀ (m i : Nat) (h2 : Hp) (v t : Int), i + m = 10 → v = 9 - i → yWF zl nl h2 → Fr xW h h2 → hvM h2 = up (hvM h) 2 x.toNat t → ZW d prog_10_method_48_code 8 37 [some (vR (some 137)), some (vI x), some (vI y), some (vI (hvM h 2 x.toNat)), some (vI (xcnl (xcnP xcm (xF h) (xG h) (hvM h) x) i).1), some (vI (xcnl (xcnP xcm (xF h) (xG h) (hvM h) x) i).2), some (vI v)] [] h2 (yq 1 (yqI K)) := by
  have rs := o.2.1.sz
  have hk : x.toNat < 6 := by omega
  intro m
  induction m with
  | zero =>
    intro i h2 v t hm hv w2 f2 v2
    obtain rfl : i = 10 := by omega
    have k := k (zsetV h2 139 x.toNat (hvM h 2 x.toNat)) (yWFV w2) (xback (f2.trans (Fr.set (Or.inr (xcM_inv (xM_2 hk)).2))) (by rw [hvM_set (xM_2 hk), v2, up_up2]; exact up_self))
    refine W192_37 w2 (by omega) ⟨fun _ => ⟨by omega, fun c => ?_, fun c => ?_⟩, fun c => absurd (by omega) c⟩
    · rw [if_neg c] at k; exact k
    · rw [if_pos (Classical.byContradiction c)] at k; exact k
  | succ m ih =>
    intro i h2 v t hm hv w2 f2 v2
    have rc := xcnl_r (xcnP xcm (xF h) (xG h) (hvM h) x) i
    obtain rfl : v = ((9 - i : Nat) : Int) := by omega
    refine W192_37 w2 (by omega) ⟨fun c => absurd c (by omega), fun c => ⟨by omega, ?_⟩⟩
    have w3 : yWF zl nl (zsetV h2 139 x.toNat ((9 - i : Nat) : Int)) := yWFV w2
    have f3 : Fr xW h (zsetV h2 139 x.toNat ((9 - i : Nat) : Int)) := f2.trans (Fr.set (Or.inr (xcM_inv (xM_2 hk)).2))
    have v3 : hvM (zsetV h2 139 x.toNat ((9 - i : Nat) : Int)) = up (hvM h) 2 x.toNat ((9 - i : Nat) : Int) := by rw [hvM_set (xM_2 hk), v2, up_up2]
    have o3 : xMO B (zsetV h2 139 x.toNat ((9 - i : Nat) : Int)) := wO f3 o (by rw [v3]; exact o.2.1.up2 (by omega)) (by rw [v3]; rfl)
    have e1 := wF f3 o.1
    have e2 := wG f3
    have z1 : zw (((9 - i : Nat) : Int) + -1) = 8 - (i : Int) := by rw [zwi (by omega)]; omega
    refine mp139 w3 (by omega) o3 hB (by rw [v3]; exact p) (fun h4 w4 f4 c4 => W192_55 w4 ⟨fun c6 => absurd rfl c6, fun _ => ?_⟩) (fun h4 w4 f4 c4 => W192_55 w4 ⟨fun _ => ?_, fun c6 => absurd (by decide) c6⟩)
    · rw [e1, e2, v3] at c4
      have e := xcnl_f (P := xcnP xcm (xF h) (xG h) (hvM h) x) (m := i) c4
      rw [z1, ← e]
      exact ih (i + 1) h4 _ _ (by omega) (by omega) w4 (f3.trans (scW f4)) (by rw [f4.hvM xSc_M, v3])
    · rw [e1, e2, v3] at c4
      have e := xcnl_t (P := xcnP xcm (xF h) (xG h) (hvM h) x) (m := i) c4
      rw [z1, zwi (x := (xcnl _ i).1 + 1) (by omega)]
      have q := ih (i + 1) h4 (8 - (i : Int)) _ (by omega) (by omega) w4 (f3.trans (scW f4)) (by rw [f4.hvM xSc_M, v3])
      rw [e] at q
      exact q
/-- WHEN -/
theorem mp148_loop (hd : 7 ≤ d) (o : xMO B h) (hB : B ≤ 20000) (p : 0 ≤ x ∧ x < 6) (k : ∀ h', yWF zl nl h' → Fr xSc h h' → K (xwh xcm (xF h) (xG h) (hvM h) x) h') : ∀ (m i : Nat) (h2 : Hp), i + m = 61 → (i = 0 → xU zl nl h h2 (hvM h)) → (1 ≤ i → xU zl nl h h2 (xit xcm (xG h) (i - 1) (hvM h))) → xwh xcm (xF h) (xG h) (hvM h) x = xlst (fun n => xhd (xF h) (xit xcm (xG h) n (hvM h)) x ≠ -5) m i → ZW d prog_10_method_39_code 8 13 [some (vR (some 137)), some (vI x), some (vI (-5)), some (vI i)] [] h2 (yq 1 (yqI K)) := by
  intro m
  induction m with
  | zero =>
    intro i h2 hm u0 u hx
    have u := u (by omega)
    refine W148_13 u.1 (by omega) ⟨fun _ => ?_, fun c => absurd (by omega) c⟩
    refine mu_again u fun h3 w3 f3 => W148_59 w3 ?_
    have := k h3 w3 f3
    rw [hx] at this
    exact this
  | succ m ih =>
    intro i h2 hm u0 u hx
    have rr : Rg (B + i) (xit xcm (xG h) i (hvM h)) := xit_rg o.2.1 xcm_r
    have ho : xit xcm (xG h) i (hvM h) 0 6 = hvM h 0 6 := xit_o (by decide) (by decide) (by decide)
    -- behind the year, if one goes
    have go : ∀ h3, xU zl nl h h3 (xit xcm (xG h) i (hvM h)) → yI (d - 1) 146 [vR (some 137), vI x] h3 (fun t h' => ZW d prog_10_method_39_code 8 38 [some (vR (some 137)), some (vI x), some (vI (-5)), some (vI i)] [vI t] h' (yq 1 (yqI K))) := by
      intro h3 u3
      refine mp146 u3.1 (by omega) (xUO u3 o rr ho) (by omega) p fun h4 w4 f4 => W148_38 w4 ?_
      rw [wF (xUW u3) o.1, u3.2.1, nz (by omega)]
      have u4 := mu_q u3 w4 f4
      refine ⟨fun c => ?_, fun c => ?_⟩
      · exact ih (i + 1) h4 (by omega) (fun q => absurd q (by omega)) (fun _ => u4) (by rw [hx, xlst_f (fun q => q c)])
      · have e : xwh xcm (xF h) (xG h) (hvM h) x = i := by rw [hx]; exact xlst_t (P := fun n : Nat => xhd (xF h) (xit xcm (xG h) n (hvM h)) x ≠ -5) c
        have fin : yU (d - 1) 145 [vR (some 137), vR (some 162)] h4 (fun h' => ZW d prog_10_method_39_code 8 59 [some (vR (some 137)), some (vI x), some (vI i), some (vI ((i + 1 : Nat) : Int))] [] h' (yq 1 (yqI K))) := by
          refine mu_again u4 fun h5 w5 f5 => W148_59 w5 ?_
          have := k h5 w5 f5
          rw [e] at this
          exact this
        exact W148_13 w4 (by omega) ⟨fun _ => fin, fun _ => ⟨fun _ => fin, fun q => absurd (by omega) q⟩⟩
    by_cases ci : i = 0
    · subst ci
      have u0 := u0 rfl
      exact W148_13 u0.1 (by omega) ⟨fun c => absurd c (by decide), fun _ => ⟨fun c => absurd rfl c, fun _ => ⟨fun _ => go h2 u0, fun c => absurd (by decide) c⟩⟩⟩
    · have u := u (by omega)
      refine W148_13 u.1 (by omega) ⟨fun c => absurd c (by omega), fun _ => ⟨fun c => absurd rfl c, fun _ => ⟨fun c => absurd c (by omega), fun _ => ?_⟩⟩⟩
      have rr' : Rg (B + (i - 1 : Nat)) (xit xcm (xG h) (i - 1) (hvM h)) := xit_rg o.2.1 xcm_r
      refine mu_gy u (by omega) o rr' (by omega) (xit_o (by decide) (by decide) (by decide)) fun h3 u3 => W148_33 u3.1 (by omega) (go h3 ?_)
      obtain ⟨i', rfl⟩ : ∃ i', i = i' + 1 := ⟨i - 1, by omega⟩
      exact u3
theorem mp148 (w : yWF zl nl h) (hd : 7 ≤ d) (o : xMO B h) (hB : B ≤ 20000) (p : 0 ≤ x ∧ x < 6) (k : ∀ h', yWF zl nl h' → Fr xSc h h' → K (xwh xcm (xF h) (xG h) (hvM h) x) h') : yI d 148 [vR (some 137), vI x] h K :=
  E148 w (by omega) (mu_keep w fun h1 u1 => W148_8 u1.1 (mp148_loop hd o hB p k 61 0 h1 rfl (fun _ => u1) (fun q => absurd q (by omega)) rfl))
/-- PRESS -/
theorem mp149_loop (hd : 7 ≤ d) (o : xMO B h) (hB : B ≤ 20000) (p : 0 ≤ x ∧ x < 6) (k : ∀ h', yWF zl nl h' → Fr xSc h h' → K (xlst (xpP (xF h) (hvM h) x) 60 0) h') : ∀ (m : Nat), m ≤ 6 → ∀ (h2 : Hp) (v : Int) (l4 l5 : Option Int), v = (m : Int) - 1 → yWF zl nl h2 → Fr xW h h2 → hvM h2 = hvM h → ZW d prog_10_method_44_code 8 5 [some (vR (some 137)), some (vI x), some (vI (xlst (xpP (xF h) (hvM h) x) (60 - 10 * m) (10 * m))), some (vI v), yo l4, yo l5] [] h2 (yq 1 (yqI K)) := by
  intro m
  induction m with
  | zero =>
    intro _ h2 v l4 l5 hv w2 f2 v2
    exact W149_5 w2 ⟨fun _ => k h2 w2 (xback f2 v2), fun c => absurd (by omega) c⟩
  | succ m ih =>
    intro hm6 h2 v l4 l5 hv w2 f2 v2
    obtain rfl : v = (m : Int) := by omega
    have hk : (6 * x + (m : Int)).toNat < 36 := by omega
    have z1 : zw (zw (6 * x) + (m : Int)) = 6 * x + (m : Int) := by rw [zwi (x := 6 * x) (by omega), zwi (by omega)]
    refine W149_5 w2 ⟨fun c => absurd c (by omega), fun c => ⟨by omega, ?_⟩⟩
    rw [z1, ← vM_4 hk, v2]
    have lp : ∀ (q : Nat), q ≤ 10 → ∀ (h3 : Hp) (v t : Int), v = (q : Int) - 1 → yWF zl nl h3 → Fr xW h h3 → hvM h3 = up (hvM h) 4 (6 * x + (m : Int)).toNat t → ZW d prog_10_method_44_code 8 26 [some (vR (some 137)), some (vI x), some (vI (xlst (xpP (xF h) (hvM h) x) (60 - (10 * m + q)) (10 * m + q))), some (vI (m : Int)), some (vI (hvM h 4 (6 * x + (m : Int)).toNat)), some (vI v)] [] h3 (yq 1 (yqI K)) := by
      intro q
      induction q with
      | zero =>
        intro _ h3 v t hv w3 f3 v3
        refine W149_26 w3 (by omega) ⟨fun _ => ⟨by omega, ?_⟩, fun c => absurd (by omega) c⟩
        have z2 : zw ((m : Int) + -1) = (m : Int) - 1 := by rw [zwi (by omega)]; omega
        rw [z1, z2]
        refine ih (by omega) _ _ (some _) (some _) rfl (yWFV w3) (f3.trans (Fr.set (Or.inr (xcM_inv (xM_4 hk)).2))) ?_
        rw [hvM_set (xM_4 hk), v3, up_up2]
        exact up_self
      | succ q ihq =>
        intro hq h3 v t hv w3 f3 v3
        obtain rfl : v = (q : Int) := by omega
        refine W149_26 w3 (by omega) ⟨fun c => absurd c (by omega), fun c => ⟨by omega, ?_⟩⟩
        rw [z1]
        have w4 : yWF zl nl (zsetV h3 140 (6 * x + (m : Int)).toNat (q : Int)) := yWFV w3
        have f4 : Fr xW h (zsetV h3 140 (6 * x + (m : Int)).toNat (q : Int)) := f3.trans (Fr.set (Or.inr (xcM_inv (xM_4 hk)).2))
        have v4 : hvM (zsetV h3 140 (6 * x + (m : Int)).toNat (q : Int)) = xpc (hvM h) x (10 * m + q) := by
          rw [hvM_set (xM_4 hk), v3, up_up2]
          unfold xpc
          have e1 : (10 * m + q) / 10 = m := by omega
          have e2 : (10 * m + q) % 10 = q := by omega
          rw [e1, e2]
        have r4 : Rg B (xpc (hvM h) x (10 * m + q)) := o.2.1.up4 (by omega)
        have o4 : xMO B (zsetV h3 140 (6 * x + (m : Int)).toNat (q : Int)) := wO f4 o (by rw [v4]; exact r4) (by rw [v4]; rfl)
        refine mp146 w4 (by omega) o4 (by omega) p fun h5 w5 f5 => W149_49 w5 ?_
        rw [wF f4 o.1, v4]
        have z2 : zw ((q : Int) + -1) = (q : Int) - 1 := by rw [zwi (by omega)]; omega
        have z3 : zw (zw (10 * (m : Int)) + (q : Int)) = ((10 * m + q : Nat) : Int) := by rw [zwi (x := 10 * (m : Int)) (by omega), zwi (by omega)]; omega
        have v5 : hvM h5 = up (hvM h) 4 (6 * x + (m : Int)).toNat (q : Int) := by
          rw [f5.qM, hvM_set (xM_4 hk), v3, up_up2]
        have f5' : Fr xW h h5 := f4.trans (f5.mono fun c k q => Or.inl (xMq_Sc q))
        have e6 : 60 - (10 * m + q) = 60 - (10 * m + (q + 1)) + 1 := by omega
        rw [z2, z3]
        refine ⟨fun c => ?_, fun c => ?_⟩
        · have e : xlst (xpP (xF h) (hvM h) x) (60 - (10 * m + (q + 1))) (10 * m + (q + 1)) = xlst (xpP (xF h) (hvM h) x) (60 - (10 * m + q)) (10 * m + q) := by
            rw [e6, xlst_f (P := xpP (xF h) (hvM h) x) (i := 10 * m + q) (fun r => r c)]
            rfl
          rw [e]
          exact ihq (by omega) h5 _ _ rfl w5 f5' v5
        · have e : ((10 * m + q : Nat) : Int) = xlst (xpP (xF h) (hvM h) x) (60 - (10 * m + q)) (10 * m + q) := by
            rw [e6, xlst_t (P := xpP (xF h) (hvM h) x) (i := 10 * m + q) c]
          rw [e]
          exact ihq (by omega) h5 _ _ rfl w5 f5' v5
    exact lp 10 (Nat.le_refl 10) h2 9 _ (by decide) w2 f2 (by rw [v2]; exact up_self.symm)
theorem mp149 (w : yWF zl nl h) (hd : 7 ≤ d) (o : xMO B h) (hB : B ≤ 20000) (p : 0 ≤ x ∧ x < 6) (k : ∀ h', yWF zl nl h' → Fr xSc h h' → K (xlst (xpP (xF h) (hvM h) x) 60 0) h') : yI d 149 [vR (some 137), vI x] h K :=
  E149 w (mp149_loop hd o hB p k 6 (Nat.le_refl 6) h 5 none none (by decide) w Fr.rfl' rfl)
end XM3
