/-! QUESTIONS: odds, means, ends -/
section XQ3
variable {zl : Nat} {nl : Option Nat} {xs : Nat → Int} {h h' h1 h2 : Hp} {d : Nat} {K : Int → Hp → Prop} {KJ : Int64 → Hp → Prop} {U : Hp → Prop} {a n s b j k i : Nat} {x y z t B : Int} {M : Nat → Nat → Prop}
/-- odds -/
theorem mp193_loop (hd : 8 ≤ d) (o : xMO B h) (hB : B ≤ 20000) (p : 0 ≤ x ∧ x < 6) (k : ∀ h', yWF zl nl h' → Fr xSc h h' → KJ (xfr (xcnt (xpP (xF h) (hvM h) x) 60) 60 y) h') : ∀ (m i : Nat), i + m = 6 → ∀ (h2 : Hp) (l5 l6 : Option Int), yWF zl nl h2 → Fr xW h h2 → hvM h2 = hvM h → ZW d prog_10_method_50_code 8 26 [some (vR (some 137)), some (vI x), some (vI y), some (vI (xcnt (xpP (xF h) (hvM h) x) (10 * i))), some (vI i), yo l5, yo l6] [] h2 (yq 4 (yqJ KJ)) := by
  intro m
  induction m with
  | zero =>
    intro i hm h2 l5 l6 w2 f2 v2
    obtain rfl : i = 6 := by omega
    have rc := xcnt_r (xpP (xF h) (hvM h) x) (10 * 6)
    refine W193_26 w2 (by omega) ⟨fun _ => ?_, fun c => absurd (by decide) c⟩
    rw [← j64_60]
    exact mp194 w2 (by omega) (by omega) (by decide) (W193_119 w2 (k h2 w2 (xback f2 v2)))
  | succ m ih =>
    intro i hm h2 l5 l6 w2 f2 v2
    have hk : (6 * x + (i : Int)).toNat < 36 := by omega
    have z1 : zw (zw (6 * x) + (i : Int)) = 6 * x + (i : Int) := by rw [zwi (x := 6 * x) (by omega), zwi (by omega)]
    refine W193_26 w2 (by omega) ⟨fun c => absurd c (by omega), fun c => ⟨by omega, ?_⟩⟩
    rw [z1, ← vM_4 hk, v2]
    have lp : ∀ (q r : Nat), r + q = 10 → ∀ (h3 : Hp) (t : Int), yWF zl nl h3 → Fr xW h h3 → hvM h3 = up (hvM h) 4 (6 * x + (i : Int)).toNat t → ZW d prog_10_method_50_code 8 50 [some (vR (some 137)), some (vI x), some (vI y), some (vI (xcnt (xpP (xF h) (hvM h) x) (10 * i + r))), some (vI i), some (vI (hvM h 4 (6 * x + (i : Int)).toNat)), some (vI r)] [] h3 (yq 4 (yqJ KJ)) := by
      intro q
      induction q with
      | zero =>
        intro r hr h3 t w3 f3 v3
        obtain rfl : r = 10 := by omega
        refine W193_50 w3 (by omega) ⟨fun _ => ⟨by omega, ?_⟩, fun c => absurd (by decide) c⟩
        rw [z1, nz (by omega)]
        refine ih (i + 1) (by omega) _ (some _) (some _) (yWFV w3) (f3.trans (Fr.set (Or.inr (xcM_inv (xM_4 hk)).2))) ?_
        rw [hvM_set (xM_4 hk), v3, up_up2]
        exact up_self
      | succ q ihq =>
        intro r hr h3 t w3 f3 v3
        refine W193_50 w3 (by omega) ⟨fun c => absurd c (by omega), fun c => ⟨by omega, ?_⟩⟩
        rw [z1]
        have w4 : yWF zl nl (zsetV h3 140 (6 * x + (i : Int)).toNat (r : Int)) := yWFV w3
        have f4 : Fr xW h (zsetV h3 140 (6 * x + (i : Int)).toNat (r : Int)) := f3.trans (Fr.set (Or.inr (xcM_inv (xM_4 hk)).2))
        have v4 : hvM (zsetV h3 140 (6 * x + (i : Int)).toNat (r : Int)) = xpc (hvM h) x (10 * i + r) := by
          rw [hvM_set (xM_4 hk), v3, up_up2]
          unfold xpc
          have e1 : (10 * i + r) / 10 = i := by omega
          have e2 : (10 * i + r) % 10 = r := by omega
          rw [e1, e2]
        have r4 : Rg B (xpc (hvM h) x (10 * i + r)) := o.2.1.up4 (by omega)
        have o4 : xMO B (zsetV h3 140 (6 * x + (i : Int)).toNat (r : Int)) := wO f4 o (by rw [v4]; exact r4) (by rw [v4]; rfl)
        have rc := xcnt_r (xpP (xF h) (hvM h) x) (10 * i + r)
        refine mp146 w4 (by omega) o4 (by omega) p fun h5 w5 f5 => W193_76 w5 ?_
        rw [wF f4 o.1, v4]
        have v5 : hvM h5 = up (hvM h) 4 (6 * x + (i : Int)).toNat (r : Int) := by
          rw [f5.qM, hvM_set (xM_4 hk), v3, up_up2]
        have f5' : Fr xW h h5 := f4.trans (f5.mono fun c k q => Or.inl (xMq_Sc q))
        rw [nz (by omega), zwi (x := xcnt _ _ + 1) (by omega)]
        refine ⟨fun c => ?_, fun c => ?_⟩
        · have e : xcnt (xpP (xF h) (hvM h) x) (10 * i + r) = xcnt (xpP (xF h) (hvM h) x) (10 * i + (r + 1)) := (xcnt_f (P := xpP (xF h) (hvM h) x) (n := 10 * i + r) (fun q => q c)).symm
          rw [e]
          exact ihq (r + 1) (by omega) h5 _ w5 f5' v5
        · have e : xcnt (xpP (xF h) (hvM h) x) (10 * i + r) + 1 = xcnt (xpP (xF h) (hvM h) x) (10 * i + (r + 1)) := (xcnt_t (P := xpP (xF h) (hvM h) x) (n := 10 * i + r) c).symm
          rw [e]
          exact ihq (r + 1) (by omega) h5 _ w5 f5' v5
    exact lp 10 0 rfl h2 _ w2 f2 (by rw [v2]; exact up_self.symm)
theorem ap91 (I : Inv zl nl xs h) (hd : 20 ≤ d) : yJ d 91 [vR (some 32), vI x, vI y] h (fun t h1 => yJ d 193 [vR (some 137), vI x, vI y] h1 (fun u h2 => t = u ∧ Inv zl nl xs h2)) := by
  have w := I.w
  have rs := I.rg.sz
  have e1 := I.sz
  have e0 : zV h 137 0 = hvM h 0 0 := rfl
  have none_ : ¬ ((0 ≤ x ∧ x < hvM h 0 0) ∧ (0 ≤ y ∧ y < 2)) → yJ d 193 [vR (some 137), vI x, vI y] h (fun u h2 => -9223372036854775808 = u ∧ Inv zl nl xs h2) := by
    intro c
    exact E193 w (by omega) ⟨by omega, fun c1 => ⟨fun c2 => absurd ⟨by omega, by omega⟩ c, fun c2 => ⟨rfl, I⟩⟩, fun c1 => ⟨rfl, I⟩⟩
  refine E91 w (by omega) ⟨fun c => ⟨fun c1 => ?_, fun c1 => none_ (by omega)⟩, fun c => none_ (by omega)⟩
  refine cp92 w I.st (by omega) I.rgC (by decide) (by omega) fun h2 w2 f2 => W91_25 w2 (by omega) ?_
  have rc := xcnt_r (xpP (xF h) (hvC h 33) x) 60
  refine cp93 w2 (by omega) (by omega) (by decide) (W91_31 w2 ?_)
  have I2 := I.sc w2 f2
  obtain ⟨a1, a2, a3, a4⟩ := xFv I f2
  have e3 : zV h2 137 0 = hvM h 0 0 := by rw [← a4]; rfl
  refine E193 w2 (by omega) ⟨by omega, fun c2 => ⟨fun c3 => ?_, fun c3 => absurd (by omega) c3⟩, fun c2 => absurd (by omega) c2⟩
  refine mp193_loop (h := h2) (by omega) I2.mo (by decide) (by omega) (fun h4 w4 f4 => ⟨?_, I2.sc w4 f4⟩) 6 0 rfl h2 none none w2 Fr.rfl' rfl
  rw [a1, a4, I.v]
/-- mean -/
theorem mp196_loop (hd : 8 ≤ d) (o : xMO B h) (hB : B ≤ 20000) (hn : 0 ≤ x ∧ x ≤ 60) (h0 : hvM h 0 0 ≠ 0) (k : ∀ h', yWF zl nl h' → Fr xSc h h' → KJ (xfr (xall (xF h) (xit xcm (xG h) x.toNat (hvM h))) (hvM h 0 0 * 6) y) h') : ∀ (m i : Nat) (h2 : Hp), (i : Int) + m = x → xU zl nl h h2 (xit xcm (xG h) i (hvM h)) → ZW d prog_10_method_51_code 8 40 [some (vR (some 137)), some (vI x), some (vI y), some (vI i)] [] h2 (yq 4 (yqJ KJ)) := by
  have rs := o.2.1.sz
  intro m
  induction m with
  | zero =>
    intro i h2 hm u
    have ei : i = x.toNat := by omega
    rw [← ei] at k
    have rr : Rg (B + i) (xit xcm (xG h) i (hvM h)) := xit_rg o.2.1 xcm_r
    have o2 := xUO u o rr (xit_o (by decide) (by decide) (by decide))
    have eF := wF (xUW u) o.1
    refine W196_40 u.1 (by omega) ⟨fun _ => ?_, fun c => absurd (by omega) c⟩
    refine mp185 u.1 (by omega) o2 (by omega) fun h3 w3 f3 => W196_59 w3 (by omega) ?_
    rw [eF, u.2.1]
    refine mu_again (mu_q u w3 (f3.mono xM1_q)) fun h4 w4 f4 => W196_68 w4 (by omega) ?_
    have v4 : hvM h4 = hvM h := f4.hvM xSc_M
    have e0 : zV h4 137 0 = hvM h 0 0 := by rw [← v4]; rfl
    have ra := xsm_r (xN_r (xF h) (xit xcm (xG h) i (hvM h))) (xit xcm (xG h) i (hvM h) 0 0).toNat
    have es : xit xcm (xG h) i (hvM h) 0 0 = hvM h 0 0 := xit_o (by decide) (by decide) (by decide)
    have ra : 0 ≤ xall (xF h) (xit xcm (xG h) i (hvM h)) ∧ xall (xF h) (xit xcm (xG h) i (hvM h)) ≤ 54 * (xit xcm (xG h) i (hvM h) 0 0).toNat := ra
    rw [es] at ra
    have z1 : zw (6 * zV h4 137 0) = hvM h 0 0 * 6 := by rw [e0, zwi (by omega)]; omega
    rw [z1]
    exact mp194 w4 (by omega) (by omega) (by omega) (W196_82 w4 (k h4 w4 f4))
  | succ m ih =>
    intro i h2 hm u
    have rr : Rg (B + i) (xit xcm (xG h) i (hvM h)) := xit_rg o.2.1 xcm_r
    refine W196_40 u.1 (by omega) ⟨fun c => absurd c (by omega), fun c => ?_⟩
    refine mu_gy u (by omega) o rr (by omega) (xit_o (by decide) (by decide) (by decide)) fun h3 u3 => W196_49 u3.1 ?_
    rw [nz (by omega)]
    exact ih (i + 1) h3 (by omega) u3
theorem ap95 (I : Inv zl nl xs h) (hd : 20 ≤ d) : yJ d 95 [vR (some 32), vI x, vI y] h (fun t h1 => yJ d 196 [vR (some 137), vI x, vI y] h1 (fun u h2 => t = u ∧ Inv zl nl xs h2)) := by
  have w := I.w
  have rs := I.rg.sz
  have e1 := I.sz
  have e0 : zV h 137 0 = hvM h 0 0 := rfl
  have none_ : ¬ ((0 ≤ x ∧ x ≤ 60) ∧ (0 ≤ y ∧ y < 2) ∧ hvM h 0 0 ≠ 0) → yJ d 196 [vR (some 137), vI x, vI y] h (fun u h2 => -9223372036854775808 = u ∧ Inv zl nl xs h2) := by
    intro c
    exact E196 w (by omega) ⟨fun c1 => ⟨fun c2 => ⟨fun c3 => absurd ⟨c1, by omega, c3⟩ c, fun c3 => ⟨rfl, I⟩⟩, fun c2 => ⟨rfl, I⟩⟩, fun c1 => ⟨rfl, I⟩⟩
  refine E95 w (by omega) ⟨fun c => ⟨fun c1 => ⟨fun c2 => ?_, fun c2 => none_ (by omega)⟩, fun c1 => none_ (by omega)⟩, fun c => none_ (by omega)⟩
  refine ct_copy w (by omega) fun h1 t1 => W95_42 t1.1 (by omega) ?_
  have st1 := t1.2.1.scST I.st
  refine cp79 t1.1 yH52 (by omega) (by rw [t1.2.2]; exact I.rgC) st1.2.1 c.1 (by omega) fun h2 w2 f2 v2 => W95_50 w2 (by omega) ?_
  have f2' : Fr xSc h h2 := t1.2.1.trans (f2.mono fun b k q => xHm_Sc q)
  have st2 := f2'.scST I.st
  rw [t1.2.2, t1.2.1.scG] at v2
  have rr : Rg (9999 + x.toNat) (hvC h2 52) := by rw [v2]; exact xit_rg I.rgC xca_r
  refine cp77 w2 yH52 (by omega) st2.1 rr (by omega) fun h3 s3 => W95_57 (s3.wf w2) (by omega) ?_
  rw [f2'.scF I.st, v2]
  have f3 : Fr xSc h h3 := f2'.trans (smSc s3)
  have w3 := s3.wf w2
  have I3 := I.sc w3 f3
  obtain ⟨a1, a2, a3, a4⟩ := xFv I f3
  have e10 : zV h3 33 10 = hvM h 0 0 := by rw [I3.sz, a4]
  have ra := xsm_r (xN_r (xF h) (xit xca (xG h) x.toNat (hvC h 33))) (xit xca (xG h) x.toNat (hvC h 33) 0 0).toNat
  have es : xit xca (xG h) x.toNat (hvC h 33) 0 0 = hvM h 0 0 := by rw [xit_o (by decide) (by decide) (by decide), I.v]
  have ra : 0 ≤ xall (xF h) (xit xca (xG h) x.toNat (hvC h 33)) ∧ xall (xF h) (xit xca (xG h) x.toNat (hvC h 33)) ≤ 54 * (xit xca (xG h) x.toNat (hvC h 33) 0 0).toNat := ra
  rw [es] at ra
  rw [e10, zwi (x := hvM h 0 0 * 6) (by omega)]
  refine cp93 w3 (by omega) (by omega) (by omega) (W95_71 w3 ?_)
  have e3 : zV h3 137 0 = hvM h 0 0 := by rw [← a4]; rfl
  refine E196 w3 (by omega) ⟨fun c1 => ⟨fun c2 => ⟨fun c3 => ?_, fun c3 => absurd (by omega) c3⟩, fun c2 => absurd (by omega) c2⟩, fun c1 => absurd (by omega) c1⟩
  refine mu_keep w3 fun h4 u4 => W196_38 u4.1 ?_
  refine mp196_loop (h := h3) (by omega) I3.mo (by decide) (by omega) (by rw [a4]; omega) (fun h5 w5 f5 => ⟨?_, I3.sc w5 f5⟩) x.toNat 0 h4 (by omega) u4
  rw [a1, a2, a4, I.v, xit_lo.all]
/-- ends -/
theorem mp198_b (o : xMO B h) {σ τ : Vw} (hσ : τ 0 6 = hvM h 0 6) {q : Nat} (hq : q < 10) (p : 0 ≤ x ∧ x < 6) (e7 : τ 7 q ≠ 0) (r : Rg z τ) (k : ∀ (h' : Hp) (l4 : Option Int), xU zl nl h h' (if τ 7 q = 1 then xab (fun _ => 0) x 6 τ else xab (fun x => (x + 1) % 10) x 6 τ) → ZW d prog_10_method_53_code 8 21 [some (vR (some 137)), some (vI y), some (vI ((q + 1 : Nat) : Int)), some (vI x), yo l4] [] h' (yq 1 (yqI K))) : ∀ (m i : Nat) (h2 : Hp), i + m = 6 → xU zl nl h h2 (if τ 7 q = 1 then xab (fun _ => 0) x i τ else xab (fun x => (x + 1) % 10) x i τ) → ZW d prog_10_method_53_code 8 75 [some (vR (some 137)), some (vI y), some (vI (q : Int)), some (vI x), some (vI i)] [] h2 (yq 1 (yqI K)) := by
  intro m
  induction m with
  | zero =>
    intro i h2 hm u
    obtain rfl : i = 6 := by omega
    refine W198_75 u.1 ⟨fun _ => ?_, fun c => absurd (by decide) c⟩
    rw [nz (by omega)]
    exact k h2 (some _) u
  | succ m ih =>
    intro i h2 hm u
    have hk : (6 * x + (i : Int)).toNat < 36 := by omega
    have z1 : zw (zw (6 * x) + (i : Int)) = 6 * x + (i : Int) := by rw [zwi (x := 6 * x) (by omega), zwi (by omega)]
    have v7 : zV h2 156 q = τ 7 q := by
      rw [← vM_7 hq, u.2.1]
      split
      · exact xab_o (by decide)
      · exact xab_o (by decide)
    refine W198_75 u.1 ⟨fun c => absurd c (by omega), fun c => ⟨by omega, ?_⟩⟩
    rw [Int.toNat_natCast, v7, z1, nz (by omega)]
    refine ⟨fun c1 => ⟨by omega, by omega, ?_⟩, fun c1 => ⟨by omega, ?_⟩⟩
    · rw [if_neg c1] at u
      have rr : Rg z (hvM h2) := by rw [u.2.1]; exact xab_rg r (fun x _ _ => by omega)
      have b2 := rr.bu (6 * x + (i : Int)).toNat
      rw [← vM_4 hk, zwi (by omega), zrem_nn (by omega) (by decide), u.2.1]
      refine ih (i + 1) _ (by omega) ?_
      rw [if_neg c1]
      exact mu_set u (xM_4 hk) (by omega)
    · have c1 : τ 7 q = 1 := Classical.byContradiction c1
      rw [if_pos c1] at u
      refine ih (i + 1) _ (by omega) ?_
      rw [if_pos c1]
      exact mu_set u (xM_4 hk) (by omega)
theorem mp198_loop (hd : 9 ≤ d) (o : xMO B h) (hB0 : 0 ≤ B) (hB : B ≤ 20000) (k : ∀ h', yWF zl nl h' → Fr xSc h h' → K (if y = 0 then xall (xF h) (xpn xcm (xG h) (hvM h 0 4).toNat (hvM h)) else xhb (xF h) (xpn xcm (xG h) (hvM h 0 4).toNat (hvM h))) h') : ∀ (m i : Nat) (h2 : Hp) (l3 l4 : Option Int), (i : Int) + m = hvM h 0 4 → xU zl nl h h2 (xpn xcm (xG h) i (hvM h)) → ZW d prog_10_method_53_code 8 21 [some (vR (some 137)), some (vI y), some (vI i), yo l3, yo l4] [] h2 (yq 1 (yqI K)) := by
  have rp := o.2.1.pn
  intro m
  induction m with
  | zero =>
    intro i h2 l3 l4 hm u
    have ei : i = (hvM h 0 4).toNat := by omega
    rw [← ei] at k
    have rr : Rg (B + i) (xpn xcm (xG h) i (hvM h)) := xpn_rg o.2.1 hB0 xcm_r
    have o2 := xUO u o rr (xpn_o (by decide) (by decide) (by decide))
    have eF := wF (xUW u) o.1
    have e0 : zV h2 137 30 = hvM h 0 4 := by rw [← vM0_4, u.2.1, xpn_o (by decide) (by decide) (by decide)]
    refine W198_21 u.1 (by omega) ⟨fun _ => ⟨fun c => ?_, fun c => ?_⟩, fun c => absurd (by omega) c⟩
    · refine mp184 u.1 (by omega) o2 (by omega) fun h3 w3 f3 => W198_152 w3 (by omega) ?_
      refine mu_again (mu_q u w3 f3) fun h4 w4 f4 => W198_161 w4 ?_
      have k := k h4 w4 f4
      rw [if_neg c] at k
      rw [eF, u.2.1]
      exact k
    · refine mp185 u.1 (by omega) o2 (by omega) fun h3 w3 f3 => W198_145 w3 (by omega) ?_
      refine mu_again (mu_q u w3 (f3.mono xM1_q)) fun h4 w4 f4 => W198_161 w4 ?_
      have k := k h4 w4 f4
      rw [if_pos (Classical.byContradiction c)] at k
      rw [eF, u.2.1]
      exact k
  | succ m ih =>
    intro i h2 l3 l4 hm u
    have rr : Rg (B + i) (xpn xcm (xG h) i (hvM h)) := xpn_rg o.2.1 hB0 xcm_r
    have ho : xpn xcm (xG h) i (hvM h) 0 6 = hvM h 0 6 := xpn_o (by decide) (by decide) (by decide)
    have e0 : zV h2 137 30 = hvM h 0 4 := by rw [← vM0_4, u.2.1, xpn_o (by decide) (by decide) (by decide)]
    have e7 : zV h2 156 i = xpn xcm (xG h) i (hvM h) 7 i := by rw [← u.2.1, vM_7 (by omega)]
    have e8 : zV h2 157 i = xpn xcm (xG h) i (hvM h) 8 i := by rw [← u.2.1, vM_8 (by omega)]
    have r7 := rr.pw i
    have r8 := rr.ph i
    refine W198_21 u.1 (by omega) ⟨fun c => absurd c (by omega), fun c => ⟨by omega, by omega, ?_⟩⟩
    rw [Int.toNat_natCast, e7, e8, nz (by omega)]
    refine ⟨fun c1 => ⟨by omega, fun c2 => ?_, fun c2 => ?_⟩, fun c1 => ?_⟩
    · refine mp198_b (zl := zl) (nl := nl) o (σ := hvM h) ho (by omega) (by omega) c1 rr (fun h3 l4 u3 => ?_) 6 0 h2 rfl ?_
      · refine ih (i + 1) h3 (some _) l4 (by omega) ?_
        show xU zl nl h h3 (xps xcm (xG h) (xpn xcm (xG h) i (hvM h)) i)
        unfold xps
        rw [if_neg c1, if_neg c2]
        exact u3
      · have e : (if xpn xcm (xG h) i (hvM h) 7 i = 1 then xab (fun _ => 0) (xpn xcm (xG h) i (hvM h) 8 i) 0 (xpn xcm (xG h) i (hvM h)) else xab (fun x => (x + 1) % 10) (xpn xcm (xG h) i (hvM h) 8 i) 0 (xpn xcm (xG h) i (hvM h))) = xpn xcm (xG h) i (hvM h) := by split <;> rfl
        rw [e]
        exact u
    · refine ⟨by omega, ?_⟩
      have c2 : xpn xcm (xG h) i (hvM h) 7 i = 2 := Classical.byContradiction c2
      refine ih (i + 1) _ (some _) l4 (by omega) ?_
      show xU zl nl h _ (xps xcm (xG h) (xpn xcm (xG h) i (hvM h)) i)
      unfold xps
      rw [if_neg c1, if_neg (by omega), if_pos c2]
      exact mu_set u (xM_3 (by omega)) (by omega)
    · have c1 : xpn xcm (xG h) i (hvM h) 7 i = 0 := Classical.byContradiction c1
      refine mu_gy u (by omega) o rr (by omega) ho fun h3 u3 => W198_49 u3.1 ?_
      rw [nz (by omega)]
      refine ih (i + 1) h3 (some _) l4 (by omega) ?_
      show xU zl nl h h3 (xps xcm (xG h) (xpn xcm (xG h) i (hvM h)) i)
      unfold xps
      rw [if_pos c1]
      exact u3
theorem ap97 (I : Inv zl nl xs h) (hd : 20 ≤ d) : yI d 97 [vR (some 32), vI x] h (fun t h1 => yI d 198 [vR (some 137), vI x] h1 (fun u h2 => t = u ∧ Inv zl nl xs h2)) := by
  have w := I.w
  refine E97 w (by omega) ⟨fun c => ?_, fun c => ?_⟩
  · refine ct_copy w (by omega) fun h1 t1 => W97_21 t1.1 (by omega) ?_
    have st1 := t1.2.1.scST I.st
    refine cp98 t1.1 yH52 (by omega) (by rw [t1.2.2]; exact I.rgC) st1.2.1 (by decide) (by decide) fun h2 w2 f2 v2 => W97_28 w2 (by omega) ?_
    have f2' : Fr xSc h h2 := t1.2.1.trans (f2.mono fun b k q => xHm_Sc q)
    have st2 := f2'.scST I.st
    rw [t1.2.2, t1.2.1.scG] at v2
    have rp := I.rgC.pn
    have rr : Rg (9999 + (hvC h 33 0 4).toNat) (hvC h2 52) := by rw [v2]; exact xpn_rg I.rgC (by decide) xca_r
    have lo : xlo (xpn xca (xG h) (hvC h 33 0 4).toNat (hvC h 33)) (xpn xcm (xG h) (hvC h 33 0 4).toNat (hvC h 33)) := xlo.pn xlo.rf xcc_am
    have md : ∀ h3 t, yWF zl nl h3 → Fr xSc h h3 → t = (if x = 0 then xall (xF h) (xpn xca (xG h) (hvC h 33 0 4).toNat (hvC h 33)) else xhb (xF h) (xpn xca (xG h) (hvC h 33 0 4).toNat (hvC h 33))) → yI d 198 [vR (some 137), vI x] h3 (fun u h2 => t = u ∧ Inv zl nl xs h2) := by
      intro h3 t w3 f3 et
      have I3 := I.sc w3 f3
      obtain ⟨a1, a2, a3, a4⟩ := xFv I f3
      have r4 := I3.rg.pn
      refine E198 w3 (by omega) ⟨fun c1 => ?_, fun c1 => absurd (by omega) c1⟩
      refine mu_keep w3 fun h4 u4 => W198_19 u4.1 ?_
      refine mp198_loop (h := h3) (by omega) I3.mo (by decide) (by decide) (fun h5 w5 f5 => ⟨?_, I3.sc w5 f5⟩) (hvM h3 0 4).toNat 0 h4 none none (by omega) u4
      rw [et, a1, a2, a4, lo.all, lo.hb, I.v]
    refine ⟨fun c1 => ?_, fun c1 => ?_⟩
    · refine cp76 w2 yH52 (by omega) st2.2.2.1 st2.1 rr (by omega) fun h3 s3 => W97_49 (s3.wf w2) (md h3 _ (s3.wf w2) (f2'.trans (smSc s3)) ?_)
      rw [if_neg c1, f2'.scF I.st, v2]
      rfl
    · refine cp77 w2 yH52 (by omega) st2.1 rr (by omega) fun h3 s3 => W97_39 (s3.wf w2) (md h3 _ (s3.wf w2) (f2'.trans (smSc s3)) ?_)
      rw [if_pos (Classical.byContradiction c1), f2'.scF I.st, v2]
  · exact E198 w (by omega) ⟨fun c1 => absurd (by omega) c, fun c1 => ⟨rfl, I⟩⟩
end XQ3
