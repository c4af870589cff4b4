/-! QUESTIONS, the rest of the smaller ones -/
section XQ2
variable {zl : Nat} {nl : Option Nat} {xs : Nat → Int} {h h' h1 h2 : Hp} {d : Nat} {K : Int → Hp → Prop} {KJ : Int64 → Hp → Prop} {U : Hp → Prop} {a n s b j k i : Nat} {x y z t B : Int} {M : Nat → Nat → Prop}
theorem Inv.sm (I : Inv zl nl xs h) (m : ySm h h2) : Inv zl nl xs h2 := I.sc (m.wf I.w) (smSc m)
theorem Inv.q (I : Inv zl nl xs h) (w : yWF zl nl h2) (f : Fr xMq h h2) : Inv zl nl xs h2 := I.sc w (f.mono fun _ _ q => xMq_Sc q)
theorem Inv.sz (I : Inv zl nl xs h) : zV h 33 10 = hvM h 0 0 := by rw [← I.v]; rfl
theorem xFv (I : Inv zl nl xs h) (f : Fr xSc h h1) : xF h1 = xF h ∧ xG h1 = xG h ∧ hvC h1 33 = hvC h 33 ∧ hvM h1 = hvM h := ⟨f.scF I.st, f.scG, f.scC, f.hvM xSc_M⟩
/-- told -/
theorem ap75 (I : Inv zl nl xs h) (hd : 20 ≤ d) (hx : zr x) : yI d 75 [vR (some 32), vI x] h (fun t h1 => yI d 183 [vR (some 137), vI x] h1 (fun u h2 => t = u ∧ Inv zl nl xs h2)) := by
  have w := I.w
  have rt := I.rg.tn
  have e11 : zV h 33 11 = hvM h 0 1 := by rw [← I.v]; rfl
  have e44 : zV h 40 1 = hvM h 0 2 := by rw [← I.v]; rfl
  unfold zr at hx
  have q1 : ∀ t : Int, 0 ≤ t → t ≤ 8 → ((0 ≤ zw (x - 10) ∧ zw (x - 10) < t) ↔ (10 ≤ x ∧ x < 10 + t)) := by intro t h1 h2; unfold zw; omega
  have q2 : ∀ t : Int, 0 ≤ t → t ≤ 8 → ((0 ≤ zw (x - 10) ∧ zw (x - 10) ≤ zw (t - 1)) ↔ (10 ≤ x ∧ x < 10 + t)) := by intro t h1 h2; unfold zw; omega
  -- the model, where x is 0 .. 3
  have md : ∀ {h1 : Hp} {t : Int}, Inv zl nl xs h1 → hvM h1 = hvM h → xF h1 = xF h → xG h1 = xG h → (x = 0 → t = hvM h 0 1) → (x = 1 → t = xG h (hvM h 0 6)) → (x = 2 → t = xhb (xF h) (hvM h)) → (x = 3 → t = xall (xF h) (hvM h)) → 0 ≤ x ∧ x ≤ 3 → yI d 183 [vR (some 137), vI x] h1 (fun u h2 => t = u ∧ Inv zl nl xs h2) := by
    intro h1 t I1 v1 eF eG t0 t1 t2 t3 hx3
    have e6 : zV h1 137 6 = hvM h 0 2 := by rw [← v1]; rfl
    refine E183 I1.w (by omega) ?_
    rw [e6, q2 _ rt.1 rt.2]
    refine ⟨fun c => by omega, fun _ => ⟨fun c => ⟨?_, I1⟩, fun c => ?_, fun c => ?_, fun c => ?_, fun c => by omega⟩⟩
    · rw [t0 c, ← v1]; rfl
    · refine mp143 I1.w I1.st I1.rg I1.nw.2.2 (W183_69 I1.w ⟨?_, I1⟩)
      rw [t1 c, eG, v1]
    · refine mp184 I1.w (by omega) I1.mo (by decide) fun h2 w2 f2 => W183_74 w2 ⟨?_, I1.q w2 f2⟩
      rw [t2 c, eF, v1]
    · refine mp185 I1.w (by omega) I1.mo (by decide) fun h2 w2 f2 => W183_79 w2 ⟨?_, I1.q w2 (f2.mono xM1_q)⟩
      rw [t3 c, eF, v1]
  refine E75 w (by omega) ⟨fun c => ?_, fun c => ?_, fun c => ?_, fun c => ?_, fun c => ?_⟩
  · exact md I rfl rfl rfl (fun _ => e11) (fun _ => by omega) (fun _ => by omega) (fun _ => by omega) (by omega)
  · intro s hs hS
    refine md I rfl rfl rfl (fun _ => by omega) (fun _ => ?_) (fun _ => by omega) (fun _ => by omega) (by omega)
    have e := xsh_C w yH37
    have p1 := (yshp_of w yH37).1
    rw [p1] at hs
    rw [← Option.some.inj hs, ← e, I.v]
    rfl
  · refine cp76 w yH37 (by omega) I.st.2.2.1 I.st.1 I.rgC (by decide) fun h2 s2 => W75_58 (s2.wf w) ?_
    obtain ⟨a1, a2, a3, a4⟩ := xFv I (smSc s2)
    refine md (I.sm s2) a4 a1 a2 (fun _ => by omega) (fun _ => by omega) (fun _ => ?_) (fun _ => by omega) (by omega)
    rw [I.v]
    rfl
  · refine cp77 w yH37 (by omega) I.st.1 I.rgC (by decide) fun h2 s2 => W75_66 (s2.wf w) ?_
    obtain ⟨a1, a2, a3, a4⟩ := xFv I (smSc s2)
    refine md (I.sm s2) a4 a1 a2 (fun _ => by omega) (fun _ => by omega) (fun _ => by omega) (fun _ => ?_) (by omega)
    rw [I.v]
  · have e6 : zV h 137 6 = hvM h 0 2 := rfl
    rw [e44, q1 _ rt.1 rt.2]
    refine ⟨fun c1 => ?_, fun c1 => ?_⟩
    · rw [zwi (x := x - 10) (by omega)]
      refine ⟨by omega, E183 w (by omega) ?_⟩
      rw [e6, q2 _ rt.1 rt.2, zwi (x := x - 10) (by omega)]
      refine ⟨fun _ => ⟨by omega, ?_, I⟩, fun c2 => absurd c1 c2⟩
      have e7 : zV h (40 + 1) (4 * (x - 10) + 0).toNat = hvC h 33 6 (x - 10).toNat := by
        rw [vC_6 (by omega)]
        have : (4 * (x - 10) + 0).toNat = 4 * (x - 10).toNat := by omega
        rw [this]
      rw [e7, I.v, vM_6 (by omega)]
    · refine E183 w (by omega) ?_
      rw [e6, q2 _ rt.1 rt.2]
      exact ⟨fun c2 => absurd c2 c1, fun _ => ⟨fun c2 => by omega, fun c2 => by omega, fun c2 => by omega, fun c2 => by omega, fun _ => ⟨rfl, I⟩⟩⟩
/-- on -/
theorem mp140o (w : yWF zl nl h) (hd : 7 ≤ d) (o : xMO B h) (hB : B ≤ 20000) (hq : zr z) (k : ∀ h', yWF zl nl h' → Fr xSc h h' → K (if ¬ ((0 ≤ x ∧ x < hvM h 0 0) ∧ ((0 ≤ z ∧ z < 6) ∨ (10 ≤ z ∧ z < 16) ∨ z = 20)) then -1 else if ¬ (0 ≤ y ∧ y ≤ 60) then -2 else if z = 20 then xsnd (xF h) (xit xcm (xG h) y.toNat (hvM h)) x else if z < 10 then xN (xF h) (xit xcm (xG h) y.toNat (hvM h)) x z else xit xcm (xG h) y.toNat (hvM h) 4 (6 * x + (z - 10)).toNat) h') : yI d 140 [vR (some 137), vI y, vI x, vI z] h K := by
  have rs := o.2.1.sz
  have e0 : zV h 137 0 = hvM h 0 0 := rfl
  by_cases c : (0 ≤ x ∧ x < hvM h 0 0) ∧ ((0 ≤ z ∧ z < 6) ∨ (10 ≤ z ∧ z < 16) ∨ z = 20) ∧ (0 ≤ y ∧ y ≤ 60)
  · refine mp140 w hd o hB c.1 c.2.2 c.2.1 fun h2 w2 f2 => ?_
    have k := k h2 w2 f2
    rw [if_neg (fun q => q ⟨c.1, c.2.1⟩), if_neg (fun q => q c.2.2)] at k
    exact k
  · have k := k h w Fr.rfl'
    unfold zr at hq
    have q1 : (0 ≤ zw (z - 10) ∧ zw (z - 10) < 6) ↔ (10 ≤ z ∧ z < 16) := by unfold zw; omega
    have bad : (0 ≤ x ∧ x < hvM h 0 0) → ((0 ≤ z ∧ z < 6) ∨ (10 ≤ z ∧ z < 16) ∨ z = 20) → K (-2) h := by
      intro c1 c2
      rw [if_neg (fun q => q ⟨c1, c2⟩), if_pos (fun q => c ⟨c1, c2, q⟩)] at k
      exact k
    refine E140 w (by omega) ⟨by omega, fun c1 => ⟨fun c2 => ⟨fun c3 => absurd ⟨c1, Or.inl c2, c3⟩ c, fun _ => bad c1 (Or.inl c2)⟩, fun c2 => ⟨fun c3 => ⟨fun c4 => absurd ⟨c1, Or.inr (Or.inl (q1.1 c3)), c4⟩ c, fun _ => bad c1 (Or.inr (Or.inl (q1.1 c3)))⟩, fun c3 => ⟨fun c4 => ⟨fun c5 => absurd ⟨c1, Or.inr (Or.inr c4), c5⟩ c, fun _ => bad c1 (Or.inr (Or.inr c4))⟩, fun c4 => ?_⟩⟩⟩, fun c1 => ?_⟩
    · rw [q1] at c3
      rw [if_pos (by omega)] at k
      exact k
    · rw [if_pos (fun q => c1 q.1)] at k
      exact k
theorem cp80 (w : yWF zl nl h) (st : xST h) (hd : 8 ≤ d) (r : Rg B (hvC h 33)) (hB : B ≤ 20000) (hq : zr z) (k : ∀ h', yWF zl nl h' → Fr xSc h h' → K (if ¬ ((0 ≤ x ∧ x < hvC h 33 0 0) ∧ ((0 ≤ z ∧ z < 6) ∨ (10 ≤ z ∧ z < 16) ∨ z = 20)) then -1 else if ¬ (0 ≤ y ∧ y ≤ 60) then -2 else if z = 20 then xsnd (xF h) (xit xca (xG h) y.toNat (hvC h 33)) x else if z < 10 then xN (xF h) (xit xca (xG h) y.toNat (hvC h 33)) x z else xit xca (xG h) y.toNat (hvC h 33) 4 (6 * x + (z - 10)).toNat) h') : yI d 80 [vR (some 32), vI y, vI x, vI z] h K := by
  have rs := r.sz
  have e0 : zV h 33 10 = hvC h 33 0 0 := rfl
  unfold zr at hq
  have q1 : (0 ≤ zw (z - 10) ∧ zw (z - 10) < 6) ↔ (10 ≤ z ∧ z < 16) := by unfold zw; omega
  have kb : ((0 ≤ x ∧ x < hvC h 33 0 0) ∧ ((0 ≤ z ∧ z < 6) ∨ (10 ≤ z ∧ z < 16) ∨ z = 20)) → ¬ (0 ≤ y ∧ y < 61) → K (-2) h := by
    intro c1 c2
    have k := k h w Fr.rfl'
    rw [if_neg (fun q => q c1), if_pos (by omega)] at k
    exact k
  have kn : ¬ ((0 ≤ x ∧ x < hvC h 33 0 0) ∧ ((0 ≤ z ∧ z < 6) ∨ (10 ≤ z ∧ z < 16) ∨ z = 20)) → K (-1) h := by
    intro c1
    have k := k h w Fr.rfl'
    rw [if_pos c1] at k
    exact k
  have go : ∀ l4 : Int, (0 ≤ x ∧ x < hvC h 33 0 0) → ((0 ≤ z ∧ z < 6) ∨ (10 ≤ z ∧ z < 16) ∨ z = 20) → (0 ≤ y ∧ y < 61) → (l4 = 0 ↔ ¬ (10 ≤ z ∧ z < 16)) → yU (d - 1) 28 [vR (some 52), vR (some 33)] h (fun h' => ZW d prog_1_method_16_code 7 64 [some (vR (some 32)), some (vI y), some (vI x), some (vI z), some (vI l4)] [] h' (yq 1 (yqI K))) := by
    intro l4 c1 c2 c3 c4
    refine ct_copy w (by omega) fun h1 t1 => W80_64 t1.1 (by omega) ?_
    have st1 := t1.2.1.scST st
    refine cp79 t1.1 yH52 (by omega) (by rw [t1.2.2]; exact r) st1.2.1 c3.1 (by omega) fun h2 w2 f2 v2 => W80_72 w2 (by omega) ?_
    have f2' : Fr xSc h h2 := t1.2.1.trans (f2.mono fun b k q => xHm_Sc q)
    have st2 := f2'.scST st
    rw [t1.2.2, t1.2.1.scG] at v2
    have rr : Rg (B + y.toNat) (hvC h2 52) := by rw [v2]; exact xit_rg r xca_r
    have ok := xHOk w2 yH52 st2.1 rr (by omega)
    have fin : ∀ h3, yWF zl nl h3 → Fr xSc h h3 → K (if z = 20 then xsnd (xF h) (xit xca (xG h) y.toNat (hvC h 33)) x else if z < 10 then xN (xF h) (xit xca (xG h) y.toNat (hvC h 33)) x z else xit xca (xG h) y.toNat (hvC h 33) 4 (6 * x + (z - 10)).toNat) h3 := by
      intro h3 w3 f3
      have k := k h3 w3 f3
      rw [if_neg (fun q => q ⟨c1, c2⟩), if_neg (by omega)] at k
      exact k
    refine ⟨fun c5 => ⟨fun c6 => ⟨ok, by omega, fun h3 s3 => ?_⟩, fun c6 => ⟨ok, by omega, fun h3 s3 => ?_⟩⟩, fun c5 => ?_⟩
    · have fin := fin h3 (s3.wf w2) (f2'.trans (smSc s3))
      rw [if_neg c6, if_pos (by omega)] at fin
      rw [xC_note w2 yH52 st2.1 rr (by omega), f2'.scF st, v2]
      exact fin
    · have fin := fin h3 (s3.wf w2) (f2'.trans (smSc s3))
      rw [if_pos (Classical.byContradiction c6)] at fin
      rw [xC_sound w2 yH52 st2.1 rr (by omega), f2'.scF st, v2]
      exact fin
    · have cz : 10 ≤ z ∧ z < 16 := Classical.byContradiction fun q => c5 (c4.2 q)
      have fin := fin h2 w2 f2'
      rw [if_neg (by omega), if_neg (by omega), ← v2, vC_4 (by omega)] at fin
      rw [zwi (x := z - 10) (by omega)]
      exact ⟨by omega, fin⟩
  refine E80 w (by omega) ⟨fun c => ?_, fun c => ?_⟩
  · rw [q1] at c
    exact ⟨fun c1 => ⟨fun c2 => by omega, fun c2 => ⟨fun c3 => go 1 c1 (Or.inr (Or.inl c)) c3 (by omega), fun c3 => kb ⟨c1, Or.inr (Or.inl c)⟩ c3⟩⟩, fun c1 => kn (fun q => c1 q.1)⟩
  · rw [q1] at c
    exact ⟨fun c1 => ⟨fun c2 => ⟨fun c3 => go 0 c1 (Or.inl c2) c3 (by omega), fun c3 => kb ⟨c1, Or.inl c2⟩ c3⟩, fun c2 => ⟨fun c3 => ⟨fun c4 => go 0 c1 (Or.inr (Or.inr c3)) c4 (by omega), fun c4 => kb ⟨c1, Or.inr (Or.inr c3)⟩ c4⟩, fun c3 => kn (by omega)⟩⟩, fun c1 => kn (fun q => c1 q.1)⟩
theorem xit_lo {σ : Vw} {G : Int → Int} {n : Nat} : xlo (xit xca G n σ) (xit xcm G n σ) := xlo.it xlo.rf xcc_am
theorem ap80 (I : Inv zl nl xs h) (hd : 20 ≤ d) (hz : zr z) : yI d 80 [vR (some 32), vI y, vI x, vI z] h (fun t h1 => yI d 140 [vR (some 137), vI y, vI x, vI z] h1 (fun u h2 => t = u ∧ Inv zl nl xs h2)) := by
  refine cp80 I.w I.st (by omega) I.rgC (by decide) hz fun h1 w1 f1 => ?_
  have I1 := I.sc w1 f1
  refine mp140o w1 (by omega) I1.mo (by decide) hz fun h2 w2 f2 => ⟨?_, I1.sc w2 f2⟩
  obtain ⟨a1, a2, a3, a4⟩ := xFv I f1
  rw [a1, a2, a4, I.v, xit_lo.N, xit_lo.snd, xit_lo.1 4 _ (by decide)]
/-- shared -/
theorem ap81 (I : Inv zl nl xs h) (hd : 20 ≤ d) : yI d 81 [vR (some 32), vI x, vI y] h (fun t h1 => yI d 187 [vR (some 137), vI x, vI y] h1 (fun u h2 => t = u ∧ Inv zl nl xs h2)) := by
  have w := I.w
  have rs := I.rg.sz
  have e1 := I.sz
  have e0 : zV h 137 0 = hvM h 0 0 := rfl
  have none_ : ¬ ((0 ≤ x ∧ x < hvM h 0 0) ∧ (0 ≤ y ∧ y < hvM h 0 0)) → yI d 187 [vR (some 137), vI x, vI y] h (fun u h2 => -1 = u ∧ Inv zl nl xs h2) := by
    intro c
    exact E187 w (by omega) ⟨by omega, fun c1 => ⟨by omega, fun c2 => absurd ⟨by omega, by omega⟩ c, fun c2 => ⟨rfl, I⟩⟩, fun c1 => ⟨rfl, I⟩⟩
  have ok := xHOk w yH37 I.st.1 I.rgC (by decide)
  refine E81 w (by omega) ⟨fun c => ⟨fun c1 => ⟨ok, by omega, fun h2 s2 => ?_⟩, fun c1 => none_ (by omega)⟩, fun c => none_ (by omega)⟩
  have w2 := s2.wf w
  have I2 := I.sm s2
  refine ⟨s2.ok w yH37 ok, by omega, fun h3 s3 => ?_⟩
  have I3 := I2.sm s3
  rw [xC_sound w yH37 I.st.1 I.rgC (by omega), xC_sound w2 yH37 I2.st.1 I2.rgC (by omega)]
  obtain ⟨a1, a2, a3, a4⟩ := xFv I (smSc s2)
  obtain ⟨b1, b2, b3, b4⟩ := xFv I2 (smSc s3)
  rw [a1, a3]
  refine cp82 I3.w I3.st.2.2.1 (fun _ => ydig_r _) (fun _ => ydig_r _) (W81_37 I3.w ?_)
  have e3 : zV h3 137 0 = hvM h 0 0 := by rw [← a4, ← b4]; rfl
  refine E187 I3.w (by omega) ⟨by omega, fun c2 => ⟨by omega, fun c3 => ?_, fun c3 => absurd (by omega) c3⟩, fun c2 => absurd (by omega) c2⟩
  refine mp188 I3.w (by omega) I3.mo (by decide) (by omega) (by omega) fun h4 w4 f4 => W187_22 w4 ⟨?_, I3.q w4 f4⟩
  rw [b1, a1, b4, a4, I.v]
/-- can -/
theorem ap90 (I : Inv zl nl xs h) (hd : 20 ≤ d) : yI d 90 [vR (some 32), vI x, vI y] h (fun t h1 => yI d 192 [vR (some 137), vI x, vI y] h1 (fun u h2 => t = u ∧ Inv zl nl xs h2)) := by
  have w := I.w
  have rs := I.rg.sz
  have e1 := I.sz
  have e0 : zV h 137 0 = hvM h 0 0 := rfl
  have none_ : ¬ ((0 ≤ x ∧ x < hvM h 0 0) ∧ (0 ≤ y ∧ y < 2)) → yI d 192 [vR (some 137), vI x, vI y] h (fun u h2 => -1 = u ∧ Inv zl nl xs h2) := by
    intro c
    exact E192 w (by omega) ⟨by omega, fun c1 => ⟨fun c2 => absurd ⟨by omega, by omega⟩ c, fun c2 => ⟨rfl, I⟩⟩, fun c1 => ⟨rfl, I⟩⟩
  refine E90 w (by omega) ⟨fun c => ⟨fun c1 => ?_, fun c1 => none_ (by omega)⟩, fun c => none_ (by omega)⟩
  refine cp90_loop (h := h) I.st (by omega) I.rgC (by decide) (by omega) (fun h2 w2 f2 => ?_) 10 0 h 9 rfl (by decide) w Fr.rfl'
  have I2 := I.sc w2 f2
  obtain ⟨a1, a2, a3, a4⟩ := xFv I f2
  have e3 : zV h2 137 0 = hvM h 0 0 := by rw [← a4]; rfl
  refine E192 w2 (by omega) ⟨by omega, fun c2 => ⟨fun c3 => ⟨by omega, ?_⟩, fun c3 => absurd (by omega) c3⟩, fun c2 => absurd (by omega) c2⟩
  rw [← vM_2 (by omega)]
  refine mp192_loop (h := h2) (by omega) I2.mo (by decide) (by rw [a4]; omega) (fun h4 w4 f4 => ⟨?_, I2.sc w4 f4⟩) 10 0 h2 9 _ rfl (by decide) w2 Fr.rfl' up_self.symm
  rw [a1, a2, a4, I.v, xcn_c xcc_am]
end XQ2
