/-! SHOPS: the model -/
section XSH3
variable {zl : Nat} {nl : Option Nat} {h h' h2 : Hp} {d : Nat} {K : Int → Hp → Prop} {U : Hp → Prop} {a n s b j : Nat} {x y z B : Int} {M : Nat → Nat → Prop} {cl : Cls} {f : Nat → Int} {V : Nat → Nat → Int}
/-- answers on the model's stack -/
def xsk (h : Hp) (s : List Bool) : Prop := ∀ i b, s[i]? = some b → zV h 151 (s.length - 1 - i) = bI b
theorem xsk_t {b : Bool} {s : List Bool} (k : xsk h (b :: s)) : xsk h s := by
  intro i b' hi
  have := k (i + 1) b' hi
  rw [List.length_cons] at this
  have e : s.length + 1 - 1 - (i + 1) = s.length - 1 - i := by omega
  rw [e] at this
  exact this
theorem xsk_h {b : Bool} {s : List Bool} (k : xsk h (b :: s)) : zV h 151 s.length = bI b := by
  have := k 0 b rfl
  rw [List.length_cons] at this
  exact this
theorem xsk_set {b : Bool} {s : List Bool} {v : Int} (k : xsk h s) (hv : v = bI b) : xsk (zsetV h 151 s.length v) (b :: s) := by
  intro i b' hi
  rw [List.length_cons, zV_V]
  cases i with
  | zero =>
    rw [if_pos ⟨rfl, by omega⟩, hv]
    have : b = b' := Option.some.inj hi
    rw [this]
  | succ i =>
    have hi : s[i]? = some b' := hi
    have hl : i < s.length := by
      rcases Nat.lt_or_ge i s.length with q | q
      · exact q
      · rw [List.getElem?_eq_none q] at hi; cases hi
    rw [if_neg (by omega)]
    have := k i b' hi
    have e : s.length + 1 - 1 - (i + 1) = s.length - 1 - i := by omega
    rw [e]
    exact this
theorem sp137 (w : yWF zl nl h) (p : 0 ≤ x ∧ x < 6 ∧ 0 ≤ y ∧ y < 6) (hz : 0 ≤ z ∧ z < 6) (k : K (xfact (hvM h) x y z.toNat) h) : yI d 137 [vR (some 137), vI x, vI y, vI z] h K := by
  have z1 : zw (zw (6 * x) + y) = 6 * x + y := by rw [zwi (x := 6 * x) (by omega), zwi (by omega)]
  refine E137 w ⟨fun c => ?_, fun c => ⟨by omega, ?_⟩, fun c => ⟨by omega, ?_⟩, fun c => ?_, fun c => ?_, fun c => ?_⟩
  · subst c; exact k
  · subst c
    rw [← vM_1 (by omega)]
    exact k
  · subst c
    rw [← vM_2 (by omega)]
    exact k
  · subst c; exact k
  · subst c
    rw [z1, ← vM_4 (by omega)]
    exact ⟨by omega, k⟩
  · obtain rfl : z = 5 := by omega
    exact k
theorem xM1_M : ∀ b k, xOM b k → ¬ xM1 b k := by intro b k q; unfold xOM at q; unfold xM1; omega
/-- whether a clause's condition holds, in the model -/
theorem mp136_loop (p : 0 ≤ x ∧ x < 6 ∧ 0 ≤ y ∧ y < 6) (hd : 1 ≤ d) {l3 : Int} (h3 : 0 ≤ l3 ∧ l3 < 61) {en : Nat} (he : zw (zV h 148 l3.toNat + zV h 149 l3.toNat) = (en : Int)) (he2 : en ≤ 800) {v : Bool} (k : ∀ h', yWF zl nl h' → Fr xM1 h h' → K (bI v) h') : ∀ (cs : List Int) (s : List Bool) (pos : Nat) (h2 : Hp) (l6 l7 l8 l9 : Option Int), yWF zl nl h2 → Fr xM1 h h2 → xsk h2 s → xdp cs s.length = some 1 → s.length ≤ 12 → (∀ c ∈ cs, 0 ≤ c ∧ c < 1803) → (∀ u c, cs[u]? = some c → zV h 150 (pos + u) = c) → pos + cs.length = en → xtop (xev (xfact (hvM h) x y) cs s) = v → ZW d prog_10_method_25_code 8 11 [some (vR (some 137)), some (vI x), some (vI y), some (vI l3), some (vI (s.length : Int)), some (vI (pos : Int)), yo l6, yo l7, yo l8, yo l9] [] h2 (yq 2 (yqI K)) := by
  intro cs
  induction cs with
  | nil =>
    intro s pos h2 l6 l7 l8 l9 w2 f2 sk hm hl hc hcode hpos hv
    have hm : s.length = 1 := Option.some.inj hm
    have f140 : ∀ k, zV h2 148 k = zV h 148 k := fun k => f2.V 148 k (by unfold xM1; omega)
    have f141 : ∀ k, zV h2 149 k = zV h 149 k := fun k => f2.V 149 k (by unfold xM1; omega)
    refine W136_11 w2 hd ⟨h3, h3, fun _ => ?_, fun q => absurd ?_ q⟩
    · cases s with
      | nil => cases hm
      | cons b s =>
        have : s.length = 0 := by rw [List.length_cons] at hm; omega
        have e := xsk_h sk
        rw [this] at e
        rw [e]
        have hv : b = v := hv
        rw [hv]
        refine ⟨?_, k h2 w2 f2⟩
        cases v
        · exact Or.inl rfl
        · exact Or.inr rfl
    · rw [f140, f141, he]
      rw [List.length_nil] at hpos
      omega
  | cons c cs ih =>
    intro s pos h2 l6 l7 l8 l9 w2 f2 sk hm hl hc hcode hpos hv
    have rc := hc c List.mem_cons_self
    have hc' : ∀ c' ∈ cs, 0 ≤ c' ∧ c' < 1803 := fun c' q => hc c' (List.mem_cons_of_mem _ q)
    have hcode' : ∀ u c', cs[u]? = some c' → zV h 150 (pos + 1 + u) = c' := fun u c' q => by
      have := hcode (u + 1) c' q
      have e : pos + 1 + u = pos + (u + 1) := by omega
      rw [e]
      exact this
    rw [List.length_cons] at hpos
    have f140 : ∀ k, zV h2 148 k = zV h 148 k := fun k => f2.V 148 k (by unfold xM1; omega)
    have f141 : ∀ k, zV h2 149 k = zV h 149 k := fun k => f2.V 149 k (by unfold xM1; omega)
    have ec : zV h2 150 pos = c := by
      rw [f2.V 150 pos (by unfold xM1; omega)]
      have := hcode 0 c rfl
      rw [Nat.add_zero] at this
      exact this
    have vM2 : hvM h2 = hvM h := f2.hvM xM1_M
    refine W136_11 w2 hd ⟨h3, h3, fun q => absurd q (by rw [f140, f141, he]; omega), fun _ => ⟨by omega, ?_⟩⟩
    rw [Int.toNat_natCast, ec, nz (by omega : pos < 100000)]
    unfold xdp at hm
    unfold xev at hv
    have step : ∀ (s' : List Bool) (h5 : Hp) (l6 l7 l8 l9 : Option Int), yWF zl nl h5 → Fr xM1 h2 h5 → xsk h5 s' → xdp cs s'.length = some 1 → s'.length ≤ 12 → xtop (xev (xfact (hvM h) x y) cs s') = v → ZW d prog_10_method_25_code 8 11 [some (vR (some 137)), some (vI x), some (vI y), some (vI l3), some (vI (s'.length : Int)), some (vI ((pos + 1 : Nat) : Int)), yo l6, yo l7, yo l8, yo l9] [] h5 (yq 2 (yqI K)) :=
      fun s' h5 l6 l7 l8 l9 w5 f5 sk5 m5 l5 v5 => ih s' (pos + 1) h5 l6 l7 l8 l9 w5 (f2.trans f5) sk5 m5 l5 hc' hcode' (by omega) v5
    have set1 : ∀ i (v : Int), Fr xM1 h2 (zsetV h2 151 i v) := fun i v => Fr.set (by unfold xM1; rfl)
    refine ⟨fun c3 => ?_, fun c3 => ?_⟩
    · rw [if_neg (by omega)] at hm hv
      refine ⟨fun c0 => ?_, fun c0 => ?_⟩
      · rw [if_neg c0] at hm hv
        cases s with
        | nil => cases hm
        | cons b s =>
          cases s with
          | nil => cases hm
          | cons a s =>
            rw [if_pos (by rw [List.length_cons, List.length_cons]; omega)] at hm
            have l2 : (b :: a :: s).length - 1 = s.length + 1 := by rw [List.length_cons, List.length_cons]; omega
            rw [l2] at hm
            rw [List.length_cons, List.length_cons] at hl
            have t1 : zw (((b :: a :: s).length : Int) + -1) = ((s.length + 1 : Nat) : Int) := by rw [List.length_cons, List.length_cons, zwi (by omega)]; omega
            have t2 : zw (((s.length + 1 : Nat) : Int) - 1) = ((s.length : Nat) : Int) := by rw [zwi (by omega)]; omega
            have eb : zV h2 151 (s.length + 1) = bI b := xsk_h sk
            have ea : zV h2 151 s.length = bI a := xsk_h (xsk_t sk)
            have sk2 := xsk_t (xsk_t sk)
            rw [t1, t2, Int.toNat_natCast, Int.toNat_natCast, ea, eb]
            have go : ∀ (v' : Int) (b' : Bool), v' = bI b' → b' = (if c = 1 then (a && b) else (a || b)) → ZW d prog_10_method_25_code 8 11 [some (vR (some 137)), some (vI x), some (vI y), some (vI l3), some (vI ((s.length + 1 : Nat) : Int)), some (vI ((pos + 1 : Nat) : Int)), some (vI c), yo l7, yo l8, yo l9] [] (zsetV h2 151 s.length v') (yq 2 (yqI K)) := by
              intro v' b' e1 e2
              refine step (b' :: s) _ (some c) l7 l8 l9 (yWFV w2) (set1 _ _) (xsk_set sk2 e1) hm (by rw [List.length_cons]; omega) ?_
              rw [e2]
              exact hv
            refine ⟨fun c1 => ⟨by omega, fun q => ⟨by omega, ?_⟩, fun q => ⟨by omega, fun q2 => ⟨by omega, ?_⟩, fun q2 => ⟨by omega, ?_⟩⟩⟩, fun c1 => ⟨by omega, fun q => ⟨by omega, ?_⟩, fun q => ⟨by omega, fun q2 => ⟨by omega, ?_⟩, fun q2 => ⟨by omega, ?_⟩⟩⟩⟩
            · refine go 1 true rfl ?_
              rw [if_neg c1]
              cases a
              · exact absurd rfl q
              · rfl
            · refine go 0 false rfl ?_
              rw [if_neg c1]
              cases a
              · cases b
                · rfl
                · cases q2
              · exact absurd (by decide) q
            · refine go 1 true rfl ?_
              rw [if_neg c1]
              cases a
              · cases b
                · exact absurd rfl q2
                · rfl
              · rfl
            · refine go 0 false rfl ?_
              rw [if_pos (Classical.byContradiction c1)]
              cases a
              · rfl
              · cases q
            · refine go 0 false rfl ?_
              rw [if_pos (Classical.byContradiction c1)]
              cases b
              · cases a <;> rfl
              · cases q2
            · refine go 1 true rfl ?_
              rw [if_pos (Classical.byContradiction c1)]
              cases a
              · exact absurd rfl q
              · cases b
                · exact absurd rfl q2
                · rfl
      · obtain rfl : c = 0 := Classical.byContradiction c0
        rw [if_pos rfl] at hm hv
        cases s with
        | nil => cases hm
        | cons b s =>
          rw [if_pos (by rw [List.length_cons]; omega)] at hm
          have t1 : zw (((b :: s).length : Int) - 1) = ((s.length : Nat) : Int) := by rw [List.length_cons, zwi (by rw [List.length_cons] at hl; omega)]; omega
          have eb : zV h2 151 s.length = bI b := xsk_h sk
          rw [List.length_cons] at hl
          rw [t1, Int.toNat_natCast, eb]
          have go : ∀ (v' : Int), v' = bI (!b) → ZW d prog_10_method_25_code 8 11 [some (vR (some 137)), some (vI x), some (vI y), some (vI l3), some (vI ((b :: s).length : Int)), some (vI ((pos + 1 : Nat) : Int)), some (vI 0), yo l7, yo l8, yo l9] [] (zsetV h2 151 s.length v') (yq 2 (yqI K)) := by
            intro v' e1
            exact step ((!b) :: s) _ (some 0) l7 l8 l9 (yWFV w2) (set1 _ _) (xsk_set (xsk_t sk) e1) hm (by rw [List.length_cons]; omega) hv
          refine ⟨by omega, fun q => ⟨by omega, ?_⟩, fun q => ⟨by omega, ?_⟩⟩
          · refine go 0 ?_
            cases b
            · exact absurd rfl q
            · rfl
          · refine go 1 ?_
            cases b
            · rfl
            · exact absurd (by decide) q
    · rw [if_pos (by omega)] at hm hv
      by_cases cm : s.length < 12
      · rw [if_pos cm] at hm
        have z0 : zw (c - 3) = c - 3 := zwi (by omega)
        have z1 : zdiv (c - 3) 300 = (c - 3) / 300 := zdiv_nn (by omega) (by decide)
        have z2 : zdiv (c - 3) 100 = (c - 3) / 100 := zdiv_nn (by omega) (by decide)
        have z3 : zrem (c - 3) 100 = (c - 3) % 100 := zrem_nn (by omega) (by decide)
        have z4 : zrem ((c - 3) / 100) 3 = (c - 3) / 100 % 3 := zrem_nn (by omega) (by decide)
        rw [z0, z1]
        refine sp137 w2 p (by omega) (W136_58 w2 ?_)
        rw [z0, z2, z3, z4, vM2, nz (by omega : pos < 100000), nz (by omega : s.length < 100000)]
        generalize hg : xfact (hvM h) x y ((c - 3) / 300).toNat = g
        have go : ∀ (v' : Int) (b' : Bool) (l7 l8 l9 : Int), v' = bI b' → b' = xts (xfact (hvM h) x y) c → ZW d prog_10_method_25_code 8 11 [some (vR (some 137)), some (vI x), some (vI y), some (vI l3), some (vI ((s.length + 1 : Nat) : Int)), some (vI ((pos + 1 : Nat) : Int)), some (vI c), some (vI l7), some (vI l8), some (vI l9)] [] (zsetV h2 151 s.length v') (yq 2 (yqI K)) := by
          intro v' b' l7 l8 l9 e1 e2
          refine step (b' :: s) _ (some c) (some l7) (some l8) (some l9) (yWFV w2) (set1 _ _) (xsk_set sk e1) hm (by rw [List.length_cons]; omega) ?_
          rw [e2]
          exact hv
        have hx : xts (xfact (hvM h) x y) c = if (c - 3) / 100 % 3 = 0 then decide (g < (c - 3) % 100) else if (c - 3) / 100 % 3 = 1 then decide (g = (c - 3) % 100) else decide ((c - 3) % 100 < g) := by
          unfold xts
          rw [hg]
        rw [Int.toNat_natCast]
        refine ⟨fun k0 => ⟨fun k1 => ⟨fun q => ⟨by omega, ?_⟩, fun q => ⟨by omega, ?_⟩⟩, fun k1 => ⟨fun q => ⟨by omega, ?_⟩, fun q => ⟨by omega, ?_⟩⟩⟩, fun k0 => ⟨fun q => ⟨by omega, ?_⟩, fun q => ⟨by omega, ?_⟩⟩⟩
        · exact go 0 false _ _ _ rfl (by rw [hx, if_neg k0, if_neg k1]; exact (decide_eq_false (by omega)).symm)
        · exact go 1 true _ _ _ rfl (by rw [hx, if_neg k0, if_neg k1]; exact (decide_eq_true (by omega)).symm)
        · exact go 0 false _ _ _ rfl (by rw [hx, if_neg k0, if_pos (Classical.byContradiction k1)]; exact (decide_eq_false q).symm)
        · exact go 1 true _ _ _ rfl (by rw [hx, if_neg k0, if_pos (Classical.byContradiction k1)]; exact (decide_eq_true (Classical.byContradiction q)).symm)
        · exact go 0 false _ _ _ rfl (by rw [hx, if_pos (Classical.byContradiction k0)]; exact (decide_eq_false (by omega)).symm)
        · exact go 1 true _ _ _ rfl (by rw [hx, if_pos (Classical.byContradiction k0)]; exact (decide_eq_true (by omega)).symm)
      · rw [if_neg cm] at hm
        cases hm
theorem mp136 {i : Nat} {e : Int × Int × List Int} (w : yWF zl nl h) (p : 0 ≤ x ∧ x < 6 ∧ 0 ≤ y ∧ y < 6) (hd : 1 ≤ d) (m : xMR h j cl) (hj : j < 6) (hi : cl[i]? = some e) (ok : xOKe e) (h2 : e.1 < 2) (hi10 : i < 10) (k : ∀ h', yWF zl nl h' → Fr xM1 h h' → K (bI (xtop (xev (xfact (hvM h) x y) e.2.2 []))) h') : yI d 136 [vR (some 137), vI x, vI y, vI ((10 * j + i : Nat) : Int)] h K := by
  obtain ⟨m1, m2, m3⟩ := m
  obtain ⟨n1, n2, n3, n4, n5, n6⟩ := m3 i e hi
  obtain ⟨o1, o2, o3, o4, o5, o6⟩ := ok
  refine E136 w ⟨by omega, ?_⟩
  rw [Int.toNat_natCast]
  obtain ⟨b, hb⟩ : ∃ b : Nat, zV h 148 (10 * j + i) = b := ⟨(zV h 148 (10 * j + i)).toNat, by omega⟩
  rw [hb]
  have z1 : zw (zV h 148 ((10 * j + i : Nat) : Int).toNat + zV h 149 ((10 * j + i : Nat) : Int).toNat) = ((b + e.2.2.length : Nat) : Int) := by
    rw [Int.toNat_natCast, hb, n3, zwi (by omega)]
    omega
  rw [hb] at n6
  exact mp136_loop p hd (by omega) z1 (by omega) k e.2.2 [] b h none none none none w Fr.rfl' (fun i b hi => by simp at hi) (o5 h2) (by decide) o6 (fun u c hu => by have := n6 u c hu; rw [Int.toNat_natCast] at this; exact this) rfl rfl
theorem drop_get {α : Type} {l : List α} {i : Nat} {e : α} (hi : l[i]? = some e) : l.drop i = e :: l.drop (i + 1) := by
  obtain ⟨hl, he⟩ := List.getElem?_eq_some_iff.1 hi
  rw [List.drop_eq_getElem_cons hl, he]
/-- the model's growth, and its sum -/
theorem mp143 (w : yWF zl nl h) (st : xST h) (r : Rg B (hvM h)) (hh : hvM h 0 6 < zV h 137 15) (k : K (xG h (hvM h 0 6)) h) : yI d 143 [vR (some 137)] h K := by
  have rh := r.ho
  have e16 : zV h 137 16 = hvM h 0 6 := rfl
  refine E143 w ?_
  by_cases c : hvM h 0 6 = -1
  · refine W143_4 w ⟨fun _ => ?_, fun q => absurd (e16.trans c) q⟩
    unfold xG xsh at k
    rw [if_pos (by omega), if_neg (by omega), if_neg (by omega), st.2.2.2.2.2.2.2] at k
    exact k
  · obtain ⟨j, hj⟩ : ∃ j : Nat, hvM h 0 6 = j := ⟨(hvM h 0 6).toNat, by omega⟩
    obtain ⟨cl, c1, c2, c3⟩ := st.2.2.2.1 j (by omega)
    obtain ⟨m1, m2, m3⟩ := c1
    have eg : xG h (hvM h 0 6) = xgrow cl := by
      unfold xG xsh
      rw [if_neg (by omega), hj, Int.toNat_natCast]
      exact c2.2.2.1
    rw [eg] at k
    have q16 : zV h 137 16 = (j : Int) := hj
    have hj6 : j < 6 := by omega
    clear eg e16 rh hh c hj
    have lp : ∀ (m i : Nat) (g : Int), i + m = cl.length → K ((cl.drop i).foldl (fun g e => if e.1 = 2 then e.2.1 else g) g) h → ZW d prog_10_method_27_code 8 4 [some (vR (some 137)), some (vI g), some (vI (i : Int))] [] h (yq 1 (yqI K)) := by
      intro m
      induction m with
      | zero =>
        intro i g hm hx
        refine W143_4 w ⟨fun q => absurd (q16.symm.trans q) (by omega), fun _ => ⟨by omega, ?_⟩⟩
        rw [q16, Int.toNat_natCast, m1]
        refine ⟨fun _ => ?_, fun q => absurd (by omega) q⟩
        rw [List.drop_eq_nil_of_le (by omega)] at hx
        exact hx
      | succ m ih =>
        intro i g hm hx
        have z1 : zw (zw (10 * (j : Int)) + (i : Int)) = ((10 * j + i : Nat) : Int) := by rw [zwi (x := 10 * (j : Int)) (by omega), zwi (by omega)]; omega
        have b1 : 0 ≤ ((10 * j + i : Nat) : Int) ∧ ((10 * j + i : Nat) : Int) < 61 := by omega
        have b2 : 0 ≤ (j : Int) ∧ (j : Int) < 6 := by omega
        have b3 : ¬ ((cl.length : Int) ≤ (i : Int)) := by omega
        have b4 : i + 1 + m = cl.length := by omega
        have b5 : ¬ ((j : Int) = -1) := by omega
        have z2 : zw ((i : Int) + 1) = ((i + 1 : Nat) : Int) := nz (by omega)
        obtain ⟨e, he⟩ : ∃ e, cl[i]? = some e := ⟨cl[i]'(by omega), List.getElem?_eq_getElem (by omega)⟩
        obtain ⟨n1, n2, -⟩ := m3 i e he
        refine W143_4 w ⟨fun q => absurd (q16.symm.trans q) b5, fun _ => ?_⟩
        rw [q16, Int.toNat_natCast, m1, z1, Int.toNat_natCast, n1, n2, z2]
        rw [drop_get he] at hx
        refine ⟨b2, fun q => absurd q b3, fun _ => ⟨b1, fun q => ?_, fun q => ⟨b1, ?_⟩⟩⟩
        · refine ih (i + 1) g b4 ?_
          rw [List.foldl_cons, if_neg q] at hx
          exact hx
        · refine ih (i + 1) _ b4 ?_
          rw [List.foldl_cons, if_pos (Classical.byContradiction q)] at hx
          exact hx
    exact lp cl.length 0 0 (by omega) k
theorem mp135 (w : yWF zl nl h) (hd : 2 ≤ d) (st : xST h) (r : Rg B (hvM h)) (hB : B ≤ 100000) (hh : hvM h 0 6 < zV h 137 15) (p : 0 ≤ x ∧ x < 6 ∧ 0 ≤ y ∧ y < 6) (k : ∀ h', yWF zl nl h' → Fr xM1 h h' → K (zw (hvM h 4 (6 * x + y).toNat + xF h (hvM h 0 6) (xfact (hvM h) x y))) h') : yI d 135 [vR (some 137), vI x, vI y] h K := by
  have rh := r.ho
  have e16 : zV h 137 16 = hvM h 0 6 := rfl
  have rb := r.bu (6 * x + y).toNat
  have z0 : zw (zw (6 * x) + y) = 6 * x + y := by rw [zwi (x := 6 * x) (by omega), zwi (by omega)]
  refine E135 w ?_
  rw [z0, ← vM_4 (by omega)]
  refine ⟨by omega, ?_⟩
  by_cases c : hvM h 0 6 = -1
  · refine W135_15 (l5 := none) w (by omega) ⟨fun _ => ?_, fun q => absurd (e16.trans c) q⟩
    have k := k h w Fr.rfl'
    have e0 : xF h (hvM h 0 6) (xfact (hvM h) x y) = 0 := by
      unfold xF xsh ysharp
      rw [if_pos (by omega), if_neg (by omega), if_neg (by omega), st.2.2.2.2.2.2.1]
      rfl
    rw [e0, zwi (by omega), Int.add_zero] at k
    exact k
  · obtain ⟨j, hj⟩ : ∃ j : Nat, hvM h 0 6 = j := ⟨(hvM h 0 6).toNat, by omega⟩
    obtain ⟨cl, c1, c2, c3⟩ := st.2.2.2.1 j (by omega)
    obtain ⟨m1, m2, m3⟩ := id c1
    have eg : xF h (hvM h 0 6) (xfact (hvM h) x y) = xsum (xfact (hvM h) x y) cl := by
      unfold xF xsh
      rw [if_neg (by omega), hj, Int.toNat_natCast]
      exact xF_sum c2 c3 m2
    have z9 : zw (hvM h 4 (6 * x + y).toNat + xsum (xfact (hvM h) x y) cl) = hvM h 4 (6 * x + y).toNat + xsum (xfact (hvM h) x y) cl := by
      have rsum := xsum_r (f := xfact (hvM h) x y) c3
      exact zwi (by omega)
    rw [eg, z9] at k
    have q16 : zV h 137 16 = (j : Int) := hj
    have hj6 : j < 6 := by omega
    have rb2 := rb
    clear eg z9 e16 rh hh c hj
    generalize hb0 : hvM h 4 (6 * x + y).toNat = b0 at rb k ⊢
    clear rb2
    have lp : ∀ (m i : Nat) (g : Int) (h2 : Hp) (l5 : Option Int), i + m = cl.length → yWF zl nl h2 → Fr xM1 h h2 → (-(99 * (i : Int)) ≤ g ∧ g ≤ 9 + 99 * (i : Int)) → (∀ h', yWF zl nl h' → Fr xM1 h h' → K (g + xsum (xfact (hvM h) x y) (cl.drop i)) h') → ZW d prog_10_method_26_code 8 15 [some (vR (some 137)), some (vI x), some (vI y), some (vI g), some (vI (i : Int)), yo l5] [] h2 (yq 1 (yqI K)) := by
      clear k
      intro m
      induction m with
      | zero =>
        intro i g h2 l5 hm w2 f2 hg hx
        have F : ∀ b k, b ≠ 151 → zV h2 b k = zV h b k := fun b k q => f2.V b k (by unfold xM1; omega)
        refine W135_15 w2 (by omega) ⟨fun q => absurd (by rw [F 137 16 (by decide), q16] at q; exact q) (by omega), fun _ => ?_⟩
        rw [F 137 16 (by decide), q16, Int.toNat_natCast, F 145 j (by decide), m1]
        refine ⟨by omega, fun _ => ?_, fun q => absurd (by omega) q⟩
        have hx := hx h2 w2 f2
        rw [List.drop_eq_nil_of_le (by omega)] at hx
        have hx : K (g + 0) h2 := hx
        rw [Int.add_zero] at hx
        exact hx
      | succ m ih =>
        intro i g h2 l5 hm w2 f2 hg hx
        have F : ∀ b k, b ≠ 151 → zV h2 b k = zV h b k := fun b k q => f2.V b k (by unfold xM1; omega)
        have b1 : 0 ≤ ((10 * j + i : Nat) : Int) ∧ ((10 * j + i : Nat) : Int) < 61 := by omega
        have b2 : 0 ≤ (j : Int) ∧ (j : Int) < 6 := by omega
        have b3 : ¬ ((cl.length : Int) ≤ (i : Int)) := by omega
        have b4 : i + 1 + m = cl.length := by omega
        have b5 : ¬ ((j : Int) = -1) := by omega
        have b6 : i < 10 := by omega
        have b10 : i < 100000 := by omega
        have b7 : ∀ v : Int, -99 ≤ v → v ≤ 99 → zw (g + v) = g + v ∧ -(99 * ((i + 1 : Nat) : Int)) ≤ g + v ∧ g + v ≤ 9 + 99 * ((i + 1 : Nat) : Int) := fun v h1 h2 => ⟨zwi (by omega), by omega, by omega⟩
        have b8 : -(99 * ((i + 1 : Nat) : Int)) ≤ g ∧ g ≤ 9 + 99 * ((i + 1 : Nat) : Int) := by omega
        have b9 : ∀ v : Int, 0 ≤ v → v ≤ 99 → -99 ≤ -v ∧ -v ≤ 99 ∧ -99 ≤ v ∧ zw (-v) = -v := fun v h1 h2 => ⟨by omega, by omega, by omega, zwi (by omega)⟩
        obtain ⟨e, he⟩ : ∃ e, cl[i]? = some e := ⟨cl[i]'(by omega), List.getElem?_eq_getElem (by omega)⟩
        have oke := c3 e (List.mem_of_getElem? he)
        obtain ⟨o1, o2, o3, o4, o5, o6⟩ := id oke
        have d2 : 2 ≤ e.1 → ¬ (e.1 < 2) := fun q => by omega
        have d3 : ¬ (2 ≤ e.1) → e.1 < 2 := fun q => by omega
        have d1 : 1 ≤ d := by omega
        have dd : 1 ≤ d - 1 := by omega
        have c1' : xMR h2 j cl := xMR_fr (fun b k q1 q2 => F b k (by omega)) c1
        have vM2 : hvM h2 = hvM h := f2.hvM xM1_M
        have u129 : (137 : Nat) ≠ 151 := by decide
        have z1 : zw (zw (10 * (j : Int)) + (i : Int)) = ((10 * j + i : Nat) : Int) := by rw [zwi (x := 10 * (j : Int)) (by omega), zwi (by omega)]; omega
        have z2 : zw ((i : Int) + 1) = ((i + 1 : Nat) : Int) := nz b10
        obtain ⟨n1, n2, -⟩ := m3 i e he
        refine W135_15 w2 d1 ⟨fun q => absurd (by rw [F 137 16 (by decide), q16] at q; exact q) b5, fun _ => ?_⟩
        rw [F 137 16 (by decide), q16, Int.toNat_natCast, F 145 j (by decide), m1, z1, Int.toNat_natCast, F 146 _ (by decide), n1, z2]
        have hx2 : ∀ g', g + xca1 (xfact (hvM h) x y) e = g' → ∀ h', yWF zl nl h' → Fr xM1 h h' → K (g' + xsum (xfact (hvM h) x y) (cl.drop (i + 1))) h' := by
          intro g' hg' h' w' f'
          have hx := hx h' w' f'
          rw [drop_get he] at hx
          have hs : xsum (xfact (hvM h) x y) (e :: cl.drop (i + 1)) = xca1 (xfact (hvM h) x y) e + xsum (xfact (hvM h) x y) (cl.drop (i + 1)) := by unfold xsum; rw [List.map_cons, List.sum_cons]
          rw [hs, ← Int.add_assoc, hg'] at hx
          exact hx
        clear hx
        refine ⟨b2, fun q => absurd q b3, fun _ => ⟨b1, fun q => ?_, fun q => ?_⟩⟩
        · refine ih (i + 1) g h2 (some _) b4 w2 f2 b8 (hx2 g ?_)
          unfold xca1
          rw [if_neg (fun r => d2 q r.1), Int.add_zero]
        · refine mp136 w2 p dd c1' hj6 he oke (d3 q) b6 fun h3 w3 f3 => ?_
          have F3 : ∀ b k, b ≠ 151 → zV h3 b k = zV h b k := fun b k q => by rw [f3.V b k (by unfold xM1; exact q)]; exact F b k q
          rw [vM2]
          refine W135_68 w3 ?_
          rw [z2, Int.toNat_natCast, F3 146 _ (by decide), n1, F3 147 _ (by decide), n2]
          have hx3 : ∀ g', g + (if xtop (xev (xfact (hvM h) x y) e.2.2 []) = true then (if e.1 = 0 then e.2.1 else -e.2.1) else 0) = g' → ∀ h', yWF zl nl h' → Fr xM1 h h' → K (g' + xsum (xfact (hvM h) x y) (cl.drop (i + 1))) h' := by
            intro g' hg'
            refine hx2 g' ?_
            have hc : xca1 (xfact (hvM h) x y) e = if xtop (xev (xfact (hvM h) x y) e.2.2 []) = true then (if e.1 = 0 then e.2.1 else -e.2.1) else 0 := by
              unfold xca1
              by_cases c4 : xtop (xev (xfact (hvM h) x y) e.2.2 []) = true
              · rw [if_pos ⟨d3 q, c4⟩, if_pos c4]
              · rw [if_neg (fun q => c4 q.2), if_neg c4]
            rw [hc]
            exact hg'
          clear hx2
          obtain ⟨y1, y2, y3, y4⟩ := b9 e.2.1 o3 o4
          obtain ⟨p1, p2⟩ := b7 e.2.1 y3 o4
          obtain ⟨r1, r2⟩ := b7 (-e.2.1) y1 y2
          generalize xtop (xev (xfact (hvM h) x y) e.2.2 []) = tp at hx3 ⊢
          cases tp
          · exact ⟨fun q2 => ih (i + 1) g h3 (some _) b4 w3 (f2.trans f3) b8 (hx3 g (by rw [if_neg (by decide), Int.add_zero])), fun q2 => absurd rfl q2⟩
          · refine ⟨fun q2 => absurd q2 (by decide), fun q2 => ⟨b1, fun q3 => ⟨b1, ?_⟩, fun q3 => ⟨b1, ?_⟩⟩⟩
            · rw [y4, r1]
              exact ih (i + 1) _ h3 (some _) b4 w3 (f2.trans f3) r2 (hx3 _ (by rw [if_pos rfl, if_neg q3]))
            · rw [p1]
              exact ih (i + 1) _ h3 (some _) b4 w3 (f2.trans f3) p2 (hx3 _ (by rw [if_pos rfl, if_pos (Classical.byContradiction q3)]))
    exact lp cl.length 0 _ h none (by omega) w Fr.rfl' (by omega) k
end XSH3
