/-! THE MODEL: tests, factors, expressions -/
section XML2
variable {zl : Nat} {nl : Option Nat} {h0 h h' : Hp} {d : Nat} {K : Int → Hp → Prop} {U : Hp → Prop} {T : Nat → Int} {n q0 W p q r m a k b i : Nat} {o : Int} {C : List Int} {P : Nat → PR} {x y z v g : Int}
theorem ylet_0 (h : x ≤ 0) : ylet x = -1 := by unfold ylet; omega
theorem yrel_0 (h : x ≤ 0) : yrel x = -1 := by unfold yrel; omega
theorem ppk_lt (h : p < n) : ppk T n p = T p := if_pos h
theorem ppk_ge (h : ¬ p < n) : ppk T n p = -1 := if_neg h
theorem cm166 (c0 : xM0 h0 T n W) (hd : 8 ≤ d) : xMJ zl nl h0 n q0 W d 166 o (ptest T n) := by
  intro h p a C K c k1 k0
  have hn := c0.2.1
  have hl := c.len c0
  have hp := c.pl
  have hpn := c.pn
  have hs := c.sl
  refine E166 c.w (by omega) ⟨fun e => ?_, fun e => ?_⟩
  · refine k0 p o C h ?_ c
    unfold ptest
    rw [ppk_ge (by omega), if_neg (by decide)]
  · have t := c.tx c0 (by omega)
    have ek := ppk_lt (T := T) (n := n) (p := p) (by omega)
    rw [hp, t.1]
    refine ⟨by omega, fun f => ?_, fun f => ⟨by omega, ?_⟩⟩
    · refine k0 p o C h ?_ c
      unfold ptest
      rw [ek, ylet_0 f, if_neg (by decide)]
    · refine st167 c.w (by omega) (ws := [112, 107, 118, 105, 98, 121]) (by unfold yStr; decide) rfl (c.B c0) (by omega) (by decide) ?_
      rw [zix_let]
      have r1 := ylet_r (T p)
      have c2 : xMP zl nl h0 n q0 W (zsetV h 137 11 (zw (zV h 137 11 + 1))) (p + 1) (a + 1) o C := c.s11 (by omega) (by omega) (by rw [hp, zwi (by omega)]; omega)
      have e2 : zsetV h 137 11 (zw (zV h 137 11 + 1)) = zsetV h 137 11 (zw (zV h 137 11 + 1)) := rfl
      refine W166_37 c.w (by omega) ?_
      generalize zsetV h 137 11 (zw (zV h 137 11 + 1)) = h2 at c2 ⊢
      have hl2 := c2.len c0
      have hp2 := c2.pl
      refine ⟨fun f2 => ⟨fun e3 => ?_, fun e3 => ?_⟩, fun f2 => ?_⟩
      · refine k0 (p + 1) o C h2 ?_ (c2.le (by omega))
        unfold ptest
        rw [ek, if_pos f2, ppk_ge (by omega), if_neg (by decide)]
      · have t2 := c2.tx c0 (by omega)
        have ek2 := ppk_lt (T := T) (n := n) (p := p + 1) (by omega)
        rw [hp2, t2.1]
        refine ⟨by omega, fun f3 => ?_, fun f3 => ⟨by omega, ?_⟩⟩
        · refine k0 (p + 1) o C h2 ?_ (c2.le (by omega))
          unfold ptest
          rw [ek, if_pos f2, ek2, yrel_0 f3, if_neg (by decide)]
        · refine st167 c2.w (by omega) (ws := [60, 61, 62]) (by unfold yStr; decide) rfl (c2.B c0) (by omega) (by decide) ?_
          rw [zix_rel]
          have r2 := yrel_r (T (p + 1))
          by_cases g : yrel (T (p + 1)) = -1
          · rw [if_pos g]
            refine W166_95 c2.w (by omega) ⟨fun q => absurd q (by decide), fun _ => k0 (p + 1) o C h2 ?_ (c2.le (by omega))⟩
            unfold ptest
            rw [ek, if_pos f2, ek2, g, if_neg (by decide)]
          · rw [if_neg g]
            have c3 : xMP zl nl h0 n q0 W (zsetV h2 137 11 (zw (zV h2 137 11 + 1))) (p + 2) (a + 2) o C := c2.s11 (by omega) (by omega) (by rw [hp2, zwi (by omega)]; omega)
            refine W166_95 c2.w (by omega) ⟨fun _ => ?_, fun q => absurd (by omega) q⟩
            generalize zsetV h2 137 11 (zw (zV h2 137 11 + 1)) = h3 at c3 ⊢
            refine cm159 c0 (by omega) c3 (fun q v h4 e4 c4 v4 => ?_) (fun h4 e4 c4 => ?_)
            · have rv := pnum_r e4
              refine W166_120 c4.w (by omega) ⟨fun q => absurd q (by decide), fun _ => ?_⟩
              rw [v4, zwi (x := 300 * ylet (T p)) (by omega), zwi (x := 3 + 300 * ylet (T p)) (by omega), zwi (x := 100 * (yrel (T (p + 1)) - 1)) (by omega), zwi (x := 3 + 300 * ylet (T p) + 100 * (yrel (T (p + 1)) - 1)) (by omega), zwi (by omega)]
              refine cm165 c0 (c4.le (b := a + 1) (by omega)) fun h5 c5 => W166_144 c5.w ⟨fun q => absurd q (by decide), fun _ => k1 q _ h5 ?_ c5⟩
              unfold ptest
              rw [ek, if_pos f2, ek2, if_pos (by omega), e4]
            · refine W166_120 c4.w (by omega) ⟨fun _ => k0 (p + 2) o C h4 ?_ (c4.le (by omega)), fun q => absurd rfl q⟩
              unfold ptest
              rw [ek, if_pos f2, ek2, if_pos (by omega), e4]
      · refine k0 p o C h ?_ c
        unfold ptest
        rw [ek, if_neg f2]
theorem cm162_loop (c0 : xM0 h0 T n W) (hd : 3 ≤ d) (mo : ∀ p q b, P p = (q, some b) → p ≤ q) (cs : xMJ zl nl h0 n q0 W (d - 1) 163 o P) : ∀ (m : Nat) (h : Hp) (p a : Nat) (C : List Int) (K : Int → Hp → Prop), n ≤ p + m → xMP zl nl h0 n q0 W h p a o C → (∀ q b h', prest P T n 38 1 m p = (q, some b) → xMP zl nl h0 n q0 W h' q a o (C ++ b) → K 1 h') → (∀ q (o' : Int) C' h', prest P T n 38 1 m p = (q, none) → xMP zl nl h0 n q0 W h' q a o' C' → K 0 h') → ZW d prog_10_method_20_code 8 9 [some (vR (some 137))] [] h (yq 2 (yqI K)) := by
  intro m
  induction m with
  | zero =>
    intro h p a C K hm c k1 k0
    have no : ptk T n p 38 = false := decide_eq_false (by omega)
    refine W162_9 c.w (by omega) (cm158 c0 c (fun e => ?_) (fun _ => W162_15 c.w (by omega) ⟨fun _ => k1 p [] h rfl (by rw [List.append_nil]; exact c), fun q => absurd rfl q⟩))
    rw [no] at e
    cases e
  | succ m ih =>
    intro h p a C K hm c k1 k0
    refine W162_9 c.w (by omega) (cm158 c0 c (fun e h2 c2 => ?_) (fun no => W162_15 c.w (by omega) ⟨fun _ => k1 p [] h (prest_no no _) (by rw [List.append_nil]; exact c), fun q => absurd rfl q⟩))
    refine W162_15 c2.w (by omega) ⟨fun q => absurd q (by decide), fun _ => cs h2 (p + 1) (a + 1) C _ c2 (fun q b h3 e3 c3 => ?_) (fun q o3 C3 h3 e3 c3 => ?_)⟩
    · have hq := mo _ _ _ e3
      refine W162_22 c3.w (by omega) ⟨fun q => absurd q (by decide), fun _ => cm165 c0 c3 fun h4 c4 => W162_30 c4.w ⟨fun _ => ?_, fun q => absurd (by decide) q⟩⟩
      refine ih h4 q a _ K (by omega) c4 (fun q5 b5 h5 e6 c5 => ?_) (fun q5 o5 C5 h5 e6 c5 => ?_)
      · refine k1 q5 (b ++ 1 :: b5) h5 ?_ ?_
        · show (if ptk T n p 38 = true then _ else _) = _
          rw [if_pos e, e3]
          show (match prest P T n 38 1 m q with
            | (r, none) => (r, none)
            | (r, some b5) => (r, some (b ++ 1 :: b5))) = _
          rw [e6]
        · rw [List.append_assoc, List.append_assoc] at c5
          exact c5
      · refine k0 q5 o5 C5 h5 ?_ c5
        show (if ptk T n p 38 = true then _ else _) = _
        rw [if_pos e, e3]
        show (match prest P T n 38 1 m q with
          | (r, none) => (r, none)
          | (r, some b5) => (r, some (b ++ 1 :: b5))) = _
        rw [e6]
    · refine W162_22 c3.w (by omega) ⟨fun _ => k0 q o3 C3 h3 ?_ (c3.le (by omega)), fun q => absurd rfl q⟩
      show (if ptk T n p 38 = true then _ else _) = _
      rw [if_pos e, e3]
theorem cm162 (c0 : xM0 h0 T n W) (hd : 4 ≤ d) (mo : ∀ p q b, P p = (q, some b) → p ≤ q) (cs1 : xMJ zl nl h0 n q0 W (d - 1) 163 o P) : xMJ zl nl h0 n q0 W d 162 o (pseq P T n 38 1) := by
  intro h p a C K c k1 k0
  refine E162 c.w (by omega) (cs1 h p a C _ c (fun q b h2 e2 c2 => ?_) (fun q o2 C2 h2 e2 c2 => ?_))
  · refine W162_4 c2.w ⟨fun _ => ?_, fun q => absurd (by decide) q⟩
    refine cm162_loop c0 (by omega) mo cs1 n h2 q a _ K (by omega) c2 (fun q3 b3 h3 e3 c3 => ?_) (fun q3 o3 C3 h3 e3 c3 => ?_)
    · refine k1 q3 (b ++ b3) h3 ?_ (by rw [← List.append_assoc]; exact c3)
      unfold pseq
      rw [e2]
      show (match prest P T n 38 1 n q with
        | (r, none) => (r, none)
        | (r, some b3) => (r, some (b ++ b3))) = _
      rw [e3]
    · refine k0 q3 o3 C3 h3 ?_ c3
      unfold pseq
      rw [e2]
      show (match prest P T n 38 1 n q with
        | (r, none) => (r, none)
        | (r, some b3) => (r, some (b ++ b3))) = _
      rw [e3]
  · refine W162_4 c2.w ⟨fun q => absurd rfl q, fun _ => k0 q o2 C2 h2 ?_ c2⟩
    unfold pseq
    rw [e2]
theorem cm161_loop (c0 : xM0 h0 T n W) (hd : 3 ≤ d) (mo : ∀ p q b, P p = (q, some b) → p ≤ q) (cs : xMJ zl nl h0 n q0 W (d - 1) 162 o P) : ∀ (m : Nat) (h : Hp) (p a : Nat) (C : List Int) (K : Int → Hp → Prop), n ≤ p + m → xMP zl nl h0 n q0 W h p a o C → (∀ q b h', prest P T n 124 2 m p = (q, some b) → xMP zl nl h0 n q0 W h' q a o (C ++ b) → K 1 h') → (∀ q (o' : Int) C' h', prest P T n 124 2 m p = (q, none) → xMP zl nl h0 n q0 W h' q a o' C' → K 0 h') → ZW d prog_10_method_21_code 8 9 [some (vR (some 137))] [] h (yq 2 (yqI K)) := by
  intro m
  induction m with
  | zero =>
    intro h p a C K hm c k1 k0
    have no : ptk T n p 124 = false := decide_eq_false (by omega)
    refine W161_9 c.w (by omega) (cm158 c0 c (fun e => ?_) (fun _ => W161_15 c.w (by omega) ⟨fun _ => k1 p [] h rfl (by rw [List.append_nil]; exact c), fun q => absurd rfl q⟩))
    rw [no] at e
    cases e
  | succ m ih =>
    intro h p a C K hm c k1 k0
    refine W161_9 c.w (by omega) (cm158 c0 c (fun e h2 c2 => ?_) (fun no => W161_15 c.w (by omega) ⟨fun _ => k1 p [] h (prest_no no _) (by rw [List.append_nil]; exact c), fun q => absurd rfl q⟩))
    refine W161_15 c2.w (by omega) ⟨fun q => absurd q (by decide), fun _ => cs h2 (p + 1) (a + 1) C _ c2 (fun q b h3 e3 c3 => ?_) (fun q o3 C3 h3 e3 c3 => ?_)⟩
    · have hq := mo _ _ _ e3
      refine W161_22 c3.w (by omega) ⟨fun q => absurd q (by decide), fun _ => cm165 c0 c3 fun h4 c4 => W161_30 c4.w ⟨fun _ => ?_, fun q => absurd (by decide) q⟩⟩
      refine ih h4 q a _ K (by omega) c4 (fun q5 b5 h5 e6 c5 => ?_) (fun q5 o5 C5 h5 e6 c5 => ?_)
      · refine k1 q5 (b ++ 2 :: b5) h5 ?_ ?_
        · show (if ptk T n p 124 = true then _ else _) = _
          rw [if_pos e, e3]
          show (match prest P T n 124 2 m q with
            | (r, none) => (r, none)
            | (r, some b5) => (r, some (b ++ 2 :: b5))) = _
          rw [e6]
        · rw [List.append_assoc, List.append_assoc] at c5
          exact c5
      · refine k0 q5 o5 C5 h5 ?_ c5
        show (if ptk T n p 124 = true then _ else _) = _
        rw [if_pos e, e3]
        show (match prest P T n 124 2 m q with
          | (r, none) => (r, none)
          | (r, some b5) => (r, some (b ++ 2 :: b5))) = _
        rw [e6]
    · refine W161_22 c3.w (by omega) ⟨fun _ => k0 q o3 C3 h3 ?_ (c3.le (by omega)), fun q => absurd rfl q⟩
      show (if ptk T n p 124 = true then _ else _) = _
      rw [if_pos e, e3]
theorem cm161 (c0 : xM0 h0 T n W) (hd : 4 ≤ d) (mo : ∀ p q b, P p = (q, some b) → p ≤ q) (cs1 : xMJ zl nl h0 n q0 W (d - 1) 162 o P) : xMJ zl nl h0 n q0 W d 161 o (pseq P T n 124 2) := by
  intro h p a C K c k1 k0
  refine E161 c.w (by omega) (cs1 h p a C _ c (fun q b h2 e2 c2 => ?_) (fun q o2 C2 h2 e2 c2 => ?_))
  · refine W161_4 c2.w ⟨fun _ => ?_, fun q => absurd (by decide) q⟩
    refine cm161_loop c0 (by omega) mo cs1 n h2 q a _ K (by omega) c2 (fun q3 b3 h3 e3 c3 => ?_) (fun q3 o3 C3 h3 e3 c3 => ?_)
    · refine k1 q3 (b ++ b3) h3 ?_ (by rw [← List.append_assoc]; exact c3)
      unfold pseq
      rw [e2]
      show (match prest P T n 124 2 n q with
        | (r, none) => (r, none)
        | (r, some b3) => (r, some (b ++ b3))) = _
      rw [e3]
    · refine k0 q3 o3 C3 h3 ?_ c3
      unfold pseq
      rw [e2]
      show (match prest P T n 124 2 n q with
        | (r, none) => (r, none)
        | (r, some b3) => (r, some (b ++ b3))) = _
      rw [e3]
  · refine W161_4 c2.w ⟨fun q => absurd rfl q, fun _ => k0 q o2 C2 h2 ?_ c2⟩
    unfold pseq
    rw [e2]
theorem cm163 (c0 : xM0 h0 T n W) : ∀ (r d : Nat) (o : Int), r ≤ 4 → 3 * r + 10 ≤ d → o + (r : Int) = 4 → xMJ zl nl h0 n q0 W d 163 o (pF T n r)
  | 0, d, o, hr, hd, ho => by
    intro h p a C K c k1 k0
    refine E163 c.w (by omega) (cm164 c0 (by omega) (by omega) c (fun q => by omega) (fun _ => W163_6 c.w (by omega) ⟨fun _ => cm164 c0 (by omega) (by omega) c (fun q => by omega) (fun _ => W163_39 c.w (by omega) ⟨fun _ => ?_, fun q => absurd rfl q⟩), fun q => absurd rfl q⟩))
    exact cm166 c0 (by omega) h p a C _ c (fun q b h2 e2 c2 => W163_71 c2.w ⟨Or.inr rfl, k1 q b h2 e2 c2⟩) (fun q o2 C2 h2 e2 c2 => W163_71 c2.w ⟨Or.inl rfl, k0 q o2 C2 h2 e2 c2⟩)
  | r + 1, d, o, hr, hd, ho => by
    intro h p a C K c k1 k0
    have pe : pF T n (r + 1) p = (if ptk T n p 33 = true then pnot (pF T n r (p + 1)) else if ptk T n p 40 = true then pcl T n (pseq (pseq (pF T n r) T n 38 1) T n 124 2 (p + 1)) else ptest T n p) := rfl
    rw [pe] at k1 k0
    clear pe
    have ih := cm163 c0 r (d - 1) (o + 1) (by omega) (by omega) (by omega)
    have ih3 := cm163 c0 r (d - 1 - 1 - 1) (o + 1) (by omega) (by omega) (by omega)
    have iE := cm161 c0 (d := d - 1) (by omega) (pseq_mo (pF_mo r)) (cm162 c0 (d := d - 1 - 1) (by omega) (pF_mo r) ih3)
    have up : ∀ (h2 : Hp) (q b : Nat) (C2 : List Int), xMP zl nl h0 n q0 W h2 q b (o + 1) C2 → xMP zl nl h0 n q0 W (zsetV h2 137 14 (zw (zV h2 137 14 - 1))) q b o C2 := fun h2 q b C2 c2 => by rw [c2.op, zwi (by omega), show o + 1 - 1 = o by omega]; exact c2.s14
    refine E163 c.w (by omega) (cm164 c0 (by omega) (by omega) c (fun _ e h2 c2 => ?_) (fun e => ?_))
    · rw [if_pos e] at k1 k0
      refine W163_6 c2.w (by omega) ⟨fun q => absurd q (by decide), fun _ => ih h2 _ _ C _ c2 (fun q b h3 e3 c3 => ?_) (fun q o3 C3 h3 e3 c3 => ?_)⟩
      · refine W163_13 c3.w (by omega) ⟨fun q => absurd q (by decide), fun _ => cm165 c0 c3 fun h4 c4 => W163_21 c4.w ⟨fun q => absurd q (by decide), fun _ => k1 q (b ++ [0]) _ (by rw [e3]; rfl) ?_⟩⟩
        rw [← List.append_assoc]
        exact up _ _ _ _ c4
      · refine W163_13 c3.w (by omega) ⟨fun _ => k0 q _ C3 _ (by rw [e3]; rfl) (c3.s14.le (by omega)), fun q => absurd rfl q⟩
    · have e : ptk T n p 33 = false := by
        rcases e with e | e
        · omega
        · exact e
      rw [if_neg (by rw [e]; decide)] at k1 k0
      refine W163_6 c.w (by omega) ⟨fun _ => cm164 c0 (by omega) (by omega) c (fun _ f h2 c2 => ?_) (fun f => ?_), fun q => absurd rfl q⟩
      · rw [if_pos f] at k1 k0
        refine W163_39 c2.w (by omega) ⟨fun q => absurd q (by decide), fun _ => iE h2 _ _ C _ c2 (fun q b h3 e3 c3 => ?_) (fun q o3 C3 h3 e3 c3 => ?_)⟩
        · refine W163_46 c3.w (by omega) ⟨fun q => absurd q (by decide), fun _ => cm158 c0 c3 (fun t h4 c4 => ?_) (fun t => ?_)⟩
          · exact W163_55 c4.w ⟨fun q => absurd q (by decide), fun _ => k1 (q + 1) b _ (by rw [e3]; exact if_pos t) ((up _ _ _ _ c4).le (by omega))⟩
          · exact W163_55 c3.w ⟨fun _ => k0 q o _ _ (by rw [e3]; exact if_neg (by rw [t]; decide)) ((up _ _ _ _ c3).le (by omega)), fun q => absurd rfl q⟩
        · exact W163_46 c3.w (by omega) ⟨fun _ => k0 q _ C3 _ (by rw [e3]; rfl) (c3.s14.le (by omega)), fun q => absurd rfl q⟩
      · have f : ptk T n p 40 = false := by
          rcases f with f | f
          · omega
          · exact f
        rw [if_neg (by rw [f]; decide)] at k1 k0
        refine W163_39 c.w (by omega) ⟨fun _ => ?_, fun q => absurd rfl q⟩
        exact cm166 c0 (by omega) h p a C _ c (fun q b h2 e2 c2 => W163_71 c2.w ⟨Or.inr rfl, k1 q b h2 e2 c2⟩) (fun q o2 C2 h2 e2 c2 => W163_71 c2.w ⟨Or.inl rfl, k0 q o2 C2 h2 e2 c2⟩)
theorem cmE (c0 : xM0 h0 T n W) (hd : 24 ≤ d) : xMJ zl nl h0 n q0 W d 161 0 (pE T n 4) :=
  cm161 c0 (by omega) (pT_mo 4) (cm162 c0 (by omega) (pF_mo 4) (cm163 c0 4 _ 0 (by omega) (by omega) (by omega)))
end XML2
