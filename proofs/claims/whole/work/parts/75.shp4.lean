/-! THE MODEL'S shop, and the pair -/
section XPO
variable {T : Nat → Int} {n p q r m u : Nat} {e : Int × Int × List Int} {l : Cls} {w : Int}
theorem pbend_ok (hw : w = 0 ∨ w = 1) (h : pbend T n w q = (u, some e)) : xOKe e := by
  unfold pbend at h
  split at h
  · cases h
  · rename_i r2 v2 e2
    have rv := pnum_r e2
    split at h
    · split at h
      · cases h
      · rename_i r3 b3 e3
        cases h
        have ok := pE_ok e3
        exact ⟨by show 0 ≤ w; omega, by show w ≤ 2; omega, rv.2.2.1, rv.2.2.2, fun _ => ok.1, ok.2⟩
    · cases h
theorem pgro_ok (h : pgro T n q = (u, some e)) : xOKe e := by
  unfold pgro at h
  split at h
  · cases h
  · rename_i r2 v2 e2
    have rv := pnum_r e2
    cases h
    exact ⟨by show (0 : Int) ≤ 2; decide, by show (2 : Int) ≤ 2; decide, rv.2.2.1, rv.2.2.2, fun q => absurd (show (2 : Int) < 2 from q) (by decide), fun c hc => absurd hc List.not_mem_nil⟩
theorem pcla_ok (h : pcla T n p = (u, some e)) : xOKe e := by
  unfold pcla at h
  split at h
  · split at h
    · cases h
    · exact pbend_ok (Or.inl rfl) h
  · split at h
    · split at h
      · cases h
      · exact pbend_ok (Or.inr rfl) h
    · split at h
      · split at h
        · cases h
        · exact pgro_ok h
      · cases h
theorem pmore_ok : ∀ (m p u : Nat) (l : Cls), pmore T n m p = (u, some l) → ∀ e ∈ l, xOKe e
  | 0, p, u, l, h => by
    have h : (if p = n then (p, some []) else (p, none)) = (u, some l) := h
    split at h
    · cases h; exact fun e he => absurd he List.not_mem_nil
    · cases h
  | m + 1, p, u, l, h => by
    have h : (if p = n then (p, some []) else if ptk T n p 59 = true then (match pcla T n (p + 1) with
      | (r, none) => (r, none)
      | (r, some e) => match pmore T n m r with
        | (u, none) => (u, none)
        | (u, some l) => (u, some (e :: l))) else (p, none)) = (u, some l) := h
    split at h
    · cases h; exact fun e he => absurd he List.not_mem_nil
    · split at h
      · split at h
        · cases h
        · rename_i r2 e2 h2
          split at h
          · cases h
          · rename_i r3 l3 h3
            cases h
            intro e he
            rcases List.mem_cons.1 he with rfl | he
            · exact pcla_ok h2
            · exact pmore_ok m _ _ _ h3 e he
      · cases h
theorem pall_ok (h : pall T n = (u, some l)) : ∀ e ∈ l, xOKe e := by
  unfold pall at h
  split at h
  · cases h
  · rename_i r2 e2 h2
    split at h
    · cases h
    · rename_i r3 l3 h3
      cases h
      intro e he
      rcases List.mem_cons.1 he with rfl | he
      · exact pcla_ok h2
      · exact pmore_ok _ _ _ _ h3 e he
end XPO
def xmS (h : Hp) (sh L : Nat) : Hp := zsetV (zsetV (zsetV (zsetV h 137 9 0) 145 sh (L : Int)) 137 16 (sh : Int)) 137 15 ((sh : Int) + 1)
section XM155
variable {zl : Nat} {nl : Option Nat} {h0 h h' h2 : Hp} {d : Nat} {K : Int → Hp → Prop} {T : Nat → Int} {n W p q r m a k i sh : Nat} {cl : Cls}
theorem cm155f0 (c : xMF zl nl h0 n sh W h q) (hd : 1 ≤ d) (hn : n ≤ 100) {l2 : Int} (k : K (-10 - (q : Int)) (zsetV (zsetV h 137 9 0) 137 23 (W : Int))) : ZW d prog_10_method_23_code 8 29 [some (vR (some 137)), some (vI (W : Int)), some (vI l2), some (vI 0), some (vI 0)] [] h (yq 1 (yqI K)) := by
  obtain ⟨c1, c2, c3, c4⟩ := c
  refine W155_29 c1 hd ⟨fun _ => ⟨fun q => absurd rfl q, fun _ h1 e1 => ?_⟩, fun q => absurd rfl q⟩
  have e11 : zV h1 137 11 = (q : Int) := by rw [← e1, zV_V, if_neg (by decide), zV_V, if_neg (by decide)]; exact c3
  rw [e11, zwi (by omega), ← e1]
  exact k
theorem cm155f1 (c : xMT zl nl h0 n sh W h p a cl) (h15 : zV h0 137 15 = (sh : Int)) (hs : sh < 6) (hd : 1 ≤ d) {l3 : Int} (k : K (sh : Int) (xmS h sh cl.length)) : ZW d prog_10_method_23_code 8 29 [some (vR (some 137)), some (vI (W : Int)), some (vI (cl.length : Int)), some (vI l3), some (vI 1)] [] h (yq 1 (yqI K)) := by
  obtain ⟨c1, c2, c3⟩ := c
  have e15 : zV (zsetV h 137 9 0) 137 15 = (sh : Int) := by rw [zV_V, if_neg (by decide), c2.V 137 15 (by unfold xMm; omega)]; exact h15
  have fin : ((0 ≤ (zV (zsetV h 137 9 0) 137 15) ∧ (zV (zsetV h 137 9 0) 137 15) < 6) ∧ (∀ h_156, (zsetV (zsetV h 137 9 0) 145 ((zV (zsetV h 137 9 0) 137 15)).toNat (cl.length : Int)) = h_156 → (∀ h_175, (zsetV (zsetV h_156 137 16 (zV h_156 137 15)) 137 15 (zw ((zV (zsetV h_156 137 16 (zV h_156 137 15)) 137 15) + 1))) = h_175 → K (zV (zsetV h_156 137 16 (zV h_156 137 15)) 137 15) h_175))) := by
    rw [e15]
    refine ⟨by omega, fun h1 e1 h2 e2 => ?_⟩
    rw [show ((sh : Int)).toNat = sh by omega] at e1
    have e3 : zV h1 137 15 = (sh : Int) := by rw [← e1, zV_V, if_neg (by omega)]; exact e15
    rw [e3] at e2 ⊢
    have e4 : zV (zsetV h1 137 16 (sh : Int)) 137 15 = (sh : Int) := by rw [zV_V, if_neg (by decide)]; exact e3
    rw [e4, zwi (by omega)] at e2
    rw [e4, ← e2, ← e1]
    exact k
  exact W155_29 c1 hd ⟨fun _ => ⟨fun _ => fin, fun q => absurd (by decide) q⟩, fun _ => ⟨fun _ => ⟨fun _ => fin, fun q => absurd (by decide) q⟩, fun q => absurd (by decide) q⟩⟩
theorem cm155_loop (c0 : xM0 h0 T n W) (hd : 29 ≤ d) (h15 : zV h0 137 15 = (sh : Int)) (hs : sh < 6) : ∀ (m : Nat) (h : Hp) (p : Nat) (cl : Cls) (l3 : Int), cl.length + m = 10 → 1 ≤ cl.length → xMT zl nl h0 n sh W h p 0 cl → (∀ l h', pmore T n m p = (n, some l) → xMT zl nl h0 n sh W h' n 0 (cl ++ l) → K (sh : Int) (xmS h' sh (cl ++ l).length)) → (∀ q h', pmore T n m p = (q, none) → xMF zl nl h0 n sh W h' q → K (-10 - (q : Int)) (zsetV (zsetV h' 137 9 0) 137 23 (W : Int))) → ZW d prog_10_method_23_code 8 57 [some (vR (some 137)), some (vI (W : Int)), some (vI ((cl.length : Int) - 1)), some (vI l3), some (vI 0)] [vI 1] h (yq 1 (yqI K)) := by
  intro m
  induction m with
  | zero =>
    intro h p cl l3 hc h1 c k1 k0
    have e9 : zV h 137 9 = (n : Int) := by rw [c.2.1.V 137 9 (by unfold xMm; omega)]; exact c0.1
    have e11 := c.2.2.1
    have hpn := c.2.2.2.1
    refine W155_57 c.1 (by omega) ⟨fun q => absurd q (by decide), fun _ => ?_⟩
    rw [zwi (by omega), show (cl.length : Int) - 1 + 1 = (cl.length : Int) by omega]
    refine ⟨fun q => ⟨fun _ => ?_, fun q => by omega⟩, fun q => ?_⟩
    · exact cm155f0 ⟨c.1, c.2.1, e11, hpn⟩ (by omega) c0.2.1 (k0 p h (if_neg (by omega)) ⟨c.1, c.2.1, e11, hpn⟩)
    · have e : p = n := by omega
      subst e
      refine cm155f1 c h15 hs (by omega) ?_
      have kk := k1 [] h (if_pos rfl)
      rw [List.append_nil] at kk
      exact kk c
  | succ m ih =>
    intro h p cl l3 hc h1 c k1 k0
    have e9 : zV h 137 9 = (n : Int) := by rw [c.2.1.V 137 9 (by unfold xMm; omega)]; exact c0.1
    have e11 := c.2.2.1
    have hpn := c.2.2.2.1
    have hn := c0.2.1
    refine W155_57 c.1 (by omega) ⟨fun q => absurd q (by decide), fun _ => ?_⟩
    rw [zwi (by omega), show (cl.length : Int) - 1 + 1 = (cl.length : Int) by omega]
    refine ⟨fun q => ⟨fun q => by omega, fun _ => ?_⟩, fun q => ?_⟩
    · refine E158 c.1 ⟨fun q2 => absurd q2 q, fun _ => ?_⟩
      have tx : zV h 144 ((p : Int)).toNat = T p := by rw [show ((p : Int)).toNat = p by omega, c.2.1.V 144 p (by unfold xMm; omega)]; exact (c0.2.2.1 p (by omega)).1
      rw [e11, tx]
      refine ⟨by omega, fun f => ?_, fun f => ?_⟩
      · rw [zwi (by omega)]
        have c2 : xMT zl nl h0 n sh W (zsetV h 137 11 ((p : Int) + 1)) (p + 1) 0 cl := by
          obtain ⟨d1, d2, d3, d4, d5, Q, d6, d7, d8, d9⟩ := c
          refine ⟨yWFV d1, d2.trans (Fr.set (Or.inl ⟨rfl, Or.inl rfl⟩)), by rw [zV_V, if_pos ⟨rfl, rfl⟩]; omega, by omega, d5, Q, by rw [zV_V, if_neg (by decide)]; exact d6, d7, by omega, fun i t ht => ?_⟩
          obtain ⟨r1, r2, r3, B, r4, r5, r6⟩ := d9 i t ht
          unfold xMRo
          rw [zV_V, if_neg (by omega), zV_V, if_neg (by omega), zV_V, if_neg (by omega), zV_V, if_neg (by omega)]
          exact ⟨r1, r2, r3, B, r4, r5, fun t c ht => by rw [zV_V, if_neg (by omega)]; exact r6 t c ht⟩
        have eN : ∀ f, (match pcla T n (p + 1) with
          | (r, none) => (r, none)
          | (r, some e) => match pmore T n m r with
            | (u, none) => (u, none)
            | (u, some l) => (u, some (e :: l))) = f → pmore T n (m + 1) p = f := fun f2 hf => by
          show (if p = n then _ else if ptk T n p 59 = true then _ else _) = f2
          rw [if_neg (by omega), if_pos (show ptk T n p 59 = true from decide_eq_true (by omega))]
          exact hf
        generalize zsetV h 137 11 ((p : Int) + 1) = h2 at c2 ⊢
        have e15 : zV h2 137 15 = (sh : Int) := by rw [c2.2.1.V 137 15 (by unfold xMm; omega)]; exact h15
        refine W155_111 c2.1 ⟨fun q => absurd q (by decide), fun _ => W155_29 c2.1 (by omega) ⟨fun q => absurd q (by decide), fun _ => ⟨fun q => absurd rfl q, fun _ => ⟨fun q => by omega, fun _ => ?_⟩⟩⟩⟩
        rw [e15, zwi (x := 10 * (sh : Int)) (by omega), zwi (by omega), show 10 * (sh : Int) + (cl.length : Int) = ((10 * sh + cl.length : Nat) : Int) by omega]
        refine cm156 c0 (by omega) c2 (by omega) hs (fun r e h3 e3 c3 => ?_) (fun r h3 e3 c3 => ?_)
        · have el : ((cl.length : Int)) = ((cl ++ [e]).length : Int) - 1 := by rw [List.length_append]; show _ = ((cl.length + 1 : Nat) : Int) - 1; omega
          rw [el]
          refine ih h3 r (cl ++ [e]) 1 (by rw [List.length_append]; show cl.length + 1 + m = 10; omega) (by rw [List.length_append]; show 1 ≤ cl.length + 1; omega) c3 (fun l h4 e4 c4 => ?_) (fun q h4 e4 c4 => ?_)
          · have kk := k1 (e :: l) h4 (eN _ (by rw [e3]; show (match pmore T n m r with
              | (u, none) => (u, none)
              | (u, some l) => (u, some (e :: l))) = _; rw [e4]))
            rw [show cl ++ e :: l = cl ++ [e] ++ l by rw [List.append_assoc]; rfl] at kk
            exact kk c4
          · exact k0 q h4 (eN _ (by rw [e3]; show (match pmore T n m r with
              | (u, none) => (u, none)
              | (u, some l) => (u, some (e :: l))) = _; rw [e4])) c4
        · exact W155_57 c3.1 (by omega) ⟨fun _ => cm155f0 c3 (by omega) hn (k0 r h3 (eN _ (by rw [e3])) c3), fun q => absurd rfl q⟩
      · refine W155_111 c.1 ⟨fun _ => cm155f0 ⟨c.1, c.2.1, e11, hpn⟩ (by omega) hn (k0 p h ?_ ⟨c.1, c.2.1, e11, hpn⟩), fun q => absurd rfl q⟩
        show (if p = n then _ else if ptk T n p 59 = true then _ else _) = _
        rw [if_neg (by omega), if_neg (fun q => f (of_decide_eq_true q).2)]
    · have e : p = n := by omega
      subst e
      refine cm155f1 c h15 hs (by omega) ?_
      have kk := k1 [] h (if_pos rfl)
      rw [List.append_nil] at kk
      exact kk c
theorem cm155 (w : yWF zl nl h) (c0 : xM0 h T n W) (hd : 29 ≤ d) (h15 : zV h 137 15 = (sh : Int)) (hs : sh < 6) (hW : zV h 137 23 = (W : Int)) (k1 : ∀ l h', pall T n = (n, some l) → xMT zl nl h n sh W h' n 0 l → K (sh : Int) (xmS h' sh l.length)) (k0 : ∀ q h', pall T n = (q, none) → xMF zl nl h n sh W h' q → K (-10 - (q : Int)) (zsetV (zsetV h' 137 9 0) 137 23 (W : Int))) : yI d 155 [vR (some 137)] h K := by
  have hn := c0.2.1
  refine E155 w ⟨fun _ => ?_, fun q => absurd (by omega) q⟩
  have c : xMT zl nl h n sh W (zsetV h 137 11 0) 0 0 [] := ⟨yWFV w, Fr.set (Or.inl ⟨rfl, Or.inl rfl⟩), by rw [zV_V, if_pos ⟨rfl, rfl⟩]; rfl, Nat.zero_le _, Nat.zero_le _, W, by rw [zV_V, if_neg (by decide)]; exact hW, Nat.le_refl _, by omega, fun i t ht => by cases ht⟩
  rw [hW]
  generalize zsetV h 137 11 0 = h2 at c ⊢
  have e15 : zV h2 137 15 = (sh : Int) := by rw [c.2.1.V 137 15 (by unfold xMm; omega)]; exact h15
  refine W155_29 c.1 (by omega) ⟨fun q => absurd q (by decide), fun _ => ⟨fun q => absurd rfl q, fun _ => ⟨fun q => absurd q (by decide), fun _ => ?_⟩⟩⟩
  rw [e15, zwi (x := 10 * (sh : Int)) (by omega), zwi (by omega), show 10 * (sh : Int) + 0 = ((10 * sh + ([] : Cls).length : Nat) : Int) by show _ = ((10 * sh + 0 : Nat) : Int); omega]
  refine cm156 c0 (by omega) c (by decide) hs (fun r e h3 e3 c3 => ?_) (fun r h3 e3 c3 => ?_)
  · refine cm155_loop c0 (by omega) h15 hs 9 h3 r [e] 1 rfl (Nat.le_refl _) c3 (fun l h4 e4 c4 => ?_) (fun q h4 e4 c4 => ?_)
    · exact k1 (e :: l) h4 (by unfold pall; rw [e3]; show (match pmore T n 9 r with
        | (u, none) => (u, none)
        | (u, some l) => (u, some (e :: l))) = _; rw [e4]) c4
    · exact k0 q h4 (by unfold pall; rw [e3]; show (match pmore T n 9 r with
        | (u, none) => (u, none)
        | (u, some l) => (u, some (e :: l))) = _; rw [e4]) c4
  · exact W155_57 c3.1 (by omega) ⟨fun _ => cm155f0 c3 (by omega) hn (k0 r h3 (by unfold pall; rw [e3]) c3), fun q => absurd rfl q⟩
end XM155
