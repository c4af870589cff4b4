section XML4
variable {zl : Nat} {nl : Option Nat} {h0 h h' h2 h5 : Hp} {d : Nat} {K : Int → Hp → Prop} {U : Hp → Prop} {T : Nat → Int} {n q0 W p q r m a k b i sh Q u : Nat} {o : Int} {C : List Int} {P : Nat → PR} {x y z v g w : Int} {cl : Cls}
/-- behind the word and the number -/
theorem cm156n (c0 : xM0 h T n W) (hd : 26 ≤ d) (c : xMT zl nl h0 n sh W h p a cl) (hQ : zV h 137 23 = (Q : Int)) (hc : cl.length < 10) (hs : sh < 6) (hw : w = 0 ∨ w = 1 ∨ w = 2) (c2 : xMP zl nl h n Q W h2 q (a + 1) o []) (v2 : zV h2 137 12 = v) (hv : 0 ≤ v ∧ v ≤ 99) (l3 : Int)
    (k1 : ∀ u C h', (w = 2 → u = q ∧ C = []) → (w < 2 → ptk T n q 32 = true ∧ pE T n 4 (q + 1) = (u, some C)) → xMT zl nl h0 n sh W h' u a (cl ++ [(w, v, C)]) → K 1 h')
    (k0 : ∀ u h', (w < 2 ∧ ((ptk T n q 32 = false ∧ u = q) ∨ (ptk T n q 32 = true ∧ pE T n 4 (q + 1) = (u, none)))) → xMF zl nl h0 n sh W h' u → K 0 h') :
    ZW d prog_10_method_22_code 8 124 [some (vR (some 137)), some (vI ((10 * sh + cl.length : Nat) : Int)), some (vI w), some (vI l3)] [vI 1] h2 (yq 2 (yqI K)) := by
  have hco : zV h2 137 23 = (Q : Int) := by rw [c2.co]; rfl
  have hsl : Q + 0 + (a + 1) ≤ W + q := c2.sl
  have hW := c0.2.2.2.1
  have hn := c0.2.1
  have hqn := c2.pn
  obtain ⟨I, hI⟩ : ∃ I, 10 * sh + cl.length = I := ⟨_, rfl⟩
  rw [hI]
  have tI : ((I : Nat) : Int).toNat = I := by omega
  refine W156_124 c2.w (by omega) ⟨fun _ => ⟨by omega, by omega, fun h3 e3 => ⟨by omega, fun h4 e4 => ?_⟩⟩, fun q => absurd (by decide) q⟩
  rw [tI] at e3 e4
  have v3 : zV (zsetV h2 146 I w) 137 12 = v := by rw [zV_V, if_neg (by omega)]; exact v2
  rw [v3] at e3
  have q3 : zV h3 137 23 = (Q : Int) := by rw [← e3, zV_V, if_neg (by omega), zV_V, if_neg (by omega)]; exact hco
  rw [q3] at e4
  have hv4 : ∀ b k, zV h4 b k = if b = 137 ∧ k = 14 then 0 else if b = 148 ∧ k = I then (Q : Int) else if b = 147 ∧ k = I then v else if b = 146 ∧ k = I then w else zV h2 b k := fun b k => by rw [← e4, zV_V, zV_V, ← e3, zV_V, zV_V]
  have w4 : yWF zl nl h4 := by rw [← e4, ← e3]; exact yWFV (yWFV (yWFV (yWFV c2.w)))
  have f4 : Fr (xMc Q I) h h4 := by
    refine (c2.2.1.mono fun b k q => Or.inl q).trans ?_
    have g3 : Fr (xMc Q I) h2 h3 := by rw [← e3]; exact (Fr.set (Or.inr ⟨by decide, by decide, rfl⟩)).trans (Fr.set (Or.inr ⟨by decide, by decide, rfl⟩))
    have g4 : Fr (xMc Q I) h3 h4 := by rw [← e4]; exact (Fr.set (Or.inr ⟨by decide, by decide, rfl⟩)).trans (Fr.set (Or.inl (Or.inl ⟨rfl, Or.inr (Or.inr (Or.inr (Or.inl rfl)))⟩)))
    exact g3.trans g4
  have q4 : zV h4 137 23 = (Q : Int) := by rw [hv4, if_neg (by omega), if_neg (by omega), if_neg (by omega), if_neg (by omega)]; exact hco
  have b4 : zV h4 148 I = (Q : Int) := by rw [hv4, if_neg (by omega), if_pos ⟨rfl, rfl⟩]
  have n4 : zV h4 147 I = v := by rw [hv4, if_neg (by omega), if_neg (by omega), if_pos ⟨rfl, rfl⟩]
  have o4 : zV h4 146 I = w := by rw [hv4, if_neg (by omega), if_neg (by omega), if_neg (by omega), if_pos ⟨rfl, rfl⟩]
  have p4 : zV h4 137 11 = (q : Int) := by rw [hv4, if_neg (by omega), if_neg (by omega), if_neg (by omega), if_neg (by omega)]; exact c2.pl
  have s4 : zV h4 137 14 = 0 := by rw [hv4, if_pos ⟨rfl, rfl⟩]
  clear e4 hv4 e3 v3 q3
  refine ⟨fun hw2 => ⟨by omega, by omega, ?_⟩, fun hw2 => ?_⟩
  · rw [tI, q4, b4, Int.sub_self, zwi (by decide)]
    have hw2 : w = 2 := by omega
    refine k1 q [] _ (fun _ => ⟨rfl, rfl⟩) (fun q => by omega) ?_
    have u5 : ∀ b k, ¬ (b = 149 ∧ k = I) → zV (zsetV h4 149 I 0) b k = zV h4 b k := fun b k q => by rw [zV_V, if_neg q]
    refine cmfin c hQ hc (yWFV w4) ?_ (by rw [hI, u5 _ _ (by omega)]; exact o4) (by rw [hI, u5 _ _ (by omega)]; exact n4) (by rw [hI, u5 _ _ (by omega)]; exact b4) (by rw [hI, zV_V, if_pos ⟨rfl, rfl⟩]; rfl) (fun t c ht => by cases ht) (by rw [u5 _ _ (by omega)]; exact p4) hqn (by rw [u5 _ _ (by omega)]; exact q4) (by show Q + 0 + a ≤ W + q; omega)
    rw [hI]
    exact f4.trans (Fr.set (Or.inr ⟨by decide, by decide, rfl⟩))
  · have hw2 : w < 2 := by omega
    have m4 : xM0 h4 T n W := by
      refine ⟨by rw [f4.V 137 9 (by unfold xMc xMe; omega)]; exact c0.1, c0.2.1, fun k hk => by rw [f4.V 144 k (by unfold xMc xMe; omega)]; exact c0.2.2.1 k hk, hW, f4.B c0.2.2.2.2 (fun b k q => by unfold xMc xMe; omega)⟩
    have c4 : xMP zl nl h4 n Q W h4 q (a + 1) 0 [] := ⟨w4, Fr.rfl', p4, hqn, hsl, s4, q4, fun t c ht => by cases ht⟩
    have fl : ∀ {h5 : Hp} {u b : Nat} {o : Int} {C : List Int}, xMP zl nl h4 n Q W h5 u b o C → xMF zl nl h0 n sh W h5 u := fun c5 => by
      obtain ⟨d1, d2, d3, d4, d5, Q', d6, d7, d8, d9⟩ := c
      refine ⟨c5.w, d2.trans ((f4.mono fun b k q => ?_).trans (c5.2.1.mono fun b k q => ?_)), c5.pl, c5.pn⟩
      · unfold xMc xMe at q
        unfold xMm
        omega
      · unfold xMe at q
        unfold xMm
        omega
    refine cm158 m4 c4 (fun t h5 c5 => ?_) (fun t => ?_)
    · refine W156_172 c5.w (by omega) ⟨fun q => absurd q (by decide), fun _ => cmE m4 (by omega) h5 _ _ [] _ c5 (fun u C h6 e6 c6 => ?_) (fun u o6 C6 h6 e6 c6 => ?_)⟩
      · rw [List.nil_append] at c6
        have q6 := c6.co
        have b6 : zV h6 148 I = (Q : Int) := by rw [c6.2.1.V 148 I (by unfold xMe; omega)]; exact b4
        have hs6 := c6.sl
        have hn6 := c6.pn
        refine W156_179 c6.w ⟨fun _ => ⟨by omega, by omega, ?_⟩, fun q => absurd (by decide) q⟩
        rw [tI, q6, b6, show (((Q + C.length : Nat) : Int) - (Q : Int)) = (C.length : Int) by omega, zwi (by omega)]
        refine k1 u C _ (fun q => by omega) (fun _ => ⟨t, e6⟩) ?_
        have u5 : ∀ b k, ¬ (b = 149 ∧ k = I) → zV (zsetV h6 149 I (C.length : Int)) b k = zV h6 b k := fun b k q => by rw [zV_V, if_neg q]
        refine cmfin c hQ hc (yWFV c6.w) ?_ (by rw [hI, u5 _ _ (by omega), c6.2.1.V 146 I (by unfold xMe; omega)]; exact o4) (by rw [hI, u5 _ _ (by omega), c6.2.1.V 147 I (by unfold xMe; omega)]; exact n4) (by rw [hI, u5 _ _ (by omega)]; exact b6) (by rw [hI, zV_V, if_pos ⟨rfl, rfl⟩]) (fun t c ht => by rw [u5 _ _ (by omega)]; exact c6.2.2.2.2.2.2.2 t c ht) (by rw [u5 _ _ (by omega)]; exact c6.pl) c6.pn (by rw [u5 _ _ (by omega)]; exact q6) (by omega)
        rw [hI]
        exact (f4.trans (c6.2.1.mono fun b k q => Or.inl q)).trans (Fr.set (Or.inr ⟨by decide, by decide, rfl⟩))
      · exact W156_179 c6.w ⟨fun q => absurd rfl q, fun _ => k0 u h6 ⟨hw2, Or.inr ⟨t, e6⟩⟩ (fl c6)⟩
    · exact W156_172 w4 (by omega) ⟨fun _ => k0 q h4 ⟨hw2, Or.inl ⟨t, rfl⟩⟩ (fl c4), fun q => absurd rfl q⟩
theorem cm156 (c00 : xM0 h0 T n W) (hd : 27 ≤ d) (c : xMT zl nl h0 n sh W h p a cl) (hc : cl.length < 10) (hs : sh < 6)
    (k1 : ∀ q e h', pcla T n p = (q, some e) → xMT zl nl h0 n sh W h' q a (cl ++ [e]) → K 1 h')
    (k0 : ∀ q h', pcla T n p = (q, none) → xMF zl nl h0 n sh W h' q → K 0 h') : yI d 156 [vR (some 137), vI ((10 * sh + cl.length : Nat) : Int)] h K := by
  obtain ⟨d1, d2, d3, d4, d5, Q, d6, d7, d8, d9⟩ := id c
  have hn := c00.2.1
  have c0 : xM0 h T n W := ⟨by rw [d2.V 137 9 (by unfold xMm; omega)]; exact c00.1, c00.2.1, fun k hk => by rw [d2.V 144 k (by unfold xMm; omega)]; exact c00.2.2.1 k hk, c00.2.2.2.1, d2.B c00.2.2.2.2 (fun b k q => by unfold xMm; omega)⟩
  have c1 : xMP zl nl h n Q W h p a (zV h 137 14) [] := ⟨d1, Fr.rfl', d3, d4, d8, rfl, d6, fun t c ht => by cases ht⟩
  have hl := c1.len c0
  have nk : ¬ (ppk T n p = 115) → ¬ (ppk T n p = 102) → ¬ (ppk T n p = 103) → K 0 h := fun q1 q2 q3 => k0 p h (by unfold pcla; rw [if_neg q1, if_neg q2, if_neg q3]) (c.fail d6 c1)
  refine E156 d1 (by omega) ⟨fun e => ?_, fun e => ?_⟩
  · have ek : ppk T n p = -1 := ppk_ge (by omega)
    exact ⟨fun _ => ⟨fun _ => nk (by omega) (by omega) (by omega), fun q => absurd (by decide) q⟩, fun q => absurd (by decide) q⟩
  · have t := c1.tx c0 (by omega)
    have ek : ppk T n p = T p := ppk_lt (by omega)
    have nb : ∀ (w : Int) (l3 : Int) (q : Nat) (h2 : Hp), (w = 0 ∨ w = 1) → (∀ f, pbend T n w q = f → pcla T n p = f) → xMP zl nl h n Q W h2 q a (zV h 137 14) [] → yI (d - 1) 159 [vR (some 137)] h2 (fun x h' => ZW d prog_10_method_22_code 8 124 [some (vR (some 137)), some (vI ((10 * sh + cl.length : Nat) : Int)), some (vI w), some (vI l3)] [vI x] h' (yq 2 (yqI K))) := by
      intro w l3 q h2 hw ef c2
      refine cm159 c0 (by omega) c2 (fun r v h3 e3 c3 v3 => ?_) (fun h3 e3 c3 => ?_)
      · have rv := pnum_r e3
        refine cm156n c0 (by omega) c d6 hc hs (by omega) c3 v3 (by omega) l3 (fun u C h4 q1 q2 c4 => ?_) (fun u h4 q1 c4 => ?_)
        · obtain ⟨q3, q4⟩ := q2 (by omega)
          refine k1 u (w, v, C) h4 (ef _ ?_) c4
          unfold pbend
          rw [e3]
          show (if ptk T n r 32 = true then _ else _) = _
          rw [if_pos q3, q4]
        · refine k0 u h4 (ef _ ?_) c4
          unfold pbend
          rw [e3]
          show (if ptk T n r 32 = true then _ else _) = _
          rcases q1.2 with ⟨q3, rfl⟩ | ⟨q3, q4⟩
          · rw [if_neg (by rw [q3]; decide)]
          · rw [if_pos q3, q4]
      · exact W156_124 c3.w (by omega) ⟨fun q => absurd rfl q, fun _ => k0 q h3 (ef _ (by unfold pbend; rw [e3])) (c.fail d6 c3)⟩
    rw [d3, t.1]
    refine ⟨by omega, fun n1 => ⟨by omega, fun n2 => ⟨by omega, fun n3 => ?_, fun n3 => ?_⟩, fun n2 => ?_⟩, fun n1 => ?_⟩
    · exact ⟨fun _ => ⟨fun _ => nk (by omega) (by omega) (by omega), fun q => absurd (by decide) q⟩, fun q => absurd (by decide) q⟩
    · have n3 : T p = 103 := Classical.byContradiction n3
      refine ⟨fun _ => ⟨fun q => absurd rfl q, fun _ => ?_⟩, fun q => absurd (by decide) q⟩
      have eN : ∀ f, (match pwrd T n [103, 114, 111, 119, 32] p with
        | (q, false) => (q, none)
        | (q, true) => pgro T n q) = f → pcla T n p = f := fun f hf => by unfold pcla; rw [if_neg (by omega), if_neg (by omega), if_pos (by omega)]; exact hf
      refine cm157 c0 (by omega) (ws := [103, 114, 111, 119, 32]) (by unfold yStr; decide) rfl c1 (fun q h2 e2 c2 => ?_) (fun q h2 e2 c2 => ?_)
      · refine W156_107 c2.w (by omega) ⟨fun q => absurd q (by decide), fun _ => cm159 c0 (by omega) c2 (fun r v h3 e3 c3 v3 => ?_) (fun h3 e3 c3 => ?_)⟩
        · have rv := pnum_r e3
          refine cm156n c0 (by omega) c d6 hc hs (by omega) c3 v3 (by omega) 1 (fun u C h4 q1 q2 c4 => ?_) (fun u h4 q1 c4 => absurd q1.1 (by decide))
          obtain ⟨rfl, rfl⟩ := q1 rfl
          refine k1 u (2, v, []) h4 (eN _ ?_) c4
          rw [e2]
          show pgro T n q = _
          unfold pgro
          rw [e3]
        · refine W156_124 c3.w (by omega) ⟨fun q => absurd rfl q, fun _ => k0 q h3 (eN _ ?_) (c.fail d6 c3)⟩
          rw [e2]
          show pgro T n q = _
          unfold pgro
          rw [e3]
      · exact W156_107 c2.w (by omega) ⟨fun _ => k0 q h2 (eN _ (by rw [e2])) (c.fail d6 c2), fun q => absurd rfl q⟩
    · have n2 : T p = 102 := Classical.byContradiction n2
      refine ⟨fun q => absurd rfl q, fun _ => ?_⟩
      have eN : ∀ f, (match pwrd T n [102, 108, 97, 116, 32] p with
        | (q, false) => (q, none)
        | (q, true) => pbend T n 1 q) = f → pcla T n p = f := fun f hf => by unfold pcla; rw [if_neg (by omega), if_pos (by omega)]; exact hf
      refine cm157 c0 (by omega) (ws := [102, 108, 97, 116, 32]) (by unfold yStr; decide) rfl c1 (fun q h2 e2 c2 => ?_) (fun q h2 e2 c2 => ?_)
      · exact W156_93 c2.w (by omega) ⟨fun q => absurd q (by decide), fun _ => nb 1 _ q h2 (Or.inr rfl) (fun f hf => eN f (by rw [e2]; exact hf)) c2⟩
      · exact W156_93 c2.w (by omega) ⟨fun _ => k0 q h2 (eN _ (by rw [e2])) (c.fail d6 c2), fun q => absurd rfl q⟩
    · have n1 : T p = 115 := Classical.byContradiction n1
      have eN : ∀ f, (match pwrd T n [115, 104, 97, 114, 112, 32] p with
        | (q, false) => (q, none)
        | (q, true) => pbend T n 0 q) = f → pcla T n p = f := fun f hf => by unfold pcla; rw [if_pos (by omega)]; exact hf
      refine cm157 c0 (by omega) (ws := [115, 104, 97, 114, 112, 32]) (by unfold yStr; decide) rfl c1 (fun q h2 e2 c2 => ?_) (fun q h2 e2 c2 => ?_)
      · exact W156_79 c2.w (by omega) ⟨fun q => absurd q (by decide), fun _ => nb 0 _ q h2 (Or.inl rfl) (fun f hf => eN f (by rw [e2]; exact hf)) c2⟩
      · exact W156_79 c2.w (by omega) ⟨fun _ => k0 q h2 (eN _ (by rw [e2])) (c.fail d6 c2), fun q => absurd rfl q⟩
end XML4
