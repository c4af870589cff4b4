/-! THE CLASS: clauses, the whole text -/
def xgc (e : Int × Int × List Int) (g : Int) : Int := if e.1 = 2 then e.2.1 else g
section XCL3
variable {zl : Nat} {nl : Option Nat} {h0 h h' : Hp} {d : Nat} {K : Int → Hp → Prop} {U : Hp → Prop} {T : Nat → Int} {n s p q r m a b k : Nat} {S : List (Int × Int × Int)} {x y z v g w : Int}
theorem yWF_P82 {q : Option Nat} (w : yWF zl nl h) : yWF zl nl (zsetP h 90 4 q) := by
  refine ⟨w.1, fun a k e => ?_, fun a ha => ?_, w.2.2.2.1, w.2.2.2.2⟩
  · rw [zP_set, if_neg (by rintro ⟨rfl, rfl⟩; cases e)]; exact w.2.1 a k e
  · rw [zP_set, if_neg (by unfold yHs at ha; omega)]; exact w.2.2.1 a ha
theorem yWF_P37 (w : yWF zl nl h) (hs : ySh s) : yWF zl nl (zsetP h 33 12 (some s)) := by
  refine ⟨w.1, fun a k e => ?_, fun a ha => ?_, w.2.2.2.1, w.2.2.2.2⟩
  · rw [zP_set, if_neg (by rintro ⟨rfl, rfl⟩; cases e)]; exact w.2.1 a k e
  · rw [zP_set]
    by_cases q : a = 33 ∧ 12 = 12
    · rw [if_pos q]; exact ⟨s, rfl, hs⟩
    · rw [if_neg q]; exact w.2.2.1 a ha
theorem xCP.gro (c : xCP zl nl h0 n s h p a S g) (hs : ySh s) (hv : 0 ≤ v ∧ v ≤ 99) : xCP zl nl h0 n s (zsetV h s 4 v) p a S v := by
  have e := ySh_82 hs
  obtain ⟨c1, c2, c3, c4, c5, c6, c7, c8, c9, c10⟩ := c
  have u : ∀ b k, ¬ (b = s ∧ k = 4) → zV (zsetV h s 4 v) b k = zV h b k := fun b k hb => by rw [zV_V, if_neg hb]
  refine ⟨yWFV c1, c2.trans (Fr.set (Or.inr (Or.inl ⟨rfl, Or.inr rfl⟩))), c3, by rw [u _ _ (by omega)]; exact c4, c5, c6, by rw [u _ _ (by omega)]; exact c7, by rw [zV_V, if_pos ⟨rfl, rfl⟩], hv, fun i t ht => ?_⟩
  rw [u _ _ (by omega), u _ _ (by omega), u _ _ (by omega)]
  exact c10 i t ht
theorem cq64 (c0 : xC0 h0 T n s) (hd : 19 ≤ d) (hx : (x = 1 ∧ w = 0) ∨ (x = -1 ∧ w = 1)) (c : xCP zl nl h0 n s h p a S g) (k1 : ∀ q e h', pbend T n w p = (q, some e) → xCP zl nl h0 n s h' q a (S ++ xst1 e) (xgc e g) → K 1 h') (k0 : ∀ q S' h', pbend T n w p = (q, none) → xCP zl nl h0 n s h' q a S' g → K 0 h') : yI d 64 [vR (some 90), vI x] h K := by
  refine E64 c.w (by omega) (cq65 c0 c (by omega) (fun q v h2 e2 c2 v2 => ?_) (fun e2 => ?_))
  · have rv := pnum_r e2
    refine W64_4 c2.w (by omega) ⟨fun _ => ?_, fun q => absurd (by decide) q⟩
    have eN : ∀ f, pbend T n w p = f ↔ (if ptk T n q 32 = true then (match pE T n 4 (q + 1) with
      | (u, none) => (u, none)
      | (u, some b) => (u, some (w, v, b))) else (q, none)) = f := fun f => by unfold pbend; rw [e2]; try exact Iff.rfl
    have e0 : zw (x * zV h2 90 3) = if w = 0 then v else -v := by
      rw [v2]
      rcases hx with ⟨rfl, rfl⟩ | ⟨rfl, rfl⟩
      · rw [if_pos rfl, zwi (by omega)]; omega
      · rw [if_neg (by decide), zwi (by omega)]; omega
    rw [e0]
    refine cq63 c0 c2 (by omega) (by decide) (fun e3 h3 c3 => ?_) (fun e3 => ?_)
    · refine W64_22 c3.w (by omega) ⟨fun q => absurd q (by decide), fun _ => cqE c0 (by omega) h3 _ _ S g _ c3 (fun u b h4 e4 c4 => ?_) (fun u S4 h4 e4 c4 => ?_)⟩
      · refine W64_30 c4.w (by omega) ⟨fun _ => ⟨s, c4.2.2.1, c0.1, cq70 c0 (c4.le (b := a + 1) (by omega)) (by decide) fun h5 c5 => W64_46 c5.w (k1 u (w, v, b) h5 ((eN _).2 ?_) ?_)⟩, fun q => absurd (by decide) q⟩
        · rw [if_pos e3, e4]
        · have t : xst1 (w, v, b) = b.map xcs ++ [(7, 0, if w = 0 then v else -v)] := by
            unfold xst1
            rw [if_pos (by show w < 2; omega)]
          have t2 : xgc (w, v, b) g = g := by
            unfold xgc
            rw [if_neg (by show ¬ w = 2; omega)]
          rw [t, t2, ← List.append_assoc]
          exact c5
      · exact W64_30 c4.w (by omega) ⟨fun q => absurd rfl q, fun _ => k0 u S4 h4 ((eN _).2 (by rw [if_pos e3, e4])) (c4.le (by omega))⟩
    · exact W64_22 c2.w (by omega) ⟨fun _ => k0 q S h2 ((eN _).2 (if_neg (by rw [e3]; decide))) (c2.le (by omega)), fun q => absurd rfl q⟩
  · exact W64_4 c.w (by omega) ⟨fun q => absurd rfl q, fun _ => k0 p S h (by unfold pbend; rw [e2]) c⟩
theorem cq74 (c0 : xC0 h0 T n s) (hd : 3 ≤ d) (c : xCP zl nl h0 n s h p a S g) (k1 : ∀ q e h', pgro T n p = (q, some e) → xCP zl nl h0 n s h' q a (S ++ xst1 e) (xgc e g) → K 1 h') (k0 : ∀ q S' h', pgro T n p = (q, none) → xCP zl nl h0 n s h' q a S' g → K 0 h') : yI d 74 [vR (some 90)] h K := by
  refine E74 c.w (by omega) (cq65 c0 c (by omega) (fun q v h2 e2 c2 v2 => ?_) (fun e2 => ?_))
  · have rv := pnum_r e2
    refine W74_4 c2.w ⟨fun _ => ⟨s, c2.2.2.1, c0.1, ?_⟩, fun q => absurd (by decide) q⟩
    rw [v2]
    refine k1 q (2, v, []) _ (by unfold pgro; rw [e2]) ?_
    show xCP zl nl h0 n s _ q a (S ++ []) v
    rw [List.append_nil]
    exact (c2.gro c0.1 (by omega)).le (by omega)
  · exact W74_4 c.w ⟨fun q => absurd rfl q, fun _ => k0 p S h (by unfold pgro; rw [e2]) c⟩
theorem cq49 (c0 : xC0 h0 T n s) (hd : 20 ≤ d) (bb : yB h0) (c : xCP zl nl h0 n s h p a S g) (k1 : ∀ q e h', pcla T n p = (q, some e) → xCP zl nl h0 n s h' q a (S ++ xst1 e) (xgc e g) → K 1 h') (k0 : ∀ q S' h', pcla T n p = (q, none) → xCP zl nl h0 n s h' q a S' g → K 0 h') : yI d 49 [vR (some 90)] h K := by
  have hn := c0.2.2.1
  have hl := c.len c0
  have hk := c.pk c0
  refine E49 c.w (by omega) ?_
  rw [hk]
  refine ⟨by omega, fun e => ?_, fun e => ?_, fun e => ?_, fun e => ?_⟩
  · have eN : ∀ f, pcla T n p = f ↔ (match pwrd T n [102, 108, 97, 116, 32] p with
      | (q, false) => (q, none)
      | (q, true) => pbend T n 1 q) = f := fun f => by unfold pcla; rw [if_neg (by omega), if_pos e]; try exact Iff.rfl
    refine cq51 c0 (by omega) bb (ws := [102, 108, 97, 116, 32]) (by unfold yStr; decide) rfl c (fun q h2 e2 c2 => ?_) (fun q h2 e2 c2 => ?_)
    · refine W49_69 c2.w (by omega) ⟨fun q => absurd q (by decide), fun _ => cq64 c0 (by omega) (Or.inr ⟨rfl, rfl⟩) c2 (fun r t h3 e3 c3 => ?_) (fun r S3 h3 e3 c3 => ?_)⟩
      · exact W49_77 c3.w ⟨fun q => absurd q (by decide), fun _ => k1 r t h3 ((eN _).2 (by rw [e2]; exact e3)) c3⟩
      · exact W49_77 c3.w ⟨fun _ => k0 r S3 h3 ((eN _).2 (by rw [e2]; exact e3)) c3, fun q => absurd rfl q⟩
    · exact W49_69 c2.w (by omega) ⟨fun _ => k0 q S h2 ((eN _).2 (by rw [e2])) c2, fun q => absurd rfl q⟩
  · have eN : ∀ f, pcla T n p = f ↔ (match pwrd T n [103, 114, 111, 119, 32] p with
      | (q, false) => (q, none)
      | (q, true) => pgro T n q) = f := fun f => by unfold pcla; rw [if_neg (by omega), if_neg (by omega), if_pos e]; try exact Iff.rfl
    refine cq51 c0 (by omega) bb (ws := [103, 114, 111, 119, 32]) (by unfold yStr; decide) rfl c (fun q h2 e2 c2 => ?_) (fun q h2 e2 c2 => ?_)
    · refine W49_92 c2.w (by omega) ⟨fun q => absurd q (by decide), fun _ => cq74 c0 (by omega) c2 (fun r t h3 e3 c3 => ?_) (fun r S3 h3 e3 c3 => ?_)⟩
      · exact W49_99 c3.w ⟨fun q => absurd q (by decide), fun _ => k1 r t h3 ((eN _).2 (by rw [e2]; exact e3)) c3⟩
      · exact W49_99 c3.w ⟨fun _ => k0 r S3 h3 ((eN _).2 (by rw [e2]; exact e3)) c3, fun q => absurd rfl q⟩
    · exact W49_92 c2.w (by omega) ⟨fun _ => k0 q S h2 ((eN _).2 (by rw [e2])) c2, fun q => absurd rfl q⟩
  · have eN : ∀ f, pcla T n p = f ↔ (match pwrd T n [115, 104, 97, 114, 112, 32] p with
      | (q, false) => (q, none)
      | (q, true) => pbend T n 0 q) = f := fun f => by unfold pcla; rw [if_pos e]; try exact Iff.rfl
    refine cq51 c0 (by omega) bb (ws := [115, 104, 97, 114, 112, 32]) (by unfold yStr; decide) rfl c (fun q h2 e2 c2 => ?_) (fun q h2 e2 c2 => ?_)
    · refine W49_46 c2.w (by omega) ⟨fun q => absurd q (by decide), fun _ => cq64 c0 (by omega) (Or.inl ⟨rfl, rfl⟩) c2 (fun r t h3 e3 c3 => ?_) (fun r S3 h3 e3 c3 => ?_)⟩
      · exact W49_54 c3.w ⟨fun q => absurd q (by decide), fun _ => k1 r t h3 ((eN _).2 (by rw [e2]; exact e3)) c3⟩
      · exact W49_54 c3.w ⟨fun _ => k0 r S3 h3 ((eN _).2 (by rw [e2]; exact e3)) c3, fun q => absurd rfl q⟩
    · exact W49_46 c2.w (by omega) ⟨fun _ => k0 q S h2 ((eN _).2 (by rw [e2])) c2, fun q => absurd rfl q⟩
  · exact k0 p S h (by unfold pcla; rw [if_neg (by omega), if_neg (by omega), if_neg (by omega)]) c
/-- the end of the reading -/
theorem cq47_end0 (c0 : xC0 h0 T n s) (c : xCP zl nl h0 n s h p a S g) (hd : 1 ≤ d) {l : Int} (k : K (p : Int) (zsetV h 90 1 0)) : ZW d prog_8_method_4_code 6 21 [some (vR (some 90)), some (vR (some s)), some (vI 0), some (vI l)] [] h (yq 1 (yqI K)) := by
  have e : K (zV h 90 2) (zsetV h 90 1 0) := by rw [c.pl]; exact k
  exact W47_21 c.w c0.1 hd ⟨fun _ => ⟨fun _ => e, fun q => absurd rfl q⟩, fun _ => ⟨fun _ => ⟨fun _ => e, fun q => absurd rfl q⟩, fun q => absurd rfl q⟩⟩
theorem cq47_loop (c0 : xC0 h0 T n s) (hd : 21 ≤ d) (bb : yB h0) : ∀ (m : Nat) (h : Hp) (p : Nat) (S : List (Int × Int × Int)) (g : Int), m ≤ 9 → xCP zl nl h0 n s h p 0 S g → (∀ l h', pmore T n m p = (n, some l) → xCP zl nl h0 n s h' n 0 (S ++ xst l) (l.foldl (fun g e => xgc e g) g) → K (-1) (zsetV h' 90 1 0)) → (∀ q S' g' h', pmore T n m p = (q, none) → xCP zl nl h0 n s h' q 0 S' g' → K (q : Int) (zsetV h' 90 1 0)) → ZW d prog_8_method_4_code 6 21 [some (vR (some 90)), some (vR (some s)), some (vI 1), some (vI (10 - (m : Int)))] [] h (yq 1 (yqI K))
  | 0, h, p, S, g, hm, c, k1, k0 => by
    have hl := c.len c0
    have hp := c.pl
    refine W47_21 c.w c0.1 (by omega) ⟨fun _ => ⟨fun q => absurd q (by decide), fun _ => ⟨fun q => ?_, fun q => ?_⟩⟩, fun q => absurd (by omega) q⟩
    · rw [hp]
      exact k0 p S g h (if_neg (by omega)) c
    · have e : p = n := by omega
      subst e
      refine k1 [] h (if_pos rfl) ?_
      show xCP zl nl h0 p s h p 0 (S ++ []) g
      rw [List.append_nil]
      exact c
  | m + 1, h, p, S, g, hm, c, k1, k0 => by
    have hl := c.len c0
    have hp := c.pl
    refine W47_21 c.w c0.1 (by omega) ⟨fun q => by omega, fun _ => ⟨fun q => absurd q (by decide), fun _ => cq63 c0 c (by omega) (by decide) (fun e h2 c2 => ?_) (fun e => ?_)⟩⟩
    · have hpn : ¬ p = n := by
        unfold ptk at e
        have := of_decide_eq_true e
        omega
      have eN : ∀ f, pmore T n (m + 1) p = f ↔ (match pcla T n (p + 1) with
        | (r, none) => (r, none)
        | (r, some e) => match pmore T n m r with
          | (u, none) => (u, none)
          | (u, some l) => (u, some (e :: l))) = f := fun f => by
        show (if p = n then _ else if ptk T n p 59 = true then _ else _) = f ↔ _
        rw [if_neg hpn, if_pos e]; try exact Iff.rfl
      refine W47_37 c2.w c0.1 (by omega) ⟨fun q => absurd q (by decide), fun _ => cq49 c0 (by omega) bb (c2.le (Nat.zero_le _)) (fun q t h3 e3 c3 => ?_) (fun q S3 h3 e3 c3 => ?_)⟩
      · refine W47_44 c3.w c0.1 ?_
        rw [zwi (by omega), show (10 : Int) - ((m + 1 : Nat) : Int) + 1 = 10 - (m : Int) by omega]
        refine cq47_loop c0 hd bb m h3 q _ _ (by omega) c3 (fun l h4 e4 c4 => ?_) (fun u S4 g4 h4 e4 c4 => ?_)
        · refine k1 (t :: l) h4 ((eN _).2 (by rw [e3]; show (match pmore T n m q with
            | (u, none) => (u, none)
            | (u, some l) => (u, some (t :: l))) = _; rw [e4])) ?_
          rw [List.append_assoc] at c4
          exact c4
        · exact k0 u S4 g4 h4 ((eN _).2 (by rw [e3]; show (match pmore T n m q with
            | (u, none) => (u, none)
            | (u, some l) => (u, some (t :: l))) = _; rw [e4])) c4
      · refine W47_44 c3.w c0.1 (cq47_end0 c0 c3 (by omega) (k0 q S3 g h3 ((eN _).2 (by rw [e3])) c3))
    · refine W47_37 c.w c0.1 (by omega) ⟨fun _ => ⟨fun q => absurd q (by decide), fun _ => ⟨fun q => ?_, fun q => ?_⟩⟩, fun q => absurd rfl q⟩
      · rw [hp]
        refine k0 p S g h ?_ c
        show (if p = n then _ else if ptk T n p 59 = true then _ else _) = _
        rw [if_neg (by omega), if_neg (by rw [e]; decide)]
      · have e : p = n := by omega
        subst e
        refine k1 [] h (if_pos rfl) ?_
        show xCP zl nl h0 p s h p 0 (S ++ []) g
        rw [List.append_nil]
        exact c
theorem xgrow_g (l : Cls) : l.foldl (fun g e => xgc e g) 0 = xgrow l := rfl
/-- parseInto -/
theorem cq47 (w : yWF zl nl h) (c0 : xC0 h T n s) (hd : 22 ≤ d) (bb : yB h) (k1 : ∀ l h', pall T n = (n, some l) → xCP zl nl h n s h' n 0 (xst l) (xgrow l) → K (-1) (zsetV h' 90 1 0)) (k0 : ∀ q S' g' h', pall T n = (q, none) → xCP zl nl h n s h' q 0 S' g' → K (q : Int) (zsetV h' 90 1 0)) : yI d 47 [vR (some 90), vR (some s)] h K := by
  have e82 := ySh_82 c0.1
  refine E47 w c0.1 (by omega) fun h1 e1 => ⟨yWF_P82 (by rw [← e1]; exact yWFV (yWFV w)), fun h2 e2 => ?_⟩
  have c : xCP zl nl h n s h2 0 0 [] 0 := by
    rw [← e2, ← e1]
    have u : ∀ b k, ¬ (b = 90 ∧ k = 2) → zV (zsetV (zsetP (zsetV (zsetV h s 3 0) s 4 0) 90 4 (some s)) 90 2 0) b k = if b = s ∧ k = 4 then 0 else if b = s ∧ k = 3 then 0 else zV h b k := fun b k q => by rw [zV_V, if_neg q, zV_P, zV_V, zV_V]
    refine ⟨yWFV (yWF_P82 (yWFV (yWFV w))), ⟨rfl, rfl, rfl, rfl, fun b k _ q => ?_, fun b k q => ?_⟩, ?_, ?_, Nat.zero_le _, Nat.le_refl _, ?_, ?_, by decide, fun i t ht => by cases ht⟩
    · show zP (zsetP _ 90 4 _) b k = _
      rw [zP_set, if_neg q]
      rfl
    · unfold xCm at q
      rw [u _ _ (by omega), if_neg (by omega), if_neg (by omega)]
    · show zP (zsetP _ 90 4 _) 90 4 = _
      rw [zP_set, if_pos ⟨rfl, rfl⟩]
    · rw [zV_V, if_pos ⟨rfl, rfl⟩]; rfl
    · rw [u _ _ (by omega), if_neg (by omega), if_pos ⟨rfl, rfl⟩]; rfl
    · rw [u _ _ (by omega), if_pos ⟨rfl, rfl⟩]
  refine cq49 c0 (by omega) bb c (fun q t h3 e3 c3 => ?_) (fun q S3 h3 e3 c3 => ?_)
  · refine W47_18 c3.w c0.1 ?_
    refine cq47_loop c0 (by omega) bb 9 h3 q _ _ (by omega) c3 (fun l h4 e4 c4 => ?_) (fun u S4 g4 h4 e4 c4 => ?_)
    · exact k1 (t :: l) h4 (by unfold pall; rw [e3]; show (match pmore T n 9 q with
        | (u, none) => (u, none)
        | (u, some l) => (u, some (t :: l))) = _; rw [e4]) c4
    · exact k0 u S4 g4 h4 (by unfold pall; rw [e3]; show (match pmore T n 9 q with
        | (u, none) => (u, none)
        | (u, some l) => (u, some (t :: l))) = _; rw [e4]) c4
  · exact W47_18 c3.w c0.1 (cq47_end0 c0 c3 (by omega) (k0 q S3 0 h3 (by unfold pall; rw [e3]) c3))
end XCL3
