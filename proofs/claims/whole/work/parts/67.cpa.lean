/-! THE CLASS READS A SHOP'S TEXT -/
def xCm (s b k : Nat) : Prop := (b = 90 ∧ (k = 2 ∨ k = 3)) ∨ (b = s ∧ (k = 3 ∨ k = 4)) ∨ b = s + 1 ∨ b = s + 2 ∨ b = s + 3
def xC0 (h0 : Hp) (T : Nat → Int) (n s : Nat) : Prop := ySh s ∧ zV h0 90 1 = (n : Int) ∧ n ≤ 100 ∧ ∀ k, k < 100 → zV h0 91 k = T k
def xCP (zl : Nat) (nl : Option Nat) (h0 : Hp) (n s : Nat) (h : Hp) (p a : Nat) (S : List (Int × Int × Int)) (g : Int) : Prop :=
  yWF zl nl h ∧ Fr (xCm s) h0 h ∧ zP h 90 4 = some s ∧ zV h 90 2 = (p : Int) ∧ p ≤ n ∧ S.length + a ≤ p ∧ zV h s 3 = (S.length : Int) ∧ zV h s 4 = g ∧ (0 ≤ g ∧ g ≤ 99) ∧ ∀ (i : Nat) (e : Int × Int × Int), S[i]? = some e → (0 ≤ e.2.1 ∧ e.2.1 < 6) ∧ zV h (s + 1) i = e.1 ∧ zV h (s + 2) i = e.2.1 ∧ zV h (s + 3) i = e.2.2
def xCJ (zl : Nat) (nl : Option Nat) (h0 : Hp) (n s d z : Nat) (as : List AV) (P : Nat → PR) : Prop := ∀ (h : Hp) (p a : Nat) (S : List (Int × Int × Int)) (g : Int) (K : Int → Hp → Prop), xCP zl nl h0 n s h p a S g → (∀ q b h', P p = (q, some b) → xCP zl nl h0 n s h' q a (S ++ b.map xcs) g → K 1 h') → (∀ q S' h', P p = (q, none) → xCP zl nl h0 n s h' q a S' g → K 0 h') → yI d z as h K
section XCL
variable {zl : Nat} {nl : Option Nat} {h0 h h' : Hp} {d : Nat} {K : Int → Hp → Prop} {U : Hp → Prop} {T : Nat → Int} {n s p q r m a k : Nat} {S : List (Int × Int × Int)} {P : Nat → PR} {x y z v g : Int}
theorem ySh_82 (hs : ySh s) : s + 3 < 90 ∨ 91 < s := by unfold ySh at hs; omega
theorem xCP.w (c : xCP zl nl h0 n s h p a S g) : yWF zl nl h := c.1
theorem xCP.pl (c : xCP zl nl h0 n s h p a S g) : zV h 90 2 = (p : Int) := c.2.2.2.1
theorem xCP.pn (c : xCP zl nl h0 n s h p a S g) : p ≤ n := c.2.2.2.2.1
theorem xCP.sl (c : xCP zl nl h0 n s h p a S g) : S.length + a ≤ p := c.2.2.2.2.2.1
theorem xCP.len (c : xCP zl nl h0 n s h p a S g) (c0 : xC0 h0 T n s) : zV h 90 1 = (n : Int) := by
  have e := ySh_82 c0.1
  rw [c.2.1.V 90 1 (by unfold xCm; omega)]
  exact c0.2.1
theorem xCP.pk (c : xCP zl nl h0 n s h p a S g) (c0 : xC0 h0 T n s) : ypeek h = ppk T n p := by
  have e := ySh_82 c0.1
  unfold ypeek ppk
  rw [c.len c0, c.pl]
  by_cases hp : p < n
  · rw [if_pos (by omega), if_pos hp, show ((p : Int)).toNat = p by omega, c.2.1.V 91 p (by unfold xCm; omega)]
    exact c0.2.2.2 p (by have := c0.2.2.1; omega)
  · rw [if_neg (by omega), if_neg hp]
theorem xCP.two (c : xCP zl nl h0 n s h p a S g) (hs : ySh s) {b : Nat} (hq : q ≤ n) (hl : S.length + b ≤ q) (hy : y = (q : Int)) : xCP zl nl h0 n s (zsetV h 90 2 y) q b S g := by
  have e := ySh_82 hs
  obtain ⟨c1, c2, c3, c4, c5, c6, c7, c8, c9, c10⟩ := c
  have v : ∀ b k, b ≠ 90 → zV (zsetV h 90 2 y) b k = zV h b k := fun b k hb => by rw [zV_V, if_neg (by omega)]
  refine ⟨yWFV c1, c2.trans (Fr.set (Or.inl ⟨rfl, Or.inl rfl⟩)), c3, by rw [zV_V, if_pos ⟨rfl, rfl⟩]; exact hy, hq, hl, by rw [v _ _ (by omega)]; exact c7, by rw [v _ _ (by omega)]; exact c8, c9, fun i t ht => ?_⟩
  rw [v _ _ (by omega), v _ _ (by omega), v _ _ (by omega)]
  exact c10 i t ht
theorem xCP.num (c : xCP zl nl h0 n s h p a S g) (hs : ySh s) (y : Int) : xCP zl nl h0 n s (zsetV h 90 3 y) p a S g := by
  have e := ySh_82 hs
  obtain ⟨c1, c2, c3, c4, c5, c6, c7, c8, c9, c10⟩ := c
  have v : ∀ b k, b ≠ 90 → zV (zsetV h 90 3 y) b k = zV h b k := fun b k hb => by rw [zV_V, if_neg (by omega)]
  refine ⟨yWFV c1, c2.trans (Fr.set (Or.inl ⟨rfl, Or.inr rfl⟩)), c3, by rw [zV_V, if_neg (by decide)]; exact c4, c5, c6, by rw [v _ _ (by omega)]; exact c7, by rw [v _ _ (by omega)]; exact c8, c9, fun i t ht => ?_⟩
  rw [v _ _ (by omega), v _ _ (by omega), v _ _ (by omega)]
  exact c10 i t ht
theorem xCP.le (c : xCP zl nl h0 n s h p a S g) {b : Nat} (hb : b ≤ a) : xCP zl nl h0 n s h p b S g := by
  obtain ⟨c1, c2, c3, c4, c5, c6, c7, c8, c9, c10⟩ := c
  exact ⟨c1, c2, c3, c4, c5, by omega, c7, c8, c9, c10⟩
theorem ptk_pk (hx : 0 ≤ x) : ptk T n p x = true ↔ ppk T n p = x := by
  unfold ptk ppk
  rw [decide_eq_true_iff]
  split <;> omega
theorem pdg_pk : pdg T n p = true ↔ 48 ≤ ppk T n p ∧ ppk T n p ≤ 57 := by
  unfold pdg ppk
  rw [decide_eq_true_iff]
  split <;> omega
theorem pk_T (h : 0 ≤ ppk T n p) : p < n ∧ ppk T n p = T p := by
  unfold ppk at h ⊢
  split
  · rename_i c; exact ⟨c, rfl⟩
  · rename_i c; rw [if_neg c] at h; omega
/-- take -/
theorem cq63 (c0 : xC0 h0 T n s) (c : xCP zl nl h0 n s h p a S g) (hd : 1 ≤ d) (hx : 0 ≤ x) (k1 : ptk T n p x = true → ∀ h', xCP zl nl h0 n s h' (p + 1) (a + 1) S g → K 1 h') (k0 : ptk T n p x = false → K 0 h) : yI d 63 [vR (some 90), vI x] h K := by
  have hn := c0.2.2.1
  have hl := c.len c0
  have hs := c.sl
  have hp := c.pl
  refine E63 c.w hd ⟨by omega, fun e => ?_, fun e => ?_⟩
  · rw [c.pk c0] at e
    have t := pk_T (T := T) (n := n) (p := p) (by omega)
    exact k1 ((ptk_pk hx).2 e) _ (c.two c0.1 (by omega) (by omega) (by rw [zwi (by omega)]; omega))
  · rw [c.pk c0] at e
    refine k0 ?_
    cases ht : ptk T n p x
    · rfl
    · exact absurd ((ptk_pk hx).1 ht) e
/-- isNumber -/
theorem cq65 (c0 : xC0 h0 T n s) (c : xCP zl nl h0 n s h p a S g) (hd : 1 ≤ d) (k1 : ∀ q v h', pnum T n p = (q, some v) → xCP zl nl h0 n s h' q (a + 1) S g → zV h' 90 3 = v → K 1 h') (k0 : pnum T n p = (p, none) → K 0 h) : yI d 65 [vR (some 90)] h K := by
  have hn := c0.2.2.1
  have hl := c.len c0
  have hs := c.sl
  have hp := c.pl
  have hk := c.pk c0
  refine E65 c.w hd ⟨by omega, fun e => ⟨by omega, fun h2 e2 => ?_⟩, fun e => ?_⟩
  · rw [hk] at e
    have t := pk_T (T := T) (n := n) (p := p) (by omega)
    have d1 := pdg_pk.2 e
    rw [hk, t.2] at e2
    rw [t.2] at e
    have c2 : xCP zl nl h0 n s h2 (p + 1) (a + 1) S g := by
      rw [← e2]
      exact (c.num c0.1 _).two c0.1 (by omega) (by omega) (by rw [(c.num c0.1 _).pl, zwi (by omega)]; omega)
    have v2 : zV h2 90 3 = T p - 48 := by
      rw [← e2, zV_V, if_neg (by decide), zV_V, if_pos ⟨rfl, rfl⟩, zwi (by omega)]
    have hk2 := c2.pk c0
    have hl2 := c2.len c0
    have hp2 := c2.pl
    clear e2
    refine ⟨by omega, fun f => ⟨by omega, fun h3 e3 => ?_⟩, fun f => ?_⟩
    · rw [hk2] at f
      have t2 := pk_T (T := T) (n := n) (p := p + 1) (by omega)
      have d2 := pdg_pk.2 f
      rw [hk2, t2.2, v2] at e3
      rw [t2.2] at f
      have c3 : xCP zl nl h0 n s h3 (p + 1 + 1) (a + 1) S g := by
        rw [← e3]
        exact (c2.num c0.1 _).two c0.1 (by omega) (by omega) (by rw [(c2.num c0.1 _).pl, zwi (by omega)]; omega)
      have v3 : zV h3 90 3 = 10 * (T p - 48) + (T (p + 1) - 48) := by
        rw [← e3, zV_V, if_neg (by decide), zV_V, if_pos ⟨rfl, rfl⟩, zwi (x := (T p - 48) * 10) (by omega), zwi (x := (T p - 48) * 10 + T (p + 1)) (by omega), zwi (by omega)]
        omega
      exact k1 _ _ h3 (by unfold pnum; rw [if_pos d1, if_pos d2]) c3 v3
    · rw [hk2] at f
      exact k1 _ _ h2 (by unfold pnum; rw [if_pos d1, if_neg (fun q => f (pdg_pk.1 q))]) c2 v2
  · rw [hk] at e
    exact k0 (by unfold pnum; rw [if_neg (fun q => e (pdg_pk.1 q))])
/-- addStep -/
theorem cq70 (c0 : xC0 h0 T n s) (c : xCP zl nl h0 n s h p (a + 1) S g) (hy : 0 ≤ y ∧ y < 6) (k : ∀ h', xCP zl nl h0 n s h' p a (S ++ [(x, y, z)]) g → U h') : yU d 70 [vR (some s), vI x, vI y, vI z] h U := by
  have hn := c0.2.2.1
  have e82 := ySh_82 c0.1
  obtain ⟨c1, c2, c3, c4, c5, c6, c7, c8, c9, c10⟩ := c
  have tn : ((S.length : Int)).toNat = S.length := by omega
  have u1 : ∀ X, zV (zsetV h (s + 1) S.length X) s 3 = (S.length : Int) := fun X => by rw [zV_V, if_neg (by omega)]; exact c7
  refine E70 c1 c0.1 ⟨fun e => by omega, fun _ => ?_⟩
  rw [c7, tn, u1, tn]
  refine ⟨by omega, by omega, fun h2 e2 => ?_⟩
  have u2 : zV h2 s 3 = (S.length : Int) := by rw [← e2, zV_V, if_neg (by omega)]; exact u1 x
  rw [u2, tn]
  refine ⟨by omega, fun h3 e3 => ?_⟩
  have u3 : zV (zsetV h2 (s + 3) S.length z) s 3 = (S.length : Int) := by rw [zV_V, if_neg (by omega)]; exact u2
  rw [u3, zwi (by omega)] at e3
  have hv : ∀ b k, zV h3 b k = if b = s ∧ k = 3 then (S.length : Int) + 1 else if b = s + 3 ∧ k = S.length then z else if b = s + 2 ∧ k = S.length then y else if b = s + 1 ∧ k = S.length then x else zV h b k := fun b k => by rw [← e3, zV_V, zV_V, ← e2, zV_V, zV_V]
  refine k h3 ⟨by rw [← e3, ← e2]; exact c1, ?_, by rw [← e3, ← e2]; exact c3, by rw [hv, if_neg (by omega), if_neg (by omega), if_neg (by omega), if_neg (by omega)]; exact c4, c5, by rw [List.length_append]; show S.length + 1 + a ≤ p; omega, by rw [hv, if_pos ⟨rfl, rfl⟩, List.length_append]; show _ = ((S.length + 1 : Nat) : Int); omega, by rw [hv, if_neg (by omega), if_neg (by omega), if_neg (by omega), if_neg (by omega)]; exact c8, c9, fun i t ht => ?_⟩
  · have f2 : Fr (xCm s) h h2 := by rw [← e2]; exact (Fr.set (Or.inr (Or.inr (Or.inl rfl)))).trans (Fr.set (Or.inr (Or.inr (Or.inr (Or.inl rfl)))))
    have f3 : Fr (xCm s) h2 h3 := by rw [← e3]; exact (Fr.set (Or.inr (Or.inr (Or.inr (Or.inr rfl))))).trans (Fr.set (Or.inr (Or.inl ⟨rfl, Or.inl rfl⟩)))
    exact c2.trans (f2.trans f3)
  · rcases Nat.lt_or_ge i S.length with hi | hi
    · rw [List.getElem?_append_left hi] at ht
      rw [hv, if_neg (by omega), if_neg (by omega), if_neg (by omega), if_neg (by omega), hv, if_neg (by omega), if_neg (by omega), if_neg (by omega), if_neg (by omega), hv, if_neg (by omega), if_neg (by omega), if_neg (by omega), if_neg (by omega)]
      exact c10 i t ht
    · rw [List.getElem?_append_right hi] at ht
      have h1 : i = S.length := by
        rcases Nat.eq_zero_or_pos (i - S.length) with q | q
        · omega
        · obtain ⟨j, hj⟩ : ∃ j, i - S.length = j + 1 := ⟨i - S.length - 1, by omega⟩
          rw [hj] at ht
          cases ht
      subst h1
      rw [Nat.sub_self] at ht
      cases ht
      refine ⟨hy, ?_, ?_, ?_⟩
      · rw [hv, if_neg (by omega), if_neg (by omega), if_neg (by omega), if_pos ⟨rfl, rfl⟩]
      · rw [hv, if_neg (by omega), if_neg (by omega), if_pos ⟨rfl, rfl⟩]
      · rw [hv, if_neg (by omega), if_pos ⟨rfl, rfl⟩]
/-- isTest -/
theorem cq71 (c0 : xC0 h0 T n s) (hd : 3 ≤ d) : xCJ zl nl h0 n s d 71 [vR (some 90)] (ptest T n) := by
  intro h p a S g K c k1 k0
  have hn := c0.2.2.1
  have hl := c.len c0
  have hs := c.sl
  have hp := c.pl
  have hk := c.pk c0
  have r1 := ylet_r (ppk T n p)
  refine E71 c.w (by omega) ⟨by omega, fun e => ?_, fun e => ?_⟩
  · rw [hk] at e
    have t : p < n := by
      rcases Nat.lt_or_ge p n with q | q
      · exact q
      · exfalso
        unfold ppk at e
        rw [if_neg (by omega)] at e
        exact absurd e (by decide)
    have c2 : xCP zl nl h0 n s (zsetV h 90 2 (zw (zV h 90 2 + 1))) (p + 1) (a + 1) S g := c.two c0.1 (by omega) (by omega) (by rw [zwi (by omega)]; omega)
    have hl2 := c2.len c0
    have hp2 := c2.pl
    have hk2 := c2.pk c0
    generalize zsetV h 90 2 (zw (zV h 90 2 + 1)) = h2 at c2 hl2 hp2 hk2 ⊢
    rw [hk2, hk]
    have r2 := yrel_r (ppk T n (p + 1))
    refine ⟨by omega, fun f => ?_, fun f => ?_⟩
    · have t2 : p + 1 < n := by
        rcases Nat.lt_or_ge (p + 1) n with q | q
        · exact q
        · exfalso
          unfold ppk at f
          rw [if_neg (by omega)] at f
          exact absurd f (by decide)
      intro h3 e3
      have c3 : xCP zl nl h0 n s h3 (p + 2) (a + 2) S g := by
        rw [← e3]
        exact c2.two c0.1 (by omega) (by omega) (by rw [zwi (by omega)]; omega)
      refine cq65 c0 c3 (by omega) (fun q v h4 e4 c4 v4 => ?_) (fun e4 => ?_)
      · have rv := pnum_r e4
        refine W71_52 c4.w (by omega) ⟨fun _ => ⟨s, c4.2.2.1, c0.1, ?_⟩, fun q => absurd (by decide) q⟩
        rw [v4]
        refine cq70 c0 (c4.le (b := a + 1) (by omega)) (by omega) fun h5 c5 => ?_
        refine W71_70 c5.w ?_
        refine k1 q [3 + 300 * ylet (ppk T n p) + 100 * (yrel (ppk T n (p + 1)) - 1) + v] h5 (by unfold ptest; rw [if_pos e, if_pos f, e4]) ?_
        show xCP zl nl h0 n s h5 q a (S ++ [xcs (3 + 300 * ylet (ppk T n p) + 100 * (yrel (ppk T n (p + 1)) - 1) + v)]) g
        rw [xcs_t _ _ _ (by omega)]
        exact c5
      · refine W71_52 c3.w (by omega) ⟨fun q => absurd rfl q, fun _ => ?_⟩
        exact k0 _ S h3 (by unfold ptest; rw [if_pos e, if_pos f, e4]) (c3.le (by omega))
    · exact k0 _ S _ (by unfold ptest; rw [if_pos e, if_neg f]) (c2.le (by omega))
  · rw [hk] at e
    exact k0 _ S h (by unfold ptest; rw [if_neg e]) c
theorem cq68_loop (c0 : xC0 h0 T n s) (hd : 3 ≤ d) (mo : ∀ p q b, P p = (q, some b) → p ≤ q) (cs : xCJ zl nl h0 n s (d - 1) 69 [vR (some 90), vI x] P) : ∀ (m : Nat) (h : Hp) (p a : Nat) (S : List (Int × Int × Int)) (l : Int) (K : Int → Hp → Prop), n ≤ p + m → 0 ≤ l → l ≤ (p : Int) → xCP zl nl h0 n s h p a S g → (∀ q b h', prest P T n 38 1 m p = (q, some b) → xCP zl nl h0 n s h' q a (S ++ b.map xcs) g → K 1 h') → (∀ q S' h', prest P T n 38 1 m p = (q, none) → xCP zl nl h0 n s h' q a S' g → K 0 h') → ZW d prog_8_method_9_code 6 12 [some (vR (some 90)), some (vI x), some (vI l)] [] h (yq 2 (yqI K)) := by
  intro m
  induction m with
  | zero =>
    intro h p a S l K hm hl hlp c k1 k0
    have hn := c0.2.2.1
    have no : ptk T n p 38 = false := by unfold ptk; rw [decide_eq_false_iff_not]; omega
    have kk : K 1 h := k1 p [] h rfl (by rw [List.map_nil, List.append_nil]; exact c)
    refine W68_12 c.w (by omega) ⟨fun _ => kk, fun _ => ?_⟩
    refine cq63 c0 c (by omega) (by decide) (fun e => ?_) (fun _ => W68_24 c.w (by omega) ⟨fun _ => kk, fun q => absurd rfl q⟩)
    rw [no] at e
    cases e
  | succ m ih =>
    intro h p a S l K hm hl hlp c k1 k0
    have hn := c0.2.2.1
    have hp := c.pn
    refine W68_12 c.w (by omega) ⟨fun hg => ?_, fun hg => ?_⟩
    · have no : ptk T n p 38 = false := by unfold ptk; rw [decide_eq_false_iff_not]; omega
      exact k1 p [] h (prest_no no _) (by rw [List.map_nil, List.append_nil]; exact c)
    · refine cq63 c0 c (by omega) (by decide) (fun e h2 c2 => ?_) (fun no => W68_24 c.w (by omega) ⟨fun _ => k1 p [] h (prest_no no _) (by rw [List.map_nil, List.append_nil]; exact c), fun q => absurd rfl q⟩)
      refine W68_24 c2.w (by omega) ⟨fun q => absurd q (by decide), fun _ => ?_⟩
      refine cs h2 (p + 1) (a + 1) S g _ c2 (fun q b h3 e3 c3 => ?_) (fun q S3 h3 e3 c3 => ?_)
      · have c3s := c3.sl
        have c3n := c3.pn
        have hq := mo _ _ _ e3
        refine W68_32 c3.w (by omega) ⟨fun _ => ⟨s, c3.2.2.1, c0.1, ?_⟩, fun q => absurd (by decide) q⟩
        refine cq70 c0 c3 (by decide) fun h4 c4 => W68_47 c4.w ?_
        rw [zwi (by omega)]
        have e5 : S ++ b.map xcs ++ [(5, 0, 0)] = S ++ (b.map xcs ++ [xcs 1]) := by rw [List.append_assoc]; rfl
        rw [e5] at c4
        refine ih h4 q a _ (l + 1) K (by omega) (by omega) (by omega) c4 (fun q5 b5 h5 e6 c5 => ?_) (fun q5 S5 h5 e6 c5 => ?_)
        · refine k1 q5 (b ++ 1 :: b5) h5 ?_ ?_
          · show (if ptk T n p 38 = true then _ else _) = _
            rw [if_pos e, e3]
            show (match prest P T n 38 1 m q with
              | (r, none) => (r, none)
              | (r, some b5) => (r, some (b ++ 1 :: b5))) = _
            rw [e6]
          · rw [List.map_append, List.map_cons]
            rw [List.append_assoc, List.append_assoc] at c5
            exact c5
        · refine k0 q5 S5 h5 ?_ c5
          show (if ptk T n p 38 = true then _ else _) = _
          rw [if_pos e, e3]
          show (match prest P T n 38 1 m q with
            | (r, none) => (r, none)
            | (r, some b5) => (r, some (b ++ 1 :: b5))) = _
          rw [e6]
      · refine W68_32 c3.w (by omega) ⟨fun q => absurd rfl q, fun _ => ?_⟩
        refine k0 q S3 h3 ?_ (c3.le (by omega))
        show (if ptk T n p 38 = true then _ else _) = _
        rw [if_pos e, e3]
theorem cq68 (c0 : xC0 h0 T n s) (hd : 4 ≤ d) (mo : ∀ p q b, P p = (q, some b) → p ≤ q) (cs1 : xCJ zl nl h0 n s (d - 1) 69 [vR (some 90), vI x] P) : xCJ zl nl h0 n s d 68 [vR (some 90), vI x] (pseq P T n 38 1) := by
  intro h p a S g K c k1 k0
  refine E68 c.w (by omega) (cs1 h p a S g _ c (fun q b h2 e2 c2 => ?_) (fun q S2 h2 e2 c2 => ?_))
  · refine W68_5 c2.w ⟨fun _ => ?_, fun q => absurd (by decide) q⟩
    refine cq68_loop c0 (by omega) mo cs1 n h2 q a _ 0 K (by omega) (by omega) (by omega) c2 (fun q3 b3 h3 e3 c3 => ?_) (fun q3 S3 h3 e3 c3 => ?_)
    · refine k1 q3 (b ++ b3) h3 ?_ (by rw [List.map_append, ← List.append_assoc]; exact c3)
      unfold pseq
      rw [e2]
      show (match prest P T n 38 1 n q with
        | (r, none) => (r, none)
        | (r, some b3) => (r, some (b ++ b3))) = _
      rw [e3]
    · refine k0 q3 S3 h3 ?_ c3
      unfold pseq
      rw [e2]
      show (match prest P T n 38 1 n q with
        | (r, none) => (r, none)
        | (r, some b3) => (r, some (b ++ b3))) = _
      rw [e3]
  · refine W68_5 c2.w ⟨fun q => absurd rfl q, fun _ => ?_⟩
    exact k0 q S2 h2 (by unfold pseq; rw [e2]) c2
theorem cq67_loop (c0 : xC0 h0 T n s) (hd : 3 ≤ d) (mo : ∀ p q b, P p = (q, some b) → p ≤ q) (cs : xCJ zl nl h0 n s (d - 1) 68 [vR (some 90), vI x] P) : ∀ (m : Nat) (h : Hp) (p a : Nat) (S : List (Int × Int × Int)) (l : Int) (K : Int → Hp → Prop), n ≤ p + m → 0 ≤ l → l ≤ (p : Int) → xCP zl nl h0 n s h p a S g → (∀ q b h', prest P T n 124 2 m p = (q, some b) → xCP zl nl h0 n s h' q a (S ++ b.map xcs) g → K 1 h') → (∀ q S' h', prest P T n 124 2 m p = (q, none) → xCP zl nl h0 n s h' q a S' g → K 0 h') → ZW d prog_8_method_8_code 6 12 [some (vR (some 90)), some (vI x), some (vI l)] [] h (yq 2 (yqI K)) := by
  intro m
  induction m with
  | zero =>
    intro h p a S l K hm hl hlp c k1 k0
    have hn := c0.2.2.1
    have no : ptk T n p 124 = false := by unfold ptk; rw [decide_eq_false_iff_not]; omega
    have kk : K 1 h := k1 p [] h rfl (by rw [List.map_nil, List.append_nil]; exact c)
    refine W67_12 c.w (by omega) ⟨fun _ => kk, fun _ => ?_⟩
    refine cq63 c0 c (by omega) (by decide) (fun e => ?_) (fun _ => W67_24 c.w (by omega) ⟨fun _ => kk, fun q => absurd rfl q⟩)
    rw [no] at e
    cases e
  | succ m ih =>
    intro h p a S l K hm hl hlp c k1 k0
    have hn := c0.2.2.1
    have hp := c.pn
    refine W67_12 c.w (by omega) ⟨fun hg => ?_, fun hg => ?_⟩
    · have no : ptk T n p 124 = false := by unfold ptk; rw [decide_eq_false_iff_not]; omega
      exact k1 p [] h (prest_no no _) (by rw [List.map_nil, List.append_nil]; exact c)
    · refine cq63 c0 c (by omega) (by decide) (fun e h2 c2 => ?_) (fun no => W67_24 c.w (by omega) ⟨fun _ => k1 p [] h (prest_no no _) (by rw [List.map_nil, List.append_nil]; exact c), fun q => absurd rfl q⟩)
      refine W67_24 c2.w (by omega) ⟨fun q => absurd q (by decide), fun _ => ?_⟩
      refine cs h2 (p + 1) (a + 1) S g _ c2 (fun q b h3 e3 c3 => ?_) (fun q S3 h3 e3 c3 => ?_)
      · have c3s := c3.sl
        have c3n := c3.pn
        have hq := mo _ _ _ e3
        refine W67_32 c3.w (by omega) ⟨fun _ => ⟨s, c3.2.2.1, c0.1, ?_⟩, fun q => absurd (by decide) q⟩
        refine cq70 c0 c3 (by decide) fun h4 c4 => W67_48 c4.w ?_
        rw [zwi (by omega)]
        have e5 : S ++ b.map xcs ++ [(6, 0, 0)] = S ++ (b.map xcs ++ [xcs 2]) := by rw [List.append_assoc]; rfl
        rw [e5] at c4
        refine ih h4 q a _ (l + 1) K (by omega) (by omega) (by omega) c4 (fun q5 b5 h5 e6 c5 => ?_) (fun q5 S5 h5 e6 c5 => ?_)
        · refine k1 q5 (b ++ 2 :: b5) h5 ?_ ?_
          · show (if ptk T n p 124 = true then _ else _) = _
            rw [if_pos e, e3]
            show (match prest P T n 124 2 m q with
              | (r, none) => (r, none)
              | (r, some b5) => (r, some (b ++ 2 :: b5))) = _
            rw [e6]
          · rw [List.map_append, List.map_cons]
            rw [List.append_assoc, List.append_assoc] at c5
            exact c5
        · refine k0 q5 S5 h5 ?_ c5
          show (if ptk T n p 124 = true then _ else _) = _
          rw [if_pos e, e3]
          show (match prest P T n 124 2 m q with
            | (r, none) => (r, none)
            | (r, some b5) => (r, some (b ++ 2 :: b5))) = _
          rw [e6]
      · refine W67_32 c3.w (by omega) ⟨fun q => absurd rfl q, fun _ => ?_⟩
        refine k0 q S3 h3 ?_ (c3.le (by omega))
        show (if ptk T n p 124 = true then _ else _) = _
        rw [if_pos e, e3]
theorem cq67 (c0 : xC0 h0 T n s) (hd : 4 ≤ d) (mo : ∀ p q b, P p = (q, some b) → p ≤ q) (cs1 : xCJ zl nl h0 n s (d - 1) 68 [vR (some 90), vI x] P) : xCJ zl nl h0 n s d 67 [vR (some 90), vI x] (pseq P T n 124 2) := by
  intro h p a S g K c k1 k0
  refine E67 c.w (by omega) (cs1 h p a S g _ c (fun q b h2 e2 c2 => ?_) (fun q S2 h2 e2 c2 => ?_))
  · refine W67_5 c2.w ⟨fun _ => ?_, fun q => absurd (by decide) q⟩
    refine cq67_loop c0 (by omega) mo cs1 n h2 q a _ 0 K (by omega) (by omega) (by omega) c2 (fun q3 b3 h3 e3 c3 => ?_) (fun q3 S3 h3 e3 c3 => ?_)
    · refine k1 q3 (b ++ b3) h3 ?_ (by rw [List.map_append, ← List.append_assoc]; exact c3)
      unfold pseq
      rw [e2]
      show (match prest P T n 124 2 n q with
        | (r, none) => (r, none)
        | (r, some b3) => (r, some (b ++ b3))) = _
      rw [e3]
    · refine k0 q3 S3 h3 ?_ c3
      unfold pseq
      rw [e2]
      show (match prest P T n 124 2 n q with
        | (r, none) => (r, none)
        | (r, some b3) => (r, some (b ++ b3))) = _
      rw [e3]
  · refine W67_5 c2.w ⟨fun q => absurd rfl q, fun _ => ?_⟩
    exact k0 q S2 h2 (by unfold pseq; rw [e2]) c2
end XCL
