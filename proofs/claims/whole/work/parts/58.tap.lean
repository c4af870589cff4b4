/-! TAPES, THE TEXT, counts: cells that no view shows -/
def xOt (b k : Nat) : Prop := (b = 90 ∧ k = 1) ∨ b = 91 ∨ (b = 137 ∧ (k = 9 ∨ k = 36)) ∨ b = 144 ∨ (125 ≤ b ∧ b ≤ 136) ∨ b = 167 ∨ b = 168 ∨ b = 94 ∨ b = 95 ∨ b = 160
def xQ (zl : Nat) (nl : Option Nat) (h h' : Hp) (V : Nat → Nat → Int) (J : Nat → Nat → Int64) : Prop := yWF zl nl h' ∧ zP h' = zP h ∧ zV h' = V ∧ zJ h' = J
def jz (J : Nat → Nat → Int64) (a o n : Nat) : Nat → Nat → Int64 := fun b k => if b = a ∧ o ≤ k ∧ k < o + n then 0 else J b k
noncomputable def xju (P : Nat → Prop) (i n : Int) : Nat → Nat → Int
  | 0, _ => -5
  | m + 1, k => if 0 ≤ i ∧ i + k < n then @ite _ (P k) (Classical.propDecidable _) (xju P i n m (k + 1)) (k : Int) else 100 + k
section XTA
variable {zl : Nat} {nl : Option Nat} {xs : Nat → Int} {h h' h1 h2 h3 H : Hp} {d : Nat} {K : Int → Hp → Prop} {KJ : Int64 → Hp → Prop} {U : Hp → Prop} {a n s b j k i m : Nat} {x y z t u B : Int} {v : Int64} {M : Nat → Nat → Prop} {σ τ : Vw} {V : Nat → Nat → Int} {J : Nat → Nat → Int64}
theorem zJ_J {w : Int64} : zJ (zsetJ h a k w) b j = if b = a ∧ j = k then w else zJ h b j := rfl
theorem Inv.ot (I : Inv zl nl xs h) (w2 : yWF zl nl h2) (p : zP h2 = zP h) (e : ∀ b k, ¬ xOt b k → zV h2 b k = zV h b k) (tx : xTx h2) (tp : xTp h2) (ac : xAc h2) : Inv zl nl xs h2 := by
  have w := I.w
  have f' : Fr xOt h (zS h2, zV h2, zJ h, zP h2, zN h2, zM h2) := ⟨w2.1.trans w.1.symm, rfl, w2.2.2.2.1.trans w.2.2.2.1.symm, w2.2.2.2.2.trans w.2.2.2.2.symm, fun a k _ _ => congrFun (congrFun p a) k, e⟩
  have eC : ∀ a, a = 33 ∨ a = 71 → hvC h2 a = hvC h a := by
    intro a ha
    refine hvC_fr (fun b i q1 q2 q3 q4 => e b i ?_) (by rw [p])
    unfold xOt
    omega
  have eM : hvM h2 = hvM h := hvM_fr fun b i q => e b i (by unfold xOM at q; unfold xOt; omega)
  have eI : hvI h2 161 = hvI h 161 := hvI_fr fun i _ => e 161 i (by unfold xOt; omega)
  have e15 : zV h2 137 15 = zV h 137 15 := e 137 15 (by unfold xOt; omega)
  have e4 : zV h2 32 3 = zV h 32 3 := e 32 3 (by unfold xOt; omega)
  have e38 : zV h2 137 38 = zV h 137 38 := e 137 38 (by unfold xOt; omega)
  refine ⟨w2, Fr.ST (h' := (zS h2, zV h2, zJ h, zP h2, zN h2, zM h2)) f' I.st (fun b k q => ?_), ⟨by rw [eC 33 (by decide), eM]; exact I.v, by rw [eM]; exact I.rg, by rw [eM, e15]; exact I.ho⟩, xShp_fr (h2 := (zS h2, zV h2, zJ h, zP h2, zN h2, zM h2)) f' (fun b k q => ?_) I.sh, tx, tp, ac, ?_, fun k => ?_⟩
  · unfold xStC xShC at q; unfold xOt; omega
  · unfold xOt; omega
  · have q := I.im
    unfold xIm at q ⊢
    rw [e4, e38, e15, eC 71 (by decide), eI]
    exact q
  · rw [e 0 k (by unfold xOt; omega)]
    exact I.xss k
theorem xTx_e (e : ∀ b k, b = 90 ∨ b = 137 ∨ b = 91 ∨ b = 144 → zV h2 b k = zV h b k) (q : xTx h) : xTx h2 := by
  unfold xTx at q ⊢
  rw [e 90 1 (by decide), e 137 9 (by decide)]
  obtain ⟨q1, q2, q3, q4⟩ := q
  refine ⟨q1, q2, q3, fun k hk => ?_⟩
  rw [e 91 k (by decide), e 144 k (by decide)]
  exact q4 k hk
theorem xAc_e (e : ∀ b k, b = 94 ∨ b = 137 ∨ b = 95 ∨ b = 160 → zV h2 b k = zV h b k) (q : xAc h) : xAc h2 := by
  unfold xAc at q ⊢
  rw [e 94 1 (by decide), e 137 36 (by decide)]
  obtain ⟨q1, q2, q3, q4⟩ := q
  refine ⟨q1, q2, q3, fun k hk hk2 => ?_⟩
  rw [e 95 k (by decide), e 160 k (by decide)]
  exact q4 k hk hk2
theorem xTp_e (e : ∀ b k, (125 ≤ b ∧ b ≤ 136) ∨ b = 167 ∨ b = 168 → zV h2 b k = zV h b k) (p : zJ h2 = zJ h) (q : xTp h) : xTp h2 := by
  intro i hi
  have q := q i hi
  unfold xTp1 at q ⊢
  rw [e _ 1 (Or.inl (by omega)), e _ 2 (Or.inl (by omega)), e 167 i (by omega), e 168 i (by omega), p]
  exact q
/-- feed -/
theorem ap43 (I : Inv zl nl xs h) (hd : 20 ≤ d) : yI d 43 [vR (some 32), vI x] h (fun t h1 => yI d 154 [vR (some 137), vI x] h1 (fun u h2 => t = u ∧ Inv zl nl xs h2)) := by
  have w := I.w
  obtain ⟨t1, t2, t3, t4⟩ := I.tx
  obtain ⟨s, hs⟩ : ∃ s : Nat, zV h 90 1 = s := ⟨(zV h 90 1).toNat, by omega⟩
  have e9 : zV h 137 9 = (s : Int) := by rw [← t1]; exact hs
  refine E43 w (by omega) ⟨fun c => ⟨fun c1 => ?_, fun c1 => ?_⟩, fun c => ?_⟩
  · exact E154 w (by omega) ⟨fun _ => ⟨fun c3 => absurd (by omega) c3, fun _ => ⟨rfl, I⟩⟩, fun c3 => absurd (by omega) c3⟩
  · refine sp45 w (by omega) (W43_36 (yWFV (yWFV w)) ?_)
    rw [hs, Int.toNat_natCast]
    have f9 : zV (zsetV (zsetV h 91 s x) 90 1 ((s : Int) + 1)) 137 9 = (s : Int) := e9
    refine E154 (yWFV (yWFV w)) (by omega) ⟨fun _ => ⟨fun _ => ?_, fun c3 => absurd (by omega) c3⟩, fun c3 => absurd (by omega) c3⟩
    rw [f9, zwi (by omega), Int.toNat_natCast]
    refine ⟨by omega, ?_⟩
    rintro _ rfl
    have ev : ∀ b k, zV (zsetV (zsetV (zsetV (zsetV h 91 s x) 90 1 ((s : Int) + 1)) 137 9 ((s : Int) + 1)) 144 s x) b k = if b = 144 ∧ k = s then x else if b = 137 ∧ k = 9 then (s : Int) + 1 else if b = 90 ∧ k = 1 then (s : Int) + 1 else if b = 91 ∧ k = s then x else zV h b k := fun _ _ => rfl
    refine ⟨rfl, I.ot (yWFV (yWFV (yWFV (yWFV w)))) rfl (fun b k q => ?_) ?_ (xTp_e (h := h) (fun b k q => ?_) rfl I.tp) ?_⟩
    · unfold xOt at q
      rw [ev, if_neg (by omega), if_neg (by omega), if_neg (by omega), if_neg (by omega)]
    · unfold xTx
      refine ⟨rfl, by show 0 ≤ (s : Int) + 1; omega, by show (s : Int) + 1 ≤ 100; omega, fun k hk => ?_⟩
      have q4 := t4 k hk
      rw [ev, ev]
      by_cases ck : k = s
      · subst ck
        rw [if_neg (by omega), if_neg (by omega), if_neg (by omega), if_pos (by omega), if_pos (by omega)]
        omega
      · rw [if_neg (by omega), if_neg (by omega), if_neg (by omega), if_neg (by omega), if_neg (by omega), if_neg (by omega), if_neg (by omega), if_neg (by omega)]
        exact q4
    · rw [ev, if_neg (by omega), if_neg (by omega), if_neg (by omega), if_neg (by omega)]
    · have q := I.ac
      unfold xAc at q ⊢
      have f1 : zV (zsetV (zsetV (zsetV (zsetV h 91 s x) 90 1 ((s : Int) + 1)) 137 9 ((s : Int) + 1)) 144 s x) 94 1 = zV h 94 1 := rfl
      have f2 : zV (zsetV (zsetV (zsetV (zsetV h 91 s x) 90 1 ((s : Int) + 1)) 137 9 ((s : Int) + 1)) 144 s x) 137 36 = zV h 137 36 := rfl
      rw [f1, f2]
      exact ⟨q.1, q.2.1, q.2.2.1, fun k hk hk2 => q.2.2.2 k hk hk2⟩
  · exact E154 w (by omega) ⟨fun c3 => absurd (by omega) c, fun _ => ⟨rfl, I⟩⟩
/-- count -/
theorem ap117 (I : Inv zl nl xs h) : yI d 117 [vR (some 32), vI x] h (fun t h1 => yI d 212 [vR (some 137), vI x] h1 (fun u h2 => t = u ∧ Inv zl nl xs h2)) := by
  have w := I.w
  have v : ∀ k, hvC h 33 0 k = hvM h 0 k := fun k => by rw [I.v]
  have e46 : zV h 42 1 = zV h 137 25 := v 3
  have e48 : zV h 44 1 = zV h 137 30 := v 4
  have e50 : zV h 46 1 = zV h 137 33 := v 5
  have e44 : zV h 40 1 = zV h 137 6 := v 2
  refine E117 w ⟨fun c => ?_, fun c => ?_, fun c => ?_, fun c => ?_, fun c => ?_, fun c => ?_, fun c => ?_, fun c => ?_, fun c => ?_⟩
  all_goals refine E212 w ⟨fun c2 => ?_, fun c2 => ?_, fun c2 => ?_, fun c2 => ?_, fun c2 => ?_, fun c2 => ?_, fun c2 => ?_, fun c2 => ?_, fun c2 => ?_⟩
  all_goals first
    | (exfalso; omega)
    | exact ⟨I.sz, I⟩
    | exact ⟨I.sh.1, I⟩
    | exact ⟨e46, I⟩
    | exact ⟨e48, I⟩
    | exact ⟨e50, I⟩
    | exact ⟨I.tx.1, I⟩
    | exact ⟨I.ac.1, I⟩
    | exact ⟨e44, I⟩
    | exact ⟨rfl, I⟩
/-- trace -/
theorem ap113 (I : Inv zl nl xs h) (hd : 20 ≤ d) : yI d 113 [vR (some 32), vI x] h (fun t h1 => yI d 210 [vR (some 137), vI x] h1 (fun u h2 => t = u ∧ Inv zl nl xs h2)) := by
  have w := I.w
  obtain ⟨t1, t2, t3, t4⟩ := I.ac
  have e : ymin 20 (zV h 137 36) = ymin (zV h 94 1) 20 := by rw [← t1, ymin_c]
  have r : 0 ≤ ymin (zV h 94 1) 20 ∧ ymin (zV h 94 1) 20 ≤ 20 ∧ ymin (zV h 94 1) 20 ≤ zV h 94 1 := by unfold ymin; split <;> omega
  refine E113 w (by omega) (E114 w (by omega) (W113_8 w (by omega) ⟨fun c => ⟨by omega, ?_⟩, fun c => ?_⟩))
  · refine E210 w (by omega) ⟨fun c2 => ⟨by omega, ?_, I⟩, fun c2 => absurd (by rw [e, zwi (by omega)]; omega) c2⟩
    exact t4 x.toNat (by omega) (by omega)
  · refine E210 w (by omega) ⟨fun c2 => ?_, fun c2 => ⟨rfl, I⟩⟩
    rw [e, zwi (by omega)] at c2
    omega
/-- looked -/
theorem cp101_loop (w : yWF zl nl h) (hd : 2 ≤ d) (σ : Vw) (hσ : hvC h 33 = σ) (r : Rg B σ) (k : K (xlst (fun i => σ 3 (σ 9 i).toNat ≠ σ 10 i) (σ 0 5).toNat 0) h) : ∀ (m i : Nat) (l2 : Option Int), (i : Int) + m = σ 0 5 → xlst (fun i => σ 3 (σ 9 i).toNat ≠ σ 10 i) (σ 0 5).toNat 0 = xlst (fun i => σ 3 (σ 9 i).toNat ≠ σ 10 i) m i → ZW d prog_1_method_30_code 7 2 [some (vR (some 32)), some (vI i), yo l2] [] h (yq 1 (yqI K)) := by
  have rb := r.bn
  have rs := r.sz
  have e50 : zV h 46 1 = σ 0 5 := by rw [← hσ]; rfl
  have e10 : zV h 33 10 = σ 0 0 := by rw [← hσ]; rfl
  intro m
  induction m with
  | zero =>
    intro i l2 hm hx
    refine W101_2 w hd ⟨fun _ => ?_, fun c => absurd (by omega) c⟩
    rw [hx] at k
    exact k
  | succ m ih =>
    intro i l2 hm hx
    have i0 : (4 * (i : Int) + 0).toNat = 4 * i := by omega
    have i1 : (4 * (i : Int) + 1).toNat = 4 * i + 1 := by omega
    have e9 : zV h (46 + 1) (4 * i) = σ 9 i := by rw [← hσ]; exact (vC_9 (h := h) (a := 33) (by omega)).symm
    have e10' : zV h (46 + 1) (4 * i + 1) = σ 10 i := by rw [← hσ]; exact (vC_10 (h := h) (a := 33) (by omega)).symm
    have q9 := r.bh i
    have l9 := r.bl i (by omega)
    have e3 : zV h 36 (σ 9 i).toNat = σ 3 (σ 9 i).toNat := by rw [← hσ]; exact (vC_3 (h := h) (a := 33) (by rw [hσ]; omega)).symm
    refine W101_2 w hd ⟨fun c => absurd c (by omega), fun c => ⟨by omega, ?_⟩⟩
    rw [i0, i1, e9, e10', e3, nz (by omega), e10]
    refine ⟨fun _ => ⟨by omega, by omega, fun c2 => ?_, fun c2 => ?_⟩, fun c2 => absurd (by omega) c2⟩
    · exact ih (i + 1) (some _) (by omega) (by rw [hx, xlst_f (fun q => q c2)])
    · rw [hx, xlst_t (P := fun i : Nat => σ 3 (σ 9 i).toNat ≠ σ 10 i) c2] at k
      exact k
theorem mp200_loop (w : yWF zl nl h) (σ : Vw) (hσ : hvM h = σ) (r : Rg B σ) (k : K (xlst (fun i => σ 3 (σ 9 i).toNat ≠ σ 10 i) (σ 0 5).toNat 0) h) : ∀ (m i : Nat), (i : Int) + m = σ 0 5 → xlst (fun i => σ 3 (σ 9 i).toNat ≠ σ 10 i) (σ 0 5).toNat 0 = xlst (fun i => σ 3 (σ 9 i).toNat ≠ σ 10 i) m i → ZW d prog_10_method_55_code 8 2 [some (vR (some 137)), some (vI i)] [] h (yq 1 (yqI K)) := by
  have rb := r.bn
  have e33 : zV h 137 33 = σ 0 5 := by rw [← hσ]; rfl
  intro m
  induction m with
  | zero =>
    intro i hm hx
    refine W200_2 w ⟨fun _ => ?_, fun c => absurd (by omega) c⟩
    rw [hx] at k
    exact k
  | succ m ih =>
    intro i hm hx
    have e9 : zV h 158 i = σ 9 i := by rw [← hσ, vM_9 (by omega)]
    have e10' : zV h 159 i = σ 10 i := by rw [← hσ, vM_10 (by omega)]
    have q9 := r.bh i
    have e3 : zV h 141 (σ 9 i).toNat = σ 3 (σ 9 i).toNat := by
      have := vM_3 (h := h) (k := (σ 9 i).toNat) (by omega)
      rw [hσ] at this
      exact this.symm
    refine W200_2 w ⟨fun c => absurd c (by omega), fun c => ⟨by omega, ?_⟩⟩
    rw [Int.toNat_natCast, e9, e10', e3, nz (by omega)]
    refine ⟨by omega, by omega, fun c2 => ?_, fun c2 => ?_⟩
    · exact ih (i + 1) (by omega) (by rw [hx, xlst_f (fun q => q c2)])
    · rw [hx, xlst_t (P := fun i : Nat => σ 3 (σ 9 i).toNat ≠ σ 10 i) c2] at k
      exact k
theorem ap101 (I : Inv zl nl xs h) (hd : 20 ≤ d) : yI d 101 [vR (some 32)] h (fun t h1 => yI d 200 [vR (some 137)] h1 (fun u h2 => t = u ∧ Inv zl nl xs h2)) := by
  have w := I.w
  have rb := I.rg.bn
  refine E101 w (cp101_loop w (by omega) (hvM h) I.v I.rg ?_ (hvM h 0 5).toNat 0 none (by omega) rfl)
  exact E200 w (mp200_loop w (hvM h) rfl I.rg ⟨rfl, I⟩ (hvM h 0 5).toNat 0 (by omega) rfl)
/-- taken -/
def xab1 (q : Int) : Int := if q = 4 then 1 else if q = 5 then 2 else if q = 6 then 3 else if q = 0 then -1 else 0
def xund : Nat → Int → Int → Bool
  | 0, _, _ => false
  | m + 1, q, z => if 0 ≤ q ∧ q < 7 then (if q = z then true else xund m (xab1 q) z) else false
theorem yB_ab (bb : yB h) (hq : 0 ≤ x ∧ x < 7) : zV h 2 x.toNat = xab1 x := by
  rw [bb 2 (by decide) (by decide)]
  have : x = 0 ∨ x = 1 ∨ x = 2 ∨ x = 3 ∨ x = 4 ∨ x = 5 ∨ x = 6 := by omega
  rcases this with rfl | rfl | rfl | rfl | rfl | rfl | rfl <;> rfl
theorem cp116_loop {l0 : Int} (w : yWF zl nl h) (bb : yB h) (hd : 1 ≤ d) (k1 : xund 7 x z = true → K 1 h) (k0 : xund 7 x z = false → K 0 h) : ∀ (m i : Nat) (q : Int), i + m = 7 → xund 7 x z = xund m q z → ZW d prog_1_method_44_code 7 4 [some (vI l0), some (vI z), some (vI q), some (vI i)] [] h (yq 2 (yqI K)) := by
  intro m
  induction m with
  | zero =>
    intro i q hm hx
    exact W116_4 w hd ⟨fun _ => k0 (by rw [hx]; rfl), fun c => absurd (by omega) c⟩
  | succ m ih =>
    intro i q hm hx
    refine W116_4 w hd ⟨fun c => absurd c (by omega), fun c => ⟨fun c2 => ⟨fun c3 => ⟨c2, ?_⟩, fun c3 => ?_⟩, fun c2 => ?_⟩⟩
    · rw [yB_ab bb c2, nz (by omega)]
      refine ih (i + 1) _ (by omega) ?_
      rw [hx]
      show (if 0 ≤ q ∧ q < 7 then (if q = z then true else xund m (xab1 q) z) else false) = _
      rw [if_pos c2, if_neg c3]
    · refine k1 ?_
      rw [hx]
      unfold xund
      rw [if_pos c2, if_pos (Classical.byContradiction c3)]
    · refine k0 ?_
      rw [hx]
      unfold xund
      rw [if_neg c2]
theorem mp211_loop (w : yWF zl nl h) (hd : 1 ≤ d) (hz : 0 ≤ z ∧ z < 7) {p : Int} (hp : 0 ≤ p ∧ p < 6) (k1 : xund 7 x z = true → K (zV h 138 p.toNat) h) (k0 : xund 7 x z = false → K (-12) h) : ∀ (m : Nat) (q : Int), 0 ≤ q → q ≤ 6 → (q = 0 ∧ 2 ≤ m ∨ (1 ≤ q ∧ q ≤ 3 ∧ 3 ≤ m) ∨ 4 ≤ m) → xund 7 x z = xund m q z → ZW d prog_10_method_68_code 8 31 [some (vR (some 137)), some (vI p), some (vI z), some (vI q)] [] h (yq 1 (yqI K)) := by
  intro m
  induction m with
  | zero => intro q h1 h2 h3; omega
  | succ m ih =>
    intro q h1 h2 h3 hx
    refine W211_31 w hd ⟨fun c => ⟨fun c2 => absurd c c2, fun _ => ⟨hp, k1 ?_⟩⟩, fun c => ⟨fun c2 => ⟨fun _ => k0 ?_, fun c3 => absurd c c3⟩, fun c2 => ?_⟩⟩
    · rw [hx]
      unfold xund
      rw [if_pos (by omega), if_pos c]
    · rw [hx]
      obtain rfl : q = 0 := by omega
      obtain ⟨m', rfl⟩ : ∃ m', m = m' + 1 := ⟨m - 1, by omega⟩
      unfold xund
      rw [if_pos (by omega), if_neg c]
      rfl
    · have e : xund 7 x z = xund m (xab1 q) z := by
        rw [hx]
        show (if 0 ≤ q ∧ q < 7 then (if q = z then true else xund m (xab1 q) z) else false) = _
        rw [if_pos (by omega), if_neg c]
      refine E207 w ⟨fun d4 => ⟨fun d5 => ⟨fun d6 => W211_44 w ?_, fun d6 => W211_44 w ?_⟩, fun d5 => W211_44 w ?_⟩, fun d4 => W211_44 w ?_⟩
      · have eq : xab1 q = 0 := by unfold xab1; rw [if_neg d4, if_neg d5, if_neg d6, if_neg (by omega)]
        rw [eq] at e
        exact ih 0 (by decide) (by decide) (by omega) e
      · obtain rfl : q = 6 := Classical.byContradiction d6
        exact ih 3 (by decide) (by decide) (by omega) e
      · obtain rfl : q = 5 := Classical.byContradiction d5
        exact ih 2 (by decide) (by decide) (by omega) e
      · obtain rfl : q = 4 := Classical.byContradiction d4
        exact ih 1 (by decide) (by decide) (by omega) e
theorem ap115 (I : Inv zl nl xs h) (hd : 20 ≤ d) : yI d 115 [vR (some 32), vI x, vI z] h (fun t h1 => yI d 211 [vR (some 137), vI x, vI z] h1 (fun u h2 => t = u ∧ Inv zl nl xs h2)) := by
  have w := I.w
  have rs := I.rg.sz
  have eC := I.sz
  have e0 : zV h 137 0 = hvM h 0 0 := rfl
  refine E115 w (by omega) ⟨fun c => ⟨fun c1 => ⟨by omega, ?_⟩, fun c1 => ?_⟩, fun c => ?_⟩
  · have ek : zV h 34 x.toNat = zV h 138 x.toNat := by rw [← vM_1 (by omega), ← I.v, vC_1 (by omega)]
    have rk := I.rg.kd x.toNat
    rw [vM_1 (by omega)] at rk
    rw [ek]
    have md : ∀ v : Int, (xund 7 (zV h 138 x.toNat) z = true → v = zV h 138 x.toNat) → (xund 7 (zV h 138 x.toNat) z = false → v = -12) → yI d 211 [vR (some 137), vI x, vI z] h (fun u h2 => v = u ∧ Inv zl nl xs h2) := by
      intro v v1 v0
      refine E211 w (by omega) ⟨fun _ => ⟨by omega, fun _ => ⟨by omega, ?_⟩, fun c3 => absurd (by omega) c3⟩, fun c3 => absurd (by omega) c3⟩
      exact mp211_loop w (by omega) c (by omega) (fun q => ⟨v1 q, I⟩) (fun q => ⟨v0 q, I⟩) 7 _ (by omega) (by omega) (by omega) rfl
    refine E116 w (cp116_loop w I.st.2.2.1 (by omega) (fun q => W115_38 w ⟨fun c2 => absurd c2 (by decide), fun _ => ?_⟩) (fun q => W115_38 w ⟨fun _ => ?_, fun c2 => absurd rfl c2⟩) 7 0 _ rfl rfl)
    · exact md _ (fun _ => rfl) (fun q2 => by rw [q] at q2; cases q2)
    · exact md _ (fun q2 => by rw [q] at q2; cases q2) (fun _ => rfl)
  · exact E211 w (by omega) ⟨fun _ => ⟨by omega, fun c3 => absurd c3 (by omega), fun _ => ⟨rfl, I⟩⟩, fun c3 => absurd (by omega) c3⟩
  · exact E211 w (by omega) ⟨fun c3 => absurd (by omega) c, fun _ => ⟨rfl, I⟩⟩
end XTA
