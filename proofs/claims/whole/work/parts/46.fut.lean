/-! FUTURES: what is asked of years to come, of presses, of what was seen -/
def xlo (σ τ : Vw) : Prop := (∀ j k, j ≠ 3 → σ j k = τ j k) ∧ ∀ k, ymin (σ 3 k) 9 = ymin (τ 3 k) 9
noncomputable def xwh (ca : Int → Int) (F : Int → (Nat → Int) → Int) (G : Int → Int) (σ : Vw) (p : Int) : Int := xlst (fun n => xhd F (xit ca G n σ) p ≠ -5) 61 0
/-- a press: 10 times the BUMP and the number -/
def xpc (σ : Vw) (p : Int) (c : Nat) : Vw := up σ 4 (6 * p + (c / 10 : Nat)).toNat ((c % 10 : Nat) : Int)
def xpP (F : Int → (Nat → Int) → Int) (σ : Vw) (p : Int) (c : Nat) : Prop := xhd F (xpc σ p c) p ≠ -5
noncomputable def xcnt (P : Nat → Prop) : Nat → Int
  | 0 => 0
  | n + 1 => @ite _ (P n) (Classical.propDecidable _) (xcnt P n + 1) (xcnt P n)
theorem xcnt_t {P : Nat → Prop} {n : Nat} (c : P n) : xcnt P (n + 1) = xcnt P n + 1 := if_pos c
theorem xcnt_f {P : Nat → Prop} {n : Nat} (c : ¬ P n) : xcnt P (n + 1) = xcnt P n := if_neg c
theorem xcnt_r (P : Nat → Prop) (n : Nat) : 0 ≤ xcnt P n ∧ xcnt P n ≤ n := by
  induction n with
  | zero => exact ⟨Int.le_refl _, Int.le_refl _⟩
  | succ n ih =>
    by_cases c : P n
    · rw [xcnt_t c]; omega
    · rw [xcnt_f c]; omega
/-- all of SEEN that is of a HEAD is so -/
def xsn (ca : Int → Int) (F : Int → (Nat → Int) → Int) (G : Int → Int) (σ : Vw) (p : Int) : Prop := ∀ r : Nat, (r : Int) < σ 0 3 → σ 11 r = p → xN F (xit ca G (σ 13 r).toNat σ) p (σ 12 r) = σ 14 r
noncomputable def xbo (ca : Int → Int) (F : Int → (Nat → Int) → Int) (G : Int → Int) (σ : Vw) (p i : Int) : Int := xbts (fun n => xsn ca F G (up σ 4 (6 * p + i).toNat (n : Int)) p) 10
noncomputable def xcnl (P : Nat → Prop) : Nat → Int × Int
  | 0 => (0, -5)
  | m + 1 => @ite _ (P (9 - m)) (Classical.propDecidable _) ((xcnl P m).1 + 1, ((9 - m : Nat) : Int)) (xcnl P m)
theorem xcnl_t {P : Nat → Prop} {m : Nat} (c : P (9 - m)) : xcnl P (m + 1) = ((xcnl P m).1 + 1, ((9 - m : Nat) : Int)) := if_pos c
theorem xcnl_f {P : Nat → Prop} {m : Nat} (c : ¬ P (9 - m)) : xcnl P (m + 1) = xcnl P m := if_neg c
theorem xcnl_r (P : Nat → Prop) (m : Nat) : 0 ≤ (xcnl P m).1 ∧ (xcnl P m).1 ≤ m := by
  induction m with
  | zero => exact ⟨Int.le_refl _, Int.le_refl _⟩
  | succ n ih =>
    by_cases c : P (9 - n)
    · rw [xcnl_t c]; show 0 ≤ (xcnl P n).1 + 1 ∧ (xcnl P n).1 + 1 ≤ _; omega
    · rw [xcnl_f c]; omega
def xcnP (ca : Int → Int) (F : Int → (Nat → Int) → Int) (G : Int → Int) (σ : Vw) (p : Int) (n : Nat) : Prop := xsn ca F G (up σ 2 p.toNat (n : Int)) p
noncomputable def xhb (F : Int → (Nat → Int) → Int) (σ : Vw) : Int := xbts (fun p => xhd F σ p ≠ -5) (σ 0 0).toNat
section XLO
variable {σ τ : Vw} {F : Int → (Nat → Int) → Int} {G : Int → Int} {ca cb : Int → Int} {p i x : Int} {n j k : Nat} {P Q : Nat → Prop}
theorem xlo.rf : xlo σ σ := ⟨fun _ _ _ => rfl, fun _ => rfl⟩
theorem xlst_c (e : ∀ n, P n ↔ Q n) : ∀ m i, xlst P m i = xlst Q m i := by
  intro m
  induction m with
  | zero => intro i; rfl
  | succ m ih =>
    intro i
    by_cases c : P i
    · rw [xlst_t c, xlst_t ((e i).1 c)]
    · rw [xlst_f c, xlst_f (fun q => c ((e i).2 q)), ih]
theorem xbts_c (e : ∀ n, P n ↔ Q n) : ∀ m, xbts P m = xbts Q m := by
  intro m
  induction m with
  | zero => rfl
  | succ m ih =>
    by_cases c : P m
    · rw [xbts_t c, xbts_t ((e m).1 c), ih]
    · rw [xbts_f c, xbts_f (fun q => c ((e m).2 q)), ih]
theorem xcnl_c (e : ∀ n, P n ↔ Q n) : ∀ m, xcnl P m = xcnl Q m := by
  intro m
  induction m with
  | zero => rfl
  | succ m ih =>
    by_cases c : P (9 - m)
    · rw [xcnl_t c, xcnl_t ((e _).1 c), ih]
    · rw [xcnl_f c, xcnl_f (fun q => c ((e _).2 q)), ih]
theorem xlo.fact (l : xlo σ τ) : xfact σ p i = xfact τ p i := by
  funext j
  unfold xfact
  rw [l.1 1 _ (by decide), l.1 2 _ (by decide), l.1 4 _ (by decide), l.1 0 _ (by decide)]
theorem ypit_ag {kd v s ag ag2 rw : Int} (e : ymin ag 9 = ymin ag2 9) : ypit kd v i s ag rw = ypit kd v i s ag2 rw := by
  unfold ypit
  rw [e]
theorem xlo.N (l : xlo σ τ) : xN F σ = xN F τ := by
  funext p i
  unfold xN xpit
  rw [l.fact, l.1 1 _ (by decide), l.1 2 _ (by decide), l.1 4 _ (by decide), l.1 0 _ (by decide), l.1 0 _ (by decide), l.1 5 _ (by decide), ypit_ag (l.2 _)]
theorem xlo.hd (l : xlo σ τ) : xhd F σ p = xhd F τ p := by
  unfold xhd
  rw [l.1 0 2 (by decide)]
  refine xlst_c (fun n => ?_) _ _
  unfold xmt
  rw [l.N, l.1 0 2 (by decide)]
  refine forall_congr' fun k => imp_congr_right fun _ => ?_
  rw [l.1 6 k (by decide)]
theorem xlo.snd (l : xlo σ τ) : xsnd F σ p = xsnd F τ p := by unfold xsnd; rw [l.N]
theorem xlo.all (l : xlo σ τ) : xall F σ = xall F τ := by unfold xall; rw [l.N, l.1 0 0 (by decide)]
theorem xlo.hb (l : xlo σ τ) : xhb F σ = xhb F τ := by
  unfold xhb
  rw [l.1 0 0 (by decide)]
  exact xbts_c (fun p => by rw [l.hd]) _
theorem xlo.u (l : xlo σ τ) (hj : j ≠ 3) : xlo (up σ j k x) (up τ j k x) := by
  refine ⟨fun a b q => ?_, fun b => ?_⟩
  · unfold up
    rw [l.1 a b q]
  · unfold up
    rw [if_neg (fun q => hj q.1.symm), if_neg (fun q => hj q.1.symm)]
    exact l.2 b
theorem xlo.u3 (l : xlo σ τ) {y : Int} (e : ymin x 9 = ymin y 9) : xlo (up σ 3 k x) (up τ 3 k y) := by
  refine ⟨fun a b q => ?_, fun b => ?_⟩
  · unfold up
    rw [if_neg (fun r => q r.1), if_neg (fun r => q r.1)]
    exact l.1 a b q
  · unfold up
    by_cases c : 3 = 3 ∧ b = k
    · rw [if_pos c, if_pos c]; exact e
    · rw [if_neg c, if_neg c]; exact l.2 b
/-- one way of ageing is as good as the other -/
def xcc (ca cb : Int → Int) : Prop := ∀ x y, ymin x 9 = ymin y 9 → ymin (ca x) 9 = ymin (cb y) 9
theorem xcc_am : xcc xca xcm := by
  intro x y e
  unfold xca xcm
  unfold ymin at e ⊢
  repeat' split at e
  all_goals repeat' split
  all_goals omega
theorem xlo.gh (l : xlo σ τ) (hc : xcc ca cb) {gr : Bool} {y : Int} : xlo (xgh ca gr y n σ) (xgh cb gr y n τ) := by
  induction n with
  | zero => exact l
  | succ n ih =>
    unfold xgh xgs
    have q : xlo (xgb gr y n (xgh ca gr y n σ)) (xgb gr y n (xgh cb gr y n τ)) := by
      unfold xgb
      by_cases c : gr = true
      · rw [if_pos c, if_pos c, ih.1 4 _ (by decide)]
        exact ih.u (by decide)
      · rw [if_neg c, if_neg c]
        exact ih
    exact q.u3 (hc _ _ (q.2 n))
theorem xlo.gy (l : xlo σ τ) (hc : xcc ca cb) : xlo (xgy ca G σ) (xgy cb G τ) := by
  unfold xgy
  have e : xgr G σ = xgr G τ := by unfold xgr; rw [l.1 0 6 (by decide), l.1 0 1 (by decide)]
  rw [e, l.1 0 1 (by decide), l.1 0 0 (by decide)]
  exact (l.gh hc).u (by decide)
theorem xlo.it (l : xlo σ τ) (hc : xcc ca cb) : xlo (xit ca G n σ) (xit cb G n τ) := by
  induction n with
  | zero => exact l
  | succ n ih => exact ih.gy hc
theorem xlo.ab (l : xlo σ τ) {f : Int → Int} : xlo (xab f p n σ) (xab f p n τ) := by
  induction n with
  | zero => exact l
  | succ n ih =>
    unfold xab
    rw [ih.1 4 _ (by decide)]
    exact ih.u (by decide)
theorem xlo.ps (l : xlo σ τ) (hc : xcc ca cb) : xlo (xps ca G σ n) (xps cb G τ n) := by
  unfold xps
  rw [l.1 7 n (by decide), l.1 8 n (by decide)]
  by_cases c0 : τ 7 n = 0
  · rw [if_pos c0, if_pos c0]; exact l.gy hc
  rw [if_neg c0, if_neg c0]
  by_cases c1 : τ 7 n = 1
  · rw [if_pos c1, if_pos c1]; exact l.ab
  rw [if_neg c1, if_neg c1]
  by_cases c2 : τ 7 n = 2
  · rw [if_pos c2, if_pos c2]; exact l.u3 rfl
  rw [if_neg c2, if_neg c2]
  exact l.ab
theorem xlo.pn (l : xlo σ τ) (hc : xcc ca cb) : xlo (xpn ca G n σ) (xpn cb G n τ) := by
  induction n with
  | zero => exact l
  | succ n ih => exact ih.ps hc
theorem xwh_c (hc : xcc ca cb) : xwh ca F G σ p = xwh cb F G σ p := xlst_c (fun n => by rw [(xlo.it (n := n) xlo.rf hc).hd]) _ _
theorem xsn_c (hc : xcc ca cb) : xsn ca F G σ p ↔ xsn cb F G σ p := by
  unfold xsn
  refine forall_congr' fun r => imp_congr_right fun _ => imp_congr_right fun _ => ?_
  rw [(xlo.it (n := (σ 13 r).toNat) xlo.rf hc).N]
theorem xbo_c (hc : xcc ca cb) : xbo ca F G σ p i = xbo cb F G σ p i := xbts_c (fun n => xsn_c hc) _
theorem xcn_c (hc : xcc ca cb) : xcnl (xcnP ca F G σ p) n = xcnl (xcnP cb F G σ p) n := xcnl_c (fun n => xsn_c hc) _
end XLO
