/-! ACTS -/
/-- the body that a KIND has for an act, or the next above that has one -/
def xbf (f a : Int) : Int := if a = 0 then (if f = 2 ∨ f = 5 then 30 else if f = 4 then 50 else if f = 6 then 71 else 10) else if a = 1 then (if f = 1 then 20 else if f = 4 then 51 else if f = 6 then 70 else 11) else (if f = 3 ∨ f = 6 then 40 else if f = 5 then 60 else 12)
def xal (kd : Int) : Nat → Int → Int → List Int
  | 0, _, _ => []
  | n + 1, f, a => xbf f a :: (if xbf f a = 11 then xal kd n kd 0 else if xbf f a = 12 then xal kd n kd 1 else if xbf f a = 20 then xal kd n 0 1 else if xbf f a = 30 then xal kd n 0 0 else if xbf f a = 40 then xal kd n 0 2 ++ xal kd n kd 1 else if xbf f a = 50 then xal kd n 1 0 else if xbf f a = 51 then xal kd n 1 1 else if xbf f a = 60 then xal kd n 2 2 else if xbf f a = 70 then xal kd n 3 1 ++ xal kd n 3 0 else if xbf f a = 71 then xal kd n 3 0 else [])
def xav (p kd v : Int) : Nat → Int → Int → Int → Int
  | 0, _, _, _ => 0
  | n + 1, f, a, x => if xbf f a = 10 then zw (x + p) else if xbf f a = 11 then zw (xav p kd v n kd 0 x - v) else if xbf f a = 12 then zw (xav p kd v n kd 1 x * 2) else if xbf f a = 20 then zxor (xav p kd v n 0 1 x) 6 else if xbf f a = 30 then xav p kd v n 0 0 (zw (x * 3)) else if xbf f a = 40 then zw (xav p kd v n 0 2 x + xav p kd v n kd 1 1) else if xbf f a = 50 then zw (-xav p kd v n 1 0 x) else if xbf f a = 51 then xav p kd v n 1 1 (zw (x + 1)) else if xbf f a = 60 then xav p kd v n 2 2 (zw (x - p)) else if xbf f a = 70 then zw (xav p kd v n 3 1 x + xav p kd v n 3 0 2) else if xbf f a = 71 then zxor (xav p kd v n 3 0 x) v else 0
/-- THE TRACE stands: cells c (count, in field f) and b -/
def xTr (c f b : Nat) (h h2 : Hp) (L : List Int) : Prop := Fr (fun a k => (a = c ∧ k = f) ∨ a = b) h h2 ∧ zV h2 c f = (L.length : Int) ∧ ∀ k e, k < 20 → L[k]? = some e → zV h2 b k = e
def xbb : Nat → Int → Int → Int
  | 0, _, _ => 0
  | m + 1, q, a => if 0 ≤ q ∧ q < 7 then (if (zbvT.getD 3 []).getD (3 * q + a).toNat 0 = 0 then xbb m (xab1 q) a else (zbvT.getD 3 []).getD (3 * q + a).toNat 0) else 0
section XAC
variable {zl : Nat} {nl : Option Nat} {xs : Nat → Int} {h h' h1 h2 h3 H : Hp} {d : Nat} {K : Int → Hp → Prop} {KJ : Int64 → Hp → Prop} {U : Hp → Prop} {a n s b j k i m o : Nat} {x y z t u B : Int} {p v kd f ac : Int} {L : List Int}
theorem xbb_f (hf : 0 ≤ f ∧ f < 7) (ha : 0 ≤ ac ∧ ac < 3) : xbb 7 f ac = xbf f ac := by
  have c1 : f = 0 ∨ f = 1 ∨ f = 2 ∨ f = 3 ∨ f = 4 ∨ f = 5 ∨ f = 6 := by omega
  have c2 : ac = 0 ∨ ac = 1 ∨ ac = 2 := by omega
  rcases c1 with rfl | rfl | rfl | rfl | rfl | rfl | rfl <;> rcases c2 with rfl | rfl | rfl <;> decide +kernel
theorem cp111_loop {l0 : Int} (w : yWF zl nl h) (bb : yB h) (hd : 1 ≤ d) (ha : 0 ≤ ac ∧ ac < 3) (k : K (xbb 7 f ac) h) : ∀ (m i : Nat) (q : Int) (l4 : Option Int), i + m = 7 → xbb 7 f ac = xbb m q ac → ZW d prog_2_method_6_code 0 4 [some (vI l0), some (vI ac), some (vI q), some (vI i), yo l4] [] h (yq 1 (yqI K)) := by
  intro m
  induction m with
  | zero =>
    intro i q l4 hm hx
    refine W111_4 w hd ⟨fun _ => ?_, fun c => absurd (by omega) c⟩
    rw [hx] at k
    exact k
  | succ m ih =>
    intro i q l4 hm hx
    have hx2 : xbb 7 f ac = if 0 ≤ q ∧ q < 7 then (if (zbvT.getD 3 []).getD (3 * q + ac).toNat 0 = 0 then xbb m (xab1 q) ac else (zbvT.getD 3 []).getD (3 * q + ac).toNat 0) else 0 := hx
    clear hx
    refine W111_4 w hd ⟨fun c => absurd c (by omega), fun c => ⟨fun c2 => ?_, fun c2 => ?_⟩⟩
    · have z1 : zw (zw (q * 3) + ac) = 3 * q + ac := by rw [zwi (x := q * 3) (by omega), zwi (by omega)]; omega
      rw [z1, bb 3 (by decide) (by decide), yB_ab bb c2, nz (by omega)]
      rw [if_pos c2] at hx2
      refine ⟨by omega, fun c3 => ⟨c2, ?_⟩, fun c3 => ?_⟩
      · rw [if_pos c3] at hx2
        exact ih (i + 1) _ (some _) (by omega) hx2
      · rw [if_neg c3] at hx2
        rw [hx2] at k
        exact k
    · rw [hx2, if_neg c2] at k
      exact k
theorem cp111 (w : yWF zl nl h) (bb : yB h) (hd : 1 ≤ d) (hf : 0 ≤ f ∧ f < 7) (ha : 0 ≤ ac ∧ ac < 3) (k : K (xbf f ac) h) : yI d 111 [vI f, vI ac] h K := by
  rw [← xbb_f hf ha] at k
  exact E111 w (cp111_loop w bb hd ha k 7 0 f none rfl rfl)
/-- a body more in THE TRACE -/
theorem xTr_1 {c f b : Nat} {L : List Int} {e : Int} (t : xTr c f b h h2 L) (hcb : c ≠ b) (hL : L.length < 20) : xTr c f b h (zsetV (zsetV h2 b L.length e) c f ((L.length : Int) + 1)) (L ++ [e]) := by
  obtain ⟨t1, t2, t3⟩ := t
  refine ⟨(t1.trans (Fr.set (Or.inr rfl))).trans (Fr.set (Or.inl ⟨rfl, rfl⟩)), ?_, fun k e' hk he => ?_⟩
  · rw [zV_V, if_pos ⟨rfl, rfl⟩, List.length_append]
    rfl
  · rw [zV_V, if_neg (fun q => hcb q.1.symm), zV_V]
    by_cases ck : k = L.length
    · rw [if_pos ⟨rfl, ck⟩]
      rw [ck, List.getElem?_append_right (Nat.le_refl _), Nat.sub_self] at he
      exact Option.some.inj he
    · rw [if_neg (fun q => ck q.2)]
      refine t3 k e' hk ?_
      by_cases c2 : k < L.length
      · rw [List.getElem?_append_left c2] at he
        exact he
      · rw [List.getElem?_append_right (by omega)] at he
        obtain ⟨r, hr⟩ : ∃ r, k - L.length = r + 1 := ⟨k - L.length - 1, by omega⟩
        rw [hr] at he
        cases he
theorem xTr_2 {c f b : Nat} {L : List Int} {e : Int} (t : xTr c f b h h2 L) (hcb : c ≠ b) (hL : ¬ L.length < 20) : xTr c f b h (zsetV h2 c f ((L.length : Int) + 1)) (L ++ [e]) := by
  obtain ⟨t1, t2, t3⟩ := t
  refine ⟨t1.trans (Fr.set (Or.inl ⟨rfl, rfl⟩)), ?_, fun k e' hk he => ?_⟩
  · rw [zV_V, if_pos ⟨rfl, rfl⟩, List.length_append]
    rfl
  · rw [zV_V, if_neg (fun q => hcb q.1.symm)]
    refine t3 k e' hk ?_
    rw [List.getElem?_append_left (by omega)] at he
    exact he
theorem cp112 {e : Int} (w : yWF zl nl h2) (t : xTr 94 1 95 h h2 L) (hL : L.length < 100000) (k : ∀ h', yWF zl nl h' → xTr 94 1 95 h h' (L ++ [e]) → U h') : yU d 112 [vR (some 94), vI e] h2 U := by
  have t2 := t.2.1
  refine E112 w ⟨fun c => ?_, fun c => ⟨by omega, ?_⟩⟩
  · rw [t2, zwi (by omega)]
    exact k _ (yWFV w) (xTr_2 t (by decide) (by omega))
  · intro g hg
    have e1 : zV (zsetV h2 95 (zV h2 94 1).toNat e) 94 1 = (L.length : Int) := t2
    rw [e1, t2, Int.toNat_natCast, zwi (by omega)] at hg
    rw [← hg]
    exact k _ (yWFV (yWFV w)) (xTr_1 t (by decide) (by omega))
theorem mp206 {e : Int} (w : yWF zl nl h2) (t : xTr 137 36 160 h h2 L) (hL : L.length < 100000) (k : ∀ h', yWF zl nl h' → xTr 137 36 160 h h' (L ++ [e]) → U h') : yU d 206 [vR (some 137), vI e] h2 U := by
  have t2 := t.2.1
  refine E206 w ⟨fun c => ?_, fun c => ⟨by omega, ?_⟩⟩
  · rw [t2, zwi (by omega)]
    exact k _ (yWFV w) (xTr_2 t (by decide) (by omega))
  · intro g hg
    have e1 : zV (zsetV h2 160 (zV h2 137 36).toNat e) 137 36 = (L.length : Int) := t2
    rw [e1, t2, Int.toNat_natCast, zwi (by omega)] at hg
    rw [← hg]
    exact k _ (yWFV (yWFV w)) (xTr_1 t (by decide) (by omega))
theorem xbf_r (hf : 0 ≤ f ∧ f < 7) (ha : 0 ≤ ac ∧ ac < 3) : xbf f ac = 10 ∨ xbf f ac = 11 ∨ xbf f ac = 12 ∨ xbf f ac = 20 ∨ xbf f ac = 30 ∨ xbf f ac = 40 ∨ xbf f ac = 50 ∨ xbf f ac = 51 ∨ xbf f ac = 60 ∨ xbf f ac = 70 ∨ xbf f ac = 71 := by
  unfold xbf
  repeat' split
  all_goals omega
theorem ab0 (bb : yB h) {k : Nat} {e : Int} (q : (zbvT.getD 2 []).getD k 0 = e) : zV h 2 k = e := by
  rw [bb 2 (by decide) (by decide)]
  exact q
/-- the class's bodies -/
theorem cp110 (bb : yB h) (e2 : zV h 94 2 = p) (e3 : zV h 94 3 = kd) (e4 : zV h 94 4 = v) (hk : 0 ≤ kd ∧ kd < 7) : ∀ (n : Nat) {d : Nat} {K : Int → Hp → Prop} {h2 : Hp} {f ac x dp : Int} {L : List Int}, n + 3 ≤ d → 0 ≤ dp → dp + n = 20 → 0 ≤ f ∧ f < 7 → 0 ≤ ac ∧ ac < 3 → yWF zl nl h2 → xTr 94 1 95 h h2 L → L.length + (xal kd n f ac).length < 100000 → (∀ h', yWF zl nl h' → xTr 94 1 95 h h' (L ++ xal kd n f ac) → K (xav p kd v n f ac x) h') → yI d 110 [vR (some 94), vI f, vI ac, vI x, vI dp] h2 K := by
  intro n
  induction n with
  | zero =>
    intro d K h2 f ac x dp L hd h0 hdp hf ha w t hL k
    refine E110 w (by omega) ⟨fun c => by omega, fun c => ?_⟩
    have k := k h2 w (by show xTr 94 1 95 h h2 (L ++ []); rw [List.append_nil]; exact t)
    exact k
  | succ n ih =>
    intro d K h2 f ac x dp L hd h0 hdp hf ha w t hL k
    have B : ∀ {h2 : Hp} {L : List Int}, xTr 94 1 95 h h2 L → yB h2 := fun t => t.1.B bb (fun b k q => by omega)
    have E2 : ∀ {h2 : Hp} {L : List Int}, xTr 94 1 95 h h2 L → zV h2 94 2 = p := fun t => by rw [t.1.V 94 2 (by omega)]; exact e2
    have E3 : ∀ {h2 : Hp} {L : List Int}, xTr 94 1 95 h h2 L → zV h2 94 3 = kd := fun t => by rw [t.1.V 94 3 (by omega)]; exact e3
    have E4 : ∀ {h2 : Hp} {L : List Int}, xTr 94 1 95 h h2 L → zV h2 94 4 = v := fun t => by rw [t.1.V 94 4 (by omega)]; exact e4
    have z1 : zw (dp + 1) = dp + 1 := zwi (by omega)
    refine E110 w (by omega) ⟨fun c => ?_, fun c => by omega⟩
    refine cp111 w (B t) (by omega) hf ha (W110_14 w (by omega) ?_)
    have hb := xbf_r hf ha
    unfold xal at hL k
    unfold xav at k
    generalize xbf f ac = b at hb hL k ⊢
    rw [List.length_cons] at hL
    refine cp112 w t (by omega) fun h3 w3 t3 => W110_22 w3 (by omega) ?_
    have b2 := B t3
    have l3 : (L ++ [b]).length = L.length + 1 := by rw [List.length_append]; rfl
    rw [E2 t3, E3 t3, ab0 b2 (k := 1) (e := 0) rfl, ab0 b2 (k := 2) (e := 0) rfl, ab0 b2 (k := 3) (e := 0) rfl, ab0 b2 (k := 4) (e := 1) rfl, ab0 b2 (k := 5) (e := 2) rfl, ab0 b2 (k := 6) (e := 3) rfl, z1]
    refine ⟨fun q => ?_, fun q => ?_, fun q => ?_, fun q => ?_, fun q => ?_, fun q => ?_, fun q => ?_, fun q => ?_, fun q => ?_, fun q => ?_, fun q => ?_, fun q => by omega⟩
    · subst q
      exact k h3 w3 t3
    · subst q
      refine ih (by omega) (by omega) (by omega) hk (by decide) w3 t3 (by rw [l3]; simp at hL; omega) fun h4 w4 t4 => W110_147 w4 ?_
      rw [E4 t4]
      rw [List.append_assoc] at t4
      exact k h4 w4 t4
    · subst q
      refine ih (by omega) (by omega) (by omega) hk (by decide) w3 t3 (by rw [l3]; simp at hL; omega) fun h4 w4 t4 => W110_165 w4 ?_
      rw [List.append_assoc] at t4
      exact k h4 w4 t4
    · subst q
      refine ih (by omega) (by omega) (by omega) (by decide) (by decide) w3 t3 (by rw [l3]; simp at hL; omega) fun h4 w4 t4 => W110_181 w4 ?_
      rw [List.append_assoc] at t4
      exact k h4 w4 t4
    · subst q
      refine ih (by omega) (by omega) (by omega) (by decide) (by decide) w3 t3 (by rw [l3]; simp at hL; omega) fun h4 w4 t4 => W110_200 w4 ?_
      rw [List.append_assoc] at t4
      exact k h4 w4 t4
    · subst q
      simp only [show ¬ ((40 : Int) = 11) by decide, show ¬ ((40 : Int) = 12) by decide, show ¬ ((40 : Int) = 20) by decide, show ¬ ((40 : Int) = 30) by decide, if_false, if_true, List.length_append] at hL
      refine ih (by omega) (by omega) (by omega) (by decide) (by decide) w3 t3 (by rw [l3]; omega) fun h4 w4 t4 => W110_214 w4 (by omega) ?_
      rw [E3 t4]
      refine ih (by omega) (by omega) (by omega) hk (by decide) w4 t4 (by rw [List.length_append, l3]; omega) fun h5 w5 t5 => W110_226 w5 ?_
      rw [List.append_assoc, List.append_assoc] at t5
      exact k h5 w5 t5
    · subst q
      refine ih (by omega) (by omega) (by omega) (by decide) (by decide) w3 t3 (by rw [l3]; simp at hL; omega) fun h4 w4 t4 => W110_241 w4 ?_
      rw [List.append_assoc] at t4
      exact k h4 w4 t4
    · subst q
      refine ih (by omega) (by omega) (by omega) (by decide) (by decide) w3 t3 (by rw [l3]; simp at hL; omega) fun h4 w4 t4 => W110_258 w4 ?_
      rw [List.append_assoc] at t4
      exact k h4 w4 t4
    · subst q
      refine ih (by omega) (by omega) (by omega) (by decide) (by decide) w3 t3 (by rw [l3]; simp at hL; omega) fun h4 w4 t4 => W110_277 w4 ?_
      rw [List.append_assoc] at t4
      exact k h4 w4 t4
    · subst q
      simp only [show ¬ ((70 : Int) = 11) by decide, show ¬ ((70 : Int) = 12) by decide, show ¬ ((70 : Int) = 20) by decide, show ¬ ((70 : Int) = 30) by decide, show ¬ ((70 : Int) = 40) by decide, show ¬ ((70 : Int) = 50) by decide, show ¬ ((70 : Int) = 51) by decide, show ¬ ((70 : Int) = 60) by decide, if_false, if_true, List.length_append] at hL
      refine ih (by omega) (by omega) (by omega) (by decide) (by decide) w3 t3 (by rw [l3]; omega) fun h4 w4 t4 => W110_292 w4 (by omega) ?_
      rw [ab0 (B t4) (k := 6) (e := 3) rfl]
      refine ih (by omega) (by omega) (by omega) (by decide) (by decide) w4 t4 (by rw [List.length_append, l3]; omega) fun h5 w5 t5 => W110_306 w5 ?_
      rw [List.append_assoc, List.append_assoc] at t5
      exact k h5 w5 t5
    · subst q
      refine ih (by omega) (by omega) (by omega) (by decide) (by decide) w3 t3 (by rw [l3]; simp at hL; omega) fun h4 w4 t4 => W110_322 w4 ?_
      rw [E4 t4]
      rw [List.append_assoc] at t4
      exact k h4 w4 t4
end XAC
