/-! keep AND again (printed by wip/whole/gen_keep.py) -/
def xgrp (j : Nat) : Nat := if j = 0 then 6 else if j ≤ 3 then 0 else if j = 4 then 1 else if j = 5 then 2 else if j = 6 ∨ j = 9 ∨ j = 10 then 3 else if 11 ≤ j ∧ j ≤ 14 then 4 else if j = 7 ∨ j = 8 then 5 else 7
def xdn (s p j k : Nat) : Prop := xgrp j < s ∨ (xgrp j = s ∧ k < p)
section XKP
variable {zl : Nat} {nl : Option Nat} {h h' h2 : Hp} {d : Nat} {K : Int → Hp → Prop} {U : Hp → Prop} {a n s b j k i : Nat} {x y z B : Int} {M : Nat → Nat → Prop}
theorem hvI_set (e : xcI a j k = some (b, i)) : hvI (zsetV h b i x) a = up (hvI h a) j k x := by
  funext j' k'
  unfold hvI up
  rw [cg_V]
  by_cases c : xcI a j' k' = some (b, i)
  · have h1 := (xcI_inv c).1
    rw [(xcI_inv e).1, Prod.mk.injEq] at h1
    rw [if_pos c, if_pos ⟨h1.1.symm, h1.2.symm⟩]
  · rw [if_neg c, if_neg (fun q => c (by rw [q.1, q.2]; exact e))]
theorem Fr.seb {k : Nat} : Fr (fun c _ => c = b) h (zsetV h b k x) := Fr.set (M := fun c _ => c = b) rfl
theorem hvM_b (hb : b = 161 ∨ b = 162) : hvM (zsetV h b i x) = hvM h := hvM_fr fun c k q => by
  rw [zV_V, if_neg]
  unfold xOM at q
  omega
theorem hvI_m (hb : b = 161 ∨ b = 162) (hn : a ≤ 159) : hvI (zsetV h a i x) b = hvI h b := hvI_fr fun k q => by
  rw [zV_V, if_neg (by omega)]
theorem xgp_le (h0 : j ≠ 0) (h15 : j < 15) : xgrp j < 6 := by
  have : j = 1 ∨ j = 2 ∨ j = 3 ∨ j = 4 ∨ j = 5 ∨ j = 6 ∨ j = 7 ∨ j = 8 ∨ j = 9 ∨ j = 10 ∨ j = 11 ∨ j = 12 ∨ j = 13 ∨ j = 14 := by omega
  rcases this with rfl | rfl | rfl | rfl | rfl | rfl | rfl | rfl | rfl | rfl | rfl | rfl | rfl | rfl <;> decide
theorem xz0 (hg : xgrp j = 0) (hk : 6 ≤ k) : hvI h b j k = 0 ∧ hvM h j k = 0 := by
  unfold xgrp at hg
  have hj : j = 1 ∨ j = 2 ∨ j = 3 := by
    by_cases q0 : j = 0
    · rw [if_pos q0] at hg; omega
    rw [if_neg q0] at hg
    by_cases q1 : j ≤ 3
    · rw [if_pos q1] at hg; omega
    rw [if_neg q1] at hg
    by_cases q2 : j = 4
    · rw [if_pos q2] at hg; omega
    rw [if_neg q2] at hg
    by_cases q3 : j = 5
    · rw [if_pos q3] at hg; omega
    rw [if_neg q3] at hg
    by_cases q4 : j = 6 ∨ j = 9 ∨ j = 10
    · rw [if_pos q4] at hg; omega
    rw [if_neg q4] at hg
    by_cases q5 : 11 ≤ j ∧ j ≤ 14
    · rw [if_pos q5] at hg; omega
    rw [if_neg q5] at hg
    by_cases q6 : j = 7 ∨ j = 8
    · rw [if_pos q6] at hg; omega
    rw [if_neg q6] at hg
    omega
  have e1 : xcI b j k = none := by
    unfold xcI
    repeat rw [if_neg (by omega)]
  have e2 : xcM j k = none := by
    unfold xcM
    repeat rw [if_neg (by omega)]
  unfold hvI hvM
  rw [e1, e2]
  exact ⟨rfl, rfl⟩
theorem xz1 (hg : xgrp j = 1) (hk : 36 ≤ k) : hvI h b j k = 0 ∧ hvM h j k = 0 := by
  unfold xgrp at hg
  have hj : j = 4 := by
    by_cases q0 : j = 0
    · rw [if_pos q0] at hg; omega
    rw [if_neg q0] at hg
    by_cases q1 : j ≤ 3
    · rw [if_pos q1] at hg; omega
    rw [if_neg q1] at hg
    by_cases q2 : j = 4
    · rw [if_pos q2] at hg; omega
    rw [if_neg q2] at hg
    by_cases q3 : j = 5
    · rw [if_pos q3] at hg; omega
    rw [if_neg q3] at hg
    by_cases q4 : j = 6 ∨ j = 9 ∨ j = 10
    · rw [if_pos q4] at hg; omega
    rw [if_neg q4] at hg
    by_cases q5 : 11 ≤ j ∧ j ≤ 14
    · rw [if_pos q5] at hg; omega
    rw [if_neg q5] at hg
    by_cases q6 : j = 7 ∨ j = 8
    · rw [if_pos q6] at hg; omega
    rw [if_neg q6] at hg
    omega
  have e1 : xcI b j k = none := by
    unfold xcI
    repeat rw [if_neg (by omega)]
  have e2 : xcM j k = none := by
    unfold xcM
    repeat rw [if_neg (by omega)]
  unfold hvI hvM
  rw [e1, e2]
  exact ⟨rfl, rfl⟩
theorem xz2 (hg : xgrp j = 2) (hk : 24 ≤ k) : hvI h b j k = 0 ∧ hvM h j k = 0 := by
  unfold xgrp at hg
  have hj : j = 5 := by
    by_cases q0 : j = 0
    · rw [if_pos q0] at hg; omega
    rw [if_neg q0] at hg
    by_cases q1 : j ≤ 3
    · rw [if_pos q1] at hg; omega
    rw [if_neg q1] at hg
    by_cases q2 : j = 4
    · rw [if_pos q2] at hg; omega
    rw [if_neg q2] at hg
    by_cases q3 : j = 5
    · rw [if_pos q3] at hg; omega
    rw [if_neg q3] at hg
    by_cases q4 : j = 6 ∨ j = 9 ∨ j = 10
    · rw [if_pos q4] at hg; omega
    rw [if_neg q4] at hg
    by_cases q5 : 11 ≤ j ∧ j ≤ 14
    · rw [if_pos q5] at hg; omega
    rw [if_neg q5] at hg
    by_cases q6 : j = 7 ∨ j = 8
    · rw [if_pos q6] at hg; omega
    rw [if_neg q6] at hg
    omega
  have e1 : xcI b j k = none := by
    unfold xcI
    repeat rw [if_neg (by omega)]
  have e2 : xcM j k = none := by
    unfold xcM
    repeat rw [if_neg (by omega)]
  unfold hvI hvM
  rw [e1, e2]
  exact ⟨rfl, rfl⟩
theorem xz3 (hg : xgrp j = 3) (hk : 8 ≤ k) : hvI h b j k = 0 ∧ hvM h j k = 0 := by
  unfold xgrp at hg
  have hj : j = 6 ∨ j = 9 ∨ j = 10 := by
    by_cases q0 : j = 0
    · rw [if_pos q0] at hg; omega
    rw [if_neg q0] at hg
    by_cases q1 : j ≤ 3
    · rw [if_pos q1] at hg; omega
    rw [if_neg q1] at hg
    by_cases q2 : j = 4
    · rw [if_pos q2] at hg; omega
    rw [if_neg q2] at hg
    by_cases q3 : j = 5
    · rw [if_pos q3] at hg; omega
    rw [if_neg q3] at hg
    by_cases q4 : j = 6 ∨ j = 9 ∨ j = 10
    · rw [if_pos q4] at hg; omega
    rw [if_neg q4] at hg
    by_cases q5 : 11 ≤ j ∧ j ≤ 14
    · rw [if_pos q5] at hg; omega
    rw [if_neg q5] at hg
    by_cases q6 : j = 7 ∨ j = 8
    · rw [if_pos q6] at hg; omega
    rw [if_neg q6] at hg
    omega
  have e1 : xcI b j k = none := by
    unfold xcI
    repeat rw [if_neg (by omega)]
  have e2 : xcM j k = none := by
    unfold xcM
    repeat rw [if_neg (by omega)]
  unfold hvI hvM
  rw [e1, e2]
  exact ⟨rfl, rfl⟩
theorem xz4 (hg : xgrp j = 4) (hk : 5 ≤ k) : hvI h b j k = 0 ∧ hvM h j k = 0 := by
  unfold xgrp at hg
  have hj : j = 11 ∨ j = 12 ∨ j = 13 ∨ j = 14 := by
    by_cases q0 : j = 0
    · rw [if_pos q0] at hg; omega
    rw [if_neg q0] at hg
    by_cases q1 : j ≤ 3
    · rw [if_pos q1] at hg; omega
    rw [if_neg q1] at hg
    by_cases q2 : j = 4
    · rw [if_pos q2] at hg; omega
    rw [if_neg q2] at hg
    by_cases q3 : j = 5
    · rw [if_pos q3] at hg; omega
    rw [if_neg q3] at hg
    by_cases q4 : j = 6 ∨ j = 9 ∨ j = 10
    · rw [if_pos q4] at hg; omega
    rw [if_neg q4] at hg
    by_cases q5 : 11 ≤ j ∧ j ≤ 14
    · rw [if_pos q5] at hg; omega
    rw [if_neg q5] at hg
    by_cases q6 : j = 7 ∨ j = 8
    · rw [if_pos q6] at hg; omega
    rw [if_neg q6] at hg
    omega
  have e1 : xcI b j k = none := by
    unfold xcI
    repeat rw [if_neg (by omega)]
  have e2 : xcM j k = none := by
    unfold xcM
    repeat rw [if_neg (by omega)]
  unfold hvI hvM
  rw [e1, e2]
  exact ⟨rfl, rfl⟩
theorem xz5 (hg : xgrp j = 5) (hk : 10 ≤ k) : hvI h b j k = 0 ∧ hvM h j k = 0 := by
  unfold xgrp at hg
  have hj : j = 7 ∨ j = 8 := by
    by_cases q0 : j = 0
    · rw [if_pos q0] at hg; omega
    rw [if_neg q0] at hg
    by_cases q1 : j ≤ 3
    · rw [if_pos q1] at hg; omega
    rw [if_neg q1] at hg
    by_cases q2 : j = 4
    · rw [if_pos q2] at hg; omega
    rw [if_neg q2] at hg
    by_cases q3 : j = 5
    · rw [if_pos q3] at hg; omega
    rw [if_neg q3] at hg
    by_cases q4 : j = 6 ∨ j = 9 ∨ j = 10
    · rw [if_pos q4] at hg; omega
    rw [if_neg q4] at hg
    by_cases q5 : 11 ≤ j ∧ j ≤ 14
    · rw [if_pos q5] at hg; omega
    rw [if_neg q5] at hg
    by_cases q6 : j = 7 ∨ j = 8
    · rw [if_pos q6] at hg; omega
    rw [if_neg q6] at hg
    omega
  have e1 : xcI b j k = none := by
    unfold xcI
    repeat rw [if_neg (by omega)]
  have e2 : xcM j k = none := by
    unfold xcM
    repeat rw [if_neg (by omega)]
  unfold hvI hvM
  rw [e1, e2]
  exact ⟨rfl, rfl⟩
theorem xgj0 (hg : xgrp j = 0) : j = 1 ∨ j = 2 ∨ j = 3 := by
  unfold xgrp at hg
  by_cases q0 : j = 0
  · rw [if_pos q0] at hg; omega
  rw [if_neg q0] at hg
  by_cases q1 : j ≤ 3
  · rw [if_pos q1] at hg; omega
  rw [if_neg q1] at hg
  by_cases q2 : j = 4
  · rw [if_pos q2] at hg; omega
  rw [if_neg q2] at hg
  by_cases q3 : j = 5
  · rw [if_pos q3] at hg; omega
  rw [if_neg q3] at hg
  by_cases q4 : j = 6 ∨ j = 9 ∨ j = 10
  · rw [if_pos q4] at hg; omega
  rw [if_neg q4] at hg
  by_cases q5 : 11 ≤ j ∧ j ≤ 14
  · rw [if_pos q5] at hg; omega
  rw [if_neg q5] at hg
  by_cases q6 : j = 7 ∨ j = 8
  · rw [if_pos q6] at hg; omega
  rw [if_neg q6] at hg
  omega
theorem xgj1 (hg : xgrp j = 1) : j = 4 := by
  unfold xgrp at hg
  by_cases q0 : j = 0
  · rw [if_pos q0] at hg; omega
  rw [if_neg q0] at hg
  by_cases q1 : j ≤ 3
  · rw [if_pos q1] at hg; omega
  rw [if_neg q1] at hg
  by_cases q2 : j = 4
  · rw [if_pos q2] at hg; omega
  rw [if_neg q2] at hg
  by_cases q3 : j = 5
  · rw [if_pos q3] at hg; omega
  rw [if_neg q3] at hg
  by_cases q4 : j = 6 ∨ j = 9 ∨ j = 10
  · rw [if_pos q4] at hg; omega
  rw [if_neg q4] at hg
  by_cases q5 : 11 ≤ j ∧ j ≤ 14
  · rw [if_pos q5] at hg; omega
  rw [if_neg q5] at hg
  by_cases q6 : j = 7 ∨ j = 8
  · rw [if_pos q6] at hg; omega
  rw [if_neg q6] at hg
  omega
theorem xgj2 (hg : xgrp j = 2) : j = 5 := by
  unfold xgrp at hg
  by_cases q0 : j = 0
  · rw [if_pos q0] at hg; omega
  rw [if_neg q0] at hg
  by_cases q1 : j ≤ 3
  · rw [if_pos q1] at hg; omega
  rw [if_neg q1] at hg
  by_cases q2 : j = 4
  · rw [if_pos q2] at hg; omega
  rw [if_neg q2] at hg
  by_cases q3 : j = 5
  · rw [if_pos q3] at hg; omega
  rw [if_neg q3] at hg
  by_cases q4 : j = 6 ∨ j = 9 ∨ j = 10
  · rw [if_pos q4] at hg; omega
  rw [if_neg q4] at hg
  by_cases q5 : 11 ≤ j ∧ j ≤ 14
  · rw [if_pos q5] at hg; omega
  rw [if_neg q5] at hg
  by_cases q6 : j = 7 ∨ j = 8
  · rw [if_pos q6] at hg; omega
  rw [if_neg q6] at hg
  omega
theorem xgj3 (hg : xgrp j = 3) : j = 6 ∨ j = 9 ∨ j = 10 := by
  unfold xgrp at hg
  by_cases q0 : j = 0
  · rw [if_pos q0] at hg; omega
  rw [if_neg q0] at hg
  by_cases q1 : j ≤ 3
  · rw [if_pos q1] at hg; omega
  rw [if_neg q1] at hg
  by_cases q2 : j = 4
  · rw [if_pos q2] at hg; omega
  rw [if_neg q2] at hg
  by_cases q3 : j = 5
  · rw [if_pos q3] at hg; omega
  rw [if_neg q3] at hg
  by_cases q4 : j = 6 ∨ j = 9 ∨ j = 10
  · rw [if_pos q4] at hg; omega
  rw [if_neg q4] at hg
  by_cases q5 : 11 ≤ j ∧ j ≤ 14
  · rw [if_pos q5] at hg; omega
  rw [if_neg q5] at hg
  by_cases q6 : j = 7 ∨ j = 8
  · rw [if_pos q6] at hg; omega
  rw [if_neg q6] at hg
  omega
theorem xgj4 (hg : xgrp j = 4) : j = 11 ∨ j = 12 ∨ j = 13 ∨ j = 14 := by
  unfold xgrp at hg
  by_cases q0 : j = 0
  · rw [if_pos q0] at hg; omega
  rw [if_neg q0] at hg
  by_cases q1 : j ≤ 3
  · rw [if_pos q1] at hg; omega
  rw [if_neg q1] at hg
  by_cases q2 : j = 4
  · rw [if_pos q2] at hg; omega
  rw [if_neg q2] at hg
  by_cases q3 : j = 5
  · rw [if_pos q3] at hg; omega
  rw [if_neg q3] at hg
  by_cases q4 : j = 6 ∨ j = 9 ∨ j = 10
  · rw [if_pos q4] at hg; omega
  rw [if_neg q4] at hg
  by_cases q5 : 11 ≤ j ∧ j ≤ 14
  · rw [if_pos q5] at hg; omega
  rw [if_neg q5] at hg
  by_cases q6 : j = 7 ∨ j = 8
  · rw [if_pos q6] at hg; omega
  rw [if_neg q6] at hg
  omega
theorem xgj5 (hg : xgrp j = 5) : j = 7 ∨ j = 8 := by
  unfold xgrp at hg
  by_cases q0 : j = 0
  · rw [if_pos q0] at hg; omega
  rw [if_neg q0] at hg
  by_cases q1 : j ≤ 3
  · rw [if_pos q1] at hg; omega
  rw [if_neg q1] at hg
  by_cases q2 : j = 4
  · rw [if_pos q2] at hg; omega
  rw [if_neg q2] at hg
  by_cases q3 : j = 5
  · rw [if_pos q3] at hg; omega
  rw [if_neg q3] at hg
  by_cases q4 : j = 6 ∨ j = 9 ∨ j = 10
  · rw [if_pos q4] at hg; omega
  rw [if_neg q4] at hg
  by_cases q5 : 11 ≤ j ∧ j ≤ 14
  · rw [if_pos q5] at hg; omega
  rw [if_neg q5] at hg
  by_cases q6 : j = 7 ∨ j = 8
  · rw [if_pos q6] at hg; omega
  rw [if_neg q6] at hg
  omega
theorem xk141_5 (hb : b = 161 ∨ b = 162) (k : ∀ h', yWF zl nl h' → Fr (fun c _ => c = b) h h' → hvI h' b = hvM h → U h') : ∀ (m p : Nat) (h2 : Hp), p + m = 10 → yWF zl nl h2 → Fr (fun c _ => c = b) h h2 → (∀ j k, xdn 5 p j k → hvI h2 b j k = hvM h j k) → ZW d prog_10_method_57_code 8 212 [some (vR (some 137)), some (vR (some b)), some (vI p)] [] h2 (yq 0 (yqU U)) := by
  have sb : ∀ {h2 : Hp}, yWF zl nl h2 → zS h2 b = (1, 152) := by
    intro h2 w2
    rcases hb with rfl | rfl
    · exact ys161 w2
    · exact ys162 w2
  intro m
  induction m with
  | zero =>
    intro p h2 hm w2 f2 v2
    obtain rfl : p = 10 := by omega
    have v3 : (∀ j k, xdn 6 0 j k → hvI h2 b j k = hvM h j k) := by
      intro j k hd
      by_cases c : xgrp j = 5 ∧ 10 ≤ k
      · rw [(xz5 (h := h2) (b := b) c.1 c.2).1, (xz5 (h := h) (b := b) c.1 c.2).2]
      · exact v2 j k (by unfold xdn at hd ⊢; omega)
    refine W141_212 w2 (sb w2) (by omega) ⟨fun _ => ?_, fun c => absurd (by decide) c⟩
    rintro _ rfl _ rfl _ rfl
    refine k _ w2 ((((((((f2.trans Fr.seb).trans Fr.seb).trans Fr.seb).trans Fr.seb).trans Fr.seb).trans Fr.seb).trans Fr.seb)) ?_
    have src : ∀ {h3 : Hp}, Fr (fun c _ => c = b) h h3 → hvM h3 = hvM h := fun f => f.hvM (fun c k q => by unfold xOM at q; omega)
    have g0 := src f2
    rw [hvI_set (a := b) (j := 0) (k := 6) (b := b) (i := 148) (by simp [xcI])]
    rw [hvI_set (a := b) (j := 0) (k := 5) (b := b) (i := 147) (by simp [xcI])]
    rw [hvI_set (a := b) (j := 0) (k := 4) (b := b) (i := 146) (by simp [xcI])]
    rw [hvI_set (a := b) (j := 0) (k := 3) (b := b) (i := 145) (by simp [xcI])]
    rw [hvI_set (a := b) (j := 0) (k := 1) (b := b) (i := 144) (by simp [xcI])]
    rw [hvI_set (a := b) (j := 0) (k := 2) (b := b) (i := 143) (by simp [xcI])]
    rw [hvI_set (a := b) (j := 0) (k := 0) (b := b) (i := 142) (by simp [xcI])]
    have nb : b ≠ 137 := by omega
    simp only [zV_V, nb, Ne.symm nb, false_and, if_false]
    funext j k
    unfold up
    by_cases c6 : j = 0 ∧ k = 6
    · rw [if_pos c6, c6.1, c6.2, ← g0]; rfl
    rw [if_neg c6]
    by_cases c5 : j = 0 ∧ k = 5
    · rw [if_pos c5, c5.1, c5.2, ← g0]; rfl
    rw [if_neg c5]
    by_cases c4 : j = 0 ∧ k = 4
    · rw [if_pos c4, c4.1, c4.2, ← g0]; rfl
    rw [if_neg c4]
    by_cases c3 : j = 0 ∧ k = 3
    · rw [if_pos c3, c3.1, c3.2, ← g0]; rfl
    rw [if_neg c3]
    by_cases c1 : j = 0 ∧ k = 1
    · rw [if_pos c1, c1.1, c1.2, ← g0]; rfl
    rw [if_neg c1]
    by_cases c2 : j = 0 ∧ k = 2
    · rw [if_pos c2, c2.1, c2.2, ← g0]; rfl
    rw [if_neg c2]
    by_cases c0 : j = 0 ∧ k = 0
    · rw [if_pos c0, c0.1, c0.2, ← g0]; rfl
    rw [if_neg c0]
    by_cases c7 : j = 0
    · subst c7
      have e1 : xcI b 0 k = none := by unfold xcI; repeat rw [if_neg (by omega)]
      have e2 : xcM 0 k = none := by unfold xcM; repeat rw [if_neg (by omega)]
      unfold hvI hvM
      rw [e1, e2]
      rfl
    · by_cases c8 : 15 ≤ j
      · have e1 : xcI b j k = none := by unfold xcI; repeat rw [if_neg (by omega)]
        have e2 : xcM j k = none := by unfold xcM; repeat rw [if_neg (by omega)]
        unfold hvI hvM
        rw [e1, e2]
        rfl
      · exact v3 j k (Or.inl (xgp_le c7 (by omega)))
  | succ m ih =>
    intro p h2 hm w2 f2 v2
    have z122 : zw (122 + (p : Int)) = ((122 + p : Nat) : Int) := by rw [zwi (by omega)]; omega
    have z132 : zw (132 + (p : Int)) = ((132 + p : Nat) : Int) := by rw [zwi (by omega)]; omega
    refine W141_212 w2 (sb w2) (by omega) ⟨fun c => absurd c (by omega), fun c => ?_⟩
    have zp := nz (i := p) (by omega)
    simp only [z122, z132, zp, Int.toNat_natCast]
    refine ⟨by omega, by omega, by omega, by omega, ?_⟩
    rintro _ rfl
    refine ih (p + 1) _ ?_ ?_ ?_ ?_
    · omega
    · exact w2
    · exact ((f2.trans Fr.seb).trans Fr.seb)
    have g0 : hvM h2 = hvM h := f2.hvM (fun c k q => by unfold xOM at q; omega)
    rw [hvI_set (a := b) (j := 8) (k := p) (b := b) (i := 132 + p) (xI_8 (by omega))]
    rw [hvI_set (a := b) (j := 7) (k := p) (b := b) (i := 122 + p) (xI_7 (by omega))]
    have nb : b ≠ 137 ∧ b ≠ 138 ∧ b ≠ 139 ∧ b ≠ 140 ∧ b ≠ 141 ∧ b ≠ 142 ∧ b ≠ 143 ∧ b ≠ 152 ∧ b ≠ 153 ∧ b ≠ 154 ∧ b ≠ 155 ∧ b ≠ 156 ∧ b ≠ 157 ∧ b ≠ 158 ∧ b ≠ 159 := by omega
    have n148 : ¬ (156 = b) := by omega
    have n149 : ¬ (157 = b) := by omega
    simp only [zV_V, n148, n149, false_and, if_false]
    rw [← vM_7 (h := h2) (k := p) (by omega)]
    rw [← vM_8 (h := h2) (k := p) (by omega)]
    rw [g0]
    intro j k hd
    unfold up
    by_cases c8 : j = 8 ∧ k = p
    · rw [if_pos c8, c8.1, c8.2]
    rw [if_neg c8]
    by_cases c7 : j = 7 ∧ k = p
    · rw [if_pos c7, c7.1, c7.2]
    rw [if_neg c7]
    refine v2 j k ?_
    unfold xdn at hd ⊢
    have := @xgj5 j
    omega
theorem xk141_4 (hb : b = 161 ∨ b = 162) (k : ∀ h', yWF zl nl h' → Fr (fun c _ => c = b) h h' → hvI h' b = hvM h → U h') : ∀ (m p : Nat) (h2 : Hp), p + m = 5 → yWF zl nl h2 → Fr (fun c _ => c = b) h h2 → (∀ j k, xdn 4 p j k → hvI h2 b j k = hvM h j k) → ZW d prog_10_method_57_code 8 151 [some (vR (some 137)), some (vR (some b)), some (vI p)] [] h2 (yq 0 (yqU U)) := by
  have sb : ∀ {h2 : Hp}, yWF zl nl h2 → zS h2 b = (1, 152) := by
    intro h2 w2
    rcases hb with rfl | rfl
    · exact ys161 w2
    · exact ys162 w2
  intro m
  induction m with
  | zero =>
    intro p h2 hm w2 f2 v2
    obtain rfl : p = 5 := by omega
    have v3 : (∀ j k, xdn 5 0 j k → hvI h2 b j k = hvM h j k) := by
      intro j k hd
      by_cases c : xgrp j = 4 ∧ 5 ≤ k
      · rw [(xz4 (h := h2) (b := b) c.1 c.2).1, (xz4 (h := h) (b := b) c.1 c.2).2]
      · exact v2 j k (by unfold xdn at hd ⊢; omega)
    refine W141_151 w2 (sb w2) (by omega) ⟨fun _ => ?_, fun c => absurd (by decide) c⟩
    exact xk141_5 hb k 10 0 h2 (by omega) w2 f2 v3
  | succ m ih =>
    intro p h2 hm w2 f2 v2
    have z102 : zw (102 + (p : Int)) = ((102 + p : Nat) : Int) := by rw [zwi (by omega)]; omega
    have z107 : zw (107 + (p : Int)) = ((107 + p : Nat) : Int) := by rw [zwi (by omega)]; omega
    have z112 : zw (112 + (p : Int)) = ((112 + p : Nat) : Int) := by rw [zwi (by omega)]; omega
    have z117 : zw (117 + (p : Int)) = ((117 + p : Nat) : Int) := by rw [zwi (by omega)]; omega
    refine W141_151 w2 (sb w2) (by omega) ⟨fun c => absurd c (by omega), fun c => ?_⟩
    have zp := nz (i := p) (by omega)
    simp only [z102, z107, z112, z117, zp, Int.toNat_natCast]
    refine ⟨by omega, by omega, by omega, by omega, ?_⟩
    rintro _ rfl
    refine ⟨by omega, by omega, by omega, by omega, ?_⟩
    rintro _ rfl
    refine ih (p + 1) _ ?_ ?_ ?_ ?_
    · omega
    · exact w2
    · exact ((((f2.trans Fr.seb).trans Fr.seb).trans Fr.seb).trans Fr.seb)
    have g0 : hvM h2 = hvM h := f2.hvM (fun c k q => by unfold xOM at q; omega)
    rw [hvI_set (a := b) (j := 14) (k := p) (b := b) (i := 117 + p) (xI_14 (by omega))]
    rw [hvI_set (a := b) (j := 13) (k := p) (b := b) (i := 112 + p) (xI_13 (by omega))]
    rw [hvI_set (a := b) (j := 12) (k := p) (b := b) (i := 107 + p) (xI_12 (by omega))]
    rw [hvI_set (a := b) (j := 11) (k := p) (b := b) (i := 102 + p) (xI_11 (by omega))]
    have nb : b ≠ 137 ∧ b ≠ 138 ∧ b ≠ 139 ∧ b ≠ 140 ∧ b ≠ 141 ∧ b ≠ 142 ∧ b ≠ 143 ∧ b ≠ 152 ∧ b ≠ 153 ∧ b ≠ 154 ∧ b ≠ 155 ∧ b ≠ 156 ∧ b ≠ 157 ∧ b ≠ 158 ∧ b ≠ 159 := by omega
    have n144 : ¬ (152 = b) := by omega
    have n145 : ¬ (153 = b) := by omega
    have n146 : ¬ (154 = b) := by omega
    have n147 : ¬ (155 = b) := by omega
    simp only [zV_V, n144, n145, n146, n147, false_and, if_false]
    rw [← vM_11 (h := h2) (k := p) (by omega)]
    rw [← vM_12 (h := h2) (k := p) (by omega)]
    rw [← vM_13 (h := h2) (k := p) (by omega)]
    rw [← vM_14 (h := h2) (k := p) (by omega)]
    rw [g0]
    intro j k hd
    unfold up
    by_cases c14 : j = 14 ∧ k = p
    · rw [if_pos c14, c14.1, c14.2]
    rw [if_neg c14]
    by_cases c13 : j = 13 ∧ k = p
    · rw [if_pos c13, c13.1, c13.2]
    rw [if_neg c13]
    by_cases c12 : j = 12 ∧ k = p
    · rw [if_pos c12, c12.1, c12.2]
    rw [if_neg c12]
    by_cases c11 : j = 11 ∧ k = p
    · rw [if_pos c11, c11.1, c11.2]
    rw [if_neg c11]
    refine v2 j k ?_
    unfold xdn at hd ⊢
    have := @xgj4 j
    omega
theorem xk141_3 (hb : b = 161 ∨ b = 162) (k : ∀ h', yWF zl nl h' → Fr (fun c _ => c = b) h h' → hvI h' b = hvM h → U h') : ∀ (m p : Nat) (h2 : Hp), p + m = 8 → yWF zl nl h2 → Fr (fun c _ => c = b) h h2 → (∀ j k, xdn 3 p j k → hvI h2 b j k = hvM h j k) → ZW d prog_10_method_57_code 8 101 [some (vR (some 137)), some (vR (some b)), some (vI p)] [] h2 (yq 0 (yqU U)) := by
  have sb : ∀ {h2 : Hp}, yWF zl nl h2 → zS h2 b = (1, 152) := by
    intro h2 w2
    rcases hb with rfl | rfl
    · exact ys161 w2
    · exact ys162 w2
  intro m
  induction m with
  | zero =>
    intro p h2 hm w2 f2 v2
    obtain rfl : p = 8 := by omega
    have v3 : (∀ j k, xdn 4 0 j k → hvI h2 b j k = hvM h j k) := by
      intro j k hd
      by_cases c : xgrp j = 3 ∧ 8 ≤ k
      · rw [(xz3 (h := h2) (b := b) c.1 c.2).1, (xz3 (h := h) (b := b) c.1 c.2).2]
      · exact v2 j k (by unfold xdn at hd ⊢; omega)
    refine W141_101 w2 (sb w2) (by omega) ⟨fun _ => ?_, fun c => absurd (by decide) c⟩
    exact xk141_4 hb k 5 0 h2 (by omega) w2 f2 v3
  | succ m ih =>
    intro p h2 hm w2 f2 v2
    have z78 : zw (78 + (p : Int)) = ((78 + p : Nat) : Int) := by rw [zwi (by omega)]; omega
    have z86 : zw (86 + (p : Int)) = ((86 + p : Nat) : Int) := by rw [zwi (by omega)]; omega
    have z94 : zw (94 + (p : Int)) = ((94 + p : Nat) : Int) := by rw [zwi (by omega)]; omega
    refine W141_101 w2 (sb w2) (by omega) ⟨fun c => absurd c (by omega), fun c => ?_⟩
    have zp := nz (i := p) (by omega)
    simp only [z78, z86, z94, zp, Int.toNat_natCast]
    refine ⟨by omega, by omega, by omega, by omega, ?_⟩
    rintro _ rfl
    refine ⟨by omega, by omega, ?_⟩
    refine ih (p + 1) _ ?_ ?_ ?_ ?_
    · omega
    · exact w2
    · exact (((f2.trans Fr.seb).trans Fr.seb).trans Fr.seb)
    have g0 : hvM h2 = hvM h := f2.hvM (fun c k q => by unfold xOM at q; omega)
    rw [hvI_set (a := b) (j := 10) (k := p) (b := b) (i := 94 + p) (xI_10 (by omega))]
    rw [hvI_set (a := b) (j := 9) (k := p) (b := b) (i := 86 + p) (xI_9 (by omega))]
    rw [hvI_set (a := b) (j := 6) (k := p) (b := b) (i := 78 + p) (xI_6 (by omega))]
    have nb : b ≠ 137 ∧ b ≠ 138 ∧ b ≠ 139 ∧ b ≠ 140 ∧ b ≠ 141 ∧ b ≠ 142 ∧ b ≠ 143 ∧ b ≠ 152 ∧ b ≠ 153 ∧ b ≠ 154 ∧ b ≠ 155 ∧ b ≠ 156 ∧ b ≠ 157 ∧ b ≠ 158 ∧ b ≠ 159 := by omega
    have n135 : ¬ (143 = b) := by omega
    have n150 : ¬ (158 = b) := by omega
    have n151 : ¬ (159 = b) := by omega
    simp only [zV_V, n135, n150, n151, false_and, if_false]
    rw [← vM_6 (h := h2) (k := p) (by omega)]
    rw [← vM_9 (h := h2) (k := p) (by omega)]
    rw [← vM_10 (h := h2) (k := p) (by omega)]
    rw [g0]
    intro j k hd
    unfold up
    by_cases c10 : j = 10 ∧ k = p
    · rw [if_pos c10, c10.1, c10.2]
    rw [if_neg c10]
    by_cases c9 : j = 9 ∧ k = p
    · rw [if_pos c9, c9.1, c9.2]
    rw [if_neg c9]
    by_cases c6 : j = 6 ∧ k = p
    · rw [if_pos c6, c6.1, c6.2]
    rw [if_neg c6]
    refine v2 j k ?_
    unfold xdn at hd ⊢
    have := @xgj3 j
    omega
theorem xk141_2 (hb : b = 161 ∨ b = 162) (k : ∀ h', yWF zl nl h' → Fr (fun c _ => c = b) h h' → hvI h' b = hvM h → U h') : ∀ (m p : Nat) (h2 : Hp), p + m = 24 → yWF zl nl h2 → Fr (fun c _ => c = b) h h2 → (∀ j k, xdn 2 p j k → hvI h2 b j k = hvM h j k) → ZW d prog_10_method_57_code 8 75 [some (vR (some 137)), some (vR (some b)), some (vI p)] [] h2 (yq 0 (yqU U)) := by
  have sb : ∀ {h2 : Hp}, yWF zl nl h2 → zS h2 b = (1, 152) := by
    intro h2 w2
    rcases hb with rfl | rfl
    · exact ys161 w2
    · exact ys162 w2
  intro m
  induction m with
  | zero =>
    intro p h2 hm w2 f2 v2
    obtain rfl : p = 24 := by omega
    have v3 : (∀ j k, xdn 3 0 j k → hvI h2 b j k = hvM h j k) := by
      intro j k hd
      by_cases c : xgrp j = 2 ∧ 24 ≤ k
      · rw [(xz2 (h := h2) (b := b) c.1 c.2).1, (xz2 (h := h) (b := b) c.1 c.2).2]
      · exact v2 j k (by unfold xdn at hd ⊢; omega)
    refine W141_75 w2 (sb w2) (by omega) ⟨fun _ => ?_, fun c => absurd (by decide) c⟩
    exact xk141_3 hb k 8 0 h2 (by omega) w2 f2 v3
  | succ m ih =>
    intro p h2 hm w2 f2 v2
    have z54 : zw (54 + (p : Int)) = ((54 + p : Nat) : Int) := by rw [zwi (by omega)]; omega
    refine W141_75 w2 (sb w2) (by omega) ⟨fun c => absurd c (by omega), fun c => ?_⟩
    have zp := nz (i := p) (by omega)
    simp only [z54, zp, Int.toNat_natCast]
    refine ⟨by omega, by omega, ?_⟩
    refine ih (p + 1) _ ?_ ?_ ?_ ?_
    · omega
    · exact w2
    · exact (f2.trans Fr.seb)
    have g0 : hvM h2 = hvM h := f2.hvM (fun c k q => by unfold xOM at q; omega)
    rw [hvI_set (a := b) (j := 5) (k := p) (b := b) (i := 54 + p) (xI_5 (by omega))]
    have nb : b ≠ 137 ∧ b ≠ 138 ∧ b ≠ 139 ∧ b ≠ 140 ∧ b ≠ 141 ∧ b ≠ 142 ∧ b ≠ 143 ∧ b ≠ 152 ∧ b ≠ 153 ∧ b ≠ 154 ∧ b ≠ 155 ∧ b ≠ 156 ∧ b ≠ 157 ∧ b ≠ 158 ∧ b ≠ 159 := by omega
    have n134 : ¬ (142 = b) := by omega
    rw [← vM_5 (h := h2) (k := p) (by omega)]
    rw [g0]
    intro j k hd
    unfold up
    by_cases c5 : j = 5 ∧ k = p
    · rw [if_pos c5, c5.1, c5.2]
    rw [if_neg c5]
    refine v2 j k ?_
    unfold xdn at hd ⊢
    have := @xgj2 j
    omega
theorem xk141_1 (hb : b = 161 ∨ b = 162) (k : ∀ h', yWF zl nl h' → Fr (fun c _ => c = b) h h' → hvI h' b = hvM h → U h') : ∀ (m p : Nat) (h2 : Hp), p + m = 36 → yWF zl nl h2 → Fr (fun c _ => c = b) h h2 → (∀ j k, xdn 1 p j k → hvI h2 b j k = hvM h j k) → ZW d prog_10_method_57_code 8 49 [some (vR (some 137)), some (vR (some b)), some (vI p)] [] h2 (yq 0 (yqU U)) := by
  have sb : ∀ {h2 : Hp}, yWF zl nl h2 → zS h2 b = (1, 152) := by
    intro h2 w2
    rcases hb with rfl | rfl
    · exact ys161 w2
    · exact ys162 w2
  intro m
  induction m with
  | zero =>
    intro p h2 hm w2 f2 v2
    obtain rfl : p = 36 := by omega
    have v3 : (∀ j k, xdn 2 0 j k → hvI h2 b j k = hvM h j k) := by
      intro j k hd
      by_cases c : xgrp j = 1 ∧ 36 ≤ k
      · rw [(xz1 (h := h2) (b := b) c.1 c.2).1, (xz1 (h := h) (b := b) c.1 c.2).2]
      · exact v2 j k (by unfold xdn at hd ⊢; omega)
    refine W141_49 w2 (sb w2) (by omega) ⟨fun _ => ?_, fun c => absurd (by decide) c⟩
    exact xk141_2 hb k 24 0 h2 (by omega) w2 f2 v3
  | succ m ih =>
    intro p h2 hm w2 f2 v2
    have z18 : zw (18 + (p : Int)) = ((18 + p : Nat) : Int) := by rw [zwi (by omega)]; omega
    refine W141_49 w2 (sb w2) (by omega) ⟨fun c => absurd c (by omega), fun c => ?_⟩
    have zp := nz (i := p) (by omega)
    simp only [z18, zp, Int.toNat_natCast]
    refine ⟨by omega, by omega, ?_⟩
    refine ih (p + 1) _ ?_ ?_ ?_ ?_
    · omega
    · exact w2
    · exact (f2.trans Fr.seb)
    have g0 : hvM h2 = hvM h := f2.hvM (fun c k q => by unfold xOM at q; omega)
    rw [hvI_set (a := b) (j := 4) (k := p) (b := b) (i := 18 + p) (xI_4 (by omega))]
    have nb : b ≠ 137 ∧ b ≠ 138 ∧ b ≠ 139 ∧ b ≠ 140 ∧ b ≠ 141 ∧ b ≠ 142 ∧ b ≠ 143 ∧ b ≠ 152 ∧ b ≠ 153 ∧ b ≠ 154 ∧ b ≠ 155 ∧ b ≠ 156 ∧ b ≠ 157 ∧ b ≠ 158 ∧ b ≠ 159 := by omega
    have n132 : ¬ (140 = b) := by omega
    rw [← vM_4 (h := h2) (k := p) (by omega)]
    rw [g0]
    intro j k hd
    unfold up
    by_cases c4 : j = 4 ∧ k = p
    · rw [if_pos c4, c4.1, c4.2]
    rw [if_neg c4]
    refine v2 j k ?_
    unfold xdn at hd ⊢
    have := @xgj1 j
    omega
theorem xk141_0 (hb : b = 161 ∨ b = 162) (k : ∀ h', yWF zl nl h' → Fr (fun c _ => c = b) h h' → hvI h' b = hvM h → U h') : ∀ (m p : Nat) (h2 : Hp), p + m = 6 → yWF zl nl h2 → Fr (fun c _ => c = b) h h2 → (∀ j k, xdn 0 p j k → hvI h2 b j k = hvM h j k) → ZW d prog_10_method_57_code 8 2 [some (vR (some 137)), some (vR (some b)), some (vI p)] [] h2 (yq 0 (yqU U)) := by
  have sb : ∀ {h2 : Hp}, yWF zl nl h2 → zS h2 b = (1, 152) := by
    intro h2 w2
    rcases hb with rfl | rfl
    · exact ys161 w2
    · exact ys162 w2
  intro m
  induction m with
  | zero =>
    intro p h2 hm w2 f2 v2
    obtain rfl : p = 6 := by omega
    have v3 : (∀ j k, xdn 1 0 j k → hvI h2 b j k = hvM h j k) := by
      intro j k hd
      by_cases c : xgrp j = 0 ∧ 6 ≤ k
      · rw [(xz0 (h := h2) (b := b) c.1 c.2).1, (xz0 (h := h) (b := b) c.1 c.2).2]
      · exact v2 j k (by unfold xdn at hd ⊢; omega)
    refine W141_2 w2 (sb w2) (by omega) ⟨fun _ => ?_, fun c => absurd (by decide) c⟩
    exact xk141_1 hb k 36 0 h2 (by omega) w2 f2 v3
  | succ m ih =>
    intro p h2 hm w2 f2 v2
    have z6 : zw (6 + (p : Int)) = ((6 + p : Nat) : Int) := by rw [zwi (by omega)]; omega
    have z12 : zw (12 + (p : Int)) = ((12 + p : Nat) : Int) := by rw [zwi (by omega)]; omega
    refine W141_2 w2 (sb w2) (by omega) ⟨fun c => absurd c (by omega), fun c => ?_⟩
    have zp := nz (i := p) (by omega)
    simp only [z6, z12, zp, Int.toNat_natCast]
    refine ⟨by omega, by omega, by omega, by omega, ?_⟩
    rintro _ rfl
    refine ⟨by omega, by omega, ?_⟩
    refine ih (p + 1) _ ?_ ?_ ?_ ?_
    · omega
    · exact w2
    · exact (((f2.trans Fr.seb).trans Fr.seb).trans Fr.seb)
    have g0 : hvM h2 = hvM h := f2.hvM (fun c k q => by unfold xOM at q; omega)
    rw [hvI_set (a := b) (j := 3) (k := p) (b := b) (i := 12 + p) (xI_3 (by omega))]
    rw [hvI_set (a := b) (j := 2) (k := p) (b := b) (i := 6 + p) (xI_2 (by omega))]
    rw [hvI_set (a := b) (j := 1) (k := p) (b := b) (i := p) (by have := xI_1 (a := b) (k := p) (by omega); rw [Nat.zero_add] at this; exact this)]
    have nb : b ≠ 137 ∧ b ≠ 138 ∧ b ≠ 139 ∧ b ≠ 140 ∧ b ≠ 141 ∧ b ≠ 142 ∧ b ≠ 143 ∧ b ≠ 152 ∧ b ≠ 153 ∧ b ≠ 154 ∧ b ≠ 155 ∧ b ≠ 156 ∧ b ≠ 157 ∧ b ≠ 158 ∧ b ≠ 159 := by omega
    have n130 : ¬ (138 = b) := by omega
    have n131 : ¬ (139 = b) := by omega
    have n133 : ¬ (141 = b) := by omega
    simp only [zV_V, n130, n131, n133, false_and, if_false]
    rw [← vM_1 (h := h2) (k := p) (by omega)]
    rw [← vM_2 (h := h2) (k := p) (by omega)]
    rw [← vM_3 (h := h2) (k := p) (by omega)]
    rw [g0]
    intro j k hd
    unfold up
    by_cases c3 : j = 3 ∧ k = p
    · rw [if_pos c3, c3.1, c3.2]
    rw [if_neg c3]
    by_cases c2 : j = 2 ∧ k = p
    · rw [if_pos c2, c2.1, c2.2]
    rw [if_neg c2]
    by_cases c1 : j = 1 ∧ k = p
    · rw [if_pos c1, c1.1, c1.2]
    rw [if_neg c1]
    refine v2 j k ?_
    unfold xdn at hd ⊢
    have := @xgj0 j
    omega
theorem mp141 (w : yWF zl nl h) (hb : b = 161 ∨ b = 162) (k : ∀ h', yWF zl nl h' → Fr (fun c _ => c = b) h h' → hvI h' b = hvM h → U h') : yU d 141 [vR (some 137), vR (some b)] h U := by
  have sb : zS h b = (1, 152) := by
    rcases hb with rfl | rfl
    · exact ys161 w
    · exact ys162 w
  exact E141 w sb (by omega) (xk141_0 hb k 6 0 h rfl w Fr.rfl' (fun j k q => absurd q (by unfold xdn; omega)))
theorem xk145_5 (hb : b = 161 ∨ b = 162) (k : ∀ h', yWF zl nl h' → Fr xOM h h' → hvM h' = hvI h b → U h') : ∀ (m p : Nat) (h2 : Hp), p + m = 10 → yWF zl nl h2 → Fr xOM h h2 → (∀ j k, xdn 5 p j k → hvM h2 j k = hvI h b j k) → ZW d prog_10_method_58_code 8 212 [some (vR (some 137)), some (vR (some b)), some (vI p)] [] h2 (yq 0 (yqU U)) := by
  have sb : ∀ {h2 : Hp}, yWF zl nl h2 → zS h2 b = (1, 152) := by
    intro h2 w2
    rcases hb with rfl | rfl
    · exact ys161 w2
    · exact ys162 w2
  intro m
  induction m with
  | zero =>
    intro p h2 hm w2 f2 v2
    obtain rfl : p = 10 := by omega
    have v3 : (∀ j k, xdn 6 0 j k → hvM h2 j k = hvI h b j k) := by
      intro j k hd
      by_cases c : xgrp j = 5 ∧ 10 ≤ k
      · rw [(xz5 (h := h2) (b := b) c.1 c.2).2, (xz5 (h := h) (b := b) c.1 c.2).1]
      · exact v2 j k (by unfold xdn at hd ⊢; omega)
    refine W145_212 w2 (sb w2) (by omega) ⟨fun _ => ?_, fun c => absurd (by decide) c⟩
    rintro _ rfl _ rfl _ rfl
    have oM : ∀ i, (i = 0 ∨ i = 8 ∨ i = 6 ∨ i = 25 ∨ i = 30 ∨ i = 33 ∨ i = 16) → xOM 137 i := fun i q => Or.inl ⟨rfl, q⟩
    refine k _ w2 (((((((f2.trans (Fr.set (oM _ (by omega)))).trans (Fr.set (oM _ (by omega)))).trans (Fr.set (oM _ (by omega)))).trans (Fr.set (oM _ (by omega)))).trans (Fr.set (oM _ (by omega)))).trans (Fr.set (oM _ (by omega)))).trans (Fr.set (oM _ (by omega)))) ?_
    have src : ∀ {h3 : Hp}, Fr xOM h h3 → hvI h3 b = hvI h b := fun f => hvI_fr (fun i q => f.V b i (by unfold xOM; omega))
    have g0 := src f2
    rw [hvM_set (j := 0) (k := 6) (b := 137) (i := 16) (by simp [xcM])]
    rw [hvM_set (j := 0) (k := 5) (b := 137) (i := 33) (by simp [xcM])]
    rw [hvM_set (j := 0) (k := 4) (b := 137) (i := 30) (by simp [xcM])]
    rw [hvM_set (j := 0) (k := 3) (b := 137) (i := 25) (by simp [xcM])]
    rw [hvM_set (j := 0) (k := 1) (b := 137) (i := 8) (by simp [xcM])]
    rw [hvM_set (j := 0) (k := 2) (b := 137) (i := 6) (by simp [xcM])]
    rw [hvM_set (j := 0) (k := 0) (b := 137) (i := 0) (by simp [xcM])]
    have nb : b ≠ 137 := by omega
    simp only [zV_V, nb, Ne.symm nb, false_and, if_false]
    funext j k
    unfold up
    by_cases c6 : j = 0 ∧ k = 6
    · rw [if_pos c6, c6.1, c6.2, ← g0]; rfl
    rw [if_neg c6]
    by_cases c5 : j = 0 ∧ k = 5
    · rw [if_pos c5, c5.1, c5.2, ← g0]; rfl
    rw [if_neg c5]
    by_cases c4 : j = 0 ∧ k = 4
    · rw [if_pos c4, c4.1, c4.2, ← g0]; rfl
    rw [if_neg c4]
    by_cases c3 : j = 0 ∧ k = 3
    · rw [if_pos c3, c3.1, c3.2, ← g0]; rfl
    rw [if_neg c3]
    by_cases c1 : j = 0 ∧ k = 1
    · rw [if_pos c1, c1.1, c1.2, ← g0]; rfl
    rw [if_neg c1]
    by_cases c2 : j = 0 ∧ k = 2
    · rw [if_pos c2, c2.1, c2.2, ← g0]; rfl
    rw [if_neg c2]
    by_cases c0 : j = 0 ∧ k = 0
    · rw [if_pos c0, c0.1, c0.2, ← g0]; rfl
    rw [if_neg c0]
    by_cases c7 : j = 0
    · subst c7
      have e1 : xcI b 0 k = none := by unfold xcI; repeat rw [if_neg (by omega)]
      have e2 : xcM 0 k = none := by unfold xcM; repeat rw [if_neg (by omega)]
      unfold hvI hvM
      rw [e1, e2]
      rfl
    · by_cases c8 : 15 ≤ j
      · have e1 : xcI b j k = none := by unfold xcI; repeat rw [if_neg (by omega)]
        have e2 : xcM j k = none := by unfold xcM; repeat rw [if_neg (by omega)]
        unfold hvI hvM
        rw [e1, e2]
        rfl
      · exact v3 j k (Or.inl (xgp_le c7 (by omega)))
  | succ m ih =>
    intro p h2 hm w2 f2 v2
    have z122 : zw (122 + (p : Int)) = ((122 + p : Nat) : Int) := by rw [zwi (by omega)]; omega
    have z132 : zw (132 + (p : Int)) = ((132 + p : Nat) : Int) := by rw [zwi (by omega)]; omega
    refine W145_212 w2 (sb w2) (by omega) ⟨fun c => absurd c (by omega), fun c => ?_⟩
    have zp := nz (i := p) (by omega)
    simp only [z122, z132, zp, Int.toNat_natCast]
    refine ⟨by omega, by omega, by omega, by omega, ?_⟩
    rintro _ rfl
    refine ih (p + 1) _ ?_ ?_ ?_ ?_
    · omega
    · exact w2
    · exact ((f2.trans (Fr.set (by unfold xOM; omega))).trans (Fr.set (by unfold xOM; omega)))
    have g0 : hvI h2 b = hvI h b := hvI_fr (fun i q => f2.V b i (by unfold xOM; omega))
    rw [hvM_set (j := 8) (k := p) (b := 157) (i := p) (xM_8 (by omega))]
    rw [hvM_set (j := 7) (k := p) (b := 156) (i := p) (xM_7 (by omega))]
    have n148 : ¬ (b = 156) := by omega
    have n149 : ¬ (b = 157) := by omega
    simp only [zV_V, n148, n149, false_and, if_false]
    rw [← vI_7 (h := h2) (a := b) (k := p) (by omega)]
    rw [← vI_8 (h := h2) (a := b) (k := p) (by omega)]
    rw [g0]
    intro j k hd
    unfold up
    by_cases c8 : j = 8 ∧ k = p
    · rw [if_pos c8, c8.1, c8.2]
    rw [if_neg c8]
    by_cases c7 : j = 7 ∧ k = p
    · rw [if_pos c7, c7.1, c7.2]
    rw [if_neg c7]
    refine v2 j k ?_
    unfold xdn at hd ⊢
    have := @xgj5 j
    omega
theorem xk145_4 (hb : b = 161 ∨ b = 162) (k : ∀ h', yWF zl nl h' → Fr xOM h h' → hvM h' = hvI h b → U h') : ∀ (m p : Nat) (h2 : Hp), p + m = 5 → yWF zl nl h2 → Fr xOM h h2 → (∀ j k, xdn 4 p j k → hvM h2 j k = hvI h b j k) → ZW d prog_10_method_58_code 8 151 [some (vR (some 137)), some (vR (some b)), some (vI p)] [] h2 (yq 0 (yqU U)) := by
  have sb : ∀ {h2 : Hp}, yWF zl nl h2 → zS h2 b = (1, 152) := by
    intro h2 w2
    rcases hb with rfl | rfl
    · exact ys161 w2
    · exact ys162 w2
  intro m
  induction m with
  | zero =>
    intro p h2 hm w2 f2 v2
    obtain rfl : p = 5 := by omega
    have v3 : (∀ j k, xdn 5 0 j k → hvM h2 j k = hvI h b j k) := by
      intro j k hd
      by_cases c : xgrp j = 4 ∧ 5 ≤ k
      · rw [(xz4 (h := h2) (b := b) c.1 c.2).2, (xz4 (h := h) (b := b) c.1 c.2).1]
      · exact v2 j k (by unfold xdn at hd ⊢; omega)
    refine W145_151 w2 (sb w2) (by omega) ⟨fun _ => ?_, fun c => absurd (by decide) c⟩
    exact xk145_5 hb k 10 0 h2 (by omega) w2 f2 v3
  | succ m ih =>
    intro p h2 hm w2 f2 v2
    have z102 : zw (102 + (p : Int)) = ((102 + p : Nat) : Int) := by rw [zwi (by omega)]; omega
    have z107 : zw (107 + (p : Int)) = ((107 + p : Nat) : Int) := by rw [zwi (by omega)]; omega
    have z112 : zw (112 + (p : Int)) = ((112 + p : Nat) : Int) := by rw [zwi (by omega)]; omega
    have z117 : zw (117 + (p : Int)) = ((117 + p : Nat) : Int) := by rw [zwi (by omega)]; omega
    refine W145_151 w2 (sb w2) (by omega) ⟨fun c => absurd c (by omega), fun c => ?_⟩
    have zp := nz (i := p) (by omega)
    simp only [z102, z107, z112, z117, zp, Int.toNat_natCast]
    refine ⟨by omega, by omega, by omega, by omega, ?_⟩
    rintro _ rfl
    refine ⟨by omega, by omega, by omega, by omega, ?_⟩
    rintro _ rfl
    refine ih (p + 1) _ ?_ ?_ ?_ ?_
    · omega
    · exact w2
    · exact ((((f2.trans (Fr.set (by unfold xOM; omega))).trans (Fr.set (by unfold xOM; omega))).trans (Fr.set (by unfold xOM; omega))).trans (Fr.set (by unfold xOM; omega)))
    have g0 : hvI h2 b = hvI h b := hvI_fr (fun i q => f2.V b i (by unfold xOM; omega))
    rw [hvM_set (j := 14) (k := p) (b := 155) (i := p) (xM_14 (by omega))]
    rw [hvM_set (j := 13) (k := p) (b := 154) (i := p) (xM_13 (by omega))]
    rw [hvM_set (j := 12) (k := p) (b := 153) (i := p) (xM_12 (by omega))]
    rw [hvM_set (j := 11) (k := p) (b := 152) (i := p) (xM_11 (by omega))]
    have n144 : ¬ (b = 152) := by omega
    have n145 : ¬ (b = 153) := by omega
    have n146 : ¬ (b = 154) := by omega
    have n147 : ¬ (b = 155) := by omega
    simp only [zV_V, n144, n145, n146, n147, false_and, if_false]
    rw [← vI_11 (h := h2) (a := b) (k := p) (by omega)]
    rw [← vI_12 (h := h2) (a := b) (k := p) (by omega)]
    rw [← vI_13 (h := h2) (a := b) (k := p) (by omega)]
    rw [← vI_14 (h := h2) (a := b) (k := p) (by omega)]
    rw [g0]
    intro j k hd
    unfold up
    by_cases c14 : j = 14 ∧ k = p
    · rw [if_pos c14, c14.1, c14.2]
    rw [if_neg c14]
    by_cases c13 : j = 13 ∧ k = p
    · rw [if_pos c13, c13.1, c13.2]
    rw [if_neg c13]
    by_cases c12 : j = 12 ∧ k = p
    · rw [if_pos c12, c12.1, c12.2]
    rw [if_neg c12]
    by_cases c11 : j = 11 ∧ k = p
    · rw [if_pos c11, c11.1, c11.2]
    rw [if_neg c11]
    refine v2 j k ?_
    unfold xdn at hd ⊢
    have := @xgj4 j
    omega
theorem xk145_3 (hb : b = 161 ∨ b = 162) (k : ∀ h', yWF zl nl h' → Fr xOM h h' → hvM h' = hvI h b → U h') : ∀ (m p : Nat) (h2 : Hp), p + m = 8 → yWF zl nl h2 → Fr xOM h h2 → (∀ j k, xdn 3 p j k → hvM h2 j k = hvI h b j k) → ZW d prog_10_method_58_code 8 101 [some (vR (some 137)), some (vR (some b)), some (vI p)] [] h2 (yq 0 (yqU U)) := by
  have sb : ∀ {h2 : Hp}, yWF zl nl h2 → zS h2 b = (1, 152) := by
    intro h2 w2
    rcases hb with rfl | rfl
    · exact ys161 w2
    · exact ys162 w2
  intro m
  induction m with
  | zero =>
    intro p h2 hm w2 f2 v2
    obtain rfl : p = 8 := by omega
    have v3 : (∀ j k, xdn 4 0 j k → hvM h2 j k = hvI h b j k) := by
      intro j k hd
      by_cases c : xgrp j = 3 ∧ 8 ≤ k
      · rw [(xz3 (h := h2) (b := b) c.1 c.2).2, (xz3 (h := h) (b := b) c.1 c.2).1]
      · exact v2 j k (by unfold xdn at hd ⊢; omega)
    refine W145_101 w2 (sb w2) (by omega) ⟨fun _ => ?_, fun c => absurd (by decide) c⟩
    exact xk145_4 hb k 5 0 h2 (by omega) w2 f2 v3
  | succ m ih =>
    intro p h2 hm w2 f2 v2
    have z78 : zw (78 + (p : Int)) = ((78 + p : Nat) : Int) := by rw [zwi (by omega)]; omega
    have z86 : zw (86 + (p : Int)) = ((86 + p : Nat) : Int) := by rw [zwi (by omega)]; omega
    have z94 : zw (94 + (p : Int)) = ((94 + p : Nat) : Int) := by rw [zwi (by omega)]; omega
    refine W145_101 w2 (sb w2) (by omega) ⟨fun c => absurd c (by omega), fun c => ?_⟩
    have zp := nz (i := p) (by omega)
    simp only [z78, z86, z94, zp, Int.toNat_natCast]
    refine ⟨by omega, by omega, by omega, by omega, ?_⟩
    rintro _ rfl
    refine ⟨by omega, by omega, ?_⟩
    refine ih (p + 1) _ ?_ ?_ ?_ ?_
    · omega
    · exact w2
    · exact (((f2.trans (Fr.set (by unfold xOM; omega))).trans (Fr.set (by unfold xOM; omega))).trans (Fr.set (by unfold xOM; omega)))
    have g0 : hvI h2 b = hvI h b := hvI_fr (fun i q => f2.V b i (by unfold xOM; omega))
    rw [hvM_set (j := 10) (k := p) (b := 159) (i := p) (xM_10 (by omega))]
    rw [hvM_set (j := 9) (k := p) (b := 158) (i := p) (xM_9 (by omega))]
    rw [hvM_set (j := 6) (k := p) (b := 143) (i := p) (xM_6 (by omega))]
    have n135 : ¬ (b = 143) := by omega
    have n150 : ¬ (b = 158) := by omega
    have n151 : ¬ (b = 159) := by omega
    simp only [zV_V, n135, n150, n151, false_and, if_false]
    rw [← vI_6 (h := h2) (a := b) (k := p) (by omega)]
    rw [← vI_9 (h := h2) (a := b) (k := p) (by omega)]
    rw [← vI_10 (h := h2) (a := b) (k := p) (by omega)]
    rw [g0]
    intro j k hd
    unfold up
    by_cases c10 : j = 10 ∧ k = p
    · rw [if_pos c10, c10.1, c10.2]
    rw [if_neg c10]
    by_cases c9 : j = 9 ∧ k = p
    · rw [if_pos c9, c9.1, c9.2]
    rw [if_neg c9]
    by_cases c6 : j = 6 ∧ k = p
    · rw [if_pos c6, c6.1, c6.2]
    rw [if_neg c6]
    refine v2 j k ?_
    unfold xdn at hd ⊢
    have := @xgj3 j
    omega
theorem xk145_2 (hb : b = 161 ∨ b = 162) (k : ∀ h', yWF zl nl h' → Fr xOM h h' → hvM h' = hvI h b → U h') : ∀ (m p : Nat) (h2 : Hp), p + m = 24 → yWF zl nl h2 → Fr xOM h h2 → (∀ j k, xdn 2 p j k → hvM h2 j k = hvI h b j k) → ZW d prog_10_method_58_code 8 75 [some (vR (some 137)), some (vR (some b)), some (vI p)] [] h2 (yq 0 (yqU U)) := by
  have sb : ∀ {h2 : Hp}, yWF zl nl h2 → zS h2 b = (1, 152) := by
    intro h2 w2
    rcases hb with rfl | rfl
    · exact ys161 w2
    · exact ys162 w2
  intro m
  induction m with
  | zero =>
    intro p h2 hm w2 f2 v2
    obtain rfl : p = 24 := by omega
    have v3 : (∀ j k, xdn 3 0 j k → hvM h2 j k = hvI h b j k) := by
      intro j k hd
      by_cases c : xgrp j = 2 ∧ 24 ≤ k
      · rw [(xz2 (h := h2) (b := b) c.1 c.2).2, (xz2 (h := h) (b := b) c.1 c.2).1]
      · exact v2 j k (by unfold xdn at hd ⊢; omega)
    refine W145_75 w2 (sb w2) (by omega) ⟨fun _ => ?_, fun c => absurd (by decide) c⟩
    exact xk145_3 hb k 8 0 h2 (by omega) w2 f2 v3
  | succ m ih =>
    intro p h2 hm w2 f2 v2
    have z54 : zw (54 + (p : Int)) = ((54 + p : Nat) : Int) := by rw [zwi (by omega)]; omega
    refine W145_75 w2 (sb w2) (by omega) ⟨fun c => absurd c (by omega), fun c => ?_⟩
    have zp := nz (i := p) (by omega)
    simp only [z54, zp, Int.toNat_natCast]
    refine ⟨by omega, by omega, ?_⟩
    refine ih (p + 1) _ ?_ ?_ ?_ ?_
    · omega
    · exact w2
    · exact (f2.trans (Fr.set (by unfold xOM; omega)))
    have g0 : hvI h2 b = hvI h b := hvI_fr (fun i q => f2.V b i (by unfold xOM; omega))
    rw [hvM_set (j := 5) (k := p) (b := 142) (i := p) (xM_5 (by omega))]
    have n134 : ¬ (b = 142) := by omega
    rw [← vI_5 (h := h2) (a := b) (k := p) (by omega)]
    rw [g0]
    intro j k hd
    unfold up
    by_cases c5 : j = 5 ∧ k = p
    · rw [if_pos c5, c5.1, c5.2]
    rw [if_neg c5]
    refine v2 j k ?_
    unfold xdn at hd ⊢
    have := @xgj2 j
    omega
theorem xk145_1 (hb : b = 161 ∨ b = 162) (k : ∀ h', yWF zl nl h' → Fr xOM h h' → hvM h' = hvI h b → U h') : ∀ (m p : Nat) (h2 : Hp), p + m = 36 → yWF zl nl h2 → Fr xOM h h2 → (∀ j k, xdn 1 p j k → hvM h2 j k = hvI h b j k) → ZW d prog_10_method_58_code 8 49 [some (vR (some 137)), some (vR (some b)), some (vI p)] [] h2 (yq 0 (yqU U)) := by
  have sb : ∀ {h2 : Hp}, yWF zl nl h2 → zS h2 b = (1, 152) := by
    intro h2 w2
    rcases hb with rfl | rfl
    · exact ys161 w2
    · exact ys162 w2
  intro m
  induction m with
  | zero =>
    intro p h2 hm w2 f2 v2
    obtain rfl : p = 36 := by omega
    have v3 : (∀ j k, xdn 2 0 j k → hvM h2 j k = hvI h b j k) := by
      intro j k hd
      by_cases c : xgrp j = 1 ∧ 36 ≤ k
      · rw [(xz1 (h := h2) (b := b) c.1 c.2).2, (xz1 (h := h) (b := b) c.1 c.2).1]
      · exact v2 j k (by unfold xdn at hd ⊢; omega)
    refine W145_49 w2 (sb w2) (by omega) ⟨fun _ => ?_, fun c => absurd (by decide) c⟩
    exact xk145_2 hb k 24 0 h2 (by omega) w2 f2 v3
  | succ m ih =>
    intro p h2 hm w2 f2 v2
    have z18 : zw (18 + (p : Int)) = ((18 + p : Nat) : Int) := by rw [zwi (by omega)]; omega
    refine W145_49 w2 (sb w2) (by omega) ⟨fun c => absurd c (by omega), fun c => ?_⟩
    have zp := nz (i := p) (by omega)
    simp only [z18, zp, Int.toNat_natCast]
    refine ⟨by omega, by omega, ?_⟩
    refine ih (p + 1) _ ?_ ?_ ?_ ?_
    · omega
    · exact w2
    · exact (f2.trans (Fr.set (by unfold xOM; omega)))
    have g0 : hvI h2 b = hvI h b := hvI_fr (fun i q => f2.V b i (by unfold xOM; omega))
    rw [hvM_set (j := 4) (k := p) (b := 140) (i := p) (xM_4 (by omega))]
    have n132 : ¬ (b = 140) := by omega
    rw [← vI_4 (h := h2) (a := b) (k := p) (by omega)]
    rw [g0]
    intro j k hd
    unfold up
    by_cases c4 : j = 4 ∧ k = p
    · rw [if_pos c4, c4.1, c4.2]
    rw [if_neg c4]
    refine v2 j k ?_
    unfold xdn at hd ⊢
    have := @xgj1 j
    omega
theorem xk145_0 (hb : b = 161 ∨ b = 162) (k : ∀ h', yWF zl nl h' → Fr xOM h h' → hvM h' = hvI h b → U h') : ∀ (m p : Nat) (h2 : Hp), p + m = 6 → yWF zl nl h2 → Fr xOM h h2 → (∀ j k, xdn 0 p j k → hvM h2 j k = hvI h b j k) → ZW d prog_10_method_58_code 8 2 [some (vR (some 137)), some (vR (some b)), some (vI p)] [] h2 (yq 0 (yqU U)) := by
  have sb : ∀ {h2 : Hp}, yWF zl nl h2 → zS h2 b = (1, 152) := by
    intro h2 w2
    rcases hb with rfl | rfl
    · exact ys161 w2
    · exact ys162 w2
  intro m
  induction m with
  | zero =>
    intro p h2 hm w2 f2 v2
    obtain rfl : p = 6 := by omega
    have v3 : (∀ j k, xdn 1 0 j k → hvM h2 j k = hvI h b j k) := by
      intro j k hd
      by_cases c : xgrp j = 0 ∧ 6 ≤ k
      · rw [(xz0 (h := h2) (b := b) c.1 c.2).2, (xz0 (h := h) (b := b) c.1 c.2).1]
      · exact v2 j k (by unfold xdn at hd ⊢; omega)
    refine W145_2 w2 (sb w2) (by omega) ⟨fun _ => ?_, fun c => absurd (by decide) c⟩
    exact xk145_1 hb k 36 0 h2 (by omega) w2 f2 v3
  | succ m ih =>
    intro p h2 hm w2 f2 v2
    have z6 : zw (6 + (p : Int)) = ((6 + p : Nat) : Int) := by rw [zwi (by omega)]; omega
    have z12 : zw (12 + (p : Int)) = ((12 + p : Nat) : Int) := by rw [zwi (by omega)]; omega
    refine W145_2 w2 (sb w2) (by omega) ⟨fun c => absurd c (by omega), fun c => ?_⟩
    have zp := nz (i := p) (by omega)
    simp only [z6, z12, zp, Int.toNat_natCast]
    refine ⟨by omega, by omega, by omega, by omega, ?_⟩
    rintro _ rfl
    refine ⟨by omega, by omega, ?_⟩
    refine ih (p + 1) _ ?_ ?_ ?_ ?_
    · omega
    · exact w2
    · exact (((f2.trans (Fr.set (by unfold xOM; omega))).trans (Fr.set (by unfold xOM; omega))).trans (Fr.set (by unfold xOM; omega)))
    have g0 : hvI h2 b = hvI h b := hvI_fr (fun i q => f2.V b i (by unfold xOM; omega))
    rw [hvM_set (j := 3) (k := p) (b := 141) (i := p) (xM_3 (by omega))]
    rw [hvM_set (j := 2) (k := p) (b := 139) (i := p) (xM_2 (by omega))]
    rw [hvM_set (j := 1) (k := p) (b := 138) (i := p) (xM_1 (by omega))]
    have n130 : ¬ (b = 138) := by omega
    have n131 : ¬ (b = 139) := by omega
    have n133 : ¬ (b = 141) := by omega
    simp only [zV_V, n130, n131, n133, false_and, if_false]
    rw [show zV h2 b p = hvI h2 b 1 p from by rw [vI_1 (by omega), Nat.zero_add]]
    rw [← vI_2 (h := h2) (a := b) (k := p) (by omega)]
    rw [← vI_3 (h := h2) (a := b) (k := p) (by omega)]
    rw [g0]
    intro j k hd
    unfold up
    by_cases c3 : j = 3 ∧ k = p
    · rw [if_pos c3, c3.1, c3.2]
    rw [if_neg c3]
    by_cases c2 : j = 2 ∧ k = p
    · rw [if_pos c2, c2.1, c2.2]
    rw [if_neg c2]
    by_cases c1 : j = 1 ∧ k = p
    · rw [if_pos c1, c1.1, c1.2]
    rw [if_neg c1]
    refine v2 j k ?_
    unfold xdn at hd ⊢
    have := @xgj0 j
    omega
theorem mp145 (w : yWF zl nl h) (hb : b = 161 ∨ b = 162) (k : ∀ h', yWF zl nl h' → Fr xOM h h' → hvM h' = hvI h b → U h') : yU d 145 [vR (some 137), vR (some b)] h U := by
  have sb : zS h b = (1, 152) := by
    rcases hb with rfl | rfl
    · exact ys161 w
    · exact ys162 w
  exact E145 w sb (by omega) (xk145_0 hb k 6 0 h rfl w Fr.rfl' (fun j k q => absurd q (by unfold xdn; omega)))
end XKP
