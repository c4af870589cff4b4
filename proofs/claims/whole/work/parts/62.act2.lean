/-! ACTS: the model, and both -/
def xMH (zl : Nat) (nl : Option Nat) (h : Hp) (p kd v : Int) (z : Nat) (a : Int) (n e : Nat) (k : Int) : Prop := ∀ (d : Nat) (K : Int → Hp → Prop) (h2 : Hp) (x : Int) (L : List Int), e ≤ d → yWF zl nl h2 → xTr 137 36 160 h h2 L → L.length + (xal kd n k a).length < 100000 → (∀ h', yWF zl nl h' → xTr 137 36 160 h h' (L ++ xal kd n k a) → K (xav p kd v n k a x) h') → yI d z [vR (some 137), vI p, vI k, vI x] h2 K
def xAm (b k : Nat) : Prop := b = 94 ∨ b = 95 ∨ b = 160 ∨ (b = 137 ∧ k = 36)
section XAD
variable {zl : Nat} {nl : Option Nat} {xs : Nat → Int} {h h' h1 h2 h3 H : Hp} {d : Nat} {K : Int → Hp → Prop} {KJ : Int64 → Hp → Prop} {U : Hp → Prop} {a n s b j i m o z e1 e2 : Nat} {x y t u B : Int} {p v kd f ac k g : Int} {L : List Int}
theorem xal_c (q : xbf f ac = xbf g ac) : xal kd (n + 1) f ac = xal kd (n + 1) g ac := by
  unfold xal
  rw [q]
theorem xav_c (q : xbf f ac = xbf g ac) : xav p kd v (n + 1) f ac x = xav p kd v (n + 1) g ac x := by
  unfold xav
  rw [q]
theorem xal_10 (q : xbf f ac = 10) : xal kd (n + 1) f ac = [10] := by rw [xal, q]; simp
theorem xal_11 (q : xbf f ac = 11) : xal kd (n + 1) f ac = 11 :: xal kd n kd 0 := by rw [xal, q]; simp
theorem xal_12 (q : xbf f ac = 12) : xal kd (n + 1) f ac = 12 :: xal kd n kd 1 := by rw [xal, q]; simp
theorem xal_20 (q : xbf f ac = 20) : xal kd (n + 1) f ac = 20 :: xal kd n 0 1 := by rw [xal, q]; simp
theorem xal_30 (q : xbf f ac = 30) : xal kd (n + 1) f ac = 30 :: xal kd n 0 0 := by rw [xal, q]; simp
theorem xal_40 (q : xbf f ac = 40) : xal kd (n + 1) f ac = 40 :: (xal kd n 0 2 ++ xal kd n kd 1) := by rw [xal, q]; simp
theorem xal_50 (q : xbf f ac = 50) : xal kd (n + 1) f ac = 50 :: xal kd n 1 0 := by rw [xal, q]; simp
theorem xal_51 (q : xbf f ac = 51) : xal kd (n + 1) f ac = 51 :: xal kd n 1 1 := by rw [xal, q]; simp
theorem xal_60 (q : xbf f ac = 60) : xal kd (n + 1) f ac = 60 :: xal kd n 2 2 := by rw [xal, q]; simp
theorem xal_70 (q : xbf f ac = 70) : xal kd (n + 1) f ac = 70 :: (xal kd n 3 1 ++ xal kd n 3 0) := by rw [xal, q]; simp
theorem xal_71 (q : xbf f ac = 71) : xal kd (n + 1) f ac = 71 :: xal kd n 3 0 := by rw [xal, q]; simp
theorem xav_10 (q : xbf f ac = 10) : xav p kd v (n + 1) f ac x = zw (x + p) := by rw [xav, q]; simp
theorem xav_11 (q : xbf f ac = 11) : xav p kd v (n + 1) f ac x = zw (xav p kd v n kd 0 x - v) := by rw [xav, q]; simp
theorem xav_12 (q : xbf f ac = 12) : xav p kd v (n + 1) f ac x = zw (xav p kd v n kd 1 x * 2) := by rw [xav, q]; simp
theorem xav_20 (q : xbf f ac = 20) : xav p kd v (n + 1) f ac x = zxor (xav p kd v n 0 1 x) 6 := by rw [xav, q]; simp
theorem xav_30 (q : xbf f ac = 30) : xav p kd v (n + 1) f ac x = xav p kd v n 0 0 (zw (x * 3)) := by rw [xav, q]; simp
theorem xav_40 (q : xbf f ac = 40) : xav p kd v (n + 1) f ac x = zw (xav p kd v n 0 2 x + xav p kd v n kd 1 1) := by rw [xav, q]; simp
theorem xav_50 (q : xbf f ac = 50) : xav p kd v (n + 1) f ac x = zw (-xav p kd v n 1 0 x) := by rw [xav, q]; simp
theorem xav_51 (q : xbf f ac = 51) : xav p kd v (n + 1) f ac x = xav p kd v n 1 1 (zw (x + 1)) := by rw [xav, q]; simp
theorem xav_60 (q : xbf f ac = 60) : xav p kd v (n + 1) f ac x = xav p kd v n 2 2 (zw (x - p)) := by rw [xav, q]; simp
theorem xav_70 (q : xbf f ac = 70) : xav p kd v (n + 1) f ac x = zw (xav p kd v n 3 1 x + xav p kd v n 3 0 2) := by rw [xav, q]; simp
theorem xav_71 (q : xbf f ac = 71) : xav p kd v (n + 1) f ac x = zxor (xav p kd v n 3 0 x) v := by rw [xav, q]; simp
theorem xMH.le (q : xMH zl nl h p kd v z ac n e1 k) (l : e1 ≤ e2) : xMH zl nl h p kd v z ac n e2 k := fun d K h2 x L hd => q d K h2 x L (Nat.le_trans l hd)
theorem l1 {b : Int} : (L ++ [b]).length = L.length + 1 := by rw [List.length_append]; rfl
theorem mh0 : xMH zl nl h p kd v 205 0 (n + 1) 1 0 := by
  intro d K h2 x L hd w t hL kk
  rw [xal_10 (by decide)] at hL kk
  rw [xav_10 (by decide)] at kk
  rw [List.length_cons] at hL
  refine E205 w (by omega) ⟨fun _ => ?_, fun q => absurd q (by decide), fun q => absurd q (by decide), fun q => absurd q (by decide), fun q => absurd q (by decide), fun q => absurd q (by decide), fun q => absurd q (by decide), fun q => absurd q (by decide)⟩
  exact mp206 w t (by omega) fun h3 w3 t3 => W205_102 w3 (kk h3 w3 t3)
theorem mhA (hk : k = 1 ∨ k = 3) : xMH zl nl h p kd v 205 0 (n + 1) 2 k := by
  intro d K h2 x L hd w t hL kk
  have q : xbf k 0 = xbf 0 0 := by rcases hk with rfl | rfl <;> rfl
  rw [xal_c q] at hL kk
  rw [xav_c q] at kk
  have go : yI (d - 1) 207 [vI k] h2 (fun x' h' => ZW d prog_10_method_63_code 8 112 [some (vR (some 137)), some (vI p), some (vI k), some (vI x)] [vI x', vI p, vR (some 137)] h' (yq 1 (yqI K))) :=
    E207 w ⟨fun _ => ⟨fun _ => ⟨fun _ => W205_112 w (by omega) (mh0 (n := n) (kd := kd) (v := v) (d - 1) _ h2 x L (by omega) w t hL fun h3 w3 t3 => W205_116 w3 (kk h3 w3 t3)), fun q => absurd (by omega) q⟩, fun q => absurd (by omega) q⟩, fun q => absurd (by omega) q⟩
  exact E205 w (by omega) ⟨fun q => by omega, fun _ => go, fun q => by omega, fun _ => go, fun q => by omega, fun q => by omega, fun q => by omega, fun q => by omega⟩
theorem mh2 : xMH zl nl h p kd v 205 0 (n + 2) 2 2 := by
  intro d K h2 x L hd w t hL kk
  have q1 : xal kd (n + 2) 2 0 = 30 :: xal kd (n + 1) 0 0 := xal_30 (by decide)
  have q2 : xav p kd v (n + 2) 2 0 x = xav p kd v (n + 1) 0 0 (zw (x * 3)) := xav_30 (by decide)
  rw [q1] at hL kk
  rw [q2] at kk
  rw [List.length_cons] at hL
  refine E205 w (by omega) ⟨fun q => absurd q (by decide), fun q => absurd q (by decide), fun _ => ?_, fun q => absurd q (by decide), fun q => absurd q (by decide), fun q => absurd q (by decide), fun q => absurd q (by decide), fun q => absurd q (by decide)⟩
  refine mp206 w t (by omega) fun h3 w3 t3 => W205_50 w3 (by omega) (mh0 (n := n) (kd := kd) (v := v) (d - 1) _ h3 _ _ (by omega) w3 t3 (by rw [l1]; omega) fun h4 w4 t4 => W205_59 w4 ?_)
  rw [List.append_assoc] at t4
  exact kk h4 w4 t4
theorem mh4 : xMH zl nl h p kd v 205 0 (n + 2) 3 4 := by
  intro d K h2 x L hd w t hL kk
  have q1 : xal kd (n + 2) 4 0 = 50 :: xal kd (n + 1) 1 0 := xal_50 (by decide)
  have q2 : xav p kd v (n + 2) 4 0 x = zw (-xav p kd v (n + 1) 1 0 x) := xav_50 (by decide)
  rw [q1] at hL kk
  rw [q2] at kk
  rw [List.length_cons] at hL
  refine E205 w (by omega) ⟨fun q => absurd q (by decide), fun q => absurd q (by decide), fun q => absurd q (by decide), fun q => absurd q (by decide), fun _ => ?_, fun q => absurd q (by decide), fun q => absurd q (by decide), fun q => absurd q (by decide)⟩
  refine mp206 w t (by omega) fun h3 w3 t3 => W205_66 w3 (by omega) (mhA (n := n) (kd := kd) (v := v) (Or.inl rfl) (d - 1) _ h3 _ _ (by omega) w3 t3 (by rw [l1]; omega) fun h4 w4 t4 => W205_73 w4 ?_)
  rw [List.append_assoc] at t4
  exact kk h4 w4 t4
theorem mh5 : xMH zl nl h p kd v 205 0 (n + 2) 3 5 := by
  intro d K h2 x L hd w t hL kk
  have q : xbf 5 0 = xbf 2 0 := rfl
  rw [xal_c q] at hL kk
  rw [xav_c q] at kk
  refine E205 w (by omega) ⟨fun q => absurd q (by decide), fun q => absurd q (by decide), fun q => absurd q (by decide), fun q => absurd q (by decide), fun q => absurd q (by decide), fun _ => ?_, fun q => absurd q (by decide), fun q => absurd q (by decide)⟩
  exact E207 w ⟨fun _ => ⟨fun q => absurd rfl q, fun _ => W205_112 w (by omega) (mh2 (n := n) (kd := kd) (v := v) (d - 1) _ h2 x L (by omega) w t hL fun h3 w3 t3 => W205_116 w3 (kk h3 w3 t3))⟩, fun q => absurd (by decide) q⟩
theorem mh6 (hp : 0 ≤ p ∧ p < 6) (ev : zV h 139 p.toNat = v) : xMH zl nl h p kd v 205 0 (n + 2) 3 6 := by
  intro d K h2 x L hd w t hL kk
  have q1 : xal kd (n + 2) 6 0 = 71 :: xal kd (n + 1) 3 0 := xal_71 (by decide)
  have q2 : xav p kd v (n + 2) 6 0 x = zxor (xav p kd v (n + 1) 3 0 x) v := xav_71 (by decide)
  rw [q1] at hL kk
  rw [q2] at kk
  rw [List.length_cons] at hL
  refine E205 w (by omega) ⟨fun q => absurd q (by decide), fun q => absurd q (by decide), fun q => absurd q (by decide), fun q => absurd q (by decide), fun q => absurd q (by decide), fun q => absurd q (by decide), fun _ => ?_, fun q => absurd q (by decide)⟩
  refine mp206 w t (by omega) fun h3 w3 t3 => W205_81 w3 (by omega) (mhA (n := n) (kd := kd) (v := v) (Or.inr rfl) (d - 1) _ h3 _ _ (by omega) w3 t3 (by rw [l1]; omega) fun h4 w4 t4 => W205_88 w4 ⟨hp, ?_⟩)
  rw [t4.1.V 139 p.toNat (by omega), ev]
  rw [List.append_assoc] at t4
  exact kk h4 w4 t4
theorem mh (hp : 0 ≤ p ∧ p < 6) (ev : zV h 139 p.toNat = v) (hk : 0 ≤ k ∧ k < 7) : xMH zl nl h p kd v 205 0 (n + 2) 3 k := by
  have c : k = 0 ∨ k = 1 ∨ k = 2 ∨ k = 3 ∨ k = 4 ∨ k = 5 ∨ k = 6 := by omega
  rcases c with rfl | rfl | rfl | rfl | rfl | rfl | rfl
  · exact mh0.le (by decide)
  · exact (mhA (Or.inl rfl)).le (by decide)
  · exact mh2.le (by decide)
  · exact (mhA (Or.inr rfl)).le (by decide)
  · exact mh4
  · exact mh5
  · exact mh6 hp ev
/-- plays -/
theorem mq0 (hp : 0 ≤ p ∧ p < 6) (ek : zV h 138 p.toNat = kd) (hkd : 0 ≤ kd ∧ kd < 7) (ev : zV h 139 p.toNat = v) : xMH zl nl h p kd v 208 1 (n + 3) 4 0 := by
  intro d K h2 x L hd w t hL kk
  have q1 : xal kd (n + 3) 0 1 = 11 :: xal kd (n + 2) kd 0 := xal_11 (by decide)
  have q2 : xav p kd v (n + 3) 0 1 x = zw (xav p kd v (n + 2) kd 0 x - v) := xav_11 (by decide)
  rw [q1] at hL kk
  rw [q2] at kk
  rw [List.length_cons] at hL
  refine E208 w (by omega) ⟨fun _ => ?_, fun q => absurd q (by decide), fun q => absurd q (by decide), fun q => absurd q (by decide), fun q => absurd q (by decide), fun q => absurd q (by decide), fun q => absurd q (by decide), fun q => absurd q (by decide)⟩
  refine mp206 w t (by omega) fun h3 w3 t3 => W208_109 w3 (by omega) ⟨hp, ?_⟩
  rw [t3.1.V 138 p.toNat (by omega), ek]
  refine mh (n := n) (kd := kd) hp ev hkd (d - 1) _ h3 _ _ (by omega) w3 t3 (by rw [l1]; omega) fun h4 w4 t4 => W208_121 w4 ⟨hp, ?_⟩
  rw [t4.1.V 139 p.toNat (by omega), ev]
  rw [List.append_assoc] at t4
  exact kk h4 w4 t4
theorem mqA (hp : 0 ≤ p ∧ p < 6) (ek : zV h 138 p.toNat = kd) (hkd : 0 ≤ kd ∧ kd < 7) (ev : zV h 139 p.toNat = v) (hk : k = 2 ∨ k = 3) : xMH zl nl h p kd v 208 1 (n + 3) 5 k := by
  intro d K h2 x L hd w t hL kk
  have q : xbf k 1 = xbf 0 1 := by rcases hk with rfl | rfl <;> rfl
  rw [xal_c q] at hL kk
  rw [xav_c q] at kk
  have go : yI (d - 1) 207 [vI k] h2 (fun x' h' => ZW d prog_10_method_64_code 8 135 [some (vR (some 137)), some (vI p), some (vI k), some (vI x), none] [vI x', vI p, vR (some 137)] h' (yq 1 (yqI K))) :=
    E207 w ⟨fun _ => ⟨fun _ => ⟨fun _ => W208_135 w (by omega) (mq0 (n := n) hp ek hkd ev (d - 1) _ h2 x L (by omega) w t hL fun h3 w3 t3 => W208_139 w3 (kk h3 w3 t3)), fun q => absurd (by omega) q⟩, fun q => absurd (by omega) q⟩, fun q => absurd (by omega) q⟩
  exact E208 w (by omega) ⟨fun q => by omega, fun q => by omega, fun _ => go, fun _ => go, fun q => by omega, fun q => by omega, fun q => by omega, fun q => by omega⟩
theorem mq1 (hp : 0 ≤ p ∧ p < 6) (ek : zV h 138 p.toNat = kd) (hkd : 0 ≤ kd ∧ kd < 7) (ev : zV h 139 p.toNat = v) : xMH zl nl h p kd v 208 1 (n + 4) 5 1 := by
  intro d K h2 x L hd w t hL kk
  have q1 : xal kd (n + 4) 1 1 = 20 :: xal kd (n + 3) 0 1 := xal_20 (by decide)
  have q2 : xav p kd v (n + 4) 1 1 x = zxor (xav p kd v (n + 3) 0 1 x) 6 := xav_20 (by decide)
  rw [q1] at hL kk
  rw [q2] at kk
  rw [List.length_cons] at hL
  refine E208 w (by omega) ⟨fun q => absurd q (by decide), fun _ => ?_, fun q => absurd q (by decide), fun q => absurd q (by decide), fun q => absurd q (by decide), fun q => absurd q (by decide), fun q => absurd q (by decide), fun q => absurd q (by decide)⟩
  refine mp206 w t (by omega) fun h3 w3 t3 => W208_50 w3 (by omega) (mq0 (n := n) hp ek hkd ev (d - 1) _ h3 _ _ (by omega) w3 t3 (by rw [l1]; omega) fun h4 w4 t4 => W208_57 w4 ?_)
  rw [List.append_assoc] at t4
  exact kk h4 w4 t4
theorem mq4 (hp : 0 ≤ p ∧ p < 6) (ek : zV h 138 p.toNat = kd) (hkd : 0 ≤ kd ∧ kd < 7) (ev : zV h 139 p.toNat = v) : xMH zl nl h p kd v 208 1 (n + 5) 6 4 := by
  intro d K h2 x L hd w t hL kk
  have q1 : xal kd (n + 5) 4 1 = 51 :: xal kd (n + 4) 1 1 := xal_51 (by decide)
  have q2 : xav p kd v (n + 5) 4 1 x = xav p kd v (n + 4) 1 1 (zw (x + 1)) := xav_51 (by decide)
  rw [q1] at hL kk
  rw [q2] at kk
  rw [List.length_cons] at hL
  refine E208 w (by omega) ⟨fun q => absurd q (by decide), fun q => absurd q (by decide), fun q => absurd q (by decide), fun q => absurd q (by decide), fun _ => ?_, fun q => absurd q (by decide), fun q => absurd q (by decide), fun q => absurd q (by decide)⟩
  refine mp206 w t (by omega) fun h3 w3 t3 => W208_67 w3 (by omega) (mq1 (n := n) hp ek hkd ev (d - 1) _ h3 _ _ (by omega) w3 t3 (by rw [l1]; omega) fun h4 w4 t4 => W208_76 w4 ?_)
  rw [List.append_assoc] at t4
  exact kk h4 w4 t4
theorem mq5 (hp : 0 ≤ p ∧ p < 6) (ek : zV h 138 p.toNat = kd) (hkd : 0 ≤ kd ∧ kd < 7) (ev : zV h 139 p.toNat = v) : xMH zl nl h p kd v 208 1 (n + 3) 6 5 := by
  intro d K h2 x L hd w t hL kk
  have q : xbf 5 1 = xbf 2 1 := rfl
  rw [xal_c q] at hL kk
  rw [xav_c q] at kk
  refine E208 w (by omega) ⟨fun q => absurd q (by decide), fun q => absurd q (by decide), fun q => absurd q (by decide), fun q => absurd q (by decide), fun q => absurd q (by decide), fun _ => ?_, fun q => absurd q (by decide), fun q => absurd q (by decide)⟩
  exact E207 w ⟨fun _ => ⟨fun q => absurd rfl q, fun _ => W208_135 w (by omega) (mqA (n := n) hp ek hkd ev (Or.inl rfl) (d - 1) _ h2 x L (by omega) w t hL fun h3 w3 t3 => W208_139 w3 (kk h3 w3 t3))⟩, fun q => absurd (by decide) q⟩
theorem mq6 (hp : 0 ≤ p ∧ p < 6) (ek : zV h 138 p.toNat = kd) (hkd : 0 ≤ kd ∧ kd < 7) (ev : zV h 139 p.toNat = v) : xMH zl nl h p kd v 208 1 (n + 4) 6 6 := by
  intro d K h2 x L hd w t hL kk
  have q1 : xal kd (n + 4) 6 1 = 70 :: (xal kd (n + 3) 3 1 ++ xal kd (n + 3) 3 0) := xal_70 (by decide)
  have q2 : xav p kd v (n + 4) 6 1 x = zw (xav p kd v (n + 3) 3 1 x + xav p kd v (n + 3) 3 0 2) := xav_70 (by decide)
  rw [q1] at hL kk
  rw [q2] at kk
  rw [List.length_cons, List.length_append] at hL
  refine E208 w (by omega) ⟨fun q => absurd q (by decide), fun q => absurd q (by decide), fun q => absurd q (by decide), fun q => absurd q (by decide), fun q => absurd q (by decide), fun q => absurd q (by decide), fun _ => ?_, fun q => absurd q (by decide)⟩
  refine mp206 w t (by omega) fun h3 w3 t3 => W208_83 w3 (by omega) (mqA (n := n) hp ek hkd ev (Or.inr rfl) (d - 1) _ h3 _ _ (by omega) w3 t3 (by rw [l1]; omega) fun h4 w4 t4 => W208_90 w4 (by omega) (mhA (n := n + 2) (kd := kd) (v := v) (Or.inr rfl) (d - 1) _ h4 _ _ (by omega) w4 t4 (show (L ++ [70] ++ xal kd (n + 3) 3 1).length + (xal kd (n + 3) 3 0).length < 100000 by rw [List.length_append, l1]; omega) fun h5 w5 t5 => W208_101 w5 ?_))
  rw [List.append_assoc, List.append_assoc] at t5
  exact kk h5 w5 t5
theorem mq (hp : 0 ≤ p ∧ p < 6) (ek : zV h 138 p.toNat = kd) (hkd : 0 ≤ kd ∧ kd < 7) (ev : zV h 139 p.toNat = v) (hk : 0 ≤ k ∧ k < 7) : xMH zl nl h p kd v 208 1 (n + 5) 6 k := by
  have c : k = 0 ∨ k = 1 ∨ k = 2 ∨ k = 3 ∨ k = 4 ∨ k = 5 ∨ k = 6 := by omega
  rcases c with rfl | rfl | rfl | rfl | rfl | rfl | rfl
  · exact (mq0 hp ek hkd ev).le (by decide)
  · exact (mq1 hp ek hkd ev).le (by decide)
  · exact (mqA hp ek hkd ev (Or.inl rfl)).le (by decide)
  · exact (mqA hp ek hkd ev (Or.inr rfl)).le (by decide)
  · exact mq4 hp ek hkd ev
  · exact mq5 hp ek hkd ev
  · exact mq6 hp ek hkd ev
/-- tells -/
theorem mt0 (hp : 0 ≤ p ∧ p < 6) (ek : zV h 138 p.toNat = kd) (hkd : 0 ≤ kd ∧ kd < 7) (ev : zV h 139 p.toNat = v) : xMH zl nl h p kd v 209 2 (n + 6) 7 0 := by
  intro d K h2 x L hd w t hL kk
  have q1 : xal kd (n + 6) 0 2 = 12 :: xal kd (n + 5) kd 1 := xal_12 (by decide)
  have q2 : xav p kd v (n + 6) 0 2 x = zw (xav p kd v (n + 5) kd 1 x * 2) := xav_12 (by decide)
  rw [q1] at hL kk
  rw [q2] at kk
  rw [List.length_cons] at hL
  refine E209 w (by omega) ⟨fun _ => ?_, fun q => absurd q (by decide), fun q => absurd q (by decide), fun q => absurd rfl q.1⟩
  refine mp206 w t (by omega) fun h3 w3 t3 => W209_89 w3 (by omega) ⟨hp, ?_⟩
  rw [t3.1.V 138 p.toNat (by omega), ek]
  refine mq (n := n) hp ek hkd ev hkd (d - 1) _ h3 _ _ (by omega) w3 t3 (by rw [l1]; omega) fun h4 w4 t4 => W209_101 w4 ?_
  rw [List.append_assoc] at t4
  exact kk h4 w4 t4
theorem mtA (hp : 0 ≤ p ∧ p < 6) (ek : zV h 138 p.toNat = kd) (hkd : 0 ≤ kd ∧ kd < 7) (ev : zV h 139 p.toNat = v) (hk : k = 1 ∨ k = 2) : xMH zl nl h p kd v 209 2 (n + 6) 8 k := by
  intro d K h2 x L hd w t hL kk
  have q : xbf k 2 = xbf 0 2 := by rcases hk with rfl | rfl <;> rfl
  rw [xal_c q] at hL kk
  rw [xav_c q] at kk
  have go : yI (d - 1) 207 [vI k] h2 (fun x' h' => ZW d prog_10_method_65_code 8 110 [some (vR (some 137)), some (vI p), some (vI k), some (vI x), none] [vI x', vI p, vR (some 137)] h' (yq 1 (yqI K))) :=
    E207 w ⟨fun _ => ⟨fun _ => ⟨fun _ => W209_110 w (by omega) (mt0 (n := n) hp ek hkd ev (d - 1) _ h2 x L (by omega) w t hL fun h3 w3 t3 => W209_114 w3 (kk h3 w3 t3)), fun q => absurd (by omega) q⟩, fun q => absurd (by omega) q⟩, fun q => absurd (by omega) q⟩
  exact E209 w (by omega) ⟨fun q => by omega, fun q => by omega, fun q => by omega, fun _ => go⟩
theorem mt3 (hp : 0 ≤ p ∧ p < 6) (ek : zV h 138 p.toNat = kd) (hkd : 0 ≤ kd ∧ kd < 7) (ev : zV h 139 p.toNat = v) : xMH zl nl h p kd v 209 2 (n + 7) 8 3 := by
  intro d K h2 x L hd w t hL kk
  have q1 : xal kd (n + 7) 3 2 = 40 :: (xal kd (n + 6) 0 2 ++ xal kd (n + 6) kd 1) := xal_40 (by decide)
  have q2 : xav p kd v (n + 7) 3 2 x = zw (xav p kd v (n + 6) 0 2 x + xav p kd v (n + 6) kd 1 1) := xav_40 (by decide)
  rw [q1] at hL kk
  rw [q2] at kk
  rw [List.length_cons, List.length_append] at hL
  refine E209 w (by omega) ⟨fun q => absurd q (by decide), fun _ => ?_, fun q => absurd q (by decide), fun q => absurd rfl q.2.1⟩
  refine mp206 w t (by omega) fun h3 w3 t3 => W209_42 w3 (by omega) (mt0 (n := n) hp ek hkd ev (d - 1) _ h3 _ _ (by omega) w3 t3 (by rw [l1]; omega) fun h4 w4 t4 => W209_49 w4 (by omega) ⟨hp, ?_⟩)
  rw [t4.1.V 138 p.toNat (by omega), ek]
  refine mq (n := n + 1) hp ek hkd ev hkd (d - 1) _ h4 _ _ (by omega) w4 t4 (show (L ++ [40] ++ xal kd (n + 6) 0 2).length + (xal kd (n + 6) kd 1).length < 100000 by rw [List.length_append, l1]; omega) fun h5 w5 t5 => W209_65 w5 ?_
  rw [List.append_assoc, List.append_assoc] at t5
  exact kk h5 w5 t5
theorem mt5 (hp : 0 ≤ p ∧ p < 6) (ek : zV h 138 p.toNat = kd) (hkd : 0 ≤ kd ∧ kd < 7) (ev : zV h 139 p.toNat = v) : xMH zl nl h p kd v 209 2 (n + 7) 9 5 := by
  intro d K h2 x L hd w t hL kk
  have q1 : xal kd (n + 7) 5 2 = 60 :: xal kd (n + 6) 2 2 := xal_60 (by decide)
  have q2 : xav p kd v (n + 7) 5 2 x = xav p kd v (n + 6) 2 2 (zw (x - p)) := xav_60 (by decide)
  rw [q1] at hL kk
  rw [q2] at kk
  rw [List.length_cons] at hL
  refine E209 w (by omega) ⟨fun q => absurd q (by decide), fun q => absurd q (by decide), fun _ => ?_, fun q => absurd rfl q.2.2⟩
  refine mp206 w t (by omega) fun h3 w3 t3 => W209_73 w3 (by omega) (mtA (n := n) hp ek hkd ev (Or.inr rfl) (d - 1) _ h3 _ _ (by omega) w3 t3 (by rw [l1]; omega) fun h4 w4 t4 => W209_82 w4 ?_)
  rw [List.append_assoc] at t4
  exact kk h4 w4 t4
theorem mt4 (hp : 0 ≤ p ∧ p < 6) (ek : zV h 138 p.toNat = kd) (hkd : 0 ≤ kd ∧ kd < 7) (ev : zV h 139 p.toNat = v) : xMH zl nl h p kd v 209 2 (n + 6) 9 4 := by
  intro d K h2 x L hd w t hL kk
  have q : xbf 4 2 = xbf 1 2 := rfl
  rw [xal_c q] at hL kk
  rw [xav_c q] at kk
  refine E209 w (by omega) ⟨fun q => absurd q (by decide), fun q => absurd q (by decide), fun q => absurd q (by decide), fun _ => ?_⟩
  exact E207 w ⟨fun q => absurd rfl q, fun _ => W209_110 w (by omega) (mtA (n := n) hp ek hkd ev (Or.inl rfl) (d - 1) _ h2 x L (by omega) w t hL fun h3 w3 t3 => W209_114 w3 (kk h3 w3 t3))⟩
theorem mt6 (hp : 0 ≤ p ∧ p < 6) (ek : zV h 138 p.toNat = kd) (hkd : 0 ≤ kd ∧ kd < 7) (ev : zV h 139 p.toNat = v) : xMH zl nl h p kd v 209 2 (n + 7) 9 6 := by
  intro d K h2 x L hd w t hL kk
  have q : xbf 6 2 = xbf 3 2 := rfl
  rw [xal_c q] at hL kk
  rw [xav_c q] at kk
  refine E209 w (by omega) ⟨fun q => absurd q (by decide), fun q => absurd q (by decide), fun q => absurd q (by decide), fun _ => ?_⟩
  exact E207 w ⟨fun _ => ⟨fun _ => ⟨fun q => absurd rfl q, fun _ => W209_110 w (by omega) (mt3 (n := n) hp ek hkd ev (d - 1) _ h2 x L (by omega) w t hL fun h3 w3 t3 => W209_114 w3 (kk h3 w3 t3))⟩, fun q => absurd (by decide) q⟩, fun q => absurd (by decide) q⟩
theorem mt (hp : 0 ≤ p ∧ p < 6) (ek : zV h 138 p.toNat = kd) (hkd : 0 ≤ kd ∧ kd < 7) (ev : zV h 139 p.toNat = v) (hk : 0 ≤ k ∧ k < 7) : xMH zl nl h p kd v 209 2 (n + 7) 9 k := by
  have c : k = 0 ∨ k = 1 ∨ k = 2 ∨ k = 3 ∨ k = 4 ∨ k = 5 ∨ k = 6 := by omega
  rcases c with rfl | rfl | rfl | rfl | rfl | rfl | rfl
  · exact (mt0 hp ek hkd ev).le (by decide)
  · exact (mtA hp ek hkd ev (Or.inl rfl)).le (by decide)
  · exact (mtA hp ek hkd ev (Or.inr rfl)).le (by decide)
  · exact (mt3 hp ek hkd ev).le (by decide)
  · exact (mt4 hp ek hkd ev)
  · exact mt5 hp ek hkd ev
  · exact mt6 hp ek hkd ev
theorem xal_len (hk : 0 ≤ kd ∧ kd < 7) (ha : 0 ≤ ac ∧ ac < 3) : (xal kd 20 kd ac).length < 1000 := by
  have c1 : kd = 0 ∨ kd = 1 ∨ kd = 2 ∨ kd = 3 ∨ kd = 4 ∨ kd = 5 ∨ kd = 6 := by omega
  have c2 : ac = 0 ∨ ac = 1 ∨ ac = 2 := by omega
  rcases c1 with rfl | rfl | rfl | rfl | rfl | rfl | rfl <;> rcases c2 with rfl | rfl | rfl <;> decide +kernel
theorem Inv.am (I : Inv zl nl xs h) (w2 : yWF zl nl h2) (f : Fr xAm h h2) (ac : xAc h2) : Inv zl nl xs h2 := by
  refine ⟨w2, f.ST I.st (fun b k q => ?_), xNw_fr f (fun b k q => ?_) I.nw, xShp_fr f (fun b k q => ?_) I.sh, xTx_fr f (fun b k q => ?_) I.tx, xTp_fr f (fun b k q => ?_) I.tp, ac, xIm_fr f (fun b k q => ?_) I.im, fun k => ?_⟩
  · unfold xStC xShC at q; unfold xAm; omega
  · unfold xOM at q; unfold xAm; omega
  · unfold xAm; omega
  · unfold xAm; omega
  · unfold xAm; omega
  · unfold xAm; omega
  · rw [f.V 0 k (by unfold xAm; omega)]
    exact I.xss k
theorem xTr_ac (a2 : zV h2 94 1 = (L.length : Int)) (a3 : ∀ k e, k < 20 → L[k]? = some e → zV h2 95 k = e) (q2 : xTr 137 36 160 h2 h3 L) (hL : L.length < 1000) : xAc h3 := by
  obtain ⟨b1, b2, b3⟩ := q2
  have e1 : zV h3 94 1 = (L.length : Int) := by rw [b1.V 94 1 (by omega)]; exact a2
  refine ⟨e1.trans b2.symm, by omega, by omega, fun k hk hk2 => ?_⟩
  obtain ⟨e, he⟩ : ∃ e, L[k]? = some e := ⟨L[k]'(by omega), List.getElem?_eq_getElem (by omega)⟩
  rw [b3 k e hk he, b1.V 95 k (by omega)]
  exact a3 k e hk he
/-- act -/
theorem ap107 (I : Inv zl nl xs h) (hd : 30 ≤ d) : yI d 107 [vR (some 32), vI x, vI y, vI t] h (fun t' h1 => yI d 204 [vR (some 137), vI x, vI y, vI t] h1 (fun u' h2 => t' = u' ∧ Inv zl nl xs h2)) := by
  have w := I.w
  have rs := I.rg.sz
  have eC := I.sz
  have e0 : zV h 137 0 = hvM h 0 0 := rfl
  -- none such
  have no : ¬ ((0 ≤ x ∧ x < hvM h 0 0) ∧ (0 ≤ y ∧ y < 3)) → yI d 204 [vR (some 137), vI x, vI y, vI t] (zsetV h 94 1 0) (fun u' h2 => 0 = u' ∧ Inv zl nl xs h2) := by
    intro c
    have w2 : yWF zl nl (zsetV (zsetV h 94 1 0) 137 36 0) := yWFV (yWFV w)
    have I2 : Inv zl nl xs (zsetV (zsetV h 94 1 0) 137 36 0) := by
      refine I.am w2 ((Fr.set (Or.inl rfl)).trans (Fr.set (Or.inr (Or.inr (Or.inr ⟨rfl, rfl⟩))))) ?_
      refine ⟨rfl, by show (0 : Int) ≤ 0; decide, by show (0 : Int) ≤ 100000; decide, fun k hk hk2 => ?_⟩
      have hk3 : (k : Int) < 0 := hk2
      omega
    have f0 : zV (zsetV (zsetV h 94 1 0) 137 36 0) 137 0 = hvM h 0 0 := e0
    refine E204 (yWFV w) (by omega) ?_
    rw [f0]
    exact ⟨rs, fun c1 => ⟨fun c2 => absurd ⟨c1, by omega⟩ c, fun _ => ⟨rfl, I2⟩⟩, fun _ => ⟨rfl, I2⟩⟩
  refine E107 w (by omega) (E108 w (W107_7 (yWFV w) (by omega) ?_))
  have f10 : zV (zsetV h 94 1 0) 33 10 = hvM h 0 0 := eC
  rw [f10]
  refine ⟨fun c1 => ⟨fun c2 => ⟨by omega, by omega, ?_⟩, fun c2 => no (fun q => c2 q.2)⟩, fun c1 => no (fun q => c1 q.1)⟩
  obtain ⟨kd, hkd⟩ : ∃ kd, kd = hvM h 1 x.toNat := ⟨_, rfl⟩
  obtain ⟨v, hv⟩ : ∃ v, v = hvM h 2 x.toNat := ⟨_, rfl⟩
  have ek : zV (zsetV h 94 1 0) 34 x.toNat = kd := by
    show zV h 34 x.toNat = kd
    rw [hkd, ← I.v, vC_1 (by omega)]
  have ev : zV (zsetV h 94 1 0) 35 x.toNat = v := by
    show zV h 35 x.toNat = v
    rw [hv, ← I.v, vC_2 (by omega)]
  have rk := I.rg.kd x.toNat
  rw [← hkd] at rk
  rw [ek, ev]
  refine E109 (yWFV w) (by omega) ?_
  intro g hg
  have wg : yWF zl nl g := by rw [← hg]; exact yWFV (yWFV (yWFV w))
  have g1 : zV (zsetV g 94 4 v) 94 1 = 0 := by rw [← hg]; rfl
  have g2 : zV (zsetV g 94 4 v) 94 2 = x := by rw [← hg]; rfl
  have g3 : zV (zsetV g 94 4 v) 94 3 = kd := by rw [← hg]; rfl
  have fg : Fr xAm h (zsetV g 94 4 v) := by
    rw [← hg]
    exact (((Fr.set (Or.inl rfl)).trans (Fr.set (Or.inl rfl))).trans (Fr.set (Or.inl rfl))).trans (Fr.set (Or.inl rfl))
  rw [g3]
  have bb : yB (zsetV g 94 4 v) := fg.B I.st.2.2.1 (fun b k q => by unfold xAm; omega)
  have ln := xal_len (kd := kd) (ac := y) (by omega) c2
  refine cp110 (h := zsetV g 94 4 v) (p := x) (kd := kd) (v := v) bb g2 g3 rfl (by omega) 20 (L := []) (by omega) (by decide) (by decide) (by omega) c2 (yWFV wg) ⟨Fr.rfl', g1, fun k e _ he => by simp at he⟩ (by rw [List.length_nil]; omega) fun h3 w3 t3 => W109_28 w3 (W107_53 w3 ?_)
  rw [List.nil_append] at t3
  generalize hr : xav x kd v 20 kd y t = r
  have f3 : Fr xAm h h3 := fg.trans (t3.1.mono fun b k q => by unfold xAm; omega)
  have w4 : yWF zl nl (zsetV h3 137 36 0) := yWFV w3
  have m0 : zV (zsetV h3 137 36 0) 137 0 = hvM h 0 0 := by
    show zV h3 137 0 = _
    rw [f3.V 137 0 (by unfold xAm; omega)]
    rfl
  have m1 : zV (zsetV h3 137 36 0) 138 x.toNat = kd := by
    show zV h3 138 x.toNat = _
    rw [f3.V 138 _ (by unfold xAm; omega), hkd, vM_1 (by omega)]
  have m2 : zV (zsetV h3 137 36 0) 139 x.toNat = v := by
    show zV h3 139 x.toNat = _
    rw [f3.V 139 _ (by unfold xAm; omega), hv, vM_2 (by omega)]
  have t4 : xTr 137 36 160 (zsetV h3 137 36 0) (zsetV h3 137 36 0) [] := ⟨Fr.rfl', rfl, fun k e _ he => by simp at he⟩
  have fin : ∀ (h5 : Hp) (u' : Int), yWF zl nl h5 → xTr 137 36 160 (zsetV h3 137 36 0) h5 ([] ++ xal kd 20 kd y) → u' = r → r = u' ∧ Inv zl nl xs h5 := by
    intro h5 u' w5 t5 hu
    rw [List.nil_append] at t5
    refine ⟨hu.symm, I.am w5 (f3.trans ((Fr.set (Or.inr (Or.inr (Or.inr ⟨rfl, rfl⟩)))).trans (t5.1.mono fun b k q => by unfold xAm; omega))) ?_⟩
    exact xTr_ac (h2 := zsetV h3 137 36 0) t3.2.1 t3.2.2 t5 ln
  refine E204 w3 (by omega) ?_
  rw [m0, m1]
  refine ⟨rs, fun _ => ⟨fun _ => ⟨by omega, fun q0 => ⟨fun q1 => ?_, fun q1 => ?_⟩, fun q0 => ?_⟩, fun q => absurd (by omega) q⟩, fun q => absurd c1 q⟩
  · obtain rfl : y = 2 := by omega
    exact mt (n := 13) (by omega) m1 (by omega) m2 (by omega) (d - 1) _ _ _ _ (by omega) w4 t4 (show ([] : List Int).length + (xal kd 20 kd 2).length < 100000 by rw [List.length_nil]; omega) fun h5 w5 t5 => W204_71 w5 (fin h5 _ w5 t5 hr)
  · obtain rfl : y = 1 := by omega
    exact mq (n := 15) (by omega) m1 (by omega) m2 (by omega) (d - 1) _ _ _ _ (by omega) w4 t4 (show ([] : List Int).length + (xal kd 20 kd 1).length < 100000 by rw [List.length_nil]; omega) fun h5 w5 t5 => W204_60 w5 (fin h5 _ w5 t5 hr)
  · obtain rfl : y = 0 := by omega
    exact mh (n := 18) (kd := kd) (by omega) m2 (by omega) (d - 1) _ _ _ _ (by omega) w4 t4 (show ([] : List Int).length + (xal kd 20 kd 0).length < 100000 by rw [List.length_nil]; omega) fun h5 w5 t5 => W204_44 w5 (fin h5 _ w5 t5 hr)
end XAD
