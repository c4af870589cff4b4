/-! TAPES: shift -/
def js (J : Nat → Nat → Int64) (a s b o n : Nat) : Nat → Nat → Int64 := fun c k => if c = b ∧ o ≤ k ∧ k < o + n then J a (s + (k - o)) else J c k
def jq (J : Nat → Nat → Int64) (s o lo hi : Nat) : Nat → Nat → Int64 := fun b p => if b = 169 ∧ o + lo ≤ p ∧ p < o + hi then J 169 (s + (p - o)) else J b p
section XTC
variable {zl : Nat} {nl : Option Nat} {xs : Nat → Int} {h h' h1 h2 h3 H : Hp} {d : Nat} {K : Int → Hp → Prop} {KJ : Int64 → Hp → Prop} {U : Hp → Prop} {a n s b j k i m o : Nat} {x y z t u B : Int} {v p q : Int64} {M : Nat → Nat → Prop} {V : Nat → Nat → Int} {J : Nat → Nat → Int64} {P : Nat → Prop}
theorem jq_f (e : zJ h = jq J s o 0 k) (c : o ≤ s ∨ s + k < o) : zJ (zsetJ h 169 (o + k) (zJ h 169 (s + k))) = jq J s o 0 (k + 1) := by
  funext b p
  rw [zJ_J, e]
  unfold jq
  by_cases c1 : b = 169 ∧ p = o + k
  · rw [if_pos c1, if_neg (by omega), if_pos (by omega)]
    congr 1
    omega
  · rw [if_neg c1]
    by_cases c2 : b = 169 ∧ o + 0 ≤ p ∧ p < o + k
    · rw [if_pos c2, if_pos (by omega)]
    · rw [if_neg c2, if_neg (by omega)]
theorem jq_b (e : zJ h = jq J s o (k + 1) n) (c : s < o) (c2 : k < n) : zJ (zsetJ h 169 (o + k) (zJ h 169 (s + k))) = jq J s o k n := by
  funext b p
  rw [zJ_J, e]
  unfold jq
  by_cases c1 : b = 169 ∧ p = o + k
  · rw [if_pos c1, if_neg (by omega), if_pos (by omega)]
    congr 1
    omega
  · rw [if_neg c1]
    by_cases c2 : b = 169 ∧ o + (k + 1) ≤ p ∧ p < o + n
    · rw [if_pos c2, if_pos (by omega)]
    · rw [if_neg c2, if_neg (by omega)]
theorem jq_0 : jq J s o n n = J := by
  funext b p
  unfold jq
  rw [if_neg (by omega)]
theorem mp218_f (hx : 0 ≤ x ∧ x < 6) (hz : 0 ≤ z ∧ z < 6) (hy : 0 ≤ y ∧ y + t ≤ 60) (hu : 0 ≤ u ∧ u + t ≤ 60) (ht : 0 ≤ t) (c : 60 * z.toNat + u.toNat ≤ 60 * x.toNat + y.toNat ∨ 60 * x.toNat + y.toNat + t.toNat ≤ 60 * z.toNat + u.toNat) (k : ∀ h', xQ zl nl h h' V (jq J (60 * x.toNat + y.toNat) (60 * z.toNat + u.toNat) 0 t.toNat) → K t h') : ∀ (m i : Nat) (h2 : Hp), (i : Int) + m = t → xQ zl nl h h2 V (jq J (60 * x.toNat + y.toNat) (60 * z.toNat + u.toNat) 0 i) → ZW d prog_10_method_75_code 8 170 [some (vR (some 137)), some (vI x), some (vI y), some (vI z), some (vI u), some (vI t), some (vI i)] [] h2 (yq 1 (yqI K)) := by
  intro m
  induction m with
  | zero =>
    intro i h2 hm r
    refine W218_170 r.1 ⟨fun _ => ?_, fun c => absurd (by omega) c⟩
    have ei : i = t.toNat := by omega
    rw [ei] at r
    exact k h2 r
  | succ m ih =>
    intro i h2 hm r
    have z1 : zw (zw (zw (60 * x) + y) + (i : Int)) = 60 * x + y + i := by rw [zwi (x := 60 * x) (by omega), zwi (x := 60 * x + y) (by omega), zwi (by omega)]
    have z2 : zw (zw (zw (60 * z) + u) + (i : Int)) = 60 * z + u + i := by rw [zwi (x := 60 * z) (by omega), zwi (x := 60 * z + u) (by omega), zwi (by omega)]
    have z3 : (60 * x + y + (i : Int)).toNat = 60 * x.toNat + y.toNat + i := by omega
    have z4 : (60 * z + u + (i : Int)).toNat = 60 * z.toNat + u.toNat + i := by omega
    refine W218_170 r.1 ⟨fun c => absurd c (by omega), fun c => ?_⟩
    rw [z1, z2, z3, z4, nz (by omega)]
    obtain ⟨r1, r2, r3, r4⟩ := r
    exact ⟨by omega, by omega, ih (i + 1) _ (by omega) ⟨yWFJ r1, r2, r3, jq_f r4 (by omega)⟩⟩
theorem mp218_b (hx : 0 ≤ x ∧ x < 6) (hz : 0 ≤ z ∧ z < 6) (hy : 0 ≤ y ∧ y + t ≤ 60) (hu : 0 ≤ u ∧ u + t ≤ 60) (ht : 0 ≤ t) (c : 60 * x.toNat + y.toNat < 60 * z.toNat + u.toNat) (k : ∀ h', xQ zl nl h h' V (jq J (60 * x.toNat + y.toNat) (60 * z.toNat + u.toNat) 0 t.toNat) → K t h') : ∀ (m : Nat) (l6 : Int) (h2 : Hp), l6 = (m : Int) - 1 → (m : Int) ≤ t → xQ zl nl h h2 V (jq J (60 * x.toNat + y.toNat) (60 * z.toNat + u.toNat) m t.toNat) → ZW d prog_10_method_75_code 8 124 [some (vR (some 137)), some (vI x), some (vI y), some (vI z), some (vI u), some (vI t), some (vI l6)] [] h2 (yq 1 (yqI K)) := by
  intro m
  induction m with
  | zero =>
    intro l6 h2 hl hm r
    exact W218_124 r.1 ⟨fun _ => k h2 r, fun c => absurd (by omega) c⟩
  | succ m ih =>
    intro l6 h2 hl hm r
    obtain rfl : l6 = (m : Int) := by omega
    have z1 : zw (zw (zw (60 * x) + y) + (m : Int)) = 60 * x + y + m := by rw [zwi (x := 60 * x) (by omega), zwi (x := 60 * x + y) (by omega), zwi (by omega)]
    have z2 : zw (zw (zw (60 * z) + u) + (m : Int)) = 60 * z + u + m := by rw [zwi (x := 60 * z) (by omega), zwi (x := 60 * z + u) (by omega), zwi (by omega)]
    have z3 : (60 * x + y + (m : Int)).toNat = 60 * x.toNat + y.toNat + m := by omega
    have z4 : (60 * z + u + (m : Int)).toNat = 60 * z.toNat + u.toNat + m := by omega
    have z5 : zw ((m : Int) + -1) = (m : Int) - 1 := by rw [zwi (by omega)]; omega
    refine W218_124 r.1 ⟨fun c => absurd c (by omega), fun c => ?_⟩
    rw [z1, z2, z3, z4, z5]
    obtain ⟨r1, r2, r3, r4⟩ := r
    exact ⟨by omega, by omega, ih _ _ rfl (by omega) ⟨yWFJ r1, r2, r3, jq_b r4 (by omega) (by omega)⟩⟩
theorem ap125 (I : Inv zl nl xs h) (hd : 20 ≤ d) (hy : zr y) (hu : zr u) (ht : zr t) : yI d 125 [vR (some 32), vI x, vI y, vI z, vI u, vI t] h (fun t' h1 => yI d 218 [vR (some 137), vI x, vI y, vI z, vI u, vI t] h1 (fun u' h2 => t' = u' ∧ Inv zl nl xs h2)) := by
  have w := I.w
  by_cases cx : 0 ≤ x ∧ x < 6
  · by_cases cz : 0 ≤ z ∧ z < 6
    · obtain ⟨a1, a2, a3, a4, a5, a6, a7, a8⟩ := I.tp x.toNat (by omega)
      obtain ⟨b1, b2, b3, b4, b5, b6, b7, b8⟩ := I.tp z.toNat (by omega)
      have rA : zr (zV h 168 x.toNat) := by unfold zr; omega
      have rB : zr (zV h 168 z.toNat) := by unfold zr; omega
      have g1 := jad_gt hy ht rA
      have g2 := jad_le hu ht rB
      have bad : zV h 167 x.toNat ≠ -1 → zV h 167 z.toNat ≠ -1 → zV h 167 x.toNat = zV h 167 z.toNat → ¬ (0 ≤ y ∧ 0 ≤ t ∧ y + t ≤ zV h 168 x.toNat ∧ 0 ≤ u ∧ u + t ≤ zV h 168 z.toNat) → yI d 218 [vR (some 137), vI x, vI y, vI z, vI u, vI t] h (fun u' h2 => -13 = u' ∧ Inv zl nl xs h2) := by
        intro q1 q2 q3 q4
        refine E218 w (by omega) ⟨fun _ => ⟨fun _ => ⟨cx, fun c => absurd c (by omega), fun _ => ⟨cz, fun _ => ⟨cx, cz, fun _ => ⟨fun _ => ⟨rfl, I⟩, fun c4 => ⟨fun _ => ⟨rfl, I⟩, fun c5 => ⟨fun _ => ⟨rfl, I⟩, fun c6 => ⟨cx, fun _ => ⟨rfl, I⟩, fun c7 => ⟨cz, fun c8 => ?_, fun _ => ⟨rfl, I⟩⟩⟩⟩⟩⟩, fun c => absurd q3 c⟩, fun c => absurd (by omega) c⟩⟩, fun c => absurd cz c⟩, fun c => absurd cx c⟩
        rw [g1] at c7
        rw [g2] at c8
        exact absurd ⟨by omega, by omega, by omega, by omega, by omega⟩ q4
      refine E125 w (by omega) ⟨fun _ => ⟨fun _ => ⟨cx, cz, fun c1 => ⟨fun c2 => ⟨fun c3 => ⟨by omega, fun c4 => ⟨by omega, fun c5 => ⟨by omega, ?_⟩, fun c5 => ?_⟩, fun c4 => ?_⟩, fun c3 => ?_⟩, fun c2 => ?_⟩, fun c1 => ?_⟩, fun c => absurd cz c⟩, fun c => absurd cx c⟩
      · obtain ⟨H, hH⟩ : ∃ H, H = zcpJ h (125 + 2 * x.toNat + 1) y.toNat (125 + 2 * z.toNat + 1) u.toNat t.toNat := ⟨_, rfl⟩
        rw [← hH]
        have wH : yWF zl nl H := by rw [hH]; exact w
        have vH : zV H = zV h := by rw [hH]; rfl
        have pH : zP H = zP h := by rw [hH]; rfl
        have jH : zJ H = js (zJ h) (125 + 2 * x.toNat + 1) y.toNat (125 + 2 * z.toNat + 1) u.toNat t.toNat := by rw [hH]; rfl
        have fin : ∀ h2, xQ zl nl H h2 (zV h) (jq (zJ H) (60 * x.toNat + y.toNat) (60 * z.toNat + u.toNat) 0 t.toNat) → t = t ∧ Inv zl nl xs h2 := by
          rintro h2 ⟨w2, p2, v2, j2⟩
          refine ⟨rfl, I.ot w2 (p2.trans pH) (fun b k q => by rw [v2]) (xTx_e (h := h) (fun b k q => by rw [v2]) I.tx) (fun i hi => ?_) (xAc_e (h := h) (fun b k q => by rw [v2]) I.ac)⟩
          obtain ⟨q1, q2, q3, q4, q5, q6, q7, q8⟩ := I.tp i hi
          unfold xTp1
          rw [v2]
          refine ⟨q1, q2, q3, q4, q5, q6, q7, fun k hk => ?_⟩
          rw [j2, jH]
          unfold jq js
          rw [if_neg (by omega)]
          by_cases c : i = z.toNat ∧ u.toNat ≤ k ∧ k < u.toNat + t.toNat
          · obtain ⟨rfl, c⟩ := c
            rw [if_pos (by omega), if_pos (by omega), if_neg (by omega)]
            have e : 60 * x.toNat + y.toNat + (60 * z.toNat + k - (60 * z.toNat + u.toNat)) = 60 * x.toNat + (y.toNat + (k - u.toNat)) := by omega
            rw [e]
            exact a8 _ (by omega)
          · rw [if_neg (by omega), if_neg (by omega), if_neg (by omega)]
            exact q8 k hk
        have f1 : ∀ k, zV H 167 k = zV h 167 k := fun k => by rw [vH]
        have f2 : ∀ k, zV H 168 k = zV h 168 k := fun k => by rw [vH]
        have lf : (60 * z.toNat + u.toNat ≤ 60 * x.toNat + y.toNat ∨ 60 * x.toNat + y.toNat + t.toNat ≤ 60 * z.toNat + u.toNat) → ZW d prog_10_method_75_code 8 170 [some (vR (some 137)), some (vI x), some (vI y), some (vI z), some (vI u), some (vI t), some (vI 0)] [] H (yq 1 (yqI (fun u' h2 => t = u' ∧ Inv zl nl xs h2))) := fun c => mp218_f (h := H) (V := zV h) (J := zJ H) cx cz (by omega) (by omega) (by omega) c fin t.toNat 0 H (by omega) ⟨wH, rfl, vH, jq_0.symm⟩
        refine E218 wH (by omega) ⟨fun _ => ⟨fun _ => ⟨cx, fun c => absurd c (by rw [f1]; omega), fun _ => ⟨cz, fun _ => ⟨cx, cz, fun _ => ⟨fun c => absurd c (by omega), fun _ => ⟨fun c => absurd c (by omega), fun _ => ⟨fun c => absurd c (by omega), fun _ => ⟨cx, fun c => absurd c ?_, fun _ => ⟨cz, fun _ => ⟨fun c7 => lf (by omega), fun c7 => ⟨fun c8 => lf (by omega), fun c8 => ?_⟩⟩, fun c => absurd ?_ c⟩⟩⟩⟩⟩, fun c => absurd (by rw [f1, f1]; omega) c⟩, fun c => absurd (by rw [f1]; omega) c⟩⟩, fun c => absurd cz c⟩, fun c => absurd cx c⟩
        · rw [f2, g1]
          omega
        · have c7 : x = z := Classical.byContradiction c7
          subst c7
          have z1 : zw (t - 1) = ((t.toNat : Nat) : Int) - 1 := by rw [zwi (by omega)]; omega
          exact mp218_b (h := H) (V := zV h) (J := zJ H) cx cz (by omega) (by omega) (by omega) (by omega) fin t.toNat _ H z1 (by omega) ⟨wH, rfl, vH, jq_0.symm⟩
        · rw [f2, g2]
          omega
      · exact bad (by omega) (by omega) (by omega) (by omega)
      · exact bad (by omega) (by omega) (by omega) (by omega)
      · exact E218 w (by omega) ⟨fun _ => ⟨fun _ => ⟨cx, fun c => absurd c (by omega), fun _ => ⟨cz, fun _ => ⟨cx, cz, fun c => absurd (by omega) c3, fun _ => ⟨rfl, I⟩⟩, fun c => absurd (by omega) c⟩⟩, fun c => absurd cz c⟩, fun c => absurd cx c⟩
      · exact E218 w (by omega) ⟨fun _ => ⟨fun _ => ⟨cx, fun c => absurd c (by omega), fun _ => ⟨cz, fun c => absurd (by omega) c2, fun _ => ⟨rfl, I⟩⟩⟩, fun c => absurd cz c⟩, fun c => absurd cx c⟩
      · exact E218 w (by omega) ⟨fun _ => ⟨fun _ => ⟨cx, fun _ => ⟨rfl, I⟩, fun c => absurd (by omega) c1⟩, fun c => absurd cz c⟩, fun c => absurd cx c⟩
    · exact E125 w (by omega) ⟨fun _ => ⟨fun c => absurd c cz, fun _ => E218 w (by omega) ⟨fun _ => ⟨fun c => absurd c cz, fun _ => ⟨rfl, I⟩⟩, fun c => absurd cx c⟩⟩, fun c => absurd cx c⟩
  · exact E125 w (by omega) ⟨fun c => absurd c cx, fun _ => E218 w (by omega) ⟨fun c => absurd c cx, fun _ => ⟨rfl, I⟩⟩⟩
end XTC
