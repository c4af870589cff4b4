/-! PITCH, NOTE, SOUND: the class -/
def yfact (V : Nat → Nat → Int) (a : Nat) (p i : Int) (j : Nat) : Int := match j with
  | 0 => p
  | 1 => V (a + 1) p.toNat
  | 2 => V (a + 2) p.toNat
  | 3 => i
  | 4 => V (a + 4) (6 * p + i).toNat
  | 5 => zrem (V a 11) 10
  | _ => 0
def ypit (kd v i s ag rw : Int) : Int :=
  if kd = 1 then zw (s + v) else
  if kd = 2 then zdiv s 2 else
  if kd = 3 then (if i = v then 0 else s) else
  if kd = 4 then (if zrem i 2 ≠ 1 then zw (s + v) else zw (2 * zw (s + v))) else
  if kd = 5 then zw (zdiv s 2 + ymin ag 9) else
  if kd = 6 then zw ((if i = v then 0 else s) + rw) else s
/-- the pitch of the house at a with the shop at s -/
def ypC (V : Nat → Nat → Int) (a s : Nat) (p i : Int) : Int := ypit (V (a + 1) p.toNat) (V (a + 2) p.toNat) i (zw (V (a + 4) (6 * p + i).toNat + ysharp V s (yfact V a p i))) (V (a + 3) p.toNat) (V (a + 5) (4 * p + V a 11 % 4).toNat)
theorem yshR_congr {V V' : Nat → Nat → Int} {s : Nat} {f f' : Nat → Int} (hV : ∀ j, j < 4 → ∀ k, V (s + j) k = V' (s + j) k) (hf : ∀ j, j < 6 → f j = f' j) (n : Nat) (ok : ∀ i, i < n → 0 ≤ V (s + 2) i ∧ V (s + 2) i < 6) : ∀ (m i : Nat) (q : Int × Int), i + m ≤ n → yshR V s f m i q = yshR V' s f' m i q := by
  intro m
  induction m with
  | zero => intro i q _; rfl
  | succ m ih =>
    intro i q hm
    unfold yshR
    have o := ok i (by omega)
    rw [ih _ _ (by omega), ← hV 1 (by decide), ← hV 2 (by decide), ← hV 3 (by decide), hf _ (by omega)]
theorem ysharp_congr {V V' : Nat → Nat → Int} {s : Nat} {f f' : Nat → Int} (ok : yShopOk V s) (hV : ∀ j, j < 4 → ∀ k, V (s + j) k = V' (s + j) k) (hf : ∀ j, j < 6 → f j = f' j) : ysharp V s f = ysharp V' s f' := by
  obtain ⟨o1, o2, o3⟩ := ok
  have e : V s 3 = V' s 3 := hV 0 (by decide) 3
  unfold ysharp
  rw [← e]
  exact yshR_congr hV hf (V s 3).toNat (fun i hi => o3 i (by omega)) _ _ _ (by omega)
section YPI
variable {zl : Nat} {nl : Option Nat} {h : Hp} {d : Nat} {K : Int → Hp → Prop} {U : Hp → Prop} {a n s b : Nat} {x y z : Int}
theorem ymkH (ha : yHs a) {j : Nat} (hj : j ≠ 6 ∧ j < 15) (k : Nat) : ymk h (a + j) k = zV h (a + j) k := ymk_of (ySn_H ha hj)
theorem ymkH0 (ha : yHs a) (k : Nat) : ymk h a k = zV h a k := ymk_of (ySn_H (j := 0) ha (by decide))
theorem sp19 (w : yWF zl nl h) (ha : yHs a) (p : 0 ≤ x ∧ x < 6 ∧ 0 ≤ y ∧ y < 6) (k : ∀ h', ySm h h' → (∀ j, j < 6 → zV h' (a + 6) j = yfact (ymk h) a x y j) → U h') : yU d 19 [vR (some a), vI x, vI y] h U := by
  refine E19 w ha ?_
  rw [zwi (x := x * 6) (by omega), zwi (x := x * 6 + y) (by omega), Int.mul_comm x 6]
  refine ⟨by omega, ?_⟩
  rintro _ rfl
  refine ⟨by omega, ?_⟩
  rintro _ rfl
  refine ⟨by omega, ?_⟩
  rintro _ rfl
  have c := ySc_H ha
  refine k _ ((((((ySm.set c).trans (ySm.set c)).trans (ySm.set c)).trans (ySm.set c)).trans (ySm.set c)).trans (ySm.set c)) fun j hj => ?_
  match j, hj with
  | 0, _ => simp [zV_V, yfact]
  | 1, _ => simp [zV_V, yfact, ymkH (h := h) ha (j := 1) (by decide)]
  | 2, _ => simp [zV_V, yfact, ymkH (h := h) ha (j := 2) (by decide)]
  | 3, _ => simp [zV_V, yfact]
  | 4, _ => simp [zV_V, yfact, ymkH (h := h) ha (j := 4) (by decide)]
  | 5, _ => simp [zV_V, yfact, ymkH0 (h := h) ha]
  | j + 6, hj => omega
theorem sp18 (w : yWF zl nl h) (ha : yHs a) (hd : 3 ≤ d) (hs : zP h a 12 = some s) (ok : yShopOk (zV h) s) (hy : 0 ≤ zV h a 11 ∧ zV h a 11 < 2147483648) (p : 0 ≤ x ∧ x < 6 ∧ 0 ≤ y ∧ y < 6) (k : ∀ h', ySm h h' → K (ypC (ymk h) a s x y) h') : yI d 18 [vR (some a), vI x, vI y] h K := by
  refine E18 w ha (by omega) (sp19 w ha p fun h2 m2 f2 => ?_)
  have w2 := m2.wf w
  refine W18_6 w2 ha (by omega) ⟨p, fun s' es hS => ?_⟩
  have e2 : zP h2 a 12 = zP h a 12 := by rw [m2.1.2.2.1]
  rw [e2, hs] at es
  obtain rfl := Option.some.inj es
  have ok2 : yShopOk (zV h2) s := by
    unfold yShopOk
    have e0 : zV h2 s 3 = zV h s 3 := m2.V (b := s) (by have := ySn_S (j := 0) hS (by decide); exact this) 3
    rw [e0]
    refine ⟨ok.1, ok.2.1, fun i hi => ?_⟩
    rw [m2.V (ySn_S hS (by decide))]
    exact ok.2.2 i hi
  refine sp21 w2 hS (ysH6 w2 ha) (by have := yH_32 ha; omega) ok2 ?_
  have es : ysharp (zV h2) s (zV h2 (a + 6)) = ysharp (ymk h) s (yfact (ymk h) a x y) :=
    ysharp_congr ok2 (fun j hj i => by rw [m2.V (ySn_S hS hj), ymk_of (ySn_S hS hj)]) f2
  rw [es]
  have k := k h2 m2
  have q : ∀ j, j ≠ 6 ∧ j < 15 → ∀ i, zV h2 (a + j) i = ymk h (a + j) i := fun j hj i => by rw [m2.V (ySn_H ha hj), ymkH ha hj]
  have q0 : zV h2 a 11 = ymk h a 11 := by have := q 0 (by decide) 11; exact this
  have q1 : zV h a 11 = ymk h a 11 := (ymkH0 ha 11).symm
  rw [q1] at hy
  have em : ymk h a 11 % 4 < 4 := Int.emod_lt_of_pos _ (by decide)
  have en : 0 ≤ ymk h a 11 % 4 := Int.emod_nonneg _ (by decide)
  refine W18_23 w2 ha (by omega) ?_
  rw [q 1 (by decide), q 2 (by decide), q 3 (by decide), q 4 (by decide), q 5 (by decide), q0, zrem_nn hy (by decide), zwi (x := x * 4) (by omega), zwi (x := x * 4 + ymk h a 11 % 4) (by omega), Int.mul_comm x 4]
  unfold ypC ypit at k
  refine ⟨by omega, fun c => ⟨by omega, ?_⟩, fun c => ⟨by omega, ?_⟩⟩
  · rw [if_neg c] at k
    refine ⟨fun c => ?_, fun c => ?_, fun c => ?_, fun c => ⟨fun c2 => ?_, fun c2 => ?_⟩, fun c => ⟨by omega, ?_⟩, fun c => ⟨by omega, ?_⟩, fun c => ?_⟩
    · rw [if_pos c] at k; exact k
    · rw [if_neg (by omega), if_pos c] at k; exact k
    · rw [if_neg (by omega), if_neg (by omega), if_pos c] at k; exact k
    · rw [if_neg (by omega), if_neg (by omega), if_neg (by omega), if_pos c, if_pos c2] at k; exact k
    · rw [if_neg (by omega), if_neg (by omega), if_neg (by omega), if_pos c, if_neg c2] at k; exact k
    · rw [if_neg (by omega), if_neg (by omega), if_neg (by omega), if_neg (by omega), if_pos c] at k; exact k
    · rw [if_neg (by omega), if_neg (by omega), if_neg (by omega), if_neg (by omega), if_neg (by omega), if_pos c] at k; exact k
    · rw [if_neg (by omega), if_neg (by omega), if_neg (by omega), if_neg (by omega), if_neg (by omega), if_neg (by omega)] at k; exact k
  · have c : y = ymk h (a + 2) x.toNat := Classical.byContradiction c
    rw [if_pos c] at k
    refine ⟨fun c => ?_, fun c => ?_, fun c => ?_, fun c => ⟨fun c2 => ?_, fun c2 => ?_⟩, fun c => ⟨by omega, ?_⟩, fun c => ⟨by omega, ?_⟩, fun c => ?_⟩
    · rw [if_pos c] at k; exact k
    · rw [if_neg (by omega), if_pos c] at k; exact k
    · rw [if_neg (by omega), if_neg (by omega), if_pos c] at k; exact k
    · rw [if_neg (by omega), if_neg (by omega), if_neg (by omega), if_pos c, if_pos c2] at k; exact k
    · rw [if_neg (by omega), if_neg (by omega), if_neg (by omega), if_pos c, if_neg c2] at k; exact k
    · rw [if_neg (by omega), if_neg (by omega), if_neg (by omega), if_neg (by omega), if_pos c] at k; exact k
    · rw [if_neg (by omega), if_neg (by omega), if_neg (by omega), if_neg (by omega), if_neg (by omega), if_pos c] at k; exact k
    · rw [if_neg (by omega), if_neg (by omega), if_neg (by omega), if_neg (by omega), if_neg (by omega), if_neg (by omega)] at k; exact k
end YPI
