/-! FRACTIONS -/
def j64 (a : Int) : Int64 := (zi a).toInt64
theorem j64_toInt {a : Int} (h : zr a) : (j64 a).toInt = a := by
  unfold j64
  rw [Int32.toInt_toInt64, zi_toInt h]
theorem bm64 {x : Int} (h : -9223372036854775808 ≤ x ∧ x < 9223372036854775808) : x.bmod (2 ^ 64) = x := by
  rw [Int.bmod_def]
  split <;> omega
theorem j64_div {a b : Int} (ha : 0 ≤ a ∧ a < 2147483648) (hb : 0 < b ∧ b < 2147483648) : j64 a / j64 b = j64 (a / b) := by
  have h1 : 0 ≤ a / b := Int.ediv_nonneg ha.1 (by omega)
  have h2 : a / b ≤ a := Int.ediv_le_self _ ha.1
  refine Int64.toInt_inj.1 ?_
  rw [Int64.toInt_div, j64_toInt (by unfold zr; omega), j64_toInt (by unfold zr; omega), j64_toInt (by unfold zr; omega), Int.tdiv_eq_ediv_of_nonneg ha.1, bm64 (by omega)]
theorem j64_mod {a b : Int} (ha : 0 ≤ a ∧ a < 2147483648) (hb : 0 < b ∧ b < 2147483648) : j64 a - j64 a / j64 b * j64 b = j64 (a % b) := by
  have h1 : 0 ≤ a / b := Int.ediv_nonneg ha.1 (by omega)
  have h2 : a / b ≤ a := Int.ediv_le_self _ ha.1
  have h3 : b * (a / b) + a % b = a := Int.mul_ediv_add_emod a b
  have h4 : 0 ≤ a % b := Int.emod_nonneg a (by omega)
  have h5 : a % b < b := Int.emod_lt_of_pos a hb.1
  have h6 : 0 ≤ b * (a / b) := Int.mul_nonneg (by omega) h1
  rw [j64_div ha hb]
  refine Int64.toInt_inj.1 ?_
  rw [Int64.toInt_sub, Int64.toInt_mul, j64_toInt (by unfold zr; omega), j64_toInt (by unfold zr; omega), j64_toInt (by unfold zr; omega), j64_toInt (by unfold zr; omega), Int.mul_comm, bm64 (x := b * (a / b)) (by omega), bm64 (by omega)]
  omega
theorem j64_inj {a b : Int} (ha : zr a) (hb : zr b) (e : j64 a = j64 b) : a = b := by
  have := congrArg Int64.toInt e
  rw [j64_toInt ha, j64_toInt hb] at this
  exact this
theorem j64_0 : j64 0 = 0 := by decide +kernel
theorem j64_60 : j64 60 = 60 := by decide +kernel
theorem j64_cmp {a : Int} (ha : zr a) : (lg_cmp (j64 a) 0).toInt = 0 ↔ a = 0 := by
  have e0 : (0 : Int32).toInt = 0 := rfl
  have : (lg_cmp (j64 a) 0).toInt = 0 ↔ lg_cmp (j64 a) 0 = 0 := by
    constructor
    · intro q
      exact Int32.toInt_inj.1 (by rw [q]; rfl)
    · intro q
      rw [q]
      rfl
  rw [this, lg_cmp_eq]
  constructor
  · intro q
    exact j64_inj ha (by unfold zr; omega) (q.trans j64_0.symm)
  · intro q
    rw [q, j64_0]
theorem j64_abs {a : Int} (ha : 0 ≤ a ∧ a < 2147483648) : yabs (j64 a) = j64 a := by
  unfold yabs
  by_cases c : (0 : Int64) < j64 a
  · rw [if_pos c]
  · rw [if_neg c]
    have : a = 0 := by
      have q : ¬ (0 : Int64).toInt < (j64 a).toInt := fun r => c (Int64.lt_iff_toInt_lt.2 r)
      rw [j64_toInt (by unfold zr; omega)] at q
      have e : (0 : Int64).toInt = 0 := rfl
      omega
    rw [this, j64_0]
    rfl
/-- Euclid -/
def xgcd : Nat → Int → Int → Int
  | 0, a, _ => a
  | n + 1, a, b => if b = 0 then a else xgcd n b (a % b)
theorem xgcd_pos : ∀ (n : Nat) (a b : Int), 0 ≤ a → 0 ≤ b → (0 < a ∨ 0 < b) → b ≤ n → 0 < xgcd n a b ∧ (xgcd n a b ≤ a ∨ xgcd n a b ≤ b) := by
  intro n
  induction n with
  | zero =>
    intro a b ha hb h hn
    have : b = 0 := by omega
    unfold xgcd
    omega
  | succ n ih =>
    intro a b ha hb h hn
    unfold xgcd
    by_cases c : b = 0
    · rw [if_pos c]; omega
    · rw [if_neg c]
      have h4 : 0 ≤ a % b := Int.emod_nonneg a c
      have h5 : a % b < b := Int.emod_lt_of_pos a (by omega)
      have := ih b (a % b) hb h4 (Or.inl (by omega)) (by omega)
      omega
/-- a fraction's part in lowest terms -/
def xfr (a b : Int) (part : Int) : Int64 := j64 ((if part = 0 then a else b) / xgcd b.toNat a b)
theorem xgcd_st : ∀ (q : Nat) (a b : Int), 0 ≤ a → 0 ≤ b → b ≤ q → xgcd q a b = xgcd b.toNat a b := by
  intro q
  induction q using Nat.strongRecOn with
  | ind q ihq =>
    intro a b ha hb hn
    by_cases c : b = 0
    · have : b.toNat = 0 := by omega
      rw [this]
      cases q with
      | zero => rfl
      | succ q => show (if b = 0 then a else _) = a; rw [if_pos c]
    · have h4 : 0 ≤ a % b := Int.emod_nonneg a c
      have h5 : a % b < b := Int.emod_lt_of_pos a (by omega)
      obtain ⟨r, hr⟩ : ∃ r, b.toNat = r + 1 := ⟨b.toNat - 1, by omega⟩
      cases q with
      | zero => omega
      | succ q =>
        rw [hr]
        show (if b = 0 then a else xgcd q b (a % b)) = if b = 0 then a else xgcd r b (a % b)
        rw [if_neg c, if_neg c, ihq q (by omega) b (a % b) hb h4 (by omega), ihq r (by omega) b (a % b) hb h4 (by omega)]
section XFRA
variable {zl : Nat} {nl : Option Nat} {h h' h1 h2 h3 : Hp} {d : Nat} {K : Int → Hp → Prop} {KJ : Int64 → Hp → Prop} {a b x y z : Int}
theorem cp94_loop (w : yWF zl nl h) (k : K y h) : ∀ (m i : Nat) (a b : Int) (l5 : Option Int) (l0 l1 : Int), i + m = 64 → 0 ≤ a → a < 2147483648 → 0 ≤ b → b < m → xgcd b.toNat a b = y → ZW d prog_1_method_26_code 7 7 [some (vI l0), some (vI l1), some (vI a), some (vI b), some (vI i), yo l5] [] h (yq 1 (yqI K)) := by
  intro m
  induction m with
  | zero => intro i a b l5 l0 l1 hm ha ha2 hb hbm e; omega
  | succ m ih =>
    intro i a b l5 l0 l1 hm ha ha2 hb hbm e
    refine W94_7 w ⟨fun c => absurd c (by omega), fun c => ⟨fun c2 => ?_, fun c2 => ⟨c2, ?_⟩⟩⟩
    · have : b.toNat = 0 := by omega
      rw [this] at e
      have e : a = y := e
      rw [e]
      exact k
    · have h4 : 0 ≤ a % b := Int.emod_nonneg a c2
      have h5 : a % b < b := Int.emod_lt_of_pos a (by omega)
      rw [zrem_nn (by omega) (by omega), nz (by omega)]
      refine ih (i + 1) b (a % b) (some _) l0 l1 (by omega) hb (by omega) h4 (by omega) ?_
      rw [← e, ← xgcd_st (b.toNat) b (a % b) hb h4 (by omega)]
      obtain ⟨r, hr⟩ : ∃ r, b.toNat = r + 1 := ⟨b.toNat - 1, by omega⟩
      have e1 : xgcd (r + 1) a b = xgcd r b (a % b) := if_neg c2
      rw [hr, e1, xgcd_st (r + 1) b (a % b) hb h4 (by omega), xgcd_st r b (a % b) hb h4 (by omega)]
theorem cp94 (w : yWF zl nl h) (ha : 0 ≤ a ∧ a < 2147483648) (hb : 0 ≤ b ∧ b < 64) (k : K (xgcd b.toNat a b) h) : yI d 94 [vI a, vI b] h K :=
  E94 w (cp94_loop w k 64 0 a b none a b rfl ha.1 ha.2 hb.1 (by omega) rfl)
theorem cp93 (w : yWF zl nl h) (hd : 2 ≤ d) (ha : 0 ≤ a ∧ a < 100000) (hb : 0 < b ∧ b < 64) (k : KJ (xfr a b x) h) : yJ d 93 [vI a, vI b, vI x] h KJ := by
  refine E93 w (by omega) (cp94 w (by omega) (by omega) (W93_5 w ?_))
  have g := xgcd_pos b.toNat a b ha.1 (by omega) (Or.inr hb.1) (by omega)
  unfold xfr at k
  refine ⟨fun c => ⟨fun c2 => ⟨c2, ?_⟩, fun c2 => absurd (by omega) c2⟩, fun c => ⟨fun c2 => ⟨c2, ?_⟩, fun c2 => absurd (by omega) c2⟩⟩
  · rw [if_neg c] at k
    rw [zdiv_nn (by omega) (by omega)]
    exact k
  · rw [if_pos (Classical.byContradiction c)] at k
    rw [zdiv_nn (by omega) (by omega)]
    exact k
theorem mp194_loop (w : yWF zl nl h) (ha0 : 0 ≤ a ∧ a < 100000) (hb0 : 0 < b ∧ b < 64) (k : KJ (xfr a b x) h) : ∀ (m : Nat) (s t : Int) (l9 : Option Int64), 0 ≤ s → s < 2147483648 → 0 ≤ t → t < 2147483648 → t ≤ m → (0 < s ∨ 0 < t) → xgcd t.toNat s t = xgcd b.toNat a b → ZW d prog_10_method_49_code 8 9 [some (vJ (j64 a)), none, some (vJ (j64 b)), none, some (vI x), some (vJ (j64 s)), none, some (vJ (j64 t)), none, yoj l9, none] [] h (yq 4 (yqJ KJ)) := by
  have g := xgcd_pos b.toNat a b ha0.1 (by omega) (Or.inr hb0.1) (by omega)
  have fin : ∀ (s t : Int), t = 0 → xgcd t.toNat s t = xgcd b.toNat a b → s = xgcd b.toNat a b := by
    intro s t c e
    have : t.toNat = 0 := by omega
    rw [this] at e
    exact e
  have leaf : ∀ s : Int, s = xgcd b.toNat a b → ((x ≠ 0 → (j64 s ≠ 0 ∧ KJ (j64 b / j64 s) h)) ∧ (¬ (x ≠ 0) → (j64 s ≠ 0 ∧ KJ (j64 a / j64 s) h))) := by
    intro s es
    have ns : j64 s ≠ 0 := fun q => by
      have := j64_inj (a := s) (b := 0) (by unfold zr; omega) (by unfold zr; omega) (q.trans j64_0.symm)
      omega
    unfold xfr at k
    refine ⟨fun c => ⟨ns, ?_⟩, fun c => ⟨ns, ?_⟩⟩
    · rw [if_neg c, ← es] at k
      rw [j64_div (by omega) (by omega)]
      exact k
    · rw [if_pos (Classical.byContradiction c), ← es] at k
      rw [j64_div (by omega) (by omega)]
      exact k
  intro m
  induction m with
  | zero =>
    intro s t l9 hs hs2 ht ht2 hm hp e
    refine W194_9 w ⟨fun c => leaf s (fin s t (by omega) e), fun c => ?_⟩
    exact absurd ((j64_cmp (by unfold zr; omega)).2 (by omega)) c
  | succ m ih =>
    intro s t l9 hs hs2 ht ht2 hm hp e
    refine W194_9 w ⟨fun c => ?_, fun c => ?_⟩
    · exact leaf s (fin s t ((j64_cmp (by unfold zr; omega)).1 c) e)
    · have ct : t ≠ 0 := fun q => c ((j64_cmp (by unfold zr; omega)).2 q)
      have h4 : 0 ≤ s % t := Int.emod_nonneg s ct
      have h5 : s % t < t := Int.emod_lt_of_pos s (by omega)
      refine ⟨fun q => ct (j64_inj (by unfold zr; omega) (by unfold zr; omega) (q.trans j64_0.symm)), ?_⟩
      rw [j64_mod (by omega) (by omega)]
      refine ih t (s % t) (some _) (by omega) ht2 h4 (by omega) (by omega) (by omega) ?_
      rw [← e]
      obtain ⟨r, hr⟩ : ∃ r, t.toNat = r + 1 := ⟨t.toNat - 1, by omega⟩
      have e1 : xgcd (r + 1) s t = xgcd r t (s % t) := if_neg ct
      rw [hr, e1, xgcd_st r t (s % t) (by omega) h4 (by omega)]
theorem mp194 (w : yWF zl nl h) (hd : 1 ≤ d) (ha : 0 ≤ a ∧ a < 100000) (hb : 0 < b ∧ b < 64) (k : KJ (xfr a b x) h) : yJ d 194 [vJ (j64 a), vJ (j64 b), vI x] h KJ := by
  refine E194 w hd ?_
  rw [j64_abs (by omega)]
  exact mp194_loop w ha hb k b.toNat a b none ha.1 (by omega) (by omega) (by omega) (by omega) (Or.inr hb.1) rfl
end XFRA
