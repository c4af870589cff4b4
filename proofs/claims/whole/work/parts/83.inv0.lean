def cVo (a k : Nat) : Bool := cVW.all (fun e => !(e.1 == a && e.2.1 == k))
section INV0
variable {zl : Nat} {nl : Option Nat} {xs : Nat → Int} {a k : Nat}
theorem fV_nk : ∀ (l : List (Nat × Nat × Int)) (f : Nat → Nat → Int), l.all (fun e => !(e.1 == a && e.2.1 == k)) = true → fV l f a k = f a k
  | [], _, _ => rfl
  | e :: l, f, h => by
    rw [List.all_cons, Bool.and_eq_true] at h
    show fV l _ a k = _
    rw [fV_nk l _ h.2, if_neg]
    rintro ⟨rfl, rfl⟩
    simp at h
theorem cV_t : cVW.all (fun e => (e.1 == 125 && e.2.1 == 1) || (e.1 == 127 && e.2.1 == 1) || (e.1 == 129 && e.2.1 == 1) || (e.1 == 131 && e.2.1 == 1) || (e.1 == 133 && e.2.1 == 1) || (e.1 == 135 && e.2.1 == 1) || (e.1 == 137 && e.2.1 == 16) || (e.1 == 167 && Nat.blt e.2.1 6)) = true := by decide +kernel
theorem ini_V (h : ¬ ((125 ≤ a ∧ a ≤ 135 ∧ k = 1) ∨ (a = 137 ∧ k = 16) ∨ (a = 167 ∧ k < 6))) : zV (HH zl xs nl 138 136 13) a k = zbV xs a k := by
  show fV cVW (zbV xs) a k = _
  refine fV_nk cVW _ (all_ne (fun e he => ?_) cVW cV_t)
  simp only [Bool.or_eq_true, Bool.and_eq_true, beq_iff_eq] at he
  cases hb : (e.1 == a && e.2.1 == k)
  · rfl
  · simp only [Bool.and_eq_true, beq_iff_eq] at hb
    exfalso
    apply h
    have hq : ∀ x : Nat, Nat.blt x 6 = true → x < 6 := fun x q => Nat.le_of_ble_eq_true q
    rcases he with ((((((( he | he) | he) | he) | he) | he) | he) | he)
    all_goals first
      | (have := hq _ he.2; omega)
      | omega
theorem ini_0 (ha : 32 ≤ a) (h : ¬ ((125 ≤ a ∧ a ≤ 135 ∧ k = 1) ∨ (a = 137 ∧ k = 16) ∨ (a = 167 ∧ k < 6))) : zV (HH zl xs nl 138 136 13) a k = 0 := by
  rw [ini_V h]
  unfold zbV
  rw [if_neg (by omega), List.getD_eq_getElem?_getD (l := zbvT), List.getElem?_eq_none (by show 20 ≤ a; omega)]
  rfl
def hZ (h : Hp) : Hp := (zS h, fun _ _ => 0, zJ h, zP h, zN h, zM h)
def sg0 : Vw := fun j k => if j = 0 ∧ k = 6 then -1 else 0
theorem cg_Z {h : Hp} (c : Option (Nat × Nat)) : cg (hZ h) c = 0 := by cases c <;> rfl
theorem zP_Z (h : Hp) : zP (hZ h) = zP h := rfl
theorem zV_Z (h : Hp) (b i : Nat) : zV (hZ h) b i = 0 := rfl
theorem hvC_Z {h : Hp} (hp : zP h 33 12 = some 48) : hvC (hZ h) 33 = sg0 := by
  funext j k
  show (if j = 0 ∧ k = 6 then yho (zP h 33 12) else if j = 8 ∧ cg (hZ h) (xcC 33 7 k) = 0 then 0 else cg (hZ h) (xcC 33 j k)) = if j = 0 ∧ k = 6 then -1 else 0
  rw [hp, cg_Z (xcC 33 j k)]
  split
  · rfl
  · split <;> rfl
theorem HH_Pz (a k : Nat) : zP (HH zl xs nl 138 136 13) a k = fP cPW (zbP nl) a k := by
  show fP (cPW.take 136) (zbP nl) a k = _
  rw [show cPW.take 136 = cPW from rfl]
theorem ini_C : hvC (HH zl xs nl 138 136 13) 33 = sg0 := by
  have hp : zP (HH zl xs nl 138 136 13) 33 12 = some 48 := by
    rw [HH_Pz, ini_P (by decide)]
    rfl
  have e : hvC (HH zl xs nl 138 136 13) 33 = hvC (hZ (HH zl xs nl 138 136 13)) 33 := hvC_fr (fun b i q1 q2 q3 q4 => by rw [zV_Z]; exact ini_0 (by omega) (by omega)) (by rw [zP_Z])
  exact e.trans (hvC_Z hp)
theorem hvM_Z {h : Hp} : hvM (zsetV (hZ h) 137 16 (-1)) = sg0 := by
  rw [hvM_set (b := 137) (i := 16) (j := 0) (k := 6) rfl]
  funext j k
  show (if j = 0 ∧ k = 6 then -1 else cg (hZ h) (xcM j k)) = if j = 0 ∧ k = 6 then -1 else 0
  rw [cg_Z]
theorem ini_M : hvM (HH zl xs nl 138 136 13) = sg0 := by
  have e : hvM (HH zl xs nl 138 136 13) = hvM (zsetV (hZ (HH zl xs nl 138 136 13)) 137 16 (-1)) := hvM_fr fun b i q => by
    rw [zV_V]
    by_cases h : b = 137 ∧ i = 16
    · rw [if_pos h, h.1, h.2]
      rfl
    · rw [if_neg h, zV_Z]
      exact ini_0 (by unfold xOM at q; omega) (by unfold xOM at q; omega)
  exact e.trans hvM_Z
theorem sg_R : Rg 9999 sg0 := by
  unfold Rg sg0
  simp
theorem ini_I : Inv zl nl xs (HH zl xs nl 138 136 13) := by
  have z : ∀ a k, 32 ≤ a → ¬ ((125 ≤ a ∧ a ≤ 135 ∧ k = 1) ∨ (a = 137 ∧ k = 16) ∨ (a = 167 ∧ k < 6)) → zV (HH zl xs nl 138 136 13) a k = 0 := fun a k h1 h2 => ini_0 h1 h2
  have z15 := z 137 15 (by omega) (by omega)
  refine ⟨ini_w, ⟨fun s hs => ?_, fun ho => ?_, fun a h1 h2 k => ?_, fun j hj => by omega, by omega, by omega, z 48 3 (by omega) (by omega), z 48 4 (by omega) (by omega)⟩, ⟨by rw [ini_C, ini_M], by rw [ini_M]; exact sg_R, by rw [ini_M, z15]; decide⟩, ⟨by rw [z 32 6 (by omega) (by omega), z15], by rw [z 137 23 (by omega) (by omega)]; decide, by rw [z 137 23 (by omega) (by omega), z15]; decide, fun j i hj _ => by omega⟩, ⟨by rw [z 90 1 (by omega) (by omega), z 137 9 (by omega) (by omega)], by rw [z 90 1 (by omega) (by omega)]; decide, by rw [z 90 1 (by omega) (by omega)]; decide, fun k hk => by rw [z 91 k (by omega) (by omega), z 144 k (by omega) (by omega)]; decide⟩, fun t ht => ?_, ⟨by rw [z 94 1 (by omega) (by omega), z 137 36 (by omega) (by omega)], by rw [z 94 1 (by omega) (by omega)]; decide, by rw [z 94 1 (by omega) (by omega)]; decide, fun k _ h2 => by rw [z 94 1 (by omega) (by omega)] at h2; omega⟩, ⟨by rw [z 32 3 (by omega) (by omega), z 137 38 (by omega) (by omega)], Or.inl (z 32 3 (by omega) (by omega))⟩, fun k => ?_⟩
  · unfold ySh at hs
    have e := z s 3 (by omega) (by omega)
    exact ⟨by omega, by omega, fun i hi => by omega⟩
  · have hx : 48 ≤ xsh ho ∧ xsh ho ≤ 124 := by
      have hS := xsh_S ho
      unfold ySh at hS
      omega
    have e : xG (HH zl xs nl 138 136 13) ho = 0 := z (xsh ho) 4 (by omega) (by omega)
    omega
  · rw [ini_V (by omega)]
    unfold zbV
    rw [if_neg (by omega)]
  · have e : t = 0 ∨ t = 1 ∨ t = 2 ∨ t = 3 ∨ t = 4 ∨ t = 5 := by omega
    have e1 : zV (HH zl xs nl 138 136 13) (125 + 2 * t) 1 = -1 := by rcases e with rfl | rfl | rfl | rfl | rfl | rfl <;> rfl
    have e2 : zV (HH zl xs nl 138 136 13) 167 t = -1 := by rcases e with rfl | rfl | rfl | rfl | rfl | rfl <;> rfl
    have e3 := z (125 + 2 * t) 2 (by omega) (by omega)
    have e4 := z 168 t (by omega) (by omega)
    exact ⟨by omega, by omega, by omega, by omega, by omega, by omega, fun _ => e4, fun k hk => by omega⟩
  · rw [ini_V (by omega)]
    rfl
end INV0
theorem zpure_is : zpure := by
  intro xs L nl hL hz
  obtain ⟨n, v, h', e, q⟩ := ct_all (lw_main hz hL (ini_I (zl := L) (nl := nl) (xs := xs)))
  refine ⟨n, h', ?_, q.2.1, q.2.2⟩
  rw [e, q.1]
