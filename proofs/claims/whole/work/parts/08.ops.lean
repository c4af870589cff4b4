/-! SOUNDNESS 6: constants, statics, fields -/
theorem zbS_kind (sl : Nat) : ∀ a, a < 32 → (zbS sl a).1 = 0 ∨ (zbS sl a).1 = 1 ∨ (zbS sl a).1 = 4 ∨ (zbS sl a).1 = 20 := by
  intro a ha
  by_cases h0 : a = 0
  · subst h0; exact Or.inr (Or.inl rfl)
  · have : ∀ a, a < 32 → a ≠ 0 → (zbsT.getD a (0, 0)).1 = 0 ∨ (zbsT.getD a (0, 0)).1 = 1 ∨ (zbsT.getD a (0, 0)).1 = 4 ∨ (zbsT.getD a (0, 0)).1 = 20 := by decide +kernel
    unfold zbS
    rw [if_neg h0]
    exact this a ha h0
theorem zstq_mem {j : Nat} (h : j < 5) : zstq j ∈ zstats := by
  match j, h with
  | 0, _ | 1, _ | 2, _ | 3, _ | 4, _ => simp [zstq, zstats]
theorem zstq_ok : ∀ q ∈ zstats, okv q.2.2.2 := by
  intro q hq
  simp only [zstats, List.mem_cons, List.not_mem_nil, or_false] at hq
  rcases hq with rfl | rfl | rfl | rfl | rfl
  · exact trivial
  · exact trivial
  · exact trivial
  · show zr 1
    unfold zr; omega
  · exact trivial
section ZPC
variable {p : Program} {l0 : Launch} {e : Env} {R : Room} {s : State} {m : MethodId} {args : Array Value} {below : List Frame} {meth : Method} {c : Code} {Q : State → Prop} {E : ZE} {cc : ByteArray} {o pc nL d l cells slots : Nat} {L : LL} {st : List AV} {h : Hp} {pc' : Nat} {L' : LL} {st' : List AV} {h' : Hp}
theorem zstv_ok {v : AV} (hv : okv v) : okv (zstv h v) := by
  unfold zstv
  split
  · exact trivial
  · exact hv
theorem zstv_E {v : AV} {H : Heap} (hI : ZI E H h) : cv E (zstv h v) = cv E (zstE E v) := by
  unfold zstv zstE
  split
  · rw [hI.2.2.2.2.2.1 30 0 (by omega)]; rfl
  · next hx =>
    split
    · exact (hx rfl).elim
    · rfl
theorem zs_getstatic {k : Nat} (X : ZX E p R s m args meth c cc o nL d) (hL : okL L) (hok : okst st) (hd : decode cc pc = .ok (.getstatic k, l)) (hz : zin d o pc l L st h (.getstatic k) = some (.inl (pc', L', st', h'))) : ZOk E p l0 e R s m args below meth c nL Q cells slots pc L st h pc' L' st' h' := by
  obtain ⟨hx, hb, hml, hown, hts, hT, hini, hfr, hlo⟩ := X
  simp only [zin, zco] at hz
  split at hz
  · next w hw =>
    cases hv : zstat o k with
    | none => rw [hv] at hw; cases hw
    | some v =>
      rw [hv] at hw
      cases hw
      unfold zstat at hv
      obtain ⟨⟨j, nst, pl⟩, h1, h2⟩ := zfind (f := fun a : Nat × Bool × Nat => (zstats.getD a.1 ("", "", "", vI 0)).2.2.2) hv
      have h3 := zall_of zcS_ok h1
      unfold zcS at h3
      simp only [Bool.and_eq_true, decide_eq_true_eq] at h3
      obtain ⟨hj, h3⟩ := h3
      have hq := zstq_mem hj
      have hv : (zstq j).2.2.2 = v := h2
      have hZ := hT.2.2.2.1 _ hq
      have hvo := zstq_ok _ hq
      rw [hv] at hZ hvo
      unfold zc1 zn at hz
      split at hz
      · next hl =>
        cases hz
        refine ⟨rfl, hL, okst_m (zstv_ok hvo) hok, fun z H locs ls hI hS hR => ?_⟩
        have k := z H locs ls hI hS hR
        rw [List.map_cons, zstv_E hI] at k
        split at h3
        · exact va_getsN hx hb hZ hS.1 hown (va_Nw.use rfl (hT.2.2.1 _ (zckN_mem h3))) (fun _ q => q) (hl ▸ hd) k
        · exact va_gets hx hb hZ hS.1 hown (hts _ (zck_mem h3)) (fun _ q => q) (hl ▸ hd) k
      · cases hz
  · cases hz
theorem zs_ldc {k : Nat} (X : ZX E p R s m args meth c cc o nL d) (hL : okL L) (hok : okst st) (hd : decode cc pc = .ok (.ldc k, l)) (hz : zin d o pc l L st h (.ldc k) = some (.inl (pc', L', st', h'))) : ZOk E p l0 e R s m args below meth c nL Q cells slots pc L st h pc' L' st' h' := by
  obtain ⟨hx, hb, hml, hown, hts, hT, hini, hfr, hlo⟩ := X
  simp only [zin, zco] at hz
  split at hz
  · next v hv =>
    unfold zldc at hv
    obtain ⟨⟨w, pl⟩, h1, h2⟩ := zfind (f := fun a : AV × Nat => a.1) hv
    subst h2
    have h3 := zall_of zcL_ok h1
    unfold zcL at h3
    rcases w with x | x | x
    · simp only [Bool.and_eq_true, decide_eq_true_eq] at h3
      refine zg_c1 hz h3.1 hL hok fun hl H locs ls rest hS k => ?_
      exact lv_ldc hx hb hown (hts _ (zck_mem h3.2)) (hl ▸ hd) k
    · cases h3
    · cases x with
      | none => cases h3
      | some b =>
        simp only [Bool.and_eq_true, decide_eq_true_eq, List.any_eq_true, beq_iff_eq] at h3
        obtain ⟨hb32, q, hq, ⟨q1, q2⟩, q3⟩ := h3
        refine zg_c1 hz trivial hL hok fun hl H locs ls rest hS k => ?_
        have hZ := hT.2.2.2.2.2.2.2.1 q hq
        rw [q1, q2, q3] at hZ
        have e1 : cv E (vR (some b)) = .ref (eA E b) := by simp [cv, zad, hb32]
        exact va_ldcS hx hb hown hZ (hl ▸ hd) (by rw [← e1]; exact k)
  · cases hz
theorem zs_ldc_w {k : Nat} (X : ZX E p R s m args meth c cc o nL d) (hL : okL L) (hok : okst st) (hd : decode cc pc = .ok (.ldc_w k, l)) (hz : zin d o pc l L st h (.ldc_w k) = some (.inl (pc', L', st', h'))) : ZOk E p l0 e R s m args below meth c nL Q cells slots pc L st h pc' L' st' h' := by
  obtain ⟨hx, hb, hml, hown, hts, hT, hini, hfr, hlo⟩ := X
  simp only [zin] at hz
  split at hz
  · next x hv =>
    unfold zldc at hv
    obtain ⟨⟨w, pl⟩, h1, h2⟩ := zfind (f := fun a : AV × Nat => a.1) hv
    have h2 : w = Sum.inl x := h2
    subst h2
    have h3 := zall_of zcL_ok h1
    unfold zcL at h3
    simp only [Bool.and_eq_true, decide_eq_true_eq] at h3
    refine zg_c1 hz h3.1 hL hok fun hl H locs ls rest hS k => ?_
    exact lv_ldcw hx hb hown (hts _ (zck_mem h3.2)) (hl ▸ hd) k
  · cases hz
theorem zs_ldc2_w {k : Nat} (X : ZX E p R s m args meth c cc o nL d) (hL : okL L) (hok : okst st) (hd : decode cc pc = .ok (.ldc2_w k, l)) (hz : zin d o pc l L st h (.ldc2_w k) = some (.inl (pc', L', st', h'))) : ZOk E p l0 e R s m args below meth c nL Q cells slots pc L st h pc' L' st' h' := by
  obtain ⟨hx, hb, hml, hown, hts, hT, hini, hfr, hlo⟩ := X
  simp only [zin, zco] at hz
  split at hz
  · next v hv =>
    cases hw : zldc2 o k with
    | none => rw [hw] at hv; cases hv
    | some x =>
      rw [hw] at hv
      cases hv
      unfold zldc2 at hw
      obtain ⟨⟨w, pl⟩, h1, h2⟩ := zfind (f := fun a : Int64 × Nat => a.1) hw
      have h2 : w = x := h2
      subst h2
      have h3 := zall_of zcL2_ok h1
      unfold zcL2 at h3
      refine zg_c1 hz trivial hL hok fun hl H locs ls rest hS k => ?_
      exact lv_ldc2 hx hb hown (hts _ (zck_mem h3)) (hl ▸ hd) k
  · cases hz
theorem zfs_get {ci a k n : Nat} (hk : k < n) : (zfs E h ci a n)[k]? = some (cv E (zfv h ci a k)) := by
  unfold zfs
  rw [List.getElem?_map, List.getElem?_range hk]
  rfl
theorem okv_zfv {ci a k : Nat} (hH : okH h) : okv (zfv h ci a k) := by
  unfold zfv
  split
  · exact trivial
  · exact hH a k
theorem zs_getfield {k : Nat} (X : ZX E p R s m args meth c cc o nL d) (hH : okH h) (hL : okL L) (hok : okst st) (hd : decode cc pc = .ok (.getfield k, l)) (hz : zin d o pc l L st h (.getfield k) = some (.inl (pc', L', st', h'))) : ZOk E p l0 e R s m args below meth c nL Q cells slots pc L st h pc' L' st' h' := by
  obtain ⟨hx, hb, hml, hown, hts, hT, hini, hfr, hlo⟩ := X
  simp only [zin, zgetf] at hz
  split at hz
  · next ci kk a r hv =>
    split at hz
    · next hc =>
      obtain ⟨hl, hS0, h9⟩ := hc
      unfold zfld at hv
      obtain ⟨⟨ci', kk', pl⟩, h1, h2⟩ := zfind (f := fun a : Nat × Nat × Nat => (a.1, a.2.1)) hv
      have e1 : ci = ci' := (congrArg Prod.fst h2).symm
      have e2 : kk = kk' := (congrArg Prod.snd h2).symm
      subst e1; subst e2
      have h3 := zall_of zcF_ok h1
      unfold zcF at h3
      simp only [Bool.or_eq_true, Bool.and_eq_true, decide_eq_true_eq] at h3
      unfold zn at hz; cases hz
      refine ⟨rfl, hL, okst_m (okv_zfv hH) (okst_c hok).2, fun z H locs ls hI hS hR => ?_⟩
      rcases h3 with ⟨hci, hk, hw⟩ | ⟨hci, hw⟩
      · have hS1 : zS h a = (10 + ci, zNf ci) := by rw [hS0]; unfold zkd; rw [if_neg (by omega)]
        have h32 : 32 ≤ a := by
          apply Nat.le_of_not_lt
          intro hlt
          have q := zbS_kind (eL E) a hlt
          rw [← hI.2.2.2.1 a hlt, hS1] at q
          simp only at q
          omega
        have hN := zalloc hI (a := a) (by rw [hS1]; simp only; omega)
        have he := zws_get (E := E) h32 hN
        rw [zcell_o hS1] at he
        exact va_get hx hb hts (zlay_in hci) hown hT.1 hI.1 (a - 32) he (zcls9_get hci) kk hk (hts _ (zck_mem hw)) (fun _ q => q) (zfs_get hk) (hl ▸ hd) (z H locs ls hI hS hR)
      · subst hci
        have ha := h9 rfl
        have hS1 : zS h a = (20, 2) := hS0
        rw [hI.2.2.2.1 a ha] at hS1
        obtain ⟨hO, hF0, hF1⟩ := hT.2.2.2.2.2.2.1 a ha hS1
        have ea : cv E (vR (some a)) = .ref (eA E a) := by simp [cv, zad, ha]
        have k1 := z H locs ls hI hS hR
        show W p l0 e R s m args below meth c H locs cells slots Q (F0 m pc ls (cv E (vR (some a)) :: r.map (cv E)))
        rw [ea]
        rcases hw with ⟨hk, hw⟩ | ⟨hk, hw⟩
        · subst hk
          refine vk_getf hx hb hF0 hS.1 hown (hts _ (zck_mem hw)) (fun _ q => q) (hl ▸ hd) ?_
          rw [← hI.2.2.2.2.2.1 a 0 ha]
          exact k1
        · subst hk
          refine vk_getf hx hb hF1 hS.1 hown (hts _ (zck_mem hw)) (fun _ q => q) (hl ▸ hd) ?_
          rw [← hI.2.2.2.2.1 a 1 ha]
          exact k1
    · cases hz
  · cases hz
end ZPC
