/-! SOUNDNESS 9: makings; arraycopy; Object's own <init> -/
section ZPK
variable {p : Program} {l0 : Launch} {e : Env} {R : Room} {s : State} {m : MethodId} {args : Array Value} {below : List Frame} {meth : Method} {c : Code} {Q : State → Prop} {E : ZE} {cc : ByteArray} {o pc nL d l cells slots : Nat} {L : LL} {st : List AV} {h : Hp} {pc' : Nat} {L' : LL} {st' : List AV} {h' : Hp} {H H1 : Heap} {locs : List Loc}
theorem zS_mk (kd n b : Nat) : zS (zmk kd n h) b = if b = 32 + zN h then (kd, n) else zS h b := rfl
theorem zV_mk (kd n b j : Nat) : zV (zmk kd n h) b j = if b = 32 + zN h then 0 else zV h b j := rfl
theorem zJ_mk (kd n b j : Nat) : zJ (zmk kd n h) b j = if b = 32 + zN h then 0 else zJ h b j := rfl
theorem zP_mk (kd n b j : Nat) : zP (zmk kd n h) b j = if b = 32 + zN h then none else zP h b j := rfl
theorem okH.mk {kd n : Nat} (hH : okH h) : okH (zmk kd n h) := by
  intro b j
  rw [zV_mk]
  split
  · exact zr_0
  · exact hH b j
theorem ZI.push {kd n : Nat} {x : va_E} (hI : ZI E H h) (hV : ZV E s H locs cells) (hz : H1.size = H.size + 1) (o1 : ∀ q : Nat, q < H.size → H1[q]? = H[q]?) (hx : va_at (eC E, eI E) zcls9 (H.size, x) H1) (ha : zcell E (zmk kd n h) (32 + zN h) = x) : ZI E H1 (zmk kd n h) ∧ ZV E s H1 locs (cells + 1) := by
  have hs := hI.2.1
  have hk : ∀ (k : Nat) (q : Nat × va_E), (zws E h)[k]? = some q → H1[q.1]? = H[q.1]? := fun k q hq => o1 q.1 ((hI.1 k q hq).lt)
  have hco : ∀ b, b < 32 + zN h → zcell E (zmk kd n h) b = zcell E h b := fun b hb => zcell_congr (by rw [zS_mk, if_neg (by omega)]) (fun j => by rw [zV_mk, if_neg (by omega)]) (fun j => by rw [zJ_mk, if_neg (by omega)]) (fun j => by rw [zP_mk, if_neg (by omega)])
  have hw := zws_push (E := E) (h := h) (h' := zmk kd n h) (x := x) rfl hco ha
  refine ⟨⟨?_, ?_, hI.2.2.1 |> okH.mk, fun a ha => ?_, fun a k ha => ?_, fun a k ha => ?_, fun a ha => ?_⟩, ⟨?_, fun q h1 h2 => ?_, hV.1.2.2⟩, ?_⟩
  · rw [hw]
    refine (hI.1.kept hk).app (fun k q hq => ?_)
    have hz : k < 1 := (List.getElem?_eq_some_iff.mp hq).1
    rw [show k = 0 by omega] at hq
    cases hq
    rw [← hs]
    exact hx
  · show H1.size = eB E + (zN h + 1)
    omega
  · rw [zS_mk, if_neg (by omega)]; exact hI.2.2.2.1 a ha
  · rw [zV_mk, if_neg (by omega)]; exact hI.2.2.2.2.1 a k ha
  · rw [zP_mk, if_neg (by omega)]; exact hI.2.2.2.2.2.1 a k ha
  · have ha' : 32 + (zN h + 1) ≤ a := ha
    rw [zS_mk, if_neg (by omega)]; exact hI.2.2.2.2.2.2 a (by omega)
  · exact Nat.le_trans hV.1.1 (by omega)
  · rw [o1 q (Nat.lt_of_lt_of_le h1 hV.1.1)]
    exact hV.1.2.1 q h1 h2
  · rw [hz, hV.2]; omega
theorem zmade {kd n : Nat} (z : ZPt E p l0 e R s m args below meth c nL Q (cells + (zN (zmk kd n h) - zN h)) (slots + (zM (zmk kd n h) - zM h)) pc' L' st' (zmk kd n h)) : ZPt E p l0 e R s m args below meth c nL Q (cells + 1) (slots + n) pc' L' st' (zmk kd n h) := by
  have e1 : zN (zmk kd n h) - zN h = 1 := by show zN h + 1 - zN h = 1; omega
  have e2 : zM (zmk kd n h) - zM h = n := by show zM h + n - zM h = n; omega
  rw [e1, e2] at z
  exact z
theorem zcell_mko {ci : Nat} (hci : ci < 9) : zcell E (zmk (10 + ci) (zNf ci) h) (32 + zN h) = .inr (ci, zfs E (zmk (10 + ci) (zNf ci) h) ci (32 + zN h) (zNf ci)) := zcell_o (by rw [zS_mk, if_pos rfl])
theorem zs_new {k : Nat} (X : ZX E p R s m args meth c cc o nL d) (hH : okH h) (hL : okL L) (hok : okst st) (hd : decode cc pc = .ok (.new k, l)) (hz : zin d o pc l L st h (.new k) = some (.inl (pc', L', st', h'))) : ZOkH E p l0 e R s m args below meth c nL Q cells slots pc L st h pc' L' st' h' := by
  obtain ⟨hx, hb, hml, hown, hts, hT, hini, hfr, hlo⟩ := X
  simp only [zin, znew] at hz
  split at hz
  · next ci hv =>
    split at hz
    · next hc =>
      obtain ⟨hl, hci⟩ := hc
      unfold zn at hz; cases hz
      unfold zcl at hv
      obtain ⟨⟨ci', pl⟩, h1, h2⟩ := zfind (f := fun a : Nat × Nat => a.1) hv
      have e1 : ci = ci' := h2.symm
      subst e1
      have h3 := zall_of zcC_ok h1
      unfold zcC at h3
      simp only [Bool.and_eq_true, decide_eq_true_eq] at h3
      have h4 := List.all_eq_true.mp zcT_ok ci (List.mem_range.mpr hci)
      unfold zcT at h4
      simp only [Bool.and_eq_true] at h4
      refine ⟨Nat.le_succ _, Nat.le_add_right _ _, hH.mk, hL, okst_m trivial hok, fun hr1 hr2 z H locs ls hI hS hR => ?_⟩
      have z := zmade z
      have hKn := hT.1.1 ci _ (zcls9_get hci)
      have q1 : zN (zmk (10 + ci) (zNf ci) h) - zN h = 1 := by show zN h + 1 - zN h = 1; omega
      have q2 : zM (zmk (10 + ci) (zNf ci) h) - zM h = zNf ci := by show zM h + zNf ci - zM h = zNf ci; omega
      rw [q1] at hr1; rw [q2] at hr2
      refine W.newcK hx hb hown (hts _ (zck_mem h3.2)) (hts _ (zck_mem h4.1)) (hts _ (zck_mem h4.2)) rfl (hl ▸ hd) hr1 hr2 hKn.2.1 rfl fun H1 kC hkC e1 z1 o1 => ?_
      have hb' := u_born (zpfd ci) hts (zlay_in hci) hKn hkC e1 (fun x hx => (zf_spec hci hx).1)
      obtain ⟨hI1, hV1⟩ := ZI.push (kd := 10 + ci) (n := zNf ci) hI hS z1 o1 (x := .inr (ci, zfs E (zmk (10 + ci) (zNf ci) h) ci (32 + zN h) (zNf ci))) ⟨_, zcls9_get hci, hb'.to (fun j hj => by
        have hg := zfs_get (E := E) (h := zmk (10 + ci) (zNf ci) h) (ci := ci) (a := 32 + zN h) hj
        show defaultValue (zpfd ci j) = vp_V (zfs E (zmk (10 + ci) (zNf ci) h) ci (32 + zN h) (zNf ci)) j
        unfold vp_V
        rw [List.getD_eq_getElem?_getD, hg]
        have hj' := (zf_spec hci hj).2.2.2.1
        unfold zfv
        rw [zV_mk, if_pos rfl, zP_mk, if_pos rfl]
        rcases hj' with ⟨t1, t2⟩ | ⟨t1, t2⟩ | ⟨t1, t2⟩
        · rw [t1, if_neg (by omega)]
          simp only [Option.getD_some, cv, zi_0]
          rfl
        · rw [t1, if_neg (by omega)]
          simp only [Option.getD_some, cv, zi_0]
          rfl
        · rw [if_pos t2]
          rcases t1 with ⟨n, t1⟩ | ⟨n, t1⟩ <;> rw [t1] <;> rfl)⟩ (zcell_mko hci)
      have e2 : Value.ref H.size = cv E (vR (some (32 + zN h))) := by
        have e3 : zad E (32 + zN h) = H.size := by
          unfold zad
          rw [if_neg (by omega), hI.2.1]
          omega
        show Value.ref H.size = Value.ref (zad E (32 + zN h))
        rw [e3]
      have := z H1 locs ls hI1 hV1 hR
      rw [List.map_cons, ← e2] at this
      exact this
    · cases hz
  · cases hz
theorem zs_newarr {kd len : Nat} (hL : okL L) (hH : okH h) (hok : okst st) (hz : znewa kd len pc l L st h = some (.inl (pc', L', st', h'))) (x0 : Nat → va_E) (hx0 : ∀ n : Nat, zcell E (zmk kd n h) (32 + zN h) = x0 n)
    (hrow : l = len → ∀ (H : Heap) (locs : List Loc) (ls : Array Slot) (n : Int) (rest : List Value), zr n → 0 ≤ n → n ≤ 1000000 → cells + 1 ≤ R.cells → slots + n.toNat ≤ R.slots → (∀ H1 : Heap, H1.size = H.size + 1 → (∀ q : Nat, q < H.size → H1[q]? = H[q]?) → va_at (eC E, eI E) zcls9 (H.size, x0 n.toNat) H1 → W p l0 e R s m args below meth c H1 locs (cells + 1) (slots + n.toNat) Q (F0 m (pc + len) ls (.ref H.size :: rest))) → W p l0 e R s m args below meth c H locs cells slots Q (F0 m pc ls (.int (zi n) :: rest))) : ZOkH E p l0 e R s m args below meth c nL Q cells slots pc L st h pc' L' st' h' := by
  unfold znewa at hz
  split at hz
  · next x r =>
    split at hz
    · next hc =>
      obtain ⟨hl, hkd, h0, h1⟩ := hc
      unfold zn at hz; cases hz
      obtain ⟨hxx, hr⟩ := okst_c hok
      refine ⟨Nat.le_succ _, Nat.le_add_right _ _, hH.mk, hL, okst_m trivial hr, fun hr1 hr2 z H locs ls hI hS hR => ?_⟩
      have z := zmade z
      have q1 : zN (zmk kd x.toNat h) - zN h = 1 := by show zN h + 1 - zN h = 1; omega
      have q2 : zM (zmk kd x.toNat h) - zM h = x.toNat := by show zM h + x.toNat - zM h = x.toNat; omega
      rw [q1] at hr1; rw [q2] at hr2
      refine hrow hl H locs ls x _ hxx h0 h1 hr1 hr2 fun H1 z1 o1 hat => ?_
      obtain ⟨hI1, hV1⟩ := ZI.push (kd := kd) (n := x.toNat) hI hS z1 o1 hat (hx0 _)
      have e2 : Value.ref H.size = cv E (vR (some (32 + zN h))) := by
        have e3 : zad E (32 + zN h) = H.size := by
          unfold zad
          rw [if_neg (by omega), hI.2.1]
          omega
        show Value.ref H.size = Value.ref (zad E (32 + zN h))
        rw [e3]
      have := z H1 locs ls hI1 hV1 hR
      rw [List.map_cons, ← e2] at this
      exact this
    · cases hz
  · cases hz
theorem zar_id (hT : ZT E s) {cA : ClassId} : (s.vm.findClass ("[" ++ (FieldType.int).toString) = some cA → cA = eR E 1) ∧ (s.vm.findClass ("[" ++ (FieldType.boolean).toString) = some cA → cA = eR E 2) ∧ (s.vm.findClass ("[" ++ (FieldType.long).toString) = some cA → cA = eR E 3) ∧ (s.vm.findClass ("[" ++ (FieldType.object "HatterTunes$Shop").toString) = some cA → cA = eR E 5) ∧ (s.vm.findClass ("[" ++ (FieldType.object "HatterTunes$Tape").toString) = some cA → cA = eR E 6) := by
  have h0 := (hT.1.2 0 (eR E 1, .int) rfl).2
  have h1 := (hT.1.2 1 (eR E 2, .boolean) rfl).2
  have h2 := (hT.1.2 2 (eR E 3, .long) rfl).2
  obtain ⟨_, _, _, _, _, h3⟩ := (hT.1.2 3 (eR E 5, .object "HatterTunes$Shop") rfl).2
  obtain ⟨_, _, _, _, _, h4⟩ := (hT.1.2 4 (eR E 6, .object "HatterTunes$Tape") rfl).2
  exact ⟨fun q => Option.some.inj (q.symm.trans h0), fun q => Option.some.inj (q.symm.trans h1), fun q => Option.some.inj (q.symm.trans h2), fun q => Option.some.inj (q.symm.trans h3), fun q => Option.some.inj (q.symm.trans h4)⟩
theorem znewa0 {len : Nat} : znewa 0 len pc l L st h = none := by
  unfold znewa
  split
  · next x r =>
    split
    · next hc => exact absurd hc.2.1 (by decide)
    · rfl
  · rfl
theorem zcb (t : ArrayType) {n : Nat} (h : n ≤ 1000000) : n * componentBytes (newarray.typeOf t) ≤ 536870912 := by
  have h8 : componentBytes (newarray.typeOf t) ≤ 8 := by cases t <;> decide +kernel
  exact Nat.le_trans (Nat.mul_le_mul h h8) (by decide)
theorem zs_newarray {t : ArrayType} (X : ZX E p R s m args meth c cc o nL d) (hH : okH h) (hL : okL L) (hok : okst st) (hd : decode cc pc = .ok (.newarray t, l)) (hz : zin d o pc l L st h (.newarray t) = some (.inl (pc', L', st', h'))) : ZOkH E p l0 e R s m args below meth c nL Q cells slots pc L st h pc' L' st' h' := by
  obtain ⟨hx, hb, hml, hown, hts, hT, hini, hfr, hlo⟩ := X
  have h0 : ∀ b j, zV (zmk b j h) (32 + zN h) = fun _ => 0 := fun b j => by funext k; rw [zV_mk, if_pos rfl]
  cases t with
  | int =>
    refine zs_newarr (x0 := fun n => .inl (eR E 1, (n, .inl (fun _ => 0)))) hL hH hok hz (fun n => by rw [zcell_1 (by rw [zS_mk, if_pos rfl]; rfl), h0, zS_mk, if_pos rfl]; simp only [zi_0]) fun hl H locs ls n rest hn1 hn2 hn3 hr1 hr2 k => ?_
    refine va_newaK (atype := .int) hx hb (hts _ (zck_mem zar_ok.1)) rfl (hl ▸ hd) rfl (fun q => absurd ((zi_lt hn1 zr_0).mp (by rw [zi_0]; exact q)) (by omega)) (zi_clamp hn1) (zcb .int (by omega)) hr1 hr2 rfl fun H1 cA e1 z1 o1 _ hNm => ?_
    have hcA := (zar_id hT).1 hNm
    subst hcA
    exact k H1 z1 o1 e1
  | boolean =>
    refine zs_newarr (x0 := fun n => .inl (eR E 2, (n, .inl (fun _ => 0)))) hL hH hok hz (fun n => by rw [zcell_2 (by rw [zS_mk, if_pos rfl]; rfl), h0, zS_mk, if_pos rfl]; simp only [zi_0]) fun hl H locs ls n rest hn1 hn2 hn3 hr1 hr2 k => ?_
    refine va_newaK (atype := .boolean) hx hb (hts _ (zck_mem zar_ok.2.1)) rfl (hl ▸ hd) rfl (fun q => absurd ((zi_lt hn1 zr_0).mp (by rw [zi_0]; exact q)) (by omega)) (zi_clamp hn1) (zcb .boolean (by omega)) hr1 hr2 rfl fun H1 cA e1 z1 o1 _ hNm => ?_
    have hcA := (zar_id hT).2.1 hNm
    subst hcA
    exact k H1 z1 o1 e1
  | long =>
    refine zs_newarr (x0 := fun n => .inl (eR E 3, (n, .inr (.inl (fun _ => 0))))) hL hH hok hz (fun n => by
      rw [zcell_3 (by rw [zS_mk, if_pos rfl]; rfl), zS_mk, if_pos rfl]
      refine congrArg Sum.inl (congrArg (Prod.mk _) (congrArg (Prod.mk _) (congrArg Sum.inr (congrArg Sum.inl ?_))))
      funext k
      rw [zJ_mk, if_pos rfl]) fun hl H locs ls n rest hn1 hn2 hn3 hr1 hr2 k => ?_
    refine va_newaK (atype := .long) hx hb (hts _ (zck_mem zar_ok.2.2)) rfl (hl ▸ hd) rfl (fun q => absurd ((zi_lt hn1 zr_0).mp (by rw [zi_0]; exact q)) (by omega)) (zi_clamp hn1) (zcb .long (by omega)) hr1 hr2 rfl fun H1 cA e1 z1 o1 _ hNm => ?_
    have hcA := (zar_id hT).2.2.1 hNm
    subst hcA
    exact k H1 z1 o1 e1
  | _ => exact absurd hz (by
    show ¬ znewa 0 2 pc l L st h = _
    rw [znewa0]
    exact fun q => by cases q)
theorem zs_anewarray {k : Nat} (X : ZX E p R s m args meth c cc o nL d) (hH : okH h) (hL : okL L) (hok : okst st) (hd : decode cc pc = .ok (.anewarray k, l)) (hz : zin d o pc l L st h (.anewarray k) = some (.inl (pc', L', st', h'))) : ZOkH E p l0 e R s m args below meth c nL Q cells slots pc L st h pc' L' st' h' := by
  obtain ⟨hx, hb, hml, hown, hts, hT, hini, hfr, hlo⟩ := X
  have hw : ∀ ci, zcl o k = some ci → Cond.classLink (zcn (o % 100)) k (zcn ci) ∈ zTG := by
    intro ci hv
    unfold zcl at hv
    obtain ⟨⟨ci', pl⟩, h1, h2⟩ := zfind (f := fun a : Nat × Nat => a.1) hv
    have e1 : ci = ci' := h2.symm
    subst e1
    have h3 := zall_of zcC_ok h1
    unfold zcC at h3
    simp only [Bool.and_eq_true, decide_eq_true_eq] at h3
    exact zck_mem h3.2
  have h0 : ∀ b j k, zP (zmk b j h) (32 + zN h) k = none := fun b j k => by rw [zP_mk, if_pos rfl]
  simp only [zin] at hz
  split at hz
  · next hv =>
    refine zs_newarr (x0 := fun n => .inl (eR E 5, (n, .inr (.inr (.inr (.inr (fun _ => none))))))) hL hH hok hz (fun n => by
      rw [zcell_5 (by rw [zS_mk, if_pos rfl]), zS_mk, if_pos rfl]
      simp only [h0]; rfl) fun hl H locs ls n rest hn1 hn2 hn3 hr1 hr2 k => ?_
    refine W.anew hx hb hown (hts _ (hw 4 hv)) (va_AO.use (show va_AO "HatterTunes$Shop" s from hT.2.2.2.2.2.2.2.2.1)) rfl (hl ▸ hd) rfl (fun q => absurd ((zi_lt hn1 zr_0).mp (by rw [zi_0]; exact q)) (by omega)) (by rw [zi_clamp hn1]; omega) hr1 (by rw [zi_clamp hn1]; exact hr2) fun cA kA comp f1 f2 f3 f4 => ?_
    have hcA := (zar_id hT).2.2.2.1 f1
    subst hcA
    rw [zi_clamp hn1]
    refine k _ (by rw [Array.size_push]) (fun q hq => by rw [Array.getElem?_push, if_neg (Nat.ne_of_lt hq)]) ?_
    show (H.push _)[H.size]? = some (vp_cell _ _)
    rw [Array.getElem?_push_size, vp_cell_q, arrV_new]
    rfl
  · next hv =>
    refine zs_newarr (x0 := fun n => .inl (eR E 6, (n, .inr (.inr (.inr (.inr (fun _ => none))))))) hL hH hok hz (fun n => by
      rw [zcell_6 (by rw [zS_mk, if_pos rfl]), zS_mk, if_pos rfl]
      simp only [h0]; rfl) fun hl H locs ls n rest hn1 hn2 hn3 hr1 hr2 k => ?_
    refine W.anew hx hb hown (hts _ (hw 5 hv)) (va_AO.use (show va_AO "HatterTunes$Tape" s from hT.2.2.2.2.2.2.2.2.2)) rfl (hl ▸ hd) rfl (fun q => absurd ((zi_lt hn1 zr_0).mp (by rw [zi_0]; exact q)) (by omega)) (by rw [zi_clamp hn1]; omega) hr1 (by rw [zi_clamp hn1]; exact hr2) fun cA kA comp f1 f2 f3 f4 => ?_
    have hcA := (zar_id hT).2.2.2.2 f1
    subst hcA
    rw [zi_clamp hn1]
    refine k _ (by rw [Array.size_push]) (fun q hq => by rw [Array.getElem?_push, if_neg (Nat.ne_of_lt hq)]) ?_
    show (H.push _)[H.size]? = some (vp_cell _ _)
    rw [Array.getElem?_push_size, vp_cell_q, arrV_new]
    rfl
  · cases hz
end ZPK
