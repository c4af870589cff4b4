/-! SOUNDNESS 8: stores -/
theorem zf_spec {ci k : Nat} (hci : ci < 9) (hk : k < zNf ci) : parseFieldDescriptor (zT ci k).2.2.1 = some (zpfd ci k) ∧ (zT ci k).1 = zcn ci ∧ (zT ci k).2.2.2 = zfin ci k ∧ ((zpfd ci k = .int ∧ zft ci k = 0) ∨ (zpfd ci k = .boolean ∧ zft ci k = 1) ∨ (((∃ n, zpfd ci k = .object n) ∨ ∃ t, zpfd ci k = .array t) ∧ zft ci k = 2)) ∧ ∀ j, j < zNf ci → j = k ∨ (zT ci k).2.1 ≠ (zT ci j).2.1 := by
  have h1 := List.all_eq_true.mp (List.all_eq_true.mp zfok_ok ci (List.mem_range.mpr hci)) k (List.mem_range.mpr hk)
  unfold zfok at h1
  simp only [Bool.and_eq_true, decide_eq_true_eq] at h1
  obtain ⟨⟨⟨⟨a1, a2⟩, a3⟩, a4⟩, a5⟩ := h1
  refine ⟨a1, a2, a3, ?_, fun j hj => ?_⟩
  · split at a4
    · next q => exact Or.inl ⟨q, of_decide_eq_true a4⟩
    · next q => exact Or.inr (Or.inl ⟨q, of_decide_eq_true a4⟩)
    · next n q => exact Or.inr (Or.inr ⟨Or.inl ⟨_, q⟩, of_decide_eq_true a4⟩)
    · next n q => exact Or.inr (Or.inr ⟨Or.inr ⟨_, q⟩, of_decide_eq_true a4⟩)
    · cases a4
  · have := List.all_eq_true.mp a5 j (List.mem_range.mpr hj)
    simpa using this
section ZPS
variable {p : Program} {l0 : Launch} {e : Env} {R : Room} {s : State} {m : MethodId} {args : Array Value} {below : List Frame} {meth : Method} {c : Code} {Q : State → Prop} {E : ZE} {cc : ByteArray} {o pc nL d l cells slots : Nat} {L : LL} {st : List AV} {h : Hp} {pc' : Nat} {L' : LL} {st' : List AV} {h' : Hp} {H : Heap}
theorem zsame (z : ZPt E p l0 e R s m args below meth c nL Q (cells + (zN h' - zN h)) (slots + (zM h' - zM h)) pc' L' st' h') (hN : zN h' = zN h) (hM : zM h' = zM h) : ZPt E p l0 e R s m args below meth c nL Q cells slots pc' L' st' h' := by
  rw [hN, hM, Nat.sub_self, Nat.sub_self, Nat.add_zero, Nat.add_zero] at z
  exact z
theorem zs_iastore (X : ZX E p R s m args meth c cc o nL d) (hH : okH h) (hL : okL L) (hok : okst st) (hd : decode cc pc = .ok (.iastore, l)) (hz : zin d o pc l L st h .iastore = some (.inl (pc', L', st', h'))) : ZOkH E p l0 e R s m args below meth c nL Q cells slots pc L st h pc' L' st' h' := by
  obtain ⟨hx, hb, hml, hown, hts, hT, hini, hfr, hlo⟩ := X
  simp only [zin, ziast] at hz
  split at hz
  · next x i a r =>
    split at hz
    · next hc =>
      obtain ⟨hl, hk, h32, h0, h1⟩ := hc
      unfold zn at hz; cases hz
      obtain ⟨hxx, hr⟩ := okst_c hok
      obtain ⟨hi, hr⟩ := okst_c hr
      have hH' : okH (zsetV h a i.toNat x) := hH.setV hxx
      refine ⟨Nat.le_refl _, Nat.le_refl _, hH', hL, (okst_c hr).2, fun _ _ z H locs ls hI hS hR => ?_⟩
      have z := zsame z rfl rfl
      have he := zws_get (E := E) h32 (zalloc hI (a := a) (by omega))
      rw [zcell_1 hk] at he
      refine va_iast hx hb hT.1 hI.1 (zws_D E h) hS.1.here (a - 32) 0 he rfl (zi_in hi h0 h1) (hl ▸ hd) fun H1 locs1 hP1 _ hS1 => zsz fun hz1 => ?_
      obtain ⟨hI1, hV1⟩ := ZI.store (h' := zsetV h a i.toNat x) hI hS rfl (fun b hb => zcell_setV hb) (by
        rw [zcell_1 (h := zsetV h a i.toNat x) hk]
        refine congrArg Sum.inl (congrArg (Prod.mk _) (congrArg (Prod.mk _) (congrArg Sum.inl ?_)))
        funext k
        simp only [zV_set, upd, zi_clamp hi]
        by_cases q : k = i.toNat
        · simp [q]
        · simp [q]) h32 hH' (fun _ => rfl) (fun b k hb => by rw [zV_set, if_neg (by omega)]) (fun _ _ _ => rfl) hP1 hS1 hz1
      exact z H1 locs1 ls hI1 hV1 hR
    · cases hz
  · cases hz
theorem zs_bastore (X : ZX E p R s m args meth c cc o nL d) (hH : okH h) (hL : okL L) (hok : okst st) (hd : decode cc pc = .ok (.bastore, l)) (hz : zin d o pc l L st h .bastore = some (.inl (pc', L', st', h'))) : ZOkH E p l0 e R s m args below meth c nL Q cells slots pc L st h pc' L' st' h' := by
  obtain ⟨hx, hb, hml, hown, hts, hT, hini, hfr, hlo⟩ := X
  simp only [zin, zbast] at hz
  split at hz
  · next x i a r =>
    split at hz
    · next hc =>
      obtain ⟨hl, hk, h32, h0, h1, hx01⟩ := hc
      unfold zn at hz; cases hz
      obtain ⟨hxx, hr⟩ := okst_c hok
      obtain ⟨hi, hr⟩ := okst_c hr
      have hH' : okH (zsetV h a i.toNat x) := hH.setV hxx
      refine ⟨Nat.le_refl _, Nat.le_refl _, hH', hL, (okst_c hr).2, fun _ _ z H locs ls hI hS hR => ?_⟩
      have z := zsame z rfl rfl
      have he := zws_get (E := E) h32 (zalloc hI (a := a) (by omega))
      rw [zcell_2 hk] at he
      refine va_zast hx hb hT.1 hI.1 (zws_D E h) hS.1.here (a - 32) 1 he rfl (zi_in hi h0 h1) (hl ▸ hd) fun H1 locs1 hP1 _ hS1 => zsz fun hz1 => ?_
      have en : vp_nar .boolean (zi x) = zi x := by
        rcases hx01 with rfl | rfl
        · decide +kernel
        · decide +kernel
      obtain ⟨hI1, hV1⟩ := ZI.store (h' := zsetV h a i.toNat x) hI hS rfl (fun b hb => zcell_setV hb) (by
        rw [zcell_2 (h := zsetV h a i.toNat x) hk, en]
        refine congrArg Sum.inl (congrArg (Prod.mk _) (congrArg (Prod.mk _) (congrArg Sum.inl ?_)))
        funext k
        simp only [zV_set, upd, zi_clamp hi]
        by_cases q : k = i.toNat
        · simp [q]
        · simp [q]) h32 hH' (fun _ => rfl) (fun b k hb => by rw [zV_set, if_neg (by omega)]) (fun _ _ _ => rfl) hP1 hS1 hz1
      exact z H1 locs1 ls hI1 hV1 hR
    · cases hz
  · cases hz
theorem zs_lastore (X : ZX E p R s m args meth c cc o nL d) (hH : okH h) (hL : okL L) (hok : okst st) (hd : decode cc pc = .ok (.lastore, l)) (hz : zin d o pc l L st h .lastore = some (.inl (pc', L', st', h'))) : ZOkH E p l0 e R s m args below meth c nL Q cells slots pc L st h pc' L' st' h' := by
  obtain ⟨hx, hb, hml, hown, hts, hT, hini, hfr, hlo⟩ := X
  simp only [zin, zlast] at hz
  split at hz
  · next x i a r =>
    split at hz
    · next hc =>
      obtain ⟨hl, hk, h32, h0, h1⟩ := hc
      unfold zn at hz; cases hz
      obtain ⟨hxx, hr⟩ := okst_c hok
      obtain ⟨hi, hr⟩ := okst_c hr
      have hH' : okH (zsetJ h a i.toNat x) := hH
      refine ⟨Nat.le_refl _, Nat.le_refl _, hH', hL, (okst_c hr).2, fun _ _ z H locs ls hI hS hR => ?_⟩
      have z := zsame z rfl rfl
      have he := zws_get (E := E) h32 (zalloc hI (a := a) (by omega))
      rw [zcell_3 hk] at he
      refine va_last hx hb hT.1 hI.1 (zws_D E h) hS.1.here (a - 32) 2 he rfl (zi_in hi h0 h1) (hl ▸ hd) fun H1 locs1 hP1 _ hS1 => zsz fun hz1 => ?_
      obtain ⟨hI1, hV1⟩ := ZI.store (h' := zsetJ h a i.toNat x) hI hS rfl (fun b hb => zcell_setJ hb) (by
        rw [zcell_3 (h := zsetJ h a i.toNat x) hk]
        refine congrArg Sum.inl (congrArg (Prod.mk _) (congrArg (Prod.mk _) (congrArg Sum.inr (congrArg Sum.inl ?_))))
        funext k
        simp only [zJ_set, vp_updL, zi_clamp hi]
        by_cases q : k = i.toNat
        · simp [q]
        · simp [q]) h32 hH' (fun _ => rfl) (fun _ _ _ => rfl) (fun _ _ _ => rfl) hP1 hS1 hz1
      exact z H1 locs1 ls hI1 hV1 hR
    · cases hz
  · cases hz
theorem zs_aastore (X : ZX E p R s m args meth c cc o nL d) (hH : okH h) (hL : okL L) (hok : okst st) (hd : decode cc pc = .ok (.aastore, l)) (hz : zin d o pc l L st h .aastore = some (.inl (pc', L', st', h'))) : ZOkH E p l0 e R s m args below meth c nL Q cells slots pc L st h pc' L' st' h' := by
  obtain ⟨hx, hb, hml, hown, hts, hT, hini, hfr, hlo⟩ := X
  simp only [zin, zaast] at hz
  split at hz
  · next v i a r =>
    split at hz
    · next hc =>
      obtain ⟨hl, h32, h0, h1, hk⟩ := hc
      unfold zn at hz; cases hz
      obtain ⟨hxx, hr⟩ := okst_c hok
      obtain ⟨hi, hr⟩ := okst_c hr
      have hH' : okH (zsetP h a i.toNat (some v)) := hH
      refine ⟨Nat.le_refl _, Nat.le_refl _, hH', hL, (okst_c hr).2, fun _ _ z H locs ls hI hS hR => ?_⟩
      have z := zsame z rfl rfl
      have he := zws_get (E := E) h32 (zalloc hI (a := a) (by omega))
      have hfn : (fun k => (zP (zsetP h a i.toNat (some v)) a k).map (zad E)) = va_up (fun k => (zP h a k).map (zad E)) (zi i).toNatClampNeg (some (zad E v)) := by
        funext k
        simp only [zP_set, va_up, zi_clamp hi]
        by_cases q : k = i.toNat
        · simp [q]
        · simp [q]
      rcases hk with ⟨hk, hv⟩ | ⟨hk, hv⟩
      · rw [zcell_5 hk] at he
        have hv32 : 32 ≤ v := zown hI (by rw [hv]; decide) (by rw [hv]; decide) (by rw [hv]; decide) (by rw [hv]; decide)
        have hev := zws_get (E := E) hv32 (zalloc hI (a := v) (by rw [hv]; decide))
        rw [zcell_o (ci := 4) hv] at hev
        refine va_astq hx hb hT.1 hI.1 (zws_D E h) hS.1.here (a - 32) 3 (v - 32) 4 (r := (zcn 4, zT 4, zNf 4)) he rfl hev (zcls9_get (by omega)) (zi_in hi h0 h1) (hl ▸ hd) fun H1 locs1 hP1 _ hS1 => zsz fun hz1 => ?_
        obtain ⟨hI1, hV1⟩ := ZI.store (h' := zsetP h a i.toNat (some v)) hI hS rfl (fun b hb => zcell_setP hb) (by
          rw [zcell_5 (h := zsetP h a i.toNat (some v)) hk, hfn]
          rfl) h32 hH' (fun _ => rfl) (fun _ _ _ => rfl) (fun b k hb => by rw [zP_set, if_neg (by omega)]) hP1 hS1 hz1
        exact z H1 locs1 ls hI1 hV1 hR
      · rw [zcell_6 hk] at he
        have hv32 : 32 ≤ v := zown hI (by rw [hv]; decide) (by rw [hv]; decide) (by rw [hv]; decide) (by rw [hv]; decide)
        have hev := zws_get (E := E) hv32 (zalloc hI (a := v) (by rw [hv]; decide))
        rw [zcell_o (ci := 5) hv] at hev
        refine va_astq hx hb hT.1 hI.1 (zws_D E h) hS.1.here (a - 32) 4 (v - 32) 5 (r := (zcn 5, zT 5, zNf 5)) he rfl hev (zcls9_get (by omega)) (zi_in hi h0 h1) (hl ▸ hd) fun H1 locs1 hP1 _ hS1 => zsz fun hz1 => ?_
        obtain ⟨hI1, hV1⟩ := ZI.store (h' := zsetP h a i.toNat (some v)) hI hS rfl (fun b hb => zcell_setP hb) (by
          rw [zcell_6 (h := zsetP h a i.toNat (some v)) hk, hfn]
          rfl) h32 hH' (fun _ => rfl) (fun _ _ _ => rfl) (fun b k hb => by rw [zP_set, if_neg (by omega)]) hP1 hS1 hz1
        exact z H1 locs1 ls hI1 hV1 hR
    · cases hz
  · cases hz
theorem zfs_set {ci a k n : Nat} {w : AV} (hk : zfv h' ci a k = w) (ho : ∀ j, j ≠ k → zfv h' ci a j = zfv h ci a j) : (zfs E h ci a n).set k (cv E w) = zfs E h' ci a n := by
  apply List.ext_getElem?
  intro i
  unfold zfs
  rw [List.getElem?_set]
  simp only [List.length_map, List.length_range, List.getElem?_map]
  by_cases hi : i < n
  · rw [List.getElem?_range hi]
    simp only [Option.map_some]
    by_cases q : k = i
    · subst q
      rw [if_pos rfl, if_pos hi, hk]
    · rw [if_neg q, ho i (fun z => q z.symm)]
  · rw [List.getElem?_eq_none (by simpa using hi)]
    simp only [Option.map_none]
    split
    · rw [if_neg (by omega)]
    · rfl
theorem zs_putfield {k : Nat} (X : ZX E p R s m args meth c cc o nL d) (hH : okH h) (hL : okL L) (hok : okst st) (hd : decode cc pc = .ok (.putfield k, l)) (hz : zin d o pc l L st h (.putfield k) = some (.inl (pc', L', st', h'))) : ZOkH E p l0 e R s m args below meth c nL Q cells slots pc L st h pc' L' st' h' := by
  obtain ⟨hx, hb, hml, hown, hts, hT, hini, hfr, hlo⟩ := X
  have fin : ∀ (ci kk a : Nat) (w : AV) (r : List AV) (hk : Hp), l = 3 → ci < 9 → zfld o k = some (ci, kk) → zS h a = (10 + ci, zNf ci) → 32 ≤ a → (zfin ci kk = true → 100 ≤ o ∧ o % 100 = ci) → (∀ ty, parseFieldDescriptor (zT ci kk).2.2.1 = some ty → narrow ty (cv E w) = cv E w ∧ fits ty (cv E w) = true) →
      zN hk = zN h → zM hk = zM h → okH hk → (∀ b, b ≠ a → zcell E hk b = zcell E h b) → (∀ b, zS hk b = zS h b) → (∀ b k, b < 32 → zV hk b k = zV h b k) → (∀ b k, b < 32 → zP hk b k = zP h b k) → (zfv hk ci a kk = w) → (∀ j, j ≠ kk → zfv hk ci a j = zfv h ci a j) →
      ZPt E p l0 e R s m args below meth c nL Q cells slots (pc + 3) L r hk → ZPt E p l0 e R s m args below meth c nL Q cells slots pc L (w :: vR (some a) :: r) h := by
    intro ci kk a w r hk hl hci hv hS0 h32 hfin hty hN hM hH' hco hSS hVb hPb hf1 hf2 z H locs ls hI hS hR
    unfold zfld at hv
    obtain ⟨⟨ci', kk', pl⟩, h1, h2⟩ := zfind (f := fun a : Nat × Nat × Nat => (a.1, a.2.1)) hv
    have e1 : ci = ci' := (congrArg Prod.fst h2).symm
    have e2 : kk = kk' := (congrArg Prod.snd h2).symm
    subst e1; subst e2
    have h3 := zall_of zcF_ok h1
    unfold zcF at h3
    simp only [Bool.or_eq_true, Bool.and_eq_true, decide_eq_true_eq] at h3
    rcases h3 with ⟨-, hkk, hw⟩ | ⟨h9, -⟩
    · obtain ⟨a1, a2, a3, -, -⟩ := zf_spec hci hkk
      obtain ⟨hn, hft⟩ := hty _ a1
      have he := zws_get (E := E) h32 (zalloc hI (a := a) (by rw [hS0]; simp only; omega))
      rw [zcell_o hS0] at he
      have hnm : ∀ x, x < zNf ci → ∀ y, y < zNf ci → x ≠ y → (zT ci x).2.1 ≠ (zT ci y).2.1 := fun x hx y hy hne => ((zf_spec hci hx).2.2.2.2 y hy).resolve_left (fun q => hne q.symm)
      have hty0 : ∀ x, x < zNf ci → parseFieldDescriptor (zT ci x).2.2.1 = some (zpfd ci x) := fun x hx => (zf_spec hci hx).1
      have hlen : kk < (zfs E h ci a (zNf ci)).length := by unfold zfs; simpa using hkk
      have last : ∀ (H1 : Heap) (locs1 : List Loc), va_P (eC E, eI E) zcls9 ((zws E h).set (a - 32) (zad E a, .inr (ci, (zfs E h ci a (zNf ci)).set kk (cv E w)))) H1 → va_S (zA E) H H1 locs1 → W p l0 e R s m args below meth c H1 locs1 cells slots Q (F0 m (pc + 3) ls (r.map (cv E))) := by
        intro H1 locs1 hP1 hS1
        refine zsz fun hz1 => ?_
        rw [zfs_set hf1 hf2] at hP1
        obtain ⟨hI1, hV1⟩ := ZI.store (h' := hk) hI hS hN hco (by rw [zcell_o (h := hk) (ci := ci) (by rw [hSS]; exact hS0)]) h32 hH' hSS hVb hPb hP1 hS1 hz1
        exact z H1 locs1 ls hI1 hV1 hR
      show W p l0 e R s m args below meth c H locs cells slots Q (F0 m pc ls (cv E w :: .ref (zad E a) :: r.map (cv E)))
      cases hf : zfin ci kk with
      | false => exact va_put hx hb hts (zlay_in hci) (zpfd ci) hty0 hnm hown hT.1 hI.1 (zws_D E h) hS.1.here (a - 32) he (zcls9_get hci) kk hkk (hts _ (zck_mem hw)) (fun _ q => q) (by rw [a3, hf]) a1 hn hft hlen (hl ▸ hd) fun H1 locs1 hP1 _ hS1 => last H1 locs1 hP1 hS1
      | true =>
        obtain ⟨f1, f2⟩ := hfin hf
        exact va_putF hx hb hts (zlay_in hci) (zpfd ci) hty0 hnm hown hT.1 hI.1 (zws_D E h) hS.1.here (a - 32) he (zcls9_get hci) kk hkk (hts _ (zck_mem hw)) (fun _ q => q) (by rw [a3, hf]) (hini f1) (by rw [a2, f2]) a1 hn hft hlen (hl ▸ hd) fun H1 locs1 hP1 _ hS1 => last H1 locs1 hP1 hS1
    · omega
  simp only [zin, zputf] at hz
  split at hz
  · next ci kk x a r hv =>
    split at hz
    · next hc =>
      obtain ⟨hl, hci, hS0, h32, hft, hfin⟩ := hc
      unfold zn at hz; cases hz
      obtain ⟨hxx, hr⟩ := okst_c hok
      have hH' : okH (zsetV h a kk x) := hH.setV hxx
      have hne : zft ci kk ≠ 2 := by omega
      refine ⟨Nat.le_refl _, Nat.le_refl _, hH', hL, (okst_c hr).2, fun _ _ z => ?_⟩
      have z := zsame z rfl rfl
      refine fin ci kk a (vI x) _ (zsetV h a kk x) hl hci hv hS0 h32 hfin ?_ rfl rfl hH' (fun b hb => zcell_setV hb) (fun _ => rfl) (fun b k hb => by rw [zV_set, if_neg (by omega)]) (fun _ _ _ => rfl) ?_ ?_ z
      · intro ty hty
        have hkk : kk < zNf ci := by
          unfold zfld at hv
          obtain ⟨⟨ci', kk', pl⟩, h1, h2⟩ := zfind (f := fun a : Nat × Nat × Nat => (a.1, a.2.1)) hv
          have e1 : ci = ci' := (congrArg Prod.fst h2).symm
          have e2 : kk = kk' := (congrArg Prod.snd h2).symm
          subst e1; subst e2
          have h3 := zall_of zcF_ok h1
          unfold zcF at h3
          simp only [Bool.or_eq_true, Bool.and_eq_true, decide_eq_true_eq] at h3
          rcases h3 with ⟨-, hkk, hw⟩ | ⟨h9, -⟩
          · exact hkk
          · omega
        obtain ⟨a1, -, -, a4, -⟩ := zf_spec hci hkk
        rw [a1] at hty
        cases hty
        rcases a4 with ⟨q, -⟩ | ⟨q, q1⟩ | ⟨-, q⟩
        · rw [q]; exact ⟨rfl, rfl⟩
        · rw [q]
          rcases hft with hft | ⟨-, hft⟩
          · omega
          · rcases hft with rfl | rfl
            · exact ⟨show narrow .boolean (.int (zi 0)) = .int (zi 0) by decide +kernel, show fits .boolean (.int (zi 0)) = true by decide +kernel⟩
            · exact ⟨show narrow .boolean (.int (zi 1)) = .int (zi 1) by decide +kernel, show fits .boolean (.int (zi 1)) = true by decide +kernel⟩
        · omega
      · unfold zfv
        rw [if_neg hne, zV_set, if_pos ⟨rfl, rfl⟩]
      · intro j hj
        have e1 : zV (zsetV h a kk x) a j = zV h a j := by rw [zV_set, if_neg (fun q => hj q.2)]
        unfold zfv
        rw [e1]
        rfl
    · cases hz
  · next ci kk pr a r hv =>
    split at hz
    · next hc =>
      obtain ⟨hl, hci, hS0, h32, hft, hfin⟩ := hc
      unfold zn at hz; cases hz
      obtain ⟨hxx, hr⟩ := okst_c hok
      have hH' : okH (zsetP h a kk pr) := hH
      refine ⟨Nat.le_refl _, Nat.le_refl _, hH', hL, (okst_c hr).2, fun _ _ z => ?_⟩
      have z := zsame z rfl rfl
      refine fin ci kk a (vR pr) _ (zsetP h a kk pr) hl hci hv hS0 h32 hfin ?_ rfl rfl hH' (fun b hb => zcell_setP hb) (fun _ => rfl) (fun _ _ _ => rfl) (fun b k hb => by rw [zP_set, if_neg (by omega)]) ?_ ?_ z
      · intro ty hty
        have hkk : kk < zNf ci := by
          unfold zfld at hv
          obtain ⟨⟨ci', kk', pl⟩, h1, h2⟩ := zfind (f := fun a : Nat × Nat × Nat => (a.1, a.2.1)) hv
          have e1 : ci = ci' := (congrArg Prod.fst h2).symm
          have e2 : kk = kk' := (congrArg Prod.snd h2).symm
          subst e1; subst e2
          have h3 := zall_of zcF_ok h1
          unfold zcF at h3
          simp only [Bool.or_eq_true, Bool.and_eq_true, decide_eq_true_eq] at h3
          rcases h3 with ⟨-, hkk, hw⟩ | ⟨h9, -⟩
          · exact hkk
          · omega
        obtain ⟨a1, -, -, a4, -⟩ := zf_spec hci hkk
        rw [a1] at hty
        cases hty
        rcases a4 with ⟨-, q⟩ | ⟨-, q⟩ | ⟨q, -⟩
        · omega
        · omega
        · rcases q with ⟨n, q⟩ | ⟨t, q⟩ <;> rw [q] <;> cases pr <;> exact ⟨rfl, rfl⟩
      · unfold zfv
        rw [if_pos hft, zP_set, if_pos ⟨rfl, rfl⟩]
      · intro j hj
        have e1 : zP (zsetP h a kk pr) a j = zP h a j := by rw [zP_set, if_neg (fun q => hj q.2)]
        unfold zfv
        rw [e1]
        rfl
    · cases hz
  · cases hz
end ZPS
