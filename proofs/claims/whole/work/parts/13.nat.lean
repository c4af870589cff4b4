/-! SOUNDNESS 10: Math's methods, arraycopy, Object's own <init> -/
theorem zma_ok : (zck (zpl 22).1 (.code Lib.Math.min.name Lib.Math.min.code 2 (some .int)) = true ∧ zck (zpl 22).2.1 (.static Lib.Math.min.name) = true) ∧ (zck (zpl 171).1 (.code Lib.Math.max.name Lib.Math.max.code 2 (some .int)) = true ∧ zck (zpl 171).2.1 (.static Lib.Math.max.name) = true) ∧ (zck (zpl 195).1 (.code Lib.MathLoose.abs_long.x Lib.MathLoose.abs_long.code 2 (some .long)) = true ∧ zck (zpl 195).2.1 (.static Lib.MathLoose.abs_long.x) = true) ∧ (zck (zpl 23).1 (.code fm_x fm_c 3 (some .int)) = true ∧ zck (zpl 23).2.1 (.static fm_x) = true) ∧ zck (zpl 22).2.2.2 (.initialized "java/lang/Math") = true := by decide +kernel
section ZPN
variable {p : Program} {l0 : Launch} {e : Env} {R : Room} {s : State} {m : MethodId} {args : Array Value} {below : List Frame} {meth : Method} {c : Code} {Q : State → Prop} {E : ZE} {cc : ByteArray} {o pc nL d l cells slots : Nat} {L : LL} {st : List AV} {h : Hp} {pc' : Nat} {L' : LL} {st' : List AV} {h' : Hp} {H : Heap} {locs : List Loc} {ls : Array Slot} {rest : List Value}
theorem fm_row (hexec : p.tables.exec = Jvm.exec) (hb : c.code = cc) (hml : c.maxLocals = ls.size) {own : String} {index : Nat} (hown : s.vm.findClass own = some m.cls) (hlink : (Cond.methodLink own index fm_x).before args s = true) (hstat : (Cond.static fm_x).before args s = true) (hinit : (Cond.initialized "java/lang/Math").before args s = true) (hcode : (Cond.code fm_x fm_c 3 (some .int)).before args s = true)
    (hframes : 1 ≤ R.frames) (hlocals : (rest.map fun v => v.category).sum + 14 ≤ R.locals) (hcells : cells ≤ R.cells) (hslots : slots ≤ R.slots) {a b : Int32} (hne : ¬ b = 0) (hdg : decode cc pc = .ok (.invokestatic index, 3))
    (kk : W p l0 e R s m args below meth c H locs cells slots Q (F0 m (pc + 3) ls (.int (zfm32 a b) :: rest))) : W p l0 e R s m args below meth c H locs cells slots Q (F0 m pc ls (.int b :: .int a :: rest)) := by
  intro T hT X
  obtain ⟨v, T', X', ⟨first, t, hpost⟩, hstep⟩ := X.staticByContractV hexec hown hlink hstat hinit hcode (by decide)
    (fm_meets l0 a b hne)
    rfl rfl rfl rfl
    (fun args' first o s₂ h => by
      cases o with
      | returned r => exact ⟨r, rfl⟩
      | threw y =>
        have hz : (fm_spec a b).post.value args' first (some (.threw y)) s₂ [] = some true := by simpa [Cond.after, Cond.holds] using h
        exact absurd hz va_nvRet)
    (g := F0 m pc ls (.int b :: .int a :: rest)) rfl (by rw [hml]) (argsL := [.int a, .int b]) (rest := rest)
    (fun sig hs => by
      have h : parseMethodDescriptor "(II)I" = some { parameters := [.int, .int], returnType := some .int } := by decide +kernel
      rw [show fm_x.desc = "(II)I" from rfl, h] at hs
      rw [← Option.some.inj hs]; rfl)
    rfl (by rw [hb]; exact hdg)
    (fun vm' hW => by
      simp only [fm_spec, Cond.before_and, Bool.and_eq_true]
      refine ⟨?_, rfl, rfl, rfl, ?_, ?_⟩
      · have q := hcode
        rw [← Cond.code_setVm hW.alike] at q
        simp only [Cond.before, Cond.holds, Cond.value, State.methodNamed?, State.vm_setVm] at q ⊢
        exact q
      · simp [Cond.before, Cond.holds, Cond.value, Term.eval]
      · simp [Cond.before, Cond.holds, Cond.value, Term.eval])
    (by show 0 + 1 ≤ R.frames; omega) (by show 2 * 0 + (rest.map fun v => v.category).sum + (3 + 11) + 0 ≤ R.locals; omega) (by show cells + 0 ≤ R.cells; omega) (by show slots + 0 ≤ R.slots; omega)
  obtain rfl : v = some (.int (zfm32 a b)) := by
    rcases v with _ | w
    · simp [fm_spec, Cond.after, Cond.holds, Cond.value, Term.eval] at hpost
    · cases w <;> simp [fm_spec, Cond.after, Cond.holds, Cond.value, Term.eval] at hpost
      first | (simp [hpost]; done) | (rename_i r; by_cases hr : r = zfm32 a b <;> simp [hr] at hpost ⊢)
  obtain ⟨t2, a1, b1⟩ := kk (T.setVm T') hT X'
  exact ⟨t2, hstep t2 a1, b1⟩
theorem zwt_cat (r : List AV) : ((r.map (cv E)).map fun v => v.category).sum = zwt r := by
  unfold zwt
  rw [List.map_map]
  congr 1
  refine List.map_congr_left fun v _ => ?_
  exact cv_cat E v
theorem zs_oinit {k : Nat} (X : ZX E p R s m args meth c cc o nL d) (hk : zck (zpl 1).1 (.code Lib.objectInit ⟨#[0xb1]⟩ 1 none) = true) (hL : okL L) (hok : okst st) (hd : decode cc pc = .ok (.invokespecial k, l)) (hw : Cond.methodLink (zcn (o % 100)) k Lib.objectInit ∈ zTG) (hz : zoinit d pc l L st h = some (.inl (pc', L', st', h'))) : ZOk E p l0 e R s m args below meth c nL Q cells slots pc L st h pc' L' st' h' := by
  obtain ⟨hx, hb, hml, hown, hts, hT, hini, hfr, hlo⟩ := X
  unfold zoinit at hz
  split at hz
  · next a r =>
    split at hz
    · next hc =>
      obtain ⟨hl, hd1, hw8⟩ := hc
      unfold zn at hz; cases hz
      refine ⟨rfl, hL, (okst_c hok).2, fun z H locs ls hI hS hR => ?_⟩
      exact W.objInit hx hb hown (hts _ hw) (hts _ (zck_mem zoi_ok.2)) (hts _ (zck_mem zoi_ok.1)) rfl (by rw [hml]; exact hR.1) (a := zad E a) (rest := _) rfl (hl ▸ hd) (by omega) (by
        show 2 * 0 + _ + 12 ≤ R.locals
        rw [zwt_cat]
        omega) (z H locs ls hI hS hR)
    · cases hz
  · cases hz
/-- the calls that are done here as one step -/
theorem zs_invokestatic {k : Nat} (X : ZX E p R s m args meth c cc o nL d) (hc0 : cells ≤ R.cells) (hs0 : slots ≤ R.slots) (hH : okH h) (hL : okL L) (hok : okst st) (hd : decode cc pc = .ok (.invokestatic k, l)) (hz : zin d o pc l L st h (.invokestatic k) = some (.inl (pc', L', st', h'))) : ZOkH E p l0 e R s m args below meth c nL Q cells slots pc L st h pc' L' st' h' := by
  have X0 := X
  obtain ⟨hx, hb, hml, hown, hts, hT, hini, hfr, hlo⟩ := X
  have key : ∀ kd z, zmth o k = some (kd, z) → ∃ pl, zcM (o % 100) (k, kd, z, pl) = true := by
    intro kd z hv
    unfold zmth at hv
    obtain ⟨⟨kd', z', pl⟩, h1, h2⟩ := zfind (f := fun a : Nat × Nat × Nat => (a.1, a.2.1)) hv
    have e1 : kd = kd' := (congrArg Prod.fst h2).symm
    have e2 : z = z' := (congrArg Prod.snd h2).symm
    subst e1; subst e2
    exact ⟨pl, zall_of zcM_ok h1⟩
  simp only [zin] at hz
  split at hz
  · next z hv =>
    obtain ⟨pl, h3⟩ := key _ _ hv
    simp [zcM] at h3
    have hw := zck_mem h3
    unfold zcpy at hz
    split at hz
    · next n dp b sp a r =>
      split at hz
      · next hc =>
        obtain ⟨hl, hd1, hw8, ha32, hb32, hn0, hsp0, hdp0, hs1, hs2, hkk⟩ := hc
        unfold zn at hz; cases hz
        obtain ⟨qn, hr⟩ := okst_c hok
        obtain ⟨qdp, hr⟩ := okst_c hr
        obtain ⟨-, hr⟩ := okst_c hr
        obtain ⟨qsp, hr⟩ := okst_c hr
        obtain ⟨-, hr⟩ := okst_c hr
        have cn : (zi n).toNatClampNeg = n.toNat := zi_clamp qn
        have cd : (zi dp).toNatClampNeg = dp.toNat := zi_clamp qdp
        have cs : (zi sp).toNatClampNeg = sp.toNat := zi_clamp qsp
        have nn : ∀ x : Int, zr x → 0 ≤ x → ¬ zi x < 0 := fun x hx hx0 q => absurd ((zi_lt hx zr_0).mp (by rw [zi_0]; exact q)) (by omega)
        have hnw : nativeFrameWords "java/lang/System" "arraycopy" 5 ≤ 7 := by decide +kernel
        rcases hkk with ⟨k1, k2⟩ | ⟨k1, k2⟩
        · rw [if_pos k1]
          have hH' : okH (zcpV h a sp.toNat b dp.toNat n.toNat) := by
            intro x y
            show zr (if x = b ∧ dp.toNat ≤ y ∧ y < dp.toNat + n.toNat then zV h a (sp.toNat + (y - dp.toNat)) else zV h x y)
            split
            · exact hH _ _
            · exact hH _ _
          refine ⟨Nat.le_refl _, Nat.le_refl _, hH', hL, hr, fun _ _ z H locs ls hI hS hR => ?_⟩
          have z := zsame z rfl rfl
          have he := zws_get (E := E) ha32 (zalloc hI (a := a) (by omega))
          rw [zcell_1 k1] at he
          have he2 := zws_get (E := E) hb32 (zalloc hI (a := b) (by omega))
          rw [zcell_1 k2] at he2
          refine va_copyi hx hb (by rw [hml]; exact hR.1.symm) hown (hts _ hw) (hts _ (zck_mem zac_ok.1)) (hts _ (zck_mem zac_ok.2.1)) (hts _ (zck_mem zac_ok.2.2)) hT.1 hI.1 (zws_D E h) hS.1.here (a - 32) (b - 32) 0 0 he he2 rfl rfl rfl (nn _ qsp hsp0) (nn _ qdp hdp0) (nn _ qn hn0) (by rw [cs, cn]; omega) (by rw [cd, cn]; omega) (fun _ _ => rfl) (by omega) (by rw [zwt_cat]; omega) (hl ▸ hd) fun H1 locs1 hP1 _ hS1 => zsz fun hz1 => ?_
          obtain ⟨hI1, hV1⟩ := ZI.store (h' := zcpV h a sp.toNat b dp.toNat n.toNat) hI hS rfl (fun x hx => zcell_congr rfl (fun y => by
            show (if x = b ∧ dp.toNat ≤ y ∧ y < dp.toNat + n.toNat then zV h a (sp.toNat + (y - dp.toNat)) else zV h x y) = zV h x y
            rw [if_neg (fun q => hx q.1)]) (fun _ => rfl) (fun _ => rfl)) (by
            rw [zcell_1 (h := zcpV h a sp.toNat b dp.toNat n.toNat) k2, cn, cd, cs]
            refine congrArg Sum.inl (congrArg (Prod.mk _) (congrArg (Prod.mk _) (congrArg Sum.inl ?_)))
            funext y
            show zi (if b = b ∧ dp.toNat ≤ y ∧ y < dp.toNat + n.toNat then zV h a (sp.toNat + (y - dp.toNat)) else zV h b y) = va_cpy (fun k => zi (zV h a k)) (fun k => zi (zV h b k)) sp.toNat dp.toNat n.toNat y
            unfold va_cpy
            by_cases q : dp.toNat ≤ y ∧ y < dp.toNat + n.toNat
            · rw [if_pos ⟨rfl, q⟩, if_pos q]
            · rw [if_neg (fun w => q w.2), if_neg q]) hb32 hH' (fun _ => rfl) (fun x y hx => by
            show (if x = b ∧ dp.toNat ≤ y ∧ y < dp.toNat + n.toNat then zV h a (sp.toNat + (y - dp.toNat)) else zV h x y) = zV h x y
            rw [if_neg (fun q => by omega)]) (fun _ _ _ => rfl) hP1 hS1 hz1
          exact z H1 locs1 ls hI1 hV1 hR
        · rw [if_neg (by omega)]
          have hH' : okH (zcpJ h a sp.toNat b dp.toNat n.toNat) := hH
          refine ⟨Nat.le_refl _, Nat.le_refl _, hH', hL, hr, fun _ _ z H locs ls hI hS hR => ?_⟩
          have z := zsame z rfl rfl
          have he := zws_get (E := E) ha32 (zalloc hI (a := a) (by omega))
          rw [zcell_3 k1] at he
          have he2 := zws_get (E := E) hb32 (zalloc hI (a := b) (by omega))
          rw [zcell_3 k2] at he2
          refine va_copyl hx hb (by rw [hml]; exact hR.1.symm) hown (hts _ hw) (hts _ (zck_mem zac_ok.1)) (hts _ (zck_mem zac_ok.2.1)) (hts _ (zck_mem zac_ok.2.2)) hT.1 hI.1 (zws_D E h) hS.1.here (a - 32) (b - 32) 2 2 he he2 rfl rfl rfl (nn _ qsp hsp0) (nn _ qdp hdp0) (nn _ qn hn0) (by rw [cs, cn]; omega) (by rw [cd, cn]; omega) (fun _ _ => rfl) (by omega) (by rw [zwt_cat]; omega) (hl ▸ hd) fun H1 locs1 hP1 _ hS1 => zsz fun hz1 => ?_
          obtain ⟨hI1, hV1⟩ := ZI.store (h' := zcpJ h a sp.toNat b dp.toNat n.toNat) hI hS rfl (fun x hx => zcell_congr rfl (fun _ => rfl) (fun y => by
            show (if x = b ∧ dp.toNat ≤ y ∧ y < dp.toNat + n.toNat then zJ h a (sp.toNat + (y - dp.toNat)) else zJ h x y) = zJ h x y
            rw [if_neg (fun q => hx q.1)]) (fun _ => rfl)) (by
            rw [zcell_3 (h := zcpJ h a sp.toNat b dp.toNat n.toNat) k2, cn, cd, cs]
            refine congrArg Sum.inl (congrArg (Prod.mk _) (congrArg (Prod.mk _) (congrArg Sum.inr (congrArg Sum.inl ?_))))
            funext y
            show (if b = b ∧ dp.toNat ≤ y ∧ y < dp.toNat + n.toNat then zJ h a (sp.toNat + (y - dp.toNat)) else zJ h b y) = va_cpy (zJ h a) (zJ h b) sp.toNat dp.toNat n.toNat y
            unfold va_cpy
            by_cases q : dp.toNat ≤ y ∧ y < dp.toNat + n.toNat
            · rw [if_pos ⟨rfl, q⟩, if_pos q]
            · rw [if_neg (fun w => q w.2), if_neg q]) hb32 hH' (fun _ => rfl) (fun _ _ _ => rfl) (fun _ _ _ => rfl) hP1 hS1 hz1
          exact z H1 locs1 ls hI1 hV1 hR
      · cases hz
    · cases hz
  · next z hv =>
    obtain ⟨pl, h3⟩ := key _ _ hv
    simp [zcM] at h3
    have hw := zck_mem h3
    unfold zmm at hz
    split at hz
    · next y x r =>
      split at hz
      · next hc =>
        obtain ⟨hl, hd1, hw8⟩ := hc
        unfold zn at hz; cases hz
        obtain ⟨qy, hr⟩ := okst_c hok
        obtain ⟨qx, hr⟩ := okst_c hr
        refine ZOk.toH hH ⟨rfl, hL, okst_m (by
          show zr (if y < x then y else x)
          split
          · exact qy
          · exact qx) hr, fun z H locs ls hI hS hR => ?_⟩
        refine va_mmin hx hb (by rw [hml]; exact hR.1.symm) hown (hts _ hw) (hts _ (zck_mem zma_ok.1.2)) (hts _ (zck_mem zma_ok.2.2.2.2)) (hts _ (zck_mem zma_ok.1.1)) (by omega) (by rw [zwt_cat]; omega) hc0 hs0 (hl ▸ hd) ?_
        have k1 := z H locs ls hI hS hR
        have e1 : (if zi y < zi x then zi y else zi x) = zi (if y < x then y else x) := by
          by_cases q : y < x
          · rw [if_pos q, if_pos ((zi_lt qy qx).mpr q)]
          · rw [if_neg q, if_neg (fun w => q ((zi_lt qy qx).mp w))]
        rw [e1]
        exact k1
      · cases hz
    · cases hz
  · next z hv =>
    obtain ⟨pl, h3⟩ := key _ _ hv
    simp [zcM] at h3
    have hw := zck_mem h3
    unfold zmm at hz
    split at hz
    · next y x r =>
      split at hz
      · next hc =>
        obtain ⟨hl, hd1, hw8⟩ := hc
        unfold zn at hz; cases hz
        obtain ⟨qy, hr⟩ := okst_c hok
        obtain ⟨qx, hr⟩ := okst_c hr
        refine ZOk.toH hH ⟨rfl, hL, okst_m (by
          show zr (if x < y then y else x)
          split
          · exact qy
          · exact qx) hr, fun z H locs ls hI hS hR => ?_⟩
        refine va_mmax hx hb (by rw [hml]; exact hR.1.symm) hown (hts _ hw) (hts _ (zck_mem zma_ok.2.1.2)) (hts _ (zck_mem zma_ok.2.2.2.2)) (hts _ (zck_mem zma_ok.2.1.1)) (by omega) (by rw [zwt_cat]; omega) hc0 hs0 (hl ▸ hd) ?_
        have k1 := z H locs ls hI hS hR
        have e1 : (if zi x < zi y then zi y else zi x) = zi (if x < y then y else x) := by
          by_cases q : x < y
          · rw [if_pos q, if_pos ((zi_lt qx qy).mpr q)]
          · rw [if_neg q, if_neg (fun w => q ((zi_lt qx qy).mp w))]
        rw [e1]
        exact k1
      · cases hz
    · cases hz
  · next z hv =>
    obtain ⟨pl, h3⟩ := key _ _ hv
    simp [zcM] at h3
    have hw := zck_mem h3
    unfold zmab at hz
    split at hz
    · next x r =>
      split at hz
      · next hc =>
        obtain ⟨hl, hd1, hw8⟩ := hc
        unfold zn at hz; cases hz
        obtain ⟨qx, hr⟩ := okst_c hok
        refine ZOk.toH hH ⟨rfl, hL, okst_m trivial hr, fun z H locs ls hI hS hR => ?_⟩
        exact va_mabs_long hx hb (by rw [hml]; exact hR.1.symm) hown (hts _ hw) (hts _ (zck_mem zma_ok.2.2.1.2)) (hts _ (zck_mem zma_ok.2.2.2.2)) (hts _ (zck_mem zma_ok.2.2.1.1)) (by omega) (by rw [zwt_cat]; omega) hc0 hs0 (hl ▸ hd) (z H locs ls hI hS hR)
      · cases hz
    · cases hz
  · next z hv =>
    obtain ⟨pl, h3⟩ := key _ _ hv
    simp [zcM] at h3
    have hw := zck_mem h3
    unfold zmfm at hz
    split at hz
    · next y x r =>
      split at hz
      · next hc =>
        obtain ⟨hl, hd1, hw8, hy0⟩ := hc
        unfold zn at hz; cases hz
        obtain ⟨qy, hr⟩ := okst_c hok
        obtain ⟨qx, hr⟩ := okst_c hr
        refine ZOk.toH hH ⟨rfl, hL, okst_m (zr_toInt _) hr, fun z H locs ls hI hS hR => ?_⟩
        refine fm_row hx hb (by rw [hml]; exact hR.1.symm) hown (hts _ hw) (hts _ (zck_mem zma_ok.2.2.2.1.2)) (hts _ (zck_mem zma_ok.2.2.2.2)) (hts _ (zck_mem zma_ok.2.2.2.1.1)) (by omega) (by rw [zwt_cat]; omega) hc0 hs0 (fun q => hy0 (zi_inj qy zr_0 (by rw [q, zi_0]))) (hl ▸ hd) ?_
        have k1 := z H locs ls hI hS hR
        have e1 : cv E (vI (zfm32 (zi x) (zi y)).toInt) = .int (zfm32 (zi x) (zi y)) := congrArg Value.int (zi_of _)
        rw [List.map_cons, e1] at k1
        exact k1
      · cases hz
    · cases hz
  · next e he =>
    unfold zinvS at hz
    split at hz
    · unfold zcall at hz
      split at hz <;> cases hz
    · unfold zcall at hz
      split at hz <;> cases hz
    · cases hz
end ZPN
