/-! SOUNDNESS 13: whole runs -/
section ZPY
variable {p : Program} {l0 : Launch} {e : Env} {R : Room} {s : State} {m : MethodId} {args : Array Value} {below : List Frame} {meth : Method} {c : Code} {Q : State → Prop} {E : ZE} {cc : ByteArray} {o pc nL d l cells slots : Nat} {L : LL} {st : List AV} {h : Hp} {h1 : Hp} {H : Heap} {locs : List Loc} {ls : Array Slot} {rest : List Value} {z : Nat} {as r : List AV} {v : Option AV}
theorem zcZ_of {z : Nat} (hz : z < 219) (h1 : z ≠ 1) : Cond.initialized (zmn z).cls ∈ zTG ∧ (zmn z).cls ≠ "java/lang/invoke/MethodHandle" ∧ (zmn z).cls ≠ "java/lang/invoke/VarHandle" ∧ (parseMethodDescriptor (zmn z).desc).map (fun d => d.parameters.length) = some (zna z) ∧ zcn (zo z % 100) = (zmn z).cls ∧ (100 ≤ zo z → (zmn z).name = "<init>") ∧ zml z ≤ 20 ∧ zrt z ≤ 5 := by
  have q := List.all_eq_true.mp zcZ_ok z (List.mem_range.mpr hz)
  unfold zcZ at q
  simp only [Bool.or_eq_true, Bool.and_eq_true, decide_eq_true_eq] at q
  rcases q with q | ⟨⟨⟨⟨⟨⟨⟨q1, q2⟩, q3⟩, q4⟩, q5⟩, q6⟩, q7⟩, q8⟩
  · exact absurd q h1
  · exact ⟨zck_mem q1, q2, q3, q4, q5, q6, q7, q8⟩
theorem ztake {st : List AV} {n : Nat} {x : AV} (hx : st[n]? = some x) : (st.take (n + 1)).reverse = x :: (st.take n).reverse := by
  rw [List.take_add_one, hx]
  simp
/-- how a call is made, by its kind -/
theorem zs_call (X : ZX E p R s m args meth c cc o nL (d + 1)) (hM : Met l0 (zmn z) (zwz z) (zrm d h h1) (ZPc E as h) (ZQc E v h1) (zN h1 - zN h) (zM h1 - zM h) (zA E)) (hz : zact (d + 1) cc o pc L st h = some (.inr (.inl (z, as, r)))) (hN : zN h ≤ zN h1) (hr1 : cells + (zN h1 - zN h) ≤ R.cells) (hr2 : slots + (zM h1 - zM h) ≤ R.slots)
    (k : ZPt E p l0 e R s m args below meth c nL Q (cells + (zN h1 - zN h)) (slots + (zM h1 - zM h)) (pc + 3) L (v.toList ++ r) h1) : ZPt E p l0 e R s m args below meth c nL Q cells slots pc L st h := by
  obtain ⟨hx, hb, hml, hown, hts, hT, hini, hfr, hlo⟩ := X
  have key : ∀ i kd z, zmth o i = some (kd, z) → ∃ pl, zcM (o % 100) (i, kd, z, pl) = true := by
    intro i kd z hv
    unfold zmth at hv
    obtain ⟨⟨kd', z', pl⟩, h1, h2⟩ := zfind (f := fun a : Nat × Nat × Nat => (a.1, a.2.1)) hv
    have e1 : kd = kd' := (congrArg Prod.fst h2).symm
    have e2 : z = z' := (congrArg Prod.snd h2).symm
    subst e1; subst e2
    exact ⟨pl, zall_of zcM_ok h1⟩
  unfold zact at hz
  split at hz
  · next i l hd =>
    intro H locs ls hI hS hR
    have fixd : CallFix p m c cc nL s args zTG (zcn (o % 100)) := ⟨hx, hb, hml, hown, hts⟩
    have after : ∀ (H1 : Heap) (locs1 : List Loc), ZI E H1 h1 → va_S (zA E) s.heap H1 locs1 → W p l0 e R s m args below meth c H1 locs1 (cells + (zN h1 - zN h)) (slots + (zM h1 - zM h)) Q (F0 m (pc + 3) ls ((v.map (cv E)).toList ++ r.map (cv E))) := by
      intro H1 locs1 hI1 hS1
      have hz1 := hI1.2.1
      have hz0 := hI.2.1
      have hz2 := hS.2
      have q := k H1 locs1 ls hI1 ⟨hS1, by omega⟩ hR
      rw [show (v.toList ++ r).map (cv E) = (v.map (cv E)).toList ++ r.map (cv E) by cases v <;> simp] at q
      exact q
    have hPc : ∀ U : State, U.heap = H → s.WarmedH U.vm → ∀ a, a = (as.map (cv E)).toArray → ZPc E as h a U := fun U hU hW a ha => ⟨ha, hT.moved hU hS.1 hW, by rw [hU]; exact hI⟩
    have room : z < 219 → z ≠ 1 → (zrm d h h1).frames + 1 ≤ R.frames ∧ 8 + (zml z + 11) + (zrm d h h1).locals ≤ R.locals := by
      intro q1 q2
      have q3 := (zcZ_of q1 q2).2.2.2.2.2.2.1
      refine ⟨hfr, ?_⟩
      show 8 + (zml z + 11) + 60 * d ≤ R.locals
      omega
    rcases zin_inr hz with ⟨i, rfl⟩ | ⟨i, rfl⟩ | ⟨i, rfl⟩ | rfl | rfl | rfl
    · simp only [zin, zinv] at hz
      split at hz
      · next z0 hv =>
        split at hz
        · next a ha =>
          split at hz
          · next hc =>
            obtain ⟨hl, hlen, hw8, hq⟩ := zcall_spec hz
            have hq := Sum.inl.inj hq
            have e1 : z = z0 := congrArg Prod.fst hq
            subst e1
            have e2 : as = (st.take (zna z + 1)).reverse := congrArg (fun x => x.2.1) hq
            have e3 : r = st.drop (zna z + 1) := congrArg (fun x => x.2.2) hq
            obtain ⟨pl, h3⟩ := key _ _ _ hv
            simp [zcM] at h3
            obtain ⟨⟨⟨⟨⟨f1, f2⟩, f3⟩, f4⟩, f5⟩, f6⟩ := h3
            obtain ⟨w1, w2, w3, w4, w5, w6, w7, w8⟩ := zcZ_of f1 f2
            rw [ztake ha] at e2
            have recv : ∃ cellB : Cell, H[zad E a]? = some cellB ∧ cellB.vm.isStatics = false ∧ s.vm.findClass (zmn z).cls = some cellB.cls := by
              have q := List.all_eq_true.mp zcR_ok z (List.mem_range.mpr f1)
              unfold zcR at q
              simp only [Bool.or_eq_true, Bool.and_eq_true, decide_eq_true_eq] at q
              rcases q with (q | ⟨q, q'⟩) | ⟨⟨q, q'⟩, q''⟩
              · rw [q] at hc
                exact absurd hc.2.1 (by decide)
              · have ha32 : a < 32 := hc.2.2 (by rw [q])
                have hS0 := hc.1
                rw [q, hI.2.2.2.1 a ha32] at hS0
                obtain ⟨⟨cell, c1, c2, c3, c4⟩, -, -⟩ := hT.2.2.2.2.2.2.1 a ha32 hS0
                have c1' : H[eA E a]? = some cell := by
                  rw [hS.1.2.1 (eA E a) (Array.getElem?_eq_some_iff.mp c1).1 c4]
                  exact c1
                refine ⟨cell, ?_, c2, by rw [q']; exact c3⟩
                unfold zad
                rw [if_pos ha32]
                exact c1'
              · have hci : (zrc z).1 - 10 < 9 := by omega
                have hS0 : zS h a = (10 + ((zrc z).1 - 10), zNf ((zrc z).1 - 10)) := by
                  rw [hc.1]
                  exact Prod.ext (by simp only; omega) (by simp only; exact q'')
                have h32 : 32 ≤ a := zown hI (by rw [hS0]; simp only; omega) (by rw [hS0]; simp only; omega) (by rw [hS0]; simp only; omega) (by rw [hS0]; simp only; omega)
                have he := zws_get (E := E) h32 (zalloc hI (a := a) (by rw [hS0]; simp only; omega))
                rw [zcell_o hS0] at he
                obtain ⟨rr, g1, cell, g2, g3, g4, -⟩ := hI.1 _ _ he
                have hKn := hT.1.1 _ _ (zcls9_get hci)
                refine ⟨cell, g2, by rw [g4]; rfl, ?_⟩
                rw [q', g3]
                exact hKn.2.1
            have stk : st.map (cv E) = (((st.take (zna z)).reverse).map (cv E)).reverse ++ .ref (zad E a) :: r.map (cv E) := by
              have t2 : st.take (zna z + 1) = st.take (zna z) ++ [vR (some a)] := by
                rw [List.take_add_one, ha]; rfl
              have t3 : st = st.take (zna z) ++ (vR (some a) :: st.drop (zna z + 1)) := by
                have t4 := (List.take_append_drop (zna z + 1) st).symm
                rw [t2, List.append_assoc] at t4
                exact t4
              rw [e3, List.map_reverse, List.reverse_reverse]
              have t5 := congrArg (List.map (cv E)) t3
              rw [List.map_append, List.map_cons] at t5
              exact t5
            refine zcallW (rest := r.map (cv E)) (va_runV (C := (zmn z).cls) (b := zad E a) (As := ((st.take (zna z)).reverse).map (cv E)) fixd hM (n := zna z) ⟨callB_of (zna z) hts (zwz_good f1) rfl rfl rfl (hts _ w1) (hts _ (zck_mem f4)) ⟨w2, w3, w4⟩ (room f1 f2), hts _ (zck_mem f5), hts _ (zck_mem f6)⟩ ⟨ZPc.blind, recv, fun U hU hW => hPc U hU hW _ (by rw [e2]; rfl)⟩ rfl (by simp; omega) hR.1 stk (by
              show 2 * 0 + _ ≤ 8
              rw [zwt_cat, e3]; omega) (hl ▸ hd) ⟨hr1, hr2⟩) hS.1 after
          · cases hz
        · cases hz
      · cases hz
    · simp only [zin] at hz
      have stat : ∀ kd z0 pl, zcM (o % 100) (i, kd, z0, pl) = true → (kd = 2 ∨ kd = 5) → zcall l (zna z0) z0 st = some (.inr (.inl (z, as, r))) → W p l0 e R s m args below meth c H locs cells slots Q (F0 m pc ls (st.map (cv E))) := by
        intro kd z0 pl h3 hkd hz
        obtain ⟨hl, hlen, hw8, hq⟩ := zcall_spec hz
        have hq := Sum.inl.inj hq
        have e1 : z = z0 := congrArg Prod.fst hq
        subst e1
        have e2 : as = (st.take (zna z)).reverse := congrArg (fun x => x.2.1) hq
        have e3 : r = st.drop (zna z) := congrArg (fun x => x.2.2) hq
        have stk : st.map (cv E) = (as.map (cv E)).reverse ++ r.map (cv E) := by
          rw [e2, e3, List.map_reverse, List.reverse_reverse, ← List.map_append, List.take_append_drop]
        rcases hkd with rfl | rfl
        · simp [zcM] at h3
          obtain ⟨⟨⟨⟨f1, f2⟩, f3⟩, f4⟩, f5⟩ := h3
          obtain ⟨w1, w2, w3, w4, w5, w6, w7, w8⟩ := zcZ_of f1 f2
          exact zcallW (rest := r.map (cv E)) (va_runS (As := as.map (cv E)) fixd hM (n := zna z) ⟨callB_of (zna z) hts (zwz_good f1) rfl rfl rfl (hts _ w1) (hts _ (zck_mem f4)) ⟨w2, w3, w4⟩ (room f1 f2), hts _ (zck_mem f5)⟩ ⟨ZPc.blind, fun U hU hW => hPc U hU hW _ rfl⟩ rfl (by rw [e2]; simp; omega) hR.1 stk (by
              show 2 * 0 + _ ≤ 8
              rw [zwt_cat, e3]; omega) (hl ▸ hd) ⟨hr1, hr2⟩) hS.1 after
        · simp [zcM] at h3
          obtain ⟨⟨⟨⟨f1, f2⟩, f3⟩, f4⟩, f5⟩ := h3
          obtain ⟨w1, w2, w3, w4, w5, w6, w7, w8⟩ := zcZ_of f1 f2
          exact zcallW (rest := r.map (cv E)) (va_runSN (As := as.map (cv E)) fixd hM (n := zna z) ⟨va_cnB (zna z) hts (zwz_good f1) rfl rfl rfl (hT.2.2.1 _ (zckN_mem f4)) (hts _ w1) ⟨w2, w3, w4⟩ (room f1 f2), hts _ (zck_mem f5), trivial⟩ ⟨ZPc.blind, fun U hU hW => hPc U hU hW _ rfl⟩ rfl (by rw [e2]; simp; omega) hR.1 stk (by
              show 2 * 0 + _ ≤ 8
              rw [zwt_cat, e3]; omega) (hl ▸ hd) ⟨hr1, hr2⟩) hS.1 after
      split at hz
      · unfold zcpy at hz
        split at hz
        · split at hz
          · exact (zno hz).elim
          · cases hz
        · cases hz
      · unfold zmm at hz
        split at hz
        · split at hz
          · exact (zno hz).elim
          · cases hz
        · cases hz
      · unfold zmm at hz
        split at hz
        · split at hz
          · exact (zno hz).elim
          · cases hz
        · cases hz
      · unfold zmab at hz
        split at hz
        · split at hz
          · exact (zno hz).elim
          · cases hz
        · cases hz
      · unfold zmfm at hz
        split at hz
        · split at hz
          · exact (zno hz).elim
          · cases hz
        · cases hz
      · unfold zinvS at hz
        split at hz
        · next z0 hv =>
          obtain ⟨pl, h3⟩ := key _ _ _ hv
          exact stat 2 z0 pl h3 (Or.inl rfl) hz
        · next z0 hv =>
          obtain ⟨pl, h3⟩ := key _ _ _ hv
          exact stat 5 z0 pl h3 (Or.inr rfl) hz
        · cases hz
    · simp only [zin, zinvI] at hz
      split at hz
      · unfold zoinit at hz
        split at hz
        · split at hz
          · exact (zno hz).elim
          · cases hz
        · cases hz
      · next kd z0 hnot hv =>
        split at hz
        · next hkd =>
          split at hz
          · next a ha =>
            obtain ⟨hl, hlen, hw8, hq⟩ := zcall_spec hz
            have hq := Sum.inl.inj hq
            have e1 : z = z0 := congrArg Prod.fst hq
            subst e1
            have e2 : as = (st.take (zna z + 1)).reverse := congrArg (fun x => x.2.1) hq
            have e3 : r = st.drop (zna z + 1) := congrArg (fun x => x.2.2) hq
            obtain ⟨pl, h3⟩ := key _ _ _ hv
            rw [ztake ha] at e2
            have stk : st.map (cv E) = (((st.take (zna z)).reverse).map (cv E)).reverse ++ .ref (zad E a) :: r.map (cv E) := by
              have t2 : st.take (zna z + 1) = st.take (zna z) ++ [vR (some a)] := by
                rw [List.take_add_one, ha]; rfl
              have t3 : st = st.take (zna z) ++ (vR (some a) :: st.drop (zna z + 1)) := by
                have t4 := (List.take_append_drop (zna z + 1) st).symm
                rw [t2, List.append_assoc] at t4
                exact t4
              rw [e3, List.map_reverse, List.reverse_reverse]
              have t5 := congrArg (List.map (cv E)) t3
              rw [List.map_append, List.map_cons] at t5
              exact t5
            rcases hkd with rfl | rfl
            · simp [zcM] at h3
              obtain ⟨⟨⟨⟨⟨⟨f1, f2⟩, f3⟩, f4⟩, f5⟩, f6⟩, f7⟩ := h3
              obtain ⟨w1, w2, w3, w4, w5, w6, w7, w8⟩ := zcZ_of f1 f2
              have hwz : zwz z = Cond.code (zmn z) (zb z) (zml z) none :: zTG := by unfold zwz; rw [f7]; rfl
              exact zcallW (rest := r.map (cv E)) (va_runI (b := zad E a) (As := ((st.take (zna z)).reverse).map (cv E)) fixd hM (n := zna z) ⟨callB_of (zna z) hts (zwz_good f1) hwz rfl rfl (hts _ w1) (hts _ (zck_mem f4)) ⟨w2, w3, w4⟩ (room f1 f2), f6, hts _ (zck_mem f5)⟩ ⟨ZPc.blind, fun U hU hW => hPc U hU hW _ (by rw [e2]; rfl)⟩ rfl (by simp; omega) hR.1 stk (by
                show 2 * 0 + _ ≤ 8
                rw [zwt_cat, e3]; omega) (hl ▸ hd) ⟨hr1, hr2⟩) hS.1 after
            · simp [zcM] at h3
              obtain ⟨⟨⟨⟨⟨⟨f1, f2⟩, f3⟩, f4⟩, f5⟩, f6⟩, f7⟩ := h3
              obtain ⟨w1, w2, w3, w4, w5, w6, w7, w8⟩ := zcZ_of f1 f2
              have hwz : zwz z = Cond.code (zmn z) (zb z) (zml z) none :: zTG := by unfold zwz; rw [f7]; rfl
              exact zcallW (rest := r.map (cv E)) (va_runIN (b := zad E a) (As := ((st.take (zna z)).reverse).map (cv E)) fixd hM (n := zna z) ⟨va_cnB (zna z) hts (zwz_good f1) hwz rfl rfl (hT.2.2.1 _ (zckN_mem f4)) (hts _ w1) ⟨w2, w3, w4⟩ (room f1 f2), f6, hts _ (zck_mem f5)⟩ ⟨ZPc.blind, fun U hU hW => hPc U hU hW _ (by rw [e2]; rfl)⟩ rfl (by simp; omega) hR.1 stk (by
                show 2 * 0 + _ ≤ 8
                rw [zwt_cat, e3]; omega) (hl ▸ hd) ⟨hr1, hr2⟩) hS.1 after
          · cases hz
        · cases hz
      · cases hz
    · simp only [zin] at hz
      split at hz
      · unfold zret at hz
        split at hz <;> cases hz
      · cases hz
    · simp only [zin] at hz
      split at hz
      · unfold zret at hz
        split at hz <;> cases hz
      · cases hz
    · simp only [zin] at hz
      split at hz
      · unfold zret at hz
        split at hz <;> cases hz
      · cases hz
  · cases hz
end ZPY
