/-! SOUNDNESS 7: arrays -/
section ZPA
variable {p : Program} {l0 : Launch} {e : Env} {R : Room} {s : State} {m : MethodId} {args : Array Value} {below : List Frame} {meth : Method} {c : Code} {Q : State → Prop} {E : ZE} {cc : ByteArray} {o pc nL d l cells slots : Nat} {L : LL} {st : List AV} {h : Hp} {pc' : Nat} {L' : LL} {st' : List AV} {h' : Hp} {H : Heap}
theorem zown (hI : ZI E H h) {a : Nat} (h1 : (zS h a).1 ≠ 0) (h2 : (zS h a).1 ≠ 1) (h3 : (zS h a).1 ≠ 4) (h4 : (zS h a).1 ≠ 20) : 32 ≤ a := by
  apply Nat.le_of_not_lt
  intro hlt
  have q := zbS_kind (eL E) a hlt
  rw [← hI.2.2.2.1 a hlt] at q
  omega
theorem zs_iaload (X : ZX E p R s m args meth c cc o nL d) (hH : okH h) (hL : okL L) (hok : okst st) (hd : decode cc pc = .ok (.iaload, l)) (hz : zin d o pc l L st h .iaload = some (.inl (pc', L', st', h'))) : ZOk E p l0 e R s m args below meth c nL Q cells slots pc L st h pc' L' st' h' := by
  obtain ⟨hx, hb, hml, hown, hts, hT, hini, hfr, hlo⟩ := X
  simp only [zin, zald] at hz
  split at hz
  · next i a r =>
    split at hz
    · next hc =>
      obtain ⟨hl, hk, h0, h1⟩ := hc
      unfold zn at hz; cases hz
      obtain ⟨hi, hr⟩ := okst_c hok
      refine ⟨rfl, hL, okst_m (hH a _) (okst_c hr).2, fun z H locs ls hI hS hR => ?_⟩
      have k1 := z H locs ls hI hS hR
      show W p l0 e R s m args below meth c H locs cells slots Q (F0 m pc ls (.int (zi i) :: cv E (vR (some a)) :: r.map (cv E)))
      by_cases ha : a < 32
      · have ea : cv E (vR (some a)) = .ref (eA E a) := by simp [cv, zad, ha]
        have hb1 : zbS (eL E) a = (1, (zS h a).2) := by rw [← hI.2.2.2.1 a ha]; exact Prod.ext hk rfl
        obtain ⟨-, hZ⟩ := hT.2.2.2.2.1 a _ ha hb1
        rw [ea]
        refine va_ti hx hb hZ hS.1 (zi_in hi h0 h1) (v := .int (zi (zV h a i.toNat))) ?_ (hl ▸ hd) k1
        simp only [zi_clamp hi]
        rw [hI.2.2.2.2.1 a _ ha]
      · have h32 : 32 ≤ a := by omega
        have he := zws_get (E := E) h32 (zalloc hI (a := a) (by omega))
        rw [zcell_1 hk] at he
        exact va_iald hx hb hT.1 hI.1 (a - 32) 0 he rfl (zi_in hi h0 h1) (hl ▸ hd) (by rw [zi_clamp hi]; exact k1)
    · cases hz
  · cases hz
theorem zs_baload (X : ZX E p R s m args meth c cc o nL d) (hH : okH h) (hL : okL L) (hok : okst st) (hd : decode cc pc = .ok (.baload, l)) (hz : zin d o pc l L st h .baload = some (.inl (pc', L', st', h'))) : ZOk E p l0 e R s m args below meth c nL Q cells slots pc L st h pc' L' st' h' := by
  obtain ⟨hx, hb, hml, hown, hts, hT, hini, hfr, hlo⟩ := X
  simp only [zin] at hz
  split at hz
  · next i a r =>
    obtain ⟨hi, hr⟩ := okst_c hok
    split at hz
    · next h4 =>
      split at hz
      · next ha =>
        simp only [zald] at hz
        split at hz
        · next hc =>
          obtain ⟨hl, -, h0, h1⟩ := hc
          unfold zn at hz; cases hz
          refine ⟨rfl, hL, okst_m (hH a _) (okst_c hr).2, fun z H locs ls hI hS hR => ?_⟩
          have k1 := z H locs ls hI hS hR
          show W p l0 e R s m args below meth c H locs cells slots Q (F0 m pc ls (.int (zi i) :: cv E (vR (some a)) :: r.map (cv E)))
          have ea : cv E (vR (some a)) = .ref (eA E a) := by simp [cv, zad, ha]
          have hb1 : zbS (eL E) a = (4, (zS h a).2) := by rw [← hI.2.2.2.1 a ha]; exact Prod.ext h4 rfl
          obtain ⟨-, hZ⟩ := hT.2.2.2.2.2.1 a _ ha hb1
          rw [ea]
          refine va_tb hx hb hZ hS.1 (zi_in hi h0 h1) (v := .int (zi (zV h a i.toNat))) ?_ (hl ▸ hd) k1
          simp only [zi_clamp hi]
          rw [hI.2.2.2.2.1 a _ ha]
        · cases hz
      · cases hz
    · next h4 =>
      simp only [zald] at hz
      split at hz
      · next hc =>
        obtain ⟨hl, hk, h0, h1⟩ := hc
        unfold zn at hz; cases hz
        refine ⟨rfl, hL, okst_m (hH a _) (okst_c hr).2, fun z H locs ls hI hS hR => ?_⟩
        have k1 := z H locs ls hI hS hR
        have h32 : 32 ≤ a := zown hI (by omega) (by omega) (by omega) (by omega)
        have he := zws_get (E := E) h32 (zalloc hI (a := a) (by omega))
        rw [zcell_2 hk] at he
        exact va_zald hx hb hT.1 hI.1 (a - 32) 1 he rfl (zi_in hi h0 h1) (hl ▸ hd) (by rw [zi_clamp hi]; exact k1)
      · cases hz
  · cases hz
theorem zs_laload (X : ZX E p R s m args meth c cc o nL d) (hH : okH h) (hL : okL L) (hok : okst st) (hd : decode cc pc = .ok (.laload, l)) (hz : zin d o pc l L st h .laload = some (.inl (pc', L', st', h'))) : ZOk E p l0 e R s m args below meth c nL Q cells slots pc L st h pc' L' st' h' := by
  obtain ⟨hx, hb, hml, hown, hts, hT, hini, hfr, hlo⟩ := X
  simp only [zin, zald] at hz
  split at hz
  · next i a r =>
    split at hz
    · next hc =>
      obtain ⟨hl, hk, h0, h1⟩ := hc
      unfold zn at hz; cases hz
      obtain ⟨hi, hr⟩ := okst_c hok
      refine ⟨rfl, hL, okst_m trivial (okst_c hr).2, fun z H locs ls hI hS hR => ?_⟩
      have k1 := z H locs ls hI hS hR
      have h32 : 32 ≤ a := zown hI (by omega) (by omega) (by omega) (by omega)
      have he := zws_get (E := E) h32 (zalloc hI (a := a) (by omega))
      rw [zcell_3 hk] at he
      exact va_lald hx hb hT.1 hI.1 (a - 32) 2 he rfl (zi_in hi h0 h1) (hl ▸ hd) (by rw [zi_clamp hi]; exact k1)
    · cases hz
  · cases hz
theorem zs_aaload (X : ZX E p R s m args meth c cc o nL d) (hH : okH h) (hL : okL L) (hok : okst st) (hd : decode cc pc = .ok (.aaload, l)) (hz : zin d o pc l L st h .aaload = some (.inl (pc', L', st', h'))) : ZOk E p l0 e R s m args below meth c nL Q cells slots pc L st h pc' L' st' h' := by
  obtain ⟨hx, hb, hml, hown, hts, hT, hini, hfr, hlo⟩ := X
  simp only [zin] at hz
  split at hz
  · next i a r =>
    obtain ⟨hi, hr⟩ := okst_c hok
    split at hz
    · next h6 =>
      simp only [zald] at hz
      split at hz
      · next hc =>
        obtain ⟨hl, hk, h0, h1⟩ := hc
        unfold zn at hz; cases hz
        refine ⟨rfl, hL, okst_m trivial (okst_c hr).2, fun z H locs ls hI hS hR => ?_⟩
        have k1 := z H locs ls hI hS hR
        have e1 : cv E (vR (zP h a i.toNat)) = va_rf ((zP h a i.toNat).map (zad E)) := by
          cases zP h a i.toNat <;> rfl
        have k2 : W p l0 e R s m args below meth c H locs cells slots Q (F0 m (pc + 1) ls (cv E (vR (zP h a i.toNat)) :: r.map (cv E))) := k1
        rw [e1] at k2
        have h32 : 32 ≤ a := zown hI (by omega) (by omega) (by omega) (by omega)
        have he := zws_get (E := E) h32 (zalloc hI (a := a) (by omega))
        rw [zcell_6 hk] at he
        exact va_aldq hx hb hT.1 hI.1 (a - 32) 4 he rfl (zi_in hi h0 h1) (hl ▸ hd) (by rw [zi_clamp hi]; exact k2)
      · cases hz
    · next h6 =>
      simp only [zald] at hz
      split at hz
      · next hc =>
        obtain ⟨hl, hk, h0, h1⟩ := hc
        unfold zn at hz; cases hz
        refine ⟨rfl, hL, okst_m trivial (okst_c hr).2, fun z H locs ls hI hS hR => ?_⟩
        have k1 := z H locs ls hI hS hR
        have e1 : cv E (vR (zP h a i.toNat)) = va_rf ((zP h a i.toNat).map (zad E)) := by
          cases zP h a i.toNat <;> rfl
        have k2 : W p l0 e R s m args below meth c H locs cells slots Q (F0 m (pc + 1) ls (cv E (vR (zP h a i.toNat)) :: r.map (cv E))) := k1
        rw [e1] at k2
        have h32 : 32 ≤ a := zown hI (by omega) (by omega) (by omega) (by omega)
        have he := zws_get (E := E) h32 (zalloc hI (a := a) (by omega))
        rw [zcell_5 hk] at he
        exact va_aldq hx hb hT.1 hI.1 (a - 32) 3 he rfl (zi_in hi h0 h1) (hl ▸ hd) (by rw [zi_clamp hi]; exact k2)
      · cases hz
  · cases hz
theorem zs_arraylength (X : ZX E p R s m args meth c cc o nL d) (hL : okL L) (hok : okst st) (hd : decode cc pc = .ok (.arraylength, l)) (hz : zin d o pc l L st h .arraylength = some (.inl (pc', L', st', h'))) : ZOk E p l0 e R s m args below meth c nL Q cells slots pc L st h pc' L' st' h' := by
  obtain ⟨hx, hb, hml, hown, hts, hT, hini, hfr, hlo⟩ := X
  simp only [zin, zalen] at hz
  split at hz
  · next a r =>
    split at hz
    · next hc =>
      obtain ⟨hl, hk1, hk6, hlt, hk4⟩ := hc
      unfold zn at hz; cases hz
      refine ⟨rfl, hL, okst_m (show zr _ by unfold zr; omega) (okst_c hok).2, fun z H locs ls hI hS hR => ?_⟩
      have k1 := z H locs ls hI hS hR
      show W p l0 e R s m args below meth c H locs cells slots Q (F0 m pc ls (cv E (vR (some a)) :: r.map (cv E)))
      have hv : Int32.ofNat (zS h a).2 = zi ((zS h a).2 : Int) := (zi_nat _).symm
      by_cases ha : a < 32
      · have ea : cv E (vR (some a)) = .ref (eA E a) := by simp [cv, zad, ha]
        rw [ea]
        have q := zbS_kind (eL E) a ha
        rw [← hI.2.2.2.1 a ha] at q
        rcases q with q | q | q | q
        · omega
        · have hb1 : zbS (eL E) a = (1, (zS h a).2) := by rw [← hI.2.2.2.1 a ha]; exact Prod.ext q rfl
          obtain ⟨-, hZ⟩ := hT.2.2.2.2.1 a _ ha hb1
          exact va_tlen hx hb hZ hS.1 hv (hl ▸ hd) k1
        · have hb1 : zbS (eL E) a = (4, (zS h a).2) := by rw [← hI.2.2.2.1 a ha]; exact Prod.ext q rfl
          obtain ⟨-, hZ⟩ := hT.2.2.2.2.2.1 a _ ha hb1
          exact va_tlen hx hb hZ hS.1 hv (hl ▸ hd) k1
        · omega
      · have h32 : 32 ≤ a := by omega
        have he := zws_get (E := E) h32 (zalloc hI (a := a) (by omega))
        by_cases q1 : (zS h a).1 = 1
        · rw [zcell_1 q1] at he
          exact va_alen hx hb hT.1 hI.1 (a - 32) 0 he rfl hv (hl ▸ hd) k1
        by_cases q2 : (zS h a).1 = 2
        · rw [zcell_2 q2] at he
          exact va_alen hx hb hT.1 hI.1 (a - 32) 1 he rfl hv (hl ▸ hd) k1
        by_cases q3 : (zS h a).1 = 3
        · rw [zcell_3 q3] at he
          exact va_alen hx hb hT.1 hI.1 (a - 32) 2 he rfl hv (hl ▸ hd) k1
        by_cases q5 : (zS h a).1 = 5
        · rw [zcell_5 q5] at he
          exact va_alen hx hb hT.1 hI.1 (a - 32) 3 he rfl hv (hl ▸ hd) k1
        by_cases q6 : (zS h a).1 = 6
        · rw [zcell_6 q6] at he
          exact va_alen hx hb hT.1 hI.1 (a - 32) 4 he rfl hv (hl ▸ hd) k1
        exact absurd (hk4 (by omega)) ha
    · cases hz
  · cases hz
end ZPA
