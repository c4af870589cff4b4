/-! SOUNDNESS 14: what a step leaves in order, without a machine -/
section ZPO
variable {cc : ByteArray} {d o pc l : Nat} {L : LL} {st : List AV} {h : Hp} {pc' : Nat} {L' : LL} {st' : List AV} {h' : Hp}
def ZK (h : Hp) (h' : Hp) (L' : LL) (st' : List AV) : Prop := zN h ≤ zN h' ∧ zM h ≤ zM h' ∧ okH h' ∧ okL L' ∧ okst st'
theorem zok_cp {a sp b dp n : Nat} (hH : okH h) : okH (zcpV h a sp b dp n) := by
  intro x y
  show zr (if x = b ∧ dp ≤ y ∧ y < dp + n then zV h a (sp + (y - dp)) else zV h x y)
  split
  · exact hH _ _
  · exact hH _ _
theorem zstat_ok {k : Nat} {v : AV} (hv : zstat o k = some v) : okv v := by
  unfold zstat at hv
  obtain ⟨⟨j, nst, pl⟩, h1, h2⟩ := zfind (f := fun a : Nat × Bool × Nat => (zstats.getD a.1 ("", "", "", vI 0)).2.2.2) hv
  have h3 := zall_of zcS_ok h1
  unfold zcS at h3
  simp only [Bool.and_eq_true, decide_eq_true_eq] at h3
  have hv : (zstq j).2.2.2 = v := h2
  rw [← hv]
  exact zstq_ok _ (zstq_mem h3.1)
theorem zldc_ok {k : Nat} {v : AV} (hv : zldc o k = some v) : okv v := by
  unfold zldc at hv
  obtain ⟨⟨w, pl⟩, h1, h2⟩ := zfind (f := fun a : AV × Nat => a.1) hv
  subst h2
  have h3 := zall_of zcL_ok h1
  unfold zcL at h3
  rcases w with x | x | x
  · simp only [Bool.and_eq_true, decide_eq_true_eq] at h3
    exact h3.1
  · exact trivial
  · exact trivial
theorem zin_ok {i : Instr} (hH : okH h) (hL : okL L) (hok : okst st) (hz : zin d o pc l L st h i = some (.inl (pc', L', st', h'))) : ZK h h' L' st' := by
  unfold ZK
  cases i
  case ldc k =>
    simp only [zin, zco] at hz
    split at hz
    · next v hv =>
      unfold zc1 zn at hz
      split at hz
      · cases hz
        exact ⟨Nat.le_refl _, Nat.le_refl _, hH, hL, okst_m (zldc_ok hv) hok⟩
      · cases hz
    · cases hz
  case ldc_w k =>
    simp only [zin] at hz
    split at hz
    · next v hv =>
      unfold zc1 zn at hz
      split at hz
      · cases hz
        exact ⟨Nat.le_refl _, Nat.le_refl _, hH, hL, okst_m (zldc_ok hv) hok⟩
      · cases hz
    · cases hz
  case ldc2_w k =>
    simp only [zin, zco] at hz
    split at hz
    · next v hv =>
      unfold zc1 zn at hz
      split at hz
      · cases hz
        cases hw : zldc2 o k with
        | none => rw [hw] at hv; cases hv
        | some x => rw [hw] at hv; cases hv; exact ⟨Nat.le_refl _, Nat.le_refl _, hH, hL, okst_m trivial hok⟩
      · cases hz
    · cases hz
  case getstatic k =>
    simp only [zin, zco] at hz
    split at hz
    · next w hw =>
      cases hv : zstat o k with
      | none => rw [hv] at hw; cases hw
      | some v =>
        rw [hv] at hw
        cases hw
        unfold zc1 zn at hz
        split at hz
        · cases hz
          exact ⟨Nat.le_refl _, Nat.le_refl _, hH, hL, okst_m (zstv_ok (zstat_ok hv)) hok⟩
        · cases hz
    · cases hz
  case aload_n k =>
    simp only [zin, zld] at hz
    split at hz
    · split at hz
      · next v hv => unfold zn at hz; cases hz; exact ⟨Nat.le_refl _, Nat.le_refl _, hH, hL, okst_m (hL _ v (zget_some hv).1) hok⟩
      · cases hz
    · cases hz
  case iload_n k =>
    simp only [zin, zld] at hz
    split at hz
    · split at hz
      · next v hv => unfold zn at hz; cases hz; exact ⟨Nat.le_refl _, Nat.le_refl _, hH, hL, okst_m (hL _ v (zget_some hv).1) hok⟩
      · cases hz
    · cases hz
  case lload_n k =>
    simp only [zin, zld] at hz
    split at hz
    · split at hz
      · next v hv => unfold zn at hz; cases hz; exact ⟨Nat.le_refl _, Nat.le_refl _, hH, hL, okst_m (hL _ v (zget_some hv).1) hok⟩
      · cases hz
    · cases hz
  case aload k =>
    simp only [zin, zld] at hz
    split at hz
    · split at hz
      · next v hv => unfold zn at hz; cases hz; exact ⟨Nat.le_refl _, Nat.le_refl _, hH, hL, okst_m (hL _ v (zget_some hv).1) hok⟩
      · cases hz
    · cases hz
  case iload k =>
    simp only [zin, zld] at hz
    split at hz
    · split at hz
      · next v hv => unfold zn at hz; cases hz; exact ⟨Nat.le_refl _, Nat.le_refl _, hH, hL, okst_m (hL _ v (zget_some hv).1) hok⟩
      · cases hz
    · cases hz
  case lload k =>
    simp only [zin, zld] at hz
    split at hz
    · split at hz
      · next v hv => unfold zn at hz; cases hz; exact ⟨Nat.le_refl _, Nat.le_refl _, hH, hL, okst_m (hL _ v (zget_some hv).1) hok⟩
      · cases hz
    · cases hz
  all_goals
    simp only [zin, zsto, zsto2, zc1, zi2, zi2d, zi1, zj1, zj2, zj2d, zji, zjmp, zgetf, zputf, zald, ziast, zbast, zlast, zaast, zalen, znew, znewa, zinv, zinvS, zinvI, zcall, zoinit, zcpy, zmm, zmab, zmfm, zret] at hz
    repeat' split at hz
  all_goals (first | (cases hz; done) | skip)
  all_goals (unfold zn at hz; cases hz)
  all_goals refine ⟨?_, ?_, ?_, ?_, ?_⟩
  all_goals (first
    | exact Nat.le_refl _
    | exact Nat.le_succ _
    | exact Nat.le_add_right _ _
    | exact hH
    | exact hL
    | exact hok
    | exact hH.mk
    | exact hH.setV (okst_c hok).1
    | exact zok_cp hH
    | exact (okst_c hok).2
    | exact (okst_c (okst_c hok).2).2
    | exact (okst_c (okst_c (okst_c hok).2).2).2
    | exact (okst_c (okst_c (okst_c (okst_c (okst_c hok).2).2).2).2).2
    | exact hL.set (okst_c hok).1
    | exact (hL.set (okst_c hok).1).setN
    | exact hL.set (zr_zw _)
    | exact okst_m (zr_zw _) hok
    | exact okst_m (zr_toInt _) hok
    | exact okst_m trivial hok
    | exact okst_m trivial (okst_c hok).2
    | exact okst_m (zr_zw _) (okst_c hok).2
    | exact okst_m (zr_toInt _) (okst_c hok).2
    | exact okst_m trivial (okst_c (okst_c hok).2).2
    | exact okst_m (zr_zw _) (okst_c (okst_c hok).2).2
    | exact okst_m (zr_toInt _) (okst_c (okst_c hok).2).2
    | exact okst_m (hH _ _) (okst_c (okst_c hok).2).2
    | exact okst_m (okv_zfv hH) (okst_c hok).2
    | exact okst_m (okst_c hok).1 hok
    | exact okst_m (okst_c hok).1 (okst_m (okst_c (okst_c hok).2).1 (okst_m (okst_c hok).1 (okst_c (okst_c hok).2).2))
    | exact okst_m (okst_c hok).1 (okst_m (okst_c (okst_c hok).2).1 hok)
    | exact okst_m (okst_c hok).1 (okst_c (okst_c hok).2).2
    | exact okst_m (okst_c (okst_c hok).2).1 (okst_c (okst_c hok).2).2
    | exact okst_m (show zr _ by unfold zr; omega) (okst_c hok).2
    | (rename_i heq hcond
       rw [heq] at hok
       first
         | exact okst_m trivial (okst_c (okst_c hok).2).2
         | exact okst_m (hH _ _) (okst_c (okst_c hok).2).2))
end ZPO
