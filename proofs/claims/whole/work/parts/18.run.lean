/-! SOUNDNESS 15: THE THEOREM: what the abstract machine answers, the machine does -/
theorem zact_ok {d : Nat} {cc : ByteArray} {o pc : Nat} {L : LL} {st : List AV} {h : Hp} {pc' : Nat} {L' : LL} {st' : List AV} {h' : Hp} (hH : okH h) (hL : okL L) (hok : okst st) (hz : zact d cc o pc L st h = some (.inl (pc', L', st', h'))) : ZK h h' L' st' := by
  unfold zact at hz
  split at hz
  · exact zin_ok hH hL hok hz
  · cases hz
theorem zcall_ok {d : Nat} {cc : ByteArray} {o pc : Nat} {L : LL} {st : List AV} {h : Hp} {z : Nat} {as r : List AV} (hok : okst st) (hz : zact d cc o pc L st h = some (.inr (.inl (z, as, r)))) : z < 219 ∧ z ≠ 1 ∧ _root_.Jvm.plainName (zmn z).cls = true ∧ okst as ∧ okst r := by
  have key : ∀ i kd z, zmth o i = some (kd, z) → ∃ pl, zcM (o % 100) (i, kd, z, pl) = true := by
    intro i kd z hv
    unfold zmth at hv
    obtain ⟨⟨kd', z', pl⟩, h1, h2⟩ := zfind (f := fun a : Nat × Nat × Nat => (a.1, a.2.1)) hv
    have e1 : kd = kd' := (congrArg Prod.fst h2).symm
    have e2 : z = z' := (congrArg Prod.snd h2).symm
    subst e1; subst e2
    exact ⟨pl, zall_of zcM_ok h1⟩
  have fin : ∀ l na z0, zcall l na z0 st = some (.inr (.inl (z, as, r))) → z = z0 ∧ okst as ∧ okst r := by
    intro l na z0 hz
    obtain ⟨-, -, -, hq⟩ := zcall_spec hz
    have hq := Sum.inl.inj hq
    have e2 : as = (st.take na).reverse := congrArg (fun x => x.2.1) hq
    have e3 : r = st.drop na := congrArg (fun x => x.2.2) hq
    refine ⟨congrArg Prod.fst hq, fun v hv => ?_, fun v hv => ?_⟩
    · rw [e2] at hv
      exact hok v (List.mem_of_mem_take (List.mem_reverse.mp hv))
    · rw [e3] at hv
      exact hok v (List.mem_of_mem_drop hv)
  unfold zact at hz
  split at hz
  · next i l hd =>
    rcases zin_inr hz with ⟨i, rfl⟩ | ⟨i, rfl⟩ | ⟨i, rfl⟩ | rfl | rfl | rfl
    · simp only [zin, zinv] at hz
      split at hz
      · next z0 hv =>
        split at hz
        · split at hz
          · obtain ⟨e1, q1, q2⟩ := fin _ _ _ hz
            subst e1
            obtain ⟨pl, h3⟩ := key _ _ _ hv
            simp [zcM] at h3
            exact ⟨h3.1.1.1.1.1, h3.1.1.1.1.2, h3.1.1.1.2, q1, q2⟩
          · cases hz
        · cases hz
      · cases hz
    · simp only [zin] at hz
      split at hz
      · unfold zcpy at hz
        split at hz
        · split at hz
          · exact (zno hz).elim
          · cases hz
        · cases hz
      · unfold zmm at hz
        split at hz
        · split at hz
          · exact (zno hz).elim
          · cases hz
        · cases hz
      · unfold zmm at hz
        split at hz
        · split at hz
          · exact (zno hz).elim
          · cases hz
        · cases hz
      · unfold zmab at hz
        split at hz
        · split at hz
          · exact (zno hz).elim
          · cases hz
        · cases hz
      · unfold zmfm at hz
        split at hz
        · split at hz
          · exact (zno hz).elim
          · cases hz
        · cases hz
      · unfold zinvS at hz
        split at hz
        · next z0 hv =>
          obtain ⟨e1, q1, q2⟩ := fin _ _ _ hz
          subst e1
          obtain ⟨pl, h3⟩ := key _ _ _ hv
          simp [zcM] at h3
          exact ⟨h3.1.1.1.1, h3.1.1.1.2, h3.1.1.2, q1, q2⟩
        · next z0 hv =>
          obtain ⟨e1, q1, q2⟩ := fin _ _ _ hz
          subst e1
          obtain ⟨pl, h3⟩ := key _ _ _ hv
          simp [zcM] at h3
          exact ⟨h3.1.1.1.1, h3.1.1.1.2, h3.1.1.2, q1, q2⟩
        · cases hz
    · simp only [zin, zinvI] at hz
      split at hz
      · unfold zoinit at hz
        split at hz
        · split at hz
          · exact (zno hz).elim
          · cases hz
        · cases hz
      · next kd z0 hnot hv =>
        split at hz
        · next hkd =>
          split at hz
          · obtain ⟨e1, q1, q2⟩ := fin _ _ _ hz
            subst e1
            obtain ⟨pl, h3⟩ := key _ _ _ hv
            rcases hkd with rfl | rfl
            · simp [zcM] at h3
              exact ⟨h3.1.1.1.1.1.1, h3.1.1.1.1.1.2, h3.1.1.1.1.2, q1, q2⟩
            · simp [zcM] at h3
              exact ⟨h3.1.1.1.1.1.1, h3.1.1.1.1.1.2, h3.1.1.1.1.2, q1, q2⟩
          · cases hz
        · cases hz
      · cases hz
    · simp only [zin] at hz
      split at hz
      · unfold zret at hz
        split at hz <;> cases hz
      · cases hz
    · simp only [zin] at hz
      split at hz
      · unfold zret at hz
        split at hz <;> cases hz
      · cases hz
    · simp only [zin] at hz
      split at hz
      · unfold zret at hz
        split at hz <;> cases hz
      · cases hz
  · cases hz
theorem zrun_succ (n : Nat) : zrun (n + 1) = zstep (zrun n) := rfl
/-- a run keeps order -/
theorem zrun_ok : ∀ (n d : Nat) (cc : ByteArray) (o pc : Nat) (L : LL) (st : List AV) (h : Hp) (v : Option AV) (h' : Hp), zrun n d cc o pc L st h = some (v, h') → okH h → okL L → okst st → zN h ≤ zN h' ∧ zM h ≤ zM h' ∧ okH h' ∧ okst v.toList := by
  intro n
  induction n with
  | zero => intro d cc o pc L st h v h' hr; cases hr
  | succ n ih =>
    intro d cc o pc L st h v h' hr hH hL hok
    rw [zrun_succ] at hr
    unfold zstep at hr
    split at hr
    · cases hr
    · next pc1 L1 st1 h1 hz =>
      obtain ⟨a1, a2, a3, a4, a5⟩ := zact_ok hH hL hok hz
      obtain ⟨b1, b2, b3, b4⟩ := ih d cc o pc1 L1 st1 h1 v h' hr a3 a4 a5
      exact ⟨Nat.le_trans a1 b1, Nat.le_trans a2 b2, b3, b4⟩
    · next z as r hz =>
      obtain ⟨-, -, -, ha, hr'⟩ := zcall_ok hok hz
      split at hr
      · cases hr
      · split at hr
        · split at hr
          · next d' hlen v1 h1 hr1 =>
            split at hr
            · obtain ⟨a1, a2, a3, a4⟩ := ih _ _ _ _ _ _ _ _ _ hr1 hH (okL.entry ha) (fun _ q => by cases q)
              obtain ⟨b1, b2, b3, b4⟩ := ih _ _ _ _ _ _ _ _ _ hr a3 hL (fun w hw => by
                rcases List.mem_append.mp hw with hw | hw
                · exact a4 w hw
                · exact hr' w hw)
              exact ⟨Nat.le_trans a1 b1, Nat.le_trans a2 b2, b3, b4⟩
            · cases hr
          · cases hr
        · cases hr
    · next v1 hz =>
      cases hr
      exact ⟨Nat.le_refl _, Nat.le_refl _, hH, by rw [← (zs_ret hz).1]; exact hok⟩
