/-! RUNS AS RULES: ZW: from here on the run ends so that Q -/
def ZW (d : Nat) (cc : ByteArray) (o pc : Nat) (L : LL) (st : List AV) (h : Hp) (Q : Option AV → Hp → Prop) : Prop := ∃ (n : Nat) (v : Option AV) (h' : Hp), zrun n d cc o pc L st h = some (v, h') ∧ Q v h'
def ZM (d z : Nat) (as : List AV) (h : Hp) (K : Option AV → Hp → Prop) : Prop := (zenl as).length ≤ zml z ∧ ZW d (zb z) (zo z) 0 (zent (zml z) as) [] h (fun v h' => zretok (zrt z) v = true ∧ K v h')
theorem zstep_mono {f g : ZF} (hfg : ∀ d cc o pc L st h r, f d cc o pc L st h = some r → g d cc o pc L st h = some r) {d : Nat} {cc : ByteArray} {o pc : Nat} {L : LL} {st : List AV} {h : Hp} {r : Option AV × Hp} (hr : zstep f d cc o pc L st h = some r) : zstep g d cc o pc L st h = some r := by
  unfold zstep at hr ⊢
  split at hr
  · cases hr
  · exact hfg _ _ _ _ _ _ _ _ hr
  · split at hr
    · cases hr
    · split at hr
      · next hlen =>
        simp only [hlen, if_true]
        split at hr
        · next hc =>
          rw [hfg _ _ _ _ _ _ _ _ hc]
          simp only
          split at hr
          · next hret =>
            rw [if_pos hret]
            exact hfg _ _ _ _ _ _ _ _ hr
          · cases hr
        · cases hr
      · cases hr
  · exact hr
theorem zrun_mono : ∀ (n : Nat) {d : Nat} {cc : ByteArray} {o pc : Nat} {L : LL} {st : List AV} {h : Hp} {r : Option AV × Hp}, zrun n d cc o pc L st h = some r → zrun (n + 1) d cc o pc L st h = some r := by
  intro n
  induction n with
  | zero => intro d cc o pc L st h r hr; cases hr
  | succ n ih =>
    intro d cc o pc L st h r hr
    rw [zrun_succ] at hr ⊢
    exact zstep_mono (fun d cc o pc L st h r q => ih q) hr
theorem zrun_le {n k : Nat} (hnk : n ≤ k) {d : Nat} {cc : ByteArray} {o pc : Nat} {L : LL} {st : List AV} {h : Hp} {r : Option AV × Hp} (hr : zrun n d cc o pc L st h = some r) : zrun k d cc o pc L st h = some r := by
  induction hnk with
  | refl => exact hr
  | step _ ih => exact zrun_mono _ ih
section ZRU
variable {d : Nat} {cc : ByteArray} {o pc : Nat} {L : LL} {st : List AV} {h : Hp} {Q : Option AV → Hp → Prop} {pc' : Nat} {L' : LL} {st' : List AV} {h' : Hp} {X Y : Prop}
theorem ZW.mono {K : Option AV → Hp → Prop} (hw : ZW d cc o pc L st h Q) (hQ : ∀ v h', Q v h' → K v h') : ZW d cc o pc L st h K := by
  obtain ⟨n, v, h', h1, h2⟩ := hw
  exact ⟨n, v, h', h1, hQ v h' h2⟩
theorem ZM.mono {z : Nat} {as : List AV} {K K' : Option AV → Hp → Prop} (hw : ZM d z as h K) (hQ : ∀ v h', K v h' → K' v h') : ZM d z as h K' := ⟨hw.1, hw.2.mono fun v h' q => ⟨q.1, hQ v h' q.2⟩⟩
theorem ZW_next (hz : zact d cc o pc L st h = some (.inl (pc', L', st', h'))) : ZW d cc o pc L st h Q = ZW d cc o pc' L' st' h' Q := by
  have e : ∀ n, zrun (n + 1) d cc o pc L st h = zrun n d cc o pc' L' st' h' := by
    intro n
    rw [zrun_succ]
    unfold zstep
    rw [hz]
  refine propext ⟨fun ⟨n, v, k, h1, h2⟩ => ?_, fun ⟨n, v, k, h1, h2⟩ => ⟨n + 1, v, k, by rw [e]; exact h1, h2⟩⟩
  cases n with
  | zero => cases h1
  | succ n => exact ⟨n, v, k, by rw [← e]; exact h1, h2⟩
theorem ZW_none (hz : zact d cc o pc L st h = none) : ZW d cc o pc L st h Q = False := by
  refine propext ⟨fun ⟨n, v, k, h1, h2⟩ => ?_, False.elim⟩
  cases n with
  | zero => cases h1
  | succ n =>
    rw [zrun_succ] at h1
    unfold zstep at h1
    rw [hz] at h1
    cases h1
theorem ZW_ret {v : Option AV} (hz : zact d cc o pc L st h = some (.inr (.inr v))) : ZW d cc o pc L st h Q = Q v h := by
  have e : ∀ n, zrun (n + 1) d cc o pc L st h = some (v, h) := by
    intro n
    rw [zrun_succ]
    unfold zstep
    rw [hz]
  refine propext ⟨fun ⟨n, w, k, h1, h2⟩ => ?_, fun q => ⟨1, v, h, e 0, q⟩⟩
  cases n with
  | zero => cases h1
  | succ n =>
    rw [e] at h1
    cases h1
    exact h2
theorem ZW_call {z : Nat} {as r : List AV} (hz : zact (d + 1) cc o pc L st h = some (.inr (.inl (z, as, r)))) : ZW (d + 1) cc o pc L st h Q = ZM d z as h (fun v h' => ZW (d + 1) cc o (pc + 3) L (v.toList ++ r) h' Q) := by
  refine propext ⟨fun ⟨n, v, k, h1, h2⟩ => ?_, fun ⟨hlen, n, v, k, h1, hret, n2, v2, k2, h3, h4⟩ => ?_⟩
  · cases n with
    | zero => cases h1
    | succ n =>
      rw [zrun_succ] at h1
      unfold zstep at h1
      rw [hz] at h1
      simp only at h1
      split at h1
      · next hlen =>
        split at h1
        · next v1 h1' hc =>
          split at h1
          · next hret => exact ⟨hlen, n, v1, h1', hc, hret, n, v, k, h1, h2⟩
          · cases h1
        · cases h1
      · cases h1
  · refine ⟨n + n2 + 1, v2, k2, ?_, h4⟩
    rw [zrun_succ]
    unfold zstep
    rw [hz]
    simp only
    rw [if_pos hlen, zrun_le (Nat.le_add_right n n2) h1]
    simp only
    rw [if_pos hret]
    exact zrun_le (Nat.le_add_left n2 n) h3
/-- rules in the order of a walk: from the run behind to the run ahead -/
theorem rn (hz : zact d cc o pc L st h = some (.inl (pc', L', st', h'))) (k : ZW d cc o pc' L' st' h' Q = X) : ZW d cc o pc L st h Q = X := (ZW_next hz).trans k
theorem rc {c : Prop} {hc : Decidable c} (hz : zact d cc o pc L st h = @ite _ c hc (some (.inl (pc', L', st', h'))) none) (k : ZW d cc o pc' L' st' h' Q = X) : ZW d cc o pc L st h Q = (c ∧ X) := by
  by_cases q : c
  · rw [if_pos q] at hz
    rw [ZW_next hz, k]
    exact propext ⟨fun x => ⟨q, x⟩, fun x => x.2⟩
  · rw [if_neg q] at hz
    rw [ZW_none hz]
    exact propext ⟨False.elim, fun x => q x.1⟩
theorem rb {c : Prop} {hc : Decidable c} {pc2 : Nat} {L2 : LL} {st2 : List AV} {h2 : Hp} (hz : zact d cc o pc L st h = @ite _ c hc (some (.inl (pc', L', st', h'))) (some (.inl (pc2, L2, st2, h2)))) (k : ZW d cc o pc' L' st' h' Q = X) (k2 : ZW d cc o pc2 L2 st2 h2 Q = Y) : ZW d cc o pc L st h Q = ((c ∧ X) ∨ (¬ c ∧ Y)) := by
  by_cases q : c
  · rw [if_pos q] at hz
    rw [ZW_next hz, k]
    exact propext ⟨fun x => Or.inl ⟨q, x⟩, fun x => x.elim (fun y => y.2) (fun y => absurd q y.1)⟩
  · rw [if_neg q] at hz
    rw [ZW_next hz, k2]
    exact propext ⟨fun x => Or.inr ⟨q, x⟩, fun x => x.elim (fun y => absurd y.1 q) (fun y => y.2)⟩
end ZRU
