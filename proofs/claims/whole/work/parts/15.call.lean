/-! SOUNDNESS 12: calls -/
def zcR (z : Nat) : Bool := decide (zrc z = (0, 0)) || (decide (zrc z = (20, 2)) && decide ((zmn z).cls = "java/lang/String")) || (decide (10 ≤ (zrc z).1 ∧ (zrc z).1 < 19) && decide ((zmn z).cls = zcn ((zrc z).1 - 10)) && decide ((zrc z).2 = zNf ((zrc z).1 - 10)))
theorem zcR_ok : (List.range 219).all zcR = true := by decide +kernel
def zwz (z : Nat) : List Cond := Cond.code (zmn z) (zb z) (zml z) (zretT (zrt z)) :: zTG
def zrm (d : Nat) (h h' : Hp) : Room := { frames := d, cells := zN h' - zN h, slots := zM h' - zM h, locals := 60 * d }
def ZPc (E : ZE) (as : List AV) (h : Hp) : Array Value → State → Prop := fun a U => a = (as.map (cv E)).toArray ∧ ZT E U ∧ ZI E U.heap h
def ZQc (E : ZE) (v : Option AV) (h' : Hp) : Array Value → State → Outcome → State → Prop := fun _ st oc t => oc = .returned (v.map (cv E)) ∧ ZI E t.heap h' ∧ va_F (zA E) st t
theorem zwz_good {z : Nat} (h : z < 219) : GoodIn zTG (zwz z) := by
  intro w hw
  have hm : w ∈ zTG := by
    rcases List.mem_cons.mp hw with rfl | hw
    · exact zcode_mem h
    · exact hw
  exact ⟨hm, good_of_word (List.mem_filter.mp hm).2⟩
theorem ZPc.blind {E : ZE} {as : List AV} {h : Hp} : FrameBlind (ZPc E as h) := fun a U g mk q => ⟨q.1, q.2.1.blind g mk a, q.2.2⟩
def zisret (cc : ByteArray) (pc : Nat) (v : Option AV) : Prop := match v with
  | none => decode cc pc = .ok (.return_, 1)
  | some (.inl _) => decode cc pc = .ok (.ireturn, 1)
  | some (.inr (.inl _)) => decode cc pc = .ok (.lreturn, 1)
  | _ => False
theorem zcall_spec {l na z : Nat} {st : List AV} {q : (Nat × List AV × List AV) ⊕ Option AV} (hz : zcall l na z st = some (.inr q)) : l = 3 ∧ na ≤ st.length ∧ zwt (st.drop na) ≤ 8 ∧ q = .inl (z, (st.take na).reverse, st.drop na) := by
  unfold zcall at hz
  split at hz
  · next hc =>
    cases hz
    exact ⟨hc.1, hc.2.1, hc.2.2, rfl⟩
  · cases hz
section ZPX
variable {p : Program} {l0 : Launch} {e : Env} {R : Room} {s : State} {m : MethodId} {args : Array Value} {below : List Frame} {meth : Method} {c : Code} {Q : State → Prop} {E : ZE} {cc : ByteArray} {o pc nL d l cells slots : Nat} {L : LL} {st : List AV} {h : Hp} {h1 : Hp} {H : Heap} {locs : List Loc} {ls : Array Slot} {rest : List Value} {z : Nat} {as r : List AV} {v : Option AV}
theorem zno {L' : LL} {pc' : Nat} {st' : List AV} {h' : Hp} {q : (Nat × List AV × List AV) ⊕ Option AV} (hz : zn pc' L' st' h' = some (.inr q)) : False := by
  unfold zn at hz; cases hz
/-- a call's and a return's act come out of these instructions alone -/
theorem zin_inr {i : Instr} {q : (Nat × List AV × List AV) ⊕ Option AV} (hz : zin d o pc l L st h i = some (.inr q)) : (∃ k, i = .invokevirtual k) ∨ (∃ k, i = .invokestatic k) ∨ (∃ k, i = .invokespecial k) ∨ i = .ireturn ∨ i = .lreturn ∨ i = .return_ := by
  cases i with
  | invokevirtual k => exact Or.inl ⟨k, rfl⟩
  | invokestatic k => exact Or.inr (Or.inl ⟨k, rfl⟩)
  | invokespecial k => exact Or.inr (Or.inr (Or.inl ⟨k, rfl⟩))
  | ireturn => exact Or.inr (Or.inr (Or.inr (Or.inl rfl)))
  | lreturn => exact Or.inr (Or.inr (Or.inr (Or.inr (Or.inl rfl))))
  | return_ => exact Or.inr (Or.inr (Or.inr (Or.inr (Or.inr rfl))))
  | _ =>
    exfalso
    simp only [zin, zld, zsto, zsto2, zc1, zco, zi2, zi2d, zi1, zj1, zj2, zj2d, zji, zjmp, zgetf, zputf, zald, ziast, zbast, zlast, zaast, zalen, znew, znewa, zn] at hz
    repeat' split at hz
    all_goals cases hz
theorem zs_ret (hz : zact d cc o pc L st h = some (.inr (.inr v))) : st = v.toList ∧ zisret cc pc v := by
  unfold zact at hz
  split at hz
  · next i l hd =>
    rcases zin_inr hz with ⟨k, rfl⟩ | ⟨k, rfl⟩ | ⟨k, rfl⟩ | rfl | rfl | rfl
    · simp only [zin, zinv] at hz
      split at hz
      · split at hz
        · split at hz
          · exact absurd (zcall_spec hz).2.2.2 (fun q => by cases q)
          · cases hz
        · cases hz
      · cases hz
    · simp only [zin] at hz
      split at hz
      · unfold zcpy at hz
        split at hz
        · split at hz
          · exact (zno hz).elim
          · cases hz
        · cases hz
      · unfold zmm at hz
        split at hz
        · split at hz
          · exact (zno hz).elim
          · cases hz
        · cases hz
      · unfold zmm at hz
        split at hz
        · split at hz
          · exact (zno hz).elim
          · cases hz
        · cases hz
      · unfold zmab at hz
        split at hz
        · split at hz
          · exact (zno hz).elim
          · cases hz
        · cases hz
      · unfold zmfm at hz
        split at hz
        · split at hz
          · exact (zno hz).elim
          · cases hz
        · cases hz
      · unfold zinvS at hz
        split at hz
        · exact absurd (zcall_spec hz).2.2.2 (fun q => by cases q)
        · exact absurd (zcall_spec hz).2.2.2 (fun q => by cases q)
        · cases hz
    · simp only [zin, zinvI] at hz
      split at hz
      · unfold zoinit at hz
        split at hz
        · split at hz
          · exact (zno hz).elim
          · cases hz
        · cases hz
      · split at hz
        · split at hz
          · exact absurd (zcall_spec hz).2.2.2 (fun q => by cases q)
          · cases hz
        · cases hz
      · cases hz
    · simp only [zin] at hz
      split at hz
      · unfold zret at hz
        split at hz
        · next hl => cases hz; subst hl; exact ⟨rfl, hd⟩
        · cases hz
      · cases hz
    · simp only [zin] at hz
      split at hz
      · unfold zret at hz
        split at hz
        · next hl => cases hz; subst hl; exact ⟨rfl, hd⟩
        · cases hz
      · cases hz
    · simp only [zin] at hz
      split at hz
      · unfold zret at hz
        split at hz
        · next hl => cases hz; subst hl; exact ⟨rfl, hd⟩
        · cases hz
      · cases hz
  · cases hz
theorem zcallW {st0 : List Value} {mc ms : Nat} {aa : Array Value} (hr : va_Run p l0 e R s m args below meth c H locs cells slots mc ms (F0 m pc ls st0) rest (ZQc E v h1 aa) (zA E)) (hS : va_S (zA E) s.heap H locs)
    (kk : ∀ (H1 : Heap) (locs1 : List Loc), ZI E H1 h1 → va_S (zA E) s.heap H1 locs1 → W p l0 e R s m args below meth c H1 locs1 (cells + mc) (slots + ms) Q (F0 m (pc + 3) ls ((v.map (cv E)).toList ++ rest))) : W p l0 e R s m args below meth c H locs cells slots Q (F0 m pc ls st0) := by
  intro T hT X
  obtain ⟨v', st₀, t, T', L, h0, X', hL, e1, e2, ⟨hv, hI1, hz, hk⟩, st⟩ := hr T hT X
  have hv := Outcome.returned.inj hv
  subst hv
  rw [h0] at hz hk
  obtain ⟨t2, a1, b1⟩ := kk T'.heap (locs ++ L) (by rw [e1]; exact hI1) ⟨Nat.le_trans hS.1 (by rw [e1]; exact hz), fun q q1 q2 => by rw [e1, hk q (Nat.lt_of_lt_of_le q1 hS.1) q2]; exact hS.2.1 q q1 q2, fun q hq => by
      rcases List.mem_append.mp hq with hq | hq
      · exact hS.2.2 q hq
      · exact hL q hq⟩ T' rfl X'
  exact ⟨t2, st t2 a1, b1⟩
end ZPX
