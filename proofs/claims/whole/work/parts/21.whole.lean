/-! WHAT IS LEFT: a run of the abstract machine -/
def zpure : Prop := ∀ (xs : Nat → Int) (L : Nat) (nl : Option Nat), L ≤ 3072 → (∀ j, zr (xs j)) → ∃ (n : Nat) (h' : Hp), zrun n 40 code 9 0 [some (vR (some 0)), none, none, none] [] (zh0 L xs nl) = some (some (vI 1), h') ∧ zN h' ≤ 600000 ∧ zM h' ≤ 7302250
theorem zwhole (hpure : zpure) {p : Program} {e : Env} {s : State} {m : MethodId} {below : List Frame} {meth : Method} {c : Code} (l : Launch) {b L : Nat} {xs : Nat → Int32} (hL : L ≤ 3072) (C0 : lw_At p s m meth c b L xs) : W p l e room_1 s m #[Value.ref b] below meth c s.heap [] 0 0 (lw_Z below #[Value.ref b] s) (entryFrame m ([Value.ref b] : List Value).toArray 4) := by
  obtain ⟨E, e1, e2, e3, e4, hT⟩ := zenv hL C0
  obtain ⟨hx, hb, hr, hml, hown, hts, hX, hbl, hlocks, hgv⟩ := C0
  obtain ⟨n, h', hrun, hN, hM⟩ := hpure (eX E) L (eN E) hL (fun j => by rw [e4]; exact zr_toInt _)
  have hH : okH (zh0 L (eX E) (eN E)) := fun a k => zbV_ok (fun j => by rw [e4]; exact zr_toInt _) a k
  have X : ZX E p room_1 s m #[Value.ref b] meth c code 9 4 40 := ⟨hx, hb, hml, hown, fun w hw => hts w (zTG_lw w hw), hT, fun q => absurd q (by decide), by decide, by decide⟩
  have hI : ZI E s.heap (zh0 L (eX E) (eN E)) := by
    refine ⟨fun k q hq => ?_, ?_, hH, fun a ha => by rw [e3]; rfl, fun _ _ _ => rfl, fun _ _ _ => rfl, fun a ha => ?_⟩
    · have h0 : zws E (zh0 L (eX E) (eN E)) = [] := rfl
      rw [h0] at hq
      cases hq
    · show s.heap.size = eB E + 0
      omega
    · show zbS L a = (0, 0)
      have ha : 32 ≤ a := ha
      unfold zbS
      rw [if_neg (by omega), List.getD_eq_getElem?_getD, List.getElem?_eq_none (by show 20 ≤ a; omega)]
      rfl
  have hst : okst ([] : List AV) := fun _ q => by cases q
  have hLL : okL [some (vR (some 0)), none, none, none] := by
    intro i v hv
    match i, hv with
    | 0, hv => cases hv; exact trivial
    | 1, hv => cases hv
    | 2, hv => cases hv
    | 3, hv => cases hv
    | i + 4, hv => simp at hv
  have q0 : zN (zh0 L (eX E) (eN E)) = 0 := rfl
  have q1 : zM (zh0 L (eX E) (eN E)) = 0 := rfl
  have hK := zsim (E := E) (l := l) n 40 code 9 0 _ [] _ _ _ hrun hH hLL hst (Q := lw_Z below #[Value.ref b] s) (below := below) (e := e) (cells := 0) (slots := 0) X (by rw [q0]; show 0 + (zN h' - 0) ≤ 600000; omega) (by rw [q1]; show 0 + (zM h' - 0) ≤ 7302250; omega) (fun pcr Lr hd => by
    intro H locs ls hI1 hS1 hR1
    refine va_forget (fun q hq => ?_) ?_
    · have := hS1.1.2.2 q hq
      rw [← e2]
      exact this
    · refine W.widen (k := 600000) (n := 7302250) (by rw [q0]; omega) (by rw [q1]; omega) ?_
      have h1 : zi 1 = 1 := by decide +kernel
      show W p l e room_1 s m #[Value.ref b] below meth c H [] 600000 7302250 (lw_Z below #[Value.ref b] s) (F0 m pcr ls [.int (zi 1)])
      rw [h1]
      exact lw_ret hx hb hr hlocks hd)
  rw [lg_entry_eq]
  have hle := LRel.entry E (as := [vR (some 0)]) (n := 4) (by decide)
  have h0 : cv E (vR (some 0)) = .ref b := by
    show Value.ref (zad E 0) = _
    unfold zad
    rw [if_pos (by omega), e1]
  have h00 : [vR (some 0)].map (cv E) = [Value.ref b] := by rw [List.map_cons, h0]; rfl
  rw [h00] at hle
  exact hK s.heap [] _ hI ⟨va_S.rf, rfl⟩ hle
