theorem zretok_cases {t : Nat} {v : Option AV} (h : zretok t v = true) : (t = 0 ∧ v = none) ∨ (t = 1 ∧ ∃ x, v = some (.inl x)) ∨ (t = 2 ∧ (v = some (.inl 0) ∨ v = some (.inl 1))) ∨ (t = 3 ∧ ∃ x : Nat, x < 65536 ∧ v = some (.inl (x : Int))) ∨ (t = 4 ∧ ∃ x, v = some (.inr (.inl x))) ∨ (t = 5 ∧ v = some (.inl 0)) := by
  unfold zretok at h
  split at h
  · exact Or.inl ⟨rfl, rfl⟩
  · exact Or.inr (Or.inl ⟨rfl, _, rfl⟩)
  · rcases of_decide_eq_true h with rfl | rfl
    · exact Or.inr (Or.inr (Or.inl ⟨rfl, Or.inl rfl⟩))
    · exact Or.inr (Or.inr (Or.inl ⟨rfl, Or.inr rfl⟩))
  · next x =>
    obtain ⟨q1, q2⟩ := of_decide_eq_true h
    exact Or.inr (Or.inr (Or.inr (Or.inl ⟨rfl, x.toNat, by omega, by rw [Int.toNat_of_nonneg q1]⟩)))
  · exact Or.inr (Or.inr (Or.inr (Or.inr (Or.inl ⟨rfl, _, rfl⟩))))
  · have := of_decide_eq_true h
    subst this
    exact Or.inr (Or.inr (Or.inr (Or.inr (Or.inr ⟨rfl, rfl⟩))))
  · cases h
/-- the end of a method -/
theorem zend {E : ZE} {p : Program} {l : Launch} {e : Env} {R : Room} {s : State} {m : MethodId} {args : Array Value} {below : List Frame} {meth : Method} {c : Code} {cc : ByteArray} {cells slots pc t : Nat} {v : Option AV} {h' : Hp} {H : Heap} {locs : List Loc} {ls : Array Slot}
    (hx : p.tables.exec = Jvm.exec) (hb : c.code = cc) (hr : meth.sig.returnType = zretT t) (hlocks : meth.locks = false) (hv : zretok t v = true) (hd : zisret cc pc v) (hI : ZI E H h') (hS : va_S (zA E) s.heap H locs) : W p l e R s m args below meth c H locs cells slots (MQ below (ZQc E v h') args s cells slots (zA E)) (F0 m pc ls (v.toList.map (cv E))) := by
  have hq : ∀ u : State, u.heap = H → s.WarmedH u.vm → ZQc E v h' args s (.returned (v.map (cv E))) u := fun u hu _ => ⟨rfl, by rw [hu]; exact hI, hS.F hu⟩
  rcases zretok_cases hv with ⟨rfl, rfl⟩ | ⟨rfl, x, rfl⟩ | ⟨rfl, rfl | rfl⟩ | ⟨rfl, x, hx2, rfl⟩ | ⟨rfl, x, rfl⟩ | ⟨rfl, rfl⟩
  · exact W.vret hx hb hr hq hS.2.2 hd hlocks
  · exact W.iret hx hb hr hq hS.2.2 hd hlocks
  · exact W.zret hx hb hr (by decide +kernel) hq hS.2.2 hd hlocks
  · exact W.zret hx hb hr (by decide +kernel) hq hS.2.2 hd hlocks
  · refine W.zret hx hb hr ?_ hq hS.2.2 hd hlocks
    rw [zi_nat]
    exact (pk_charN hx2).1
  · exact W.lret hx hb hr hq hS.2.2 hd hlocks
  · exact W.zret hx hb hr (by decide +kernel) hq hS.2.2 hd hlocks
/-- **THE SIMULATION** -/
theorem zsim {E : ZE} {l : Launch} : ∀ (n d : Nat) (cc : ByteArray) (o pc : Nat) (L : LL) (st : List AV) (h : Hp) (v : Option AV) (h' : Hp), zrun n d cc o pc L st h = some (v, h') → okH h → okL L → okst st →
    ∀ {p : Program} {e : Env} {R : Room} {s : State} {m : MethodId} {args : Array Value} {below : List Frame} {meth : Method} {c : Code} {Q : State → Prop} {nL cells slots : Nat}, ZX E p R s m args meth c cc o nL d → cells + (zN h' - zN h) ≤ R.cells → slots + (zM h' - zM h) ≤ R.slots →
    (∀ (pcr : Nat) (Lr : LL), zisret cc pcr v → ZPt E p l e R s m args below meth c nL Q (cells + (zN h' - zN h)) (slots + (zM h' - zM h)) pcr Lr v.toList h') → ZPt E p l e R s m args below meth c nL Q cells slots pc L st h := by
  intro n
  induction n with
  | zero => intro d cc o pc L st h v h' hr; cases hr
  | succ n ih =>
    intro d cc o pc L st h v h' hr hH hL hok p e R s m args below meth c Q nL cells slots X hr1 hr2 K
    rw [zrun_succ] at hr
    unfold zstep at hr
    split at hr
    · cases hr
    · next pc1 L1 st1 h1 hz =>
      obtain ⟨a1, a2, a3, a4, a5⟩ := zact_ok hH hL hok hz
      obtain ⟨b1, b2, b3, b4⟩ := zrun_ok n d cc o pc1 L1 st1 h1 v h' hr a3 a4 a5
      obtain ⟨-, -, -, -, -, k⟩ := zs_step (l0 := l) (e := e) (below := below) (Q := Q) (nL := nL) (cells := cells) (slots := slots) X (by omega) (by omega) hH hL hok hz
      refine k (by omega) (by omega) (ih d cc o pc1 L1 st1 h1 v h' hr a3 a4 a5 X (by omega) (by omega) fun pcr Lr hd => ?_)
      have q := K pcr Lr hd
      rw [show cells + (zN h1 - zN h) + (zN h' - zN h1) = cells + (zN h' - zN h) by omega, show slots + (zM h1 - zM h) + (zM h' - zM h1) = slots + (zM h' - zM h) by omega]
      exact q
    · next z as r hz =>
      obtain ⟨hz219, hz1, hpl, ha, hr'⟩ := zcall_ok hok hz
      split at hr
      · cases hr
      · rename_i d'
        split at hr
        · next hlen =>
          split at hr
          · next v1 h1 hc1 =>
            split at hr
            · next hret =>
              obtain ⟨a1, a2, a3, a4⟩ := zrun_ok _ _ _ _ _ _ _ _ _ _ hc1 hH (okL.entry ha) (fun _ q => by cases q)
              have hokr : okst (v1.toList ++ r) := fun w hw => by
                rcases List.mem_append.mp hw with hw | hw
                · exact a4 w hw
                · exact hr' w hw
              obtain ⟨b1, b2, b3, b4⟩ := zrun_ok _ _ _ _ _ _ _ _ _ _ hr a3 hL hokr
              obtain ⟨w1, w2, w3, w4, w5, w6, w7, w8⟩ := zcZ_of hz219 hz1
              have hM : Met l (zmn z) (zwz z) (zrm d' h h1) (ZPc E as h) (ZQc E v1 h1) (zN h1 - zN h) (zM h1 - zM h) (zA E) := by
                refine Met.ofW (cc := zb z) (maxL := zml z) (ret := zretT (zrt z)) hpl rfl ?_
                intro p2 e2 s2 m2 args2 below2 meth2 c2 s3 B hml hv
                obtain ⟨rfl, hT2, hI2⟩ := hv
                have X2 : ZX E p2 (headSpec (zwz z) (zrm d' h h1)).room s2 m2 (as.map (cv E)).toArray meth2 c2 (zb z) (zo z) (zml z) d' :=
                  ⟨B.exec, B.bytes, hml, by rw [w5]; exact findClass_of_methodNamed B.named, fun w hw => atoms_spec (ws := zwz z) B.pre w (List.mem_cons_of_mem _ hw), hT2, fun hq => by rw [(name_of_methodNamed B.named B.method).1]; exact w6 hq, Nat.le_refl _, Nat.le_refl _⟩
                rw [lg_entry_eq]
                have q := ih d' (zb z) (zo z) 0 (zent (zml z) as) [] h v1 h1 hc1 hH (okL.entry ha) (fun _ q => by cases q) (Q := MQ below2 (ZQc E v1 h1) (as.map (cv E)).toArray s2 (zN h1 - zN h) (zM h1 - zM h) (zA E)) (below := below2) (e := e2) (cells := 0) (slots := 0) X2 (by rw [Nat.zero_add]; exact Nat.le_refl _) (by rw [Nat.zero_add]; exact Nat.le_refl _) (fun pcr Lr hd => by
                  intro H locs ls hI hS hR
                  rw [Nat.zero_add, Nat.zero_add]
                  exact zend B.exec B.bytes B.returns B.notSynchronized hret hd hI hS.1)
                exact q s2.heap [] _ hI2 ⟨va_S.rf, rfl⟩ (LRel.entry E hlen)
              refine zs_call X hM hz a1 (by omega) (by omega) (ih _ _ _ _ _ _ _ _ _ hr a3 hL hokr X (by omega) (by omega) fun pcr Lr hd => ?_)
              have q := K pcr Lr hd
              rw [show cells + (zN h1 - zN h) + (zN h' - zN h1) = cells + (zN h' - zN h) by omega, show slots + (zM h1 - zM h) + (zM h' - zM h1) = slots + (zM h' - zM h) by omega]
              exact q
            · cases hr
          · cases hr
        · cases hr
    · next v1 hz =>
      cases hr
      obtain ⟨e1, hd⟩ := zs_ret hz
      have q := K pc L hd
      rw [Nat.sub_self, Nat.sub_self, Nat.add_zero, Nat.add_zero, ← e1] at q
      exact q
