/-! SOUNDNESS 11: one step; what holds of the tables stays -/
theorem ZT.moved {E : ZE} {s U : State} {H : Heap} {locs : List Loc} (h : ZT E s) (hU : U.heap = H) (hS : va_S (zA E) s.heap H locs) (hW : s.WarmedH U.vm) : ZT E U := by
  obtain ⟨h1, h2, h3, h4, h5, h6, h7, h8, h9, h10⟩ := h
  have hk : ∀ a : Nat, a < s.heap.size → ¬ zA E a → U.heap[a]? = s.heap[a]? := fun a q1 q2 => by rw [hU]; exact hS.2.1 a q1 q2
  refine ⟨va_K.moved hW.alike h1, by rw [hU]; exact Nat.le_trans h2 hS.1, fun w hw => ?_, fun q hq => (va_Z.moved hW.alike (h4 q hq)).kept hk, fun b n hb hbn => ⟨(h5 b n hb hbn).1, (va_T.moved hW.alike (h5 b n hb hbn).2).kept hk⟩, fun b n hb hbn => ⟨(h6 b n hb hbn).1, (va_T.moved hW.alike (h6 b n hb hbn).2).kept hk⟩, fun b hb hbn => ?_, fun q hq => vk_R.warm hW (h8 q hq), va_AO.moved hW.alike h9, va_AO.moved hW.alike h10⟩
  · have hw' := h3 w hw
    have hn : znst w = true := (List.mem_filter.mp hw).2
    unfold znst at hn
    split at hn
    · exact va_Nw.warmM hW hw'
    · exact va_Nw.warmF hW hw'
    · cases hn
  · obtain ⟨a1, a2, a3⟩ := h7 b hb hbn
    exact ⟨(va_O.moved hW.alike a1).kept hk, (va_OF.moved hW.alike a2).kept hk, (va_OF.moved hW.alike a3).kept hk⟩
theorem ZT.blind {E : ZE} {U : State} (h : ZT E U) (g : JFrame) (mk : MethodId) (a : Array Value) : ZT E (U.calling g mk a) := by
  obtain ⟨h1, h2, h3, h4, h5, h6, h7, h8, h9, h10⟩ := h
  have hA : U.vm.Alike (U.calling g mk a).vm := Vm.Alike.refl U.vm
  refine ⟨va_K.moved hA h1, h2, fun w hw => ?_, fun q hq => va_Z.moved hA (h4 q hq), fun b n hb hbn => ⟨(h5 b n hb hbn).1, va_T.moved hA (h5 b n hb hbn).2⟩, fun b n hb hbn => ⟨(h6 b n hb hbn).1, va_T.moved hA (h6 b n hb hbn).2⟩, fun b hb hbn => ?_, fun q hq => vk_R.same rfl (h8 q hq), va_AO.moved hA h9, va_AO.moved hA h10⟩
  · have hw' := h3 w hw
    have hn : znst w = true := (List.mem_filter.mp hw).2
    unfold znst at hn
    split at hn
    · exact va_Nw.same rfl rfl hw'
    · exact va_Nw.same rfl rfl hw'
    · cases hn
  · obtain ⟨a1, a2, a3⟩ := h7 b hb hbn
    exact ⟨va_O.moved hA a1, va_OF.moved hA a2, va_OF.moved hA a3⟩
section ZPQ
variable {p : Program} {l0 : Launch} {e : Env} {R : Room} {s : State} {m : MethodId} {args : Array Value} {below : List Frame} {meth : Method} {c : Code} {Q : State → Prop} {E : ZE} {cc : ByteArray} {o pc nL d l cells slots : Nat} {L : LL} {st : List AV} {h : Hp} {pc' : Nat} {L' : LL} {st' : List AV} {h' : Hp} {H : Heap} {locs : List Loc} {ls : Array Slot} {rest : List Value}
theorem zs_invokespecial {k : Nat} (X : ZX E p R s m args meth c cc o nL d) (hH : okH h) (hL : okL L) (hok : okst st) (hd : decode cc pc = .ok (.invokespecial k, l)) (hz : zin d o pc l L st h (.invokespecial k) = some (.inl (pc', L', st', h'))) : ZOk E p l0 e R s m args below meth c nL Q cells slots pc L st h pc' L' st' h' := by
  simp only [zin, zinvI] at hz
  split at hz
  · next z hv =>
    unfold zmth at hv
    obtain ⟨⟨kd', z', pl⟩, h1, h2⟩ := zfind (f := fun a : Nat × Nat × Nat => (a.1, a.2.1)) hv
    have e1 : 9 = kd' := (congrArg Prod.fst h2).symm
    subst e1
    have h3 := zall_of zcM_ok h1
    simp [zcM] at h3
    exact zs_oinit X zoi_ok.1 hL hok hd (zck_mem h3) hz
  · split at hz
    · split at hz
      · unfold zcall at hz
        split at hz <;> cases hz
      · cases hz
    · cases hz
  · cases hz
theorem zs_step (X : ZX E p R s m args meth c cc o nL d) (hc0 : cells ≤ R.cells) (hs0 : slots ≤ R.slots) (hH : okH h) (hL : okL L) (hok : okst st) (hz : zact d cc o pc L st h = some (.inl (pc', L', st', h'))) : ZOkH E p l0 e R s m args below meth c nL Q cells slots pc L st h pc' L' st' h' := by
  unfold zact at hz
  split at hz
  · next i l hd =>
    cases i with
    | aload_n k => exact (zs_aload_n X hL hok hd hz).toH hH
    | iload_n k => exact (zs_iload_n X hL hok hd hz).toH hH
    | lload_n k => exact (zs_lload_n X hL hok hd hz).toH hH
    | aload k => exact (zs_aload X hL hok hd hz).toH hH
    | iload k => exact (zs_iload X hL hok hd hz).toH hH
    | lload k => exact (zs_lload X hL hok hd hz).toH hH
    | astore_n k => exact (zs_astore_n X hL hok hd hz).toH hH
    | istore_n k => exact (zs_istore_n X hL hok hd hz).toH hH
    | lstore_n k => exact (zs_lstore_n X hL hok hd hz).toH hH
    | astore k => exact (zs_astore X hL hok hd hz).toH hH
    | istore k => exact (zs_istore X hL hok hd hz).toH hH
    | lstore k => exact (zs_lstore X hL hok hd hz).toH hH
    | iinc k n => exact (zs_iinc X hL hok hd hz).toH hH
    | iconst n => exact (zs_iconst X hL hok hd hz).toH hH
    | bipush n => exact (zs_bipush X hL hok hd hz).toH hH
    | sipush n => exact (zs_sipush X hL hok hd hz).toH hH
    | lconst n => exact (zs_lconst X hL hok hd hz).toH hH
    | ldc k => exact (zs_ldc X hL hok hd hz).toH hH
    | ldc_w k => exact (zs_ldc_w X hL hok hd hz).toH hH
    | ldc2_w k => exact (zs_ldc2_w X hL hok hd hz).toH hH
    | getstatic k => exact (zs_getstatic X hL hok hd hz).toH hH
    | getfield k => exact (zs_getfield X hH hL hok hd hz).toH hH
    | putfield k => exact zs_putfield X hH hL hok hd hz
    | iadd => exact (zs_iadd X hL hok hd hz).toH hH
    | isub => exact (zs_isub X hL hok hd hz).toH hH
    | imul => exact (zs_imul X hL hok hd hz).toH hH
    | idiv => exact (zs_idiv X hL hok hd hz).toH hH
    | irem => exact (zs_irem X hL hok hd hz).toH hH
    | iand => exact (zs_iand X hL hok hd hz).toH hH
    | ior => exact (zs_ior X hL hok hd hz).toH hH
    | ixor => exact (zs_ixor X hL hok hd hz).toH hH
    | ishl => exact (zs_ishl X hL hok hd hz).toH hH
    | ishr => exact (zs_ishr X hL hok hd hz).toH hH
    | iushr => exact (zs_iushr X hL hok hd hz).toH hH
    | ineg => exact (zs_ineg X hL hok hd hz).toH hH
    | i2l => exact (zs_i2l X hL hok hd hz).toH hH
    | i2b => exact (zs_i2b X hL hok hd hz).toH hH
    | i2s => exact (zs_i2s X hL hok hd hz).toH hH
    | i2c => exact (zs_i2c X hL hok hd hz).toH hH
    | l2i => exact (zs_l2i X hL hok hd hz).toH hH
    | lneg => exact (zs_lneg X hL hok hd hz).toH hH
    | ladd => exact (zs_ladd X hL hok hd hz).toH hH
    | land => exact (zs_land X hL hok hd hz).toH hH
    | lor => exact (zs_lor X hL hok hd hz).toH hH
    | ldiv => exact (zs_ldiv X hL hok hd hz).toH hH
    | lrem => exact (zs_lrem X hL hok hd hz).toH hH
    | lshl => exact (zs_lshl X hL hok hd hz).toH hH
    | lcmp => exact (zs_lcmp X hL hok hd hz).toH hH
    | dup => exact (zs_dup X hL hok hd hz).toH hH
    | pop => exact (zs_pop X hL hok hd hz).toH hH
    | dup_x1 => exact (zs_dup_x1 X hL hok hd hz).toH hH
    | dup2 => exact (zs_dup2 X hL hok hd hz).toH hH
    | goto off => exact (zs_goto X hL hok hd hz).toH hH
    | ifCond cd off => exact (zs_ifCond X hL hok hd hz).toH hH
    | if_icmp cd off => exact (zs_if_icmp X hL hok hd hz).toH hH
    | tableswitch dflt lo hi offs => exact (zs_tableswitch X hL hok hd hz).toH hH
    | lookupswitch dflt ps => exact (zs_lookupswitch X hL hok hd hz).toH hH
    | iaload => exact (zs_iaload X hH hL hok hd hz).toH hH
    | baload => exact (zs_baload X hH hL hok hd hz).toH hH
    | laload => exact (zs_laload X hH hL hok hd hz).toH hH
    | aaload => exact (zs_aaload X hH hL hok hd hz).toH hH
    | iastore => exact zs_iastore X hH hL hok hd hz
    | bastore => exact zs_bastore X hH hL hok hd hz
    | lastore => exact zs_lastore X hH hL hok hd hz
    | aastore => exact zs_aastore X hH hL hok hd hz
    | arraylength => exact (zs_arraylength X hL hok hd hz).toH hH
    | new k => exact zs_new X hH hL hok hd hz
    | newarray t => exact zs_newarray X hH hL hok hd hz
    | anewarray k => exact zs_anewarray X hH hL hok hd hz
    | invokestatic k => exact zs_invokestatic X hc0 hs0 hH hL hok hd hz
    | invokespecial k => exact (zs_invokespecial X hH hL hok hd hz).toH hH
    | invokevirtual k =>
      simp only [zin, zinv] at hz
      split at hz
      · split at hz
        · split at hz
          · unfold zcall at hz
            split at hz <;> cases hz
          · cases hz
        · cases hz
      · cases hz
    | ireturn =>
      simp only [zin] at hz
      split at hz
      · unfold zret at hz
        split at hz <;> cases hz
      · cases hz
    | lreturn =>
      simp only [zin] at hz
      split at hz
      · unfold zret at hz
        split at hz <;> cases hz
      · cases hz
    | return_ =>
      simp only [zin] at hz
      split at hz
      · unfold zret at hz
        split at hz <;> cases hz
      · cases hz
    | _ => cases hz
  · cases hz
end ZPQ
