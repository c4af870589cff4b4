/-! SOUNDNESS 3: the instructions that leave the heap as it is -/
section ZPV
variable {p : Program} {l0 : Launch} {e : Env} {R : Room} {s : State} {m : MethodId} {args : Array Value} {below : List Frame} {meth : Method} {c : Code} {Q : State → Prop} {E : ZE} {cc : ByteArray} {o pc nL d l cells slots : Nat} {L : LL} {st : List AV} {h : Hp} {pc' : Nat} {L' : LL} {st' : List AV} {h' : Hp}
theorem zs_iadd  (X : ZX E p R s m args meth c cc o nL d) (hL : okL L) (hok : okst st) (hd : decode cc pc = .ok (.iadd, l)) (hz : zin d o pc l L st h (.iadd) = some (.inl (pc', L', st', h'))) : ZOk E p l0 e R s m args below meth c nL Q cells slots pc L st h pc' L' st' h' := by
  obtain ⟨hx, hb, hml, hown, hts, hT, hini, hfr, hlo⟩ := X
  exact zg_i2 hz (fun _ _ => zr_zw _) hL hok fun hl H locs ls x y rest k => lv_iadd hx hb (hl ▸ hd) (by simpa only [zi_add] using k)
theorem zs_isub  (X : ZX E p R s m args meth c cc o nL d) (hL : okL L) (hok : okst st) (hd : decode cc pc = .ok (.isub, l)) (hz : zin d o pc l L st h (.isub) = some (.inl (pc', L', st', h'))) : ZOk E p l0 e R s m args below meth c nL Q cells slots pc L st h pc' L' st' h' := by
  obtain ⟨hx, hb, hml, hown, hts, hT, hini, hfr, hlo⟩ := X
  exact zg_i2 hz (fun _ _ => zr_zw _) hL hok fun hl H locs ls x y rest k => lv_isub hx hb (hl ▸ hd) (by simpa only [zi_sub] using k)
theorem zs_imul  (X : ZX E p R s m args meth c cc o nL d) (hL : okL L) (hok : okst st) (hd : decode cc pc = .ok (.imul, l)) (hz : zin d o pc l L st h (.imul) = some (.inl (pc', L', st', h'))) : ZOk E p l0 e R s m args below meth c nL Q cells slots pc L st h pc' L' st' h' := by
  obtain ⟨hx, hb, hml, hown, hts, hT, hini, hfr, hlo⟩ := X
  exact zg_i2 hz (fun _ _ => zr_zw _) hL hok fun hl H locs ls x y rest k => lv_imul hx hb (hl ▸ hd) (by simpa only [zi_mul] using k)
theorem zs_iand  (X : ZX E p R s m args meth c cc o nL d) (hL : okL L) (hok : okst st) (hd : decode cc pc = .ok (.iand, l)) (hz : zin d o pc l L st h (.iand) = some (.inl (pc', L', st', h'))) : ZOk E p l0 e R s m args below meth c nL Q cells slots pc L st h pc' L' st' h' := by
  obtain ⟨hx, hb, hml, hown, hts, hT, hini, hfr, hlo⟩ := X
  exact zg_i2 hz (fun _ _ => zr_toInt _) hL hok fun hl H locs ls x y rest k => lv_iand hx hb (hl ▸ hd) (by simpa only [zi_of] using k)
theorem zs_ior  (X : ZX E p R s m args meth c cc o nL d) (hL : okL L) (hok : okst st) (hd : decode cc pc = .ok (.ior, l)) (hz : zin d o pc l L st h (.ior) = some (.inl (pc', L', st', h'))) : ZOk E p l0 e R s m args below meth c nL Q cells slots pc L st h pc' L' st' h' := by
  obtain ⟨hx, hb, hml, hown, hts, hT, hini, hfr, hlo⟩ := X
  exact zg_i2 hz (fun _ _ => zr_toInt _) hL hok fun hl H locs ls x y rest k => lv_ior hx hb (hl ▸ hd) (by simpa only [zi_of] using k)
theorem zs_ixor  (X : ZX E p R s m args meth c cc o nL d) (hL : okL L) (hok : okst st) (hd : decode cc pc = .ok (.ixor, l)) (hz : zin d o pc l L st h (.ixor) = some (.inl (pc', L', st', h'))) : ZOk E p l0 e R s m args below meth c nL Q cells slots pc L st h pc' L' st' h' := by
  obtain ⟨hx, hb, hml, hown, hts, hT, hini, hfr, hlo⟩ := X
  exact zg_i2 hz (fun _ _ => zr_toInt _) hL hok fun hl H locs ls x y rest k => lv_ixor hx hb (hl ▸ hd) (by simpa only [zi_of] using k)
theorem zs_ishl  (X : ZX E p R s m args meth c cc o nL d) (hL : okL L) (hok : okst st) (hd : decode cc pc = .ok (.ishl, l)) (hz : zin d o pc l L st h (.ishl) = some (.inl (pc', L', st', h'))) : ZOk E p l0 e R s m args below meth c nL Q cells slots pc L st h pc' L' st' h' := by
  obtain ⟨hx, hb, hml, hown, hts, hT, hini, hfr, hlo⟩ := X
  exact zg_i2 hz (fun _ _ => zr_toInt _) hL hok fun hl H locs ls x y rest k => lv_ishl hx hb (hl ▸ hd) (by simpa only [zi_of] using k)
theorem zs_ishr  (X : ZX E p R s m args meth c cc o nL d) (hL : okL L) (hok : okst st) (hd : decode cc pc = .ok (.ishr, l)) (hz : zin d o pc l L st h (.ishr) = some (.inl (pc', L', st', h'))) : ZOk E p l0 e R s m args below meth c nL Q cells slots pc L st h pc' L' st' h' := by
  obtain ⟨hx, hb, hml, hown, hts, hT, hini, hfr, hlo⟩ := X
  exact zg_i2 hz (fun _ _ => zr_toInt _) hL hok fun hl H locs ls x y rest k => lv_ishr hx hb (hl ▸ hd) (by simpa only [zi_of] using k)
theorem zs_iushr  (X : ZX E p R s m args meth c cc o nL d) (hL : okL L) (hok : okst st) (hd : decode cc pc = .ok (.iushr, l)) (hz : zin d o pc l L st h (.iushr) = some (.inl (pc', L', st', h'))) : ZOk E p l0 e R s m args below meth c nL Q cells slots pc L st h pc' L' st' h' := by
  obtain ⟨hx, hb, hml, hown, hts, hT, hini, hfr, hlo⟩ := X
  exact zg_i2 hz (fun _ _ => zr_toInt _) hL hok fun hl H locs ls x y rest k => lv_iushr hx hb (hl ▸ hd) rfl (by simpa only [zi_of] using k)
theorem zs_idiv  (X : ZX E p R s m args meth c cc o nL d) (hL : okL L) (hok : okst st) (hd : decode cc pc = .ok (.idiv, l)) (hz : zin d o pc l L st h (.idiv) = some (.inl (pc', L', st', h'))) : ZOk E p l0 e R s m args below meth c nL Q cells slots pc L st h pc' L' st' h' := by
  obtain ⟨hx, hb, hml, hown, hts, hT, hini, hfr, hlo⟩ := X
  exact zg_i2d hz (fun _ _ => zr_toInt _) hL hok fun hl H locs ls x y rest hy k => lv_idiv hx hb (hl ▸ hd) hy (by simpa only [zi_of] using k)
theorem zs_irem  (X : ZX E p R s m args meth c cc o nL d) (hL : okL L) (hok : okst st) (hd : decode cc pc = .ok (.irem, l)) (hz : zin d o pc l L st h (.irem) = some (.inl (pc', L', st', h'))) : ZOk E p l0 e R s m args below meth c nL Q cells slots pc L st h pc' L' st' h' := by
  obtain ⟨hx, hb, hml, hown, hts, hT, hini, hfr, hlo⟩ := X
  exact zg_i2d hz (fun _ _ => zr_toInt _) hL hok fun hl H locs ls x y rest hy k => lv_irem hx hb (hl ▸ hd) hy (by simpa only [zi_of] using k)
theorem zs_ineg  (X : ZX E p R s m args meth c cc o nL d) (hL : okL L) (hok : okst st) (hd : decode cc pc = .ok (.ineg, l)) (hz : zin d o pc l L st h (.ineg) = some (.inl (pc', L', st', h'))) : ZOk E p l0 e R s m args below meth c nL Q cells slots pc L st h pc' L' st' h' := by
  obtain ⟨hx, hb, hml, hown, hts, hT, hini, hfr, hlo⟩ := X
  exact zg_i1 hz (fun _ => zr_zw _) hL hok fun hl H locs ls x rest k => lv_ineg hx hb (hl ▸ hd) (by simpa only [cv, zi_neg] using k)
theorem zs_i2l  (X : ZX E p R s m args meth c cc o nL d) (hL : okL L) (hok : okst st) (hd : decode cc pc = .ok (.i2l, l)) (hz : zin d o pc l L st h (.i2l) = some (.inl (pc', L', st', h'))) : ZOk E p l0 e R s m args below meth c nL Q cells slots pc L st h pc' L' st' h' := by
  obtain ⟨hx, hb, hml, hown, hts, hT, hini, hfr, hlo⟩ := X
  exact zg_i1 hz (fun _ => trivial) hL hok fun hl H locs ls x rest k => lv_i2l hx hb (hl ▸ hd) rfl (by simpa only [cv] using k)
theorem zs_i2b  (X : ZX E p R s m args meth c cc o nL d) (hL : okL L) (hok : okst st) (hd : decode cc pc = .ok (.i2b, l)) (hz : zin d o pc l L st h (.i2b) = some (.inl (pc', L', st', h'))) : ZOk E p l0 e R s m args below meth c nL Q cells slots pc L st h pc' L' st' h' := by
  obtain ⟨hx, hb, hml, hown, hts, hT, hini, hfr, hlo⟩ := X
  exact zg_i1 hz (fun _ => zr_toInt _) hL hok fun hl H locs ls x rest k => lv_i2b hx hb (hl ▸ hd) rfl (by simpa only [cv, zi_of] using k)
theorem zs_i2s  (X : ZX E p R s m args meth c cc o nL d) (hL : okL L) (hok : okst st) (hd : decode cc pc = .ok (.i2s, l)) (hz : zin d o pc l L st h (.i2s) = some (.inl (pc', L', st', h'))) : ZOk E p l0 e R s m args below meth c nL Q cells slots pc L st h pc' L' st' h' := by
  obtain ⟨hx, hb, hml, hown, hts, hT, hini, hfr, hlo⟩ := X
  exact zg_i1 hz (fun _ => zr_toInt _) hL hok fun hl H locs ls x rest k => lv_i2s hx hb (hl ▸ hd) rfl (by simpa only [cv, zi_of] using k)
theorem zs_i2c  (X : ZX E p R s m args meth c cc o nL d) (hL : okL L) (hok : okst st) (hd : decode cc pc = .ok (.i2c, l)) (hz : zin d o pc l L st h (.i2c) = some (.inl (pc', L', st', h'))) : ZOk E p l0 e R s m args below meth c nL Q cells slots pc L st h pc' L' st' h' := by
  obtain ⟨hx, hb, hml, hown, hts, hT, hini, hfr, hlo⟩ := X
  exact zg_i1 hz (fun _ => zr_toInt _) hL hok fun hl H locs ls x rest k => lv_i2c hx hb (hl ▸ hd) rfl (by simpa only [cv, zi_of] using k)
theorem zs_l2i  (X : ZX E p R s m args meth c cc o nL d) (hL : okL L) (hok : okst st) (hd : decode cc pc = .ok (.l2i, l)) (hz : zin d o pc l L st h (.l2i) = some (.inl (pc', L', st', h'))) : ZOk E p l0 e R s m args below meth c nL Q cells slots pc L st h pc' L' st' h' := by
  obtain ⟨hx, hb, hml, hown, hts, hT, hini, hfr, hlo⟩ := X
  exact zg_j1 hz (fun _ => zr_toInt _) hL hok fun hl H locs ls x rest k => lv_l2i hx hb (hl ▸ hd) rfl (by simpa only [cv, zi_of] using k)
theorem zs_lneg  (X : ZX E p R s m args meth c cc o nL d) (hL : okL L) (hok : okst st) (hd : decode cc pc = .ok (.lneg, l)) (hz : zin d o pc l L st h (.lneg) = some (.inl (pc', L', st', h'))) : ZOk E p l0 e R s m args below meth c nL Q cells slots pc L st h pc' L' st' h' := by
  obtain ⟨hx, hb, hml, hown, hts, hT, hini, hfr, hlo⟩ := X
  exact zg_j1 hz (fun _ => trivial) hL hok fun hl H locs ls x rest k => lv_lneg hx hb (hl ▸ hd) (by simpa only [cv] using k)
theorem zs_ladd  (X : ZX E p R s m args meth c cc o nL d) (hL : okL L) (hok : okst st) (hd : decode cc pc = .ok (.ladd, l)) (hz : zin d o pc l L st h (.ladd) = some (.inl (pc', L', st', h'))) : ZOk E p l0 e R s m args below meth c nL Q cells slots pc L st h pc' L' st' h' := by
  obtain ⟨hx, hb, hml, hown, hts, hT, hini, hfr, hlo⟩ := X
  exact zg_j2 hz (fun _ _ => trivial) hL hok fun hl H locs ls x y rest k => lv_ladd hx hb (hl ▸ hd) (by simpa only [cv] using k)
theorem zs_land  (X : ZX E p R s m args meth c cc o nL d) (hL : okL L) (hok : okst st) (hd : decode cc pc = .ok (.land, l)) (hz : zin d o pc l L st h (.land) = some (.inl (pc', L', st', h'))) : ZOk E p l0 e R s m args below meth c nL Q cells slots pc L st h pc' L' st' h' := by
  obtain ⟨hx, hb, hml, hown, hts, hT, hini, hfr, hlo⟩ := X
  exact zg_j2 hz (fun _ _ => trivial) hL hok fun hl H locs ls x y rest k => lv_land hx hb (hl ▸ hd) (by simpa only [cv] using k)
theorem zs_lor  (X : ZX E p R s m args meth c cc o nL d) (hL : okL L) (hok : okst st) (hd : decode cc pc = .ok (.lor, l)) (hz : zin d o pc l L st h (.lor) = some (.inl (pc', L', st', h'))) : ZOk E p l0 e R s m args below meth c nL Q cells slots pc L st h pc' L' st' h' := by
  obtain ⟨hx, hb, hml, hown, hts, hT, hini, hfr, hlo⟩ := X
  exact zg_j2 hz (fun _ _ => trivial) hL hok fun hl H locs ls x y rest k => lv_lor hx hb (hl ▸ hd) (by simpa only [cv] using k)
theorem zs_ldiv  (X : ZX E p R s m args meth c cc o nL d) (hL : okL L) (hok : okst st) (hd : decode cc pc = .ok (.ldiv, l)) (hz : zin d o pc l L st h (.ldiv) = some (.inl (pc', L', st', h'))) : ZOk E p l0 e R s m args below meth c nL Q cells slots pc L st h pc' L' st' h' := by
  obtain ⟨hx, hb, hml, hown, hts, hT, hini, hfr, hlo⟩ := X
  exact zg_j2d hz (fun _ _ => trivial) hL hok fun hl H locs ls x y rest hy k => lv_ldiv hx hb (hl ▸ hd) hy (by simpa only [cv] using k)
theorem zs_lrem  (X : ZX E p R s m args meth c cc o nL d) (hL : okL L) (hok : okst st) (hd : decode cc pc = .ok (.lrem, l)) (hz : zin d o pc l L st h (.lrem) = some (.inl (pc', L', st', h'))) : ZOk E p l0 e R s m args below meth c nL Q cells slots pc L st h pc' L' st' h' := by
  obtain ⟨hx, hb, hml, hown, hts, hT, hini, hfr, hlo⟩ := X
  exact zg_j2d hz (fun _ _ => trivial) hL hok fun hl H locs ls x y rest hy k => lv_lrem hx hb (hl ▸ hd) hy (by simpa only [cv] using k)
theorem zs_lcmp  (X : ZX E p R s m args meth c cc o nL d) (hL : okL L) (hok : okst st) (hd : decode cc pc = .ok (.lcmp, l)) (hz : zin d o pc l L st h (.lcmp) = some (.inl (pc', L', st', h'))) : ZOk E p l0 e R s m args below meth c nL Q cells slots pc L st h pc' L' st' h' := by
  obtain ⟨hx, hb, hml, hown, hts, hT, hini, hfr, hlo⟩ := X
  exact zg_j2 hz (fun _ _ => zr_toInt _) hL hok fun hl H locs ls x y rest k => W.lcmp hx hb (hl ▸ hd) (by simpa only [cv, zi_of] using k)
theorem zs_lshl  (X : ZX E p R s m args meth c cc o nL d) (hL : okL L) (hok : okst st) (hd : decode cc pc = .ok (.lshl, l)) (hz : zin d o pc l L st h (.lshl) = some (.inl (pc', L', st', h'))) : ZOk E p l0 e R s m args below meth c nL Q cells slots pc L st h pc' L' st' h' := by
  obtain ⟨hx, hb, hml, hown, hts, hT, hini, hfr, hlo⟩ := X
  exact zg_ji hz (fun _ _ => trivial) hL hok fun hl H locs ls x y rest k => lv_lshl hx hb (hl ▸ hd) rfl (by simpa only [cv] using k)
theorem zs_iconst {n : Int} (X : ZX E p R s m args meth c cc o nL d) (hL : okL L) (hok : okst st) (hd : decode cc pc = .ok (.iconst n, l)) (hz : zin d o pc l L st h (.iconst n) = some (.inl (pc', L', st', h'))) : ZOk E p l0 e R s m args below meth c nL Q cells slots pc L st h pc' L' st' h' := by
  obtain ⟨hx, hb, hml, hown, hts, hT, hini, hfr, hlo⟩ := X
  exact zg_c1 hz (zr_zw _) hL hok fun hl H locs ls rest _ k => lv_iconst hx hb (hl ▸ hd) rfl (by rw [show cv E (vI (zw n)) = .int (Int32.ofInt n) from congrArg Value.int (zi_zw n)] at k; exact k)
theorem zs_bipush {n : Int} (X : ZX E p R s m args meth c cc o nL d) (hL : okL L) (hok : okst st) (hd : decode cc pc = .ok (.bipush n, l)) (hz : zin d o pc l L st h (.bipush n) = some (.inl (pc', L', st', h'))) : ZOk E p l0 e R s m args below meth c nL Q cells slots pc L st h pc' L' st' h' := by
  obtain ⟨hx, hb, hml, hown, hts, hT, hini, hfr, hlo⟩ := X
  exact zg_c1 hz (zr_toInt _) hL hok fun hl H locs ls rest _ k => lv_bipush hx hb (hl ▸ hd) rfl (by simpa only [cv, zi_of] using k)
theorem zs_sipush {n : Int} (X : ZX E p R s m args meth c cc o nL d) (hL : okL L) (hok : okst st) (hd : decode cc pc = .ok (.sipush n, l)) (hz : zin d o pc l L st h (.sipush n) = some (.inl (pc', L', st', h'))) : ZOk E p l0 e R s m args below meth c nL Q cells slots pc L st h pc' L' st' h' := by
  obtain ⟨hx, hb, hml, hown, hts, hT, hini, hfr, hlo⟩ := X
  exact zg_c1 hz (zr_toInt _) hL hok fun hl H locs ls rest _ k => lv_sipush hx hb (hl ▸ hd) rfl (by simpa only [cv, zi_of] using k)
theorem zs_lconst {n : Fin 2} (X : ZX E p R s m args meth c cc o nL d) (hL : okL L) (hok : okst st) (hd : decode cc pc = .ok (.lconst n, l)) (hz : zin d o pc l L st h (.lconst n) = some (.inl (pc', L', st', h'))) : ZOk E p l0 e R s m args below meth c nL Q cells slots pc L st h pc' L' st' h' := by
  obtain ⟨hx, hb, hml, hown, hts, hT, hini, hfr, hlo⟩ := X
  exact zg_c1 hz trivial hL hok fun hl H locs ls rest _ k => lv_lconst hx hb (hl ▸ hd) rfl (by simpa only [cv] using k)
theorem zs_iload_n {k : Fin 4} (X : ZX E p R s m args meth c cc o nL d) (hL : okL L) (hok : okst st) (hd : decode cc pc = .ok (.iload_n k, l)) (hz : zin d o pc l L st h (.iload_n k) = some (.inl (pc', L', st', h'))) : ZOk E p l0 e R s m args below meth c nL Q cells slots pc L st h pc' L' st' h' := by
  obtain ⟨hx, hb, hml, hown, hts, hT, hini, hfr, hlo⟩ := X
  refine zg_ld hz hL hok fun hl H locs ls v rest ht hv k => ?_
  rcases v with x | x | x
  · exact lv_iload_n hx hb (hl ▸ hd) rfl hv k
  · simp [ztag] at ht
  · cases x <;> simp [ztag] at ht
theorem zs_iload {k : Nat} (X : ZX E p R s m args meth c cc o nL d) (hL : okL L) (hok : okst st) (hd : decode cc pc = .ok (.iload k, l)) (hz : zin d o pc l L st h (.iload k) = some (.inl (pc', L', st', h'))) : ZOk E p l0 e R s m args below meth c nL Q cells slots pc L st h pc' L' st' h' := by
  obtain ⟨hx, hb, hml, hown, hts, hT, hini, hfr, hlo⟩ := X
  refine zg_ld hz hL hok fun hl H locs ls v rest ht hv k => ?_
  rcases v with x | x | x
  · exact lv_iload hx hb (hl ▸ hd) hv k
  · simp [ztag] at ht
  · cases x <;> simp [ztag] at ht
theorem zs_lload_n {k : Fin 4} (X : ZX E p R s m args meth c cc o nL d) (hL : okL L) (hok : okst st) (hd : decode cc pc = .ok (.lload_n k, l)) (hz : zin d o pc l L st h (.lload_n k) = some (.inl (pc', L', st', h'))) : ZOk E p l0 e R s m args below meth c nL Q cells slots pc L st h pc' L' st' h' := by
  obtain ⟨hx, hb, hml, hown, hts, hT, hini, hfr, hlo⟩ := X
  refine zg_ld hz hL hok fun hl H locs ls v rest ht hv k => ?_
  rcases v with x | x | x
  · simp [ztag] at ht
  · exact lv_lload_n hx hb (hl ▸ hd) rfl hv k
  · cases x <;> simp [ztag] at ht
theorem zs_lload {k : Nat} (X : ZX E p R s m args meth c cc o nL d) (hL : okL L) (hok : okst st) (hd : decode cc pc = .ok (.lload k, l)) (hz : zin d o pc l L st h (.lload k) = some (.inl (pc', L', st', h'))) : ZOk E p l0 e R s m args below meth c nL Q cells slots pc L st h pc' L' st' h' := by
  obtain ⟨hx, hb, hml, hown, hts, hT, hini, hfr, hlo⟩ := X
  refine zg_ld hz hL hok fun hl H locs ls v rest ht hv k => ?_
  rcases v with x | x | x
  · simp [ztag] at ht
  · exact lv_lload hx hb (hl ▸ hd) hv k
  · cases x <;> simp [ztag] at ht
theorem zs_aload_n {k : Fin 4} (X : ZX E p R s m args meth c cc o nL d) (hL : okL L) (hok : okst st) (hd : decode cc pc = .ok (.aload_n k, l)) (hz : zin d o pc l L st h (.aload_n k) = some (.inl (pc', L', st', h'))) : ZOk E p l0 e R s m args below meth c nL Q cells slots pc L st h pc' L' st' h' := by
  obtain ⟨hx, hb, hml, hown, hts, hT, hini, hfr, hlo⟩ := X
  refine zg_ld hz hL hok fun hl H locs ls v rest ht hv k => ?_
  rcases v with x | x | x
  · simp [ztag] at ht
  · simp [ztag] at ht
  · cases x with
    | none => simp [ztag] at ht
    | some a => exact lv_aload_n hx hb (hl ▸ hd) rfl hv k
theorem zs_aload {k : Nat} (X : ZX E p R s m args meth c cc o nL d) (hL : okL L) (hok : okst st) (hd : decode cc pc = .ok (.aload k, l)) (hz : zin d o pc l L st h (.aload k) = some (.inl (pc', L', st', h'))) : ZOk E p l0 e R s m args below meth c nL Q cells slots pc L st h pc' L' st' h' := by
  obtain ⟨hx, hb, hml, hown, hts, hT, hini, hfr, hlo⟩ := X
  refine zg_ld hz hL hok fun hl H locs ls v rest ht hv k => ?_
  rcases v with x | x | x
  · simp [ztag] at ht
  · simp [ztag] at ht
  · cases x with
    | none => simp [ztag] at ht
    | some a => exact lv_aload hx hb (hl ▸ hd) hv k
theorem zs_istore_n {k : Fin 4} (X : ZX E p R s m args meth c cc o nL d) (hL : okL L) (hok : okst st) (hd : decode cc pc = .ok (.istore_n k, l)) (hz : zin d o pc l L st h (.istore_n k) = some (.inl (pc', L', st', h'))) : ZOk E p l0 e R s m args below meth c nL Q cells slots pc L st h pc' L' st' h' := by
  obtain ⟨hx, hb, hml, hown, hts, hT, hini, hfr, hlo⟩ := X
  refine zg_sto hz hL hok fun hl H locs ls v rest lv ht hv hk k => ?_
  rcases v with x | x | x
  · exact lv_istore_n hx hb (hl ▸ hd) rfl hv hk rfl k
  · simp [ztag] at ht
  · cases x <;> simp [ztag] at ht
theorem zs_istore {k : Nat} (X : ZX E p R s m args meth c cc o nL d) (hL : okL L) (hok : okst st) (hd : decode cc pc = .ok (.istore k, l)) (hz : zin d o pc l L st h (.istore k) = some (.inl (pc', L', st', h'))) : ZOk E p l0 e R s m args below meth c nL Q cells slots pc L st h pc' L' st' h' := by
  obtain ⟨hx, hb, hml, hown, hts, hT, hini, hfr, hlo⟩ := X
  refine zg_sto hz hL hok fun hl H locs ls v rest lv ht hv hk k => ?_
  rcases v with x | x | x
  · exact lv_istore hx hb (hl ▸ hd) hv hk rfl k
  · simp [ztag] at ht
  · cases x <;> simp [ztag] at ht
theorem zs_astore_n {k : Fin 4} (X : ZX E p R s m args meth c cc o nL d) (hL : okL L) (hok : okst st) (hd : decode cc pc = .ok (.astore_n k, l)) (hz : zin d o pc l L st h (.astore_n k) = some (.inl (pc', L', st', h'))) : ZOk E p l0 e R s m args below meth c nL Q cells slots pc L st h pc' L' st' h' := by
  obtain ⟨hx, hb, hml, hown, hts, hT, hini, hfr, hlo⟩ := X
  refine zg_sto hz hL hok fun hl H locs ls v rest lv ht hv hk k => ?_
  rcases v with x | x | x
  · simp [ztag] at ht
  · simp [ztag] at ht
  · cases x with
    | none => simp [ztag] at ht
    | some a => exact lv_astore_n hx hb (hl ▸ hd) rfl hv hk rfl k
theorem zs_astore {k : Nat} (X : ZX E p R s m args meth c cc o nL d) (hL : okL L) (hok : okst st) (hd : decode cc pc = .ok (.astore k, l)) (hz : zin d o pc l L st h (.astore k) = some (.inl (pc', L', st', h'))) : ZOk E p l0 e R s m args below meth c nL Q cells slots pc L st h pc' L' st' h' := by
  obtain ⟨hx, hb, hml, hown, hts, hT, hini, hfr, hlo⟩ := X
  refine zg_sto hz hL hok fun hl H locs ls v rest lv ht hv hk k => ?_
  rcases v with x | x | x
  · simp [ztag] at ht
  · simp [ztag] at ht
  · cases x with
    | none => simp [ztag] at ht
    | some a => exact lv_astore hx hb (hl ▸ hd) hv hk rfl k
theorem zs_lstore_n {k : Fin 4} (X : ZX E p R s m args meth c cc o nL d) (hL : okL L) (hok : okst st) (hd : decode cc pc = .ok (.lstore_n k, l)) (hz : zin d o pc l L st h (.lstore_n k) = some (.inl (pc', L', st', h'))) : ZOk E p l0 e R s m args below meth c nL Q cells slots pc L st h pc' L' st' h' := by
  obtain ⟨hx, hb, hml, hown, hts, hT, hini, hfr, hlo⟩ := X
  exact zg_sto2 hz hL hok fun hl H locs ls x rest lv hv hk k => lv_lstore_n hx hb (hl ▸ hd) rfl hv hk rfl k
theorem zs_lstore {k : Nat} (X : ZX E p R s m args meth c cc o nL d) (hL : okL L) (hok : okst st) (hd : decode cc pc = .ok (.lstore k, l)) (hz : zin d o pc l L st h (.lstore k) = some (.inl (pc', L', st', h'))) : ZOk E p l0 e R s m args below meth c nL Q cells slots pc L st h pc' L' st' h' := by
  obtain ⟨hx, hb, hml, hown, hts, hT, hini, hfr, hlo⟩ := X
  exact zg_sto2 hz hL hok fun hl H locs ls x rest lv hv hk k => lv_lstore hx hb (hl ▸ hd) hv hk rfl k
theorem zs_iinc {k : Nat} {n : Int} (X : ZX E p R s m args meth c cc o nL d) (hL : okL L) (hok : okst st) (hd : decode cc pc = .ok (.iinc k n, l)) (hz : zin d o pc l L st h (.iinc k n) = some (.inl (pc', L', st', h'))) : ZOk E p l0 e R s m args below meth c nL Q cells slots pc L st h pc' L' st' h' := by
  obtain ⟨hx, hb, hml, hown, hts, hT, hini, hfr, hlo⟩ := X
  simp only [zin] at hz
  split at hz
  · next x hv =>
    split at hz
    · next hl =>
      obtain ⟨h1, h2⟩ := zget_some hv
      obtain ⟨hl, hp⟩ := hl
      have hk : k < L.length := (List.getElem?_eq_some_iff.mp h1).1
      unfold zn at hz; cases hz
      refine ⟨rfl, hL.set (zr_zw _), hok, fun z H locs ls hI hS hR => ?_⟩
      obtain ⟨j, hj⟩ := List.getElem?_of_mem (zlv_mem (E := E) h1)
      exact lv_iinc hx hb (hl ▸ hd) hR.has (k := j) hj rfl (by rw [← hR.2.2.1]; exact hk) rfl (fun ls' h' => z H locs ls' hI hS (hR.set1 hk hp (by rw [show cv E (vI (zw (x + n))) = Value.int (Int32.ofInt x + Int32.ofInt n) from congrArg Value.int (zi_add x n)]; exact h')))
    · cases hz
  · cases hz
theorem zs_dup  (X : ZX E p R s m args meth c cc o nL d) (hL : okL L) (hok : okst st) (hd : decode cc pc = .ok (.dup, l)) (hz : zin d o pc l L st h (.dup) = some (.inl (pc', L', st', h'))) : ZOk E p l0 e R s m args below meth c nL Q cells slots pc L st h pc' L' st' h' := by
  obtain ⟨hx, hb, hml, hown, hts, hT, hini, hfr, hlo⟩ := X
  simp only [zin] at hz
  split at hz
  · next v r =>
    split at hz
    · next hl =>
      unfold zn at hz; cases hz
      obtain ⟨hv, hr⟩ := okst_c hok
      exact ⟨rfl, hL, okst_m hv (okst_m hv hr), fun z H locs ls hI hS hR => lv_dup hx hb (hl.1 ▸ hd) (by rw [cv_cat]; exact hl.2) (z H locs ls hI hS hR)⟩
    · cases hz
  · cases hz
theorem zs_pop  (X : ZX E p R s m args meth c cc o nL d) (hL : okL L) (hok : okst st) (hd : decode cc pc = .ok (.pop, l)) (hz : zin d o pc l L st h (.pop) = some (.inl (pc', L', st', h'))) : ZOk E p l0 e R s m args below meth c nL Q cells slots pc L st h pc' L' st' h' := by
  obtain ⟨hx, hb, hml, hown, hts, hT, hini, hfr, hlo⟩ := X
  simp only [zin] at hz
  split at hz
  · next v r =>
    split at hz
    · next hl =>
      unfold zn at hz; cases hz
      obtain ⟨hv, hr⟩ := okst_c hok
      exact ⟨rfl, hL, hr, fun z H locs ls hI hS hR => lv_pop hx hb (hl.1 ▸ hd) (by rw [cv_cat]; exact hl.2) (z H locs ls hI hS hR)⟩
    · cases hz
  · cases hz
theorem zs_dup_x1  (X : ZX E p R s m args meth c cc o nL d) (hL : okL L) (hok : okst st) (hd : decode cc pc = .ok (.dup_x1, l)) (hz : zin d o pc l L st h (.dup_x1) = some (.inl (pc', L', st', h'))) : ZOk E p l0 e R s m args below meth c nL Q cells slots pc L st h pc' L' st' h' := by
  obtain ⟨hx, hb, hml, hown, hts, hT, hini, hfr, hlo⟩ := X
  simp only [zin] at hz
  split at hz
  · next v u r =>
    split at hz
    · next hl =>
      unfold zn at hz; cases hz
      obtain ⟨hv, hr⟩ := okst_c hok
      obtain ⟨hu, hr⟩ := okst_c hr
      exact ⟨rfl, hL, okst_m hv (okst_m hu (okst_m hv hr)), fun z H locs ls hI hS hR => lv_dup_x1 hx hb (hl.1 ▸ hd) (by rw [cv_cat]; exact hl.2.1) (by rw [cv_cat]; exact hl.2.2) (z H locs ls hI hS hR)⟩
    · cases hz
  · cases hz
theorem zs_dup2  (X : ZX E p R s m args meth c cc o nL d) (hL : okL L) (hok : okst st) (hd : decode cc pc = .ok (.dup2, l)) (hz : zin d o pc l L st h (.dup2) = some (.inl (pc', L', st', h'))) : ZOk E p l0 e R s m args below meth c nL Q cells slots pc L st h pc' L' st' h' := by
  obtain ⟨hx, hb, hml, hown, hts, hT, hini, hfr, hlo⟩ := X
  simp only [zin] at hz
  split at hz
  · next v u r =>
    split at hz
    · next hl =>
      unfold zn at hz; cases hz
      obtain ⟨hv, hr⟩ := okst_c hok
      obtain ⟨hu, hr⟩ := okst_c hr
      exact ⟨rfl, hL, okst_m hv (okst_m hu (okst_m hv (okst_m hu hr))), fun z H locs ls hI hS hR => lv_dup2_11 hx hb (hl.1 ▸ hd) (by rw [cv_cat]; exact hl.2.1) (by rw [cv_cat]; exact hl.2.2) (z H locs ls hI hS hR)⟩
    · cases hz
  · cases hz
theorem zs_goto {off : Int} (X : ZX E p R s m args meth c cc o nL d) (hL : okL L) (hok : okst st) (hd : decode cc pc = .ok (.goto off, l)) (hz : zin d o pc l L st h (.goto off) = some (.inl (pc', L', st', h'))) : ZOk E p l0 e R s m args below meth c nL Q cells slots pc L st h pc' L' st' h' := by
  obtain ⟨hx, hb, hml, hown, hts, hT, hini, hfr, hlo⟩ := X
  simp only [zin] at hz
  split at hz
  · next hl =>
    unfold zjmp at hz
    split at hz
    · next hj =>
      unfold zn at hz; cases hz
      exact ⟨rfl, hL, hok, fun z H locs ls hI hS hR => lv_goto (tgt := ((pc : Int) + off).toNat) hx hb (hl ▸ hd) (by omega) (z H locs ls hI hS hR)⟩
    · cases hz
  · cases hz
theorem zs_ifCond {cd : Jvm.ClassFile.Cond} {off : Int} (X : ZX E p R s m args meth c cc o nL d) (hL : okL L) (hok : okst st) (hd : decode cc pc = .ok (.ifCond cd off, l)) (hz : zin d o pc l L st h (.ifCond cd off) = some (.inl (pc', L', st', h'))) : ZOk E p l0 e R s m args below meth c nL Q cells slots pc L st h pc' L' st' h' := by
  obtain ⟨hx, hb, hml, hown, hts, hT, hini, hfr, hlo⟩ := X
  simp only [zin] at hz
  split at hz
  · next x r =>
    split at hz
    · next hl =>
      obtain ⟨hl, hj⟩ := hl
      obtain ⟨hX, hr⟩ := okst_c hok
      have hY : zr 0 := zr_0
      split at hz
      · next hc =>
        unfold zn at hz; cases hz
        refine ⟨rfl, hL, hr, fun z H locs ls hI hS hR => ?_⟩
        have ht : (pc : Int) + off = (((pc : Int) + off).toNat : Int) := by omega
        cases cd
        · exact lv_if_eq hx hb (hl ▸ hd) ht (fun _ => z H locs ls hI hS hR) (fun q => absurd (show x = 0 from by simpa [zcond] using hc) (fun w => q (by first | exact (by simpa only [zi_0] using (zi_eq hX hY).mpr w) | exact (by simpa only [zi_0] using fun u => w ((zi_eq hX hY).mp (by simpa only [zi_0] using u))))))
        · exact lv_if_ne hx hb (hl ▸ hd) ht (fun _ => z H locs ls hI hS hR) (fun q => absurd ((zi_eq hX hY).mp (by simpa only [zi_0] using q)) (show ¬ x = 0 from by simpa [zcond] using hc))
        · exact lv_if_lt hx hb (hl ▸ hd) ht (fun _ => z H locs ls hI hS hR) (fun q => absurd (show x < 0 from by simpa [zcond] using hc) (fun w => q (by first | exact (by simpa only [zi_0] using (zi_lt hX hY).mpr w) | exact (by simpa only [zi_0] using fun u => w ((zi_lt hX hY).mp (by simpa only [zi_0] using u))))))
        · exact lv_if_ge hx hb (hl ▸ hd) ht (fun _ => z H locs ls hI hS hR) (fun q => absurd (show 0 ≤ x from by simpa [zcond] using hc) (fun w => q (by first | exact (by simpa only [zi_0] using (zi_le hY hX).mpr w) | exact (by simpa only [zi_0] using fun u => w ((zi_le hY hX).mp (by simpa only [zi_0] using u))))))
        · exact lv_if_gt hx hb (hl ▸ hd) ht (fun _ => z H locs ls hI hS hR) (fun q => absurd (show 0 < x from by simpa [zcond] using hc) (fun w => q (by first | exact (by simpa only [zi_0] using (zi_lt hY hX).mpr w) | exact (by simpa only [zi_0] using fun u => w ((zi_lt hY hX).mp (by simpa only [zi_0] using u))))))
        · exact lv_if_le hx hb (hl ▸ hd) ht (fun _ => z H locs ls hI hS hR) (fun q => absurd (show x ≤ 0 from by simpa [zcond] using hc) (fun w => q (by first | exact (by simpa only [zi_0] using (zi_le hX hY).mpr w) | exact (by simpa only [zi_0] using fun u => w ((zi_le hX hY).mp (by simpa only [zi_0] using u))))))
      · next hc =>
        unfold zn at hz; cases hz
        refine ⟨rfl, hL, hr, fun z H locs ls hI hS hR => ?_⟩
        have ht : (pc : Int) + off = (((pc : Int) + off).toNat : Int) := by omega
        cases cd
        · exact lv_if_eq hx hb (hl ▸ hd) ht (fun q => absurd (show ¬ (x = 0) from by simpa [zcond] using hc) (fun w => w (by first | exact (zi_eq hX hY).mp (by simpa only [zi_0] using q) | exact fun u => q (by simpa only [zi_0] using (zi_eq hX hY).mpr u)))) (fun _ => z H locs ls hI hS hR)
        · exact lv_if_ne hx hb (hl ▸ hd) ht (fun q => absurd (show ¬ (¬ x = 0) from by simpa [zcond] using hc) (fun w => w (by first | exact (zi_eq hX hY).mp (by simpa only [zi_0] using q) | exact fun u => q (by simpa only [zi_0] using (zi_eq hX hY).mpr u)))) (fun _ => z H locs ls hI hS hR)
        · exact lv_if_lt hx hb (hl ▸ hd) ht (fun q => absurd (show ¬ (x < 0) from by simpa [zcond] using hc) (fun w => w (by first | exact (zi_lt hX hY).mp (by simpa only [zi_0] using q) | exact fun u => q (by simpa only [zi_0] using (zi_lt hX hY).mpr u)))) (fun _ => z H locs ls hI hS hR)
        · exact lv_if_ge hx hb (hl ▸ hd) ht (fun q => absurd (show ¬ (0 ≤ x) from by simpa [zcond] using hc) (fun w => w (by first | exact (zi_le hY hX).mp (by simpa only [zi_0] using q) | exact fun u => q (by simpa only [zi_0] using (zi_le hY hX).mpr u)))) (fun _ => z H locs ls hI hS hR)
        · exact lv_if_gt hx hb (hl ▸ hd) ht (fun q => absurd (show ¬ (0 < x) from by simpa [zcond] using hc) (fun w => w (by first | exact (zi_lt hY hX).mp (by simpa only [zi_0] using q) | exact fun u => q (by simpa only [zi_0] using (zi_lt hY hX).mpr u)))) (fun _ => z H locs ls hI hS hR)
        · exact lv_if_le hx hb (hl ▸ hd) ht (fun q => absurd (show ¬ (x ≤ 0) from by simpa [zcond] using hc) (fun w => w (by first | exact (zi_le hX hY).mp (by simpa only [zi_0] using q) | exact fun u => q (by simpa only [zi_0] using (zi_le hX hY).mpr u)))) (fun _ => z H locs ls hI hS hR)
    · cases hz
  · cases hz
theorem zs_if_icmp {cd : Jvm.ClassFile.Cond} {off : Int} (X : ZX E p R s m args meth c cc o nL d) (hL : okL L) (hok : okst st) (hd : decode cc pc = .ok (.if_icmp cd off, l)) (hz : zin d o pc l L st h (.if_icmp cd off) = some (.inl (pc', L', st', h'))) : ZOk E p l0 e R s m args below meth c nL Q cells slots pc L st h pc' L' st' h' := by
  obtain ⟨hx, hb, hml, hown, hts, hT, hini, hfr, hlo⟩ := X
  simp only [zin] at hz
  split at hz
  · next y x r =>
    split at hz
    · next hl =>
      obtain ⟨hl, hj⟩ := hl
      obtain ⟨hY, hr⟩ := okst_c hok
      obtain ⟨hX, hr⟩ := okst_c hr
      split at hz
      · next hc =>
        unfold zn at hz; cases hz
        refine ⟨rfl, hL, hr, fun z H locs ls hI hS hR => ?_⟩
        have ht : (pc : Int) + off = (((pc : Int) + off).toNat : Int) := by omega
        cases cd
        · exact lv_icmp_eq hx hb (hl ▸ hd) ht (fun _ => z H locs ls hI hS hR) (fun q => absurd (show x = y from by simpa [zcond] using hc) (fun w => q (by first | exact (by simpa only [zi_0] using (zi_eq hX hY).mpr w) | exact (by simpa only [zi_0] using fun u => w ((zi_eq hX hY).mp (by simpa only [zi_0] using u))))))
        · exact lv_icmp_ne hx hb (hl ▸ hd) ht (fun _ => z H locs ls hI hS hR) (fun q => absurd ((zi_eq hX hY).mp (by simpa only [zi_0] using q)) (show ¬ x = y from by simpa [zcond] using hc))
        · exact lv_icmp_lt hx hb (hl ▸ hd) ht (fun _ => z H locs ls hI hS hR) (fun q => absurd (show x < y from by simpa [zcond] using hc) (fun w => q (by first | exact (by simpa only [zi_0] using (zi_lt hX hY).mpr w) | exact (by simpa only [zi_0] using fun u => w ((zi_lt hX hY).mp (by simpa only [zi_0] using u))))))
        · exact lv_icmp_ge hx hb (hl ▸ hd) ht (fun _ => z H locs ls hI hS hR) (fun q => absurd (show y ≤ x from by simpa [zcond] using hc) (fun w => q (by first | exact (by simpa only [zi_0] using (zi_le hY hX).mpr w) | exact (by simpa only [zi_0] using fun u => w ((zi_le hY hX).mp (by simpa only [zi_0] using u))))))
        · exact lv_icmp_gt hx hb (hl ▸ hd) ht (fun _ => z H locs ls hI hS hR) (fun q => absurd (show y < x from by simpa [zcond] using hc) (fun w => q (by first | exact (by simpa only [zi_0] using (zi_lt hY hX).mpr w) | exact (by simpa only [zi_0] using fun u => w ((zi_lt hY hX).mp (by simpa only [zi_0] using u))))))
        · exact lv_icmp_le hx hb (hl ▸ hd) ht (fun _ => z H locs ls hI hS hR) (fun q => absurd (show x ≤ y from by simpa [zcond] using hc) (fun w => q (by first | exact (by simpa only [zi_0] using (zi_le hX hY).mpr w) | exact (by simpa only [zi_0] using fun u => w ((zi_le hX hY).mp (by simpa only [zi_0] using u))))))
      · next hc =>
        unfold zn at hz; cases hz
        refine ⟨rfl, hL, hr, fun z H locs ls hI hS hR => ?_⟩
        have ht : (pc : Int) + off = (((pc : Int) + off).toNat : Int) := by omega
        cases cd
        · exact lv_icmp_eq hx hb (hl ▸ hd) ht (fun q => absurd (show ¬ (x = y) from by simpa [zcond] using hc) (fun w => w (by first | exact (zi_eq hX hY).mp (by simpa only [zi_0] using q) | exact fun u => q (by simpa only [zi_0] using (zi_eq hX hY).mpr u)))) (fun _ => z H locs ls hI hS hR)
        · exact lv_icmp_ne hx hb (hl ▸ hd) ht (fun q => absurd (show ¬ (¬ x = y) from by simpa [zcond] using hc) (fun w => w (by first | exact (zi_eq hX hY).mp (by simpa only [zi_0] using q) | exact fun u => q (by simpa only [zi_0] using (zi_eq hX hY).mpr u)))) (fun _ => z H locs ls hI hS hR)
        · exact lv_icmp_lt hx hb (hl ▸ hd) ht (fun q => absurd (show ¬ (x < y) from by simpa [zcond] using hc) (fun w => w (by first | exact (zi_lt hX hY).mp (by simpa only [zi_0] using q) | exact fun u => q (by simpa only [zi_0] using (zi_lt hX hY).mpr u)))) (fun _ => z H locs ls hI hS hR)
        · exact lv_icmp_ge hx hb (hl ▸ hd) ht (fun q => absurd (show ¬ (y ≤ x) from by simpa [zcond] using hc) (fun w => w (by first | exact (zi_le hY hX).mp (by simpa only [zi_0] using q) | exact fun u => q (by simpa only [zi_0] using (zi_le hY hX).mpr u)))) (fun _ => z H locs ls hI hS hR)
        · exact lv_icmp_gt hx hb (hl ▸ hd) ht (fun q => absurd (show ¬ (y < x) from by simpa [zcond] using hc) (fun w => w (by first | exact (zi_lt hY hX).mp (by simpa only [zi_0] using q) | exact fun u => q (by simpa only [zi_0] using (zi_lt hY hX).mpr u)))) (fun _ => z H locs ls hI hS hR)
        · exact lv_icmp_le hx hb (hl ▸ hd) ht (fun q => absurd (show ¬ (x ≤ y) from by simpa [zcond] using hc) (fun w => w (by first | exact (zi_le hX hY).mp (by simpa only [zi_0] using q) | exact fun u => q (by simpa only [zi_0] using (zi_le hX hY).mpr u)))) (fun _ => z H locs ls hI hS hR)
    · cases hz
  · cases hz
theorem zs_tableswitch {dflt lo hi : Int} {offs : Array Int} (X : ZX E p R s m args meth c cc o nL d) (hL : okL L) (hok : okst st) (hd : decode cc pc = .ok (.tableswitch dflt lo hi offs, l)) (hz : zin d o pc l L st h (.tableswitch dflt lo hi offs) = some (.inl (pc', L', st', h'))) : ZOk E p l0 e R s m args below meth c nL Q cells slots pc L st h pc' L' st' h' := by
  obtain ⟨hx, hb, hml, hown, hts, hT, hini, hfr, hlo⟩ := X
  simp only [zin] at hz
  split at hz
  · next x r =>
    obtain ⟨hX, hr⟩ := okst_c hok
    have hX' : (zi x).toInt = x := zi_toInt hX
    split at hz
    · next ho =>
      unfold zjmp at hz
      split at hz
      · next hj =>
        unfold zn at hz; cases hz
        exact ⟨rfl, hL, hr, fun z H locs ls hI hS hR => lv_tableOut (tgt := ((pc : Int) + dflt).toNat) hx hb hd (by rw [hX']; exact ho) (by omega) (z H locs ls hI hS hR)⟩
      · cases hz
    · next ho =>
      split at hz
      · next off hoff =>
        unfold zjmp at hz
        split at hz
        · next hj =>
          unfold zn at hz; cases hz
          exact ⟨rfl, hL, hr, fun z H locs ls hI hS hR => lv_tableIn (tgt := ((pc : Int) + off).toNat) hx hb hd (by rw [hX']; exact fun q => ho (Or.inl q)) (by rw [hX']; exact fun q => ho (Or.inr q)) (by rw [hX']; exact hoff) (by omega) (z H locs ls hI hS hR)⟩
        · cases hz
      · cases hz
  · cases hz
theorem zs_lookupswitch {dflt : Int} {ps : Array (Int × Int)} (X : ZX E p R s m args meth c cc o nL d) (hL : okL L) (hok : okst st) (hd : decode cc pc = .ok (.lookupswitch dflt ps, l)) (hz : zin d o pc l L st h (.lookupswitch dflt ps) = some (.inl (pc', L', st', h'))) : ZOk E p l0 e R s m args below meth c nL Q cells slots pc L st h pc' L' st' h' := by
  obtain ⟨hx, hb, hml, hown, hts, hT, hini, hfr, hlo⟩ := X
  simp only [zin] at hz
  split at hz
  · next x r =>
    obtain ⟨hX, hr⟩ := okst_c hok
    have hX' : (zi x).toInt = x := zi_toInt hX
    split at hz
    · next hp =>
      unfold zjmp at hz
      split at hz
      · next hj =>
        unfold zn at hz; cases hz
        exact ⟨rfl, hL, hr, fun z H locs ls hI hS hR => lv_lookup (tgt := ((pc : Int) + Op.lookupswitch.offset ps.toList dflt x).toNat) hx hb hd hp (by rw [hX']) (by omega) (z H locs ls hI hS hR)⟩
      · cases hz
    · cases hz
  · cases hz
end ZPV
