/-! SOUNDNESS 2: the picture of a heap; steps that leave the heap as it is -/
def zfs (E : ZE) (h : Hp) (ci a n : Nat) : List Value := (List.range n).map fun k => cv E (zfv h ci a k)
def zcell (E : ZE) (h : Hp) (a : Nat) : va_E :=
  if (zS h a).1 = 1 then .inl (eR E 1, ((zS h a).2, .inl (fun k => zi (zV h a k))))
  else if (zS h a).1 = 2 then .inl (eR E 2, ((zS h a).2, .inl (fun k => zi (zV h a k))))
  else if (zS h a).1 = 3 then .inl (eR E 3, ((zS h a).2, .inr (.inl (zJ h a))))
  else if (zS h a).1 = 5 then .inl (eR E 5, ((zS h a).2, .inr (.inr (.inr (.inr (fun k => (zP h a k).map (zad E)))))))
  else if (zS h a).1 = 6 then .inl (eR E 6, ((zS h a).2, .inr (.inr (.inr (.inr (fun k => (zP h a k).map (zad E)))))))
  else .inr ((zS h a).1 - 10, zfs E h ((zS h a).1 - 10) a (zS h a).2)
def zws (E : ZE) (h : Hp) : va_W := (List.range (zN h)).map fun j => (eB E + j, zcell E h (32 + j))
def zty (E : ZE) : List (ClassId × FieldType) := [(eR E 1, .int), (eR E 2, .boolean), (eR E 3, .long), (eR E 5, .object "HatterTunes$Shop"), (eR E 6, .object "HatterTunes$Tape")]
def ZI (E : ZE) (H : Heap) (h : Hp) : Prop := va_P (eC E, eI E) zcls9 (zws E h) H ∧ H.size = eB E + zN h ∧ (∀ a k : Nat, zr (zV h a k)) ∧ (∀ a : Nat, a < 32 → zS h a = zbS (eL E) a) ∧ (∀ a k : Nat, a < 32 → zV h a k = zbV (eX E) a k) ∧ (∀ a k : Nat, a < 32 → zP h a k = zbP (eN E) a k) ∧ (∀ a : Nat, 32 + zN h ≤ a → zS h a = (0, 0))
def zA (E : ZE) : Nat → Prop := fun q => eB E ≤ q
def zTG : List Cond := lw_tbl.filter goodWord
def znst (w : Cond) : Bool := match w with
  | .methodLinkNest _ _ _ _ => true
  | .fieldLinkNest _ _ _ _ _ _ => true
  | _ => false
def znest : List Cond := lw_tbl.filter znst
def zstrs : List (String × Nat × String × Nat) := [("HatterTunes$Text", 43, "sharp ", 4), ("HatterTunes$Text", 52, "flat ", 6), ("HatterTunes$Text", 54, "grow ", 8), ("HatterTunesModel", 219, "sharp ", 10), ("HatterTunesModel", 225, "flat ", 12), ("HatterTunesModel", 227, "grow ", 14), ("HatterTunesModel", 188, "pkviby", 16), ("HatterTunesModel", 193, "<=>", 18)]
def zstE (E : ZE) (v : AV) : AV := match v with
  | .inr (.inr (some 30)) => vR (eN E)
  | v => v
/-- what holds of the tables and of what was there before -/
def ZT (E : ZE) (U : State) : Prop := va_K (eC E, eI E) zcls9 (zty E) U ∧ eB E ≤ U.heap.size ∧ (∀ w ∈ znest, va_Nw w U) ∧
  (∀ q ∈ zstats, va_Z q.1 q.2.1 q.2.2.1 (cv E (zstE E q.2.2.2)) (zA E) U U.heap) ∧
  (∀ b n : Nat, b < 32 → zbS (eL E) b = (1, n) → n < 2147483648 ∧ va_T .int (eA E b) n (fun j => .int (zi (zbV (eX E) b j))) (zA E) U U.heap) ∧
  (∀ b n : Nat, b < 32 → zbS (eL E) b = (4, n) → n < 2147483648 ∧ va_T .byte (eA E b) n (fun j => .int (zi (zbV (eX E) b j))) (zA E) U U.heap) ∧
  (∀ b : Nat, b < 32 → zbS (eL E) b = (20, 2) → va_O "java/lang/String" (eA E b) (zA E) U U.heap ∧ va_OF "java/lang/String" "value" "[B" (cv E (vR (zbP (eN E) b 0))) (eA E b) (zA E) U U.heap ∧ va_OF "java/lang/String" "coder" "B" (cv E (vI (zbV (eX E) b 1))) (eA E b) (zA E) U U.heap) ∧
  (∀ q ∈ zstrs, vk_R q.1 q.2.1 q.2.2.1 (eA E q.2.2.2) U) ∧ va_AO "HatterTunes$Shop" U ∧ va_AO "HatterTunes$Tape" U
/-- the method in which we stand -/
def ZX (E : ZE) (p : Program) (R : Room) (s : State) (m : MethodId) (args : Array Value) (meth : Method) (c : Code) (cc : ByteArray) (o nL d : Nat) : Prop :=
  p.tables.exec = Jvm.exec ∧ c.code = cc ∧ c.maxLocals = nL ∧ s.vm.findClass (zcn (o % 100)) = some m.cls ∧ (∀ w ∈ zTG, w.before args s = true) ∧ ZT E s ∧ (100 ≤ o → meth.name = "<init>") ∧ d ≤ R.frames ∧ 60 * d ≤ R.locals
/-- what has changed since the method began; how many cells are new -/
def ZV (E : ZE) (s : State) (H : Heap) (locs : List Loc) (cells : Nat) : Prop := va_S (zA E) s.heap H locs ∧ H.size = s.heap.size + cells
def ZPt (E : ZE) (p : Program) (l : Launch) (e : Env) (R : Room) (s : State) (m : MethodId) (args : Array Value) (below : List Frame) (meth : Method) (c : Code) (nL : Nat) (Q : State → Prop) (cells slots pc : Nat) (L : LL) (st : List AV) (h : Hp) : Prop :=
  ∀ (H : Heap) (locs : List Loc) (ls : Array Slot), ZI E H h → ZV E s H locs cells → LRel E ls nL L → W p l e R s m args below meth c H locs cells slots Q (F0 m pc ls (st.map (cv E)))
theorem okst_c {v : AV} {r : List AV} (h : okst (v :: r)) : okv v ∧ okst r := ⟨h v List.mem_cons_self, fun w hw => h w (List.mem_cons_of_mem _ hw)⟩
theorem okst_m {v : AV} {r : List AV} (h : okv v) (hr : okst r) : okst (v :: r) := fun w hw => by
  rcases List.mem_cons.mp hw with rfl | hw
  · exact h
  · exact hr w hw
section ZPU
variable {p : Program} {l0 : Launch} {e : Env} {R : Room} {s : State} {m : MethodId} {args : Array Value} {below : List Frame} {meth : Method} {c : Code} {Q : State → Prop} {E : ZE} {cc : ByteArray} {o pc nL d l cells slots : Nat} {L : LL} {st : List AV} {h : Hp} {pc' : Nat} {L' : LL} {st' : List AV} {h' : Hp}
/-- what a step that leaves the heap as it is comes to -/
def ZOk (E : ZE) (p : Program) (l : Launch) (e : Env) (R : Room) (s : State) (m : MethodId) (args : Array Value) (below : List Frame) (meth : Method) (c : Code) (nL : Nat) (Q : State → Prop) (cells slots pc : Nat) (L : LL) (st : List AV) (h : Hp) (pc' : Nat) (L' : LL) (st' : List AV) (h' : Hp) : Prop :=
  h' = h ∧ okL L' ∧ okst st' ∧ (ZPt E p l e R s m args below meth c nL Q cells slots pc' L' st' h → ZPt E p l e R s m args below meth c nL Q cells slots pc L st h)
theorem zg_i2 {f : Int → Int → Int} (hz : zi2 f pc l L st h = some (.inl (pc', L', st', h'))) (hf : ∀ x y, zr (f x y)) (hL : okL L) (hok : okst st) (hrow : l = 1 → ∀ (H : Heap) (locs : List Loc) (ls : Array Slot) (x y : Int) (rest : List Value), W p l0 e R s m args below meth c H locs cells slots Q (F0 m (pc + 1) ls (.int (zi (f x y)) :: rest)) → W p l0 e R s m args below meth c H locs cells slots Q (F0 m pc ls (.int (zi y) :: .int (zi x) :: rest))) : ZOk E p l0 e R s m args below meth c nL Q cells slots pc L st h pc' L' st' h' := by
  unfold zi2 at hz
  split at hz
  · next y x r =>
    split at hz
    · next hl =>
      unfold zn at hz; cases hz
      exact ⟨rfl, hL, okst_m (hf x y) (okst_c (okst_c hok).2).2, fun k H locs ls hI hS hR => hrow hl H locs ls x y _ (k H locs ls hI hS hR)⟩
    · cases hz
  · cases hz
theorem zg_i2d {f : Int → Int → Int} (hz : zi2d f pc l L st h = some (.inl (pc', L', st', h'))) (hf : ∀ x y, zr (f x y)) (hL : okL L) (hok : okst st) (hrow : l = 1 → ∀ (H : Heap) (locs : List Loc) (ls : Array Slot) (x y : Int) (rest : List Value), ¬ zi y = 0 → W p l0 e R s m args below meth c H locs cells slots Q (F0 m (pc + 1) ls (.int (zi (f x y)) :: rest)) → W p l0 e R s m args below meth c H locs cells slots Q (F0 m pc ls (.int (zi y) :: .int (zi x) :: rest))) : ZOk E p l0 e R s m args below meth c nL Q cells slots pc L st h pc' L' st' h' := by
  unfold zi2d at hz
  split at hz
  · next y x r =>
    split at hz
    · next hl =>
      unfold zn at hz; cases hz
      have hy : zr y := (okst_c hok).1
      exact ⟨rfl, hL, okst_m (hf x y) (okst_c (okst_c hok).2).2, fun k H locs ls hI hS hR => hrow hl.1 H locs ls x y _ (fun z => hl.2 (zi_inj hy zr_0 (by rw [z, zi_0]))) (k H locs ls hI hS hR)⟩
    · cases hz
  · cases hz
theorem zg_i1 {f : Int → AV} (hz : zi1 f pc l L st h = some (.inl (pc', L', st', h'))) (hf : ∀ x, okv (f x)) (hL : okL L) (hok : okst st) (hrow : l = 1 → ∀ (H : Heap) (locs : List Loc) (ls : Array Slot) (x : Int) (rest : List Value), W p l0 e R s m args below meth c H locs cells slots Q (F0 m (pc + 1) ls (cv E (f x) :: rest)) → W p l0 e R s m args below meth c H locs cells slots Q (F0 m pc ls (.int (zi x) :: rest))) : ZOk E p l0 e R s m args below meth c nL Q cells slots pc L st h pc' L' st' h' := by
  unfold zi1 at hz
  split at hz
  · next x r =>
    split at hz
    · next hl =>
      unfold zn at hz; cases hz
      exact ⟨rfl, hL, okst_m (hf x) (okst_c hok).2, fun k H locs ls hI hS hR => hrow hl H locs ls x _ (k H locs ls hI hS hR)⟩
    · cases hz
  · cases hz
theorem zg_j1 {f : Int64 → AV} (hz : zj1 f pc l L st h = some (.inl (pc', L', st', h'))) (hf : ∀ x, okv (f x)) (hL : okL L) (hok : okst st) (hrow : l = 1 → ∀ (H : Heap) (locs : List Loc) (ls : Array Slot) (x : Int64) (rest : List Value), W p l0 e R s m args below meth c H locs cells slots Q (F0 m (pc + 1) ls (cv E (f x) :: rest)) → W p l0 e R s m args below meth c H locs cells slots Q (F0 m pc ls (.long x :: rest))) : ZOk E p l0 e R s m args below meth c nL Q cells slots pc L st h pc' L' st' h' := by
  unfold zj1 at hz
  split at hz
  · next x r =>
    split at hz
    · next hl =>
      unfold zn at hz; cases hz
      exact ⟨rfl, hL, okst_m (hf x) (okst_c hok).2, fun k H locs ls hI hS hR => hrow hl H locs ls x _ (k H locs ls hI hS hR)⟩
    · cases hz
  · cases hz
theorem zg_j2 {f : Int64 → Int64 → AV} (hz : zj2 f pc l L st h = some (.inl (pc', L', st', h'))) (hf : ∀ x y, okv (f x y)) (hL : okL L) (hok : okst st) (hrow : l = 1 → ∀ (H : Heap) (locs : List Loc) (ls : Array Slot) (x y : Int64) (rest : List Value), W p l0 e R s m args below meth c H locs cells slots Q (F0 m (pc + 1) ls (cv E (f x y) :: rest)) → W p l0 e R s m args below meth c H locs cells slots Q (F0 m pc ls (.long y :: .long x :: rest))) : ZOk E p l0 e R s m args below meth c nL Q cells slots pc L st h pc' L' st' h' := by
  unfold zj2 at hz
  split at hz
  · next y x r =>
    split at hz
    · next hl =>
      unfold zn at hz; cases hz
      exact ⟨rfl, hL, okst_m (hf x y) (okst_c (okst_c hok).2).2, fun k H locs ls hI hS hR => hrow hl H locs ls x y _ (k H locs ls hI hS hR)⟩
    · cases hz
  · cases hz
theorem zg_j2d {f : Int64 → Int64 → AV} (hz : zj2d f pc l L st h = some (.inl (pc', L', st', h'))) (hf : ∀ x y, okv (f x y)) (hL : okL L) (hok : okst st) (hrow : l = 1 → ∀ (H : Heap) (locs : List Loc) (ls : Array Slot) (x y : Int64) (rest : List Value), ¬ y = 0 → W p l0 e R s m args below meth c H locs cells slots Q (F0 m (pc + 1) ls (cv E (f x y) :: rest)) → W p l0 e R s m args below meth c H locs cells slots Q (F0 m pc ls (.long y :: .long x :: rest))) : ZOk E p l0 e R s m args below meth c nL Q cells slots pc L st h pc' L' st' h' := by
  unfold zj2d at hz
  split at hz
  · next y x r =>
    split at hz
    · next hl =>
      unfold zn at hz; cases hz
      exact ⟨rfl, hL, okst_m (hf x y) (okst_c (okst_c hok).2).2, fun k H locs ls hI hS hR => hrow hl.1 H locs ls x y _ hl.2 (k H locs ls hI hS hR)⟩
    · cases hz
  · cases hz
theorem zg_ji {f : Int64 → Int → AV} (hz : zji f pc l L st h = some (.inl (pc', L', st', h'))) (hf : ∀ x y, okv (f x y)) (hL : okL L) (hok : okst st) (hrow : l = 1 → ∀ (H : Heap) (locs : List Loc) (ls : Array Slot) (x : Int64) (y : Int) (rest : List Value), W p l0 e R s m args below meth c H locs cells slots Q (F0 m (pc + 1) ls (cv E (f x y) :: rest)) → W p l0 e R s m args below meth c H locs cells slots Q (F0 m pc ls (.int (zi y) :: .long x :: rest))) : ZOk E p l0 e R s m args below meth c nL Q cells slots pc L st h pc' L' st' h' := by
  unfold zji at hz
  split at hz
  · next y x r =>
    split at hz
    · next hl =>
      unfold zn at hz; cases hz
      exact ⟨rfl, hL, okst_m (hf x y) (okst_c (okst_c hok).2).2, fun k H locs ls hI hS hR => hrow hl H locs ls x y _ (k H locs ls hI hS hR)⟩
    · cases hz
  · cases hz
theorem zg_c1 {len : Nat} {v : AV} (hz : zc1 len v pc l L st h = some (.inl (pc', L', st', h'))) (hf : okv v) (hL : okL L) (hok : okst st) (hrow : l = len → ∀ (H : Heap) (locs : List Loc) (ls : Array Slot) (rest : List Value), va_S (zA E) s.heap H locs → W p l0 e R s m args below meth c H locs cells slots Q (F0 m (pc + len) ls (cv E v :: rest)) → W p l0 e R s m args below meth c H locs cells slots Q (F0 m pc ls rest)) : ZOk E p l0 e R s m args below meth c nL Q cells slots pc L st h pc' L' st' h' := by
  unfold zc1 at hz
  split at hz
  · next hl =>
    unfold zn at hz; cases hz
    exact ⟨rfl, hL, okst_m hf hok, fun k H locs ls hI hS hR => hrow hl H locs ls _ hS.1 (k H locs ls hI hS hR)⟩
  · cases hz
theorem zg_ld {t k len : Nat} (hz : zld t k len pc l L st h = some (.inl (pc', L', st', h'))) (hL : okL L) (hok : okst st) (hrow : l = len → ∀ (H : Heap) (locs : List Loc) (ls : Array Slot) (v : AV) (rest : List Value), ztag v = t → ls[k]? = some (.val (cv E v)) → W p l0 e R s m args below meth c H locs cells slots Q (F0 m (pc + len) ls (cv E v :: rest)) → W p l0 e R s m args below meth c H locs cells slots Q (F0 m pc ls rest)) : ZOk E p l0 e R s m args below meth c nL Q cells slots pc L st h pc' L' st' h' := by
  unfold zld at hz
  split at hz
  · next hl =>
    split at hz
    · next v hv =>
      obtain ⟨h1, h2⟩ := zget_some hv
      unfold zn at hz; cases hz
      exact ⟨rfl, hL, okst_m (hL k v h1) hok, fun z H locs ls hI hS hR => hrow hl H locs ls v _ h2 (hR.2.2.2 k v h1) (z H locs ls hI hS hR)⟩
    · cases hz
  · cases hz
theorem zg_sto {t k len : Nat} (hz : zsto t k len pc l L st h = some (.inl (pc', L', st', h'))) (hL : okL L) (hok : okst st) (hrow : l = len → ∀ (H : Heap) (locs : List Loc) (ls : Array Slot) (v : AV) (rest : List Value) (lv : List (Nat × Value)), ztag v = t → lv_has ls nL lv → k < nL → (∀ ls', lv_has ls' nL ((k, cv E v) :: lv.filter (fun q => !(q.1 == k) && !(q.1 + 1 == k && q.2.category == 2))) → W p l0 e R s m args below meth c H locs cells slots Q (F0 m (pc + len) ls' rest)) → W p l0 e R s m args below meth c H locs cells slots Q (F0 m pc ls (cv E v :: rest))) : ZOk E p l0 e R s m args below meth c nL Q cells slots pc L st h pc' L' st' h' := by
  unfold zsto at hz
  split at hz
  · next v r =>
    split at hz
    · next hl =>
      obtain ⟨hl, ht, hp, hk⟩ := hl
      unfold zn at hz; cases hz
      obtain ⟨hv, hr⟩ := okst_c hok
      exact ⟨rfl, hL.set hv, hr, fun z H locs ls hI hS hR => hrow hl H locs ls v _ (zlv E L) ht hR.has (by rw [← hR.2.2.1]; exact hk) (fun ls' h' => z H locs ls' hI hS (hR.set1 hk hp h'))⟩
    · cases hz
  · cases hz
theorem zg_sto2 {k len : Nat} (hz : zsto2 k len pc l L st h = some (.inl (pc', L', st', h'))) (hL : okL L) (hok : okst st) (hrow : l = len → ∀ (H : Heap) (locs : List Loc) (ls : Array Slot) (x : Int64) (rest : List Value) (lv : List (Nat × Value)), lv_has ls nL lv → k + 1 < nL → (∀ ls', lv_has ls' nL ((k, .long x) :: lv.filter (fun q => !(q.1 == k) && (!(q.1 == k + 1) && !(q.1 + 1 == k && q.2.category == 2)))) → W p l0 e R s m args below meth c H locs cells slots Q (F0 m (pc + len) ls' rest)) → W p l0 e R s m args below meth c H locs cells slots Q (F0 m pc ls (.long x :: rest))) : ZOk E p l0 e R s m args below meth c nL Q cells slots pc L st h pc' L' st' h' := by
  unfold zsto2 at hz
  split at hz
  · next v r =>
    split at hz
    · next hl =>
      obtain ⟨hl, ht, hp, hk⟩ := hl
      unfold zn at hz; cases hz
      obtain ⟨hv, hr⟩ := okst_c hok
      rcases v with x | x | x
      · simp [ztag] at ht
      · exact ⟨rfl, (hL.set hv).setN, hr, fun z H locs ls hI hS hR => hrow hl H locs ls x _ (zlv E L) hR.has (by rw [← hR.2.2.1]; exact hk) (fun ls' h' => z H locs ls' hI hS (hR.set2 hk hp h'))⟩
      · cases x <;> simp [ztag] at ht
    · cases hz
  · cases hz
end ZPU
