/-! SOUNDNESS 4: the tables say what the Statement's words say -/
def zck (pl : Nat) (w : Cond) : Bool := decide (lw_tbl[pl]? = some w) && goodWord w
def zckN (pl : Nat) (w : Cond) : Bool := decide (lw_tbl[pl]? = some w) && znst w
theorem zck_mem {pl : Nat} {w : Cond} (h : zck pl w = true) : w ∈ zTG := by
  unfold zck at h
  simp only [Bool.and_eq_true, decide_eq_true_eq] at h
  exact List.mem_filter.mpr ⟨List.mem_of_getElem? h.1, h.2⟩
theorem zckN_mem {pl : Nat} {w : Cond} (h : zckN pl w = true) : w ∈ znest := by
  unfold zckN at h
  simp only [Bool.and_eq_true, decide_eq_true_eq] at h
  exact List.mem_filter.mpr ⟨List.mem_of_getElem? h.1, h.2⟩
theorem zfind {α β : Type} {l : List (Nat × α)} {i : Nat} {f : α → β} {v : β} (h : (l.find? (fun e => e.1 == i)).map (fun e => f e.2) = some v) : ∃ a, (i, a) ∈ l ∧ f a = v := by
  cases hf : l.find? (fun e => e.1 == i) with
  | none => rw [hf] at h; cases h
  | some x =>
    rw [hf] at h
    cases h
    have h1 := List.find?_some hf
    have h2 := List.mem_of_find?_eq_some hf
    obtain ⟨a, b⟩ := x
    have h3 : a = i := by simpa using h1
    subst h3
    exact ⟨b, h2, rfl⟩
def zall {α : Type} (T : List (List α)) (c : Nat → α → Bool) : Bool := (List.range T.length).all fun k => (T.getD k []).all (c k)
theorem zall_of {α : Type} {T : List (List α)} {c : Nat → α → Bool} (h : zall T c = true) {k : Nat} {e : α} (he : e ∈ T.getD k []) : c k e = true := by
  by_cases hk : k < T.length
  · exact List.all_eq_true.mp (List.all_eq_true.mp h k (List.mem_range.mpr hk)) e he
  · rw [List.getD_eq_getElem?_getD, List.getElem?_eq_none (by omega)] at he
    cases he
def zcF (o : Nat) (e : Nat × Nat × Nat × Nat) : Bool := (decide (e.2.1 < 9) && (decide (e.2.2.1 < zNf e.2.1) && zck e.2.2.2 (.fieldLink (zcn o) e.1 (zT e.2.1 e.2.2.1).1 (zT e.2.1 e.2.2.1).2.1 (zT e.2.1 e.2.2.1).2.2.1))) || (decide (e.2.1 = 9) && ((decide (e.2.2.1 = 0) && zck e.2.2.2 (.fieldLink (zcn o) e.1 "java/lang/String" "value" "[B")) || (decide (e.2.2.1 = 1) && zck e.2.2.2 (.fieldLink (zcn o) e.1 "java/lang/String" "coder" "B"))))
theorem zcF_ok : zall zfldT zcF = true := by decide +kernel
def zstq (j : Nat) : String × String × String × AV := zstats.getD j ("", "", "", vI 0)
def zcS (o : Nat) (e : Nat × Nat × Bool × Nat) : Bool := decide (e.2.1 < 5) && (if e.2.2.1 = true then zckN e.2.2.2 (.fieldLinkNest (zcn o) e.1 (zstq e.2.1).1 (zstq e.2.1).2.1 (zstq e.2.1).2.2.1 "HatterTunes") else zck e.2.2.2 (.fieldLink (zcn o) e.1 (zstq e.2.1).1 (zstq e.2.1).2.1 (zstq e.2.1).2.2.1))
theorem zcS_ok : zall zstatT zcS = true := by decide +kernel
def zcC (o : Nat) (e : Nat × Nat × Nat) : Bool := decide (e.2.1 < 9) && zck e.2.2 (.classLink (zcn o) e.1 (zcn e.2.1))
theorem zcC_ok : zall zclT zcC = true := by decide +kernel
def zcL (o : Nat) (e : Nat × AV × Nat) : Bool := match e.2.1 with
  | .inl x => decide (-2147483648 ≤ x ∧ x < 2147483648) && zck e.2.2 (.constant (zcn o) e.1 (zi x))
  | .inr (.inr (some b)) => decide (b < 32) && zstrs.any (fun q => q.1 == zcn o && q.2.1 == e.1 && q.2.2.2 == b)
  | _ => false
theorem zcL_ok : zall zldcT zcL = true := by decide +kernel
def zcL2 (o : Nat) (e : Nat × Int64 × Nat) : Bool := zck e.2.2 (.constantLong (zcn o) e.1 e.2.1)
theorem zcL2_ok : zall zldc2T zcL2 = true := by decide +kernel
def zpl (z : Nat) : Nat × Nat × Nat × Nat := zplT.getD z (0, 0, 0, 0)
def zcM (o : Nat) (e : Nat × Nat × Nat × Nat) : Bool :=
  (decide (e.2.1 = 0) && decide (e.2.2.1 < 219) && decide (e.2.2.1 ≠ 1) && _root_.Jvm.plainName (zmn e.2.2.1).cls && zck e.2.2.2 (.methodLink (zcn o) e.1 (zmn e.2.2.1)) && zck (zpl e.2.2.1).2.1 (.instanceMethod (zmn e.2.2.1)) && zck (zpl e.2.2.1).2.2.1 (.selects (zmn e.2.2.1).cls (zmn e.2.2.1) (zmn e.2.2.1)))
  || (decide (e.2.1 = 1) && decide (e.2.2.1 < 219) && decide (e.2.2.1 ≠ 1) && _root_.Jvm.plainName (zmn e.2.2.1).cls && zck e.2.2.2 (.methodLink (zcn o) e.1 (zmn e.2.2.1)) && zck (zpl e.2.2.1).2.1 (.instanceMethod (zmn e.2.2.1)) && decide ((zmn e.2.2.1).name = "<init>") && decide (zrt e.2.2.1 = 0))
  || (decide (e.2.1 = 2) && decide (e.2.2.1 < 219) && decide (e.2.2.1 ≠ 1) && _root_.Jvm.plainName (zmn e.2.2.1).cls && zck e.2.2.2 (.methodLink (zcn o) e.1 (zmn e.2.2.1)) && zck (zpl e.2.2.1).2.1 (.static (zmn e.2.2.1)))
  || (decide (e.2.1 = 4) && decide (e.2.2.1 < 219) && decide (e.2.2.1 ≠ 1) && _root_.Jvm.plainName (zmn e.2.2.1).cls && zckN e.2.2.2 (.methodLinkNest (zcn o) e.1 (zmn e.2.2.1) "HatterTunes") && zck (zpl e.2.2.1).2.1 (.instanceMethod (zmn e.2.2.1)) && decide ((zmn e.2.2.1).name = "<init>") && decide (zrt e.2.2.1 = 0))
  || (decide (e.2.1 = 5) && decide (e.2.2.1 < 219) && decide (e.2.2.1 ≠ 1) && _root_.Jvm.plainName (zmn e.2.2.1).cls && zckN e.2.2.2 (.methodLinkNest (zcn o) e.1 (zmn e.2.2.1) "HatterTunes") && zck (zpl e.2.2.1).2.1 (.static (zmn e.2.2.1)))
  || (decide (e.2.1 = 9) && zck e.2.2.2 (.methodLink (zcn o) e.1 Lib.objectInit))
  || (decide (e.2.1 = 10) && zck e.2.2.2 (.methodLink (zcn o) e.1 arraycopyName))
  || (decide (e.2.1 = 11) && zck e.2.2.2 (.methodLink (zcn o) e.1 Lib.Math.min.name))
  || (decide (e.2.1 = 12) && zck e.2.2.2 (.methodLink (zcn o) e.1 Lib.Math.max.name))
  || (decide (e.2.1 = 13) && zck e.2.2.2 (.methodLink (zcn o) e.1 Lib.MathLoose.abs_long.x))
  || (decide (e.2.1 = 14) && zck e.2.2.2 (.methodLink (zcn o) e.1 ⟨"java/lang/Math", "floorMod", "(II)I"⟩))
theorem zcM_ok : zall zmthT zcM = true := by decide +kernel
def zcZ (z : Nat) : Bool := decide (z = 1) || (zck (zpl z).2.2.2 (.initialized (zmn z).cls) && decide ((zmn z).cls ≠ "java/lang/invoke/MethodHandle") && decide ((zmn z).cls ≠ "java/lang/invoke/VarHandle") && decide ((parseMethodDescriptor (zmn z).desc).map (fun d => d.parameters.length) = some (zna z)) && decide (zcn (zo z % 100) = (zmn z).cls) && decide (100 ≤ zo z → (zmn z).name = "<init>") && decide (zml z ≤ 20) && decide (zrt z ≤ 5))
set_option maxRecDepth 100000 in
theorem zcode_ok : (List.range 219).map (fun z => Cond.code (zmn z) (zb z) (zml z) (zretT (zrt z))) = ((List.range 219).map (fun z => (zpl z).1)).filterMap (fun i => lw_tbl[i]?) := by rfl
theorem zcode_mem {z : Nat} (h : z < 219) : Cond.code (zmn z) (zb z) (zml z) (zretT (zrt z)) ∈ zTG := by
  have h1 : Cond.code (zmn z) (zb z) (zml z) (zretT (zrt z)) ∈ (List.range 219).map (fun z => Cond.code (zmn z) (zb z) (zml z) (zretT (zrt z))) := List.mem_map.mpr ⟨z, List.mem_range.mpr h, rfl⟩
  rw [zcode_ok] at h1
  obtain ⟨i, -, hi⟩ := List.mem_filterMap.mp h1
  exact List.mem_filter.mpr ⟨List.mem_of_getElem? hi, rfl⟩
theorem zcZ_ok : (List.range 219).all zcZ = true := by decide +kernel
def zcT (ci : Nat) : Bool := zck (zcpT.getD ci (0, 0)).1 (.instantiable (zcn ci) (zNf ci)) && zck (zcpT.getD ci (0, 0)).2 (.initialized (zcn ci))
theorem zcT_ok : (List.range 9).all zcT = true := by decide +kernel
def zlayok (ci : Nat) : Bool := decide (u_ws (zcn ci) (zT ci) (zNf ci) = (zlayT.getD ci []).filterMap (fun i => lw_tbl[i]?)) && (u_ws (zcn ci) (zT ci) (zNf ci)).all goodWord
theorem zlay_ok : (List.range 9).all zlayok = true := by decide +kernel
theorem zlay_in {ci : Nat} (h : ci < 9) : ∀ w ∈ u_ws (zcn ci) (zT ci) (zNf ci), w ∈ zTG := by
  intro w hw
  have h1 := List.all_eq_true.mp zlay_ok ci (List.mem_range.mpr h)
  unfold zlayok at h1
  simp only [Bool.and_eq_true, decide_eq_true_eq] at h1
  have h2 := List.all_eq_true.mp h1.2 w hw
  rw [h1.1] at hw
  obtain ⟨i, -, hi⟩ := List.mem_filterMap.mp hw
  exact List.mem_filter.mpr ⟨List.mem_of_getElem? hi, h2⟩
theorem zar_ok : zck (zarT.getD 0 0) (.arrayClass .int) = true ∧ zck (zarT.getD 1 0) (.arrayClass .boolean) = true ∧ zck (zarT.getD 2 0) (.arrayClass .long) = true := by decide +kernel
theorem zac_ok : zck (zacT.getD 0 0) (.native arraycopyName) = true ∧ zck (zacT.getD 1 0) (.static arraycopyName) = true ∧ zck (zacT.getD 2 0) (.initialized "java/lang/System") = true := by decide +kernel
theorem zoi_ok : zck (zpl 1).1 (.code Lib.objectInit ⟨#[0xb1]⟩ 1 none) = true ∧ zck (zpl 1).2.1 (.instanceMethod Lib.objectInit) = true := by decide +kernel
def zpfd (ci k : Nat) : FieldType := (parseFieldDescriptor (zT ci k).2.2.1).getD .int
def zfok (ci k : Nat) : Bool := decide (parseFieldDescriptor (zT ci k).2.2.1 = some (zpfd ci k)) && decide ((zT ci k).1 = zcn ci) && decide ((zT ci k).2.2.2 = zfin ci k) && (match zpfd ci k with
  | .int => decide (zft ci k = 0)
  | .boolean => decide (zft ci k = 1)
  | .object _ => decide (zft ci k = 2)
  | .array _ => decide (zft ci k = 2)
  | _ => false) && (List.range (zNf ci)).all (fun j => decide (j = k) || decide ((zT ci k).2.1 ≠ (zT ci j).2.1))
theorem zfok_ok : (List.range 9).all (fun ci => (List.range (zNf ci)).all (zfok ci)) = true := by decide +kernel
theorem zcls9_get {ci : Nat} (h : ci < 9) : zcls9[ci]? = some (zcn ci, zT ci, zNf ci) := by
  unfold zcls9
  rw [List.getElem?_map]
  match ci, h with
  | 0, _ | 1, _ | 2, _ | 3, _ | 4, _ | 5, _ | 6, _ | 7, _ | 8, _ => rfl
