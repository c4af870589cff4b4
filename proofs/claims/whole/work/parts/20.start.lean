/-! THE CLAIM OUT OF ONE WALK OF THE LAW'S BODY. Your part is whole_start (and what it stands on); all else here is the same for every law, but numbers. -/
def R_law : String := "HatterTunesLaw"
def lw_P (b : Addr) (xs : List Int32) (args : Array Value) (s : State) : Prop := args = #[.ref b] ∧ s.IntsAt b xs ∧ xs.length ≤ 3072 ∧ (Jvm.Cond.and given_1 narrow_1).before args s = true
def lw_Q (_ : Array Value) (s : State) (o : Outcome) (t : State) : Prop := o = .returned (some (.int 1)) ∧ Framed s o t [] 600000 7302250
def lw_Z (below : List Frame) (a : Array Value) (s : State) : State → Prop := fun t => ∃ o, t.status = .running ∧ Ended t below o ∧ lw_Q a s o t
/-- the law's own end, with 1 on the stack, nothing written that was there before, its room as the claim has it -/
theorem lw_ret {p : Program} {l : Launch} {e : Env} {s : State} {m : MethodId} {below : List Frame} {meth : Method} {c : Code} {b : Nat} (hx : p.tables.exec = Jvm.exec) (hb : c.code = code) (hr : meth.sig.returnType = ret) (hlocks : meth.locks = false) {pc : Nat} {H : Heap} {ls : Array Slot} (hdg : decode code pc = .ok (.ireturn, 1)) : W p l e room_1 s m #[Value.ref b] below meth c H [] 600000 7302250 (lw_Z below #[Value.ref b] s) (F0 m pc ls [.int 1]) := by
  intro T hT X
  obtain ⟨fs, hret, hrun, hended, hW, hframe⟩ := X.leave (v := some (.int 1)) (hlocks := hlocks) (fun h => by rw [hr] at h; cases h)
  have hmeth' : T.vm.method? m = some meth := X.method'
  refine ⟨T.setFrames fs, ?_, .returned (some (.int 1)), hrun, hended, rfl, ⟨_, rfl⟩, hW, hframe⟩
  jvm_step X.here [X.here.top, hx, hb, hdg, hmeth', hr, ret, narrow_b1]
  (try refine ⟨rfl, ?_⟩); (try refine ⟨rfl, ?_⟩)
  first | (intro acts; rw [hret _ acts rfl rfl rfl]) | rw [hret _ _ rfl rfl rfl]
  exact Steps.refl _
/-- what holds at the law's entry: the machine, the code, the tables' words (any of lw_tbl by 'hts w (by decide +kernel)'), the script of L ints xs at the cell b, what the Statement gives of the start (any of its parts by flat_of_before) -/
def lw_At (p : Program) (s : State) (m : MethodId) (meth : Method) (c : Code) (b L : Nat) (xs : Nat → Int32) : Prop :=
  p.tables.exec = Jvm.exec ∧ c.code = code ∧ meth.sig.returnType = ret ∧ c.maxLocals = 4 ∧ s.vm.findClass R_law = some m.cls ∧ (∀ w ∈ lw_tbl, w.before #[Value.ref b] s = true) ∧ va_X b L xs s s.heap ∧ b < s.heap.size ∧ meth.locks = false ∧ (Jvm.Cond.and given_1 narrow_1).before #[Value.ref b] s = true
/-! THE START: the statement's premises give an environment -/
def zh0 (L : Nat) (xs : Nat → Int) (nl : Option Nat) : Hp := (zbS L, zbV xs, fun _ _ => 0, zbP nl, 0, 0)
def znar : List Cond := flatC (Jvm.Cond.and given_1 narrow_1)
def ztS (c n d : String) : Term := .static c n d
/-- the three arrays: a static's name, the ref, the size -/
def zarrs : List (String × Nat × Nat) := [("POWERS", 1, 7), ("ABOVE", 2, 7), ("BODIES", 3, 21)]
def zarr_c (q : String × Nat × Nat) : List Cond := [.arrayOf (ztS "HatterTunes" q.1 "[I") .int, .eq (.length (ztS "HatterTunes" q.1 "[I")) (.int (Int32.ofNat q.2.2))] ++ (List.range q.2.2).map (fun j => .eq (.elem (ztS "HatterTunes" q.1 "[I") (.int (Int32.ofNat j))) (.int (zi ((zbvT.getD q.2.1 []).getD j 0))))
theorem zarr_ok : (zarrs.all fun q => (zarr_c q).all fun c => decide (c ∈ znar)) = true := by decide +kernel
def zstr_t (q : String × Nat × String × Nat) : Term := .string q.1 q.2.1
def zstr_n (q : String × Nat × String × Nat) : Nat := (zbvT.getD (q.2.2.2 + 1) []).length
def zstr_c (q : String × Nat × String × Nat) : List Cond := [.exactly (zstr_t q) "java/lang/String", .eq (.field (zstr_t q) "java/lang/String" "coder" "B") (.int 0), .arrayOf (.field (zstr_t q) "java/lang/String" "value" "[B") .byte, .eq (.length (.field (zstr_t q) "java/lang/String" "value" "[B")) (.int (Int32.ofNat (zstr_n q)))] ++ (List.range (zstr_n q)).map (fun j => .eq (.elem (.field (zstr_t q) "java/lang/String" "value" "[B") (.int (Int32.ofNat j))) (.int (zi ((zbvT.getD (q.2.2.2 + 1) []).getD j 0))))
theorem zstr_ok : (zstrs.all fun q => (zstr_c q).all fun c => decide (c ∈ znar)) = true := by decide +kernel
theorem zoth_ok : (Cond.eq (ztS "java/lang/String" "COMPACT_STRINGS" "Z") (.int 1)) ∈ znar ∧ (Cond.isRef (ztS "jdk/internal/util/Preconditions" "SIOOBE_FORMATTER" "Ljava/util/function/BiFunction;")) ∈ znar := by decide +kernel
def zls (j : Nat) : Bool := decide (lw_tbl[(zlsT.getD j (0, 0)).1]? = some (.laysStatic (zstq j).1 (zstq j).2.1 (zstq j).2.2.1)) && decide (lw_tbl[(zlsT.getD j (0, 0)).2]? = some (.initialized (zstq j).1))
theorem zls_ok : (List.range 5).all zls = true := by decide +kernel
theorem zsr_ok : ((List.range 8).all fun i => decide (lw_tbl[zsrT.getD i 0]? = some (.stringRef (zstrs.getD i ("", 0, "", 0)).1 (zstrs.getD i ("", 0, "", 0)).2.1 (zstrs.getD i ("", 0, "", 0)).2.2.1)) && decide ((zstrs.getD i ("", 0, "", 0)).2.2.2 = 4 + 2 * i)) = true := by decide +kernel
theorem zao2_ok : lw_tbl[zaoT.getD 0 0]? = some (.arrayOver (.object "HatterTunes$Shop")) ∧ lw_tbl[zaoT.getD 1 0]? = some (.arrayOver (.object "HatterTunes$Tape")) := by decide +kernel
theorem zTG_lw : ∀ w ∈ zTG, w ∈ lw_tbl := fun w hw => (List.mem_filter.mp hw).1
theorem zbS_1 (L : Nat) : ∀ b, b < 32 → (zbS L b).1 = 1 → b = 0 ∨ (b = 1 ∧ zbS L b = (1, 7)) ∨ (b = 2 ∧ zbS L b = (1, 7)) ∨ (b = 3 ∧ zbS L b = (1, 21)) := by
  intro b hb h
  by_cases h0 : b = 0
  · exact Or.inl h0
  · have q : ∀ b, b < 32 → (decide (b = 0) || (decide ((zbsT.getD b (0, 0)).1 ≠ 1) || ((decide (b = 1) && decide (zbsT.getD b (0, 0) = (1, 7))) || ((decide (b = 2) && decide (zbsT.getD b (0, 0) = (1, 7))) || (decide (b = 3) && decide (zbsT.getD b (0, 0) = (1, 21))))))) = true := by decide +kernel
    unfold zbS at h ⊢
    rw [if_neg h0] at h ⊢
    have q1 := q b hb
    simp only [Bool.or_eq_true, Bool.and_eq_true, decide_eq_true_eq] at q1
    rcases q1 with q1 | q1 | q1 | q1 | q1
    · exact absurd q1 h0
    · exact absurd h q1
    · exact Or.inr (Or.inl q1)
    · exact Or.inr (Or.inr (Or.inl q1))
    · exact Or.inr (Or.inr (Or.inr q1))
theorem zbS_4 (L : Nat) : ∀ b, b < 32 → (zbS L b).1 = 4 → ∃ i, i < 8 ∧ b = 5 + 2 * i ∧ zbS L b = (4, zstr_n (zstrs.getD i ("", 0, "", 0))) := by
  intro b hb h
  by_cases h0 : b = 0
  · subst h0; exact absurd h (by show ¬ (1 = 4); decide)
  · have q : ∀ b, b < 32 → b ≠ 0 → (zbsT.getD b (0, 0)).1 = 4 → ∃ i, i < 8 ∧ b = 5 + 2 * i ∧ zbsT.getD b (0, 0) = (4, zstr_n (zstrs.getD i ("", 0, "", 0))) := by decide +kernel
    unfold zbS at h ⊢
    rw [if_neg h0] at h ⊢
    exact q b hb h0 h
theorem zbS_20 (L : Nat) : ∀ b, b < 32 → (zbS L b).1 = 20 → ∃ i, i < 8 ∧ b = 4 + 2 * i := by
  intro b hb h
  by_cases h0 : b = 0
  · subst h0; exact absurd h (by show ¬ (1 = 20); decide)
  · have q : ∀ b, b < 32 → b ≠ 0 → (zbsT.getD b (0, 0)).1 = 20 → ∃ i, i < 8 ∧ b = 4 + 2 * i := by decide +kernel
    unfold zbS at h
    rw [if_neg h0] at h
    exact q b hb h0 h
theorem zstr_mem {i : Nat} (h : i < 8) : zstrs.getD i ("", 0, "", 0) ∈ zstrs := by
  match i, h with
  | 0, _ | 1, _ | 2, _ | 3, _ | 4, _ | 5, _ | 6, _ | 7, _ => simp [zstrs]
theorem zbV_ok {xs : Nat → Int} (hx : ∀ j, zr (xs j)) (a k : Nat) : zr (zbV xs a k) := by
  unfold zbV
  split
  · exact hx k
  · have q : (zbvT.all fun r => r.all fun x => decide (-2147483648 ≤ x ∧ x < 2147483648)) = true := by decide +kernel
    by_cases ha : a < zbvT.length
    · have q1 : zbvT.getD a [] ∈ zbvT := by
        rw [List.getD_eq_getElem?_getD, List.getElem?_eq_getElem ha]
        exact List.getElem_mem ha
      have q2 := List.all_eq_true.mp q _ q1
      by_cases hk : k < (zbvT.getD a []).length
      · have q3 : (zbvT.getD a []).getD k 0 ∈ zbvT.getD a [] := by
          rw [List.getD_eq_getElem?_getD (l := zbvT.getD a []), List.getElem?_eq_getElem hk]
          exact List.getElem_mem hk
        exact of_decide_eq_true (p := -2147483648 ≤ (zbvT.getD a []).getD k 0 ∧ (zbvT.getD a []).getD k 0 < 2147483648) (List.all_eq_true.mp q2 _ q3)
      · rw [List.getD_eq_getElem?_getD (l := zbvT.getD a []), List.getElem?_eq_none (by omega)]
        exact zr_0
    · rw [List.getD_eq_getElem?_getD (l := zbvT), List.getElem?_eq_none (by omega)]
      exact zr_0
/-- what holds at the law's start, as our environment -/
theorem zenv {p : Program} {s : State} {m : MethodId} {meth : Method} {c : Code} {b L : Nat} {xs : Nat → Int32} (hL : L ≤ 3072) (C0 : lw_At p s m meth c b L xs) : ∃ E : ZE, eA E 0 = b ∧ eB E = s.heap.size ∧ eL E = L ∧ eX E = (fun j => (xs j).toInt) ∧ ZT E s := by
  obtain ⟨hx, hb, hr, hml, hown, hts, hX, hbl, hlocks, hgv⟩ := C0
  have hA : ∀ a : Nat, a < s.heap.size → ¬ s.heap.size ≤ a := fun a h => by omega
  have hflat : ∀ w ∈ znar, w.before #[Value.ref b] s = true := fun w hw => flat_of_before _ hgv w hw
  -- classes
  have hcls : ∀ ci : Nat, ∃ q : ClassId × (Nat → Nat), ci < 9 → u_Kn s (zcn ci) (zT ci) (zNf ci) q.1 q.2 := by
    intro ci
    by_cases hci : ci < 9
    · have h4 := List.all_eq_true.mp zcT_ok ci (List.mem_range.mpr hci)
      unfold zcT at h4
      simp only [Bool.and_eq_true] at h4
      obtain ⟨cC, iS, h⟩ := u_known (ws := lw_tbl) hts (fun w hw => zTG_lw w (zlay_in hci w hw)) (hts _ (zTG_lw _ (zck_mem h4.1)))
      exact ⟨(cC, iS), fun _ => h⟩
    · exact ⟨(0, fun _ => 0), fun h => absurd h hci⟩
  obtain ⟨kf, hkf⟩ := Classical.axiomOfChoice hcls
  -- array classes
  obtain ⟨c1, k1, m1, a1, a2, a3⟩ := Cond.arrayClass_spec (hts _ (zTG_lw _ (zck_mem zar_ok.1)))
  obtain ⟨c2, k2, m2, b1, b2, b3⟩ := Cond.arrayClass_spec (hts _ (zTG_lw _ (zck_mem zar_ok.2.1)))
  obtain ⟨c3, k3, m3, d1, d2, d3⟩ := Cond.arrayClass_spec (hts _ (zTG_lw _ (zck_mem zar_ok.2.2)))
  have hao1 := hts _ (List.mem_of_getElem? zao2_ok.1)
  have hao2 := hts _ (List.mem_of_getElem? zao2_ok.2)
  obtain ⟨m5, c5, k5, f1, -, f3, f4, f5⟩ := Cond.arrayOver_spec hao1
  obtain ⟨m6, c6, k6, g1, -, g3, g4, g5⟩ := Cond.arrayOver_spec hao2
  have hArr : ∀ (c0 : ClassId) (k0 : Class) (m0 : ClassId) (ty : FieldType), s.vm.classes[c0]? = some k0 → k0.kind = .array m0 ty → ArrOfT s c0 ty := fun c0 k0 m0 ty h1 h2 n z => ⟨fun k h => (by cases h), k0, h1, m0, h2⟩
  -- arrays of the class
  have harr : ∀ q ∈ zarrs, ∃ t : Nat, (ztS "HatterTunes" q.1 "[I").eval #[Value.ref b] s none [] s = some (.ref t) ∧ va_T .int t q.2.2 (fun j => .int (zi ((zbvT.getD q.2.1 []).getD j 0))) (fun a => s.heap.size ≤ a) s s.heap := by
    intro q hq
    have h1 := List.all_eq_true.mp zarr_ok q hq
    have h2 : ∀ w ∈ zarr_c q, w.before #[Value.ref b] s = true := fun w hw => hflat w (of_decide_eq_true (List.all_eq_true.mp h1 w hw))
    have hn : q.2.2 < 2 ^ 31 := by
      simp only [zarrs, List.mem_cons, List.not_mem_nil, or_false] at hq
      rcases hq with rfl | rfl | rfl <;> decide
    exact va_Tof hn (h2 _ (by simp [zarr_c])) (va_eqt (h2 _ (by simp [zarr_c]))) (fun j hj => va_eqt (h2 _ (by
      refine List.mem_append_right _ (List.mem_map.mpr ⟨j, List.mem_range.mpr hj, rfl⟩)))) hA
  obtain ⟨tP, tP1, tP2⟩ := harr ("POWERS", 1, 7) (by simp [zarrs])
  obtain ⟨tA, tA1, tA2⟩ := harr ("ABOVE", 2, 7) (by simp [zarrs])
  obtain ⟨tB, tB1, tB2⟩ := harr ("BODIES", 3, 21) (by simp [zarrs])
  -- texts
  have hstr : ∀ i : Nat, ∃ q : Nat × Nat, i < 8 → (zstr_t (zstrs.getD i ("", 0, "", 0))).eval #[Value.ref b] s none [] s = some (.ref q.1) ∧ va_O "java/lang/String" q.1 (fun a => s.heap.size ≤ a) s s.heap ∧ va_OF "java/lang/String" "coder" "B" (.int 0) q.1 (fun a => s.heap.size ≤ a) s s.heap ∧ va_OF "java/lang/String" "value" "[B" (.ref q.2) q.1 (fun a => s.heap.size ≤ a) s s.heap ∧ va_T .byte q.2 (zstr_n (zstrs.getD i ("", 0, "", 0))) (fun j => .int (zi ((zbvT.getD (5 + 2 * i) []).getD j 0))) (fun a => s.heap.size ≤ a) s s.heap := by
    intro i
    by_cases hi : i < 8
    · generalize hq : zstrs.getD i ("", 0, "", 0) = q
      have hqm : q ∈ zstrs := by rw [← hq]; exact zstr_mem hi
      have hq4 : q.2.2.2 = 4 + 2 * i := by
        have := List.all_eq_true.mp zsr_ok i (List.mem_range.mpr hi)
        simp only [Bool.and_eq_true, decide_eq_true_eq] at this
        rw [← hq]; exact this.2
      have h1 := List.all_eq_true.mp zstr_ok q hqm
      have h2 : ∀ w ∈ zstr_c q, w.before #[Value.ref b] s = true := fun w hw => hflat w (of_decide_eq_true (List.all_eq_true.mp h1 w hw))
      have hn : zstr_n q < 2 ^ 31 := by
        have : ∀ q ∈ zstrs, zstr_n q < 100 := by decide +kernel
        exact Nat.lt_trans (this q hqm) (by decide)
      obtain ⟨aK, aV, hV, hE⟩ := vk_Sof (N := 1) (tm := fun _ => zstr_t q) (len := [zstr_n q]) (byt := [(List.range (zstr_n q)).map (fun j => zi ((zbvT.getD (q.2.2.2 + 1) []).getD j 0))]) (A := fun a => s.heap.size ≤ a) (args := #[Value.ref b]) (s := s)
        (fun i hi => by rw [show i = 0 by omega]; exact hn) (fun _ _ => h2 _ (by simp [zstr_c])) (fun _ _ => h2 _ (by simp [zstr_c])) (fun _ _ => h2 _ (by simp [zstr_c])) (fun i hi => by rw [show i = 0 by omega]; exact h2 _ (by simp [zstr_c]))
        (fun i hi j hj => by
          rw [show i = 0 by omega] at hj ⊢
          have hj : j < zstr_n q := hj
          refine h2 _ (List.mem_append_right _ (List.mem_map.mpr ⟨j, List.mem_range.mpr hj, ?_⟩))
          simp [hj]) (fun i j hi hj hne => absurd (show i = j by omega) hne) hA
      obtain ⟨o1, o2, o3, o4⟩ := hV.1 0 (by omega)
      refine ⟨(aK 0, aV 0), fun _ => ⟨hE 0 (by omega), o1, o2, o3, ?_⟩⟩
      obtain ⟨cell, y1, y2, y3, y4, y5, y6, y7⟩ := o4
      refine ⟨cell, y1, y2, y3, y4, y5, fun j hj => ?_, y7⟩
      rw [y6 j hj]
      have hj : j < zstr_n q := hj
      simp [hj, hq4, show 4 + 2 * i + 1 = 5 + 2 * i by omega]
    · exact ⟨(0, 0), fun h => absurd h hi⟩
  obtain ⟨sf, hsf⟩ := Classical.axiomOfChoice hstr
  -- statics
  have hst : ∀ j, j < 5 → (Cond.laysStatic (zstq j).1 (zstq j).2.1 (zstq j).2.2.1).before #[Value.ref b] s = true ∧ (Cond.initialized (zstq j).1).before #[Value.ref b] s = true := by
    intro j hj
    have := List.all_eq_true.mp zls_ok j (List.mem_range.mpr hj)
    unfold zls at this
    simp only [Bool.and_eq_true, decide_eq_true_eq] at this
    exact ⟨hts _ (List.mem_of_getElem? this.1), hts _ (List.mem_of_getElem? this.2)⟩
  have hS0 := va_Zof (A := fun a => s.heap.size ≤ a) (hst 0 (by omega)).1 (hst 0 (by omega)).2 tP1 hA
  have hS1 := va_Zof (A := fun a => s.heap.size ≤ a) (hst 1 (by omega)).1 (hst 1 (by omega)).2 tA1 hA
  have hS2 := va_Zof (A := fun a => s.heap.size ≤ a) (hst 2 (by omega)).1 (hst 2 (by omega)).2 tB1 hA
  have hS3 := va_Zof (A := fun a => s.heap.size ≤ a) (hst 3 (by omega)).1 (hst 3 (by omega)).2 (va_eqt (hflat _ zoth_ok.1)) hA
  have hS4 : ∃ (nl : Option Nat) (t : Nat), (nl = none ∨ nl = some 31) ∧ va_Z (zstq 4).1 (zstq 4).2.1 (zstq 4).2.2.1 (va_rf (nl.map fun _ => t)) (fun a => s.heap.size ≤ a) s s.heap := by
    rcases va_Zqof (A := fun a => s.heap.size ≤ a) (hst 4 (by omega)).1 (hst 4 (by omega)).2 (hflat _ zoth_ok.2) hA with h | ⟨t, h⟩
    · exact ⟨none, 0, Or.inl rfl, h⟩
    · exact ⟨some 31, t, Or.inr rfl, h⟩
  obtain ⟨nl, tS, hnl, hS4⟩ := hS4
  let ad : Nat → Nat := fun a => if a = 0 then b else if a = 1 then tP else if a = 2 then tA else if a = 3 then tB else if a = 31 then tS else if a % 2 = 0 then (sf ((a - 4) / 2)).1 else (sf ((a - 4) / 2)).2
  let E : ZE := (ad, s.heap.size, fun k => (kf k).1, fun k => (kf k).2, fun k => if k = 1 then c1 else if k = 2 then c2 else if k = 3 then c3 else if k = 5 then c5 else c6, L, fun j => (xs j).toInt, nl)
  have eK : ∀ i, i < 8 → eA E (4 + 2 * i) = (sf i).1 := by
    intro i hi
    show ad (4 + 2 * i) = _
    simp only [ad]
    rw [if_neg (by omega), if_neg (by omega), if_neg (by omega), if_neg (by omega), if_neg (by omega), if_pos (by omega), show (4 + 2 * i - 4) / 2 = i by omega]
  have eV : ∀ i, i < 8 → eA E (5 + 2 * i) = (sf i).2 := by
    intro i hi
    show ad (5 + 2 * i) = _
    simp only [ad]
    rw [if_neg (by omega), if_neg (by omega), if_neg (by omega), if_neg (by omega), if_neg (by omega), if_neg (by omega), show (5 + 2 * i - 4) / 2 = i by omega]
  refine ⟨E, rfl, rfl, rfl, rfl, ⟨fun k q hq => ?_, fun k q hq => ?_⟩, Nat.le_refl _, fun w hw => ?_, fun q hq => ?_, fun b' n hb' hbn => ?_, fun b' n hb' hbn => ?_, fun b' hb' hbn => ?_, fun q hq => ?_, va_AO.of hao1, va_AO.of hao2⟩
  · have hk : k < 9 := (List.getElem?_eq_some_iff.mp hq).1
    rw [zcls9_get hk] at hq
    cases hq
    exact hkf k hk
  · have hk : k < 5 := (List.getElem?_eq_some_iff.mp hq).1
    match k, hk, hq with
    | 0, _, hq => cases hq; exact ⟨hArr _ _ _ _ a2 a3, a1⟩
    | 1, _, hq => cases hq; exact ⟨hArr _ _ _ _ b2 b3, b1⟩
    | 2, _, hq => cases hq; exact ⟨hArr _ _ _ _ d2 d3, d1⟩
    | 3, _, hq => cases hq; exact ⟨hArr _ _ _ _ f3 f4, k5, m5, f3, f4, f1, f5⟩
    | 4, _, hq => cases hq; exact ⟨hArr _ _ _ _ g3 g4, k6, m6, g3, g4, g1, g5⟩
  · have hn : znst w = true := (List.mem_filter.mp hw).2
    have hw' := hts w (List.mem_filter.mp hw).1
    unfold znst at hn
    split at hn
    · exact va_Nw.of rfl hw'
    · exact va_Nw.of rfl hw'
    · cases hn
  · simp only [zstats, List.mem_cons, List.not_mem_nil, or_false] at hq
    rcases hq with rfl | rfl | rfl | rfl | rfl
    · exact hS0
    · exact hS1
    · exact hS2
    · exact hS3
    · rcases hnl with h | h
      · have e1 : cv E (zstE E (vR (some 30))) = .null := by
          show cv E (vR nl) = _
          rw [h]; rfl
        rw [h] at hS4
        show va_Z _ _ _ (cv E (zstE E (vR (some 30)))) _ _ _
        rw [e1]
        exact hS4
      · have e1 : cv E (zstE E (vR (some 30))) = .ref tS := by
          show cv E (vR nl) = _
          rw [h]; rfl
        rw [h] at hS4
        show va_Z _ _ _ (cv E (zstE E (vR (some 30)))) _ _ _
        rw [e1]
        exact hS4
  · rcases zbS_1 L b' hb' (by rw [show zbS L b' = (1, n) from hbn]) with rfl | ⟨rfl, h⟩ | ⟨rfl, h⟩ | ⟨rfl, h⟩
    · have : n = L := (congrArg Prod.snd hbn).symm
      subst this
      refine ⟨by omega, ?_⟩
      obtain ⟨scr, x1, x2, x3, x4, x5⟩ := hX
      refine ⟨scr, x1, x2, x3, by omega, by rw [x4], fun j hj => ?_, hA b hbl⟩
      rw [x5 j hj]
      show some (Value.int (xs j)) = some (.int (zi (xs j).toInt))
      rw [zi_of]
    · have : n = 7 := (congrArg Prod.snd ((show zbS L 1 = (1, n) from hbn).symm.trans h))
      subst this
      exact ⟨by omega, tP2⟩
    · have : n = 7 := (congrArg Prod.snd ((show zbS L 2 = (1, n) from hbn).symm.trans h))
      subst this
      exact ⟨by omega, tA2⟩
    · have : n = 21 := (congrArg Prod.snd ((show zbS L 3 = (1, n) from hbn).symm.trans h))
      subst this
      exact ⟨by omega, tB2⟩
  · obtain ⟨i, hi, rfl, h⟩ := zbS_4 L b' hb' (by rw [show zbS L b' = (4, n) from hbn])
    have hn : n = zstr_n (zstrs.getD i ("", 0, "", 0)) := (congrArg Prod.snd ((show zbS L (5 + 2 * i) = (4, n) from hbn).symm.trans h))
    subst hn
    have hlt : ∀ q ∈ zstrs, zstr_n q < 100 := by decide +kernel
    refine ⟨Nat.lt_trans (hlt _ (zstr_mem hi)) (by decide), ?_⟩
    rw [eV i hi]
    have := (hsf i hi).2.2.2.2
    have e1 : (fun j => Value.int (zi (zbV (eX E) (5 + 2 * i) j))) = fun j => .int (zi ((zbvT.getD (5 + 2 * i) []).getD j 0)) := by
      funext j
      unfold zbV
      rw [if_neg (by omega)]
    rw [e1]
    exact this
  · obtain ⟨i, hi, rfl⟩ := zbS_20 L b' hb' (by rw [show zbS L b' = (20, 2) from hbn])
    obtain ⟨-, o1, o2, o3, -⟩ := hsf i hi
    rw [eK i hi]
    refine ⟨o1, ?_, ?_⟩
    · have e1 : cv E (vR (zbP (eN E) (4 + 2 * i) 0)) = .ref (sf i).2 := by
        unfold zbP
        rw [if_neg (by omega), if_pos (by omega)]
        show Value.ref (zad E (4 + 2 * i + 1)) = _
        unfold zad
        rw [if_pos (by omega), show 4 + 2 * i + 1 = 5 + 2 * i by omega, eV i hi]
      rw [e1]
      exact o3
    · have e1 : cv E (vI (zbV (eX E) (4 + 2 * i) 1)) = .int 0 := by
        have : ∀ i, i < 8 → (zbvT.getD (4 + 2 * i) []).getD 1 0 = 0 := by decide +kernel
        unfold zbV
        rw [if_neg (by omega), this i hi]
        show Value.int (zi 0) = _
        rw [zi_0]
      rw [e1]
      exact o2
  · obtain ⟨i, hi, hqi⟩ : ∃ i, i < 8 ∧ q = zstrs.getD i ("", 0, "", 0) := by
      obtain ⟨i, hi⟩ := List.getElem?_of_mem hq
      have hl := (List.getElem?_eq_some_iff.mp hi).1
      exact ⟨i, hl, by rw [List.getD_eq_getElem?_getD, hi]; rfl⟩
    have h1 := List.all_eq_true.mp zsr_ok i (List.mem_range.mpr hi)
    simp only [Bool.and_eq_true, decide_eq_true_eq] at h1
    rw [← hqi] at h1
    rw [h1.2, eK i hi]
    have h2 := (hsf i hi).1
    rw [← hqi] at h2
    exact vk_R.of (hts _ (List.mem_of_getElem? h1.1)) h2
