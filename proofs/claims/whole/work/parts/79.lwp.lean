/-! THE LAW: the loop (printed by wip/whole/gen_law.py's tables; see NOTES) -/
theorem g16 : decode code 16 = .ok (.iconst 0, 1) := by decide +kernel
theorem g17 : decode code 17 = .ok (.istore_n 3, 1) := by decide +kernel
def lwQ (v : Option AV) (h : Hp) : Prop := v = some (vI 1) ∧ zN h ≤ 600000 ∧ zM h ≤ 7302250
section LWP
variable {zl : Nat} {nl : Option Nat} {xs : Nat → Int}
theorem lw_loop (hz : ∀ j, zr (xs j)) (hzl : zl ≤ 3072) : ∀ (m i : Nat) (h : Hp), zl ≤ i + 6 * m + 5 → i ≤ 3078 → Inv zl nl xs h → ZW 40 code 9 18 [some (vR (some 0)), some (vR (some 32)), some (vR (some 137)), some (vI (i : Int))] [] h lwQ := by
  intro m
  induction m with
  | zero =>
    intro i h hm hi I
    refine y_s (pc' := 19) (L' := [some (vR (some 0)), some (vR (some 32)), some (vR (some 137)), some (vI (i : Int))]) (st' := [vI (i : Int)]) (h' := h) g18 rfl ?_
    refine y_s (pc' := 20) (L' := [some (vR (some 0)), some (vR (some 32)), some (vR (some 137)), some (vI (i : Int))]) (st' := [vR (some 0), vI (i : Int)]) (h' := h) g19 rfl ?_
    refine y_al (pc' := 21) g20 (ysS I.w) rfl (by omega) rfl ?_
    refine y_s (pc' := 23) (L' := [some (vR (some 0)), some (vR (some 32)), some (vR (some 137)), some (vI (i : Int))]) (st' := [vI 6, vI (zl : Int), vI (i : Int)]) (h' := h) g21 rfl ?_
    refine y_s (pc' := 24) (L' := [some (vR (some 0)), some (vR (some 32)), some (vR (some 137)), some (vI (i : Int))]) (st' := [vI (zw ((zl : Int) - 6)), vI (i : Int)]) (h' := h) g23 rfl ?_
    rw [zwi (by omega)]
    refine y_ic (pcT := 1194) (pc' := 27) (P := (zl : Int) - 6 < (i : Int)) g24 rfl rfl rfl (fun c => ?_) (fun c => ?_)
    · refine y_s (pc' := 1195) (L' := [some (vR (some 0)), some (vR (some 32)), some (vR (some 137)), some (vI (i : Int))]) (st' := [vI 1]) (h' := h) g1194 rfl ?_
      have w := I.w
      exact y_ri g1195 ⟨rfl, by have := w.2.2.2.1; omega, by have := w.2.2.2.2; omega⟩
    · omega
  | succ m ih =>
    intro i h hm hi I
    refine y_s (pc' := 19) (L' := [some (vR (some 0)), some (vR (some 32)), some (vR (some 137)), some (vI (i : Int))]) (st' := [vI (i : Int)]) (h' := h) g18 rfl ?_
    refine y_s (pc' := 20) (L' := [some (vR (some 0)), some (vR (some 32)), some (vR (some 137)), some (vI (i : Int))]) (st' := [vR (some 0), vI (i : Int)]) (h' := h) g19 rfl ?_
    refine y_al (pc' := 21) g20 (ysS I.w) rfl (by omega) rfl ?_
    refine y_s (pc' := 23) (L' := [some (vR (some 0)), some (vR (some 32)), some (vR (some 137)), some (vI (i : Int))]) (st' := [vI 6, vI (zl : Int), vI (i : Int)]) (h' := h) g21 rfl ?_
    refine y_s (pc' := 24) (L' := [some (vR (some 0)), some (vR (some 32)), some (vR (some 137)), some (vI (i : Int))]) (st' := [vI (zw ((zl : Int) - 6)), vI (i : Int)]) (h' := h) g23 rfl ?_
    rw [zwi (by omega)]
    refine y_ic (pcT := 1194) (pc' := 27) (P := (zl : Int) - 6 < (i : Int)) g24 rfl rfl rfl (fun c => ?_) (fun c => ?_)
    · refine y_s (pc' := 1195) (L' := [some (vR (some 0)), some (vR (some 32)), some (vR (some 137)), some (vI (i : Int))]) (st' := [vI 1]) (h' := h) g1194 rfl ?_
      have w := I.w
      exact y_ri g1195 ⟨rfl, by have := w.2.2.2.1; omega, by have := w.2.2.2.2; omega⟩
    · have hi6 : i + 6 ≤ zl := by omega
      have k : ∀ h2, Inv zl nl xs h2 → ZW 40 code 9 1188 [some (vR (some 0)), some (vR (some 32)), some (vR (some 137)), some (vI (i : Int))] [] h2 lwQ := by
        intro h2 I2
        refine y_inc (pc' := 1191) (L' := [some (vR (some 0)), some (vR (some 32)), some (vR (some 137)), some (vI ((i + 6 : Nat) : Int))]) (k := 3) (c := 6) (x := (i : Int)) g1188 rfl rfl ?_ rfl ?_
        · show [some (vR (some 0)), some (vR (some 32)), some (vR (some 137)), some (vI (i : Int))].set 3 (some (vI (zw ((i : Int) + 6)))) = _
          rw [zwi (by omega), show (i : Int) + 6 = ((i + 6 : Nat) : Int) by omega]
          rfl
        refine y_s (pc' := 18) (L' := [some (vR (some 0)), some (vR (some 32)), some (vR (some 137)), some (vI ((i + 6 : Nat) : Int))]) (st' := []) (h' := h2) g1191 rfl ?_
        exact ih (i + 6) h2 (by omega) (by omega) I2
      clear ih
      refine y_s (pc' := 28) (L' := [some (vR (some 0)), some (vR (some 32)), some (vR (some 137)), some (vI (i : Int))]) (st' := [vR (some 0)]) (h' := h) g27 rfl ?_
      refine y_s (pc' := 29) (L' := [some (vR (some 0)), some (vR (some 32)), some (vR (some 137)), some (vI (i : Int))]) (st' := [vI (i : Int), vR (some 0)]) (h' := h) g28 rfl ?_
      refine y_ia (pc' := 30) (x := xs i) g29 (ysS I.w) (by omega) (by rw [show ((i : Int)).toNat = i by omega]; exact I.xss _) rfl ?_
      refine y_s (pc' := 32) (L' := [some (vR (some 0)), some (vR (some 32)), some (vR (some 137)), some (vI (i : Int))]) (st' := [vI 31, vI (xs i)]) (h' := h) g30 rfl ?_
      refine y_s (pc' := 33) (L' := [some (vR (some 0)), some (vR (some 32)), some (vR (some 137)), some (vI (i : Int))]) (st' := [vI (zi (xs i) &&& zi 31).toInt]) (h' := h) g32 rfl ?_
      generalize (zi (xs i) &&& zi 31).toInt = v
      by_cases c0 : v = 0
      · exact y_tc (pc' := 172) (v := 0) g33 c0 rfl rfl rfl (lw_c0 I hz hi6 hzl k)
      by_cases c1 : v = 1
      · exact y_tc (pc' := 205) (v := 1) g33 c1 rfl rfl rfl (lw_c1 I hz hi6 hzl k)
      by_cases c2 : v = 2
      · exact y_tc (pc' := 238) (v := 2) g33 c2 rfl rfl rfl (lw_c2 I hz hi6 hzl k)
      by_cases c3 : v = 3
      · exact y_tc (pc' := 281) (v := 3) g33 c3 rfl rfl rfl (lw_c3 I hz hi6 hzl k)
      by_cases c4 : v = 4
      · exact y_tc (pc' := 304) (v := 4) g33 c4 rfl rfl rfl (lw_c4 I hz hi6 hzl k)
      by_cases c5 : v = 5
      · exact y_tc (pc' := 347) (v := 5) g33 c5 rfl rfl rfl (lw_c5 I hz hi6 hzl k)
      by_cases c6 : v = 6
      · exact y_tc (pc' := 370) (v := 6) g33 c6 rfl rfl rfl (lw_c6 I hz hi6 hzl k)
      by_cases c7 : v = 7
      · exact y_tc (pc' := 383) (v := 7) g33 c7 rfl rfl rfl (lw_c7 I hz hi6 hzl k)
      by_cases c8 : v = 8
      · exact y_tc (pc' := 406) (v := 8) g33 c8 rfl rfl rfl (lw_c8 I hz hi6 hzl k)
      by_cases c9 : v = 9
      · exact y_tc (pc' := 429) (v := 9) g33 c9 rfl rfl rfl (lw_c9 I hz hi6 hzl k)
      by_cases c10 : v = 10
      · exact y_tc (pc' := 472) (v := 10) g33 c10 rfl rfl rfl (lw_c10 I hz hi6 hzl k)
      by_cases c11 : v = 11
      · exact y_tc (pc' := 505) (v := 11) g33 c11 rfl rfl rfl (lw_c11 I hz hi6 hzl k)
      by_cases c12 : v = 12
      · exact y_tc (pc' := 538) (v := 12) g33 c12 rfl rfl rfl (lw_c12 I hz hi6 hzl k)
      by_cases c13 : v = 13
      · exact y_tc (pc' := 591) (v := 13) g33 c13 rfl rfl rfl (lw_c13 I hz hi6 hzl k)
      by_cases c14 : v = 14
      · exact y_tc (pc' := 624) (v := 14) g33 c14 rfl rfl rfl (lw_c14 I hz hi6 hzl k)
      by_cases c15 : v = 15
      · exact y_tc (pc' := 658) (v := 15) g33 c15 rfl rfl rfl (lw_c15 I hz hi6 hzl k)
      by_cases c16 : v = 16
      · exact y_tc (pc' := 692) (v := 16) g33 c16 rfl rfl rfl (lw_c16 I hz hi6 hzl k)
      by_cases c17 : v = 17
      · exact y_tc (pc' := 725) (v := 17) g33 c17 rfl rfl rfl (lw_c17 I hz hi6 hzl k)
      by_cases c18 : v = 18
      · exact y_tc (pc' := 748) (v := 18) g33 c18 rfl rfl rfl (lw_c18 I hz hi6 hzl k)
      by_cases c19 : v = 19
      · exact y_tc (pc' := 781) (v := 19) g33 c19 rfl rfl rfl (lw_c19 I hz hi6 hzl k)
      by_cases c20 : v = 20
      · exact y_tc (pc' := 794) (v := 20) g33 c20 rfl rfl rfl (lw_c20 I hz hi6 hzl k)
      by_cases c21 : v = 21
      · exact y_tc (pc' := 827) (v := 21) g33 c21 rfl rfl rfl (lw_c21 I hz hi6 hzl k)
      by_cases c22 : v = 22
      · exact y_tc (pc' := 840) (v := 22) g33 c22 rfl rfl rfl (lw_c22 I hz hi6 hzl k)
      by_cases c23 : v = 23
      · exact y_tc (pc' := 853) (v := 23) g33 c23 rfl rfl rfl (lw_c23 I hz hi6 hzl k)
      by_cases c24 : v = 24
      · exact y_tc (pc' := 896) (v := 24) g33 c24 rfl rfl rfl (lw_c24 I hz hi6 hzl k)
      by_cases c25 : v = 25
      · exact y_tc (pc' := 919) (v := 25) g33 c25 rfl rfl rfl (lw_c25 I hz hi6 hzl k)
      by_cases c26 : v = 26
      · exact y_tc (pc' := 952) (v := 26) g33 c26 rfl rfl rfl (lw_c26 I hz hi6 hzl k)
      by_cases c27 : v = 27
      · exact y_tc (pc' := 975) (v := 27) g33 c27 rfl rfl rfl (lw_c27 I hz hi6 hzl k)
      by_cases c28 : v = 28
      · exact y_tc (pc' := 1018) (v := 28) g33 c28 rfl rfl rfl (lw_c28 I hz hi6 hzl k)
      by_cases c29 : v = 29
      · exact y_tc (pc' := 1091) (v := 29) g33 c29 rfl rfl rfl (lw_c29 I hz hi6 hzl k)
      by_cases c30 : v = 30
      · exact y_tc (pc' := 1125) (v := 30) g33 c30 rfl rfl rfl (lw_c30 I hz hi6 hzl k)
      refine y_td (pc' := 1188) g33 (by omega) rfl (k h I)
theorem lw_main (hz : ∀ j, zr (xs j)) (hzl : zl ≤ 3072) {h : Hp} (I : Inv zl nl xs h) : ZW 40 code 9 16 [some (vR (some 0)), some (vR (some 32)), some (vR (some 137)), none] [] h lwQ := by
  refine y_s (pc' := 17) (L' := [some (vR (some 0)), some (vR (some 32)), some (vR (some 137)), none]) (st' := [vI 0]) (h' := h) g16 rfl ?_
  refine y_s (pc' := 18) (L' := [some (vR (some 0)), some (vR (some 32)), some (vR (some 137)), some (vI ((0 : Nat) : Int))]) (st' := []) (h' := h) g17 rfl ?_
  exact lw_loop hz hzl 512 0 h (by omega) (by omega) I
end LWP
