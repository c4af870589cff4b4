/-! THE CONSTRUCTORS: the heap after n cells, w references, v ints (printed by wip/whole/gen_ctor.py) -/
def cPW : List (Nat × Nat × Nat) := [(33, 0, 34), (33, 1, 35), (33, 2, 36), (32, 0, 33), (37, 0, 38), (37, 1, 39), (37, 2, 40), (37, 3, 41), (37, 4, 42), (37, 5, 43), (44, 0, 45), (37, 6, 44), (46, 0, 47), (37, 7, 46), (48, 0, 49), (37, 8, 48), (50, 0, 51), (37, 9, 50), (37, 12, 33), (32, 1, 37), (52, 0, 53), (52, 1, 54), (52, 2, 55), (52, 3, 56), (52, 4, 57), (52, 5, 58), (59, 0, 60), (52, 6, 59), (61, 0, 62), (52, 7, 61), (63, 0, 64), (52, 8, 63), (65, 0, 66), (52, 9, 65), (52, 12, 33), (32, 2, 52), (67, 0, 68), (67, 1, 69), (67, 2, 70), (67, 3, 71), (67, 4, 72), (67, 5, 73), (74, 0, 75), (67, 6, 74), (76, 0, 77), (67, 7, 76), (78, 0, 79), (67, 8, 78), (80, 0, 81), (67, 9, 80), (67, 12, 33), (32, 3, 67), (82, 0, 83), (32, 5, 82), (32, 6, 84), (32, 8, 85), (86, 0, 87), (32, 9, 86), (88, 0, 89), (88, 1, 90), (88, 2, 91), (88, 3, 92), (32, 10, 88), (93, 0, 94), (93, 1, 95), (93, 2, 96), (84, 0, 93), (97, 0, 98), (97, 1, 99), (97, 2, 100), (84, 1, 97), (101, 0, 102), (101, 1, 103), (101, 2, 104), (84, 2, 101), (105, 0, 106), (105, 1, 107), (105, 2, 108), (84, 3, 105), (109, 0, 110), (109, 1, 111), (109, 2, 112), (84, 4, 109), (113, 0, 114), (113, 1, 115), (113, 2, 116), (84, 5, 113), (117, 0, 118), (85, 0, 117), (119, 0, 120), (85, 1, 119), (121, 0, 122), (85, 2, 121), (123, 0, 124), (85, 3, 123), (125, 0, 126), (85, 4, 125), (127, 0, 128), (85, 5, 127), (129, 1, 130), (129, 2, 131), (129, 3, 132), (129, 4, 133), (129, 5, 134), (129, 7, 135), (129, 10, 136), (129, 17, 137), (129, 18, 138), (129, 19, 139), (129, 20, 140), (129, 21, 141), (129, 22, 142), (129, 24, 143), (129, 26, 144), (129, 27, 145), (129, 28, 146), (129, 29, 147), (129, 31, 148), (129, 32, 149), (129, 34, 150), (129, 35, 151), (129, 37, 152), (129, 39, 153), (129, 40, 154), (129, 41, 155), (129, 42, 156), (129, 43, 157), (129, 44, 158), (129, 46, 159), (129, 47, 160), (129, 48, 161)]
def cVW : List (Nat × Nat × Int) := [(117, 1, -1), (119, 1, -1), (121, 1, -1), (123, 1, -1), (125, 1, -1), (127, 1, -1), (129, 16, -1), (159, 0, -1), (159, 1, -1), (159, 2, -1), (159, 3, -1), (159, 4, -1), (159, 5, -1)]
def fP (l : List (Nat × Nat × Nat)) (f : Nat → Nat → Option Nat) : Nat → Nat → Option Nat := match l with
  | [] => f
  | e :: l => fP l (fun a k => if a = e.1 ∧ k = e.2.1 then some e.2.2 else f a k)
def fV (l : List (Nat × Nat × Int)) (f : Nat → Nat → Int) : Nat → Nat → Int := match l with
  | [] => f
  | e :: l => fV l (fun a k => if a = e.1 ∧ k = e.2.1 then e.2.2 else f a k)
def HH (zl : Nat) (xs : Nat → Int) (nl : Option Nat) (n w v : Nat) : Hp := (fun b => if b < 32 + n then yTS zl b else (0, 0), fV (cVW.take v) (zbV xs), fun _ _ => 0, fP (cPW.take w) (zbP nl), n, ((yTb.take n).map (fun e => e.2)).sum)
section CTO
variable {zl : Nat} {nl : Option Nat} {xs : Nat → Int} {n w v a k q kd sz : Nat} {x : Int}
theorem fP_no : ∀ (l : List (Nat × Nat × Nat)) (f : Nat → Nat → Option Nat) (a k : Nat), l.all (fun e => !(e.1 == a)) = true → fP l f a k = f a k
  | [], _, _, _, _ => rfl
  | e :: l, f, a, k, h => by
    rw [List.all_cons, Bool.and_eq_true] at h
    show fP l _ a k = _
    rw [fP_no l _ a k h.2, if_neg]
    rintro ⟨rfl, rfl⟩
    simp at h
theorem fV_no : ∀ (l : List (Nat × Nat × Int)) (f : Nat → Nat → Int) (a k : Nat), l.all (fun e => !(e.1 == a)) = true → fV l f a k = f a k
  | [], _, _, _, _ => rfl
  | e :: l, f, a, k, h => by
    rw [List.all_cons, Bool.and_eq_true] at h
    show fV l _ a k = _
    rw [fV_no l _ a k h.2, if_neg]
    rintro ⟨rfl, rfl⟩
    simp at h
theorem fP_app : ∀ (l m : List (Nat × Nat × Nat)) (f : Nat → Nat → Option Nat), fP (l ++ m) f = fP m (fP l f)
  | [], _, _ => rfl
  | e :: l, m, f => fP_app l m _
theorem fV_app : ∀ (l m : List (Nat × Nat × Int)) (f : Nat → Nat → Int), fV (l ++ m) f = fV m (fV l f)
  | [], _, _ => rfl
  | e :: l, m, f => fV_app l m _
theorem HH_0 : zh0 zl xs nl = HH zl xs nl 0 0 0 := by
  refine Prod.ext ?_ (Prod.ext rfl (Prod.ext rfl (Prod.ext rfl (Prod.ext rfl rfl))))
  funext b
  show zbS zl b = if b < 32 + 0 then yTS zl b else (0, 0)
  by_cases h : b < 32 + 0
  · rw [if_pos h]
    unfold yTS
    rw [if_pos (by omega)]
  · rw [if_neg h]
    unfold zbS
    rw [if_neg (by omega), List.getD_eq_getElem?_getD, List.getElem?_eq_none (by show 20 ≤ b; omega)]
    rfl
theorem HH_P (e : cPW[w]? = some (a, k, q)) : zsetP (HH zl xs nl n w v) a k (some q) = HH zl xs nl n (w + 1) v := by
  refine Prod.ext rfl (Prod.ext rfl (Prod.ext rfl (Prod.ext ?_ (Prod.ext rfl rfl))))
  show (fun b j => if b = a ∧ j = k then some q else fP (cPW.take w) (zbP nl) b j) = fP (cPW.take (w + 1)) (zbP nl)
  rw [List.take_succ, e, fP_app]
  rfl
theorem HH_V (e : cVW[v]? = some (a, k, x)) : zsetV (HH zl xs nl n w v) a k x = HH zl xs nl n w (v + 1) := by
  refine Prod.ext rfl (Prod.ext ?_ (Prod.ext rfl (Prod.ext rfl (Prod.ext rfl rfl))))
  show (fun b j => if b = a ∧ j = k then x else fV (cVW.take v) (zbV xs) b j) = fV (cVW.take (v + 1)) (zbV xs)
  rw [List.take_succ, e, fV_app]
  rfl
theorem HH_mk (e : yTb[n]? = some (kd, sz)) (hP : (cPW.take w).all (fun e => !(e.1 == 32 + n)) = true) (hV : (cVW.take v).all (fun e => !(e.1 == 32 + n)) = true) : zmk kd sz (HH zl xs nl n w v) = HH zl xs nl (n + 1) w v := by
  refine Prod.ext ?_ (Prod.ext ?_ (Prod.ext ?_ (Prod.ext ?_ (Prod.ext rfl ?_))))
  · funext b
    show (if b = 32 + n then (kd, sz) else if b < 32 + n then yTS zl b else (0, 0)) = if b < 32 + (n + 1) then yTS zl b else (0, 0)
    by_cases h : b = 32 + n
    · rw [if_pos h, if_pos (by omega), h]
      unfold yTS
      rw [if_neg (by omega), Nat.add_sub_cancel_left, List.getD_eq_getElem?_getD, e]
      rfl
    · rw [if_neg h]
      by_cases h2 : b < 32 + n
      · rw [if_pos h2, if_pos (by omega)]
      · rw [if_neg h2, if_neg (by omega)]
  · funext b j
    show (if b = 32 + n then 0 else fV (cVW.take v) (zbV xs) b j) = fV (cVW.take v) (zbV xs) b j
    by_cases h : b = 32 + n
    · rw [if_pos h, h, fV_no _ _ _ _ hV]
      unfold zbV
      rw [if_neg (by omega), List.getD_eq_getElem?_getD (l := zbvT), List.getElem?_eq_none (by show 20 ≤ 32 + n; omega)]
      rfl
    · rw [if_neg h]
  · funext b j
    show (if b = 32 + n then (0 : Int64) else 0) = 0
    split <;> rfl
  · funext b j
    show (if b = 32 + n then none else fP (cPW.take w) (zbP nl) b j) = fP (cPW.take w) (zbP nl) b j
    by_cases h : b = 32 + n
    · rw [if_pos h, h, fP_no _ _ _ _ hP]
      unfold zbP
      rw [if_neg (by omega), if_neg (by omega)]
    · rw [if_neg h]
  · show ((yTb.take n).map (fun e => e.2)).sum + sz = ((yTb.take (n + 1)).map (fun e => e.2)).sum
    rw [List.take_succ, e, List.map_append, List.sum_append]
    rfl
end CTO
