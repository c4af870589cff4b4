/-! THE CONSTRUCTORS: the heap after n cells, w references, v ints (printed by wip/whole/gen_ctor.py) -/
def cPW : List (Nat × Nat × Nat) := [(33, 0, 34), (33, 1, 35), (33, 2, 36), (33, 3, 37), (33, 4, 38), (33, 5, 39), (40, 0, 41), (33, 6, 40), (42, 0, 43), (33, 7, 42), (44, 0, 45), (33, 8, 44), (46, 0, 47), (33, 9, 46), (48, 0, 49), (48, 1, 50), (48, 2, 51), (33, 12, 48), (32, 0, 33), (52, 0, 53), (52, 1, 54), (52, 2, 55), (52, 3, 56), (52, 4, 57), (52, 5, 58), (59, 0, 60), (52, 6, 59), (61, 0, 62), (52, 7, 61), (63, 0, 64), (52, 8, 63), (65, 0, 66), (52, 9, 65), (67, 0, 68), (67, 1, 69), (67, 2, 70), (52, 12, 67), (32, 1, 52), (71, 0, 72), (71, 1, 73), (71, 2, 74), (71, 3, 75), (71, 4, 76), (71, 5, 77), (78, 0, 79), (71, 6, 78), (80, 0, 81), (71, 7, 80), (82, 0, 83), (71, 8, 82), (84, 0, 85), (71, 9, 84), (86, 0, 87), (86, 1, 88), (86, 2, 89), (71, 12, 86), (32, 2, 71), (90, 0, 91), (32, 4, 90), (32, 5, 92), (32, 7, 93), (94, 0, 95), (32, 8, 94), (96, 0, 97), (96, 1, 98), (96, 2, 99), (96, 3, 100), (32, 9, 96), (101, 0, 102), (101, 1, 103), (101, 2, 104), (92, 0, 101), (105, 0, 106), (105, 1, 107), (105, 2, 108), (92, 1, 105), (109, 0, 110), (109, 1, 111), (109, 2, 112), (92, 2, 109), (113, 0, 114), (113, 1, 115), (113, 2, 116), (92, 3, 113), (117, 0, 118), (117, 1, 119), (117, 2, 120), (92, 4, 117), (121, 0, 122), (121, 1, 123), (121, 2, 124), (92, 5, 121), (125, 0, 126), (93, 0, 125), (127, 0, 128), (93, 1, 127), (129, 0, 130), (93, 2, 129), (131, 0, 132), (93, 3, 131), (133, 0, 134), (93, 4, 133), (135, 0, 136), (93, 5, 135), (137, 1, 138), (137, 2, 139), (137, 3, 140), (137, 4, 141), (137, 5, 142), (137, 7, 143), (137, 10, 144), (137, 17, 145), (137, 18, 146), (137, 19, 147), (137, 20, 148), (137, 21, 149), (137, 22, 150), (137, 24, 151), (137, 26, 152), (137, 27, 153), (137, 28, 154), (137, 29, 155), (137, 31, 156), (137, 32, 157), (137, 34, 158), (137, 35, 159), (137, 37, 160), (137, 39, 161), (137, 40, 162), (137, 41, 163), (137, 42, 164), (137, 43, 165), (137, 44, 166), (137, 46, 167), (137, 47, 168), (137, 48, 169)]
def cVW : List (Nat × Nat × Int) := [(125, 1, -1), (127, 1, -1), (129, 1, -1), (131, 1, -1), (133, 1, -1), (135, 1, -1), (137, 16, -1), (167, 0, -1), (167, 1, -1), (167, 2, -1), (167, 3, -1), (167, 4, -1), (167, 5, -1)]
def fP (l : List (Nat × Nat × Nat)) (f : Nat → Nat → Option Nat) : Nat → Nat → Option Nat := match l with
  | [] => f
  | e :: l => fP l (fun a k => if a = e.1 ∧ k = e.2.1 then some e.2.2 else f a k)
def fV (l : List (Nat × Nat × Int)) (f : Nat → Nat → Int) : Nat → Nat → Int := match l with
  | [] => f
  | e :: l => fV l (fun a k => if a = e.1 ∧ k = e.2.1 then e.2.2 else f a k)
def HH (zl : Nat) (xs : Nat → Int) (nl : Option Nat) (n w v : Nat) : Hp := (fun b => if b < 32 + n then yTS zl b else (0, 0), fV (cVW.take v) (zbV xs), fun _ _ => 0, fP (cPW.take w) (zbP nl), n, ((yTb.take n).map (fun e => e.2)).sum)
section CTO
variable {zl : Nat} {nl : Option Nat} {xs : Nat → Int} {n w v a k q kd sz : Nat} {x : Int}
theorem fP_no : ∀ (l : List (Nat × Nat × Nat)) (f : Nat → Nat → Option Nat) (a k : Nat), l.all (fun e => !(e.1 == a)) = true → fP l f a k = f a k
  | [], _, _, _, _ => rfl
  | e :: l, f, a, k, h => by
    rw [List.all_cons, Bool.and_eq_true] at h
    show fP l _ a k = _
    rw [fP_no l _ a k h.2, if_neg]
    rintro ⟨rfl, rfl⟩
    simp at h
theorem fV_no : ∀ (l : List (Nat × Nat × Int)) (f : Nat → Nat → Int) (a k : Nat), l.all (fun e => !(e.1 == a)) = true → fV l f a k = f a k
  | [], _, _, _, _ => rfl
  | e :: l, f, a, k, h => by
    rw [List.all_cons, Bool.and_eq_true] at h
    show fV l _ a k = _
    rw [fV_no l _ a k h.2, if_neg]
    rintro ⟨rfl, rfl⟩
    simp at h
theorem fP_app : ∀ (l m : List (Nat × Nat × Nat)) (f : Nat → Nat → Option Nat), fP (l ++ m) f = fP m (fP l f)
  | [], _, _ => rfl
  | e :: l, m, f => fP_app l m _
theorem fV_app : ∀ (l m : List (Nat × Nat × Int)) (f : Nat → Nat → Int), fV (l ++ m) f = fV m (fV l f)
  | [], _, _ => rfl
  | e :: l, m, f => fV_app l m _
theorem HH_0 : zh0 zl xs nl = HH zl xs nl 0 0 0 := by
  refine Prod.ext ?_ (Prod.ext rfl (Prod.ext rfl (Prod.ext rfl (Prod.ext rfl rfl))))
  funext b
  show zbS zl b = if b < 32 + 0 then yTS zl b else (0, 0)
  by_cases h : b < 32 + 0
  · rw [if_pos h]
    unfold yTS
    rw [if_pos (by omega)]
  · rw [if_neg h]
    unfold zbS
    rw [if_neg (by omega), List.getD_eq_getElem?_getD, List.getElem?_eq_none (by show 20 ≤ b; omega)]
    rfl
theorem HH_P (e : cPW[w]? = some (a, k, q)) : zsetP (HH zl xs nl n w v) a k (some q) = HH zl xs nl n (w + 1) v := by
  refine Prod.ext rfl (Prod.ext rfl (Prod.ext rfl (Prod.ext ?_ (Prod.ext rfl rfl))))
  show (fun b j => if b = a ∧ j = k then some q else fP (cPW.take w) (zbP nl) b j) = fP (cPW.take (w + 1)) (zbP nl)
  rw [List.take_succ, e, fP_app]
  rfl
theorem HH_V (e : cVW[v]? = some (a, k, x)) : zsetV (HH zl xs nl n w v) a k x = HH zl xs nl n w (v + 1) := by
  refine Prod.ext rfl (Prod.ext ?_ (Prod.ext rfl (Prod.ext rfl (Prod.ext rfl rfl))))
  show (fun b j => if b = a ∧ j = k then x else fV (cVW.take v) (zbV xs) b j) = fV (cVW.take (v + 1)) (zbV xs)
  rw [List.take_succ, e, fV_app]
  rfl
theorem HH_mk (e : yTb[n]? = some (kd, sz)) (hP : (cPW.take w).all (fun e => !(e.1 == 32 + n)) = true) (hV : (cVW.take v).all (fun e => !(e.1 == 32 + n)) = true) : zmk kd sz (HH zl xs nl n w v) = HH zl xs nl (n + 1) w v := by
  refine Prod.ext ?_ (Prod.ext ?_ (Prod.ext ?_ (Prod.ext ?_ (Prod.ext rfl ?_))))
  · funext b
    show (if b = 32 + n then (kd, sz) else if b < 32 + n then yTS zl b else (0, 0)) = if b < 32 + (n + 1) then yTS zl b else (0, 0)
    by_cases h : b = 32 + n
    · rw [if_pos h, if_pos (by omega), h]
      unfold yTS
      rw [if_neg (by omega), Nat.add_sub_cancel_left, List.getD_eq_getElem?_getD, e]
      rfl
    · rw [if_neg h]
      by_cases h2 : b < 32 + n
      · rw [if_pos h2, if_pos (by omega)]
      · rw [if_neg h2, if_neg (by omega)]
  · funext b j
    show (if b = 32 + n then 0 else fV (cVW.take v) (zbV xs) b j) = fV (cVW.take v) (zbV xs) b j
    by_cases h : b = 32 + n
    · rw [if_pos h, h, fV_no _ _ _ _ hV]
      unfold zbV
      rw [if_neg (by omega), List.getD_eq_getElem?_getD (l := zbvT), List.getElem?_eq_none (by show 20 ≤ 32 + n; omega)]
      rfl
    · rw [if_neg h]
  · funext b j
    show (if b = 32 + n then (0 : Int64) else 0) = 0
    split <;> rfl
  · funext b j
    show (if b = 32 + n then none else fP (cPW.take w) (zbP nl) b j) = fP (cPW.take w) (zbP nl) b j
    by_cases h : b = 32 + n
    · rw [if_pos h, h, fP_no _ _ _ _ hP]
      unfold zbP
      rw [if_neg (by omega), if_neg (by omega)]
    · rw [if_neg h]
  · show ((yTb.take n).map (fun e => e.2)).sum + sz = ((yTb.take (n + 1)).map (fun e => e.2)).sum
    rw [List.take_succ, e, List.map_append, List.sum_append]
    rfl
end CTO
