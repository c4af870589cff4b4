/-! CLAUSES, as functions of the text alone -/
def pwrd (T : Nat → Int) (n : Nat) : List Int → Nat → Nat × Bool
  | [], p => (p, true)
  | c :: cs, p => if ptk T n p c = true then pwrd T n cs (p + 1) else (p, false)
def pbend (T : Nat → Int) (n : Nat) (w : Int) (q : Nat) : Nat × Option (Int × Int × List Int) := match pnum T n q with
  | (r, none) => (r, none)
  | (r, some v) => if ptk T n r 32 = true then (match pE T n 4 (r + 1) with
    | (u, none) => (u, none)
    | (u, some b) => (u, some (w, v, b))) else (r, none)
def pgro (T : Nat → Int) (n : Nat) (q : Nat) : Nat × Option (Int × Int × List Int) := match pnum T n q with
  | (r, none) => (r, none)
  | (r, some v) => (r, some (2, v, []))
def pcla (T : Nat → Int) (n p : Nat) : Nat × Option (Int × Int × List Int) :=
  if ppk T n p = 115 then (match pwrd T n [115, 104, 97, 114, 112, 32] p with
    | (q, false) => (q, none)
    | (q, true) => pbend T n 0 q)
  else if ppk T n p = 102 then (match pwrd T n [102, 108, 97, 116, 32] p with
    | (q, false) => (q, none)
    | (q, true) => pbend T n 1 q)
  else if ppk T n p = 103 then (match pwrd T n [103, 114, 111, 119, 32] p with
    | (q, false) => (q, none)
    | (q, true) => pgro T n q)
  else (p, none)
/-- behind a clause: m more may come -/
def pmore (T : Nat → Int) (n : Nat) : Nat → Nat → Nat × Option Cls
  | 0, q => if q = n then (q, some []) else (q, none)
  | m + 1, q => if q = n then (q, some []) else if ptk T n q 59 = true then (match pcla T n (q + 1) with
    | (r, none) => (r, none)
    | (r, some e) => match pmore T n m r with
      | (u, none) => (u, none)
      | (u, some l) => (u, some (e :: l))) else (q, none)
def pall (T : Nat → Int) (n : Nat) : Nat × Option Cls := match pcla T n 0 with
  | (q, none) => (q, none)
  | (q, some e) => match pmore T n 9 q with
    | (u, none) => (u, none)
    | (u, some l) => (u, some (e :: l))
section XMO2
variable {T : Nat → Int} {n p q r m : Nat} {sub : Nat → PR} {a b : List Int} {x v sg c : Int}
theorem ptest_mo (p q : Nat) (b : List Int) (e : ptest T n p = (q, some b)) : p ≤ q := by
  unfold ptest at e
  split at e
  · split at e
    · split at e
      · rename_i q2 v2 e2
        cases e
        have r := pnum_r e2
        omega
      · cases e
    · cases e
  · cases e
theorem prest_mo (hs : ∀ p q a, sub p = (q, some a) → p ≤ q) : ∀ (i p q : Nat) (b : List Int), prest sub T n sg c i p = (q, some b) → p ≤ q
  | 0, p, q, b, e => by cases e; exact Nat.le_refl _
  | i + 1, p, q, b, e => by
    have e : (if ptk T n p sg = true then (match sub (p + 1) with
      | (q, none) => (q, none)
      | (q, some a) => match prest sub T n sg c i q with
        | (r, none) => (r, none)
        | (r, some b) => (r, some (a ++ c :: b))) else (p, some [])) = (q, some b) := e
    split at e
    · split at e
      · cases e
      · rename_i q2 a2 e2
        split at e
        · cases e
        · rename_i q3 b3 e3
          cases e
          have h1 := hs _ _ _ e2
          have h2 := prest_mo hs i _ _ _ e3
          omega
    · cases e
      exact Nat.le_refl _
theorem pseq_mo (hs : ∀ p q a, sub p = (q, some a) → p ≤ q) (p q : Nat) (b : List Int) (e : pseq sub T n sg c p = (q, some b)) : p ≤ q := by
  unfold pseq at e
  split at e
  · cases e
  · rename_i q2 a2 e2
    split at e
    · cases e
    · rename_i q3 b3 e3
      cases e
      have h1 := hs _ _ _ e2
      have h2 := prest_mo hs _ _ _ _ e3
      omega
theorem pF_mo : ∀ (r p q : Nat) (b : List Int), pF T n r p = (q, some b) → p ≤ q
  | 0, p, q, b, e => ptest_mo p q b e
  | r + 1, p, q, b, e => by
    have e : (if ptk T n p 33 = true then pnot (pF T n r (p + 1)) else if ptk T n p 40 = true then pcl T n (pseq (pseq (pF T n r) T n 38 1) T n 124 2 (p + 1)) else ptest T n p) = (q, some b) := e
    split at e
    · unfold pnot at e
      split at e
      · cases e
      · rename_i q2 a2 e2
        cases e
        have h1 := pF_mo r _ _ _ e2
        omega
    · split at e
      · unfold pcl at e
        split at e
        · cases e
        · rename_i q2 a2 e2
          have h1 := pseq_mo (pseq_mo (pF_mo r)) _ _ _ e2
          split at e
          · cases e; omega
          · cases e
      · exact ptest_mo p q b e
theorem pT_mo (r : Nat) : ∀ (p q : Nat) (b : List Int), pT T n r p = (q, some b) → p ≤ q := pseq_mo (pF_mo r)
end XMO2
/-! TEXTS -/
theorem zi2_b : ∀ x : Fin 128, zi2c (zand ((x.val : Nat) : Int) 255) = ((x.val : Nat) : Int) := by decide +kernel
theorem zb_r : ∀ a : Fin 15, ∀ i : Fin 8, 0 ≤ (zbvT.getD (a.val + 5) []).getD i.val 0 ∧ (zbvT.getD (a.val + 5) []).getD i.val 0 < 128 := by decide +kernel
theorem zsh_6 : ∀ x : Fin 7, zshr ((x.val : Nat) : Int) 0 = ((x.val : Nat) : Int) := by decide +kernel
section XSTR
variable {zl : Nat} {nl : Option Nat} {h : Hp} {d : Nat} {K : Int → Hp → Prop} {U : Hp → Prop} {b m i : Nat}
theorem yStr_r (hb : yStr b m) : 4 ≤ b ∧ b ≤ 18 ∧ m ≤ 6 := by unfold yStr at hb; omega
theorem yStr_0 (hb : yStr b m) (bb : yB h) : zV h b 1 = 0 := by
  have r := yStr_r hb
  rw [bb b (by omega) (by omega)]
  rcases hb with ⟨rfl, rfl⟩ | ⟨rfl, rfl⟩ | ⟨rfl, rfl⟩ | ⟨rfl, rfl⟩ | ⟨rfl, rfl⟩ | ⟨rfl, rfl⟩ | ⟨rfl, rfl⟩ | ⟨rfl, rfl⟩
  all_goals rfl
theorem st52 (w : yWF zl nl h) (hd : 2 ≤ d) (hb : yStr b m) (bb : yB h) (k : K (m : Int) h) : yI d 52 [vR (some b)] h K := by
  have z := yStr_0 hb bb
  have r := yStr_r hb
  refine E52 w hb (by omega) (E53 w hb ⟨z, ?_⟩)
  rw [z]
  refine W52_9 w hb ?_
  rw [zsh_6 ⟨m, by omega⟩]
  exact k
theorem st54 (w : yWF zl nl h) (hd : 5 ≤ d) (hb : yStr b m) (bb : yB h) (hi : i < m) (k : K ((zbvT.getD (b + 1) []).getD i 0) h) : yI d 54 [vR (some b), vI (i : Int)] h K := by
  have z := yStr_0 hb bb
  have r := yStr_r hb
  refine E54 w hb (by omega) (E55 w hb ⟨fun q => absurd z q, fun _ => W54_4 w hb (by omega) ⟨fun q => absurd q (by decide), fun _ => E56 w hb (by omega) (E57 w (by omega) (E58 w ⟨fun q => by omega, fun _ => ⟨fun _ => W57_8 w (W56_6 w hb ?_), fun q => by omega⟩⟩))⟩⟩)
  have hv : zV h (b + 1) ((i : Int)).toNat = (zbvT.getD (b + 1) []).getD i 0 := by rw [show ((i : Int)).toNat = i by omega]; exact bb (b + 1) (by omega) (by omega) i
  have hr := zb_r ⟨b - 4, by omega⟩ ⟨i, by omega⟩
  rw [show (⟨b - 4, by omega⟩ : Fin 15).val + 5 = b + 1 by show b - 4 + 5 = b + 1; omega] at hr
  have hr : 0 ≤ (zbvT.getD (b + 1) []).getD i 0 ∧ (zbvT.getD (b + 1) []).getD i 0 < 128 := hr
  rw [hv]
  generalize (zbvT.getD (b + 1) []).getD i 0 = x at hr k ⊢
  have hx : zi2c (zand x 255) = x := by
    have q := zi2_b ⟨x.toNat, by omega⟩
    rw [show (((⟨x.toNat, by omega⟩ : Fin 128).val : Nat) : Int) = x by show ((x.toNat : Nat) : Int) = x; omega] at q
    exact q
  rw [hx]
  exact ⟨by omega, by omega, W54_15 w hb ⟨by omega, k⟩⟩
end XSTR
/-! THE CLASS: factors, clauses -/
section XCL2
variable {zl : Nat} {nl : Option Nat} {h0 h h' : Hp} {d : Nat} {K : Int → Hp → Prop} {U : Hp → Prop} {T : Nat → Int} {n s p q r m a b k : Nat} {S : List (Int × Int × Int)} {P : Nat → PR} {x y z v g : Int}
theorem cq69 (c0 : xC0 h0 T n s) : ∀ (r d : Nat) (x : Int), r ≤ 4 → 3 * r + 4 ≤ d → x = 4 - (r : Int) → xCJ zl nl h0 n s d 69 [vR (some 90), vI x] (pF T n r)
  | 0, d, x, hr, hd, hx => by
    intro h p a S g K c k1 k0
    refine E69 c.w (by omega) ⟨fun _ => ⟨fun _ => ?_, fun q => absurd (by omega) q⟩, fun q => absurd (by omega) q⟩
    refine cq71 c0 (by omega) h p a S g _ c (fun q b h2 e2 c2 => W69_77 c2.w ⟨Or.inr rfl, k1 q b h2 e2 c2⟩) (fun q S2 h2 e2 c2 => W69_77 c2.w ⟨Or.inl rfl, k0 q S2 h2 e2 c2⟩)
  | r + 1, d, x, hr, hd, hx => by
    intro h p a S g K c k1 k0
    have pe : pF T n (r + 1) p = (if ptk T n p 33 = true then pnot (pF T n r (p + 1)) else if ptk T n p 40 = true then pcl T n (pseq (pseq (pF T n r) T n 38 1) T n 124 2 (p + 1)) else ptest T n p) := rfl
    rw [pe] at k1 k0
    clear pe
    have ih := cq69 c0 r (d - 1) (x + 1) (by omega) (by omega) (by omega)
    have ih3 := cq69 c0 r (d - 1 - 1 - 1) (x + 1) (by omega) (by omega) (by omega)
    have iE := cq67 c0 (d := d - 1) (by omega) (pseq_mo (pF_mo r)) (cq68 c0 (d := d - 1 - 1) (by omega) (pF_mo r) ih3)
    refine E69 c.w (by omega) ⟨fun q => by omega, fun _ => cq63 c0 c (by omega) (by decide) (fun e h2 c2 => ?_) (fun e => ?_)⟩
    · rw [if_pos e] at k1 k0
      refine W69_11 c2.w (by omega) ⟨fun q => absurd q (by decide), fun _ => ?_⟩
      rw [zwi (by omega)]
      refine ih h2 _ _ S g _ c2 (fun q b h3 e3 c3 => ?_) (fun q S3 h3 e3 c3 => ?_)
      · refine W69_21 c3.w (by omega) ⟨s, c3.2.2.1, c0.1, cq70 c0 c3 (by decide) fun h4 c4 => W69_32 c4.w ⟨Or.inr rfl, k1 q (b ++ [0]) h4 (by rw [e3]; rfl) ?_⟩⟩
        rw [List.map_append, ← List.append_assoc]
        exact c4
      · exact W69_21 c3.w (by omega) ⟨s, c3.2.2.1, c0.1, cq70 c0 c3 (by decide) fun h4 c4 => W69_32 c4.w ⟨Or.inl rfl, k0 q _ h4 (by rw [e3]; rfl) c4⟩⟩
    · rw [if_neg (by rw [e]; decide)] at k1 k0
      refine W69_11 c.w (by omega) ⟨fun _ => ⟨fun q => by omega, fun _ => cq63 c0 c (by omega) (by decide) (fun f h2 c2 => ?_) (fun f => ?_)⟩, fun q => absurd rfl q⟩
      · rw [if_pos f] at k1 k0
        refine W69_45 c2.w (by omega) ⟨fun q => absurd q (by decide), fun _ => ?_⟩
        rw [zwi (by omega)]
        refine iE h2 _ _ S g _ c2 (fun q b h3 e3 c3 => ?_) (fun q S3 h3 e3 c3 => ?_)
        · refine W69_55 c3.w (by omega) ⟨fun q => absurd q (by decide), fun _ => cq63 c0 c3 (by omega) (by decide) (fun t h4 c4 => ?_) (fun t => ?_)⟩
          · exact W69_64 c4.w ⟨fun q => absurd q (by decide), fun _ => k1 (q + 1) b h4 (by rw [e3]; exact if_pos t) (c4.le (by omega))⟩
          · exact W69_64 c3.w ⟨fun _ => k0 q _ h3 (by rw [e3]; exact if_neg (by rw [t]; decide)) (c3.le (by omega)), fun q => absurd rfl q⟩
        · exact W69_55 c3.w (by omega) ⟨fun _ => k0 q S3 h3 (by rw [e3]; rfl) (c3.le (by omega)), fun q => absurd rfl q⟩
      · rw [if_neg (by rw [f]; decide)] at k1 k0
        refine W69_45 c.w (by omega) ⟨fun _ => ?_, fun q => absurd rfl q⟩
        exact cq71 c0 (by omega) h p a S g _ c (fun q b h2 e2 c2 => W69_77 c2.w ⟨Or.inr rfl, k1 q b h2 e2 c2⟩) (fun q S2 h2 e2 c2 => W69_77 c2.w ⟨Or.inl rfl, k0 q S2 h2 e2 c2⟩)
theorem cqE (c0 : xC0 h0 T n s) (hd : 18 ≤ d) : xCJ zl nl h0 n s d 67 [vR (some 90), vI 0] (pE T n 4) :=
  cq67 c0 (by omega) (pT_mo 4) (cq68 c0 (by omega) (pF_mo 4) (cq69 c0 4 _ 0 (by omega) (by omega) (by omega)))
/-- isWord -/
theorem cq51_loop (c0 : xC0 h0 T n s) (hd : 6 ≤ d) (hb : yStr b m) (bb : yB h0) : ∀ (ws : List Int) (i : Nat) (h : Hp) (p : Nat) (K : Int → Hp → Prop), i + ws.length = m → (∀ j, j < ws.length → ws.getD j 0 = (zbvT.getD (b + 1) []).getD (i + j) 0) → S.length + a ≤ p → xCP zl nl h0 n s h p a S g → (∀ q h', pwrd T n ws p = (q, true) → xCP zl nl h0 n s h' q a S g → K 1 h') → (∀ q h', pwrd T n ws p = (q, false) → xCP zl nl h0 n s h' q a S g → K 0 h') → ZW d prog_8_method_16_code 6 2 [some (vR (some 90)), some (vR (some b)), some (vI (i : Int))] [] h (yq 2 (yqI K))
  | [], i, h, p, K, hi, hw, hsl, c, k1, k0 => by
    have B : yB h := c.2.1.B bb (fun b k q => by have := ySh_82 c0.1; have hs := c0.1; unfold ySh at hs; unfold xCm; omega)
    have hi : i = m := hi
    exact W51_2 c.w hb (by omega) (st52 c.w (by omega) hb B (W51_7 c.w hb (by omega) ⟨fun _ => k1 p h rfl c, fun q => absurd (by omega) q⟩))
  | x :: ws, i, h, p, K, hi, hw, hsl, c, k1, k0 => by
    have B : yB h := c.2.1.B bb (fun b k q => by have := ySh_82 c0.1; have hs := c0.1; unfold ySh at hs; unfold xCm; omega)
    have hi : i + (ws.length + 1) = m := hi
    have r := yStr_r hb
    have hx : x = (zbvT.getD (b + 1) []).getD i 0 := hw 0 (Nat.zero_lt_succ _)
    have hr : 0 ≤ x := by
      rw [hx]
      have q := (zb_r ⟨b - 4, by omega⟩ ⟨i, by omega⟩).1
      rw [show (⟨b - 4, by omega⟩ : Fin 15).val + 5 = b + 1 by show b - 4 + 5 = b + 1; omega] at q
      exact q
    refine W51_2 c.w hb (by omega) (st52 c.w (by omega) hb B (W51_7 c.w hb (by omega) ⟨fun q => by omega, fun _ => st54 c.w (by omega) hb B (by omega) ?_⟩))
    rw [← hx]
    refine W51_16 c.w hb (by omega) (cq63 c0 c (by omega) hr (fun e h2 c2 => ?_) (fun e => ?_))
    · refine W51_19 c2.w hb ⟨fun _ => ?_, fun q => absurd (by decide) q⟩
      rw [zwi (by omega)]
      refine cq51_loop c0 hd hb bb ws (i + 1) h2 (p + 1) K (by omega) (fun j hj => ?_) (by omega) (c2.le (by omega)) (fun q h3 e3 c3 => k1 q h3 ?_ c3) (fun q h3 e3 c3 => k0 q h3 ?_ c3)
      · have t := hw (j + 1) (Nat.succ_lt_succ hj)
        rw [show i + (j + 1) = i + 1 + j by omega] at t
        exact t
      · show (if ptk T n p x = true then _ else _) = _
        rw [if_pos e]; exact e3
      · show (if ptk T n p x = true then _ else _) = _
        rw [if_pos e]; exact e3
    · refine W51_19 c.w hb ⟨fun q => absurd rfl q, fun _ => k0 p h ?_ c⟩
      show (if ptk T n p x = true then _ else _) = _
      rw [if_neg (by rw [e]; decide)]
theorem cq51 (c0 : xC0 h0 T n s) (hd : 6 ≤ d) (bb : yB h0) {ws : List Int} (hb : yStr b ws.length) (hw : zbvT.getD (b + 1) [] = ws) (c : xCP zl nl h0 n s h p a S g) (k1 : ∀ q h', pwrd T n ws p = (q, true) → xCP zl nl h0 n s h' q a S g → K 1 h') (k0 : ∀ q h', pwrd T n ws p = (q, false) → xCP zl nl h0 n s h' q a S g → K 0 h') : yI d 51 [vR (some 90), vR (some b)] h K :=
  E51 c.w hb (cq51_loop c0 hd hb bb ws 0 h p K (by omega) (fun j _ => by rw [hw, Nat.zero_add]) c.sl c k1 k0)
end XCL2
