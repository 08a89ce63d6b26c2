/-! where a raft comes to by a drift: cells c = 12 y + x -/
def mvX (L : Nat → Nat) (d x y : Int32) : Int32 := if d = 0 then x else if canL L L (x + d) y = true then x + d else x
def mvY (L : Nat → Nat) (d x y : Int32) : Int32 := if d = 0 then y else if canL L L x (y + d) = true then y + d else y
def nxx (L : Nat → Nat) (c i : Nat) : Int32 := mvX L (nI i - 1) (nI (c % 12)) (nI (c / 12))
def nxy (L : Nat → Nat) (c i j : Nat) : Int32 := mvY L (nI j - 1) (nxx L c i) (nI (c / 12))
def nxc (L : Nat → Nat) (c i j : Nat) : Nat := 12 * (nxy L c i j).toNatClampNeg + (nxx L c i).toNatClampNeg
def wat (L : Nat → Nat) (c : Nat) : Bool := clB L L (c % 12) (c / 12)
theorem smoveX_0 {L : Nat → Nat} {d : Int32} {S : Nat → Int32} : smoveX L L d S 0 = mvX L d (S 0) (S 1) := by
  unfold smoveX mvX
  split
  · rfl
  · split
    · exact su_self _ _ _
    · exact su_ne (by omega)
theorem smove_0 {L : Nat → Nat} {d e : Int32} {S : Nat → Int32} : smove L L d e S 0 = mvX L d (S 0) (S 1) := by
  unfold smove
  rw [smoveY_at (by omega) (by omega)]
  exact smoveX_0
theorem smove_1 {L : Nat → Nat} {d e : Int32} {S : Nat → Int32} : smove L L d e S 1 = mvY L e (mvX L d (S 0) (S 1)) (S 1) := by
  unfold smove
  rw [← smoveX_0, ← smoveX_at (W := L) (B := L) (d := d) (S := S) (k := 1) (by omega) (by omega)]
  generalize smoveX L L d S = T
  unfold smoveY mvY
  split
  · rfl
  · split
    · exact su_self _ _ _
    · exact su_ne (by omega)
theorem dir3 {i : Nat} (h : i < 3) : nI i - 1 = 0 ∨ nI i - 1 = 1 ∨ nI i - 1 = -1 := by
  have : i = 0 ∨ i = 1 ∨ i = 2 := by omega
  rcases this with rfl | rfl | rfl
  · exact Or.inr (Or.inr (by decide))
  · exact Or.inl (by decide)
  · exact Or.inr (Or.inl (by decide))
/-- two coordinates alone -/
def S01 (x y : Int32) : Nat → Int32 := fun k => if k = 0 then x else if k = 1 then y else 0
theorem nx_ok {L : Nat → Nat} {c i j : Nat} (hB : LB L) (hi : i < 3) (hj : j < 3) (hw : wat L c = true) :
    ∃ x y : Nat, x ≤ 11 ∧ y ≤ 11 ∧ nxx L c i = nI x ∧ nxy L c i j = nI y ∧ nxc L c i j = 12 * y + x ∧ nxc L c i j < 144 ∧ wat L (nxc L c i j) = true := by
  have h : SP L L (S01 (nI (c % 12)) (nI (c / 12))) := ⟨c % 12, c / 12, rfl, rfl, hw⟩
  obtain ⟨x, y, x0, y0, h1⟩ := smove_SP hB hB (dir3 hi) (dir3 hj) h
  rw [smove_0] at x0
  rw [smove_1] at y0
  have x0 : nxx L c i = nI x := x0
  have y0 : nxy L c i j = nI y := y0
  obtain ⟨l1, l2⟩ := clB_le hB hB h1
  have e : nxc L c i j = 12 * y + x := by
    unfold nxc
    rw [x0, y0, nI_clamp (by omega), nI_clamp (by omega)]
  refine ⟨x, y, l1, l2, x0, y0, e, by omega, ?_⟩
  unfold wat
  rw [e, show (12 * y + x) % 12 = x by omega, show (12 * y + x) / 12 = y by omega]
  exact h1
/-- the sides at which it lies, as bits -/
def sdN (L : Nat → Nat) (c : Nat) : Nat := (sside L L (nI (c % 12)) (nI (c / 12))).toNatClampNeg
theorem sside_nat {W B : Nat → Nat} {x y : Int32} : ∃ s : Nat, s < 16 ∧ sside W B x y = nI s := by
  unfold sside
  by_cases c1 : y = 0 <;> by_cases c2 : x + nI (B 2) = nI (W 0) <;> by_cases c3 : y + nI (B 3) = nI (W 1) <;> by_cases c4 : x = 0
  all_goals (first | rw [if_pos c1] | rw [if_neg c1])
  all_goals (first | rw [if_pos c2] | rw [if_neg c2])
  all_goals (first | rw [if_pos c3] | rw [if_neg c3])
  all_goals (first | rw [if_pos c4] | rw [if_neg c4])
  · exact ⟨15, by omega, by decide⟩
  · exact ⟨7, by omega, by decide⟩
  · exact ⟨11, by omega, by decide⟩
  · exact ⟨3, by omega, by decide⟩
  · exact ⟨13, by omega, by decide⟩
  · exact ⟨5, by omega, by decide⟩
  · exact ⟨9, by omega, by decide⟩
  · exact ⟨1, by omega, by decide⟩
  · exact ⟨14, by omega, by decide⟩
  · exact ⟨6, by omega, by decide⟩
  · exact ⟨10, by omega, by decide⟩
  · exact ⟨2, by omega, by decide⟩
  · exact ⟨12, by omega, by decide⟩
  · exact ⟨4, by omega, by decide⟩
  · exact ⟨8, by omega, by decide⟩
  · exact ⟨0, by omega, by decide⟩
theorem sdN_ok (L : Nat → Nat) (c : Nat) : sdN L c < 16 ∧ sside L L (nI (c % 12)) (nI (c / 12)) = nI (sdN L c) := by
  obtain ⟨s, s1, s2⟩ := sside_nat (W := L) (B := L) (x := nI (c % 12)) (y := nI (c / 12))
  unfold sdN
  rw [s2, nI_clamp (by omega)]
  exact ⟨s1, rfl⟩
def tc (L : Nat → Nat) (c : Nat) : Nat := (if (sdN L c).testBit (L 9) = true then 1 else 0) + 2 * (if (sdN L c).testBit (L 10) = true then 1 else 0)
theorem tc_lt (L : Nat → Nat) (c : Nat) : tc L c < 4 := by
  unfold tc
  split <;> split <;> omega
theorem tc_or {L : Nat → Nat} {c : Nat} (hB : LB L) : ((nI (sdN L c) >>> (nI (L 9) &&& 31)) &&& 1) ||| (((nI (sdN L c) >>> (nI (L 10) &&& 31)) &&& 1) <<< ((1 : Int32) &&& 31)) = nI (tc L c) := by
  have h := (sdN_ok L c).1
  have b9 := hB.1.2.2.2.2.2.2.2.2.2.1
  have b10 := hB.1.2.2.2.2.2.2.2.2.2.2
  rw [bitI (by omega) (by omega), bitI (by omega) (by omega)]
  unfold tc
  split <;> split <;> decide
theorem tc_add {L : Nat → Nat} {c : Nat} (hB : LB L) : ((nI (sdN L c) >>> (nI (L 9) &&& 31)) &&& 1) + ((2 : Int32) * ((nI (sdN L c) >>> (nI (L 10) &&& 31)) &&& 1)) = nI (tc L c) := by
  have h := (sdN_ok L c).1
  have b9 := hB.1.2.2.2.2.2.2.2.2.2.1
  have b10 := hB.1.2.2.2.2.2.2.2.2.2.2
  rw [bitI (by omega) (by omega), bitI (by omega) (by omega)]
  unfold tc
  split <;> split <;> decide
theorem tc_two {L : Nat → Nat} {c : Nat} (hB : LB L) {μ : zM} {o q k : Nat} (hq : q ≠ o) (h9 : μ q 9 = nI (L 9)) (h10 : μ q 10 = nI (L 10)) :
    zup (zup μ o k (if ¬ ((nI (sdN L c) >>> ((μ q 9) &&& 31)) &&& (1 : Int32)) = (1 : Int32) then (0 : Int32) else (1 : Int32))) o k ((zup μ o k (if ¬ ((nI (sdN L c) >>> ((μ q 9) &&& 31)) &&& (1 : Int32)) = (1 : Int32) then (0 : Int32) else (1 : Int32))) o k ||| (if ¬ ((nI (sdN L c) >>> (((zup μ o k (if ¬ ((nI (sdN L c) >>> ((μ q 9) &&& 31)) &&& (1 : Int32)) = (1 : Int32) then (0 : Int32) else (1 : Int32))) q 10) &&& 31)) &&& (1 : Int32)) = (1 : Int32) then (0 : Int32) else (2 : Int32))) = zup μ o k (nI (tc L c)) := by
  have h := (sdN_ok L c).1
  have b9 := hB.1.2.2.2.2.2.2.2.2.2.1
  have b10 := hB.1.2.2.2.2.2.2.2.2.2.2
  rw [zup_self, zup_rne _ _ _ hq, h9, h10, bitI (by omega) (by omega), bitI (by omega) (by omega)]
  have e : ((if ¬ nI (if (sdN L c).testBit (L 9) = true then 1 else 0) = (1 : Int32) then (0 : Int32) else (1 : Int32)) ||| (if ¬ nI (if (sdN L c).testBit (L 10) = true then 1 else 0) = (1 : Int32) then (0 : Int32) else (2 : Int32))) = nI (tc L c) := by
    unfold tc
    generalize (sdN L c).testBit (L 9) = p
    generalize (sdN L c).testBit (L 10) = r
    cases p <;> cases r <;> decide
  rw [e]
  funext a j
  unfold zup
  split <;> rfl
def NxP (L : Nat → Nat) (n : Nat) (μ : zM) : Prop := ∀ c i j, i < 3 → j < 3 → 9 * c + 3 * j + i < n → wat L c = true → μ 96 (9 * c + 3 * j + i) = nI (nxc L c i j)
def TcP (L : Nat → Nat) (n : Nat) (μ : zM) : Prop := ∀ c, c < n → μ 97 c = nI (tc L c)
section CHART
variable {la : Nat} {μ : zM} {L : Nat → Nat}
theorem chart94 {c : Nat} {S : Nat → Int32} (hL : LC la μ L) (hr : la + 14 < 93) (hR : RC 101 μ la la S) (hc : c < 144) (hn : NxP L (9 * c) μ) :
    wp (f_X0_chart_L116 93 la (nI c) (nI (c % 12)) (nI (c / 12)) (b2i (wat L c)) zFU 0 μ) (fun μ' => (∀ o, o ≠ 96 → o ≠ 101 → μ' o = μ o) ∧ (∃ S, RC 101 μ' la la S) ∧ NxP L (9 * (c + 1)) μ') := by
  refine wlp0 (fun n d μ' => f_X0_chart_L116 93 la (nI c) (nI (c % 12)) (nI (c / 12)) (b2i (wat L c)) n (nI d) μ') _ 9 (fun d μ' => (∀ o, o ≠ 96 → o ≠ 101 → μ' o = μ o) ∧ (∃ S, RC 101 μ' la la S) ∧ NxP L (9 * c + d) μ') (by omega) μ ⟨fun _ _ _ => rfl, ⟨S, hR⟩, hn⟩ ?_ ?_
  · intro n d μ1 hd ⟨f1, ⟨S1, g1⟩, p1⟩ ih
    have e3 : nI d % (3 : Int32) = nI (d % 3) := by
      show nI d % nI 3 = _
      exact nI_rem (by omega) (by omega) (by omega)
    have d3 : nI d / (3 : Int32) = nI (d / 3) := by
      show nI d / nI 3 = _
      exact pk_div (by omega) (by omega) (by omega)
    have ei : nI c * (9 : Int32) + nI d = nI (9 * c + d) := by
      show nI c * nI 9 + nI d = _
      rw [pk_mul, nI_add, Nat.mul_comm]
    have l1 : LC la μ1 L := hL.congr (fun o h1 h2 => f1 o (by omega) (by omega))
    show wp (f_X0_chart_L116 93 la (nI c) (nI (c % 12)) (nI (c / 12)) (b2i (wat L c)) (n + 1) (nI d) μ1) _
    rw [f_X0_chart_L116, e3, d3, ei]
    have ep : f_X4_putAt (93 + 8) (nI (c % 12)) (nI (c / 12)) μ1 = zup (zup μ1 101 2 (nI (c % 12))) 101 3 (nI (c / 12)) := rfl
    rw [ep]
    have g2 := (g1.put (k := 0) (v := nI (c % 12)) (by omega)).put (k := 1) (v := nI (c / 12)) (by omega)
    have f2 : ∀ o, o ≠ 101 → zup (zup μ1 101 2 (nI (c % 12))) 101 3 (nI (c / 12)) o = μ1 o := fun o ho => by rw [zup_rne _ _ _ ho, zup_rne _ _ _ ho]
    refine wp_ie (nI_ge (b := 9) hd (by omega)) (wp_ls ?_)
    have g2 : RC 101 (zup (zup μ1 101 2 (nI (c % 12))) 101 3 (nI (c / 12))) la la (su (su S1 0 (nI (c % 12))) 1 (nI (c / 12))) := g2
    generalize zup (zup μ1 101 2 (nI (c % 12))) 101 3 (nI (c / 12)) = μ2 at g2 f2 ⊢
    have l2 : LC la μ2 L := l1.congr (fun o h1 h2 => f2 o (by omega))
    have s0 : su (su S1 0 (nI (c % 12))) 1 (nI (c / 12)) 0 = nI (c % 12) := by rw [su_ne (by omega), su_self]
    have s1 : su (su S1 0 (nI (c % 12))) 1 (nI (c / 12)) 1 = nI (c / 12) := su_self _ _ _
    generalize su (su S1 0 (nI (c % 12))) 1 (nI (c / 12)) = S2 at g2 s0 s1
    have fin : ∀ (μ3 : zM) (S3 : Nat → Int32), (∀ o, o ≠ 101 → μ3 o = μ1 o) → RC 101 μ3 la la S3 → (wat L c = true → S3 0 = nxx L c (d % 3) ∧ S3 1 = nxy L c (d % 3) (d / 3)) →
        wp (zg (zin (nI (9 * c + d)) 1296) <| zl (zup μ3 (93 + 3) ((nI (9 * c + d)).toNatClampNeg) (f_X0_cellOf (μ3 (93 + 8) 2) (μ3 (93 + 8) 3))) fun μ25 => zl (nI d + (1 : Int32)) fun x26 => f_X0_chart_L116 93 la (nI c) (nI (c % 12)) (nI (c / 12)) (b2i (wat L c)) n x26 μ25) (fun μ' => (∀ o, o ≠ 96 → o ≠ 101 → μ' o = μ o) ∧ (∃ S, RC 101 μ' la la S) ∧ NxP L (9 * (c + 1)) μ') := by
      intro μ3 S3 f3 g3 h3
      refine wp_g (zin_nI (by omega) (by omega)) (wp_ls (wp_ls ?_))
      rw [nI_1, nI_clamp (by omega)]
      have a0 : μ3 (93 + 8) 2 = S3 0 := g3.f 0 (by omega)
      have a1 : μ3 (93 + 8) 3 = S3 1 := g3.f 1 (by omega)
      rw [a0, a1]
      refine ih _ ⟨fun o h1 h2 => ?_, ⟨S3, g3.congr (zup_rne _ _ _ (by omega)) (zup_rne _ _ _ (by omega)) (zup_rne _ _ _ (by omega))⟩, fun c' i j hi hj hlt hw => ?_⟩
      · rw [zup_rne _ _ _ h1, f3 o h2]
        exact f1 o h1 h2
      · by_cases e : 9 * c' + 3 * j + i = 9 * c + d
        · obtain rfl : c' = c := by omega
          have ei' : i = d % 3 := by omega
          have ej' : j = d / 3 := by omega
          obtain ⟨q0, q1⟩ := h3 hw
          obtain ⟨x, y, x1, y1, x2, y2, e1, _⟩ := nx_ok (c := c') (i := d % 3) (j := d / 3) hL.2.1 (by omega) (by omega) hw
          rw [e, q0, q1, x2, y2, ei', ej', e1]
          refine (zup_self _ _ _ _).trans ?_
          show nI y * nI 12 + nI x = _
          rw [pk_mul, nI_add, Nat.mul_comm]
        · rw [zup_ne (by omega), f3 96 (by omega)]
          exact p1 c' i j hi hj (by omega) hw
    by_cases w : wat L c = true
    · rw [w]
      refine wp_bd (wp_ie (by decide) (wp_bdQ (moveC g2 l2 l2 (by omega) (dir3 (by omega)) (dir3 (by omega)) ⟨c % 12, c / 12, s0, s1, w⟩) fun μ3 ⟨g3, f3⟩ => wp_some ?_))
      rw [w] at fin
      refine fin μ3 _ (fun o ho => (f3 o ho).trans (f2 o ho)) g3 (fun _ => ?_)
      rw [smove_0, smove_1, s0, s1]
      exact ⟨rfl, rfl⟩
    · have w' : wat L c = false := Bool.eq_false_iff.mpr w
      rw [w']
      rw [w'] at fin
      exact wp_bd (wp_it rfl (wp_some (fin μ2 S2 f2 g2 (fun q => absurd q (by decide)))))
  · intro n μ1 hI
    show wp (f_X0_chart_L116 93 la (nI c) (nI (c % 12)) (nI (c / 12)) (b2i (wat L c)) (n + 1) (nI 9) μ1) _
    rw [f_X0_chart_L116]
    exact wp_it (nI_le (a := 9) (Nat.le_refl _) (by omega)) (wp_some hI)
theorem chartC (hL : LC la μ L) (hr : la + 14 < 93) :
    wp (f_X0_chart 93 la μ) (fun μ' => (∀ o, o ≠ 96 → o ≠ 97 → o ≠ 101 → o ≠ 102 → o ≠ 103 → μ' o = μ o) ∧ NxP L 1296 μ' ∧ TcP L 144 μ') := by
  have hB := hL.2.1
  unfold f_X0_chart
  refine wp_bdQ (launchC (r := 101) hL hL (by omega)) fun μ0 ⟨g0, f0⟩ => ?_
  have l0 : LC la μ0 L := hL.congr (fun o h1 h2 => f0 o (by omega) (by omega) (by omega))
  refine wp_bdQ (Q := fun μ' => (∀ o, o ≠ 96 → o ≠ 97 → o ≠ 101 → μ' o = μ0 o) ∧ NxP L 1296 μ' ∧ TcP L 144 μ') ?_ (fun μ' ⟨h1, h2⟩ => wp_some ⟨fun o q1 q2 q3 q4 q5 => (h1 o q1 q2 q3).trans (f0 o q3 q4 q5), h2⟩)
  refine wlp0 (fun n c μ' => f_X0_chart_L11 93 la n (nI c) μ') _ 144 (fun c μ' => (∀ o, o ≠ 96 → o ≠ 97 → o ≠ 101 → μ' o = μ0 o) ∧ (∃ S, RC 101 μ' la la S) ∧ NxP L (9 * c) μ' ∧ TcP L c μ') (by omega) μ0 ⟨fun _ _ _ _ => rfl, ⟨_, g0⟩, fun c i j _ _ h => by omega, fun c h => by omega⟩ ?_ ?_
  · intro n c μ1 hc ⟨f1, ⟨S1, g1⟩, p1, t1⟩ ih
    have e12 : nI c % (12 : Int32) = nI (c % 12) := by
      show nI c % nI 12 = _
      exact nI_rem (by omega) (by omega) (by omega)
    have d12 : nI c / (12 : Int32) = nI (c / 12) := by
      show nI c / nI 12 = _
      exact pk_div (by omega) (by omega) (by omega)
    have l1 : LC la μ1 L := l0.congr (fun o h1 h2 => f1 o (by omega) (by omega) (by omega))
    show wp (f_X0_chart_L11 93 la (n + 1) (nI c) μ1) _
    rw [f_X0_chart_L11, e12, d12]
    have ep : f_X4_putAt (93 + 8) (nI (c % 12)) (nI (c / 12)) μ1 = zup (zup μ1 101 2 (nI (c % 12))) 101 3 (nI (c / 12)) := rfl
    refine wp_ie (nI_ge (b := 144) hc (by omega)) (wp_ls (wp_ls (wp_ls ?_)))
    rw [ep]
    have g2 : RC 101 (zup (zup μ1 101 2 (nI (c % 12))) 101 3 (nI (c / 12))) la la (su (su S1 0 (nI (c % 12))) 1 (nI (c / 12))) := (g1.put (k := 0) (v := nI (c % 12)) (by omega)).put (k := 1) (v := nI (c / 12)) (by omega)
    have f2 : ∀ o, o ≠ 101 → zup (zup μ1 101 2 (nI (c % 12))) 101 3 (nI (c / 12)) o = μ1 o := fun o ho => by rw [zup_rne _ _ _ ho, zup_rne _ _ _ ho]
    generalize zup (zup μ1 101 2 (nI (c % 12))) 101 3 (nI (c / 12)) = μ2 at g2 f2 ⊢
    have l2 : LC la μ2 L := l1.congr (fun o h1 h2 => f2 o (by omega))
    have s0 : su (su S1 0 (nI (c % 12))) 1 (nI (c / 12)) 0 = nI (c % 12) := by rw [su_ne (by omega), su_self]
    have s1 : su (su S1 0 (nI (c % 12))) 1 (nI (c / 12)) 1 = nI (c / 12) := su_self _ _ _
    have es := sidesC g2 l2 l2
    rw [s0, s1, (sdN_ok L c).2] at es
    have b9 : μ2 (la + 1) 9 = nI (L 9) := l2.2.2.1.1 9 (by omega)
    have b10 : μ2 (la + 1) 10 = nI (L 10) := l2.2.2.1.1 10 (by omega)
    refine wp_bdE es (wp_ls (wp_g (zin_nI (by omega) (by omega)) (wp_ls (wp_ls (wp_ls ?_)))))
    rw [nI_clamp (by omega), tc_two hB (by omega) b9 b10]
    have l3 : LC la (zup μ2 (93 + 4) c (nI (tc L c))) L := l2.congr (fun o h1 h2 => zup_rne _ _ _ (by omega))
    have g3 := g2.congr (μ' := zup μ2 (93 + 4) c (nI (tc L c))) (zup_rne _ _ _ (by omega)) (zup_rne _ _ _ (by omega)) (zup_rne _ _ _ (by omega))
    have p3 : NxP L (9 * c) (zup μ2 (93 + 4) c (nI (tc L c))) := fun c' i j hi hj hlt hw => by
      rw [zup_rne _ _ _ (by omega), f2 96 (by omega)]
      exact p1 c' i j hi hj hlt hw
    have t3 : TcP L (c + 1) (zup μ2 (93 + 4) c (nI (tc L c))) := fun c' hc' => by
      by_cases e : c' = c
      · rw [e]
        exact zup_self _ _ _ _
      · rw [zup_ne (by omega), f2 97 (by omega)]
        exact t1 c' (by omega)
    have f3 : ∀ o, o ≠ 96 → o ≠ 97 → o ≠ 101 → zup μ2 (93 + 4) c (nI (tc L c)) o = μ0 o := fun o q1 q2 q3 => by
      rw [zup_rne _ _ _ (by omega), f2 o q3]
      exact f1 o q1 q2 q3
    generalize zup μ2 (93 + 4) c (nI (tc L c)) = μ3 at l3 g3 p3 t3 f3 ⊢
    have ew : canL L L (nI (c % 12)) (nI (c / 12)) = wat L c := by
      unfold canL wat
      rw [decide_eq_true (nI_pos' (by omega)), decide_eq_true (nI_pos' (by omega)), nI_clamp (by omega), nI_clamp (by omega)]
      rfl
    have hf := floats_eq l3 l3 (v2 := nI (c % 12)) (v3 := nI (c / 12)) (Or.inr ⟨c % 12, by omega, rfl⟩) (Or.inr ⟨c / 12, by omega, rfl⟩)
    rw [ew] at hf
    refine wp_bdE hf (wp_bdQ (chart94 l3 hr g3 hc p3) fun μ4 ⟨f4, g4, p4⟩ => wp_ls ?_)
    rw [nI_1]
    refine ih _ ⟨fun o q1 q2 q3 => (f4 o q1 q3).trans (f3 o q1 q2 q3), g4, p4, fun c' hc' => ?_⟩
    rw [f4 97 (by omega) (by omega)]
    exact t3 c' hc'
  · intro n μ1 ⟨f1, _, p1, t1⟩
    show wp (f_X0_chart_L11 93 la (n + 1) (nI 144) μ1) _
    rw [f_X0_chart_L11]
    exact wp_it (nI_le (a := 144) (Nat.le_refl _) (by omega)) (wp_some ⟨f1, p1, t1⟩)
end CHART
/-- whether a drift can be had -/
def Pd (L : Nat → Nat) (A i j : Nat) : Prop := ∃ t, Ptear L A i j t
def Rch (L : Nat → Nat) (A : Nat) : Nat → Nat → Prop
  | 0, c => c = 12 * L 5 + L 4
  | n + 1, c => ∃ u, Rch L A n u ∧ ∃ i j, i < 3 ∧ j < 3 ∧ Pd L A i j ∧ c = nxc L u i j
theorem start_wat {L : Nat → Nat} (hO : LOk L) : 12 * L 5 + L 4 < 144 ∧ wat L (12 * L 5 + L 4) = true := by
  have h4 := hO.1.1.2.2.2.2.1
  have h5 := hO.1.1.2.2.2.2.2.1
  refine ⟨by omega, ?_⟩
  unfold wat
  rw [show (12 * L 5 + L 4) % 12 = L 4 by omega, show (12 * L 5 + L 4) / 12 = L 5 by omega]
  exact hO.2.1
theorem Rch_wat {L : Nat → Nat} {A : Nat} (hO : LOk L) : ∀ n c, Rch L A n c → c < 144 ∧ wat L c = true
  | 0, c, h => by
    have h : c = 12 * L 5 + L 4 := h
    rw [h]
    exact start_wat hO
  | n + 1, c, h => by
    obtain ⟨u, h1, i, j, hi, hj, _, rfl⟩ := h
    obtain ⟨x, y, _, _, _, _, _, e1, e2⟩ := nx_ok hO.1 hi hj (Rch_wat hO n u h1).2
    exact ⟨e1, e2⟩
/-- a row of truth values -/
def BR (o : Nat) (P : Nat → Prop) (μ : zM) : Prop := ∀ c, c < 144 → (μ o c = 1 ∧ P c) ∨ (μ o c = 0 ∧ ¬ P c)
theorem BR.congr {o : Nat} {P : Nat → Prop} {μ μ' : zM} (h : BR o P μ) (e : μ' o = μ o) : BR o P μ' := fun c hc => by
  rw [e]
  exact h c hc
theorem BR.iff {o : Nat} {P Q : Nat → Prop} {μ : zM} (h : BR o P μ) (e : ∀ c, c < 144 → (P c ↔ Q c)) : BR o Q μ := fun c hc => (h c hc).imp (fun w => ⟨w.1, (e c hc).mp w.2⟩) (fun w => ⟨w.1, fun q => w.2 ((e c hc).mpr q)⟩)
theorem BR.set {o k : Nat} {P : Nat → Prop} {μ : zM} (h : BR o P μ) (hk : k < 144) : BR o (fun c => P c ∨ c = k) (zup μ o k (znb 1)) := fun c hc => by
  have e1 : znb 1 = 1 := by decide
  by_cases e : c = k
  · rw [e, zup_self, e1]
    exact Or.inl ⟨rfl, Or.inr rfl⟩
  · rw [zup_ne (by omega)]
    exact (h c hc).imp (fun w => ⟨w.1, Or.inl w.2⟩) (fun w => ⟨w.1, fun q => q.elim w.2 e⟩)
theorem BR.eq {o o' c : Nat} {P : Nat → Prop} {μ μ' : zM} (h : BR o P μ) (k : BR o' P μ') (hc : c < 144) : μ o c = μ' o' c := by
  rcases h c hc with ⟨a, b⟩ | ⟨a, b⟩
  · rcases k c hc with ⟨a', b'⟩ | ⟨a', b'⟩
    · rw [a, a']
    · exact absurd b b'
  · rcases k c hc with ⟨a', b'⟩ | ⟨a', b'⟩
    · exact absurd b' b
    · rw [a, a']
theorem BR.yes {o c : Nat} {P : Nat → Prop} {μ : zM} (h : BR o P μ) (hc : c < 144) (hp : P c) : ¬ μ o c = 0 := by
  rcases h c hc with ⟨a, _⟩ | ⟨_, b⟩
  · rw [a]
    decide
  · exact absurd hp b
theorem BR.no {o c : Nat} {P : Nat → Prop} {μ : zM} (h : BR o P μ) (hc : c < 144) (hp : ¬ P c) : μ o c = 0 := by
  rcases h c hc with ⟨_, b⟩ | ⟨a, _⟩
  · exact absurd b hp
  · exact a
/-- the prices as the class has them -/
def PrC (L : Nat → Nat) (A : Nat) (μ : zM) : Prop := ∀ d, d < 9 → LeN (Ptear L A (d % 3) (d / 3)) (-1) (μ 95 d)
theorem PrC.none {L : Nat → Nat} {A d : Nat} {μ : zM} (h : PrC L A μ) (hB : LB L) (hd : d < 9) : μ 95 d = -1 ↔ ¬ Pd L A (d % 3) (d / 3) := by
  rcases h d hd with ⟨t, h1, h2, _⟩ | ⟨h1, h2⟩
  · have := Ptear_le hB h1
    refine ⟨fun w => ?_, fun w => absurd ⟨t, h1⟩ w⟩
    rw [h2] at w
    exact absurd w (nI_nm1 (by omega))
  · exact ⟨fun _ ⟨t, ht⟩ => h1 t ht, fun _ => h2⟩
section SPREAD
variable {la : Nat} {μ : zM} {L : Nat → Nat}
theorem startC (hL : LC la μ L) : f_X0_startOf la μ = nI (12 * L 5 + L 4) := by
  have e4 : μ (la + 1) 4 = nI (L 4) := hL.2.2.1.1 4 (by omega)
  have e5 : μ (la + 1) 5 = nI (L 5) := hL.2.2.1.1 5 (by omega)
  unfold f_X0_startOf f_X0_cellOf
  rw [e4, e5]
  show nI (L 5) * nI 12 + nI (L 4) = _
  rw [pk_mul, nI_add, Nat.mul_comm]
theorem spreadC {A t : Nat} (hL : LC la μ L) (hO : LOk L) (hr : la + 14 < 93) (hp : PrC L A μ) (hn : NxP L 1296 μ) (ht : t ≤ 12) :
    wp (f_X0_spread 93 la (nI t) μ) (fun μ' => (∀ o, o ≠ 99 → o ≠ 100 → μ' o = μ o) ∧ BR 99 (Rch L A t) μ') := by
  have hB := hL.2.1
  have zn0 : znb 0 = 0 := by decide
  have zn1 : znb 1 = 1 := by decide
  unfold f_X0_spread
  refine wp_bdQ (Q := fun μ' => (∀ o, o ≠ 99 → μ' o = μ o) ∧ BR 99 (Rch L A 0) μ') ?_ (fun μ1 ⟨f1, b1⟩ => ?_)
  · refine wlp0 (fun n c μ' => f_X0_spread_L2 93 la (nI t) n (nI c) μ') _ 144 (fun k μ' => (∀ o, o ≠ 99 → μ' o = μ o) ∧ ∀ c, c < k → (μ' 99 c = 1 ∧ Rch L A 0 c) ∨ (μ' 99 c = 0 ∧ ¬ Rch L A 0 c)) (by omega) μ ⟨fun _ _ => rfl, fun c hc => by omega⟩ ?_ ?_
    · intro n c μ1 hc ⟨i1, i2⟩ ih
      have l1 : LC la μ1 L := hL.congr (fun o h1 h2 => i1 o (by omega))
      show wp (f_X0_spread_L2 93 la (nI t) (n + 1) (nI c) μ1) _
      rw [f_X0_spread_L2, startC l1]
      have sw := (start_wat hO).1
      refine wp_ie (nI_ge (b := 144) hc (by omega)) (wp_l fun x hx => wp_g (zin_nI (by omega) (by omega)) (wp_ls (wp_ls ?_)))
      rw [nI_1, nI_clamp (by omega)]
      refine ih _ ⟨fun o ho => by rw [zup_rne _ _ _ ho]; exact i1 o ho, fun c' hc' => ?_⟩
      by_cases e : c' = c
      · rw [e, zup_self, hx]
        by_cases e2 : c = 12 * L 5 + L 4
        · rw [if_neg (fun w => w (by rw [e2])), zn1]
          exact Or.inl ⟨rfl, e2⟩
        · rw [if_pos (fun w => e2 (by rw [← nI_clamp (n := c) (by omega), w, nI_clamp (by omega)])), zn0]
          exact Or.inr ⟨rfl, e2⟩
      · rw [zup_ne (by omega)]
        exact i2 c' (by omega)
    · intro n μ1 hI
      show wp (f_X0_spread_L2 93 la (nI t) (n + 1) (nI 144) μ1) _
      rw [f_X0_spread_L2]
      exact wp_it (nI_le (a := 144) (Nat.le_refl _) (by omega)) (wp_some hI)
  · refine wp_bdQ (Q := fun μ' => (∀ o, o ≠ 99 → o ≠ 100 → μ' o = μ o) ∧ BR 99 (Rch L A t) μ') ?_ (fun μ' h => wp_some h)
    refine wlp0 (fun n h μ' => f_X0_spread_L36 93 (nI t) n (nI h) μ') _ t (fun h μ' => (∀ o, o ≠ 99 → o ≠ 100 → μ' o = μ o) ∧ BR 99 (Rch L A h) μ') (by omega) μ1 ⟨fun o h1 _ => f1 o h1, b1⟩ ?_ ?_
    · intro n h μ2 hh ⟨f2, b2⟩ ih
      show wp (f_X0_spread_L36 93 (nI t) (n + 1) (nI h) μ2) _
      rw [f_X0_spread_L36]
      refine wp_ie (nI_ge hh (by omega)) (wp_bdQ (Q := fun μ' => (∀ o, o ≠ 100 → μ' o = μ2 o) ∧ BR 100 (fun _ => False) μ') ?_ (fun μ3 ⟨f3, b3⟩ => ?_))
      · refine wlp0 (fun n c μ' => f_X0_spread_L44 93 (nI t) (nI h) n (nI c) μ') _ 144 (fun k μ' => (∀ o, o ≠ 100 → μ' o = μ2 o) ∧ ∀ c, c < k → μ' 100 c = 0) (by omega) μ2 ⟨fun _ _ => rfl, fun c hc => by omega⟩ ?_ ?_
        · intro n c μ3 hc ⟨i1, i2⟩ ih
          show wp (f_X0_spread_L44 93 (nI t) (nI h) (n + 1) (nI c) μ3) _
          rw [f_X0_spread_L44]
          refine wp_ie (nI_ge (b := 144) hc (by omega)) (wp_g (zin_nI (by omega) (by omega)) (wp_ls (wp_ls ?_)))
          rw [nI_1, nI_clamp (by omega), zn0]
          refine ih _ ⟨fun o ho => by rw [zup_rne _ _ _ ho]; exact i1 o ho, fun c' hc' => ?_⟩
          by_cases e : c' = c
          · rw [e]
            exact zup_self _ _ _ _
          · rw [zup_ne (by omega)]
            exact i2 c' (by omega)
        · intro n μ3 ⟨i1, i2⟩
          show wp (f_X0_spread_L44 93 (nI t) (nI h) (n + 1) (nI 144) μ3) _
          rw [f_X0_spread_L44]
          exact wp_it (nI_le (a := 144) (Nat.le_refl _) (by omega)) (wp_some ⟨i1, fun c hc => Or.inr ⟨i2 c hc, fun w => w⟩⟩)
      · have n3 : NxP L 1296 μ3 := fun c i j hi hj hlt hw => by
          rw [f3 96 (by omega), f2 96 (by omega) (by omega)]
          exact hn c i j hi hj hlt hw
        have p3 : PrC L A μ3 := fun d hd => by
          rw [f3 95 (by omega), f2 95 (by omega) (by omega)]
          exact hp d hd
        have h3 : BR 99 (Rch L A h) μ3 := b2.congr (f3 99 (by omega))
        refine wp_bdQ (Q := fun μ' => (∀ o, o ≠ 100 → μ' o = μ3 o) ∧ BR 100 (Rch L A (h + 1)) μ') ?_ (fun μ4 ⟨f4, b4⟩ => ?_)
        · refine wlp0 (fun n k μ' => f_X0_spread_L69 93 (nI t) (nI h) n (nI k) μ') _ 1296 (fun k μ' => (∀ o, o ≠ 100 → μ' o = μ3 o) ∧ BR 100 (fun c => ∃ u i j, 9 * u + 3 * j + i < k ∧ Rch L A h u ∧ i < 3 ∧ j < 3 ∧ Pd L A i j ∧ c = nxc L u i j) μ') (by omega) μ3 ⟨fun _ _ => rfl, b3.iff (fun c _ => ⟨fun w => w.elim, fun ⟨u, i, j, w, _⟩ => by omega⟩)⟩ ?_ ?_
          · intro n k μ5 hk ⟨i1, i2⟩ ih
            have e9 : nI k % (9 : Int32) = nI (k % 9) := by
              show nI k % nI 9 = _
              exact nI_rem (by omega) (by omega) (by omega)
            have d9 : nI k / (9 : Int32) = nI (k / 9) := by
              show nI k / nI 9 = _
              exact pk_div (by omega) (by omega) (by omega)
            show wp (f_X0_spread_L69 93 (nI t) (nI h) (n + 1) (nI k) μ5) _
            rw [f_X0_spread_L69, e9, d9, nI_clamp (by omega), nI_clamp (by omega), nI_clamp (by omega), nI_1]
            have h5 : BR 99 (Rch L A h) μ5 := h3.congr (i1 99 (by omega))
            have p5 : PrC L A μ5 := fun d hd => by rw [i1 95 (by omega)]; exact p3 d hd
            have skip : ¬ (Rch L A h (k / 9) ∧ Pd L A (k % 9 % 3) (k % 9 / 3)) → wp (f_X0_spread_L69 93 (nI t) (nI h) n (nI (k + 1)) μ5) (fun μ' => (∀ o, o ≠ 100 → μ' o = μ3 o) ∧ BR 100 (Rch L A (h + 1)) μ') := fun hno => by
              refine ih _ ⟨i1, i2.iff (fun c _ => ⟨fun ⟨u, i, j, w1, w2⟩ => ⟨u, i, j, by omega, w2⟩, fun ⟨u, i, j, w1, w2, w3, w4, w5, w6⟩ => ⟨u, i, j, ?_, w2, w3, w4, w5, w6⟩⟩)⟩
              have : 9 * u + 3 * j + i ≠ k := fun e => hno ⟨by rw [show k / 9 = u by omega]; exact w2, by rw [show k % 9 % 3 = i by omega, show k % 9 / 3 = j by omega]; exact w5⟩
              omega
            refine wp_ie (nI_ge (b := 1296) hk (by omega)) (wp_g (zin_nI (by omega) (by omega)) ?_)
            by_cases c1 : Rch L A h (k / 9)
            · by_cases c2 : Pd L A (k % 9 % 3) (k % 9 / 3)
              · have wt := Rch_wat hO _ _ c1
                obtain ⟨x, y, _, _, _, _, _, q1, q2⟩ := nx_ok (i := k % 9 % 3) (j := k % 9 / 3) hB (by omega) (by omega) wt.2
                have ev : μ5 (93 + 3) k = nI (nxc L (k / 9) (k % 9 % 3) (k % 9 / 3)) := by
                  have := n3 (k / 9) (k % 9 % 3) (k % 9 / 3) (by omega) (by omega) (by omega) wt.2
                  rw [show 9 * (k / 9) + 3 * (k % 9 / 3) + k % 9 % 3 = k by omega] at this
                  show μ5 96 k = _
                  rw [i1 96 (by omega)]
                  exact this
                refine wp_bd (wp_bd (wp_ie (h5.yes (by omega) c1) (wp_g (zin_nI (by omega) (by omega)) (wp_ie (fun w => (p5.none hB (by omega)).mp w c2) (wp_some (wp_it rfl (wp_g (zin_nI (by omega) (by omega)) ?_)))))))
                rw [ev, nI_clamp (by omega)]
                refine wp_g (zin_nI q1 (by omega)) (wp_ls (wp_some (wp_ls (ih _ ⟨fun o ho => by rw [zup_rne _ _ _ ho]; exact i1 o ho, (i2.set q1).iff (fun c _ => ⟨fun w => ?_, fun ⟨u, i, j, w1, w2, w3, w4, w5, w6⟩ => ?_⟩)⟩))))
                · rcases w with ⟨u, i, j, w1, w2⟩ | w
                  · exact ⟨u, i, j, by omega, w2⟩
                  · exact ⟨k / 9, k % 9 % 3, k % 9 / 3, by omega, c1, by omega, by omega, c2, w⟩
                · by_cases e : 9 * u + 3 * j + i = k
                  · refine Or.inr ?_
                    rw [w6, show k / 9 = u by omega, show k % 9 % 3 = i by omega, show k % 9 / 3 = j by omega]
                  · exact Or.inl ⟨u, i, j, by omega, w2, w3, w4, w5, w6⟩
              · exact wp_bd (wp_bd (wp_ie (h5.yes (by omega) c1) (wp_g (zin_nI (by omega) (by omega)) (wp_it ((p5.none hB (by omega)).mpr c2) (wp_some (wp_ie (by decide) (wp_some (wp_ls (skip (fun w => c2 w.2))))))))))
            · exact wp_bd (wp_bd (wp_it (h5.no (by omega) c1) (wp_some (wp_ie (by decide) (wp_some (wp_ls (skip (fun w => c1 w.1))))))))
          · intro n μ5 ⟨i1, i2⟩
            show wp (f_X0_spread_L69 93 (nI t) (nI h) (n + 1) (nI 1296) μ5) _
            rw [f_X0_spread_L69]
            refine wp_it (nI_le (a := 1296) (Nat.le_refl _) (by omega)) (wp_some ⟨i1, i2.iff (fun c _ => ⟨fun ⟨u, i, j, w1, w2, w3, w4, w5, w6⟩ => ⟨u, w2, i, j, w3, w4, w5, w6⟩, fun ⟨u, w2, i, j, w3, w4, w5, w6⟩ => ⟨u, i, j, ?_, w2, w3, w4, w5, w6⟩⟩)⟩)
            have := (Rch_wat hO _ _ w2).1
            omega
        · refine wp_g (cpg11 (n := 144) (by omega)) (wp_g ?_ (wp_ls (wp_ls ?_)))
          · unfold zcpb
            rw [List.all_eq_true]
            intro c hc
            have hc : c < 144 := List.mem_range.mp hc
            show z01 (μ4 100 (0 + c)) = true
            rw [Nat.zero_add]
            rcases b4 c hc with ⟨w, _⟩ | ⟨w, _⟩ <;> rw [w] <;> decide
          · rw [nI_1]
            have en : ∀ o, o ≠ 99 → zcp μ4 (93 + 7) (93 + 6) 0 0 (144 : Int32) o = μ4 o := fun o ho => zcp_ne (n := 144) ho
            have ei : ∀ c, c < 144 → zcp μ4 (93 + 7) (93 + 6) 0 0 (144 : Int32) 99 c = μ4 100 c := fun c hc => zcp_in (n := 144) (by omega) hc
            refine ih _ ⟨fun o h1 h2 => by rw [en o h1, f4 o h2, f3 o h2]; exact f2 o h1 h2, fun c hc => ?_⟩
            rw [ei c hc]
            exact b4 c hc
    · intro n μ2 hI
      show wp (f_X0_spread_L36 93 (nI t) (n + 1) (nI t) μ2) _
      rw [f_X0_spread_L36]
      exact wp_it (nI_le (Nat.le_refl _) (by omega)) (wp_some hI)
/-- how many of a row -/
def cntR (o : Nat) (μ : zM) (n : Nat) : Int32 := sm n (fun c => if μ o c = 0 then 0 else 1)
theorem cellsC : f_X0_cellsReached 93 μ = some (cntR 99 μ 144) := by
  refine wp_eq ?_
  unfold f_X0_cellsReached
  refine wp_bdQ (Q := fun x => x = cntR 99 μ 144) ?_ (fun x hx => wp_some hx)
  refine wlp0 (fun n c x => f_X0_cellsReached_L4 93 μ n x (nI c)) _ 144 (fun c x => x = cntR 99 μ c) (by omega) 0 rfl ?_ ?_
  · intro n c x hc hx ih
    show wp (f_X0_cellsReached_L4 93 μ (n + 1) x (nI c)) _
    rw [f_X0_cellsReached_L4]
    refine wp_ie (nI_ge (b := 144) hc (by omega)) (wp_g (zin_nI (by omega) (by omega)) (wp_ls (wp_ls (wp_ls ?_))))
    rw [nI_1, nI_clamp (by omega)]
    refine ih _ ?_
    rw [hx]
    rfl
  · intro n x hx
    show wp (f_X0_cellsReached_L4 93 μ (n + 1) x (nI 144)) _
    rw [f_X0_cellsReached_L4]
    exact wp_it (nI_le (a := 144) (Nat.le_refl _) (by omega)) (wp_some hx)
end SPREAD
/-! the reference's cells -/
theorem MC_any (μ : zM) : ∃ S, MC μ S := by
  refine ⟨fun k => if k < 10 then μ 310 (k + 12) else if k < 30 then μ 314 (k - 20) else μ 315 (k - 30), fun k hk => (if_pos hk).symm, fun m hm => ?_, fun p hp => ?_⟩
  · show _ = if 20 + m < 10 then _ else if 20 + m < 30 then μ 314 (20 + m - 20) else _
    rw [if_neg (by omega), if_pos (by omega), show 20 + m - 20 = m by omega]
  · show _ = if 30 + p < 10 then _ else if 30 + p < 30 then _ else μ 315 (30 + p - 30)
    rw [if_neg (by omega), if_neg (by omega), show 30 + p - 30 = p by omega]
section CELLM
variable {q : Nat} {μ : zM} {L : Nat → Nat}
theorem cellAfterM {c d : Nat} (h : LM q μ L) (hB : LB L) (hc : c < 144) (hw : wat L c = true) (hd : d < 9) :
    wp (f_X12_cellAfter 310 (nI c) (nI d) μ) (fun p => p.1 = nI (nxc L c (d / 3) (d % 3)) ∧ MF μ p.2) := by
  have e12 : nI c % (12 : Int32) = nI (c % 12) := by
    show nI c % nI 12 = _
    exact nI_rem (by omega) (by omega) (by omega)
  have d12 : nI c / (12 : Int32) = nI (c / 12) := by
    show nI c / nI 12 = _
    exact pk_div (by omega) (by omega) (by omega)
  have e3 : nI d % (3 : Int32) = nI (d % 3) := by
    show nI d % nI 3 = _
    exact nI_rem (by omega) (by omega) (by omega)
  have d3 : nI d / (3 : Int32) = nI (d / 3) := by
    show nI d / nI 3 = _
    exact pk_div (by omega) (by omega) (by omega)
  obtain ⟨S, hS⟩ := MC_any μ
  unfold f_X12_cellAfter
  rw [e12, d12, e3, d3]
  refine wp_ls (wp_ls ?_)
  have g : MC (zup (zup μ 310 12 (nI (c % 12))) 310 13 (nI (c / 12))) (su (su S 0 (nI (c % 12))) 1 (nI (c / 12))) := (hS.put (k := 0) (v := nI (c % 12)) (by omega)).put (k := 1) (v := nI (c / 12)) (by omega)
  have f : MF μ (zup (zup μ 310 12 (nI (c % 12))) 310 13 (nI (c / 12))) := (MF.put (by omega) (by omega)).tr (MF.put (by omega) (by omega))
  have s0 : su (su S 0 (nI (c % 12))) 1 (nI (c / 12)) 0 = nI (c % 12) := by rw [su_ne (by omega), su_self]
  have s1 : su (su S 0 (nI (c % 12))) 1 (nI (c / 12)) 1 = nI (c / 12) := su_self _ _ _
  refine wp_bdQ (movesM (h.mf f) hB g (dir3 (by omega)) (dir3 (by omega)) ⟨c % 12, c / 12, s0, s1, hw⟩) fun μ3 ⟨g3, f3⟩ => wp_some ⟨?_, f.tr f3⟩
  have a0 : μ3 310 12 = nxx L c (d / 3) := by
    rw [show μ3 310 12 = _ from g3.f 0 (by omega), smove_0, s0, s1]
    rfl
  have a1 : μ3 310 13 = nxy L c (d / 3) (d % 3) := by
    rw [show μ3 310 13 = _ from g3.f 1 (by omega), smove_1, s0, s1]
    rfl
  obtain ⟨x, y, x1, y1, x2, y2, e1, _⟩ := nx_ok (c := c) (i := d / 3) (j := d % 3) hB (by omega) (by omega) hw
  show (12 : Int32) * μ3 310 13 + μ3 310 12 = _
  rw [a0, a1, x2, y2, e1]
  show nI 12 * nI y + nI x = _
  rw [pk_mul, nI_add]
theorem metAtM {c : Nat} (h : LM q μ L) (hB : LB L) (hc : c < 144) : f_X12_metAt 310 (nI c) μ = some (nI (tc L c)) := by
  have e12 : nI c % (12 : Int32) = nI (c % 12) := by
    show nI c % nI 12 = _
    exact nI_rem (by omega) (by omega) (by omega)
  have d12 : nI c / (12 : Int32) = nI (c / 12) := by
    show nI c / nI 12 = _
    exact pk_div (by omega) (by omega) (by omega)
  refine wp_eq ?_
  unfold f_X12_metAt
  rw [e12, d12]
  refine wp_bdE (sidesM h) (wp_bdE (ofM 9 h rfl (by omega)) (wp_bdE (ofM 10 h rfl (by omega)) (wp_some ?_)))
  rw [(sdN_ok L c).2, tc_add hB]
/-- the prices as the reference has them -/
def PrM (L : Nat → Nat) (A : Nat) (μ : zM) : Prop := ∃ C, TabN 318 9 C μ ∧ ∀ d, d < 9 → LeN (Ptear L A (d / 3) (d % 3)) 1000000 (nI (C d))
theorem PrM.congr {A : Nat} {μ' : zM} (h : PrM L A μ) (e : μ' 318 = μ 318) : PrM L A μ' := by
  obtain ⟨C, h1, h2⟩ := h
  exact ⟨C, h1.congr e, h2⟩
theorem PrM.none {A d : Nat} (h : PrM L A μ) (hB : LB L) (hd : d < 9) : (1000000 : Int32) ≤ μ 318 d ↔ ¬ Pd L A (d / 3) (d % 3) := by
  obtain ⟨C, h1, h2⟩ := h
  rw [(h1 d hd).1]
  rcases h2 d hd with ⟨t, k1, k2, _⟩ | ⟨k1, k2⟩
  · have := Ptear_le hB k1
    rw [k2]
    refine ⟨fun w => absurd w (nI_ge (b := 1000000) (by omega) (by omega)), fun w => absurd ⟨t, k1⟩ w⟩
  · rw [k2]
    exact ⟨fun _ ⟨t, ht⟩ => k1 t ht, fun _ => by decide⟩
/-- the reference's rows of cells -/
theorem reachM {A t : Nat} {v3 v4 x11 : Int32} (h : LM q μ L) (hO : LOk L) (hp : PrM L A μ) (ht : t ≤ 12) (b0 : BR 319 (Rch L A 0) μ) :
    wp (f_X12_reach_L129 310 (nI t) v3 v4 x11 zFU 0 μ) (fun μ' => KP μ μ' ∧ BR 319 (Rch L A t) μ') := by
  have hB := hO.1
  have zn0 : znb 0 = 0 := by decide
  have zn1 : znb 1 = 1 := by decide
  have main : wp (f_X12_reach_L129 310 (nI t) v3 v4 x11 zFU 0 μ) (fun μ' => (LM q μ' L ∧ PrM L A μ' ∧ KP μ μ') ∧ BR 319 (Rch L A t) μ') := by
    refine wlp0 (fun n h μ' => f_X12_reach_L129 310 (nI t) v3 v4 x11 n (nI h) μ') _ t (fun h μ' => (LM q μ' L ∧ PrM L A μ' ∧ KP μ μ') ∧ BR 319 (Rch L A h) μ') (by omega) μ ⟨⟨h, hp, KP.rf μ⟩, b0⟩ ?_ ?_
    · intro n h μ2 hh ⟨⟨l2, p2, k2⟩, b2⟩ ih
      show wp (f_X12_reach_L129 310 (nI t) v3 v4 x11 (n + 1) (nI h) μ2) _
      rw [f_X12_reach_L129]
      refine wp_ie (nI_ge hh (by omega)) (wp_bdQ (Q := fun μ' => (∀ o, o ≠ 320 → μ' o = μ2 o) ∧ BR 320 (fun _ => False) μ') ?_ (fun μ3 ⟨f3, b3⟩ => ?_))
      · refine wlp0 (fun n c μ' => f_X12_reach_L138 310 (nI t) v3 v4 x11 (nI h) n (nI c) μ') _ 144 (fun k μ' => (∀ o, o ≠ 320 → μ' o = μ2 o) ∧ ∀ c, c < k → μ' 320 c = 0) (by omega) μ2 ⟨fun _ _ => rfl, fun c hc => by omega⟩ ?_ ?_
        · intro n c μ3 hc ⟨i1, i2⟩ ih
          show wp (f_X12_reach_L138 310 (nI t) v3 v4 x11 (nI h) (n + 1) (nI c) μ3) _
          rw [f_X12_reach_L138]
          refine wp_ie (nI_ge (b := 144) hc (by omega)) (wp_g (zin_nI (by omega) (by omega)) (wp_ls (wp_ls ?_)))
          rw [nI_1, nI_clamp (by omega), zn0]
          refine ih _ ⟨fun o ho => by rw [zup_rne _ _ _ ho]; exact i1 o ho, fun c' hc' => ?_⟩
          by_cases e : c' = c
          · rw [e]
            exact zup_self _ _ _ _
          · rw [zup_ne (by omega)]
            exact i2 c' (by omega)
        · intro n μ3 ⟨i1, i2⟩
          show wp (f_X12_reach_L138 310 (nI t) v3 v4 x11 (nI h) (n + 1) (nI 144) μ3) _
          rw [f_X12_reach_L138]
          exact wp_it (nI_le (a := 144) (Nat.le_refl _) (by omega)) (wp_some ⟨i1, fun c hc => Or.inr ⟨i2 c hc, fun w => w⟩⟩)
      · have l3 : LM q μ3 L := l2.congr (f3 311 (by omega)) (by rw [f3 310 (by omega)])
        have p3 : PrM L A μ3 := p2.congr (f3 318 (by omega))
        have k3 : KP μ μ3 := k2.tr (fun o ho => f3 o (by omega))
        have h3 : BR 319 (Rch L A h) μ3 := b2.congr (f3 319 (by omega))
        refine wp_bdQ (Q := fun μ' => (LM q μ' L ∧ PrM L A μ' ∧ KP μ μ' ∧ BR 319 (Rch L A h) μ') ∧ BR 320 (Rch L A (h + 1)) μ') ?_ (fun μ4 ⟨⟨l4, p4, k4, h4⟩, b4⟩ => ?_)
        · refine wlp0 (fun n c μ' => f_X12_reach_L163 310 (nI t) v3 v4 x11 (nI h) n (nI c) μ') _ 144 (fun k μ' => (LM q μ' L ∧ PrM L A μ' ∧ KP μ μ' ∧ BR 319 (Rch L A h) μ') ∧ BR 320 (fun c => ∃ u i j, 9 * u + 3 * i + j < 9 * k ∧ Rch L A h u ∧ i < 3 ∧ j < 3 ∧ Pd L A i j ∧ c = nxc L u i j) μ') (by omega) μ3 ⟨⟨l3, p3, k3, h3⟩, b3.iff (fun c _ => ⟨fun w => w.elim, fun ⟨u, i, j, w, _⟩ => by omega⟩)⟩ ?_ ?_
          · intro n u0 μ5 hu ⟨⟨l5, p5, k5, h5⟩, b5⟩ ih
            show wp (f_X12_reach_L163 310 (nI t) v3 v4 x11 (nI h) (n + 1) (nI u0) μ5) _
            rw [f_X12_reach_L163]
            refine wp_ie (nI_ge (b := 144) hu (by omega)) (wp_bdQ (Q := fun μ' => (LM q μ' L ∧ PrM L A μ' ∧ KP μ μ' ∧ BR 319 (Rch L A h) μ') ∧ BR 320 (fun c => ∃ u i j, 9 * u + 3 * i + j < 9 * (u0 + 1) ∧ Rch L A h u ∧ i < 3 ∧ j < 3 ∧ Pd L A i j ∧ c = nxc L u i j) μ') ?_ (fun μ6 h6 => wp_ls ?_))
            · refine wlp0 (fun n d μ' => f_X12_reach_L174 310 (nI t) v3 v4 x11 (nI h) (nI u0) n (nI d) μ') _ 9 (fun d μ' => (LM q μ' L ∧ PrM L A μ' ∧ KP μ μ' ∧ BR 319 (Rch L A h) μ') ∧ BR 320 (fun c => ∃ u i j, 9 * u + 3 * i + j < 9 * u0 + d ∧ Rch L A h u ∧ i < 3 ∧ j < 3 ∧ Pd L A i j ∧ c = nxc L u i j) μ') (by omega) μ5 ⟨⟨l5, p5, k5, h5⟩, b5⟩ ?_ ?_
              · intro n d μ6 hd ⟨⟨l6, p6, k6, h6⟩, b6⟩ ih
                show wp (f_X12_reach_L174 310 (nI t) v3 v4 x11 (nI h) (nI u0) (n + 1) (nI d) μ6) _
                rw [f_X12_reach_L174, nI_clamp (by omega), nI_clamp (by omega), nI_1]
                have skip : ¬ (Rch L A h u0 ∧ Pd L A (d / 3) (d % 3)) → wp (f_X12_reach_L174 310 (nI t) v3 v4 x11 (nI h) (nI u0) n (nI (d + 1)) μ6) (fun μ' => (LM q μ' L ∧ PrM L A μ' ∧ KP μ μ' ∧ BR 319 (Rch L A h) μ') ∧ BR 320 (fun c => ∃ u i j, 9 * u + 3 * i + j < 9 * (u0 + 1) ∧ Rch L A h u ∧ i < 3 ∧ j < 3 ∧ Pd L A i j ∧ c = nxc L u i j) μ') := fun hno => by
                  refine ih _ ⟨⟨l6, p6, k6, h6⟩, b6.iff (fun c _ => ⟨fun ⟨u, i, j, w1, w2⟩ => ⟨u, i, j, by omega, w2⟩, fun ⟨u, i, j, w1, w2, w3, w4, w5, w6⟩ => ⟨u, i, j, ?_, w2, w3, w4, w5, w6⟩⟩)⟩
                  have : 9 * u + 3 * i + j ≠ 9 * u0 + d := fun e => hno ⟨by rw [show u0 = u by omega]; exact w2, by rw [show d / 3 = i by omega, show d % 3 = j by omega]; exact w5⟩
                  omega
                refine wp_ie (nI_ge (b := 9) hd (by omega)) (wp_g (zin_nI (by omega) (by omega)) ?_)
                by_cases c1 : Rch L A h u0
                · by_cases c2 : Pd L A (d / 3) (d % 3)
                  · have wt := Rch_wat hO _ _ c1
                    obtain ⟨x, y, _, _, _, _, _, q1, q2⟩ := nx_ok (i := d / 3) (j := d % 3) hB (by omega) (by omega) wt.2
                    refine wp_bd (wp_bd (wp_ie (h6.yes (by omega) c1) (wp_g (zin_nI (by omega) (by omega)) (wp_ie (fun w => (p6.none hB (by omega)).mp w c2) (wp_some (wp_it rfl (wp_bd2Q (cellAfterM l6 hB wt.1 wt.2 hd) fun r μ7 ⟨e7, f7⟩ => ?_)))))))
                    have e7 : r = nI (nxc L u0 (d / 3) (d % 3)) := e7
                    have f7 : MF μ6 μ7 := f7
                    rw [e7, nI_clamp (by omega)]
                    refine wp_g (zin_nI q1 (by omega)) (wp_ls (wp_some (wp_ls (ih _ ⟨⟨(l6.mf f7).congr (zup_rne _ _ _ (by omega)) (by rw [zup_rne _ _ _ (by omega)]), (p6.congr (f7.1 318 (by omega) (by omega) (by omega))).congr (zup_rne _ _ _ (by omega)), (k6.tr f7.to2.kp).tr (fun o ho => zup_rne _ _ _ (by omega)), (h6.congr (f7.1 319 (by omega) (by omega) (by omega))).congr (zup_rne _ _ _ (by omega))⟩, ((b6.congr (f7.1 320 (by omega) (by omega) (by omega))).set q1).iff (fun c _ => ⟨fun w => ?_, fun ⟨u, i, j, w1, w2, w3, w4, w5, w6⟩ => ?_⟩)⟩))))
                    · rcases w with ⟨u, i, j, w1, w2⟩ | w
                      · exact ⟨u, i, j, by omega, w2⟩
                      · exact ⟨u0, d / 3, d % 3, by omega, c1, by omega, by omega, c2, w⟩
                    · by_cases e : 9 * u + 3 * i + j = 9 * u0 + d
                      · refine Or.inr ?_
                        rw [w6, show u0 = u by omega, show d / 3 = i by omega, show d % 3 = j by omega]
                      · exact Or.inl ⟨u, i, j, by omega, w2, w3, w4, w5, w6⟩
                  · exact wp_bd (wp_bd (wp_ie (h6.yes (by omega) c1) (wp_g (zin_nI (by omega) (by omega)) (wp_it ((p6.none hB (by omega)).mpr c2) (wp_some (wp_ie (by decide) (wp_some (wp_ls (skip (fun w => c2 w.2))))))))))
                · exact wp_bd (wp_bd (wp_it (h6.no (by omega) c1) (wp_some (wp_ie (by decide) (wp_some (wp_ls (skip (fun w => c1 w.1))))))))
              · intro n μ6 h6
                show wp (f_X12_reach_L174 310 (nI t) v3 v4 x11 (nI h) (nI u0) (n + 1) (nI 9) μ6) _
                rw [f_X12_reach_L174]
                exact wp_it (nI_le (a := 9) (Nat.le_refl _) (by omega)) (wp_some h6)
            · rw [nI_1]
              exact ih _ h6
          · intro n μ5 ⟨h5, b5⟩
            show wp (f_X12_reach_L163 310 (nI t) v3 v4 x11 (nI h) (n + 1) (nI 144) μ5) _
            rw [f_X12_reach_L163]
            refine wp_it (nI_le (a := 144) (Nat.le_refl _) (by omega)) (wp_some ⟨h5, b5.iff (fun c _ => ⟨fun ⟨u, i, j, w1, w2, w3, w4, w5, w6⟩ => ⟨u, w2, i, j, w3, w4, w5, w6⟩, fun ⟨u, w2, i, j, w3, w4, w5, w6⟩ => ⟨u, i, j, ?_, w2, w3, w4, w5, w6⟩⟩)⟩)
            have := (Rch_wat hO _ _ w2).1
            omega
        · refine wp_bdQ (Q := fun μ' => (∀ o, o ≠ 319 → μ' o = μ4 o) ∧ BR 319 (Rch L A (h + 1)) μ') ?_ (fun μ5 ⟨f5, b5⟩ => wp_ls ?_)
          · refine wlp0 (fun n c μ' => f_X12_reach_L233 310 (nI t) v3 v4 x11 (nI h) n (nI c) μ') _ 144 (fun k μ' => (∀ o, o ≠ 319 → μ' o = μ4 o) ∧ ∀ c, c < k → (μ' 319 c = 1 ∧ Rch L A (h + 1) c) ∨ (μ' 319 c = 0 ∧ ¬ Rch L A (h + 1) c)) (by omega) μ4 ⟨fun _ _ => rfl, fun c hc => by omega⟩ ?_ ?_
            · intro n c μ5 hc ⟨i1, i2⟩ ih
              show wp (f_X12_reach_L233 310 (nI t) v3 v4 x11 (nI h) (n + 1) (nI c) μ5) _
              rw [f_X12_reach_L233, nI_clamp (by omega)]
              refine wp_ie (nI_ge (b := 144) hc (by omega)) (wp_g (zin_nI (by omega) (by omega)) (wp_ls (wp_ls ?_)))
              rw [nI_1]
              refine ih _ ⟨fun o ho => by rw [zup_rne _ _ _ ho]; exact i1 o ho, fun c' hc' => ?_⟩
              by_cases e : c' = c
              · have ev : μ5 (310 + 10) c = μ4 320 c := by rw [show μ5 (310 + 10) = μ4 320 from i1 320 (by omega)]
                rw [e, zup_self, ev]
                rcases b4 c hc with ⟨w, w'⟩ | ⟨w, w'⟩
                · rw [w, zn1]
                  exact Or.inl ⟨rfl, w'⟩
                · rw [w, zn0]
                  exact Or.inr ⟨rfl, w'⟩
              · rw [zup_ne (by omega)]
                exact i2 c' (by omega)
            · intro n μ5 hI
              show wp (f_X12_reach_L233 310 (nI t) v3 v4 x11 (nI h) (n + 1) (nI 144) μ5) _
              rw [f_X12_reach_L233]
              exact wp_it (nI_le (a := 144) (Nat.le_refl _) (by omega)) (wp_some hI)
          · rw [nI_1]
            exact ih _ ⟨⟨l4.congr (f5 311 (by omega)) (by rw [f5 310 (by omega)]), p4.congr (f5 318 (by omega)), k4.tr (fun o ho => f5 o (by omega))⟩, b5⟩
    · intro n μ2 hI
      show wp (f_X12_reach_L129 310 (nI t) v3 v4 x11 (n + 1) (nI t) μ2) _
      rw [f_X12_reach_L129]
      exact wp_it (nI_le (Nat.le_refl _) (by omega)) (wp_some hI)
  exact wp_mono main (fun μ' hμ => ⟨hμ.1.2.2, hμ.2⟩)
theorem cellsM : f_X12_reach_L299 310 μ zFU 0 0 = some (cntR 319 μ 144) := by
  refine wp_eq ?_
  refine wlp0 (fun n c x => f_X12_reach_L299 310 μ n x (nI c)) _ 144 (fun c x => x = cntR 319 μ c) (by omega) 0 rfl ?_ ?_
  · intro n c x hc hx ih
    show wp (f_X12_reach_L299 310 μ (n + 1) x (nI c)) _
    rw [f_X12_reach_L299]
    refine wp_ie (nI_ge (b := 144) hc (by omega)) (wp_g (zin_nI (by omega) (by omega)) (wp_ls (wp_ls (wp_ls ?_))))
    rw [nI_1, nI_clamp (by omega)]
    refine ih _ ?_
    rw [hx]
    rfl
  · intro n x hx
    show wp (f_X12_reach_L299 310 μ (n + 1) x (nI 144)) _
    rw [f_X12_reach_L299]
    exact wp_it (nI_le (a := 144) (Nat.le_refl _) (by omega)) (wp_some hx)
end CELLM
theorem hasCellC {a : Nat} {μ : zM} {L : Nat → Nat} (h : LC a μ L) (v w : Int32) : (f_X1_hasCell a v w μ = 1 ∧ ∃ x y : Nat, v = nI x ∧ w = nI y ∧ x < L 0 ∧ y < L 1) ∨ (f_X1_hasCell a v w μ = 0 ∧ ¬ ∃ x y : Nat, v = nI x ∧ w = nI y ∧ x < L 0 ∧ y < L 1) := by
  have w0 := h.2.1.1.1
  have w1 := h.2.1.1.2.1
  unfold f_X1_hasCell zl
  rw [h.2.2.1.1 0 (by omega), h.2.2.1.1 1 (by omega)]
  by_cases c : (¬ (v < 0)) ∧ ((¬ (nI (L 0) ≤ v)) ∧ ((¬ (w < 0)) ∧ (¬ (nI (L 1) ≤ w))))
  · rw [if_pos c]
    obtain ⟨x, x1, rfl⟩ := nI_of c.1
    obtain ⟨y, y1, rfl⟩ := nI_of c.2.2.1
    refine Or.inl ⟨rfl, x, y, rfl, rfl, ?_, ?_⟩
    · have := c.2.1
      rw [nI_leI (by omega) (by omega)] at this
      omega
    · have := c.2.2.2
      rw [nI_leI (by omega) (by omega)] at this
      omega
  · rw [if_neg c]
    refine Or.inr ⟨rfl, fun ⟨x, y, hx, hy, x1, y1⟩ => c ?_⟩
    subst hx hy
    exact ⟨nI_pos (by omega), nI_ge x1 (by omega), nI_pos (by omega), nI_ge y1 (by omega)⟩
theorem inM {v : Int32} {n : Nat} (h0 : 1 ≤ n) (hn : n < 2 ^ 31) : (¬ f_X12_isIn v 0 (nI n - 1) = 0) ↔ ∃ x : Nat, x < n ∧ v = nI x := by
  have e : nI n - 1 = nI (n - 1) := pk_sub h0
  rw [inY, e]
  constructor
  · rintro ⟨h1, h2⟩
    obtain ⟨x, x1, x2⟩ := nI_rng (b := n - 1) (by omega) h1 h2
    exact ⟨x, by omega, x2⟩
  · rintro ⟨x, x1, rfl⟩
    exact ⟨nI_pos (by omega), nI_nlt (by omega) (by omega)⟩
theorem reach_same (v1 v2 v3 v4 : Int32) : Same (f_X11_reach 0 v1 v2 v3 v4) (f_X12_reach 310 v1 v2 v3 v4) := by
  refine Same.of fun μ hI => ?_
  unfold f_X11_reach
  rcases lake_cases hI v1 with ⟨k, L, hk, hL, e1, e2⟩ | ⟨e1, e2⟩
  · have z1 : zgn (6 + 15 * k) 1 = true := by unfold zgn; rw [zlk_kd k hk]; rfl
    have hB := hL.1.1
    have w0 := hB.1.1
    have w1 := hB.1.2.1
    refine wp_bdE e1 (wp_bd (wp_cs (wp_g z1 ?_)))
    by_cases c : (¬ (v2 < 0)) ∧ (v2 ≤ (12 : Int32))
    · have cr : (¬ ((1 : Int32) = 0)) ∧ (¬ (f_X12_isIn v2 (0 : Int32) (12 : Int32)) = 0) := ⟨by decide, inY.mpr ⟨c.1, Int32.not_lt.mpr c.2⟩⟩
      obtain ⟨t, t1, et⟩ := nI_rng (b := 12) (by omega) c.1 (Int32.not_lt.mpr c.2)
      rw [et] at cr ⊢
      rw [et] at c
      refine wp_it c (wp_l fun x13 hx13 => ?_)
      -- the reference, once the cell is looked at
      have ref : ∀ (μ' : zM) (P : Int32 × zM → Prop), μ' 311 = μ 311 →
          ((¬ (v3 = -1 ∧ v4 = -1)) → (¬ ∃ x y : Nat, v3 = nI x ∧ v4 = nI y ∧ x < L 0 ∧ y < L 1) → ∀ μ2, KP μ' μ2 → P (-1, μ2)) →
          (∀ μ2, KP μ' μ2 → BR 319 (Rch L 0 t) μ2 → (v3 = -1 ∧ v4 = -1 → P (cntR 319 μ2 144, μ2)) ∧ (¬ (v3 = -1 ∧ v4 = -1) → ∀ x y : Nat, v3 = nI x → v4 = nI y → x < L 0 → y < L 1 → P (if μ2 319 (12 * y + x) = 0 then 0 else 1, μ2))) →
          wp (f_X12_reach 310 v1 (nI t) v3 v4 μ') P := by
        intro μ' P h311 hno hyes
        have l2 : LM (610 + 109 * k) (zup μ' 310 10 (nI (610 + 109 * k))) L := ⟨by omega, zup_self _ _ _ _, fun i hi => by rw [zup_ne (by omega), h311]; exact hL.2.2 i hi⟩
        have k2 : KP μ' (zup μ' 310 10 (nI (610 + 109 * k))) := zup310.kp
        unfold f_X12_reach
        refine wp_bd2 (wp_of (e2 μ' h311) (wp_it cr (wp_l fun x11 hx11 => ?_)))
        show wp (zbd (if x11 = 0 then some false else zbd (f_X12_of 310 (0 : Int32) (zup μ' 310 10 (nI (610 + 109 * k)))) fun r14 => if (f_X12_isIn v3 (0 : Int32) (r14 - (1 : Int32))) = 0 then some true else zbd (f_X12_of 310 (1 : Int32) (zup μ' 310 10 (nI (610 + 109 * k)))) fun r17 => if ¬ (f_X12_isIn v4 (0 : Int32) (r17 - (1 : Int32))) = 0 then some false else some true) _) P
        generalize zup μ' 310 10 (nI (610 + 109 * k)) = μ2 at l2 k2 ⊢
        have go : (v3 = -1 ∧ v4 = -1 ∨ ∃ x y : Nat, v3 = nI x ∧ v4 = nI y ∧ x < L 0 ∧ y < L 1) → wp (zbd (f_X12_prices 310 (-1 : Int32) μ2) fun μ20 =>
            zbd (f_X12_reach_L84 310 (nI t) v3 v4 x11 zFU (0 : Int32) μ20) fun μ28 =>
            zbd (f_X12_of 310 (5 : Int32) μ28) fun r29 =>
            zbd (f_X12_of 310 (4 : Int32) μ28) fun r30 =>
            zg (zin (((12 : Int32) * r29) + r30) 144) <|
            zl (zup μ28 (310 + 9) ((((12 : Int32) * r29) + r30).toNatClampNeg) (znb (1 : Int32))) fun μ32 =>
            zbd (f_X12_reach_L129 310 (nI t) v3 v4 x11 zFU (0 : Int32) μ32) fun μ85 =>
            if x11 = 0 then
              zbd (f_X12_reach_L299 310 μ85 zFU (0 : Int32) (0 : Int32)) fun x102 =>
              some (x102, μ85)
            else
              zg (zin (((12 : Int32) * v4) + v3) 144) <|
              zl (if (μ85 (310 + 9) ((((12 : Int32) * v4) + v3).toNatClampNeg)) = 0 then
                  (0 : Int32)
                else
                  (1 : Int32)) fun x106 =>
              some (x106, μ85)) P := by
          intro hor
          have sw := (start_wat hL.1).1
          refine wp_bdQ (pricesM (A := 0) l2 hB butOk_none) fun μ3 ⟨f3, p3⟩ => ?_
          have l3 : LM (610 + 109 * k) μ3 L := l2.congr (f3 311 (by omega) (by omega) (by omega)) (by rw [f3 310 (by omega) (by omega) (by omega)])
          refine wp_bdQ (Q := fun μ'' => (∀ o, o ≠ 319 → μ'' o = μ3 o) ∧ ∀ c, c < 144 → μ'' 319 c = 0) ?_ (fun μ4 ⟨f4, b4⟩ => ?_)
          · refine wlp0 (fun n c μ'' => f_X12_reach_L84 310 (nI t) v3 v4 x11 n (nI c) μ'') _ 144 (fun k μ'' => (∀ o, o ≠ 319 → μ'' o = μ3 o) ∧ ∀ c, c < k → μ'' 319 c = 0) (by omega) μ3 ⟨fun _ _ => rfl, fun c hc => by omega⟩ ?_ ?_
            · intro n c μ5 hc ⟨i1, i2⟩ ih
              show wp (f_X12_reach_L84 310 (nI t) v3 v4 x11 (n + 1) (nI c) μ5) _
              rw [f_X12_reach_L84]
              refine wp_ie (nI_ge (b := 144) hc (by omega)) (wp_g (zin_nI (by omega) (by omega)) (wp_ls (wp_ls ?_)))
              rw [nI_1, nI_clamp (by omega), show znb 0 = 0 by decide]
              refine ih _ ⟨fun o ho => by rw [zup_rne _ _ _ ho]; exact i1 o ho, fun c' hc' => ?_⟩
              by_cases e : c' = c
              · rw [e]
                exact zup_self _ _ _ _
              · rw [zup_ne (by omega)]
                exact i2 c' (by omega)
            · intro n μ5 hI
              show wp (f_X12_reach_L84 310 (nI t) v3 v4 x11 (n + 1) (nI 144) μ5) _
              rw [f_X12_reach_L84]
              exact wp_it (nI_le (a := 144) (Nat.le_refl _) (by omega)) (wp_some hI)
          · have l4 : LM (610 + 109 * k) μ4 L := l3.congr (f4 311 (by omega)) (by rw [f4 310 (by omega)])
            have es : (12 : Int32) * nI (L 5) + nI (L 4) = nI (12 * L 5 + L 4) := by
              show nI 12 * nI (L 5) + nI (L 4) = _
              rw [pk_mul, nI_add]
            refine wp_bdE (ofM 5 l4 rfl (by omega)) (wp_bdE (ofM 4 l4 rfl (by omega)) ?_)
            rw [es, nI_clamp (by omega), show znb 1 = 1 by decide]
            refine wp_g (zin_nI sw (by omega)) (wp_ls ?_)
            have b5 : BR 319 (Rch L 0 0) (zup μ4 (310 + 9) (12 * L 5 + L 4) 1) := fun c hc => by
              by_cases e : c = 12 * L 5 + L 4
              · refine Or.inl ⟨?_, e⟩
                rw [e]
                exact zup_self _ _ _ _
              · refine Or.inr ⟨?_, e⟩
                rw [zup_ne (by omega)]
                exact b4 c hc
            have l5 : LM (610 + 109 * k) (zup μ4 (310 + 9) (12 * L 5 + L 4) 1) L := l4.congr (zup_rne _ _ _ (by omega)) (by rw [zup_rne _ _ _ (by omega)])
            have p5 : PrM L 0 (zup μ4 (310 + 9) (12 * L 5 + L 4) 1) := (PrM.congr p3 (f4 318 (by omega))).congr (zup_rne _ _ _ (by omega))
            have k5 : KP μ' (zup μ4 (310 + 9) (12 * L 5 + L 4) 1) := k2.tr (fun o ho => by rw [zup_rne _ _ _ (by omega), f4 o (by omega), f3 o (by omega) (by omega) (by omega)])
            refine wp_bdQ (reachM l5 hL.1 p5 t1 b5) fun μ6 ⟨k6, b6⟩ => ?_
            obtain ⟨y1, y2⟩ := hyes μ6 (k5.tr k6) b6
            by_cases hn : v3 = -1 ∧ v4 = -1
            · rw [if_pos hn] at hx11
              exact wp_it hx11 (wp_bdE cellsM (wp_some (y1 hn)))
            · rw [if_neg hn] at hx11
              rcases hor with w | ⟨x, y, hx, hy, x1, y1⟩
              · exact absurd w hn
              · have ec : (12 : Int32) * v4 + v3 = nI (12 * y + x) := by
                  rw [hx, hy]
                  show nI 12 * nI y + nI x = _
                  rw [pk_mul, nI_add]
                rw [ec, nI_clamp (by omega)]
                exact wp_ie (by rw [hx11]; decide) (wp_g (zin_nI (by omega) (by omega)) (wp_ls (wp_some (y2 hn x y hx hy x1 y1))))
        by_cases hn : v3 = -1 ∧ v4 = -1
        · rw [if_pos hn] at hx11
          exact wp_bd (wp_it hx11 (wp_some (wp_ie (by decide) (go (Or.inl hn)))))
        · rw [if_neg hn] at hx11
          have hx0 : ¬ x11 = 0 := by rw [hx11]; decide
          refine wp_bd (wp_ie hx0 (wp_bdE (ofM 0 l2 rfl (by omega)) ?_))
          by_cases i3 : f_X12_isIn v3 0 (nI (L 0) - 1) = 0
          · refine wp_it i3 (wp_some (wp_it rfl (wp_some (hno hn (fun ⟨x, y, hx, _, x1, _⟩ => ?_) μ2 k2))))
            exact (inM (by omega) (by omega)).mpr ⟨x, x1, hx⟩ i3
          · refine wp_ie i3 (wp_bdE (ofM 1 l2 rfl (by omega)) ?_)
            by_cases i4 : f_X12_isIn v4 0 (nI (L 1) - 1) = 0
            · refine wp_ie (fun w => w i4) (wp_some (wp_it rfl (wp_some (hno hn (fun ⟨x, y, _, hy, _, y1⟩ => ?_) μ2 k2))))
              exact (inM (by omega) (by omega)).mpr ⟨y, y1, hy⟩ i4
            · refine wp_it i4 (wp_some (wp_ie (by decide) (go (Or.inr ?_))))
              obtain ⟨x, x1, hx⟩ := (inM (by omega) (by omega)).mp i3
              obtain ⟨y, y1, hy⟩ := (inM (by omega) (by omega)).mp i4
              exact ⟨x, y, hx, hy, x1, y1⟩
      -- the class's rows
      have run : ∀ P : (Int32 × zM) ⊕ Unit → Prop, (∀ μ', KP μ μ' → BR 99 (Rch L 0 t) μ' → wp (zbd (if x13 = 0 then zbd (f_X0_isReached (0 + 93) v3 v4 μ') fun r25 => if r25 = 0 then some (0 : Int32) else some (1 : Int32) else zbd (f_X0_cellsReached (0 + 93) μ') fun r27 => some r27) fun x28 => some (Sum.inl (x28, μ'))) P) →
          wp (zbd (f_X0_weigh (0 + 93) (6 + 15 * k) μ) fun μ16 => zbd (f_X0_chart (0 + 93) (6 + 15 * k) μ16) fun μ17 => zbd (f_X0_spread (0 + 93) (6 + 15 * k) (nI t) μ17) fun μ18 => zbd (if x13 = 0 then zbd (f_X0_isReached (0 + 93) v3 v4 μ18) fun r25 => if r25 = 0 then some (0 : Int32) else some (1 : Int32) else zbd (f_X0_cellsReached (0 + 93) μ18) fun r27 => some r27) fun x28 => some (Sum.inl (x28, μ18))) P := by
        intro P hP
        refine wp_bdQ (weighC hL.2.1 (by omega)) fun μ3 ⟨f3, _, _, g3⟩ => ?_
        have L3 : LC (6 + 15 * k) μ3 L := hL.2.1.congr (fun o h1 h2 => f3 o (by omega) (by omega))
        refine wp_bdQ (chartC L3 (by omega)) fun μ4 ⟨f4, n4, _⟩ => ?_
        have L4 : LC (6 + 15 * k) μ4 L := L3.congr (fun o h1 h2 => f4 o (by omega) (by omega) (by omega) (by omega) (by omega))
        have p4 : PrC L 0 μ4 := fun d hd => by
          rw [f4 95 (by omega) (by omega) (by omega) (by omega) (by omega)]
          exact g3 d hd
        refine wp_bdQ (spreadC L4 hL.1 (by omega) p4 n4 t1) fun μ5 ⟨f5, b5⟩ => ?_
        exact hP μ5 (fun o ho => by rw [f5 o (by omega) (by omega), f4 o (by omega) (by omega) (by omega) (by omega) (by omega), f3 o (by omega) (by omega)]) b5
      by_cases hn : v3 = -1 ∧ v4 = -1
      · rw [if_pos hn] at hx13
        refine wp_ie (fun w => absurd w.1 (by rw [hx13]; decide)) (run _ fun μ' k' b' => ?_)
        refine wp_bd (wp_ie (by rw [hx13]; decide) (wp_bdE cellsC (wp_some (wp_some (wp_suml (wp_some ⟨k', ?_⟩))))))
        refine ref μ' _ (k' 311 (by omega)) (fun w => absurd hn w) (fun μ2 k2 b2 => ⟨fun _ => ⟨?_, k2⟩, fun w => absurd hn w⟩)
        exact sm_congr (fun c hc => by rw [BR.eq b2 b' hc])
      · rw [if_neg hn] at hx13
        rcases hasCellC hL.2.1 v3 v4 with ⟨h1, x, y, hx, hy, x1, y1⟩ | ⟨h1, h2⟩
        · refine wp_ie (fun w => absurd w.2 (by rw [h1]; decide)) (run _ fun μ' k' b' => ?_)
          have ec : f_X0_cellOf v3 v4 = nI (12 * y + x) := by
            unfold f_X0_cellOf
            rw [hx, hy]
            show nI y * nI 12 + nI x = _
            rw [pk_mul, nI_add, Nat.mul_comm]
          have z2 : z01 (μ' (0 + 93 + 6) (12 * y + x)) = true := by
            rcases b' (12 * y + x) (by omega) with ⟨w, _⟩ | ⟨w, _⟩
            · rw [show μ' (0 + 93 + 6) (12 * y + x) = 1 from w]
              decide
            · rw [show μ' (0 + 93 + 6) (12 * y + x) = 0 from w]
              decide
          have hr : f_X0_isReached (0 + 93) v3 v4 μ' = some (μ' 99 (12 * y + x)) := by
            refine wp_eq ?_
            unfold f_X0_isReached
            rw [ec, nI_clamp (by omega)]
            exact wp_g (zin_nI (by omega) (by omega)) (wp_g z2 (wp_some rfl))
          have fin : ∀ a : Int32, a = (if μ' 99 (12 * y + x) = 0 then 0 else 1) → KP μ μ' ∧ wp (f_X12_reach 310 v1 (nI t) v3 v4 μ') (fun p2 => p2.1 = a ∧ KP μ' p2.2) := fun a ha => by
            refine ⟨k', ref μ' _ (k' 311 (by omega)) (fun _ w => absurd ⟨x, y, hx, hy, x1, y1⟩ w) (fun μ2 k2 b2 => ⟨fun w => absurd w hn, fun _ x' y' hx' hy' _ _ => ⟨?_, k2⟩⟩)⟩
            have ex : x' = x := by rw [← nI_clamp (n := x') (by omega), ← hx', hx, nI_clamp (by omega)]
            have ey : y' = y := by rw [← nI_clamp (n := y') (by omega), ← hy', hy, nI_clamp (by omega)]
            rw [ha, ex, ey]
            show (if μ2 319 (12 * y + x) = 0 then (0 : Int32) else 1) = _
            rw [BR.eq b2 b' (by omega)]
          by_cases r0 : μ' 99 (12 * y + x) = 0
          · exact wp_bd (wp_it hx13 (wp_bdE hr (wp_it r0 (wp_some (wp_some (wp_suml (wp_some (fin _ (if_pos r0).symm))))))))
          · exact wp_bd (wp_it hx13 (wp_bdE hr (wp_ie r0 (wp_some (wp_some (wp_suml (wp_some (fin _ (if_neg r0).symm))))))))
        · refine wp_it ⟨hx13, h1⟩ (wp_some (wp_suml (wp_some ⟨KP.rf μ, ?_⟩)))
          exact ref μ _ rfl (fun _ _ μ2 k2 => ⟨rfl, k2⟩) (fun μ2 _ _ => ⟨fun w => absurd w hn, fun _ x y hx hy x1 y1 => absurd ⟨x, y, hx, hy, x1, y1⟩ h2⟩)
    · refine wp_ie c (wp_some (wp_sumr (wp_some ⟨KP.rf μ, ?_⟩)))
      unfold f_X12_reach
      refine wp_bd2 (wp_of (e2 μ rfl) (wp_ie (fun w => c ?_) (wp_some ⟨rfl, zup310.kp⟩)))
      exact ⟨(inY.mp w.2).1, Int32.not_lt.mp (inY.mp w.2).2⟩
  · refine wp_bdE e1 (wp_bd (wp_cn (wp_some (wp_sumr (wp_some ⟨KP.rf μ, ?_⟩)))))
    unfold f_X12_reach
    exact wp_bd2 (wp_of (e2 μ rfl) (wp_ie (fun w => w.1 rfl) (wp_some ⟨rfl, KP.rf μ⟩)))
