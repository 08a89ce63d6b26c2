/-! CALLS THAT READ: fault, count, lake, deed, sight, dead, term -/
def vM (f : zM → Option Int32) : zM → Option (Int32 × zM) := fun μ => zbd (f μ) fun r => some (r, μ)
theorem Same.ofV {f1 : zM → Option Int32} {f2 : zM → Option (Int32 × zM)} (h : ∀ μ, Inv μ → ∃ r, f1 μ = some r ∧ wp (f2 μ) (fun p2 => p2.1 = r ∧ KP μ p2.2)) : Same (vM f1) f2 := Same.of fun μ hI => by
  obtain ⟨r, h1, h2⟩ := h μ hI
  exact wp_bdE h1 (wp_some ⟨KP.rf μ, h2⟩)
section READ
theorem fault_same (v : Int32) : Same (fun μ => some (f_X11_fault 0 v μ, μ)) (fun μ => some (f_X12_fault 310 v μ, μ)) := by
  refine Same.of fun μ hI => wp_some ⟨KP.rf μ, wp_some ⟨?_, KP.rf μ⟩⟩
  obtain ⟨e2, e3⟩ := hI.2.1.2.1
  show f_X12_fault 310 v μ = f_X11_fault 0 v μ
  unfold f_X12_fault f_X11_fault zl
  have e2 : μ (310 + 1) 6 = μ (0 + 1) 2 := e2
  have e3 : μ (310 + 1) 7 = μ (0 + 1) 3 := e3
  rw [e2, e3]
theorem count_same (v : Int32) : Same (vM (f_X11_count 0 v)) (vM (f_X12_count 310 v)) := by
  refine Same.ofV fun μ hI => ?_
  by_cases hv : ¬ v < 0 ∧ ¬ (5 : Int32) ≤ v
  · obtain ⟨j, j1, rfl⟩ := nI_of hv.1
    have j5 : j < 5 := (nI_ltI j1 (by omega)).mp (Int32.not_le.mp hv.2)
    obtain ⟨c, c1, c2, c3, -⟩ := hI.2.1.2.2.2.1 j j5
    refine ⟨nI c, ?_, ?_⟩
    · refine wp_eq ?_
      unfold f_X11_count
      refine wp_bd (wp_it hv (wp_g (zin_nI j5 (by omega)) (wp_some (wp_some ?_))))
      rw [nI_clamp j1]
      exact c2
    · refine wp_bd ?_
      unfold f_X12_count
      have : ¬ f_X12_isIn (nI j) 0 4 = 0 := by
        rw [isInM, decide_eq_true (nI_pos' j1), decide_eq_true (show nI j ≤ (4 : Int32) from nI_le (b := 4) (by omega) (by omega))]
        decide
      refine wp_bd (wp_ie this (wp_g (zin_nI (by omega) (by omega)) (wp_some (wp_some (wp_some ⟨?_, KP.rf μ⟩)))))
      show μ (310 + 1) (nI j).toNatClampNeg = nI c
      rw [nI_clamp j1]
      rw [Nat.zero_add] at c3
      exact c3
  · refine ⟨-2, ?_, ?_⟩
    · refine wp_eq ?_
      unfold f_X11_count
      exact wp_bd (wp_ie hv (wp_some (wp_some rfl)))
    · refine wp_bd ?_
      unfold f_X12_count
      have : f_X12_isIn v 0 4 = 0 := by
        rw [isInM, b2i_ne, Bool.and_eq_false_iff, decide_eq_false_iff_not, decide_eq_false_iff_not]
        by_cases h0 : v < 0
        · exact Or.inl (Int32.not_le.mpr h0)
        · obtain ⟨j, j1, rfl⟩ := nI_of h0
          refine Or.inr fun w => hv ⟨h0, fun u => ?_⟩
          have a1 := (nI_leI (b := 4) j1 (by omega)).mp w
          have a2 := (nI_leI (a := 5) (by omega) j1).mp u
          omega
      exact wp_bd (wp_it this (wp_some (wp_some (wp_some ⟨rfl, KP.rf μ⟩))))
/-- what lake() answers -/
def lakeAns (L : Nat → Nat) (j : Nat) : Int32 := if j < 16 then nI (L j) else if j < 20 then -1 else if j < 60 then (if (j - 20) % 20 < L 11 then nI (L (16 + 2 * ((j - 20) % 20) + (j - 20) / 20)) else -1) else if j < 100 then (if (j - 60) % 20 < L 12 then nI (L (56 + 2 * ((j - 60) % 20) + (j - 60) / 20)) else -1) else if j < 110 then (if j % 10 < L 13 then nI (L (80 + j % 10)) else -1) else
  if j < 140 then (if j % 10 < L 14 then nI (L (86 + 3 * (j % 10) + (j / 10 - 11))) else -1) else if j < 160 then (if j % 10 < L 15 then nI (L (101 + 2 * (j % 10) + (j / 10 - 14))) else -1) else -1
theorem lkA2 {L : Nat → Nat} {j : Nat} (h : 16 ≤ j) (k : j < 20) : lakeAns L j = -1 := by
  unfold lakeAns
  rw [if_neg (by omega), if_pos (by omega)]
theorem lkA3 {L : Nat → Nat} {j : Nat} (h : 20 ≤ j) (k : j < 60) : lakeAns L j = if (j - 20) % 20 < L 11 then nI (L (16 + 2 * ((j - 20) % 20) + (j - 20) / 20)) else -1 := by
  unfold lakeAns
  rw [if_neg (by omega), if_neg (by omega), if_pos (by omega)]
theorem lkA4 {L : Nat → Nat} {j : Nat} (h : 60 ≤ j) (k : j < 100) : lakeAns L j = if (j - 60) % 20 < L 12 then nI (L (56 + 2 * ((j - 60) % 20) + (j - 60) / 20)) else -1 := by
  unfold lakeAns
  rw [if_neg (by omega), if_neg (by omega), if_neg (by omega), if_pos (by omega)]
theorem lkA5 {L : Nat → Nat} {j : Nat} (h : 100 ≤ j) (k : j < 110) : lakeAns L j = if j % 10 < L 13 then nI (L (80 + j % 10)) else -1 := by
  unfold lakeAns
  rw [if_neg (by omega), if_neg (by omega), if_neg (by omega), if_neg (by omega), if_pos (by omega)]
theorem lkA6 {L : Nat → Nat} {j : Nat} (h : 110 ≤ j) (k : j < 140) : lakeAns L j = if j % 10 < L 14 then nI (L (86 + 3 * (j % 10) + (j / 10 - 11))) else -1 := by
  unfold lakeAns
  rw [if_neg (by omega), if_neg (by omega), if_neg (by omega), if_neg (by omega), if_neg (by omega), if_pos (by omega)]
theorem lkA7 {L : Nat → Nat} {j : Nat} (h : 140 ≤ j) (k : j < 160) : lakeAns L j = if j % 10 < L 15 then nI (L (101 + 2 * (j % 10) + (j / 10 - 14))) else -1 := by
  unfold lakeAns
  rw [if_neg (by omega), if_neg (by omega), if_neg (by omega), if_neg (by omega), if_neg (by omega), if_neg (by omega), if_pos (by omega)]
variable {a q : Nat} {μ : zM} {L : Nat → Nat}
theorem rowR (hL : LC a μ L) (k c : Nat) (hc : c < 2) : f_X6_number (a + 2) (nI k) (nI c) μ = some (if k < L 11 then nI (L (16 + 2 * k + c)) else -1) ∨ 2 ^ 31 ≤ k := by
  by_cases h31 : k < 2 ^ 31
  · refine Or.inl ?_
    by_cases h : k < L 11
    · rw [if_pos h]
      have : c = 0 ∨ c = 1 := by omega
      rcases this with rfl | rfl
      · exact rk_x hL.1 hL.2.1 hL.2.2.1 rfl h
      · exact (rk_y hL.1 hL.2.1 hL.2.2.1 rfl h).trans (by rw [show 17 + 2 * k = 16 + 2 * k + 1 by omega])
    · rw [if_neg h]
      exact number_out hL.2.2.1.2.1.1 (by have := hL.2.1.2.1; omega) (Or.inr (nI_le (by omega) h31))
  · exact Or.inr (by omega)
theorem rowG (hL : LC a μ L) (k c : Nat) (hc : c < 2) (h31 : k < 2 ^ 31) : f_X6_number (a + 4) (nI k) (nI c) μ = some (if k < L 12 then nI (L (56 + 2 * k + c)) else -1) := by
  by_cases h : k < L 12
  · rw [if_pos h]
    have : c = 0 ∨ c = 1 := by omega
    rcases this with rfl | rfl
    · exact gr_p hL.1 hL.2.1 hL.2.2.1 rfl h
    · exact (gr_w hL.1 hL.2.1 hL.2.2.1 rfl h).trans (by rw [show 57 + 2 * k = 56 + 2 * k + 1 by omega])
  · rw [if_neg h]
    exact number_out hL.2.2.1.2.1.2.1 (by have := hL.2.1.2.1; omega) (Or.inr (nI_le (by omega) h31))
theorem rowW (hL : LC a μ L) (k : Nat) (h31 : k < 2 ^ 31) : f_X6_number (a + 6) (nI k) 0 μ = some (if k < L 13 then nI (L (80 + k)) else -1) := by
  by_cases h : k < L 13
  · rw [if_pos h]
    exact wr_s hL.1 hL.2.1 hL.2.2.1 rfl h
  · rw [if_neg h]
    exact number_out hL.2.2.1.2.1.2.2.1 (by have := hL.2.1.2.1; omega) (Or.inr (nI_le (by omega) h31))
theorem rowM (hL : LC a μ L) (k c : Nat) (hc : c < 3) (h31 : k < 2 ^ 31) : f_X6_number (a + 8) (nI k) (nI c) μ = some (if k < L 14 then nI (L (86 + 3 * k + c)) else -1) := by
  by_cases h : k < L 14
  · rw [if_pos h]
    have : c = 0 ∨ c = 1 ∨ c = 2 := by omega
    rcases this with rfl | rfl | rfl
    · exact mo_w hL.1 hL.2.1 hL.2.2.1 rfl h
    · exact (mo_t hL.1 hL.2.1 hL.2.2.1 rfl h).trans (by rw [show 87 + 3 * k = 86 + 3 * k + 1 by omega])
    · exact (mo_k hL.1 hL.2.1 hL.2.2.1 rfl h).trans (by rw [show 88 + 3 * k = 86 + 3 * k + 2 by omega])
  · rw [if_neg h]
    exact number_out hL.2.2.1.2.1.2.2.2.1 (by have := hL.2.1.2.1; omega) (Or.inr (nI_le (by omega) h31))
theorem rowK (hL : LC a μ L) (k c : Nat) (hc : c < 2) (h31 : k < 2 ^ 31) : f_X6_number (a + 10) (nI k) (nI c) μ = some (if k < L 15 then nI (L (101 + 2 * k + c)) else -1) := by
  by_cases h : k < L 15
  · rw [if_pos h]
    have : c = 0 ∨ c = 1 := by omega
    rcases this with rfl | rfl
    · exact lk_p hL.1 hL.2.1 hL.2.2.1 rfl h
    · exact (lk_r hL.1 hL.2.1 hL.2.2.1 rfl h).trans (by rw [show 102 + 2 * k = 101 + 2 * k + 1 by omega])
  · rw [if_neg h]
    exact number_out hL.2.2.1.2.1.2.2.2.2 (by have := hL.2.1.2.1; omega) (Or.inr (nI_le (by omega) h31))
theorem lkd6 (hk : zkd a = 1) : zgn (a + 2) 6 = true ∧ zgn (a + 4) 6 = true ∧ zgn (a + 6) 6 = true ∧ zgn (a + 8) 6 = true ∧ zgn (a + 10) 6 = true := by
  have : ∀ a, a < zNN → zkd a = 1 → zgn (a + 2) 6 = true ∧ zgn (a + 4) 6 = true ∧ zgn (a + 6) 6 = true ∧ zgn (a + 8) 6 = true ∧ zgn (a + 10) 6 = true := by decide +kernel
  exact this a (zkd_lt (by omega)) hk
theorem lakeAnsC (hL : LC a μ L) {j : Nat} (j1 : j < 2 ^ 31) : f_X1_answer a (nI j) μ = some (lakeAns L j) := by
  obtain ⟨z2, z4, z6, z8, z10⟩ := lkd6 hL.1
  refine wp_eq ?_
  unfold f_X1_answer
  refine wp_it (nI_pos' j1) ?_
  refine wp_if (fun c => ?_) (fun c => ?_)
  · have c11 : 11 ≤ j := (nI_leI (a := 11) (by omega) j1).mp c
    refine wp_if (fun c => ?_) (fun c => ?_)
    · have c20 : 20 ≤ j := (nI_leI (a := 20) (by omega) j1).mp c
      refine wp_if (fun c => ?_) (fun c => ?_)
      · have c60 : 60 ≤ j := (nI_leI (a := 60) (by omega) j1).mp c
        refine wp_if (fun c => ?_) (fun c => ?_)
        · have c100 : 100 ≤ j := (nI_leI (a := 100) (by omega) j1).mp c
          refine wp_if (fun c => ?_) (fun c => ?_)
          · have c110 : 110 ≤ j := (nI_leI (a := 110) (by omega) j1).mp c
            refine wp_if (fun c => ?_) (fun c => ?_)
            · have c140 : 140 ≤ j := (nI_leI (a := 140) (by omega) j1).mp c
              refine wp_bd (wp_if (fun c => wp_some (wp_some ?_)) (fun c => ?_))
              · have c160 : 160 ≤ j := (nI_leI (a := 160) (by omega) j1).mp c
                unfold lakeAns
                rw [if_neg (by omega), if_neg (by omega), if_neg (by omega), if_neg (by omega), if_neg (by omega), if_neg (by omega), if_neg (by omega)]
              · have c160 : j < 160 := (nI_ltI j1 (by omega)).mp (Int32.not_le.mp c)
                have e1 : nI j % (10 : Int32) = nI (j % 10) := nI_rem (d := 10) j1 (by omega) (by omega)
                have e2 : (nI j - (140 : Int32)) / (10 : Int32) = nI ((j - 140) / 10) := by
                  rw [show nI j - (140 : Int32) = nI (j - 140) from pk_sub (b := 140) c140]
                  exact pk_div (d := 10) (by omega) (by omega) (by omega)
                rw [e1, e2]
                refine wp_bdE (rowK hL (j % 10) ((j - 140) / 10) (by omega) (by omega)) (wp_some (wp_some ?_))
                rw [lkA7 (by omega) (by omega), show (j - 140) / 10 = j / 10 - 14 by omega]
            · have c140 : j < 140 := (nI_ltI j1 (by omega)).mp (Int32.not_le.mp c)
              have e1 : nI j % (10 : Int32) = nI (j % 10) := nI_rem (d := 10) j1 (by omega) (by omega)
              have e2 : (nI j - (110 : Int32)) / (10 : Int32) = nI ((j - 110) / 10) := by
                rw [show nI j - (110 : Int32) = nI (j - 110) from pk_sub (b := 110) c110]
                exact pk_div (d := 10) (by omega) (by omega) (by omega)
              rw [e1, e2]
              refine wp_bdE (rowM hL (j % 10) ((j - 110) / 10) (by omega) (by omega)) (wp_some ?_)
              rw [lkA6 (by omega) (by omega), show (j - 110) / 10 = j / 10 - 11 by omega]
          · have c110 : j < 110 := (nI_ltI j1 (by omega)).mp (Int32.not_le.mp c)
            rw [show nI j - (100 : Int32) = nI (j - 100) from pk_sub (b := 100) c100]
            refine wp_bdE (rowW hL (j - 100) (by omega)) (wp_some ?_)
            rw [lkA5 (by omega) (by omega), show j - 100 = j % 10 by omega]
        · have c100 : j < 100 := (nI_ltI j1 (by omega)).mp (Int32.not_le.mp c)
          refine wp_bd (wp_if (fun c => ?_) (fun c => ?_))
          · have c80 : 80 ≤ j := (nI_leI (a := 80) (by omega) j1).mp c
            rw [show nI j - (80 : Int32) = nI (j - 80) from pk_sub (b := 80) c80]
            refine wp_bdE (rowG hL (j - 80) 1 (by omega) (by omega)) (wp_some (wp_some ?_))
            rw [lkA4 (by omega) (by omega), show (j - 60) % 20 = j - 80 by omega, show (j - 60) / 20 = 1 by omega]
          · have c80 : j < 80 := (nI_ltI j1 (by omega)).mp (Int32.not_le.mp c)
            rw [show nI j - (60 : Int32) = nI (j - 60) from pk_sub (b := 60) c60]
            refine wp_bdE (rowG hL (j - 60) 0 (by omega) (by omega)) (wp_some (wp_some ?_))
            rw [lkA4 (by omega) (by omega), show (j - 60) % 20 = j - 60 by omega, show (j - 60) / 20 = 0 by omega]
      · have c60 : j < 60 := (nI_ltI j1 (by omega)).mp (Int32.not_le.mp c)
        refine wp_bd (wp_if (fun c => ?_) (fun c => ?_))
        · have c40 : 40 ≤ j := (nI_leI (a := 40) (by omega) j1).mp c
          rw [show nI j - (40 : Int32) = nI (j - 40) from pk_sub (b := 40) c40]
          refine wp_bdE ((rowR hL (j - 40) 1 (by omega)).resolve_right (by omega)) (wp_some (wp_some ?_))
          rw [lkA3 (by omega) (by omega), show (j - 20) % 20 = j - 40 by omega, show (j - 20) / 20 = 1 by omega]
        · have c40 : j < 40 := (nI_ltI j1 (by omega)).mp (Int32.not_le.mp c)
          rw [show nI j - (20 : Int32) = nI (j - 20) from pk_sub (b := 20) c20]
          refine wp_bdE ((rowR hL (j - 20) 0 (by omega)).resolve_right (by omega)) (wp_some (wp_some ?_))
          rw [lkA3 (by omega) (by omega), show (j - 20) % 20 = j - 20 by omega, show (j - 20) / 20 = 0 by omega]
    · have c20 : j < 20 := (nI_ltI j1 (by omega)).mp (Int32.not_le.mp c)
      refine wp_ls (wp_bd ?_)
      have hs := hL.2.2.1.2.1
      have hj : j = 11 ∨ j = 12 ∨ j = 13 ∨ j = 14 ∨ j = 15 ∨ j = 16 ∨ j = 17 ∨ j = 18 ∨ j = 19 := by omega
      rcases hj with rfl | rfl | rfl | rfl | rfl | rfl | rfl | rfl | rfl
      · exact wp_cs (w := a + 2) (wp_g z2 (wp_some (wp_some hs.1)))
      · exact wp_cs (w := a + 4) (wp_g z4 (wp_some (wp_some hs.2.1)))
      · exact wp_cs (w := a + 6) (wp_g z6 (wp_some (wp_some hs.2.2.1)))
      · exact wp_cs (w := a + 8) (wp_g z8 (wp_some (wp_some hs.2.2.2.1)))
      · exact wp_cs (w := a + 10) (wp_g z10 (wp_some (wp_some hs.2.2.2.2)))
      · exact wp_cn (wp_some (wp_some rfl))
      · exact wp_cn (wp_some (wp_some rfl))
      · exact wp_cn (wp_some (wp_some rfl))
      · exact wp_cn (wp_some (wp_some rfl))
  · have c11 : j < 11 := (nI_ltI j1 (by omega)).mp (Int32.not_le.mp c)
    refine wp_g (zin_nI c11 (by omega)) (wp_some ?_)
    rw [nI_clamp j1, hL.2.2.1.1 j c11]
    unfold lakeAns
    rw [if_pos (by omega)]
theorem inYes {j x y : Nat} (j1 : j < 2 ^ 31) (h : x ≤ j ∧ j ≤ y) (hy : y < 2 ^ 31) : ¬ f_X12_isIn (nI j) (nI x) (nI y) = 0 := by
  rw [isInM, decide_eq_true (nI_le h.1 j1), decide_eq_true (nI_le h.2 hy)]
  decide
theorem inNo {j x y : Nat} (j1 : j < 2 ^ 31) (h : j < x ∨ y < j) (hx : x < 2 ^ 31) (hy : y < 2 ^ 31) : f_X12_isIn (nI j) (nI x) (nI y) = 0 := by
  rw [isInM, b2i_ne, Bool.and_eq_false_iff, decide_eq_false_iff_not, decide_eq_false_iff_not]
  rcases h with h | h
  · exact Or.inl (nI_ge h hx)
  · exact Or.inr (nI_ge h j1)
theorem inNeg {v : Int32} (x y : Nat) (hx : x < 2 ^ 31) (h : v < 0) : f_X12_isIn v (nI x) (nI y) = 0 := by
  rw [isInM, b2i_ne, Bool.and_eq_false_iff, decide_eq_false_iff_not]
  exact Or.inl fun w => absurd (Int32.lt_of_le_of_lt (Int32.le_trans (nI_pos' hx) w) h) (by decide)
end READ
section READ2
variable {a q : Nat} {μ : zM} {L : Nat → Nat}
theorem lakeAnsM (h : LM q μ L) (hB : LB L) {j : Nat} (j1 : j < 2 ^ 31) :
    wp (if (f_X12_isIn (nI j) (0 : Int32) (15 : Int32)) = 0 then
      if (f_X12_isIn (nI j) (20 : Int32) (59 : Int32)) = 0 then
        if (f_X12_isIn (nI j) (60 : Int32) (99 : Int32)) = 0 then
          zl (nI j % (10 : Int32)) fun x13 =>
          if (f_X12_isIn (nI j) (100 : Int32) (109 : Int32)) = 0 then
            if (f_X12_isIn (nI j) (110 : Int32) (139 : Int32)) = 0 then
              zbd (zbd (if (f_X12_isIn (nI j) (140 : Int32) (159 : Int32)) = 0 then
                    some false
                  else
                    zbd (f_X12_of 310 (15 : Int32) μ) fun r38 =>
                    if r38 ≤ x13 then
                      some false
                    else
                      some true) fun b40 =>
                if b40 = true then
                  zbd (f_X12_of 310 ((((101 : Int32) + ((2 : Int32) * x13)) + (nI j / (10 : Int32))) - (14 : Int32)) μ) fun r42 =>
                  some r42
                else
                  some (-1 : Int32)) fun x43 =>
              some (x43, μ)
            else
              zbd (f_X12_mourners 310 μ) fun r44 =>
              zbd (if r44 ≤ x13 then
                  some (-1 : Int32)
                else
                  zbd (f_X12_ofMourner 310 x13 ((nI j / (10 : Int32)) - (11 : Int32)) μ) fun r47 =>
                  some r47) fun x48 =>
              some (x48, μ)
          else
            zbd (f_X12_of 310 (13 : Int32) μ) fun r49 =>
            zbd (if r49 ≤ x13 then
                some (-1 : Int32)
              else
                zbd (f_X12_of 310 ((80 : Int32) + x13) μ) fun r52 =>
                some r52) fun x53 =>
            some (x53, μ)
        else
          zl ((nI j - (60 : Int32)) % (20 : Int32)) fun x54 =>
          zbd (f_X12_of 310 (12 : Int32) μ) fun r55 =>
          zbd (if r55 ≤ x54 then
              some (-1 : Int32)
            else
              zbd (f_X12_of 310 (((56 : Int32) + ((2 : Int32) * x54)) + ((nI j - (60 : Int32)) / (20 : Int32))) μ) fun r58 =>
              some r58) fun x59 =>
          some (x59, μ)
      else
        zl ((nI j - (20 : Int32)) % (20 : Int32)) fun x60 =>
        zbd (f_X12_of 310 (11 : Int32) μ) fun r61 =>
        zbd (if r61 ≤ x60 then
            some (-1 : Int32)
          else
            zbd (f_X12_of 310 (((16 : Int32) + ((2 : Int32) * x60)) + ((nI j - (20 : Int32)) / (20 : Int32))) μ) fun r64 =>
            some r64) fun x65 =>
        some (x65, μ)
    else
      zbd (f_X12_of 310 (nI j) μ) fun r66 =>
      some (r66, μ)) (fun p => p = (lakeAns L j, μ)) := by
  have hc := hB.2.1
  unfold lakeAns
  by_cases c16 : j < 16
  · rw [if_pos c16]
    exact wp_ie (inYes (x := 0) (y := 15) j1 ⟨by omega, by omega⟩ (by omega)) (wp_bdE (ofM j h rfl (by omega)) (wp_some rfl))
  refine wp_it (inNo (x := 0) (y := 15) j1 (Or.inr (by omega)) (by omega) (by omega)) ?_
  rw [if_neg c16]
  have e10 : nI j % (10 : Int32) = nI (j % 10) := nI_rem (d := 10) j1 (by omega) (by omega)
  have d10 : nI j / (10 : Int32) = nI (j / 10) := pk_div (d := 10) j1 (by omega) (by omega)
  by_cases c20 : j < 20
  · rw [if_pos c20]
    refine wp_it (inNo (x := 20) (y := 59) j1 (Or.inl (by omega)) (by omega) (by omega)) (wp_it (inNo (x := 60) (y := 99) j1 (Or.inl (by omega)) (by omega) (by omega)) (wp_ls (wp_it (inNo (x := 100) (y := 109) j1 (Or.inl (by omega)) (by omega) (by omega)) (wp_it (inNo (x := 110) (y := 139) j1 (Or.inl (by omega)) (by omega) (by omega)) (wp_bd (wp_bd (wp_it (inNo (x := 140) (y := 159) j1 (Or.inl (by omega)) (by omega) (by omega)) (wp_some (wp_ie (by decide) (wp_some (wp_some rfl)))))))))))
  rw [if_neg c20]
  by_cases c60 : j < 60
  · rw [if_pos c60]
    have e1 : (nI j - (20 : Int32)) % (20 : Int32) = nI ((j - 20) % 20) := by
      rw [show nI j - (20 : Int32) = nI (j - 20) from pk_sub (b := 20) (by omega)]
      exact nI_rem (d := 20) (by omega) (by omega) (by omega)
    have e2 : (nI j - (20 : Int32)) / (20 : Int32) = nI ((j - 20) / 20) := by
      rw [show nI j - (20 : Int32) = nI (j - 20) from pk_sub (b := 20) (by omega)]
      exact pk_div (d := 20) (by omega) (by omega) (by omega)
    rw [e1, e2]
    refine wp_ie (inYes (x := 20) (y := 59) j1 ⟨by omega, by omega⟩ (by omega)) (wp_ls (wp_bdE (ofM 11 h rfl (by omega)) ?_))
    by_cases hk : (j - 20) % 20 < L 11
    · rw [if_pos hk]
      exact wp_bd (wp_ie (nI_ge hk (by omega)) (wp_bdE (ofM (16 + 2 * ((j - 20) % 20) + (j - 20) / 20) h (lin2 16 2 _ _) (by omega)) (wp_some (wp_some rfl))))
    · rw [if_neg hk]
      exact wp_bd (wp_it (nI_le (by omega) (by omega)) (wp_some (wp_some rfl)))
  rw [if_neg c60]
  refine wp_it (inNo (x := 20) (y := 59) j1 (Or.inr (by omega)) (by omega) (by omega)) ?_
  by_cases c100 : j < 100
  · rw [if_pos c100]
    have e1 : (nI j - (60 : Int32)) % (20 : Int32) = nI ((j - 60) % 20) := by
      rw [show nI j - (60 : Int32) = nI (j - 60) from pk_sub (b := 60) (by omega)]
      exact nI_rem (d := 20) (by omega) (by omega) (by omega)
    have e2 : (nI j - (60 : Int32)) / (20 : Int32) = nI ((j - 60) / 20) := by
      rw [show nI j - (60 : Int32) = nI (j - 60) from pk_sub (b := 60) (by omega)]
      exact pk_div (d := 20) (by omega) (by omega) (by omega)
    rw [e1, e2]
    refine wp_ie (inYes (x := 60) (y := 99) j1 ⟨by omega, by omega⟩ (by omega)) (wp_ls (wp_bdE (ofM 12 h rfl (by omega)) ?_))
    by_cases hk : (j - 60) % 20 < L 12
    · rw [if_pos hk]
      exact wp_bd (wp_ie (nI_ge hk (by omega)) (wp_bdE (ofM (56 + 2 * ((j - 60) % 20) + (j - 60) / 20) h (lin2 56 2 _ _) (by omega)) (wp_some (wp_some rfl))))
    · rw [if_neg hk]
      exact wp_bd (wp_it (nI_le (by omega) (by omega)) (wp_some (wp_some rfl)))
  rw [if_neg c100]
  refine wp_it (inNo (x := 60) (y := 99) j1 (Or.inr (by omega)) (by omega) (by omega)) (wp_ls ?_)
  rw [e10, d10]
  by_cases c110 : j < 110
  · rw [if_pos c110]
    refine wp_ie (inYes (x := 100) (y := 109) j1 ⟨by omega, by omega⟩ (by omega)) (wp_bdE (ofM 13 h rfl (by omega)) ?_)
    by_cases hk : j % 10 < L 13
    · rw [if_pos hk]
      exact wp_bd (wp_ie (nI_ge hk (by omega)) (wp_bdE (ofM (80 + j % 10) h (nI_add 80 _) (by omega)) (wp_some (wp_some rfl))))
    · rw [if_neg hk]
      exact wp_bd (wp_it (nI_le (by omega) (by omega)) (wp_some (wp_some rfl)))
  rw [if_neg c110]
  refine wp_it (inNo (x := 100) (y := 109) j1 (Or.inr (by omega)) (by omega) (by omega)) ?_
  by_cases c140 : j < 140
  · rw [if_pos c140]
    refine wp_ie (inYes (x := 110) (y := 139) j1 ⟨by omega, by omega⟩ (by omega)) (wp_bdE (mournersM h) ?_)
    by_cases hk : j % 10 < L 14
    · rw [if_pos hk]
      have e3 : nI (j / 10) - (11 : Int32) = nI (j / 10 - 11) := pk_sub (b := 11) (by omega)
      rw [e3]
      exact wp_bd (wp_ie (nI_ge hk (by omega)) (wp_bdE (ofMournerM (m := j % 10) (j := j / 10 - 11) h rfl rfl (by omega) (by omega)) (wp_some (wp_some rfl))))
    · rw [if_neg hk]
      exact wp_bd (wp_it (nI_le (by omega) (by omega)) (wp_some (wp_some rfl)))
  rw [if_neg c140]
  refine wp_it (inNo (x := 110) (y := 139) j1 (Or.inr (by omega)) (by omega) (by omega)) ?_
  by_cases c160 : j < 160
  · rw [if_pos c160]
    refine wp_bd (wp_bd (wp_ie (inYes (x := 140) (y := 159) j1 ⟨by omega, by omega⟩ (by omega)) (wp_bdE (ofM 15 h rfl (by omega)) ?_)))
    by_cases hk : j % 10 < L 15
    · rw [if_pos hk]
      have e3 : (101 : Int32) + 2 * nI (j % 10) + nI (j / 10) - 14 = nI (101 + 2 * (j % 10) + (j / 10 - 14)) := by
        rw [show (101 : Int32) + 2 * nI (j % 10) + nI (j / 10) = nI (101 + 2 * (j % 10) + j / 10) from lin2 101 2 _ _, show nI (101 + 2 * (j % 10) + j / 10) - (14 : Int32) = nI (101 + 2 * (j % 10) + j / 10 - 14) from pk_sub (b := 14) (by omega), show 101 + 2 * (j % 10) + j / 10 - 14 = 101 + 2 * (j % 10) + (j / 10 - 14) by omega]
      exact wp_ie (nI_ge hk (by omega)) (wp_some (wp_it rfl (wp_bdE (ofM (101 + 2 * (j % 10) + (j / 10 - 14)) h e3 (by omega)) (wp_some (wp_some rfl)))))
    · rw [if_neg hk]
      exact wp_it (nI_le (by omega) (by omega)) (wp_some (wp_ie (by decide) (wp_some (wp_some rfl))))
  · rw [if_neg c160]
    exact wp_bd (wp_bd (wp_it (inNo (x := 140) (y := 159) j1 (Or.inr (by omega)) (by omega) (by omega)) (wp_some (wp_ie (by decide) (wp_some (wp_some rfl))))))
theorem lake_same (v1 v2 : Int32) : Same (vM (f_X11_lake 0 v1 v2)) (f_X12_lake 310 v1 v2) := by
  refine Same.ofV fun μ hI => ?_
  rcases lake_cases hI v1 with ⟨k, L, hk, hL, e1, e2⟩ | ⟨e1, e2⟩
  · have z1 : zgn (6 + 15 * k) 1 = true := by unfold zgn; rw [zlk_kd k hk]; rfl
    have l2 : LM (610 + 109 * k) (zup μ 310 10 (nI (610 + 109 * k))) L := ⟨by omega, zup_self _ _ _ _, fun i hi => by rw [zup_ne (by omega)]; exact hL.2.2 i hi⟩
    by_cases h0 : v2 < 0
    · refine ⟨-1, ?_, ?_⟩
      · refine wp_eq ?_
        unfold f_X11_lake
        refine wp_bdE e1 (wp_bd (wp_cs (wp_g z1 (wp_bd ?_))))
        unfold f_X1_answer
        exact wp_ie (Int32.not_le.mpr h0) (wp_some (wp_some (wp_some rfl)))
      · unfold f_X12_lake
        refine wp_bd2 (wp_of (e2 μ rfl) (wp_it (show ¬ (1 : Int32) = 0 by decide) (wp_it (inNeg 0 15 (by omega) h0) (wp_it (inNeg 20 59 (by omega) h0) (wp_it (inNeg 60 99 (by omega) h0) (wp_ls (wp_it (inNeg 100 109 (by omega) h0) (wp_it (inNeg 110 139 (by omega) h0) (wp_bd (wp_bd (wp_it (inNeg 140 159 (by omega) h0) (wp_some (wp_ie (by decide) (wp_some (wp_some ⟨rfl, zup310.kp⟩)))))))))))))))
    · obtain ⟨j, j1, rfl⟩ := nI_of h0
      refine ⟨lakeAns L j, ?_, ?_⟩
      · refine wp_eq ?_
        unfold f_X11_lake
        exact wp_bdE e1 (wp_bd (wp_cs (wp_g z1 (wp_bdE (lakeAnsC hL.2.1 j1) (wp_some (wp_some rfl))))))
      · unfold f_X12_lake
        refine wp_bd2 (wp_of (e2 μ rfl) (wp_it (show ¬ (1 : Int32) = 0 by decide) (wp_mono (lakeAnsM l2 hL.1.1 j1) fun p hp => ?_)))
        rw [hp]
        exact ⟨rfl, zup310.kp⟩
  · refine ⟨-1, ?_, ?_⟩
    · refine wp_eq ?_
      unfold f_X11_lake
      exact wp_bdE e1 (wp_bd (wp_cn (wp_some (wp_some rfl))))
    · unfold f_X12_lake
      exact wp_bd2 (wp_of (e2 μ rfl) (wp_ie (fun w => w rfl) (wp_some ⟨rfl, KP.rf μ⟩)))
/-- what a row of a page answers -/
def rowAns (n : Nat) (D : Nat → Nat → Int32) (last k what : Int32) : Int32 := if ¬ what < 0 ∧ what ≤ last then (if k = -1 then (if what = 0 then nI n else -2) else if ¬ k < 0 ∧ ¬ nI n ≤ k then D k.toNatClampNeg what.toNatClampNeg else -2) else -2
theorem rowOfC {w n m : Nat} {D : Nat → Nat → Int32} {k what : Int32} (hz : zgn w 6 = true) (hs : μ w 2 = nI n) (hn : n ≤ 40) (hm : m < 3) (num : ∀ j c, j < n → c ≤ m → f_X6_number w (nI j) (nI c) μ = some (D j c)) : f_X11_rowOf (some w) k what (nI m) μ = some (rowAns n D (nI m) k what) := by
  refine wp_eq ?_
  unfold f_X11_rowOf rowAns
  refine wp_bd (wp_cs (wp_g hz ?_))
  by_cases h1 : ¬ what < 0 ∧ what ≤ nI m
  · refine wp_it h1 ?_
    rw [if_pos h1]
    by_cases h2 : k = -1
    · refine wp_ie (fun u => u h2) (wp_ls (wp_some (wp_suml (wp_some ?_))))
      rw [if_pos h2, hs]
      by_cases h3 : what = 0
      · rw [if_neg (fun u => u h3), if_pos h3]
      · rw [if_pos h3, if_neg h3]
    · refine wp_it h2 ?_
      rw [if_neg h2]
      unfold f_X6_has zl
      rw [hs]
      by_cases h3 : ¬ k < 0 ∧ ¬ nI n ≤ k
      · rw [if_pos h3, if_pos h3]
        obtain ⟨j, j1, rfl⟩ := nI_of h3.1
        obtain ⟨c, c1, rfl⟩ := nI_of h1.1
        have hj : j < n := (nI_ltI j1 (by omega)).mp (Int32.not_le.mp h3.2)
        have hc : c ≤ m := (nI_leI c1 (by omega)).mp h1.2
        refine wp_bd (wp_ie (by decide) (wp_bdE (num j c hj hc) (wp_some (wp_some (wp_suml (wp_some ?_))))))
        rw [nI_clamp j1, nI_clamp c1]
      · rw [if_neg h3, if_neg h3]
        exact wp_bd (wp_it rfl (wp_some (wp_some (wp_suml (wp_some rfl)))))
  · refine wp_ie h1 ?_
    rw [if_neg h1]
    exact (wp_some (wp_sumr (wp_some rfl)))
theorem rowOfC_no {k what last : Int32} : f_X11_rowOf none k what last μ = some (-2) := by
  refine wp_eq ?_
  unfold f_X11_rowOf
  exact wp_bd (wp_cn (wp_some (wp_sumr (wp_some rfl))))
theorem in0_iff {v : Int32} {m : Nat} (hm : m < 2 ^ 31) : (¬ f_X12_isIn v 0 (nI m) = 0) = (¬ v < 0 ∧ v ≤ nI m) := by
  rw [isInM, b2i_ne, Bool.not_eq_false, Bool.and_eq_true, decide_eq_true_eq, decide_eq_true_eq, Int32.not_lt]
theorem in0n_iff {v : Int32} {n : Nat} (hn : n < 2 ^ 31) : (¬ f_X12_isIn v 0 (nI n - 1) = 0) = (¬ v < 0 ∧ ¬ nI n ≤ v) := by
  rw [isInM, b2i_ne, Bool.not_eq_false, Bool.and_eq_true, decide_eq_true_eq, decide_eq_true_eq]
  refine propext ⟨fun ⟨h1, h2⟩ => ⟨Int32.not_lt.mpr h1, fun w => ?_⟩, fun ⟨h1, h2⟩ => ⟨Int32.not_lt.mp h1, ?_⟩⟩
  · by_cases hz : n = 0
    · subst hz
      exact absurd (Int32.le_trans h1 h2) (by decide)
    · rw [show nI n - (1 : Int32) = nI (n - 1) from pk_sub (b := 1) (by omega)] at h2
      obtain ⟨j, j1, rfl⟩ := nI_of (Int32.not_lt.mpr h1)
      have a1 := (nI_leI j1 (by omega)).mp h2
      have a2 := (nI_leI hn j1).mp w
      omega
  · obtain ⟨j, j1, rfl⟩ := nI_of h1
    have a2 := (nI_ltI j1 hn).mp (Int32.not_le.mp h2)
    rw [show nI n - (1 : Int32) = nI (n - 1) from pk_sub (b := 1) (by omega)]
    exact nI_le (by omega) (by omega)
end READ2
section READ3
variable {μ : zM}
theorem rowAns_m1 {n m : Nat} {D : Nat → Nat → Int32} {what : Int32} (hm : m < 2 ^ 31) : rowAns n D (nI m) (-1) what = if what = 0 then nI n else -2 := by
  unfold rowAns
  rw [if_pos rfl]
  by_cases h : what = 0
  · rw [if_pos h, if_pos ⟨by rw [h]; decide, by rw [h]; exact nI_pos' hm⟩]
  · rw [if_neg h]
    split <;> rfl
theorem rowAns_k {n m : Nat} {D : Nat → Nat → Int32} {k what : Int32} (h : ¬ k = -1) : rowAns n D (nI m) k what = if (¬ k < 0 ∧ ¬ nI n ≤ k) ∧ (¬ what < 0 ∧ what ≤ nI m) then D k.toNatClampNeg what.toNatClampNeg else -2 := by
  unfold rowAns
  rw [if_neg h]
  by_cases h1 : ¬ what < 0 ∧ what ≤ nI m
  · rw [if_pos h1]
    by_cases h2 : ¬ k < 0 ∧ ¬ nI n ≤ k
    · rw [if_pos h2, if_pos ⟨h2, h1⟩]
    · rw [if_neg h2, if_neg (fun w => h2 w.1)]
  · rw [if_neg h1, if_neg (fun w => h1 w.2)]
theorem zlnP : ∀ k, k < 2 → zln (45 + 2 * k) = 24 ∧ zln (49 + 2 * k) = 24 := by decide +kernel
theorem zgnP {w k : Nat} (hk : k < 10) (h : w = 36 + 2 * k) : zgn w 6 = true := by
  subst h
  unfold zgn
  rw [zpg_kd k hk]
  rfl
theorem placeOf2 (k : Nat) : f_X12_placeOf 2 (nI k) = nI (1070 + 17 * k) := by
  unfold f_X12_placeOf
  rw [if_neg (by decide), if_neg (by decide), if_pos rfl]
  exact lin1 1070 17 k
theorem placeOf3 (k : Nat) : f_X12_placeOf 3 (nI k) = nI (1104 + 9 * k) := by
  unfold f_X12_placeOf
  rw [if_neg (by decide), if_neg (by decide), if_neg (by decide), if_pos rfl]
  exact lin1 1104 9 k
theorem deed_same (v1 v2 v3 : Int32) : Same (vM (f_X11_deed 0 v1 v2 v3)) (f_X12_deed 310 v1 v2 v3) := by
  refine Same.ofV fun μ hI => ?_
  unfold f_X11_deed f_X12_deed
  rcases day_cases hI v1 with ⟨kd, n, D, hkd, hv, hD, e3, e4⟩ | ⟨e3, e4⟩
  · have hn := hD.1
    refine ⟨rowAns n D (nI 2) v2 v3, ?_, ?_⟩
    · refine wp_eq (wp_bdE e3 (wp_bdE (rowOfC (m := 2) (zgnP (k := 2 + kd) (by omega) (by omega)) hD.2.1 hn (by omega) (fun j c hj hc => dayNum hkd hD rfl rfl rfl rfl hj (by omega))) (wp_some rfl)))
    · subst hv
      refine wp_bdE (e4 μ rfl) (wp_it (show ¬ (1 : Int32) = 0 by decide) (wp_ls ?_))
      rw [placeOf1]
      have d2 : DM (828 + 121 * kd) n D (zup μ 310 11 (nI (828 + 121 * kd))) := hD.dm hkd (zup_rne _ _ _ (by omega)) (zup_self _ _ _ _)
      by_cases h1 : v2 = -1
      · subst h1
        rw [rowAns_m1 (by omega)]
        refine wp_ie (fun w => w rfl) (wp_bd ?_)
        by_cases h2 : v3 = 0
        · rw [if_pos h2]
          exact wp_ie (fun w => w h2) (wp_bdE (deedsM d2) (wp_some (wp_some ⟨rfl, zup310.kp⟩)))
        · rw [if_neg h2]
          exact wp_it h2 (wp_some (wp_some ⟨rfl, zup310.kp⟩))
      · rw [rowAns_k h1]
        refine wp_it h1 (wp_bdE (deedsM d2) (wp_bd ?_))
        have ec : ((¬ f_X12_isIn v2 0 (nI n - 1) = 0) ∧ (¬ f_X12_isIn v3 0 2 = 0)) = ((¬ v2 < 0 ∧ ¬ nI n ≤ v2) ∧ (¬ v3 < 0 ∧ v3 ≤ nI 2)) := by
          rw [in0n_iff (by omega)]
          exact congrArg _ (in0_iff (m := 2) (by omega))
        by_cases h2 : (¬ v2 < 0 ∧ ¬ nI n ≤ v2) ∧ (¬ v3 < 0 ∧ v3 ≤ nI 2)
        · rw [if_pos h2]
          obtain ⟨j, j1, rfl⟩ := nI_of h2.1.1
          obtain ⟨c, c1, rfl⟩ := nI_of h2.2.1
          have hj : j < n := (nI_ltI j1 (by omega)).mp (Int32.not_le.mp h2.1.2)
          have hc : c ≤ 2 := (nI_leI c1 (by omega)).mp h2.2.2
          rw [nI_clamp j1, nI_clamp c1]
          exact wp_it (ec ▸ h2) (wp_bdE (deedM d2 rfl rfl hj (by omega)) (wp_some (wp_some ⟨rfl, zup310.kp⟩)))
        · rw [if_neg h2]
          exact wp_ie (ec ▸ h2) (wp_some (wp_some ⟨rfl, zup310.kp⟩))
  · exact ⟨-2, wp_eq (wp_bdE e3 (wp_bdE rowOfC_no (wp_some rfl))), wp_bdE (e4 μ rfl) (wp_ie (fun w => w rfl) (wp_some ⟨rfl, KP.rf μ⟩))⟩
theorem sight_same (v1 v2 v3 : Int32) : Same (vM (f_X11_sight 0 v1 v2 v3)) (f_X12_sight 310 v1 v2 v3) := by
  refine Same.ofV fun μ hI => ?_
  unfold f_X11_sight f_X12_sight
  rcases night_cases hI v1 with ⟨kd, n, D, hkd, hv, hD, e3, e4⟩ | ⟨e3, e4⟩
  · have hn := hD.1
    have hz := (zlnP kd hkd).1
    refine ⟨rowAns n (fun j c => nI (D j c)) (nI 1) v2 v3, ?_, ?_⟩
    · refine wp_eq (wp_bdE e3 (wp_bdE (rowOfC (m := 1) (zgnP (k := 4 + kd) (by omega) (by omega)) hD.2.1 (by omega) (by omega) (fun j c hj hc => ?_)) (wp_some rfl)))
      rw [number_in rfl rfl hD.2.1 hj (by omega) (by rw [show 44 + 2 * kd + 1 = 45 + 2 * kd by omega, hz]; omega) (by rw [show 44 + 2 * kd + 1 = 45 + 2 * kd by omega, hz]; omega) (by omega), hD.2.2.1 j hj c (by omega)]
    · subst hv
      refine wp_bdE (e4 μ rfl) (wp_it (show ¬ (1 : Int32) = 0 by decide) (wp_ls ?_))
      rw [placeOf2]
      generalize hm : zup μ 310 32 (nI (1070 + 17 * kd)) = μ2
      have f2 : μ2 311 = μ 311 := by rw [← hm]; exact zup_rne _ _ _ (by omega)
      have g2 : μ2 310 32 = nI (1070 + 17 * kd) := by rw [← hm]; exact zup_self _ _ _ _
      have kp : KP μ μ2 := by rw [← hm]; exact zup310.kp
      have es : f_X12_sights 310 μ2 = some (nI n) := by
        unfold f_X12_sights
        rw [g2, zin_nI (by omega) (by omega), nI_clamp (by omega)]
        show some (μ2 311 _) = _
        rw [f2, hD.2.2.2.1]
      by_cases h1 : v2 = -1
      · subst h1
        rw [rowAns_m1 (by omega)]
        refine wp_ie (fun w => w rfl) (wp_bd ?_)
        by_cases h2 : v3 = 0
        · rw [if_pos h2]
          exact wp_ie (fun w => w h2) (wp_bdE es (wp_some (wp_some ⟨rfl, kp⟩)))
        · rw [if_neg h2]
          exact wp_it h2 (wp_some (wp_some ⟨rfl, kp⟩))
      · rw [rowAns_k h1]
        refine wp_it h1 (wp_bdE es (wp_bd ?_))
        have ec : ((¬ f_X12_isIn v2 0 (nI n - 1) = 0) ∧ (¬ f_X12_isIn v3 0 1 = 0)) = ((¬ v2 < 0 ∧ ¬ nI n ≤ v2) ∧ (¬ v3 < 0 ∧ v3 ≤ nI 1)) := by
          rw [in0n_iff (by omega)]
          exact congrArg _ (in0_iff (m := 1) (by omega))
        by_cases h2 : (¬ v2 < 0 ∧ ¬ nI n ≤ v2) ∧ (¬ v3 < 0 ∧ v3 ≤ nI 1)
        · rw [if_pos h2]
          obtain ⟨j, j1, rfl⟩ := nI_of h2.1.1
          obtain ⟨c, c1, rfl⟩ := nI_of h2.2.1
          have hj : j < n := (nI_ltI j1 (by omega)).mp (Int32.not_le.mp h2.1.2)
          have hc : c ≤ 1 := (nI_leI c1 (by omega)).mp h2.2.2
          rw [nI_clamp j1, nI_clamp c1]
          have e5 : f_X12_sightOf 310 (nI j) (nI c) μ2 = some (nI (D j c)) := by
            unfold f_X12_sightOf
            have e : μ2 310 32 + 1 + 2 * nI j + nI c = nI (1070 + 17 * kd + 1 + 2 * j + c) := by
              rw [g2, nI_1]
              show nI (1070 + 17 * kd + 1) + nI 2 * nI j + nI c = _
              rw [pk_mul, nI_add, nI_add]
            rw [e, zin_nI (by omega) (by omega), nI_clamp (by omega)]
            show some (μ2 311 _) = _
            rw [f2, hD.2.2.2.2.1 j hj c (by omega)]
          exact wp_it (ec ▸ h2) (wp_bdE e5 (wp_some (wp_some ⟨rfl, kp⟩)))
        · rw [if_neg h2]
          exact wp_ie (ec ▸ h2) (wp_some (wp_some ⟨rfl, kp⟩))
  · exact ⟨-2, wp_eq (wp_bdE e3 (wp_bdE rowOfC_no (wp_some rfl))), wp_bdE (e4 μ rfl) (wp_ie (fun w => w rfl) (wp_some ⟨rfl, KP.rf μ⟩))⟩
theorem term_same (v1 v2 v3 : Int32) : Same (vM (f_X11_term 0 v1 v2 v3)) (f_X12_term 310 v1 v2 v3) := by
  refine Same.ofV fun μ hI => ?_
  unfold f_X11_term f_X12_term
  rcases law_cases hI v1 with ⟨kd, n, D, hkd, hv, hD, e3, e4⟩ | ⟨e3, e4⟩
  · have hn := hD.1
    have hz := zlnL kd hkd
    refine ⟨rowAns n D (nI 2) v2 v3, ?_, ?_⟩
    · refine wp_eq (wp_bdE e3 (wp_bdE (rowOfC (m := 2) (zgnP (k := 8 + kd) (by omega) (by omega)) hD.2.1 (by omega) (by omega) (fun j c hj hc => ?_)) (wp_some rfl)))
      rw [number_in rfl rfl hD.2.1 hj (by omega) (by rw [show 52 + 2 * kd + 1 = 53 + 2 * kd by omega, hz]; omega) (by rw [show 52 + 2 * kd + 1 = 53 + 2 * kd by omega, hz]; omega) (by omega), hD.2.2.1 j hj c (by omega)]
    · subst hv
      refine wp_bdE (e4 μ rfl) (wp_it (show ¬ (1 : Int32) = 0 by decide) (wp_ls ?_))
      rw [placeOf4]
      generalize hm : zup μ 310 25 (nI (1122 + 25 * kd)) = μ2
      have f2 : μ2 311 = μ 311 := by rw [← hm]; exact zup_rne _ _ _ (by omega)
      have g2 : μ2 310 25 = nI (1122 + 25 * kd) := by rw [← hm]; exact zup_self _ _ _ _
      have kp : KP μ μ2 := by rw [← hm]; exact zup310.kp
      have t2 : TM (1122 + 25 * kd) n D μ2 := ⟨hn, by omega, g2, by rw [f2]; exact ⟨hD.2.2.2.1, hD.2.2.2.2⟩⟩
      have es : μ2 (310 + 1) (nI (1122 + 25 * kd)).toNatClampNeg = nI n := by
        rw [nI_clamp (by omega)]
        show μ2 311 _ = _
        rw [f2, hD.2.2.2.1]
      rw [g2, es]
      by_cases h1 : v2 = -1
      · subst h1
        rw [rowAns_m1 (by omega)]
        refine wp_ie (fun w => w rfl) (wp_bd ?_)
        by_cases h2 : v3 = 0
        · rw [if_pos h2]
          exact wp_ie (fun w => w h2) (wp_g (zin_nI (by omega) (by omega)) (wp_some (wp_some ⟨rfl, kp⟩)))
        · rw [if_neg h2]
          exact wp_it h2 (wp_some (wp_some ⟨rfl, kp⟩))
      · rw [rowAns_k h1]
        refine wp_it h1 (wp_g (zin_nI (by omega) (by omega)) (wp_bd ?_))
        have ec : ((¬ f_X12_isIn v2 0 (nI n - 1) = 0) ∧ (¬ f_X12_isIn v3 0 2 = 0)) = ((¬ v2 < 0 ∧ ¬ nI n ≤ v2) ∧ (¬ v3 < 0 ∧ v3 ≤ nI 2)) := by
          rw [in0n_iff (by omega)]
          exact congrArg _ (in0_iff (m := 2) (by omega))
        by_cases h2 : (¬ v2 < 0 ∧ ¬ nI n ≤ v2) ∧ (¬ v3 < 0 ∧ v3 ≤ nI 2)
        · rw [if_pos h2]
          obtain ⟨j, j1, rfl⟩ := nI_of h2.1.1
          obtain ⟨c, c1, rfl⟩ := nI_of h2.2.1
          have hj : j < n := (nI_ltI j1 (by omega)).mp (Int32.not_le.mp h2.1.2)
          have hc : c ≤ 2 := (nI_leI c1 (by omega)).mp h2.2.2
          rw [nI_clamp j1, nI_clamp c1]
          exact wp_it (ec ▸ h2) (wp_bdE (termM t2 rfl rfl hj (by omega)) (wp_some (wp_some ⟨rfl, kp⟩)))
        · rw [if_neg h2]
          exact wp_ie (ec ▸ h2) (wp_some (wp_some ⟨rfl, kp⟩))
  · exact ⟨-2, wp_eq (wp_bdE e3 (wp_bdE rowOfC_no (wp_some rfl))), wp_bdE (e4 μ rfl) (wp_ie (fun w => w rfl) (wp_some ⟨rfl, KP.rf μ⟩))⟩
theorem dead_same (v1 v2 : Int32) : Same (vM (f_X11_dead 0 v1 v2)) (f_X12_dead 310 v1 v2) := by
  refine Same.ofV fun μ hI => ?_
  unfold f_X11_dead f_X12_dead
  rcases fog_cases hI v1 with ⟨kd, n, D, hkd, hv, hD, e3, e4⟩ | ⟨e3, e4⟩
  · have hn := hD.1
    have hz := (zlnP kd hkd).2
    refine ⟨rowAns n (fun j _ => nI (D j)) (nI 0) v2 0, ?_, ?_⟩
    · refine wp_eq (wp_bdE e3 (wp_bdE (rowOfC (m := 0) (zgnP (k := 6 + kd) (by omega) (by omega)) hD.2.1 (by omega) (by omega) (fun j c hj hc => ?_)) (wp_some rfl)))
      obtain rfl : c = 0 := by omega
      rw [number_in rfl rfl hD.2.1 hj (by omega) (by rw [show 48 + 2 * kd + 1 = 49 + 2 * kd by omega, hz]; omega) (by rw [show 48 + 2 * kd + 1 = 49 + 2 * kd by omega, hz]; omega) (by omega), hD.2.2.1 j hj]
    · subst hv
      refine wp_bdE (e4 μ rfl) (wp_it (show ¬ (1 : Int32) = 0 by decide) (wp_ls ?_))
      rw [placeOf3]
      generalize hm : zup μ 310 35 (nI (1104 + 9 * kd)) = μ2
      have f2 : μ2 311 = μ 311 := by rw [← hm]; exact zup_rne _ _ _ (by omega)
      have g2 : μ2 310 35 = nI (1104 + 9 * kd) := by rw [← hm]; exact zup_self _ _ _ _
      have kp : KP μ μ2 := by rw [← hm]; exact zup310.kp
      have es : μ2 (310 + 1) (nI (1104 + 9 * kd)).toNatClampNeg = nI n := by
        rw [nI_clamp (by omega)]
        show μ2 311 _ = _
        rw [f2, hD.2.2.2.1]
      rw [g2, es]
      by_cases h1 : v2 = -1
      · subst h1
        rw [rowAns_m1 (by omega), if_pos rfl]
        exact wp_bd (wp_ie (fun w => w rfl) (wp_g (zin_nI (by omega) (by omega)) (wp_some (wp_some ⟨rfl, kp⟩))))
      · refine wp_bd (wp_it h1 (wp_g (zin_nI (by omega) (by omega)) ?_))
        have ec := in0n_iff (v := v2) (n := n) (by omega)
        by_cases h2 : ¬ v2 < 0 ∧ ¬ nI n ≤ v2
        · have ea : rowAns n (fun j _ => nI (D j)) (nI 0) v2 0 = nI (D v2.toNatClampNeg) := by
            rw [rowAns_k h1]
            exact if_pos ⟨h2, by decide, by decide⟩
          rw [ea]
          have hin : ¬ f_X12_isIn v2 0 (nI n - 1) = 0 := ec ▸ h2
          refine wp_ie hin ?_
          obtain ⟨j, j1, rfl⟩ := nI_of h2.1
          have hj : j < n := (nI_ltI j1 (by omega)).mp (Int32.not_le.mp h2.2)
          have e5 : nI (1104 + 9 * kd) + 1 + nI j = nI (1104 + 9 * kd + 1 + j) := by rw [nI_1, nI_add]
          rw [e5, nI_clamp j1]
          refine wp_g (zin_nI (by omega) (by omega)) (wp_some (wp_some ⟨?_, kp⟩))
          show μ2 311 (nI (1104 + 9 * kd + 1 + j)).toNatClampNeg = nI (D j)
          rw [nI_clamp (by omega), f2, hD.2.2.2.2.1 j hj]
        · have ea : rowAns n (fun j _ => nI (D j)) (nI 0) v2 0 = -2 := by
            rw [rowAns_k h1]
            exact if_neg (fun w => h2 w.1)
          rw [ea]
          have hz : f_X12_isIn v2 0 (nI n - 1) = 0 := Decidable.not_not.mp (fun w => h2 (ec ▸ w))
          exact wp_it hz (wp_some (wp_some ⟨rfl, kp⟩))
  · exact ⟨-2, wp_eq (wp_bdE e3 (wp_bdE rowOfC_no (wp_some rfl))), wp_bdE (e4 μ rfl) (wp_ie (fun w => w rfl) (wp_some ⟨rfl, KP.rf μ⟩))⟩
end READ3
/-! WHAT LASTS, MOVED: from T, Q to T', Q' -/
def PB (T Q : Nat) (μ : zM) : Prop := (∀ s, s < 5 → ∃ c, c ≤ 2 ∧ μ (T + 2) s = nI c ∧ μ 311 (Q + s) = nI c ∧ ∀ k, k < c → (s = 0 → ∃ L, LakeR (T + 5 + 15 * k) (Q + 610 + 109 * k) μ L) ∧ (s = 1 → ∃ n D, DayR (T + 39 + 2 * k) (Q + 828 + 121 * k) μ n D) ∧ (s = 2 → ∃ n X, NightR (T + 43 + 2 * k) (Q + 1070 + 17 * k) μ n X) ∧ (s = 3 → ∃ n X, FogR (T + 47 + 2 * k) (Q + 1104 + 9 * k) μ n X) ∧ (s = 4 → ∃ n D, LawR (T + 51 + 2 * k) (Q + 1122 + 25 * k) μ n D)) ∧
  (∀ k, k < 2 → ∃ L, LC (T + 5 + 15 * k) μ L)
def PH (T Q : Nat) (μ : zM) : Prop := (∃ n, n ≤ 600 ∧ μ T 1 = nI n ∧ μ 311 (Q + 5) = nI n) ∧ (μ 311 (Q + 6) = μ T 2 ∧ μ 311 (Q + 7) = μ T 3) ∧
  (∀ i, i < 600 → μ 311 (Q + 10 + i) = μ (T + 1) i ∧ ∃ b, b < 256 ∧ μ (T + 1) i = nI b)
theorem PR.iff {T Q : Nat} {μ : zM} : PR T Q μ ↔ PH T Q μ ∧ PB T Q μ := ⟨fun h => ⟨⟨h.1, h.2.1, h.2.2.1⟩, h.2.2.2⟩, fun h => ⟨h.1.1, h.1.2.1, h.1.2.2, h.2⟩⟩
/-- the rows that count are the same -/
def RowEq (w w' : Nat) (μ μ' : zM) : Prop := ∀ n, n ≤ 40 → μ w 2 = nI n → μ' w' 2 = nI n ∧ ∀ i, i < 3 * n → μ' (w' + 1) i = μ (w + 1) i
theorem RowEq.same {w : Nat} {μ μ' : zM} (h : μ' w = μ w) (h1 : μ' (w + 1) = μ (w + 1)) : RowEq w w μ μ' := fun n _ e => ⟨by rw [h]; exact e, fun i _ => by rw [h1]⟩
theorem DayR.move {w d w' d' n : Nat} {μ μ' : zM} {D : Nat → Nat → Int32} (h : DayR w d μ n D) (r : RowEq w w' μ μ') (e : ∀ i, i < 121 → μ' 311 (d' + i) = μ 311 (d + i)) : DayR w' d' μ' n D := by
  obtain ⟨h1, h2, h3, h4, h5, h6⟩ := h
  obtain ⟨r1, r2⟩ := r n h1 h2
  refine ⟨h1, r1, fun j hj c hc => by rw [r2 _ (by omega)]; exact h3 j hj c hc, (e 0 (by omega)).trans h4, fun j hj c hc => ?_, h6⟩
  rw [show d' + 1 + 3 * j + c = d' + (1 + 3 * j + c) by omega, e _ (by omega), show d + (1 + 3 * j + c) = d + 1 + 3 * j + c by omega]
  exact h5 j hj c hc
theorem LawR.move {w d w' d' n : Nat} {μ μ' : zM} {D : Nat → Nat → Int32} (h : LawR w d μ n D) (r : RowEq w w' μ μ') (e : ∀ i, i < 25 → μ' 311 (d' + i) = μ 311 (d + i)) : LawR w' d' μ' n D := by
  obtain ⟨h1, h2, h3, h4, h5⟩ := h
  obtain ⟨r1, r2⟩ := r n (by omega) h2
  refine ⟨h1, r1, fun j hj c hc => by rw [r2 _ (by omega)]; exact h3 j hj c hc, (e 0 (by omega)).trans h4, fun j hj c hc => ?_⟩
  rw [show d' + 1 + 3 * j + c = d' + (1 + 3 * j + c) by omega, e _ (by omega), show d + (1 + 3 * j + c) = d + 1 + 3 * j + c by omega]
  exact h5 j hj c hc
theorem NightR.move {w d w' d' n : Nat} {μ μ' : zM} {D : Nat → Nat → Nat} (h : NightR w d μ n D) (r : RowEq w w' μ μ') (e : ∀ i, i < 17 → μ' 311 (d' + i) = μ 311 (d + i)) : NightR w' d' μ' n D := by
  obtain ⟨h1, h2, h3, h4, h5, h6⟩ := h
  obtain ⟨r1, r2⟩ := r n (by omega) h2
  refine ⟨h1, r1, fun j hj c hc => by rw [r2 _ (by omega)]; exact h3 j hj c hc, (e 0 (by omega)).trans h4, fun j hj c hc => ?_, h6⟩
  rw [show d' + 1 + 2 * j + c = d' + (1 + 2 * j + c) by omega, e _ (by omega), show d + (1 + 2 * j + c) = d + 1 + 2 * j + c by omega]
  exact h5 j hj c hc
theorem FogR.move {w d w' d' n : Nat} {μ μ' : zM} {D : Nat → Nat} (h : FogR w d μ n D) (r : RowEq w w' μ μ') (e : ∀ i, i < 9 → μ' 311 (d' + i) = μ 311 (d + i)) : FogR w' d' μ' n D := by
  obtain ⟨h1, h2, h3, h4, h5, h6⟩ := h
  obtain ⟨r1, r2⟩ := r n (by omega) h2
  refine ⟨h1, r1, fun j hj => by rw [r2 _ (by omega)]; exact h3 j hj, (e 0 (by omega)).trans h4, fun j hj => ?_, h6⟩
  rw [show d' + 1 + j = d' + (1 + j) by omega, e _ (by omega), show d + (1 + j) = d + 1 + j by omega]
  exact h5 j hj
theorem PB.move {T Q T' Q' : Nat} {μ μ' : zM} (h : PB T Q μ) (hc : ∀ s, s < 5 → μ' (T' + 2) s = μ (T + 2) s) (hp : ∀ k, k < 10 → RowEq (T + 35 + 2 * k) (T' + 35 + 2 * k) μ μ') (hl : ∀ k, k < 2 → ∀ L, LC (T + 5 + 15 * k) μ L → LC (T' + 5 + 15 * k) μ' L) (e : ∀ i, i < 5 ∨ (610 ≤ i ∧ i < 1172) → μ' 311 (Q' + i) = μ 311 (Q + i)) : PB T' Q' μ' := by
  obtain ⟨p, w⟩ := h
  have e2 : ∀ a b i, i < 5 ∨ (610 ≤ i ∧ i < 1172) → a = Q' + i → b = Q + i → μ' 311 a = μ 311 b := fun a b i hi h1 h2 => by rw [h1, h2]; exact e i hi
  refine ⟨fun s hs => ?_, fun k hk => ?_⟩
  · obtain ⟨c, c1, c2, c3, c4⟩ := p s hs
    refine ⟨c, c1, by rw [hc s hs]; exact c2, by rw [e s (by omega)]; exact c3, fun k hk => ?_⟩
    obtain ⟨d0, d1, d2, d3, d4⟩ := c4 k hk
    refine ⟨fun es => ?_, fun es => ?_, fun es => ?_, fun es => ?_, fun es => ?_⟩
    · obtain ⟨L, l1, l2, l3⟩ := d0 es
      exact ⟨L, l1, hl k (by omega) L l2, fun i hi => by rw [e2 _ (Q + 610 + 109 * k + i) (610 + 109 * k + i) (by omega) (by omega) (by omega)]; exact l3 i hi⟩
    · obtain ⟨n, D, l⟩ := d1 es
      have r := hp (2 + k) (by omega)
      rw [show T + 35 + 2 * (2 + k) = T + 39 + 2 * k by omega, show T' + 35 + 2 * (2 + k) = T' + 39 + 2 * k by omega] at r
      exact ⟨n, D, l.move r fun i hi => e2 _ _ (828 + 121 * k + i) (by omega) (by omega) (by omega)⟩
    · obtain ⟨n, D, l⟩ := d2 es
      have r := hp (4 + k) (by omega)
      rw [show T + 35 + 2 * (4 + k) = T + 43 + 2 * k by omega, show T' + 35 + 2 * (4 + k) = T' + 43 + 2 * k by omega] at r
      exact ⟨n, D, l.move r fun i hi => e2 _ _ (1070 + 17 * k + i) (by omega) (by omega) (by omega)⟩
    · obtain ⟨n, D, l⟩ := d3 es
      have r := hp (6 + k) (by omega)
      rw [show T + 35 + 2 * (6 + k) = T + 47 + 2 * k by omega, show T' + 35 + 2 * (6 + k) = T' + 47 + 2 * k by omega] at r
      exact ⟨n, D, l.move r fun i hi => e2 _ _ (1104 + 9 * k + i) (by omega) (by omega) (by omega)⟩
    · obtain ⟨n, D, l⟩ := d4 es
      have r := hp (8 + k) (by omega)
      rw [show T + 35 + 2 * (8 + k) = T + 51 + 2 * k by omega, show T' + 35 + 2 * (8 + k) = T' + 51 + 2 * k by omega] at r
      exact ⟨n, D, l.move r fun i hi => e2 _ _ (1122 + 25 * k + i) (by omega) (by omega) (by omega)⟩
  · obtain ⟨L, l1⟩ := w k hk
    exact ⟨L, hl k hk L l1⟩
theorem PR.keep {T Q : Nat} {μ μ' : zM} (h : PR T Q μ) (hf : ∀ o, T ≤ o → o < T + 55 → μ' o = μ o) (e : ∀ i, i < 1172 → μ' 311 (Q + i) = μ 311 (Q + i)) : PR T Q μ' := by
  obtain ⟨⟨⟨n, n1, n2, n3⟩, ⟨f1, f2⟩, t⟩, hb⟩ := PR.iff.mp h
  refine PR.iff.mpr ⟨⟨⟨n, n1, by rw [hf T (by omega) (by omega)]; exact n2, by rw [e 5 (by omega)]; exact n3⟩, ⟨by rw [e 6 (by omega), hf T (by omega) (by omega)]; exact f1, by rw [e 7 (by omega), hf T (by omega) (by omega)]; exact f2⟩, fun i hi => ?_⟩, ?_⟩
  · have := e (10 + i) (by omega)
    rw [← Nat.add_assoc] at this
    rw [this, hf (T + 1) (by omega) (by omega)]
    exact t i hi
  · exact hb.move (fun s hs => by rw [hf _ (by omega) (by omega)]) (fun k hk => RowEq.same (hf _ (by omega) (by omega)) (hf _ (by omega) (by omega))) (fun k hk L l => l.congr (fun o o1 o2 => hf o (by omega) (by omega))) (fun i hi => e i (by omega))
/-- Rows.takeFrom -/
theorem rowTake {w w' : Nat} {μ : zM} (hne : w ≠ w' ∧ w ≠ w' + 1 ∧ w + 1 ≠ w' ∧ w + 1 ≠ w' + 1) (hl : zln (w' + 1) = zln (w + 1)) (hz : zln (w + 1) < 1000) (h0 : μ w' 0 = nI (zln (w' + 1) / 3)) {n : Nat} (hn : 3 * n ≤ zln (w + 1)) (hs : μ w 2 = nI n) :
    wp (f_X6_takeFrom w' w μ) (fun μ' => μ' w' 2 = nI n ∧ μ' w' 0 = μ w' 0 ∧ (∀ i, i < 3 * n → μ' (w' + 1) i = μ (w + 1) i) ∧ ∀ o, o ≠ w' → o ≠ w' + 1 → μ' o = μ o) := by
  unfold f_X6_takeFrom
  have em : zmin (μ w' 0) (μ w 2) = nI n := by
    rw [h0, hs]
    unfold zmin
    by_cases h : n < zln (w' + 1) / 3
    · exact if_pos (nI_lt h (by omega))
    · have : n = zln (w' + 1) / 3 := by omega
      rw [← this]
      exact if_neg (nI_nlt (Nat.le_refl _) (by omega))
  rw [em]
  refine wp_ls ?_
  have e2 : zup μ w' 2 (nI n) w' 2 * 3 = nI (n * 3) := by
    rw [zup_self]
    exact pk_mul n 3
  rw [e2]
  have hg : zcpg 0 0 (nI (n * 3)) (zln (w + 1)) (zln (w' + 1)) = true := by
    unfold zcpg
    rw [nI_clamp (by omega), decide_eq_true (nI_pos' (by omega)), decide_eq_true (show (0 : Int32) ≤ 0 by decide)]
    have : (0 : Int32).toNatClampNeg = 0 := by decide
    rw [this, decide_eq_true (show 0 + n * 3 ≤ zln (w + 1) by omega), decide_eq_true (show 0 + n * 3 ≤ zln (w' + 1) by omega)]
    rfl
  refine wp_g hg (wp_ls (wp_some ⟨?_, ?_, fun i hi => ?_, fun o h1 h2 => ?_⟩))
  · unfold zcp
    rw [zupr_ne _ _ (by omega), zup_self]
  · unfold zcp
    rw [zupr_ne _ _ (by omega), zup_ne (by omega)]
  · unfold zcp
    rw [zupr_self, nI_clamp (by omega), show (0 : Int32).toNatClampNeg = 0 from by decide, pk_cpy_in (Nat.zero_le _) (by omega), Nat.zero_add, Nat.sub_zero, zup_ne (by omega)]
  · unfold zcp
    rw [zupr_ne _ _ h2, zup_rne _ _ _ h1]
/-! feed, end -/
def byt (v : Int32) (k : Nat) : Nat := v.toBitVec.toNat / 2 ^ k % 256
theorem byt_lt (v : Int32) (k : Nat) : byt v k < 256 := Nat.mod_lt _ (by omega)
theorem bytL (v s : Int32) (k : Nat) (hs : ((s.toUInt32 &&& Int32.toUInt32 31).toBitVec % 32).toNat = k) : zushr v s &&& 255 = nI (byt v k) := by
  rw [pk_and _ 8 (by decide)]
  unfold zushr byt
  rw [pk_ushr v s k hs]
theorem I_toNat (v : Int32) : (v.toBitVec.toNat : Int) = if v.toInt < 0 then v.toInt + 2 ^ 32 else v.toInt := by
  have : v.toInt = v.toBitVec.toInt := rfl
  have h5 := v.toBitVec.isLt
  rw [this, BitVec.toInt_eq_toNat_cond]
  split <;> split <;> omega
theorem bytA (v s : Int32) (k : Nat) (hk : k = 0 ∨ k = 8 ∨ k = 16 ∨ k = 24) (hs : (s.toBitVec.smod 32).toNat = k) : v >>> s &&& 255 = nI (byt v k) := by
  rw [pk_and _ 8 (by decide)]
  have h1 := pk_shr v s k hs
  have h2 := I_toNat (v >>> s)
  have h3 := I_toNat v
  have h4 := v.toBitVec.isLt
  have h6 := (v >>> s).toBitVec.isLt
  congr 1
  unfold byt
  rw [Int.shiftRight_eq_div_pow] at h1
  rcases hk with rfl | rfl | rfl | rfl <;> (split at h2 <;> split at h3 <;> omega)
def yk (k : Nat) : Int32 := if k < 4 then nI (24 - 8 * k) else -8
theorem appendC {v : Int32} {n : Nat} {μ : zM} (hn : n + 4 ≤ 600) (h : μ 1 1 = nI n) : wp (f_X8_append 1 v μ) (fun μ' => (∀ o, o ≠ 1 → o ≠ 2 → μ' o = μ o) ∧ (∀ k, k ≠ 1 → μ' 1 k = μ 1 k) ∧ μ' 1 1 = nI (n + 4) ∧ ∀ i, μ' 2 i = if n ≤ i ∧ i < n + 4 then nI (byt v (24 - 8 * (i - n))) else μ 2 i) := by
  unfold f_X8_append
  refine wp_bdQ ?_ (fun μ' hμ => wp_some hμ)
  refine wlp0 (fun m k μ' => f_X8_append_L3 1 v m (yk k) μ') _ 4 (fun k μ' => (∀ o, o ≠ 1 → o ≠ 2 → μ' o = μ o) ∧ (∀ k, k ≠ 1 → μ' 1 k = μ 1 k) ∧ μ' 1 1 = nI (n + k) ∧ ∀ i, μ' 2 i = if n ≤ i ∧ i < n + k then nI (byt v (24 - 8 * (i - n))) else μ 2 i) (by omega) μ ⟨fun _ _ _ => rfl, fun _ _ => rfl, h, fun i => by rw [if_neg (by omega)]⟩ ?_ ?_
  · intro m k μ1 hk ⟨f1, f2, f3, f4⟩ ih
    show wp (f_X8_append_L3 1 v (m + 1) (yk k) μ1) _
    rw [f_X8_append_L3, f3]
    have hy : yk k = nI (24 - 8 * k) := if_pos hk
    rw [hy]
    refine wp_it ⟨nI_pos (by omega), nI_ge (b := 600) (by omega) (by omega)⟩ (wp_g (zin_nI (by omega) (by omega)) (wp_ls ?_))
    have eb : zushr v (nI (24 - 8 * k)) &&& 255 = nI (byt v (24 - 8 * k)) := by
      have hk' : k = 0 ∨ k = 1 ∨ k = 2 ∨ k = 3 := by omega
      rcases hk' with rfl | rfl | rfl | rfl <;> exact bytL v _ _ (by decide)
    have en : nI (24 - 8 * k) + -8 = yk (k + 1) := by
      have hk' : k = 0 ∨ k = 1 ∨ k = 2 ∨ k = 3 := by omega
      rcases hk' with rfl | rfl | rfl | rfl <;> decide
    rw [eb, nI_clamp (by omega), zup_ne (by omega), f3]
    refine wp_ls (wp_ls ?_)
    rw [en, nI_1]
    refine ih _ ⟨fun o o1 o2 => by rw [zup_rne _ _ _ o1, zup_rne _ _ _ o2]; exact f1 o o1 o2, fun j hj => by rw [zup_ne (by omega), zup_ne (by omega)]; exact f2 j hj, zup_self _ _ _ _, fun i => ?_⟩
    rw [zup_ne (by omega)]
    show zup μ1 2 (n + k) (nI (byt v (24 - 8 * k))) 2 i = _
    by_cases hi : i = n + k
    · subst hi
      rw [zup_self, if_pos (by omega), show n + k - n = k by omega]
    · rw [zup_ne (by omega), f4 i]
      by_cases h2 : n ≤ i ∧ i < n + k
      · rw [if_pos h2, if_pos (by omega)]
      · rw [if_neg h2, if_neg (by omega)]
  · intro m μ1 hI
    show wp (f_X8_append_L3 1 v (m + 1) (yk 4) μ1) _
    rw [f_X8_append_L3]
    exact wp_ie (fun w => w.1 (by decide)) (wp_some hI)
/-- the i-th byte that feed puts behind the tape -/
def fbyt (a b c d e : Int32) (i : Nat) : Nat := byt (if i < 4 then a else if i < 8 then b else if i < 12 then c else if i < 16 then d else e) (24 - 8 * (i % 4))
theorem feedC {a b c d e : Int32} {n : Nat} {μ : zM} (hn : n + 20 ≤ 600) (h : μ 1 1 = nI n) : wp (f_X11_feed 0 a b c d e μ) (fun p => p.1 = nI (n + 20) ∧ (∀ o, o ≠ 1 → o ≠ 2 → p.2 o = μ o) ∧ (∀ k, k ≠ 1 → p.2 1 k = μ 1 k) ∧ p.2 1 1 = nI (n + 20) ∧ ∀ i, p.2 2 i = if n ≤ i ∧ i < n + 20 then nI (fbyt a b c d e (i - n)) else μ 2 i) := by
  unfold f_X11_feed
  have e0 : μ (0 + 1) 1 = nI n := h
  rw [e0]
  refine wp_it (show nI n + nI 20 ≤ nI 600 by rw [nI_add]; exact nI_le hn (by omega)) ?_
  refine wp_bdQ (appendC (n := n) (by omega) h) fun μ1 ⟨a1, a2, a3, a4⟩ => wp_bdQ (appendC (n := n + 4) (by omega) a3) fun μ2 ⟨b1, b2, b3, b4⟩ => wp_bdQ (appendC (n := n + 4 + 4) (by omega) b3) fun μ3 ⟨c1, c2, c3, c4⟩ => wp_bdQ (appendC (n := n + 4 + 4 + 4) (by omega) c3) fun μ4 ⟨d1, d2, d3, d4⟩ => wp_bdQ (appendC (n := n + 4 + 4 + 4 + 4) (by omega) d3) fun μ5 ⟨e1, e2, e3, e4⟩ => wp_some ⟨e3, fun o o1 o2 => ?_, fun k hk => ?_, e3, fun i => ?_⟩
  · show μ5 o = μ o
    rw [e1 o o1 o2, d1 o o1 o2, c1 o o1 o2, b1 o o1 o2, a1 o o1 o2]
  · show μ5 1 k = μ 1 k
    rw [e2 k hk, d2 k hk, c2 k hk, b2 k hk, a2 k hk]
  · show μ5 2 i = _
    rw [e4 i]
    by_cases h5 : n + 4 + 4 + 4 + 4 ≤ i ∧ i < n + 4 + 4 + 4 + 4 + 4
    · rw [if_pos h5, if_pos (by omega)]
      unfold fbyt
      rw [if_neg (by omega), if_neg (by omega), if_neg (by omega), if_neg (by omega), show 24 - 8 * (i - (n + 4 + 4 + 4 + 4)) = 24 - 8 * ((i - n) % 4) by omega]
    rw [if_neg h5, d4 i]
    by_cases h4 : n + 4 + 4 + 4 ≤ i ∧ i < n + 4 + 4 + 4 + 4
    · rw [if_pos h4, if_pos (by omega)]
      unfold fbyt
      rw [if_neg (by omega), if_neg (by omega), if_neg (by omega), if_pos (by omega), show 24 - 8 * (i - (n + 4 + 4 + 4)) = 24 - 8 * ((i - n) % 4) by omega]
    rw [if_neg h4, c4 i]
    by_cases h3 : n + 4 + 4 ≤ i ∧ i < n + 4 + 4 + 4
    · rw [if_pos h3, if_pos (by omega)]
      unfold fbyt
      rw [if_neg (by omega), if_neg (by omega), if_pos (by omega), show 24 - 8 * (i - (n + 4 + 4)) = 24 - 8 * ((i - n) % 4) by omega]
    rw [if_neg h3, b4 i]
    by_cases h2 : n + 4 ≤ i ∧ i < n + 4 + 4
    · rw [if_pos h2, if_pos (by omega)]
      unfold fbyt
      rw [if_neg (by omega), if_pos (by omega), show 24 - 8 * (i - (n + 4)) = 24 - 8 * ((i - n) % 4) by omega]
    rw [if_neg h2, a4 i]
    by_cases h1 : n ≤ i ∧ i < n + 4
    · rw [if_pos h1, if_pos (by omega)]
      unfold fbyt
      rw [if_pos (by omega), show 24 - 8 * (i - n) = 24 - 8 * ((i - n) % 4) by omega]
    · rw [if_neg h1, if_neg (by omega)]
theorem feedM {a b c d e : Int32} {n : Nat} {μ : zM} (hn : n + 20 ≤ 600) (h : μ 311 5 = nI n) : wp (f_X12_feed 310 a b c d e μ) (fun p => p.1 = nI (n + 20) ∧ (∀ o, o ≠ 311 → p.2 o = μ o) ∧ p.2 311 5 = nI (n + 20) ∧ ∀ i, i ≠ 5 → p.2 311 i = if 10 + n ≤ i ∧ i < 10 + n + 20 then nI (fbyt a b c d e (i - (10 + n))) else μ 311 i) := by
  unfold f_X12_feed
  have e0 : μ (310 + 1) 5 = nI n := h
  rw [e0]
  refine wp_it (show nI n + nI 20 ≤ nI 600 by rw [nI_add]; exact nI_le hn (by omega)) ?_
  refine wp_bdQ (Q := fun μ' => (∀ o, o ≠ 311 → μ' o = μ o) ∧ μ' 311 5 = nI (n + 20) ∧ ∀ i, i ≠ 5 → μ' 311 i = if 10 + n ≤ i ∧ i < 10 + n + 20 then nI (fbyt a b c d e (i - (10 + n))) else μ 311 i) ?_ (fun μ' ⟨h1, h2, h3⟩ => wp_some ⟨h2, h1, h2, h3⟩)
  refine wlp0 (fun m k μ' => f_X12_feed_L20 310 a b c d e m (nI k) μ') _ 20 (fun k μ' => (∀ o, o ≠ 311 → μ' o = μ o) ∧ μ' 311 5 = nI (n + k) ∧ ∀ i, i ≠ 5 → μ' 311 i = if 10 + n ≤ i ∧ i < 10 + n + k then nI (fbyt a b c d e (i - (10 + n))) else μ 311 i) (by omega) μ ⟨fun _ _ => rfl, h, fun i _ => by rw [if_neg (by omega)]⟩ ?_ ?_
  · intro m k μ1 hk ⟨f1, f2, f3⟩ ih
    show wp (f_X12_feed_L20 310 a b c d e (m + 1) (nI k) μ1) _
    rw [f_X12_feed_L20, show μ1 (310 + 1) 5 = nI (n + k) from f2]
    refine wp_ie (nI_ge (b := 20) hk (by omega)) (wp_l fun x hx => ?_)
    have ew : x = if k < 4 then a else if k < 8 then b else if k < 12 then c else if k < 16 then d else e := by
      rw [hx]
      by_cases h4 : k < 4
      · rw [if_neg (show ¬ (4 : Int32) ≤ nI k from nI_ge (b := 4) h4 (by omega)), if_pos h4]
      rw [if_pos (show (4 : Int32) ≤ nI k from nI_le (a := 4) (by omega) (by omega)), if_neg h4]
      by_cases h8 : k < 8
      · rw [if_neg (show ¬ (8 : Int32) ≤ nI k from nI_ge (b := 8) h8 (by omega)), if_pos h8]
      rw [if_pos (show (8 : Int32) ≤ nI k from nI_le (a := 8) (by omega) (by omega)), if_neg h8]
      by_cases h12 : k < 12
      · rw [if_neg (show ¬ (12 : Int32) ≤ nI k from nI_ge (b := 12) h12 (by omega)), if_pos h12]
      rw [if_pos (show (12 : Int32) ≤ nI k from nI_le (a := 12) (by omega) (by omega)), if_neg h12]
      by_cases h16 : k < 16
      · rw [if_neg (show ¬ (16 : Int32) ≤ nI k from nI_ge (b := 16) h16 (by omega)), if_pos h16]
      rw [if_pos (show (16 : Int32) ≤ nI k from nI_le (a := 16) (by omega) (by omega)), if_neg h16]
    have e1 : (10 : Int32) + nI (n + k) = nI (10 + (n + k)) := nI_add 10 _
    rw [e1, nI_clamp (by omega)]
    refine wp_g (zin_nI (by omega) (by omega)) (wp_ls ?_)
    have eb : x >>> ((24 - 8 * (nI k % 4)) &&& 31) &&& 255 = nI (fbyt a b c d e k) := by
      have em : nI k % (4 : Int32) = nI (k % 4) := nI_rem (d := 4) (by omega) (by omega) (by omega)
      rw [em]
      unfold fbyt
      rw [← ew]
      have hk4 : k % 4 = 0 ∨ k % 4 = 1 ∨ k % 4 = 2 ∨ k % 4 = 3 := by omega
      rcases hk4 with h4 | h4 | h4 | h4 <;> rw [h4] <;> exact bytA x _ _ (by omega) (by decide)
    rw [eb]
    have e5 : zup μ1 (310 + 1) (10 + (n + k)) (nI (fbyt a b c d e k)) (310 + 1) 5 = nI (n + k) := by
      rw [zup_ne (by omega)]
      exact f2
    rw [e5]
    refine wp_ls (wp_ls ?_)
    rw [nI_1, nI_1]
    refine ih _ ⟨fun o ho => by rw [zup_rne _ _ _ ho, zup_rne _ _ _ ho]; exact f1 o ho, zup_self _ _ _ _, fun i hi => ?_⟩
    rw [zup_ne (by omega)]
    show zup μ1 311 (10 + (n + k)) (nI (fbyt a b c d e k)) 311 i = _
    by_cases h2 : i = 10 + (n + k)
    · subst h2
      rw [zup_self, if_pos (by omega), show 10 + (n + k) - (10 + n) = k by omega]
    · rw [zup_ne (by omega), f3 i hi]
      by_cases h3 : 10 + n ≤ i ∧ i < 10 + n + k
      · rw [if_pos h3, if_pos (by omega)]
      · rw [if_neg h3, if_neg (by omega)]
  · intro m μ1 hI
    show wp (f_X12_feed_L20 310 a b c d e (m + 1) (nI 20) μ1) _
    rw [f_X12_feed_L20]
    exact wp_it (nI_le (a := 20) (Nat.le_refl _) (by omega)) (wp_some hI)
theorem wf6 : ∀ k, k < 10 → zkd (36 + 2 * k) = 6 := by decide +kernel
theorem lk16 : ∀ k, k < 2 → zkd (6 + 15 * k) = 1 := by decide +kernel
/-- the tape and the FAULT alone are others -/
theorem Inv.head {μ μ' : zM} (h : Inv μ) (f : ∀ o, o ≠ 1 → o ≠ 2 → o ≠ 311 → μ' o = μ o) (g : ∀ k, k ≠ 1 → k ≠ 2 → k ≠ 3 → μ' 1 k = μ 1 k) (e : ∀ i, i < 5 ∨ 610 ≤ i → μ' 311 i = μ 311 i) (hd : PH 1 0 μ') : Inv μ' := by
  obtain ⟨h1, h2, h3⟩ := h
  refine ⟨fun r r1 r2 => ?_, PR.iff.mpr ⟨hd, ?_⟩, fun k hk => ?_⟩
  · have : r ≠ 1 ∧ r ≠ 2 := by
      refine ⟨fun w => ?_, fun w => ?_⟩ <;> subst w <;> exact absurd r2 (by decide +kernel)
    rw [f r this.1 this.2 (by omega)]
    exact h1 r r1 r2
  · refine (PR.iff.mp h2).2.move (T' := 1) (Q' := 0) (fun s hs => by rw [f _ (by omega) (by omega) (by omega)]) (fun k hk => ?_) (fun k hk L l => l.congr (fun o o1 o2 => f o (by omega) (by omega) (by omega))) (fun i hi => by rw [Nat.zero_add]; exact e i (by omega))
    exact RowEq.same (f _ (by omega) (by omega) (by omega)) (f _ (by omega) (by omega) (by omega))
  · obtain ⟨a, b⟩ := h3 k hk
    rw [f 57 (by omega) (by omega) (by omega), f 312 (by omega) (by omega) (by omega)]
    refine ⟨a, b.imp id (fun c => ⟨c.1, c.2.keep (fun o o1 o2 => f o (by omega) (by omega) (by omega)) (fun i hi => e _ (by omega))⟩)⟩
theorem Same.inv {f1 f2 : zM → Option (Int32 × zM)} (h : ∀ μ, Inv μ → wp (f1 μ) (fun p => wp (f2 p.2) (fun p2 => p2.1 = p.1 ∧ Inv p2.2))) : Same f1 f2 := by
  intro μ hμ
  obtain ⟨⟨r, μ1⟩, e1, ⟨r2, μ2⟩, e2, e3, k2⟩ := h μ hμ
  have e3 : r2 = r := e3
  subst e3
  exact ⟨r2, μ1, μ2, e1, e2, k2⟩
theorem feed_same (a b c d e : Int32) : Same (f_X11_feed 0 a b c d e) (f_X12_feed 310 a b c d e) := by
  refine Same.inv fun μ hI => ?_
  obtain ⟨⟨⟨n, n1, n2, n3⟩, ⟨e6, e7⟩, ht⟩, hb⟩ := PR.iff.mp hI.2.1
  rw [Nat.zero_add] at n3 e6 e7
  by_cases hn : n + 20 ≤ 600
  · refine wp_mono (feedC hn n2) fun p ⟨p1, p2, p3, p4, p5⟩ => ?_
    refine wp_mono (feedM (n := n) hn (by rw [p2 311 (by omega) (by omega)]; exact n3)) fun p' ⟨q1, q2, q3, q4⟩ => ⟨q1.trans p1.symm, ?_⟩
    refine hI.head (fun o o1 o2 o3 => by rw [q2 o o3, p2 o o1 o2]) (fun k k1 k2 k3 => by rw [q2 1 (by omega), p3 k k1]) (fun i hi => ?_) ⟨⟨n + 20, hn, by rw [q2 1 (by omega)]; exact p4, q3⟩, ⟨?_, ?_⟩, fun i hi => ?_⟩
    · rw [q4 i (by omega), if_neg (by omega), p2 311 (by omega) (by omega)]
    · rw [Nat.zero_add, q4 6 (by omega), if_neg (by omega), p2 311 (by omega) (by omega), q2 1 (by omega), p3 2 (by omega)]
      exact e6
    · rw [Nat.zero_add, q4 7 (by omega), if_neg (by omega), p2 311 (by omega) (by omega), q2 1 (by omega), p3 3 (by omega)]
      exact e7
    · have ht := ht i hi
      rw [Nat.zero_add] at ht ⊢
      rw [q4 (10 + i) (by omega), q2 (1 + 1) (by omega), p2 311 (by omega) (by omega)]
      show (if 10 + n ≤ 10 + i ∧ 10 + i < 10 + n + 20 then _ else _) = p.2 2 i ∧ ∃ b, b < 256 ∧ p.2 2 i = nI b
      rw [p5 i]
      by_cases hi2 : n ≤ i ∧ i < n + 20
      · rw [if_pos hi2, if_pos (by omega), show 10 + i - (10 + n) = i - n by omega]
        exact ⟨rfl, _, byt_lt _ _, rfl⟩
      · rw [if_neg hi2, if_neg (by omega)]
        exact ht
  · have hno : ¬ nI n + nI 20 ≤ nI 600 := by
      rw [nI_add]
      exact nI_ge (by omega) (by omega)
    unfold f_X11_feed
    have e0 : μ (0 + 1) 1 = nI n := n2
    rw [e0]
    refine wp_ie hno (wp_some ?_)
    unfold f_X12_feed
    have e1 : μ (310 + 1) 5 = nI n := n3
    show wp (if μ (310 + 1) 5 + 20 ≤ 600 then _ else _) _
    rw [e1]
    exact wp_ie hno (wp_some ⟨rfl, hI⟩)
theorem end_same (v : Int32) : Same (fun μ => some (f_X11_end 0 v μ)) (fun μ => some (f_X12_end 310 v μ)) := by
  refine Same.inv fun μ hI => wp_some (wp_some ?_)
  obtain ⟨⟨⟨n, n1, n2, n3⟩, ⟨e6, e7⟩, ht⟩, hb⟩ := PR.iff.mp hI.2.1
  rw [Nat.zero_add] at n3 e6 e7
  unfold f_X11_end
  rw [show μ (0 + 1) 1 = nI n from n2]
  by_cases hv : ¬ v < 0 ∧ v ≤ nI n
  · rw [if_pos hv]
    obtain ⟨j, j1, rfl⟩ := nI_of hv.1
    have hj : j ≤ n := (nI_leI j1 (by omega)).mp hv.2
    show (f_X12_end 310 (nI j) (zup μ 1 1 (nI j))).1 = nI j ∧ Inv (f_X12_end 310 (nI j) (zup μ 1 1 (nI j))).2
    unfold f_X12_end
    have e1 : zup μ 1 1 (nI j) (310 + 1) 5 = nI n := by
      rw [zup_ne (by omega)]
      exact n3
    rw [e1, if_pos hv]
    refine ⟨rfl, ?_⟩
    show Inv (zup (zup μ 1 1 (nI j)) 311 5 (nI j))
    refine hI.head (fun o o1 o2 o3 => by rw [zup_rne _ _ _ o3, zup_rne _ _ _ o1]) (fun k k1 k2 k3 => by rw [zup_ne (by omega), zup_ne (by omega)]) (fun i hi => by rw [zup_ne (by omega), zup_ne (by omega)]) ⟨⟨j, by omega, by rw [zup_ne (by omega), zup_self], by rw [Nat.zero_add, zup_self]⟩, ⟨?_, ?_⟩, fun i hi => ?_⟩
    · rw [zup_ne (by omega), zup_ne (by omega), zup_ne (by omega), zup_ne (by omega)]
      exact e6
    · rw [zup_ne (by omega), zup_ne (by omega), zup_ne (by omega), zup_ne (by omega)]
      exact e7
    · rw [zup_ne (by omega), zup_ne (by omega), zup_ne (by omega), zup_ne (by omega)]
      exact ht i hi
  · rw [if_neg hv]
    show (f_X12_end 310 v μ).1 = -1 ∧ Inv (f_X12_end 310 v μ).2
    unfold f_X12_end
    rw [show μ (310 + 1) 5 = nI n from n3, if_neg hv]
    exact ⟨rfl, hI⟩
