/-! TEXTS: the class tells a line -/
def RowC (v : Prop) (t : Nat) (μ : zM) (R : Nat → Int32) : Prop := ∃ c, c ≤ tmx t ∧ R (tcp t) = nI c ∧ μ (tro t) 2 = nI c ∧ μ (tro t) 0 = nI (tmx t) ∧ (v → ∀ j, j < c → ∀ i, i < tst t → μ (tro t + 1) (3 * j + i) = R (tbs t + tst t * j + i))
def CC (s : Nat) (v : Prop) (μ : zM) (R : Nat → Int32) : Prop := (∀ t, t < 9 → tsr t = s → RowC v t μ R) ∧ (s = 0 → v → ∀ i, i < 11 → μ 60 i = R i)
theorem RowC.mono {v v' : Prop} {t : Nat} {μ : zM} {R : Nat → Int32} (h : RowC v t μ R) (k : v' → v) : RowC v' t μ R := by
  obtain ⟨c, h1, h2, h3, h4, h5⟩ := h
  exact ⟨c, h1, h2, h3, h4, fun z => h5 (k z)⟩
theorem CC.mono {v v' : Prop} {s : Nat} {μ : zM} {R : Nat → Int32} (h : CC s v μ R) (k : v' → v) : CC s v' μ R := ⟨fun t h1 h2 => (h.1 t h1 h2).mono k, fun h1 z => h.2 h1 (k z)⟩
theorem tro_ok : ∀ t, t < 9 → (zln (tro t + 1) = 3 * tmx t ∧ tmx t ≤ 40 ∧ zkd (tro t) = 6) ∧ (tcp t < tbs t ∧ tbs t + tst t * tmx t ≤ 121 ∧ tst t ≤ 3 ∧ 1 ≤ tst t) ∧ (61 ≤ tro t ∧ tro t < 86 ∧ tro t ≠ 75 ∧ tro t ≠ 76) := by decide +kernel
theorem tro_two1 : ∀ t, t < 9 → ∀ t', t' < 9 → (tsr t ≠ tsr t' ∨ t = t') ∨ (tro t' ≠ tro t ∧ tro t' ≠ tro t + 1 ∧ tro t' + 1 ≠ tro t ∧ tro t' + 1 ≠ tro t + 1) := by decide +kernel
theorem tro_two2 : ∀ t, t < 9 → ∀ t', t' < 9 → (tsr t ≠ tsr t' ∨ t = t') ∨ (tcp t' ≠ tcp t ∧ tcp t' < 16 ∧ 16 ≤ tbs t ∧ tcp t < 16 ∧ 16 ≤ tbs t') := by decide +kernel
theorem tro_two3 : ∀ t, t < 9 → ∀ t', t' < 9 → (tsr t ≠ tsr t' ∨ t = t') ∨ (tbs t + tst t * tmx t ≤ tbs t' ∨ tbs t' + tst t' * tmx t' ≤ tbs t) := by decide +kernel
theorem tro_two (t : Nat) (ht : t < 9) (t' : Nat) (ht' : t' < 9) (h : tsr t = tsr t') (k : t ≠ t') : (tro t' ≠ tro t ∧ tro t' ≠ tro t + 1 ∧ tro t' + 1 ≠ tro t ∧ tro t' + 1 ≠ tro t + 1) ∧ (tcp t' ≠ tcp t ∧ tcp t' < 16 ∧ 16 ≤ tbs t ∧ tcp t < 16 ∧ 16 ≤ tbs t') ∧ (tbs t + tst t * tmx t ≤ tbs t' ∨ tbs t' + tst t' * tmx t' ≤ tbs t) := by
  have hn : ¬ (tsr t ≠ tsr t' ∨ t = t') := fun z => z.elim (fun q => q h) k
  exact ⟨(tro_two1 t ht t' ht').resolve_left hn, (tro_two2 t ht t' ht').resolve_left hn, (tro_two3 t ht t' ht').resolve_left hn⟩
theorem tcp_0 : ∀ t, t < 9 → tsr t = 0 → 11 ≤ tcp t ∧ 16 ≤ tbs t := by decide +kernel
theorem CC.fd {v : Prop} {s : Nat} {μ μ' : zM} {R : Nat → Int32} (h : CC s v μ R) (f : ∀ o, 59 ≤ o → o < 87 → o ≠ 76 → o ≠ 75 → μ' o = μ o) : CC s v μ' R := by
  refine ⟨fun t h1 h2 => ?_, fun h1 z i hi => by rw [f 60 (by omega) (by omega) (by omega) (by omega)]; exact h.2 h1 z i hi⟩
  obtain ⟨c, k1, k2, k3, k4, k5⟩ := h.1 t h1 h2
  have ht := (tro_ok t h1).2.2
  have e0 := f (tro t) (by omega) (by omega) (by omega) (by omega)
  have e1 : tro t + 1 ≠ 76 ∧ tro t + 1 ≠ 75 := by
    have : ∀ t, t < 9 → tro t + 1 ≠ 76 ∧ tro t + 1 ≠ 75 := by decide +kernel
    exact this t h1
  refine ⟨c, k1, k2, by rw [e0]; exact k3, by rw [e0]; exact k4, fun z j hj i hi => ?_⟩
  rw [f (tro t + 1) (by omega) (by omega) e1.1 e1.2]
  exact k5 z j hj i hi
section TELL
variable {μ : zM} {R : Nat → Int32} {t c : Nat} {x y z : Int32} {row : Nat → Int32} {v : Prop}
theorem addC (ht : t < 9) (hc : c < tmx t) (h2 : μ (tro t) 2 = nI c) (h0 : μ (tro t) 0 = nI (tmx t)) : wp (f_X6_add (tro t) x y z μ) (fun r => r.1 = 1 ∧ r.2 (tro t) 2 = nI (c + 1) ∧ r.2 (tro t) 0 = nI (tmx t) ∧ (∀ o, o ≠ tro t → o ≠ tro t + 1 → r.2 o = μ o) ∧ ∀ i, r.2 (tro t + 1) i = if i = 3 * c then x else if i = 3 * c + 1 then y else if i = 3 * c + 2 then z else μ (tro t + 1) i) := by
  obtain ⟨⟨z1, z2, -⟩, -⟩ := tro_ok t ht
  have e3 : nI c * (3 : Int32) = nI (3 * c) := by
    show nI c * nI 3 = _
    rw [pk_mul, Nat.mul_comm]
  unfold f_X6_add
  rw [h2, h0, z1]
  refine wp_it (nI_lt hc (by omega)) ?_
  rw [e3, nI_clamp (by omega)]
  refine wp_g (zin_nI (by omega) (by omega)) (wp_u fun μ1 u1 => ?_)
  have g1 : μ1 (tro t) 2 = nI c := by rw [u1.2.1 (tro t) (by omega)]; exact h2
  rw [g1, e3, show nI (3 * c) + (1 : Int32) = nI (3 * c + 1) from nI_1 _, nI_clamp (by omega)]
  refine wp_g (zin_nI (by omega) (by omega)) (wp_u fun μ2 u2 => ?_)
  have g2 : μ2 (tro t) 2 = nI c := by rw [u2.2.1 (tro t) (by omega)]; exact g1
  rw [g2, e3, show nI (3 * c) + (2 : Int32) = nI (3 * c + 2) from nI_add _ 2, nI_clamp (by omega)]
  refine wp_g (zin_nI (by omega) (by omega)) (wp_u fun μ3 u3 => ?_)
  have g3 : μ3 (tro t) 2 = nI c := by rw [u3.2.1 (tro t) (by omega)]; exact g2
  refine wp_u fun μ4 u4 => wp_some ⟨rfl, by show μ4 (tro t) 2 = _; rw [u4.1, g3]; exact nI_1 c, ?_, fun o o1 o2 => ?_, fun i => ?_⟩
  · show μ4 (tro t) 0 = _
    rw [u4.2.2 0 (by omega), u3.2.1 (tro t) (by omega), u2.2.1 (tro t) (by omega), u1.2.1 (tro t) (by omega)]
    exact h0
  · show μ4 o = _
    rw [u4.2.1 o o1, u3.2.1 o o2, u2.2.1 o o2, u1.2.1 o o2]
  · show μ4 (tro t + 1) i = _
    rw [u4.2.1 (tro t + 1) (by omega)]
    by_cases i2 : i = 3 * c + 2
    · rw [i2, if_neg (by omega), if_neg (by omega), if_pos rfl]
      exact u3.1
    · rw [u3.2.2 i i2]
      by_cases i1 : i = 3 * c + 1
      · rw [i1, if_neg (by omega), if_pos rfl]
        exact u2.1
      · rw [u2.2.2 i i1]
        by_cases i0 : i = 3 * c
        · rw [i0, if_pos rfl]
          exact u1.1
        · rw [u1.2.2 i i0, if_neg i0, if_neg i1, if_neg i2]
theorem updR_cp (h : R (tcp t) = nI c) : updR t row R (tcp t) = nI (c + 1) := by
  unfold updR
  rw [if_pos rfl, h]
  exact nI_1 c
theorem updR_new (ht : t < 9) (h : R (tcp t) = nI c) (hc : c < 1000) {i : Nat} (hi : i < tst t) : updR t row R (tbs t + tst t * c + i) = row i := by
  have h2 := (tro_ok t ht).2.1.1
  unfold updR
  rw [h, nI_clamp (by omega), if_neg (by omega), if_pos (by omega)]
  congr 1
  omega
theorem updR_old (h : R (tcp t) = nI c) (hc : c < 1000) {i : Nat} (h1 : i ≠ tcp t) (h2 : i < tbs t + tst t * c ∨ tbs t + tst t * c + tst t ≤ i) : updR t row R i = R i := by
  unfold updR
  rw [h, nI_clamp (by omega), if_neg h1, if_neg (by omega)]
theorem mul_row {s j c : Nat} (h : j < c) : s * j + s ≤ s * c := by
  have := Nat.mul_le_mul_left s (show j + 1 ≤ c by omega)
  rw [Nat.mul_succ] at this
  exact this
theorem rowTell {s : Nat} (ht : t < 9) (hts : tsr t = s) (hC : CC s v μ R) (hrow : ∀ i, i < tst t → row i = if i = 0 then x else if i = 1 then y else z) :
    wp (f_X6_add (tro t) x y z μ) (fun r => if tmx t ≤ (R (tcp t)).toNatClampNeg then r.1 = 0 ∧ r.2 = μ else r.1 = 1 ∧ CC s v r.2 (updR t row R) ∧ ∀ o, o ≠ tro t → o ≠ tro t + 1 → r.2 o = μ o) := by
  obtain ⟨c, c1, c2, c3, c4, c5⟩ := hC.1 t ht hts
  obtain ⟨⟨z1, z2, -⟩, ⟨z3, z4, z5, z6⟩, z7, z8, -⟩ := tro_ok t ht
  rw [c2, nI_clamp (by omega)]
  by_cases hf : tmx t ≤ c
  · rw [show c = tmx t by omega] at c3
    unfold f_X6_add
    rw [c3, c4]
    refine wp_ie (nI_nlt (Nat.le_refl _) (by omega)) (wp_some ?_)
    rw [if_pos hf]
    exact ⟨rfl, rfl⟩
  · refine wp_mono (addC (x := x) (y := y) (z := z) ht (by omega) c3 c4) fun r ⟨a1, a2, a3, a4, a5⟩ => ?_
    rw [if_neg hf]
    refine ⟨a1, ⟨fun t' ht' hts' => ?_, fun h0 hv i hi => ?_⟩, a4⟩
    · by_cases e : t' = t
      · subst e
        refine ⟨c + 1, by omega, updR_cp c2, a2, a3, fun hv j hj i hi => ?_⟩
        rw [a5]
        by_cases hj2 : j = c
        · subst hj2
          rw [updR_new ht c2 (by omega) hi, hrow i hi]
          have : i = 0 ∨ i = 1 ∨ i = 2 := by omega
          rcases this with rfl | rfl | rfl
          · rw [if_pos (show 3 * j + 0 = 3 * j by omega), if_pos rfl]
          · rw [if_neg (show ¬ 3 * j + 1 = 3 * j by omega), if_pos rfl, if_neg (by omega), if_pos rfl]
          · rw [if_neg (show ¬ 3 * j + 2 = 3 * j by omega), if_neg (show ¬ 3 * j + 2 = 3 * j + 1 by omega), if_pos rfl, if_neg (by omega), if_neg (by omega)]
        · have hm := mul_row (s := tst t') (show j < c by omega)
          rw [if_neg (by omega), if_neg (by omega), if_neg (by omega), updR_old c2 (by omega) (by omega) (Or.inl (by omega))]
          exact c5 hv j (by omega) i hi
      · obtain ⟨⟨d1, d2, d3, d4⟩, ⟨d5, d6, d7, d8, d9⟩, d10⟩ := tro_two t ht t' ht' (by rw [hts, hts']) (fun w => e w.symm)
        obtain ⟨c', k1, k2, k3, k4, k5⟩ := hC.1 t' ht' hts'
        have hm2 := mul_row (s := tst t) (show c < tmx t by omega)
        refine ⟨c', k1, by rw [updR_old c2 (by omega) d5 (Or.inl (by omega))]; exact k2, by rw [a4 _ d1 d2]; exact k3, by rw [a4 _ d1 d2]; exact k4, fun hv j hj i hi => ?_⟩
        have hm := mul_row (s := tst t') (show j < tmx t' by omega)
        rw [a4 _ d3 d4, updR_old c2 (by omega) (by omega) (by omega)]
        exact k5 hv j hj i hi
    · obtain ⟨e1, e2⟩ := tcp_0 t ht (by rw [hts, h0])
      rw [a4 60 (by omega) (by omega), updR_old c2 (by omega) (by omega) (Or.inl (by omega))]
      exact hC.2 h0 hv i hi
theorem wsr_0 : ∀ w, w < 30 → (w < 12 ↔ wsr w = 0) := by decide +kernel
theorem basic_ok : ∀ w, w < 7 → f_X10_matter w = nI (wcb w) ∧ wcb w + wnum w ≤ 11 ∧ f_X1_rowsOf (58 + 1) (f_X10_matter w) = none ∧ 1 ≤ wnum w := by decide +kernel
theorem lakerow_ok : ∀ w, w < 12 → 7 ≤ w → f_X1_rowsOf (58 + 1) (f_X10_matter w) = some (tro (kt w)) ∧ kt w < 9 ∧ tsr (kt w) = 0 ∧ zgn (tro (kt w)) 6 = true := by decide +kernel
theorem pagerow_ok : ∀ w, w < 30 → 12 ≤ w → (kt w < 9 ∧ tsr (kt w) = wsr w) ∧ (58 + 19 + 2 * (nI (wsr w)).toNatClampNeg = tro (kt w) ∧ f_X10_matter w = nI (mtt w)) ∧ 1 ≤ wsr w := by decide +kernel
/-- what telling a line may change -/
def FT (s : Nat) (μ μ' : zM) : Prop := ∀ o, o ≠ 60 → (∀ t, t < 9 → tsr t = s → o ≠ tro t ∧ o ≠ tro t + 1) → μ' o = μ o
theorem tellC {s w : Nat} {nv : Nat → Int32} (hw : w < 30) (hs : wsr w = s) (hC : CC s v μ R) (hnv : ∀ i, i < 3 → μ 76 i = nv i) :
    wp (f_X5_tell 58 w μ) (fun r => if fullW w R = true then r.1 = 0 ∧ r.2 = μ else r.1 = 1 ∧ CC s v r.2 (updW w nv R) ∧ FT s μ r.2) := by
  have n0 : μ (58 + 18) 0 = nv 0 := hnv 0 (by omega)
  have n1 : μ (58 + 18) 1 = nv 1 := hnv 1 (by omega)
  have n2 : μ (58 + 18) 2 = nv 2 := hnv 2 (by omega)
  unfold f_X5_tell
  rw [n0, n1, n2]
  refine wp_l fun x1 hx1 => ?_
  rw [wsr_ok w hw] at hx1
  subst hx1
  by_cases h12 : w < 12
  · have hs0 : wsr w = 0 := (wsr_0 w hw).mp h12
    refine wp_ie (fun z => z (by rw [hs0]; rfl)) ?_
    unfold f_X5_tellOfLake
    rw [n0, n1, n2]
    by_cases h7 : w < 7
    · obtain ⟨b1, b2, b3, b4⟩ := basic_ok w h7
      have hw3 := wnum_le w hw
      have hfl : ¬ fullW w R = true := fun z => by
        have := of_decide_eq_true z
        omega
      refine wp_bd2Q (Q := fun r => r.1 = 1 ∧ (∀ o, o ≠ 60 → r.2 o = μ o) ∧ ∀ i, r.2 60 i = if wcb w ≤ i ∧ i < wcb w + wnum w then nv (i - wcb w) else μ 60 i) ?_ fun r1 μ1 ⟨a1, a2, a3⟩ => wp_g (by rw [show r1 = 1 from a1]; decide) (wp_some ?_)
      · refine wp_l fun r hr => ?_
        rw [b3] at hr
        subst hr
        refine wp_cn ?_
        have hloop : ∀ d k m (μ1 : zM), k + d = wnum w → 3 < m + k → (∀ o, o ≠ 60 → μ1 o = μ o) → (∀ i, μ1 60 i = if wcb w ≤ i ∧ i < wcb w + k then nv (i - wcb w) else μ 60 i) → wp (f_X5_tellOfLake_L41 58 w m (nI k) μ1) (fun μ' => (∀ o, o ≠ 60 → μ' o = μ o) ∧ ∀ i, μ' 60 i = if wcb w ≤ i ∧ i < wcb w + wnum w then nv (i - wcb w) else μ 60 i) := by
          intro d
          induction d with
          | zero =>
            intro k m μ1 hk hm i1 i2
            obtain ⟨m, rfl⟩ : ∃ m', m = m' + 1 := ⟨m - 1, by omega⟩
            have hk' : k = wnum w := by omega
            subst hk'
            rw [f_X5_tellOfLake_L41]
            refine wp_ie ?_ (wp_some ⟨i1, i2⟩)
            rintro ⟨c1, c2, -⟩
            by_cases h3 : wnum w < 3
            · rw [takesC w hw _ h3, if_neg (by omega)] at c2
              exact c2 rfl
            · exact c1 (nI_le (a := 3) (by omega) (by omega))
          | succ d ih =>
            intro k m μ1 hk hm i1 i2
            obtain ⟨m, rfl⟩ : ∃ m', m = m' + 1 := ⟨m - 1, by omega⟩
            have hk3 : k < 3 := by omega
            rw [f_X5_tellOfLake_L41, b1, nI_add, nI_clamp (by omega), nI_clamp (by omega)]
            refine wp_it ⟨nI_ge (b := 3) hk3 (by omega), by rw [takesC w hw k hk3, if_pos (by omega)]; decide, nI_ge (b := 11) (by omega) (by omega)⟩ (wp_g (zin_nI hk3 (by omega)) (wp_g (zin_nI (by omega) (by omega)) (wp_u fun μ2 u => wp_ls ?_)))
            rw [nI_1]
            refine ih (k + 1) m μ2 (by omega) (by omega) (fun o ho => (u.2.1 o ho).trans (i1 o ho)) fun i => ?_
            by_cases hik : i = wcb w + k
            · rw [if_pos (by omega)]
              have e : μ2 60 (wcb w + k) = μ1 76 k := u.1
              rw [hik, e, i1 76 (by omega), hnv k hk3, show wcb w + k - wcb w = k by omega]
            · have e : μ2 60 i = μ1 60 i := u.2.2 i hik
              rw [e, i2]
              by_cases h5 : wcb w ≤ i ∧ i < wcb w + k
              · rw [if_pos h5, if_pos (by omega)]
              · rw [if_neg h5, if_neg (by omega)]
        refine wp_bdQ (hloop (wnum w) 0 zFU μ (by omega) (by unfold zFU; omega) (fun _ _ => rfl) (fun i => by rw [if_neg (by omega)])) fun μ1 ⟨a2, a3⟩ => wp_some ⟨rfl, a2, a3⟩
      · have a2 : ∀ o, o ≠ 60 → μ1 o = μ o := a2
        have a3 : ∀ i, μ1 60 i = if wcb w ≤ i ∧ i < wcb w + wnum w then nv (i - wcb w) else μ 60 i := a3
        rw [if_neg hfl]
        unfold updW
        rw [if_pos h7]
        refine ⟨a1, ⟨fun t' ht' hts' => ?_, fun h0 hv i hi => ?_⟩, fun o ho _ => a2 o ho⟩
        · obtain ⟨c', k1, k2, k3, k4, k5⟩ := hC.1 t' ht' hts'
          obtain ⟨e1, e2⟩ := tcp_0 t' ht' (by rw [hts', ← hs, hs0])
          have e3 := (tro_ok t' ht').2.2
          refine ⟨c', k1, (if_neg (by omega)).trans k2, by show μ1 (tro t') 2 = _; rw [a2 _ (by omega)]; exact k3, by show μ1 (tro t') 0 = _; rw [a2 _ (by omega)]; exact k4, fun hv j hj i hi => ?_⟩
          show μ1 (tro t' + 1) (3 * j + i) = _
          rw [a2 _ (by omega)]
          exact (k5 hv j hj i hi).trans (if_neg (by omega)).symm
        · show μ1 60 i = if wcb w ≤ i ∧ i < wcb w + wnum w then nv (i - wcb w) else R i
          rw [a3]
          split
          · rfl
          · exact hC.2 h0 hv i hi
    · obtain ⟨b1, b2, b3, b4⟩ := lakerow_ok w h12 (by omega)
      have ho := tro_ok (kt w) b2
      have hro : ∀ i, i < tst (kt w) → rowWd w nv i = if i = 0 then nv 0 else if i = 1 then nv 1 else nv 2 := by
        intro i hi
        unfold rowWd
        rw [hs0, if_neg (by omega)]
        have : i = 0 ∨ i = 1 ∨ i = 2 := by omega
        rcases this with rfl | rfl | rfl <;> rfl
      refine wp_bd2Q (Q := fun r => if tmx (kt w) ≤ (R (tcp (kt w))).toNatClampNeg then r.1 = 0 ∧ r.2 = μ else r.1 = 1 ∧ CC s v r.2 (updR (kt w) (rowWd w nv) R) ∧ ∀ o, o ≠ tro (kt w) → o ≠ tro (kt w) + 1 → r.2 o = μ o) ?_ fun r1 μ1 a => ?_
      · refine wp_l fun r hr => ?_
        rw [b1] at hr
        subst hr
        refine wp_cs (wp_g b4 (wp_bd2Q (rowTell b2 (by rw [b3, ← hs, hs0]) hC hro) fun r1 μ1 a => wp_g ?_ (wp_some a)))
        by_cases hf : tmx (kt w) ≤ (R (tcp (kt w))).toNatClampNeg
        · rw [if_pos hf] at a
          rw [show r1 = 0 from a.1]
          decide
        · rw [if_neg hf] at a
          rw [show r1 = 1 from a.1]
          decide
      · by_cases hf : tmx (kt w) ≤ (R (tcp (kt w))).toNatClampNeg
        · rw [if_pos hf] at a
          refine wp_g (by rw [show r1 = 0 from a.1]; decide) (wp_some ?_)
          rw [if_pos (show fullW w R = true from decide_eq_true ⟨by omega, hf⟩)]
          exact a
        · rw [if_neg hf] at a
          refine wp_g (by rw [show r1 = 1 from a.1]; decide) (wp_some ?_)
          rw [if_neg (fun z => hf (of_decide_eq_true z).2)]
          unfold updW
          rw [if_neg (by omega)]
          exact ⟨a.1, a.2.1, fun o _ h => a.2.2 o (h (kt w) b2 (by rw [b3, ← hs, hs0])).1 (h (kt w) b2 (by rw [b3, ← hs, hs0])).2⟩
  · obtain ⟨⟨b2, b3⟩, ⟨b4, b5⟩, b6⟩ := pagerow_ok w hw (by omega)
    have hs5 := wsr_lt w hw
    have ho := tro_ok (kt w) b2
    have fin : ∀ {x y z : Int32}, (∀ i, i < tst (kt w) → rowWd w nv i = if i = 0 then x else if i = 1 then y else z) → wp (zbd2 (f_X6_add (tro (kt w)) x y z μ) fun r15 μ16 => zg (z01 r15) <| some (r15, μ16)) (fun r => if fullW w R = true then r.1 = 0 ∧ r.2 = μ else r.1 = 1 ∧ CC s v r.2 (updW w nv R) ∧ FT s μ r.2) := by
      intro x y z hro
      refine wp_bd2Q (rowTell b2 (by rw [b3, hs]) hC hro) fun r1 μ1 a => ?_
      by_cases hf : tmx (kt w) ≤ (R (tcp (kt w))).toNatClampNeg
      · rw [if_pos hf] at a
        refine wp_g (by rw [show r1 = 0 from a.1]; decide) (wp_some ?_)
        rw [if_pos (show fullW w R = true from decide_eq_true ⟨by omega, hf⟩)]
        exact a
      · rw [if_neg hf] at a
        refine wp_g (by rw [show r1 = 1 from a.1]; decide) (wp_some ?_)
        rw [if_neg (fun z => hf (of_decide_eq_true z).2)]
        unfold updW
        rw [if_neg (by omega)]
        exact ⟨a.1, a.2.1, fun o _ h => a.2.2 o (h (kt w) b2 (by rw [b3, hs])).1 (h (kt w) b2 (by rw [b3, hs])).2⟩
    have hi3 : ∀ i, i < tst (kt w) → i = 0 ∨ i = 1 ∨ i = 2 := fun i hi => by omega
    refine wp_it (nI_ne0 (by omega) (by omega)) (wp_it ⟨nI_pos (by omega), nI_lt (b := 5) hs5 (by omega)⟩ ?_)
    rw [b4, b5]
    by_cases h14 : wsr w = 1 ∨ wsr w = 4
    · refine wp_ie (fun z => ?_) (wp_g (zin_nI hs5 (by omega)) (fin fun i hi => ?_))
      · rcases h14 with e | e
        · exact z.1 (by rw [e]; rfl)
        · exact z.2 (by rw [e]; rfl)
      · unfold rowWd
        rw [if_pos h14]
        rcases hi3 i hi with rfl | rfl | rfl <;> rfl
    · refine wp_it ⟨fun z => h14 (Or.inl ((nI_eq (b := 1) (by omega) (by omega)).mp z)), fun z => h14 (Or.inr ((nI_eq (b := 4) (by omega) (by omega)).mp z))⟩ (wp_g (zin_nI hs5 (by omega)) (fin fun i hi => ?_))
      unfold rowWd
      rw [if_neg h14]
      rcases hi3 i hi with rfl | rfl | rfl <;> rfl
end TELL
section LINEC
variable {b : Nat → Nat} {n w p s : Nat} {μ μ' : zM} {F : Nat × Nat} {R : Nat → Int32}
theorem fgS_1 {st : Nat} {x : (Nat × Nat) × Nat} (h : x.1.1 = 1) : ∀ j, fgS b n j (x, st) = (x, st)
  | 0 => rfl
  | j + 1 => if_neg (fun z => z.1 h)
theorem nums_23 : numsS b n 23 p F = fgS b n n (lnS b n 23 p 1 (F, tB b n p), set0 b n p) := if_pos rfl
theorem nums_n (h : w ≠ 23) : numsS b n w p F = (lnS b n w p (wnum w) (F, tB b n p), 0) := if_neg h
theorem fogC (hw : w < 30) (hp : p ≤ n) (h1 : F.1 ≠ 1) (c2 : CS b n (lnS b n w p (wnum w) (F, tB b n p)) μ) (n2 : (lnS b n w p (wnum w) (F, tB b n p)).1.1 ≠ 1 → ∀ i, i < 3 → μ 76 i = if i < wnum w then nI (tN b n (qs b n p i)) else -1) :
    wp (if (w = 23) ∧ (¬ (μ 58 2) = (1 : Int32)) then zbd (f_X5_readFurtherGraves 58 μ) fun μ11 => some μ11 else some μ) (fun μ3 => CS b n (numsS b n w p F).1 μ3 ∧ ((numsS b n w p F).1.1.1 ≠ 1 → ∀ i, i < 3 → μ3 76 i = nvS b n w p (numsS b n w p F).2 i) ∧ FD μ μ3) := by
  obtain ⟨hX, hF, hl, hT⟩ := c2
  have hb := hX.1.2
  by_cases h23 : w = 23
  · subst h23
    have hX1 : lnS b n 23 p (wnum 23) (F, tB b n p) = lnS b n 23 p 1 (F, tB b n p) := rfl
    rw [nums_23]
    rw [hX1] at hF hl hT n2
    have h6 := hF.1
    by_cases h2 : (lnS b n 23 p 1 (F, tB b n p)).1.1 = 1
    · rw [fgS_1 h2]
      refine wp_ie (fun z => z.2 (by rw [hF.2.1, h2]; rfl)) (wp_some ⟨⟨hX, hF, hl, hT⟩, fun z => absurd h2 z, fun _ _ _ => rfl⟩)
    · refine wp_it ⟨rfl, fun z => h2 ((nI_eq (b := 1) (by omega) (by omega)).mp (by rw [← hF.2.1]; exact z))⟩ (wp_bd ?_)
      have hT := hT h2
      have hlt := tN_lt (n := n) (p := tB b n p) hb
      have e0 : μ (58 + 18) 0 = nI (tN b n (tB b n p)) := by
        have := n2 h2 0 (by omega)
        rw [if_pos (by decide)] at this
        exact this
      have es : (if f_X10_allows 23 (0 : Int32) (nI (tN b n (tB b n p))) = 0 then (0 : Int32) else (1 : Int32) <<< (nI (tN b n (tB b n p)) &&& 31)) = nI (set0 b n p) ∧ set0 b n p < 256 := by
        rw [show f_X10_allows 23 (0 : Int32) (nI (tN b n (tB b n p))) = b2i (inb 23 0 (tN b n (tB b n p))) from allowsC (w := 23) (k := 0) (by omega) (by decide) hlt]
        unfold set0
        by_cases hi : inb 23 0 (tN b n (tB b n p)) = true
        · have h7 : tN b n (tB b n p) ≤ 7 := by
            have := (of_decide_eq_true hi).2
            exact this
          rw [if_neg (b2i_t hi), if_pos hi, one_shl (by omega)]
          exact ⟨rfl, Nat.lt_of_le_of_lt (Nat.pow_le_pow_right (by omega) h7) (by decide)⟩
        · rw [if_pos (b2i_f hi), if_neg hi]
          exact ⟨rfl, by omega⟩
      unfold f_X5_readFurtherGraves
      rw [e0]
      refine wp_l fun x3 hx3 => ?_
      rw [es.1] at hx3
      subst hx3
      refine wp_bd2Q (fg_C n zFU 0 (lnS b n 23 p 1 (F, tB b n p)) (set0 b n p) μ (by omega) (by have := hX.1.1; unfold zFU; omega) (by omega) hl h2 hX hF hT es.2) fun x22 μ2 ⟨o1, o2, o3, o4, o5⟩ => wp_u fun μ3 u3 => wp_some (wp_some ?_)
      have o1 : x22 = nI (fgS b n n (lnS b n 23 p 1 (F, tB b n p), set0 b n p)).2 := o1
      have o5 : ∀ o, o ≠ 58 → μ2 o = μ o := o5
      have u30 : μ3 76 0 = x22 := u3.1
      have u3j : ∀ j, j ≠ 0 → μ3 76 j = μ2 76 j := u3.2.2
      have u3o : ∀ o, o ≠ 76 → μ3 o = μ2 o := u3.2.1
      refine ⟨?_, fun _ i hi => ?_, fun o q1 q2 => (u3o o q2).trans (o5 o q1)⟩
      · have o3 : CS b n (fgS b n n (lnS b n 23 p 1 (F, tB b n p), set0 b n p)).1 μ2 := o3
        unfold CS TX FF TC at o3 ⊢
        rw [u3o 58 (by omega), u3o 2 (by omega)]
        exact o3
      · unfold nvS
        by_cases hi0 : i = 0
        · subst hi0
          rw [if_pos ⟨rfl, rfl⟩, u30, o1]
        · rw [if_neg (fun z => hi0 z.2), u3j i hi0, o5 76 (by omega)]
          exact n2 h2 i hi
  · rw [nums_n h23]
    refine wp_ie (fun z => h23 z.1) (wp_some ⟨⟨hX, hF, hl, hT⟩, fun z i hi => ?_, fun _ _ _ => rfl⟩)
    rw [n2 z i hi]
    unfold nvS
    exact (if_neg (fun q : w = 23 ∧ i = 0 => h23 q.1)).symm
theorem lineS_none (h : wsel b n s p = none) : lineS b n s p F R = (((1, tF b n p), p), R) := by
  unfold lineS
  rw [h]
theorem lineS_some (h : wsel b n s p = some w) : lineS b n s p F R = (lnE b n (numsS b n w p (if fullW w R = true then nt F 3 (tF b n p) else F)).1, if (lnE b n (numsS b n w p (if fullW w R = true then nt F 3 (tF b n p) else F)).1).1.1 = 1 ∨ fullW w R = true then R else updW w (nvS b n w p (numsS b n w p (if fullW w R = true then nt F 3 (tF b n p) else F)).2) R) := by
  unfold lineS
  rw [h]
theorem lnE_1 {x : (Nat × Nat) × Nat} (h : x.1.1 = 1) : lnE b n x = x := if_pos h
theorem lnE_y {x : (Nat × Nat) × Nat} (h : x.1.1 ≠ 1) (h3 : tK b n x.2 = 3) : lnE b n x = (x.1, tB b n x.2) := by
  unfold lnE
  rw [if_neg h, if_pos h3]
theorem lnE_n {x : (Nat × Nat) × Nat} (h : x.1.1 ≠ 1) (h3 : tK b n x.2 ≠ 3) : lnE b n x = ((1, tF b n x.2), x.2) := by
  unfold lnE
  rw [if_neg h, if_neg h3]
theorem CS.fd {x : (Nat × Nat) × Nat} (h : CS b n x μ) (f : ∀ o, o = 58 ∨ o = 2 → μ' o = μ o) : CS b n x μ' := by
  unfold CS TX FF TC at h ⊢
  rw [f 58 (Or.inl rfl), f 2 (Or.inr rfl)]
  exact h
def FL (s : Nat) (μ μ' : zM) : Prop := ∀ o, o ≠ 58 → o ≠ 76 → o ≠ 60 → (∀ t, t < 9 → tsr t = s → o ≠ tro t ∧ o ≠ tro t + 1) → μ' o = μ o
theorem FL.tr {μ1 μ2 : zM} (h : FL s μ μ1) (k : FL s μ1 μ2) : FL s μ μ2 := fun o a1 a2 a3 a4 => (k o a1 a2 a3 a4).trans (h o a1 a2 a3 a4)
theorem FD.fl (h : FD μ μ') : FL s μ μ' := fun o a1 a2 _ _ => h o a1 a2
theorem FD.cc {v : Prop} (h : FD μ μ') (k : CC s v μ R) : CC s v μ' R := k.fd (fun o a1 _ a3 _ => h o (by omega) a3)
theorem lineC (hs : s < 5) (hX : TX b n μ) (hF : FF F μ) (h1 : F.1 ≠ 1) (hp : p ≤ n) (hT : TC b n p μ) (hC : CC s (F.1 = 0) μ R) :
    wp (f_X5_readLine 58 (nI s) μ) (fun μ' => CS b n (lineS b n s p F R).1 μ' ∧ CC s ((lineS b n s p F R).1.1.1 = 0) μ' (lineS b n s p F R).2 ∧ FL s μ μ') := by
  have hn := hX.1.1
  have hb := hX.1.2
  have hfl := tF_le (b := b) hp
  unfold f_X5_readLine
  refine wp_ls (wp_bdE (wordOfC hs hX hT hp) ?_)
  rw [hT.2.1]
  cases hsel : wsel b n s p with
  | none =>
    rw [lineS_none hsel]
    obtain ⟨g1, g2⟩ := breakC hT.2.1 (by omega)
    exact wp_cn (wp_ls (wp_some ⟨⟨hX.fn g2, g1, hp, fun z => absurd rfl z⟩, (g2.fd.cc hC).mono (fun z => by cases z), g2.fd.fl⟩))
  | some w =>
    have hw := wf_some (s := s) (c := tW b n p) (w := w) 30 0 rfl (by
      unfold wsel at hsel
      split at hsel
      · exact hsel
      · cases hsel)
    obtain ⟨hw, hws, -⟩ := hw
    rw [lineS_some hsel]
    refine wp_cs (wp_g (decide_eq_true hw) (wp_bdQ (tlookC (p := tB b n p) hX hT.2.2.1 (tB_le hp)) fun μ1 ⟨t1, f1⟩ => wp_bdQ (rdC hw hp (hX.fc f1) (hF.fc f1) h1 t1) fun μ2 ⟨c2, n2, d2⟩ => wp_bdQ (fogC hw hp h1 c2 n2) fun μ3 ⟨c3, n3, d3⟩ => ?_))
    have hd : FD μ μ3 := (f1.fd.tr d2).tr d3
    have hC3 : CC s (F.1 = 0) μ3 R := hd.cc hC
    have hN : N3 (tF b n p) (numsS b n w p F).1 (numsS b n w p (nt F 3 (tF b n p))).1 ∧ (numsS b n w p (nt F 3 (tF b n p))).2 = (numsS b n w p F).2 := N3.nums h1 _
    have hv0 : (numsS b n w p F).1.1.1 = 0 → F.1 = 0 := by
      intro z
      by_cases h23 : w = 23
      · subst h23
        rw [nums_23] at z
        have : ∀ j (x : (Nat × Nat) × Nat) st, (fgS b n j (x, st)).1.1.1 = 0 → x.1.1 = 0 := by
          intro j
          induction j with
          | zero => intro x st z; exact z
          | succ j ih =>
            intro x st z
            by_cases q : x.1.1 ≠ 1 ∧ tK b n x.2 = 2
            · rw [show fgS b n (j + 1) (x, st) = fgS b n j ((if fok b n x.2 st = true then x.1 else nt x.1 2 (tF b n x.2), tB b n x.2), if fok b n x.2 st = true then st ||| 2 ^ tN b n x.2 else st) from if_pos q] at z
              have z := ih _ _ z
              have z : (if fok b n x.2 st = true then x.1 else nt x.1 2 (tF b n x.2)).1 = 0 := z
              split at z
              · exact z
              · exact absurd z (nt_ne0 (by omega))
            · rw [show fgS b n (j + 1) (x, st) = (x, st) from if_neg q] at z
              exact z
        exact (lnS_0 1 (this _ _ _ z)).1
      · rw [nums_n h23] at z
        exact (lnS_0 _ z).1
    obtain ⟨hX3, hF3, hl3, hT3⟩ := c3
    have hfl3 := tF_le (b := b) hl3
    have h6 := hF3.1
    by_cases e1 : (numsS b n w p F).1.1.1 = 1
    · have eY : (numsS b n w p (if fullW w R = true then nt F 3 (tF b n p) else F)).1 = (numsS b n w p F).1 := by
        split
        · obtain ⟨⟨q2, ⟨q3, q4⟩ | ⟨q3, q4⟩⟩, q5⟩ := hN
          · exact Prod.ext q4 q2
          · exact absurd e1 q3
        · rfl
      rw [eY, lnE_1 e1, if_pos (Or.inl e1)]
      exact wp_ie (fun z => z (by rw [hF3.2.1, e1]; rfl)) (wp_some ⟨⟨hX3, hF3, hl3, hT3⟩, hC3.mono (fun z => by rw [e1] at z; cases z), hd.fl⟩)
    · have hT3 := hT3 e1
      have hk4 := tK_le (b := b) (n := n) (p := (numsS b n w p F).1.2)
      refine wp_it (fun z => e1 ((nI_eq (b := 1) (by omega) (by omega)).mp (by rw [← hF3.2.1]; exact z))) ?_
      by_cases hk : tK b n (numsS b n w p F).1.2 = 3
      · refine wp_it (by rw [hT3.1, hk]; rfl) (wp_bdQ (tlookC (p := tB b n (numsS b n w p F).1.2) hX3 hT3.2.2.1 (tB_le hl3)) fun μ4 ⟨t4, f4⟩ => ?_)
        have hX4 := hX3.fc f4
        have hF4 := hF3.fc f4
        have hC4 : CC s (F.1 = 0) μ4 R := f4.fd.cc hC3
        refine wp_bd2Q (tellC (nv := nvS b n w p (numsS b n w p F).2) hw hws (hC4.mono hv0) (fun i hi => by rw [f4.1 76 (by omega)]; exact n3 e1 i hi)) fun r μ5 a => wp_l fun μ6 h6' => wp_some ?_
        by_cases hf : fullW w R = true
        · rw [if_pos hf] at a
          obtain ⟨a1, a2⟩ := a
          have a1 : r = 0 := a1
          have a2 : μ5 = μ4 := a2
          subst a1 a2
          rw [if_neg (fun z => z rfl)] at h6'
          have h6' : μ6 = f_X5_note 58 3 (nI (tF b n p)) μ5 := h6'
          obtain ⟨g1, g2⟩ := noteC (k := 3) (a := tF b n p) (v := 3) (u := nI (tF b n p)) hF4 e1 (by omega) (by omega) rfl rfl
          rw [← h6'] at g1 g2
          have eY : lnE b n (numsS b n w p (if fullW w R = true then nt F 3 (tF b n p) else F)).1 = (nt (numsS b n w p F).1.1 3 (tF b n p), tB b n (numsS b n w p F).1.2) := by
            rw [if_pos hf]
            obtain ⟨⟨q2, ⟨q3, q4⟩ | ⟨q3, q4⟩⟩, q5⟩ := hN
            · exact absurd q3 e1
            · rw [lnE_y (by rw [q4]; exact nt_ne1 q3 (by omega)) (by rw [q2]; exact hk), q4, q2]
          rw [eY, if_pos (Or.inr hf)]
          refine ⟨⟨hX4.fn g2, g1, tB_le hl3, fun _ => t4.fn g2⟩, (g2.fd.cc hC4).mono (fun z => absurd z (nt_ne0 (by omega))), (hd.tr (f4.fd.tr g2.fd)).fl⟩
        · rw [if_neg hf] at a
          obtain ⟨a1, a2, a3⟩ := a
          have a1 : r = 1 := a1
          subst a1
          rw [if_pos (by decide)] at h6'
          subst h6'
          have a2 : CC s ((numsS b n w p F).1.1.1 = 0) μ6 (updW w (nvS b n w p (numsS b n w p F).2) R) := a2
          have a3 : FT s μ4 μ6 := a3
          have e58 : ∀ o, o = 58 ∨ o = 2 → μ6 o = μ4 o := by
            intro o ho
            refine a3 o (by omega) fun t ht _ => ?_
            have := (tro_ok t ht).2.2
            omega
          rw [if_neg hf, lnE_y e1 hk, if_neg (fun z => z.elim e1 hf)]
          refine ⟨CS.fd (x := ((numsS b n w p F).1.1, tB b n (numsS b n w p F).1.2)) ⟨hX4, hF4, tB_le hl3, fun _ => t4⟩ e58, a2, fun o o1 o2 o3 o4 => ?_⟩
          rw [a3 o o3 o4, f4.1 o o1]
          exact hd o o1 o2
      · refine wp_ie (fun z => hk ((nI_eq (b := 3) (by omega) (by omega)).mp (by rw [← hT3.1]; exact z))) (wp_ls (wp_some ?_))
        obtain ⟨g1, g2⟩ := breakC hT3.2.1 (by omega)
        have eY : lnE b n (numsS b n w p (if fullW w R = true then nt F 3 (tF b n p) else F)).1 = ((1, tF b n (numsS b n w p F).1.2), (numsS b n w p F).1.2) := by
          split
          · obtain ⟨⟨q2, ⟨q3, q4⟩ | ⟨q3, q4⟩⟩, q5⟩ := hN
            · exact absurd q3 e1
            · rw [lnE_n (by rw [q4]; exact nt_ne1 q3 (by omega)) (by rw [q2]; exact hk), q2]
          · rw [lnE_n e1 hk]
        rw [eY, if_pos (Or.inl rfl)]
        exact ⟨⟨hX3.fn g2, g1, hl3, fun z => absurd rfl z⟩, (g2.fd.cc hC3).mono (fun z => by cases z), (hd.tr g2.fd).fl⟩
end LINEC
