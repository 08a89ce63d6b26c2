/-! TEXTS: both sides answer alike -/
def po (s k : Nat) : Nat := if s = 0 then 610 + 109 * k else if s = 1 then 828 + 121 * k else if s = 2 then 1070 + 17 * k else if s = 3 then 1104 + 9 * k else 1122 + 25 * k
def szT : List Nat := [109, 121, 17, 9, 25]
def szz (s : Nat) : Nat := szT.getD s 0
theorem po_ok : ∀ s, s < 5 → ∀ k, k < 2 → f_X12_placeOf (nI s) (nI k) = nI (po s k) ∧ f_X12_sizeOf (nI s) = nI (szz s) ∧ 610 ≤ po s k ∧ po s k + szz s ≤ 1172 ∧ szz s ≤ 121 := by decide +kernel
theorem po_a : ∀ s, s < 5 → ∀ s', s' < 5 → s = s' ∨ (po s 1 + szz s ≤ po s' 0 ∨ po s' 1 + szz s' ≤ po s 0) := by decide +kernel
theorem po_b : ∀ s, s < 5 → po s 0 + szz s ≤ po s 1 := by decide +kernel
theorem po_two {s k s' k' : Nat} (hs : s < 5) (hk : k < 2) (hs' : s' < 5) (hk' : k' < 2) : (s = s' ∧ k = k') ∨ (po s k + szz s ≤ po s' k' ∨ po s' k' + szz s' ≤ po s k) := by
  have a := po_a s hs s' hs'
  have b := po_b s hs
  have b' := po_b s' hs'
  have e : k = 0 ∨ k = 1 := by omega
  have e' : k' = 0 ∨ k' = 1 := by omega
  by_cases h : s = s'
  · subst h
    rcases e with rfl | rfl <;> rcases e' with rfl | rfl <;> omega
  · have a := a.resolve_left h
    rcases e with rfl | rfl <;> rcases e' with rfl | rfl <;> omega
section TEXTM
variable {b : Nat → Nat} {n w p s k : Nat} {μ μ' μ1 μ2 μ3 : zM} {F : Nat × Nat} {R : Nat → Int32} {L : Nat → Nat}
theorem clears2 {v : Int32} : wp (f_X12_clears_L2 310 v zFU 0 μ) (fun μ' => (∀ o, o ≠ 313 → μ' o = μ o) ∧ ∀ i, i < 121 → μ' 313 i = 0) := by
  refine wlp0 (fun n' k μ' => f_X12_clears_L2 310 v n' (nI k) μ') _ 121 (fun k μ' => (∀ o, o ≠ 313 → μ' o = μ o) ∧ ∀ i, i < k → μ' 313 i = 0) (by omega) μ ⟨fun _ _ => rfl, fun i hi => absurd hi (by omega)⟩ ?_ ?_
  · intro m k μ1 hk ⟨i1, i2⟩ ih
    show wp (f_X12_clears_L2 310 v (m + 1) (nI k) μ1) _
    rw [f_X12_clears_L2, nI_clamp (by omega)]
    refine wp_ie (nI_ge (b := 121) hk (by omega)) (wp_g (zin_nI hk (by omega)) (wp_u fun μ2 u => wp_ls ?_))
    rw [nI_1]
    refine ih μ2 ⟨fun o ho => (u.2.1 o ho).trans (i1 o ho), fun i hi => ?_⟩
    by_cases hik : i = k
    · rw [hik]
      exact u.1
    · exact (u.2.2 i hik).trans (i2 i (by omega))
  · intro m μ1 ⟨i1, i2⟩
    show wp (f_X12_clears_L2 310 v (m + 1) (nI 121) μ1) _
    rw [f_X12_clears_L2]
    exact wp_it (nI_le (a := 121) (by omega) (by omega)) (wp_some ⟨i1, i2⟩)
theorem clearsM (hs : s < 5) : wp (f_X12_clears 310 (nI s) μ) (fun μ' => (∀ o, o ≠ 313 → μ' o = μ o) ∧ ∀ i, i < 121 → μ' 313 i = R0 s i) := by
  unfold f_X12_clears
  refine wp_bdQ clears2 fun μ0 ⟨i1, i2⟩ => ?_
  by_cases hs0 : s = 0
  · subst hs0
    refine wp_it rfl ?_
    refine wp_u fun μ1 u1 => wp_u fun μ2 u2 => wp_u fun μ3 u3 => wp_u fun μ4 u4 => wp_u fun μ5 u5 => wp_u fun μ6 u6 => wp_u fun μ7 u7 => wp_u fun μ8 u8 => wp_u fun μ9 u9 => wp_some ⟨fun o ho => ?_, fun i hi => ?_⟩
    · rw [u9.2.1 o ho, u8.2.1 o ho, u7.2.1 o ho, u6.2.1 o ho, u5.2.1 o ho, u4.2.1 o ho, u3.2.1 o ho, u2.2.1 o ho, u1.2.1 o ho, i1 o ho]
    have w1 : ∀ j, j ≠ 0 → μ1 313 j = μ0 313 j := u1.2.2
    have x1 : μ1 313 0 = 8 := u1.1
    have w2 : ∀ j, j ≠ 1 → μ2 313 j = μ1 313 j := u2.2.2
    have x2 : μ2 313 1 = 8 := u2.1
    have w3 : ∀ j, j ≠ 2 → μ3 313 j = μ2 313 j := u3.2.2
    have x3 : μ3 313 2 = 3 := u3.1
    have w4 : ∀ j, j ≠ 3 → μ4 313 j = μ3 313 j := u4.2.2
    have x4 : μ4 313 3 = 2 := u4.1
    have w5 : ∀ j, j ≠ 6 → μ5 313 j = μ4 313 j := u5.2.2
    have x5 : μ5 313 6 = 5 := u5.1
    have w6 : ∀ j, j ≠ 7 → μ6 313 j = μ5 313 j := u6.2.2
    have x6 : μ6 313 7 = 4 := u6.1
    have w7 : ∀ j, j ≠ 8 → μ7 313 j = μ6 313 j := u7.2.2
    have x7 : μ7 313 8 = 40 := u7.1
    have w8 : ∀ j, j ≠ 9 → μ8 313 j = μ7 313 j := u8.2.2
    have x8 : μ8 313 9 = 1 := u8.1
    have w9 : ∀ j, j ≠ 10 → μ9 313 j = μ8 313 j := u9.2.2
    have x9 : μ9 313 10 = 3 := u9.1
    by_cases h11 : i < 11
    · have hc : i = 0 ∨ i = 1 ∨ i = 2 ∨ i = 3 ∨ i = 4 ∨ i = 5 ∨ i = 6 ∨ i = 7 ∨ i = 8 ∨ i = 9 ∨ i = 10 := by omega
      rcases hc with rfl | rfl | rfl | rfl | rfl | rfl | rfl | rfl | rfl | rfl | rfl
      · rw [w9 0 (by omega), w8 0 (by omega), w7 0 (by omega), w6 0 (by omega), w5 0 (by omega), w4 0 (by omega), w3 0 (by omega), w2 0 (by omega), x1]
        rfl
      · rw [w9 1 (by omega), w8 1 (by omega), w7 1 (by omega), w6 1 (by omega), w5 1 (by omega), w4 1 (by omega), w3 1 (by omega), x2]
        rfl
      · rw [w9 2 (by omega), w8 2 (by omega), w7 2 (by omega), w6 2 (by omega), w5 2 (by omega), w4 2 (by omega), x3]
        rfl
      · rw [w9 3 (by omega), w8 3 (by omega), w7 3 (by omega), w6 3 (by omega), w5 3 (by omega), x4]
        rfl
      · rw [w9 4 (by omega), w8 4 (by omega), w7 4 (by omega), w6 4 (by omega), w5 4 (by omega), w4 4 (by omega), w3 4 (by omega), w2 4 (by omega), w1 4 (by omega), i2 4 (by omega)]
        rfl
      · rw [w9 5 (by omega), w8 5 (by omega), w7 5 (by omega), w6 5 (by omega), w5 5 (by omega), w4 5 (by omega), w3 5 (by omega), w2 5 (by omega), w1 5 (by omega), i2 5 (by omega)]
        rfl
      · rw [w9 6 (by omega), w8 6 (by omega), w7 6 (by omega), w6 6 (by omega), x5]
        rfl
      · rw [w9 7 (by omega), w8 7 (by omega), w7 7 (by omega), x6]
        rfl
      · rw [w9 8 (by omega), w8 8 (by omega), x7]
        rfl
      · rw [w9 9 (by omega), x8]
        rfl
      · rw [x9]
        rfl
    · rw [w9 i (by omega), w8 i (by omega), w7 i (by omega), w6 i (by omega), w5 i (by omega), w4 i (by omega), w3 i (by omega), w2 i (by omega), w1 i (by omega), i2 i hi]
      unfold R0
      rw [if_neg (fun z => h11 z.2)]
  · refine wp_ie (nI_ne0 (by omega) (by omega)) (wp_some ⟨i1, fun i hi => ?_⟩)
    rw [i2 i hi]
    unfold R0
    rw [if_neg (fun z => hs0 z.1)]
theorem endLoop64 {N B : Nat} {P : Nat → Nat} (hN : μ 313 12 = nI N) (hN2 : N ≤ 12) (hB : B ≤ 16) (hP : ∀ k, k < N → μ 313 (56 + 2 * k) = nI (P k) ∧ P k ≤ 15) :
    wp (f_X12_wrongAtEnd_L64 310 (nI B) μ zFU 1 0) (fun y => (y = 1 ∧ ∀ i, i < N → P i < B) ∨ (y = 0 ∧ ¬ ∀ i, i < N → P i < B)) := by
  refine wlp0 (fun n' k y => f_X12_wrongAtEnd_L64 310 (nI B) μ n' y (nI k)) _ N (fun k y => (y = 1 ∧ ∀ i, i < k → P i < B) ∨ (y = 0 ∧ ¬ ∀ i, i < N → P i < B)) (by omega) 1 (Or.inl ⟨rfl, fun i hi => absurd hi (by omega)⟩) ?_ ?_
  · intro m k y hk hI ih
    have hN' : μ (310 + 3) 12 = nI N := hN
    show wp (f_X12_wrongAtEnd_L64 310 (nI B) μ (m + 1) y (nI k)) _
    rw [f_X12_wrongAtEnd_L64, hN', show (56 : Int32) + (2 : Int32) * nI k = nI (56 + 2 * k) from lin1 56 2 k, nI_clamp (by omega)]
    obtain ⟨p1, p2⟩ := hP k hk
    have p1' : μ (310 + 3) (56 + 2 * k) = nI (P k) := p1
    rw [p1']
    refine wp_ie (nI_ge hk (by omega)) ?_
    rcases hI with ⟨rfl, hI⟩ | ⟨rfl, hI⟩
    · refine wp_bd (wp_bd (wp_ie (by decide) (wp_g (zin_nI (by omega) (by omega)) ?_)))
      by_cases h : P k < B
      · refine wp_ie (nI_ge h (by omega)) (wp_some (wp_it rfl (wp_some (wp_ls ?_))))
        rw [nI_1]
        refine ih 1 (Or.inl ⟨rfl, fun i hi => ?_⟩)
        by_cases hik : i = k
        · rw [hik]
          exact h
        · exact hI i (by omega)
      · refine wp_it (nI_le (by omega) (by omega)) (wp_some (wp_ie (by decide) (wp_some (wp_ls ?_))))
        rw [nI_1]
        exact ih 0 (Or.inr ⟨rfl, fun z => h (z k hk)⟩)
    · refine wp_bd (wp_bd (wp_it rfl (wp_some (wp_ie (by decide) (wp_some (wp_ls ?_))))))
      rw [nI_1]
      exact ih 0 (Or.inr ⟨rfl, hI⟩)
  · intro m y hI
    have hN' : μ (310 + 3) 12 = nI N := hN
    show wp (f_X12_wrongAtEnd_L64 310 (nI B) μ (m + 1) y (nI N)) _
    rw [f_X12_wrongAtEnd_L64, hN']
    exact wp_it (nI_le (Nat.le_refl _) (by omega)) (wp_some hI)
theorem endLoop108 {N B : Nat} {P : Nat → Nat} {A : Prop} {y0 : Int32} (hN : μ 313 15 = nI N) (hN2 : N ≤ 4) (hB : B ≤ 16) (hP : ∀ k, k < N → μ 313 (101 + 2 * k) = nI (P k) ∧ P k ≤ 15) (hy : (y0 = 1 ∧ A) ∨ (y0 = 0 ∧ ¬ A)) :
    wp (f_X12_wrongAtEnd_L108 310 (nI B) μ zFU y0 0) (fun y => (y = 1 ∧ A ∧ ∀ i, i < N → P i < B) ∨ (y = 0 ∧ ¬ (A ∧ ∀ i, i < N → P i < B))) := by
  refine wlp0 (fun n' k y => f_X12_wrongAtEnd_L108 310 (nI B) μ n' y (nI k)) _ N (fun k y => (y = 1 ∧ A ∧ ∀ i, i < k → P i < B) ∨ (y = 0 ∧ ¬ (A ∧ ∀ i, i < N → P i < B))) (by omega) y0 (hy.imp (fun z => ⟨z.1, z.2, fun i hi => absurd hi (by omega)⟩) (fun z => ⟨z.1, fun q => z.2 q.1⟩)) ?_ ?_
  · intro m k y hk hI ih
    have hN' : μ (310 + 3) 15 = nI N := hN
    show wp (f_X12_wrongAtEnd_L108 310 (nI B) μ (m + 1) y (nI k)) _
    rw [f_X12_wrongAtEnd_L108, hN', show (101 : Int32) + (2 : Int32) * nI k = nI (101 + 2 * k) from lin1 101 2 k, nI_clamp (by omega)]
    obtain ⟨p1, p2⟩ := hP k hk
    have p1' : μ (310 + 3) (101 + 2 * k) = nI (P k) := p1
    rw [p1']
    refine wp_ie (nI_ge hk (by omega)) ?_
    rcases hI with ⟨rfl, hA, hI⟩ | ⟨rfl, hI⟩
    · refine wp_bd (wp_bd (wp_ie (by decide) (wp_g (zin_nI (by omega) (by omega)) ?_)))
      by_cases h : P k < B
      · refine wp_ie (nI_ge h (by omega)) (wp_some (wp_it rfl (wp_some (wp_ls ?_))))
        rw [nI_1]
        refine ih 1 (Or.inl ⟨rfl, hA, fun i hi => ?_⟩)
        by_cases hik : i = k
        · rw [hik]
          exact h
        · exact hI i (by omega)
      · refine wp_it (nI_le (by omega) (by omega)) (wp_some (wp_ie (by decide) (wp_some (wp_ls ?_))))
        rw [nI_1]
        exact ih 0 (Or.inr ⟨rfl, fun z => h (z.2 k hk)⟩)
    · refine wp_bd (wp_bd (wp_it rfl (wp_some (wp_ie (by decide) (wp_some (wp_ls ?_))))))
      rw [nI_1]
      exact ih 0 (Or.inr ⟨rfl, hI⟩)
  · intro m y hI
    have hN' : μ (310 + 3) 15 = nI N := hN
    show wp (f_X12_wrongAtEnd_L108 310 (nI B) μ (m + 1) y (nI N)) _
    rw [f_X12_wrongAtEnd_L108, hN']
    exact wp_it (nI_le (Nat.le_refl _) (by omega)) (wp_some hI)
/-- a rock in the lake, and not under the raft -/
def okR (L : Nat → Nat) (k : Nat) : Prop := (L (16 + 2 * k) < L 0 ∧ L (17 + 2 * k) < L 1) ∧ ¬ (L 4 ≤ L (16 + 2 * k) ∧ L (16 + 2 * k) < L 4 + L 2 ∧ L 5 ≤ L (17 + 2 * k) ∧ L (17 + 2 * k) < L 5 + L 3)
theorem rkL_iff : rkL L ↔ ∀ k, k < L 11 → okR L k := by
  constructor
  · rintro ⟨h1, h2⟩ k hk
    exact ⟨h1 k hk, fun z => h2 ⟨k, hk, z⟩⟩
  · intro h
    refine ⟨fun k hk => (h k hk).1, ?_⟩
    rintro ⟨k, hk, z⟩
    exact (h k hk).2 z
theorem isIn0 {v lo hi : Nat} (hv : v < 2 ^ 31) (hlo : lo < 2 ^ 31) (hhi : hi < 2 ^ 31) : f_X12_isIn (nI v) (nI lo) (nI hi) = 0 ↔ ¬ (lo ≤ v ∧ v ≤ hi) := by
  rw [← inYn hv hlo hhi, Decidable.not_not]
theorem endLoop158 (hL : ∀ i, i < 109 → μ 313 i = nI (L i)) (hB : LB L) :
    wp (f_X12_wrongAtEnd_L158 310 μ zFU 1 0) (fun y => (y = 1 ∧ rkL L) ∨ (y = 0 ∧ ¬ rkL L)) := by
  have hL' : ∀ i, i < 109 → μ (310 + 3) i = nI (L i) := hL
  obtain ⟨⟨b0, b1, b2, b3, b4, b5, -⟩, ⟨c0, -⟩, hr, -⟩ := hB
  rw [rkL_iff]
  refine wlp0 (fun n' k y => f_X12_wrongAtEnd_L158 310 μ n' y (nI k)) _ (L 11) (fun k y => (y = 1 ∧ ∀ i, i < k → okR L i) ∨ (y = 0 ∧ ¬ ∀ i, i < L 11 → okR L i)) (by omega) 1 (Or.inl ⟨rfl, fun i hi => absurd hi (by omega)⟩) ?_ ?_
  · intro m k y hk hI ih
    show wp (f_X12_wrongAtEnd_L158 310 μ (m + 1) y (nI k)) _
    obtain ⟨r1, r2⟩ := hr k hk
    rw [f_X12_wrongAtEnd_L158, hL' 11 (by omega), show (16 : Int32) + (2 : Int32) * nI k = nI (16 + 2 * k) from lin1 16 2 k, nI_1, nI_clamp (by omega), nI_clamp (by omega), hL' (16 + 2 * k) (by omega), hL' (16 + 2 * k + 1) (by omega), hL' 0 (by omega), hL' 1 (by omega), hL' 2 (by omega), hL' 3 (by omega), hL' 4 (by omega), hL' 5 (by omega), nI_add, nI_add, show nI (L 4 + L 2) - (1 : Int32) = nI (L 4 + L 2 - 1) from pk_sub (b := 1) (by omega), show nI (L 5 + L 3) - (1 : Int32) = nI (L 5 + L 3 - 1) from pk_sub (b := 1) (by omega), show 16 + 2 * k + 1 = 17 + 2 * k by omega]
    refine wp_ie (nI_ge hk (by omega)) (wp_g (zin_nI (by omega) (by omega)) (wp_ls (wp_g (zin_nI (by omega) (by omega)) (wp_ls (wp_l fun x56 h56 => wp_ls ?_)))))
    rw [nI_1]
    refine ih x56 ?_
    rw [h56]
    have hc : (¬ nI (L 0) ≤ nI (L (16 + 2 * k)) ∧ ¬ nI (L 1) ≤ nI (L (17 + 2 * k)) ∧ (f_X12_isIn (nI (L (16 + 2 * k))) (nI (L 4)) (nI (L 4 + L 2 - 1)) = 0 ∨ f_X12_isIn (nI (L (17 + 2 * k))) (nI (L 5)) (nI (L 5 + L 3 - 1)) = 0)) ↔ okR L k := by
      rw [isIn0 (by omega) (by omega) (by omega), isIn0 (by omega) (by omega) (by omega), nI_leI (by omega) (by omega), nI_leI (by omega) (by omega)]
      unfold okR
      omega
    rcases hI with ⟨rfl, hI⟩ | ⟨rfl, hI⟩
    · by_cases h : okR L k
      · rw [if_pos ⟨by decide, hc.mpr h⟩]
        refine Or.inl ⟨rfl, fun i hi => ?_⟩
        by_cases hik : i = k
        · rw [hik]
          exact h
        · exact hI i (by omega)
      · rw [if_neg (fun z => h (hc.mp z.2))]
        exact Or.inr ⟨rfl, fun z => h (z k hk)⟩
    · rw [if_neg (fun z => z.1 rfl)]
      exact Or.inr ⟨rfl, hI⟩
  · intro m y hI
    show wp (f_X12_wrongAtEnd_L158 310 μ (m + 1) y (nI (L 11))) _
    rw [f_X12_wrongAtEnd_L158, hL' 11 (by omega)]
    exact wp_it (nI_le (Nat.le_refl _) (by omega)) (wp_some hI)
theorem wrongAtEndM (hL : ∀ i, i < 109 → μ 313 i = nI (L i)) (hB : LB L) : wp (f_X12_wrongAtEnd 310 μ) (fun r => ∃ k, r = nI k ∧ WFt L k) := by
  have hL' : ∀ i, i < 109 → μ (310 + 3) i = nI (L i) := hL
  have h16 := pl16 hB
  have hB0 := hB
  obtain ⟨⟨b0, b1, b2, b3, b4, b5, -⟩, ⟨c0, c1, c2, c3, c4⟩, hr, hg, -, -, hk⟩ := hB
  unfold f_X12_wrongAtEnd
  rw [hL' 0 (by omega), hL' 1 (by omega), hL' 2 (by omega), hL' 3 (by omega), hL' 4 (by omega), hL' 5 (by omega), nI_add, nI_add, pk_mul]
  by_cases hin : inL L
  · refine wp_it ⟨nI_nlt hin.1 (by omega), nI_le hin.2 (by omega)⟩ (wp_ls (wp_bdQ (endLoop64 (P := fun k => L (56 + 2 * k)) (hL 12 (by omega)) c1 h16 (fun k hk => ⟨hL _ (by omega), (hg k hk).1⟩)) fun y1 h1 => wp_bdQ (endLoop108 (P := fun k => L (101 + 2 * k)) (A := ∀ i, i < L 12 → L (56 + 2 * i) < L 2 * L 3) (hL 15 (by omega)) c4 h16 (fun k hk' => ⟨hL _ (by omega), (hk k hk').1⟩) h1) fun y2 h2 => ?_))
    rcases h2 with ⟨rfl, h2⟩ | ⟨rfl, h2⟩
    · refine wp_it (by decide) (wp_bdQ (endLoop158 hL hB0) fun y3 h3 => wp_ls (wp_some ?_))
      rcases h3 with ⟨rfl, h3⟩ | ⟨rfl, h3⟩
      · exact ⟨0, rfl, Or.inr (Or.inr (Or.inr ⟨rfl, hin, h2, h3⟩))⟩
      · exact ⟨6, rfl, Or.inr (Or.inr (Or.inl ⟨rfl, hin, h2, h3⟩))⟩
    · exact wp_ie (fun z => z rfl) (wp_some ⟨5, rfl, Or.inr (Or.inl ⟨rfl, hin, h2⟩)⟩)
  · refine wp_ie (fun z => hin ⟨Nat.le_of_not_lt fun q => z.1 (nI_lt q (by omega)), (nI_leI (by omega) (by omega)).mp z.2⟩) (wp_some ⟨4, rfl, Or.inl ⟨rfl, hin⟩⟩)
theorem copyM (hs : s < 5) (hk : k < 2) : wp (f_X12_text_L250 310 (nI s) (nI k) zFU 0 μ) (fun μ' => (∀ o, o ≠ 311 → μ' o = μ o) ∧ ∀ i, μ' 311 i = if po s k ≤ i ∧ i < po s k + szz s then μ 313 (i - po s k) else μ 311 i) := by
  obtain ⟨e1, e2, e3, e4, e5⟩ := po_ok s hs k hk
  refine wlp0 (fun n' j μ' => f_X12_text_L250 310 (nI s) (nI k) n' (nI j) μ') _ (szz s) (fun j μ' => (∀ o, o ≠ 311 → μ' o = μ o) ∧ ∀ i, μ' 311 i = if po s k ≤ i ∧ i < po s k + j then μ 313 (i - po s k) else μ 311 i) (by omega) μ ⟨fun _ _ => rfl, fun i => by rw [if_neg (by omega)]⟩ ?_ ?_
  · intro m j μ1 hj ⟨i1, i2⟩ ih
    show wp (f_X12_text_L250 310 (nI s) (nI k) (m + 1) (nI j) μ1) _
    rw [f_X12_text_L250, e1, e2, nI_add, nI_clamp (by omega), nI_clamp (by omega)]
    refine wp_ie (nI_ge hj (by omega)) (wp_g (zin_nI (by omega) (by omega)) (wp_g (zin_nI (by omega) (by omega)) (wp_u fun μ2 u => wp_ls ?_)))
    rw [nI_1]
    have u1 : μ2 311 (po s k + j) = μ1 313 j := u.1
    have u2 : ∀ o, o ≠ 311 → μ2 o = μ1 o := u.2.1
    have u3 : ∀ i, i ≠ po s k + j → μ2 311 i = μ1 311 i := u.2.2
    refine ih μ2 ⟨fun o ho => (u2 o ho).trans (i1 o ho), fun i => ?_⟩
    by_cases hi : i = po s k + j
    · rw [hi, u1, i1 313 (by omega), if_pos (by omega), show po s k + j - po s k = j by omega]
    · rw [u3 i hi, i2]
      by_cases h5 : po s k ≤ i ∧ i < po s k + j
      · rw [if_pos h5, if_pos (by omega)]
      · rw [if_neg h5, if_neg (by omega)]
  · intro m μ1 ⟨i1, i2⟩
    show wp (f_X12_text_L250 310 (nI s) (nI k) (m + 1) (nI (szz s)) μ1) _
    rw [f_X12_text_L250, e2]
    exact wp_it (nI_le (Nat.le_refl _) (by omega)) (wp_some ⟨i1, i2⟩)
theorem tF_end (hp : p ≤ n) (h : tK b n p = 0) : tF b n p = n := by
  have h1 := tF_le (b := b) hp
  have h2 := tK_0.mp h
  omega
/-- where a text goes -/
def Slot (s k : Nat) (v2 cs : Int32) : Prop := (v2 = -1 ∧ cs = nI k ∧ k < 2) ∨ (v2 = nI k ∧ k < 2 ∧ ∃ c, cs = nI c ∧ c ≤ 2 ∧ k < c)
theorem textM {v2 : Int32} (hs : s < 5) (hn : n ≤ 600) (hb : ∀ i, b i < 256) (h5 : μ 311 5 = nI n) (ht : ∀ i, i < n → μ 311 (10 + i) = nI (b i)) (hsl : Slot s k v2 (μ 311 s))
    (hend : (trun b n s n (((0, 0), 0), R0 s)).1.1.1 = 1 ∨ tK b n (trun b n s n (((0, 0), 0), R0 s)).1.2 = 0)
    (hBd : s = 0 → (trun b n s n (((0, 0), 0), R0 s)).1.1.1 = 0 → LB L ∧ ∀ i, i < 109 → (trun b n s n (((0, 0), 0), R0 s)).2 i = nI (L i)) :
    wp (f_X12_text 310 (nI s) v2 μ) (fun r => ∃ G : Nat × Nat, ((s ≠ 0 ∨ (trun b n s n (((0, 0), 0), R0 s)).1.1.1 ≠ 0) → G = (trun b n s n (((0, 0), 0), R0 s)).1.1) ∧ (s = 0 → (trun b n s n (((0, 0), 0), R0 s)).1.1.1 = 0 → WFt L G.1 ∧ G.2 = n) ∧
      (r.2 311 6 = nI G.1 ∧ r.2 311 7 = (if G.1 = 0 then -1 else nI G.2) ∧ r.2 311 5 = 0 ∧ G.1 ≤ 6) ∧ (∀ o, o ≠ 310 → o ≠ 311 → o ≠ 313 → r.2 o = μ o) ∧
      (G.1 ≠ 0 → r.1 = -1 ∧ ∀ i, i ≠ 5 → i ≠ 6 → i ≠ 7 → r.2 311 i = μ 311 i) ∧
      (G.1 = 0 → r.1 = nI k ∧ (trun b n s n (((0, 0), 0), R0 s)).1.1.1 = 0 ∧ ∀ i, i ≠ 5 → i ≠ 6 → i ≠ 7 → r.2 311 i = if i = s ∧ v2 = -1 then nI (k + 1) else if po s k ≤ i ∧ i < po s k + szz s then (trun b n s n (((0, 0), 0), R0 s)).2 (i - po s k) else μ 311 i)) := by
  have hk2 : k < 2 := by
    rcases hsl with z | z
    · exact z.2.2
    · exact z.2.1
  obtain ⟨e1, e2, e3, e4, e5⟩ := po_ok s hs k hk2
  unfold f_X12_text
  refine wp_u fun μ1 u1 => wp_u fun μ2 u2 => wp_u fun μ3 u3 => wp_u fun μ4 u4 => ?_
  have n1 : μ1 310 2 = nI n := u1.1.trans h5
  have o4 : ∀ o, o ≠ 310 → o ≠ 311 → μ4 o = μ o := fun o o1 o2 => by rw [u4.2.1 o o2, u3.2.1 o o2, u2.2.1 o o2, u1.2.1 o o1]
  have r4 : ∀ i, i ≠ 5 → i ≠ 6 → i ≠ 7 → μ4 311 i = μ 311 i := fun i i5 i6 i7 => by
    have q4 : μ4 311 i = μ3 311 i := u4.2.2 i i7
    have q3 : μ3 311 i = μ2 311 i := u3.2.2 i i6
    have q2 : μ2 311 i = μ1 311 i := u2.2.2 i i5
    rw [q4, q3, q2, u1.2.1 311 (by omega)]
  have n4 : μ4 310 2 = nI n := by rw [u4.2.1 310 (by omega), u3.2.1 310 (by omega), u2.2.1 310 (by omega)]; exact n1
  have a5 : μ4 311 5 = 0 := by
    have q4 : μ4 311 5 = μ3 311 5 := u4.2.2 5 (by omega)
    have q3 : μ3 311 5 = μ2 311 5 := u3.2.2 5 (by omega)
    rw [q4, q3]
    exact u2.1
  have a6 : μ4 311 6 = 0 := by
    have q4 : μ4 311 6 = μ3 311 6 := u4.2.2 6 (by omega)
    rw [q4]
    exact u3.1
  have a7 : μ4 311 7 = -1 := u4.1
  have hin : ¬ f_X12_isIn (nI s) 0 4 = 0 := (inYn (lo := 0) (hi := 4) (by omega) (by omega) (by omega)).mpr ⟨Nat.zero_le _, by omega⟩
  have hslot : wp (if ¬ v2 = (-1 : Int32) then zbd (f_X12_isOf 310 (nI s) v2 μ4) fun r11 => if ¬ r11 = 0 then some true else some false else zg (zin (nI s) 4688) <| if (μ4 (310 + 1) ((nI s).toNatClampNeg)) < (2 : Int32) then some true else some false) (fun c => c = true) := by
    have es : μ4 311 s = μ 311 s := r4 s (by omega) (by omega) (by omega)
    rcases hsl with ⟨z1, z2, z3⟩ | ⟨z1, z2, c, z3, z4, z5⟩
    · refine wp_ie (fun q => q z1) (wp_g (zin_nI (by omega) (by omega)) ?_)
      rw [nI_clamp (by omega), show μ4 (310 + 1) s = nI k from es.trans z2]
      exact wp_it (nI_lt (b := 2) z3 (by omega)) (wp_some rfl)
    · rw [z1]
      exact wp_it (nI_nm1 (by omega)) (wp_bdE (isOf_yes (es.trans z3) hs z4 z5) (wp_it (by decide) (wp_some rfl)))
  refine wp_bdQ (wp_ie hin hslot) fun b13 hb13 => wp_it hb13 (wp_u fun μ5 u5 => wp_u fun μ6 u6 => wp_bdQ (clearsM hs) fun μ7 ⟨c1, c2⟩ => ?_)
  have x7 : TXm b n μ7 := by
    refine ⟨⟨hn, hb⟩, ?_, fun i hi => ?_⟩
    · rw [c1 310 (by omega), u6.2.2 2 (by omega), u5.2.2 2 (by omega)]
      exact n4
    · rw [c1 311 (by omega), u6.2.1 311 (by omega), u5.2.1 311 (by omega), r4 _ (by omega) (by omega) (by omega)]
      exact ht i hi
  have e7 : μ7 311 = μ4 311 := by rw [c1 311 (by omega), u6.2.1 311 (by omega), u5.2.1 311 (by omega)]
  have f7 : FM (0, 0) μ7 := by
    refine ⟨by show (0 : Nat) ≤ 6 ∧ (0 : Nat) ≤ 600; omega, ?_, by rw [e7]; exact a6, by rw [e7]; exact a7⟩
    rw [c1 310 (by omega), u6.1]
    rfl
  have k7 : μ7 310 3 = nI 0 := by
    rw [c1 310 (by omega), u6.2.2 3 (by omega)]
    exact u5.1
  refine wp_bdQ (advM (p := 0) x7 k7 (by omega)) fun μ8 ⟨t8, q8⟩ => ?_
  have m8 : MS b n ((0, 0), 0) μ8 := ⟨x7.fa q8, f7.fa q8, Nat.zero_le _, fun _ => t8⟩
  have r8 : MR s (((0, 0) : Nat × Nat).1 = 0) μ8 (R0 s) := by
    refine ⟨fun t ht9 hts => ⟨0, Nat.zero_le _, ?_, ?_⟩, fun _ i hi => by rw [q8.1 313 (by omega)]; exact c2 i hi⟩
    · have := R0_cp t ht9
      rw [hts] at this
      exact this
    · have ho := tro_ok t ht9
      have h1 := R0_cp t ht9
      have := mul_row (s := tst t) (j := 0) (c := tmx t) (by
        have : ∀ t, t < 9 → 0 < tmx t := by decide +kernel
        exact this t ht9)
      rw [q8.1 313 (by omega), c2 _ (by omega), ← hts, h1]
      rfl
  refine wp_bdQ (runM (v2 := v2) hs n zFU (((0, 0), 0), R0 s) μ8 (Or.inr (by show n - 0 ≤ n; omega)) (by unfold zFU; omega) m8 (Or.inl rfl) (fun _ => r8)) fun μ9 ⟨d1, d2, d3⟩ => ?_
  generalize trun b n s n (((0, 0), 0), R0 s) = x at *
  have o9 : ∀ o, o ≠ 310 → o ≠ 311 → o ≠ 313 → μ9 o = μ o := fun o o1 o2 o3 => by
    rw [d3.1 o o1 o2 o3, q8.1 o o1, c1 o o3, u6.2.1 o o1, u5.2.1 o o1]
    exact o4 o o1 o2
  have r9 : ∀ i, i ≠ 6 → i ≠ 7 → μ9 311 i = μ4 311 i := fun i i6 i7 => by
    rw [d3.2 i i6 i7, q8.1 311 (by omega), e7]
  have hx6 := d1.2.1.1
  -- the end
  have fin : ∀ (G : Nat × Nat) (μ10 : zM), (μ10 311 6 = nI G.1 ∧ μ10 311 7 = (if G.1 = 0 then -1 else nI G.2) ∧ G.1 ≤ 6) → (∀ o, o ≠ 311 → μ10 o = μ9 o) → (∀ i, i ≠ 6 → i ≠ 7 → μ10 311 i = μ9 311 i) → (G.1 = 0 → x.1.1.1 = 0) → ((s ≠ 0 ∨ x.1.1.1 ≠ 0) → G = x.1.1) → (s = 0 → x.1.1.1 = 0 → WFt L G.1 ∧ G.2 = n) →
      wp (if (μ10 (310 + 1) 6) = 0 then zbd (if ¬ v2 = (-1 : Int32) then some v2 else zg (zin (nI s) 4688) <| some (μ10 (310 + 1) ((nI s).toNatClampNeg))) fun x43 => zbd (if ¬ v2 = (-1 : Int32) then some μ10 else zg (zin (nI s) 4688) <| zl (zup μ10 (310 + 1) ((nI s).toNatClampNeg) ((μ10 (310 + 1) ((nI s).toNatClampNeg)) + (1 : Int32))) fun μ47 => some μ47) fun μ48 => zbd (f_X12_text_L250 310 (nI s) x43 zFU (0 : Int32) μ48) fun μ57 => some (x43, μ57) else some ((-1 : Int32), μ10)) (fun r => ∃ G : Nat × Nat, ((s ≠ 0 ∨ x.1.1.1 ≠ 0) → G = x.1.1) ∧ (s = 0 → x.1.1.1 = 0 → WFt L G.1 ∧ G.2 = n) ∧
      (r.2 311 6 = nI G.1 ∧ r.2 311 7 = (if G.1 = 0 then -1 else nI G.2) ∧ r.2 311 5 = 0 ∧ G.1 ≤ 6) ∧ (∀ o, o ≠ 310 → o ≠ 311 → o ≠ 313 → r.2 o = μ o) ∧
      (G.1 ≠ 0 → r.1 = -1 ∧ ∀ i, i ≠ 5 → i ≠ 6 → i ≠ 7 → r.2 311 i = μ 311 i) ∧
      (G.1 = 0 → r.1 = nI k ∧ x.1.1.1 = 0 ∧ ∀ i, i ≠ 5 → i ≠ 6 → i ≠ 7 → r.2 311 i = if i = s ∧ v2 = -1 then nI (k + 1) else if po s k ≤ i ∧ i < po s k + szz s then x.2 (i - po s k) else μ 311 i)) := by
    intro G μ10 g1 g2 g3 g4 g5 g6
    have g1' : μ10 (310 + 1) 6 = nI G.1 := g1.1
    rw [g1']
    by_cases hG : G.1 = 0
    · refine wp_it (by rw [hG]; rfl) ?_
      have hx0 := g4 hG
      have hR := (d2 (by omega)).2 hx0
      have es : μ10 311 s = μ 311 s := by rw [g3 s (by omega) (by omega), r9 s (by omega) (by omega), r4 s (by omega) (by omega) (by omega)]
      have r13 : ∀ i, i < 121 → μ10 313 i = x.2 i := fun i hi => by rw [g2 313 (by omega)]; exact hR i hi
      have hx43 : (if ¬ v2 = (-1 : Int32) then some v2 else zg (zin (nI s) 4688) <| some (μ10 (310 + 1) ((nI s).toNatClampNeg))) = some (nI k) := by
        rcases hsl with ⟨z1, z2, z3⟩ | ⟨z1, z2, c, z3, z4, z5⟩
        · rw [if_neg (fun q => q z1), zg_t (zin_nI (by omega) (by omega)), nI_clamp (by omega)]
          exact congrArg some (es.trans z2)
        · rw [if_pos (by rw [z1]; exact nI_nm1 (by omega)), z1]
      rw [hx43]
      refine wp_some_bd (wp_bdQ (Q := fun μ11 => (∀ o, o ≠ 311 → μ11 o = μ10 o) ∧ ∀ i, μ11 311 i = if i = s ∧ v2 = -1 then nI (k + 1) else μ10 311 i) ?_ fun μ11 ⟨h1, h2⟩ => wp_bdQ (copyM hs hk2) fun μ12 ⟨l1, l2⟩ => wp_some ⟨G, g5, g6, ?_, fun o o1 o2 o3 => ?_, fun z => absurd hG z, fun _ => ⟨rfl, hx0, fun i i5 i6 i7 => ?_⟩⟩)
      · by_cases hv : v2 = -1
        · refine wp_ie (fun q => q hv) (wp_g (zin_nI (by omega) (by omega)) ?_)
          rw [nI_clamp (by omega)]
          refine wp_u fun μ11 u => wp_some ⟨u.2.1, fun i => ?_⟩
          have w1 : μ11 311 s = μ10 311 s + 1 := u.1
          have w2 : ∀ j, j ≠ s → μ11 311 j = μ10 311 j := u.2.2
          by_cases hi : i = s
          · rw [if_pos ⟨hi, hv⟩, hi, w1, es]
            rcases hsl with ⟨z1, z2, z3⟩ | ⟨z1, z2, c, z3, z4, z5⟩
            · rw [z2]
              exact nI_1 k
            · exact absurd (z1.symm.trans hv) (nI_nm1 (by omega))
          · rw [if_neg (fun q => hi q.1), w2 i hi]
        · exact wp_it hv (wp_some ⟨fun _ _ => rfl, fun i => by rw [if_neg (fun q => hv q.2)]⟩)
      · show μ12 311 6 = nI G.1 ∧ μ12 311 7 = (if G.1 = 0 then -1 else nI G.2) ∧ μ12 311 5 = 0 ∧ G.1 ≤ 6
        have q : ∀ i, i = 5 ∨ i = 6 ∨ i = 7 → μ12 311 i = μ10 311 i := fun i hi => by rw [l2 i, if_neg (by omega), h2 i, if_neg (by omega)]
        rw [q 6 (by omega), q 7 (by omega), q 5 (by omega)]
        exact ⟨g1.1, g1.2.1, by rw [g3 5 (by omega) (by omega), r9 5 (by omega) (by omega)]; exact a5, g1.2.2⟩
      · show μ12 o = μ o
        rw [l1 o o2, h1 o o2, g2 o o2]
        exact o9 o o1 o2 o3
      · show μ12 311 i = _
        rw [l2]
        by_cases hi : po s k ≤ i ∧ i < po s k + szz s
        · rw [if_pos hi, h1 313 (by omega), r13 _ (by omega), if_neg (by omega), if_pos hi]
        · rw [if_neg hi, h2, if_neg hi, g3 i i6 i7, r9 i i6 i7, r4 i i5 i6 i7]
    · refine wp_ie (nI_ne0 (by omega) (by omega)) (wp_some ⟨G, g5, g6, ⟨g1.1, g1.2.1, ?_, g1.2.2⟩, fun o o1 o2 o3 => ?_, fun _ => ⟨rfl, fun i i5 i6 i7 => ?_⟩, fun z => absurd z hG⟩)
      · show μ10 311 5 = 0
        rw [g3 5 (by omega) (by omega), r9 5 (by omega) (by omega)]
        exact a5
      · show μ10 o = μ o
        rw [g2 o o2]
        exact o9 o o1 o2 o3
      · show μ10 311 i = μ 311 i
        rw [g3 i i6 i7, r9 i i6 i7, r4 i i5 i6 i7]
  have g9 : μ9 (310 + 1) 6 = nI x.1.1.1 := d1.2.1.2.2.1
  by_cases hlast : s = 0 ∧ x.1.1.1 = 0
  · obtain ⟨hs0, hx0⟩ := hlast
    subst hs0
    obtain ⟨hB, hR⟩ := hBd rfl hx0
    have hR9 := (d2 (by omega)).2 hx0
    have hL : ∀ i, i < 109 → μ9 313 i = nI (L i) := fun i hi => (hR9 i (by omega)).trans (hR i hi)
    obtain ⟨r31, er, k31, ek, hw⟩ := wrongAtEndM hL hB
    have hk6 := hw.le
    have et : tF b n x.1.2 = n := tF_end d1.2.2.1 (hend.resolve_left (by omega))
    have h4 : μ9 310 4 = nI n := by
      have := (d1.2.2.2 (by omega)).2.1
      rw [et] at this
      exact this
    rw [g9]
    refine wp_bdQ (Q := fun μ10 => ∃ G : Nat × Nat, G = (k31, n) ∧ (μ10 311 6 = nI G.1 ∧ μ10 311 7 = (if G.1 = 0 then -1 else nI G.2) ∧ G.1 ≤ 6) ∧ (∀ o, o ≠ 311 → μ10 o = μ9 o) ∧ (∀ i, i ≠ 6 → i ≠ 7 → μ10 311 i = μ9 311 i)) ?_ fun μ10 ⟨G, e0, g1, g2, g3⟩ => ?_
    · refine wp_bd (wp_ie (fun z => z (by rw [hx0]; rfl)) (wp_ie (fun z => z rfl) (wp_bdE er ?_)))
      by_cases h0 : k31 = 0
      · refine wp_it (by rw [ek, h0]; rfl) (wp_some (wp_ie (by decide) (wp_some ⟨(k31, n), rfl, ⟨?_, ?_, hk6.1⟩, fun _ _ => rfl, fun _ _ _ => rfl⟩)))
        · show μ9 311 6 = nI k31
          rw [h0, ← hx0]
          exact g9
        · show μ9 311 7 = if k31 = 0 then -1 else nI n
          have := d1.2.1.2.2.2
          rw [if_pos hx0] at this
          rw [if_pos h0]
          exact this
      · refine wp_ie (by rw [ek]; exact nI_ne0 (by omega) (by omega)) (wp_some (wp_it rfl (wp_bdE er (wp_ls (wp_some ⟨(k31, n), rfl, ?_⟩)))))
        obtain ⟨al1, al2⟩ := alsoM (k := k31) (v := r31) (a := n) (u := μ9 310 4) d1.2.1 (by omega) (by omega) hn ek h4
        rw [nt_0 hx0] at al1
        exact ⟨⟨al1.2.2.1, al1.2.2.2, hk6.1⟩, al2⟩
    · subst e0
      exact fin (k31, n) μ10 g1 g2 g3 (fun _ => hx0) (fun z => z.elim (fun q => absurd rfl q) (fun q => absurd hx0 q)) (fun _ _ => ⟨hw, rfl⟩)
  · rw [g9]
    refine wp_bdQ (Q := fun μ10 => μ10 = μ9) ?_ fun μ10 e10 => ?_
    · by_cases hx0 : x.1.1.1 = 0
      · have hs0 : s ≠ 0 := fun z => hlast ⟨z, hx0⟩
        exact wp_bd (wp_ie (fun z => z (by rw [hx0]; rfl)) (wp_it (nI_ne0 (by omega) (by omega)) (wp_some (wp_ie (by decide) (wp_some rfl)))))
      · exact wp_bd (wp_it (nI_ne0 (by omega) (by omega)) (wp_some (wp_ie (by decide) (wp_some rfl))))
    · subst e10
      exact fin x.1.1 μ10 ⟨d1.2.1.2.2.1, d1.2.1.2.2.2, hx6.1⟩ (fun _ _ => rfl) (fun _ _ _ => rfl) (fun z => z) (fun _ => rfl) (fun z1 z2 => absurd ⟨z1, z2⟩ hlast)
end TEXTM
