/-! TEXTS: a text that is taken -/
theorem pg_rows : ∀ s, s < 5 → 1 ≤ s → tro (s + 4) = 77 + 2 * s ∧ tsr (s + 4) = s ∧ 3 * tmx (s + 4) = zln (78 + 2 * s) ∧ tcp (s + 4) = 0 ∧ tbs (s + 4) = 1 := by decide +kernel
theorem rd_kd : ∀ r, r < 58 → 3 ≤ r → zkd r ≠ 6 ∨ (5 < r ∧ r < 56) := by decide +kernel
theorem lk_rows : ∀ r, r < 56 → 6 ≤ r → zkd r ≠ 6 ∨ (r < 36 ∧ ((r - 6) / 15 < 2 ∧ ∃ j, j < 5 ∧ r = 6 + 15 * ((r - 6) / 15) + 2 + 2 * j)) ∨ 36 ≤ r := by decide +kernel
section TEXTZ
variable {μ : zM} {v2 : Int32} {s k c : Nat}
theorem text_yes (hI : Inv μ) (hs : s < 5) (c1 : c ≤ 2) (c2 : μ 3 s = nI c) (c3 : μ 311 s = nI c) (hsl : (v2 = -1 ∧ k = c ∧ c < 2) ∨ (v2 = nI k ∧ k < c)) :
    wp (f_X11_text 0 (nI s) v2 μ) (fun p => wp (f_X12_text 310 (nI s) v2 p.2) (fun p2 => p2.1 = p.1 ∧ Inv p2.2)) := by
  have hk2 : k < 2 := by omega
  obtain ⟨hW, hP, hM⟩ := hI
  have hI : Inv μ := ⟨hW, hP, hM⟩
  obtain ⟨⟨⟨n, n1, n2, n3⟩, ⟨e6, e7⟩, ht⟩, hPB⟩ := PR.iff.mp hP
  rw [Nat.zero_add] at n3 e6 e7
  -- the tape
  obtain ⟨b, hb, hb2⟩ : ∃ b : Nat → Nat, (∀ i, b i < 256) ∧ ∀ i, i < 600 → μ 2 i = nI (b i) := by
    refine ⟨fun i => if i < 600 then (μ 2 i).toNatClampNeg else 0, fun i => ?_, fun i hi => ?_⟩
    · show (if i < 600 then (μ 2 i).toNatClampNeg else 0) < 256
      split
      · rename_i h
        obtain ⟨-, x, x1, x2⟩ := ht i h
        have x2 : μ 2 i = nI x := x2
        rw [x2, nI_clamp (by omega)]
        exact x1
      · omega
    · obtain ⟨-, x, x1, x2⟩ := ht i hi
      have x2 : μ 2 i = nI x := x2
      show μ 2 i = nI (if i < 600 then (μ 2 i).toNatClampNeg else 0)
      rw [if_pos hi, x2, nI_clamp (by omega)]
  have hslC : f_X8_slotFor (0 + 1) (nI s) v2 μ = some (nI k) := by
    refine wp_eq ?_
    unfold f_X8_slotFor
    refine wp_it ⟨nI_pos (by omega), nI_lt (b := 5) hs (by omega)⟩ ?_
    rcases hsl with ⟨z1, z2, z3⟩ | ⟨z1, z2⟩
    · refine wp_ie (fun q => q z1) (wp_g (zin_nI hs (by omega)) (wp_ls (wp_some ?_)))
      rw [nI_clamp (by omega), show μ (0 + 1 + 2) s = nI c from c2]
      rw [z2]
      exact if_neg (nI_ge (b := 2) z3 (by omega))
    · rw [z1]
      refine wp_it (nI_nm1 (by omega)) (wp_bdE (has_yes c2 hs c1 z2) (wp_ls (wp_some ?_)))
      exact if_neg (by decide)
  obtain ⟨L, hL⟩ : ∃ L : Nat → Nat, s = 0 → (trun b n s n (((0, 0), 0), R0 s)).1.1.1 = 0 → LB L ∧ ∀ i, i < 109 → (trun b n s n (((0, 0), 0), R0 s)).2 i = nI (L i) := by
    by_cases h : s = 0 ∧ (trun b n s n (((0, 0), 0), R0 s)).1.1.1 = 0
    · obtain ⟨L, l1, l2⟩ := (trun_0 hb hs h.2).1 h.1
      exact ⟨L, fun _ _ => ⟨l1.lb, l2⟩⟩
    · exact ⟨fun _ => 0, fun z1 z2 => absurd ⟨z1, z2⟩ h⟩
  have hBds : (trun b n s n (((0, 0), 0), R0 s)).1.1.1 = 0 → Bds s (trun b n s n (((0, 0), 0), R0 s)).2 := trun_0 hb hs
  unfold f_X11_text
  refine wp_bdE hslC (wp_it (nI_nm1 (by omega)) ?_)
  rw [show μ (0 + 1) 1 = nI n from n2]
  refine wp_bdQ (readC (b := b) (L := L) hs n1 hb (fun i hi => hb2 i (by omega)) (fun r r1 r2 r3 => hW r (by omega) r3) hL) fun μ3 ⟨G, g1, g2, g3, g4, g5, g6, g7⟩ => ?_
  have hend := g5
  have textM' := fun (ν : zM) (h5 : ν 311 5 = nI n) (ht' : ∀ i, i < n → ν 311 (10 + i) = nI (b i)) (hsl' : Slot s k v2 (ν 311 s)) => textM (b := b) (L := L) (μ := ν) hs n1 hb h5 ht' hsl' hend hL
  generalize trun b n s n (((0, 0), 0), R0 s) = x at *
  refine wp_u fun μ4 u4 => wp_u fun μ5 u5 => wp_u fun μ6 u6 => ?_
  have o6 : ∀ o, o ≠ 1 → μ6 o = μ3 o := fun o ho => by rw [u6.2.1 o ho, u5.2.1 o ho, u4.2.1 o ho]
  have p1 : μ6 1 1 = 0 := by
    have q6 : μ6 1 1 = μ5 1 1 := u6.2.2 1 (by omega)
    have q5 : μ5 1 1 = μ4 1 1 := u5.2.2 1 (by omega)
    rw [q6, q5]
    exact u4.1
  have p2 : μ6 1 2 = nI G.1 := by
    have q6 : μ6 1 2 = μ5 1 2 := u6.2.2 2 (by omega)
    have q5 : μ5 1 2 = μ4 58 2 := u5.1
    rw [q6, q5, u4.2.1 58 (by omega)]
    exact g1.2.1
  have p3 : μ6 1 3 = (if G.1 = 0 then -1 else nI G.2) := by
    have q6 : μ6 1 3 = μ5 58 3 := u6.1
    rw [q6, u5.2.1 58 (by omega), u4.2.1 58 (by omega)]
    exact g1.2.2
  have p58 : μ6 (0 + 58) 2 = nI G.1 := by
    show μ6 58 2 = nI G.1
    rw [o6 58 (by omega)]
    exact g1.2.1
  have hG6 := g1.1
  rw [p58]
  have out6 : ∀ o, o < 58 ∨ 87 ≤ o → o ≠ 1 → μ6 o = μ o := fun o ho h1 => (o6 o h1).trans (g6 o ho)
  have hsl2 : Slot s k v2 (nI c) := by
    rcases hsl with ⟨z1, z2, z3⟩ | ⟨z1, z2⟩
    · exact Or.inl ⟨z1, by rw [z2], hk2⟩
    · exact Or.inr ⟨z1, hk2, c, rfl, c1, z2⟩
  have tape : ∀ ν : zM, ν 311 = μ 311 → ν 311 5 = nI n ∧ (∀ i, i < n → ν 311 (10 + i) = nI (b i)) ∧ Slot s k v2 (ν 311 s) := by
    intro ν hν
    rw [hν]
    refine ⟨n3, fun i hi => ?_, by rw [c3]; exact hsl2⟩
    have := (ht i (by omega)).1
    rw [Nat.zero_add] at this
    rw [this]
    exact hb2 i (by omega)
  have same : ∀ G' : Nat × Nat, ((s ≠ 0 ∨ x.1.1.1 ≠ 0) → G' = x.1.1) → (s = 0 → x.1.1.1 = 0 → WFt L G'.1 ∧ G'.2 = n) → G' = G := by
    intro G' h1 h2
    by_cases h : s = 0 ∧ x.1.1.1 = 0
    · obtain ⟨a1, a2⟩ := h2 h.1 h.2
      obtain ⟨b1, b2, -⟩ := g3 h.1 h.2
      exact Prod.ext (a1.one b1) (a2.trans b2.symm)
    · have h' : s ≠ 0 ∨ x.1.1.1 ≠ 0 := by
        by_cases q : s = 0
        · exact Or.inr (fun z => h ⟨q, z⟩)
        · exact Or.inl q
      rw [h1 h', g2 h']
  by_cases hG : G.1 = 0
  · refine wp_it (by rw [hG]; rfl) (wp_bd ?_)
    have hx0 : x.1.1.1 = 0 := by
      by_cases q : s ≠ 0 ∨ x.1.1.1 ≠ 0
      · rw [← g2 q]
        exact hG
      · exact Decidable.not_not.mp fun z => q (Or.inr z)
    have hB := hBds hx0
    have hWF6 : ∀ r, r < 87 → zkd r = 6 → WFr r μ6 := by
      intro r r1 r2
      by_cases h58 : 58 ≤ r
      · exact (g7 r h58 r1 r2).congr (o6 r (by omega))
      · have hr1 : r ≠ 1 := fun z => by
          subst z
          exact absurd r2 (by decide +kernel)
        exact (show WFr r μ from hW r (by omega) r2).congr (out6 r (by omega) hr1)
    have hCC := g4.mono (v' := True) (fun _ => hx0)
    -- the class takes it
    have hT : wp (f_X8_take (0 + 1) (nI s) (nI k) (0 + 58) μ6) (fun μ8 => (μ8 3 s = nI (if v2 = -1 then k + 1 else c) ∧ ∀ j, j ≠ s → μ8 3 j = μ6 3 j) ∧ (∀ o, o ≠ 3 → (s = 0 → o < 6 + 15 * k ∨ 20 + 15 * k < o) → (s ≠ 0 → o ≠ 36 + 2 * (2 * s + k) ∧ o ≠ 37 + 2 * (2 * s + k)) → μ8 o = μ6 o) ∧ (s = 0 → LC (6 + 15 * k) μ8 L ∧ ∀ j, j < 5 → WFr (6 + 15 * k + 2 + 2 * j) μ8) ∧ (s ≠ 0 → ∃ m, m ≤ tmx (s + 4) ∧ x.2 0 = nI m ∧ μ8 (36 + 2 * (2 * s + k)) 2 = nI m ∧ (∀ j, j < m → ∀ i, i < tst (s + 4) → μ8 (37 + 2 * (2 * s + k)) (3 * j + i) = x.2 (1 + tst (s + 4) * j + i)) ∧ WFr (36 + 2 * (2 * s + k)) μ8)) := by
      have mx : ∀ ν : zM, ν 3 s = nI c → zmax (ν 3 s) (nI k + 1) = nI (if v2 = -1 then k + 1 else c) := by
        intro ν hν
        rw [hν, nI_1, zmax_nI (by omega) (by omega)]
        rcases hsl with ⟨z1, z2, z3⟩ | ⟨z1, z2⟩
        · rw [if_pos z1, if_pos (by omega)]
        · rw [if_neg (fun q => nI_nm1 (by omega) (z1.symm.trans q)), if_neg (by omega)]
      have e3 : μ6 3 s = nI c := by rw [out6 3 (by omega) (by omega)]; exact c2
      unfold f_X8_take
      refine wp_it ⟨nI_pos (by omega), nI_ge (b := 5) hs (by omega), nI_pos (by omega), nI_lt (b := 2) hk2 (by omega)⟩ ?_
      by_cases hs0 : s = 0
      · subst hs0
        obtain ⟨w1, w2, w3⟩ := g3 rfl hx0
        rw [nI_clamp (by omega : k < 2 ^ 31)]
        refine wp_bdQ (Q := fun μ' => LC (6 + 15 * k) μ' L ∧ (∀ j, j < 5 → WFr (6 + 15 * k + 2 + 2 * j) μ') ∧ ∀ o, o < 6 + 15 * k ∨ 6 + 15 * k + 14 < o → μ' o = μ6 o) (wp_ie (fun z => z rfl) (wp_g (zin_nI hk2 (by omega)) (wp_bdQ (lakeTake (a := 59) (a' := 6 + 15 * k) (L := L) (zlk_kd k hk2) (Or.inr (by omega)) (w3.congr (fun o o1 o2 => o6 o (by omega))) (fun j hj => hWF6 _ (by omega) (tk1.2.2.1 k hk2 j hj))) fun μ' a => wp_some a))) fun μ7 ⟨l1, l2, l3⟩ => wp_g (zin_nI (by omega) (by omega)) (wp_u fun μ8 u8 => wp_some ?_)
        have v1 : μ8 3 0 = zmax (μ7 3 0) (nI k + 1) := u8.1
        have v2' : ∀ o, o ≠ 3 → μ8 o = μ7 o := u8.2.1
        have v3 : ∀ j, j ≠ 0 → μ8 3 j = μ7 3 j := u8.2.2
        have q3 : μ7 3 = μ6 3 := l3 3 (by omega)
        refine ⟨⟨v1.trans (mx μ7 (by rw [q3]; exact e3)), fun j hj => by rw [v3 j hj, q3]⟩, fun o h3 h0 _ => by rw [v2' o h3, l3 o (by have := h0 rfl; omega)], fun _ => ⟨l1.congr (fun o o1 o2 => v2' o (by omega)), fun j hj => (l2 j hj).congr (v2' _ (by omega))⟩, fun z => absurd rfl z⟩
      · obtain ⟨t1, t2, t3, t4, t5⟩ := pg_rows s hs (by omega)
        obtain ⟨m, m1, m2, m3, m4, m5⟩ := hCC.1 (s + 4) (by omega) t2
        rw [t1] at m3 m5
        rw [t4] at m2
        rw [t5] at m5
        have m3' : μ6 (77 + 2 * s) 2 = nI m := by rw [o6 _ (by omega)]; exact m3
        have ei : nI s * (2 : Int32) + nI k = nI (2 * s + k) := by
          show nI s * nI 2 + nI k = _
          rw [pk_mul, nI_add, Nat.mul_comm]
        rw [ei, nI_clamp (by omega : 2 * s + k < 2 ^ 31), nI_clamp (by omega : s < 2 ^ 31)]
        refine wp_bdQ (wp_it (nI_ne0 (by omega) (by omega)) (wp_g (zin_nI (by omega) (by omega)) (wp_g (zin_nI hs (by omega)) (wp_bdQ (Q := fun μ' => μ' (36 + 2 * (2 * s + k)) 2 = nI m ∧ (∀ i, i < 3 * m → μ' (37 + 2 * (2 * s + k)) i = μ6 (78 + 2 * s) i) ∧ (∀ o, o ≠ 36 + 2 * (2 * s + k) → o ≠ 37 + 2 * (2 * s + k) → μ' o = μ6 o) ∧ WFr (36 + 2 * (2 * s + k)) μ') ?_ fun μ7 a => wp_some a)))) fun μ7 ⟨l1, l2, l3, l4⟩ => wp_g (zin_nI hs (by omega)) (wp_u fun μ8 u8 => wp_some ?_)
        · rw [show 0 + 1 + 35 + 2 * (2 * s + k) = 36 + 2 * (2 * s + k) by omega, show 0 + 58 + 19 + 2 * s = 77 + 2 * s by omega]
          exact pageTakeC ⟨by omega, hs⟩ hk2 hWF6 m3' (by omega)
        · have v1 : μ8 3 s = zmax (μ7 3 s) (nI k + 1) := u8.1
          have v2' : ∀ o, o ≠ 3 → μ8 o = μ7 o := u8.2.1
          have v3 : ∀ j, j ≠ s → μ8 3 j = μ7 3 j := u8.2.2
          have q3 : μ7 3 = μ6 3 := l3 3 (by omega) (by omega)
          refine ⟨⟨v1.trans (mx μ7 (by rw [q3]; exact e3)), fun j hj => by rw [v3 j hj, q3]⟩, fun o h3 _ h1 => by rw [v2' o h3, l3 o (h1 hs0).1 (h1 hs0).2], fun z => absurd z hs0, fun _ => ⟨m, m1, m2, by rw [v2' _ (by omega)]; exact l1, fun j hj i hi => ?_, l4.congr (v2' _ (by omega))⟩⟩
          have h3 := (tro_ok (s + 4) (by omega)).2.1.2.2.1
          rw [v2' _ (by omega), l2 _ (by omega), o6 _ (by omega), show 78 + 2 * s = 77 + 2 * s + 1 by omega]
          exact m5 trivial j hj i hi
    refine wp_mono hT fun μ8 ⟨⟨q1, q2⟩, q3, q4, q5⟩ => wp_some ?_
    show wp (f_X12_text 310 (nI s) v2 μ8) (fun p2 => p2.1 = nI k ∧ Inv p2.2)
    have o8 : ∀ o, 87 ≤ o → μ8 o = μ o := fun o ho => by rw [q3 o (by omega) (fun _ => by omega) (fun _ => by omega)]; exact out6 o (by omega) (by omega)
    obtain ⟨t1, t2, t3⟩ := tape μ8 (o8 311 (by omega))
    refine wp_mono (textM' μ8 t1 t2 t3) fun r ⟨G', y1, y2, ⟨y3, y4, y5, y6⟩, y7, y8, y9⟩ => ?_
    have eG := same G' y1 y2
    subst eG
    obtain ⟨z1, z2, z3⟩ := y9 hG
    refine ⟨z1, ?_⟩
    have hpo := po_ok s hs k hk2
    have o9 : ∀ o, o < 310 ∨ o = 312 → r.2 o = μ8 o := fun o ho => y7 o (by omega) (by omega) (by omega)
    have r1 : r.2 1 = μ6 1 := by rw [o9 1 (by omega), q3 1 (by omega) (fun _ => by omega) (fun _ => by omega)]
    have r2 : r.2 2 = μ 2 := by rw [o9 2 (by omega), q3 2 (by omega) (fun _ => by omega) (fun _ => by omega)]; exact out6 2 (by omega) (by omega)
    have rref : ∀ i, (i < 5 ∧ i ≠ s) ∨ (i ≠ 5 ∧ i ≠ 6 ∧ i ≠ 7 ∧ 5 ≤ i ∧ (i < po s k ∨ po s k + szz s ≤ i)) → r.2 311 i = μ 311 i := by
      intro i hi
      rw [z3 i (by omega) (by omega) (by omega), if_neg (by omega), if_neg (by omega), o8 311 (by omega)]
    have rnew : ∀ i, i < szz s → r.2 311 (po s k + i) = x.2 i := by
      intro i hi
      rw [z3 _ (by omega) (by omega) (by omega), if_neg (by omega), if_pos (by omega), show po s k + i - po s k = i by omega]
    have hc' : (if v2 = -1 then k + 1 else c) ≤ 2 := by split <;> omega
    have hcs : r.2 311 s = nI (if v2 = -1 then k + 1 else c) := by
      rw [z3 s (by omega) (by omega) (by omega)]
      by_cases hv : v2 = -1
      · rw [if_pos ⟨rfl, hv⟩, if_pos hv]
      · rw [if_neg (fun q => hv q.2), if_neg (by omega), if_neg hv, o8 311 (by omega)]
        exact c3
    refine hI.slot (c := c) (c' := if v2 = -1 then k + 1 else c) hs hk2 (fun q h1 h2 h3 => ?_) (fun o ho => ?_) (fun o h1 h2 h3 h4 => ?_) ⟨c2, c1⟩ (fun s' hs' => ?_) ⟨by rw [o9 3 (by omega)]; exact q1, hcs, hc'⟩ (fun k' hk' => ?_) ?_ (fun hs0 => ⟨L, (q4 hs0).1.congr (fun o o1 o2 => o9 o (by omega))⟩) (fun i hi => rref i (by omega)) ⟨⟨0, by omega, by rw [r1]; exact p1, y5⟩, ⟨?_, ?_⟩, fun i hi => ?_⟩
    · refine WFr.congr ?_ (o9 q (by omega))
      have base : ∀ (hne : (s = 0 → q < 6 + 15 * k ∨ 20 + 15 * k < q) ∧ (s ≠ 0 → q ≠ 36 + 2 * (2 * s + k) ∧ q ≠ 37 + 2 * (2 * s + k)) ∧ q ≠ 3), WFr q μ8 := fun hne => (hWF6 q h2 h3).congr (q3 q hne.2.2 hne.1 hne.2.1)
      have hq3 : q ≠ 3 := fun z => by
        subst z
        exact absurd h3 (by decide +kernel)
      by_cases hs0 : s = 0
      · by_cases hin : 6 + 15 * k ≤ q ∧ q ≤ 20 + 15 * k
        · have hj : ∃ j, j < 5 ∧ q = 6 + 15 * k + 2 + 2 * j := by
            rcases lk_rows q (by omega) (by omega) with z | z | z
            · exact absurd h3 z
            · obtain ⟨z1, z2, j, z3, z4⟩ := z
              have : (q - 6) / 15 = k := by omega
              rw [this] at z4
              exact ⟨j, z3, z4⟩
            · omega
          obtain ⟨j, j1, j2⟩ := hj
          rw [j2]
          exact (q4 hs0).2 j j1
        · exact base ⟨fun _ => by omega, fun z => absurd hs0 z, hq3⟩
      · by_cases hin : q = 36 + 2 * (2 * s + k)
        · obtain ⟨m, m1, m2, m3, m4, m5⟩ := q5 hs0
          rw [hin]
          exact m5
        · refine base ⟨fun z => absurd z hs0, fun _ => ⟨hin, fun z => ?_⟩, hq3⟩
          have hz : ∀ s, s < 5 → ∀ k, k < 2 → zkd (37 + 2 * (2 * s + k)) ≠ 6 := by decide +kernel
          rw [z] at h3
          exact hz s hs k hk2 h3
    · rw [o9 o (by omega)]
      by_cases h57 : o = 57
      · rw [h57, q3 57 (by omega) (fun _ => by omega) (fun _ => by omega)]
        exact out6 57 (by omega) (by omega)
      · exact o8 o (by omega)
    · rw [o9 o (by omega), q3 o (by omega) h3 h4]
      exact out6 o (by omega) (by omega)
    · rw [o9 3 (by omega), q2 s' hs', out6 3 (by omega) (by omega)]
    · rcases hsl with ⟨w1, w2, w3⟩ | ⟨w1, w2⟩
      · rw [if_pos w1] at hk'
        omega
      · rw [if_neg (fun q => nI_nm1 (by omega) (w1.symm.trans q))] at hk'
        exact Or.inr hk'
    · refine ⟨fun e => ?_, fun e => ?_, fun e => ?_, fun e => ?_, fun e => ?_⟩
      · subst e
        obtain ⟨w1, w2, w3⟩ := g3 rfl hx0
        obtain ⟨l1, l2⟩ := hL rfl hx0
        rw [hG] at w1
        exact ⟨L, w1.ok l1, (q4 rfl).1.congr (fun o o1 o2 => o9 o (by omega)), fun i hi => (rnew i hi).trans (l2 i hi)⟩
      · subst e
        obtain ⟨m, m1, m2, m3, m4, m5⟩ := q5 (by omega)
        have m1 : m ≤ 40 := m1
        have m4 : ∀ j, j < m → ∀ i, i < 3 → μ8 (37 + 2 * (2 * 1 + k)) (3 * j + i) = x.2 (1 + 3 * j + i) := m4
        rw [show 36 + 2 * (2 * 1 + k) = 40 + 2 * k by omega] at m3
        rw [show 37 + 2 * (2 * 1 + k) = 40 + 2 * k + 1 by omega] at m4
        have rn : ∀ i, i < 121 → r.2 311 (828 + 121 * k + i) = x.2 i := rnew
        refine ⟨m, fun j i => x.2 (1 + 3 * j + i), m1, by rw [o9 _ (by omega)]; exact m3, fun j hj i hi => by rw [o9 _ (by omega)]; exact m4 j hj i hi, (rn 0 (by omega)).trans m2, fun j hj i hi => ?_, fun j hj => ?_⟩
        · rw [show 828 + 121 * k + 1 + 3 * j + i = 828 + 121 * k + (1 + 3 * j + i) by omega]
          exact rn _ (by omega)
        · exact ((hB.2 5 (by omega) (by omega) rfl m m1 m2 j hj).1 rfl)
      · subst e
        obtain ⟨m, m1, m2, m3, m4, m5⟩ := q5 (by omega)
        have m1 : m ≤ 8 := m1
        have m4 : ∀ j, j < m → ∀ i, i < 2 → μ8 (37 + 2 * (2 * 2 + k)) (3 * j + i) = x.2 (1 + 2 * j + i) := m4
        rw [show 36 + 2 * (2 * 2 + k) = 44 + 2 * k by omega] at m3
        rw [show 37 + 2 * (2 * 2 + k) = 44 + 2 * k + 1 by omega] at m4
        have rn : ∀ i, i < 17 → r.2 311 (1070 + 17 * k + i) = x.2 i := rnew
        have vals : ∀ j, j < m → ∀ i, i < 2 → ∃ y : Nat, y ≤ 11 ∧ x.2 (1 + 2 * j + i) = nI y := fun j hj => (hB.2 6 (by omega) (by omega) rfl m m1 m2 j hj).2.1 rfl
        have cl : ∀ j, j < m → ∀ i, i < 2 → x.2 (1 + 2 * j + i) = nI ((x.2 (1 + 2 * j + i)).toNatClampNeg) ∧ (x.2 (1 + 2 * j + i)).toNatClampNeg ≤ 11 := by
          intro j hj i hi
          obtain ⟨y, y1, y2⟩ := vals j hj i hi
          rw [y2, nI_clamp (by omega)]
          exact ⟨rfl, y1⟩
        refine ⟨m, fun j i => (x.2 (1 + 2 * j + i)).toNatClampNeg, m1, by rw [o9 _ (by omega)]; exact m3, fun j hj i hi => by rw [o9 _ (by omega)]; exact (m4 j hj i hi).trans (cl j hj i hi).1, (rn 0 (by omega)).trans m2, fun j hj i hi => ?_, fun j hj i hi => (cl j hj i hi).2⟩
        rw [show 1070 + 17 * k + 1 + 2 * j + i = 1070 + 17 * k + (1 + 2 * j + i) by omega]
        exact (rn _ (by omega)).trans (cl j hj i hi).1
      · subst e
        obtain ⟨m, m1, m2, m3, m4, m5⟩ := q5 (by omega)
        have m1 : m ≤ 8 := m1
        have m4 : ∀ j, j < m → ∀ i, i < 1 → μ8 (37 + 2 * (2 * 3 + k)) (3 * j + i) = x.2 (1 + 1 * j + i) := m4
        rw [show 36 + 2 * (2 * 3 + k) = 48 + 2 * k by omega] at m3
        rw [show 37 + 2 * (2 * 3 + k) = 48 + 2 * k + 1 by omega] at m4
        have rn : ∀ i, i < 9 → r.2 311 (1104 + 9 * k + i) = x.2 i := rnew
        have vals : ∀ j, j < m → ∃ y : Nat, y < 256 ∧ x.2 (1 + 1 * j + 0) = nI y := fun j hj => (hB.2 7 (by omega) (by omega) rfl m m1 m2 j hj).2.2 rfl
        have cl : ∀ j, j < m → x.2 (1 + 1 * j + 0) = nI ((x.2 (1 + 1 * j + 0)).toNatClampNeg) ∧ (x.2 (1 + 1 * j + 0)).toNatClampNeg < 256 := by
          intro j hj
          obtain ⟨y, y1, y2⟩ := vals j hj
          rw [y2, nI_clamp (by omega)]
          exact ⟨rfl, y1⟩
        refine ⟨m, fun j => (x.2 (1 + 1 * j + 0)).toNatClampNeg, m1, by rw [o9 _ (by omega)]; exact m3, fun j hj => by rw [o9 _ (by omega)]; exact (m4 j hj 0 (by omega)).trans (cl j hj).1, (rn 0 (by omega)).trans m2, fun j hj => ?_, fun j hj => (cl j hj).2⟩
        rw [show 1104 + 9 * k + 1 + j = 1104 + 9 * k + (1 + 1 * j + 0) by omega]
        exact (rn _ (by omega)).trans (cl j hj).1
      · subst e
        obtain ⟨m, m1, m2, m3, m4, m5⟩ := q5 (by omega)
        have m1 : m ≤ 8 := m1
        have m4 : ∀ j, j < m → ∀ i, i < 3 → μ8 (37 + 2 * (2 * 4 + k)) (3 * j + i) = x.2 (1 + 3 * j + i) := m4
        rw [show 36 + 2 * (2 * 4 + k) = 52 + 2 * k by omega] at m3
        rw [show 37 + 2 * (2 * 4 + k) = 52 + 2 * k + 1 by omega] at m4
        have rn : ∀ i, i < 25 → r.2 311 (1122 + 25 * k + i) = x.2 i := rnew
        refine ⟨m, fun j i => x.2 (1 + 3 * j + i), m1, by rw [o9 _ (by omega)]; exact m3, fun j hj i hi => by rw [o9 _ (by omega)]; exact m4 j hj i hi, (rn 0 (by omega)).trans m2, fun j hj i hi => ?_⟩
        rw [show 1122 + 25 * k + 1 + 3 * j + i = 1122 + 25 * k + (1 + 3 * j + i) by omega]
        exact rn _ (by omega)
    · rw [Nat.zero_add, r1, p2]
      exact y3
    · rw [Nat.zero_add, r1, p3]
      exact y4
    · have := ht i hi
      rw [Nat.zero_add] at this ⊢
      rw [rref _ (Or.inr ⟨by omega, by omega, by omega, by omega, by omega⟩), show (1 : Nat) + 1 = 2 from rfl, r2]
      exact this
  · refine wp_ie (nI_ne0 (by omega) (by omega)) (wp_some ?_)
    show wp (f_X12_text 310 (nI s) v2 μ6) (fun p2 => p2.1 = -1 ∧ Inv p2.2)
    obtain ⟨t1, t2, t3⟩ := tape μ6 (out6 311 (by omega) (by omega))
    refine wp_mono (textM' μ6 t1 t2 t3) fun r ⟨G', y1, y2, ⟨y3, y4, y5, y6⟩, y7, y8, y9⟩ => ?_
    have eG := same G' y1 y2
    subst eG
    obtain ⟨z1, z2⟩ := y8 hG
    refine ⟨z1, ?_⟩
    have o9 : ∀ o, o < 310 ∨ o = 312 → r.2 o = μ6 o := fun o ho => y7 o (by omega) (by omega) (by omega)
    have rref : ∀ i, i ≠ 5 → i ≠ 6 → i ≠ 7 → r.2 311 i = μ 311 i := fun i i5 i6 i7 => by rw [z2 i i5 i6 i7, out6 311 (by omega) (by omega)]
    refine hI.upd (fun q h1 h2 h3 => ?_) (fun o ho => by rw [o9 o (by omega)]; exact out6 o (by omega) (by omega)) (fun i hi => rref i (by omega) (by omega) (by omega)) ⟨⟨0, by omega, by rw [o9 1 (by omega)]; exact p1, y5⟩, ⟨?_, ?_⟩, fun i hi => ?_⟩
    · exact (g7 q h1 h2 h3).congr (by rw [o9 q (by omega), o6 q (by omega)])
    · rw [Nat.zero_add, o9 1 (by omega), p2]
      exact y3
    · rw [Nat.zero_add, o9 1 (by omega), p3]
      exact y4
    · have := ht i hi
      rw [Nat.zero_add] at this ⊢
      rw [rref _ (by omega) (by omega) (by omega), o9 (1 + 1) (by omega), out6 (1 + 1) (by omega) (by omega)]
      exact this
theorem slot_no {v1 : Int32} (h : ¬ ∃ s : Nat, s < 5 ∧ v1 = nI s) : f_X8_slotFor 1 v1 v2 μ = some (-1) := by
  unfold f_X8_slotFor
  rw [if_neg (fun z => h (wsort.mp z))]
theorem slot_no2 (hs : s < 5) (c1 : c ≤ 2) (c2 : μ 3 s = nI c) (h : (v2 = -1 ∧ 2 ≤ c) ∨ (v2 ≠ -1 ∧ ∀ k, k < c → v2 ≠ nI k)) : f_X8_slotFor 1 (nI s) v2 μ = some (-1) := by
  refine wp_eq ?_
  unfold f_X8_slotFor
  refine wp_it ⟨nI_pos (by omega), nI_lt (b := 5) hs (by omega)⟩ ?_
  rcases h with ⟨z1, z2⟩ | ⟨z1, z2⟩
  · refine wp_ie (fun q => q z1) (wp_g (zin_nI hs (by omega)) (wp_ls (wp_some ?_)))
    rw [nI_clamp (by omega), show μ (1 + 2) s = nI c from c2]
    exact if_pos (nI_le (a := 2) z2 (by omega))
  · refine wp_it z1 (wp_bdE (has_no c2 hs c1 z2) (wp_ls (wp_some ?_)))
    exact if_pos rfl
theorem text_same (v1 v2 : Int32) : Same (f_X11_text 0 v1 v2) (f_X12_text 310 v1 v2) := by
  refine Same.inv fun μ hI => ?_
  by_cases hs : ∃ s : Nat, s < 5 ∧ v1 = nI s
  · obtain ⟨s, hs, rfl⟩ := hs
    obtain ⟨c, c1, c2, c3, hc⟩ := sort_cases hI hs v2
    have hin : ¬ f_X12_isIn (nI s) 0 4 = 0 := (inYn (lo := 0) (hi := 4) (by omega) (by omega) (by omega)).mpr ⟨Nat.zero_le _, by omega⟩
    by_cases hv : v2 = -1
    · by_cases h2 : c < 2
      · exact text_yes (k := c) hI hs c1 c2 c3 (Or.inl ⟨hv, rfl, h2⟩)
      · refine text_no hI (slot_no2 hs c1 c2 (Or.inl ⟨hv, by omega⟩)) fun μ4 h4 => wp_ie hin (wp_ie (fun q => q hv) (wp_g (zin_nI (by omega) (by omega)) ?_))
        rw [nI_clamp (by omega), show μ4 (310 + 1) s = nI c from (h4 s hs).trans c3]
        exact wp_ie (nI_nlt (b := 2) (by omega) (by omega)) (wp_some rfl)
    · rcases hc with ⟨k, hk, e⟩ | hc
      · exact text_yes (k := k) hI hs c1 c2 c3 (Or.inr ⟨e, hk⟩)
      · refine text_no hI (slot_no2 hs c1 c2 (Or.inr ⟨hv, hc⟩)) fun μ4 h4 => wp_ie hin (wp_it hv (wp_bdE (isOf_no ((h4 s hs).trans c3) hs c1 hc) (wp_ie (fun q => q rfl) (wp_some rfl))))
  · refine text_no hI (slot_no hs) fun μ4 h4 => wp_it ?_ (wp_some rfl)
    refine Decidable.not_not.mp fun q => hs ?_
    obtain ⟨q1, q2⟩ := inY.mp q
    obtain ⟨j, j1, j2⟩ := nI_rng (b := 4) (by omega) q1 q2
    exact ⟨j, by omega, j2⟩
end TEXTZ
