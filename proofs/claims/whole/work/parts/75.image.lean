/-! image, again -/
def WFr (r : Nat) (μ : zM) : Prop := μ r 0 = nI (zln (r + 1) / 3) ∧ ∃ n, 3 * n ≤ zln (r + 1) ∧ μ r 2 = nI n
theorem WFr.congr {r : Nat} {μ μ' : zM} (h : WFr r μ) (e : μ' r = μ r) : WFr r μ' := by
  unfold WFr at h ⊢
  rw [e]
  exact h
theorem cpg11 {n : Nat} (hn : n < 2 ^ 31) : zcpg 0 0 (nI n) n n = true := by
  unfold zcpg
  rw [nI_clamp hn, decide_eq_true (nI_pos' hn), decide_eq_true (show (0 : Int32) ≤ 0 by decide), show (0 : Int32).toNatClampNeg = 0 from by decide, decide_eq_true (show 0 + n ≤ n by omega)]
  rfl
theorem zcp_in {μ : zM} {a b n i : Nat} (hn : n < 2 ^ 31) (hi : i < n) : zcp μ a b 0 0 (nI n) b i = μ a i := by
  unfold zcp
  rw [zupr_self, nI_clamp hn, show (0 : Int32).toNatClampNeg = 0 from by decide, pk_cpy_in (Nat.zero_le _) (by omega), Nat.zero_add, Nat.sub_zero]
theorem zcp_ne {μ : zM} {a b n o : Nat} (h : o ≠ b) : zcp μ a b 0 0 (nI n) o = μ o := zupr_ne _ _ h
/-- Lake.takeFrom -/
theorem lakeTake {a a' : Nat} {μ : zM} {L : Nat → Nat} (hk : zkd a' = 1) (hd : a + 14 < a' ∨ a' + 14 < a) (h : LC a μ L) (hw : ∀ j, j < 5 → WFr (a' + 2 + 2 * j) μ) :
    wp (f_X1_takeFrom a' a μ) (fun μ' => LC a' μ' L ∧ (∀ j, j < 5 → WFr (a' + 2 + 2 * j) μ') ∧ ∀ o, o < a' ∨ a' + 14 < o → μ' o = μ o) := by
  obtain ⟨hka, hB, h0, -⟩ := h
  obtain ⟨z3, z5, z7, z9, z11⟩ := zlkn hka
  obtain ⟨y3, y5, y7, y9, y11⟩ := zlkn hk
  obtain ⟨b1, b2, b3, b4, b5⟩ := hB.2.1
  obtain ⟨s1, s2, s3, s4, s5⟩ := h0.2.1
  unfold f_X1_takeFrom
  refine wp_g (cpg11 (n := 11) (by omega)) (wp_ls ?_)
  rw [show (11 : Int32) = nI 11 from rfl]
  generalize hm : zcp μ (a + 1) (a' + 1) 0 0 (nI 11) = μ1
  have f1 : ∀ o, o ≠ a' + 1 → μ1 o = μ o := fun o ho => by rw [← hm]; exact zcp_ne ho
  have g1 : ∀ i, i < 11 → μ1 (a' + 1) i = μ (a + 1) i := fun i hi => by rw [← hm]; exact zcp_in (by omega) hi
  have w0 := hw 0 (by omega)
  have w1 := hw 1 (by omega)
  have w2 := hw 2 (by omega)
  have w3 := hw 3 (by omega)
  have w4 := hw 4 (by omega)
  refine wp_bdQ (rowTake (w := a + 2) (w' := a' + 2) (n := L 11) (by omega) (show zln (a' + 3) = zln (a + 3) by omega) (show zln (a + 3) < 1000 by omega) (by rw [f1 _ (by omega)]; exact w0.1) (show 3 * L 11 ≤ zln (a + 3) by omega) (by rw [f1 _ (by omega)]; exact s1)) fun μ2 ⟨c1, c2, c3, c4⟩ => ?_
  refine wp_bdQ (rowTake (w := a + 4) (w' := a' + 4) (n := L 12) (by omega) (show zln (a' + 5) = zln (a + 5) by omega) (show zln (a + 5) < 1000 by omega) (by rw [c4 _ (by omega) (by omega), f1 _ (by omega)]; exact w1.1) (show 3 * L 12 ≤ zln (a + 5) by omega) (by rw [c4 _ (by omega) (by omega), f1 _ (by omega)]; exact s2)) fun μ3 ⟨d1, d2, d3, d4⟩ => ?_
  refine wp_bdQ (rowTake (w := a + 6) (w' := a' + 6) (n := L 13) (by omega) (show zln (a' + 7) = zln (a + 7) by omega) (show zln (a + 7) < 1000 by omega) (by rw [d4 _ (by omega) (by omega), c4 _ (by omega) (by omega), f1 _ (by omega)]; exact w2.1) (show 3 * L 13 ≤ zln (a + 7) by omega) (by rw [d4 _ (by omega) (by omega), c4 _ (by omega) (by omega), f1 _ (by omega)]; exact s3)) fun μ4 ⟨e1, e2, e3, e4⟩ => ?_
  refine wp_bdQ (rowTake (w := a + 8) (w' := a' + 8) (n := L 14) (by omega) (show zln (a' + 9) = zln (a + 9) by omega) (show zln (a + 9) < 1000 by omega) (by rw [e4 _ (by omega) (by omega), d4 _ (by omega) (by omega), c4 _ (by omega) (by omega), f1 _ (by omega)]; exact w3.1) (show 3 * L 14 ≤ zln (a + 9) by omega) (by rw [e4 _ (by omega) (by omega), d4 _ (by omega) (by omega), c4 _ (by omega) (by omega), f1 _ (by omega)]; exact s4)) fun μ5 ⟨h1, h2, h3, h4⟩ => ?_
  refine wp_bdQ (rowTake (w := a + 10) (w' := a' + 10) (n := L 15) (by omega) (show zln (a' + 11) = zln (a + 11) by omega) (show zln (a + 11) < 1000 by omega) (by rw [h4 _ (by omega) (by omega), e4 _ (by omega) (by omega), d4 _ (by omega) (by omega), c4 _ (by omega) (by omega), f1 _ (by omega)]; exact w4.1) (show 3 * L 15 ≤ zln (a + 11) by omega) (by rw [h4 _ (by omega) (by omega), e4 _ (by omega) (by omega), d4 _ (by omega) (by omega), c4 _ (by omega) (by omega), f1 _ (by omega)]; exact s5)) fun μ6 ⟨k1, k2, k3, k4⟩ => ?_
  -- what each row holds now
  have q2 : ∀ o, o = a' + 2 ∨ o = a' + 3 → μ6 o = μ2 o := fun o ho => by rw [k4 _ (by omega) (by omega), h4 _ (by omega) (by omega), e4 _ (by omega) (by omega), d4 _ (by omega) (by omega)]
  have q4 : ∀ o, o = a' + 4 ∨ o = a' + 5 → μ6 o = μ3 o := fun o ho => by rw [k4 _ (by omega) (by omega), h4 _ (by omega) (by omega), e4 _ (by omega) (by omega)]
  have q6 : ∀ o, o = a' + 6 ∨ o = a' + 7 → μ6 o = μ4 o := fun o ho => by rw [k4 _ (by omega) (by omega), h4 _ (by omega) (by omega)]
  have q8 : ∀ o, o = a' + 8 ∨ o = a' + 9 → μ6 o = μ5 o := fun o ho => by rw [k4 _ (by omega) (by omega)]
  have u3 : ∀ i, i < 3 * L 11 → μ6 (a' + 3) i = μ (a + 3) i := fun i hi => by
    rw [q2 _ (Or.inr rfl), show μ2 (a' + 3) i = μ1 (a + 3) i from c3 i hi, f1 _ (by omega)]
  have u5 : ∀ i, i < 3 * L 12 → μ6 (a' + 5) i = μ (a + 5) i := fun i hi => by
    rw [q4 _ (Or.inr rfl), show μ3 (a' + 5) i = μ2 (a + 5) i from d3 i hi, c4 _ (by omega) (by omega), f1 _ (by omega)]
  have u7 : ∀ i, i < 3 * L 13 → μ6 (a' + 7) i = μ (a + 7) i := fun i hi => by
    rw [q6 _ (Or.inr rfl), show μ4 (a' + 7) i = μ3 (a + 7) i from e3 i hi, d4 _ (by omega) (by omega), c4 _ (by omega) (by omega), f1 _ (by omega)]
  have u9 : ∀ i, i < 3 * L 14 → μ6 (a' + 9) i = μ (a + 9) i := fun i hi => by
    rw [q8 _ (Or.inr rfl), show μ5 (a' + 9) i = μ4 (a + 9) i from h3 i hi, e4 _ (by omega) (by omega), d4 _ (by omega) (by omega), c4 _ (by omega) (by omega), f1 _ (by omega)]
  have u11 : ∀ i, i < 3 * L 15 → μ6 (a' + 11) i = μ (a + 11) i := fun i hi => by
    rw [show μ6 (a' + 11) i = μ5 (a + 11) i from k3 i hi, h4 _ (by omega) (by omega), e4 _ (by omega) (by omega), d4 _ (by omega) (by omega), c4 _ (by omega) (by omega), f1 _ (by omega)]
  have C0 : LC0 a' μ6 L := by
    refine ⟨fun i hi => ?_, ⟨?_, ?_, ?_, ?_, k1⟩, fun k hk => ?_, fun k hk => ?_, fun k hk => ?_, fun k hk => ?_, fun k hk => ?_⟩
    · rw [k4 _ (by omega) (by omega), h4 _ (by omega) (by omega), e4 _ (by omega) (by omega), d4 _ (by omega) (by omega), c4 _ (by omega) (by omega), g1 i hi]
      exact h0.1 i hi
    · rw [q2 _ (Or.inl rfl)]
      exact c1
    · rw [q4 _ (Or.inl rfl)]
      exact d1
    · rw [q6 _ (Or.inl rfl)]
      exact e1
    · rw [q8 _ (Or.inl rfl)]
      exact h1
    · rw [u3 _ (by omega), u3 _ (by omega)]
      exact h0.2.2.1 k hk
    · rw [u5 _ (by omega), u5 _ (by omega)]
      exact h0.2.2.2.1 k hk
    · rw [u7 _ (by omega)]
      exact h0.2.2.2.2.1 k hk
    · rw [u9 _ (by omega), u9 _ (by omega), u9 _ (by omega)]
      exact h0.2.2.2.2.2.1 k hk
    · rw [u11 _ (by omega), u11 _ (by omega)]
      exact h0.2.2.2.2.2.2 k hk
  refine wp_bdQ (settle_ok hk hB C0) fun μ7 ⟨m1, m2⟩ => wp_some ⟨m1, fun j hj => ?_, fun o ho => ?_⟩
  · have hj' : j = 0 ∨ j = 1 ∨ j = 2 ∨ j = 3 ∨ j = 4 := by omega
    rcases hj' with rfl | rfl | rfl | rfl | rfl
    · refine ⟨?_, L 11, by rw [show a' + 2 + 2 * 0 + 1 = a' + 3 by omega]; omega, ?_⟩
      · rw [m2 _ (by omega) (by omega) (by omega) (by omega), q2 _ (Or.inl rfl)]
        show μ2 (a' + 2) 0 = _
        rw [c2, f1 _ (by omega)]
        exact w0.1
      · rw [m2 _ (by omega) (by omega) (by omega) (by omega), q2 _ (Or.inl rfl)]
        exact c1
    · refine ⟨?_, L 12, by rw [show a' + 2 + 2 * 1 + 1 = a' + 5 by omega]; omega, ?_⟩
      · rw [m2 _ (by omega) (by omega) (by omega) (by omega), q4 _ (Or.inl rfl)]
        show μ3 (a' + 4) 0 = _
        rw [d2, c4 _ (by omega) (by omega), f1 _ (by omega)]
        exact w1.1
      · rw [m2 _ (by omega) (by omega) (by omega) (by omega), q4 _ (Or.inl rfl)]
        exact d1
    · refine ⟨?_, L 13, by rw [show a' + 2 + 2 * 2 + 1 = a' + 7 by omega]; omega, ?_⟩
      · rw [m2 _ (by omega) (by omega) (by omega) (by omega), q6 _ (Or.inl rfl)]
        show μ4 (a' + 6) 0 = _
        rw [e2, d4 _ (by omega) (by omega), c4 _ (by omega) (by omega), f1 _ (by omega)]
        exact w2.1
      · rw [m2 _ (by omega) (by omega) (by omega) (by omega), q6 _ (Or.inl rfl)]
        exact e1
    · refine ⟨?_, L 14, by rw [show a' + 2 + 2 * 3 + 1 = a' + 9 by omega]; omega, ?_⟩
      · rw [m2 _ (by omega) (by omega) (by omega) (by omega), q8 _ (Or.inl rfl)]
        show μ5 (a' + 8) 0 = _
        rw [h2, e4 _ (by omega) (by omega), d4 _ (by omega) (by omega), c4 _ (by omega) (by omega), f1 _ (by omega)]
        exact w3.1
      · rw [m2 _ (by omega) (by omega) (by omega) (by omega), q8 _ (Or.inl rfl)]
        exact h1
    · refine ⟨?_, L 15, by rw [show a' + 2 + 2 * 4 + 1 = a' + 11 by omega]; omega, ?_⟩
      · rw [m2 _ (by omega) (by omega) (by omega) (by omega)]
        show μ6 (a' + 10) 0 = _
        rw [k2, h4 _ (by omega) (by omega), e4 _ (by omega) (by omega), d4 _ (by omega) (by omega), c4 _ (by omega) (by omega), f1 _ (by omega)]
        exact w4.1
      · rw [m2 _ (by omega) (by omega) (by omega) (by omega)]
        exact k1
  · rw [m2 _ (by omega) (by omega) (by omega) (by omega), k4 _ (by omega) (by omega), h4 _ (by omega) (by omega), e4 _ (by omega) (by omega), d4 _ (by omega) (by omega), c4 _ (by omega) (by omega), f1 _ (by omega)]
theorem lakeTakeA {a a' : Nat} {μ : zM} (hk : zkd a' = 1) (hd : a + 14 < a' ∨ a' + 14 < a) (h : ∃ L, LC a μ L) (hw : ∀ j, j < 5 → WFr (a' + 2 + 2 * j) μ) :
    wp (f_X1_takeFrom a' a μ) (fun μ' => (∀ L, LC a μ L → LC a' μ' L) ∧ (∀ j, j < 5 → WFr (a' + 2 + 2 * j) μ') ∧ ∀ o, o < a' ∨ a' + 14 < o → μ' o = μ o) := by
  obtain ⟨L, hL⟩ := h
  obtain ⟨r, e, h1, h2, h3⟩ := lakeTake hk hd hL hw
  refine ⟨r, e, fun L' hL' => ?_, h2, h3⟩
  obtain ⟨r', e', h1', -⟩ := lakeTake hk hd hL' hw
  rw [e] at e'
  cases e'
  exact h1'
/-- a Told lies at T -/
def TK (T : Nat) : Prop := (∀ k, k < 2 → zkd (T + 5 + 15 * k) = 1) ∧ (∀ k, k < 10 → zkd (T + 35 + 2 * k) = 6 ∧ zln (T + 36 + 2 * k) = zln (37 + 2 * k) ∧ zln (37 + 2 * k) < 1000) ∧ (∀ k, k < 2 → ∀ j, j < 5 → zkd (T + 5 + 15 * k + 2 + 2 * j) = 6) ∧ ∀ r, r < T + 55 → T ≤ r → zkd r = 6 → (∃ k, k < 2 ∧ ∃ j, j < 5 ∧ r = T + 5 + 15 * k + 2 + 2 * j) ∨ ∃ k, k < 10 ∧ r = T + 35 + 2 * k
theorem tk1 : TK 1 := by
  refine ⟨?_, ?_, ?_, ?_⟩ <;> decide +kernel
theorem tk145 : TK 145 := by
  refine ⟨?_, ?_, ?_, ?_⟩ <;> decide +kernel
theorem tk200 : TK 200 := by
  refine ⟨?_, ?_, ?_, ?_⟩ <;> decide +kernel
theorem tk255 : TK 255 := by
  refine ⟨?_, ?_, ?_, ?_⟩ <;> decide +kernel
theorem tkI {k : Nat} (hk : k < 3) : TK (145 + 55 * k) := by
  have : k = 0 ∨ k = 1 ∨ k = 2 := by omega
  rcases this with rfl | rfl | rfl
  · exact tk145
  · exact tk200
  · exact tk255
theorem TKl {T k : Nat} {r : Nat} (h : TK T) (hk : k < 2) (h1 : T + 5 + 15 * k ≤ r) (h2 : r ≤ T + 5 + 15 * k + 14) : T ≤ r ∧ r < T + 35 := by omega
/-- Told.takeFrom -/
theorem toldTake {T T' : Nat} {μ : zM} (hT : TK T) (hT' : TK T') (hd : T + 55 ≤ T' ∨ T' + 55 ≤ T) (hl : ∀ k, k < 2 → ∃ L, LC (T + 5 + 15 * k) μ L) (hw : ∀ r, (T ≤ r ∧ r < T + 55) ∨ (T' ≤ r ∧ r < T' + 55) → zkd r = 6 → WFr r μ) :
    wp (f_X8_takeFrom T' T μ) (fun μ' => (∀ o, o < T' ∨ T' + 55 ≤ o → μ' o = μ o) ∧ (μ' T' 1 = μ T 1 ∧ μ' T' 2 = μ T 2 ∧ μ' T' 3 = μ T 3) ∧ (∀ i, i < 600 → μ' (T' + 1) i = μ (T + 1) i) ∧ (∀ s, s < 5 → μ' (T' + 2) s = μ (T + 2) s) ∧ (∀ k, k < 2 → ∀ L, LC (T + 5 + 15 * k) μ L → LC (T' + 5 + 15 * k) μ' L) ∧ (∀ k, k < 10 → RowEq (T + 35 + 2 * k) (T' + 35 + 2 * k) μ μ') ∧ ∀ r, T' ≤ r ∧ r < T' + 55 → zkd r = 6 → WFr r μ') := by
  unfold f_X8_takeFrom
  refine wp_g (cpg11 (n := 600) (by omega)) (wp_ls ?_)
  rw [show (600 : Int32) = nI 600 from rfl]
  generalize hm1 : zcp μ (T + 1) (T' + 1) 0 0 (nI 600) = μ1
  have a1 : ∀ o, o ≠ T' + 1 → μ1 o = μ o := fun o ho => by rw [← hm1]; exact zcp_ne ho
  have a2 : ∀ i, i < 600 → μ1 (T' + 1) i = μ (T + 1) i := fun i hi => by rw [← hm1]; exact zcp_in (by omega) hi
  refine wp_ls (wp_ls (wp_ls (wp_g (cpg11 (n := 5) (by omega)) (wp_ls ?_))))
  rw [show (5 : Int32) = nI 5 from rfl]
  rw [zup_ne (μ := μ1) (show ¬ (T = T' ∧ 2 = 1) by omega), zup_ne (show ¬ (T = T' ∧ 3 = 2) by omega), zup_ne (show ¬ (T = T' ∧ 3 = 1) by omega), a1 T (by omega)]
  generalize hm2 : zup (zup (zup μ1 T' 1 (μ T 1)) T' 2 (μ T 2)) T' 3 (μ T 3) = μ2
  have b1 : ∀ o, o ≠ T' → μ2 o = μ1 o := fun o ho => by rw [← hm2, zup_rne _ _ _ ho, zup_rne _ _ _ ho, zup_rne _ _ _ ho]
  have b2 : μ2 T' 1 = μ T 1 ∧ μ2 T' 2 = μ T 2 ∧ μ2 T' 3 = μ T 3 := by
    rw [← hm2]
    refine ⟨?_, ?_, zup_self _ _ _ _⟩
    · rw [zup_ne (by omega), zup_ne (by omega), zup_self]
    · rw [zup_ne (by omega), zup_self]
  generalize hm3 : zcp μ2 (T + 2) (T' + 2) 0 0 (nI 5) = μ3
  have c1 : ∀ o, o ≠ T' + 2 → μ3 o = μ2 o := fun o ho => by rw [← hm3]; exact zcp_ne ho
  have c2 : ∀ s, s < 5 → μ3 (T' + 2) s = μ (T + 2) s := fun s hs => by
    rw [← hm3, zcp_in (by omega) hs, b1 _ (by omega), a1 _ (by omega)]
  have g3 : ∀ o, o ≠ T' → o ≠ T' + 1 → o ≠ T' + 2 → μ3 o = μ o := fun o o1 o2 o3 => by rw [c1 o o3, b1 o o1, a1 o o2]
  refine wp_bdQ (Q := fun μ4 => (∀ o, (o < T' + 5 ∨ T' + 35 ≤ o) → μ4 o = μ3 o) ∧ (∀ k, k < 2 → ∀ L, LC (T + 5 + 15 * k) μ L → LC (T' + 5 + 15 * k) μ4 L) ∧ ∀ r, T' ≤ r ∧ r < T' + 55 → zkd r = 6 → WFr r μ4) ?_ ?_
  · have wf3 : ∀ r, T' ≤ r ∧ r < T' + 55 → zkd r = 6 → WFr r μ3 := fun r hr h6 => by
      have : T' + 5 ≤ r := by
        rcases hT'.2.2.2 r hr.2 hr.1 h6 with ⟨k, hk, j, hj, e⟩ | ⟨k, hk, e⟩ <;> omega
      exact (hw r (Or.inr hr) h6).congr (g3 r (by omega) (by omega) (by omega))
    refine wlp0 (fun n k μ' => f_X8_takeFrom_L56 T' T n (nI k) μ') _ 2 (fun k μ4 => (∀ o, (o < T' + 5 ∨ T' + 35 ≤ o) → μ4 o = μ3 o) ∧ (∀ i, i < k → ∀ L, LC (T + 5 + 15 * i) μ L → LC (T' + 5 + 15 * i) μ4 L) ∧ ∀ r, T' ≤ r ∧ r < T' + 55 → zkd r = 6 → WFr r μ4) (by omega) μ3 ⟨fun _ _ => rfl, fun i hi => by omega, wf3⟩ ?_ ?_
    · intro n k μ4 hk ⟨d1, d2, d3⟩ ih
      show wp (f_X8_takeFrom_L56 T' T (n + 1) (nI k) μ4) _
      rw [f_X8_takeFrom_L56]
      refine wp_ie (nI_ge (b := 2) hk (by omega)) (wp_g (zin_nI hk (by omega)) ?_)
      rw [nI_clamp (by omega)]
      obtain ⟨L, hL⟩ := hl k hk
      have hL4 : LC (T + 5 + 15 * k) μ4 L := hL.congr (fun o o1 o2 => by rw [d1 o (by omega), g3 o (by omega) (by omega) (by omega)])
      refine wp_bdQ (lakeTakeA (hT'.1 k hk) (by omega) ⟨L, hL4⟩ (fun j hj => d3 _ (by omega) (hT'.2.2.1 k hk j hj))) fun μ5 ⟨e1, e2, e3⟩ => wp_ls ?_
      rw [nI_1]
      refine ih _ ⟨fun o ho => by rw [e3 o (by omega), d1 o ho], fun i hi L' hL' => ?_, fun r hr h6 => ?_⟩
      · by_cases hik : i = k
        · subst hik
          have hL4' : LC (T + 5 + 15 * i) μ4 L' := hL'.congr (fun o o1 o2 => by rw [d1 o (by omega), g3 o (by omega) (by omega) (by omega)])
          exact e1 L' hL4'
        · exact (d2 i (by omega) L' hL').congr (fun o o1 o2 => e3 o (by omega))
      · by_cases hin : T' + 5 + 15 * k ≤ r ∧ r ≤ T' + 5 + 15 * k + 14
        · rcases hT'.2.2.2 r hr.2 hr.1 h6 with ⟨k', hk', j, hj, e⟩ | ⟨k', hk', e⟩
          · have : k' = k := by omega
            subst this
            rw [e]
            exact e2 j hj
          · omega
        · exact (d3 r hr h6).congr (e3 r (by omega))
    · intro n μ4 hI
      show wp (f_X8_takeFrom_L56 T' T (n + 1) (nI 2) μ4) _
      rw [f_X8_takeFrom_L56]
      exact wp_it (nI_le (a := 2) (Nat.le_refl _) (by omega)) (wp_some hI)
  · intro μ4 ⟨d1, d2, d3⟩
    refine wp_bdQ (Q := fun μ5 => (∀ o, (o < T' + 35 ∨ T' + 55 ≤ o) → μ5 o = μ4 o) ∧ (∀ k, k < 10 → RowEq (T + 35 + 2 * k) (T' + 35 + 2 * k) μ μ5) ∧ ∀ r, T' ≤ r ∧ r < T' + 55 → zkd r = 6 → WFr r μ5) ?_ ?_
    · refine wlp0 (fun n k μ' => f_X8_takeFrom_L84 T' T n (nI k) μ') _ 10 (fun k μ5 => (∀ o, (o < T' + 35 ∨ T' + 55 ≤ o) → μ5 o = μ4 o) ∧ (∀ i, i < k → RowEq (T + 35 + 2 * i) (T' + 35 + 2 * i) μ μ5) ∧ ∀ r, T' ≤ r ∧ r < T' + 55 → zkd r = 6 → WFr r μ5) (by omega) μ4 ⟨fun _ _ => rfl, fun i hi => by omega, d3⟩ ?_ ?_
      · intro n k μ5 hk ⟨e1, e2, e3⟩ ih
        show wp (f_X8_takeFrom_L84 T' T (n + 1) (nI k) μ5) _
        rw [f_X8_takeFrom_L84]
        refine wp_ie (nI_ge (b := 10) hk (by omega)) (wp_g (zin_nI hk (by omega)) ?_)
        rw [nI_clamp (by omega)]
        obtain ⟨t1, t2, t3⟩ := hT.2.1 k hk
        obtain ⟨t1', t2', -⟩ := hT'.2.1 k hk
        rw [show T + 36 + 2 * k = T + 35 + 2 * k + 1 by omega] at t2
        rw [show T' + 36 + 2 * k = T' + 35 + 2 * k + 1 by omega] at t2'
        obtain ⟨-, m, m1, m2⟩ := hw (T + 35 + 2 * k) (Or.inl ⟨by omega, by omega⟩) t1
        have src : ∀ o, T ≤ o → o < T + 55 → μ5 o = μ o := fun o o1 o2 => by rw [e1 o (by omega), d1 o (by omega), g3 o (by omega) (by omega) (by omega)]
        refine wp_bdQ (rowTake (w := T + 35 + 2 * k) (w' := T' + 35 + 2 * k) (n := m) (by omega) (by omega) (by omega) (e3 _ (by omega) t1').1 m1 (by rw [src _ (by omega) (by omega)]; exact m2)) fun μ6 ⟨h1, h2, h3, h4⟩ => wp_ls ?_
        rw [nI_1]
        refine ih _ ⟨fun o ho => by rw [h4 o (by omega) (by omega), e1 o ho], fun i hi => ?_, fun r hr h6 => ?_⟩
        · by_cases hik : i = k
          · subst hik
            intro q hq1 hq2
            have : m = q := by
              rw [m2] at hq2
              exact (nI_eq (by omega) (by omega)).mp hq2
            subst this
            exact ⟨h1, fun i hi => by rw [h3 i hi, src _ (by omega) (by omega)]⟩
          · intro q hq1 hq2
            rw [h4 _ (by omega) (by omega), h4 _ (by omega) (by omega)]
            exact e2 i (by omega) q hq1 hq2
        · by_cases hr2 : r = T' + 35 + 2 * k
          · subst hr2
            exact ⟨by rw [h2]; exact (e3 _ hr h6).1, m, by omega, h1⟩
          · have hr3 : r ≠ T' + 35 + 2 * k + 1 := fun w => by
              rcases hT'.2.2.2 r hr.2 hr.1 h6 with ⟨k', hk', j, hj, e⟩ | ⟨k', hk', e⟩ <;> omega
            exact (e3 r hr h6).congr (h4 r hr2 hr3)
      · intro n μ5 hI
        show wp (f_X8_takeFrom_L84 T' T (n + 1) (nI 10) μ5) _
        rw [f_X8_takeFrom_L84]
        exact wp_it (nI_le (a := 10) (Nat.le_refl _) (by omega)) (wp_some hI)
    · intro μ5 ⟨e1, e2, e3⟩
      refine wp_some ⟨fun o ho => by rw [e1 o (by omega), d1 o (by omega), g3 o (by omega) (by omega) (by omega)], ?_, fun i hi => ?_, fun s hs => ?_, fun k hk L hL => ?_, e2, e3⟩
      · rw [e1 T' (by omega), d1 T' (by omega), c1 T' (by omega)]
        exact b2
      · rw [e1 _ (by omega), d1 _ (by omega), c1 _ (by omega), b1 _ (by omega)]
        exact a2 i hi
      · rw [e1 _ (by omega), d1 _ (by omega)]
        exact c2 s hs
      · exact (d2 k hk L hL).congr (fun o o1 o2 => e1 o (by omega))
theorem toldRng : ∀ r, r < 310 → zkd r = 6 → (1 ≤ r ∧ r < 56) ∨ (58 ≤ r ∧ r < 87) ∨ (145 ≤ r ∧ r < 310) := by decide +kernel
theorem imageLoopM {k : Nat} {μ : zM} (hk : k < 3) : wp (f_X12_image_L20 310 (nI k) zFU 0 μ) (fun μ' => (∀ o, o ≠ 311 → μ' o = μ o) ∧ ∀ i, μ' 311 i = if 1172 * (k + 1) ≤ i ∧ i < 1172 * (k + 1) + 1172 then μ 311 (i - 1172 * (k + 1)) else μ 311 i) := by
  refine wlp0 (fun n j μ' => f_X12_image_L20 310 (nI k) n (nI j) μ') _ 1172 (fun j μ' => (∀ o, o ≠ 311 → μ' o = μ o) ∧ ∀ i, μ' 311 i = if 1172 * (k + 1) ≤ i ∧ i < 1172 * (k + 1) + j then μ 311 (i - 1172 * (k + 1)) else μ 311 i) (by omega) μ ⟨fun _ _ => rfl, fun i => by rw [if_neg (by omega)]⟩ ?_ ?_
  · intro n j μ1 hj ⟨f1, f2⟩ ih
    show wp (f_X12_image_L20 310 (nI k) (n + 1) (nI j) μ1) _
    rw [f_X12_image_L20]
    have e : (1172 : Int32) * (nI k + 1) + nI j = nI (1172 * (k + 1) + j) := by
      rw [nI_1]
      show nI 1172 * nI (k + 1) + nI j = _
      rw [pk_mul, nI_add]
    rw [e]
    refine wp_ie (nI_ge (b := 1172) hj (by omega)) (wp_g (zin_nI (by omega) (by omega)) (wp_g (zin_nI (by omega) (by omega)) (wp_ls (wp_ls ?_))))
    rw [nI_1, nI_clamp (by omega), nI_clamp (by omega)]
    refine ih _ ⟨fun o ho => by rw [zup_rne _ _ _ ho]; exact f1 o ho, fun i => ?_⟩
    have e3 : μ1 (310 + 1) j = μ 311 j := (f2 j).trans (if_neg (by omega))
    rw [e3]
    show zup μ1 311 (1172 * (k + 1) + j) (μ 311 j) 311 i = _
    by_cases hi : i = 1172 * (k + 1) + j
    · subst hi
      rw [zup_self, if_pos (by omega), show 1172 * (k + 1) + j - 1172 * (k + 1) = j by omega]
    · rw [zup_ne (by omega), f2 i]
      by_cases h2 : 1172 * (k + 1) ≤ i ∧ i < 1172 * (k + 1) + j
      · rw [if_pos h2, if_pos (by omega)]
      · rw [if_neg h2, if_neg (by omega)]
  · intro n μ1 hI
    show wp (f_X12_image_L20 310 (nI k) (n + 1) (nI 1172) μ1) _
    rw [f_X12_image_L20]
    exact wp_it (nI_le (a := 1172) (Nat.le_refl _) (by omega)) (wp_some hI)
theorem againLoopM {k : Nat} {μ : zM} (hk : k < 3) : wp (f_X12_again_L22 310 (nI k) zFU 0 μ) (fun μ' => (∀ o, o ≠ 311 → μ' o = μ o) ∧ ∀ i, μ' 311 i = if i < 1172 then μ 311 (1172 * (k + 1) + i) else μ 311 i) := by
  refine wlp0 (fun n j μ' => f_X12_again_L22 310 (nI k) n (nI j) μ') _ 1172 (fun j μ' => (∀ o, o ≠ 311 → μ' o = μ o) ∧ ∀ i, μ' 311 i = if i < j then μ 311 (1172 * (k + 1) + i) else μ 311 i) (by omega) μ ⟨fun _ _ => rfl, fun i => by rw [if_neg (by omega)]⟩ ?_ ?_
  · intro n j μ1 hj ⟨f1, f2⟩ ih
    show wp (f_X12_again_L22 310 (nI k) (n + 1) (nI j) μ1) _
    rw [f_X12_again_L22]
    have e : (1172 : Int32) * (nI k + 1) + nI j = nI (1172 * (k + 1) + j) := by
      rw [nI_1]
      show nI 1172 * nI (k + 1) + nI j = _
      rw [pk_mul, nI_add]
    rw [e]
    refine wp_ie (nI_ge (b := 1172) hj (by omega)) (wp_g (zin_nI (by omega) (by omega)) (wp_g (zin_nI (by omega) (by omega)) (wp_ls (wp_ls ?_))))
    rw [nI_1, nI_clamp (by omega), nI_clamp (by omega)]
    refine ih _ ⟨fun o ho => by rw [zup_rne _ _ _ ho]; exact f1 o ho, fun i => ?_⟩
    have e3 : μ1 (310 + 1) (1172 * (k + 1) + j) = μ 311 (1172 * (k + 1) + j) := (f2 _).trans (if_neg (by omega))
    rw [e3]
    show zup μ1 311 j (μ 311 (1172 * (k + 1) + j)) 311 i = _
    by_cases hi : i = j
    · subst hi
      rw [zup_self, if_pos (by omega)]
    · rw [zup_ne (by omega), f2 i]
      by_cases h2 : i < j
      · rw [if_pos h2, if_pos (by omega)]
      · rw [if_neg h2, if_neg (by omega)]
  · intro n μ1 hI
    show wp (f_X12_again_L22 310 (nI k) (n + 1) (nI 1172) μ1) _
    rw [f_X12_again_L22]
    exact wp_it (nI_le (a := 1172) (Nat.le_refl _) (by omega)) (wp_some hI)
/-- moved whole -/
theorem PR.move {T Q T' Q' : Nat} {μ μ' : zM} (h : PR T Q μ) (h1 : μ' T' 1 = μ T 1 ∧ μ' T' 2 = μ T 2 ∧ μ' T' 3 = μ T 3) (h2 : ∀ i, i < 600 → μ' (T' + 1) i = μ (T + 1) i) (hc : ∀ s, s < 5 → μ' (T' + 2) s = μ (T + 2) s) (hp : ∀ k, k < 10 → RowEq (T + 35 + 2 * k) (T' + 35 + 2 * k) μ μ') (hl : ∀ k, k < 2 → ∀ L, LC (T + 5 + 15 * k) μ L → LC (T' + 5 + 15 * k) μ' L) (e : ∀ i, i < 1172 → μ' 311 (Q' + i) = μ 311 (Q + i)) : PR T' Q' μ' := by
  obtain ⟨⟨⟨n, n1, n2, n3⟩, ⟨f1, f2⟩, t⟩, hb⟩ := PR.iff.mp h
  refine PR.iff.mpr ⟨⟨⟨n, n1, h1.1.trans n2, (e 5 (by omega)).trans n3⟩, ⟨?_, ?_⟩, fun i hi => ?_⟩, hb.move hc hp hl (fun i hi => e i (by omega))⟩
  · rw [e 6 (by omega), h1.2.1]
    exact f1
  · rw [e 7 (by omega), h1.2.2]
    exact f2
  · have := e (10 + i) (by omega)
    rw [← Nat.add_assoc, ← Nat.add_assoc] at this
    rw [this, h2 i hi]
    exact t i hi
theorem img_iff {v : Int32} : (¬ v < 0 ∧ v < 3) ↔ ∃ k : Nat, k < 3 ∧ v = nI k := by
  constructor
  · rintro ⟨h1, h2⟩
    obtain ⟨j, j1, rfl⟩ := nI_of h1
    exact ⟨j, (nI_ltI (b := 3) j1 (by omega)).mp h2, rfl⟩
  · rintro ⟨k, hk, rfl⟩
    exact ⟨nI_pos (by omega), nI_lt (b := 3) hk (by omega)⟩
theorem img_in {v : Int32} : (¬ f_X12_isIn v 0 2 = 0) ↔ ∃ k : Nat, k < 3 ∧ v = nI k := by
  rw [show (¬ f_X12_isIn v 0 2 = 0) = (¬ v < 0 ∧ v ≤ nI 2) from in0_iff (m := 2) (by omega)]
  constructor
  · rintro ⟨h1, h2⟩
    obtain ⟨j, j1, rfl⟩ := nI_of h1
    have := (nI_leI (b := 2) j1 (by omega)).mp h2
    exact ⟨j, by omega, rfl⟩
  · rintro ⟨k, hk, rfl⟩
    exact ⟨nI_pos (by omega), nI_le (b := 2) (by omega) (by omega)⟩
theorem image_same (v : Int32) : Same (f_X11_image 0 v) (f_X12_image 310 v) := by
  refine Same.inv fun μ hI => ?_
  obtain ⟨hW, hP, hM⟩ := hI
  unfold f_X11_image
  by_cases hv : ¬ v < 0 ∧ v < 3
  · obtain ⟨k, hk, rfl⟩ := img_iff.mp hv
    refine wp_it hv (wp_g (zin_nI hk (by omega)) ?_)
    rw [nI_clamp (by omega), show 0 + 145 + 55 * k = 145 + 55 * k by omega]
    have hwf : ∀ r, r < 310 → zkd r = 6 → WFr r μ := hW
    refine wp_bdQ (toldTake tk1 (tkI hk) (by omega) (PR.iff.mp hP).2.2 (fun r hr h6 => hwf r (by omega) h6)) fun μ1 ⟨a1, a2, a3, a4, a5, a6, a7⟩ => wp_ls (wp_some ?_)
    show wp (f_X12_image 310 (nI k) (zup μ1 57 k (znb 1))) _
    rw [show znb 1 = (1 : Int32) by decide]
    generalize hm : zup μ1 57 k 1 = μ2
    have b1 : ∀ o, o ≠ 57 → μ2 o = μ1 o := fun o ho => by rw [← hm]; exact zup_rne _ _ _ ho
    unfold f_X12_image
    refine wp_it (img_in.mpr ⟨k, hk, rfl⟩) (wp_g (zin_nI hk (by omega)) (wp_ls ?_))
    rw [nI_clamp (by omega), show znb 1 = (1 : Int32) by decide]
    generalize hm3 : zup μ2 (310 + 2) k 1 = μ3
    have c1 : ∀ o, o ≠ 312 → μ3 o = μ2 o := fun o ho => by rw [← hm3]; exact zup_rne _ _ _ ho
    refine wp_bdQ (imageLoopM hk) fun μ4 ⟨d1, d2⟩ => wp_some ⟨rfl, ?_⟩
    have g : ∀ o, o ≠ 57 → o ≠ 312 → o ≠ 311 → μ4 o = μ1 o := fun o o1 o2 o3 => by rw [d1 o o3, c1 o o2, b1 o o1]
    have g311 : ∀ i, μ3 311 i = μ 311 i := fun i => by rw [c1 311 (by omega), b1 311 (by omega), a1 311 (by omega)]
    have low : ∀ i, i < 1172 → μ4 311 (0 + i) = μ 311 (0 + i) := fun i hi => by rw [d2, if_neg (by omega), g311]
    show Inv μ4
    refine ⟨fun r r1 r2 => ?_, hP.keep (fun o o1 o2 => by rw [g o (by omega) (by omega) (by omega), a1 o (by omega)]) low, fun j hj => ?_⟩
    · have rr := toldRng r r1 r2
      by_cases hr : 145 + 55 * k ≤ r ∧ r < 145 + 55 * k + 55
      · exact (a7 r hr r2).congr (g r (by omega) (by omega) (by omega))
      · exact (hwf r r1 r2).congr (by rw [g r (by omega) (by omega) (by omega), a1 r (by omega)])
    · have e57 : μ4 57 = μ2 57 := by rw [d1 57 (by omega), c1 57 (by omega)]
      have e312 : μ4 312 = μ3 312 := d1 312 (by omega)
      rw [e57, e312]
      by_cases hjk : j = k
      · subst hjk
        have x1 : μ2 57 j = 1 := by rw [← hm, zup_self]
        have x2 : μ3 312 j = 1 := by rw [← hm3]; exact zup_self _ _ _ _
        rw [x1, x2]
        refine ⟨rfl, Or.inr ⟨rfl, ?_⟩⟩
        have hT : ∀ o, 145 + 55 * j ≤ o → o < 145 + 55 * j + 55 → μ4 o = μ1 o := fun o o1 o2 => g o (by omega) (by omega) (by omega)
        refine hP.move (T' := 145 + 55 * j) (Q' := 1172 * (j + 1)) ?_ (fun i hi => ?_) (fun s hs => ?_) (fun k hk => ?_) (fun k hk L hL => ?_) (fun i hi => ?_)
        · rw [hT _ (by omega) (by omega)]
          exact a2
        · rw [hT _ (by omega) (by omega)]
          exact a3 i hi
        · rw [hT _ (by omega) (by omega)]
          exact a4 s hs
        · intro q hq1 hq2
          rw [hT _ (by omega) (by omega), hT _ (by omega) (by omega)]
          exact a6 k hk q hq1 hq2
        · exact (a5 k hk L hL).congr (fun o o1 o2 => hT o (by omega) (by omega))
        · rw [d2, if_pos (by omega), g311, show 1172 * (j + 1) + i - 1172 * (j + 1) = i by omega, Nat.zero_add]
      · obtain ⟨y1, y2⟩ := hM j hj
        have x1 : μ2 57 j = μ 57 j := by rw [← hm, zup_ne (by omega), a1 57 (by omega)]
        have x2 : μ3 312 j = μ 312 j := by rw [← hm3, zup_ne (by omega), b1 312 (by omega), a1 312 (by omega)]
        rw [x1, x2]
        refine ⟨y1, y2.imp id fun z => ⟨z.1, z.2.keep (fun o o1 o2 => by rw [g o (by omega) (by omega) (by omega), a1 o (by omega)]) (fun i hi => ?_)⟩⟩
        rw [d2, if_neg (by omega), g311]
  · refine wp_ie hv (wp_some ?_)
    unfold f_X12_image
    exact wp_ie (fun w => hv (img_iff.mpr (img_in.mp w))) (wp_some ⟨rfl, hW, hP, hM⟩)
theorem again_same (v : Int32) : Same (f_X11_again 0 v) (f_X12_again 310 v) := by
  refine Same.inv fun μ hI => ?_
  have hI0 := hI
  obtain ⟨hW, hP, hM⟩ := hI
  unfold f_X11_again
  by_cases hv : ∃ k : Nat, k < 3 ∧ v = nI k
  · obtain ⟨k, hk, rfl⟩ := hv
    obtain ⟨y1, y2⟩ := hM k hk
    refine wp_bd (wp_ie (nI_pos (by omega)) (wp_ie (nI_ge (b := 3) hk (by omega)) (wp_g (zin_nI hk (by omega)) ?_)))
    rw [nI_clamp (by omega), show μ (0 + 57) k = μ 57 k from rfl, show 0 + 145 + 55 * k = 145 + 55 * k by omega]
    by_cases hz : μ 57 k = 0
    · refine wp_ie (fun w => w hz) (wp_some (wp_ie (by decide) (wp_some ?_)))
      unfold f_X12_again
      refine wp_bd (wp_ie (img_in.mpr ⟨k, hk, rfl⟩) (wp_g (zin_nI hk (by omega)) ?_))
      rw [nI_clamp (by omega)]
      exact wp_ie (fun w => w (y1.symm.trans hz)) (wp_some (wp_ie (by decide) (wp_some ⟨rfl, hI0⟩)))
    · obtain ⟨z1, z2⟩ := y2.resolve_left hz
      have hwf : ∀ r, r < 310 → zkd r = 6 → WFr r μ := hW
      refine wp_it hz (wp_some (wp_it rfl (wp_g (zin_nI hk (by omega)) ?_)))
      refine wp_bdQ (toldTake (tkI hk) tk1 (by omega) (PR.iff.mp z2).2.2 (fun r hr h6 => hwf r (by omega) h6)) fun μ1 ⟨a1, a2, a3, a4, a5, a6, a7⟩ => wp_some ?_
      show wp (f_X12_again 310 (nI k) μ1) _
      unfold f_X12_again
      refine wp_bd (wp_ie (img_in.mpr ⟨k, hk, rfl⟩) (wp_g (zin_nI hk (by omega)) ?_))
      rw [nI_clamp (by omega)]
      have e312 : μ1 (310 + 2) k = 1 := by
        show μ1 312 k = 1
        rw [a1 312 (by omega), ← y1, z1]
      rw [e312]
      refine wp_it (by decide) (wp_some (wp_it rfl (wp_bdQ (againLoopM hk) fun μ2 ⟨d1, d2⟩ => wp_some ⟨rfl, ?_⟩)))
      have g311 : ∀ i, μ1 311 i = μ 311 i := fun i => by rw [a1 311 (by omega)]
      show Inv μ2
      refine ⟨fun r r1 r2 => ?_, ?_, fun j hj => ?_⟩
      · have rr := toldRng r r1 r2
        by_cases hr : 1 ≤ r ∧ r < 56
        · exact (a7 r (by omega) r2).congr (d1 r (by omega))
        · exact (hwf r r1 r2).congr (by rw [d1 r (by omega), a1 r (by omega)])
      · refine z2.move (T' := 1) (Q' := 0) ?_ (fun i hi => ?_) (fun s hs => ?_) (fun k' hk' => ?_) (fun k' hk' L hL => ?_) (fun i hi => ?_)
        · rw [d1 1 (by omega)]
          exact a2
        · rw [d1 _ (by omega)]
          exact a3 i hi
        · rw [d1 _ (by omega)]
          exact a4 s hs
        · intro q hq1 hq2
          rw [d1 _ (by omega), d1 _ (by omega)]
          exact a6 k' hk' q hq1 hq2
        · exact (a5 k' hk' L hL).congr (fun o o1 o2 => d1 o (by omega))
        · rw [Nat.zero_add, d2, if_pos hi, g311]
      · obtain ⟨y1, y2⟩ := hM j hj
        rw [d1 57 (by omega), d1 312 (by omega), a1 57 (by omega), a1 312 (by omega)]
        refine ⟨y1, y2.imp id fun z => ⟨z.1, z.2.keep (fun o o1 o2 => by rw [d1 o (by omega), a1 o (by omega)]) (fun i hi => ?_)⟩⟩
        rw [d2, if_neg (by omega), g311]
  · have fin : wp (f_X12_again 310 v μ) (fun p2 => p2.1 = 0 ∧ Inv p2.2) := by
      unfold f_X12_again
      exact wp_bd (wp_it (Decidable.not_not.mp fun w => hv (img_in.mp w)) (wp_some (wp_ie (by decide) (wp_some ⟨rfl, hI0⟩))))
    refine wp_bd (wp_if (fun _ => wp_some (wp_ie (by decide) (wp_some fin))) (fun c0 => wp_if (fun _ => wp_some (wp_ie (by decide) (wp_some fin))) (fun c1 => ?_)))
    exact absurd (img_iff.mp ⟨c0, Int32.not_le.mp c1⟩) hv
