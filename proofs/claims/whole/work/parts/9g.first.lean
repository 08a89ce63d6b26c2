/-! the first memory: what the constructors leave lasts -/
section FIRST
variable {a : Nat} {μ : zM}
theorem i6_ok {v : Int32} {m : Nat} (hv : v = nI m) (hm : m < 1000) : i_X6 a v μ a 0 = nI m ∧ i_X6 a v μ a 2 = 0 ∧ ∀ o, o ≠ a → o ≠ a + 1 → i_X6 a v μ o = μ o := by
  subst hv
  unfold i_X6
  refine ⟨?_, ?_, fun o h1 h2 => ?_⟩
  · rw [zupr_ne _ _ (by omega), zup_self]
    have := zmax_nI (a := 0) (b := m) (by omega) (by omega)
    have e : (if 0 < m then m else 0) = m := by split <;> omega
    rw [e] at this
    exact this
  · rw [zupr_ne _ _ (by omega), zup_ne (by omega)]
    unfold znew
    rw [zupr_self]
    exact if_neg (by decide +kernel)
  · rw [zupr_ne _ _ h2, zup_rne _ _ _ h1]
    unfold znew
    exact zupr_ne _ _ h1
theorem i6_row {v : Int32} {m : Nat} (hv : v = nI m) (hm : m < 1000) (hz : zln (a + 1) / 3 = m) : WFr a (i_X6 a v μ) := by
  obtain ⟨h1, h2, -⟩ := i6_ok (a := a) (μ := μ) hv hm
  exact ⟨by rw [h1, hz], 0, Nat.zero_le _, h2⟩
theorem forgetA : wp (f_X1_forget a μ) (fun μ' => (∀ i, i < 11 → μ' (a + 1) i = zATF.getD i 0) ∧ (∀ k, k < 5 → μ' (a + 2 + 2 * k) 2 = 0 ∧ μ' (a + 2 + 2 * k) 0 = μ (a + 2 + 2 * k) 0) ∧ ∀ o, o ≠ a + 1 → (∀ k, k < 5 → o ≠ a + 2 + 2 * k) → μ' o = μ o) := by
  unfold f_X1_forget
  refine wp_g (cpg11 (n := 11) (by omega)) (wp_ls ?_)
  generalize hm : zcpF μ (a + 1) 0 0 11 = μ1
  have g1 : ∀ i, i < 11 → μ1 (a + 1) i = zATF.getD i 0 := by
    intro i hi
    rw [← hm]
    unfold zcpF
    rw [zupr_self]
    rw [pk_cpy_in (by show 0 ≤ i; omega) (by show i < 0 + 11; omega)]
    show zATF.getD (0 + (i - 0)) 0 = _
    rw [Nat.zero_add, Nat.sub_zero]
  have g2 : ∀ o, o ≠ a + 1 → μ1 o = μ o := by
    intro o ho
    rw [← hm]
    exact zupr_ne _ _ ho
  refine wp_u fun μ2 u2 => wp_u fun μ3 u3 => wp_u fun μ4 u4 => wp_u fun μ5 u5 => wp_u fun μ6 u6 => wp_some ?_
  refine ⟨fun i hi => ?_, fun k hk => ?_, fun o o1 o2 => ?_⟩
  · rw [u6.2.1 _ (by omega), u5.2.1 _ (by omega), u4.2.1 _ (by omega), u3.2.1 _ (by omega), u2.2.1 _ (by omega)]
    exact g1 i hi
  · have : k = 0 ∨ k = 1 ∨ k = 2 ∨ k = 3 ∨ k = 4 := by omega
    rcases this with rfl | rfl | rfl | rfl | rfl
    · rw [show a + 2 + 2 * 0 = a + 2 by omega, u6.2.1 _ (by omega), u5.2.1 _ (by omega), u4.2.1 _ (by omega), u3.2.1 _ (by omega)]
      exact ⟨u2.1, by rw [u2.2.2 0 (by omega), g2 _ (by omega)]⟩
    · rw [show a + 2 + 2 * 1 = a + 4 by omega, u6.2.1 _ (by omega), u5.2.1 _ (by omega), u4.2.1 _ (by omega)]
      exact ⟨u3.1, by rw [u3.2.2 0 (by omega), u2.2.1 _ (by omega), g2 _ (by omega)]⟩
    · rw [show a + 2 + 2 * 2 = a + 6 by omega, u6.2.1 _ (by omega), u5.2.1 _ (by omega)]
      exact ⟨u4.1, by rw [u4.2.2 0 (by omega), u3.2.1 _ (by omega), u2.2.1 _ (by omega), g2 _ (by omega)]⟩
    · rw [show a + 2 + 2 * 3 = a + 8 by omega, u6.2.1 _ (by omega)]
      exact ⟨u5.1, by rw [u5.2.2 0 (by omega), u4.2.1 _ (by omega), u3.2.1 _ (by omega), u2.2.1 _ (by omega), g2 _ (by omega)]⟩
    · rw [show a + 2 + 2 * 4 = a + 10 by omega]
      exact ⟨u6.1, by rw [u6.2.2 0 (by omega), u5.2.1 _ (by omega), u4.2.1 _ (by omega), u3.2.1 _ (by omega), u2.2.1 _ (by omega), g2 _ (by omega)]⟩
  · have q0 := o2 0 (by omega)
    have q1 := o2 1 (by omega)
    have q2 := o2 2 (by omega)
    have q3 := o2 3 (by omega)
    have q4 := o2 4 (by omega)
    rw [u6.2.1 o (by omega), u5.2.1 o (by omega), u4.2.1 o (by omega), u3.2.1 o (by omega), u2.2.1 o (by omega), g2 o o1]
theorem lakeNew (hk : zkd a = 1) : wp (f_X1_init a μ) (fun μ' => (∃ L, LC a μ' L) ∧ (∀ j, j < 5 → WFr (a + 2 + 2 * j) μ') ∧ ∀ o, o < a ∨ a + 14 < o → μ' o = μ o) := by
  obtain ⟨z3, z5, z7, z9, z11⟩ := zlkn hk
  unfold f_X1_init
  generalize h0 : zupr μ (a + 1) (fun _ => 0) = ν0
  have f0 : ∀ o, o ≠ a + 1 → ν0 o = μ o := fun o ho => by rw [← h0]; exact zupr_ne _ _ ho
  obtain ⟨p1, -, q1⟩ := i6_ok (a := a + 2) (μ := ν0) (v := 20) (m := 20) rfl (by omega)
  generalize i_X6 (a + 2) 20 ν0 = ν1 at p1 q1 ⊢
  obtain ⟨p2, -, q2⟩ := i6_ok (a := a + 4) (μ := ν1) (v := 12) (m := 12) rfl (by omega)
  generalize i_X6 (a + 4) 12 ν1 = ν2 at p2 q2 ⊢
  obtain ⟨p3, -, q3⟩ := i6_ok (a := a + 6) (μ := ν2) (v := 6) (m := 6) rfl (by omega)
  generalize i_X6 (a + 6) 6 ν2 = ν3 at p3 q3 ⊢
  obtain ⟨p4, -, q4⟩ := i6_ok (a := a + 8) (μ := ν3) (v := 5) (m := 5) rfl (by omega)
  generalize i_X6 (a + 8) 5 ν3 = ν4 at p4 q4 ⊢
  obtain ⟨p5, -, q5⟩ := i6_ok (a := a + 10) (μ := ν4) (v := 4) (m := 4) rfl (by omega)
  generalize i_X6 (a + 10) 4 ν4 = ν5 at p5 q5 ⊢
  generalize h8 : zupr (zupr (zupr ν5 (a + 12) (fun _ => 0)) (a + 13) (fun _ => 0)) (a + 14) (fun _ => 0) = ν8
  have f8 : ∀ o, o ≠ a + 12 → o ≠ a + 13 → o ≠ a + 14 → ν8 o = ν5 o := fun o o1 o2 o3 => by rw [← h8, zupr_ne _ _ o3, zupr_ne _ _ o2, zupr_ne _ _ o1]
  have r : ∀ j, j < 5 → ν8 (a + 2 + 2 * j) 0 = nI (zln (a + 2 + 2 * j + 1) / 3) := by
    intro j hj
    have : j = 0 ∨ j = 1 ∨ j = 2 ∨ j = 3 ∨ j = 4 := by omega
    rcases this with rfl | rfl | rfl | rfl | rfl
    · rw [show a + 2 + 2 * 0 = a + 2 by omega, show a + 2 + 1 = a + 3 by omega, z3, f8 _ (by omega) (by omega) (by omega), q5 _ (by omega) (by omega), q4 _ (by omega) (by omega), q3 _ (by omega) (by omega), q2 _ (by omega) (by omega)]
      exact p1
    · rw [show a + 2 + 2 * 1 = a + 4 by omega, show a + 4 + 1 = a + 5 by omega, z5, f8 _ (by omega) (by omega) (by omega), q5 _ (by omega) (by omega), q4 _ (by omega) (by omega), q3 _ (by omega) (by omega)]
      exact p2
    · rw [show a + 2 + 2 * 2 = a + 6 by omega, show a + 6 + 1 = a + 7 by omega, z7, f8 _ (by omega) (by omega) (by omega), q5 _ (by omega) (by omega), q4 _ (by omega) (by omega)]
      exact p3
    · rw [show a + 2 + 2 * 3 = a + 8 by omega, show a + 8 + 1 = a + 9 by omega, z9, f8 _ (by omega) (by omega) (by omega), q5 _ (by omega) (by omega)]
      exact p4
    · rw [show a + 2 + 2 * 4 = a + 10 by omega, show a + 10 + 1 = a + 11 by omega, z11, f8 _ (by omega) (by omega) (by omega)]
      exact p5
  have out : ∀ o, o < a ∨ a + 14 < o → ν8 o = μ o := fun o ho => by rw [f8 o (by omega) (by omega) (by omega), q5 o (by omega) (by omega), q4 o (by omega) (by omega), q3 o (by omega) (by omega), q2 o (by omega) (by omega), q1 o (by omega) (by omega), f0 o (by omega)]
  refine wp_bdQ (forgetA (a := a) (μ := ν8)) fun μ1 ⟨g1, g2, g3⟩ => ?_
  obtain ⟨L, l1, l2⟩ := (R0_B (s := 0)).1 rfl
  have hB := l1.lb
  have hz : L 11 = 0 ∧ L 12 = 0 ∧ L 13 = 0 ∧ L 14 = 0 ∧ L 15 = 0 := by
    obtain ⟨c0, c1, c2, c3, c4⟩ := hB.2.1
    have e : ∀ i, 11 ≤ i → i < 16 → L i < 2 ^ 31 → L i = 0 := by
      intro i h1 h2 h3
      have := l2 i (by omega)
      rw [show R0 0 i = nI 0 from if_neg (by omega)] at this
      exact ((nI_eq (by omega) h3).mp this).symm
    exact ⟨e 11 (by omega) (by omega) (by omega), e 12 (by omega) (by omega) (by omega), e 13 (by omega) (by omega) (by omega), e 14 (by omega) (by omega) (by omega), e 15 (by omega) (by omega) (by omega)⟩
  have hC : LC0 a μ1 L := by
    obtain ⟨e1, e2, e3, e4, e5⟩ := hz
    refine ⟨fun i hi => ?_, ⟨by rw [e1]; exact (g2 0 (by omega)).1, by rw [e2]; exact (g2 1 (by omega)).1, by rw [e3]; exact (g2 2 (by omega)).1, by rw [e4]; exact (g2 3 (by omega)).1, by rw [e5]; exact (g2 4 (by omega)).1⟩, fun k hk => by omega, fun k hk => by omega, fun k hk => by omega, fun k hk => by omega, fun k hk => by omega⟩
    rw [g1 i hi, ← l2 i (by omega)]
    exact (if_pos ⟨rfl, hi⟩).symm
  refine wp_bdQ (settle_ok hk hB hC) fun μ2 ⟨s1, s2⟩ => wp_some ⟨⟨L, s1⟩, fun j hj => ?_, fun o ho => ?_⟩
  · obtain ⟨w1, w2⟩ := g2 j hj
    have e : μ2 (a + 2 + 2 * j) = μ1 (a + 2 + 2 * j) := s2 _ (by omega) (by omega) (by omega) (by omega)
    exact ⟨by rw [e, w2, r j hj], 0, Nat.zero_le _, by rw [e]; exact w1⟩
  · rw [s2 o (by omega) (by omega) (by omega) (by omega), g3 o (by omega) (fun k hk => by omega), out o ho]
theorem znew_0 {c o k : Nat} (h : zrk c k ≠ 2) : znew μ o c o k = 0 := by
  unfold znew
  rw [zupr_self]
  exact if_neg h
theorem pgmax : ∀ k, k < 10 → zln (37 + 2 * k) / 3 = ([0, 0, 40, 40, 8, 8, 8, 8, 8, 8] : List Nat).getD k 0 := by decide +kernel
theorem toldNew {T : Nat} (hT : TK T) : wp (f_X8_init T μ) (fun μ' => (μ' T 3 = -1 ∧ ∀ k, k ≠ 3 → μ' T k = μ T k) ∧ (∀ i, μ' (T + 1) i = 0 ∧ μ' (T + 2) i = 0) ∧ (∀ k, k < 2 → ∃ L, LC (T + 5 + 15 * k) μ' L) ∧ (∀ r, T ≤ r → r < T + 55 → zkd r = 6 → WFr r μ') ∧ ∀ o, o < T ∨ T + 55 ≤ o → μ' o = μ o) := by
  obtain ⟨k1, k2, k3, k4⟩ := hT
  unfold f_X8_init
  generalize h0 : znew (zupr (zup (zupr μ (T + 1) (fun _ => 0)) T 3 (-1)) (T + 2) (fun _ => 0)) (T + 5) 1 = ν0
  have a0 : ν0 T 3 = -1 := by rw [← h0]; unfold znew; rw [zupr_ne _ _ (by omega), zupr_ne _ _ (by omega), zup_self]
  have b0 : ∀ k, k ≠ 3 → ν0 T k = μ T k := fun k hk => by rw [← h0]; unfold znew; rw [zupr_ne _ _ (by omega), zupr_ne _ _ (by omega), zup_ne (by omega), zupr_ne _ _ (by omega)]
  have c0 : ∀ i, ν0 (T + 1) i = 0 ∧ ν0 (T + 2) i = 0 := fun i => by
    rw [← h0]
    unfold znew
    refine ⟨?_, ?_⟩
    · rw [zupr_ne _ _ (by omega), zupr_ne _ _ (by omega), zup_rne _ _ _ (by omega), zupr_self]
    · rw [zupr_ne _ _ (by omega), zupr_self]
  have d0 : ∀ o, o < T ∨ T + 55 ≤ o → ν0 o = μ o := fun o ho => by rw [← h0]; unfold znew; rw [zupr_ne _ _ (by omega), zupr_ne _ _ (by omega), zup_rne _ _ _ (by omega), zupr_ne _ _ (by omega)]
  have t5 : zkd (T + 5) = 1 := k1 0 (by omega)
  have t20 : zkd (T + 20) = 1 := k1 1 (by omega)
  refine wp_bdQ (lakeNew (a := T + 5) t5) fun μ1 ⟨⟨L1, l1⟩, w1, o1⟩ => wp_bdQ (lakeNew (a := T + 20) (μ := znew μ1 (T + 20) 1) t20) fun μ2 ⟨⟨L2, l2⟩, w2, o2⟩ => wp_some ?_
  have o2' : ∀ o, o < T + 20 ∨ T + 34 < o → μ2 o = μ1 o := fun o ho => by
    rw [o2 o (by omega)]
    unfold znew
    exact zupr_ne _ _ (by omega)
  obtain ⟨z1, -, y1⟩ := i6_ok (a := T + 35) (μ := μ2) (v := 0) (m := 0) rfl (by omega)
  have x1 := i6_row (a := T + 35) (μ := μ2) (v := 0) (m := 0) rfl (by omega) (by rw [show T + 35 + 1 = T + 36 + 2 * 0 by omega, (k2 0 (by omega)).2.1]; exact pgmax 0 (by omega))
  generalize i_X6 (T + 35) 0 μ2 = ν1 at y1 x1 ⊢
  obtain ⟨-, -, y2⟩ := i6_ok (a := T + 37) (μ := ν1) (v := 0) (m := 0) rfl (by omega)
  have x2 := i6_row (a := T + 37) (μ := ν1) (v := 0) (m := 0) rfl (by omega) (by rw [show T + 37 + 1 = T + 36 + 2 * 1 by omega, (k2 1 (by omega)).2.1]; exact pgmax 1 (by omega))
  generalize i_X6 (T + 37) 0 ν1 = ν2 at y2 x2 ⊢
  obtain ⟨-, -, y3⟩ := i6_ok (a := T + 39) (μ := ν2) (v := 40) (m := 40) rfl (by omega)
  have x3 := i6_row (a := T + 39) (μ := ν2) (v := 40) (m := 40) rfl (by omega) (by rw [show T + 39 + 1 = T + 36 + 2 * 2 by omega, (k2 2 (by omega)).2.1]; exact pgmax 2 (by omega))
  generalize i_X6 (T + 39) 40 ν2 = ν3 at y3 x3 ⊢
  obtain ⟨-, -, y4⟩ := i6_ok (a := T + 41) (μ := ν3) (v := 40) (m := 40) rfl (by omega)
  have x4 := i6_row (a := T + 41) (μ := ν3) (v := 40) (m := 40) rfl (by omega) (by rw [show T + 41 + 1 = T + 36 + 2 * 3 by omega, (k2 3 (by omega)).2.1]; exact pgmax 3 (by omega))
  generalize i_X6 (T + 41) 40 ν3 = ν4 at y4 x4 ⊢
  obtain ⟨-, -, y5⟩ := i6_ok (a := T + 43) (μ := ν4) (v := 8) (m := 8) rfl (by omega)
  have x5 := i6_row (a := T + 43) (μ := ν4) (v := 8) (m := 8) rfl (by omega) (by rw [show T + 43 + 1 = T + 36 + 2 * 4 by omega, (k2 4 (by omega)).2.1]; exact pgmax 4 (by omega))
  generalize i_X6 (T + 43) 8 ν4 = ν5 at y5 x5 ⊢
  obtain ⟨-, -, y6⟩ := i6_ok (a := T + 45) (μ := ν5) (v := 8) (m := 8) rfl (by omega)
  have x6 := i6_row (a := T + 45) (μ := ν5) (v := 8) (m := 8) rfl (by omega) (by rw [show T + 45 + 1 = T + 36 + 2 * 5 by omega, (k2 5 (by omega)).2.1]; exact pgmax 5 (by omega))
  generalize i_X6 (T + 45) 8 ν5 = ν6 at y6 x6 ⊢
  obtain ⟨-, -, y7⟩ := i6_ok (a := T + 47) (μ := ν6) (v := 8) (m := 8) rfl (by omega)
  have x7 := i6_row (a := T + 47) (μ := ν6) (v := 8) (m := 8) rfl (by omega) (by rw [show T + 47 + 1 = T + 36 + 2 * 6 by omega, (k2 6 (by omega)).2.1]; exact pgmax 6 (by omega))
  generalize i_X6 (T + 47) 8 ν6 = ν7 at y7 x7 ⊢
  obtain ⟨-, -, y8⟩ := i6_ok (a := T + 49) (μ := ν7) (v := 8) (m := 8) rfl (by omega)
  have x8 := i6_row (a := T + 49) (μ := ν7) (v := 8) (m := 8) rfl (by omega) (by rw [show T + 49 + 1 = T + 36 + 2 * 7 by omega, (k2 7 (by omega)).2.1]; exact pgmax 7 (by omega))
  generalize i_X6 (T + 49) 8 ν7 = ν8 at y8 x8 ⊢
  obtain ⟨-, -, y9⟩ := i6_ok (a := T + 51) (μ := ν8) (v := 8) (m := 8) rfl (by omega)
  have x9 := i6_row (a := T + 51) (μ := ν8) (v := 8) (m := 8) rfl (by omega) (by rw [show T + 51 + 1 = T + 36 + 2 * 8 by omega, (k2 8 (by omega)).2.1]; exact pgmax 8 (by omega))
  generalize i_X6 (T + 51) 8 ν8 = ν9 at y9 x9 ⊢
  obtain ⟨-, -, y10⟩ := i6_ok (a := T + 53) (μ := ν9) (v := 8) (m := 8) rfl (by omega)
  have x10 := i6_row (a := T + 53) (μ := ν9) (v := 8) (m := 8) rfl (by omega) (by rw [show T + 53 + 1 = T + 36 + 2 * 9 by omega, (k2 9 (by omega)).2.1]; exact pgmax 9 (by omega))
  generalize i_X6 (T + 53) 8 ν9 = ν10 at y10 x10 ⊢
  have low : ∀ o, o < T + 35 ∨ T + 55 ≤ o → ν10 o = μ2 o := fun o ho => by rw [y10 o (by omega) (by omega), y9 o (by omega) (by omega), y8 o (by omega) (by omega), y7 o (by omega) (by omega), y6 o (by omega) (by omega), y5 o (by omega) (by omega), y4 o (by omega) (by omega), y3 o (by omega) (by omega), y2 o (by omega) (by omega), y1 o (by omega) (by omega)]
  have head : ∀ o, o < T + 5 ∨ T + 55 ≤ o → ν10 o = ν0 o := fun o ho => by rw [low o (by omega), o2' o (by omega), o1 o (by omega)]
  refine ⟨⟨by rw [head T (by omega)]; exact a0, fun k hk => by rw [head T (by omega)]; exact b0 k hk⟩, fun i => by rw [head (T + 1) (by omega), head (T + 2) (by omega)]; exact c0 i, fun k hk => ?_, fun r r1 r2 r3 => ?_, fun o ho => by rw [head o (by omega)]; exact d0 o ho⟩
  · have : k = 0 ∨ k = 1 := by omega
    rcases this with rfl | rfl
    · exact ⟨L1, l1.congr (fun o q1 q2 => by rw [low o (by omega), o2' o (by omega)])⟩
    · exact ⟨L2, l2.congr (fun o q1 q2 => low o (by omega))⟩
  · rcases k4 r r2 r1 r3 with ⟨k, hk, j, hj, rfl⟩ | ⟨k, hk, rfl⟩
    · have : k = 0 ∨ k = 1 := by omega
      rcases this with rfl | rfl
      · exact (w1 j hj).congr (by rw [low _ (by omega), o2' _ (by omega)])
      · exact (w2 j hj).congr (low _ (by omega))
    · have : k = 0 ∨ k = 1 ∨ k = 2 ∨ k = 3 ∨ k = 4 ∨ k = 5 ∨ k = 6 ∨ k = 7 ∨ k = 8 ∨ k = 9 := by omega
      rcases this with rfl | rfl | rfl | rfl | rfl | rfl | rfl | rfl | rfl | rfl
      · exact x1.congr (by rw [y10 _ (by omega) (by omega), y9 _ (by omega) (by omega), y8 _ (by omega) (by omega), y7 _ (by omega) (by omega), y6 _ (by omega) (by omega), y5 _ (by omega) (by omega), y4 _ (by omega) (by omega), y3 _ (by omega) (by omega), y2 _ (by omega) (by omega)])
      · exact x2.congr (by rw [show T + 35 + 2 * 1 = T + 37 by omega, y10 _ (by omega) (by omega), y9 _ (by omega) (by omega), y8 _ (by omega) (by omega), y7 _ (by omega) (by omega), y6 _ (by omega) (by omega), y5 _ (by omega) (by omega), y4 _ (by omega) (by omega), y3 _ (by omega) (by omega)])
      · exact x3.congr (by rw [show T + 35 + 2 * 2 = T + 39 by omega, y10 _ (by omega) (by omega), y9 _ (by omega) (by omega), y8 _ (by omega) (by omega), y7 _ (by omega) (by omega), y6 _ (by omega) (by omega), y5 _ (by omega) (by omega), y4 _ (by omega) (by omega)])
      · exact x4.congr (by rw [show T + 35 + 2 * 3 = T + 41 by omega, y10 _ (by omega) (by omega), y9 _ (by omega) (by omega), y8 _ (by omega) (by omega), y7 _ (by omega) (by omega), y6 _ (by omega) (by omega), y5 _ (by omega) (by omega)])
      · exact x5.congr (by rw [show T + 35 + 2 * 4 = T + 43 by omega, y10 _ (by omega) (by omega), y9 _ (by omega) (by omega), y8 _ (by omega) (by omega), y7 _ (by omega) (by omega), y6 _ (by omega) (by omega)])
      · exact x6.congr (by rw [show T + 35 + 2 * 5 = T + 45 by omega, y10 _ (by omega) (by omega), y9 _ (by omega) (by omega), y8 _ (by omega) (by omega), y7 _ (by omega) (by omega)])
      · exact x7.congr (by rw [show T + 35 + 2 * 6 = T + 47 by omega, y10 _ (by omega) (by omega), y9 _ (by omega) (by omega), y8 _ (by omega) (by omega)])
      · exact x8.congr (by rw [show T + 35 + 2 * 7 = T + 49 by omega, y10 _ (by omega) (by omega), y9 _ (by omega) (by omega)])
      · exact x9.congr (by rw [show T + 35 + 2 * 8 = T + 51 by omega, y10 _ (by omega) (by omega)])
      · exact x10
theorem readerNew : wp (f_X5_init 58 μ) (fun μ' => (∀ r, 58 ≤ r → r < 87 → zkd r = 6 → WFr r μ') ∧ ∀ o, o < 58 ∨ 87 ≤ o → μ' o = μ o) := by
  unfold f_X5_init
  refine wp_bdQ (lakeNew (a := 59) (μ := znew μ (58 + 1) 1) kd59) fun μ1 ⟨_, w1, o1⟩ => wp_some ?_
  have o1' : ∀ o, o < 58 ∨ 87 ≤ o → μ1 o = μ o := fun o ho => by
    rw [o1 o (by omega)]
    unfold znew
    exact zupr_ne _ _ (by omega)
  generalize h0 : zupr (zup (zupr (zup μ1 58 3 (-1)) (58 + 17) (fun _ => 0)) 58 4 (nI (58 + 17))) (58 + 18) (fun _ => 0) = ν0
  have f0 : ∀ o, o ≠ 58 → o ≠ 75 → o ≠ 76 → ν0 o = μ1 o := fun o q1 q2 q3 => by rw [← h0, zupr_ne _ _ (by omega), zup_rne _ _ _ q1, zupr_ne _ _ (by omega), zup_rne _ _ _ q1]
  have zz : zln 78 / 3 = 0 ∧ zln 80 / 3 = 40 ∧ zln 82 / 3 = 8 ∧ zln 84 / 3 = 8 ∧ zln 86 / 3 = 8 := by decide +kernel
  obtain ⟨z1, z2, z3, z4, z5⟩ := zz
  obtain ⟨-, -, y1⟩ := i6_ok (a := 58 + 19) (μ := ν0) (v := 0) (m := 0) rfl (by omega)
  have x1 := i6_row (a := 58 + 19) (μ := ν0) (v := 0) (m := 0) rfl (by omega) z1
  generalize i_X6 (58 + 19) 0 ν0 = ν1 at y1 x1 ⊢
  obtain ⟨-, -, y2⟩ := i6_ok (a := 58 + 21) (μ := ν1) (v := 40) (m := 40) rfl (by omega)
  have x2 := i6_row (a := 58 + 21) (μ := ν1) (v := 40) (m := 40) rfl (by omega) z2
  generalize i_X6 (58 + 21) 40 ν1 = ν2 at y2 x2 ⊢
  obtain ⟨-, -, y3⟩ := i6_ok (a := 58 + 23) (μ := ν2) (v := 8) (m := 8) rfl (by omega)
  have x3 := i6_row (a := 58 + 23) (μ := ν2) (v := 8) (m := 8) rfl (by omega) z3
  generalize i_X6 (58 + 23) 8 ν2 = ν3 at y3 x3 ⊢
  obtain ⟨-, -, y4⟩ := i6_ok (a := 58 + 25) (μ := ν3) (v := 8) (m := 8) rfl (by omega)
  have x4 := i6_row (a := 58 + 25) (μ := ν3) (v := 8) (m := 8) rfl (by omega) z4
  generalize i_X6 (58 + 25) 8 ν3 = ν4 at y4 x4 ⊢
  obtain ⟨-, -, y5⟩ := i6_ok (a := 58 + 27) (μ := ν4) (v := 8) (m := 8) rfl (by omega)
  have x5 := i6_row (a := 58 + 27) (μ := ν4) (v := 8) (m := 8) rfl (by omega) z5
  generalize i_X6 (58 + 27) 8 ν4 = ν5 at y5 x5 ⊢
  have low : ∀ o, o < 77 ∨ 87 ≤ o → ν5 o = ν0 o := fun o ho => by rw [y5 o (by omega) (by omega), y4 o (by omega) (by omega), y3 o (by omega) (by omega), y2 o (by omega) (by omega), y1 o (by omega) (by omega)]
  refine ⟨fun r r1 r2 r3 => ?_, fun o ho => by rw [low o (by omega), f0 o (by omega) (by omega) (by omega)]; exact o1' o ho⟩
  rcases rd_rows' r2 r1 r3 with e | ⟨t, ht, e⟩
  · subst e
    exact x1.congr (by rw [y5 _ (by omega) (by omega), y4 _ (by omega) (by omega), y3 _ (by omega) (by omega), y2 _ (by omega) (by omega)])
  · subst e
    have : t = 0 ∨ t = 1 ∨ t = 2 ∨ t = 3 ∨ t = 4 ∨ t = 5 ∨ t = 6 ∨ t = 7 ∨ t = 8 := by omega
    rcases this with rfl | rfl | rfl | rfl | rfl | rfl | rfl | rfl | rfl
    · exact (w1 0 (by omega)).congr (by show ν5 61 = μ1 61; rw [low _ (by omega), f0 _ (by omega) (by omega) (by omega)])
    · exact (w1 1 (by omega)).congr (by show ν5 63 = μ1 63; rw [low _ (by omega), f0 _ (by omega) (by omega) (by omega)])
    · exact (w1 2 (by omega)).congr (by show ν5 65 = μ1 65; rw [low _ (by omega), f0 _ (by omega) (by omega) (by omega)])
    · exact (w1 3 (by omega)).congr (by show ν5 67 = μ1 67; rw [low _ (by omega), f0 _ (by omega) (by omega) (by omega)])
    · exact (w1 4 (by omega)).congr (by show ν5 69 = μ1 69; rw [low _ (by omega), f0 _ (by omega) (by omega) (by omega)])
    · exact x2.congr (by show ν5 79 = ν2 79; rw [y5 _ (by omega) (by omega), y4 _ (by omega) (by omega), y3 _ (by omega) (by omega)])
    · exact x3.congr (by show ν5 81 = ν3 81; rw [y5 _ (by omega) (by omega), y4 _ (by omega) (by omega)])
    · exact x4.congr (by show ν5 83 = ν4 83; rw [y5 _ (by omega) (by omega)])
    · exact x5
theorem f4_low {b0 o : Nat} (h : o < a) : i_X4 a b0 μ o = μ o := by
  unfold i_X4
  rw [zup_rne _ _ _ (by omega), zup_rne _ _ _ (by omega), zupr_ne _ _ (by omega), zupr_ne _ _ (by omega)]
theorem f0_low {b0 o : Nat} (h : o < a) : i_X0 a b0 μ o = μ o := by
  unfold i_X0 znew
  rw [zup_rne _ _ _ (by omega), zup_rne _ _ _ (by omega), zupr_ne _ _ (by omega), zupr_ne _ _ (by omega), zupr_ne _ _ (by omega), zupr_ne _ _ (by omega), zupr_ne _ _ (by omega), zupr_ne _ _ (by omega), zupr_ne _ _ (by omega), zupr_ne _ _ (by omega), zupr_ne _ _ (by omega), zupr_ne _ _ (by omega)]
theorem f3_low {o : Nat} (h : o < a) : i_X3 a μ o = μ o := by
  unfold i_X3
  exact zupr_ne _ _ (by omega)
theorem f9_low {o : Nat} (h : o < a) : i_X9 a μ o = μ o := by
  unfold i_X9
  rw [zupr_ne _ _ (by omega), zupr_ne _ _ (by omega), zupr_ne _ _ (by omega), zupr_ne _ _ (by omega)]
theorem f7_low {o : Nat} (h : o < a) : i_X7 a μ o = μ o := by
  unfold i_X7
  show (if a + 11 ≤ o then (fun _ => 0) else (if a + 1 ≤ o then (fun _ => 0) else μ o)) = μ o
  rw [if_neg (by omega), if_neg (by omega)]
theorem f2_low {o : Nat} (h : o < a) : i_X2 a μ o = μ o := by
  unfold i_X2
  show (if a + 3 ≤ o then (fun _ => 0) else (zupr (zupr μ (a + 1) (fun _ => 0)) (a + 2) (fun _ => 0)) o) = μ o
  rw [if_neg (by omega), zupr_ne _ _ (by omega), zupr_ne _ _ (by omega)]
theorem new_low {c o : Nat} (h : o ≠ a) : znew μ a c o = μ o := by
  unfold znew
  exact zupr_ne _ _ h
theorem xrk : zrk 8 0 ≠ 2 ∧ zrk 8 1 ≠ 2 ∧ zrk 8 2 ≠ 2 := by decide +kernel
/-- after both constructors -/
theorem firstInv : wp (f_X11_init 0 μ) (fun μ1 => ∀ μ2, f_X12_init 310 (znew μ1 310 12) = some μ2 → Inv μ2) := by
  unfold f_X11_init
  refine wp_bdQ (toldNew (T := 1) tk1) fun μ1 ⟨a1, a2, a3, a4, a5⟩ => wp_bdQ readerNew fun μ2 ⟨b1, b2⟩ => wp_ls (wp_ls (wp_ls (wp_ls (wp_ls (wp_ls (wp_ls ?_))))))
  obtain ⟨μ9, h9⟩ : ∃ μ9, μ9 = i_X2 (0 + 132) (znew (i_X7 (0 + 111) (znew (i_X9 (0 + 106) (znew (i_X3 (0 + 104) (znew (i_X0 (0 + 93) (0 + 6) (znew (i_X4 (0 + 90) (0 + 6) (znew (i_X4 (0 + 87) (0 + 6) (znew μ2 (0 + 87) 4)) (0 + 90) 4)) (0 + 93) 0)) (0 + 104) 3)) (0 + 106) 9)) (0 + 111) 7)) (0 + 132) 2) := ⟨_, rfl⟩
  rw [← h9]
  have l9 : ∀ o, o < 87 → μ9 o = μ2 o := fun o ho => by
    rw [h9, f2_low (by omega), new_low (by omega), f7_low (by omega), new_low (by omega), f9_low (by omega), new_low (by omega), f3_low (by omega), new_low (by omega), f0_low (by omega), new_low (by omega), f4_low (by omega), new_low (by omega), f4_low (by omega), new_low (by omega)]
  refine wp_bdQ (toldNew (T := 145) (μ := znew μ9 145 8) tk145) fun μ10 ⟨_, _, _, c4, c5⟩ => wp_bdQ (toldNew (T := 200) (μ := znew μ10 200 8) tk200) fun μ11 ⟨_, _, _, d4, d5⟩ => wp_bdQ (toldNew (T := 255) (μ := znew μ11 255 8) tk255) fun μ12 ⟨_, _, _, e4, e5⟩ => wp_some fun μR hR => ?_
  have l12 : ∀ o, o < 87 → μ12 o = μ2 o := fun o ho => by
    rw [e5 o (by omega), new_low (by omega), d5 o (by omega), new_low (by omega), c5 o (by omega), new_low (by omega), l9 o ho]
  have l2 : ∀ o, o < 57 → μ2 o = μ1 o := fun o ho => by
    rw [b2 o (by omega), new_low (by omega), zupr_ne _ _ (by omega)]
  have l57 : ∀ i, μ12 57 i = 0 := fun i => by
    rw [l12 57 (by omega), b2 57 (by omega), new_low (by omega), show (0 : Nat) + 57 = 57 from rfl, zupr_self]
  have lt : ∀ o, o < 57 → μ12 o = μ1 o := fun o ho => (l12 o (by omega)).trans (l2 o ho)
  -- the reference
  have hR' : μR = (zup (zupr (zupr (zupr (zupr (zupr (zupr (zupr (zupr (zupr (zupr (zupr (zupr (zupr (znew μ12 310 12) (310 + 1) (fun _ => 0)) (310 + 2) (fun _ => 0)) (310 + 3) (fun _ => 0)) (310 + 4) (fun _ => 0)) (310 + 5) (fun _ => 0)) (310 + 6) (fun _ => 0)) (310 + 7) (fun _ => 0)) (310 + 8) (fun _ => 0)) (310 + 9) (fun _ => 0)) (310 + 10) (fun _ => 0)) (310 + 11) (fun _ => 0)) (310 + 12) (fun _ => 0)) (310 + 13) (fun _ => 0)) (310 + 1) 7 (-1)) := (Option.some.inj hR).symm
  have lr : ∀ o, o < 310 → μR o = μ12 o := fun o ho => by
    rw [hR', zup_rne _ _ _ (by omega), zupr_ne _ _ (by omega), zupr_ne _ _ (by omega), zupr_ne _ _ (by omega), zupr_ne _ _ (by omega), zupr_ne _ _ (by omega), zupr_ne _ _ (by omega), zupr_ne _ _ (by omega), zupr_ne _ _ (by omega), zupr_ne _ _ (by omega), zupr_ne _ _ (by omega), zupr_ne _ _ (by omega), zupr_ne _ _ (by omega), zupr_ne _ _ (by omega), new_low (by omega)]
  have r311 : ∀ i, i ≠ 7 → μR 311 i = 0 := fun i hi => by
    rw [hR', zup_ne (by omega), zupr_ne _ _ (by omega), zupr_ne _ _ (by omega), zupr_ne _ _ (by omega), zupr_ne _ _ (by omega), zupr_ne _ _ (by omega), zupr_ne _ _ (by omega), zupr_ne _ _ (by omega), zupr_ne _ _ (by omega), zupr_ne _ _ (by omega), zupr_ne _ _ (by omega), zupr_ne _ _ (by omega), zupr_ne _ _ (by omega), show (310 : Nat) + 1 = 311 from rfl, zupr_self]
  have r7 : μR 311 7 = -1 := by
    rw [hR']
    exact zup_self _ _ _ _
  have r312 : ∀ i, μR 312 i = 0 := fun i => by
    rw [hR', zup_rne _ _ _ (by omega), zupr_ne _ _ (by omega), zupr_ne _ _ (by omega), zupr_ne _ _ (by omega), zupr_ne _ _ (by omega), zupr_ne _ _ (by omega), zupr_ne _ _ (by omega), zupr_ne _ _ (by omega), zupr_ne _ _ (by omega), zupr_ne _ _ (by omega), zupr_ne _ _ (by omega), zupr_ne _ _ (by omega), show (310 : Nat) + 2 = 312 from rfl, zupr_self]
  have h1 : ∀ k, k = 0 ∨ k = 1 ∨ k = 2 → μR 1 k = 0 := fun k hk => by
    rw [lr 1 (by omega), lt 1 (by omega), a1.2 k (by omega)]
    rcases hk with rfl | rfl | rfl
    · exact znew_0 xrk.1
    · exact znew_0 xrk.2.1
    · exact znew_0 xrk.2.2
  refine ⟨fun r q1 q2 => ?_, PR.iff.mpr ⟨⟨⟨0, by omega, h1 1 (by omega), r311 _ (by omega)⟩, ⟨?_, ?_⟩, fun i hi => ?_⟩, PB1.mpr ⟨fun s hs => ⟨0, by omega, ?_, r311 s (by omega), fun k hk => absurd hk (by omega)⟩, fun k hk => ?_⟩⟩, fun k hk => ?_⟩
  · have w : WFr r μR := by
      rcases toldRng r q1 q2 with z | z | z
      · exact (a4 r z.1 z.2 q2).congr (by rw [lr r (by omega), lt r (by omega)])
      · exact (b1 r z.1 z.2 q2).congr (by rw [lr r (by omega), l12 r (by omega)])
      · by_cases z1 : r < 200
        · exact (c4 r z.1 z1 q2).congr (by rw [lr r (by omega), e5 r (by omega), new_low (by omega), d5 r (by omega), new_low (by omega)])
        · by_cases z2 : r < 255
          · exact (d4 r (by omega) z2 q2).congr (by rw [lr r (by omega), e5 r (by omega), new_low (by omega)])
          · exact (e4 r (by omega) (by omega) q2).congr (lr r (by omega))
    exact w
  · rw [r311 _ (by omega), h1 2 (by omega)]
  · rw [show (0 : Nat) + 7 = 7 from rfl, r7, lr 1 (by omega), lt 1 (by omega), a1.1]
  · rw [r311 _ (by omega), lr (1 + 1) (by omega), lt (1 + 1) (by omega), (a2 i).1]
    exact ⟨rfl, 0, by omega, rfl⟩
  · rw [lr 3 (by omega), lt 3 (by omega)]
    exact (a2 s).2
  · obtain ⟨L, l⟩ := a3 k hk
    exact ⟨L, l.congr (fun o o1 o2 => by rw [lr o (by omega), lt o (by omega)])⟩
  · rw [lr 57 (by omega), l57, r312]
    exact ⟨rfl, Or.inl rfl⟩
end FIRST
