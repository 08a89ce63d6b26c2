/-! COST: the least of tears, on both sides -/
def F2 (L : Nat → Nat) (A : Nat) (fx fy : Nat → Nat) (k : Nat) : Prop := ∀ m, m < k → fx m ≤ L 2 ∧ fy m ≤ L 3 ∧ (fx m = 0 ↔ fy m = 0) ∧ (fx m ≠ 0 → A.testBit m = false)
/-- t TEARS bring about LEANS i, j (each and 1), those of A staying ashore -/
def Ptear (L : Nat → Nat) (A i j t : Nat) : Prop := ∃ fx fy, F2 L A fx fy (L 14) ∧ chL L 0 fx = i ∧ chL L 1 fy = j ∧ t = tsf L fx (L 14)
theorem tsf_le {L f : Nat → Nat} (hB : LB L) : ∀ n, n ≤ L 14 → tsf L f n ≤ 9 * n
  | 0, _ => Nat.le_refl _
  | n + 1, h => by
    have ih := tsf_le (f := f) hB n (by omega)
    have := (hB.2.2.2.2.2.1 n (by omega)).2.1
    unfold tsf
    split <;> omega
theorem Ptear_le {L : Nat → Nat} (hB : LB L) {A i j t : Nat} (h : Ptear L A i j t) : t ≤ 45 := by
  obtain ⟨fx, fy, -, -, -, e⟩ := h
  have := tsf_le (f := fx) hB (L 14) (Nat.le_refl _)
  have := hB.2.1.2.2.2.1
  omega
theorem and_z {s A : Nat} : s &&& A = 0 ↔ ∀ m, s.testBit m = true → A.testBit m = false := by
  constructor
  · intro h m hm
    rw [← Bool.not_eq_true]
    intro ha
    exact (and_ne0.mpr ⟨m, hm, ha⟩) h
  · intro h
    refine Decidable.byContradiction fun w => ?_
    obtain ⟨m, h1, h2⟩ := and_ne0.mp w
    rw [h m h1] at h2
    exact absurd h2 (by decide)
theorem and_le {s A : Nat} : s &&& A ≤ s := Nat.and_le_left
section PRICE2
variable {la : Nat} {μ : zM} {L : Nat → Nat}
theorem priceWithoutC {A : Nat} (hL : LC la μ L) (hr : la + 14 < 93) (hA : A < 32) (h0 : LnsP L 0 μ) (h1 : LnsP L 1 μ) :
    wp (f_X0_priceWithout 93 la (nI A) μ) (fun μ' => (∀ o, o ≠ 95 → μ' o = μ o) ∧ ∀ d, d < 9 → LeN (Ptear L A (d % 3) (d / 3)) (-1) (μ' 95 d)) := by
  have hB := hL.2.1
  have hb5 := hB.2.1.2.2.2.1
  have h32 : 2 ^ L 14 ≤ 2 ^ 5 := Nat.pow_le_pow_right (by omega) hb5
  unfold f_X0_priceWithout
  refine wp_bdQ (Q := fun μ' => (∀ o, o ≠ 95 → μ' o = μ o) ∧ ∀ d, d < 9 → μ' 95 d = -1) ?_ (fun μ1 ⟨f1, z1⟩ => ?_)
  · refine wlp0 (fun n d μ' => f_X0_priceWithout_L2 93 la (nI A) n (nI d) μ') _ 9 (fun k μ' => (∀ o, o ≠ 95 → μ' o = μ o) ∧ ∀ d, d < k → μ' 95 d = -1) (by omega) μ ⟨fun _ _ => rfl, fun d hd => by omega⟩ ?_ ?_
    · intro n d μ1 hd ⟨i1, i2⟩ ih
      show wp (f_X0_priceWithout_L2 93 la (nI A) (n + 1) (nI d) μ1) _
      rw [f_X0_priceWithout_L2]
      refine wp_ie (nI_ge (b := 9) hd (by omega)) (wp_g (zin_nI (by omega) (by omega)) (wp_ls (wp_ls ?_)))
      rw [nI_1, nI_clamp (by omega)]
      refine ih _ ⟨fun o ho => by rw [zup_rne _ _ _ ho]; exact i1 o ho, fun d' hd' => ?_⟩
      by_cases e : d' = d
      · rw [e]
        exact zup_self _ _ _ _
      · rw [zup_ne (by omega)]
        exact i2 d' (by omega)
    · intro n μ1 hI
      show wp (f_X0_priceWithout_L2 93 la (nI A) (n + 1) (nI 9) μ1) _
      rw [f_X0_priceWithout_L2]
      exact wp_it (nI_le (a := 9) (Nat.le_refl _) (by omega)) (wp_some hI)
  · have hL1 : LC la μ1 L := hL.congr (fun o q1 q2 => f1 o (by omega))
    have es : μ1 (la + 8) 2 = nI (L 14) := hL1.2.2.1.2.1.2.2.2.1
    rw [es, one_shl (by omega)]
    refine wp_ls (wp_bdQ (Q := fun μ' => (∀ o, o ≠ 95 → μ' o = μ o) ∧ ∀ d, d < 9 → LeN (fun t => ∃ s, s < 2 ^ L 14 ∧ s &&& A = 0 ∧ (∃ f, FOk L 0 f ∧ sps f (L 14) = s ∧ chL L 0 f = d % 3) ∧ (∃ f, FOk L 1 f ∧ sps f (L 14) = s ∧ chL L 1 f = d / 3) ∧ t = tsS L s (L 14)) (-1) (μ' 95 d)) ?_ (fun μ2 ⟨f2, z2⟩ => wp_some ⟨f2, fun d hd => (z2 d hd).iff (fun t => ?_)⟩))
    · refine wlp0 (fun n s μ' => f_X0_priceWithout_L34 93 la (nI A) (nI (2 ^ L 14)) n (nI s) μ') _ (2 ^ L 14) (fun k μ' => (∀ o, o ≠ 95 → μ' o = μ o) ∧ ∀ d, d < 9 → LeN (fun t => ∃ s, s < k ∧ s &&& A = 0 ∧ (∃ f, FOk L 0 f ∧ sps f (L 14) = s ∧ chL L 0 f = d % 3) ∧ (∃ f, FOk L 1 f ∧ sps f (L 14) = s ∧ chL L 1 f = d / 3) ∧ t = tsS L s (L 14)) (-1) (μ' 95 d)) (by omega) μ1 ⟨f1, fun d hd => Or.inr ⟨fun t ⟨s, w, _⟩ => by omega, z1 d hd⟩⟩ ?_ ?_
      · intro n s μ3 hs ⟨i1, i2⟩ ih
        have hL3 : LC la μ3 L := hL.congr (fun o q1 q2 => i1 o (by omega))
        show wp (f_X0_priceWithout_L34 93 la (nI A) (nI (2 ^ L 14)) (n + 1) (nI s) μ3) _
        rw [f_X0_priceWithout_L34, nI_and, nI_1]
        have hle : s &&& A ≤ s := Nat.and_le_left
        refine wp_it ⟨nI_ge hs (by omega), nI_ge (b := 32) (by omega) (by omega)⟩ ?_
        by_cases c : s &&& A = 0
        · obtain ⟨X, x1, x2, x3⟩ := h0 s (by omega)
          obtain ⟨Y, y1, y2, y3⟩ := h1 s (by omega)
          refine wp_bd (wp_ie (fun w => w (by rw [c]; rfl)) (wp_bdE (tearsC hL3 (by omega)) (wp_bdQ (lowerC (t := tsS L s (L 14)) (by omega) (by rw [i1 94 (by omega)]; exact x2) x1 (by rw [i1 94 (by omega)]; exact y2) y1) fun μ4 ⟨f4, g4⟩ => wp_some (wp_ls ?_))))
          refine ih _ ⟨fun o ho => (f4 o ho).trans (i1 o ho), fun d hd => ?_⟩
          rw [g4 d hd]
          have ht := tsS_le hB (s := s) (L 14) (Nat.le_refl _)
          by_cases cc : X.testBit (d % 3) = true ∧ Y.testBit (d / 3) = true
          · have hx := (x3 (d % 3) (by omega)).mp cc.1
            have hy := (y3 (d / 3) (by omega)).mp cc.2
            have := (i2 d hd).less (t := tsS L s (L 14)) (fun t' ⟨s', _, _, _, _, e⟩ => by have := tsS_le hB (s := s') (L 14) (Nat.le_refl _); omega) (by omega)
            have e : (if X.testBit (d % 3) = true ∧ Y.testBit (d / 3) = true ∧ (μ3 95 d = -1 ∨ ¬ μ3 95 d ≤ nI (tsS L s (L 14))) then nI (tsS L s (L 14)) else μ3 95 d) = if μ3 95 d = -1 ∨ ¬ μ3 95 d ≤ nI (tsS L s (L 14)) then nI (tsS L s (L 14)) else μ3 95 d := by
              by_cases c5 : μ3 95 d = -1 ∨ ¬ μ3 95 d ≤ nI (tsS L s (L 14))
              · rw [if_pos c5, if_pos ⟨cc.1, cc.2, c5⟩]
              · rw [if_neg c5, if_neg (fun w => c5 w.2.2)]
            rw [e]
            refine this.iff (fun t => ⟨fun w => ?_, fun ⟨s', q1, q2, q3, q4, q5⟩ => ?_⟩)
            · rcases w with ⟨s', q1, q2⟩ | w
              · exact ⟨s', by omega, q2⟩
              · exact ⟨s, by omega, c, hx, hy, w⟩
            · by_cases e' : s' = s
              · exact Or.inr (e' ▸ q5)
              · exact Or.inl ⟨s', by omega, q2, q3, q4, q5⟩
          · rw [if_neg (fun w => cc ⟨w.1, w.2.1⟩)]
            refine (i2 d hd).iff (fun t => ⟨fun ⟨s', q1, q2⟩ => ⟨s', by omega, q2⟩, fun ⟨s', q1, q2, q3, q4, q5⟩ => ⟨s', ?_, q2, q3, q4, q5⟩⟩)
            have : s' ≠ s := fun e' => cc ⟨(x3 (d % 3) (by omega)).mpr (e' ▸ q3), (y3 (d / 3) (by omega)).mpr (e' ▸ q4)⟩
            omega
        · refine wp_bd (wp_it (nI_ne0 (by omega) (by omega)) (wp_some (wp_ls (ih _ ⟨i1, fun d hd => (i2 d hd).iff (fun t => ⟨fun ⟨s', q1, q2⟩ => ⟨s', by omega, q2⟩, fun ⟨s', q1, q2, q3⟩ => ⟨s', ?_, q2, q3⟩⟩)⟩))))
          have : s' ≠ s := fun e' => c (e' ▸ q2)
          omega
      · intro n μ3 hI
        show wp (f_X0_priceWithout_L34 93 la (nI A) (nI (2 ^ L 14)) (n + 1) (nI (2 ^ L 14)) μ3) _
        rw [f_X0_priceWithout_L34]
        exact wp_ie (fun w => w.1 (nI_le (Nat.le_refl _) (by omega))) (wp_some hI)
    · constructor
      · rintro ⟨s, q1, q2, ⟨fx, x1, x2, x3⟩, ⟨fy, y1, y2, y3⟩, q5⟩
        refine ⟨fx, fy, fun m hm => ⟨x1 m hm, y1 m hm, ?_, fun w => ?_⟩, x3, y3, ?_⟩
        · have a := sps_bit fx m (L 14)
          have b := sps_bit fy m (L 14)
          rw [x2] at a
          rw [y2] at b
          refine ⟨fun w => Decidable.byContradiction fun u => ?_, fun w => Decidable.byContradiction fun u => ?_⟩
          · exact (a.mp (b.mpr ⟨hm, u⟩)).2 w
          · exact (b.mp (a.mpr ⟨hm, u⟩)).2 w
        · have a := sps_bit fx m (L 14)
          rw [x2] at a
          exact (and_z.mp q2) m (a.mpr ⟨hm, w⟩)
        · rw [q5, ← x2, tsS_sps _ (Nat.le_refl _)]
      · rintro ⟨fx, fy, q1, q2, q3, q4⟩
        refine ⟨sps fx (L 14), sps_lt _ _, and_z.mpr (fun m hm => ?_), ⟨fx, fun m hm => (q1 m hm).1, rfl, q2⟩, ⟨fy, fun m hm => (q1 m hm).2.1, (sps_congr (fun m hm => (q1 m hm).2.2.1)).symm, q3⟩, ?_⟩
        · obtain ⟨w1, w2⟩ := (sps_bit fx m (L 14)).mp hm
          exact (q1 m w1).2.2.2 w2
        · rw [q4, tsS_sps _ (Nat.le_refl _)]
theorem weighC (hL : LC la μ L) (hr : la + 14 < 93) :
    wp (f_X0_weigh 93 la μ) (fun μ' => (∀ o, o ≠ 94 → o ≠ 95 → μ' o = μ o) ∧ LnsP L 0 μ' ∧ LnsP L 1 μ' ∧ ∀ d, d < 9 → LeN (Ptear L 0 (d % 3) (d / 3)) (-1) (μ' 95 d)) := by
  unfold f_X0_weigh
  refine wp_bdQ (findLeansC (ax := 0) hL (by omega) hr) fun μ1 ⟨z1, f1, g1⟩ => ?_
  have hL1 : LC la μ1 L := hL.congr (fun o h1 h2 => f1 o (by omega))
  refine wp_bdQ (findLeansC (ax := 1) hL1 (by omega) hr) fun μ2 ⟨z2, f2, g2⟩ => ?_
  have hL2 : LC la μ2 L := hL1.congr (fun o h1 h2 => f2 o (by omega))
  have z1' : LnsP L 0 μ2 := fun s hs => by
    rw [g2 _ (by omega)]
    exact z1 s hs
  refine wp_bdQ (priceWithoutC (A := 0) hL2 hr (by omega) z1' z2) fun μ3 ⟨f3, g3⟩ => wp_some ⟨fun o h1 h2 => by rw [f3 o h2, f2 o h1, f1 o h1], ?_, ?_, g3⟩
  · intro s hs
    rw [f3 94 (by omega)]
    exact z1' s hs
  · intro s hs
    rw [f3 94 (by omega)]
    exact z2 s hs
end PRICE2
/-! the reference: a row of sums by x and y -/
def ix (x y : Int) : Nat := (181 * (x + 90) + (y + 90)).toNat
/-- t TEARS of the first k bring about sums x and y -/
def AchF (L : Nat → Nat) (A k : Nat) (x y : Int) (t : Nat) : Prop := ∃ fx fy, F2 L A fx fy k ∧ x = (chl L 0 fx k).toInt ∧ y = (chl L 1 fy k).toInt ∧ t = tsf L fx k
theorem add_sm {u v : Int32} (hu : -100000 ≤ u.toInt ∧ u.toInt ≤ 100000) (hv : -100000 ≤ v.toInt ∧ v.toInt ≤ 100000) : (u + v).toInt = u.toInt + v.toInt := by
  rw [Int32.toInt_add]
  exact Int.bmod_eq_of_le (by omega) (by omega)
theorem mul_sm {u v : Int32} {w : Nat} (hu : u.toInt = w) (hw : w ≤ 1086) (hv : -3 ≤ v.toInt ∧ v.toInt ≤ 3) : (u * v).toInt = w * v.toInt := by
  rw [Int32.toInt_mul, hu]
  have : v.toInt = -3 ∨ v.toInt = -2 ∨ v.toInt = -1 ∨ v.toInt = 0 ∨ v.toInt = 1 ∨ v.toInt = 2 ∨ v.toInt = 3 := by omega
  rcases this with e | e | e | e | e | e | e <;> rw [e] <;> exact Int.bmod_eq_of_le (by omega) (by omega)
theorem term_int {w f c : Nat} (hw : w ≤ 6) (hc : c ≤ 5) (h0 : 1 ≤ f) (h1 : f + 1 ≤ c) : (nI w * ((2 : Int32) * nI f - nI c)).toInt = (w : Int) * (2 * f - c) ∧ -18 ≤ (w : Int) * (2 * f - c) ∧ (w : Int) * (2 * f - c) ≤ 18 := by
  have e : ((2 : Int32) * nI f - nI c).toInt = (2 * f : Int) - c := by
    show (nI 2 * nI f - nI c).toInt = _
    rw [pk_mul, pk_sub_toInt (by omega) (by omega)]
    omega
  have b : -3 ≤ (2 * f : Int) - c ∧ (2 * f : Int) - c ≤ 3 := by omega
  rw [mul_sm (w := w) (nI_int (by omega)) (by omega) (by rw [e]; exact b), e]
  refine ⟨rfl, ?_⟩
  have : (2 * f : Int) - c = -3 ∨ (2 * f : Int) - c = -2 ∨ (2 * f : Int) - c = -1 ∨ (2 * f : Int) - c = 0 ∨ (2 * f : Int) - c = 1 ∨ (2 * f : Int) - c = 2 ∨ (2 * f : Int) - c = 3 := by omega
  rcases this with e | e | e | e | e | e | e <;> rw [e] <;> omega
theorem chl_step {L f : Nat → Nat} {ax : Nat} (hB : LB L) : ∀ k, k ≤ L 14 → (∀ m, m < k → f m ≤ lnN L ax) → (-(18 * k : Int) ≤ (chl L ax f k).toInt ∧ (chl L ax f k).toInt ≤ 18 * k) ∧ ∀ j, k = j + 1 → (chl L ax f k).toInt = (chl L ax f j).toInt + (if f j = 0 then 0 else (L (86 + 3 * j) : Int) * (2 * f j - (lnN L ax + 1)))
  | 0, _, _ => ⟨by show _ ≤ (0 : Int32).toInt ∧ (0 : Int32).toInt ≤ _; rw [I_0]; omega, fun j hj => by omega⟩
  | k + 1, h, hf => by
    have ih := (chl_step (f := f) (ax := ax) hB k (by omega) (fun m hm => hf m (by omega))).1
    have hw := (hB.2.2.2.2.2.1 k (by omega)).1.2
    have hl := lnN_le hB ax
    have hk := hB.2.1.2.2.2.1
    have e : chl L ax f (k + 1) = chl L ax f k + (if f k = 0 then 0 else nI (L (86 + 3 * k)) * ((2 : Int32) * nI (f k) - nI (lnN L ax + 1))) := rfl
    by_cases c : f k = 0
    · have e1 : chl L ax f (k + 1) = chl L ax f k := by rw [e, if_pos c, Int32.add_zero]
      refine ⟨by rw [e1]; omega, fun j hj => ?_⟩
      obtain rfl : j = k := by omega
      rw [e1, if_pos c]
      omega
    · obtain ⟨t1, t2, t3⟩ := term_int (w := L (86 + 3 * k)) (f := f k) (c := lnN L ax + 1) hw (by omega) (by omega) (by have := hf k (by omega); omega)
      have e1 : (chl L ax f (k + 1)).toInt = (chl L ax f k).toInt + (L (86 + 3 * k) : Int) * (2 * f k - (lnN L ax + 1)) := by
        rw [e, if_neg c, add_sm (by omega) (by rw [t1]; omega), t1, show ((lnN L ax + 1 : Nat) : Int) = (lnN L ax : Int) + 1 by omega]
      have e2 : ((lnN L ax + 1 : Nat) : Int) = (lnN L ax : Int) + 1 := by omega
      rw [e2] at t2 t3
      refine ⟨by rw [e1]; omega, fun j hj => ?_⟩
      obtain rfl : j = k := by omega
      rw [e1, if_neg c]
theorem AchF_b {L : Nat → Nat} {A k t : Nat} {x y : Int} (hB : LB L) (hk : k ≤ L 14) (h : AchF L A k x y t) : (-(18 * k : Int) ≤ x ∧ x ≤ 18 * k) ∧ (-(18 * k : Int) ≤ y ∧ y ≤ 18 * k) ∧ t ≤ 9 * k := by
  obtain ⟨fx, fy, q1, rfl, rfl, rfl⟩ := h
  exact ⟨(chl_step hB k hk (fun m hm => (q1 m hm).1)).1, (chl_step hB k hk (fun m hm => (q1 m hm).2.1)).1, tsf_le hB k hk⟩
theorem ix_lt {x y : Int} (hx : -90 ≤ x ∧ x ≤ 90) (hy : -90 ≤ y ∧ y ≤ 90) : ix x y < 32761 := by
  unfold ix
  omega
theorem ix_dm {x y : Int} (hx : -90 ≤ x ∧ x ≤ 90) (hy : -90 ≤ y ∧ y ≤ 90) : ((ix x y / 181 : Nat) : Int) = x + 90 ∧ ((ix x y % 181 : Nat) : Int) = y + 90 := by
  unfold ix
  omega
def armI (L : Nat → Nat) (ax p : Nat) : Int := if ax = 0 then 2 * ((p % L 2 : Nat) : Int) + 1 - L 2 else 2 * ((p / L 2 : Nat) : Int) + 1 - L 3
theorem arm_int {L : Nat → Nat} {ax p : Nat} (hB : LB L) (hx : ax < 2) (hp : p < L 2 * L 3) : (arm L p (nI ax)).toInt = armI L ax p ∧ -3 ≤ armI L ax p ∧ armI L ax p ≤ 3 := by
  have hb2 := hB.1.2.2.1
  have hb3 := hB.1.2.2.2.1
  have hm : p % L 2 < L 2 := Nat.mod_lt _ (by omega)
  have hd : p / L 2 < L 3 := Nat.div_lt_of_lt_mul hp
  have hnn : 0 ≤ p / L 2 := Nat.zero_le _
  have : ax = 0 ∨ ax = 1 := by omega
  unfold arm armI
  rcases this with rfl | rfl
  · rw [if_pos (show nI 0 = 0 from rfl), if_pos rfl]
    refine ⟨?_, by omega⟩
    show (nI 2 * nI (p % L 2) + 1 - nI (L 2)).toInt = _
    rw [pk_mul, nI_1, pk_sub_toInt (by omega) (by omega)]
    omega
  · rw [if_neg (show ¬ nI 1 = 0 by decide), if_neg (by omega)]
    refine ⟨?_, by omega⟩
    show (nI 2 * nI (p / L 2) + 1 - nI (L 3)).toInt = _
    rw [pk_mul, nI_1, pk_sub_toInt (by omega) (by omega)]
    omega
/-- one more goes ashore, or on a place -/
theorem AchF_stay {L : Nat → Nat} {A k t : Nat} {x y : Int} (h : AchF L A k x y t) : AchF L A (k + 1) x y t := by
  obtain ⟨fx, fy, q1, rfl, rfl, rfl⟩ := h
  refine ⟨fun m => if m = k then 0 else fx m, fun m => if m = k then 0 else fy m, fun m hm => ?_, ?_, ?_, ?_⟩
  · by_cases e : m = k
    · show (if m = k then 0 else fx m) ≤ L 2 ∧ (if m = k then 0 else fy m) ≤ L 3 ∧ ((if m = k then 0 else fx m) = 0 ↔ (if m = k then 0 else fy m) = 0) ∧ ((if m = k then 0 else fx m) ≠ 0 → A.testBit m = false)
      rw [if_pos e, if_pos e]
      exact ⟨by omega, by omega, Iff.rfl, fun w => absurd rfl w⟩
    · simp only [if_neg e]
      exact q1 m (by omega)
  · show _ = (chl L 0 (fun m => if m = k then 0 else fx m) k + (if (if k = k then 0 else fx k) = 0 then 0 else _)).toInt
    rw [if_pos rfl, if_pos rfl, Int32.add_zero]
    exact congrArg Int32.toInt (chl_congr (fun m hm => (if_neg (by omega)).symm))
  · show _ = (chl L 1 (fun m => if m = k then 0 else fy m) k + (if (if k = k then 0 else fy k) = 0 then 0 else _)).toInt
    rw [if_pos rfl, if_pos rfl, Int32.add_zero]
    exact congrArg Int32.toInt (chl_congr (fun m hm => (if_neg (by omega)).symm))
  · show _ = tsf L (fun m => if m = k then 0 else fx m) k + (if (if k = k then 0 else fx k) = 0 then 0 else _)
    rw [if_pos rfl, if_pos rfl, Nat.add_zero]
    exact tsf_congr (fun m hm => (if_neg (by omega)).symm)
theorem AchF_go {L : Nat → Nat} {A k t p : Nat} {x y : Int} (hB : LB L) (hk : k < L 14) (hA : A.testBit k = false) (hp : p < L 2 * L 3) (h : AchF L A k x y t) :
    AchF L A (k + 1) (x + L (86 + 3 * k) * armI L 0 p) (y + L (86 + 3 * k) * armI L 1 p) (t + L (87 + 3 * k)) := by
  have hb2 := hB.1.2.2.1
  have hb3 := hB.1.2.2.2.1
  have hm : p % L 2 < L 2 := Nat.mod_lt _ (by omega)
  have hd : p / L 2 < L 3 := Nat.div_lt_of_lt_mul hp
  have hnn : 0 ≤ p / L 2 := Nat.zero_le _
  obtain ⟨fx, fy, q1, rfl, rfl, rfl⟩ := h
  have bx : ∀ m, m < k + 1 → (if m = k then p % L 2 + 1 else fx m) ≤ lnN L 0 := fun m hm => by
    show _ ≤ L 2
    split
    · omega
    · exact (q1 m (by omega)).1
  have bY : ∀ m, m < k + 1 → (if m = k then p / L 2 + 1 else fy m) ≤ lnN L 1 := fun m hm => by
    show _ ≤ L 3
    split
    · omega
    · exact (q1 m (by omega)).2.1
  refine ⟨fun m => if m = k then p % L 2 + 1 else fx m, fun m => if m = k then p / L 2 + 1 else fy m, fun m hm => ?_, ?_, ?_, ?_⟩
  · by_cases e : m = k
    · simp only [if_pos e]
      refine ⟨by omega, by omega, ⟨fun w => by omega, fun w => by omega⟩, fun _ => e ▸ hA⟩
    · simp only [if_neg e]
      exact q1 m (by omega)
  · rw [(chl_step (ax := 0) hB (k + 1) (by omega) bx).2 k rfl, if_neg (by rw [if_pos rfl]; omega), if_pos rfl, chl_congr (g := fx) (fun m hm => if_neg (by omega))]
    unfold armI lnN
    rw [if_pos rfl, if_pos rfl]
    congr 2
    omega
  · rw [(chl_step (ax := 1) hB (k + 1) (by omega) bY).2 k rfl, if_neg (by rw [if_pos rfl]; omega), if_pos rfl, chl_congr (g := fy) (fun m hm => if_neg (by omega))]
    unfold armI lnN
    rw [if_neg (by omega), if_neg (by omega)]
    congr 2
    omega
  · show _ = tsf L (fun m => if m = k then p % L 2 + 1 else fx m) k + (if (if k = k then p % L 2 + 1 else fx k) = 0 then 0 else L (87 + 3 * k))
    rw [if_neg (by rw [if_pos rfl]; omega), tsf_congr (g := fx) (fun m hm => if_neg (by omega))]
theorem AchF_inv {L : Nat → Nat} {A k t : Nat} {x y : Int} (hB : LB L) (hk : k < L 14) (h : AchF L A (k + 1) x y t) :
    AchF L A k x y t ∨ A.testBit k = false ∧ ∃ p x' y' t', p < L 2 * L 3 ∧ AchF L A k x' y' t' ∧ x = x' + L (86 + 3 * k) * armI L 0 p ∧ y = y' + L (86 + 3 * k) * armI L 1 p ∧ t = t' + L (87 + 3 * k) := by
  have hb2 := hB.1.2.2.1
  have hb3 := hB.1.2.2.2.1
  obtain ⟨fx, fy, q1, rfl, rfl, rfl⟩ := h
  have q0 : F2 L A fx fy k := fun m hm => q1 m (by omega)
  have e1 := (chl_step (f := fx) (ax := 0) hB (k + 1) (by omega) (fun m hm => (q1 m hm).1)).2 k rfl
  have e2 := (chl_step (f := fy) (ax := 1) hB (k + 1) (by omega) (fun m hm => (q1 m hm).2.1)).2 k rfl
  have e3 : tsf L fx (k + 1) = tsf L fx k + (if fx k = 0 then 0 else L (87 + 3 * k)) := rfl
  obtain ⟨k1, k2, k3, k4⟩ := q1 k (by omega)
  by_cases c : fx k = 0
  · refine Or.inl ⟨fx, fy, q0, ?_, ?_, ?_⟩
    · rw [e1, if_pos c]
      omega
    · rw [e2, if_pos (k3.mp c)]
      omega
    · rw [e3, if_pos c]
      omega
  · have c2 : ¬ fy k = 0 := fun w => c (k3.mpr w)
    have hlt : (fy k - 1) * L 2 + (fx k - 1) < L 2 * L 3 := by
      have : (fy k - 1 + 1) * L 2 ≤ L 3 * L 2 := Nat.mul_le_mul (by omega) (Nat.le_refl _)
      rw [Nat.add_mul, Nat.one_mul, Nat.mul_comm (L 3)] at this
      omega
    have em : ((fy k - 1) * L 2 + (fx k - 1)) % L 2 = fx k - 1 := by
      rw [Nat.add_comm, Nat.add_mul_mod_self_right, Nat.mod_eq_of_lt (by omega)]
    have ed : ((fy k - 1) * L 2 + (fx k - 1)) / L 2 = fy k - 1 := by
      rw [Nat.add_comm, Nat.add_mul_div_right _ _ (by omega), Nat.div_eq_of_lt (by omega), Nat.zero_add]
    refine Or.inr ⟨k4 c, (fy k - 1) * L 2 + (fx k - 1), _, _, _, hlt, ⟨fx, fy, q0, rfl, rfl, rfl⟩, ?_, ?_, ?_⟩
    · rw [e1, if_neg c]
      unfold armI lnN
      rw [if_pos rfl, if_pos rfl, em]
      congr 2
      omega
    · rw [e2, if_neg c2]
      unfold armI lnN
      rw [if_neg (by omega), if_neg (by omega), ed]
      congr 2
      omega
    · rw [e3, if_neg c]
/-- a table of numbers in a row -/
def TabN (c N : Nat) (V : Nat → Nat) (μ : zM) : Prop := ∀ J, J < N → μ c J = nI (V J) ∧ V J ≤ 1000000
def vmin (V : Nat → Nat) (j v : Nat) : Nat → Nat := fun J => if J = j then (if V j ≤ v then V j else v) else V J
theorem vmin_le {V : Nat → Nat} {j v J : Nat} : vmin V j v J ≤ V J := by
  unfold vmin
  split
  · rename_i e
    rw [e]
    split <;> omega
  · exact Nat.le_refl _
theorem vmin_at {V : Nat → Nat} {j v : Nat} : vmin V j v j ≤ v := by
  unfold vmin
  rw [if_pos rfl]
  split <;> omega
theorem vmin_or {V : Nat → Nat} {j v J : Nat} : vmin V j v J = V J ∨ J = j ∧ vmin V j v J = v := by
  unfold vmin
  split
  · rename_i e
    rw [e]
    split
    · exact Or.inl rfl
    · exact Or.inr ⟨rfl, rfl⟩
  · exact Or.inl rfl
theorem TabN.put {c N j v : Nat} {V : Nat → Nat} {μ : zM} {x : Int32} (h : TabN c N V μ) (hj : j < N) (hx : x = nI v) (hv : v < 2000000) : TabN c N (vmin V j v) (zup μ c j (if μ c j ≤ x then μ c j else x)) := by
  intro J hJ
  obtain ⟨a1, a2⟩ := h J hJ
  obtain ⟨b1, b2⟩ := h j hj
  have le : vmin V j v J ≤ V J := vmin_le
  refine ⟨?_, by omega⟩
  unfold vmin
  by_cases e : J = j
  · rw [e, zup_self, if_pos rfl, b1, hx]
    by_cases q : V j ≤ v
    · rw [if_pos q, if_pos (nI_le q (by omega))]
    · rw [if_neg q, if_neg (nI_ge (by omega) (by omega))]
  · rw [zup_ne (by omega), if_neg e]
    exact a1
theorem TabN.congr {c N : Nat} {V : Nat → Nat} {μ μ' : zM} (h : TabN c N V μ) (e : μ' c = μ c) : TabN c N V μ' := fun J hJ => by
  rw [e]
  exact h J hJ
/-- a row filled with one number -/
def Snd (L : Nat → Nat) (A k : Nat) (V : Nat → Nat) : Prop := ∀ J, J < 32761 → V J < 1000000 → ∃ x y, ix x y = J ∧ AchF L A k x y (V J)
def Cpl (L : Nat → Nat) (A k : Nat) (V : Nat → Nat) : Prop := ∀ x y t, AchF L A k x y t → V (ix x y) ≤ t
section BOARD
variable {q : Nat} {μ : zM} {L : Nat → Nat}
theorem boards53 {A k K : Nat} {V W : Nat → Nat} {x y : Int} (h : LM q μ L) (hB : LB L) (hk : k < L 14) (hA : A.testBit k = false) (hV : TabN 316 32761 V μ) (hW : TabN 317 32761 W μ) (hs : Snd L A (k + 1) W) (hK : ix x y = K) (hx : AchF L A k x y (V K)) (hm : V K < 1000000) :
    wp (f_X12_boards_L53 310 (nI k) (nI K) zFU 0 μ) (fun μ' => (∀ o, o ≠ 317 → μ' o = μ o) ∧ ∃ W', TabN 317 32761 W' μ' ∧ Snd L A (k + 1) W' ∧ (∀ J, W' J ≤ W J) ∧ ∀ p, p < L 2 * L 3 → W' (ix (x + L (86 + 3 * k) * armI L 0 p) (y + L (86 + 3 * k) * armI L 1 p)) ≤ V K + L (87 + 3 * k)) := by
  have hb5 := hB.2.1.2.2.2.1
  have hp16 := pl16 hB
  have hbd := AchF_b hB (by omega) hx
  have hK2 : K < 32761 := by rw [← hK]; exact ix_lt (by omega) (by omega)
  have hw := (hB.2.2.2.2.2.1 k hk).1.2
  have ht := (hB.2.2.2.2.2.1 k hk).2.1
  refine wlp0 (fun n p μ' => f_X12_boards_L53 310 (nI k) (nI K) n (nI p) μ') _ (L 2 * L 3) (fun p μ' => (∀ o, o ≠ 317 → μ' o = μ o) ∧ ∃ W', TabN 317 32761 W' μ' ∧ Snd L A (k + 1) W' ∧ (∀ J, W' J ≤ W J) ∧ ∀ p', p' < p → W' (ix (x + L (86 + 3 * k) * armI L 0 p') (y + L (86 + 3 * k) * armI L 1 p')) ≤ V K + L (87 + 3 * k)) (by omega) μ ⟨fun _ _ => rfl, W, hW, hs, fun _ => Nat.le_refl _, fun p' hp' => by omega⟩ ?_ ?_
  · intro n p μ1 hp ⟨f1, W1, w1, w2, w3, w4⟩ ih
    have l1 : LM q μ1 L := h.congr (f1 311 (by omega)) (by rw [f1 310 (by omega)])
    have v1 : TabN 316 32761 V μ1 := hV.congr (f1 316 (by omega))
    show wp (f_X12_boards_L53 310 (nI k) (nI K) (n + 1) (nI p) μ1) _
    rw [f_X12_boards_L53]
    obtain ⟨a1, a2, a3⟩ := arm_int (ax := 0) hB (by omega) hp
    obtain ⟨b1, b2, b3⟩ := arm_int (ax := 1) hB (by omega) hp
    have go := AchF_go hB hk hA hp hx
    have gb := AchF_b hB (by omega) go
    have hJ := ix_lt (x := x + L (86 + 3 * k) * armI L 0 p) (y := y + L (86 + 3 * k) * armI L 1 p) (by omega) (by omega)
    obtain ⟨J, hJe⟩ : ∃ J, ix (x + L (86 + 3 * k) * armI L 0 p) (y + L (86 + 3 * k) * armI L 1 p) = J := ⟨_, rfl⟩
    have eto : nI K + ((181 : Int32) * nI (L (86 + 3 * k + 0))) * arm L p 0 + nI (L (86 + 3 * k + 0)) * arm L p 1 = nI J := by
      rw [Nat.add_zero]
      apply Int32.toInt_inj.mp
      have m1 : (((181 : Int32) * nI (L (86 + 3 * k))) * arm L p (nI 0)).toInt = ((181 * L (86 + 3 * k) : Nat) : Int) * armI L 0 p := by
        rw [mul_sm (w := 181 * L (86 + 3 * k)) (by
          show (nI 181 * nI (L (86 + 3 * k))).toInt = _
          rw [pk_mul, nI_int (by omega)]) (by omega) (by rw [a1]; omega), a1]
      have m2 : (nI (L (86 + 3 * k)) * arm L p (nI 1)).toInt = (L (86 + 3 * k) : Int) * armI L 1 p := by
        rw [mul_sm (w := L (86 + 3 * k)) (nI_int (by omega)) (by omega) (by rw [b1]; omega), b1]
      have k1 : ((181 * L (86 + 3 * k) : Nat) : Int) * armI L 0 p = 181 * (L (86 + 3 * k) * armI L 0 p) := by
        rw [Int.natCast_mul, Int.mul_assoc]
        rfl
      have k2 : -18 ≤ (L (86 + 3 * k) : Int) * armI L 0 p ∧ (L (86 + 3 * k) : Int) * armI L 0 p ≤ 18 := by
        have : armI L 0 p = -3 ∨ armI L 0 p = -2 ∨ armI L 0 p = -1 ∨ armI L 0 p = 0 ∨ armI L 0 p = 1 ∨ armI L 0 p = 2 ∨ armI L 0 p = 3 := by omega
        rcases this with e | e | e | e | e | e | e <;> rw [e] <;> omega
      have k3 : -18 ≤ (L (86 + 3 * k) : Int) * armI L 1 p ∧ (L (86 + 3 * k) : Int) * armI L 1 p ≤ 18 := by
        have : armI L 1 p = -3 ∨ armI L 1 p = -2 ∨ armI L 1 p = -1 ∨ armI L 1 p = 0 ∨ armI L 1 p = 1 ∨ armI L 1 p = 2 ∨ armI L 1 p = 3 := by omega
        rcases this with e | e | e | e | e | e | e <;> rw [e] <;> omega
      rw [k1] at m1
      have n0 : (nI K).toInt = K := nI_int (by omega)
      have s1 : (nI K + ((181 : Int32) * nI (L (86 + 3 * k))) * arm L p (nI 0)).toInt = K + 181 * (L (86 + 3 * k) * armI L 0 p) := by
        rw [add_sm (by omega) (by omega), m1, n0]
      show (nI K + ((181 : Int32) * nI (L (86 + 3 * k))) * arm L p (nI 0) + nI (L (86 + 3 * k)) * arm L p (nI 1)).toInt = _
      rw [add_sm (by omega) (by omega), s1, m2, nI_int (by omega), ← hJe, ← hK]
      unfold ix
      omega
    have hJ2 : J < 32761 := by omega
    refine wp_bdE (placesM l1) (wp_ie (nI_ge hp (by omega)) (wp_bdE (ofMournerM (j := 0) l1 rfl rfl (by omega) (by omega)) (wp_bdE (armM l1 hB rfl (by omega)) (wp_bdE (ofMournerM (j := 0) l1 rfl rfl (by omega) (by omega)) (wp_bdE (armM l1 hB rfl (by omega)) (wp_ls (wp_g (zin_nI (by omega) (by omega)) (wp_bdE (ofMournerM (j := 1) l1 rfl rfl (by omega) (by omega)) ?_))))))))
    have ev : μ1 (310 + 6) K = nI (V K) := (v1 K hK2).1
    rw [eto, nI_clamp (by omega), nI_clamp (by omega), ev, nI_add, show 86 + 3 * k + 1 = 87 + 3 * k by omega]
    refine wp_ls (wp_g (zin_nI (by omega) (by omega)) (wp_ls (wp_ls (wp_ls ?_))))
    rw [nI_1]
    refine ih _ ⟨fun o ho => by rw [zup_rne _ _ _ ho]; exact f1 o ho, vmin W1 J (V K + L (87 + 3 * k)), w1.put (c := 317) hJ2 rfl (by omega), fun I hI hlt => ?_, fun I => Nat.le_trans vmin_le (w3 I), fun p' hp' => ?_⟩
    · rcases vmin_or (V := W1) (j := J) (v := V K + L (87 + 3 * k)) (J := I) with e | ⟨e1, e2⟩
      · rw [e] at hlt ⊢
        exact w2 I hI hlt
      · rw [e2, e1]
        exact ⟨_, _, hJe, go⟩
    · by_cases e : p' = p
      · rw [e, hJe]
        exact vmin_at
      · exact Nat.le_trans vmin_le (w4 p' (by omega))
  · intro n μ1 ⟨f1, hI⟩
    have l1 : LM q μ1 L := h.congr (f1 311 (by omega)) (by rw [f1 310 (by omega)])
    show wp (f_X12_boards_L53 310 (nI k) (nI K) (n + 1) (nI (L 2 * L 3)) μ1) _
    rw [f_X12_boards_L53]
    exact wp_bdE (placesM l1) (wp_it (nI_le (Nat.le_refl _) (by omega)) (wp_some ⟨f1, hI⟩))
theorem boardsM {A k : Nat} {V : Nat → Nat} (h : LM q μ L) (hB : LB L) (hk : k < L 14) (hA : A.testBit k = false) (hV : TabN 316 32761 V μ) (hs : Snd L A k V) (hc : Cpl L A k V) :
    wp (f_X12_boards 310 (nI k) μ) (fun μ' => (∀ o, o ≠ 316 → o ≠ 317 → μ' o = μ o) ∧ ∃ V', TabN 316 32761 V' μ' ∧ Snd L A (k + 1) V' ∧ Cpl L A (k + 1) V') := by
  have hb5 := hB.2.1.2.2.2.1
  unfold f_X12_boards
  refine wp_bdQ (Q := fun μ' => (∀ o, o ≠ 317 → μ' o = μ o) ∧ TabN 317 32761 V μ') ?_ (fun μ1 ⟨f1, t1⟩ => ?_)
  · refine wlp0 (fun n K μ' => f_X12_boards_L2 310 (nI k) n (nI K) μ') _ 32761 (fun K μ' => (∀ o, o ≠ 317 → μ' o = μ o) ∧ TabN 317 K V μ') (by omega) μ ⟨fun _ _ => rfl, fun J hJ => by omega⟩ ?_ ?_
    · intro n K μ1 hK ⟨i1, i2⟩ ih
      have e : μ1 (310 + 6) K = nI (V K) := by
        show μ1 316 K = _
        rw [i1 316 (by omega)]
        exact (hV K hK).1
      show wp (f_X12_boards_L2 310 (nI k) (n + 1) (nI K) μ1) _
      rw [f_X12_boards_L2, nI_clamp (by omega), e]
      refine wp_ie (nI_ge (b := 32761) hK (by omega)) (wp_g (zin_nI (by omega) (by omega)) (wp_ls (wp_ls ?_)))
      rw [nI_1]
      refine ih _ ⟨fun o ho => by rw [zup_rne _ _ _ ho]; exact i1 o ho, fun J hJ => ?_⟩
      by_cases e' : J = K
      · rw [e']
        exact ⟨zup_self _ _ _ _, (hV K hK).2⟩
      · rw [zup_ne (by omega)]
        exact i2 J (by omega)
    · intro n μ1 hI
      show wp (f_X12_boards_L2 310 (nI k) (n + 1) (nI 32761) μ1) _
      rw [f_X12_boards_L2]
      exact wp_it (nI_le (a := 32761) (Nat.le_refl _) (by omega)) (wp_some hI)
  · refine wp_bdQ (Q := fun μ' => (∀ o, o ≠ 317 → μ' o = μ o) ∧ ∃ W, TabN 317 32761 W μ' ∧ Snd L A (k + 1) W ∧ Cpl L A (k + 1) W) ?_ (fun μ2 ⟨f2, W, t2, s2, c2⟩ => ?_)
    · refine wlp0 (fun n K μ' => f_X12_boards_L29 310 (nI k) n (nI K) μ') _ 32761 (fun K μ' => (∀ o, o ≠ 317 → μ' o = μ o) ∧ ∃ W, TabN 317 32761 W μ' ∧ Snd L A (k + 1) W ∧ (∀ J, W J ≤ V J) ∧ ∀ x y t, AchF L A k x y t → ix x y < K → ∀ p, p < L 2 * L 3 → W (ix (x + L (86 + 3 * k) * armI L 0 p) (y + L (86 + 3 * k) * armI L 1 p)) ≤ t + L (87 + 3 * k)) (by omega) μ1 ⟨f1, V, t1, fun J hJ hlt => ?_, fun _ => Nat.le_refl _, fun x y t _ hlt => by omega⟩ ?_ ?_
      · obtain ⟨x, y, e1, e2⟩ := hs J hJ hlt
        exact ⟨x, y, e1, AchF_stay e2⟩
      · intro n K μ3 hK ⟨f3, W, t3, s3, m3, d3⟩ ih
        have v3 : TabN 316 32761 V μ3 := hV.congr (f3 316 (by omega))
        have l3 : LM q μ3 L := h.congr (f3 311 (by omega)) (by rw [f3 310 (by omega)])
        have e : μ3 (310 + 6) K = nI (V K) := (v3 K hK).1
        show wp (f_X12_boards_L29 310 (nI k) (n + 1) (nI K) μ3) _
        rw [f_X12_boards_L29, nI_clamp (by omega), e]
        refine wp_ie (nI_ge (b := 32761) hK (by omega)) (wp_g (zin_nI (by omega) (by omega)) ?_)
        have hv := (v3 K hK).2
        by_cases c : V K < 1000000
        · obtain ⟨x, y, e1, e2⟩ := hs K hK c
          refine wp_bd (wp_it (nI_lt (b := 1000000) c (by omega)) (wp_bdQ (boards53 l3 hB hk hA v3 t3 s3 e1 e2 c) fun μ4 ⟨f4, W4, t4, s4, m4, d4⟩ => wp_some (wp_ls ?_)))
          rw [nI_1]
          refine ih _ ⟨fun o ho => (f4 o ho).trans (f3 o ho), W4, t4, s4, fun J => Nat.le_trans (m4 J) (m3 J), fun x' y' t' h1 h2 p hp => ?_⟩
          by_cases e' : ix x' y' = K
          · have b1 := AchF_b hB (by omega) h1
            have b2 := AchF_b hB (by omega) e2
            have p1 := ix_dm (x := x) (y := y) (by omega) (by omega)
            have p2 := ix_dm (x := x') (y := y') (by omega) (by omega)
            rw [e1] at p1
            rw [e'] at p2
            have ex : x' = x := by omega
            have ey : y' = y := by omega
            have := d4 p hp
            have := hc x' y' t' h1
            rw [e'] at this
            rw [ex, ey]
            omega
          · exact Nat.le_trans (m4 _) (d3 x' y' t' h1 (by omega) p hp)
        · refine wp_bd (wp_ie (fun w => nI_nlt (b := 1000000) (a := V K) (by omega) (by omega) w) (wp_some (wp_ls ?_)))
          rw [nI_1]
          refine ih _ ⟨f3, W, t3, s3, m3, fun x' y' t' h1 h2 p hp => ?_⟩
          by_cases e' : ix x' y' = K
          · have := hc x' y' t' h1
            have b1 := AchF_b hB (by omega) h1
            rw [e'] at this
            omega
          · exact d3 x' y' t' h1 (by omega) p hp
      · intro n μ3 ⟨f3, W, t3, s3, m3, d3⟩
        show wp (f_X12_boards_L29 310 (nI k) (n + 1) (nI 32761) μ3) _
        rw [f_X12_boards_L29]
        refine wp_it (nI_le (a := 32761) (Nat.le_refl _) (by omega)) (wp_some ⟨f3, W, t3, s3, fun x y t ht => ?_⟩)
        rcases AchF_inv hB hk ht with w | ⟨_, p, x', y', t', p1, p2, rfl, rfl, rfl⟩
        · exact Nat.le_trans (m3 _) (hc x y t w)
        · have b1 := AchF_b hB (by omega) p2
          exact d3 x' y' t' p2 (ix_lt (by omega) (by omega)) p p1
    · refine wp_bdQ (Q := fun μ' => (∀ o, o ≠ 316 → μ' o = μ2 o) ∧ TabN 316 32761 W μ') ?_ (fun μ4 ⟨f4, t4⟩ => wp_some ⟨fun o h1 h2 => (f4 o h1).trans (f2 o h2), W, t4, s2, c2⟩)
      refine wlp0 (fun n K μ' => f_X12_boards_L156 310 n (nI K) μ') _ 32761 (fun K μ' => (∀ o, o ≠ 316 → μ' o = μ2 o) ∧ TabN 316 K W μ') (by omega) μ2 ⟨fun _ _ => rfl, fun J hJ => by omega⟩ ?_ ?_
      · intro n K μ1 hK ⟨i1, i2⟩ ih
        have e : μ1 (310 + 7) K = nI (W K) := by
          show μ1 317 K = _
          rw [i1 317 (by omega)]
          exact (t2 K hK).1
        show wp (f_X12_boards_L156 310 (n + 1) (nI K) μ1) _
        rw [f_X12_boards_L156, nI_clamp (by omega), e]
        refine wp_ie (nI_ge (b := 32761) hK (by omega)) (wp_g (zin_nI (by omega) (by omega)) (wp_ls (wp_ls ?_)))
        rw [nI_1]
        refine ih _ ⟨fun o ho => by rw [zup_rne _ _ _ ho]; exact i1 o ho, fun J hJ => ?_⟩
        by_cases e' : J = K
        · rw [e']
          exact ⟨zup_self _ _ _ _, (t2 K hK).2⟩
        · rw [zup_ne (by omega)]
          exact i2 J (by omega)
      · intro n μ1 hI
        show wp (f_X12_boards_L156 310 (n + 1) (nI 32761) μ1) _
        rw [f_X12_boards_L156]
        exact wp_it (nI_le (a := 32761) (Nat.le_refl _) (by omega)) (wp_some hI)
theorem AchF_skip {A k t : Nat} {x y : Int} (hB : LB L) (hk : k < L 14) (hA : A.testBit k = true) : AchF L A (k + 1) x y t ↔ AchF L A k x y t := by
  refine ⟨fun h => (AchF_inv hB hk h).elim id (fun w => ?_), AchF_stay⟩
  rw [hA] at w
  exact absurd w.1 (by decide)
/-- whom the reference leaves ashore -/
def butOk (v : Int32) (A : Nat) : Prop := ∀ m : Nat, m < 5 → (nI m = v ↔ A.testBit m = true)
theorem pricesM {A : Nat} {v : Int32} (h : LM q μ L) (hB : LB L) (hv : butOk v A) :
    wp (f_X12_prices 310 v μ) (fun μ' => (∀ o, o ≠ 316 → o ≠ 317 → o ≠ 318 → μ' o = μ o) ∧ ∃ C, TabN 318 9 C μ' ∧ ∀ d, d < 9 → LeN (Ptear L A (d / 3) (d % 3)) 1000000 (nI (C d))) := by
  have hb5 := hB.2.1.2.2.2.1
  unfold f_X12_prices
  refine wp_bdQ (Q := fun μ' => (∀ o, o ≠ 316 → μ' o = μ o) ∧ TabN 316 32761 (fun _ => 1000000) μ') ?_ (fun μ1 ⟨f1, t1⟩ => ?_)
  · refine wlp0 (fun n K μ' => f_X12_prices_L2 310 v n (nI K) μ') _ 32761 (fun K μ' => (∀ o, o ≠ 316 → μ' o = μ o) ∧ TabN 316 K (fun _ => 1000000) μ') (by omega) μ ⟨fun _ _ => rfl, fun J hJ => by omega⟩ ?_ ?_
    · intro n K μ1 hK ⟨i1, i2⟩ ih
      show wp (f_X12_prices_L2 310 v (n + 1) (nI K) μ1) _
      rw [f_X12_prices_L2, nI_clamp (by omega)]
      refine wp_ie (nI_ge (b := 32761) hK (by omega)) (wp_g (zin_nI (by omega) (by omega)) (wp_ls (wp_ls ?_)))
      rw [nI_1]
      refine ih _ ⟨fun o ho => by rw [zup_rne _ _ _ ho]; exact i1 o ho, fun J hJ => ?_⟩
      by_cases e' : J = K
      · rw [e']
        exact ⟨zup_self _ _ _ _, Nat.le_refl _⟩
      · rw [zup_ne (by omega)]
        exact i2 J (by omega)
    · intro n μ1 hI
      show wp (f_X12_prices_L2 310 v (n + 1) (nI 32761) μ1) _
      rw [f_X12_prices_L2]
      exact wp_it (nI_le (a := 32761) (Nat.le_refl _) (by omega)) (wp_some hI)
  · refine wp_ls ?_
    have t2 : TabN 316 32761 (fun J => if J = 16380 then 0 else 1000000) (zup μ1 316 16380 0) := fun J hJ => by
      by_cases e : J = 16380
      · rw [e, zup_self]
        exact ⟨rfl, by show (if 16380 = 16380 then 0 else 1000000) ≤ _; rw [if_pos rfl]; omega⟩
      · rw [zup_ne (by omega)]
        show _ = nI (if J = 16380 then 0 else 1000000) ∧ (if J = 16380 then 0 else 1000000) ≤ _
        rw [if_neg e]
        exact t1 J hJ
    have a0 : ∀ x y t, AchF L A 0 x y t ↔ x = 0 ∧ y = 0 ∧ t = 0 := fun x y t => by
      refine ⟨fun ⟨fx, fy, _, h1, h2, h3⟩ => ⟨h1.trans I_0, h2.trans I_0, h3⟩, fun ⟨h1, h2, h3⟩ => ⟨fun _ => 0, fun _ => 0, fun m hm => by omega, h1.trans I_0.symm, h2.trans I_0.symm, h3⟩⟩
    refine wp_bdQ (Q := fun μ' => (∀ o, o ≠ 316 → o ≠ 317 → μ' o = μ o) ∧ ∃ V, TabN 316 32761 V μ' ∧ Snd L A (L 14) V ∧ Cpl L A (L 14) V) ?_ (fun μ3 ⟨f3, V, t3, s3, c3⟩ => ?_)
    · refine wlp0 (fun n k μ' => f_X12_prices_L35 310 v n (nI k) μ') _ (L 14) (fun k μ' => (∀ o, o ≠ 316 → o ≠ 317 → μ' o = μ o) ∧ ∃ V, TabN 316 32761 V μ' ∧ Snd L A k V ∧ Cpl L A k V) (by omega) (zup μ1 316 16380 0) ⟨fun o h1 h2 => by rw [zup_rne _ _ _ h1]; exact f1 o h1, _, t2, fun J hJ hlt => ?_, fun x y t ht => ?_⟩ ?_ ?_
      · by_cases e : J = 16380
        · refine ⟨0, 0, by rw [e]; decide, (a0 _ _ _).mpr ⟨rfl, rfl, if_pos e⟩⟩
        · have hlt : (if J = 16380 then 0 else 1000000) < 1000000 := hlt
          rw [if_neg e] at hlt
          omega
      · obtain ⟨rfl, rfl, rfl⟩ := (a0 _ _ _).mp ht
        show (if ix 0 0 = 16380 then 0 else 1000000) ≤ 0
        rw [if_pos (by decide)]
        omega
      · intro n k μ4 hk ⟨f4, V, t4, s4, c4⟩ ih
        have l4 : LM q μ4 L := h.congr (f4 311 (by omega) (by omega)) (by rw [f4 310 (by omega) (by omega)])
        show wp (f_X12_prices_L35 310 v (n + 1) (nI k) μ4) _
        rw [f_X12_prices_L35]
        refine wp_bdE (mournersM l4) (wp_ie (nI_ge hk (by omega)) ?_)
        by_cases c : A.testBit k = true
        · refine wp_bd (wp_it ((hv k (by omega)).mpr c) (wp_some (wp_ls ?_)))
          rw [nI_1]
          refine ih _ ⟨f4, V, t4, fun J hJ hlt => ?_, fun x y t ht => c4 x y t ((AchF_skip hB hk c).mp ht)⟩
          obtain ⟨x, y, e1, e2⟩ := s4 J hJ hlt
          exact ⟨x, y, e1, AchF_stay e2⟩
        · refine wp_bd (wp_ie (fun w => c ((hv k (by omega)).mp w)) (wp_bdQ (boardsM l4 hB hk (Bool.eq_false_iff.mpr c) t4 s4 c4) fun μ5 ⟨f5, V5, t5, s5, c5⟩ => wp_some (wp_ls ?_)))
          rw [nI_1]
          exact ih _ ⟨fun o h1 h2 => (f5 o h1 h2).trans (f4 o h1 h2), V5, t5, s5, c5⟩
      · intro n μ4 ⟨f4, hI⟩
        have l4 : LM q μ4 L := h.congr (f4 311 (by omega) (by omega)) (by rw [f4 310 (by omega) (by omega)])
        show wp (f_X12_prices_L35 310 v (n + 1) (nI (L 14)) μ4) _
        rw [f_X12_prices_L35]
        exact wp_bdE (mournersM l4) (wp_it (nI_le (Nat.le_refl _) (by omega)) (wp_some ⟨f4, hI⟩))
    · refine wp_bdQ (Q := fun μ' => (∀ o, o ≠ 318 → μ' o = μ3 o) ∧ TabN 318 9 (fun _ => 1000000) μ') ?_ (fun μ4 ⟨f4, t4⟩ => ?_)
      · refine wlp0 (fun n K μ' => f_X12_prices_L61 310 n (nI K) μ') _ 9 (fun K μ' => (∀ o, o ≠ 318 → μ' o = μ3 o) ∧ TabN 318 K (fun _ => 1000000) μ') (by omega) μ3 ⟨fun _ _ => rfl, fun J hJ => by omega⟩ ?_ ?_
        · intro n K μ5 hK ⟨i1, i2⟩ ih
          show wp (f_X12_prices_L61 310 (n + 1) (nI K) μ5) _
          rw [f_X12_prices_L61, nI_clamp (by omega)]
          refine wp_ie (nI_ge (b := 9) hK (by omega)) (wp_g (zin_nI (by omega) (by omega)) (wp_ls (wp_ls ?_)))
          rw [nI_1]
          refine ih _ ⟨fun o ho => by rw [zup_rne _ _ _ ho]; exact i1 o ho, fun J hJ => ?_⟩
          by_cases e' : J = K
          · rw [e']
            exact ⟨zup_self _ _ _ _, Nat.le_refl _⟩
          · rw [zup_ne (by omega)]
            exact i2 J (by omega)
        · intro n μ5 hI
          show wp (f_X12_prices_L61 310 (n + 1) (nI 9) μ5) _
          rw [f_X12_prices_L61]
          exact wp_it (nI_le (a := 9) (Nat.le_refl _) (by omega)) (wp_some hI)
      · have f4' : ∀ o, o ≠ 316 → o ≠ 317 → o ≠ 318 → μ4 o = μ o := fun o h1 h2 h3 => (f4 o h3).trans (f3 o h1 h2)
        have l4 : LM q μ4 L := h.congr (f4' 311 (by omega) (by omega) (by omega)) (by rw [f4' 310 (by omega) (by omega) (by omega)])
        have v4 : TabN 316 32761 V μ4 := t3.congr (f4 316 (by omega))
        refine wp_bdE (glM l4 hB) (wp_bdE (glM l4 hB) ?_)
        rw [glB_none hB, glB_none hB]
        -- what a sum is, as LEANS
        have lz : ∀ x y t, AchF L A (L 14) x y t → ∃ fx fy, F2 L A fx fy (L 14) ∧ t = tsf L fx (L 14) ∧ (gl L 0 + nI (ix x y / 181)) - 90 = gl L 0 + chl L 0 fx (L 14) ∧ (gl L 1 + nI (ix x y % 181)) - 90 = gl L 1 + chl L 1 fy (L 14) := by
          intro x y t ht
          have hb := AchF_b hB (Nat.le_refl _) ht
          obtain ⟨d1, d2⟩ := ix_dm (x := x) (y := y) (by omega) (by omega)
          obtain ⟨fx, fy, q1, q2, q3, q4⟩ := ht
          have go : ∀ (u v : Int32) (j : Nat), j < 200 → (j : Int) = v.toInt + 90 → (u + nI j) - 90 = u + v := fun u v j hj e => by
            have e2 : nI j - nI 90 = v := by
              apply Int32.toInt_inj.mp
              rw [pk_sub_toInt (by omega) (by omega)]
              omega
            rw [← e2]
            show (u + nI j) - nI 90 = u + (nI j - nI 90)
            generalize nI j = a
            generalize nI 90 = b
            grind
          exact ⟨fx, fy, q1, q4, go _ _ _ (by omega) (by rw [d1, q2]), go _ _ _ (by omega) (by rw [d2, q3])⟩
        refine wp_bdQ (Q := fun μ' => (∀ o, o ≠ 318 → μ' o = μ4 o) ∧ ∃ C, TabN 318 9 C μ' ∧ (∀ d, d < 9 → C d < 1000000 → Ptear L A (d / 3) (d % 3) (C d)) ∧ ∀ d t, d < 9 → Ptear L A (d / 3) (d % 3) t → C d ≤ t) ?_ (fun μ5 ⟨f5, C, t5, s5, c5⟩ => wp_some ⟨fun o h1 h2 h3 => (f5 o h3).trans (f4' o h1 h2 h3), C, t5, fun d hd => ?_⟩)
        · refine wlp0 (fun n K μ' => f_X12_prices_L99 310 (gl L 0) (gl L 1) n (nI K) μ') _ 32761 (fun K μ' => (∀ o, o ≠ 318 → μ' o = μ4 o) ∧ ∃ C, TabN 318 9 C μ' ∧ (∀ d, d < 9 → C d < 1000000 → Ptear L A (d / 3) (d % 3) (C d)) ∧ ∀ fx fy, F2 L A fx fy (L 14) → ix (chl L 0 fx (L 14)).toInt (chl L 1 fy (L 14)).toInt < K → C (3 * chL L 0 fx + chL L 1 fy) ≤ tsf L fx (L 14)) (by omega) μ4 ⟨fun _ _ => rfl, _, t4, fun d hd hlt => by omega, fun _ _ _ w => by omega⟩ ?_ ?_
          · intro n K μ5 hK ⟨f5, C, t5, s5, c5⟩ ih
            have l5 : LM q μ5 L := l4.congr (f5 311 (by omega)) (by rw [f5 310 (by omega)])
            have v5 : TabN 316 32761 V μ5 := v4.congr (f5 316 (by omega))
            have e : μ5 (310 + 6) K = nI (V K) := (v5 K hK).1
            have hv5 := (v5 K hK).2
            have ed : nI K / (181 : Int32) = nI (K / 181) := by
              show nI K / nI 181 = _
              exact pk_div (by omega) (by omega) (by omega)
            have er : nI K % (181 : Int32) = nI (K % 181) := by
              show nI K % nI 181 = _
              exact nI_rem (by omega) (by omega) (by omega)
            show wp (f_X12_prices_L99 310 (gl L 0) (gl L 1) (n + 1) (nI K) μ5) _
            rw [f_X12_prices_L99, nI_clamp (by omega), e, ed, er]
            refine wp_ie (nI_ge (b := 32761) hK (by omega)) (wp_g (zin_nI (by omega) (by omega)) ?_)
            by_cases c : V K < 1000000
            · obtain ⟨x, y, e1, e2⟩ := s3 K hK c
              obtain ⟨fx, fy, q1, q2, q3, q4⟩ := lz x y _ e2
              rw [e1] at q3 q4
              have ex := lnx_ok L (gl L 0 + chl L 0 fx (L 14))
              have ey := lnx_ok L (gl L 1 + chl L 1 fy (L 14))
              have cx : lnx (leanS L (gl L 0 + chl L 0 fx (L 14))) = chL L 0 fx := rfl
              have cy : lnx (leanS L (gl L 1 + chl L 1 fy (L 14))) = chL L 1 fy := rfl
              rw [cx] at ex
              rw [cy] at ey
              refine wp_bd (wp_it (nI_lt (b := 1000000) c (by omega)) (wp_bdE (leanM l5) (wp_bdE (leanM l5) ?_)))
              have e45 : ((3 : Int32) * (leanS L ((gl L 0 + nI (K / 181)) - 90) + 1)) + leanS L ((gl L 1 + nI (K % 181)) - 90) + 1 = nI (3 * chL L 0 fx + chL L 1 fy) := by
                rw [q3, q4, ex.2, Int32.add_assoc, ey.2]
                show nI 3 * nI _ + nI _ = _
                rw [pk_mul, nI_add]
              rw [e45]
              have hd : 3 * chL L 0 fx + chL L 1 fy < 9 := by omega
              refine wp_ls (wp_g (zin_nI (by omega) (by omega)) (wp_ls (wp_ls (wp_some (wp_ls ?_)))))
              rw [nI_clamp (by omega), nI_1]
              have pt : Ptear L A ((3 * chL L 0 fx + chL L 1 fy) / 3) ((3 * chL L 0 fx + chL L 1 fy) % 3) (V K) := by
                refine ⟨fx, fy, q1, by omega, by omega, q2⟩
              refine ih _ ⟨fun o ho => by rw [zup_rne _ _ _ ho]; exact f5 o ho, vmin C (3 * chL L 0 fx + chL L 1 fy) (V K), t5.put (c := 318) hd rfl (by omega), fun d hd' hlt => ?_, fun gx gy w1 w2 => ?_⟩
              · rcases vmin_or (V := C) (j := 3 * chL L 0 fx + chL L 1 fy) (v := V K) (J := d) with e' | ⟨e1', e2'⟩
                · rw [e'] at hlt ⊢
                  exact s5 d hd' hlt
                · rw [e2', e1']
                  exact pt
              · by_cases e' : ix (chl L 0 gx (L 14)).toInt (chl L 1 gy (L 14)).toInt = K
                · obtain ⟨hx, hy, h1, h2, h3, h4⟩ := lz _ _ _ (⟨gx, gy, w1, rfl, rfl, rfl⟩ : AchF L A (L 14) (chl L 0 gx (L 14)).toInt (chl L 1 gy (L 14)).toInt (tsf L gx (L 14)))
                  have b1 := AchF_b hB (Nat.le_refl _) (⟨gx, gy, w1, rfl, rfl, rfl⟩ : AchF L A (L 14) (chl L 0 gx (L 14)).toInt (chl L 1 gy (L 14)).toInt (tsf L gx (L 14)))
                  have b2 := AchF_b hB (Nat.le_refl _) e2
                  have p1 := ix_dm (x := x) (y := y) (by omega) (by omega)
                  have p2 := ix_dm (x := (chl L 0 gx (L 14)).toInt) (y := (chl L 1 gy (L 14)).toInt) (by omega) (by omega)
                  rw [e1] at p1
                  rw [e'] at p2
                  have gx1 : gl L 0 + chl L 0 gx (L 14) = gl L 0 + chl L 0 fx (L 14) := by
                    have u1 : nI (K / 181) - 90 = chl L 0 gx (L 14) := by
                      apply Int32.toInt_inj.mp
                      show (nI (K / 181) - nI 90).toInt = _
                      rw [pk_sub_toInt (by omega) (by omega)]
                      omega
                    rw [← q3, ← u1]
                    generalize nI (K / 181) = a
                    generalize gl L 0 = b
                    grind
                  have gy1 : gl L 1 + chl L 1 gy (L 14) = gl L 1 + chl L 1 fy (L 14) := by
                    have u1 : nI (K % 181) - 90 = chl L 1 gy (L 14) := by
                      apply Int32.toInt_inj.mp
                      show (nI (K % 181) - nI 90).toInt = _
                      rw [pk_sub_toInt (by omega) (by omega)]
                      omega
                    rw [← q4, ← u1]
                    generalize nI (K % 181) = a
                    generalize gl L 1 = b
                    grind
                  have ce : chL L 0 gx = chL L 0 fx := congrArg (fun v => lnx (leanS L v)) gx1
                  have de : chL L 1 gy = chL L 1 fy := congrArg (fun v => lnx (leanS L v)) gy1
                  rw [ce, de]
                  have := c3 _ _ _ (⟨gx, gy, w1, rfl, rfl, rfl⟩ : AchF L A (L 14) (chl L 0 gx (L 14)).toInt (chl L 1 gy (L 14)).toInt (tsf L gx (L 14)))
                  rw [e'] at this
                  exact Nat.le_trans vmin_at this
                · exact Nat.le_trans vmin_le (c5 gx gy w1 (by omega))
            · refine wp_bd (wp_ie (fun w => nI_nlt (b := 1000000) (a := V K) (by omega) (by omega) w) (wp_some (wp_ls ?_)))
              rw [nI_1]
              refine ih _ ⟨f5, C, t5, s5, fun gx gy w1 w2 => ?_⟩
              by_cases e' : ix (chl L 0 gx (L 14)).toInt (chl L 1 gy (L 14)).toInt = K
              · have := c3 _ _ _ (⟨gx, gy, w1, rfl, rfl, rfl⟩ : AchF L A (L 14) (chl L 0 gx (L 14)).toInt (chl L 1 gy (L 14)).toInt (tsf L gx (L 14)))
                rw [e'] at this
                have := tsf_le (f := gx) hB (L 14) (Nat.le_refl _)
                omega
              · exact c5 gx gy w1 (by omega)
          · intro n μ5 ⟨f5, C, t5, s5, c5⟩
            show wp (f_X12_prices_L99 310 (gl L 0) (gl L 1) (n + 1) (nI 32761) μ5) _
            rw [f_X12_prices_L99]
            refine wp_it (nI_le (a := 32761) (Nat.le_refl _) (by omega)) (wp_some ⟨f5, C, t5, s5, fun d t hd ⟨fx, fy, q1, q2, q3, q4⟩ => ?_⟩)
            have b1 := AchF_b hB (Nat.le_refl _) (⟨fx, fy, q1, rfl, rfl, rfl⟩ : AchF L A (L 14) (chl L 0 fx (L 14)).toInt (chl L 1 fy (L 14)).toInt (tsf L fx (L 14)))
            have := c5 fx fy q1 (ix_lt (by omega) (by omega))
            rw [q2, q3, show 3 * (d / 3) + d % 3 = d by omega] at this
            omega
        · by_cases c : C d < 1000000
          · exact Or.inl ⟨C d, s5 d hd c, rfl, fun t' ht' => c5 d t' hd ht'⟩
          · have := (t5 d hd).2
            refine Or.inr ⟨fun t ht => ?_, by rw [show C d = 1000000 by omega]; rfl⟩
            have h1 := c5 d t hd ht
            have h2 := Ptear_le hB ht
            omega
end BOARD
theorem butOk_none : butOk (-1) 0 := fun m hm => by
  rw [Nat.zero_testBit]
  exact ⟨fun w => absurd w (nI_nm1 (by omega)), fun w => absurd w (by decide)⟩
theorem butOk_one {j : Nat} (hj : j < 5) : butOk (nI j) (2 ^ j) := fun m hm => by
  rw [Nat.testBit_two_pow, decide_eq_true_eq]
  refine ⟨fun w => ?_, fun w => by rw [w]⟩
  rw [← nI_clamp (n := m) (by omega), w, nI_clamp (by omega)]
theorem I_n1 {v : Int32} (h : ¬ v < -1) (h2 : ¬ (1 : Int32) < v) : ∃ i : Nat, i < 3 ∧ v + 1 = nI i ∧ v = nI i - 1 := by
  rw [I_lt] at h h2
  have e1 : (-1 : Int32).toInt = -1 := by decide
  have e2 : (1 : Int32).toInt = 1 := by decide
  have : v.toInt = -1 ∨ v.toInt = 0 ∨ v.toInt = 1 := by omega
  rcases this with e | e | e
  · have : v = -1 := Int32.toInt_inj.mp (e.trans e1.symm)
    subst this
    exact ⟨0, by omega, by decide, by decide⟩
  · have : v = 0 := Int32.toInt_inj.mp (e.trans I_0.symm)
    subst this
    exact ⟨1, by omega, by decide, by decide⟩
  · have : v = 1 := Int32.toInt_inj.mp (e.trans e2.symm)
    subst this
    exact ⟨2, by omega, by decide, by decide⟩
theorem LeN.both {P : Nat → Prop} {a v w : Int32} (h : LeN P (-1) v) (k : LeN P 1000000 w) (hP : ∀ t, P t → t < 1000000) (ha : a = (if (1000000 : Int32) ≤ w then -1 else w)) : a = v := by
  rw [ha]
  rcases h with ⟨t, h1, h2, h3⟩ | ⟨h1, h2⟩
  · rcases k with ⟨u, k1, k2, k3⟩ | ⟨k1, k2⟩
    · have := h3 u k1
      have := k3 t h1
      have := hP t h1
      have hn : ¬ (1000000 : Int32) ≤ nI u := nI_ge (b := 1000000) (by omega) (by omega)
      rw [k2, if_neg hn, h2, show u = t by omega]
    · exact absurd h1 (k1 t)
  · rcases k with ⟨u, k1, k2, k3⟩ | ⟨k1, k2⟩
    · exact absurd k1 (h1 u)
    · rw [k2, if_pos (by decide), h2]
theorem cost_same (v1 v2 v3 : Int32) : Same (f_X11_cost 0 v1 v2 v3) (f_X12_cost 310 v1 v2 v3) := by
  refine Same.of fun μ hI => ?_
  unfold f_X11_cost
  rcases lake_cases hI v1 with ⟨k, L, hk, hL, e1, e2⟩ | ⟨e1, e2⟩
  · have z1 : zgn (6 + 15 * k) 1 = true := by unfold zgn; rw [zlk_kd k hk]; rfl
    refine wp_bdE e1 (wp_bd (wp_cs (wp_g z1 ?_)))
    by_cases c : (¬ (v2 < (-1 : Int32))) ∧ ((¬ ((1 : Int32) < v2)) ∧ ((¬ (v3 < (-1 : Int32))) ∧ (v3 ≤ (1 : Int32))))
    · refine wp_it c ?_
      have cr : (¬ ((1 : Int32) = 0)) ∧ ((¬ ((f_X12_isIn v2 (-1 : Int32) (1 : Int32)) = 0)) ∧ (¬ (f_X12_isIn v3 (-1 : Int32) (1 : Int32)) = 0)) := ⟨by decide, inY.mpr ⟨c.1, c.2.1⟩, inY.mpr ⟨c.2.2.1, Int32.not_lt.mpr c.2.2.2⟩⟩
      obtain ⟨i, i1, i2, i3⟩ := I_n1 c.1 c.2.1
      obtain ⟨j, j1, j2, j3⟩ := I_n1 c.2.2.1 (Int32.not_lt.mpr c.2.2.2)
      refine wp_bdQ (weighC hL.2.1 (by omega)) fun μ' ⟨f, _, _, g⟩ => ?_
      have ed : f_X0_driftOf v2 v3 = nI (3 * j + i) := by
        unfold f_X0_driftOf
        rw [j2, Int32.add_assoc, i2]
        show nI j * nI 3 + nI i = _
        rw [pk_mul, nI_add, Nat.mul_comm]
      have er : ((3 : Int32) * (v2 + (1 : Int32))) + v3 + (1 : Int32) = nI (3 * i + j) := by
        rw [i2, Int32.add_assoc, j2]
        show nI 3 * nI i + nI j = _
        rw [pk_mul, nI_add]
      have kp : KP μ μ' := fun o ho => f o (by omega) (by omega)
      have h311 : μ' 311 = μ 311 := kp 311 (by omega)
      unfold f_X0_priceOf
      rw [ed, nI_clamp (by omega)]
      refine wp_bd (wp_g (zin_nI (by omega) (by omega)) (wp_some (wp_some (wp_suml (wp_some ⟨kp, ?_⟩)))))
      have l2 : LM (610 + 109 * k) (zup μ' 310 10 (nI (610 + 109 * k))) L := ⟨by omega, zup_self _ _ _ _, fun i hi => by rw [zup_ne (by omega), h311]; exact hL.2.2 i hi⟩
      show wp (f_X12_cost 310 v1 v2 v3 μ') _
      unfold f_X12_cost
      rw [er, nI_clamp (by omega)]
      refine wp_bd2 (wp_of (e2 μ' h311) (wp_it cr (wp_bdQ (pricesM (A := 0) l2 hL.1.1 butOk_none) fun μ2 ⟨f2, C, t2, g2⟩ => wp_g (zin_nI (by omega) (by omega)) (wp_ls (wp_ls (wp_some ⟨?_, ?_⟩))))))
      · have a := g (3 * j + i) (by omega)
        have b := g2 (3 * i + j) (by omega)
        rw [show (3 * j + i) % 3 = i by omega, show (3 * j + i) / 3 = j by omega] at a
        rw [show (3 * i + j) % 3 = j by omega, show (3 * i + j) / 3 = i by omega] at b
        have eC : μ2 (310 + 8) (3 * i + j) = nI (C (3 * i + j)) := (t2 _ (by omega)).1
        rw [eC]
        exact LeN.both a b (fun t ht => by have := Ptear_le hL.1.1 ht; omega) rfl
      · exact KP.tr (zup310.kp (v := nI (610 + 109 * k))) (fun o ho => f2 o (by omega) (by omega) (by omega))
    · refine wp_ie c (wp_some (wp_sumr (wp_some ⟨KP.rf μ, ?_⟩)))
      unfold f_X12_cost
      refine wp_bd2 (wp_of (e2 μ rfl) (wp_ie (fun w => c ?_) (wp_some ⟨rfl, zup310.kp⟩)))
      exact ⟨(inY.mp w.2.1).1, (inY.mp w.2.1).2, (inY.mp w.2.2).1, Int32.not_lt.mp (inY.mp w.2.2).2⟩
  · refine wp_bdE e1 (wp_bd (wp_cn (wp_some (wp_sumr (wp_some ⟨KP.rf μ, ?_⟩)))))
    unfold f_X12_cost
    exact wp_bd2 (wp_of (e2 μ rfl) (wp_ie (fun w => w.1 rfl) (wp_some ⟨rfl, KP.rf μ⟩)))
