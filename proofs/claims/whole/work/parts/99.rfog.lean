/-! TEXTS: the reference reads one of the dead; a whole text -/
section RFOG
variable {b : Nat → Nat} {n w p s : Nat} {μ μ' μ1 μ2 μ3 : zM} {F : Nat × Nat} {R : Nat → Int32} {x : (Nat × Nat) × Nat}
theorem fok_iff {q st : Nat} : fok b n q st = true ↔ tN b n q ≤ 7 ∧ st.testBit (tN b n q) = false := decide_eq_true_iff
theorem fgM {x4 : Int32} : ∀ j m (x : (Nat × Nat) × Nat) st (y : Int32) (μ : zM), n - x.2 ≤ j → j < m → MS b n x μ → x.1.1 ≠ 1 → Jx b n x → (x.1.1 = 0 → y = nI st) → st < 256 →
    wp (f_X12_fogLine_L50 310 x4 m y 0 μ) (fun r => MS b n (fgS b n j (x, st)).1 r.2 ∧ ((fgS b n j (x, st)).1.1.1 = 0 → r.1 = nI (fgS b n j (x, st)).2) ∧ FRs μ r.2) := by
  intro j
  induction j with
  | zero =>
    intro m x st y μ hj hm h h1 hJ hy hst
    obtain ⟨m, rfl⟩ : ∃ m', m = m' + 1 := ⟨m - 1, by omega⟩
    have hfg := tF_ge (b := b) (n := n) (p := x.2)
    have h0 : tK b n x.2 = 0 := tK_0.mpr (by omega)
    have e8 : μ 310 8 = 0 := by rw [h.2.1.2.1, if_neg h1]
    rw [f_X12_fogLine_L50]
    refine wp_ie (fun z => z e8) (wp_ie (fun z => ?_) (wp_some ⟨h, hy, FRs.rf μ⟩))
    rcases z with z | z
    · exact z rfl
    · have := (h.2.2.2 h1).tok.2.1.mp z
      omega
  | succ j ih =>
    intro m x st y μ hj hm h h1 hJ hy hst
    obtain ⟨m, rfl⟩ : ∃ m', m = m' + 1 := ⟨m - 1, by omega⟩
    have hb := h.1.1.2
    have hn := h.1.1.1
    have hT := h.2.2.2 h1
    have e8 : μ 310 8 = 0 := by rw [h.2.1.2.1, if_neg h1]
    have hfl := tF_le (b := b) h.2.2.1
    rw [f_X12_fogLine_L50]
    by_cases hk : tK b n x.2 = 2
    · have hlt := tN_lt (n := n) (p := x.2) hb
      have hfw := tK_fwd (b := b) (n := n) (p := x.2) (by omega)
      have e6 : μ 310 6 = nI (tN b n x.2) := hT.2.2.2.1 hk
      rw [show fgS b n (j + 1) (x, st) = fgS b n j ((if fok b n x.2 st = true then x.1 else nt x.1 2 (tF b n x.2), tB b n x.2), if fok b n x.2 st = true then st ||| 2 ^ tN b n x.2 else st) from if_pos ⟨h1, hk⟩]
      refine wp_ie (fun z => z e8) (wp_it (Or.inr (hT.tok.2.1.mpr hk)) (wp_l fun μ4 h4 => ?_))
      obtain ⟨al1, al2⟩ := alsoM (k := 2) (v := 2) (a := tF b n x.2) (u := μ 310 4) h.2.1 h1 (by omega) (by omega) rfl hT.2.1
      have key : ∃ x2 : (Nat × Nat) × Nat, MS b n x2 μ4 ∧ FRs μ μ4 ∧ x2.2 = x.2 ∧ numS b n (fun q => decide (0 ≤ tN b n q ∧ tN b n q ≤ 7)) x2 = (if fok b n x.2 st = true then x.1 else nt x.1 2 (tF b n x.2), tB b n x.2) := by
        by_cases e0 : x.1.1 = 0
        · have hdup : ((μ 310 5 = 1) ∧ (¬ ((8 : Int32) ≤ (μ 310 6))) ∧ (((y >>> ((μ 310 6) &&& 31)) &&& (1 : Int32)) = (1 : Int32))) ↔ (tN b n x.2 ≤ 7 ∧ st.testBit (tN b n x.2) = true) := by
            rw [e6, hy e0]
            constructor
            · rintro ⟨-, q1, q2⟩
              have q3 : tN b n x.2 ≤ 7 := by
                have : ¬ (8 ≤ tN b n x.2) := fun q => q1 (nI_le (a := 8) q (by omega))
                omega
              exact ⟨q3, (bitI_1 (by omega) (by omega)).mp q2⟩
            · rintro ⟨q1, q2⟩
              exact ⟨hT.tok.2.1.mpr hk, nI_ge (b := 8) (by omega) (by omega), (bitI_1 (by omega) (by omega)).mpr q2⟩
          by_cases hd : tN b n x.2 ≤ 7 ∧ st.testBit (tN b n x.2) = true
          · rw [if_pos (hdup.mpr hd)] at h4
            have h4 : μ4 = f_X12_also 310 2 (μ 310 4) μ := h4
            rw [← h4] at al1 al2
            refine ⟨(nt x.1 2 (tF b n x.2), x.2), h.fs al1 al2 h1, ⟨fun o _ o2 => al2.1 o o2, al2.2⟩, rfl, ?_⟩
            rw [numS_y (s := (nt x.1 2 (tF b n x.2), x.2)) (nt_ne1 h1 (by omega)) hk]
            refine Prod.ext ?_ rfl
            show (if decide (0 ≤ tN b n x.2 ∧ tN b n x.2 ≤ 7) = true then nt x.1 2 (tF b n x.2) else nt (nt x.1 2 (tF b n x.2)) 2 (tF b n x.2)) = (if fok b n x.2 st = true then x.1 else nt x.1 2 (tF b n x.2))
            rw [nt_idem _ _ (by omega), ite_self, if_neg (fun z => by have := (fok_iff.mp z).2; rw [hd.2] at this; cases this)]
          · rw [if_neg (fun z => hd (hdup.mp z))] at h4
            rw [h4]
            refine ⟨x, h, FRs.rf _, rfl, ?_⟩
            rw [numS_y h1 hk]
            refine Prod.ext ?_ rfl
            show (if decide (0 ≤ tN b n x.2 ∧ tN b n x.2 ≤ 7) = true then x.1 else nt x.1 2 (tF b n x.2)) = (if fok b n x.2 st = true then x.1 else nt x.1 2 (tF b n x.2))
            by_cases h7 : tN b n x.2 ≤ 7
            · rw [if_pos (decide_eq_true ⟨Nat.zero_le _, h7⟩), if_pos (fok_iff.mpr ⟨h7, by rw [← Bool.not_eq_true]; exact fun q => hd ⟨h7, q⟩⟩)]
            · rw [if_neg (fun z => h7 (of_decide_eq_true z).2), if_neg (fun z => h7 (fok_iff.mp z).1)]
        · have late := hJ.late e0 h1 2
          rw [late] at al1
          refine ⟨x, ?_, ?_, rfl, ?_⟩
          · rw [h4]
            split
            · exact h.fs al1 al2 h1
            · exact h
          · rw [h4]
            split
            · exact ⟨fun o _ o2 => al2.1 o o2, al2.2⟩
            · exact FRs.rf _
          · rw [numS_y h1 hk, late, ite_self, ite_self]
      obtain ⟨x2, m2, f2, ep, e2⟩ := key
      refine wp_bd2Q (numberedM (lo := 0) (hi := 7) (ok := fun q => decide (0 ≤ tN b n q ∧ tN b n q ≤ 7)) m2 rfl rfl (by omega) decide_eq_true_iff) fun r μ5 ⟨b1, ⟨cv, b2, b3, b4, b5⟩, b6⟩ => wp_ls ?_
      rw [e2, ep] at b5
      rw [e2] at b1
      have b1 : MS b n (if fok b n x.2 st = true then x.1 else nt x.1 2 (tF b n x.2), tB b n x.2) μ5 := b1
      have b2 : r = nI cv := b2
      have b6 : FRs μ4 μ5 := b6
      have hst' : (if fok b n x.2 st = true then st ||| 2 ^ tN b n x.2 else st) < 256 := by
        split
        · rename_i c
          exact (orbit _ (by have := (fok_iff.mp c).1; omega) st hst).2
        · exact hst
      refine wp_mono (ih m (if fok b n x.2 st = true then x.1 else nt x.1 2 (tF b n x.2), tB b n x.2) (if fok b n x.2 st = true then st ||| 2 ^ tN b n x.2 else st) (y ||| (1 : Int32) <<< (r &&& 31)) μ5 (by show n - tB b n x.2 ≤ j; omega) (by omega) b1 ?_ (hJ.put h1 (by omega) _) (fun z => ?_) hst') fun r' ⟨c1, c2, c3⟩ => ⟨c1, c2, (f2.tr b6).tr c3⟩
      · show (if fok b n x.2 st = true then x.1 else nt x.1 2 (tF b n x.2)).1 ≠ 1
        split
        · exact h1
        · exact nt_ne1 h1 (by omega)
      · have z' : (if fok b n x.2 st = true then x.1 else nt x.1 2 (tF b n x.2)).1 = 0 := z
        have hf : fok b n x.2 st = true := Classical.byContradiction fun q => by
          rw [if_neg q] at z'
          exact nt_ne0 (by omega) z'
        rw [if_pos hf] at z'
        have h7 := (fok_iff.mp hf).1
        rw [if_pos hf, b2, b5 z, hy z', one_shl (by omega), (orbit _ (by omega) st hst).1]
    · rw [show fgS b n (j + 1) (x, st) = (x, st) from if_neg (fun z => hk z.2)]
      refine wp_ie (fun z => z e8) (wp_ie (fun z => ?_) (wp_some ⟨h, hy, FRs.rf μ⟩))
      rcases z with z | z
      · exact z rfl
      · exact hk (hT.tok.2.1.mp z)
theorem set0_lt : set0 b n p < 256 := by
  unfold set0
  split
  · rename_i h
    have h7 : tN b n (tB b n p) ≤ 7 := (of_decide_eq_true h).2
    exact Nat.lt_of_le_of_lt (Nat.pow_le_pow_right (by omega) h7) (by decide)
  · omega
theorem fog1M {x4 : Int32} (h : MS b n (F, tB b n p) μ) (h1 : F.1 ≠ 1) (hJ : Jx b n (F, tB b n p)) :
    wp (f_X12_fogLine_L50 310 x4 zFU 0 1 μ) (fun r => MS b n (numsS b n 23 p F).1 r.2 ∧ ((numsS b n 23 p F).1.1.1 = 0 → r.1 = nI (numsS b n 23 p F).2) ∧ FRs μ r.2) := by
  have hb := h.1.1.2
  have hn := h.1.1.1
  have hT := h.2.2.2 h1
  have e8 : μ 310 8 = 0 := by rw [h.2.1.2.1, if_neg h1]
  have hlt := tN_lt (n := n) (p := tB b n p) hb
  rw [nums_23, show zFU = 999999 + 1 from rfl, f_X12_fogLine_L50]
  refine wp_ie (fun z => z e8) (wp_it (Or.inl (by decide)) (wp_l fun μ4 h4 => ?_))
  have h4 : μ4 = μ := by
    rw [h4]
    refine if_neg (fun z => ?_)
    obtain ⟨z1, z2, z3⟩ := z
    have hk := hT.tok.2.1.mp z1
    have e6 : μ 310 6 = nI (tN b n (tB b n p)) := hT.2.2.2.1 hk
    rw [e6] at z2 z3
    have h7 : ¬ 8 ≤ tN b n (tB b n p) := fun q => z2 (nI_le (a := 8) q (by omega))
    have := (bitI_1 (s := 0) (by omega) (by omega)).mp z3
    rw [Nat.zero_testBit] at this
    cases this
  subst h4
  refine wp_bd2Q (numW (w := 23) (k := 0) (p := p) (lo := 0) (hi := 7) h rfl rfl rfl rfl (by omega) (by omega)) fun r μ5 ⟨b1, ⟨cv, b2, b3, b4, b5⟩, b6⟩ => wp_ls ?_
  have b1 : MS b n (lnS b n 23 p 1 (F, tB b n p)) μ5 := b1
  have b2 : r = nI cv := b2
  have b5 : (lnS b n 23 p 1 (F, tB b n p)).1.1 = 0 → cv = tN b n (tB b n p) := b5
  have b6 : FRs μ4 μ5 := b6
  by_cases e1 : (lnS b n 23 p 1 (F, tB b n p)).1.1 = 1
  · rw [fgS_1 e1, show (999999 : Nat) = 999998 + 1 from rfl, f_X12_fogLine_L50]
    refine wp_it (by rw [b1.2.1.2.1, if_pos e1]; decide) (wp_some ⟨b1, fun z => ?_, b6⟩)
    have z : (lnS b n 23 p 1 (F, tB b n p)).1.1 = 0 := z
    omega
  · refine wp_mono (fgM n 999999 (lnS b n 23 p 1 (F, tB b n p)) (set0 b n p) (0 ||| (1 : Int32) <<< (r &&& 31)) μ5 (by omega) (by omega) b1 e1 (hJ.ln 1) (fun z => ?_) set0_lt) fun r' ⟨c1, c2, c3⟩ => ⟨c1, c2, b6.tr c3⟩
    have e := b5 z
    have hin : inb 23 0 (tN b n (tB b n p)) = true := decide_eq_true ⟨Nat.zero_le _, by rw [← e]; exact b4⟩
    unfold set0
    rw [if_pos hin, b2, e, one_shl (by omega)]
    show nI 0 ||| nI (2 ^ tN b n (tB b n p)) = _
    rw [nI_or, Nat.zero_or]
theorem fogLineM (h : MS b n (F, p) μ) (h1 : F.1 ≠ 1) (hk : tK b n p ≠ 0) (hJ : Jx b n (F, p)) (hR : MR 3 (F.1 = 0) μ R) : wp (f_X12_fogLine 310 μ) (LnP b n 3 p F R μ) := by
  have hp : p ≤ n := h.2.2.1
  have hn := h.1.1.1
  have hfl := tF_le (b := b) hp
  obtain ⟨c, c1, c2, c3⟩ := hR.1 7 (by omega) rfl
  have c1 : c ≤ 8 := c1
  have c2 : R 0 = nI c := c2
  have c3 : μ 313 0 = nI c := c3
  have c3' : μ (310 + 3) 0 = nI c := c3
  have hfull : fullW 23 R = true ↔ 8 ≤ c := by
    unfold fullW
    rw [decide_eq_true_eq, show R (tcp (kt 23)) = nI c from c2, nI_clamp (by omega)]
    exact ⟨fun z => z.2, fun z => ⟨by omega, z⟩⟩
  unfold f_X12_fogLine
  rw [c3']
  refine wp_l fun x1 hx1 => wp_l fun x4 hx4 => ?_
  rw [show μ 310 4 = nI (tF b n p) from (h.2.2.2 h1).2.1] at hx1
  subst hx1
  have hx4 : x4 = if fullW 23 R = true then 0 else 1 := by
    rw [hx4]
    by_cases hf : fullW 23 R = true
    · rw [if_pos hf]
      exact if_pos (show (8 : Int32) ≤ nI c from nI_le (a := 8) (hfull.mp hf) (by omega))
    · rw [if_neg hf]
      exact if_neg (show ¬ (8 : Int32) ≤ nI c from nI_ge (b := 8) (Nat.lt_of_not_le fun z => hf (hfull.mpr z)) (by omega))
  refine wp_bd2Q (takesM (lo := 24) (hi := 24) h h1 rfl rfl (by omega)) fun r2 μ3 ⟨f3, hc⟩ => ?_
  have f3 : FRs μ μ3 := f3
  rcases hc with ⟨hc, hr, m3⟩ | ⟨hc, hr, m3⟩
  · obtain ⟨w, hsel, hw, hws, hwc⟩ := sel_some (P := fun c => 24 ≤ c ∧ c ≤ 24) sel_3 hc.1 hc.2
    have hw22 : w = 23 := by
      have : ∀ w, w < 30 → wsr w = 3 → w = 23 := by decide +kernel
      exact this w hw hws
    subst hw22
    have hr : r2 = (24 : Int32) := by
      have hr : r2 = nI (tW b n p) := hr
      rw [hr, ← hwc]
      decide
    have m3 : MS b n (F, tB b n p) μ3 := m3
    subst hr
    refine mid_line hsel (wp_ie (fun z => z rfl) (wp_l fun μ4 h4 => ?_))
    have h4' : MS b n (if fullW 23 R = true then nt F 3 (tF b n p) else F, tB b n p) μ4 ∧ FRs μ3 μ4 := by
      rw [hx4] at h4
      by_cases hf : fullW 23 R = true
      · rw [if_pos hf, if_neg (fun z => z rfl)] at h4
        have h4 : μ4 = f_X12_also 310 3 (nI (tF b n p)) μ3 := h4
        obtain ⟨a1, a2⟩ := alsoM (k := 3) (v := 3) (a := tF b n p) (u := nI (tF b n p)) m3.2.1 h1 (by omega) (by omega) rfl rfl
        rw [← h4] at a1 a2
        rw [if_pos hf]
        exact ⟨m3.fs a1 a2 h1, fun o o1 o2 => a2.1 o o2, a2.2⟩
      · rw [if_neg hf, if_pos (by decide)] at h4
        rw [if_neg hf, h4]
        exact ⟨m3, FRs.rf μ3⟩
    obtain ⟨m4, f4⟩ := h4'
    have hJ4 : Jx b n (if fullW 23 R = true then nt F 3 (tF b n p) else F, tB b n p) := by
      have := hJ.put (k := 3) h1 hk (!fullW 23 R)
      cases hf : fullW 23 R with
      | true =>
        rw [hf] at this
        exact this
      | false =>
        rw [hf] at this
        exact this
    have h14 : (if fullW 23 R = true then nt F 3 (tF b n p) else F).1 ≠ 1 := by
      split
      · exact nt_ne1 h1 (by omega)
      · exact h1
    refine wp_bd2Q (fog1M m4 h14 hJ4) fun y μ5 ⟨g1, g2, g3⟩ => ?_
    have g2 : (numsS b n 23 p (if fullW 23 R = true then nt F 3 (tF b n p) else F)).1.1.1 = 0 → y = nI (numsS b n 23 p (if fullW 23 R = true then nt F 3 (tF b n p) else F)).2 := g2
    have g3 : FRs μ4 μ5 := g3
    have fr : FRs μ μ5 := (f3.tr f4).tr g3
    have hn0 : (numsS b n 23 p (if fullW 23 R = true then nt F 3 (tF b n p) else F)).1.1.1 = 0 → F.1 = 0 ∧ ¬ fullW 23 R = true := by
      intro z
      have z2 : ∀ j (x : (Nat × Nat) × Nat) st, (fgS b n j (x, st)).1.1.1 = 0 → x.1.1 = 0 := by
        intro j
        induction j with
        | zero => intro x st z; exact z
        | succ j ih =>
          intro x st z
          by_cases q : x.1.1 ≠ 1 ∧ tK b n x.2 = 2
          · rw [show fgS b n (j + 1) (x, st) = fgS b n j ((if fok b n x.2 st = true then x.1 else nt x.1 2 (tF b n x.2), tB b n x.2), if fok b n x.2 st = true then st ||| 2 ^ tN b n x.2 else st) from if_pos q] at z
            have z := ih _ _ z
            have z : (if fok b n x.2 st = true then x.1 else nt x.1 2 (tF b n x.2)).1 = 0 := z
            split at z
            · exact z
            · exact absurd z (nt_ne0 (by omega))
          · rw [show fgS b n (j + 1) (x, st) = (x, st) from if_neg q] at z
            exact z
      rw [nums_23] at z
      have := (lnS_0 1 (z2 _ _ _ z)).1
      by_cases hf : fullW 23 R = true
      · rw [if_pos hf] at this
        exact absurd this (nt_ne0 (by omega))
      · rw [if_neg hf] at this
        exact ⟨this, hf⟩
    have r5 : ∀ i, μ5 313 i = μ 313 i := fun i => by rw [fr.1 313 (by omega) (by omega)]
    rw [hx4]
    by_cases hf : fullW 23 R = true
    · rw [if_pos hf]
      refine wp_it rfl (wp_some ⟨g1, fun z => ?_, fr.fl⟩)
      rw [show (if fullW 23 R = true then R else updW 23 (nvS b n 23 p (numsS b n 23 p (if fullW 23 R = true then nt F 3 (tF b n p) else F)).2) R) = R from if_pos hf]
      exact ⟨(hR.fr fr).1, fun z => absurd hf (hn0 z).2⟩
    · have e5 : μ5 (310 + 3) 0 = nI c := (r5 0).trans c3
      rw [if_neg hf, e5, show (1 : Int32) + nI c = nI (1 + c) from nI_add 1 c, nI_clamp (by omega)]
      refine wp_ie (by decide) (wp_g (zin_nI (by omega) (by omega)) (wp_u fun μ6 u6 => wp_u fun μ7 u7 => wp_some ?_))
      have v1 : μ6 313 (1 + c) = y := u6.1
      have v2 : ∀ o, o ≠ 313 → μ6 o = μ5 o := u6.2.1
      have v3 : ∀ j, j ≠ 1 + c → μ6 313 j = μ5 313 j := u6.2.2
      have w1 : μ7 313 0 = μ6 313 0 + 1 := u7.1
      have w2 : ∀ o, o ≠ 313 → μ7 o = μ6 o := u7.2.1
      have w3 : ∀ j, j ≠ 0 → μ7 313 j = μ6 313 j := u7.2.2
      have hnf : (if fullW 23 R = true then R else updW 23 (nvS b n 23 p (numsS b n 23 p (if fullW 23 R = true then nt F 3 (tF b n p) else F)).2) R) = updR 7 (rowWd 23 (nvS b n 23 p (numsS b n 23 p (if fullW 23 R = true then nt F 3 (tF b n p) else F)).2)) R := if_neg hf
      refine ⟨(g1.o13 v2).o13 w2, fun z => ?_, (fr.fl.tr (FRs.u13 u6)).tr (FRs.u13 u7)⟩
      rw [hnf]
      refine hR.add (t := 7) (c := c) (by omega) rfl c2 (by show c < 8; exact Nat.lt_of_not_le fun z => hf (hfull.mpr z)) (fun z => (hn0 z).1) ?_ (fun z i hi => ?_) (fun i i1 i2 => ?_)
      · show μ7 313 0 = _
        rw [w1, v3 0 (by omega), r5, c3]
        exact nI_1 c
      · have hi : i < 1 := hi
        obtain rfl : i = 0 := by omega
        show μ7 313 (1 + 1 * c + 0) = nvS b n 23 p (numsS b n 23 p (if fullW 23 R = true then nt F 3 (tF b n p) else F)).2 0
        rw [w3 _ (by omega), show 1 + 1 * c + 0 = 1 + c by omega, v1, g2 z]
        exact (if_pos ⟨rfl, rfl⟩).symm
      · have i1 : i ≠ 0 := i1
        have i2 : i < 1 + 1 * c ∨ 1 + 1 * c + 1 ≤ i := i2
        rw [w3 i i1, v3 i (by omega), r5]
  · have hsel := sel_none (s := 3) (P := fun c => 24 ≤ c ∧ c ≤ 24) sel_3 hc
    have hr : r2 = 0 := hr
    have m3 : MS b n ((1, tF b n p), p) μ3 := m3
    subst hr
    refine wp_bd ?_
    refine wp_it (by decide) (wp_some ?_)
    exact broken_line hsel m3 f3.fl
theorem Jx.fwd {G : Nat × Nat} {q : Nat} (h : Jx b n (G, q)) (hk : tK b n q ≠ 0) : Jx b n (G, tB b n q) := by
  have g1 := tB_gt (tK_lt hk)
  have g2 := tF_ge (b := b) (n := n) (p := tB b n q)
  rcases h with h | h | h
  · exact Or.inl h
  · exact Or.inr (Or.inl h)
  · have h : G.2 < tF b n q := h
    exact Or.inr (Or.inr (by show G.2 < tF b n (tB b n q); omega))
theorem Jx.fg : ∀ j {x : (Nat × Nat) × Nat} {st : Nat}, Jx b n x → Jx b n (fgS b n j (x, st)).1
  | 0, x, st, h => h
  | j + 1, x, st, h => by
    by_cases q : x.1.1 ≠ 1 ∧ tK b n x.2 = 2
    · rw [show fgS b n (j + 1) (x, st) = fgS b n j ((if fok b n x.2 st = true then x.1 else nt x.1 2 (tF b n x.2), tB b n x.2), if fok b n x.2 st = true then st ||| 2 ^ tN b n x.2 else st) from if_pos q]
      exact Jx.fg j (h.put q.1 (by omega) _)
    · rw [show fgS b n (j + 1) (x, st) = (x, st) from if_neg q]
      exact h
theorem lineS_J (h1 : F.1 ≠ 1) (hk : tK b n p ≠ 0) (hJ : Jx b n (F, p)) : Jx b n (lineS b n s p F R).1 := by
  cases hsel : wsel b n s p with
  | none =>
    rw [lineS_none hsel]
    exact Or.inr (Or.inl rfl)
  | some w =>
    rw [lineS_some hsel]
    have hJ4 : Jx b n (if fullW w R = true then nt F 3 (tF b n p) else F, tB b n p) := by
      have := hJ.put (k := 3) h1 hk (!fullW w R)
      cases hf : fullW w R with
      | true =>
        rw [hf] at this
        exact this
      | false =>
        rw [hf] at this
        exact this
    have hJ5 : Jx b n (numsS b n w p (if fullW w R = true then nt F 3 (tF b n p) else F)).1 := by
      unfold numsS
      split
      · exact Jx.fg _ (hJ4.ln 1)
      · exact hJ4.ln _
    show Jx b n (lnE b n (numsS b n w p (if fullW w R = true then nt F 3 (tF b n p) else F)).1)
    by_cases e1 : (numsS b n w p (if fullW w R = true then nt F 3 (tF b n p) else F)).1.1.1 = 1
    · rw [lnE_1 e1]
      exact hJ5
    · by_cases e3 : tK b n (numsS b n w p (if fullW w R = true then nt F 3 (tF b n p) else F)).1.2 = 3
      · rw [lnE_y e1 e3]
        exact Jx.fwd hJ5 (by omega)
      · rw [lnE_n e1 e3]
        exact Or.inr (Or.inl rfl)
theorem stopM {m : Nat} {v1 v2 : Int32} (h : x.1.1 = 1 ∨ tK b n x.2 = 0) (hx : MS b n x μ) : wp (f_X12_text_L91 310 v1 v2 (m + 1) μ) (fun μ' => μ' = μ) := by
  rw [f_X12_text_L91]
  refine wp_ie (fun z => ?_) (wp_some rfl)
  obtain ⟨z1, z2⟩ := z
  by_cases e : x.1.1 = 1
  · rw [hx.2.1.2.1, if_pos e] at z1
    exact absurd z1 (by decide)
  · exact z2 ((hx.2.2.2 e).tok.1.mpr (h.resolve_left e))
theorem runM {v2 : Int32} (hs : s < 5) : ∀ j m (x : ((Nat × Nat) × Nat) × (Nat → Int32)) (μ : zM), (x.1.1.1 = 1 ∨ n - x.1.2 ≤ j) → j < m → MS b n x.1 μ → Jx b n x.1 → (x.1.1.1 ≠ 1 → MR s (x.1.1.1 = 0) μ x.2) →
    wp (f_X12_text_L91 310 (nI s) v2 m μ) (fun μ' => MS b n (trun b n s j x).1 μ' ∧ ((trun b n s j x).1.1.1 ≠ 1 → MR s ((trun b n s j x).1.1.1 = 0) μ' (trun b n s j x).2) ∧ FLm μ μ') := by
  intro j
  induction j with
  | zero =>
    intro m x μ hj hm hx hJ hc
    obtain ⟨m, rfl⟩ : ∃ m', m = m' + 1 := ⟨m - 1, by omega⟩
    have hst : x.1.1.1 = 1 ∨ tK b n x.1.2 = 0 := by
      refine hj.imp id fun z => ?_
      have := tF_ge (b := b) (n := n) (p := x.1.2)
      exact tK_0.mpr (by omega)
    refine wp_mono (stopM hst hx) fun r hr => ?_
    subst hr
    exact ⟨hx, hc, FLm.rf _⟩
  | succ j ih =>
    intro m x μ hj hm hx hJ hc
    obtain ⟨m, rfl⟩ : ∃ m', m = m' + 1 := ⟨m - 1, by omega⟩
    by_cases hst : x.1.1.1 = 1 ∨ tK b n x.1.2 = 0
    · rw [show trun b n s (j + 1) x = x from if_pos hst]
      refine wp_mono (stopM hst hx) fun r hr => ?_
      subst hr
      exact ⟨hx, hc, FLm.rf _⟩
    · rw [show trun b n s (j + 1) x = trun b n s j (lineS b n s x.1.2 x.1.1 x.2) from if_neg hst]
      have h1 : x.1.1.1 ≠ 1 := fun z => hst (Or.inl z)
      have hk0 : tK b n x.1.2 ≠ 0 := fun z => hst (Or.inr z)
      have j1 := hj.resolve_left h1
      have hl := hx.2.2.1
      have hR := hc h1
      have go : ∀ {y : Option zM}, wp y (LnP b n s x.1.2 x.1.1 x.2 μ) → wp (zbd y fun μ22 => f_X12_text_L91 310 (nI s) v2 m μ22) (fun μ' => MS b n (trun b n s j (lineS b n s x.1.2 x.1.1 x.2)).1 μ' ∧ ((trun b n s j (lineS b n s x.1.2 x.1.1 x.2)).1.1.1 ≠ 1 → MR s ((trun b n s j (lineS b n s x.1.2 x.1.1 x.2)).1.1.1 = 0) μ' (trun b n s j (lineS b n s x.1.2 x.1.1 x.2)).2) ∧ FLm μ μ') := by
        intro y hy
        refine wp_bdQ hy fun μ1 ⟨a1, a2, a3⟩ => wp_mono (ih m (lineS b n s x.1.2 x.1.1 x.2) μ1 ?_ (by omega) a1 (lineS_J h1 hk0 hJ) a2) fun μ2 ⟨c1, c2, c3⟩ => ⟨c1, c2, a3.tr c3⟩
        by_cases e : (lineS b n s x.1.2 x.1.1 x.2).1.1.1 = 1
        · exact Or.inl e
        · obtain ⟨f1, f2⟩ := lineS_fwd hl e
          exact Or.inr (by omega)
      rw [f_X12_text_L91]
      refine wp_it ⟨by rw [hx.2.1.2.1, if_neg h1], fun z => hk0 ((hx.2.2.2 h1).tok.1.mp z)⟩ ?_
      have hs5 : s = 0 ∨ s = 1 ∨ s = 2 ∨ s = 3 ∨ s = 4 := by omega
      rcases hs5 with rfl | rfl | rfl | rfl | rfl
      · exact wp_it rfl (go (lakeLineM hx h1 hk0 (hJ.imp id (fun z => z.resolve_left h1)) hR))
      · exact wp_ie (by decide) (wp_it rfl (go (dayLineM hx h1 hk0 hR)))
      · exact wp_ie (by decide) (wp_ie (by decide) (wp_it rfl (go (nightLineM hx h1 hk0 hR))))
      · exact wp_ie (by decide) (wp_ie (by decide) (wp_ie (by decide) (wp_it rfl (go (fogLineM hx h1 hk0 hJ hR)))))
      · exact wp_ie (by decide) (wp_ie (by decide) (wp_ie (by decide) (wp_ie (by decide) (go (lawLineM hx h1 hk0 hR)))))
end RFOG
