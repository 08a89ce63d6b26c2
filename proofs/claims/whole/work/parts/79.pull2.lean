/-! pull: the k-th couple that rests, on both sides -/
theorem wp_l2s {α β γ : Type} {a : α × β} {f : α → β → Option γ} {P : γ → Prop} (k : wp (f a.1 a.2) P) : wp (zl2 a f) P := k
/-- the couple that rests behind so many, from i on -/
def rfd (L : Nat → Nat) (t : Nat) (v : Int32) : Nat → Nat → Int32
  | 0, _ => -2
  | n + 1, i => if rstB L t i = true ∧ nI (rcn L t i) = v then nI i else rfd L t v n (i + 1)
theorem rfd_y {L : Nat → Nat} {t i : Nat} {v : Int32} (hi : i < 9) (h1 : rstP L t i) (h2 : nI (rcn L t i) = v) : rfd L t v (9 - i) i = nI i := by
  rw [show 9 - i = (8 - i) + 1 by omega]
  exact if_pos ⟨rstB_iff.mpr h1, h2⟩
theorem rfd_n {L : Nat → Nat} {t i : Nat} {v : Int32} (hi : i < 9) (h : ¬ (rstP L t i ∧ nI (rcn L t i) = v)) : rfd L t v (9 - i) i = rfd L t v (9 - (i + 1)) (i + 1) := by
  rw [show 9 - i = (8 - i) + 1 by omega, show 9 - (i + 1) = 8 - i by omega]
  exact if_neg (fun w => h ⟨rstB_iff.mp w.1, w.2⟩)
theorem rcn_y {L : Nat → Nat} {t i : Nat} (h : rstP L t i) : rcn L t (i + 1) = rcn L t i + 1 := if_pos (rstB_iff.mpr h)
theorem rcn_n {L : Nat → Nat} {t i : Nat} (h : ¬ rstP L t i) : rcn L t (i + 1) = rcn L t i := if_neg (fun w => h (rstB_iff.mp w))
theorem restAtC {t : Nat} {v : Int32} {μ : zM} {L : Nat → Nat} (h : ∀ i, i < 9 → μ 105 (2 * i) = gv L t i 0 ∧ μ 105 (2 * i + 1) = gv L t i 1) : f_X3_restAt 104 v μ = some (rfd L t v 9 0) := by
  refine wp_eq ?_
  unfold f_X3_restAt
  refine wp_bdQ (Q := fun q => q = Sum.inl (rfd L t v 9 0) ∨ q = Sum.inr () ∧ rfd L t v 9 0 = -2) ?_ (fun q hq => ?_)
  · refine wlp0 (fun n i y => f_X3_restAt_L4 104 v μ n y (nI i)) _ 9 (fun i y => y = nI (rcn L t i) ∧ rfd L t v 9 0 = rfd L t v (9 - i) i) (by omega) 0 ⟨rfl, rfl⟩ ?_ ?_
    · intro n i y hi ⟨hy, hr⟩ ih
      show wp (f_X3_restAt_L4 104 v μ (n + 1) y (nI i)) _
      rw [f_X3_restAt_L4]
      refine wp_ie (nI_ge (b := 9) hi (by omega)) (wp_bdQ (restsC hi h) fun r hr' => ?_)
      rcases hr' with ⟨e, hp⟩ | ⟨e, hp⟩
      · rw [e]
        by_cases c : y = v
        · refine wp_bd (wp_ie (by decide) (wp_ie (fun w => w c) (wp_some (wp_suml (wp_some (Or.inl ?_))))))
          rw [hr, rfd_y hi hp (hy ▸ c)]
        · refine wp_bd (wp_ie (by decide) (wp_it c (wp_ls (wp_some (wp_sumr (wp_ls ?_))))))
          rw [nI_1]
          refine ih _ ⟨?_, hr.trans (rfd_n hi (fun w => c (hy.trans w.2)))⟩
          rw [hy, nI_1, rcn_y hp]
      · rw [e]
        refine wp_bd (wp_it rfl (wp_some (wp_sumr (wp_ls ?_))))
        rw [nI_1]
        refine ih _ ⟨?_, hr.trans (rfd_n hi (fun w => hp w.1))⟩
        rw [hy, rcn_n hp]
    · intro n y ⟨hy, hr⟩
      show wp (f_X3_restAt_L4 104 v μ (n + 1) y (nI 9)) _
      rw [f_X3_restAt_L4]
      exact wp_it (nI_le (a := 9) (Nat.le_refl _) (by omega)) (wp_some (Or.inr ⟨rfl, hr⟩))
  · rcases hq with e | ⟨e, hr⟩
    · rw [e]
      exact wp_suml (wp_some rfl)
    · rw [e]
      exact wp_sumr (wp_some hr.symm)
theorem pullM {q t : Nat} {v : Int32} {μ : zM} {L : Nat → Nat} (h : LM q μ L) (hO : LOk L) (ht : t ≤ 12) :
    wp (f_X12_pull_L32 310 (nI t) v zFU 0 0 μ) (fun q => (∃ μ', q = Sum.inl (rfd L t v 9 0, μ') ∧ (∃ j, j < 9 ∧ nI (rcn L t j) = v) ∧ MF2 μ μ') ∨ ∃ μ', q = Sum.inr (nI (rcn L t 9), μ') ∧ rfd L t v 9 0 = -2 ∧ MF2 μ μ') := by
  refine wlp0 (fun n k (s : Int32 × zM) => f_X12_pull_L32 310 (nI t) v n s.1 (nI k) s.2) _ 9 (fun k s => s.1 = nI (rcn L t k) ∧ rfd L t v 9 0 = rfd L t v (9 - k) k ∧ MF2 μ s.2) (by omega) (0, μ) ⟨rfl, rfl, (MF.rf μ).to2⟩ ?_ ?_
  · intro n i s hi ⟨hy, hr, hf⟩ ih
    show wp (f_X12_pull_L32 310 (nI t) v (n + 1) s.1 (nI i) s.2) _
    rw [f_X12_pull_L32]
    refine wp_ie (nI_ge (b := 9) hi (by omega)) (wp_bd2Q (isRestM (h.mf2 hf) hO ht hi) fun r μ1 ⟨hr', f1⟩ => ?_)
    have f1 : MF2 μ μ1 := hf.tr f1
    rcases hr' with ⟨e, hp⟩ | ⟨e, hp⟩
    · have e : r = 1 := e
      rw [e]
      by_cases c : s.1 = v
      · refine wp_bd (wp_it (by decide) (wp_ie (fun w => w c) (wp_some (wp_suml (wp_some (Or.inl ⟨μ1, ?_, ⟨i, hi, hy ▸ c⟩, f1⟩))))))
        rw [hr, rfd_y hi hp (hy ▸ c)]
      · refine wp_bd (wp_it (by decide) (wp_it c (wp_ls (wp_some (wp_sumr (wp_ls ?_))))))
        rw [nI_1]
        refine ih (_, _) ⟨?_, hr.trans (rfd_n hi (fun w => c (hy.trans w.2))), f1⟩
        show s.1 + 1 = _
        rw [hy, nI_1, rcn_y hp]
    · have e : r = 0 := e
      rw [e]
      refine wp_bd (wp_ie (fun w => w rfl) (wp_some (wp_sumr (wp_ls ?_))))
      rw [nI_1]
      refine ih (_, _) ⟨?_, hr.trans (rfd_n hi (fun w => hp w.1)), f1⟩
      show s.1 = _
      rw [hy, rcn_n hp]
  · intro n s ⟨hy, hr, hf⟩
    show wp (f_X12_pull_L32 310 (nI t) v (n + 1) s.1 (nI 9) s.2) _
    rw [f_X12_pull_L32]
    refine wp_it (nI_le (a := 9) (Nat.le_refl _) (by omega)) (wp_some (Or.inr ⟨s.2, ?_, hr, hf⟩))
    rw [hy]
theorem I_lt0 {v : Int32} (h : ¬ v < 1) : ¬ v < 0 := fun w => h (by
  rw [I_lt] at w ⊢
  have h0 : (0 : Int32).toInt = 0 := by decide
  have h1 : (1 : Int32).toInt = 1 := by decide
  omega)
theorem pull_same (v1 v2 v3 : Int32) : Same (f_X11_pull 0 v1 v2 v3) (f_X12_pull 310 v1 v2 v3) := by
  refine Same.of fun μ hI => ?_
  unfold f_X11_pull
  rcases lake_cases hI v1 with ⟨k, L, hk, hL, e1, e2⟩ | ⟨e1, e2⟩
  · have z1 : zgn (6 + 15 * k) 1 = true := by unfold zgn; rw [zlk_kd k hk]; rfl
    refine wp_bdE e1 (wp_bd (wp_cs (wp_g z1 ?_)))
    by_cases c : (¬ (v2 < (1 : Int32))) ∧ ((¬ ((12 : Int32) < v2)) ∧ ((-1 : Int32) ≤ v3))
    · refine wp_it c ?_
      have cr : (¬ ((1 : Int32) = 0)) ∧ ((¬ ((f_X12_isIn v2 (1 : Int32) (12 : Int32)) = 0)) ∧ ((-1 : Int32) ≤ v3)) := ⟨by decide, inY.mpr ⟨c.1, c.2.1⟩, c.2.2⟩
      obtain ⟨t, t1, et⟩ := nI_rng (b := 12) (by omega) (I_lt0 c.1) c.2.1
      rw [et] at cr ⊢
      refine wp_bdQ (hearC hL.2.1 hL.1 (by omega) t1) fun μ' ⟨h1, h2⟩ => ?_
      have h311 : μ' 311 = μ 311 := h2 311 (by omega) (by omega) (by omega) (by omega)
      have l2 : LM (610 + 109 * k) (zup μ' 310 10 (nI (610 + 109 * k))) L := ⟨by omega, zup_self _ _ _ _, fun i hi => by rw [zup_ne (by omega), h311]; exact hL.2.2 i hi⟩
      have fin : ∀ a : Int32, (v3 = -1 → a = nI (rcn L t 9)) → (¬ v3 = -1 → a = rfd L t v3 9 0) → wp (f_X12_pull 310 v1 (nI t) v3 μ') (fun p2 => p2.1 = a ∧ KP μ' p2.2) := fun a ha hb => by
        unfold f_X12_pull
        refine wp_bd2 (wp_of (e2 μ' h311) (wp_it cr (wp_bdQ (pullM (v := v3) l2 hL.1 t1) fun q hq => ?_)))
        rcases hq with ⟨μ2, e, ⟨j, j1, j2⟩, f⟩ | ⟨μ2, e, hr, f⟩
        · rw [e]
          have n1 : ¬ v3 = -1 := fun w => nI_nm1 (n := rcn L t j) (by have := rcn_le L t j; omega) (j2.trans w)
          exact wp_suml (wp_some ⟨(hb n1).symm, KP.tr (zup310.kp (v := nI (610 + 109 * k))) f.kp⟩)
        · rw [e]
          refine wp_sumr (wp_l2s (wp_ls (wp_some ⟨?_, KP.tr (zup310.kp (v := nI (610 + 109 * k))) f.kp⟩)))
          by_cases n1 : v3 = -1
          · rw [ha n1]
            exact if_neg (fun w => w n1)
          · rw [hb n1, hr]
            exact if_pos n1
      by_cases n1 : v3 = -1
      · exact wp_bd (wp_ie (fun w => w n1) (wp_bdE (atRestC h1) (wp_some (wp_some (wp_suml (wp_some ⟨hearKP h2, fin _ (fun _ => rfl) (fun w => absurd n1 w)⟩))))))
      · exact wp_bd (wp_it n1 (wp_bdE (restAtC h1) (wp_some (wp_some (wp_suml (wp_some ⟨hearKP h2, fin _ (fun w => absurd w n1) (fun _ => rfl)⟩))))))
    · refine wp_ie c (wp_some (wp_sumr (wp_some ⟨KP.rf μ, ?_⟩)))
      unfold f_X12_pull
      refine wp_bd2 (wp_of (e2 μ rfl) (wp_ie (fun w => c ?_) (wp_some ⟨rfl, zup310.kp⟩)))
      exact ⟨(inY.mp w.2.1).1, (inY.mp w.2.1).2, w.2.2⟩
  · refine wp_bdE e1 (wp_bd (wp_cn (wp_some (wp_sumr (wp_some ⟨KP.rf μ, ?_⟩)))))
    unfold f_X12_pull
    exact wp_bd2 (wp_of (e2 μ rfl) (wp_ie (fun w => w.1 rfl) (wp_some ⟨rfl, KP.rf μ⟩)))
