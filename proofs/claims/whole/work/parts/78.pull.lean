/-! pull -/
def rst1 (L : Nat → Nat) (t i c : Nat) : Prop := ¬ gv L t i 0 < gv L t (3 * c + i % 3) 0 ∧ gv L t (3 * (i / 3) + c) 1 ≤ gv L t i 1
def rstP (L : Nat → Nat) (t i : Nat) : Prop := ∀ c, c < 3 → rst1 L t i c
theorem restsC {t i : Nat} {μ : zM} {L : Nat → Nat} (hi : i < 9) (h : ∀ i, i < 9 → μ 105 (2 * i) = gv L t i 0 ∧ μ 105 (2 * i + 1) = gv L t i 1) : wp (f_X3_rests 104 (nI i) μ) (fun r => r = 1 ∧ rstP L t i ∨ r = 0 ∧ ¬ rstP L t i) := by
  have ed : nI i / 3 = nI (i / 3) := by
    show nI i / nI 3 = _
    rw [pk_div (by omega) (by omega) (by omega)]
  have er : nI i % 3 = nI (i % 3) := by
    show nI i % nI 3 = _
    rw [nI_rem (by omega) (by omega) (by omega)]
  have ea : ∀ c, nI c * (3 : Int32) + nI (i % 3) = nI (3 * c + i % 3) := fun c => by
    show nI c * nI 3 + nI (i % 3) = _
    rw [pk_mul, nI_add, Nat.mul_comm]
  have eb : ∀ c, nI (i / 3) * (3 : Int32) + nI c = nI (3 * (i / 3) + c) := fun c => by
    show nI (i / 3) * nI 3 + nI c = _
    rw [pk_mul, nI_add, Nat.mul_comm]
  unfold f_X3_rests
  refine wp_ls (wp_ls ?_)
  rw [ed, er]
  refine wp_bdQ (Q := fun q => q = Sum.inr () ∧ rstP L t i ∨ q = Sum.inl 0 ∧ ¬ rstP L t i) ?_ (fun q hq => ?_)
  · refine wlp0 (fun n c (_ : Unit) => f_X3_rests_L11 104 (nI i) (nI (i / 3)) (nI (i % 3)) μ n (nI c)) _ 3 (fun c _ => ∀ j, j < c → rst1 L t i j) (by omega) () (fun j hj => by omega) ?_ ?_
    · intro n c _ hc hI ih
      show wp (f_X3_rests_L11 104 (nI i) (nI (i / 3)) (nI (i % 3)) μ (n + 1) (nI c)) _
      rw [f_X3_rests_L11, ea, eb]
      have G0 := gainOfC (g := 0) (i := 3 * c + i % 3) (by omega) (by omega) h
      have G1 := gainOfC (g := 0) (i := i) (by omega) (by omega) h
      have G2 := gainOfC (g := 1) (i := 3 * (i / 3) + c) (by omega) (by omega) h
      have G3 := gainOfC (g := 1) (i := i) (by omega) (by omega) h
      refine wp_ie (nI_ge (b := 3) hc (by omega)) (wp_bdE G0 (wp_bdE G1 ?_))
      by_cases c0 : gv L t i 0 < gv L t (3 * c + i % 3) 0
      · exact wp_bd (wp_it c0 (wp_some (wp_ie (by decide) (wp_some (Or.inr ⟨rfl, fun w => (w c hc).1 c0⟩)))))
      · refine wp_bd (wp_ie c0 (wp_bdE G2 (wp_bdE G3 ?_)))
        by_cases c1 : gv L t (3 * (i / 3) + c) 1 ≤ gv L t i 1
        · refine wp_it c1 (wp_some (wp_it rfl (wp_ls ?_)))
          rw [nI_1]
          refine ih () (fun j hj => ?_)
          by_cases e : j = c
          · rw [e]
            exact ⟨c0, c1⟩
          · exact hI j (by omega)
        · exact wp_ie c1 (wp_some (wp_ie (by decide) (wp_some (Or.inr ⟨rfl, fun w => c1 (w c hc).2⟩))))
    · intro n _ hI
      show wp (f_X3_rests_L11 104 (nI i) (nI (i / 3)) (nI (i % 3)) μ (n + 1) (nI 3)) _
      rw [f_X3_rests_L11]
      exact wp_it (nI_le (a := 3) (Nat.le_refl _) (by omega)) (wp_some (Or.inl ⟨rfl, hI⟩))
  · rcases hq with ⟨e, hp⟩ | ⟨e, hp⟩
    · rw [e]
      exact wp_sumr (wp_some (Or.inl ⟨rfl, hp⟩))
    · rw [e]
      exact wp_suml (wp_some (Or.inr ⟨rfl, hp⟩))
theorem isRestM {q t i : Nat} {μ : zM} {L : Nat → Nat} (h : LM q μ L) (hO : LOk L) (ht : t ≤ 12) (hi : i < 9) :
    wp (f_X12_isRest 310 (nI t) (nI i) μ) (fun p => (p.1 = 1 ∧ rstP L t i ∨ p.1 = 0 ∧ ¬ rstP L t i) ∧ MF2 μ p.2) := by
  have ed : nI i / 3 = nI (i / 3) := by
    show nI i / nI 3 = _
    rw [pk_div (by omega) (by omega) (by omega)]
  have er : nI i % 3 = nI (i % 3) := by
    show nI i % nI 3 = _
    rw [nI_rem (by omega) (by omega) (by omega)]
  have ea : ∀ c, (3 : Int32) * nI c + nI (i % 3) = nI (3 * c + i % 3) := fun c => by
    show nI 3 * nI c + nI (i % 3) = _
    rw [pk_mul, nI_add]
  have eb : ∀ c, (3 : Int32) * nI (i / 3) + nI c = nI (3 * (i / 3) + c) := fun c => by
    show nI 3 * nI (i / 3) + nI c = _
    rw [pk_mul, nI_add]
  unfold f_X12_isRest
  refine wp_bd2Q (Q := fun p => (p.1 = 1 ∧ rstP L t i ∨ p.1 = 0 ∧ ¬ rstP L t i) ∧ MF2 μ p.2) ?_ (fun x μ' hx => wp_g ?_ (wp_some hx))
  · refine wlp0 (fun n c (s : Int32 × zM) => f_X12_isRest_L5 310 (nI t) (nI i) n s.1 (nI c) s.2) _ 3 (fun c s => (s.1 = 1 ∧ (∀ j, j < c → rst1 L t i j) ∨ s.1 = 0 ∧ ¬ ∀ j, j < c → rst1 L t i j) ∧ MF2 μ s.2) (by omega) (1, μ) ⟨Or.inl ⟨rfl, fun j hj => by omega⟩, (MF.rf μ).to2⟩ ?_ ?_
    · intro n c s hc ⟨hI, f⟩ ih
      show wp (f_X12_isRest_L5 310 (nI t) (nI i) (n + 1) s.1 (nI c) s.2) _
      rw [f_X12_isRest_L5, er, ed, ea, eb]
      refine wp_ie (nI_ge (b := 3) hc (by omega)) ?_
      have fin : ∀ (v : Int32) (μ' : zM), (v = 1 ∧ (∀ j, j < c + 1 → rst1 L t i j) ∨ v = 0 ∧ ¬ ∀ j, j < c + 1 → rst1 L t i j) → MF2 μ μ' → wp (f_X12_isRest_L5 310 (nI t) (nI i) n v (nI c + 1) μ') _ := fun v μ' hv hf => by
        rw [nI_1]
        exact ih (v, μ') ⟨hv, hf⟩
      rcases hI with ⟨e, hp⟩ | ⟨e, hp⟩
      · rw [e]
        have l0 := h.mf2 f
        refine wp_bd2 (wp_ie (show ¬ (1 : Int32) = 0 by decide) (wp_bd2Q (gainOfM (g := 0) (i := 3 * c + i % 3) l0 hO ht (by omega) (by omega)) fun r9 μ1 ⟨q1, f1⟩ => ?_))
        have q1 : r9 = gv L t (3 * c + i % 3) 0 := q1
        have f1' := f.tr f1
        refine wp_bd2Q (gainOfM (g := 0) (i := i) (h.mf2 f1') hO ht hi (by omega)) fun r11 μ2 ⟨q2, f2⟩ => ?_
        have q2 : r11 = gv L t i 0 := q2
        have f2' := f1'.tr f2
        rw [q1, q2]
        by_cases c0 : gv L t i 0 < gv L t (3 * c + i % 3) 0
        · exact wp_it c0 (wp_some (wp_ls (fin 0 μ2 (Or.inr ⟨rfl, fun w => (w c (by omega)).1 c0⟩) f2')))
        · refine wp_ie c0 (wp_bd2Q (gainOfM (g := 1) (i := 3 * (i / 3) + c) (h.mf2 f2') hO ht (by omega) (by omega)) fun r14 μ3 ⟨q3, f3⟩ => ?_)
          have q3 : r14 = gv L t (3 * (i / 3) + c) 1 := q3
          have f3' := f2'.tr f3
          refine wp_bd2Q (gainOfM (g := 1) (i := i) (h.mf2 f3') hO ht hi (by omega)) fun r16 μ4 ⟨q4, f4⟩ => ?_
          have q4 : r16 = gv L t i 1 := q4
          have f4' := f3'.tr f4
          rw [q3, q4]
          by_cases c1 : gv L t i 1 < gv L t (3 * (i / 3) + c) 1
          · exact wp_it c1 (wp_some (wp_ls (fin 0 μ4 (Or.inr ⟨rfl, fun w => Int32.not_le.mpr c1 (w c (by omega)).2⟩) f4')))
          · refine wp_ie c1 (wp_some (wp_ls (fin 1 μ4 (Or.inl ⟨rfl, fun j hj => ?_⟩) f4')))
            by_cases e : j = c
            · rw [e]
              exact ⟨c0, Int32.not_lt.mp c1⟩
            · exact hp j (by omega)
      · rw [e]
        exact wp_bd2 (wp_it rfl (wp_some (wp_ls (fin 0 s.2 (Or.inr ⟨rfl, fun w => hp (fun j hj => w j (by omega))⟩) f))))
    · intro n s hI
      show wp (f_X12_isRest_L5 310 (nI t) (nI i) (n + 1) s.1 (nI 3) s.2) _
      rw [f_X12_isRest_L5]
      exact wp_it (nI_le (a := 3) (Nat.le_refl _) (by omega)) (wp_some hI)
  · rcases hx.1 with ⟨e, -⟩ | ⟨e, -⟩
    · have e : x = 1 := e
      rw [e]
      decide
    · have e : x = 0 := e
      rw [e]
      decide
def rstB (L : Nat → Nat) (t i : Nat) : Bool := (List.range 3).all (fun c => !decide (gv L t i 0 < gv L t (3 * c + i % 3) 0) && decide (gv L t (3 * (i / 3) + c) 1 ≤ gv L t i 1))
theorem rstB_iff {L : Nat → Nat} {t i : Nat} : rstB L t i = true ↔ rstP L t i := by
  unfold rstB rstP rst1
  rw [List.all_eq_true]
  refine ⟨fun w c hc => ?_, fun w c hc => ?_⟩
  · have := w c (List.mem_range.mpr hc)
    rw [Bool.and_eq_true, Bool.not_eq_true', decide_eq_false_iff_not, decide_eq_true_iff] at this
    exact this
  · rw [Bool.and_eq_true, Bool.not_eq_true', decide_eq_false_iff_not, decide_eq_true_iff]
    exact w c (List.mem_range.mp hc)
/-- how many of the first n rest -/
def rcn (L : Nat → Nat) (t : Nat) : Nat → Nat
  | 0 => 0
  | n + 1 => if rstB L t n = true then rcn L t n + 1 else rcn L t n
theorem rcn_le (L : Nat → Nat) (t : Nat) : ∀ n, rcn L t n ≤ n
  | 0 => Nat.le_refl _
  | n + 1 => by
    have := rcn_le L t n
    unfold rcn
    split <;> omega
theorem atRestC {t : Nat} {μ : zM} {L : Nat → Nat} (h : ∀ i, i < 9 → μ 105 (2 * i) = gv L t i 0 ∧ μ 105 (2 * i + 1) = gv L t i 1) : f_X3_atRest 104 μ = some (nI (rcn L t 9)) := by
  refine wp_eq ?_
  unfold f_X3_atRest
  refine wp_bdQ (Q := fun x => x = nI (rcn L t 9)) ?_ (fun x hx => wp_some hx)
  refine wlp0 (fun n i x => f_X3_atRest_L4 104 μ n x (nI i)) _ 9 (fun i x => x = nI (rcn L t i)) (by omega) 0 rfl ?_ ?_
  · intro n i x hi hx ih
    show wp (f_X3_atRest_L4 104 μ (n + 1) x (nI i)) _
    rw [f_X3_atRest_L4]
    refine wp_ie (nI_ge (b := 9) hi (by omega)) (wp_bdQ (restsC hi h) fun r hr => wp_ls (wp_ls (wp_ls ?_)))
    rw [nI_1]
    refine ih _ ?_
    rw [hx]
    show _ = nI (if rstB L t i = true then rcn L t i + 1 else rcn L t i)
    rcases hr with ⟨e, hp⟩ | ⟨e, hp⟩
    · rw [e, if_neg (show ¬ (1 : Int32) = 0 by decide), if_pos (rstB_iff.mpr hp)]
      exact nI_1 _
    · rw [e, if_pos rfl, if_neg (fun w => hp (rstB_iff.mp w)), Int32.add_zero]
  · intro n x hx
    show wp (f_X3_atRest_L4 104 μ (n + 1) x (nI 9)) _
    rw [f_X3_atRest_L4]
    exact wp_it (nI_le (a := 9) (Nat.le_refl _) (by omega)) (wp_some hx)
