/-! pull -/
def rst1 (L : Nat → Nat) (t i c : Nat) : Prop := ¬ gv L t i 0 < gv L t (3 * c + i % 3) 0 ∧ gv L t (3 * (i / 3) + c) 1 ≤ gv L t i 1
def rstP (L : Nat → Nat) (t i : Nat) : Prop := ∀ c, c < 3 → rst1 L t i c
theorem restsC {t i : Nat} {μ : zM} {L : Nat → Nat} (hi : i < 9) (h : ∀ i, i < 9 → μ 105 (2 * i) = gv L t i 0 ∧ μ 105 (2 * i + 1) = gv L t i 1) : wp (f_X3_rests 104 (nI i) μ) (fun r => r = 1 ∧ rstP L t i ∨ r = 0 ∧ ¬ rstP L t i) := by
  have ed : nI i / 3 = nI (i / 3) := by
    show nI i / nI 3 = _
    rw [pk_div (by omega) (by omega) (by omega)]
  have er : nI i % 3 = nI (i % 3) := by
    show nI i % nI 3 = _
    rw [nI_rem (by omega) (by omega) (by omega)]
  have ea : ∀ c, nI c * (3 : Int32) + nI (i % 3) = nI (3 * c + i % 3) := fun c => by
    show nI c * nI 3 + nI (i % 3) = _
    rw [pk_mul, nI_add, Nat.mul_comm]
  have eb : ∀ c, nI (i / 3) * (3 : Int32) + nI c = nI (3 * (i / 3) + c) := fun c => by
    show nI (i / 3) * nI 3 + nI c = _
    rw [pk_mul, nI_add, Nat.mul_comm]
  unfold f_X3_rests
  refine wp_ls (wp_ls ?_)
  rw [ed, er]
  refine wp_bdQ (Q := fun q => q = Sum.inr () ∧ rstP L t i ∨ q = Sum.inl 0 ∧ ¬ rstP L t i) ?_ (fun q hq => ?_)
  · refine wlp0 (fun n c (_ : Unit) => f_X3_rests_L11 104 (nI i) (nI (i / 3)) (nI (i % 3)) μ n (nI c)) _ 3 (fun c _ => ∀ j, j < c → rst1 L t i j) (by omega) () (fun j hj => by omega) ?_ ?_
    · intro n c _ hc hI ih
      show wp (f_X3_rests_L11 104 (nI i) (nI (i / 3)) (nI (i % 3)) μ (n + 1) (nI c)) _
      rw [f_X3_rests_L11, ea, eb]
      have G0 := gainOfC (g := 0) (i := 3 * c + i % 3) (by omega) (by omega) h
      have G1 := gainOfC (g := 0) (i := i) (by omega) (by omega) h
      have G2 := gainOfC (g := 1) (i := 3 * (i / 3) + c) (by omega) (by omega) h
      have G3 := gainOfC (g := 1) (i := i) (by omega) (by omega) h
      refine wp_ie (nI_ge (b := 3) hc (by omega)) (wp_bdE G0 (wp_bdE G1 ?_))
      by_cases c0 : gv L t i 0 < gv L t (3 * c + i % 3) 0
      · exact wp_bd (wp_it c0 (wp_some (wp_ie (by decide) (wp_some (Or.inr ⟨rfl, fun w => (w c hc).1 c0⟩)))))
      · refine wp_bd (wp_ie c0 (wp_bdE G2 (wp_bdE G3 ?_)))
        by_cases c1 : gv L t (3 * (i / 3) + c) 1 ≤ gv L t i 1
        · refine wp_it c1 (wp_some (wp_it rfl (wp_ls ?_)))
          rw [nI_1]
          refine ih () (fun j hj => ?_)
          by_cases e : j = c
          · rw [e]
            exact ⟨c0, c1⟩
          · exact hI j (by omega)
        · exact wp_ie c1 (wp_some (wp_ie (by decide) (wp_some (Or.inr ⟨rfl, fun w => c1 (w c hc).2⟩))))
    · intro n _ hI
      show wp (f_X3_rests_L11 104 (nI i) (nI (i / 3)) (nI (i % 3)) μ (n + 1) (nI 3)) _
      rw [f_X3_rests_L11]
      exact wp_it (nI_le (a := 3) (Nat.le_refl _) (by omega)) (wp_some (Or.inl ⟨rfl, hI⟩))
  · rcases hq with ⟨e, hp⟩ | ⟨e, hp⟩
    · rw [e]
      exact wp_sumr (wp_some (Or.inl ⟨rfl, hp⟩))
    · rw [e]
      exact wp_suml (wp_some (Or.inr ⟨rfl, hp⟩))
