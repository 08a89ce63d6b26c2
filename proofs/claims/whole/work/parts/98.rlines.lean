/-! TEXTS: the reference reads a line -/
section RLINES
variable {b : Nat → Nat} {n w p s : Nat} {μ μ' μ1 μ2 μ3 : zM} {F : Nat × Nat} {R : Nat → Int32} {x : (Nat × Nat) × Nat}
theorem wp_bd3 {α β γ δ : Type} {a : Option (α × β × γ)} {f : α → β → γ → Option δ} {P : δ → Prop} (h : wp a (fun v => wp (f v.1 v.2.1 v.2.2) P)) : wp (zbd3 a f) P := by
  obtain ⟨⟨u, v, w⟩, h1, h2⟩ := h
  rw [h1]
  exact h2
def LnP (b : Nat → Nat) (n s p : Nat) (F : Nat × Nat) (R : Nat → Int32) (μ μ' : zM) : Prop := MS b n (lineS b n s p F R).1 μ' ∧ ((lineS b n s p F R).1.1.1 ≠ 1 → MR s ((lineS b n s p F R).1.1.1 = 0) μ' (lineS b n s p F R).2) ∧ FLm μ μ'
/-- behind the numbers of a line -/
def NP (b : Nat → Nat) (n s w p : Nat) (F : Nat × Nat) (R : Nat → Int32) (μ μ' : zM) : Prop := MS b n (numsS b n w p (if fullW w R = true then nt F 3 (tF b n p) else F)).1 μ' ∧ ((numsS b n w p (if fullW w R = true then nt F 3 (tF b n p) else F)).1.1.1 ≠ 1 → MR s ((numsS b n w p (if fullW w R = true then nt F 3 (tF b n p) else F)).1.1.1 = 0) μ' (if fullW w R = true then R else updW w (nvS b n w p (numsS b n w p (if fullW w R = true then nt F 3 (tF b n p) else F)).2) R)) ∧ FLm μ μ'
theorem fin_line (hsel : wsel b n s p = some w) (h : NP b n s w p F R μ μ1) : wp (zbd (f_X12_endsLine 310 μ1) fun m => some m) (LnP b n s p F R μ) := by
  obtain ⟨h1, h2, h3⟩ := h
  refine wp_bdQ (endsLineM h1) fun μ2 ⟨a1, a2⟩ => wp_some ?_
  unfold LnP
  rw [lineS_some hsel]
  refine ⟨a1, fun z => ?_, h3.tr a2.fl⟩
  have z : (lnE b n (numsS b n w p (if fullW w R = true then nt F 3 (tF b n p) else F)).1).1.1 ≠ 1 := z
  show MR s ((lnE b n (numsS b n w p (if fullW w R = true then nt F 3 (tF b n p) else F)).1).1.1 = 0) μ2 (if (lnE b n (numsS b n w p (if fullW w R = true then nt F 3 (tF b n p) else F)).1).1.1 = 1 ∨ fullW w R = true then R else updW w (nvS b n w p (numsS b n w p (if fullW w R = true then nt F 3 (tF b n p) else F)).2) R)
  have er : (if (lnE b n (numsS b n w p (if fullW w R = true then nt F 3 (tF b n p) else F)).1).1.1 = 1 ∨ fullW w R = true then R else updW w (nvS b n w p (numsS b n w p (if fullW w R = true then nt F 3 (tF b n p) else F)).2) R) = (if fullW w R = true then R else updW w (nvS b n w p (numsS b n w p (if fullW w R = true then nt F 3 (tF b n p) else F)).2) R) := by
    by_cases hf : fullW w R = true
    · exact (if_pos (Or.inr hf)).trans (if_pos hf).symm
    · exact (if_neg (fun q => q.elim z hf)).trans (if_neg hf).symm
  rw [er]
  by_cases e1 : (numsS b n w p (if fullW w R = true then nt F 3 (tF b n p) else F)).1.1.1 = 1
  · rw [lnE_1 e1] at z
    exact absurd e1 z
  · by_cases e3 : tK b n (numsS b n w p (if fullW w R = true then nt F 3 (tF b n p) else F)).1.2 = 3
    · rw [lnE_y e1 e3]
      exact (h2 e1).fr a2
    · rw [lnE_n e1 e3] at z
      exact absurd rfl z
theorem mid_line {y : Option zM} (hsel : wsel b n s p = some w) (h : wp y (NP b n s w p F R μ)) : wp (zbd y fun μ38 => zbd (f_X12_endsLine 310 μ38) fun μ39 => some μ39) (LnP b n s p F R μ) := wp_bdQ h fun _ h1 => fin_line hsel h1
theorem broken_line (hsel : wsel b n s p = none) (h : MS b n ((1, tF b n p), p) μ1) (f : FLm μ μ1) : wp (zbd (f_X12_endsLine 310 μ1) fun m => some m) (LnP b n s p F R μ) := by
  refine wp_bdQ (endsLineM h) fun μ2 ⟨a1, a2⟩ => wp_some ?_
  unfold LnP
  rw [lineS_none hsel]
  rw [lnE_1 rfl] at a1
  exact ⟨a1, fun z => absurd rfl z, f.tr a2.fl⟩
theorem sel_0 : ∀ c, c ≤ 99 → (wf 0 c 30 0 = none ↔ ¬ (1 ≤ c ∧ c ≤ 12)) := by decide +kernel
theorem sel_1 : ∀ c, c ≤ 99 → (wf 1 c 30 0 = none ↔ ¬ (13 ≤ c ∧ c ≤ 22)) := by decide +kernel
theorem sel_2 : ∀ c, c ≤ 99 → (wf 2 c 30 0 = none ↔ ¬ (23 ≤ c ∧ c ≤ 23)) := by decide +kernel
theorem sel_3 : ∀ c, c ≤ 99 → (wf 3 c 30 0 = none ↔ ¬ (24 ≤ c ∧ c ≤ 24)) := by decide +kernel
theorem sel_4 : ∀ c, c ≤ 99 → (wf 4 c 30 0 = none ↔ ¬ ((8 ≤ c ∧ c ≤ 8) ∨ (25 ≤ c ∧ c ≤ 29))) := by decide +kernel
theorem sel_none {P : Nat → Prop} (h : ∀ c, c ≤ 99 → (wf s c 30 0 = none ↔ ¬ P c)) (k : ¬ (tK b n p = 1 ∧ P (tW b n p))) : wsel b n s p = none := by
  unfold wsel
  by_cases h1 : tK b n p = 1
  · rw [if_pos h1]
    exact (h _ tW_le).mpr fun q => k ⟨h1, q⟩
  · exact if_neg h1
theorem sel_some {P : Nat → Prop} (h : ∀ c, c ≤ 99 → (wf s c 30 0 = none ↔ ¬ P c)) (h1 : tK b n p = 1) (k : P (tW b n p)) : ∃ w, wsel b n s p = some w ∧ w < 30 ∧ wsr w = s ∧ wrc w = tW b n p := by
  have e : wsel b n s p = wf s (tW b n p) 30 0 := if_pos h1
  cases hw : wf s (tW b n p) 30 0 with
  | none => exact absurd k ((h _ tW_le).mp hw)
  | some w => exact ⟨w, by rw [e, hw], wf_some 30 0 rfl hw⟩
theorem nofull (h : w < 7) : ¬ fullW w R = true := fun z => by
  have := of_decide_eq_true z
  omega
/-- where a FAULT lies -/
def Jx (b : Nat → Nat) (n : Nat) (x : (Nat × Nat) × Nat) : Prop := x.1.1 = 0 ∨ x.1.1 = 1 ∨ x.1.2 < tF b n x.2
theorem Jx.late (h : Jx b n x) (h0 : x.1.1 ≠ 0) (h1 : x.1.1 ≠ 1) (k : Nat) : nt x.1 k (tF b n x.2) = x.1 := nt_late h0 ((h.resolve_left h0).resolve_left h1)
theorem Jx.put {k : Nat} (h : Jx b n x) (h1 : x.1.1 ≠ 1) (hk : tK b n x.2 ≠ 0) (c : Bool) : Jx b n (if c = true then x.1 else nt x.1 k (tF b n x.2), tB b n x.2) := by
  have g1 := tB_gt (tK_lt hk)
  have g2 := tF_ge (b := b) (n := n) (p := tB b n x.2)
  have hx : ∀ G : Nat × Nat, (G = x.1 ∨ G = (k, tF b n x.2)) → Jx b n (G, tB b n x.2) := by
    intro G hG
    rcases hG with rfl | rfl
    · rcases h with h | h | h
      · exact Or.inl h
      · exact absurd h h1
      · exact Or.inr (Or.inr (by show x.1.2 < tF b n (tB b n x.2); omega))
    · exact Or.inr (Or.inr (by show tF b n x.2 < tF b n (tB b n x.2); omega))
  refine hx _ ?_
  split
  · exact Or.inl rfl
  · exact (nt_or _ _ _).symm
theorem Jx.num {ok : Nat → Bool} (h : Jx b n x) : Jx b n (numS b n ok x) := by
  by_cases h1 : x.1.1 = 1
  · rw [numS_1 h1]
    exact h
  · by_cases h2 : tK b n x.2 = 2
    · rw [numS_y h1 h2]
      exact h.put h1 (by omega) _
    · rw [numS_n h1 h2]
      exact Or.inr (Or.inl rfl)
theorem Jx.ln (h : Jx b n x) : ∀ k, Jx b n (lnS b n w p k x)
  | 0 => h
  | k + 1 => (Jx.ln h k).num
theorem basicMR {G : Nat × Nat} (hw : w < 7) (hR : MR 0 (F.1 = 0) μ R) (hG : G.1 = 0 → F.1 = 0) (e : ∀ i, (i < wcb w ∨ wcb w + wnum w ≤ i) → μ1 313 i = μ 313 i) (e2 : G.1 = 0 → ∀ i, i < wnum w → μ1 313 (wcb w + i) = nI (tN b n (qs b n p i))) : MR 0 (G.1 = 0) μ1 (updW w (nvS b n w p 0) R) := by
  have hb := basic_ok w hw
  unfold updW
  rw [if_pos hw]
  refine ⟨fun t ht hts => ?_, fun z i hi => ?_⟩
  · obtain ⟨c, c1, c2, c3⟩ := hR.1 t ht hts
    have h11 := tcp_0 t ht hts
    exact ⟨c, c1, (if_neg (by omega)).trans c2, (e _ (Or.inr (by omega))).trans c3⟩
  · by_cases h : wcb w ≤ i ∧ i < wcb w + wnum w
    · obtain ⟨j, rfl⟩ : ∃ j, i = wcb w + j := ⟨i - wcb w, by omega⟩
      rw [e2 z j (by omega)]
      refine (Eq.trans (if_pos h) ?_).symm
      show nvS b n w p 0 (wcb w + j - wcb w) = _
      rw [show wcb w + j - wcb w = j by omega]
      unfold nvS
      rw [if_neg (by omega), if_pos (by omega)]
    · rw [e i (by omega)]
      exact (hR.2 (hG z) i hi).trans (if_neg h).symm
theorem NP.basic (hw : w < 7) (h : MS b n (lnS b n w p (wnum w) (F, tB b n p)) μ1) (hR : MR 0 (F.1 = 0) μ R) (f : FLm μ μ1) (e : ∀ i, (i < wcb w ∨ wcb w + wnum w ≤ i) → μ1 313 i = μ 313 i) (e2 : (lnS b n w p (wnum w) (F, tB b n p)).1.1 = 0 → ∀ i, i < wnum w → μ1 313 (wcb w + i) = nI (tN b n (qs b n p i))) : NP b n 0 w p F R μ μ1 := by
  unfold NP
  rw [if_neg (nofull hw), if_neg (nofull hw), nums_n (by omega)]
  exact ⟨h, fun _ => basicMR hw hR (fun z => (lnS_0 _ z).1) e e2, f⟩
theorem lnS_0' {k : Nat} (h : (lnS b n w p (k + 1) (F, tB b n p)).1.1 = 0) : (lnS b n w p k (F, tB b n p)).1.1 = 0 ∧ (lnS b n w p k (F, tB b n p)).2 = qs b n p k := by
  have z : (numS b n (wok b n w k p) (lnS b n w p k (F, tB b n p))).1.1 = 0 := h
  by_cases q1 : (lnS b n w p k (F, tB b n p)).1.1 = 1
  · rw [numS_1 q1] at z
    omega
  · have e := (lnS_pos k q1).1
    by_cases q2 : tK b n (lnS b n w p k (F, tB b n p)).2 = 2
    · rw [numS_y q1 q2] at z
      have z : (if wok b n w k p (lnS b n w p k (F, tB b n p)).2 = true then (lnS b n w p k (F, tB b n p)).1 else nt (lnS b n w p k (F, tB b n p)).1 2 (tF b n (lnS b n w p k (F, tB b n p)).2)).1 = 0 := z
      split at z
      · exact ⟨z, e⟩
      · exact absurd z (nt_ne0 (by omega))
    · rw [numS_n q1 q2] at z
      cases z
theorem basic1M {lo hi : Nat} {v u : Int32} {c : Nat} (hw : w < 7) (h1 : wnum w = 1) (hc : c = wcb w) (h : MS b n (F, tB b n p) μ1) (hR : MR 0 (F.1 = 0) μ R) (f : FRs μ μ1) (hv : v = nI lo) (hu : u = nI hi) (hlo : bd w 0 / 1000 = lo) (hhi : bd w 0 % 1000 = hi) (hlh : lo ≤ hi) :
    wp (zbd2 (f_X12_numbered 310 v u μ1) fun r23 μ24 => zl (zup μ24 (310 + 3) c r23) fun μ25 => some μ25) (NP b n 0 w p F R μ) := by
  subst hc
  refine wp_bd2Q (numW (w := w) (k := 0) (p := p) h hv hu hlo hhi hlh (by omega)) fun r μ2 ⟨a1, ⟨cv, a2, a3, a4, a5⟩, a6⟩ => wp_u fun μ3 u3 => wp_some ?_
  have a1 : MS b n (lnS b n w p 1 (F, tB b n p)) μ2 := a1
  have a2 : r = nI cv := a2
  have a5 : (lnS b n w p 1 (F, tB b n p)).1.1 = 0 → cv = tN b n (tB b n p) := a5
  have a6 : FRs μ1 μ2 := a6
  have u1 : μ3 313 (wcb w) = r := u3.1
  have u2 : ∀ o, o ≠ 313 → μ3 o = μ2 o := u3.2.1
  have u4 : ∀ j, j ≠ wcb w → μ3 313 j = μ2 313 j := u3.2.2
  have e2 : μ2 313 = μ 313 := by rw [a6.1 313 (by omega) (by omega), f.1 313 (by omega) (by omega)]
  refine NP.basic hw (by rw [h1]; exact a1.o13 u2) hR ((f.tr a6).fl.tr (FRs.u13 u3)) (fun i hi => by rw [u4 i (by omega), e2]) (fun z i hi => ?_)
  rw [h1] at z hi
  obtain rfl : i = 0 := by omega
  rw [Nat.add_zero, u1, a2, a5 z]
  rfl
theorem basic2M {lo hi : Nat} {v u : Int32} {c c' : Nat} (hw : w < 6) (h1 : wnum w = 2) (hc : c = wcb w) (hc' : c' = wcb w + 1) (h : MS b n (F, tB b n p) μ1) (hR : MR 0 (F.1 = 0) μ R) (f : FRs μ μ1) (hv : v = nI lo) (hu : u = nI hi) (hlo : bd w 0 / 1000 = lo) (hhi : bd w 0 % 1000 = hi) (hlo' : bd w 1 / 1000 = lo) (hhi' : bd w 1 % 1000 = hi) (hlh : lo ≤ hi) :
    wp (zbd2 (f_X12_numbered 310 v u μ1) fun r5 μ6 => zl (zup μ6 (310 + 3) c r5) fun μ7 => zbd2 (f_X12_numbered 310 v u μ7) fun r8 μ9 => zl (zup μ9 (310 + 3) c' r8) fun μ10 => some μ10) (NP b n 0 w p F R μ) := by
  subst hc hc'
  refine wp_bd2Q (numW (w := w) (k := 0) (p := p) h hv hu hlo hhi hlh (by omega)) fun r μ2 ⟨a1, ⟨cv, a2, a3, a4, a5⟩, a6⟩ => wp_u fun μ3 u3 => ?_
  have a1 : MS b n (lnS b n w p 1 (F, tB b n p)) μ2 := a1
  have a2 : r = nI cv := a2
  have a5 : (lnS b n w p 1 (F, tB b n p)).1.1 = 0 → cv = tN b n (tB b n p) := a5
  have a6 : FRs μ1 μ2 := a6
  have u1 : μ3 313 (wcb w) = r := u3.1
  have u2 : ∀ o, o ≠ 313 → μ3 o = μ2 o := u3.2.1
  have u4 : ∀ j, j ≠ wcb w → μ3 313 j = μ2 313 j := u3.2.2
  have e2 : μ2 313 = μ 313 := by rw [a6.1 313 (by omega) (by omega), f.1 313 (by omega) (by omega)]
  refine wp_bd2Q (numW (w := w) (k := 1) (p := p) (a1.o13 u2) hv hu hlo' hhi' hlh (by omega)) fun r' μ4 ⟨b1, ⟨cv', b2, b3, b4, b5⟩, b6⟩ => wp_u fun μ5 u5 => wp_some ?_
  have b1 : MS b n (lnS b n w p 2 (F, tB b n p)) μ4 := b1
  have b2 : r' = nI cv' := b2
  have b5 : (lnS b n w p 2 (F, tB b n p)).1.1 = 0 → cv' = tN b n (lnS b n w p 1 (F, tB b n p)).2 := b5
  have b6 : FRs μ3 μ4 := b6
  have v1 : μ5 313 (wcb w + 1) = r' := u5.1
  have v2 : ∀ o, o ≠ 313 → μ5 o = μ4 o := u5.2.1
  have v4 : ∀ j, j ≠ wcb w + 1 → μ5 313 j = μ4 313 j := u5.2.2
  have e4 : μ4 313 = μ3 313 := b6.1 313 (by omega) (by omega)
  refine NP.basic (by omega) (by rw [h1]; exact b1.o13 v2) hR ((((f.tr a6).fl.tr (FRs.u13 u3)).tr b6.fl).tr (FRs.u13 u5)) (fun i hi => by rw [v4 i (by omega), e4, u4 i (by omega), e2]) (fun z i hi => ?_)
  rw [h1] at z hi
  obtain ⟨z1, z2⟩ := lnS_0' z
  have : i = 0 ∨ i = 1 := by omega
  rcases this with rfl | rfl
  · rw [Nat.add_zero, v4 _ (by omega), e4, u1, a2, a5 z1]
    rfl
  · rw [v1, b2, b5 z, z2]
theorem nt_idem (k a : Nat) (hk : k ≠ 0) : nt (nt F k a) k a = nt F k a := by
  rcases nt_or (nt F k a) k a with e | e
  · rcases nt_or F k a with e2 | e2
    · rw [e, e2]
    · rw [e2]
      exact e2
  · exact e
theorem brothersM (h : MS b n (F, tB b n p) μ1) (hR : MR 0 (F.1 = 0) μ R) (f : FRs μ μ1) (hJ : Jx b n (F, tB b n p)) : wp (f_X12_brothers 310 μ1) (NP b n 0 6 p F R μ) := by
  have hb := h.1.1.2
  have hn := h.1.1.1
  unfold f_X12_brothers
  refine wp_bd2Q (numW (w := 6) (k := 0) (p := p) (lo := 0) (hi := 3) h rfl rfl rfl rfl (by omega) (by omega)) fun r μ2 ⟨q1, ⟨cv, q2, q3, q4, q5⟩, q6⟩ => wp_l fun μ8 h8 => wp_u fun μ3 u3 => ?_
  have a1 : MS b n (lnS b n 6 p 1 (F, tB b n p)) μ2 := q1
  have a2 : r = nI cv := q2
  have a5 : (lnS b n 6 p 1 (F, tB b n p)).1.1 = 0 → cv = tN b n (tB b n p) := q5
  have a6 : FRs μ1 μ2 := q6
  have hJ1 : Jx b n (lnS b n 6 p 1 (F, tB b n p)) := hJ.ln 1
  have hlast : lnS b n 6 p 2 (F, tB b n p) = numS b n (wok b n 6 1 p) (lnS b n 6 p 1 (F, tB b n p)) := rfl
  obtain ⟨x1, hx1⟩ : ∃ x1, lnS b n 6 p 1 (F, tB b n p) = x1 := ⟨_, rfl⟩
  rw [hx1] at a1 a5 hJ1 hlast
  subst a2
  have hlt := tN_lt (n := n) (p := x1.2) hb
  have hin : ∀ q, inb 6 1 (tN b n q) = true ↔ 0 ≤ tN b n q ∧ tN b n q ≤ 3 := by
    intro q
    unfold inb
    rw [decide_eq_true_eq, show bd 6 1 = 3 from rfl]
  have key : ∃ x2 : (Nat × Nat) × Nat, MS b n x2 μ8 ∧ FRs μ2 μ8 ∧ numS b n (fun q => decide (0 ≤ tN b n q ∧ tN b n q ≤ 3)) x2 = numS b n (wok b n 6 1 p) x1 ∧ x2.2 = x1.2 := by
    by_cases e1 : x1.1.1 = 1
    · rw [if_neg (fun z => by have := z.1; rw [a1.2.1.2.1, if_pos e1] at this; exact absurd this (by decide))] at h8
      rw [h8]
      exact ⟨x1, a1, FRs.rf _, by rw [numS_1 e1, numS_1 e1], rfl⟩
    · have hT := a1.2.2.2 e1
      have e8 : μ2 310 8 = 0 := by rw [a1.2.1.2.1, if_neg e1]
      by_cases e2 : tK b n x1.2 = 2
      · have e6 : μ2 310 6 = nI (tN b n x1.2) := hT.2.2.2.1 e2
        have heq : (μ2 310 6 = nI cv) ↔ tN b n x1.2 = cv := by
          rw [e6]
          exact nI_eq (by omega) (by omega)
        have hfl := tF_le (b := b) a1.2.2.1
        by_cases e3 : tN b n x1.2 = cv
        · rw [if_pos ⟨e8, hT.tok.2.1.mpr e2, heq.mpr e3⟩] at h8
          have h8 : μ8 = f_X12_also 310 2 (μ2 310 4) μ2 := h8
          obtain ⟨c1, c2⟩ := alsoM (k := 2) (v := 2) (a := tF b n x1.2) (u := μ2 310 4) a1.2.1 e1 (by omega) (by omega) rfl hT.2.1
          rw [← h8] at c1 c2
          refine ⟨(nt x1.1 2 (tF b n x1.2), x1.2), a1.fs c1 c2 e1, ⟨fun o _ o2 => c2.1 o o2, c2.2⟩, ?_, rfl⟩
          rw [numS_y (s := (nt x1.1 2 (tF b n x1.2), x1.2)) (nt_ne1 e1 (by omega)) e2, numS_y e1 e2]
          refine Prod.ext ?_ rfl
          show (if decide (0 ≤ tN b n x1.2 ∧ tN b n x1.2 ≤ 3) = true then nt x1.1 2 (tF b n x1.2) else nt (nt x1.1 2 (tF b n x1.2)) 2 (tF b n x1.2)) = (if wok b n 6 1 p x1.2 = true then x1.1 else nt x1.1 2 (tF b n x1.2))
          rw [nt_idem _ _ (by omega), ite_self]
          by_cases e0 : x1.1.1 = 0
          · rw [if_neg (fun z => (wok_iff.mp z).2 ⟨rfl, rfl, by rw [e3, a5 e0]⟩)]
          · rw [hJ1.late e0 e1, ite_self]
        · rw [if_neg (fun z => e3 (heq.mp z.2.2))] at h8
          rw [h8]
          refine ⟨x1, a1, FRs.rf _, ?_, rfl⟩
          rw [numS_y e1 e2, numS_y e1 e2]
          refine Prod.ext ?_ rfl
          show (if decide (0 ≤ tN b n x1.2 ∧ tN b n x1.2 ≤ 3) = true then x1.1 else nt x1.1 2 (tF b n x1.2)) = (if wok b n 6 1 p x1.2 = true then x1.1 else nt x1.1 2 (tF b n x1.2))
          by_cases e0 : x1.1.1 = 0
          · have : decide (0 ≤ tN b n x1.2 ∧ tN b n x1.2 ≤ 3) = true ↔ wok b n 6 1 p x1.2 = true := by
              rw [wok_iff, hin, decide_eq_true_eq]
              exact ⟨fun z => ⟨z, fun q => e3 (by rw [q.2.2, a5 e0])⟩, fun z => z.1⟩
            by_cases c : wok b n 6 1 p x1.2 = true
            · rw [if_pos c, if_pos (this.mpr c)]
            · rw [if_neg c, if_neg (fun z => c (this.mp z))]
          · rw [hJ1.late e0 e1, ite_self, ite_self]
      · rw [if_neg (fun z => e2 (hT.tok.2.1.mp z.2.1))] at h8
        rw [h8]
        exact ⟨x1, a1, FRs.rf _, by rw [numS_n e1 e2, numS_n e1 e2], rfl⟩
  obtain ⟨x2, m2, f2, e2, ep⟩ := key
  have u1 : μ3 313 9 = nI cv := u3.1
  have u2 : ∀ o, o ≠ 313 → μ3 o = μ8 o := u3.2.1
  have u4 : ∀ j, j ≠ 9 → μ3 313 j = μ8 313 j := u3.2.2
  have e8 : μ8 313 = μ 313 := by rw [f2.1 313 (by omega) (by omega), a6.1 313 (by omega) (by omega), f.1 313 (by omega) (by omega)]
  refine wp_bd2Q (numberedM (lo := 0) (hi := 3) (ok := fun q => decide (0 ≤ tN b n q ∧ tN b n q ≤ 3)) (m2.o13 u2) rfl rfl (by omega) decide_eq_true_iff) fun r' μ4 ⟨b1, ⟨cv', b2, b3, b4, b5⟩, b6⟩ => wp_u fun μ5 u5 => wp_some ?_
  rw [e2, ← hlast] at b1 b5
  have b1 : MS b n (lnS b n 6 p 2 (F, tB b n p)) μ4 := b1
  have b2 : r' = nI cv' := b2
  have b6 : FRs μ3 μ4 := b6
  have v1 : μ5 313 10 = r' := u5.1
  have v2 : ∀ o, o ≠ 313 → μ5 o = μ4 o := u5.2.1
  have v4 : ∀ j, j ≠ 10 → μ5 313 j = μ4 313 j := u5.2.2
  have e4 : μ4 313 = μ3 313 := b6.1 313 (by omega) (by omega)
  have hcb : wcb 6 = 9 := rfl
  have hwn : wnum 6 = 2 := rfl
  refine NP.basic (by omega) (b1.o13 v2) hR (((((f.tr a6).tr f2).fl.tr (FRs.u13 u3)).tr b6.fl).tr (FRs.u13 u5)) (fun i hi => by rw [hcb, hwn] at hi; rw [v4 i (by omega), e4, u4 i (by omega), e8]) (fun z i hi => ?_)
  rw [hwn] at z hi
  obtain ⟨z1, z2⟩ := lnS_0' z
  rw [hx1] at z1 z2
  rw [hcb]
  have : i = 0 ∨ i = 1 := by omega
  rcases this with rfl | rfl
  · rw [v4 _ (by omega), e4]
    exact u1.trans (by rw [a5 z1]; rfl)
  · rw [show 9 + 1 = 10 from rfl, v1, b2, b5 z, ep, z2]
theorem lakeLineM (h : MS b n (F, p) μ) (h1 : F.1 ≠ 1) (hk : tK b n p ≠ 0) (hJ : F.1 = 0 ∨ F.2 < tF b n p) (hR : MR 0 (F.1 = 0) μ R) : wp (f_X12_lakeLine 310 μ) (LnP b n 0 p F R μ) := by
  have hp : p ≤ n := h.2.2.1
  have hn := h.1.1.1
  have hfl := tF_le (b := b) hp
  have hg := tB_gt (tK_lt hk)
  have hg2 := tF_ge (b := b) (n := n) (p := tB b n p)
  unfold f_X12_lakeLine
  refine wp_l fun x1 hx1 => ?_
  rw [show μ 310 4 = nI (tF b n p) from (h.2.2.2 h1).2.1] at hx1
  subst hx1
  refine wp_bd2Q (takesM (lo := 1) (hi := 12) h h1 rfl rfl (by omega)) fun r2 μ3 ⟨f3, hc⟩ => ?_
  have f3 : FRs μ μ3 := f3
  rcases hc with ⟨hc, hr, m3⟩ | ⟨hc, hr, m3⟩
  · obtain ⟨w, hsel, hw, hws, hwc⟩ := sel_some (P := fun c => 1 ≤ c ∧ c ≤ 12) sel_0 hc.1 hc.2
    have hr : r2 = nI (wrc w) := by rw [hwc]; exact hr
    have m3 : MS b n (F, tB b n p) μ3 := m3
    have hJ3 : Jx b n (F, tB b n p) := hJ.elim Or.inl (fun z => Or.inr (Or.inr (by show F.2 < tF b n (tB b n p); omega)))
    have h12 : w < 12 := (wsr_0 w hw).mpr hws
    refine mid_line hsel ?_
    have hcases : w = 0 ∨ w = 1 ∨ w = 2 ∨ w = 3 ∨ w = 4 ∨ w = 5 ∨ w = 6 ∨ w = 7 ∨ w = 8 ∨ w = 9 ∨ w = 10 ∨ w = 11 := by omega
    rcases hcases with rfl | rfl | rfl | rfl | rfl | rfl | rfl | rfl | rfl | rfl | rfl | rfl
    · have hr : r2 = (1 : Int32) := hr.trans (by decide)
      subst hr
      refine wp_it rfl ?_
      exact basic2M (w := 0) (lo := 2) (hi := 12) (by omega) rfl rfl rfl m3 hR f3 rfl rfl rfl rfl rfl rfl (by omega)
    · have hr : r2 = (2 : Int32) := hr.trans (by decide)
      subst hr
      refine wp_ie (by decide) (wp_it rfl ?_)
      exact basic2M (w := 1) (lo := 1) (hi := 4) (by omega) rfl rfl rfl m3 hR f3 rfl rfl rfl rfl rfl rfl (by omega)
    · have hr : r2 = (3 : Int32) := hr.trans (by decide)
      subst hr
      refine wp_ie (by decide) (wp_ie (by decide) (wp_it rfl ?_))
      exact basic2M (w := 2) (lo := 0) (hi := 11) (by omega) rfl rfl rfl m3 hR f3 rfl rfl rfl rfl rfl rfl (by omega)
    · have hr : r2 = (4 : Int32) := hr.trans (by decide)
      subst hr
      refine wp_ie (by decide) (wp_ie (by decide) (wp_ie (by decide) (wp_it rfl ?_)))
      exact basic1M (w := 3) (lo := 0) (hi := 99) (by omega) rfl rfl m3 hR f3 rfl rfl rfl rfl (by omega)
    · have hr : r2 = (5 : Int32) := hr.trans (by decide)
      subst hr
      refine wp_ie (by decide) (wp_ie (by decide) (wp_ie (by decide) (wp_ie (by decide) (wp_it rfl ?_))))
      exact basic1M (w := 4) (lo := 1) (hi := 99) (by omega) rfl rfl m3 hR f3 rfl rfl rfl rfl (by omega)
    · have hr : r2 = (6 : Int32) := hr.trans (by decide)
      subst hr
      refine wp_ie (by decide) (wp_ie (by decide) (wp_ie (by decide) (wp_ie (by decide) (wp_ie (by decide) (wp_it rfl ?_)))))
      exact basic1M (w := 5) (lo := 1) (hi := 99) (by omega) rfl rfl m3 hR f3 rfl rfl rfl rfl (by omega)
    · have hr : r2 = (12 : Int32) := hr.trans (by decide)
      subst hr
      refine wp_ie (by decide) (wp_ie (by decide) (wp_ie (by decide) (wp_ie (by decide) (wp_ie (by decide) (wp_ie (by decide) (wp_ie (by decide) (wp_ie (by decide) (wp_ie (by decide) (wp_ie (by decide) (wp_ie (by decide) (wp_it rfl ?_)))))))))))
      exact wp_bdQ (brothersM m3 hR f3 hJ3) fun _ q => wp_some q
    · have hr : r2 = (7 : Int32) := hr.trans (by decide)
      subst hr
      refine wp_ie (by decide) (wp_ie (by decide) (wp_ie (by decide) (wp_ie (by decide) (wp_ie (by decide) (wp_ie (by decide) (wp_it rfl ?_))))))
      refine wp_bdQ (furtherM (w := 7) (a := tF b n p) (by omega) rfl m3 h1 hp (hR.fr f3) (by omega) rfl rfl rfl rfl rfl rfl) fun μ4 ⟨q1, q2, q3⟩ => wp_some ?_
      unfold NP
      rw [nums_n (by omega)]
      exact ⟨q1, q2, f3.fl.tr q3⟩
    · have hr : r2 = (8 : Int32) := hr.trans (by decide)
      subst hr
      refine wp_ie (by decide) (wp_ie (by decide) (wp_ie (by decide) (wp_ie (by decide) (wp_ie (by decide) (wp_ie (by decide) (wp_ie (by decide) (wp_it rfl ?_)))))))
      refine wp_bdQ (furtherM (w := 8) (a := tF b n p) (by omega) rfl m3 h1 hp (hR.fr f3) (by omega) rfl rfl rfl rfl rfl rfl) fun μ4 ⟨q1, q2, q3⟩ => wp_some ?_
      unfold NP
      rw [nums_n (by omega)]
      exact ⟨q1, q2, f3.fl.tr q3⟩
    · have hr : r2 = (9 : Int32) := hr.trans (by decide)
      subst hr
      refine wp_ie (by decide) (wp_ie (by decide) (wp_ie (by decide) (wp_ie (by decide) (wp_ie (by decide) (wp_ie (by decide) (wp_ie (by decide) (wp_ie (by decide) (wp_it rfl ?_))))))))
      refine wp_bdQ (furtherM (w := 9) (a := tF b n p) (by omega) rfl m3 h1 hp (hR.fr f3) (by omega) rfl rfl rfl rfl rfl rfl) fun μ4 ⟨q1, q2, q3⟩ => wp_some ?_
      unfold NP
      rw [nums_n (by omega)]
      exact ⟨q1, q2, f3.fl.tr q3⟩
    · have hr : r2 = (10 : Int32) := hr.trans (by decide)
      subst hr
      refine wp_ie (by decide) (wp_ie (by decide) (wp_ie (by decide) (wp_ie (by decide) (wp_ie (by decide) (wp_ie (by decide) (wp_ie (by decide) (wp_ie (by decide) (wp_ie (by decide) (wp_it rfl ?_)))))))))
      refine wp_bdQ (furtherM (w := 10) (a := tF b n p) (by omega) rfl m3 h1 hp (hR.fr f3) (by omega) rfl rfl rfl rfl rfl rfl) fun μ4 ⟨q1, q2, q3⟩ => wp_some ?_
      unfold NP
      rw [nums_n (by omega)]
      exact ⟨q1, q2, f3.fl.tr q3⟩
    · have hr : r2 = (11 : Int32) := hr.trans (by decide)
      subst hr
      refine wp_ie (by decide) (wp_ie (by decide) (wp_ie (by decide) (wp_ie (by decide) (wp_ie (by decide) (wp_ie (by decide) (wp_ie (by decide) (wp_ie (by decide) (wp_ie (by decide) (wp_ie (by decide) (wp_it rfl ?_))))))))))
      refine wp_bdQ (furtherM (w := 11) (a := tF b n p) (by omega) rfl m3 h1 hp (hR.fr f3) (by omega) rfl rfl rfl rfl rfl rfl) fun μ4 ⟨q1, q2, q3⟩ => wp_some ?_
      unfold NP
      rw [nums_n (by omega)]
      exact ⟨q1, q2, f3.fl.tr q3⟩
  · have hsel := sel_none (s := 0) (P := fun c => 1 ≤ c ∧ c ≤ 12) sel_0 hc
    have hr : r2 = 0 := hr
    have m3 : MS b n ((1, tF b n p), p) μ3 := m3
    subst hr
    refine wp_bd ?_
    refine wp_ie (by decide) (wp_ie (by decide) (wp_ie (by decide) (wp_ie (by decide) (wp_ie (by decide) (wp_ie (by decide) (wp_ie (by decide) (wp_ie (by decide) (wp_ie (by decide) (wp_ie (by decide) (wp_ie (by decide) (wp_ie (by decide) (wp_some ?_))))))))))))
    exact broken_line hsel m3 f3.fl
theorem nightLineM (h : MS b n (F, p) μ) (h1 : F.1 ≠ 1) (hk : tK b n p ≠ 0) (hR : MR 2 (F.1 = 0) μ R) : wp (f_X12_nightLine 310 μ) (LnP b n 2 p F R μ) := by
  have hp : p ≤ n := h.2.2.1
  have hn := h.1.1.1
  have hfl := tF_le (b := b) hp
  unfold f_X12_nightLine
  refine wp_l fun x1 hx1 => ?_
  rw [show μ 310 4 = nI (tF b n p) from (h.2.2.2 h1).2.1] at hx1
  subst hx1
  refine wp_bd2Q (takesM (lo := 23) (hi := 23) h h1 rfl rfl (by omega)) fun r2 μ3 ⟨f3, hc⟩ => ?_
  have f3 : FRs μ μ3 := f3
  rcases hc with ⟨hc, hr, m3⟩ | ⟨hc, hr, m3⟩
  · obtain ⟨w, hsel, hw, hws, hwc⟩ := sel_some (P := fun c => 23 ≤ c ∧ c ≤ 23) sel_2 hc.1 hc.2
    have hw22 : w = 22 := by
      have : ∀ w, w < 30 → wsr w = 2 → w = 22 := by decide +kernel
      exact this w hw hws
    subst hw22
    have hr : r2 = (23 : Int32) := by
      have hr : r2 = nI (tW b n p) := hr
      rw [hr, ← hwc]
      decide
    have m3 : MS b n (F, tB b n p) μ3 := m3
    subst hr
    refine mid_line hsel (wp_ie (fun z => z rfl) ?_)
    refine wp_bdQ (furtherM (w := 22) (a := tF b n p) (by omega) rfl m3 h1 hp (hR.fr f3) (by omega) rfl rfl rfl rfl rfl rfl) fun μ4 ⟨q1, q2, q3⟩ => wp_some ?_
    unfold NP
    rw [nums_n (by omega)]
    exact ⟨q1, q2, f3.fl.tr q3⟩
  · have hsel := sel_none (s := 2) (P := fun c => 23 ≤ c ∧ c ≤ 23) sel_2 hc
    have hr : r2 = 0 := hr
    have m3 : MS b n ((1, tF b n p), p) μ3 := m3
    subst hr
    refine wp_bd ?_
    refine wp_it (by decide) (wp_some ?_)
    exact broken_line hsel m3 f3.fl
/-- the FAULT of a row too many, told at a line's first token -/
theorem over3 {t a : Nat} {m : Int32} (ht : t = 5 ∨ t = 8) (hts : tsr t = s) (hkt : kt w = t) (h7 : 7 ≤ w) (h : MS b n (F, p) μ) (h1 : F.1 ≠ 1) (hR : MR s (F.1 = 0) μ R) (ha : a ≤ 600) (hm : m = nI (tmx t)) :
    MS b n (if fullW w R = true then nt F 3 a else F, p) (if (μ 310 8 = 0) ∧ (¬ (μ (310 + 3) 0 < m)) then zl (f_X12_also 310 3 (nI a) μ) fun q => q else μ) ∧ FRs μ (if (μ 310 8 = 0) ∧ (¬ (μ (310 + 3) 0 < m)) then zl (f_X12_also 310 3 (nI a) μ) fun q => q else μ) := by
  have ht9 : t < 9 := by omega
  have hcp : tcp t = 0 := by rcases ht with rfl | rfl <;> rfl
  have hmx := (tro_ok t ht9).1.2.1
  obtain ⟨c, c1, c2, c3⟩ := hR.1 t ht9 hts
  have hfull : fullW w R = true ↔ tmx t ≤ c := by
    unfold fullW
    rw [decide_eq_true_eq, hkt, c2, nI_clamp (by omega)]
    omega
  rw [hcp] at c3
  have c3' : μ (310 + 3) 0 = nI c := c3
  have e8 : μ 310 8 = 0 := by rw [h.2.1.2.1, if_neg h1]
  rw [c3', hm]
  by_cases hf : fullW w R = true
  · rw [if_pos hf, if_pos ⟨e8, nI_nlt (hfull.mp hf) (by omega)⟩]
    obtain ⟨a1, a2⟩ := alsoM (k := 3) (v := 3) (a := a) (u := nI a) h.2.1 h1 (by omega) ha rfl rfl
    exact ⟨h.fs a1 a2 h1, fun o o1 o2 => a2.1 o o2, a2.2⟩
  · rw [if_neg hf, if_neg (fun z => z.2 (nI_lt (Nat.lt_of_not_le fun q => hf (hfull.mpr q)) (by omega)))]
    exact ⟨h, FRs.rf μ⟩
theorem fin_page {t : Nat} {m y1 y2 y3 : Int32} (hsel : wsel b n s p = some w) (ht : t = 5 ∨ t = 8) (hts : tsr t = s) (hkt : kt w = t) (h12 : 12 ≤ w) (h23 : w ≠ 23) (hw4 : wsr w = 1 ∨ wsr w = 4) (hR : MR s (F.1 = 0) μ R) (f : FRs μ μ1) (h : MS b n (lnS b n w p (wnum w) (if fullW w R = true then nt F 3 (tF b n p) else F, tB b n p)) μ1) (hm : m = nI (tmx t))
    (e1 : y1 = nI (mtt w)) (e2 : (lnS b n w p (wnum w) (if fullW w R = true then nt F 3 (tF b n p) else F, tB b n p)).1.1 = 0 → y2 = (if 0 < wnum w then nI (tN b n (qs b n p 0)) else -1)) (e3 : (lnS b n w p (wnum w) (if fullW w R = true then nt F 3 (tF b n p) else F, tB b n p)).1.1 = 0 → y3 = (if 1 < wnum w then nI (tN b n (qs b n p 1)) else -1)) :
    wp (zbd (f_X12_adds 310 m y1 y2 y3 μ1) fun μ46 => zbd (f_X12_endsLine 310 μ46) fun μ47 => some μ47) (LnP b n s p F R μ) := by
  have hn0 : (lnS b n w p (wnum w) (if fullW w R = true then nt F 3 (tF b n p) else F, tB b n p)).1.1 = 0 → F.1 = 0 := by
    intro z
    have := (lnS_0 _ z).1
    by_cases hf : fullW w R = true
    · rw [if_pos hf] at this
      exact absurd this (nt_ne0 (by omega))
    · rw [if_neg hf] at this
      exact this
  refine wp_bdQ (addsM (t := t) (v' := (lnS b n w p (wnum w) (if fullW w R = true then nt F 3 (tF b n p) else F, tB b n p)).1.1 = 0) (row := rowWd w (nvS b n w p 0)) (hR.fr f) ht hts hn0 hm fun z i hi => ?_) fun μ2 ⟨a1, a2⟩ => fin_line hsel ?_
  · unfold rowWd nvS
    rw [if_pos hw4]
    have : i = 0 ∨ i = 1 ∨ i = 2 := by omega
    rcases this with rfl | rfl | rfl
    · rw [if_pos rfl, if_pos rfl, e1]
    · refine (if_neg (show ¬ (1 : Nat) = 0 by omega)).trans ((if_neg (fun q => h23 q.1)).trans ?_)
      exact (e2 z).symm
    · refine (if_neg (show ¬ (2 : Nat) = 0 by omega)).trans ((if_neg (fun q => h23 q.1)).trans ?_)
      exact (e3 z).symm
  · unfold NP
    rw [nums_n h23]
    refine ⟨h.o13 a2, fun _ => ?_, f.fl.tr ⟨fun o _ _ o3 => a2 o o3, fun k _ _ => by rw [a2 311 (by omega)]⟩⟩
    have ef : fullW w R = true ↔ tmx t ≤ (R (tcp t)).toNatClampNeg := by
      unfold fullW
      rw [decide_eq_true_eq, hkt]
      omega
    have eR : (if fullW w R = true then R else updW w (nvS b n w p 0) R) = (if tmx t ≤ (R (tcp t)).toNatClampNeg then R else updR t (rowWd w (nvS b n w p 0)) R) := by
      by_cases hf : fullW w R = true
      · rw [if_pos hf, if_pos (ef.mp hf)]
      · rw [if_neg hf, if_neg (fun z => hf (ef.mpr z))]
        unfold updW
        rw [if_neg (by omega), hkt]
    show MR s _ μ2 (if fullW w R = true then R else updW w (nvS b n w p 0) R)
    rw [eR]
    exact a1
theorem fin_bad {m y1 y2 y3 : Int32} {t : Nat} (hsel : wsel b n s p = none) (ht : t = 5 ∨ t = 8) (hts : tsr t = s) (hR : MR s (F.1 = 0) μ R) (f : FRs μ μ1) (h : MS b n ((1, tF b n p), p) μ1) (hm : m = nI (tmx t)) : wp (zbd (f_X12_adds 310 m y1 y2 y3 μ1) fun μ46 => zbd (f_X12_endsLine 310 μ46) fun μ47 => some μ47) (LnP b n s p F R μ) := by
  refine wp_bdQ (addsM (t := t) (v' := False) (row := fun _ => 0) (hR.fr f) ht hts (fun z => z.elim) hm (fun z => z.elim)) fun μ2 ⟨a1, a2⟩ => broken_line hsel (h.o13 a2) (f.fl.tr ⟨fun o _ _ o3 => a2 o o3, fun k _ _ => by rw [a2 311 (by omega)]⟩)
theorem dayLineM (h : MS b n (F, p) μ) (h1 : F.1 ≠ 1) (hk : tK b n p ≠ 0) (hR : MR 1 (F.1 = 0) μ R) : wp (f_X12_dayLine 310 μ) (LnP b n 1 p F R μ) := by
  have hp : p ≤ n := h.2.2.1
  have hn := h.1.1.1
  have hfl := tF_le (b := b) hp
  unfold f_X12_dayLine
  refine wp_l fun x1 hx1 => ?_
  rw [show μ 310 4 = nI (tF b n p) from (h.2.2.2 h1).2.1] at hx1
  subst hx1
  refine wp_bd2Q (takesM (lo := 13) (hi := 22) h h1 rfl rfl (by omega)) fun r2 μ3 ⟨f3, hc⟩ => wp_l fun x4 hx4 => wp_l fun μ9 h9 => ?_
  have f3 : FRs μ μ3 := f3
  rcases hc with ⟨hc, hr, m3⟩ | ⟨hc, hr, m3⟩
  · obtain ⟨w, hsel, hw, hws, hwc⟩ := sel_some (P := fun c => 13 ≤ c ∧ c ≤ 22) sel_1 hc.1 hc.2
    have hr : r2 = nI (wrc w) := by rw [hwc]; exact hr
    have m3 : MS b n (F, tB b n p) μ3 := m3
    have hws' : ∀ w, w < 30 → wsr w = 1 → 12 ≤ w ∧ w ≤ 21 ∧ kt w = 5 := by decide +kernel
    obtain ⟨hw1, hw2, hkt⟩ := hws' w hw hws
    obtain ⟨m9, f9⟩ := over3 (t := 5) (w := w) (a := tF b n p) (m := 40) (Or.inl rfl) rfl hkt (by omega) m3 h1 (hR.fr f3) (by omega) rfl
    rw [← h9] at m9 f9
    generalize hF1 : (if fullW w R = true then nt F 3 (tF b n p) else F) = F1 at m9
    have hcases : w = 12 ∨ w = 13 ∨ w = 14 ∨ w = 15 ∨ w = 16 ∨ w = 17 ∨ w = 18 ∨ w = 19 ∨ w = 20 ∨ w = 21 := by omega
    rcases hcases with rfl | rfl | rfl | rfl | rfl | rfl | rfl | rfl | rfl | rfl
    · have hx : x4 = (0 : Int32) := by rw [hx4, hr]; decide
      subst hx
      refine ?_
      refine wp_bd3 (wp_ie (fun z => z rfl) (wp_bd2Q (numW (w := 12) (k := 0) (p := p) (lo := 0) (hi := 4) m9 rfl rfl rfl rfl (by omega) (by omega)) fun r μ10 ⟨a1, ⟨cv, a2, a3, a4, a5⟩, a6⟩ => ?_))
      have a1 : MS b n (lnS b n 12 p 1 (F1, tB b n p)) μ10 := a1
      have a2 : r = nI cv := a2
      have a5 : (lnS b n 12 p 1 (F1, tB b n p)).1.1 = 0 → cv = tN b n (tB b n p) := a5
      have a6 : FRs μ9 μ10 := a6
      refine wp_bd2Q (numW (w := 12) (k := 1) (p := p) (lo := 0) (hi := 15) a1 rfl rfl rfl rfl (by omega) (by omega)) fun r' μ11 ⟨b1, ⟨cv', b2, b3, b4, b5⟩, b6⟩ => wp_some ?_
      have b1 : MS b n (lnS b n 12 p 2 (F1, tB b n p)) μ11 := b1
      have b2 : r' = nI cv' := b2
      have b5 : (lnS b n 12 p 2 (F1, tB b n p)).1.1 = 0 → cv' = tN b n (lnS b n 12 p 1 (F1, tB b n p)).2 := b5
      have b6 : FRs μ10 μ11 := b6
      refine wp_bd2 (wp_it (by decide) (wp_some (wp_bd3 (wp_it (by decide) (wp_some (wp_bd2 (wp_it (by decide) (wp_some (wp_bd2 (wp_it (by decide) (wp_some (?_))))))))))))
      exact fin_page (t := 5) (w := 12) (F := F) hsel (Or.inl rfl) rfl rfl (by omega) (by omega) (Or.inl rfl) hR (((f3.tr f9).tr a6).tr b6) (by rw [hF1]; exact b1) rfl rfl (fun z => by rw [if_pos (by decide)]; exact a2.trans (by rw [a5 (lnS_0' (hF1 ▸ z)).1]; rfl)) (fun z => by rw [if_pos (by decide)]; exact b2.trans (by rw [b5 (hF1 ▸ z), (lnS_0' (hF1 ▸ z)).2]))
    · have hx : x4 = (1 : Int32) := by rw [hx4, hr]; decide
      subst hx
      refine wp_bd3 (wp_it (by decide) (wp_some (?_)))
      refine wp_bd2 (wp_ie (fun z => z rfl) (wp_bd2Q (numW (w := 13) (k := 0) (p := p) (lo := 0) (hi := 4) m9 rfl rfl rfl rfl (by omega) (by omega)) fun r μ10 ⟨a1, ⟨cv, a2, a3, a4, a5⟩, a6⟩ => ?_))
      have a1 : MS b n (lnS b n 13 p 1 (F1, tB b n p)) μ10 := a1
      have a2 : r = nI cv := a2
      have a5 : (lnS b n 13 p 1 (F1, tB b n p)).1.1 = 0 → cv = tN b n (tB b n p) := a5
      have a6 : FRs μ9 μ10 := a6
      refine wp_some ?_
      refine wp_bd3 (wp_it (by decide) (wp_some (wp_bd2 (wp_it (by decide) (wp_some (wp_bd2 (wp_it (by decide) (wp_some (?_)))))))))
      exact fin_page (t := 5) (w := 13) (F := F) hsel (Or.inl rfl) rfl rfl (by omega) (by omega) (Or.inl rfl) hR ((f3.tr f9).tr a6) (by rw [hF1]; exact a1) rfl rfl (fun z => by rw [if_pos (by decide)]; exact a2.trans (by rw [a5 (hF1 ▸ z)]; rfl)) (fun _ => rfl)
    · have hx : x4 = (2 : Int32) := by rw [hx4, hr]; decide
      subst hx
      refine wp_bd3 (wp_it (by decide) (wp_some (wp_bd2 (wp_it (by decide) (wp_some (?_))))))
      refine wp_bd3 (wp_ie (fun z => z rfl) (wp_bd2Q (numW (w := 14) (k := 0) (p := p) (lo := 0) (hi := 3) m9 rfl rfl rfl rfl (by omega) (by omega)) fun r μ10 ⟨a1, ⟨cv, a2, a3, a4, a5⟩, a6⟩ => ?_))
      have a1 : MS b n (lnS b n 14 p 1 (F1, tB b n p)) μ10 := a1
      have a2 : r = nI cv := a2
      have a5 : (lnS b n 14 p 1 (F1, tB b n p)).1.1 = 0 → cv = tN b n (tB b n p) := a5
      have a6 : FRs μ9 μ10 := a6
      refine wp_bd2Q (numW (w := 14) (k := 1) (p := p) (lo := 1) (hi := 9) a1 rfl rfl rfl rfl (by omega) (by omega)) fun r' μ11 ⟨b1, ⟨cv', b2, b3, b4, b5⟩, b6⟩ => wp_some ?_
      have b1 : MS b n (lnS b n 14 p 2 (F1, tB b n p)) μ11 := b1
      have b2 : r' = nI cv' := b2
      have b5 : (lnS b n 14 p 2 (F1, tB b n p)).1.1 = 0 → cv' = tN b n (lnS b n 14 p 1 (F1, tB b n p)).2 := b5
      have b6 : FRs μ10 μ11 := b6
      refine wp_bd2 (wp_it (by decide) (wp_some (wp_bd2 (wp_it (by decide) (wp_some (?_))))))
      exact fin_page (t := 5) (w := 14) (F := F) hsel (Or.inl rfl) rfl rfl (by omega) (by omega) (Or.inl rfl) hR (((f3.tr f9).tr a6).tr b6) (by rw [hF1]; exact b1) rfl rfl (fun z => by rw [if_pos (by decide)]; exact a2.trans (by rw [a5 (lnS_0' (hF1 ▸ z)).1]; rfl)) (fun z => by rw [if_pos (by decide)]; exact b2.trans (by rw [b5 (hF1 ▸ z), (lnS_0' (hF1 ▸ z)).2]))
    · have hx : x4 = (3 : Int32) := by rw [hx4, hr]; decide
      subst hx
      refine wp_bd3 (wp_it (by decide) (wp_some (wp_bd2 (wp_it (by decide) (wp_some (wp_bd3 (wp_it (by decide) (wp_some (wp_bd2 (wp_it (by decide) (wp_some (wp_bd2 (wp_it (by decide) (wp_some (?_)))))))))))))))
      exact fin_page (t := 5) (w := 15) (F := F) hsel (Or.inl rfl) rfl rfl (by omega) (by omega) (Or.inl rfl) hR (f3.tr f9) (by rw [hF1]; exact m9) rfl rfl (fun _ => rfl) (fun _ => rfl)
    · have hx : x4 = (4 : Int32) := by rw [hx4, hr]; decide
      subst hx
      refine wp_bd3 (wp_it (by decide) (wp_some (wp_bd2 (wp_it (by decide) (wp_some (wp_bd3 (wp_it (by decide) (wp_some (wp_bd2 (wp_it (by decide) (wp_some (wp_bd2 (wp_it (by decide) (wp_some (?_)))))))))))))))
      exact fin_page (t := 5) (w := 16) (F := F) hsel (Or.inl rfl) rfl rfl (by omega) (by omega) (Or.inl rfl) hR (f3.tr f9) (by rw [hF1]; exact m9) rfl rfl (fun _ => rfl) (fun _ => rfl)
    · have hx : x4 = (5 : Int32) := by rw [hx4, hr]; decide
      subst hx
      refine wp_bd3 (wp_it (by decide) (wp_some (wp_bd2 (wp_it (by decide) (wp_some (wp_bd3 (wp_it (by decide) (wp_some (wp_bd2 (wp_it (by decide) (wp_some (wp_bd2 (wp_it (by decide) (wp_some (?_)))))))))))))))
      exact fin_page (t := 5) (w := 17) (F := F) hsel (Or.inl rfl) rfl rfl (by omega) (by omega) (Or.inl rfl) hR (f3.tr f9) (by rw [hF1]; exact m9) rfl rfl (fun _ => rfl) (fun _ => rfl)
    · have hx : x4 = (6 : Int32) := by rw [hx4, hr]; decide
      subst hx
      refine wp_bd3 (wp_it (by decide) (wp_some (wp_bd2 (wp_it (by decide) (wp_some (wp_bd3 (wp_it (by decide) (wp_some (wp_bd2 (wp_it (by decide) (wp_some (wp_bd2 (wp_it (by decide) (wp_some (?_)))))))))))))))
      exact fin_page (t := 5) (w := 18) (F := F) hsel (Or.inl rfl) rfl rfl (by omega) (by omega) (Or.inl rfl) hR (f3.tr f9) (by rw [hF1]; exact m9) rfl rfl (fun _ => rfl) (fun _ => rfl)
    · have hx : x4 = (7 : Int32) := by rw [hx4, hr]; decide
      subst hx
      refine wp_bd3 (wp_it (by decide) (wp_some (wp_bd2 (wp_it (by decide) (wp_some (wp_bd3 (wp_it (by decide) (wp_some (wp_bd2 (wp_it (by decide) (wp_some (wp_bd2 (wp_it (by decide) (wp_some (?_)))))))))))))))
      exact fin_page (t := 5) (w := 19) (F := F) hsel (Or.inl rfl) rfl rfl (by omega) (by omega) (Or.inl rfl) hR (f3.tr f9) (by rw [hF1]; exact m9) rfl rfl (fun _ => rfl) (fun _ => rfl)
    · have hx : x4 = (8 : Int32) := by rw [hx4, hr]; decide
      subst hx
      refine wp_bd3 (wp_it (by decide) (wp_some (wp_bd2 (wp_it (by decide) (wp_some (wp_bd3 (wp_it (by decide) (wp_some (?_)))))))))
      refine wp_bd2 (wp_ie (fun z => z rfl) (wp_bd2Q (numW (w := 20) (k := 0) (p := p) (lo := 0) (hi := 15) m9 rfl rfl rfl rfl (by omega) (by omega)) fun r μ10 ⟨a1, ⟨cv, a2, a3, a4, a5⟩, a6⟩ => ?_))
      have a1 : MS b n (lnS b n 20 p 1 (F1, tB b n p)) μ10 := a1
      have a2 : r = nI cv := a2
      have a5 : (lnS b n 20 p 1 (F1, tB b n p)).1.1 = 0 → cv = tN b n (tB b n p) := a5
      have a6 : FRs μ9 μ10 := a6
      refine wp_some ?_
      refine wp_bd2 (wp_it (by decide) (wp_some (?_)))
      exact fin_page (t := 5) (w := 20) (F := F) hsel (Or.inl rfl) rfl rfl (by omega) (by omega) (Or.inl rfl) hR ((f3.tr f9).tr a6) (by rw [hF1]; exact a1) rfl rfl (fun z => by rw [if_pos (by decide)]; exact a2.trans (by rw [a5 (hF1 ▸ z)]; rfl)) (fun _ => rfl)
    · have hx : x4 = (9 : Int32) := by rw [hx4, hr]; decide
      subst hx
      refine wp_bd3 (wp_it (by decide) (wp_some (wp_bd2 (wp_it (by decide) (wp_some (wp_bd3 (wp_it (by decide) (wp_some (wp_bd2 (wp_it (by decide) (wp_some (?_))))))))))))
      refine wp_bd2 (wp_ie (fun z => z rfl) (wp_bd2Q (numW (w := 21) (k := 0) (p := p) (lo := 1) (hi := 9) m9 rfl rfl rfl rfl (by omega) (by omega)) fun r μ10 ⟨a1, ⟨cv, a2, a3, a4, a5⟩, a6⟩ => ?_))
      have a1 : MS b n (lnS b n 21 p 1 (F1, tB b n p)) μ10 := a1
      have a2 : r = nI cv := a2
      have a5 : (lnS b n 21 p 1 (F1, tB b n p)).1.1 = 0 → cv = tN b n (tB b n p) := a5
      have a6 : FRs μ9 μ10 := a6
      refine wp_some ?_
      refine ?_
      exact fin_page (t := 5) (w := 21) (F := F) hsel (Or.inl rfl) rfl rfl (by omega) (by omega) (Or.inl rfl) hR ((f3.tr f9).tr a6) (by rw [hF1]; exact a1) rfl rfl (fun z => by rw [if_pos (by decide)]; exact a2.trans (by rw [a5 (hF1 ▸ z)]; rfl)) (fun _ => rfl)
  · have hsel := sel_none (s := 1) (P := fun c => 13 ≤ c ∧ c ≤ 22) sel_1 hc
    have hr : r2 = 0 := hr
    have m3 : MS b n ((1, tF b n p), p) μ3 := m3
    have hx : x4 = (-13 : Int32) := by rw [hx4, hr]; decide
    subst hx
    rw [if_neg (fun z => by have := z.1; rw [m3.2.1.2.1, if_pos rfl] at this; exact absurd this (by decide))] at h9
    subst h9
    refine wp_bd3 (wp_it (by decide) (wp_some (wp_bd2 (wp_it (by decide) (wp_some (wp_bd3 (wp_it (by decide) (wp_some (wp_bd2 (wp_it (by decide) (wp_some (wp_bd2 (wp_it (by decide) (wp_some ?_))))))))))))))
    exact fin_bad (t := 5) hsel (Or.inl rfl) rfl hR f3 m3 rfl
theorem lawLineM (h : MS b n (F, p) μ) (h1 : F.1 ≠ 1) (hk : tK b n p ≠ 0) (hR : MR 4 (F.1 = 0) μ R) : wp (f_X12_lawLine 310 μ) (LnP b n 4 p F R μ) := by
  have hp : p ≤ n := h.2.2.1
  have hn := h.1.1.1
  have hfl := tF_le (b := b) hp
  have hT := h.2.2.2 h1
  have hw99 := tW_le (b := b) (n := n) (p := p)
  unfold f_X12_lawLine
  refine wp_l fun x1 hx1 => ?_
  rw [show μ 310 4 = nI (tF b n p) from hT.2.1] at hx1
  subst hx1
  refine wp_bd2Q (Q := fun r => FRs μ r.2 ∧ (((tK b n p = 1 ∧ ((8 ≤ tW b n p ∧ tW b n p ≤ 8) ∨ (25 ≤ tW b n p ∧ tW b n p ≤ 29))) ∧ r.1 = (if tW b n p = 8 then 0 else nI (tW b n p) - 25 + 1) ∧ MS b n (F, tB b n p) r.2) ∨ (¬ (tK b n p = 1 ∧ ((8 ≤ tW b n p ∧ tW b n p ≤ 8) ∨ (25 ≤ tW b n p ∧ tW b n p ≤ 29))) ∧ (r.1 = -8 ∨ r.1 = -24) ∧ MS b n ((1, tF b n p), p) r.2))) ?_ fun x8 μ3 ⟨f3, hc⟩ => wp_l fun μ9 h9 => ?_
  · by_cases h8 : μ 310 7 = 8
    · refine wp_ie (fun z => z h8) (wp_bd2Q (takesM (lo := 8) (hi := 8) h h1 rfl rfl (by omega)) fun r2 μ3 ⟨f3, hc⟩ => wp_some ⟨f3, ?_⟩)
      rcases hc with ⟨hc, hr, m3⟩ | ⟨hc, hr, m3⟩
      · have hc : tK b n p = 1 ∧ 8 ≤ tW b n p ∧ tW b n p ≤ 8 := hc
        have hr : r2 = nI (tW b n p) := hr
        have e8 : tW b n p = 8 := by omega
        refine Or.inl ⟨⟨hc.1, Or.inl hc.2⟩, ?_, m3⟩
        show r2 - 8 = _
        rw [if_pos e8, hr, e8]
        decide
      · have hr : r2 = 0 := hr
        refine Or.inr ⟨fun z => ?_, Or.inl (by show r2 - 8 = -8; rw [hr]; decide), m3⟩
        have e8 : tW b n p = 8 := (nI_eq (by omega) (by omega)).mp ((hT.2.2.2.2 z.1).symm.trans h8)
        exact hc ⟨z.1, by show 8 ≤ tW b n p; omega, by show tW b n p ≤ 8; omega⟩
    · refine wp_it h8 (wp_bd2Q (takesM (lo := 25) (hi := 29) h h1 rfl rfl (by omega)) fun r2 μ3 ⟨f3, hc⟩ => wp_some ⟨f3, ?_⟩)
      rcases hc with ⟨hc, hr, m3⟩ | ⟨hc, hr, m3⟩
      · have hc : tK b n p = 1 ∧ 25 ≤ tW b n p ∧ tW b n p ≤ 29 := hc
        have hr : r2 = nI (tW b n p) := hr
        refine Or.inl ⟨⟨hc.1, Or.inr hc.2⟩, ?_, m3⟩
        show r2 - 25 + 1 = _
        rw [if_neg (by omega), hr]
      · have hr : r2 = 0 := hr
        refine Or.inr ⟨fun z => ?_, Or.inr (by show r2 - 25 + 1 = -24; rw [hr]; decide), m3⟩
        rcases z.2 with q | q
        · refine h8 ?_
          rw [hT.2.2.2.2 z.1, show tW b n p = 8 by omega]
          rfl
        · exact hc ⟨z.1, q⟩
  have f3 : FRs μ μ3 := f3
  rcases hc with ⟨hc, hr, m3⟩ | ⟨hc, hr, m3⟩
  · obtain ⟨w, hsel, hw, hws, hwc⟩ := sel_some (P := fun c => (8 ≤ c ∧ c ≤ 8) ∨ (25 ≤ c ∧ c ≤ 29)) sel_4 hc.1 hc.2
    have hr : x8 = (if wrc w = 8 then 0 else nI (wrc w) - 25 + 1) := by rw [hwc]; exact hr
    have m3 : MS b n (F, tB b n p) μ3 := m3
    have hws' : ∀ w, w < 30 → wsr w = 4 → 24 ≤ w ∧ kt w = 8 := by decide +kernel
    obtain ⟨hw1, hkt⟩ := hws' w hw hws
    obtain ⟨m9, f9⟩ := over3 (t := 8) (w := w) (a := tF b n p) (m := 8) (Or.inr rfl) rfl hkt (by omega) m3 h1 (hR.fr f3) (by omega) rfl
    rw [← h9] at m9 f9
    generalize hF1 : (if fullW w R = true then nt F 3 (tF b n p) else F) = F1 at m9
    have hcases : w = 24 ∨ w = 25 ∨ w = 26 ∨ w = 27 ∨ w = 28 ∨ w = 29 := by omega
    rcases hcases with rfl | rfl | rfl | rfl | rfl | rfl
    · have hx : x8 = (0 : Int32) := by rw [hr]; decide
      subst hx
      refine ?_
      refine wp_bd2 (wp_it (by decide) (wp_bd2Q (numW (w := 24) (k := 0) (p := p) (lo := 0) (hi := 9) m9 rfl rfl rfl rfl (by omega) (by omega)) fun r μ10 ⟨a1, ⟨cv, a2, a3, a4, a5⟩, a6⟩ => wp_some ?_))
      have a1 : MS b n (lnS b n 24 p 1 (F1, tB b n p)) μ10 := a1
      have a2 : r = nI cv := a2
      have a5 : (lnS b n 24 p 1 (F1, tB b n p)).1.1 = 0 → cv = tN b n (tB b n p) := a5
      have a6 : FRs μ9 μ10 := a6
      refine wp_bd2 (wp_it (by decide) (wp_some (wp_bd2 (wp_it (by decide) (wp_some (wp_bd2 (wp_ie (by decide) (wp_some (wp_bd2 (wp_it (by decide) (wp_some (wp_bd2 (wp_it (by decide) (wp_some (?_)))))))))))))))
      exact fin_page (t := 8) (w := 24) (F := F) hsel (Or.inr rfl) rfl rfl (by omega) (by omega) (Or.inr rfl) hR ((f3.tr f9).tr a6) (by rw [hF1]; exact a1) rfl rfl (fun z => by rw [if_pos (by decide)]; exact a2.trans (by rw [a5 (hF1 ▸ z)]; rfl)) (fun _ => rfl)
    · have hx : x8 = (1 : Int32) := by rw [hr]; decide
      subst hx
      refine wp_bd2 (wp_ie (by decide) (wp_some (?_)))
      refine wp_bd2 (wp_ie (by decide) (wp_bd2Q (numW (w := 25) (k := 0) (p := p) (lo := 0) (hi := 999) m9 rfl rfl rfl rfl (by omega) (by omega)) fun r μ10 ⟨a1, ⟨cv, a2, a3, a4, a5⟩, a6⟩ => wp_some ?_))
      have a1 : MS b n (lnS b n 25 p 1 (F1, tB b n p)) μ10 := a1
      have a2 : r = nI cv := a2
      have a5 : (lnS b n 25 p 1 (F1, tB b n p)).1.1 = 0 → cv = tN b n (tB b n p) := a5
      have a6 : FRs μ9 μ10 := a6
      refine wp_bd2 (wp_it (by decide) (wp_some (?_)))
      refine wp_bd2 (wp_it (by decide) (wp_bd2Q (numW (w := 25) (k := 1) (p := p) (lo := 0) (hi := 99) a1 rfl rfl rfl rfl (by omega) (by omega)) fun r' μ11 ⟨b1, ⟨cv', b2, b3, b4, b5⟩, b6⟩ => wp_some ?_))
      have b1 : MS b n (lnS b n 25 p 2 (F1, tB b n p)) μ11 := b1
      have b2 : r' = nI cv' := b2
      have b5 : (lnS b n 25 p 2 (F1, tB b n p)).1.1 = 0 → cv' = tN b n (lnS b n 25 p 1 (F1, tB b n p)).2 := b5
      have b6 : FRs μ10 μ11 := b6
      refine wp_bd2 (wp_it (by decide) (wp_some (wp_bd2 (wp_it (by decide) (wp_some (?_))))))
      exact fin_page (t := 8) (w := 25) (F := F) hsel (Or.inr rfl) rfl rfl (by omega) (by omega) (Or.inr rfl) hR (((f3.tr f9).tr a6).tr b6) (by rw [hF1]; exact b1) rfl rfl (fun z => by rw [if_pos (by decide)]; exact a2.trans (by rw [a5 (lnS_0' (hF1 ▸ z)).1]; rfl)) (fun z => by rw [if_pos (by decide)]; exact b2.trans (by rw [b5 (hF1 ▸ z), (lnS_0' (hF1 ▸ z)).2]))
    · have hx : x8 = (2 : Int32) := by rw [hr]; decide
      subst hx
      refine wp_bd2 (wp_ie (by decide) (wp_some (wp_bd2 (wp_it (by decide) (wp_some (?_))))))
      refine wp_bd2 (wp_ie (by decide) (wp_bd2Q (numW (w := 26) (k := 0) (p := p) (lo := 0) (hi := 3) m9 rfl rfl rfl rfl (by omega) (by omega)) fun r μ10 ⟨a1, ⟨cv, a2, a3, a4, a5⟩, a6⟩ => wp_some ?_))
      have a1 : MS b n (lnS b n 26 p 1 (F1, tB b n p)) μ10 := a1
      have a2 : r = nI cv := a2
      have a5 : (lnS b n 26 p 1 (F1, tB b n p)).1.1 = 0 → cv = tN b n (tB b n p) := a5
      have a6 : FRs μ9 μ10 := a6
      refine ?_
      refine wp_bd2 (wp_it (by decide) (wp_bd2Q (numW (w := 26) (k := 1) (p := p) (lo := 0) (hi := 99) a1 rfl rfl rfl rfl (by omega) (by omega)) fun r' μ11 ⟨b1, ⟨cv', b2, b3, b4, b5⟩, b6⟩ => wp_some ?_))
      have b1 : MS b n (lnS b n 26 p 2 (F1, tB b n p)) μ11 := b1
      have b2 : r' = nI cv' := b2
      have b5 : (lnS b n 26 p 2 (F1, tB b n p)).1.1 = 0 → cv' = tN b n (lnS b n 26 p 1 (F1, tB b n p)).2 := b5
      have b6 : FRs μ10 μ11 := b6
      refine wp_bd2 (wp_it (by decide) (wp_some (wp_bd2 (wp_it (by decide) (wp_some (?_))))))
      exact fin_page (t := 8) (w := 26) (F := F) hsel (Or.inr rfl) rfl rfl (by omega) (by omega) (Or.inr rfl) hR (((f3.tr f9).tr a6).tr b6) (by rw [hF1]; exact b1) rfl rfl (fun z => by rw [if_pos (by decide)]; exact a2.trans (by rw [a5 (lnS_0' (hF1 ▸ z)).1]; rfl)) (fun z => by rw [if_pos (by decide)]; exact b2.trans (by rw [b5 (hF1 ▸ z), (lnS_0' (hF1 ▸ z)).2]))
    · have hx : x8 = (3 : Int32) := by rw [hr]; decide
      subst hx
      refine ?_
      refine wp_bd2 (wp_it (by decide) (wp_bd2Q (numW (w := 27) (k := 0) (p := p) (lo := 0) (hi := 9) m9 rfl rfl rfl rfl (by omega) (by omega)) fun r μ10 ⟨a1, ⟨cv, a2, a3, a4, a5⟩, a6⟩ => wp_some ?_))
      have a1 : MS b n (lnS b n 27 p 1 (F1, tB b n p)) μ10 := a1
      have a2 : r = nI cv := a2
      have a5 : (lnS b n 27 p 1 (F1, tB b n p)).1.1 = 0 → cv = tN b n (tB b n p) := a5
      have a6 : FRs μ9 μ10 := a6
      refine wp_bd2 (wp_it (by decide) (wp_some (wp_bd2 (wp_it (by decide) (wp_some (wp_bd2 (wp_ie (by decide) (wp_some (wp_bd2 (wp_it (by decide) (wp_some (wp_bd2 (wp_it (by decide) (wp_some (?_)))))))))))))))
      exact fin_page (t := 8) (w := 27) (F := F) hsel (Or.inr rfl) rfl rfl (by omega) (by omega) (Or.inr rfl) hR ((f3.tr f9).tr a6) (by rw [hF1]; exact a1) rfl rfl (fun z => by rw [if_pos (by decide)]; exact a2.trans (by rw [a5 (hF1 ▸ z)]; rfl)) (fun _ => rfl)
    · have hx : x8 = (4 : Int32) := by rw [hr]; decide
      subst hx
      refine wp_bd2 (wp_ie (by decide) (wp_some (wp_bd2 (wp_it (by decide) (wp_some (wp_bd2 (wp_it (by decide) (wp_some (wp_bd2 (wp_ie (by decide) (wp_some (?_))))))))))))
      refine wp_bd2 (wp_ie (by decide) (wp_bd2Q (numW (w := 28) (k := 0) (p := p) (lo := 0) (hi := 99) m9 rfl rfl rfl rfl (by omega) (by omega)) fun r μ10 ⟨a1, ⟨cv, a2, a3, a4, a5⟩, a6⟩ => wp_some ?_))
      have a1 : MS b n (lnS b n 28 p 1 (F1, tB b n p)) μ10 := a1
      have a2 : r = nI cv := a2
      have a5 : (lnS b n 28 p 1 (F1, tB b n p)).1.1 = 0 → cv = tN b n (tB b n p) := a5
      have a6 : FRs μ9 μ10 := a6
      refine wp_bd2 (wp_it (by decide) (wp_some (?_)))
      exact fin_page (t := 8) (w := 28) (F := F) hsel (Or.inr rfl) rfl rfl (by omega) (by omega) (Or.inr rfl) hR ((f3.tr f9).tr a6) (by rw [hF1]; exact a1) rfl rfl (fun z => by rw [if_pos (by decide)]; exact a2.trans (by rw [a5 (hF1 ▸ z)]; rfl)) (fun _ => rfl)
    · have hx : x8 = (5 : Int32) := by rw [hr]; decide
      subst hx
      refine wp_bd2 (wp_ie (by decide) (wp_some (wp_bd2 (wp_it (by decide) (wp_some (wp_bd2 (wp_it (by decide) (wp_some (wp_bd2 (wp_ie (by decide) (wp_some (wp_bd2 (wp_it (by decide) (wp_some (?_)))))))))))))))
      refine wp_bd2 (wp_ie (by decide) (wp_bd2Q (numW (w := 29) (k := 0) (p := p) (lo := 0) (hi := 999) m9 rfl rfl rfl rfl (by omega) (by omega)) fun r μ10 ⟨a1, ⟨cv, a2, a3, a4, a5⟩, a6⟩ => wp_some ?_))
      have a1 : MS b n (lnS b n 29 p 1 (F1, tB b n p)) μ10 := a1
      have a2 : r = nI cv := a2
      have a5 : (lnS b n 29 p 1 (F1, tB b n p)).1.1 = 0 → cv = tN b n (tB b n p) := a5
      have a6 : FRs μ9 μ10 := a6
      exact fin_page (t := 8) (w := 29) (F := F) hsel (Or.inr rfl) rfl rfl (by omega) (by omega) (Or.inr rfl) hR ((f3.tr f9).tr a6) (by rw [hF1]; exact a1) rfl rfl (fun z => by rw [if_pos (by decide)]; exact a2.trans (by rw [a5 (hF1 ▸ z)]; rfl)) (fun _ => rfl)
  · have hsel := sel_none (s := 4) (P := fun c => (8 ≤ c ∧ c ≤ 8) ∨ (25 ≤ c ∧ c ≤ 29)) sel_4 hc
    have hr : x8 = -8 ∨ x8 = -24 := hr
    have m3 : MS b n ((1, tF b n p), p) μ3 := m3
    rw [if_neg (fun z => by have := z.1; rw [m3.2.1.2.1, if_pos rfl] at this; exact absurd this (by decide))] at h9
    subst h9
    rcases hr with hr | hr
    · subst hr
      refine wp_bd2 (wp_ie (by decide) (wp_some (wp_bd2 (wp_it (by decide) (wp_some (wp_bd2 (wp_it (by decide) (wp_some (wp_bd2 (wp_ie (by decide) (wp_some (wp_bd2 (wp_it (by decide) (wp_some (wp_bd2 (wp_it (by decide) (wp_some ?_)))))))))))))))))
      exact fin_bad (t := 8) hsel (Or.inr rfl) rfl hR f3 m3 rfl
    · subst hr
      refine wp_bd2 (wp_ie (by decide) (wp_some (wp_bd2 (wp_it (by decide) (wp_some (wp_bd2 (wp_it (by decide) (wp_some (wp_bd2 (wp_ie (by decide) (wp_some (wp_bd2 (wp_it (by decide) (wp_some (wp_bd2 (wp_it (by decide) (wp_some ?_)))))))))))))))))
      exact fin_bad (t := 8) hsel (Or.inr rfl) rfl hR f3 m3 rfl
end RLINES
