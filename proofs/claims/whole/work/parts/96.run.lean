/-! TEXTS: the whole text, as the class reads it -/
def trun (b : Nat → Nat) (n s : Nat) : Nat → ((Nat × Nat) × Nat) × (Nat → Int32) → ((Nat × Nat) × Nat) × (Nat → Int32)
  | 0, x => x
  | j + 1, x => if x.1.1.1 = 1 ∨ tK b n x.1.2 = 0 then x else trun b n s j (lineS b n s x.1.2 x.1.1 x.2)
def R0 (s i : Nat) : Int32 := if s = 0 ∧ i < 11 then zATF.getD i 0 else 0
section RUN
variable {b : Nat → Nat} {n w p s : Nat} {μ μ' : zM} {F : Nat × Nat} {R : Nat → Int32}
theorem numS_ge {ok : Nat → Bool} {x : (Nat × Nat) × Nat} : x.2 ≤ (numS b n ok x).2 := by
  unfold numS
  split
  · exact Nat.le_refl _
  · split
    · exact tB_fwd
    · exact Nat.le_refl _
theorem lnS_ge {x : (Nat × Nat) × Nat} : ∀ k, x.2 ≤ (lnS b n w p k x).2
  | 0 => Nat.le_refl _
  | k + 1 => Nat.le_trans (lnS_ge k) numS_ge
theorem fgS_ge : ∀ j (x : ((Nat × Nat) × Nat) × Nat), x.1.2 ≤ (fgS b n j x).1.2
  | 0, x => Nat.le_refl _
  | j + 1, x => by
    unfold fgS
    split
    · refine Nat.le_trans (show x.1.2 ≤ tB b n x.1.2 from tB_fwd) ?_
      exact fgS_ge j ((_, _), _)
    · exact Nat.le_refl _
theorem fgS_le : ∀ j (x : ((Nat × Nat) × Nat) × Nat), x.1.2 ≤ n → (fgS b n j x).1.2 ≤ n
  | 0, x, h => h
  | j + 1, x, h => by
    unfold fgS
    split
    · exact fgS_le j _ (tB_le h)
    · exact h
theorem nums_ge : tB b n p ≤ (numsS b n w p F).1.2 := by
  unfold numsS
  split
  · refine Nat.le_trans (show tB b n p ≤ (lnS b n w p 1 (F, tB b n p)).2 from lnS_ge (x := (F, tB b n p)) 1) ?_
    exact fgS_ge n (lnS b n w p 1 (F, tB b n p), set0 b n p)
  · exact lnS_ge (x := (F, tB b n p)) _
theorem nums_le (hp : p ≤ n) : (numsS b n w p F).1.2 ≤ n := by
  unfold numsS
  split
  · exact fgS_le _ _ (lnS_le hp 1)
  · exact lnS_le hp _
theorem lineS_fwd (hp : p ≤ n) (h : (lineS b n s p F R).1.1.1 ≠ 1) : p < (lineS b n s p F R).1.2 ∧ (lineS b n s p F R).1.2 ≤ n := by
  cases hsel : wsel b n s p with
  | none =>
    rw [lineS_none hsel] at h
    exact absurd rfl h
  | some w =>
    rw [lineS_some hsel] at h ⊢
    have g1 := nums_ge (b := b) (n := n) (w := w) (p := p) (F := if fullW w R = true then nt F 3 (tF b n p) else F)
    have g2 := nums_le (b := b) (w := w) (F := if fullW w R = true then nt F 3 (tF b n p) else F) hp
    have g3 := tB_fwd (b := b) (n := n) (p := p)
    by_cases e1 : (numsS b n w p (if fullW w R = true then nt F 3 (tF b n p) else F)).1.1.1 = 1
    · rw [lnE_1 e1] at h
      exact absurd e1 h
    · by_cases e3 : tK b n (numsS b n w p (if fullW w R = true then nt F 3 (tF b n p) else F)).1.2 = 3
      · rw [lnE_y e1 e3]
        have := tK_fwd (b := b) (n := n) (p := (numsS b n w p (if fullW w R = true then nt F 3 (tF b n p) else F)).1.2) (by omega)
        exact ⟨by show p < tB b n _; omega, tB_le g2⟩
      · rw [lnE_n e1 e3] at h
        exact absurd rfl h
theorem stopC {y m : Nat} {x : (Nat × Nat) × Nat} (h : x.1.1 = 1 ∨ tK b n x.2 = 0) (hx : CS b n x μ) : wp (f_X5_read_L70 58 (nI s) (m + 1) (nI y) μ) (fun μ' => μ' = μ) := by
  rw [f_X5_read_L70]
  refine wp_ie (fun z => ?_) (wp_some rfl)
  obtain ⟨-, z2, z3⟩ := z
  by_cases e : x.1.1 = 1
  · exact z3 (by rw [hx.2.1.2.1, e]; rfl)
  · refine z2 ?_
    rw [(hx.2.2.2 e).1, h.resolve_left e]
    rfl
theorem runC (hs : s < 5) : ∀ j y m (x : ((Nat × Nat) × Nat) × (Nat → Int32)) (μ : zM), (x.1.1.1 = 1 ∨ n - x.1.2 ≤ j ∧ y ≤ x.1.2) → j < m → CS b n x.1 μ → CC s (x.1.1.1 = 0) μ x.2 →
    wp (f_X5_read_L70 58 (nI s) m (nI y) μ) (fun μ' => CS b n (trun b n s j x).1 μ' ∧ CC s ((trun b n s j x).1.1.1 = 0) μ' (trun b n s j x).2 ∧ FL s μ μ' ∧ ((trun b n s j x).1.1.1 = 1 ∨ tK b n (trun b n s j x).1.2 = 0)) := by
  intro j
  induction j with
  | zero =>
    intro y m x μ hj hm hx hc
    obtain ⟨m, rfl⟩ : ∃ m', m = m' + 1 := ⟨m - 1, by omega⟩
    have hst : x.1.1.1 = 1 ∨ tK b n x.1.2 = 0 := by
      refine hj.imp id fun z => ?_
      have := tF_ge (b := b) (n := n) (p := x.1.2)
      exact tK_0.mpr (by omega)
    refine wp_mono (stopC hst hx) fun r hr => ?_
    subst hr
    exact ⟨hx, hc, fun _ _ _ _ _ => rfl, hst⟩
  | succ j ih =>
    intro y m x μ hj hm hx hc
    obtain ⟨m, rfl⟩ : ∃ m', m = m' + 1 := ⟨m - 1, by omega⟩
    by_cases hst : x.1.1.1 = 1 ∨ tK b n x.1.2 = 0
    · rw [show trun b n s (j + 1) x = x from if_pos hst]
      refine wp_mono (stopC hst hx) fun r hr => ?_
      subst hr
      exact ⟨hx, hc, fun _ _ _ _ _ => rfl, hst⟩
    · rw [show trun b n s (j + 1) x = trun b n s j (lineS b n s x.1.2 x.1.1 x.2) from if_neg hst]
      have h1 : x.1.1.1 ≠ 1 := fun z => hst (Or.inl z)
      have hk0 : tK b n x.1.2 ≠ 0 := fun z => hst (Or.inr z)
      have hk4 := tK_le (b := b) (n := n) (p := x.1.2)
      obtain ⟨j1, j2⟩ := hj.resolve_left h1
      obtain ⟨hX, hF, hl, hT⟩ := hx
      have hn := hX.1.1
      have h6 := hF.1
      rw [f_X5_read_L70]
      refine wp_it ⟨by rw [hX.2.2.1]; exact nI_nlt (by omega) (by omega), by rw [(hT h1).1]; exact nI_ne0 (by omega) (by omega), fun z => h1 ((nI_eq (b := 1) (by omega) (by omega)).mp (by rw [← hF.2.1]; exact z))⟩ ?_
      refine wp_bdQ (lineC hs hX hF h1 hl (hT h1) hc) fun μ1 ⟨a1, a2, a3⟩ => wp_ls ?_
      rw [nI_1]
      refine wp_mono (ih (y + 1) m (lineS b n s x.1.2 x.1.1 x.2) μ1 ?_ (by omega) a1 a2) fun μ2 ⟨c1, c2, c3, c4⟩ => ⟨c1, c2, a3.tr c3, c4⟩
      by_cases e : (lineS b n s x.1.2 x.1.1 x.2).1.1.1 = 1
      · exact Or.inl e
      · obtain ⟨f1, f2⟩ := lineS_fwd hl e
        exact Or.inr ⟨by omega, by omega⟩
theorem forgetC : wp (f_X1_forget 59 μ) (fun μ' => (∀ i, i < 11 → μ' 60 i = zATF.getD i 0) ∧ (∀ k, k < 5 → μ' (61 + 2 * k) 2 = 0 ∧ ∀ j, j ≠ 2 → μ' (61 + 2 * k) j = μ (61 + 2 * k) j) ∧ ∀ o, o ≠ 60 → (∀ k, k < 5 → o ≠ 61 + 2 * k) → μ' o = μ o) := by
  unfold f_X1_forget
  refine wp_g (cpg11 (n := 11) (by omega)) (wp_ls ?_)
  generalize hm : zcpF μ (59 + 1) 0 0 11 = μ1
  have g1 : ∀ i, i < 11 → μ1 60 i = zATF.getD i 0 := by
    intro i hi
    rw [← hm]
    unfold zcpF
    rw [zupr_self]
    rw [pk_cpy_in (by show 0 ≤ i; omega) (by show i < 0 + 11; omega)]
    show zATF.getD (0 + (i - 0)) 0 = _
    rw [Nat.zero_add, Nat.sub_zero]
  have g2 : ∀ o, o ≠ 60 → μ1 o = μ o := by
    intro o ho
    rw [← hm]
    exact zupr_ne _ _ ho
  refine wp_u fun μ2 u2 => wp_u fun μ3 u3 => wp_u fun μ4 u4 => wp_u fun μ5 u5 => wp_u fun μ6 u6 => wp_some ?_
  have a2 : μ2 61 2 = 0 := u2.1
  have b2 : ∀ o, o ≠ 61 → μ2 o = μ1 o := u2.2.1
  have c2 : ∀ j, j ≠ 2 → μ2 61 j = μ1 61 j := u2.2.2
  have a3 : μ3 63 2 = 0 := u3.1
  have b3 : ∀ o, o ≠ 63 → μ3 o = μ2 o := u3.2.1
  have c3 : ∀ j, j ≠ 2 → μ3 63 j = μ2 63 j := u3.2.2
  have a4 : μ4 65 2 = 0 := u4.1
  have b4 : ∀ o, o ≠ 65 → μ4 o = μ3 o := u4.2.1
  have c4 : ∀ j, j ≠ 2 → μ4 65 j = μ3 65 j := u4.2.2
  have a5 : μ5 67 2 = 0 := u5.1
  have b5 : ∀ o, o ≠ 67 → μ5 o = μ4 o := u5.2.1
  have c5 : ∀ j, j ≠ 2 → μ5 67 j = μ4 67 j := u5.2.2
  have a6 : μ6 69 2 = 0 := u6.1
  have b6 : ∀ o, o ≠ 69 → μ6 o = μ5 o := u6.2.1
  have c6 : ∀ j, j ≠ 2 → μ6 69 j = μ5 69 j := u6.2.2
  refine ⟨fun i hi => ?_, fun k hk => ?_, fun o o1 o2 => ?_⟩
  · rw [b6 60 (by omega), b5 60 (by omega), b4 60 (by omega), b3 60 (by omega), b2 60 (by omega)]
    exact g1 i hi
  · have : k = 0 ∨ k = 1 ∨ k = 2 ∨ k = 3 ∨ k = 4 := by omega
    rcases this with rfl | rfl | rfl | rfl | rfl
    · show μ6 61 2 = 0 ∧ ∀ j, j ≠ 2 → μ6 61 j = μ 61 j
      rw [b6 61 (by omega), b5 61 (by omega), b4 61 (by omega), b3 61 (by omega), ← g2 61 (by omega)]
      exact ⟨a2, c2⟩
    · show μ6 63 2 = 0 ∧ ∀ j, j ≠ 2 → μ6 63 j = μ 63 j
      rw [b6 63 (by omega), b5 63 (by omega), b4 63 (by omega), ← g2 63 (by omega), ← b2 63 (by omega)]
      exact ⟨a3, c3⟩
    · show μ6 65 2 = 0 ∧ ∀ j, j ≠ 2 → μ6 65 j = μ 65 j
      rw [b6 65 (by omega), b5 65 (by omega), ← g2 65 (by omega), ← b2 65 (by omega), ← b3 65 (by omega)]
      exact ⟨a4, c4⟩
    · show μ6 67 2 = 0 ∧ ∀ j, j ≠ 2 → μ6 67 j = μ 67 j
      rw [b6 67 (by omega), ← g2 67 (by omega), ← b2 67 (by omega), ← b3 67 (by omega), ← b4 67 (by omega)]
      exact ⟨a5, c5⟩
    · show μ6 69 2 = 0 ∧ ∀ j, j ≠ 2 → μ6 69 j = μ 69 j
      rw [← g2 69 (by omega), ← b2 69 (by omega), ← b3 69 (by omega), ← b4 69 (by omega), ← b5 69 (by omega)]
      exact ⟨a6, c6⟩
  · have q0 := o2 0 (by omega)
    have q1 := o2 1 (by omega)
    have q2 := o2 2 (by omega)
    have q3 := o2 3 (by omega)
    have q4 := o2 4 (by omega)
    rw [b6 o q4, b5 o q3, b4 o q2, b3 o q1, b2 o q0, g2 o o1]
theorem pagesC {v : Int32} : wp (f_X5_read_L40 58 v zFU 0 μ) (fun μ' => (∀ k, k < 5 → μ' (77 + 2 * k) 2 = 0 ∧ ∀ j, j ≠ 2 → μ' (77 + 2 * k) j = μ (77 + 2 * k) j) ∧ ∀ o, (∀ k, k < 5 → o ≠ 77 + 2 * k) → μ' o = μ o) := by
  refine wlp0 (fun n' k μ' => f_X5_read_L40 58 v n' (nI k) μ') _ 5 (fun k μ' => (∀ i, i < k → μ' (77 + 2 * i) 2 = 0) ∧ (∀ i, i < 5 → ∀ j, j ≠ 2 → μ' (77 + 2 * i) j = μ (77 + 2 * i) j) ∧ ∀ o, (∀ k, k < 5 → o ≠ 77 + 2 * k) → μ' o = μ o) (by omega) μ ⟨fun i hi => absurd hi (by omega), fun _ _ _ _ => rfl, fun _ _ => rfl⟩ ?_ ?_
  · intro m k μ1 hk ⟨i1, i2, i3⟩ ih
    show wp (f_X5_read_L40 58 v (m + 1) (nI k) μ1) _
    rw [f_X5_read_L40, nI_clamp (by omega)]
    refine wp_ie (nI_ge (b := 5) hk (by omega)) (wp_g (zin_nI hk (by omega)) (wp_u fun μ2 u => wp_ls ?_))
    rw [nI_1]
    have a : μ2 (77 + 2 * k) 2 = 0 := u.1
    have c : ∀ o, o ≠ 77 + 2 * k → μ2 o = μ1 o := u.2.1
    have d : ∀ j, j ≠ 2 → μ2 (77 + 2 * k) j = μ1 (77 + 2 * k) j := u.2.2
    refine ih μ2 ⟨fun i hi => ?_, fun i hi j hj => ?_, fun o ho => (c o (ho k hk)).trans (i3 o ho)⟩
    · by_cases hik : i = k
      · rw [hik]
        exact a
      · rw [c _ (by omega)]
        exact i1 i (by omega)
    · by_cases hik : i = k
      · subst hik
        exact (d j hj).trans (i2 i hi j hj)
      · rw [c _ (by omega)]
        exact i2 i hi j hj
  · intro m μ1 ⟨i1, i2, i3⟩
    show wp (f_X5_read_L40 58 v (m + 1) (nI 5) μ1) _
    rw [f_X5_read_L40]
    exact wp_it (nI_le (a := 5) (by omega) (by omega)) (wp_some ⟨fun k hk => ⟨i1 k hk, i2 k hk⟩, i3⟩)
/-- what is wrong with a whole lake -/
def inL (L : Nat → Nat) : Prop := L 4 + L 2 ≤ L 0 ∧ L 5 + L 3 ≤ L 1
def plL (L : Nat → Nat) : Prop := (∀ k, k < L 12 → L (56 + 2 * k) < L 2 * L 3) ∧ ∀ k, k < L 15 → L (101 + 2 * k) < L 2 * L 3
def rkL (L : Nat → Nat) : Prop := (∀ k, k < L 11 → L (16 + 2 * k) < L 0 ∧ L (17 + 2 * k) < L 1) ∧ ¬ rockHit L L (L 4) (L 5)
def WFt (L : Nat → Nat) (r : Nat) : Prop := (r = 4 ∧ ¬ inL L) ∨ (r = 5 ∧ inL L ∧ ¬ plL L) ∨ (r = 6 ∧ inL L ∧ plL L ∧ ¬ rkL L) ∨ (r = 0 ∧ inL L ∧ plL L ∧ rkL L)
theorem WFt.one {L : Nat → Nat} {r r' : Nat} (h : WFt L r) (k : WFt L r') : r = r' := by
  rcases h with ⟨e, h1⟩ | ⟨e, h1, h2⟩ | ⟨e, h1, h2, h3⟩ | ⟨e, h1, h2, h3⟩ <;> rcases k with ⟨e', k1⟩ | ⟨e', k1, k2⟩ | ⟨e', k1, k2, k3⟩ | ⟨e', k1, k2, k3⟩ <;> first | omega | exact absurd ‹inL L› ‹¬ inL L› | exact absurd ‹plL L› ‹¬ plL L› | exact absurd ‹rkL L› ‹¬ rkL L›
theorem WFt.le {L : Nat → Nat} {r : Nat} (h : WFt L r) : r ≤ 6 ∧ r ≠ 1 := by
  rcases h with ⟨e, -⟩ | ⟨e, -⟩ | ⟨e, -⟩ | ⟨e, -⟩ <;> omega
theorem WFt.ok {L : Nat → Nat} (hB : LB L) (h : WFt L 0) : LOk L := by
  rcases h with ⟨e, -⟩ | ⟨e, -⟩ | ⟨e, -⟩ | ⟨-, h1, h2, h3⟩
  · omega
  · omega
  · omega
  · refine ⟨hB, clB_iff.mpr ⟨h1.1, h1.2, fun k hk z => h3.2 ⟨k, hk, z.1, z.2.1, z.2.2.1, z.2.2.2⟩⟩, h2.1, h2.2, h3.1⟩
theorem noPlaceC {a q N : Nat} {P : Nat → Nat} {L : Nat → Nat} (hL : LC a μ L) (hN : μ q 2 = nI N) (hN2 : N ≤ 20) (hP : ∀ k, k < N → f_X6_number q (nI k) 0 μ = some (nI (P k)) ∧ P k ≤ 15) :
    wp (f_X1_hasNoPlaceFor a q μ) (fun r => r = 1 ∧ (¬ ∀ k, k < N → P k < L 2 * L 3) ∨ r = 0 ∧ ∀ k, k < N → P k < L 2 * L 3) := by
  have h16 := pl16 hL.2.1
  unfold f_X1_hasNoPlaceFor
  have hloop : wp (f_X1_hasNoPlaceFor_L2 a q μ zFU 0) (fun r => r = .inl 1 ∧ (¬ ∀ k, k < N → P k < L 2 * L 3) ∨ r = .inr () ∧ ∀ k, k < N → P k < L 2 * L 3) := by
    refine wlp0 (fun n' k (_ : Unit) => f_X1_hasNoPlaceFor_L2 a q μ n' (nI k)) _ N (fun k _ => ∀ i, i < k → P i < L 2 * L 3) (by omega) () (fun i hi => absurd hi (by omega)) ?_ ?_
    · intro m k _ hk hI ih
      show wp (f_X1_hasNoPlaceFor_L2 a q μ (m + 1) (nI k)) _
      rw [f_X1_hasNoPlaceFor_L2, hN, placesC hL]
      obtain ⟨p1, p2⟩ := hP k hk
      refine wp_ie (nI_ge hk (by omega)) (wp_bdE p1 ?_)
      by_cases h : P k < L 2 * L 3
      · refine wp_it (nI_lt h (by omega)) (wp_ls ?_)
        rw [nI_1]
        refine ih () fun i hi => ?_
        by_cases hik : i = k
        · rw [hik]
          exact h
        · exact hI i (by omega)
      · exact wp_ie (nI_nlt (by omega) (by omega)) (wp_some (Or.inl ⟨rfl, fun z => h (z k hk)⟩))
    · intro m _ hI
      show wp (f_X1_hasNoPlaceFor_L2 a q μ (m + 1) (nI N)) _
      rw [f_X1_hasNoPlaceFor_L2, hN]
      exact wp_it (nI_le (Nat.le_refl _) (by omega)) (wp_some (Or.inr ⟨rfl, hI⟩))
  refine wp_bdQ hloop fun v hv => ?_
  rcases hv with ⟨rfl, e⟩ | ⟨rfl, e⟩
  · exact wp_suml (wp_some (Or.inl ⟨rfl, e⟩))
  · exact wp_sumr (wp_some (Or.inr ⟨rfl, e⟩))
theorem cellOfC {a x y : Nat} {L : Nat → Nat} (hL : LC a μ L) (hx : x ≤ 11) (hy : y ≤ 11) : (¬ f_X1_hasCell a (nI x) (nI y) μ = 0) ↔ x < L 0 ∧ y < L 1 := by
  have l0 := hL.2.1.1.1
  have l1 := hL.2.1.1.2.1
  unfold f_X1_hasCell
  rw [hL.2.2.1.1 0 (by omega), hL.2.2.1.1 1 (by omega)]
  show (¬ (if ¬ nI x < 0 ∧ ¬ nI (L 0) ≤ nI x ∧ ¬ nI y < 0 ∧ ¬ nI (L 1) ≤ nI y then (1 : Int32) else 0) = 0) ↔ _
  by_cases h : x < L 0 ∧ y < L 1
  · rw [if_pos ⟨nI_pos (by omega), nI_ge h.1 (by omega), nI_pos (by omega), nI_ge h.2 (by omega)⟩]
    exact ⟨fun _ => h, fun _ => by decide⟩
  · rw [if_neg (fun z => h ⟨Nat.lt_of_not_le fun q => z.2.1 (nI_le q (by omega)), Nat.lt_of_not_le fun q => z.2.2.2 (nI_le q (by omega))⟩)]
    exact ⟨fun z => absurd rfl z, fun z => absurd z h⟩
theorem wholeFaultC {a : Nat} {L : Nat → Nat} (hL : LC a μ L) : wp (f_X1_wholeFault a μ) (fun r => ∃ k, r = nI k ∧ WFt L k) := by
  have hB := hL.2.1
  have hk1 := hL.1
  have h0 := hL.2.2.1
  have l4 : L 4 ≤ 11 := hB.1.2.2.2.2.1
  have l5 : L 5 ≤ 11 := hB.1.2.2.2.2.2.1
  have l2 := hB.2.1
  unfold f_X1_wholeFault
  rw [h0.1 4 (by omega), h0.1 5 (by omega), surrounds_eq hL hL (by omega) (by omega)]
  by_cases hin : L 4 + L 2 ≤ L 0 ∧ L 5 + L 3 ≤ L 1
  · refine wp_it (b2i_t (decide_eq_true hin)) (wp_bdQ (noPlaceC (P := fun k => L (56 + 2 * k)) hL h0.2.1.2.1 (by omega) (fun k hk => ⟨gr_p hk1 hB h0 rfl hk, (hB.2.2.2.1 k hk).1⟩)) fun r9 hr9 => ?_)
    have go : ∀ (c : Bool), (c = true ↔ plL L) → wp (if c = true then zbd (f_X1_wholeFault_L48 a μ zFU (0 : Int32)) fun q34 => zsum q34 (fun t => some t) fun _ => zbd (f_X1_hasRockUnder a a (nI (L 4)) (nI (L 5)) μ) fun r30 => zl (if r30 = 0 then (0 : Int32) else (6 : Int32)) fun x33 => some x33 else some (5 : Int32)) (fun r => ∃ k, r = nI k ∧ WFt L k) := by
      intro c hc
      by_cases hp : plL L
      · refine wp_it (hc.mpr hp) ?_
        have hloop : wp (f_X1_wholeFault_L48 a μ zFU 0) (fun r => r = .inl 6 ∧ (¬ ∀ k, k < L 11 → L (16 + 2 * k) < L 0 ∧ L (17 + 2 * k) < L 1) ∨ r = .inr () ∧ ∀ k, k < L 11 → L (16 + 2 * k) < L 0 ∧ L (17 + 2 * k) < L 1) := by
          refine wlp0 (fun n' k (_ : Unit) => f_X1_wholeFault_L48 a μ n' (nI k)) _ (L 11) (fun k _ => ∀ i, i < k → L (16 + 2 * i) < L 0 ∧ L (17 + 2 * i) < L 1) (by omega) () (fun i hi => absurd hi (by omega)) ?_ ?_
          · intro m k _ hk hI ih
            show wp (f_X1_wholeFault_L48 a μ (m + 1) (nI k)) _
            rw [f_X1_wholeFault_L48, h0.2.1.1]
            have hbk := hB.2.2.1 k hk
            have hcell := cellOfC (μ := μ) hL hbk.1 hbk.2
            refine wp_ie (nI_ge hk (by omega)) (wp_bdE (rk_x hk1 hB h0 rfl hk) (wp_bdE (rk_y hk1 hB h0 rfl hk) ?_))
            by_cases h : L (16 + 2 * k) < L 0 ∧ L (17 + 2 * k) < L 1
            · refine wp_it (hcell.mpr h) (wp_ls ?_)
              rw [nI_1]
              refine ih () fun i hi => ?_
              by_cases hik : i = k
              · rw [hik]
                exact h
              · exact hI i (by omega)
            · exact wp_ie (fun z => h (hcell.mp z)) (wp_some (Or.inl ⟨rfl, fun z => h (z k hk)⟩))
          · intro m _ hI
            show wp (f_X1_wholeFault_L48 a μ (m + 1) (nI (L 11))) _
            rw [f_X1_wholeFault_L48, h0.2.1.1]
            exact wp_it (nI_le (Nat.le_refl _) (by omega)) (wp_some (Or.inr ⟨rfl, hI⟩))
        refine wp_bdQ hloop fun v hv => ?_
        rcases hv with ⟨rfl, e⟩ | ⟨rfl, e⟩
        · exact wp_suml (wp_some ⟨6, rfl, Or.inr (Or.inr (Or.inl ⟨rfl, hin, hp, fun z => e z.1⟩))⟩)
        · refine wp_sumr (wp_bdQ (rockUnder_ok hL hL (by omega) (by omega)) fun r hr => wp_ls (wp_some ?_))
          rcases hr with ⟨rfl, hr⟩ | ⟨rfl, hr⟩
          · exact ⟨0, rfl, Or.inr (Or.inr (Or.inr ⟨rfl, hin, hp, e, hr⟩))⟩
          · exact ⟨6, rfl, Or.inr (Or.inr (Or.inl ⟨rfl, hin, hp, fun z => z.2 hr⟩))⟩
      · exact wp_ie (fun z => hp (hc.mp z)) (wp_some ⟨5, rfl, Or.inr (Or.inl ⟨rfl, hin, hp⟩)⟩)
    rcases hr9 with ⟨rfl, e9⟩ | ⟨rfl, e9⟩
    · refine wp_bd (wp_it (by decide) (wp_some (go false ⟨fun z => (by cases z), fun z => absurd z.1 e9⟩)))
    · refine wp_bd (wp_ie (fun z => z rfl) (wp_bdQ (noPlaceC (P := fun k => L (101 + 2 * k)) hL h0.2.1.2.2.2.2 (by omega) (fun k hk => ⟨lk_p hk1 hB h0 rfl hk, (hB.2.2.2.2.2.2 k hk).1⟩)) fun r12 hr12 => ?_))
      rcases hr12 with ⟨rfl, e12⟩ | ⟨rfl, e12⟩
      · exact wp_ie (by decide) (wp_some (go false ⟨fun z => (by cases z), fun z => absurd z.2 e12⟩))
      · exact wp_it rfl (wp_some (go true ⟨fun _ => ⟨e9, e12⟩, fun _ => rfl⟩))
  · exact wp_ie (fun z => z (b2i_f (fun q => hin (of_decide_eq_true q)))) (wp_some ⟨4, rfl, Or.inl ⟨rfl, hin⟩⟩)
theorem CC.lc0 {L : Nat → Nat} (h : CC 0 True μ R) (hB : LB L) (hR : ∀ i, i < 109 → R i = nI (L i)) : LC0 59 μ L := by
  obtain ⟨b1, b2, b3, b4, b5⟩ := hB.2.1
  obtain ⟨c0, p0, q0, r0, -, v0⟩ := h.1 0 (by omega) rfl
  obtain ⟨c1, p1, q1, r1, -, v1⟩ := h.1 1 (by omega) rfl
  obtain ⟨c2, p2, q2, r2, -, v2⟩ := h.1 2 (by omega) rfl
  obtain ⟨c3, p3, q3, r3, -, v3⟩ := h.1 3 (by omega) rfl
  obtain ⟨c4, p4, q4, r4, -, v4⟩ := h.1 4 (by omega) rfl
  have p0 : c0 ≤ 20 := p0
  have p1 : c1 ≤ 12 := p1
  have p2 : c2 ≤ 6 := p2
  have p3 : c3 ≤ 5 := p3
  have p4 : c4 ≤ 4 := p4
  have q0 : R 11 = nI c0 := q0
  have q1 : R 12 = nI c1 := q1
  have q2 : R 13 = nI c2 := q2
  have q3 : R 14 = nI c3 := q3
  have q4 : R 15 = nI c4 := q4
  have e0 : L 11 = c0 := (nI_eq (by omega) (by omega)).mp ((hR 11 (by omega)).symm.trans q0)
  have e1 : L 12 = c1 := (nI_eq (by omega) (by omega)).mp ((hR 12 (by omega)).symm.trans q1)
  have e2 : L 13 = c2 := (nI_eq (by omega) (by omega)).mp ((hR 13 (by omega)).symm.trans q2)
  have e3 : L 14 = c3 := (nI_eq (by omega) (by omega)).mp ((hR 14 (by omega)).symm.trans q3)
  have e4 : L 15 = c4 := (nI_eq (by omega) (by omega)).mp ((hR 15 (by omega)).symm.trans q4)
  have w0 : ∀ j, j < c0 → ∀ i, i < 2 → μ 62 (3 * j + i) = R (16 + 2 * j + i) := v0 trivial
  have w1 : ∀ j, j < c1 → ∀ i, i < 2 → μ 64 (3 * j + i) = R (56 + 2 * j + i) := v1 trivial
  have w2 : ∀ j, j < c2 → ∀ i, i < 1 → μ 66 (3 * j + i) = R (80 + 1 * j + i) := v2 trivial
  have w3 : ∀ j, j < c3 → ∀ i, i < 3 → μ 68 (3 * j + i) = R (86 + 3 * j + i) := v3 trivial
  have w4 : ∀ j, j < c4 → ∀ i, i < 2 → μ 70 (3 * j + i) = R (101 + 2 * j + i) := v4 trivial
  have r0 : μ 61 2 = nI c0 := r0
  have r1 : μ 63 2 = nI c1 := r1
  have r2 : μ 65 2 = nI c2 := r2
  have r3 : μ 67 2 = nI c3 := r3
  have r4 : μ 69 2 = nI c4 := r4
  refine ⟨fun i hi => (h.2 rfl trivial i hi).trans (hR i (by omega)), ⟨by rw [e0]; exact r0, by rw [e1]; exact r1, by rw [e2]; exact r2, by rw [e3]; exact r3, by rw [e4]; exact r4⟩, fun k hk => ⟨?_, ?_⟩, fun k hk => ⟨?_, ?_⟩, fun k hk => ?_, fun k hk => ⟨?_, ?_, ?_⟩, fun k hk => ⟨?_, ?_⟩⟩
  · exact (w0 k (by omega) 0 (by omega)).trans (hR _ (by omega))
  · have := (w0 k (by omega) 1 (by omega)).trans (hR _ (by omega))
    rw [show 16 + 2 * k + 1 = 17 + 2 * k by omega] at this
    exact this
  · exact (w1 k (by omega) 0 (by omega)).trans (hR _ (by omega))
  · have := (w1 k (by omega) 1 (by omega)).trans (hR _ (by omega))
    rw [show 56 + 2 * k + 1 = 57 + 2 * k by omega] at this
    exact this
  · have := (w2 k (by omega) 0 (by omega)).trans (hR _ (by omega))
    rw [show 80 + 1 * k + 0 = 80 + k by omega] at this
    exact this
  · exact (w3 k (by omega) 0 (by omega)).trans (hR _ (by omega))
  · have := (w3 k (by omega) 1 (by omega)).trans (hR _ (by omega))
    rw [show 86 + 3 * k + 1 = 87 + 3 * k by omega] at this
    exact this
  · have := (w3 k (by omega) 2 (by omega)).trans (hR _ (by omega))
    rw [show 86 + 3 * k + 2 = 88 + 3 * k by omega] at this
    exact this
  · exact (w4 k (by omega) 0 (by omega)).trans (hR _ (by omega))
  · have := (w4 k (by omega) 1 (by omega)).trans (hR _ (by omega))
    rw [show 101 + 2 * k + 1 = 102 + 2 * k by omega] at this
    exact this
theorem rd_rows : ∀ r, r < 87 → (r < 58 ∨ zkd r ≠ 6) ∨ (r = 77 ∨ ∃ t, t < 9 ∧ r = tro t) := by decide +kernel
theorem rd_rows' {r : Nat} (h1 : r < 87) (h2 : 58 ≤ r) (h3 : zkd r = 6) : r = 77 ∨ ∃ t, t < 9 ∧ r = tro t := (rd_rows r h1).resolve_left (fun z => z.elim (fun q => by omega) (fun q => q h3))
theorem CC.rows {v : Prop} (h : CC s v μ R) (f60 : μ' 60 = μ 60) (f : ∀ t, t < 9 → tsr t = s → μ' (tro t) = μ (tro t) ∧ μ' (tro t + 1) = μ (tro t + 1)) : CC s v μ' R := by
  refine ⟨fun t h1 h2 => ?_, fun h1 z i hi => by rw [f60]; exact h.2 h1 z i hi⟩
  obtain ⟨c, k1, k2, k3, k4, k5⟩ := h.1 t h1 h2
  obtain ⟨e0, e1⟩ := f t h1 h2
  refine ⟨c, k1, k2, by rw [e0]; exact k3, by rw [e0]; exact k4, fun z j hj i hi => ?_⟩
  rw [e1]
  exact k5 z j hj i hi
theorem tro_half : ∀ t, t < 9 → (t < 5 ∧ tro t = 61 + 2 * t) ∨ (5 ≤ t ∧ tro t = 77 + 2 * (t - 4) ∧ 1 ≤ t - 4 ∧ t - 4 < 5) := by decide +kernel
theorem kd59 : zkd 59 = 1 := by decide +kernel
theorem R0_cp : ∀ t, t < 9 → R0 (tsr t) (tcp t) = 0 := by decide +kernel
theorem tro_ne : ∀ t, t < 9 → tro t ≠ 77 ∧ tro t + 1 ≠ 77 ∧ tro t ≠ 60 ∧ tro t + 1 ≠ 60 ∧ tro t + 1 ≠ 59 ∧ tro t + 1 ≠ 71 ∧ tro t + 1 ≠ 72 ∧ tro t + 1 ≠ 73 ∧ tro t ≠ 71 ∧ tro t ≠ 72 ∧ tro t ≠ 73 ∧ tro t + 1 < 87 := by decide +kernel
theorem readC {L : Nat → Nat} (hs : s < 5) (hn : n ≤ 600) (hb : ∀ i, b i < 256) (ht : ∀ i, i < n → μ 2 i = nI (b i)) (hW : ∀ r, 58 ≤ r → r < 87 → zkd r = 6 → WFr r μ)
    (hBd : s = 0 → (trun b n s n (((0, 0), 0), R0 s)).1.1.1 = 0 → LB L ∧ ∀ i, i < 109 → (trun b n s n (((0, 0), 0), R0 s)).2 i = nI (L i)) :
    wp (f_X5_read 58 2 (nI n) (nI s) μ) (fun μ' => ∃ G : Nat × Nat, FF G μ' ∧ ((s ≠ 0 ∨ (trun b n s n (((0, 0), 0), R0 s)).1.1.1 ≠ 0) → G = (trun b n s n (((0, 0), 0), R0 s)).1.1) ∧ (s = 0 → (trun b n s n (((0, 0), 0), R0 s)).1.1.1 = 0 → WFt L G.1 ∧ G.2 = n ∧ LC 59 μ' L) ∧
      CC s ((trun b n s n (((0, 0), 0), R0 s)).1.1.1 = 0) μ' (trun b n s n (((0, 0), 0), R0 s)).2 ∧ ((trun b n s n (((0, 0), 0), R0 s)).1.1.1 = 1 ∨ tK b n (trun b n s n (((0, 0), 0), R0 s)).1.2 = 0) ∧ (∀ o, o < 58 ∨ 87 ≤ o → μ' o = μ o) ∧ ∀ r, 58 ≤ r → r < 87 → zkd r = 6 → WFr r μ') := by
  unfold f_X5_read
  rw [zln2, show Int32.ofNat 600 = nI 600 from rfl, zmin_nI (by omega) (by omega), if_neg (by omega)]
  refine wp_u fun μ1 u1 => wp_u fun μ2 u2 => wp_u fun μ3 u3 => wp_u fun μ4 u4 => wp_u fun μ5 u5 => wp_bdQ (forgetC (μ := μ5)) fun μ6 ⟨f1, f2, f3⟩ => wp_bdQ (pagesC (μ := μ6) (v := nI s)) fun μ7 ⟨g1, g2⟩ => ?_
  have o5 : ∀ o, o ≠ 58 → μ5 o = μ o := fun o ho => by rw [u5.2.1 o ho, u4.2.1 o ho, u3.2.1 o ho, u2.2.1 o ho, u1.2.1 o ho]
  have e58 : μ7 58 = μ5 58 := by rw [g2 58 (by omega), f3 58 (by omega) (by omega)]
  have k4 : μ7 58 4 = nI 2 := by rw [e58, u5.2.2 4 (by omega), u4.2.2 4 (by omega), u3.2.2 4 (by omega), u2.2.2 4 (by omega)]; exact u1.1
  have k5 : μ7 58 5 = nI n := by rw [e58, u5.2.2 5 (by omega), u4.2.2 5 (by omega), u3.2.2 5 (by omega)]; exact u2.1
  have k2 : μ7 58 2 = 0 := by rw [e58, u5.2.2 2 (by omega), u4.2.2 2 (by omega)]; exact u3.1
  have k3 : μ7 58 3 = -1 := by rw [e58, u5.2.2 3 (by omega)]; exact u4.1
  have k8 : μ7 58 8 = nI 0 := by rw [e58]; exact u5.1
  have out : ∀ o, o < 58 ∨ 87 ≤ o → μ7 o = μ o := fun o ho => by rw [g2 o (by omega), f3 o (by omega) (by omega), o5 o (by omega)]
  have hX : TX b n μ7 := ⟨⟨hn, hb⟩, k4, k5, fun i hi => by rw [out 2 (by omega)]; exact ht i hi⟩
  have hF : FF (0, 0) μ7 := ⟨by show (0 : Nat) ≤ 6 ∧ (0 : Nat) ≤ 600; omega, k2, k3⟩
  have rows : ∀ t, t < 9 → μ7 (tro t) 2 = 0 ∧ μ7 (tro t) 0 = nI (tmx t) := by
    intro t ht
    have hz := tro_ok t ht
    have hr : μ (tro t) 0 = nI (tmx t) := by
      have := (hW (tro t) (by omega) (by omega) hz.1.2.2).1
      rw [hz.1.1, Nat.mul_div_cancel_left _ (by omega)] at this
      exact this
    rcases tro_half t ht with ⟨h5, e⟩ | ⟨h5, e, h6, h7⟩
    · rw [g2 (tro t) (fun k hk => by omega), e]
      obtain ⟨a1, a2⟩ := f2 t h5
      refine ⟨a1, ?_⟩
      rw [a2 0 (by omega), o5 _ (by omega), ← e]
      exact hr
    · obtain ⟨a1, a2⟩ := g1 (t - 4) h7
      rw [e]
      refine ⟨a1, ?_⟩
      rw [a2 0 (by omega), f3 _ (by omega) (fun k hk => by omega), o5 _ (by omega), ← e]
      exact hr
  have hC : CC s True μ7 (R0 s) := by
    refine ⟨fun t ht hts => ⟨0, by omega, ?_, (rows t ht).1, (rows t ht).2, fun _ j hj => absurd hj (by omega)⟩, fun h0 _ i hi => ?_⟩
    · have := R0_cp t ht
      rw [hts] at this
      exact this
    · rw [g2 60 (by omega), f1 i hi]
      unfold R0
      rw [if_pos ⟨h0, hi⟩]
  refine wp_bdQ (tlookC (p := 0) hX k8 (by omega)) fun μ8 ⟨t8, q8⟩ => ?_
  have hcs : CS b n ((0, 0), 0) μ8 := ⟨hX.fc q8, hF.fc q8, Nat.zero_le _, fun _ => t8⟩
  refine wp_bdQ (runC hs n 0 zFU (((0, 0), 0), R0 s) μ8 (Or.inr ⟨by show n - 0 ≤ n; omega, Nat.le_refl _⟩) (by unfold zFU; omega) hcs ((q8.fd.cc hC).mono (fun _ => trivial))) fun μ9 ⟨c1, c2, c3, c4⟩ => ?_
  generalize trun b n s n (((0, 0), 0), R0 s) = x at *
  obtain ⟨x1, x2, x3, x4⟩ := c1
  have out9 : ∀ o, o < 58 ∨ 87 ≤ o → μ9 o = μ o := by
    intro o ho
    rw [c3 o (by omega) (by omega) (by omega) (fun t ht _ => by have := tro_ok t ht; have := tro_ne t ht; omega), q8.1 o (by omega)]
    exact out o ho
  have wf9 : ∀ r, 58 ≤ r → r < 87 → zkd r = 6 → WFr r μ9 := by
    intro r r1 r2 r3
    rcases rd_rows' r2 r1 r3 with e | ⟨t, ht, e⟩
    · subst e
      have e77 : μ9 77 = μ7 77 := by
        rw [c3 77 (by omega) (by omega) (by omega) (fun t ht _ => by have := tro_ne t ht; omega), q8.1 77 (by omega)]
      obtain ⟨a1, a2⟩ := g1 0 (by omega)
      refine ⟨?_, 0, Nat.zero_le _, by rw [e77]; exact a1⟩
      have := (hW 77 (by omega) (by omega) r3).1
      rw [e77, show μ7 77 0 = μ6 77 0 from a2 0 (by omega), f3 77 (by omega) (by omega), o5 77 (by omega)]
      exact this
    · have hz := tro_ok t ht
      subst e
      by_cases hts : tsr t = s
      · obtain ⟨c, d1, d2, d3, d4, -⟩ := c2.1 t ht hts
        exact ⟨by rw [d4, hz.1.1, Nat.mul_div_cancel_left _ (by omega)], c, by rw [hz.1.1]; omega, d3⟩
      · have hne : ∀ t', t' < 9 → tsr t' = s → tro t ≠ tro t' ∧ tro t ≠ tro t' + 1 := by
          intro t' ht' hts'
          have : ∀ t, t < 9 → ∀ t', t' < 9 → tsr t = tsr t' ∨ (tro t ≠ tro t' ∧ tro t ≠ tro t' + 1) := by decide +kernel
          exact (this t ht t' ht').resolve_left (fun z => hts (z.trans hts'))
        have er : μ9 (tro t) = μ7 (tro t) := by
          have hm := tro_ne t ht
          rw [c3 (tro t) (by omega) (by omega) (by omega) hne, q8.1 _ (by omega)]
        exact ⟨by rw [er, (rows t ht).2, hz.1.1, Nat.mul_div_cancel_left _ (by omega)], 0, Nat.zero_le _, by rw [er]; exact (rows t ht).1⟩
  by_cases hlast : s = 0 ∧ x.1.1.1 = 0
  · obtain ⟨hs0, hx0⟩ := hlast
    obtain ⟨hB, hR⟩ := hBd hs0 hx0
    subst hs0
    refine wp_bd (wp_it ⟨by rw [x2.2.1, hx0]; rfl, rfl⟩ (wp_bdQ (settle_ok kd59 hB (CC.lc0 (c2.mono (fun _ => hx0)) hB hR)) fun μ10 ⟨l1, l2⟩ => wp_bdQ (wholeFaultC l1) fun r29 ⟨k, hk, hkw⟩ => wp_u fun μ11 u11 => wp_l fun x33 h33 => wp_u fun μ12 u12 => wp_some (wp_some ?_)))
    have hk6 := hkw.le
    have p5 : μ11 58 5 = nI n := by rw [u11.2.2 5 (by omega), l2 58 (by omega) (by omega) (by omega) (by omega)]; exact x1.2.2.1
    have v12 : ∀ o, o ≠ 58 → μ12 o = μ10 o := fun o ho => (u12.2.1 o ho).trans (u11.2.1 o ho)
    refine ⟨(k, n), ⟨⟨hk6.1, hn⟩, ?_, ?_⟩, fun z => ?_, fun _ _ => ⟨hkw, rfl, l1.congr (fun o o1 o2 => v12 o (by omega))⟩, c2.rows ?_ (fun t ht _ => ?_), c4, fun o ho => ?_, fun r r1 r2 r3 => ?_⟩
    · rw [u12.2.2 2 (by omega), u11.1]
      exact hk
    · rw [u12.1, h33, u11.1, p5, hk]
      by_cases h0 : k = 0
      · rw [h0, if_neg (fun z => z rfl), if_pos rfl]
      · rw [if_pos (nI_ne0 (by omega) (by omega)), if_neg h0]
    · rcases z with z | z
      · exact absurd rfl z
      · exact absurd hx0 z
    · rw [v12 60 (by omega), l2 60 (by omega) (by omega) (by omega) (by omega)]
    · have h1 := tro_ok t ht
      have h2 := tro_ne t ht
      rw [v12 _ (by omega), v12 (tro t + 1) (by omega), l2 (tro t) (by omega) (by omega) (by omega) (by omega), l2 (tro t + 1) (by omega) (by omega) (by omega) (by omega)]
      exact ⟨rfl, rfl⟩
    · rw [v12 o (by omega), l2 o (by omega) (by omega) (by omega) (by omega)]
      exact out9 o ho
    · have hr := rd_rows' r2 r1 r3
      refine (wf9 r r1 r2 r3).congr ?_
      have hq : r ≠ 58 ∧ r ≠ 59 ∧ r ≠ 71 ∧ r ≠ 72 ∧ r ≠ 73 := by
        rcases hr with e | ⟨t, ht, e⟩
        · omega
        · have := tro_ok t ht
          have := tro_ne t ht
          omega
      rw [v12 r hq.1, l2 r (by omega) (by omega) (by omega) (by omega)]
  · refine wp_bd (wp_ie (fun z => hlast ⟨(nI_eq (b := 0) (by omega) (by omega)).mp z.2, (nI_eq (b := 0) (by have := x2.1; omega) (by omega)).mp (by rw [← x2.2.1]; exact z.1)⟩) (wp_some (wp_some ⟨x.1.1, x2, fun _ => rfl, fun z1 z2 => absurd ⟨z1, z2⟩ hlast, c2, c4, out9, wf9⟩)))
end RUN
