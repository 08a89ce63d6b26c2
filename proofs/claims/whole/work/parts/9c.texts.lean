/-! TEXTS: text answers alike, and what lasts goes on -/
/-- what is told in a place of a sort -/
def SL (s k : Nat) (μ : zM) : Prop := (s = 0 → ∃ L, LakeR (6 + 15 * k) (610 + 109 * k) μ L) ∧ (s = 1 → ∃ n D, DayR (40 + 2 * k) (828 + 121 * k) μ n D) ∧ (s = 2 → ∃ n X, NightR (44 + 2 * k) (1070 + 17 * k) μ n X) ∧ (s = 3 → ∃ n X, FogR (48 + 2 * k) (1104 + 9 * k) μ n X) ∧ (s = 4 → ∃ n D, LawR (52 + 2 * k) (1122 + 25 * k) μ n D)
section TEXTS
variable {b : Nat → Nat} {n p s k : Nat} {μ μ' : zM}
theorem SL.keep (h : SL s k μ) (hs : s < 5) (fc0 : s = 0 → ∀ o, 6 + 15 * k ≤ o → o ≤ 20 + 15 * k → μ' o = μ o) (fc1 : s ≠ 0 → μ' (36 + 2 * (2 * s + k)) = μ (36 + 2 * (2 * s + k)) ∧ μ' (37 + 2 * (2 * s + k)) = μ (37 + 2 * (2 * s + k))) (e : ∀ i, po s k ≤ i → i < po s k + szz s → μ' 311 i = μ 311 i) : SL s k μ' := by
  obtain ⟨h0, h1, h2, h3, h4⟩ := h
  refine ⟨fun q => ?_, fun q => ?_, fun q => ?_, fun q => ?_, fun q => ?_⟩
  · subst q
    obtain ⟨L, l1, l2, l3⟩ := h0 rfl
    refine ⟨L, l1, l2.congr (fun o o1 o2 => fc0 rfl o o1 (by omega)), fun i hi => ?_⟩
    rw [e (610 + 109 * k + i) (by show 610 + 109 * k ≤ _; omega) (by show _ < 610 + 109 * k + 109; omega)]
    exact l3 i hi
  · subst q
    obtain ⟨m, D, l⟩ := h1 rfl
    obtain ⟨c1, c2⟩ := fc1 (by omega)
    rw [show 36 + 2 * (2 * 1 + k) = 40 + 2 * k by omega, show 37 + 2 * (2 * 1 + k) = 40 + 2 * k + 1 by omega] at *
    exact ⟨m, D, l.move (RowEq.same c1 c2) (fun i hi => e _ (by show 828 + 121 * k ≤ _; omega) (by show _ < 828 + 121 * k + 121; omega))⟩
  · subst q
    obtain ⟨m, D, l⟩ := h2 rfl
    obtain ⟨c1, c2⟩ := fc1 (by omega)
    rw [show 36 + 2 * (2 * 2 + k) = 44 + 2 * k by omega, show 37 + 2 * (2 * 2 + k) = 44 + 2 * k + 1 by omega] at *
    exact ⟨m, D, l.move (RowEq.same c1 c2) (fun i hi => e _ (by show 1070 + 17 * k ≤ _; omega) (by show _ < 1070 + 17 * k + 17; omega))⟩
  · subst q
    obtain ⟨m, D, l⟩ := h3 rfl
    obtain ⟨c1, c2⟩ := fc1 (by omega)
    rw [show 36 + 2 * (2 * 3 + k) = 48 + 2 * k by omega, show 37 + 2 * (2 * 3 + k) = 48 + 2 * k + 1 by omega] at *
    exact ⟨m, D, l.move (RowEq.same c1 c2) (fun i hi => e _ (by show 1104 + 9 * k ≤ _; omega) (by show _ < 1104 + 9 * k + 9; omega))⟩
  · subst q
    obtain ⟨m, D, l⟩ := h4 rfl
    obtain ⟨c1, c2⟩ := fc1 (by omega)
    rw [show 36 + 2 * (2 * 4 + k) = 52 + 2 * k by omega, show 37 + 2 * (2 * 4 + k) = 52 + 2 * k + 1 by omega] at *
    exact ⟨m, D, l.move (RowEq.same c1 c2) (fun i hi => e _ (by show 1122 + 25 * k ≤ _; omega) (by show _ < 1122 + 25 * k + 25; omega))⟩
theorem PB1 : PB 1 0 μ ↔ (∀ s, s < 5 → ∃ c, c ≤ 2 ∧ μ 3 s = nI c ∧ μ 311 s = nI c ∧ ∀ k, k < c → SL s k μ) ∧ ∀ k, k < 2 → ∃ L, LC (6 + 15 * k) μ L := by
  unfold PB
  refine and_congr ⟨fun h s hs => ?_, fun h s hs => ?_⟩ Iff.rfl
  · obtain ⟨c, c1, c2, c3, c4⟩ := h s hs
    rw [Nat.zero_add] at c3
    exact ⟨c, c1, c2, c3, fun k hk => c4 k hk⟩
  · obtain ⟨c, c1, c2, c3, c4⟩ := h s hs
    refine ⟨c, c1, c2, by rw [Nat.zero_add]; exact c3, fun k hk => c4 k hk⟩
theorem Inv.upd (hI : Inv μ) (w : ∀ r, 58 ≤ r → r < 87 → zkd r = 6 → WFr r μ') (f : ∀ o, (3 ≤ o ∧ o < 58) ∨ (145 ≤ o ∧ o < 310) ∨ o = 312 → μ' o = μ o) (e : ∀ i, i < 5 ∨ 610 ≤ i → μ' 311 i = μ 311 i) (hd : PH 1 0 μ') : Inv μ' := by
  obtain ⟨h1, h2, h3⟩ := hI
  refine ⟨fun r r1 r2 => ?_, PR.iff.mpr ⟨hd, ?_⟩, fun k hk => ?_⟩
  · rcases toldRng r r1 r2 with q | q | q
    · have : r ≠ 1 ∧ r ≠ 2 := by
        refine ⟨fun w => ?_, fun w => ?_⟩ <;> subst w <;> exact absurd r2 (by decide +kernel)
      rw [f r (by omega)]
      exact h1 r r1 r2
    · exact w r q.1 q.2 r2
    · rw [f r (by omega)]
      exact h1 r r1 r2
  · refine (PR.iff.mp h2).2.move (T' := 1) (Q' := 0) (fun s hs => by rw [f _ (by omega)]) (fun k hk => ?_) (fun k hk L l => l.congr (fun o o1 o2 => f o (by omega))) (fun i hi => by rw [Nat.zero_add]; exact e i (by omega))
    exact RowEq.same (f _ (by omega)) (f _ (by omega))
  · obtain ⟨a, b⟩ := h3 k hk
    rw [f 57 (by omega), f 312 (by omega)]
    refine ⟨a, b.imp id (fun c => ⟨c.1, c.2.keep (fun o o1 o2 => f o (by omega)) (fun i hi => e _ (by omega))⟩)⟩
/-- a place told anew -/
theorem Inv.slot {c c' : Nat} (hI : Inv μ) (hs : s < 5) (hk : k < 2) (w : ∀ r, 3 ≤ r → r < 87 → zkd r = 6 → WFr r μ') (f : ∀ o, (145 ≤ o ∧ o < 310) ∨ o = 312 ∨ o = 57 → μ' o = μ o)
    (fl : ∀ o, 4 ≤ o → o < 57 → (s = 0 → o < 6 + 15 * k ∨ 20 + 15 * k < o) → (s ≠ 0 → o ≠ 36 + 2 * (2 * s + k) ∧ o ≠ 37 + 2 * (2 * s + k)) → μ' o = μ o)
    (c0 : μ 3 s = nI c ∧ c ≤ 2) (c1 : ∀ s', s' ≠ s → μ' 3 s' = μ 3 s') (c2 : μ' 3 s = nI c' ∧ μ' 311 s = nI c' ∧ c' ≤ 2) (c3 : ∀ k', k' < c' → k' = k ∨ k' < c) (hSL : SL s k μ') (hLC : s = 0 → ∃ L, LC (6 + 15 * k) μ' L)
    (e : ∀ i, (i < 5 ∧ i ≠ s) ∨ (610 ≤ i ∧ (i < po s k ∨ po s k + szz s ≤ i)) → μ' 311 i = μ 311 i) (hd : PH 1 0 μ') : Inv μ' := by
  obtain ⟨h1, h2, h3⟩ := hI
  have hp := po_ok s hs k hk
  refine ⟨fun r r1 r2 => ?_, PR.iff.mpr ⟨hd, PB1.mpr ⟨fun s' hs' => ?_, fun k' hk' => ?_⟩⟩, fun j hj => ?_⟩
  · rcases toldRng r r1 r2 with q | q | q
    · have : r ≠ 1 ∧ r ≠ 2 := by
        refine ⟨fun w => ?_, fun w => ?_⟩ <;> subst w <;> exact absurd r2 (by decide +kernel)
      exact w r (by omega) (by omega) r2
    · exact w r (by omega) q.2 r2
    · rw [f r (by omega)]
      exact h1 r r1 r2
  · have hb := PB1.mp (PR.iff.mp h2).2
    obtain ⟨cs, k1, k2, k3, k4⟩ := hb.1 s' hs'
    have keep : ∀ k', k' < 2 → (s' ≠ s ∨ k' ≠ k) → SL s' k' μ → SL s' k' μ' := by
      intro k' hk' hne h
      refine h.keep hs' (fun q o o1 o2 => fl o (by omega) (by omega) (fun q2 => by omega) (fun q2 => by omega)) (fun q => ⟨fl _ (by omega) (by omega) (fun q2 => by omega) (fun q2 => by omega), fl _ (by omega) (by omega) (fun q2 => by omega) (fun q2 => by omega)⟩) (fun i i1 i2 => e i (Or.inr ?_))
      have hp' := po_ok s' hs' k' hk'
      have := (po_two hs hk hs' hk').resolve_left (fun q => by omega)
      omega
    by_cases hss : s' = s
    · subst hss
      have ec : cs = c := (nI_eq (by omega) (by omega)).mp (k2.symm.trans c0.1)
      subst ec
      refine ⟨c', c2.2.2, c2.1, c2.2.1, fun k' hk' => ?_⟩
      by_cases q : k' = k
      · rw [q]
        exact hSL
      · exact keep k' (by omega) (Or.inr q) (k4 k' ((c3 k' hk').resolve_left q))
    · exact ⟨cs, k1, by rw [c1 s' hss]; exact k2, by rw [e s' (Or.inl ⟨hs', hss⟩)]; exact k3, fun k' hk' => keep k' (by omega) (Or.inl hss) (k4 k' hk')⟩
  · have hb := PB1.mp (PR.iff.mp h2).2
    by_cases q : s = 0 ∧ k' = k
    · rw [q.2]
      exact hLC q.1
    · obtain ⟨L, l⟩ := hb.2 k' hk'
      refine ⟨L, l.congr (fun o o1 o2 => fl o (by omega) (by omega) (fun q2 => ?_) (fun q2 => by omega))⟩
      have : k' ≠ k := fun z => q ⟨q2, z⟩
      omega
  · obtain ⟨a, b⟩ := h3 j hj
    rw [f 57 (by omega), f 312 (by omega)]
    refine ⟨a, b.imp id (fun z => ⟨z.1, z.2.keep (fun o o1 o2 => f o (by omega)) (fun i hi => e _ (by omega))⟩)⟩
/-- a text that is refused -/
theorem text_no {v1 v2 : Int32} (hI : Inv μ) (hC : f_X8_slotFor 1 v1 v2 μ = some (-1)) (hM : ∀ μ4 : zM, (∀ i, i < 5 → μ4 311 i = μ 311 i) → wp (if (f_X12_isIn v1 (0 : Int32) (4 : Int32)) = 0 then some false else if ¬ v2 = (-1 : Int32) then zbd (f_X12_isOf 310 v1 v2 μ4) fun r11 => if ¬ r11 = 0 then some true else some false else zg (zin v1 4688) <| if (μ4 (310 + 1) (v1.toNatClampNeg)) < (2 : Int32) then some true else some false) (fun c => c = false)) :
    wp (f_X11_text 0 v1 v2 μ) (fun p => wp (f_X12_text 310 v1 v2 p.2) (fun p2 => p2.1 = p.1 ∧ Inv p2.2)) := by
  unfold f_X11_text
  refine wp_bdE hC (wp_ie (fun z => z rfl) (wp_u fun μ1 u1 => wp_u fun μ2 u2 => wp_u fun μ3 u3 => wp_some ?_))
  show wp (f_X12_text 310 v1 v2 μ3) (fun p2 => p2.1 = -2 ∧ Inv p2.2)
  have o3 : ∀ o, o ≠ 1 → μ3 o = μ o := fun o ho => by rw [u3.2.1 o ho, u2.2.1 o ho, u1.2.1 o ho]
  unfold f_X12_text
  refine wp_u fun ν1 w1 => wp_u fun ν2 w2 => wp_u fun ν3 w3 => wp_u fun ν4 w4 => ?_
  have b4 : ∀ i, i ≠ 7 → ν4 311 i = ν3 311 i := w4.2.2
  have b3 : ∀ i, i ≠ 6 → ν3 311 i = ν2 311 i := w3.2.2
  have b2 : ∀ i, i ≠ 5 → ν2 311 i = ν1 311 i := w2.2.2
  have r4 : ∀ i, i ≠ 5 → i ≠ 6 → i ≠ 7 → ν4 311 i = μ 311 i := fun i i5 i6 i7 => by rw [b4 i i7, b3 i i6, b2 i i5, w1.2.1 311 (by omega), o3 311 (by omega)]
  have o4 : ∀ o, o ≠ 1 → o ≠ 310 → o ≠ 311 → ν4 o = μ o := fun o o1 o2 o3' => by rw [w4.2.1 o o3', w3.2.1 o o3', w2.2.1 o o3', w1.2.1 o o2, o3 o o1]
  refine wp_bdQ (hM ν4 (fun i hi => r4 i (by omega) (by omega) (by omega))) fun c hc => ?_
  subst hc
  refine wp_ie (by decide) (wp_some ⟨rfl, ?_⟩)
  show Inv ν4
  have hW := hI.1
  obtain ⟨hd, -⟩ := PR.iff.mp hI.2.1
  have e1 : ν4 1 = μ3 1 := by rw [w4.2.1 1 (by omega), w3.2.1 1 (by omega), w2.2.1 1 (by omega), w1.2.1 1 (by omega)]
  refine hI.upd (fun r r1 r2 r3 => ?_) (fun o ho => o4 o (by omega) (by omega) (by omega)) (fun i hi => r4 i (by omega) (by omega) (by omega)) ⟨⟨0, by omega, ?_, ?_⟩, ⟨?_, ?_⟩, fun i hi => ?_⟩
  · have := hW r (by omega) r3
    exact (show WFr r μ from this).congr (o4 r (by omega) (by omega) (by omega))
  · rw [e1, u3.2.2 1 (by omega), u2.2.2 1 (by omega)]
    exact u1.1
  · show ν4 311 5 = nI 0
    rw [b4 5 (by omega), b3 5 (by omega)]
    exact w2.1
  · rw [e1, u3.2.2 2 (by omega)]
    have : μ2 1 2 = 0 := u2.1
    rw [this]
    show ν4 311 6 = 0
    rw [b4 6 (by omega)]
    exact w3.1
  · rw [e1]
    have : μ3 1 3 = -1 := u3.1
    rw [this]
    exact w4.1
  · have := hd.2.2 i hi
    rw [Nat.zero_add] at this ⊢
    rw [r4 _ (by omega) (by omega) (by omega), o4 (1 + 1) (by omega) (by omega) (by omega)]
    exact this
theorem wsort {v : Int32} : (¬ v < 0 ∧ v < 5) ↔ ∃ s : Nat, s < 5 ∧ v = nI s := by
  constructor
  · rintro ⟨h1, h2⟩
    obtain ⟨j, j1, rfl⟩ := nI_of h1
    exact ⟨j, (nI_ltI (b := 5) j1 (by omega)).mp h2, rfl⟩
  · rintro ⟨s, hs, rfl⟩
    exact ⟨nI_pos (by omega), nI_lt (b := 5) hs (by omega)⟩
/-- the class's page, taken -/
theorem pageTakeC {c : Nat} (hs : 1 ≤ s ∧ s < 5) (hk : k < 2) (hW : ∀ r, r < 87 → zkd r = 6 → WFr r μ) (hc : μ (77 + 2 * s) 2 = nI c) (hc2 : 3 * c ≤ zln (78 + 2 * s)) :
    wp (f_X6_takeFrom (36 + 2 * (2 * s + k)) (77 + 2 * s) μ) (fun μ' => μ' (36 + 2 * (2 * s + k)) 2 = nI c ∧ (∀ i, i < 3 * c → μ' (37 + 2 * (2 * s + k)) i = μ (78 + 2 * s) i) ∧ (∀ o, o ≠ 36 + 2 * (2 * s + k) → o ≠ 37 + 2 * (2 * s + k) → μ' o = μ o) ∧ WFr (36 + 2 * (2 * s + k)) μ') := by
  have hz : ∀ s, s < 5 → ∀ k, k < 2 → zln (37 + 2 * (2 * s + k)) = zln (78 + 2 * s) ∧ zln (78 + 2 * s) < 1000 ∧ zkd (36 + 2 * (2 * s + k)) = 6 := by decide +kernel
  obtain ⟨z1, z2, z3⟩ := hz s hs.2 k hk
  have e1 : 37 + 2 * (2 * s + k) = 36 + 2 * (2 * s + k) + 1 := by omega
  have e2 : 78 + 2 * s = 77 + 2 * s + 1 := by omega
  have hw := hW (36 + 2 * (2 * s + k)) (by omega) z3
  rw [e1, e2] at z1
  rw [e2] at z2 hc2
  refine wp_mono (rowTake (w := 77 + 2 * s) (w' := 36 + 2 * (2 * s + k)) ⟨by omega, by omega, by omega, by omega⟩ z1 z2 hw.1 hc2 hc) fun μ1 ⟨a1, a2, a3, a4⟩ => ?_
  rw [e1, e2]
  exact ⟨a1, a3, a4, by rw [a2]; exact hw.1, c, by rw [z1]; exact hc2, a1⟩
end TEXTS
