/-! TEXTS: the reference reads numbers -/
def FM (F : Nat × Nat) (μ : zM) : Prop := (F.1 ≤ 6 ∧ F.2 ≤ 600) ∧ μ 310 8 = (if F.1 = 1 then 1 else 0) ∧ μ 311 6 = nI F.1 ∧ μ 311 7 = (if F.1 = 0 then -1 else nI F.2)
def MS (b : Nat → Nat) (n : Nat) (s : (Nat × Nat) × Nat) (μ : zM) : Prop := TXm b n μ ∧ FM s.1 μ ∧ s.2 ≤ n ∧ (s.1.1 ≠ 1 → RT b n s.2 μ)
/-- what looking and FAULTS change -/
def FRs (μ μ' : zM) : Prop := (∀ o, o ≠ 310 → o ≠ 311 → μ' o = μ o) ∧ ∀ k, k ≠ 6 → k ≠ 7 → μ' 311 k = μ 311 k
/-- the same, and the row that is read -/
def FLm (μ μ' : zM) : Prop := (∀ o, o ≠ 310 → o ≠ 311 → o ≠ 313 → μ' o = μ o) ∧ ∀ k, k ≠ 6 → k ≠ 7 → μ' 311 k = μ 311 k
def MR (s : Nat) (v : Prop) (μ : zM) (R : Nat → Int32) : Prop := (∀ t, t < 9 → tsr t = s → ∃ c, c ≤ tmx t ∧ R (tcp t) = nI c ∧ μ 313 (tcp t) = nI c) ∧ (v → ∀ i, i < 121 → μ 313 i = R i)
section RTOK
variable {b : Nat → Nat} {n w p s : Nat} {μ μ' μ1 μ2 : zM} {F : Nat × Nat} {R : Nat → Int32} {x : (Nat × Nat) × Nat}
theorem FRs.rf (μ : zM) : FRs μ μ := ⟨fun _ _ _ => rfl, fun _ _ _ => rfl⟩
theorem FLm.rf (μ : zM) : FLm μ μ := ⟨fun _ _ _ _ => rfl, fun _ _ _ => rfl⟩
theorem FRs.tr (h : FRs μ μ1) (k : FRs μ1 μ2) : FRs μ μ2 := ⟨fun o h1 h2 => (k.1 o h1 h2).trans (h.1 o h1 h2), fun j h1 h2 => (k.2 j h1 h2).trans (h.2 j h1 h2)⟩
theorem FLm.tr (h : FLm μ μ1) (k : FLm μ1 μ2) : FLm μ μ2 := ⟨fun o h1 h2 h3 => (k.1 o h1 h2 h3).trans (h.1 o h1 h2 h3), fun j h1 h2 => (k.2 j h1 h2).trans (h.2 j h1 h2)⟩
theorem FRs.fl (h : FRs μ μ1) : FLm μ μ1 := ⟨fun o h1 h2 _ => h.1 o h1 h2, h.2⟩
theorem FA.fr (h : FA μ μ1) : FRs μ μ1 := ⟨fun o h1 _ => h.1 o h1, fun j _ _ => by rw [h.1 311 (by omega)]⟩
theorem FRs.u13 {k : Nat} {v : Int32} (h : U1 313 k v μ μ1) : FLm μ μ1 := ⟨fun o _ _ h3 => h.2.1 o h3, fun j _ _ => by rw [h.2.1 311 (by omega)]⟩
theorem MS.o13 (h : MS b n x μ) (f : ∀ o, o ≠ 313 → μ1 o = μ o) : MS b n x μ1 := by
  unfold MS TXm FM RT at h ⊢
  rw [f 310 (by omega), f 311 (by omega)]
  exact h
theorem MR.fr {v : Prop} (h : MR s v μ R) (f : FRs μ μ1) : MR s v μ1 R := by
  unfold MR at h ⊢
  rw [f.1 313 (by omega) (by omega)]
  exact h
theorem MR.mono {v v' : Prop} (h : MR s v μ R) (k : v' → v) : MR s v' μ R := ⟨h.1, fun z => h.2 (k z)⟩
theorem TXm.fr (h : TXm b n μ) (f2 : μ1 310 2 = μ 310 2) (hn : ∀ k, k ≠ 6 → k ≠ 7 → μ1 311 k = μ 311 k) : TXm b n μ1 := ⟨h.1, by rw [f2]; exact h.2.1, fun i hi => by rw [hn _ (by omega) (by omega)]; exact h.2.2 i hi⟩
theorem FM.fa (h : FM F μ) (f : FA μ μ1) : FM F μ1 := by
  unfold FM at h ⊢
  rw [f.2 8 (by omega), f.1 311 (by omega)]
  exact h
theorem MS.fs (h : MS b n x μ) (hF : FM F μ1) (f : (∀ o, o ≠ 311 → μ1 o = μ o) ∧ ∀ k, k ≠ 6 → k ≠ 7 → μ1 311 k = μ 311 k) (h1 : x.1.1 ≠ 1) : MS b n (F, x.2) μ1 := by
  refine ⟨h.1.fr (by rw [f.1 310 (by omega)]) f.2, hF, h.2.2.1, fun _ => ?_⟩
  have := h.2.2.2 h1
  unfold RT at this ⊢
  rw [f.1 310 (by omega)]
  exact this
theorem alsoM {k a : Nat} {v u : Int32} (hF : FM F μ) (h1 : F.1 ≠ 1) (hk : 0 < k ∧ k ≤ 6 ∧ k ≠ 1) (ha : a ≤ 600) (hv : v = nI k) (hu : u = nI a) : FM (nt F k a) (f_X12_also 310 v u μ) ∧ (∀ o, o ≠ 311 → f_X12_also 310 v u μ o = μ o) ∧ ∀ j, j ≠ 6 → j ≠ 7 → f_X12_also 310 v u μ 311 j = μ 311 j := by
  subst hv hu
  obtain ⟨⟨b1, b2⟩, e8, e6, e7⟩ := hF
  rw [if_neg h1] at e8
  have hc : (μ 310 8 = 0 ∧ (μ 311 6 = 0 ∨ ¬ μ 311 7 < nI a ∧ (¬ μ 311 7 = nI a ∨ nI k < μ 311 6))) ↔ (F.1 = 0 ∨ (a < F.2 ∨ a = F.2 ∧ k < F.1)) := by
    have q : (nI F.1 = (0 : Int32)) ↔ F.1 = 0 := nI_eq (b := 0) (by omega) (by omega)
    rw [e8, e6, e7, q]
    by_cases h0 : F.1 = 0
    · exact ⟨fun _ => Or.inl h0, fun _ => ⟨rfl, Or.inl h0⟩⟩
    · rw [if_neg h0, nI_ltI (by omega) (by omega), nI_eq (by omega) (by omega), nI_ltI (by omega) (by omega)]
      constructor
      · rintro ⟨-, h⟩
        omega
      · intro h
        exact ⟨rfl, by omega⟩
  unfold f_X12_also nt
  by_cases h : F.1 = 0 ∨ (a < F.2 ∨ a = F.2 ∧ k < F.1)
  · rw [if_pos (hc.mpr h), if_pos h]
    show FM (k, a) (zup (zup μ 311 6 (nI k)) 311 7 (nI a)) ∧ (∀ o, o ≠ 311 → zup (zup μ 311 6 (nI k)) 311 7 (nI a) o = μ o) ∧ ∀ j, j ≠ 6 → j ≠ 7 → zup (zup μ 311 6 (nI k)) 311 7 (nI a) 311 j = μ 311 j
    refine ⟨⟨⟨by show k ≤ 6; omega, ha⟩, ?_, ?_, ?_⟩, fun o ho => by rw [zup_rne _ _ _ ho, zup_rne _ _ _ ho], fun j j1 j2 => by rw [zup_ne (by omega), zup_ne (by omega)]⟩
    · rw [zup_rne _ _ _ (by omega), zup_rne _ _ _ (by omega), e8, if_neg (by show ¬ k = 1; omega)]
    · rw [zup_ne (by omega), zup_self]
    · rw [zup_self, if_neg (by show ¬ k = 0; omega)]
  · rw [if_neg (fun z => h (hc.mp z)), if_neg h]
    exact ⟨⟨⟨b1, b2⟩, by rw [if_neg h1]; exact e8, e6, e7⟩, fun _ _ => rfl, fun _ _ _ => rfl⟩
theorem endsM (h : MS b n x μ) : MS b n (if x.1.1 = 1 then x else ((1, tF b n x.2), x.2)) (f_X12_ends 310 μ) ∧ FRs μ (f_X12_ends 310 μ) := by
  obtain ⟨hX, hF, hl, hT⟩ := h
  have hfl := tF_le (b := b) hl
  have hn := hX.1.1
  unfold f_X12_ends
  by_cases h1 : x.1.1 = 1
  · rw [if_pos h1, if_neg (by rw [hF.2.1, if_pos h1]; decide)]
    exact ⟨⟨hX, hF, hl, hT⟩, FRs.rf μ⟩
  · rw [if_neg h1, if_pos (by rw [hF.2.1, if_neg h1])]
    show MS b n ((1, tF b n x.2), x.2) (zup (zup (zup μ 310 8 1) 311 6 1) 311 7 (zup (zup μ 310 8 1) 311 6 1 310 4)) ∧ FRs μ (zup (zup (zup μ 310 8 1) 311 6 1) 311 7 (zup (zup μ 310 8 1) 311 6 1 310 4))
    rw [show zup (zup μ 310 8 1) 311 6 1 310 4 = nI (tF b n x.2) by rw [zup_rne _ _ _ (by omega), zup_ne (by omega)]; exact (hT h1).2.1]
    have g : ∀ k, k ≠ 6 → k ≠ 7 → zup (zup (zup μ 310 8 1) 311 6 1) 311 7 (nI (tF b n x.2)) 311 k = μ 311 k := fun k k1 k2 => by rw [zup_ne (by omega), zup_ne (by omega), zup_rne _ _ _ (by omega)]
    refine ⟨⟨hX.fr (by rw [zup_rne _ _ _ (by omega), zup_rne _ _ _ (by omega), zup_ne (by omega)]) g, ⟨⟨by show 1 ≤ 6; omega, by show tF b n x.2 ≤ 600; omega⟩, ?_, ?_, ?_⟩, hl, fun z => absurd rfl z⟩, ⟨fun o o1 o2 => by rw [zup_rne _ _ _ o2, zup_rne _ _ _ o2, zup_rne _ _ _ o1], g⟩⟩
    · rw [zup_rne _ _ _ (by omega), zup_rne _ _ _ (by omega), zup_self, if_pos rfl]
    · rw [zup_ne (by omega), zup_self]
      rfl
    · rw [zup_self, if_neg (by show ¬ (1 : Nat) = 0; omega)]
theorem RT.tok (h : RT b n p μ) : (μ 310 5 = 0 ↔ tK b n p = 0) ∧ (μ 310 5 = 1 ↔ tK b n p = 2) ∧ (μ 310 5 = 2 ↔ tK b n p = 3) ∧ (μ 310 5 = 3 ↔ tK b n p = 1 ∧ tW b n p ≠ 99) := by
  have h4 := tK_le (b := b) (n := n) (p := p)
  have e : ∀ c : Nat, c ≤ 4 → (μ 310 5 = nI c ↔ tKm b n p = c) := by
    intro c hc
    have : tKm b n p ≤ 4 := by
      unfold tKm
      split
      · split <;> omega
      · split
        · omega
        · split <;> omega
    rw [h.2.2.1]
    exact nI_eq (by omega) (by omega)
  have k : (tKm b n p = 0 ↔ tK b n p = 0) ∧ (tKm b n p = 1 ↔ tK b n p = 2) ∧ (tKm b n p = 2 ↔ tK b n p = 3) ∧ (tKm b n p = 3 ↔ tK b n p = 1 ∧ tW b n p ≠ 99) := by
    unfold tKm
    split
    · split <;> omega
    · split
      · omega
      · split <;> omega
  exact ⟨(e 0 (by omega)).trans k.1, (e 1 (by omega)).trans k.2.1, (e 2 (by omega)).trans k.2.2.1, (e 3 (by omega)).trans k.2.2.2⟩
theorem inYn {v lo hi : Nat} (hv : v < 2 ^ 31) (hlo : lo < 2 ^ 31) (hhi : hi < 2 ^ 31) : (¬ f_X12_isIn (nI v) (nI lo) (nI hi) = 0) ↔ lo ≤ v ∧ v ≤ hi := by
  rw [inY]
  constructor
  · rintro ⟨h1, h2⟩
    exact ⟨Nat.le_of_not_lt fun q => h1 (nI_lt q hlo), Nat.le_of_not_lt fun q => h2 (nI_lt q hv)⟩
  · rintro ⟨h1, h2⟩
    exact ⟨nI_nlt h1 hv, nI_nlt h2 hhi⟩
theorem MS.look (h : MS b n x μ) (h1 : x.1.1 ≠ 1) : wp (f_X12_advance 310 μ) (fun μ' => MS b n (x.1, tB b n x.2) μ' ∧ FRs μ μ') := by
  refine wp_mono (advM (p := tB b n x.2) h.1 (h.2.2.2 h1).1 (tB_le h.2.2.1)) fun μ' ⟨a1, a2⟩ => ⟨⟨h.1.fa a2, h.2.1.fa a2, tB_le h.2.2.1, fun _ => a1⟩, a2.fr⟩
theorem numberedM {lo hi : Nat} {v u : Int32} {ok : Nat → Bool} (h : MS b n x μ) (hv : v = nI lo) (hu : u = nI hi) (hlh : lo ≤ hi ∧ hi < 1000) (hok : ok x.2 = true ↔ lo ≤ tN b n x.2 ∧ tN b n x.2 ≤ hi) :
    wp (f_X12_numbered 310 v u μ) (fun r => MS b n (numS b n ok x) r.2 ∧ (∃ c, r.1 = nI c ∧ lo ≤ c ∧ c ≤ hi ∧ ((numS b n ok x).1.1 = 0 → c = tN b n x.2)) ∧ FRs μ r.2) := by
  subst hv hu
  have hb := h.1.1.2
  have hn := h.1.1.1
  have hlt := tN_lt (n := n) (p := x.2) hb
  have hfl := tF_le (b := b) h.2.2.1
  unfold f_X12_numbered
  by_cases h1 : x.1.1 = 1
  · refine wp_ie (fun z => ?_) (wp_ls (wp_some ?_))
    · have := z.1
      rw [h.2.1.2.1, if_pos h1] at this
      exact absurd this (by decide)
    · obtain ⟨e1, e2⟩ := endsM h
      rw [if_pos h1] at e1
      rw [numS_1 h1]
      exact ⟨e1, ⟨lo, rfl, Nat.le_refl _, hlh.1, fun z => by omega⟩, e2⟩
  · have hT := h.2.2.2 h1
    by_cases hk : tK b n x.2 = 2
    · refine wp_it ⟨by rw [h.2.1.2.1, if_neg h1], hT.tok.2.1.mpr hk⟩ (wp_ls (wp_l fun μ7 h7 => ?_))
      rw [hT.2.2.2.1 hk, hT.2.1] at h7
      rw [hT.2.2.2.1 hk, numS_y h1 hk]
      have g7 : MS b n (if ok x.2 = true then x.1 else nt x.1 2 (tF b n x.2), x.2) μ7 ∧ FRs μ μ7 := by
        by_cases hin : lo ≤ tN b n x.2 ∧ tN b n x.2 ≤ hi
        · rw [if_pos ((inYn (by omega) (by omega) (by omega)).mpr hin)] at h7
          rw [if_pos (hok.mpr hin), h7]
          exact ⟨h, FRs.rf μ⟩
        · rw [if_neg (fun z => hin ((inYn (by omega) (by omega) (by omega)).mp z))] at h7
          have h7 : μ7 = f_X12_also 310 2 (nI (tF b n x.2)) μ := h7
          obtain ⟨a1, a2⟩ := alsoM (k := 2) (v := 2) (a := tF b n x.2) h.2.1 h1 (by omega) (by omega) rfl rfl
          rw [← h7] at a1 a2
          rw [if_neg (fun z => hin (hok.mp z))]
          exact ⟨h.fs a1 a2 h1, fun o o1 o2 => a2.1 o o2, a2.2⟩
      have h17 : (if ok x.2 = true then x.1 else nt x.1 2 (tF b n x.2)).1 ≠ 1 := by
        split
        · exact h1
        · exact nt_ne1 h1 (by omega)
      refine wp_bdQ (g7.1.look h17) fun μ8 ⟨a1, a2⟩ => wp_ls (wp_some ⟨a1, ?_, g7.2.tr a2⟩)
      by_cases hin : lo ≤ tN b n x.2 ∧ tN b n x.2 ≤ hi
      · refine ⟨tN b n x.2, ?_, hin.1, hin.2, fun _ => rfl⟩
        show (if f_X12_isIn (nI (tN b n x.2)) (nI lo) (nI hi) = 0 then nI lo else nI (tN b n x.2)) = _
        exact if_neg ((inYn (by omega) (by omega) (by omega)).mpr hin)
      · refine ⟨lo, ?_, Nat.le_refl _, hlh.1, fun z => ?_⟩
        · exact if_pos (Decidable.not_not.mp fun z => hin ((inYn (by omega) (by omega) (by omega)).mp z))
        · have z : (if ok x.2 = true then x.1 else nt x.1 2 (tF b n x.2)).1 = 0 := z
          rw [if_neg (fun z => hin (hok.mp z))] at z
          exact absurd z (nt_ne0 (by omega))
    · refine wp_ie (fun z => hk (hT.tok.2.1.mp z.2)) (wp_ls (wp_some ?_))
      obtain ⟨e1, e2⟩ := endsM h
      rw [if_neg h1] at e1
      rw [numS_n h1 hk]
      exact ⟨e1, ⟨lo, rfl, Nat.le_refl _, hlh.1, fun z => by cases z⟩, e2⟩
theorem takesM {lo hi : Nat} {v u : Int32} (h : MS b n x μ) (h1 : x.1.1 ≠ 1) (hv : v = nI lo) (hu : u = nI hi) (hlh : lo ≤ hi ∧ hi < 99) :
    wp (f_X12_takes 310 v u μ) (fun r => FRs μ r.2 ∧ (((tK b n x.2 = 1 ∧ lo ≤ tW b n x.2 ∧ tW b n x.2 ≤ hi) ∧ r.1 = nI (tW b n x.2) ∧ MS b n (x.1, tB b n x.2) r.2) ∨ (¬ (tK b n x.2 = 1 ∧ lo ≤ tW b n x.2 ∧ tW b n x.2 ≤ hi) ∧ r.1 = 0 ∧ MS b n ((1, tF b n x.2), x.2) r.2))) := by
  subst hv hu
  have hT := h.2.2.2 h1
  have hw := tW_le (b := b) (n := n) (p := x.2)
  unfold f_X12_takes
  by_cases hc : tK b n x.2 = 1 ∧ lo ≤ tW b n x.2 ∧ tW b n x.2 ≤ hi
  · refine wp_it ⟨by rw [h.2.1.2.1, if_neg h1], hT.tok.2.2.2.mpr ⟨hc.1, by omega⟩, by rw [hT.2.2.2.2 hc.1]; exact (inYn (by omega) (by omega) (by omega)).mpr hc.2⟩ (wp_ls (wp_bdQ (h.look h1) fun μ8 ⟨a1, a2⟩ => wp_some ⟨a2, Or.inl ⟨hc, hT.2.2.2.2 hc.1, a1⟩⟩))
  · refine wp_ie (fun z => ?_) (wp_ls (wp_some ?_))
    · have k1 := (hT.tok.2.2.2.mp z.2.1).1
      have := z.2.2
      rw [hT.2.2.2.2 k1] at this
      exact hc ⟨k1, (inYn (by omega) (by omega) (by omega)).mp this⟩
    · obtain ⟨e1, e2⟩ := endsM h
      rw [if_neg h1] at e1
      exact ⟨e2, Or.inr ⟨hc, rfl, e1⟩⟩
theorem endsLineM (h : MS b n x μ) : wp (f_X12_endsLine 310 μ) (fun μ' => MS b n (lnE b n x) μ' ∧ FRs μ μ') := by
  unfold f_X12_endsLine
  by_cases h1 : x.1.1 = 1
  · refine wp_bd (wp_ie (fun z => ?_) (wp_ls (wp_some (wp_some ?_))))
    · have := z.1
      rw [h.2.1.2.1, if_pos h1] at this
      exact absurd this (by decide)
    · obtain ⟨e1, e2⟩ := endsM h
      rw [if_pos h1] at e1
      rw [lnE_1 h1]
      exact ⟨e1, e2⟩
  · have hT := h.2.2.2 h1
    by_cases hk : tK b n x.2 = 3
    · rw [lnE_y h1 hk]
      exact wp_bd (wp_it ⟨by rw [h.2.1.2.1, if_neg h1], hT.tok.2.2.1.mpr hk⟩ (wp_bdQ (h.look h1) fun μ8 a => wp_some (wp_some a)))
    · rw [lnE_n h1 hk]
      refine wp_bd (wp_ie (fun z => hk (hT.tok.2.2.1.mp z.2)) (wp_ls (wp_some (wp_some ?_))))
      obtain ⟨e1, e2⟩ := endsM h
      rw [if_neg h1] at e1
      exact ⟨e1, e2⟩
/-- a number of a word that is no brothers' second one -/
theorem numW {k lo hi : Nat} {v u : Int32} (h : MS b n x μ) (hv : v = nI lo) (hu : u = nI hi) (hlo : bd w k / 1000 = lo) (hhi : bd w k % 1000 = hi) (hlh : lo ≤ hi) (h6 : w ≠ 6 ∨ k ≠ 1) :
    wp (f_X12_numbered 310 v u μ) (fun r => MS b n (numS b n (wok b n w k p) x) r.2 ∧ (∃ c, r.1 = nI c ∧ lo ≤ c ∧ c ≤ hi ∧ ((numS b n (wok b n w k p) x).1.1 = 0 → c = tN b n x.2)) ∧ FRs μ r.2) := by
  refine numberedM h hv hu ⟨hlh, by omega⟩ ?_
  rw [wok_iff]
  unfold inb
  rw [decide_eq_true_eq, hlo, hhi]
  constructor
  · exact fun z => z.1
  · intro z
    exact ⟨z, fun q => by omega⟩
/-- a row more of a kind: what is read, counted -/
theorem MR.add {t c : Nat} {v v' : Prop} {row : Nat → Int32} (h : MR s v μ R) (ht : t < 9) (hts : tsr t = s) (hc : R (tcp t) = nI c) (hc2 : c < tmx t) (hv : v' → v) (e1 : μ1 313 (tcp t) = nI (c + 1)) (e2 : v' → ∀ i, i < tst t → μ1 313 (tbs t + tst t * c + i) = row i) (e3 : ∀ i, i ≠ tcp t → (i < tbs t + tst t * c ∨ tbs t + tst t * c + tst t ≤ i) → μ1 313 i = μ 313 i) : MR s v' μ1 (updR t row R) := by
  have ho := tro_ok t ht
  have hm2 := mul_row (s := tst t) hc2
  refine ⟨fun t' ht' hts' => ?_, fun z i hi => ?_⟩
  · by_cases e : t' = t
    · subst e
      exact ⟨c + 1, by omega, updR_cp hc, e1⟩
    · obtain ⟨⟨d1, d2, d3, d4⟩, ⟨d5, d6, d7, d8, d9⟩, d10⟩ := tro_two t ht t' ht' (by rw [hts, hts']) (fun w => e w.symm)
      obtain ⟨c', k1, k2, k3⟩ := h.1 t' ht' hts'
      exact ⟨c', k1, by rw [updR_old hc (by omega) d5 (Or.inl (by omega))]; exact k2, by rw [e3 _ d5 (Or.inl (by omega))]; exact k3⟩
  · by_cases i1 : i = tcp t
    · rw [i1, e1, updR_cp hc]
    · by_cases i2 : tbs t + tst t * c ≤ i ∧ i < tbs t + tst t * c + tst t
      · obtain ⟨j, rfl⟩ : ∃ j, i = tbs t + tst t * c + j := ⟨i - (tbs t + tst t * c), by omega⟩
        rw [e2 z j (by omega), updR_new ht hc (by omega) (by omega)]
      · rw [e3 i i1 (by omega), updR_old hc (by omega) i1 (by omega)]
        exact h.2 (hv z) i hi
theorem addsM {t : Nat} {v v' : Prop} {row : Nat → Int32} {y1 y2 y3 m : Int32} (h : MR s v μ R) (ht : t = 5 ∨ t = 8) (hts : tsr t = s) (hv : v' → v) (hm : m = nI (tmx t)) (hrow : v' → ∀ i, i < 3 → row i = if i = 0 then y1 else if i = 1 then y2 else y3) :
    wp (f_X12_adds 310 m y1 y2 y3 μ) (fun μ' => MR s v' μ' (if tmx t ≤ (R (tcp t)).toNatClampNeg then R else updR t row R) ∧ ∀ o, o ≠ 313 → μ' o = μ o) := by
  have ht9 : t < 9 := by omega
  have hcp : tcp t = 0 := by rcases ht with rfl | rfl <;> rfl
  have hbs : tbs t = 1 := by rcases ht with rfl | rfl <;> rfl
  have hst : tst t = 3 := by rcases ht with rfl | rfl <;> rfl
  have hmx : tmx t ≤ 40 := (tro_ok t ht9).1.2.1
  obtain ⟨c, c1, c2, c3⟩ := h.1 t ht9 hts
  rw [hcp] at c3
  have c3' : μ (310 + 3) 0 = nI c := c3
  subst hm
  unfold f_X12_adds
  rw [c3', c2, nI_clamp (by omega)]
  by_cases hf : tmx t ≤ c
  · rw [if_pos hf]
    exact wp_ie (nI_nlt hf (by omega)) (wp_some ⟨h.mono hv, fun _ _ => rfl⟩)
  · rw [if_neg hf]
    refine wp_it (nI_lt (by omega) (by omega)) ?_
    have e : ∀ k : Nat, nI k + (3 : Int32) * nI c = nI (k + 3 * c) := fun k => lin1 k 3 c
    rw [show (1 : Int32) + (3 : Int32) * nI c = nI (1 + 3 * c) from e 1, nI_clamp (by omega)]
    refine wp_g (zin_nI (by omega) (by omega)) (wp_u fun μ1 u1 => ?_)
    have a1 : ∀ j, j ≠ 1 + 3 * c → μ1 313 j = μ 313 j := u1.2.2
    have g1 : μ1 (310 + 3) 0 = nI c := (a1 0 (by omega)).trans c3
    rw [g1, show (2 : Int32) + (3 : Int32) * nI c = nI (2 + 3 * c) from e 2, nI_clamp (by omega)]
    refine wp_g (zin_nI (by omega) (by omega)) (wp_u fun μ2 u2 => ?_)
    have a2 : ∀ j, j ≠ 2 + 3 * c → μ2 313 j = μ1 313 j := u2.2.2
    have g2 : μ2 (310 + 3) 0 = nI c := (a2 0 (by omega)).trans g1
    rw [g2, show (3 : Int32) + (3 : Int32) * nI c = nI (3 + 3 * c) from e 3, nI_clamp (by omega)]
    refine wp_g (zin_nI (by omega) (by omega)) (wp_u fun μ3 u3 => ?_)
    have a3 : ∀ j, j ≠ 3 + 3 * c → μ3 313 j = μ2 313 j := u3.2.2
    have g3 : μ3 (310 + 3) 0 = nI c := (a3 0 (by omega)).trans g2
    refine wp_u fun μ4 u4 => wp_some ⟨h.add ht9 hts c2 (by omega) hv ?_ (fun z i hi => ?_) (fun i i1 i2 => ?_), fun o ho => ?_⟩
    · rw [hcp]
      have : μ4 313 0 = μ3 (310 + 3) 0 + 1 := u4.1
      rw [this, g3]
      exact nI_1 c
    · rw [hbs, hst]
      rw [hst] at hi
      have a4 : ∀ j, j ≠ 0 → μ4 313 j = μ3 313 j := u4.2.2
      have b1 : μ1 313 (1 + 3 * c) = y1 := u1.1
      have b2 : μ2 313 (2 + 3 * c) = y2 := u2.1
      have b3 : μ3 313 (3 + 3 * c) = y3 := u3.1
      rw [a4 _ (by omega), hrow z i hi]
      have : i = 0 ∨ i = 1 ∨ i = 2 := by omega
      rcases this with rfl | rfl | rfl
      · rw [if_pos rfl, a3 _ (by omega), a2 _ (by omega)]
        exact b1
      · rw [if_neg (by omega), if_pos rfl, a3 _ (by omega), show 1 + 3 * c + 1 = 2 + 3 * c by omega]
        exact b2
      · rw [if_neg (by omega), if_neg (by omega), show 1 + 3 * c + 2 = 3 + 3 * c by omega]
        exact b3
    · rw [hcp] at i1
      rw [hbs, hst] at i2
      have a4 : ∀ j, j ≠ 0 → μ4 313 j = μ3 313 j := u4.2.2
      rw [a4 i i1, a3 i (by omega), a2 i (by omega), a1 i (by omega)]
    · rw [u4.2.1 o ho, u3.2.1 o ho, u2.2.1 o ho, u1.2.1 o ho]
def biT : List Nat := [0, 0, 0, 0, 0, 0, 0, 0, 4, 8, 10, 16, 0, 0, 0, 0, 0, 0, 0, 0, 0, 0, 20]
def bi (w : Nat) : Nat := biT.getD w 0
theorem further_ok : ∀ w, w < 23 → ((w < 7 ∨ 12 ≤ w) ∧ w ≠ 22) ∨ ((kt w < 9 ∧ tst (kt w) = wnum w) ∧ (wsr w ≠ 1 ∧ wsr w ≠ 4 ∧ tsr (kt w) = wsr w) ∧ ∀ k, k < wnum w → zBND.getD (bi w + 2 * k) 0 = nI (bd w k / 1000) ∧ zBND.getD (bi w + 2 * k + 1) 0 = nI (bd w k % 1000) ∧ bi w + 2 * k + 1 < 24 ∧ bd w k / 1000 ≤ bd w k % 1000) := by decide +kernel
theorem furtherM {v1 v2 v3 v4 v5 v6 : Int32} {a : Nat} (hw : (7 ≤ w ∧ w < 12) ∨ w = 22) (hs : wsr w = s) (h : MS b n (F, tB b n p) μ) (h1 : F.1 ≠ 1) (hp : p ≤ n) (hR : MR s (F.1 = 0) μ R) (ha : a ≤ 600) (e1 : v1 = nI a) (e2 : v2 = nI (tcp (kt w))) (e3 : v3 = nI (tmx (kt w))) (e4 : v4 = nI (tbs (kt w))) (e5 : v5 = nI (wnum w)) (e6 : v6 = nI (bi w)) :
    wp (f_X12_further 310 v1 v2 v3 v4 v5 v6 μ) (fun μ' => MS b n (lnS b n w p (wnum w) (if fullW w R = true then nt F 3 a else F, tB b n p)) μ' ∧ ((lnS b n w p (wnum w) (if fullW w R = true then nt F 3 a else F, tB b n p)).1.1 ≠ 1 → MR s ((lnS b n w p (wnum w) (if fullW w R = true then nt F 3 a else F, tB b n p)).1.1 = 0) μ' (if fullW w R = true then R else updW w (nvS b n w p 0) R)) ∧ FLm μ μ') := by
  subst e1 e2 e3 e4 e5 e6
  obtain ⟨⟨k1, k2⟩, ⟨k3, k4, k5⟩, k6⟩ := (further_ok w (by omega)).resolve_left (by omega)
  obtain ⟨⟨z1, z2, -⟩, ⟨z3, z4, z5, z6⟩, -⟩ := tro_ok (kt w) k1
  obtain ⟨c, c1, c2, c3⟩ := hR.1 (kt w) k1 (by rw [k5, hs])
  have hfull : fullW w R = true ↔ tmx (kt w) ≤ c := by
    unfold fullW
    rw [decide_eq_true_eq, c2, nI_clamp (by omega)]
    omega
  have c3' : μ (310 + 3) (tcp (kt w)) = nI c := c3
  unfold f_X12_further
  rw [nI_clamp (by omega), c3']
  refine wp_g (zin_nI (by omega) (by omega)) (wp_l fun x4 h4 => wp_l fun μ8 h8 => wp_l fun x9 h9 => ?_)
  have hx4 : x4 = if fullW w R = true then 0 else 1 := by
    rw [h4]
    by_cases hf : fullW w R = true
    · rw [if_pos hf, if_pos (nI_le (hfull.mp hf) (by omega))]
    · rw [if_neg hf, if_neg (nI_ge (Nat.lt_of_not_le fun z => hf (hfull.mpr z)) (by omega))]
  have h8' : MS b n (if fullW w R = true then nt F 3 a else F, tB b n p) μ8 ∧ FRs μ μ8 := by
    rw [hx4] at h8
    by_cases hf : fullW w R = true
    · rw [if_pos hf, if_neg (fun z => z rfl)] at h8
      have h8 : μ8 = f_X12_also 310 3 (nI a) μ := h8
      obtain ⟨a1, a2⟩ := alsoM (k := 3) (v := 3) (a := a) (u := nI a) h.2.1 h1 (by omega) ha rfl rfl
      rw [← h8] at a1 a2
      rw [if_pos hf]
      exact ⟨h.fs a1 a2 h1, fun o o1 o2 => a2.1 o o2, a2.2⟩
    · rw [if_neg hf, if_pos (by decide)] at h8
      rw [if_neg hf, h8]
      exact ⟨h, FRs.rf μ⟩
  generalize hF1 : (if fullW w R = true then nt F 3 a else F) = F1 at h8' ⊢
  obtain ⟨m8, f8⟩ := h8'
  have r8 : ∀ i, μ8 313 i = μ 313 i := fun i => by rw [f8.1 313 (by omega) (by omega)]
  have hx9 : x9 = nI (tbs (kt w) + tst (kt w) * c) := by
    rw [h9]
    have : μ8 (310 + 3) (tcp (kt w)) = nI c := (r8 _).trans c3
    rw [this, ← k2]
    exact lin1 _ _ _
  have hloop : ∀ d k m (μ1 : zM), k + d = wnum w → 3 < m + k → MS b n (lnS b n w p k (F1, tB b n p)) μ1 → FLm μ μ1 → (∀ i, (fullW w R = true ∨ i < tbs (kt w) + tst (kt w) * c ∨ tbs (kt w) + tst (kt w) * c + k ≤ i) → μ1 313 i = μ 313 i) → ((lnS b n w p k (F1, tB b n p)).1.1 = 0 → ¬ fullW w R = true → ∀ i, i < k → μ1 313 (tbs (kt w) + tst (kt w) * c + i) = nI (tN b n (qs b n p i))) →
      wp (f_X12_further_L45 310 (nI (tcp (kt w))) (nI (wnum w)) (nI (bi w)) x4 x9 m (nI k) μ1) (fun μ' => MS b n (lnS b n w p (wnum w) (F1, tB b n p)) μ' ∧ FLm μ μ' ∧ (∀ i, (fullW w R = true ∨ i < tbs (kt w) + tst (kt w) * c ∨ tbs (kt w) + tst (kt w) * c + wnum w ≤ i) → μ' 313 i = μ 313 i) ∧ ((lnS b n w p (wnum w) (F1, tB b n p)).1.1 = 0 → ¬ fullW w R = true → ∀ i, i < wnum w → μ' 313 (tbs (kt w) + tst (kt w) * c + i) = nI (tN b n (qs b n p i)))) := by
    intro d
    induction d with
    | zero =>
      intro k m μ1 hk hm i1 i2 i3 i4
      obtain ⟨m, rfl⟩ : ∃ m', m = m' + 1 := ⟨m - 1, by omega⟩
      have hk' : k = wnum w := by omega
      subst hk'
      rw [f_X12_further_L45]
      exact wp_it (nI_le (Nat.le_refl _) (by omega)) (wp_some ⟨i1, i2, i3, i4⟩)
    | succ d ih =>
      intro k m μ1 hk hm i1 i2 i3 i4
      obtain ⟨m, rfl⟩ : ∃ m', m = m' + 1 := ⟨m - 1, by omega⟩
      have hkw : k < wnum w := by omega
      obtain ⟨b1, b2, b3, b4⟩ := k6 k hkw
      rw [f_X12_further_L45, show nI (bi w) + (2 : Int32) * nI k = nI (bi w + 2 * k) from lin1 _ 2 _, nI_1, nI_clamp (by omega), nI_clamp (by omega), b1, b2]
      refine wp_ie (nI_ge hkw (by omega)) (wp_g (zin_nI (by omega) (by omega)) (wp_g (zin_nI (by omega) (by omega)) (wp_bd2Q (numW (w := w) (k := k) (p := p) i1 rfl rfl rfl rfl b4 (by omega)) fun r μ2 ⟨a1, ⟨cv, a2, a3, a4, a5⟩, a6⟩ => ?_)))
      have a2 : r = nI cv := a2
      have a1 : MS b n (lnS b n w p (k + 1) (F1, tB b n p)) μ2 := a1
      have a5 : (lnS b n w p (k + 1) (F1, tB b n p)).1.1 = 0 → cv = tN b n (lnS b n w p k (F1, tB b n p)).2 := a5
      have a6 : FRs μ1 μ2 := a6
      have r2 : ∀ i, μ2 313 i = μ1 313 i := fun i => by rw [a6.1 313 (by omega) (by omega)]
      have hF0 : (lnS b n w p (k + 1) (F1, tB b n p)).1.1 = 0 → (lnS b n w p k (F1, tB b n p)).1.1 = 0 := by
        intro z
        have z : (numS b n (wok b n w k p) (lnS b n w p k (F1, tB b n p))).1.1 = 0 := z
        by_cases q1 : (lnS b n w p k (F1, tB b n p)).1.1 = 1
        · rw [numS_1 q1] at z
          exact z
        · by_cases q2 : tK b n (lnS b n w p k (F1, tB b n p)).2 = 2
          · rw [numS_y q1 q2] at z
            have z : (if wok b n w k p (lnS b n w p k (F1, tB b n p)).2 = true then (lnS b n w p k (F1, tB b n p)).1 else nt (lnS b n w p k (F1, tB b n p)).1 2 (tF b n (lnS b n w p k (F1, tB b n p)).2)).1 = 0 := z
            split at z
            · exact z
            · exact absurd z (nt_ne0 (by omega))
          · rw [numS_n q1 q2] at z
            cases z
      rw [hx4]
      by_cases hf : fullW w R = true
      · rw [if_pos hf]
        refine wp_bd (wp_it rfl (wp_some (wp_ls ?_)))
        rw [nI_1]
        rw [hx4, if_pos hf] at ih
        exact ih (k + 1) m μ2 (by omega) (by omega) a1 (i2.tr a6.fl) (fun i _ => (r2 i).trans (i3 i (Or.inl hf))) (fun _ z => absurd hf z)
      · have hm := mul_row (s := tst (kt w)) (show c < tmx (kt w) from Nat.lt_of_not_le fun z => hf (hfull.mpr z))
        rw [if_neg hf, hx9, nI_add, nI_clamp (by omega)]
        refine wp_bd (wp_ie (by decide) (wp_g (zin_nI (by omega) (by omega)) (wp_u fun μ3 u3 => wp_some (wp_ls ?_))))
        rw [nI_1]
        rw [hx4, if_neg hf, hx9] at ih
        have w1 : μ3 313 (tbs (kt w) + tst (kt w) * c + k) = r := u3.1
        have w2 : ∀ o, o ≠ 313 → μ3 o = μ2 o := u3.2.1
        have w3 : ∀ j, j ≠ tbs (kt w) + tst (kt w) * c + k → μ3 313 j = μ2 313 j := u3.2.2
        refine ih (k + 1) m μ3 (by omega) (by omega) (a1.o13 w2) ((i2.tr a6.fl).tr (FRs.u13 u3)) (fun i hi => ?_) (fun z _ i hi => ?_)
        · have hi' := hi.resolve_left hf
          rw [w3 i (by omega), r2, i3 i (Or.inr (by omega))]
        · by_cases hik : i = k
          · rw [hik, w1, a2, a5 z, (lnS_pos k (by rw [hF0 z]; omega)).1]
          · rw [w3 _ (by omega), r2]
            exact i4 (hF0 z) hf i (by omega)
  refine wp_bdQ (hloop (wnum w) 0 zFU μ8 (by omega) (by unfold zFU; omega) m8 f8.fl (fun i _ => r8 i) (fun _ _ i hi => absurd hi (by omega))) fun μ9 ⟨l1, l2, l3, l4⟩ => wp_l fun μ10 h10 => wp_some ?_
  rw [hx4] at h10
  by_cases hf : fullW w R = true
  · rw [if_pos hf, if_pos rfl] at h10
    rw [if_pos hf, h10]
    refine ⟨l1, fun q => ⟨fun t ht hts => ?_, fun z => ?_⟩, l2⟩
    · obtain ⟨c', d1, d2, d3⟩ := hR.1 t ht hts
      exact ⟨c', d1, d2, by rw [l3 _ (Or.inl hf)]; exact d3⟩
    · have := (lnS_0 _ z).1
      rw [← hF1, if_pos hf] at this
      exact absurd this (nt_ne0 (by omega))
  · rw [if_neg hf, if_neg (by decide)] at h10
    have e9 : μ9 (310 + 3) (tcp (kt w)) = nI c := (l3 _ (Or.inr (Or.inl (by omega)))).trans c3
    rw [e9] at h10
    have u10 : U1 313 (tcp (kt w)) (nI c + 1) μ9 μ10 := by
      rw [h10]
      exact zup_U1 313 (tcp (kt w)) (nI c + 1) μ9
    have hF1' : F1 = F := by rw [← hF1, if_neg hf]
    rw [if_neg hf]
    refine ⟨l1.o13 u10.2.1, fun q => ?_, l2.tr (FRs.u13 u10)⟩
    unfold updW
    rw [if_neg (by omega)]
    refine hR.add k1 (by rw [k5, hs]) c2 (Nat.lt_of_not_le fun z => hf (hfull.mpr z)) (fun z => ?_) ?_ (fun z i hi => ?_) (fun i i1 i2 => ?_)
    · have := (lnS_0 _ z).1
      rw [hF1'] at this
      exact this
    · rw [u10.1]
      exact nI_1 c
    · rw [k2] at hi
      rw [u10.2.2 _ (by omega), l4 z hf i hi]
      unfold rowWd nvS
      rw [if_neg (fun q => q.elim k3 k4), if_neg (by omega), if_pos hi]
    · rw [u10.2.2 i i1, l3 i (Or.inr (by rw [← k2]; exact i2))]
end RTOK
