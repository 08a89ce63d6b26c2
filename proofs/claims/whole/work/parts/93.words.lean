/-! TEXTS: which word it is; the reference's look -/
def wtab : List (Nat × Nat) := [(394597, 1), (591060, 2), (52, 3), (20587718, 4), (149543, 5), (6700084, 6), (605291, 7), (7931589, 8), (790791816, 9), (14484584626, 10), (398379, 11), (88571385427, 12), (20579780, 13), (12748485, 14), (763332, 15), (99725, 16), (6897268, 17), (663607, 18), (441842, 19), (99956, 20), (66860, 21), (8902227, 22), (12345, 23), (136228, 24), (403060, 25), (21484648, 26), (24170674, 27), (15492, 28), (441972, 29)]
def lk : List (Nat × Nat) → Nat → Nat
  | [], _ => 99
  | e :: t, v => if v = e.1 then e.2 else lk t v
/-- the code of the letters of the token at p -/
def tW (b : Nat → Nat) (n p : Nat) : Nat := if tB b n p - tF b n p ≤ 8 then lk wtab (pkw b (tF b n p) (tB b n p - tF b n p)) else 99
def wrcT : List Nat := [1, 2, 3, 4, 5, 6, 12, 7, 8, 9, 10, 11, 13, 14, 15, 16, 17, 18, 19, 20, 21, 22, 23, 24, 8, 25, 26, 27, 28, 29]
def wsrT : List Nat := [0, 0, 0, 0, 0, 0, 0, 0, 0, 0, 0, 0, 1, 1, 1, 1, 1, 1, 1, 1, 1, 1, 2, 3, 4, 4, 4, 4, 4, 4]
/-- the code of the class's word, and its sort -/
def wrc (u : Nat) : Nat := wrcT.getD u 0
def wsr (u : Nat) : Nat := wsrT.getD u 9
def ltk (u i : Nat) : Nat := ((zWl u).getD i 0).toNatClampNeg
theorem lN_inj {a c : Nat} (ha : a < 2 ^ 62) (hc : c < 2 ^ 62) : lN a = lN c ↔ a = c := by
  constructor
  · intro w
    have := congrArg Int64.toInt w
    rw [show (lN a).toInt = (a : Int) from lg_ofNat_toInt (by omega), show (lN c).toInt = (c : Int) from lg_ofNat_toInt (by omega)] at this
    omega
  · intro w
    rw [w]
theorem wstep {v K c : Nat} {t : List (Nat × Nat)} {e : Int64} {x : Int32} (he : e = lN K) (hv : v < 2 ^ 62) (hK : K < 2 ^ 62) (hx : x = nI (lk t v)) : (if ¬ lg_cmp (lN v) e = 0 then x else nI c) = nI (lk ((K, c) :: t) v) := by
  subst he
  show _ = nI (if v = K then c else lk t v)
  by_cases h : v = K
  · rw [if_pos h, if_neg (fun w => w ((lg_cmp_eq _ _).mpr (by rw [h])))]
  · rw [if_neg h, if_pos (fun w => h ((lN_inj hv hK).mp ((lg_cmp_eq _ _).mp w)))]
    exact hx
theorem otherM {v : Nat} (hv : v < 2 ^ 62) : f_X12_otherWord (lN v) = nI (lk [(20579780, 13), (12748485, 14), (763332, 15), (99725, 16), (6897268, 17), (663607, 18), (441842, 19), (99956, 20), (66860, 21), (8902227, 22), (12345, 23), (136228, 24), (403060, 25), (21484648, 26), (24170674, 27), (15492, 28), (441972, 29)] v) := by
  unfold f_X12_otherWord
  refine wstep (K := 20579780) (c := 13) (by decide +kernel) hv (by decide) ?_
  refine wstep (K := 12748485) (c := 14) (by decide +kernel) hv (by decide) ?_
  refine wstep (K := 763332) (c := 15) (by decide +kernel) hv (by decide) ?_
  refine wstep (K := 99725) (c := 16) (by decide +kernel) hv (by decide) ?_
  refine wstep (K := 6897268) (c := 17) (by decide +kernel) hv (by decide) ?_
  refine wstep (K := 663607) (c := 18) (by decide +kernel) hv (by decide) ?_
  refine wstep (K := 441842) (c := 19) (by decide +kernel) hv (by decide) ?_
  refine wstep (K := 99956) (c := 20) (by decide +kernel) hv (by decide) ?_
  refine wstep (K := 66860) (c := 21) (by decide +kernel) hv (by decide) ?_
  refine wstep (K := 8902227) (c := 22) (by decide +kernel) hv (by decide) ?_
  refine wstep (K := 12345) (c := 23) (by decide +kernel) hv (by decide) ?_
  refine wstep (K := 136228) (c := 24) (by decide +kernel) hv (by decide) ?_
  refine wstep (K := 403060) (c := 25) (by decide +kernel) hv (by decide) ?_
  refine wstep (K := 21484648) (c := 26) (by decide +kernel) hv (by decide) ?_
  refine wstep (K := 24170674) (c := 27) (by decide +kernel) hv (by decide) ?_
  refine wstep (K := 15492) (c := 28) (by decide +kernel) hv (by decide) ?_
  show (if ¬ lg_cmp (lN v) (f_X12_four (13 : Int32) (15 : Int32) (19 : Int32) (20 : Int32)) = 0 then (99 : Int32) else nI 29) = _
  refine wstep (K := 441972) (c := 29) (by decide +kernel) hv (by decide) ?_
  rfl
theorem wordM {v : Nat} (hv : v < 2 ^ 62) : f_X12_wordOf (lN v) = nI (lk wtab v) := by
  unfold f_X12_wordOf wtab
  refine wstep (K := 394597) (c := 1) (by decide +kernel) hv (by decide) ?_
  refine wstep (K := 591060) (c := 2) (by decide +kernel) hv (by decide) ?_
  refine wstep (K := 52) (c := 3) (by decide +kernel) hv (by decide) ?_
  refine wstep (K := 20587718) (c := 4) (by decide +kernel) hv (by decide) ?_
  refine wstep (K := 149543) (c := 5) (by decide +kernel) hv (by decide) ?_
  refine wstep (K := 6700084) (c := 6) (by decide +kernel) hv (by decide) ?_
  refine wstep (K := 605291) (c := 7) (by decide +kernel) hv (by decide) ?_
  refine wstep (K := 7931589) (c := 8) (by decide +kernel) hv (by decide) ?_
  refine wstep (K := 790791816) (c := 9) (by decide +kernel) hv (by decide) ?_
  refine wstep (K := 14484584626) (c := 10) (by decide +kernel) hv (by decide) ?_
  refine wstep (K := 398379) (c := 11) (by decide +kernel) hv (by decide) ?_
  refine wstep (K := 88571385427) (c := 12) (by decide +kernel) hv (by decide) ?_
  exact otherM hv
theorem pkw_congr {b c : Nat → Nat} {f g : Nat} : ∀ k, (∀ i, i < k → b (f + i) = c (g + i)) → pkw b f k = pkw c g k
  | 0, _ => rfl
  | k + 1, h => by
    show 32 * pkw b f k + (b (f + k) - 96) = 32 * pkw c g k + (c (g + k) - 96)
    rw [pkw_congr k (fun i hi => h i (by omega)), h k (by omega)]
theorem pkw_inj {b c : Nat → Nat} {f g : Nat} : ∀ k m, (∀ i, i < k → 97 ≤ b (f + i) ∧ b (f + i) ≤ 122) → (∀ i, i < m → 97 ≤ c (g + i) ∧ c (g + i) ≤ 122) → pkw b f k = pkw c g m → k = m ∧ ∀ i, i < k → b (f + i) = c (g + i)
  | 0, 0, _, _, _ => ⟨rfl, fun i hi => absurd hi (by omega)⟩
  | 0, m + 1, _, h2, h => by
    have h : 0 = 32 * pkw c g m + (c (g + m) - 96) := h
    have := h2 m (by omega)
    omega
  | k + 1, 0, h1, _, h => by
    have h : 32 * pkw b f k + (b (f + k) - 96) = 0 := h
    have := h1 k (by omega)
    omega
  | k + 1, m + 1, h1, h2, h => by
    have h : 32 * pkw b f k + (b (f + k) - 96) = 32 * pkw c g m + (c (g + m) - 96) := h
    have a1 := h1 k (by omega)
    have a2 := h2 m (by omega)
    obtain ⟨e1, e2⟩ := pkw_inj k m (fun i hi => h1 i (by omega)) (fun i hi => h2 i (by omega)) (by omega)
    subst e1
    refine ⟨rfl, fun i hi => ?_⟩
    by_cases hk : i = k
    · subst hk
      omega
    · exact e2 i (by omega)
theorem pkw_lt {b : Nat → Nat} (hb : ∀ i, b i < 256) {f : Nat} : ∀ k, k ≤ 8 → pkw b f k < 2 ^ (6 * k + 8)
  | 0, _ => by
    show (0 : Nat) < _
    exact Nat.two_pow_pos _
  | k + 1, hk => by
    have ih := pkw_lt hb (f := f) k (by omega)
    have h0 := hb (f + k)
    show 32 * pkw b f k + (b (f + k) - 96) < _
    rw [show 6 * (k + 1) + 8 = 6 * k + 8 + 6 by omega, Nat.pow_add]
    have h8 : 2 ^ 8 ≤ 2 ^ (6 * k + 8) := Nat.pow_le_pow_right (by omega) (by omega)
    omega
theorem pkw_62 {b : Nat → Nat} (hb : ∀ i, b i < 256) {f k : Nat} (hk : k ≤ 8) : pkw b f k < 2 ^ 62 := Nat.lt_of_lt_of_le (pkw_lt hb k hk) (Nat.pow_le_pow_right (by omega) (by omega))
theorem lk_mem {c : Nat} (hc : c ≠ 99) {v : Nat} : ∀ t, lk t v = c → (v, c) ∈ t
  | [], h => absurd h.symm hc
  | e :: t, h => by
    have h : (if v = e.1 then e.2 else lk t v) = c := h
    by_cases w : v = e.1
    · rw [if_pos w] at h
      have : e = (v, c) := by rw [w, ← h]
      rw [this]
      exact List.mem_cons_self
    · rw [if_neg w] at h
      exact List.mem_cons_of_mem _ (lk_mem hc t h)
theorem ltk_ok : ∀ u, u < 30 → ∀ i, i < (zWl u).length → (zWl u).getD i 0 = nI (ltk u i) ∧ 97 ≤ ltk u i ∧ ltk u i ≤ 122 := by decide +kernel
theorem ltk_len : ∀ u, u < 30 → (zWl u).length ≤ 8 := by decide +kernel
theorem ltk_lk : ∀ u, u < 30 → lk wtab (pkw (ltk u) 0 (zWl u).length) = wrc u ∧ wrc u ≠ 99 := by decide +kernel
theorem ltk_un : ∀ u, u < 30 → ∀ e, e ∈ wtab → e.2 = wrc u → e.1 = pkw (ltk u) 0 (zWl u).length := by decide +kernel
theorem wsr_ok : ∀ u, u < 30 → f_X10_sort u = nI (wsr u) := by decide +kernel
theorem wsr_lt : ∀ u, u < 30 → wsr u < 5 := by decide +kernel
/-- the first word from k on of a sort and a code -/
def wf (s c : Nat) : Nat → Nat → Option Nat
  | 0, _ => none
  | j + 1, k => if wsr k = s ∧ wrc k = c then some k else wf s c j (k + 1)
def wsel (b : Nat → Nat) (n s p : Nat) : Option Nat := if tK b n p = 1 then wf s (tW b n p) 30 0 else none
theorem wf_some {s c w : Nat} : ∀ j k, j + k = 30 → wf s c j k = some w → w < 30 ∧ wsr w = s ∧ wrc w = c
  | 0, k, _, h => by cases h
  | j + 1, k, hj, h => by
    have h : (if wsr k = s ∧ wrc k = c then some k else wf s c j (k + 1)) = some w := h
    by_cases q : wsr k = s ∧ wrc k = c
    · rw [if_pos q] at h
      cases h
      exact ⟨by omega, q⟩
    · rw [if_neg q] at h
      exact wf_some j (k + 1) (by omega) h
theorem wf_none {s c : Nat} : ∀ j k, j + k = 30 → wf s c j k = none → ∀ w, k ≤ w → w < 30 → ¬ (wsr w = s ∧ wrc w = c)
  | 0, k, hk, _, w, h1, h2 => by omega
  | j + 1, k, hj, h, w, h1, h2 => by
    have h : (if wsr k = s ∧ wrc k = c then some k else wf s c j (k + 1)) = none := h
    by_cases q : wsr k = s ∧ wrc k = c
    · rw [if_pos q] at h
      cases h
    · rw [if_neg q] at h
      by_cases hw : w = k
      · rw [hw]
        exact q
      · exact wf_none j (k + 1) (by omega) h w (by omega) h2
section WORDS
variable {b : Nat → Nat} {n p : Nat} {μ μ' : zM}
theorem tK1 (h : tK b n p = 1) : tF b n p < n ∧ tB b n p = adv (isL b) n n (tF b n p) := by
  have hl : tF b n p < n := tK_lt (by omega)
  unfold tK at h
  rw [if_pos hl] at h
  by_cases hL : isL b (tF b n p) = true
  · refine ⟨hl, ?_⟩
    unfold tB
    rw [if_pos hl, if_pos hL]
  · rw [if_neg hL] at h
    split at h
    · split at h <;> omega
    · split at h <;> omega
theorem tK1_let (h : tK b n p = 1) : ∀ i, i < tB b n p - tF b n p → 97 ≤ b (tF b n p + i) ∧ b (tF b n p + i) ≤ 122 := by
  intro i hi
  have := (tK1 h).2
  exact isL_iff.mp (adv_in (isL b) n n (tF b n p) (tF b n p + i) (by omega) (by omega)).2
theorem spell_iff {u : Nat} (hu : u < 30) (h : tK b n p = 1) : ((zWl u).length = tB b n p - tF b n p ∧ ∀ i, i < (zWl u).length → ltk u i = b (tF b n p + i)) ↔ tW b n p = wrc u := by
  constructor
  · rintro ⟨h1, h2⟩
    have h8 := ltk_len u hu
    unfold tW
    rw [if_pos (by omega), ← h1, pkw_congr (c := ltk u) (g := 0) (zWl u).length (fun i hi => by rw [Nat.zero_add]; exact (h2 i hi).symm)]
    exact (ltk_lk u hu).1
  · intro w
    have hn := (ltk_lk u hu).2
    unfold tW at w
    by_cases h8 : tB b n p - tF b n p ≤ 8
    · rw [if_pos h8] at w
      have e := ltk_un u hu _ (lk_mem hn _ w) rfl
      obtain ⟨e1, e2⟩ := pkw_inj _ _ (tK1_let h) (fun i hi => by rw [Nat.zero_add]; exact (ltk_ok u hu i hi).2) e
      refine ⟨e1.symm, fun i hi => ?_⟩
      have := e2 i (by omega)
      rw [Nat.zero_add] at this
      exact this.symm
    · rw [if_neg h8] at w
      exact absurd w.symm hn
theorem spelledC {u : Nat} (hu : u < 30) (h : TX b n μ) (hT : TC b n p μ) (hp : p ≤ n) (hk : tK b n p = 1) : f_X5_isSpelled 58 u μ = some (b2i (decide (tW b n p = wrc u))) := by
  have hn := h.1.1
  have hb := h.1.2
  have hfb := tB_ge (b := b) (n := n) (p := p)
  have hbl := tB_le (b := b) hp
  have hlen := ltk_len u hu
  refine wp_eq ?_
  unfold f_X5_isSpelled
  rw [hT.2.1, hT.2.2.1, pk_sub hfb]
  by_cases hl : (zWl u).length = tB b n p - tF b n p
  · refine wp_it (show nI (zWl u).length = _ by rw [hl]) ?_
    have hloop : wp (f_X5_isSpelled_L20 58 u μ zFU 0) (fun r => r = .inl 0 ∧ (¬ ∀ i, i < (zWl u).length → ltk u i = b (tF b n p + i)) ∨ r = .inr () ∧ ∀ i, i < (zWl u).length → ltk u i = b (tF b n p + i)) := by
      refine wlp0 (fun n' k (_ : Unit) => f_X5_isSpelled_L20 58 u μ n' (nI k)) _ (zWl u).length (fun k _ => ∀ i, i < k → ltk u i = b (tF b n p + i)) (by omega) () (fun i hi => absurd hi (by omega)) ?_ ?_
      · intro m k _ hk' hI ih
        show wp (f_X5_isSpelled_L20 58 u μ (m + 1) (nI k)) _
        rw [f_X5_isSpelled_L20, hT.2.1]
        refine wp_ie (show ¬ nI (zWl u).length ≤ nI k from nI_ge hk' (by omega)) (wp_g (zin_nI hk' (by omega)) (wp_bdE (byteAtC h (nI_add _ _) (by omega)) ?_))
        rw [nI_clamp (by omega), (ltk_ok u hu k hk').1]
        have l1 := (ltk_ok u hu k hk').2
        have l2 := hb (tF b n p + k)
        by_cases e : ltk u k = b (tF b n p + k)
        · refine wp_it (by rw [e]) (wp_ls ?_)
          rw [nI_1]
          refine ih () fun i hi => ?_
          by_cases hik : i = k
          · rw [hik]
            exact e
          · exact hI i (by omega)
        · exact wp_ie (fun w => e ((nI_eq (by omega) (by omega)).mp w)) (wp_some (Or.inl ⟨rfl, fun w => e (w k hk')⟩))
      · intro m _ hI
        show wp (f_X5_isSpelled_L20 58 u μ (m + 1) (nI (zWl u).length)) _
        rw [f_X5_isSpelled_L20]
        exact wp_it (show nI (zWl u).length ≤ nI (zWl u).length from nI_le (Nat.le_refl _) (by omega)) (wp_some (Or.inr ⟨rfl, hI⟩))
    refine wp_bdQ hloop fun v hv => ?_
    rcases hv with ⟨rfl, e⟩ | ⟨rfl, e⟩
    · refine wp_suml (wp_some ?_)
      rw [decide_eq_false (fun w => e ((spell_iff hu hk).mpr w).2)]
      rfl
    · refine wp_sumr (wp_some ?_)
      rw [decide_eq_true ((spell_iff hu hk).mp ⟨hl, e⟩)]
      rfl
  · refine wp_ie (fun w => hl ((nI_eq (by omega) (by omega)).mp w)) (wp_some ?_)
    rw [decide_eq_false (fun w => hl ((spell_iff hu hk).mpr w).1)]
    rfl
theorem wordOfC {s : Nat} (hs : s < 5) (h : TX b n μ) (hT : TC b n p μ) (hp : p ≤ n) : f_X5_wordOf 58 (nI s) μ = some (wsel b n s p) := by
  have hk4 := tK_le (b := b) (n := n) (p := p)
  refine wp_eq ?_
  unfold f_X5_wordOf wsel
  rw [hT.1]
  by_cases hk : tK b n p = 1
  · rw [if_pos hk]
    refine wp_it (by rw [hk]; rfl) ?_
    have hloop : ∀ j k m, j + k = 30 → j < m → wp (f_X5_wordOf_L12 58 (nI s) μ m (nI k)) (fun r => r = match wf s (tW b n p) j k with | some w => .inl (some w) | none => .inr ()) := by
      intro j
      induction j with
      | zero =>
        intro k m hj hm
        obtain ⟨m, rfl⟩ : ∃ m', m = m' + 1 := ⟨m - 1, by omega⟩
        rw [f_X5_wordOf_L12]
        exact wp_it (show nI 30 ≤ nI k from nI_le (by omega) (by omega)) (wp_some rfl)
      | succ j ih =>
        intro k m hj hm
        obtain ⟨m, rfl⟩ : ∃ m', m = m' + 1 := ⟨m - 1, by omega⟩
        have hk30 : k < 30 := by omega
        have hsl := wsr_lt k hk30
        rw [f_X5_wordOf_L12, nI_clamp (by omega), wsr_ok k hk30]
        refine wp_ie (show ¬ nI 30 ≤ nI k from nI_ge hk30 (by omega)) (wp_g (zin_nI hk30 (by omega)) (wp_bd ?_))
        rw [show wf s (tW b n p) (j + 1) k = (if wsr k = s ∧ wrc k = tW b n p then some k else wf s (tW b n p) j (k + 1)) from rfl]
        by_cases h1 : wsr k = s
        · refine wp_ie (fun w => w (by rw [h1])) (wp_bdE (spelledC hk30 h hT hp hk) ?_)
          by_cases h2 : tW b n p = wrc k
          · refine wp_ie (b2i_t (decide_eq_true h2)) (wp_some (wp_it rfl (wp_some ?_)))
            rw [if_pos ⟨h1, h2.symm⟩]
          · refine wp_it (b2i_f (fun w => h2 (of_decide_eq_true w))) (wp_some (wp_ie (by decide) (wp_ls ?_)))
            rw [if_neg (fun w => h2 w.2.symm), nI_1]
            exact ih (k + 1) m (by omega) (by omega)
        · refine wp_it (fun w => h1 ((nI_eq (by omega) (by omega)).mp w)) (wp_some (wp_ie (by decide) (wp_ls ?_)))
          rw [if_neg (fun w => h1 w.1), nI_1]
          exact ih (k + 1) m (by omega) (by omega)
    refine wp_bdQ (hloop 30 0 zFU rfl (by unfold zFU; omega)) fun v hv => ?_
    rw [hv]
    cases wf s (tW b n p) 30 0 with
    | none => exact wp_sumr (wp_some rfl)
    | some w => exact wp_suml (wp_some rfl)
  · rw [if_neg hk]
    exact wp_ie (fun w => hk ((nI_eq (b := 1) (by omega) (by omega)).mp w)) (wp_some rfl)
end WORDS
/-! the reference -/
def TXm (b : Nat → Nat) (n : Nat) (μ : zM) : Prop := (n ≤ 600 ∧ ∀ i, b i < 256) ∧ μ 310 2 = nI n ∧ ∀ i, i < n → μ 311 (10 + i) = nI (b i)
def FA (μ μ' : zM) : Prop := (∀ o, o ≠ 310 → μ' o = μ o) ∧ ∀ j, j < 3 ∨ 8 ≤ j → μ' 310 j = μ 310 j
theorem FA.rf (μ : zM) : FA μ μ := ⟨fun _ _ => rfl, fun _ _ => rfl⟩
theorem FA.tr {μ μ1 μ2 : zM} (h : FA μ μ1) (k : FA μ1 μ2) : FA μ μ2 := ⟨fun o ho => (k.1 o ho).trans (h.1 o ho), fun j hj => (k.2 j hj).trans (h.2 j hj)⟩
theorem FA.u {μ μ' : zM} {k : Nat} {v : Int32} (hk : 3 ≤ k ∧ k < 8) (h : U1 310 k v μ μ') : FA μ μ' := ⟨h.2.1, fun j hj => h.2.2 j (by omega)⟩
def tKm (b : Nat → Nat) (n p : Nat) : Nat := if tK b n p = 1 then (if tW b n p = 99 then 4 else 3) else if tK b n p = 2 then 1 else if tK b n p = 3 then 2 else tK b n p
/-- the reference has looked at the token from p on -/
def RT (b : Nat → Nat) (n p : Nat) (μ : zM) : Prop := μ 310 3 = nI (tB b n p) ∧ μ 310 4 = nI (tF b n p) ∧ μ 310 5 = nI (tKm b n p) ∧ (tK b n p = 2 → μ 310 6 = nI (tN b n p)) ∧ (tK b n p = 1 → μ 310 7 = nI (tW b n p))
section TOKM
variable {b : Nat → Nat} {n p : Nat} {μ μ' : zM}
theorem TXm.fa (h : TXm b n μ) (f : FA μ μ') : TXm b n μ' := ⟨h.1, by rw [f.2 2 (by omega)]; exact h.2.1, by rw [f.1 311 (by omega)]; exact h.2.2⟩
theorem byteAtM {v : Int32} {i : Nat} (h : TXm b n μ) (hv : v = nI i) (hi : i < n) : f_X12_byteAt 310 v μ = some (nI (b i)) := by
  subst hv
  obtain ⟨⟨hn, hb⟩, h2, ht⟩ := h
  refine wp_eq ?_
  unfold f_X12_byteAt
  rw [h2, show (10 : Int32) + nI i = nI (10 + i) from nI_add 10 i, nI_clamp (by omega)]
  exact wp_bd (wp_ie (nI_ge hi (by omega)) (wp_g (zin_nI (by omega) (by omega)) (wp_some (wp_some (ht i hi)))))
theorem byteAtM_end {v : Int32} (h : TXm b n μ) (hv : v = nI n) : f_X12_byteAt 310 v μ = some (-1) := by
  subst hv
  obtain ⟨⟨hn, hb⟩, h2, ht⟩ := h
  refine wp_eq ?_
  unfold f_X12_byteAt
  rw [h2]
  exact wp_bd (wp_it (nI_le (Nat.le_refl _) (by omega)) (wp_some (wp_some rfl)))
theorem letLM {i : Nat} (hb : ∀ i, b i < 256) : f_X12_isLetter (nI (b i)) = b2i (isL b i) := letC (hb i)
theorem digDM {i : Nat} (hb : ∀ i, b i < 256) : f_X12_isDigit (nI (b i)) = b2i (isD b i) := tkdC (hb i)
theorem skipM : ∀ k p m (μ : zM), TXm b n μ → μ 310 3 = nI p → p ≤ n → n - p ≤ k → k < m → wp (f_X12_advance_L0 310 m μ) (fun μ' => μ' 310 3 = nI (adv (isB b) n k p) ∧ (∀ o, o ≠ 310 → μ' o = μ o) ∧ ∀ j, j ≠ 3 → μ' 310 j = μ 310 j) := by
  intro k
  induction k with
  | zero =>
    intro p m μ h h7 hp hk hm
    obtain ⟨m, rfl⟩ : ∃ m', m = m' + 1 := ⟨m - 1, by omega⟩
    rw [f_X12_advance_L0, h7]
    exact wp_bdE (byteAtM_end h (by rw [show p = n by omega])) (wp_bd (wp_ie (by decide) (wp_bdE (byteAtM_end h (by rw [show p = n by omega])) (wp_it (by decide) (wp_some (wp_it rfl (wp_some ⟨h7, fun _ _ => rfl, fun _ _ => rfl⟩)))))))
  | succ k ih =>
    intro p m μ h h7 hp hk hm
    obtain ⟨m, rfl⟩ : ∃ m', m = m' + 1 := ⟨m - 1, by omega⟩
    have hb := h.1.2
    rw [f_X12_advance_L0, h7]
    by_cases hpn : p < n
    · refine wp_bdE (byteAtM h rfl hpn) (wp_bd ?_)
      by_cases h1 : b p = 10
      · rw [adv_y ⟨hpn, isB_iff.mpr (Or.inl h1)⟩]
        refine wp_it (by rw [h1]; rfl) (wp_some (wp_ie (by decide) (wp_u fun μ1 u => ?_)))
        obtain ⟨r, e, r1, r2, r3⟩ := ih (p + 1) m μ1 (h.fa (FA.u (by omega) u)) (by rw [u.1]; exact nI_1 p) (by omega) (by omega) (by omega)
        exact ⟨r, e, r1, fun o ho => (r2 o ho).trans (u.2.1 o ho), fun j hj => (r3 j hj).trans (u.2.2 j hj)⟩
      · refine wp_ie (bne (c := 10) (hb p) (by omega) h1) (wp_bdE (byteAtM h rfl hpn) ?_)
        by_cases h2 : b p = 32
        · rw [adv_y ⟨hpn, isB_iff.mpr (Or.inr h2)⟩]
          refine wp_ie (fun w => w (by rw [h2]; rfl)) (wp_some (wp_ie (by decide) (wp_u fun μ1 u => ?_)))
          obtain ⟨r, e, r1, r2, r3⟩ := ih (p + 1) m μ1 (h.fa (FA.u (by omega) u)) (by rw [u.1]; exact nI_1 p) (by omega) (by omega) (by omega)
          exact ⟨r, e, r1, fun o ho => (r2 o ho).trans (u.2.1 o ho), fun j hj => (r3 j hj).trans (u.2.2 j hj)⟩
        · rw [adv_n (fun w => (isB_iff.mp w.2).elim h1 h2)]
          exact wp_it (bne (c := 32) (hb p) (by omega) h2) (wp_some (wp_it rfl (wp_some ⟨h7, fun _ _ => rfl, fun _ _ => rfl⟩)))
    · rw [adv_n (fun w => hpn w.1)]
      exact wp_bdE (byteAtM_end h (by rw [show p = n by omega])) (wp_bd (wp_ie (by decide) (wp_bdE (byteAtM_end h (by rw [show p = n by omega])) (wp_it (by decide) (wp_some (wp_it rfl (wp_some ⟨h7, fun _ _ => rfl, fun _ _ => rfl⟩)))))))
theorem digitsM {f : Nat} : ∀ k p m (μ : zM), TXm b n μ → f ≤ p → μ 310 4 = nI f → μ 310 3 = nI p → μ 310 6 = nI (dv b f (min 3 (p - f))) → p ≤ n → n - p ≤ k → k < m → wp (f_X12_advance_L198 310 m μ) (fun μ' => (μ' 310 3 = nI (adv (isD b) n k p) ∧ μ' 310 6 = nI (dv b f (min 3 (adv (isD b) n k p - f)))) ∧ (∀ o, o ≠ 310 → μ' o = μ o) ∧ ∀ j, j ≠ 3 → j ≠ 6 → μ' 310 j = μ 310 j) := by
  intro k
  induction k with
  | zero =>
    intro p m μ h hf e7 h7 h9 hp hk hm
    obtain ⟨m, rfl⟩ : ∃ m', m = m' + 1 := ⟨m - 1, by omega⟩
    rw [f_X12_advance_L198, h7]
    exact wp_bdE (byteAtM_end h (by rw [show p = n by omega])) (wp_it (by decide) (wp_some ⟨⟨h7, h9⟩, fun _ _ => rfl, fun _ _ _ => rfl⟩))
  | succ k ih =>
    intro p m μ h hf e7 h7 h9 hp hk hm
    obtain ⟨m, rfl⟩ : ∃ m', m = m' + 1 := ⟨m - 1, by omega⟩
    have hn := h.1.1
    have hb := h.1.2
    rw [f_X12_advance_L198, h7, e7, pk_sub hf]
    by_cases hpn : p < n
    · refine wp_bdE (byteAtM h rfl hpn) ?_
      by_cases h1 : isD b p = true
      · rw [adv_y ⟨hpn, h1⟩]
        have hd := isD_iff.mp h1
        refine wp_ie (by rw [digDM hb]; exact b2i_t h1) (wp_bdQ (Q := fun μ1 => (μ1 310 3 = nI p ∧ μ1 310 6 = nI (dv b f (min 3 (p + 1 - f)))) ∧ (∀ o, o ≠ 310 → μ1 o = μ o) ∧ ∀ j, j ≠ 6 → μ1 310 j = μ 310 j) ?_ fun μ1 ⟨⟨a3, a6⟩, ao, aj⟩ => wp_u fun μ2 u2 => ?_)
        · by_cases h3 : 3 ≤ p - f
          · refine wp_it (nI_le h3 (by omega)) (wp_some ⟨⟨h7, ?_⟩, fun _ _ => rfl, fun _ _ => rfl⟩)
            rw [h9, (min3' h3).1, (min3' h3).2]
          · refine wp_ie (nI_ge (b := 3) (by omega) (by omega)) (wp_bdE (byteAtM h rfl hpn) (wp_u fun μ1 u1 => wp_some ⟨⟨by rw [u1.2.2 3 (by omega)]; exact h7, ?_⟩, u1.2.1, fun j hj => u1.2.2 j hj⟩))
            rw [u1.1, h9, (min3 h3 hf).1, (min3 h3 hf).2]
            show nI 10 * nI (dv b f (p - f)) + nI (b p) - nI 48 = nI (10 * dv b f (p - f) + (b (f + (p - f)) - 48))
            rw [pk_mul, nI_add, pk_sub (by omega), show f + (p - f) = p by omega]
            congr 1
            omega
        · have f1 : FA μ μ1 := ⟨ao, fun j hj => aj j (by omega)⟩
          obtain ⟨r, e, r1, r2, r3⟩ := ih (p + 1) m μ2 ((h.fa f1).fa (FA.u (by omega) u2)) (by omega) (by rw [u2.2.2 4 (by omega), aj 4 (by omega)]; exact e7) (by rw [u2.1, a3]; exact nI_1 p) (by rw [u2.2.2 6 (by omega)]; exact a6) (by omega) (by omega) (by omega)
          exact ⟨r, e, r1, fun o ho => ((r2 o ho).trans (u2.2.1 o ho)).trans (ao o ho), fun j hj hj2 => ((r3 j hj hj2).trans (u2.2.2 j hj)).trans (aj j hj2)⟩
      · rw [adv_n (fun w => h1 w.2)]
        exact wp_it (by rw [digDM hb]; exact b2i_f h1) (wp_some ⟨⟨h7, h9⟩, fun _ _ => rfl, fun _ _ _ => rfl⟩)
    · rw [adv_n (fun w => hpn w.1)]
      exact wp_bdE (byteAtM_end h (by rw [show p = n by omega])) (wp_it (by decide) (wp_some ⟨⟨h7, h9⟩, fun _ _ => rfl, fun _ _ _ => rfl⟩))
theorem min8 {q f : Nat} (h : ¬ 8 ≤ q - f) (hf : f ≤ q) : min 8 (q - f) = q - f ∧ min 8 (q + 1 - f) = q - f + 1 := by omega
theorem min8' {q f : Nat} (h : 8 ≤ q - f) : min 8 (q - f) = 8 ∧ min 8 (q + 1 - f) = 8 := by omega
theorem lettersM {f : Nat} : ∀ k p m (y : Int64) (μ : zM), TXm b n μ → f ≤ p → μ 310 4 = nI f → μ 310 3 = nI p → y = lN (pkw b f (min 8 (p - f))) → p ≤ n → n - p ≤ k → k < m → wp (f_X12_advance_L77 310 m y μ) (fun r => (r.2 310 3 = nI (adv (isL b) n k p) ∧ r.1 = lN (pkw b f (min 8 (adv (isL b) n k p - f)))) ∧ (∀ o, o ≠ 310 → r.2 o = μ o) ∧ ∀ j, j ≠ 3 → r.2 310 j = μ 310 j) := by
  intro k
  induction k with
  | zero =>
    intro p m y μ h hf e7 h7 h9 hp hk hm
    obtain ⟨m, rfl⟩ : ∃ m', m = m' + 1 := ⟨m - 1, by omega⟩
    rw [f_X12_advance_L77, h7]
    exact wp_bdE (byteAtM_end h (by rw [show p = n by omega])) (wp_it (by decide) (wp_some ⟨⟨h7, h9⟩, fun _ _ => rfl, fun _ _ => rfl⟩))
  | succ k ih =>
    intro p m y μ h hf e7 h7 h9 hp hk hm
    obtain ⟨m, rfl⟩ : ∃ m', m = m' + 1 := ⟨m - 1, by omega⟩
    have hn := h.1.1
    have hb := h.1.2
    rw [f_X12_advance_L77, h7, e7, pk_sub hf]
    by_cases hpn : p < n
    · refine wp_bdE (byteAtM h rfl hpn) ?_
      by_cases h1 : isL b p = true
      · rw [adv_y ⟨hpn, h1⟩]
        have hd := isL_iff.mp h1
        refine wp_ie (by rw [letLM hb]; exact b2i_t h1) (wp_bdQ (Q := fun x => x = lN (pkw b f (min 8 (p + 1 - f)))) ?_ fun x hx => wp_u fun μ2 u2 => ?_)
        · by_cases h3 : 8 ≤ p - f
          · refine wp_it (nI_le h3 (by omega)) (wp_some ?_)
            rw [h9, (min8' h3).1, (min8' h3).2]
          · refine wp_ie (nI_ge (b := 8) (by omega) (by omega)) (wp_bdE (byteAtM h rfl hpn) (wp_ls (wp_some ?_)))
            have h256 := hb p
            rw [h9, (min8 h3 hf).1, (min8 h3 hf).2, nI_l (by omega)]
            show lN 32 * lN (pkw b f (p - f)) + lN (b p) - lN 96 = lN (32 * pkw b f (p - f) + (b (f + (p - f)) - 96))
            rw [lN_mul, lN_add, lN_sub (by omega), show f + (p - f) = p by omega]
            congr 1
            omega
        · obtain ⟨r, e, r1, r2, r3⟩ := ih (p + 1) m x μ2 (h.fa (FA.u (by omega) u2)) (by omega) (by rw [u2.2.2 4 (by omega)]; exact e7) (by rw [u2.1]; exact nI_1 p) hx (by omega) (by omega) (by omega)
          exact ⟨r, e, r1, fun o ho => (r2 o ho).trans (u2.2.1 o ho), fun j hj => (r3 j hj).trans (u2.2.2 j hj)⟩
      · rw [adv_n (fun w => h1 w.2)]
        exact wp_it (by rw [letLM hb]; exact b2i_f h1) (wp_some ⟨⟨h7, h9⟩, fun _ _ => rfl, fun _ _ => rfl⟩)
    · rw [adv_n (fun w => hpn w.1)]
      exact wp_bdE (byteAtM_end h (by rw [show p = n by omega])) (wp_it (by decide) (wp_some ⟨⟨h7, h9⟩, fun _ _ => rfl, fun _ _ => rfl⟩))
theorem lk_le (t : List (Nat × Nat)) (h : ∀ e, e ∈ t → e.2 ≤ 99) (v : Nat) : lk t v ≤ 99 := by
  by_cases w : lk t v = 99
  · omega
  · exact h _ (lk_mem w t rfl)
theorem wtab_le : ∀ e, e ∈ wtab → e.2 ≤ 99 := by decide +kernel
theorem tW_le : tW b n p ≤ 99 := by
  unfold tW
  split
  · exact lk_le _ wtab_le _
  · exact Nat.le_refl _
theorem advM (h : TXm b n μ) (h8 : μ 310 3 = nI p) (hp : p ≤ n) : wp (f_X12_advance 310 μ) (fun μ' => RT b n p μ' ∧ FA μ μ') := by
  have hn := h.1.1
  have hb := h.1.2
  have hfl := tF_le (b := b) hp
  unfold f_X12_advance
  refine wp_bdQ (skipM n p zFU μ h h8 hp (by omega) (by unfold zFU; omega)) fun μ2 ⟨a7, ao, aj⟩ => wp_u fun μ3 u3 => ?_
  have a7 : μ2 310 3 = nI (tF b n p) := a7
  have f3 : FA μ μ3 := FA.tr ⟨ao, fun j hj => aj j (by omega)⟩ (FA.u (by omega) u3)
  have x3 : TXm b n μ3 := h.fa f3
  have b7 : μ3 310 3 = nI (tF b n p) := by rw [u3.2.2 3 (by omega)]; exact a7
  have b8 : μ3 310 4 = nI (tF b n p) := by rw [u3.1]; exact a7
  rw [b7]
  by_cases hl : tF b n p < n
  · refine wp_bdE (byteAtM x3 rfl hl) (wp_bd (wp_it (nI_pos' (by have := hb (tF b n p); omega)) ?_))
    rw [letLM hb, digDM hb]
    by_cases hL : isL b (tF b n p) = true
    · have k1 : tK b n p = 1 := by unfold tK; rw [if_pos hl, if_pos hL]
      have tb := (tK1 k1).2
      refine wp_ie (b2i_t hL) (wp_ls (wp_bd2Q (lettersM (f := tF b n p) n (tF b n p) zFU 0 μ3 x3 (Nat.le_refl _) b8 b7 (by rw [Nat.sub_self]; rfl) hfl (by omega) (by unfold zFU; omega)) fun y μ5 ⟨⟨c8, cy⟩, co, cj⟩ => ?_))
      have gf := tB_ge (b := b) (n := n) (p := p)
      have gl := tB_le (b := b) hp
      rw [← tb] at c8 cy
      have c8 : μ5 310 3 = nI (tB b n p) := c8
      have cy : y = lN (pkw b (tF b n p) (min 8 (tB b n p - tF b n p))) := cy
      have co : ∀ o, o ≠ 310 → μ5 o = μ3 o := co
      have cj : ∀ j, j ≠ 3 → μ5 310 j = μ3 310 j := cj
      have c7 : μ5 310 4 = nI (tF b n p) := by rw [cj 4 (by omega)]; exact b8
      rw [c8, c7, pk_sub gf]
      have ew : (if nI (tB b n p - tF b n p) ≤ (8 : Int32) then f_X12_wordOf y else 99) = nI (tW b n p) := by
        unfold tW
        by_cases h8 : tB b n p - tF b n p ≤ 8
        · rw [if_pos (show nI (tB b n p - tF b n p) ≤ (8 : Int32) from nI_le (b := 8) h8 (by omega)), if_pos h8, cy, Nat.min_eq_right h8, wordM (pkw_62 hb h8)]
        · rw [if_neg (show ¬ nI (tB b n p - tF b n p) ≤ (8 : Int32) from nI_ge (a := 8) (by omega) (by omega)), if_neg h8]
          rfl
      rw [ew]
      refine wp_ls (wp_u fun μ6 u6 => wp_ls (wp_u fun μ7 u7 => wp_some (wp_some ⟨?_, f3.tr (FA.tr ⟨co, fun j hj => cj j (by omega)⟩ ((FA.u (by omega) u6).tr (FA.u (by omega) u7)))⟩)))
      have hw := tW_le (b := b) (n := n) (p := p)
      refine ⟨by rw [u7.2.2 3 (by omega), u6.2.2 3 (by omega)]; exact c8, by rw [u7.2.2 4 (by omega), u6.2.2 4 (by omega)]; exact c7, ?_, fun w => by omega, fun _ => by rw [u7.2.2 7 (by omega)]; exact u6.1⟩
      rw [u7.1, u6.1]
      unfold tKm
      rw [if_pos k1]
      by_cases h99 : tW b n p = 99
      · rw [if_neg (fun w => w (by rw [h99]; rfl)), if_pos h99]
        rfl
      · rw [if_pos (show ¬ nI (tW b n p) = (99 : Int32) from bne (c := 99) (by omega) (by omega) h99), if_neg h99]
        rfl
    · refine wp_it (b2i_f hL) ?_
      by_cases hD : isD b (tF b n p) = true
      · have tb : tB b n p = adv (isD b) n n (tF b n p) := by
          unfold tB
          rw [if_pos hl, if_neg hL, if_pos hD]
        refine wp_ie (b2i_t hD) (wp_u fun μ4 u4 => wp_bdQ (digitsM (f := tF b n p) n (tF b n p) zFU μ4 (x3.fa (FA.u (by omega) u4)) (Nat.le_refl _) (by rw [u4.2.2 4 (by omega)]; exact b8) (by rw [u4.2.2 3 (by omega)]; exact b7) (by rw [u4.1, Nat.sub_self]; rfl) hfl (by omega) (by unfold zFU; omega)) fun μ5 ⟨⟨c8, c9⟩, co, cj⟩ => wp_ls (wp_u fun μ6 u6 => wp_some (wp_some ⟨?_, f3.tr ((FA.u (by omega) u4).tr (FA.tr ⟨co, fun j hj => cj j (by omega) (by omega)⟩ (FA.u (by omega) u6)))⟩)))
        have gf := tB_ge (b := b) (n := n) (p := p)
        have gl := tB_le (b := b) hp
        rw [← tb] at c8 c9
        have c7 : μ5 310 4 = nI (tF b n p) := by rw [cj 4 (by omega) (by omega), u4.2.2 4 (by omega)]; exact b8
        have k2 : tK b n p = if tB b n p - tF b n p ≤ 3 then 2 else 4 := by unfold tK; rw [if_pos hl, if_neg hL, if_pos hD]
        refine ⟨by rw [u6.2.2 3 (by omega)]; exact c8, by rw [u6.2.2 4 (by omega)]; exact c7, ?_, fun _ => by rw [u6.2.2 6 (by omega)]; exact c9, fun w => ?_⟩
        · rw [u6.1, c8, c7, pk_sub gf]
          unfold tKm
          rw [k2]
          by_cases h3 : tB b n p - tF b n p ≤ 3
          · rw [if_pos (show nI (tB b n p - tF b n p) ≤ (3 : Int32) from nI_le (b := 3) h3 (by omega)), if_pos h3]
            rfl
          · rw [if_neg (show ¬ nI (tB b n p - tF b n p) ≤ (3 : Int32) from nI_ge (a := 3) (by omega) (by omega)), if_neg h3]
            rfl
        · rw [k2] at w
          split at w <;> omega
      · have tb : tB b n p = tF b n p + 1 := by
          unfold tB
          rw [if_pos hl, if_neg hL, if_neg hD]
        have k2 : tK b n p = if b (tF b n p) = 59 then 3 else 4 := by unfold tK; rw [if_pos hl, if_neg hL, if_neg hD]
        refine wp_it (b2i_f hD) (wp_u fun μ4 u4 => wp_ls (wp_u fun μ5 u5 => wp_some (wp_some ⟨?_, f3.tr ((FA.u (by omega) u4).tr (FA.u (by omega) u5))⟩)))
        refine ⟨by rw [u5.2.2 3 (by omega), u4.1, tb]; exact nI_1 _, by rw [u5.2.2 4 (by omega), u4.2.2 4 (by omega)]; exact b8, ?_, fun w => ?_, fun w => ?_⟩
        · rw [u5.1]
          unfold tKm
          rw [k2]
          by_cases h59 : b (tF b n p) = 59
          · rw [if_neg (fun w => w (by rw [h59]; rfl)), if_pos h59]
            rfl
          · rw [if_pos (show ¬ nI (b (tF b n p)) = (59 : Int32) from bne (c := 59) (hb _) (by omega) h59), if_neg h59]
            rfl
        · rw [k2] at w
          split at w <;> omega
        · rw [k2] at w
          split at w <;> omega
  · have e : tF b n p = n := by omega
    refine wp_bdE (byteAtM_end x3 (by rw [e])) (wp_bd (wp_ie (by decide) (wp_u fun μ4 u4 => wp_some (wp_some ⟨?_, f3.tr (FA.u (by omega) u4)⟩))))
    have k0 := tK_0.mpr hl
    refine ⟨?_, by rw [u4.2.2 4 (by omega)]; exact b8, ?_, fun w => by omega, fun w => by omega⟩
    · rw [u4.2.2 3 (by omega), b7]
      unfold tB
      rw [if_neg hl]
    · rw [u4.1]
      unfold tKm
      rw [k0]
      rfl
end TOKM
