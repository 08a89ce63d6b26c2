/-! lies: the reference counts by sets of both -/
theorem chN_low : ∀ a, a < 256 → a = 0 ∨ (a.testBit (chN a) = true ∧ ∀ j, j < chN a → a.testBit j = false) := by decide +kernel
theorem ntz_2 : ∀ b, b < 256 → pc b ≠ 1 ∨ f_J6_numberOfTrailingZeros_0f7a4 (nI b) = nI (chN b) := by decide +kernel
theorem pc_8 : ∀ b, b < 255 → pc b < pc 255 := by decide +kernel
section LIEM
variable {k n : Nat} {X : Nat → Nat} {μ μ' : zM}
/-- the reference's fog -/
def FgM (k n : Nat) (X : Nat → Nat) (μ : zM) : Prop := (k < 2 ∧ n ≤ 8) ∧ μ 310 35 = nI (1104 + 9 * k) ∧ μ 311 (1104 + 9 * k) = nI n ∧ ∀ j, j < n → μ 311 (1104 + 9 * k + 1 + j) = nI (X j) ∧ X j < 256
theorem FgM.congr (h : FgM k n X μ) (f : ∀ o, o ≠ 323 → μ' o = μ o) : FgM k n X μ' := by
  unfold FgM at h ⊢
  rw [f 310 (by omega), f 311 (by omega)]
  exact h
def LyM (n : Nat) (X : Nat → Nat) (A : Nat) (μ : zM) : Prop := ∀ a, a < A → ∀ g, g < 256 → μ 323 (256 * a + g) = nI (cw n X oA g 8 a)
theorem lowestM {a : Nat} (ha : a < 256) (h0 : a ≠ 0) : f_X12_lowest 310 (nI a) = some (nI (chN a)) := by
  obtain ⟨h1, h2⟩ := (chN_low a ha).resolve_left h0
  have hc := chN_lt a ha
  refine wp_eq ?_
  unfold f_X12_lowest
  refine wp_bdQ (Q := fun r => r = nI (chN a)) ?_ fun r hr => wp_some hr
  refine wlp0 (fun n' k (_ : Unit) => f_X12_lowest_L2 (nI a) n' (nI k)) _ (chN a) (fun k _ => True) (by omega) () trivial ?_ ?_
  · intro m k _ hk _ ih
    show wp (f_X12_lowest_L2 (nI a) (m + 1) (nI k)) _
    rw [f_X12_lowest_L2, bitI (by omega) (by omega), h2 k hk]
    refine wp_ie (by decide) (wp_ls ?_)
    rw [nI_1]
    exact ih () trivial
  · intro m _ _
    show wp (f_X12_lowest_L2 (nI a) (m + 1) (nI (chN a))) _
    rw [f_X12_lowest_L2, bitI (by omega) (by omega), h1]
    exact wp_it (by decide) (wp_some rfl)
theorem and_bit {g x : Nat} (hg : g < 256) (j : Nat) (hj : j < 8) : ((nI g &&& nI x) >>> (nI j &&& 31)) &&& 1 = 1 ↔ g.testBit j = true ∧ x.testBit j = true := by
  rw [nI_and, bitI_1 (Nat.lt_of_le_of_lt Nat.and_le_left (by omega)) (by omega), Nat.testBit_and, Bool.and_eq_true]
theorem sumM {a g : Nat} {x2 : Int32} (hf : FgM k n X μ) (ha : a < 2 ^ n) (hg : g < 256) (h0 : a ≠ 0) (hL : LyM n X a μ) :
    wp (f_X12_counts_L57 310 x2 (nI a) (nI g) (nI (chN a)) μ zFU 0 0) (fun r => r = nI (cw n X oA g 8 a)) := by
  obtain ⟨⟨hk, hn⟩, e35, en, hX⟩ := hf
  have hal := all_lt hn
  obtain ⟨h1, h2⟩ := (chN_low a (by omega)).resolve_left h0
  have hd : chN a < n := by
    refine Nat.lt_of_not_le fun z => ?_
    have := Nat.testBit_lt_two_pow (Nat.lt_of_lt_of_le ha (Nat.pow_le_pow_right (by omega) z))
    rw [h1] at this
    cases this
  obtain ⟨x1, x2'⟩ := hX (chN a) hd
  have hre : cw n X oA g 8 a = sN 8 (fun j => if g.testBit j = true ∧ (X (chN a)).testBit j = true then cw n X oA (rm g j) 8 (rm a (chN a)) else 0) := cw_exp oA_inj hd 8 (Nat.le_refl _) g a h1
  have hrl := rm_less a (by omega) (chN a) (by omega) h1
  rw [hre]
  refine wlp0 (fun n' j y => f_X12_counts_L57 310 x2 (nI a) (nI g) (nI (chN a)) μ n' y (nI j)) _ 8 (fun j y => y = nI (sN j (fun j => if g.testBit j = true ∧ (X (chN a)).testBit j = true then cw n X oA (rm g j) 8 (rm a (chN a)) else 0))) (by omega) 0 rfl ?_ ?_
  · intro m j y hj hI ih
    show wp (f_X12_counts_L57 310 x2 (nI a) (nI g) (nI (chN a)) μ (m + 1) y (nI j)) _
    have xx : μ (310 + 1) (1104 + 9 * k + 1 + chN a) = nI (X (chN a)) := x1
    rw [f_X12_counts_L57, e35, nI_1, nI_add, nI_clamp (n := 1104 + 9 * k + 1 + chN a) (by omega), xx, one_shl (by omega), one_shl (by omega), bt3 a (by omega) (chN a) (by omega) h1]
    refine wp_it ⟨nI_ge (b := 8) hj (by omega), nI_ne0 (by omega) (by omega)⟩ (wp_g (zin_nI (by omega) (by omega)) (wp_bdQ (Q := fun x => x = nI (if g.testBit j = true ∧ (X (chN a)).testBit j = true then cw n X oA (rm g j) 8 (rm a (chN a)) else 0)) ?_ fun x hx => wp_ls (wp_ls ?_)))
    · by_cases c : g.testBit j = true ∧ (X (chN a)).testBit j = true
      · rw [if_pos c]
        refine wp_ie (fun z => z ((and_bit hg j hj).mpr c)) ?_
        rw [bt3 g hg j hj c.1, show (256 : Int32) * nI (rm a (chN a)) = nI (256 * rm a (chN a)) from pk_mul 256 _, nI_add]
        have hgl : rm g j < 256 := rm_lt (m := 8) hg
        rw [nI_clamp (by omega)]
        exact wp_g (zin_nI (by omega) (by omega)) (wp_some (hL (rm a (chN a)) hrl (rm g j) hgl))
      · rw [if_neg c]
        exact wp_it (fun z => c ((and_bit hg j hj).mp z)) (wp_some rfl)
    · rw [hI, hx, nI_add, nI_1]
      exact ih _ rfl
  · intro m y hI
    show wp (f_X12_counts_L57 310 x2 (nI a) (nI g) (nI (chN a)) μ (m + 1) y (nI 8)) _
    rw [f_X12_counts_L57]
    exact wp_ie (fun z => z.1 (nI_le (a := 8) (by omega) (by omega))) (wp_some hI)
theorem rowLM {a : Nat} {x2 : Int32} (hf : FgM k n X μ) (ha : a < 2 ^ n) (hL : LyM n X a μ) : wp (f_X12_counts_L21 310 x2 (nI a) zFU 0 μ) (fun μ' => LyM n X (a + 1) μ' ∧ ∀ o, o ≠ 323 → μ' o = μ o) := by
  have hal := all_lt hf.1.2
  refine wlp0 (fun n' g μ' => f_X12_counts_L21 310 x2 (nI a) n' (nI g) μ') _ 256 (fun g μ' => (LyM n X a μ' ∧ ∀ g', g' < g → μ' 323 (256 * a + g') = nI (cw n X oA g' 8 a)) ∧ ∀ o, o ≠ 323 → μ' o = μ o) (by omega) μ ⟨⟨hL, fun g hg => absurd hg (by omega)⟩, fun _ _ => rfl⟩ ?_ ?_
  · intro m g μ1 hg ⟨⟨i1, i2⟩, i3⟩ ih
    show wp (f_X12_counts_L21 310 x2 (nI a) (m + 1) (nI g) μ1) _
    rw [f_X12_counts_L21]
    refine wp_ie (nI_ge (b := 256) hg (by omega)) (wp_l fun x14 h14 => wp_bdQ (Q := fun x => a ≠ 0 → x = nI (chN a)) ?_ fun x18 h18 => wp_bdQ (Q := fun r => r = nI (cw n X oA g 8 a)) ?_ fun x32 h32 => ?_)
    · by_cases h0 : a = 0
      · exact wp_ie (fun z => z (by rw [h0]; rfl)) (wp_some fun z => absurd h0 z)
      · exact wp_it (nI_ne0 (by omega) (by omega)) (wp_bdE (lowestM (by omega) h0) (wp_some fun _ => rfl))
    · by_cases h0 : a = 0
      · subst h0
        rw [show zFU = 999999 + 1 from rfl, f_X12_counts_L57, cw_S0]
        refine wp_ie (fun z => z.2 rfl) (wp_some ?_)
        rw [h14]
        rfl
      · rw [if_pos (nI_ne0 (by omega) (by omega))] at h14
        subst h14
        rw [h18 h0]
        exact sumM (hf.congr i3) ha hg h0 i1
    · rw [show (256 : Int32) * nI a = nI (256 * a) from pk_mul 256 _, nI_add, nI_clamp (by omega)]
      refine wp_g (zin_nI (by omega) (by omega)) (wp_u fun μ2 u => wp_ls ?_)
      rw [nI_1]
      have u1 : μ2 323 (256 * a + g) = x32 := u.1
      have u2 : ∀ o, o ≠ 323 → μ2 o = μ1 o := u.2.1
      have u3 : ∀ j, j ≠ 256 * a + g → μ2 323 j = μ1 323 j := u.2.2
      refine ih μ2 ⟨⟨fun a' ha' g' hg' => by rw [u3 _ (by omega)]; exact i1 a' ha' g' hg', fun g' hg' => ?_⟩, fun o ho => (u2 o ho).trans (i3 o ho)⟩
      by_cases e : g' = g
      · rw [e, u1, h32]
      · rw [u3 _ (by omega)]
        exact i2 g' (by omega)
  · intro m μ1 ⟨⟨i1, i2⟩, i3⟩
    show wp (f_X12_counts_L21 310 x2 (nI a) (m + 1) (nI 256) μ1) _
    rw [f_X12_counts_L21]
    refine wp_it (nI_le (a := 256) (by omega) (by omega)) (wp_some ⟨fun a' ha' g' hg' => ?_, i3⟩)
    by_cases e : a' = a
    · rw [e]
      exact i2 g' hg'
    · exact i1 a' (by omega) g' hg'
theorem countsM (hf : FgM k n X μ) : wp (f_X12_counts 310 μ) (fun μ' => LyM n X (2 ^ n) μ' ∧ ∀ o, o ≠ 323 → μ' o = μ o) := by
  obtain ⟨⟨hk, hn⟩, e35, en, hX⟩ := hf
  have hf : FgM k n X μ := ⟨⟨hk, hn⟩, e35, en, hX⟩
  have hal := all_lt hn
  unfold f_X12_counts
  have en' : μ (310 + 1) (1104 + 9 * k) = nI n := en
  rw [e35, nI_clamp (by omega), en']
  refine wp_g (zin_nI (by omega) (by omega)) (wp_ls (wp_bdQ (Q := fun μ' => LyM n X (2 ^ n) μ' ∧ ∀ o, o ≠ 323 → μ' o = μ o) ?_ fun μ1 h1 => wp_some h1))
  refine wlp0 (fun n' a μ' => f_X12_counts_L12 310 (nI n) n' (nI a) μ') _ (2 ^ n) (fun a μ' => LyM n X a μ' ∧ ∀ o, o ≠ 323 → μ' o = μ o) (by omega) μ ⟨fun a ha => absurd ha (by omega), fun _ _ => rfl⟩ ?_ ?_
  · intro m a μ1 ha ⟨i1, i2⟩ ih
    show wp (f_X12_counts_L12 310 (nI n) (m + 1) (nI a) μ1) _
    rw [f_X12_counts_L12, one_shl (by omega)]
    refine wp_ie (nI_ge ha (by omega)) (wp_bdQ (rowLM (hf.congr i2) ha i1) fun μ2 ⟨j1, j2⟩ => wp_ls ?_)
    rw [nI_1]
    exact ih μ2 ⟨j1, fun o ho => (j2 o ho).trans (i2 o ho)⟩
  · intro m μ1 hI
    show wp (f_X12_counts_L12 310 (nI n) (m + 1) (nI (2 ^ n)) μ1) _
    rw [f_X12_counts_L12, one_shl (by omega)]
    exact wp_it (nI_le (Nat.le_refl _) (by omega)) (wp_some hI)
theorem knownM {op : Nat} (hf : FgM k n X μ) (hL : LyM n X (2 ^ n) μ) (ho : op < 256) : wp (f_X12_isKnown 310 (nI op) μ) (fun r => (r = 1 ∧ knw n X op) ∨ (r = 0 ∧ ¬ knw n X op)) := by
  obtain ⟨⟨hk, hn⟩, e35, en, hX⟩ := hf
  have hal := all_lt hn
  have p9 := p98
  unfold f_X12_isKnown
  have en' : μ (310 + 1) (1104 + 9 * k) = nI n := en
  rw [e35, nI_clamp (by omega), en', one_shl (by omega), show nI (2 ^ n) - (1 : Int32) = nI (2 ^ n - 1) from pk_sub1 hal.2]
  refine wp_g (zin_nI (by omega) (by omega)) (wp_ls (wp_bdQ (Q := fun r => (r = 1 ∧ knw n X op) ∨ (r = 0 ∧ ¬ knw n X op)) ?_ fun r hr => wp_g ?_ (wp_some hr)))
  · refine wlp0 (fun n' a y => f_X12_isKnown_L19 310 (nI op) (nI (2 ^ n - 1)) μ n' y (nI a)) _ (2 ^ n) (fun a y => (y = 1 ∧ ∀ f, f < a → 0 < cw n X oA op 8 (2 ^ n - 1 - f) → cw n X oA (255 - op) 8 f ≤ 1) ∨ (y = 0 ∧ ¬ knw n X op)) (by omega) 1 (Or.inl ⟨rfl, fun f hf => absurd hf (by omega)⟩) ?_ ?_
    · intro m a y ha hI ih
      show wp (f_X12_isKnown_L19 310 (nI op) (nI (2 ^ n - 1)) μ (m + 1) y (nI a)) _
      have c1 := cw_le (X := X) (o := oA) (G := op) hn 8 (2 ^ n - 1 - a)
      have c2 := cw_le (X := X) (o := oA) (G := 255 - op) hn 8 a
      have b255 : (255 : Int32) &&& (nI op ^^^ (-1 : Int32)) = nI (255 - op) := (bt4 8 (by omega) op ho (by omega)).1
      have l1 : μ (310 + 13) (256 * (2 ^ n - 1 - a) + op) = nI (cw n X oA op 8 (2 ^ n - 1 - a)) := hL (2 ^ n - 1 - a) (by omega) op ho
      have l2 : μ (310 + 13) (256 * a + (255 - op)) = nI (cw n X oA (255 - op) 8 a) := hL a ha (255 - op) (by omega)
      rw [f_X12_isKnown_L19]
      rcases hI with ⟨rfl, hI⟩ | ⟨rfl, hI⟩
      · rw [(bt4 n (by omega) a (by omega) ha).1, b255, show (256 : Int32) * nI (2 ^ n - 1 - a) = nI (256 * (2 ^ n - 1 - a)) from pk_mul 256 _, show (256 : Int32) * nI a = nI (256 * a) from pk_mul 256 _, nI_add, nI_add, nI_clamp (n := 256 * (2 ^ n - 1 - a) + op) (by omega), nI_clamp (n := 256 * a + (255 - op)) (by omega), l1, l2]
        refine wp_it ⟨nI_nlt (by omega) (by omega), by decide⟩ (wp_g (zin_nI (by omega) (by omega)) (wp_bd (wp_bd ?_)))
        by_cases z1 : 0 < cw n X oA op 8 (2 ^ n - 1 - a)
        · refine wp_ie (nI_ne0 z1 (by omega)) (wp_g (zin_nI (by omega) (by omega)) ?_)
          by_cases z2 : cw n X oA (255 - op) 8 a ≤ 1
          · refine wp_ie (nI_ge (b := 2) (by omega) (by omega)) (wp_some (wp_ie (by decide) (wp_some (wp_ls ?_))))
            rw [nI_1]
            refine ih 1 (Or.inl ⟨rfl, fun f hf' => ?_⟩)
            by_cases e : f = a
            · rw [e]
              exact fun _ => z2
            · exact hI f (by omega)
          · refine wp_it (nI_le (a := 2) (by omega) (by omega)) (wp_some (wp_it rfl (wp_some (wp_ls ?_))))
            rw [nI_1]
            refine ih 0 (Or.inr ⟨rfl, fun w => z2 ?_⟩)
            have := w (2 ^ n - 1 - a) (by omega) z1
            rw [show 2 ^ n - 1 - (2 ^ n - 1 - a) = a by omega] at this
            exact this
        · rw [show cw n X oA op 8 (2 ^ n - 1 - a) = 0 by omega]
          refine wp_it rfl (wp_some (wp_ie (by decide) (wp_some (wp_ls ?_))))
          rw [nI_1]
          refine ih 1 (Or.inl ⟨rfl, fun f hf' => ?_⟩)
          by_cases e : f = a
          · rw [e]
            exact fun w => absurd w z1
          · exact hI f (by omega)
      · exact wp_ie (fun z => z.2 rfl) (wp_some (Or.inr ⟨rfl, hI⟩))
    · intro m y hI
      show wp (f_X12_isKnown_L19 310 (nI op) (nI (2 ^ n - 1)) μ (m + 1) y (nI (2 ^ n))) _
      rw [f_X12_isKnown_L19]
      refine wp_ie (fun z => z.1 (nI_lt (by omega) (by omega))) (wp_some ?_)
      rcases hI with ⟨rfl, hI⟩ | h
      · refine Or.inl ⟨rfl, fun f hf' h0 => ?_⟩
        have := hI (2 ^ n - 1 - f) (by omega)
        rw [show 2 ^ n - 1 - (2 ^ n - 1 - f) = f by omega] at this
        exact this h0
      · exact Or.inr h
  · rcases hr with ⟨rfl, -⟩ | ⟨rfl, -⟩ <;> decide
theorem knw255 (hn : n ≤ 8) : knw n X 255 := by
  intro f hf _
  show cw n X oA 0 8 (2 ^ n - 1 - f) ≤ 1
  rw [cw_no 8 (fun j hj => Nat.zero_testBit _)]
  show (if 2 ^ n - 1 - f = 0 then 1 else 0) ≤ 1
  split <;> omega
theorem dgN_255 : ∀ k, k ≤ 255 → (∀ op, op < k → ¬ knw n X op) → dgN n X k = 255
  | 0, _, _ => rfl
  | k + 1, hk, h => by
    have ih := dgN_255 k (by omega) (fun op ho => h op (by omega))
    unfold dgN
    rw [if_neg (fun z => h k (by omega) ((knB_iff n X k).mp z.2))]
    exact ih
theorem digM (hf : FgM k n X μ) (hL : LyM n X (2 ^ n) μ) : f_X12_dig 310 μ = some (nI (dgN n X 256)) := by
  have hn := hf.1.2
  refine wp_eq ?_
  unfold f_X12_dig
  refine wp_bdQ (Q := fun r => r = nI (dgN n X 256)) ?_ fun r hr => wp_some hr
  refine wlp0 (fun n' op y => f_X12_dig_L4 310 μ n' y (nI op)) _ 256 (fun op y => (y = -1 ∧ ∀ o, o < op → ¬ knw n X o) ∨ y = nI (dgN n X op)) (by omega) (-1) (Or.inl ⟨rfl, fun o ho => absurd ho (by omega)⟩) ?_ ?_
  · intro m op y hop hI ih
    show wp (f_X12_dig_L4 310 μ (m + 1) y (nI op)) _
    rw [f_X12_dig_L4]
    refine wp_ie (nI_ge (b := 256) hop (by omega)) (wp_bdQ (Q := fun y' => (y' = -1 ∧ ∀ o, o < op + 1 → ¬ knw n X o) ∨ y' = nI (dgN n X (op + 1))) ?_ fun y' hy' => wp_ls ?_)
    · rcases hI with ⟨rfl, hI⟩ | rfl
      · have h255 := dgN_255 (n := n) (X := X) op (by omega) hI
        refine wp_bd (wp_it (by decide) (wp_bdQ (knownM hf hL hop) fun r hr => ?_))
        rcases hr with ⟨rfl, hr⟩ | ⟨rfl, hr⟩
        · refine wp_ie (by decide) (wp_some (wp_it rfl (wp_some (Or.inr ?_))))
          unfold dgN
          rw [h255]
          by_cases e : op = 255
          · rw [if_neg (fun z => by rw [e] at z; exact Nat.lt_irrefl _ z.1), e]
          · rw [if_pos ⟨pc_8 op (by omega), (knB_iff n X op).mpr hr⟩]
        · refine wp_it rfl (wp_some (wp_ie (by decide) (wp_some (Or.inl ⟨rfl, fun o ho => ?_⟩))))
          by_cases e : o = op
          · rw [e]
            exact hr
          · exact hI o (by omega)
      · have dl := dgN_lt (n := n) (X := X) op (by omega)
        have pl : pc op ≤ 8 := pc_le8 op hop
        have pl2 : pc (dgN n X op) ≤ 8 := pc_le8 _ dl
        refine wp_bd (wp_ie (nI_pos (by omega)) (wp_bdE (bitsM hop) (wp_bdE (bitsM dl) ?_)))
        by_cases z : pc op < pc (dgN n X op)
        · refine wp_ie (nI_ge z (by omega)) (wp_bdQ (knownM hf hL hop) fun r hr => ?_)
          rcases hr with ⟨rfl, hr⟩ | ⟨rfl, hr⟩
          · refine wp_ie (by decide) (wp_some (wp_it rfl (wp_some (Or.inr ?_))))
            show _ = nI (if pc op < pc (dgN n X op) ∧ knB n X op = true then op else dgN n X op)
            rw [if_pos ⟨z, (knB_iff n X op).mpr hr⟩]
          · refine wp_it rfl (wp_some (wp_ie (by decide) (wp_some (Or.inr ?_))))
            show _ = nI (if pc op < pc (dgN n X op) ∧ knB n X op = true then op else dgN n X op)
            rw [if_neg (fun w => hr ((knB_iff n X op).mp w.2))]
        · refine wp_it (nI_le (by omega) (by omega)) (wp_some (wp_ie (by decide) (wp_some (Or.inr ?_))))
          show _ = nI (if pc op < pc (dgN n X op) ∧ knB n X op = true then op else dgN n X op)
          rw [if_neg (fun w => z w.1)]
    · rw [nI_1]
      exact ih y' hy'
  · intro m y hI
    show wp (f_X12_dig_L4 310 μ (m + 1) y (nI 256)) _
    rw [f_X12_dig_L4]
    refine wp_it (nI_le (a := 256) (by omega) (by omega)) (wp_some ?_)
    exact hI.resolve_left (fun z => z.2 255 (by omega) (knw255 hn))
theorem mayM {d : Nat} {v2 : Int32} (hf : FgM k n X μ) (hL : LyM n X (2 ^ n) μ) (hd : d < n) : wp (f_X12_lies_L121 310 v2 (nI (2 ^ n - 1)) (nI d) μ zFU 0 0) (fun r => r = nI (mayG n X d 8)) := by
  obtain ⟨⟨hk, hn⟩, e35, en, hX⟩ := hf
  have hal := all_lt hn
  have p9 := p98
  obtain ⟨x1, x2⟩ := hX d hd
  have hr : rm (2 ^ n - 1) d < 2 ^ n := rm_lt (m := n) (by omega)
  refine wlp0 (fun n' g y => f_X12_lies_L121 310 v2 (nI (2 ^ n - 1)) (nI d) μ n' y (nI g)) _ 8 (fun g y => y = nI (mayG n X d g)) (by omega) 0 rfl ?_ ?_
  · intro m g y hg hI ih
    have hI : y = nI (mayG n X d g) := hI
    show wp (f_X12_lies_L121 310 v2 (nI (2 ^ n - 1)) (nI d) μ (m + 1) y (nI g)) _
    have xx : μ (310 + 1) (1104 + 9 * k + 1 + d) = nI (X d) := x1
    have g255 : (255 : Nat).testBit g = true := by
      have : ∀ g, g < 8 → (255 : Nat).testBit g = true := by decide +kernel
      exact this g hg
    have cl := cw_le (X := X) (o := oA) (G := rm 255 g) hn 8 (rm (2 ^ n - 1) d)
    have hgl : rm 255 g < 256 := rm_lt (m := 8) (by omega)
    have l1 : μ (310 + 13) (256 * rm (2 ^ n - 1) d + rm 255 g) = nI (cw n X oA (rm 255 g) 8 (rm (2 ^ n - 1) d)) := hL _ hr _ hgl
    rw [f_X12_lies_L121, e35, nI_1, nI_add, nI_clamp (n := 1104 + 9 * k + 1 + d) (by omega), xx, one_shl (by omega), one_shl (by omega), bt3 (2 ^ n - 1) (by omega) d (by omega) (all_bit hd), show (255 : Int32) &&& (nI (2 ^ g) ^^^ (-1 : Int32)) = nI (rm 255 g) from bt3 255 (by omega) g hg g255, show (256 : Int32) * nI (rm (2 ^ n - 1) d) = nI (256 * rm (2 ^ n - 1) d) from pk_mul 256 _, nI_add, nI_clamp (n := 256 * rm (2 ^ n - 1) d + rm 255 g) (by omega), l1]
    obtain ⟨e, he⟩ : ∃ e : Nat, e = if (X d).testBit g = true ∧ 0 < cw n X oA (rm 255 g) 8 (rm (2 ^ n - 1) d) then 2 ^ g else 0 := ⟨_, rfl⟩
    refine wp_ie (nI_ge (b := 8) hg (by omega)) (wp_g (zin_nI (by omega) (by omega)) (wp_bdQ (Q := fun x => x = nI e) (wp_bd ?_) fun x hx => wp_ls (wp_ls ?_)))
    · by_cases c : (X d).testBit g = true
      · refine wp_ie (fun z => z ((bitI_1 (by omega) (by omega)).mpr c)) (wp_g (zin_nI (by omega) (by omega)) ?_)
        by_cases z : 0 < cw n X oA (rm 255 g) 8 (rm (2 ^ n - 1) d)
        · rw [if_pos ⟨c, z⟩] at he
          subst he
          generalize cw n X oA (rm 255 g) 8 (rm (2 ^ n - 1) d) = t at cl z
          exact wp_ie (show ¬ nI t ≤ nI 0 from nI_ge z (by omega)) (wp_some (wp_it rfl (wp_some rfl)))
        · rw [if_neg (fun w => z w.2)] at he
          subst he
          generalize cw n X oA (rm 255 g) 8 (rm (2 ^ n - 1) d) = t at cl z
          exact wp_it (show nI t ≤ nI 0 from nI_le (by omega) (by omega)) (wp_some (wp_ie (by decide) (wp_some rfl)))
      · rw [if_neg (fun w => c w.1)] at he
        subst he
        exact wp_it (fun z => c ((bitI_1 (by omega) (by omega)).mp z)) (wp_some (wp_ie (by decide) (wp_some rfl)))
    · rw [nI_1]
      refine ih _ ?_
      rw [hI, hx, he, nI_or]
      show _ = nI (if (X d).testBit g = true ∧ 0 < cw n X oA (rm 255 g) 8 (rm (2 ^ n - 1) d) then mayG n X d g ||| 2 ^ g else mayG n X d g)
      split
      · rfl
      · rw [Nat.or_zero]
  · intro m y hI
    show wp (f_X12_lies_L121 310 v2 (nI (2 ^ n - 1)) (nI d) μ (m + 1) y (nI 8)) _
    rw [f_X12_lies_L121]
    exact wp_it (nI_le (a := 8) (by omega) (by omega)) (wp_some hI)
/-- what lies answers -/
noncomputable def lieA (n : Nat) (X : Nat → Nat) (v : Int32) : Int32 := if v = 0 then nI (cw n X oA 255 8 (2 ^ n - 1)) else if v = 1 then (if cw n X oA 255 8 (2 ^ n - 1) = 0 then -1 else nI (dgN n X 256)) else if 10 ≤ v ∧ v < 10 + nI n then (if pc (mayG n X (v - 10).toNatClampNeg 8) = 1 then nI (chN (mayG n X (v - 10).toNatClampNeg 8)) else -1) else if 20 ≤ v ∧ v < 20 + nI n then nI (mayG n X (v - 20).toNatClampNeg 8) else -2
theorem lie_at {v : Int32} {c : Nat} (hc : c = 10 ∨ c = 20) (hn : n ≤ 8) : (nI c ≤ v ∧ v < nI c + nI n) ↔ ∃ d, d < n ∧ v = nI (c + d) := by
  rw [nI_add]
  constructor
  · rintro ⟨h1, h2⟩
    obtain ⟨j, j1, rfl⟩ := nI_of (x := v) (fun z => by
      have := Int32.lt_of_le_of_lt h1 z
      exact absurd this (nI_pos (by omega)))
    have h1 := (nI_leI (by omega) j1).mp h1
    have h2 := (nI_ltI j1 (by omega)).mp h2
    exact ⟨j - c, by omega, by rw [show c + (j - c) = j by omega]⟩
  · rintro ⟨d, hd, rfl⟩
    exact ⟨nI_le (by omega) (by omega), nI_lt (by omega) (by omega)⟩
theorem liesM {v1 v2 : Int32} (hf : FgM k n X (zup μ 310 35 (nI (1104 + 9 * k)))) (e1 : f_X12_isOf 310 3 v1 μ = some 1) (hv : v1 = nI k) : wp (f_X12_lies 310 v1 v2 μ) (fun r => r.1 = lieA n X v2 ∧ KP μ r.2) := by
  subst hv
  obtain ⟨hk, hn⟩ := hf.1
  have hal := all_lt hn
  have p9 := p98
  have ep : f_X12_placeOf 3 (nI k) = nI (1104 + 9 * k) := by
    have : ∀ k, k < 2 → f_X12_placeOf 3 (nI k) = nI (1104 + 9 * k) := by decide +kernel
    exact this k hk
  unfold f_X12_lies
  rw [ep]
  refine wp_bdE e1 (wp_it (by decide) (wp_ls (wp_bdQ (countsM hf) fun μ4 ⟨hL, fr⟩ => ?_)))
  have hf4 := hf.congr fr
  obtain ⟨-, e35, en, hX⟩ := hf4
  have hf4 := hf.congr fr
  have kp : KP μ μ4 := fun o ho => by rw [fr o (by omega), zup_rne _ _ _ (by omega)]
  have en' : μ4 (310 + 1) (1104 + 9 * k) = nI n := en
  have l1 : μ4 (310 + 13) (256 * (2 ^ n - 1) + 255) = nI (cw n X oA 255 8 (2 ^ n - 1)) := hL _ (by omega) 255 (by omega)
  have cl := cw_le (X := X) (o := oA) (G := 255) hn 8 (2 ^ n - 1)
  rw [e35, nI_clamp (n := 1104 + 9 * k) (by omega), en', one_shl (by omega), show nI (2 ^ n) - (1 : Int32) = nI (2 ^ n - 1) from pk_sub1 hal.2]
  refine wp_g (zin_nI (by omega) (by omega)) (wp_ls ?_)
  rw [show (256 : Int32) * nI (2 ^ n - 1) = nI (256 * (2 ^ n - 1)) from pk_mul 256 _, show nI (256 * (2 ^ n - 1)) + (255 : Int32) = nI (256 * (2 ^ n - 1) + 255) from nI_add _ 255, nI_clamp (n := 256 * (2 ^ n - 1) + 255) (by omega), l1]
  refine wp_g (zin_nI (by omega) (by omega)) (wp_ls ?_)
  unfold lieA
  by_cases h0 : v2 = 0
  · rw [if_pos h0]
    exact wp_ie (fun z => z h0) (wp_some ⟨rfl, kp⟩)
  · rw [if_neg h0]
    refine wp_it h0 ?_
    by_cases h1 : v2 = 1
    · rw [if_pos h1]
      refine wp_ie (fun z => z h1) ?_
      by_cases c : cw n X oA 255 8 (2 ^ n - 1) = 0
      · rw [if_pos c, c]
        exact wp_bd (wp_ie (fun z => z rfl) (wp_some (wp_some ⟨rfl, kp⟩)))
      · rw [if_neg c]
        exact wp_bd (wp_it (nI_ne0 (by omega) (by omega)) (wp_bdE (digM hf4 hL) (wp_some (wp_some ⟨rfl, kp⟩))))
    · rw [if_neg h1]
      refine wp_it h1 (wp_ls ?_)
      have i10 := lie_at (v := v2) (c := 10) (Or.inl rfl) hn
      have i20 := lie_at (v := v2) (c := 20) (Or.inr rfl) hn
      have i10 : ((10 : Int32) ≤ v2 ∧ v2 < 10 + nI n) ↔ ∃ d, d < n ∧ v2 = nI (10 + d) := i10
      have i20 : ((20 : Int32) ≤ v2 ∧ v2 < 20 + nI n) ↔ ∃ d, d < n ∧ v2 = nI (20 + d) := i20
      by_cases hd1 : ∃ d, d < n ∧ v2 = nI (10 + d)
      · rw [if_pos (i10.mpr hd1)]
        obtain ⟨d, hd, rfl⟩ := hd1
        rw [show nI (10 + d) % (10 : Int32) = nI d by
          rw [show (10 : Int32) = nI 10 from rfl, nI_rem (by omega) (by omega) (by omega), show (10 + d) % 10 = d by omega], show nI (10 + d) - (10 : Int32) = nI d by
          rw [show (10 : Int32) = nI 10 from rfl, pk_sub (by omega), show 10 + d - 10 = d by omega], nI_clamp (n := d) (by omega)]
        have hm : mayG n X d 8 < 256 := mayG_lt 8
        refine wp_it ⟨(inYn (lo := 10) (hi := 29) (by omega) (by omega) (by omega)).mpr ⟨by omega, by omega⟩, nI_lt hd (by omega)⟩ (wp_bdQ (mayM hf4 hL hd) fun x32 hx => ?_)
        subst hx
        refine wp_bd (wp_it (nI_lt (b := 20) (by omega) (by omega)) (wp_bdE (bitsM hm) ?_))
        have hp := pc_le8 _ hm
        by_cases c : pc (mayG n X d 8) = 1
        · rw [if_pos c]
          refine wp_ie (fun z => z (by rw [c]; rfl)) (wp_bdE (lowestM hm (fun z => ?_)) (wp_some (wp_some ⟨rfl, kp⟩)))
          rw [z] at c
          exact absurd c (by decide)
        · rw [if_neg c]
          exact wp_it (fun z => c ((nI_eq (b := 1) (by omega) (by omega)).mp z)) (wp_some (wp_some ⟨rfl, kp⟩))
      · rw [if_neg (fun z => hd1 (i10.mp z))]
        by_cases hd2 : ∃ d, d < n ∧ v2 = nI (20 + d)
        · rw [if_pos (i20.mpr hd2)]
          obtain ⟨d, hd, rfl⟩ := hd2
          rw [show nI (20 + d) % (10 : Int32) = nI d by
            rw [show (10 : Int32) = nI 10 from rfl, nI_rem (by omega) (by omega) (by omega), show (20 + d) % 10 = d by omega], show nI (20 + d) - (20 : Int32) = nI d by
            rw [show (20 : Int32) = nI 20 from rfl, pk_sub (by omega), show 20 + d - 20 = d by omega], nI_clamp (n := d) (by omega)]
          refine wp_it ⟨(inYn (lo := 10) (hi := 29) (by omega) (by omega) (by omega)).mpr ⟨by omega, by omega⟩, nI_lt hd (by omega)⟩ (wp_bdQ (mayM hf4 hL hd) fun x32 hx => ?_)
          subst hx
          exact wp_bd (wp_ie (nI_nlt (b := 20) (by omega) (by omega)) (wp_some (wp_some ⟨rfl, kp⟩)))
        · rw [if_neg (fun z => hd2 (i20.mp z))]
          refine wp_ie (fun z => ?_) (wp_some ⟨rfl, kp⟩)
          obtain ⟨z1, z2⟩ := z
          obtain ⟨q1, q2⟩ := inY.mp z1
          obtain ⟨j, j1, rfl⟩ := nI_rng (b := 29) (by omega) (fun q => q1 (Int32.lt_trans q (by decide))) q2
          have j10 : 10 ≤ j := Nat.le_of_not_lt fun q => q1 (nI_lt (b := 10) q (by omega))
          rw [show nI j % (10 : Int32) = nI (j % 10) from nI_rem (d := 10) (by omega) (by omega) (by omega)] at z2
          have z2 := (nI_ltI (by omega) (by omega)).mp z2
          by_cases h20 : j < 20
          · exact hd1 ⟨j - 10, by omega, by rw [show 10 + (j - 10) = j by omega]⟩
          · exact hd2 ⟨j - 20, by omega, by rw [show 20 + (j - 20) = j by omega]⟩
theorem LF.kp (h : LF μ μ') : KP μ μ' := fun o ho => h o (by omega)
theorem hasN {w m : Nat} {v : Int32} (h : μ w 2 = nI m) (hm : m ≤ 8) : (¬ f_X6_has w v μ = 0) ↔ ∃ d, d < m ∧ v = nI d := by
  unfold f_X6_has
  rw [h]
  show (¬ (if ¬ v < 0 ∧ ¬ nI m ≤ v then (1 : Int32) else 0) = 0) ↔ _
  constructor
  · intro z
    have c : ¬ v < 0 ∧ ¬ nI m ≤ v := Classical.byContradiction fun q => z (if_neg q)
    obtain ⟨j, j1, rfl⟩ := nI_of c.1
    exact ⟨j, Nat.lt_of_not_le fun q => c.2 (nI_le q j1), rfl⟩
  · rintro ⟨d, hd, rfl⟩
    rw [if_pos ⟨nI_pos (by omega), nI_ge hd (by omega)⟩]
    decide
theorem liesC {w : Nat} {v2 : Int32} (hf : FgC w n X μ) : wp (if 0 ≤ v2 then if ¬ v2 = 0 then if ¬ v2 = (1 : Int32) then if (¬ (v2 < (10 : Int32))) ∧ (¬ ((f_X6_has w (v2 - (10 : Int32)) μ) = 0)) then zbd2 (f_X7_sureGrave (0 + 111) w (v2 - (10 : Int32)) μ) fun r36 μ37 => (some (.inl (r36, μ37)) : Option ((Int32 × zM) ⊕ Unit)) else zbd2 (if (¬ (v2 < (20 : Int32))) ∧ (¬ ((f_X6_has w (v2 - (20 : Int32)) μ) = 0)) then zbd2 (f_X7_graves (0 + 111) w (v2 - (20 : Int32)) μ) fun r41 μ42 => some (r41, μ42) else some ((-2 : Int32), μ)) fun x43 μ44 => some (.inl (x43, μ44)) else zbd2 (f_X7_dig (0 + 111) w μ) fun r45 μ46 => some (.inl (r45, μ46)) else zbd2 (f_X7_ways (0 + 111) w μ) fun r47 μ48 => some (.inl (r47, μ48)) else some (.inr ())) (fun r => (∃ μ1, r = .inl (lieA n X v2, μ1) ∧ KP μ μ1) ∨ (r = .inr () ∧ lieA n X v2 = -2)) := by
  obtain ⟨hn, hw, hz, hs, hx⟩ := hf
  have hf : FgC w n X μ := ⟨hn, hw, hz, hs, hx⟩
  have hp9 := p98
  have i10 : ((10 : Int32) ≤ v2 ∧ v2 < 10 + nI n) ↔ ∃ d, d < n ∧ v2 = nI (10 + d) := lie_at (v := v2) (c := 10) (Or.inl rfl) hn
  have i20 : ((20 : Int32) ≤ v2 ∧ v2 < 20 + nI n) ↔ ∃ d, d < n ∧ v2 = nI (20 + d) := lie_at (v := v2) (c := 20) (Or.inr rfl) hn
  by_cases hneg : 0 ≤ v2
  · refine wp_it hneg ?_
    by_cases h0 : v2 = 0
    · refine wp_ie (fun z => z h0) (wp_bd2Q (waysC hf) fun r μ1 ⟨e1, f1⟩ => wp_some (Or.inl ⟨μ1, ?_, LF.kp f1⟩))
      have e1 : r = nI (cw n X oA 255 8 (2 ^ n - 1)) := e1
      unfold lieA
      rw [if_pos h0, e1]
    · refine wp_it h0 ?_
      by_cases h1 : v2 = 1
      · refine wp_ie (fun z => z h1) (wp_bd2Q (digC hf) fun r μ1 ⟨e1, f1⟩ => wp_some (Or.inl ⟨μ1, ?_, LF.kp f1⟩))
        have e1 : r = if cw n X oA 255 8 (2 ^ n - 1) = 0 then -1 else nI (dgN n X 256) := e1
        unfold lieA
        rw [if_neg h0, if_pos h1, e1]
      · refine wp_it h1 ?_
        by_cases hd1 : ∃ d, d < n ∧ v2 = nI (10 + d)
        · have eA : lieA n X v2 = if pc (mayG n X (v2 - 10).toNatClampNeg 8) = 1 then nI (chN (mayG n X (v2 - 10).toNatClampNeg 8)) else -1 := by
            unfold lieA
            rw [if_neg h0, if_neg h1, if_pos (i10.mpr hd1)]
          rw [eA]
          obtain ⟨d, hd, rfl⟩ := hd1
          rw [show nI (10 + d) - (10 : Int32) = nI d by
            rw [show (10 : Int32) = nI 10 from rfl, pk_sub (by omega), show 10 + d - 10 = d by omega], nI_clamp (n := d) (by omega)]
          have hm : mayG n X d 8 < 256 := mayG_lt 8
          have hp := pc_le8 _ hm
          refine wp_it ⟨nI_nlt (b := 10) (by omega) (by omega), (hasN hs hn).mpr ⟨d, hd, rfl⟩⟩ ?_
          unfold f_X7_sureGrave
          refine wp_bd2 (wp_bd2Q (gravesC hf hd) fun r μ1 ⟨e1, f1⟩ => wp_l fun x5 h5 => wp_some (wp_some (Or.inl ⟨μ1, ?_, LF.kp f1⟩)))
          have e1 : r = nI (mayG n X d 8) := e1
          rw [e1, bitCountC _ hm] at h5
          rw [h5]
          by_cases c : pc (mayG n X d 8) = 1
          · rw [if_pos c, if_neg (fun z => z (by rw [c]; rfl)), (ntz_2 _ hm).resolve_left (fun z => z c)]
          · rw [if_neg c, if_pos (show ¬ nI (pc (mayG n X d 8)) = (1 : Int32) from fun z => c ((nI_eq (b := 1) (by omega) (by omega)).mp z))]
        · refine wp_ie (fun z => ?_) ?_
          · obtain ⟨d, hd, e⟩ := (hasN hs hn).mp z.2
            exact hd1 ⟨d, hd, by rw [I_sub_nI (a := 10) (m := d) e]⟩
          · by_cases hd2 : ∃ d, d < n ∧ v2 = nI (20 + d)
            · have eA : lieA n X v2 = nI (mayG n X (v2 - 20).toNatClampNeg 8) := by
                unfold lieA
                rw [if_neg h0, if_neg h1, if_neg (fun z => hd1 (i10.mp z)), if_pos (i20.mpr hd2)]
              rw [eA]
              obtain ⟨d, hd, rfl⟩ := hd2
              rw [show nI (20 + d) - (20 : Int32) = nI d by
                rw [show (20 : Int32) = nI 20 from rfl, pk_sub (by omega), show 20 + d - 20 = d by omega], nI_clamp (n := d) (by omega)]
              refine wp_bd2 (wp_it ⟨nI_nlt (b := 20) (by omega) (by omega), (hasN hs hn).mpr ⟨d, hd, rfl⟩⟩ (wp_bd2Q (gravesC hf hd) fun r μ1 ⟨e1, f1⟩ => wp_some (wp_some (Or.inl ⟨μ1, ?_, LF.kp f1⟩))))
              have e1 : r = nI (mayG n X d 8) := e1
              rw [e1]
            · have eA : lieA n X v2 = -2 := by
                unfold lieA
                rw [if_neg h0, if_neg h1, if_neg (fun z => hd1 (i10.mp z)), if_neg (fun z => hd2 (i20.mp z))]
              rw [eA]
              refine wp_bd2 (wp_ie (fun z => ?_) (wp_some (wp_some (Or.inl ⟨μ, rfl, KP.rf μ⟩))))
              obtain ⟨d, hd, e⟩ := (hasN hs hn).mp z.2
              exact hd2 ⟨d, hd, by rw [I_sub_nI (a := 20) (m := d) e]⟩
  · refine wp_ie hneg (wp_some (Or.inr ⟨rfl, ?_⟩))
    unfold lieA
    rw [if_neg (fun z => hneg (by rw [z]; decide)), if_neg (fun z => hneg (by rw [z]; decide)), if_neg (fun z => hneg (Int32.le_trans (by decide) z.1)), if_neg (fun z => hneg (Int32.le_trans (by decide) z.1))]
theorem lies_same (v1 v2 : Int32) : Same (f_X11_lies 0 v1 v2) (f_X12_lies 310 v1 v2) := by
  refine Same.of fun μ hI => ?_
  unfold f_X11_lies
  rcases fog_cases hI v1 with ⟨k, n, X, hk, hv, hF, e1, e2⟩ | ⟨e1, e2⟩
  · obtain ⟨f1, f2, f3, f4, f5, f6⟩ := hF
    have hz : ∀ k, k < 2 → zln (48 + 2 * k + 1) = 24 ∧ zgn (48 + 2 * k) 6 = true := by decide +kernel
    obtain ⟨z1, z2⟩ := hz k hk
    have hfC : FgC (48 + 2 * k) n X μ := ⟨f1, by omega, z1, f2, fun j hj => ⟨f3 j hj, f6 j hj⟩⟩
    refine wp_bdE e1 (wp_bdQ (wp_cs (wp_g z2 (liesC hfC))) fun q hq => ?_)
    have fin : ∀ μ1, KP μ μ1 → wp (f_X12_lies 310 v1 v2 μ1) (fun p2 => p2.1 = lieA n X v2 ∧ KP μ1 p2.2) := by
      intro μ1 kp
      refine liesM (k := k) (n := n) (X := X) ?_ (e2 μ1 (kp 311 (by omega))) hv
      refine ⟨⟨hk, f1⟩, zup_self _ _ _ _, ?_, fun j hj => ⟨?_, f6 j hj⟩⟩
      · rw [zup_rne _ _ _ (by omega), kp 311 (by omega)]
        exact f4
      · rw [zup_rne _ _ _ (by omega), kp 311 (by omega)]
        exact f5 j hj
    rcases hq with ⟨μ1, rfl, kp⟩ | ⟨rfl, e⟩
    · exact wp_suml (wp_some ⟨kp, fin μ1 kp⟩)
    · refine wp_sumr (wp_some ⟨KP.rf μ, ?_⟩)
      have := fin μ (KP.rf μ)
      rw [e] at this
      exact this
  · refine wp_bdE e1 (wp_bd (wp_cn (wp_some (wp_sumr (wp_some ⟨KP.rf μ, ?_⟩)))))
    unfold f_X12_lies
    exact wp_bdE (e2 μ rfl) (wp_ie (fun z => z rfl) (wp_some ⟨rfl, KP.rf μ⟩))
end LIEM
