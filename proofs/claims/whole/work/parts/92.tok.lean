/-! TEXTS: the tokens of a tape (b its bytes, n how many), and how both sides look at them -/
def adv (q : Nat → Bool) (n : Nat) : Nat → Nat → Nat
  | 0, p => p
  | k + 1, p => if p < n ∧ q p = true then adv q n k (p + 1) else p
theorem adv_y {q : Nat → Bool} {n k p : Nat} (h : p < n ∧ q p = true) : adv q n (k + 1) p = adv q n k (p + 1) := if_pos h
theorem adv_n {q : Nat → Bool} {n k p : Nat} (h : ¬ (p < n ∧ q p = true)) : adv q n k p = p := by
  cases k with
  | zero => rfl
  | succ k => exact if_neg h
theorem adv_ge (q : Nat → Bool) (n : Nat) : ∀ k p, p ≤ adv q n k p
  | 0, p => Nat.le_refl _
  | k + 1, p => by
    by_cases w : p < n ∧ q p = true
    · rw [adv_y w]
      exact Nat.le_trans (Nat.le_succ p) (adv_ge q n k (p + 1))
    · rw [adv_n w]
      exact Nat.le_refl _
theorem adv_le (q : Nat → Bool) (n : Nat) : ∀ k p, p ≤ n → adv q n k p ≤ n
  | 0, p, h => h
  | k + 1, p, h => by
    by_cases w : p < n ∧ q p = true
    · rw [adv_y w]
      exact adv_le q n k (p + 1) (by omega)
    · rw [adv_n w]
      exact h
theorem adv_in (q : Nat → Bool) (n : Nat) : ∀ k p i, p ≤ i → i < adv q n k p → i < n ∧ q i = true
  | 0, p, i, h1, h2 => absurd h2 (by show ¬ i < p; omega)
  | k + 1, p, i, h1, h2 => by
    by_cases w : p < n ∧ q p = true
    · rw [adv_y w] at h2
      by_cases hi : i = p
      · rw [hi]
        exact w
      · exact adv_in q n k (p + 1) i (by omega) h2
    · rw [adv_n w] at h2
      exact absurd h2 (by omega)
theorem adv_out (q : Nat → Bool) (n : Nat) : ∀ k p, n - p ≤ k → ¬ (adv q n k p < n ∧ q (adv q n k p) = true)
  | 0, p, h => by
    show ¬ (p < n ∧ _)
    omega
  | k + 1, p, h => by
    by_cases w : p < n ∧ q p = true
    · rw [adv_y w]
      exact adv_out q n k (p + 1) (by omega)
    · rw [adv_n w]
      exact w
def isB (b : Nat → Nat) (i : Nat) : Bool := decide (b i = 10) || decide (b i = 32)
def isL (b : Nat → Nat) (i : Nat) : Bool := decide (97 ≤ b i) && decide (b i ≤ 122)
def isD (b : Nat → Nat) (i : Nat) : Bool := decide (48 ≤ b i) && decide (b i ≤ 57)
/-- behind blanks from p on -/
def tF (b : Nat → Nat) (n p : Nat) : Nat := adv (isB b) n n p
/-- behind the token -/
def tB (b : Nat → Nat) (n p : Nat) : Nat := if tF b n p < n then (if isL b (tF b n p) = true then adv (isL b) n n (tF b n p) else if isD b (tF b n p) = true then adv (isD b) n n (tF b n p) else tF b n p + 1) else tF b n p
/-- 0 the end, 1 letters, 2 a number, 3 a semicolon, 4 none -/
def tK (b : Nat → Nat) (n p : Nat) : Nat := if tF b n p < n then (if isL b (tF b n p) = true then 1 else if isD b (tF b n p) = true then (if tB b n p - tF b n p ≤ 3 then 2 else 4) else if b (tF b n p) = 59 then 3 else 4) else 0
def dv (b : Nat → Nat) (f : Nat) : Nat → Nat
  | 0 => 0
  | k + 1 => 10 * dv b f k + (b (f + k) - 48)
def tN (b : Nat → Nat) (n p : Nat) : Nat := dv b (tF b n p) (min 3 (tB b n p - tF b n p))
def pkw (b : Nat → Nat) (f : Nat) : Nat → Nat
  | 0 => 0
  | k + 1 => 32 * pkw b f k + (b (f + k) - 96)
section TOKENS
variable {b : Nat → Nat} {n p : Nat}
theorem tF_ge : p ≤ tF b n p := adv_ge _ _ _ _
theorem tF_le (h : p ≤ n) : tF b n p ≤ n := adv_le _ _ _ _ h
theorem tB_le (h : p ≤ n) : tB b n p ≤ n := by
  have := tF_le (b := b) h
  unfold tB
  split
  · split
    · exact adv_le _ _ _ _ this
    · split
      · exact adv_le _ _ _ _ this
      · omega
  · exact this
theorem tB_ge : tF b n p ≤ tB b n p := by
  unfold tB
  split
  · split
    · exact adv_ge _ _ _ _
    · split
      · exact adv_ge _ _ _ _
      · omega
  · exact Nat.le_refl _
theorem adv_gt {q : Nat → Bool} {n f : Nat} (h : f < n) (hq : q f = true) : f < adv q n n f := by
  have h2 : 1 ≤ n := by omega
  obtain ⟨m, rfl⟩ : ∃ m, n = m + 1 := ⟨n - 1, by omega⟩
  rw [adv_y ⟨h, hq⟩]
  exact adv_ge q (m + 1) m (f + 1)
theorem tB_gt (h : tF b n p < n) : tF b n p < tB b n p := by
  unfold tB
  rw [if_pos h]
  split
  · rename_i w
    exact adv_gt h w
  · split
    · rename_i w
      exact adv_gt h w
    · omega
theorem tK_0 : tK b n p = 0 ↔ ¬ tF b n p < n := by
  unfold tK
  split
  · rename_i h
    constructor
    · intro w
      exfalso
      split at w
      · exact absurd w (by decide)
      · split at w
        · split at w <;> exact absurd w (by decide)
        · split at w <;> exact absurd w (by decide)
    · intro w
      exact absurd h w
  · rename_i h
    exact ⟨fun _ => h, fun _ => rfl⟩
theorem tK_lt (h : tK b n p ≠ 0) : tF b n p < n := Classical.byContradiction fun w => h (tK_0.mpr w)
theorem tK_le : tK b n p ≤ 4 := by
  unfold tK
  split
  · split
    · decide
    · split
      · split <;> decide
      · split <;> decide
  · decide
theorem tK_fwd (h : tK b n p ≠ 0) : p < tB b n p := Nat.lt_of_le_of_lt tF_ge (tB_gt (tK_lt h))
theorem tB_fwd : p ≤ tB b n p := Nat.le_trans tF_ge tB_ge
theorem dv_lt (hb : ∀ i, b i < 256) (f : Nat) {k : Nat} (hk : k ≤ 3) : dv b f k < 100000 := by
  have a0 := hb (f + 0)
  have a1 := hb (f + 1)
  have a2 := hb (f + 2)
  have : k = 0 ∨ k = 1 ∨ k = 2 ∨ k = 3 := by omega
  rcases this with rfl | rfl | rfl | rfl
  · show (0 : Nat) < 100000
    omega
  · show 10 * 0 + (b (f + 0) - 48) < 100000
    omega
  · show 10 * (10 * 0 + (b (f + 0) - 48)) + (b (f + 1) - 48) < 100000
    omega
  · show 10 * (10 * (10 * 0 + (b (f + 0) - 48)) + (b (f + 1) - 48)) + (b (f + 2) - 48) < 100000
    omega
theorem tN_lt (hb : ∀ i, b i < 256) : tN b n p < 100000 := dv_lt hb _ (Nat.min_le_left _ _)
end TOKENS
/-- one cell changed -/
def U1 (o k : Nat) (v : Int32) (μ μ' : zM) : Prop := μ' o k = v ∧ (∀ q, q ≠ o → μ' q = μ q) ∧ ∀ j, j ≠ k → μ' o j = μ o j
theorem zup_U1 (o k : Nat) (v : Int32) (μ : zM) : U1 o k v μ (zup μ o k v) := ⟨zup_self _ _ _ _, fun q hq => zup_rne _ _ _ hq, fun j hj => zup_ne (by omega)⟩
theorem wp_u {α : Type} {o k : Nat} {v : Int32} {μ : zM} {f : zM → Option α} {P : α → Prop} (h : ∀ μ', U1 o k v μ μ' → wp (f μ') P) : wp (zl (zup μ o k v) f) P := h _ (zup_U1 o k v μ)
theorem wp_some_bd {α β : Type} {a : α} {f : α → Option β} {P : β → Prop} (h : wp (f a) P) : wp (zbd (some a) f) P := h
theorem bne {x c : Nat} (hx : x < 256) (hc : c < 2 ^ 31) (h : x ≠ c) : ¬ nI x = nI c := fun w => h ((nI_eq (by omega) hc).mp w)
/-! the class -/
def TX (b : Nat → Nat) (n : Nat) (μ : zM) : Prop := (n ≤ 600 ∧ ∀ i, b i < 256) ∧ μ 58 4 = nI 2 ∧ μ 58 5 = nI n ∧ ∀ i, i < n → μ 2 i = nI (b i)
/-- what looking changes -/
def FC (μ μ' : zM) : Prop := (∀ o, o ≠ 58 → μ' o = μ o) ∧ ∀ j, j < 6 → μ' 58 j = μ 58 j
theorem FC.rf (μ : zM) : FC μ μ := ⟨fun _ _ => rfl, fun _ _ => rfl⟩
theorem FC.tr {μ μ1 μ2 : zM} (h : FC μ μ1) (k : FC μ1 μ2) : FC μ μ2 := ⟨fun o ho => (k.1 o ho).trans (h.1 o ho), fun j hj => (k.2 j hj).trans (h.2 j hj)⟩
theorem FC.u {μ μ' : zM} {k : Nat} {v : Int32} (hk : 6 ≤ k) (h : U1 58 k v μ μ') : FC μ μ' := ⟨h.2.1, fun j hj => h.2.2 j (by omega)⟩
section TOKC
variable {b : Nat → Nat} {n p : Nat} {μ μ' : zM}
theorem TX.fc (h : TX b n μ) (f : FC μ μ') : TX b n μ' := ⟨h.1, by rw [f.2 4 (by omega)]; exact h.2.1, by rw [f.2 5 (by omega)]; exact h.2.2.1, by rw [f.1 2 (by omega)]; exact h.2.2.2⟩
theorem zkd2 : zkd 2 = 20 := by decide +kernel
theorem zln2 : zln 2 = 600 := by decide +kernel
theorem byteAtC {v : Int32} {i : Nat} (h : TX b n μ) (hv : v = nI i) (hi : i < n) : f_X5_byteAt 58 v μ = some (nI (b i)) := by
  subst hv
  obtain ⟨⟨hn, hb⟩, h4, h5, ht⟩ := h
  refine wp_eq ?_
  unfold f_X5_byteAt
  rw [h4, h5, show (nI 2).toNatClampNeg = 2 from nI_clamp (by omega), zln2]
  refine wp_bd (wp_bd (wp_ie (nI_pos (by omega)) (wp_ie (nI_ge hi (by omega)) (wp_g (zgk_nI zkd2 (by decide)) (wp_ie (nI_ge (b := 600) (by omega) (by omega)) (wp_some (wp_it rfl (wp_g (zgk_nI zkd2 (by decide)) (wp_g (zin_nI (by omega) (by omega)) (wp_some (wp_some ?_)))))))))))
  rw [nI_clamp (by omega)]
  exact ht i hi
theorem byteAtC_end {v : Int32} (h : TX b n μ) (hv : v = nI n) : f_X5_byteAt 58 v μ = some (-1) := by
  subst hv
  obtain ⟨⟨hn, hb⟩, h4, h5, ht⟩ := h
  refine wp_eq ?_
  unfold f_X5_byteAt
  rw [h5]
  exact wp_bd (wp_bd (wp_ie (nI_pos (by omega)) (wp_it (nI_le (Nat.le_refl _) (by omega)) (wp_some (wp_ie (by decide) (wp_some (wp_some rfl)))))))
theorem isB_iff {i : Nat} : isB b i = true ↔ b i = 10 ∨ b i = 32 := by
  unfold isB
  rw [Bool.or_eq_true, decide_eq_true_eq, decide_eq_true_eq]
theorem isL_iff {i : Nat} : isL b i = true ↔ 97 ≤ b i ∧ b i ≤ 122 := by
  unfold isL
  rw [Bool.and_eq_true, decide_eq_true_eq, decide_eq_true_eq]
theorem isD_iff {i : Nat} : isD b i = true ↔ 48 ≤ b i ∧ b i ≤ 57 := by
  unfold isD
  rw [Bool.and_eq_true, decide_eq_true_eq, decide_eq_true_eq]
theorem letC {x : Nat} (hx : x < 256) : f_X5_isLetter (nI x) = b2i (decide (97 ≤ x) && decide (x ≤ 122)) := by
  unfold f_X5_isLetter b2i
  show (if ¬ nI x < nI 97 ∧ ¬ nI 122 < nI x then (1 : Int32) else 0) = _
  by_cases h1 : 97 ≤ x
  · by_cases h2 : x ≤ 122
    · rw [if_pos ⟨nI_nlt h1 (by omega), nI_nlt h2 (by omega)⟩, if_pos (by rw [decide_eq_true h1, decide_eq_true h2]; rfl)]
    · rw [if_neg (fun w => w.2 (nI_lt (by omega) (by omega))), if_neg (by rw [decide_eq_false h2, Bool.and_false]; decide)]
  · rw [if_neg (fun w => w.1 (nI_lt (by omega) (by omega))), if_neg (by rw [decide_eq_false h1, Bool.false_and]; decide)]
theorem tkdC {x : Nat} (hx : x < 256) : f_X5_isDigit (nI x) = b2i (decide (48 ≤ x) && decide (x ≤ 57)) := by
  unfold f_X5_isDigit b2i
  show (if ¬ nI x < nI 48 ∧ ¬ nI 57 < nI x then (1 : Int32) else 0) = _
  by_cases h1 : 48 ≤ x
  · by_cases h2 : x ≤ 57
    · rw [if_pos ⟨nI_nlt h1 (by omega), nI_nlt h2 (by omega)⟩, if_pos (by rw [decide_eq_true h1, decide_eq_true h2]; rfl)]
    · rw [if_neg (fun w => w.2 (nI_lt (by omega) (by omega))), if_neg (by rw [decide_eq_false h2, Bool.and_false]; decide)]
  · rw [if_neg (fun w => w.1 (nI_lt (by omega) (by omega))), if_neg (by rw [decide_eq_false h1, Bool.false_and]; decide)]
theorem letL {i : Nat} (hb : ∀ i, b i < 256) : f_X5_isLetter (nI (b i)) = b2i (isL b i) := letC (hb i)
theorem digD {i : Nat} (hb : ∀ i, b i < 256) : f_X5_isDigit (nI (b i)) = b2i (isD b i) := tkdC (hb i)
theorem b2i_t {q : Bool} (h : q = true) : ¬ b2i q = 0 := by
  rw [h]
  decide
theorem b2i_f {q : Bool} (h : ¬ q = true) : b2i q = 0 := by
  rw [Bool.not_eq_true] at h
  rw [h]
  rfl
theorem skipC : ∀ k p m (μ : zM), TX b n μ → μ 58 7 = nI p → p ≤ n → n - p ≤ k → k < m → wp (f_X5_look_L8 58 m μ) (fun μ' => μ' 58 7 = nI (adv (isB b) n k p) ∧ (∀ o, o ≠ 58 → μ' o = μ o) ∧ ∀ j, j ≠ 7 → μ' 58 j = μ 58 j) := by
  intro k
  induction k with
  | zero =>
    intro p m μ h h7 hp hk hm
    obtain ⟨m, rfl⟩ : ∃ m', m = m' + 1 := ⟨m - 1, by omega⟩
    have hn := h.1.1
    rw [f_X5_look_L8, h.2.2.1, h7]
    refine wp_bd (wp_it (nI_le (by omega) (by omega)) (wp_some (wp_ie (by decide) (wp_some ⟨h7, fun _ _ => rfl, fun _ _ => rfl⟩))))
  | succ k ih =>
    intro p m μ h h7 hp hk hm
    obtain ⟨m, rfl⟩ : ∃ m', m = m' + 1 := ⟨m - 1, by omega⟩
    have hn := h.1.1
    have hb := h.1.2
    rw [f_X5_look_L8, h.2.2.1, h7]
    by_cases hpn : p < n
    · by_cases h1 : b p = 10
      · rw [adv_y ⟨hpn, isB_iff.mpr (Or.inl h1)⟩]
        refine wp_bd (wp_ie (nI_ge hpn (by omega)) (wp_bdE (byteAtC h rfl hpn) (wp_it (by rw [h1]; rfl) (wp_some (wp_it rfl (wp_u fun μ1 u => ?_))))))
        obtain ⟨r, e, r1, r2, r3⟩ := ih (p + 1) m μ1 (h.fc (FC.u (by omega) u)) (by rw [u.1]; exact nI_1 p) (by omega) (by omega) (by omega)
        exact ⟨r, e, r1, fun o ho => (r2 o ho).trans (u.2.1 o ho), fun j hj => (r3 j hj).trans (u.2.2 j hj)⟩
      · by_cases h2 : b p = 32
        · rw [adv_y ⟨hpn, isB_iff.mpr (Or.inr h2)⟩]
          refine wp_bd (wp_ie (nI_ge hpn (by omega)) (wp_bdE (byteAtC h rfl hpn) (wp_ie (bne (c := 10) (hb p) (by omega) h1) (wp_bdE (byteAtC h rfl hpn) (wp_ie (fun w => w (by rw [h2]; rfl)) (wp_some (wp_it rfl (wp_u fun μ1 u => ?_))))))))
          obtain ⟨r, e, r1, r2, r3⟩ := ih (p + 1) m μ1 (h.fc (FC.u (by omega) u)) (by rw [u.1]; exact nI_1 p) (by omega) (by omega) (by omega)
          exact ⟨r, e, r1, fun o ho => (r2 o ho).trans (u.2.1 o ho), fun j hj => (r3 j hj).trans (u.2.2 j hj)⟩
        · rw [adv_n (fun w => (isB_iff.mp w.2).elim h1 h2)]
          exact wp_bd (wp_ie (nI_ge hpn (by omega)) (wp_bdE (byteAtC h rfl hpn) (wp_ie (bne (c := 10) (hb p) (by omega) h1) (wp_bdE (byteAtC h rfl hpn) (wp_it (bne (c := 32) (hb p) (by omega) h2) (wp_some (wp_ie (by decide) (wp_some ⟨h7, fun _ _ => rfl, fun _ _ => rfl⟩))))))))
    · rw [adv_n (fun w => hpn w.1)]
      exact wp_bd (wp_it (nI_le (by omega) (by omega)) (wp_some (wp_ie (by decide) (wp_some ⟨h7, fun _ _ => rfl, fun _ _ => rfl⟩))))
theorem lettersC : ∀ k p m (μ : zM), TX b n μ → μ 58 8 = nI p → p ≤ n → n - p ≤ k → k < m → wp (f_X5_look_L100 58 m μ) (fun μ' => μ' 58 8 = nI (adv (isL b) n k p) ∧ (∀ o, o ≠ 58 → μ' o = μ o) ∧ ∀ j, j ≠ 8 → μ' 58 j = μ 58 j) := by
  intro k
  induction k with
  | zero =>
    intro p m μ h h7 hp hk hm
    obtain ⟨m, rfl⟩ : ∃ m', m = m' + 1 := ⟨m - 1, by omega⟩
    have hn := h.1.1
    rw [f_X5_look_L100, h.2.2.1, h7]
    refine wp_bd (wp_it (nI_le (by omega) (by omega)) (wp_some (wp_ie (by decide) (wp_some ⟨h7, fun _ _ => rfl, fun _ _ => rfl⟩))))
  | succ k ih =>
    intro p m μ h h7 hp hk hm
    obtain ⟨m, rfl⟩ : ∃ m', m = m' + 1 := ⟨m - 1, by omega⟩
    have hn := h.1.1
    have hb := h.1.2
    rw [f_X5_look_L100, h.2.2.1, h7]
    by_cases hpn : p < n
    · by_cases h1 : isL b p = true
      · rw [adv_y ⟨hpn, h1⟩]
        refine wp_bd (wp_ie (nI_ge hpn (by omega)) (wp_bdE (byteAtC h rfl hpn) (wp_ie (by rw [letL hb]; exact b2i_t h1) (wp_some (wp_it rfl (wp_u fun μ1 u => ?_))))))
        obtain ⟨r, e, r1, r2, r3⟩ := ih (p + 1) m μ1 (h.fc (FC.u (by omega) u)) (by rw [u.1]; exact nI_1 p) (by omega) (by omega) (by omega)
        exact ⟨r, e, r1, fun o ho => (r2 o ho).trans (u.2.1 o ho), fun j hj => (r3 j hj).trans (u.2.2 j hj)⟩
      · rw [adv_n (fun w => h1 w.2)]
        exact wp_bd (wp_ie (nI_ge hpn (by omega)) (wp_bdE (byteAtC h rfl hpn) (wp_it (by rw [letL hb]; exact b2i_f h1) (wp_some (wp_ie (by decide) (wp_some ⟨h7, fun _ _ => rfl, fun _ _ => rfl⟩))))))
    · rw [adv_n (fun w => hpn w.1)]
      exact wp_bd (wp_it (nI_le (by omega) (by omega)) (wp_some (wp_ie (by decide) (wp_some ⟨h7, fun _ _ => rfl, fun _ _ => rfl⟩))))
theorem min3 {q f : Nat} (h : ¬ 3 ≤ q - f) (hf : f ≤ q) : min 3 (q - f) = q - f ∧ min 3 (q + 1 - f) = q - f + 1 := by omega
theorem min3' {q f : Nat} (h : 3 ≤ q - f) : min 3 (q - f) = 3 ∧ min 3 (q + 1 - f) = 3 := by omega
theorem digitsC {f : Nat} : ∀ k p m (μ : zM), TX b n μ → f ≤ p → μ 58 7 = nI f → μ 58 8 = nI p → μ 58 9 = nI (dv b f (min 3 (p - f))) → p ≤ n → n - p ≤ k → k < m → wp (f_X5_lookAtDigits_L5 58 m μ) (fun μ' => (μ' 58 8 = nI (adv (isD b) n k p) ∧ μ' 58 9 = nI (dv b f (min 3 (adv (isD b) n k p - f)))) ∧ (∀ o, o ≠ 58 → μ' o = μ o) ∧ ∀ j, j < 8 → μ' 58 j = μ 58 j) := by
  intro k
  induction k with
  | zero =>
    intro p m μ h hf e7 h7 h9 hp hk hm
    obtain ⟨m, rfl⟩ : ∃ m', m = m' + 1 := ⟨m - 1, by omega⟩
    have hn := h.1.1
    rw [f_X5_lookAtDigits_L5, h.2.2.1, h7]
    refine wp_bd (wp_it (nI_le (by omega) (by omega)) (wp_some (wp_ie (by decide) (wp_some ⟨⟨h7, h9⟩, fun _ _ => rfl, fun _ _ => rfl⟩))))
  | succ k ih =>
    intro p m μ h hf e7 h7 h9 hp hk hm
    obtain ⟨m, rfl⟩ : ∃ m', m = m' + 1 := ⟨m - 1, by omega⟩
    have hn := h.1.1
    have hb := h.1.2
    rw [f_X5_lookAtDigits_L5, h.2.2.1, h7, e7, pk_sub hf]
    by_cases hpn : p < n
    · by_cases h1 : isD b p = true
      · rw [adv_y ⟨hpn, h1⟩]
        have hd := isD_iff.mp h1
        refine wp_bd (wp_ie (nI_ge hpn (by omega)) (wp_bdE (byteAtC h rfl hpn) (wp_ie (by rw [digD hb]; exact b2i_t h1) (wp_some (wp_it rfl (wp_bdQ (Q := fun x => x = nI (dv b f (min 3 (p + 1 - f)))) ?_ fun x hx => ?_))))))
        · by_cases h3 : 3 ≤ p - f
          · refine wp_it (nI_le h3 (by omega)) (wp_some ?_)
            rw [h9, (min3' h3).1, (min3' h3).2]
          · refine wp_ie (nI_ge (b := 3) (by omega) (by omega)) (wp_bdE (byteAtC h rfl hpn) (wp_some ?_))
            rw [h9, (min3 h3 hf).1, (min3 h3 hf).2]
            show nI (dv b f (p - f)) * nI 10 + nI (b p) - nI 48 = nI (10 * dv b f (p - f) + (b (f + (p - f)) - 48))
            rw [pk_mul, nI_add, pk_sub (by omega), show f + (p - f) = p by omega]
            congr 1
            omega
        · refine wp_u fun μ1 u1 => wp_u fun μ2 u2 => ?_
          have g8 : μ1 58 8 = nI p := by rw [u1.2.2 8 (by omega)]; exact h7
          obtain ⟨r, e, r1, r2, r3⟩ := ih (p + 1) m μ2 ((h.fc (FC.u (by omega) u1)).fc (FC.u (by omega) u2)) (by omega) (by rw [u2.2.2 7 (by omega), u1.2.2 7 (by omega)]; exact e7) (by rw [u2.1, g8]; exact nI_1 p) (by rw [u2.2.2 9 (by omega), u1.1]; exact hx) (by omega) (by omega) (by omega)
          exact ⟨r, e, r1, fun o ho => ((r2 o ho).trans (u2.2.1 o ho)).trans (u1.2.1 o ho), fun j hj => ((r3 j hj).trans (u2.2.2 j (by omega))).trans (u1.2.2 j (by omega))⟩
      · rw [adv_n (fun w => h1 w.2)]
        exact wp_bd (wp_ie (nI_ge hpn (by omega)) (wp_bdE (byteAtC h rfl hpn) (wp_it (by rw [digD hb]; exact b2i_f h1) (wp_some (wp_ie (by decide) (wp_some ⟨⟨h7, h9⟩, fun _ _ => rfl, fun _ _ => rfl⟩))))))
    · rw [adv_n (fun w => hpn w.1)]
      exact wp_bd (wp_it (nI_le (by omega) (by omega)) (wp_some (wp_ie (by decide) (wp_some ⟨⟨h7, h9⟩, fun _ _ => rfl, fun _ _ => rfl⟩))))
/-- the class has looked at the token from p on -/
def TC (b : Nat → Nat) (n p : Nat) (μ : zM) : Prop := μ 58 6 = nI (tK b n p) ∧ μ 58 7 = nI (tF b n p) ∧ μ 58 8 = nI (tB b n p) ∧ (tK b n p = 2 → μ 58 9 = nI (tN b n p))
theorem tlookC (h : TX b n μ) (h8 : μ 58 8 = nI p) (hp : p ≤ n) : wp (f_X5_look 58 μ) (fun μ' => TC b n p μ' ∧ FC μ μ') := by
  have hn := h.1.1
  have hb := h.1.2
  have hfl := tF_le (b := b) hp
  unfold f_X5_look
  refine wp_u fun μ1 u1 => wp_bdQ (skipC n p zFU μ1 (h.fc (FC.u (by omega) u1)) (by rw [u1.1]; exact h8) hp (by omega) (by unfold zFU; omega)) fun μ2 ⟨a7, ao, aj⟩ => wp_u fun μ3 u3 => ?_
  have a7 : μ2 58 7 = nI (tF b n p) := a7
  have f2 : FC μ1 μ2 := ⟨ao, fun j hj => aj j (by omega)⟩
  have f3 : FC μ μ3 := ((FC.u (by omega) u1).tr f2).tr (FC.u (by omega) u3)
  have x3 : TX b n μ3 := h.fc f3
  have b7 : μ3 58 7 = nI (tF b n p) := by rw [u3.2.2 7 (by omega)]; exact a7
  have b8 : μ3 58 8 = nI (tF b n p) := by rw [u3.1]; exact a7
  rw [b7]
  by_cases hl : tF b n p < n
  · refine wp_bdE (byteAtC x3 rfl hl) (wp_bd (wp_it (nI_nm1 (by have := hb (tF b n p); omega)) ?_))
    rw [letL hb, digD hb]
    by_cases hL : isL b (tF b n p) = true
    · refine wp_ie (b2i_t hL) (wp_u fun μ4 u4 => wp_bdQ (lettersC n (tF b n p) zFU μ4 (x3.fc (FC.u (by omega) u4)) (by rw [u4.2.2 8 (by omega)]; exact b8) hfl (by omega) (by unfold zFU; omega)) fun μ5 ⟨c8, co, cj⟩ => wp_some (wp_some ⟨?_, f3.tr ((FC.u (by omega) u4).tr ⟨co, fun j hj => cj j (by omega)⟩)⟩))
      have k1 : tK b n p = 1 := by unfold tK; rw [if_pos hl, if_pos hL]
      refine ⟨by rw [cj 6 (by omega), u4.1, k1]; rfl, by rw [cj 7 (by omega), u4.2.2 7 (by omega)]; exact b7, ?_, fun w => by omega⟩
      rw [c8]
      unfold tB
      rw [if_pos hl, if_pos hL]
    · refine wp_it (b2i_f hL) ?_
      by_cases hD : isD b (tF b n p) = true
      · refine wp_ie (b2i_t hD) (wp_bd ?_)
        have tb : tB b n p = adv (isD b) n n (tF b n p) := by
          unfold tB
          rw [if_pos hl, if_neg hL, if_pos hD]
        have gf := adv_ge (isD b) n n (tF b n p)
        have gl := adv_le (isD b) n n (tF b n p) hfl
        unfold f_X5_lookAtDigits
        refine wp_u fun μ4 u4 => wp_bdQ (digitsC (f := tF b n p) n (tF b n p) zFU μ4 (x3.fc (FC.u (by omega) u4)) (Nat.le_refl _) (by rw [u4.2.2 7 (by omega)]; exact b7) (by rw [u4.2.2 8 (by omega)]; exact b8) (by rw [u4.1, Nat.sub_self]; rfl) hfl (by omega) (by unfold zFU; omega)) fun μ5 ⟨⟨c8, c9⟩, co, cj⟩ => wp_ls (wp_u fun μ6 u6 => wp_some (wp_some (wp_some ⟨?_, f3.tr ((FC.u (by omega) u4).tr (FC.tr ⟨co, fun j hj => cj j (by omega)⟩ (FC.u (by omega) u6)))⟩)))
        rw [← tb] at c8 c9 gf gl
        have c7 : μ5 58 7 = nI (tF b n p) := by rw [cj 7 (by omega), u4.2.2 7 (by omega)]; exact b7
        have k2 : tK b n p = if tB b n p - tF b n p ≤ 3 then 2 else 4 := by unfold tK; rw [if_pos hl, if_neg hL, if_pos hD]
        refine ⟨?_, by rw [u6.2.2 7 (by omega)]; exact c7, by rw [u6.2.2 8 (by omega)]; exact c8, fun _ => by rw [u6.2.2 9 (by omega)]; exact c9⟩
        rw [u6.1, c8, c7, pk_sub gf, k2]
        by_cases h3 : tB b n p - tF b n p ≤ 3
        · rw [if_neg (show ¬ (3 : Int32) < nI (tB b n p - tF b n p) from nI_nlt (a := 3) h3 (by omega)), if_pos h3]
          rfl
        · rw [if_pos (show (3 : Int32) < nI (tB b n p - tF b n p) from nI_lt (a := 3) (by omega) (by omega)), if_neg h3]
          rfl
      · refine wp_it (b2i_f hD) (wp_ls (wp_u fun μ4 u4 => wp_u fun μ5 u5 => wp_some (wp_some ⟨?_, f3.tr ((FC.u (by omega) u4).tr (FC.u (by omega) u5))⟩)))
        have tb : tB b n p = tF b n p + 1 := by
          unfold tB
          rw [if_pos hl, if_neg hL, if_neg hD]
        have k2 : tK b n p = if b (tF b n p) = 59 then 3 else 4 := by unfold tK; rw [if_pos hl, if_neg hL, if_neg hD]
        refine ⟨?_, by rw [u5.2.2 7 (by omega), u4.2.2 7 (by omega)]; exact b7, by rw [u5.1, u4.2.2 8 (by omega), b8, tb]; exact nI_1 _, fun w => ?_⟩
        · rw [u5.2.2 6 (by omega), u4.1, k2]
          by_cases h59 : b (tF b n p) = 59
          · rw [if_neg (fun w => w (by rw [h59]; rfl)), if_pos h59]
            rfl
          · rw [if_pos (show ¬ nI (b (tF b n p)) = (59 : Int32) from bne (c := 59) (hb _) (by omega) h59), if_neg h59]
            rfl
        · rw [k2] at w
          split at w <;> omega
  · have e : tF b n p = n := by omega
    refine wp_bdE (byteAtC_end x3 (by rw [e])) (wp_bd (wp_ie (fun w => w rfl) (wp_u fun μ4 u4 => wp_some (wp_some ⟨?_, f3.tr (FC.u (by omega) u4)⟩))))
    have k0 := tK_0.mpr hl
    refine ⟨by rw [u4.1, k0]; rfl, by rw [u4.2.2 7 (by omega)]; exact b7, ?_, fun w => by omega⟩
    rw [u4.2.2 8 (by omega), b8]
    unfold tB
    rw [if_neg hl]
end TOKC
