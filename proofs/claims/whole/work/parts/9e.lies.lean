/-! lies: in how many ways the dead can lie -/
def sN : Nat → (Nat → Nat) → Nat
  | 0, _ => 0
  | n + 1, f => sN n f + f n
theorem sN_congr {f g : Nat → Nat} : ∀ n, (∀ k, k < n → f k = g k) → sN n f = sN n g
  | 0, _ => rfl
  | n + 1, h => by
    show sN n f + f n = sN n g + g n
    rw [sN_congr n (fun k hk => h k (by omega)), h n (by omega)]
theorem sN_add {f g : Nat → Nat} : ∀ n, sN n (fun k => f k + g k) = sN n f + sN n g
  | 0 => rfl
  | n + 1 => by
    show sN n (fun k => f k + g k) + (f n + g n) = sN n f + f n + (sN n g + g n)
    rw [sN_add n]
    omega
theorem sN_0 {f : Nat → Nat} : ∀ n, (∀ k, k < n → f k = 0) → sN n f = 0
  | 0, _ => rfl
  | n + 1, h => by
    show sN n f + f n = 0
    rw [sN_0 n (fun k hk => h k (by omega)), h n (by omega)]
theorem sN_swap {n : Nat} {f : Nat → Nat → Nat} : ∀ k, sN k (fun j => sN n (fun i => f i j)) = sN n (fun i => sN k (fun j => f i j))
  | 0 => (sN_0 n (fun _ _ => rfl)).symm
  | k + 1 => by
    show sN k (fun j => sN n (fun i => f i j)) + sN n (fun i => f i k) = sN n (fun i => sN k (fun j => f i j) + f i k)
    rw [sN_swap k, sN_add]
theorem sN_pick {f : Nat → Nat} {d : Nat} : ∀ n, d < n → sN n f = sN n (fun i => if i = d then 0 else f i) + f d
  | 0, h => by omega
  | n + 1, h => by
    show sN n f + f n = sN n (fun i => if i = d then 0 else f i) + (if n = d then 0 else f n) + f d
    by_cases e : n = d
    · subst e
      rw [if_pos rfl, ← sN_congr n (f := f) (g := fun i => if i = n then 0 else f i) (fun i hi => (if_neg (show ¬ i = n by omega)).symm)]
      omega
    · rw [if_neg e, sN_pick (f := f) (d := d) n (by omega)]
      omega
theorem sN_le {f : Nat → Nat} {B : Nat} : ∀ n, (∀ k, k < n → f k ≤ B) → sN n f ≤ n * B
  | 0, _ => Nat.zero_le _
  | n + 1, h => by
    have ih := sN_le (f := f) (B := B) n (fun k hk => h k (by omega))
    have := h n (by omega)
    show sN n f + f n ≤ (n + 1) * B
    rw [Nat.succ_mul]
    omega
/-- one less -/
def rm (S d : Nat) : Nat := S ^^^ (S &&& 2 ^ d)
theorem rm_bit (S d j : Nat) : (rm S d).testBit j = (S.testBit j && decide (j ≠ d)) := by
  unfold rm
  rw [Nat.testBit_xor, Nat.testBit_and, Nat.testBit_two_pow]
  by_cases e : j = d
  · rw [decide_eq_true e.symm, decide_eq_false (fun w => w e)]
    cases S.testBit j <;> rfl
  · rw [decide_eq_false (fun w => e w.symm), decide_eq_true e]
    cases S.testBit j <;> rfl
theorem rm_self (S d : Nat) : (rm S d).testBit d = false := by
  rw [rm_bit, decide_eq_false (show ¬ (d ≠ d) from fun w => w rfl), Bool.and_false]
theorem rm_ne {S d j : Nat} (h : j ≠ d) : (rm S d).testBit j = S.testBit j := by
  rw [rm_bit, decide_eq_true h, Bool.and_true]
theorem rm_comm (S d e : Nat) : rm (rm S d) e = rm (rm S e) d := by
  refine Nat.eq_of_testBit_eq fun j => ?_
  rw [rm_bit, rm_bit, rm_bit, rm_bit]
  cases S.testBit j <;> cases decide (j ≠ d) <;> cases decide (j ≠ e) <;> rfl
theorem rm_lt {S d m : Nat} (h : S < 2 ^ m) : rm S d < 2 ^ m := Nat.xor_lt_two_pow h (Nat.lt_of_le_of_lt Nat.and_le_left h)
theorem rm_less : ∀ S, S < 256 → ∀ d, d < 8 → S.testBit d = true → rm S d < S := by decide +kernel
theorem bt1 : ∀ S, S < 256 → ∀ d, d < 8 → ((nI S &&& nI (2 ^ d) = 0) ↔ S.testBit d = false) := by decide +kernel
theorem bt2 : ∀ S, S < 256 → ∀ d, d < 8 → S.testBit d = true → nI S ^^^ nI (2 ^ d) = nI (rm S d) := by decide +kernel
theorem bt3 : ∀ S, S < 256 → ∀ d, d < 8 → S.testBit d = true → nI S &&& (nI (2 ^ d) ^^^ (-1 : Int32)) = nI (rm S d) := by decide +kernel
theorem bt4 : ∀ n, n < 9 → ∀ f, f < 256 → f < 2 ^ n → nI (2 ^ n - 1) &&& (nI f ^^^ (-1 : Int32)) = nI (2 ^ n - 1 - f) ∧ nI (2 ^ n - 1) ^^^ nI f = nI (2 ^ n - 1 - f) := by decide +kernel
theorem bt5 : ∀ G, G < 256 → ∀ j, j < 8 → (255 - G).testBit j = !G.testBit j := by decide +kernel
/-- with one grave more -/
def xt (n : Nat) (X : Nat → Nat) (g : Nat) (F : Nat → Nat) : Nat → Nat := fun S => F S + sN n (fun d => if S.testBit d = true ∧ (X d).testBit g = true then F (rm S d) else 0)
/-- the ways of S in those of the first k graves, in the order o, that G holds -/
def cw (n : Nat) (X : Nat → Nat) (o : Nat → Nat) (G : Nat) : Nat → Nat → Nat
  | 0 => fun S => if S = 0 then 1 else 0
  | k + 1 => if G.testBit (o k) = true then xt n X (o k) (cw n X o G k) else cw n X o G k
section WAYS
variable {n : Nat} {X : Nat → Nat} {o : Nat → Nat}
theorem cw_le {G : Nat} (hn : n ≤ 8) : ∀ k S, cw n X o G k S ≤ 9 ^ k
  | 0, S => by
    show (if S = 0 then 1 else 0) ≤ 1
    split <;> omega
  | k + 1, S => by
    have ih := cw_le (G := G) hn k
    rw [Nat.pow_succ]
    unfold cw
    split
    · unfold xt
      have h1 := ih S
      have h2 := sN_le (f := fun d => if S.testBit d = true ∧ (X d).testBit (o k) = true then cw n X o G k (rm S d) else 0) (B := 9 ^ k) n (fun d _ => by
        show (if _ then _ else _) ≤ _
        split
        · exact ih _
        · omega)
      have h3 : n * 9 ^ k ≤ 8 * 9 ^ k := Nat.mul_le_mul hn (Nat.le_refl _)
      omega
    · have := ih S
      omega
theorem cw_G {G G' : Nat} : ∀ k, (∀ j, j < k → G.testBit (o j) = G'.testBit (o j)) → cw n X o G k = cw n X o G' k
  | 0, _ => rfl
  | k + 1, h => by
    unfold cw
    rw [cw_G k (fun j hj => h j (by omega)), h k (by omega)]
theorem cw_S0 {G : Nat} : ∀ k, cw n X o G k 0 = 1
  | 0 => rfl
  | k + 1 => by
    have ih := cw_S0 (G := G) k
    unfold cw
    split
    · unfold xt
      rw [ih, sN_0 n (fun d _ => if_neg (fun w => by
        have := w.1
        rw [Nat.zero_testBit] at this
        exact absurd this (by decide)))]
    · exact ih
theorem cw_no {G : Nat} : ∀ k, (∀ j, j < k → G.testBit (o j) = false) → cw n X o G k = cw n X o G 0
  | 0, _ => rfl
  | k + 1, h => by
    have ih := cw_no k (fun j hj => h j (by omega))
    rw [← ih]
    show (if G.testBit (o k) = true then _ else _) = _
    rw [if_neg (by rw [h k (by omega)]; decide)]
theorem cw_exp {d : Nat} (ho : ∀ i j, i < 8 → j < 8 → o i = o j → i = j) (hd : d < n) : ∀ k, k ≤ 8 → ∀ G S, S.testBit d = true →
    cw n X o G k S = sN k (fun j => if G.testBit (o j) = true ∧ (X d).testBit (o j) = true then cw n X o (rm G (o j)) k (rm S d) else 0)
  | 0, _, G, S, hS => by
    show (if S = 0 then 1 else 0) = 0
    refine if_neg (fun w => ?_)
    rw [w, Nat.zero_testBit] at hS
    exact absurd hS (by decide)
  | k + 1, hk, G, S, hS => by
    have ih := cw_exp ho hd k (by omega)
    have hrk : ∀ j, j < k → (rm G (o j)).testBit (o k) = G.testBit (o k) := fun j hj => by
      exact rm_ne (fun w => by have := ho k j (by omega) (by omega) w; omega)
    by_cases c : G.testBit (o k) = true
    · have e1 : cw n X o G (k + 1) S = cw n X o G k S + sN n (fun d' => if S.testBit d' = true ∧ (X d').testBit (o k) = true then cw n X o G k (rm S d') else 0) := by
        show (if G.testBit (o k) = true then xt n X (o k) (cw n X o G k) else cw n X o G k) S = _
        rw [if_pos c]
        rfl
      have e2 : ∀ j, j < k → cw n X o (rm G (o j)) (k + 1) (rm S d) = cw n X o (rm G (o j)) k (rm S d) + sN n (fun d' => if (rm S d).testBit d' = true ∧ (X d').testBit (o k) = true then cw n X o (rm G (o j)) k (rm (rm S d) d') else 0) := fun j hj => by
        show (if (rm G (o j)).testBit (o k) = true then xt n X (o k) (cw n X o (rm G (o j)) k) else cw n X o (rm G (o j)) k) (rm S d) = _
        rw [if_pos (by rw [hrk j hj]; exact c)]
        rfl
      have e3 : cw n X o (rm G (o k)) (k + 1) (rm S d) = cw n X o G k (rm S d) := by
        show (if (rm G (o k)).testBit (o k) = true then xt n X (o k) (cw n X o (rm G (o k)) k) else cw n X o (rm G (o k)) k) (rm S d) = _
        rw [if_neg (by rw [rm_self]; decide)]
        rw [cw_G k (fun j hj => rm_ne (fun w => by have := ho j k (by omega) (by omega) w; omega))]
      show cw n X o G (k + 1) S = sN k (fun j => if G.testBit (o j) = true ∧ (X d).testBit (o j) = true then cw n X o (rm G (o j)) (k + 1) (rm S d) else 0) + (if G.testBit (o k) = true ∧ (X d).testBit (o k) = true then cw n X o (rm G (o k)) (k + 1) (rm S d) else 0)
      rw [e1, e3, sN_pick (f := fun d' => if S.testBit d' = true ∧ (X d').testBit (o k) = true then cw n X o G k (rm S d') else 0) n hd]
      -- the sum over the other dead, the graves' sum taken out
      have e4 : sN k (fun j => if G.testBit (o j) = true ∧ (X d).testBit (o j) = true then cw n X o (rm G (o j)) (k + 1) (rm S d) else 0) = sN k (fun j => if G.testBit (o j) = true ∧ (X d).testBit (o j) = true then cw n X o (rm G (o j)) k (rm S d) else 0) + sN n (fun d' => sN k (fun j => if (rm S d).testBit d' = true ∧ (X d').testBit (o k) = true then (if G.testBit (o j) = true ∧ (X d).testBit (o j) = true then cw n X o (rm G (o j)) k (rm (rm S d) d') else 0) else 0)) := by
        rw [← sN_swap (n := n) k, ← sN_add]
        refine sN_congr k (fun j hj => ?_)
        by_cases q : G.testBit (o j) = true ∧ (X d).testBit (o j) = true
        · rw [if_pos q, if_pos q, e2 j hj]
          congr 1
          refine sN_congr n (fun d' _ => ?_)
          rw [if_pos q]
        · rw [if_neg q, if_neg q, Nat.zero_add]
          refine (sN_0 n (fun d' _ => ?_)).symm
          rw [if_neg q]
          split <;> rfl
      have e5 : sN n (fun d' => sN k (fun j => if (rm S d).testBit d' = true ∧ (X d').testBit (o k) = true then (if G.testBit (o j) = true ∧ (X d).testBit (o j) = true then cw n X o (rm G (o j)) k (rm (rm S d) d') else 0) else 0)) = sN n (fun i => if i = d then 0 else if S.testBit i = true ∧ (X i).testBit (o k) = true then cw n X o G k (rm S i) else 0) := by
        refine sN_congr n (fun d' _ => ?_)
        by_cases ed : d' = d
        · rw [if_pos ed]
          refine sN_0 k (fun j _ => if_neg (fun w => ?_))
          have := w.1
          rw [ed, rm_self] at this
          exact absurd this (by decide)
        · rw [if_neg ed]
          have eb : (rm S d).testBit d' = S.testBit d' := rm_ne ed
          by_cases q : S.testBit d' = true ∧ (X d').testBit (o k) = true
          · rw [if_pos q, ih G (rm S d') (by rw [rm_ne (fun w => ed w.symm)]; exact hS)]
            refine sN_congr k (fun j _ => ?_)
            rw [if_pos (by rw [eb]; exact q), rm_comm S d d']
          · rw [if_neg q]
            exact sN_0 k (fun j _ => if_neg (by rw [eb]; exact q))
      rw [e4, e5, ← ih G S hS]
      have e6 : (if S.testBit d = true ∧ (X d).testBit (o k) = true then cw n X o G k (rm S d) else 0) = (if G.testBit (o k) = true ∧ (X d).testBit (o k) = true then cw n X o G k (rm S d) else 0) := by
        by_cases q : (X d).testBit (o k) = true
        · rw [if_pos ⟨hS, q⟩, if_pos ⟨c, q⟩]
        · rw [if_neg (fun w => q w.2), if_neg (fun w => q w.2)]
      rw [e6]
      omega
    · have e1 : cw n X o G (k + 1) S = cw n X o G k S := by
        show (if G.testBit (o k) = true then xt n X (o k) (cw n X o G k) else cw n X o G k) S = _
        rw [if_neg c]
      show cw n X o G (k + 1) S = sN k (fun j => if G.testBit (o j) = true ∧ (X d).testBit (o j) = true then cw n X o (rm G (o j)) (k + 1) (rm S d) else 0) + (if G.testBit (o k) = true ∧ (X d).testBit (o k) = true then cw n X o (rm G (o k)) (k + 1) (rm S d) else 0)
      rw [e1, if_neg (fun w => c w.1), Nat.add_zero, ih G S hS]
      refine sN_congr k (fun j hj => ?_)
      have e2 : cw n X o (rm G (o j)) (k + 1) (rm S d) = cw n X o (rm G (o j)) k (rm S d) := by
        show (if (rm G (o j)).testBit (o k) = true then xt n X (o k) (cw n X o (rm G (o j)) k) else cw n X o (rm G (o j)) k) (rm S d) = _
        rw [if_neg (by rw [hrk j hj]; exact c)]
      rw [e2]
def oA (k : Nat) : Nat := k
def oB (k : Nat) : Nat := 7 - k
theorem oA_inj : ∀ i j, i < 8 → j < 8 → oA i = oA j → i = j := fun _ _ _ _ h => h
theorem oB_inj : ∀ i j, i < 8 → j < 8 → oB i = oB j → i = j := fun i j hi hj h => by
  unfold oB at h
  omega
theorem sN_rev {h : Nat → Nat} : sN 8 (fun j => h (7 - j)) = sN 8 h := by
  show 0 + h 7 + h 6 + h 5 + h 4 + h 3 + h 2 + h 1 + h 0 = 0 + h 0 + h 1 + h 2 + h 3 + h 4 + h 5 + h 6 + h 7
  omega
theorem bit_of {S n : Nat} (h : S < 2 ^ n) (h0 : S ≠ 0) : ∃ d, d < n ∧ S.testBit d = true := by
  refine Classical.byContradiction fun w => h0 (Nat.eq_of_testBit_eq fun d => ?_)
  rw [Nat.zero_testBit]
  by_cases c : d < n
  · exact Bool.eq_false_iff.mpr (fun q => w ⟨d, c, q⟩)
  · exact Nat.testBit_lt_two_pow (Nat.lt_of_lt_of_le h (Nat.pow_le_pow_right (by omega) (by omega)))
theorem cw_ord (hn : n ≤ 8) : ∀ m S, S < m → S < 2 ^ n → ∀ G, cw n X oB G 8 S = cw n X oA G 8 S
  | 0, S, h, _, _ => by omega
  | m + 1, S, hm, hS, G => by
    by_cases c : S = 0
    · rw [c, cw_S0, cw_S0]
    · obtain ⟨d, d1, d2⟩ := bit_of hS c
      have h256 : 2 ^ n ≤ 2 ^ 8 := Nat.pow_le_pow_right (by omega) hn
      have hl := rm_less S (by omega) d (by omega) d2
      rw [cw_exp oB_inj d1 8 (Nat.le_refl _) G S d2, cw_exp oA_inj d1 8 (Nat.le_refl _) G S d2]
      rw [← sN_rev (h := fun j => if G.testBit (oA j) = true ∧ (X d).testBit (oA j) = true then cw n X oA (rm G (oA j)) 8 (rm S d) else 0)]
      refine sN_congr 8 (fun j hj => ?_)
      show (if G.testBit (7 - j) = true ∧ (X d).testBit (7 - j) = true then cw n X oB (rm G (7 - j)) 8 (rm S d) else 0) = if G.testBit (7 - j) = true ∧ (X d).testBit (7 - j) = true then cw n X oA (rm G (7 - j)) 8 (rm S d) else 0
      rw [cw_ord hn m (rm S d) (by omega) (rm_lt hS)]
end WAYS
theorem p98 : (9 : Nat) ^ 8 < 2 ^ 26 := by decide
/-! the class's rows -/
def FgC (w n : Nat) (X : Nat → Nat) (μ : zM) : Prop := n ≤ 8 ∧ w + 1 < 87 ∧ zln (w + 1) = 24 ∧ μ w 2 = nI n ∧ ∀ j, j < n → μ (w + 1) (3 * j + 0) = nI (X j) ∧ X j < 256
theorem FgC.congr {w n : Nat} {X : Nat → Nat} {μ μ' : zM} (h : FgC w n X μ) (e : ∀ o, o < 87 → μ' o = μ o) : FgC w n X μ' := by
  refine ⟨h.1, h.2.1, h.2.2.1, ?_, fun j hj => ?_⟩
  · rw [e w (by have := h.2.1; omega)]
    exact h.2.2.2.1
  · rw [e (w + 1) h.2.1]
    exact h.2.2.2.2 j hj
def FRow (c : Nat) (F : Nat → Nat) (μ : zM) : Prop := ∀ S, S < 256 → μ c S = nI (F S)
theorem FRow.congr {c : Nat} {F : Nat → Nat} {μ μ' : zM} (h : FRow c F μ) (e : μ' c = μ c) : FRow c F μ' := fun S hS => by
  rw [e]
  exact h S hS
theorem zln_rows : ∀ k, k < 9 → zln (113 + k) = 256 ∧ zln (123 + k) = 256 := by decide +kernel
section LIEC
variable {w n : Nat} {X : Nat → Nat} {μ : zM}
theorem beginC {c : Nat} (hc : zln c = 256) : wp (f_X7_begin c μ) (fun μ' => FRow c (fun S => if S = 0 then 1 else 0) μ' ∧ ∀ o, o ≠ c → μ' o = μ o) := by
  unfold f_X7_begin
  refine wp_bdQ (Q := fun μ' => FRow c (fun S => if S = 0 then 1 else 0) μ' ∧ ∀ o, o ≠ c → μ' o = μ o) ?_ (fun x hx => wp_some hx)
  refine wlp0 (fun n k μ' => f_X7_begin_L2 c n (nI k) μ') _ 256 (fun K μ' => (∀ S, S < K → μ' c S = nI (if S = 0 then 1 else 0)) ∧ ∀ o, o ≠ c → μ' o = μ o) (by omega) μ ⟨fun S hS => by omega, fun _ _ => rfl⟩ ?_ ?_
  · intro n k μ1 hk ⟨i1, i2⟩ ih
    show wp (f_X7_begin_L2 c (n + 1) (nI k) μ1) _
    rw [f_X7_begin_L2, nI_1, nI_clamp (by omega), hc]
    refine wp_ie (nI_ge (b := 256) hk (by omega)) (wp_l fun x hx => wp_g (zin_nI (by omega) (by omega)) (wp_ls (wp_ls (ih _ ⟨fun S hS => ?_, fun o ho => by rw [zup_rne _ _ _ ho]; exact i2 o ho⟩))))
    by_cases e : S = k
    · rw [e, zup_self, hx]
      by_cases c0 : k = 0
      · rw [if_pos c0, if_neg (fun w => w (by rw [c0]; rfl))]
        rfl
      · rw [if_neg c0, if_pos (fun w => c0 (by rw [← nI_clamp (n := k) (by omega), w]; rfl))]
        rfl
    · rw [zup_ne (by omega)]
      exact i1 S (by omega)
  · intro n μ1 hI
    show wp (f_X7_begin_L2 c (n + 1) (nI 256) μ1) _
    rw [f_X7_begin_L2]
    exact wp_it (nI_le (a := 256) (Nat.le_refl _) (by omega)) (wp_some hI)
theorem layC {p q d : Nat} {F H : Nat → Nat} (hpq : p ≠ q) (hp : zln p = 256) (hq : zln q = 256) (hd : d < 8) (hF : FRow p F μ) (hH : FRow q H μ) :
    wp (f_X7_lay p q (nI d) μ) (fun μ' => FRow q (fun S => H S + (if S.testBit d = true then F (rm S d) else 0)) μ' ∧ ∀ o, o ≠ q → μ' o = μ o) := by
  have h2 : 2 ^ d ≤ 2 ^ 7 := Nat.pow_le_pow_right (by omega) (by omega)
  have h27 : (2 : Nat) ^ 7 = 128 := by decide
  have hBd : 256 - 2 ^ d < 1000000 := Nat.lt_of_le_of_lt (Nat.sub_le _ _) (by omega)
  unfold f_X7_lay
  rw [one_shl (by omega)]
  refine wp_ls (wp_bdQ (Q := fun μ' => FRow q (fun S => H S + (if S.testBit d = true then F (rm S d) else 0)) μ' ∧ ∀ o, o ≠ q → μ' o = μ o) ?_ (fun x hx => wp_some hx))
  refine wlp0 (fun n i μ' => f_X7_lay_L7 p q (nI (2 ^ d)) n (nI (2 ^ d + i)) μ') _ (256 - 2 ^ d) (fun i μ' => (∀ S, S < 256 → μ' q S = nI (if S < 2 ^ d + i ∧ S.testBit d = true then H S + F (rm S d) else H S)) ∧ ∀ o, o ≠ q → μ' o = μ o) hBd μ ⟨fun S hS => ?_, fun _ _ => rfl⟩ ?_ ?_
  · rw [if_neg (fun w => ?_)]
    · exact hH S hS
    · have := Nat.testBit_lt_two_pow (show S < 2 ^ d by omega)
      rw [this] at w
      exact absurd w.2 (by decide)
  · intro n i μ1 hi ⟨i1, i2⟩ ih
    have hS : 2 ^ d + i < 256 := by omega
    show wp (f_X7_lay_L7 p q (nI (2 ^ d)) (n + 1) (nI (2 ^ d + i)) μ1) _
    rw [f_X7_lay_L7, nI_1, hp, hq]
    refine wp_ie (nI_ge (b := 256) hS (by omega)) ?_
    generalize hs : 2 ^ d + i = S at hS i1 ih ⊢
    have eS : 2 ^ d + (i + 1) = S + 1 := by omega
    rw [eS] at ih
    by_cases c : S.testBit d = true
    · have ex := bt2 S hS d hd c
      have rl : rm S d < 2 ^ 8 := rm_lt (m := 8) hS
      have r2 : rm S d < 256 := rl
      refine wp_bd (wp_ie (fun w => ?_) (wp_g (zin_nI hS (by omega)) ?_))
      · have := (bt1 S hS d hd).mp w
        rw [c] at this
        exact absurd this (by decide)
      · have eq1 := i1 S hS
        rw [if_neg (by omega)] at eq1
        have ep1 : μ1 p (rm S d) = nI (F (rm S d)) := by rw [i2 p hpq]; exact hF _ r2
        rw [ex, nI_clamp (n := S) (by omega), nI_clamp (n := rm S d) (by omega), eq1, ep1, nI_add]
        refine wp_g (zin_nI r2 (by omega)) (wp_ls (wp_some (wp_ls (ih _ ⟨fun T hT => ?_, fun o ho => by rw [zup_rne _ _ _ ho]; exact i2 o ho⟩))))
        by_cases e : T = S
        · rw [e, zup_self, if_pos ⟨by omega, c⟩]
        · rw [zup_ne (by omega), i1 T hT]
          by_cases e2 : T < S ∧ T.testBit d = true
          · rw [if_pos e2, if_pos ⟨by omega, e2.2⟩]
          · rw [if_neg e2, if_neg (fun w => e2 ⟨by omega, w.2⟩)]
    · have c' : S.testBit d = false := Bool.eq_false_iff.mpr c
      refine wp_bd (wp_it ((bt1 S hS d hd).mpr c') (wp_some (wp_ls (ih _ ⟨fun T hT => ?_, i2⟩))))
      rw [i1 T hT]
      by_cases e2 : T < S ∧ T.testBit d = true
      · rw [if_pos e2, if_pos ⟨by omega, e2.2⟩]
      · rw [if_neg e2, if_neg (fun w => ?_)]
        by_cases e : T = S
        · rw [e] at w
          exact c w.2
        · exact e2 ⟨by omega, w.2⟩
  · intro n μ1 ⟨i1, i2⟩
    have e : 2 ^ d + (256 - 2 ^ d) = 256 := by omega
    show wp (f_X7_lay_L7 p q (nI (2 ^ d)) (n + 1) (nI (2 ^ d + (256 - 2 ^ d))) μ1) _
    rw [e] at i1 ⊢
    rw [f_X7_lay_L7]
    refine wp_it (nI_le (a := 256) (Nat.le_refl _) (by omega)) (wp_some ⟨fun S hS => ?_, i2⟩)
    rw [i1 S hS]
    show _ = nI (H S + (if S.testBit d = true then F (rm S d) else 0))
    by_cases c : S.testBit d = true
    · rw [if_pos ⟨hS, c⟩, if_pos c]
    · rw [if_neg (fun w => c w.2), if_neg c, Nat.add_zero]
theorem extendC {p q : Nat} {F : Nat → Nat} {v : Int32} (hf : FgC w n X μ) (hpq : p ≠ q) (hp : zln p = 256) (hq : zln q = 256) (hq87 : 87 ≤ q) (hF : FRow p F μ) (hv : v = -1 ∨ ∃ g, g < 8 ∧ v = nI g) :
    wp (f_X7_extend p q w v μ) (fun μ' => FRow q (if v = -1 then F else xt n X v.toNatClampNeg F) μ' ∧ ∀ o, o ≠ q → μ' o = μ o) := by
  obtain ⟨hn, hw, hz, hs, hx⟩ := hf
  unfold f_X7_extend
  rw [hp, hq]
  refine wp_g (cpg11 (n := 256) (by omega)) (wp_ls ?_)
  have en : ∀ o, o ≠ q → zcp μ p q 0 0 (256 : Int32) o = μ o := fun o ho => zcp_ne (n := 256) ho
  have ei : ∀ S, S < 256 → zcp μ p q 0 0 (256 : Int32) q S = μ p S := fun S hS => zcp_in (n := 256) (by omega) hS
  generalize zcp μ p q 0 0 (256 : Int32) = μ1 at en ei ⊢
  have hF1 : FRow p F μ1 := hF.congr (en p hpq)
  have hq1 : FRow q F μ1 := fun S hS => (ei S hS).trans (hF S hS)
  rcases hv with hv | ⟨g, hg, hv⟩
  · rw [if_pos hv]
    refine wp_bdQ (Q := fun μ' => μ' = μ1) ?_ (fun μ' hμ => wp_some (by rw [hμ]; exact ⟨hq1, en⟩))
    show wp (f_X7_extend_L13 p q w v (999999 + 1) 0 μ1) _
    rw [f_X7_extend_L13]
    exact wp_ie (fun w => w.2.2 hv) (wp_some rfl)
  · have hvn : ¬ v = -1 := by rw [hv]; exact nI_nm1 (by omega)
    rw [if_neg hvn]
    have ev : v.toNatClampNeg = g := by rw [hv, nI_clamp (by omega)]
    rw [ev]
    refine wp_bdQ (Q := fun μ' => FRow q (xt n X g F) μ' ∧ ∀ o, o ≠ q → μ' o = μ o) ?_ (fun μ' hμ => wp_some hμ)
    refine wlp0 (fun m d μ' => f_X7_extend_L13 p q w v m (nI d) μ') _ n (fun d μ' => FRow q (fun S => F S + sN d (fun d => if S.testBit d = true ∧ (X d).testBit g = true then F (rm S d) else 0)) μ' ∧ ∀ o, o ≠ q → μ' o = μ1 o) (by omega) μ1 ⟨hq1, fun _ _ => rfl⟩ ?_ ?_
    · intro m d μ2 hd ⟨i1, i2⟩ ih
      have e2 : ∀ o, o < 87 → μ2 o = μ o := fun o ho => by rw [i2 o (by omega)]; exact en o (by omega)
      have es : μ2 w 2 = nI n := by rw [e2 w (by omega)]; exact hs
      have hxd := hx d hd
      have num : f_X6_number w (nI d) 0 μ2 = some (nI (X d)) := by
        have := number_in (a := w) (r := d) (c := 0) (v := nI d) (w := 0) rfl rfl es hd (by omega) (by rw [hz]; omega) (by rw [hz]; omega) (by omega)
        rw [this, e2 (w + 1) hw, hxd.1]
      have hF2 : FRow p F μ2 := hF1.congr (i2 p hpq)
      show wp (f_X7_extend_L13 p q w v (m + 1) (nI d) μ2) _
      rw [f_X7_extend_L13, es, nI_1]
      refine wp_it ⟨nI_ge hd (by omega), nI_ge (b := 8) (by omega) (by omega), hvn⟩ (wp_bdE num ?_)
      rw [hv]
      by_cases c : (X d).testBit g = true
      · refine wp_bd (wp_ie (fun w => w ((bitI_1 (by omega) (by omega)).mpr c)) (wp_bdQ (layC hpq hp hq (by omega) hF2 i1) fun μ3 ⟨j1, j2⟩ => wp_some (wp_ls ?_)))
        rw [← hv]
        refine ih _ ⟨fun S hS => ?_, fun o ho => (j2 o ho).trans (i2 o ho)⟩
        rw [j1 S hS]
        show nI (F S + sN d _ + _) = nI (F S + (sN d _ + (if S.testBit d = true ∧ (X d).testBit g = true then F (rm S d) else 0)))
        rw [Nat.add_assoc]
        by_cases q : S.testBit d = true
        · rw [if_pos q, if_pos ⟨q, c⟩]
        · rw [if_neg q, if_neg (fun w => q w.1)]
      · refine wp_bd (wp_it (fun w => c ((bitI_1 (by omega) (by omega)).mp w)) (wp_some (wp_ls ?_)))
        rw [← hv]
        refine ih _ ⟨fun S hS => ?_, i2⟩
        rw [i1 S hS]
        show _ = nI (F S + (sN d _ + (if S.testBit d = true ∧ (X d).testBit g = true then F (rm S d) else 0)))
        rw [if_neg (fun w => c w.2), Nat.add_zero]
    · intro m μ2 ⟨i1, i2⟩
      have e2 : ∀ o, o < 87 → μ2 o = μ o := fun o ho => by rw [i2 o (by omega)]; exact en o (by omega)
      have es : μ2 w 2 = nI n := by rw [e2 w (by omega)]; exact hs
      show wp (f_X7_extend_L13 p q w v (m + 1) (nI n) μ2) _
      rw [f_X7_extend_L13, es]
      exact wp_ie (fun w => w.1 (nI_le (Nat.le_refl _) (by omega))) (wp_some ⟨i1, fun o ho => (i2 o ho).trans (en o ho)⟩)
theorem setsOfC (hf : FgC w n X μ) : f_X7_setsOf w μ = nI (2 ^ n) := by
  obtain ⟨hn, hw, hz, hs, hx⟩ := hf
  unfold f_X7_setsOf
  have e8 : zmin (nI n) (8 : Int32) = nI n := by
    have := zmin_nI (a := n) (b := 8) (by omega) (by omega)
    rw [if_neg (by omega)] at this
    exact this
  rw [hs, e8, one_shl (by omega)]
/-- what a search may change -/
def LF (μ μ' : zM) : Prop := ∀ o, o < 113 ∨ 132 ≤ o → μ' o = μ o
theorem waysWithoutC {S G : Nat} {v3 : Int32} (hf : FgC w n X μ) (hS : S < 256) (hG : ∀ g, g < 8 → (G.testBit g = true ↔ ¬ nI g = v3)) :
    wp (f_X7_waysWithout 111 w (nI S) v3 μ) (fun p => p.1 = nI (cw n X oA G 8 S) ∧ LF μ p.2) := by
  unfold f_X7_waysWithout
  rw [show (0 : Int32).toNatClampNeg = 0 from by decide, show (8 : Int32).toNatClampNeg = 8 from by decide]
  refine wp_bdQ (beginC (c := 123) (zln_rows 0 (by omega)).2) fun μ1 ⟨b1, f1⟩ => ?_
  refine wp_bdQ (Q := fun μ' => FRow 131 (cw n X oA G 8) μ' ∧ LF μ μ') ?_ (fun μ2 ⟨b2, f2⟩ => ?_)
  · refine wlp0 (fun m k μ' => f_X7_waysWithout_L12 111 w (nI S) v3 m (nI k) μ') _ 8 (fun k μ' => FRow (123 + k) (cw n X oA G k) μ' ∧ LF μ μ') (by omega) μ1 ⟨b1, fun o ho => f1 o (by omega)⟩ ?_ ?_
    · intro m k μ2 hk ⟨i1, i2⟩ ih
      show wp (f_X7_waysWithout_L12 111 w (nI S) v3 (m + 1) (nI k) μ2) _
      rw [f_X7_waysWithout_L12, nI_1, nI_clamp (n := k) (by omega), nI_clamp (n := k + 1) (by omega), show 111 + 12 + 1 * k = 123 + k by omega, show 111 + 12 + 1 * (k + 1) = 123 + (k + 1) by omega]
      refine wp_ie (nI_ge (b := 8) hk (by omega)) (wp_g (zin_nI (by omega) (by omega)) (wp_g (zin_nI (by omega) (by omega)) (wp_l fun x hx => ?_)))
      have hgk := hG k hk
      refine wp_bdQ (extendC (v := x) (hf.congr (fun o ho => i2 o (by omega))) (by omega) (zln_rows k (by omega)).2 (zln_rows (k + 1) (by omega)).2 (by omega) i1 ?_) fun μ3 ⟨j1, j2⟩ => wp_ls (ih _ ⟨?_, fun o ho => by rw [j2 o (by omega)]; exact i2 o ho⟩)
      · rw [hx]
        by_cases c : nI k = v3
        · rw [if_neg (fun w => w c)]
          exact Or.inl rfl
        · rw [if_pos c]
          exact Or.inr ⟨k, hk, rfl⟩
      · have e : (if x = -1 then cw n X oA G k else xt n X x.toNatClampNeg (cw n X oA G k)) = cw n X oA G (k + 1) := by
          show _ = if G.testBit (oA k) = true then xt n X (oA k) (cw n X oA G k) else cw n X oA G k
          by_cases c : nI k = v3
          · have ex : x = -1 := by rw [hx, if_neg (fun w => w c)]
            rw [ex, if_pos rfl, if_neg (show ¬ G.testBit (oA k) = true from fun w => (hgk.mp w) c)]
          · have ex : x = nI k := by rw [hx, if_pos c]
            rw [ex, if_neg (nI_nm1 (by omega)), if_pos (show G.testBit (oA k) = true from hgk.mpr c), nI_clamp (by omega)]
            rfl
        rw [← e]
        exact j1
    · intro m μ2 hI
      show wp (f_X7_waysWithout_L12 111 w (nI S) v3 (m + 1) (nI 8) μ2) _
      rw [f_X7_waysWithout_L12]
      exact wp_it (nI_le (a := 8) (Nat.le_refl _) (by omega)) (wp_some hI)
  · rw [nI_clamp (by omega)]
    exact wp_g (zin_nI hS (by omega)) (wp_some ⟨b2 S hS, f2⟩)
theorem g255 : ∀ g, g < 8 → ((255 : Nat).testBit g = true ↔ ¬ nI g = (-1 : Int32)) := by decide +kernel
theorem g254 : ∀ k, k < 8 → ∀ g, g < 8 → ((rm 255 k).testBit g = true ↔ ¬ nI g = nI k) := by decide +kernel
theorem all_lt (hn : n ≤ 8) : 2 ^ n ≤ 256 ∧ 1 ≤ 2 ^ n := by
  have h : 2 ^ n ≤ 2 ^ 8 := Nat.pow_le_pow_right (by omega) hn
  exact ⟨h, Nat.pow_pos (by omega)⟩
theorem all_bit {one : Nat} (h : one < n) : (2 ^ n - 1).testBit one = true := by
  rw [Nat.testBit_two_pow_sub_one, decide_eq_true h]
theorem waysC (hf : FgC w n X μ) : wp (f_X7_ways 111 w μ) (fun p => p.1 = nI (cw n X oA 255 8 (2 ^ n - 1)) ∧ LF μ p.2) := by
  have ha := all_lt hf.1
  unfold f_X7_ways
  rw [setsOfC hf, show nI (2 ^ n) - 1 = nI (2 ^ n - 1) from pk_sub1 ha.2]
  exact wp_bd2Q (waysWithoutC hf (by omega) g255) fun x μ' hx => wp_some hx
/-- where one may lie -/
def mayG (n : Nat) (X : Nat → Nat) (one : Nat) : Nat → Nat
  | 0 => 0
  | g + 1 => if (X one).testBit g = true ∧ 0 < cw n X oA (rm 255 g) 8 (rm (2 ^ n - 1) one) then mayG n X one g ||| 2 ^ g else mayG n X one g
theorem mayG_lt {one : Nat} : ∀ g, mayG n X one g < 2 ^ g
  | 0 => by
    show 0 < 2 ^ 0
    decide
  | g + 1 => by
    have ih := mayG_lt (one := one) g
    have h2 : 2 ^ g < 2 ^ (g + 1) := Nat.pow_lt_pow_succ (by omega)
    unfold mayG
    split
    · exact Nat.or_lt_two_pow (by omega) h2
    · omega
theorem gravesC {one : Nat} (hf : FgC w n X μ) (ho : one < n) : wp (f_X7_graves 111 w (nI one) μ) (fun p => p.1 = nI (mayG n X one 8) ∧ LF μ p.2) := by
  have hn := hf.1
  have ha := all_lt hn
  have p9 := p98
  unfold f_X7_graves
  rw [setsOfC hf, show nI (2 ^ n) - 1 = nI (2 ^ n - 1) from pk_sub1 ha.2, one_shl (by omega), bt2 (2 ^ n - 1) (by omega) one (by omega) (all_bit ho)]
  have hr : rm (2 ^ n - 1) one < 2 ^ 8 := rm_lt (m := 8) (by show _ < 256; omega)
  have hr : rm (2 ^ n - 1) one < 256 := hr
  refine wp_ls (wp_bd2Q (Q := fun p => p.1 = nI (mayG n X one 8) ∧ LF μ p.2) ?_ (fun x μ' hx => wp_some hx))
  refine wlp0 (fun m g (s : Int32 × zM) => f_X7_graves_L17 111 w (nI one) (nI (rm (2 ^ n - 1) one)) m s.1 (nI g) s.2) _ 8 (fun g s => s.1 = nI (mayG n X one g) ∧ LF μ s.2) (by omega) (0, μ) ⟨rfl, fun _ _ => rfl⟩ ?_ ?_
  · intro m g ⟨y, μ2⟩ hg ⟨i1, i2⟩ ih
    have i1 : y = nI (mayG n X one g) := i1
    have i2 : LF μ μ2 := i2
    have f2 := hf.congr (fun o ho => i2 o (by omega))
    obtain ⟨_, hw, hz, hs, hx⟩ := f2
    have num : f_X6_number w (nI one) 0 μ2 = some (nI (X one)) := by
      have := number_in (a := w) (r := one) (c := 0) (v := nI one) (w := 0) rfl rfl hs ho (by omega) (by rw [hz]; omega) (by rw [hz]; omega) (by omega)
      rw [this, (hx one ho).1]
    have xl := (hx one ho).2
    show wp (f_X7_graves_L17 111 w (nI one) (nI (rm (2 ^ n - 1) one)) (m + 1) y (nI g) μ2) _
    rw [f_X7_graves_L17, nI_1, one_shl (by omega)]
    refine wp_ie (nI_ge (b := 8) hg (by omega)) (wp_bdE num (wp_bd2Q (Q := fun p => p.1 = nI (mayG n X one (g + 1)) ∧ LF μ p.2) ?_ (fun x μ3 ⟨q1, q2⟩ => wp_ls (ih (x, μ3) ⟨q1, q2⟩))))
    by_cases c : (X one).testBit g = true
    · refine wp_ie (fun w => w ((bitI_1 (by omega) (by omega)).mpr c)) (wp_bd2Q (waysWithoutC (hf.congr (fun o ho => i2 o (by omega))) hr (g254 g hg)) fun r μ3 ⟨e3, f3⟩ => ?_)
      have e3 : r = nI (cw n X oA (rm 255 g) 8 (rm (2 ^ n - 1) one)) := e3
      have f3 : LF μ2 μ3 := f3
      have cl := cw_le (X := X) (o := oA) (G := rm 255 g) hn 8 (rm (2 ^ n - 1) one)
      have f3' : LF μ μ3 := fun o ho => (f3 o ho).trans (i2 o ho)
      by_cases z : 0 < cw n X oA (rm 255 g) 8 (rm (2 ^ n - 1) one)
      · have em : mayG n X one (g + 1) = mayG n X one g ||| 2 ^ g := if_pos ⟨c, z⟩
        rw [em, e3]
        generalize cw n X oA (rm 255 g) 8 (rm (2 ^ n - 1) one) = t at cl z
        refine wp_ie (show ¬ nI t ≤ nI 0 from nI_ge z (by omega)) (wp_ls (wp_some ⟨?_, f3'⟩))
        show y ||| nI (2 ^ g) = _
        rw [i1, nI_or]
      · have em : mayG n X one (g + 1) = mayG n X one g := if_neg (fun w => z w.2)
        rw [em, e3]
        generalize cw n X oA (rm 255 g) 8 (rm (2 ^ n - 1) one) = t at cl z
        exact wp_it (show nI t ≤ nI 0 from nI_le (by omega) (by omega)) (wp_some ⟨i1, f3'⟩)
    · have em : mayG n X one (g + 1) = mayG n X one g := if_neg (fun w => c w.1)
      rw [em]
      exact wp_it (fun w => c ((bitI_1 (by omega) (by omega)).mp w)) (wp_some ⟨i1, i2⟩)
  · intro m s hI
    show wp (f_X7_graves_L17 111 w (nI one) (nI (rm (2 ^ n - 1) one)) (m + 1) s.1 (nI 8) s.2) _
    rw [f_X7_graves_L17]
    exact wp_it (nI_le (a := 8) (Nat.le_refl _) (by omega)) (wp_some hI)
/-! dig -/
def chN (s : Nat) : Nat := if s.testBit 0 = true then 0 else if s.testBit 1 = true then 1 else if s.testBit 2 = true then 2 else if s.testBit 3 = true then 3 else if s.testBit 4 = true then 4 else if s.testBit 5 = true then 5 else if s.testBit 6 = true then 6 else 7
theorem chN_lt : ∀ s, s < 256 → chN s < 8 := by decide +kernel
theorem chN_z : ∀ s, s < 256 → zmin (f_J6_numberOfTrailingZeros_0f7a4 (nI s)) 7 = nI (chN s) := by decide +kernel
theorem chN_up : ∀ s, s < 255 → ∀ j, j < 8 → chN (s + 1) < j → (s + 1).testBit j = s.testBit j := by decide +kernel
theorem ntz_1 : ∀ b, b < 256 → ∀ k, k < 8 → b.testBit k = true → pc b = 1 → f_J6_numberOfTrailingZeros_0f7a4 (nI b) = nI k := by decide +kernel
/-- the rows of both kinds hold the ways of open graves and of the others, up to row m -/
def DR (n : Nat) (X : Nat → Nat) (op m : Nat) (μ : zM) : Prop := ∀ r, r ≤ m → FRow (113 + r) (cw n X oB op r) μ ∧ FRow (123 + r) (cw n X oB (255 - op) r) μ
theorem openTheseC {op : Nat} (hf : FgC w n X μ) (ho : op < 256) (hD : DR n X op (7 - chN op) μ) : wp (f_X7_openThese 111 w (nI op) μ) (fun μ' => DR n X op 8 μ' ∧ LF μ μ') := by
  have hc := chN_lt op ho
  unfold f_X7_openThese
  rw [chN_z op ho]
  generalize chN op = c at hc hD
  refine wp_ls (wp_bdQ (Q := fun μ' => DR n X op 8 μ' ∧ LF μ μ') ?_ (fun x hx => wp_some hx))
  refine wlp0 (fun m i (s : Int32 × zM) => f_X7_openThese_L13 111 w (nI op) m s.1 s.2) _ (c + 1) (fun i s => s.1 = nI c - nI i ∧ DR n X op (7 - c + i) s.2 ∧ LF μ s.2) (by omega) (nI c, μ) ⟨by show nI c = nI c - 0; grind, hD, fun _ _ => rfl⟩ ?_ ?_
  · intro m i ⟨y, μ1⟩ hi ⟨i1, i2, i3⟩ ih
    have i1 : y = nI (c - i) := i1.trans (pk_sub (by omega))
    have i2 : DR n X op (7 - c + i) μ1 := i2
    have i3 : LF μ μ1 := i3
    have e7 : (7 : Int32) - nI (c - i) = nI (7 - c + i) := by
      show nI 7 - nI (c - i) = _
      rw [pk_sub (by omega), show 7 - (c - i) = 7 - c + i by omega]
    have eg : oB (7 - c + i) = c - i := by
      unfold oB
      omega
    show wp (f_X7_openThese_L13 111 w (nI op) (m + 1) y μ1) _
    rw [f_X7_openThese_L13, i1, e7]
    refine wp_ie (nI_pos (by omega)) (wp_ls ?_)
    rw [nI_1, nI_clamp (n := 7 - c + i) (by omega), nI_clamp (n := 7 - c + i + 1) (by omega), show 111 + 2 + 1 * (7 - c + i) = 113 + (7 - c + i) by omega, show 111 + 2 + 1 * (7 - c + i + 1) = 113 + (7 - c + i + 1) by omega, show 111 + 12 + 1 * (7 - c + i) = 123 + (7 - c + i) by omega, show 111 + 12 + 1 * (7 - c + i + 1) = 123 + (7 - c + i + 1) by omega]
    refine wp_l fun x10 hx10 => wp_g (zin_nI (by omega) (by omega)) (wp_g (zin_nI (by omega) (by omega)) (wp_l fun x15 hx15 => ?_))
    have hx : (op.testBit (c - i) = true ∧ x15 = nI (c - i) ∧ ¬ x10 = 0) ∨ (op.testBit (c - i) = false ∧ x15 = -1 ∧ x10 = 0) := by
      by_cases q : op.testBit (c - i) = true
      · rw [if_neg (fun w => w ((bitI_1 (by omega) (by omega)).mpr q))] at hx10
        rw [hx10, if_neg (by decide)] at hx15
        exact Or.inl ⟨q, hx15, by rw [hx10]; decide⟩
      · rw [if_pos (fun w => q ((bitI_1 (by omega) (by omega)).mp w))] at hx10
        rw [hx10, if_pos rfl] at hx15
        exact Or.inr ⟨Bool.eq_false_iff.mpr q, hx15, hx10⟩
    have zr := zln_rows (7 - c + i) (by omega)
    have zr1 := zln_rows (7 - c + i + 1) (by omega)
    have hcb := bt5 op ho (c - i) (by omega)
    have d0 := i2 (7 - c + i) (Nat.le_refl _)
    refine wp_bdQ (extendC (v := x15) (hf.congr (fun o ho => i3 o (by omega))) (by omega) zr.1 zr1.1 (by omega) d0.1 ?_) fun μ2 ⟨j1, j2⟩ => wp_l fun x19 hx19 => ?_
    · rcases hx with ⟨_, q, _⟩ | ⟨_, q, _⟩
      · exact Or.inr ⟨c - i, by omega, q⟩
      · exact Or.inl q
    · refine wp_bdQ (extendC (v := x19) (hf.congr (fun o ho => by rw [j2 o (by omega)]; exact i3 o (by omega))) (by omega) zr.2 zr1.2 (by omega) (d0.2.congr (j2 _ (by omega))) ?_) fun μ3 ⟨k1, k2⟩ => wp_ls (ih (_, μ3) ⟨?_, fun r hr => ?_, fun o ho => by show μ3 o = _; rw [k2 o (by omega), j2 o (by omega)]; exact i3 o ho⟩)
      · rcases hx with ⟨_, _, q⟩ | ⟨_, _, q⟩
        · rw [if_neg q] at hx19
          exact Or.inl hx19
        · rw [if_pos q] at hx19
          exact Or.inr ⟨c - i, by omega, hx19⟩
      · show nI (c - i) + (-1 : Int32) = nI c - nI (i + 1)
        have e1 : nI (c - i) = nI c - nI i := (pk_sub (by omega)).symm
        have e2 : nI (i + 1) = nI i + 1 := (nI_1 i).symm
        rw [e1, e2]
        generalize nI c = a
        generalize nI i = b
        grind
      · show FRow (113 + r) _ μ3 ∧ FRow (123 + r) _ μ3
        have hr : r ≤ 7 - c + (i + 1) := hr
        by_cases er : r = 7 - c + i + 1
        · rw [er]
          have e1 : (if x15 = -1 then cw n X oB op (7 - c + i) else xt n X x15.toNatClampNeg (cw n X oB op (7 - c + i))) = cw n X oB op (7 - c + i + 1) := by
            show _ = if op.testBit (oB (7 - c + i)) = true then xt n X (oB (7 - c + i)) (cw n X oB op (7 - c + i)) else cw n X oB op (7 - c + i)
            rw [eg]
            rcases hx with ⟨q1, q2, _⟩ | ⟨q1, q2, _⟩
            · rw [q2, if_neg (nI_nm1 (by omega)), if_pos q1, nI_clamp (by omega)]
            · rw [q2, if_pos rfl, if_neg (by rw [q1]; decide)]
          have e2 : (if x19 = -1 then cw n X oB (255 - op) (7 - c + i) else xt n X x19.toNatClampNeg (cw n X oB (255 - op) (7 - c + i))) = cw n X oB (255 - op) (7 - c + i + 1) := by
            show _ = if (255 - op).testBit (oB (7 - c + i)) = true then xt n X (oB (7 - c + i)) (cw n X oB (255 - op) (7 - c + i)) else cw n X oB (255 - op) (7 - c + i)
            rw [eg, hcb]
            rcases hx with ⟨q1, _, q3⟩ | ⟨q1, _, q3⟩
            · rw [if_neg q3] at hx19
              rw [hx19, if_pos rfl, q1, if_neg (by decide)]
            · rw [if_pos q3] at hx19
              rw [hx19, if_neg (nI_nm1 (by omega)), q1, if_pos (show (!false) = true from rfl), nI_clamp (by omega)]
          rw [e1] at j1
          rw [e2] at k1
          exact ⟨j1.congr (k2 _ (by omega)), k1⟩
        · have := i2 r (by omega)
          exact ⟨this.1.congr (by rw [k2 _ (by omega), j2 _ (by omega)]), this.2.congr (by rw [k2 _ (by omega), j2 _ (by omega)])⟩
  · intro m ⟨y, μ1⟩ ⟨i1, i2, i3⟩
    have i1 : y = nI c - nI (c + 1) := i1
    have i2 : DR n X op (7 - c + (c + 1)) μ1 := i2
    have en : y = -1 := by
      rw [i1, ← nI_1]
      generalize nI c = a
      grind
    rw [show 7 - c + (c + 1) = 8 by omega] at i2
    show wp (f_X7_openThese_L13 111 w (nI op) (m + 1) y μ1) _
    rw [f_X7_openThese_L13]
    exact wp_it (by rw [en]; decide) (wp_some ⟨i2, i3⟩)
/-- whoever is found in the open graves: the others can lie in one way at most -/
def knw (n : Nat) (X : Nat → Nat) (op : Nat) : Prop := ∀ f, f < 2 ^ n → 0 < cw n X oA op 8 f → cw n X oA (255 - op) 8 (2 ^ n - 1 - f) ≤ 1
theorem tellsAllC {op : Nat} (hf : FgC w n X μ) (hD : DR n X op 8 μ) : wp (f_X7_tellsAll 111 w μ) (fun r => (r = 1 ∧ knw n X op) ∨ (r = 0 ∧ ¬ knw n X op)) := by
  have hn := hf.1
  have ha := all_lt hn
  have p9 := p98
  obtain ⟨d1, d2⟩ := hD 8 (Nat.le_refl _)
  unfold f_X7_tellsAll
  rw [setsOfC hf, show nI (2 ^ n) - 1 = nI (2 ^ n - 1) from pk_sub1 ha.2]
  refine wp_ls (wp_bd ?_)
  refine wlp0 (fun m f (_ : Unit) => f_X7_tellsAll_L9 111 (nI (2 ^ n - 1)) μ m (nI f)) _ (2 ^ n) (fun F _ => ∀ f, f < F → 0 < cw n X oA op 8 f → cw n X oA (255 - op) 8 (2 ^ n - 1 - f) ≤ 1) (by omega) () (fun f hf => by omega) ?_ ?_
  · intro m f _ hfl hI ih
    have c1 := cw_le (X := X) (o := oA) (G := op) hn 8 f
    have c2 := cw_le (X := X) (o := oA) (G := 255 - op) hn 8 (2 ^ n - 1 - f)
    have e1 : μ (111 + 2 + 1 * 8) f = nI (cw n X oA op 8 f) := by rw [← cw_ord hn (f + 1) f (by omega) hfl]; exact d1 f (by omega)
    have e2 : μ (111 + 12 + 1 * 8) (2 ^ n - 1 - f) = nI (cw n X oA (255 - op) 8 (2 ^ n - 1 - f)) := by rw [← cw_ord hn (2 ^ n) (2 ^ n - 1 - f) (by omega) (by omega)]; exact d2 _ (by omega)
    show wp (f_X7_tellsAll_L9 111 (nI (2 ^ n - 1)) μ (m + 1) (nI f)) _
    rw [f_X7_tellsAll_L9, nI_1, show (8 : Int32).toNatClampNeg = 8 from by decide, (bt4 n (by omega) f (by omega) hfl).2, nI_clamp (n := f) (by omega), nI_clamp (n := 2 ^ n - 1 - f) (by omega), e1, e2]
    refine wp_ie (nI_nlt (by omega) (by omega)) (wp_g (zin_nI (by omega) (by omega)) ?_)
    by_cases z1 : 0 < cw n X oA op 8 f
    · refine wp_bd (wp_ie (show ¬ nI _ ≤ nI 0 from nI_ge z1 (by omega)) (wp_g (zin_nI (by omega) (by omega)) ?_))
      by_cases z2 : cw n X oA (255 - op) 8 (2 ^ n - 1 - f) ≤ 1
      · refine wp_it (show nI _ ≤ nI 1 from nI_le z2 (by omega)) (wp_some (wp_ie (by decide) (wp_ls (ih () fun f' hf' => ?_))))
        by_cases e : f' = f
        · rw [e]
          exact fun _ => z2
        · exact hI f' (by omega)
      · exact wp_ie (show ¬ nI _ ≤ nI 1 from nI_ge (by omega) (by omega)) (wp_some (wp_it rfl (wp_some (wp_suml (wp_some (Or.inr ⟨rfl, fun w => z2 (w f hfl z1)⟩))))))
    · refine wp_bd (wp_it (show nI _ ≤ nI 0 from nI_le (by omega) (by omega)) (wp_some (wp_ie (by decide) (wp_ls (ih () fun f' hf' => ?_)))))
      by_cases e : f' = f
      · rw [e]
        exact fun w => absurd w z1
      · exact hI f' (by omega)
  · intro m _ hI
    show wp (f_X7_tellsAll_L9 111 (nI (2 ^ n - 1)) μ (m + 1) (nI (2 ^ n))) _
    rw [f_X7_tellsAll_L9]
    exact wp_it (nI_lt (by omega) (by omega)) (wp_some (wp_sumr (wp_some (Or.inl ⟨rfl, hI⟩))))
noncomputable def knB (n : Nat) (X : Nat → Nat) (op : Nat) : Bool := @decide (knw n X op) (Classical.propDecidable _)
theorem knB_iff (n : Nat) (X : Nat → Nat) (op : Nat) : knB n X op = true ↔ knw n X op := @decide_eq_true_iff _ (Classical.propDecidable _)
/-- the best of the first sets of graves, 255 without -/
noncomputable def dgN (n : Nat) (X : Nat → Nat) : Nat → Nat
  | 0 => 255
  | op + 1 => if pc op < pc (dgN n X op) ∧ knB n X op = true then op else dgN n X op
theorem dgN_lt : ∀ k, k ≤ 256 → dgN n X k < 256
  | 0, _ => by
    show 255 < 256
    omega
  | k + 1, h => by
    have ih := dgN_lt k (by omega)
    unfold dgN
    split <;> omega
theorem digC (hf : FgC w n X μ) : wp (f_X7_dig 111 w μ) (fun p => p.1 = (if cw n X oA 255 8 (2 ^ n - 1) = 0 then -1 else nI (dgN n X 256)) ∧ LF μ p.2) := by
  have hn := hf.1
  have p9 := p98
  have cl := cw_le (X := X) (o := oA) (G := 255) hn 8 (2 ^ n - 1)
  unfold f_X7_dig
  refine wp_bd2Q (waysC hf) fun r μ1 ⟨e1, f1⟩ => ?_
  have e1 : r = nI (cw n X oA 255 8 (2 ^ n - 1)) := e1
  have f1 : LF μ μ1 := f1
  by_cases c : cw n X oA 255 8 (2 ^ n - 1) = 0
  · rw [if_pos c]
    exact wp_ie (fun w => w (by rw [e1, c]; rfl)) (wp_some ⟨rfl, f1⟩)
  · rw [if_neg c, show (0 : Int32).toNatClampNeg = 0 from by decide]
    refine wp_it (fun w => c (by rw [← nI_clamp (n := cw n X oA 255 8 (2 ^ n - 1)) (by omega), ← e1, w]; rfl)) (wp_bdQ (beginC (c := 113) (zln_rows 0 (by omega)).1) fun μ2 ⟨b2, g2⟩ => wp_bdQ (beginC (c := 123) (zln_rows 0 (by omega)).2) fun μ3 ⟨b3, g3⟩ => ?_)
    have f3 : LF μ μ3 := fun o ho => by rw [g3 o (by omega), g2 o (by omega)]; exact f1 o ho
    refine wp_bd2Q (Q := fun p => p.1 = nI (dgN n X 256) ∧ LF μ p.2) ?_ (fun x μ4 hx => wp_some hx)
    refine wlp0 (fun m op (s : Int32 × zM) => f_X7_dig_L34 111 w m s.1 (nI op) s.2) _ 256 (fun op s => s.1 = nI (dgN n X op) ∧ LF μ s.2 ∧ (op = 0 ∧ DR n X 0 0 s.2 ∨ ∃ q, op = q + 1 ∧ DR n X q 8 s.2)) (by omega) (255, μ3) ⟨rfl, f3, Or.inl ⟨rfl, fun r hr => ?_⟩⟩ ?_ ?_
    · obtain rfl : r = 0 := by omega
      exact ⟨b2.congr (g3 113 (by omega)), b3⟩
    · intro m op ⟨y, μ4⟩ hop ⟨i1, i2, i3⟩ ih
      have i1 : y = nI (dgN n X op) := i1
      have i2 : LF μ μ4 := i2
      have hc := chN_lt op hop
      have f4 := hf.congr (fun o ho => i2 o (by omega))
      have hD : DR n X op (7 - chN op) μ4 := by
        rcases i3 with ⟨rfl, h0⟩ | ⟨q, rfl, hq⟩
        · rw [show chN 0 = 7 from rfl]
          exact h0
        · intro r hr
          have hq := hq r (by omega)
          have e1 : cw n X oB (q + 1) r = cw n X oB q r := cw_G r (fun j hj => chN_up q (by omega) (oB j) (by unfold oB; omega) (by unfold oB; omega))
          have e2 : cw n X oB (255 - (q + 1)) r = cw n X oB (255 - q) r := cw_G r (fun j hj => by
            rw [bt5 (q + 1) hop (oB j) (by unfold oB; omega), bt5 q (by omega) (oB j) (by unfold oB; omega), chN_up q (by omega) (oB j) (by unfold oB; omega) (by unfold oB; omega)])
          rw [e1, e2]
          exact hq
      have dl := dgN_lt (n := n) (X := X) op (by omega)
      show wp (f_X7_dig_L34 111 w (m + 1) y (nI op) μ4) _
      rw [f_X7_dig_L34, i1, bitCountC _ dl, bitCountC op hop, nI_1]
      refine wp_ie (nI_ge (b := 256) hop (by omega)) (wp_bdQ (openTheseC f4 hop hD) fun μ5 ⟨j1, j2⟩ => ?_)
      have f5 : LF μ μ5 := fun o ho => (j2 o ho).trans (i2 o ho)
      have g5 := hf.congr (fun o ho => f5 o (by omega))
      have pl : pc op ≤ 8 := pc_le8 op hop
      have pl2 : pc (dgN n X op) ≤ 8 := pc_le8 _ dl
      refine wp_bdQ (Q := fun x => x = nI (dgN n X (op + 1))) ?_ (fun x hx => wp_ls (ih (x, μ5) ⟨hx, f5, Or.inr ⟨op, rfl, j1⟩⟩))
      show wp _ (fun x => x = nI (if pc op < pc (dgN n X op) ∧ knB n X op = true then op else dgN n X op))
      by_cases z : pc op < pc (dgN n X op)
      · refine wp_bd (wp_ie (nI_ge z (by omega)) (wp_bdQ (tellsAllC g5 j1) fun r hr => ?_))
        rcases hr with ⟨r1, k⟩ | ⟨r0, k⟩
        · rw [if_pos (show pc op < pc (dgN n X op) ∧ knB n X op = true from ⟨z, (knB_iff n X op).mpr k⟩)]
          exact wp_ie (by rw [r1]; decide) (wp_some (wp_it rfl (wp_some rfl)))
        · rw [if_neg (show ¬ (pc op < pc (dgN n X op) ∧ knB n X op = true) from fun w => k ((knB_iff n X op).mp w.2))]
          exact wp_it r0 (wp_some (wp_ie (by decide) (wp_some rfl)))
      · rw [if_neg (show ¬ (pc op < pc (dgN n X op) ∧ knB n X op = true) from fun w => z w.1)]
        exact wp_bd (wp_it (nI_le (by omega) (by omega)) (wp_some (wp_ie (by decide) (wp_some rfl))))
    · intro m s ⟨i1, i2, _⟩
      show wp (f_X7_dig_L34 111 w (m + 1) s.1 (nI 256) s.2) _
      rw [f_X7_dig_L34]
      exact wp_it (nI_le (a := 256) (Nat.le_refl _) (by omega)) (wp_some ⟨i1, i2⟩)
end LIEC
