/-! PURE REASONING: what the printed functions f_.. answer. wp x P: x answers, and its answer has P -/
def wp {α : Type} (x : Option α) (P : α → Prop) : Prop := ∃ r, x = some r ∧ P r
theorem wp_mono {α : Type} {x : Option α} {P Q : α → Prop} (h : wp x P) (k : ∀ r, P r → Q r) : wp x Q := by
  obtain ⟨r, h1, h2⟩ := h
  exact ⟨r, h1, k r h2⟩
theorem wp_eq {α : Type} {x : Option α} {v : α} (h : wp x (fun r => r = v)) : x = some v := by
  obtain ⟨r, h1, h2⟩ := h
  rw [h1, h2]
theorem wp_of {α : Type} {x : Option α} {v : α} {P : α → Prop} (h : x = some v) (k : P v) : wp x P := ⟨v, h, k⟩
theorem wp_some {α : Type} {v : α} {P : α → Prop} (k : P v) : wp (some v) P := ⟨v, rfl, k⟩
theorem wp_some_iff {α : Type} {v : α} {P : α → Prop} : wp (some v) P ↔ P v := ⟨fun ⟨r, h1, h2⟩ => by cases h1; exact h2, fun k => ⟨v, rfl, k⟩⟩
theorem wp_bd {α β : Type} {a : Option α} {f : α → Option β} {P : β → Prop} (h : wp a (fun v => wp (f v) P)) : wp (zbd a f) P := by
  obtain ⟨v, h1, h2⟩ := h
  rw [h1]
  exact h2
theorem wp_bdQ {α β : Type} {a : Option α} {f : α → Option β} {P : β → Prop} {Q : α → Prop} (h : wp a Q) (k : ∀ v, Q v → wp (f v) P) : wp (zbd a f) P := wp_bd (wp_mono h k)
theorem wp_bdE {α β : Type} {a : Option α} {f : α → Option β} {P : β → Prop} {v : α} (h : a = some v) (k : wp (f v) P) : wp (zbd a f) P := by
  rw [h]
  exact k
theorem wp_bd2 {α β γ : Type} {a : Option (α × β)} {f : α → β → Option γ} {P : γ → Prop} (h : wp a (fun v => wp (f v.1 v.2) P)) : wp (zbd2 a f) P := by
  obtain ⟨⟨v, w⟩, h1, h2⟩ := h
  rw [h1]
  exact h2
theorem wp_bd2Q {α β γ : Type} {a : Option (α × β)} {f : α → β → Option γ} {P : γ → Prop} {Q : α × β → Prop} (h : wp a Q) (k : ∀ v w, Q (v, w) → wp (f v w) P) : wp (zbd2 a f) P := wp_bd2 (wp_mono h (fun q hq => k q.1 q.2 hq))
theorem wp_l {α β : Type} {a : α} {f : α → Option β} {P : β → Prop} (k : ∀ v, v = a → wp (f v) P) : wp (zl a f) P := k a rfl
theorem wp_ls {α β : Type} {a : α} {f : α → Option β} {P : β → Prop} (k : wp (f a) P) : wp (zl a f) P := k
theorem wp_l2 {α β γ : Type} {a : α × β} {f : α → β → Option γ} {P : γ → Prop} (k : ∀ v w, (v, w) = a → wp (f v w) P) : wp (zl2 a f) P := k a.1 a.2 rfl
theorem wp_g {α : Type} {b : Bool} {x : Option α} {P : α → Prop} (h : b = true) (k : wp x P) : wp (zg b x) P := by
  rw [zg_t h]
  exact k
theorem wp_if {α : Type} {q : Prop} [Decidable q] {a b : Option α} {P : α → Prop} (h1 : q → wp a P) (h2 : ¬ q → wp b P) : wp (if q then a else b) P := by
  by_cases h : q
  · rw [if_pos h]
    exact h1 h
  · rw [if_neg h]
    exact h2 h
theorem wp_it {α : Type} {q : Prop} [Decidable q] {a b : Option α} {P : α → Prop} (h : q) (k : wp a P) : wp (if q then a else b) P := by
  rw [if_pos h]
  exact k
theorem wp_ie {α : Type} {q : Prop} [Decidable q] {a b : Option α} {P : α → Prop} (h : ¬ q) (k : wp b P) : wp (if q then a else b) P := by
  rw [if_neg h]
  exact k
theorem wp_suml {α β γ : Type} {t : α} {f : α → Option γ} {k : β → Option γ} {P : γ → Prop} (h : wp (f t) P) : wp (zsum (Sum.inl t) f k) P := h
theorem wp_sumr {α β γ : Type} {t : β} {f : α → Option γ} {k : β → Option γ} {P : γ → Prop} (h : wp (k t) P) : wp (zsum (Sum.inr t) f k) P := h
theorem wp_sum {α β γ : Type} {q : α ⊕ β} {f : α → Option γ} {k : β → Option γ} {P : γ → Prop} (h1 : ∀ t, q = .inl t → wp (f t) P) (h2 : ∀ t, q = .inr t → wp (k t) P) : wp (zsum q f k) P := by
  cases q with
  | inl t => exact h1 t rfl
  | inr t => exact h2 t rfl
/-- a loop that counts from k up to B -/
theorem wlp {S α : Type} (F : Nat → Nat → S → Option α) (P : α → Prop) (B : Nat) (I : Nat → S → Prop) (step : ∀ n k s, k < B → I k s → (∀ s', I (k + 1) s' → wp (F n (k + 1) s') P) → wp (F (n + 1) k s) P) (stop : ∀ n s, I B s → wp (F (n + 1) B s) P) :
    ∀ n k s, k ≤ B → B < n + k → I k s → wp (F n k s) P := by
  intro n
  induction n with
  | zero => intro k s h1 h2; omega
  | succ n ih =>
    intro k s h1 h2 hI
    by_cases hk : k = B
    · subst hk
      exact stop n s hI
    · exact step n k s (by omega) hI (fun s' hI' => ih (k + 1) s' (by omega) (by omega) hI')
/-- the same, from 0, with the fuel of all loops -/
theorem wlp0 {S α : Type} (F : Nat → Nat → S → Option α) (P : α → Prop) (B : Nat) (I : Nat → S → Prop) (hB : B < 1000000) (s : S) (h0 : I 0 s) (step : ∀ n k s, k < B → I k s → (∀ s', I (k + 1) s' → wp (F n (k + 1) s') P) → wp (F (n + 1) k s) P) (stop : ∀ n s, I B s → wp (F (n + 1) B s) P) :
    wp (F zFU 0 s) P := wlp F P B I step stop zFU 0 s (Nat.zero_le _) (by unfold zFU; omega) h0
-- numbers
theorem I_le {x y : Int32} : x ≤ y ↔ x.toInt ≤ y.toInt := Int32.le_iff_toInt_le
theorem I_lt {x y : Int32} : x < y ↔ x.toInt < y.toInt := Int32.lt_iff_toInt_lt
theorem zin_iff {i : Int32} {n : Nat} : zin i n = true ↔ 0 ≤ i.toInt ∧ i.toInt < n := by
  simp only [zin, Bool.and_eq_true, decide_eq_true_eq, I_le]
  show 0 ≤ i.toInt ∧ i.toInt.toNat < n ↔ _
  omega
theorem zin_nI {k n : Nat} (h : k < n) (hn : n < 2 ^ 31) : zin (nI k) n = true := by
  rw [zin_iff, nI_toInt (by omega)]
  omega
theorem I_lit (n : Nat) : (OfNat.ofNat n : Int32) = nI n := rfl
/-! A LAKE: L is its 109 numbers as the reference keeps them; the class's Lake at cell a holds them -/
theorem nI_rem {a d : Nat} (ha : a < 2 ^ 31) (h0 : 0 < d) (hd : d < 2 ^ 31) : nI a % nI d = nI (a % d) := by
  rw [← zrem_eq]
  exact pk_rem ha h0 hd
theorem znz_nI {d : Nat} (h0 : 0 < d) (hd : d < 2 ^ 31) : znz (nI d) = true := by
  simp only [znz, decide_eq_true_eq]
  exact nI_ne0 h0 hd
theorem zup_ne {μ : zM} {o k q j : Nat} {v : Int32} (h : ¬ (q = o ∧ j = k)) : zup μ o k v q j = μ q j := by
  unfold zup
  rw [if_neg h]
def sm : Nat → (Nat → Int32) → Int32
  | 0, _ => 0
  | n + 1, f => sm n f + f n
theorem sm_congr {n : Nat} {f g : Nat → Int32} (h : ∀ k, k < n → f k = g k) : sm n f = sm n g := by
  induction n with
  | zero => rfl
  | succ n ih =>
    show sm n f + f n = sm n g + g n
    rw [ih (fun k hk => h k (by omega)), h n (by omega)]
def arm (L : Nat → Nat) (p : Nat) (ax : Int32) : Int32 := if ax = 0 then (2 : Int32) * nI (p % L 2) + 1 - nI (L 2) else (2 : Int32) * nI (p / L 2) + 1 - nI (L 3)
def gl (L : Nat → Nat) (ax : Int32) : Int32 := sm (L 12) (fun k => nI (L (57 + 2 * k)) * arm L (L (56 + 2 * k)) ax)
def szs (L : Nat → Nat) : Int32 := sm (L 13) (fun k => nI (L (80 + k)))
def rkb (L : Nat → Nat) (y : Nat) : Nat → Nat
  | 0 => 0
  | n + 1 => if L (17 + 2 * n) = y then rkb L y n ||| 2 ^ L (16 + 2 * n) else rkb L y n
def LB (L : Nat → Nat) : Prop := ((2 ≤ L 0 ∧ L 0 ≤ 12) ∧ (2 ≤ L 1 ∧ L 1 ≤ 12) ∧ (1 ≤ L 2 ∧ L 2 ≤ 4) ∧ (1 ≤ L 3 ∧ L 3 ≤ 4) ∧ L 4 ≤ 11 ∧ L 5 ≤ 11 ∧ L 6 ≤ 99 ∧ L 7 ≤ 99 ∧ L 8 ≤ 99 ∧ L 9 ≤ 3 ∧ L 10 ≤ 3) ∧ (L 11 ≤ 20 ∧ L 12 ≤ 12 ∧ L 13 ≤ 6 ∧ L 14 ≤ 5 ∧ L 15 ≤ 4) ∧
  (∀ k, k < L 11 → L (16 + 2 * k) ≤ 11 ∧ L (17 + 2 * k) ≤ 11) ∧ (∀ k, k < L 12 → L (56 + 2 * k) ≤ 15 ∧ L (57 + 2 * k) ≤ 30) ∧ (∀ k, k < L 13 → L (80 + k) ≤ 9) ∧ (∀ k, k < L 14 → (1 ≤ L (86 + 3 * k) ∧ L (86 + 3 * k) ≤ 6) ∧ L (87 + 3 * k) ≤ 9 ∧ L (88 + 3 * k) ≤ 1) ∧ (∀ k, k < L 15 → L (101 + 2 * k) ≤ 15 ∧ L (102 + 2 * k) ≤ 9)
def LC0 (a : Nat) (μ : zM) (L : Nat → Nat) : Prop := (∀ i, i < 11 → μ (a + 1) i = nI (L i)) ∧ (μ (a + 2) 2 = nI (L 11) ∧ μ (a + 4) 2 = nI (L 12) ∧ μ (a + 6) 2 = nI (L 13) ∧ μ (a + 8) 2 = nI (L 14) ∧ μ (a + 10) 2 = nI (L 15)) ∧
  (∀ k, k < L 11 → μ (a + 3) (3 * k + 0) = nI (L (16 + 2 * k)) ∧ μ (a + 3) (3 * k + 1) = nI (L (17 + 2 * k))) ∧ (∀ k, k < L 12 → μ (a + 5) (3 * k + 0) = nI (L (56 + 2 * k)) ∧ μ (a + 5) (3 * k + 1) = nI (L (57 + 2 * k))) ∧ (∀ k, k < L 13 → μ (a + 7) (3 * k + 0) = nI (L (80 + k))) ∧
  (∀ k, k < L 14 → μ (a + 9) (3 * k + 0) = nI (L (86 + 3 * k)) ∧ μ (a + 9) (3 * k + 1) = nI (L (87 + 3 * k)) ∧ μ (a + 9) (3 * k + 2) = nI (L (88 + 3 * k))) ∧ (∀ k, k < L 15 → μ (a + 11) (3 * k + 0) = nI (L (101 + 2 * k)) ∧ μ (a + 11) (3 * k + 1) = nI (L (102 + 2 * k)))
def LCd (a : Nat) (μ : zM) (L : Nat → Nat) : Prop := μ a 6 = nI (L 2) ∧ μ a 7 = nI (L 3) ∧ μ a 8 = szs L ∧ (∀ p, p < 16 → μ (a + 12) p = arm L p 0 ∧ μ (a + 12) (16 + p) = arm L p 1) ∧ (μ (a + 13) 0 = gl L 0 ∧ μ (a + 13) 1 = gl L 1) ∧ (∀ y, y < 12 → μ (a + 14) y = nI (rkb L y (L 11)))
/-- the class's Lake at a holds L, and what follows of it -/
def LC (a : Nat) (μ : zM) (L : Nat → Nat) : Prop := zkd a = 1 ∧ LB L ∧ LC0 a μ L ∧ LCd a μ L
theorem zlk_ln : ∀ a, a < zNN → zkd a = 1 → zln (a + 3) = 60 ∧ zln (a + 5) = 36 ∧ zln (a + 7) = 18 ∧ zln (a + 9) = 15 ∧ zln (a + 11) = 12 := by decide +kernel
theorem zlkn {a : Nat} (h : zkd a = 1) : zln (a + 3) = 60 ∧ zln (a + 5) = 36 ∧ zln (a + 7) = 18 ∧ zln (a + 9) = 15 ∧ zln (a + 11) = 12 := zlk_ln a (zkd_lt (by omega)) h
theorem number_in {a r c n : Nat} {μ : zM} {v w : Int32} (hv : v = nI r) (hw : w = nI c) (hs : μ a 2 = nI n) (hr : r < n) (hc : c < 3) (hz : 3 * r + c < zln (a + 1)) (hz2 : zln (a + 1) < 2 ^ 31) (hn : n < 1000) : f_X6_number a v w μ = some (μ (a + 1) (3 * r + c)) := by
  subst hv hw
  have e : nI r * 3 + nI c = nI (3 * r + c) := by
    show nI r * nI 3 + nI c = _
    rw [pk_mul, nI_add, Nat.mul_comm]
  unfold f_X6_number
  rw [if_pos ⟨nI_pos (by omega), by rw [hs]; exact nI_ge hr (by omega), nI_pos (by omega), nI_ge (b := 3) hc (by omega)⟩, e, zin_nI hz hz2, nI_clamp (by omega)]
  rfl
theorem number_out {a n : Nat} {μ : zM} {v w : Int32} (hs : μ a 2 = nI n) (hn : n < 1000) (hr : v < 0 ∨ nI n ≤ v) : f_X6_number a v w μ = some (-1) := by
  unfold f_X6_number
  rw [if_neg (by
    rw [hs]
    rintro ⟨h1, h2, -⟩
    rcases hr with h | h
    · exact h1 h
    · exact h2 h)]
  rfl
section LAKE
variable {a : Nat} {μ : zM} {L : Nat → Nat} {v w : Int32} {k : Nat}
theorem rk_x (hk : zkd a = 1) (hB : LB L) (h : LC0 a μ L) (hv : v = nI k) (hl : k < L 11) : f_X6_number (a + 2) v 0 μ = some (nI (L (16 + 2 * k))) := by
  have hz := (zlkn hk).1
  have := hB.2.1.1
  rw [number_in (w := 0) (c := 0) hv rfl h.2.1.1 hl (by omega) (by show _ < zln (a + 3); omega) (by show zln (a + 3) < _; omega) (by omega)]
  exact congrArg some (h.2.2.1 k hl).1
theorem rk_y (hk : zkd a = 1) (hB : LB L) (h : LC0 a μ L) (hv : v = nI k) (hl : k < L 11) : f_X6_number (a + 2) v 1 μ = some (nI (L (17 + 2 * k))) := by
  have hz := (zlkn hk).1
  have := hB.2.1.1
  rw [number_in (w := 1) (c := 1) hv rfl h.2.1.1 hl (by omega) (by show _ < zln (a + 3); omega) (by show zln (a + 3) < _; omega) (by omega)]
  exact congrArg some (h.2.2.1 k hl).2
theorem gr_p (hk : zkd a = 1) (hB : LB L) (h : LC0 a μ L) (hv : v = nI k) (hl : k < L 12) : f_X6_number (a + 4) v 0 μ = some (nI (L (56 + 2 * k))) := by
  have hz := (zlkn hk).2.1
  have := hB.2.1.2.1
  rw [number_in (w := 0) (c := 0) hv rfl h.2.1.2.1 hl (by omega) (by show _ < zln (a + 5); omega) (by show zln (a + 5) < _; omega) (by omega)]
  exact congrArg some (h.2.2.2.1 k hl).1
theorem gr_w (hk : zkd a = 1) (hB : LB L) (h : LC0 a μ L) (hv : v = nI k) (hl : k < L 12) : f_X6_number (a + 4) v 1 μ = some (nI (L (57 + 2 * k))) := by
  have hz := (zlkn hk).2.1
  have := hB.2.1.2.1
  rw [number_in (w := 1) (c := 1) hv rfl h.2.1.2.1 hl (by omega) (by show _ < zln (a + 5); omega) (by show zln (a + 5) < _; omega) (by omega)]
  exact congrArg some (h.2.2.2.1 k hl).2
theorem wr_s (hk : zkd a = 1) (hB : LB L) (h : LC0 a μ L) (hv : v = nI k) (hl : k < L 13) : f_X6_number (a + 6) v 0 μ = some (nI (L (80 + k))) := by
  have hz := (zlkn hk).2.2.1
  have := hB.2.1.2.2.1
  rw [number_in (w := 0) (c := 0) hv rfl h.2.1.2.2.1 hl (by omega) (by show _ < zln (a + 7); omega) (by show zln (a + 7) < _; omega) (by omega)]
  exact congrArg some (h.2.2.2.2.1 k hl)
theorem mo_w (hk : zkd a = 1) (hB : LB L) (h : LC0 a μ L) (hv : v = nI k) (hl : k < L 14) : f_X6_number (a + 8) v 0 μ = some (nI (L (86 + 3 * k))) := by
  have hz := (zlkn hk).2.2.2.1
  have := hB.2.1.2.2.2.1
  rw [number_in (w := 0) (c := 0) hv rfl h.2.1.2.2.2.1 hl (by omega) (by show _ < zln (a + 9); omega) (by show zln (a + 9) < _; omega) (by omega)]
  exact congrArg some (h.2.2.2.2.2.1 k hl).1
theorem mo_t (hk : zkd a = 1) (hB : LB L) (h : LC0 a μ L) (hv : v = nI k) (hl : k < L 14) : f_X6_number (a + 8) v 1 μ = some (nI (L (87 + 3 * k))) := by
  have hz := (zlkn hk).2.2.2.1
  have := hB.2.1.2.2.2.1
  rw [number_in (w := 1) (c := 1) hv rfl h.2.1.2.2.2.1 hl (by omega) (by show _ < zln (a + 9); omega) (by show zln (a + 9) < _; omega) (by omega)]
  exact congrArg some (h.2.2.2.2.2.1 k hl).2.1
theorem mo_k (hk : zkd a = 1) (hB : LB L) (h : LC0 a μ L) (hv : v = nI k) (hl : k < L 14) : f_X6_number (a + 8) v 2 μ = some (nI (L (88 + 3 * k))) := by
  have hz := (zlkn hk).2.2.2.1
  have := hB.2.1.2.2.2.1
  rw [number_in (w := 2) (c := 2) hv rfl h.2.1.2.2.2.1 hl (by omega) (by show _ < zln (a + 9); omega) (by show zln (a + 9) < _; omega) (by omega)]
  exact congrArg some (h.2.2.2.2.2.1 k hl).2.2
theorem lk_p (hk : zkd a = 1) (hB : LB L) (h : LC0 a μ L) (hv : v = nI k) (hl : k < L 15) : f_X6_number (a + 10) v 0 μ = some (nI (L (101 + 2 * k))) := by
  have hz := (zlkn hk).2.2.2.2
  have := hB.2.1.2.2.2.2
  rw [number_in (w := 0) (c := 0) hv rfl h.2.1.2.2.2.2 hl (by omega) (by show _ < zln (a + 11); omega) (by show zln (a + 11) < _; omega) (by omega)]
  exact congrArg some (h.2.2.2.2.2.2 k hl).1
theorem lk_r (hk : zkd a = 1) (hB : LB L) (h : LC0 a μ L) (hv : v = nI k) (hl : k < L 15) : f_X6_number (a + 10) v 1 μ = some (nI (L (102 + 2 * k))) := by
  have hz := (zlkn hk).2.2.2.2
  have := hB.2.1.2.2.2.2
  rw [number_in (w := 1) (c := 1) hv rfl h.2.1.2.2.2.2 hl (by omega) (by show _ < zln (a + 11); omega) (by show zln (a + 11) < _; omega) (by omega)]
  exact congrArg some (h.2.2.2.2.2.2 k hl).2
theorem LC0.congr {μ' : zM} (h : LC0 a μ L) (hf : ∀ o, a + 1 ≤ o → o ≤ a + 11 → μ' o = μ o) : LC0 a μ' L := by
  unfold LC0 at h ⊢
  rw [hf (a + 1) (by omega) (by omega), hf (a + 2) (by omega) (by omega), hf (a + 3) (by omega) (by omega), hf (a + 4) (by omega) (by omega), hf (a + 5) (by omega) (by omega), hf (a + 6) (by omega) (by omega), hf (a + 7) (by omega) (by omega), hf (a + 8) (by omega) (by omega), hf (a + 9) (by omega) (by omega), hf (a + 10) (by omega) (by omega), hf (a + 11) (by omega) (by omega)]
  exact h
theorem LC.congr {μ' : zM} (h : LC a μ L) (hf : ∀ o, a ≤ o → o ≤ a + 14 → μ' o = μ o) : LC a μ' L := by
  refine ⟨h.1, h.2.1, h.2.2.1.congr (fun o h1 h2 => hf o (by omega) (by omega)), ?_⟩
  have hd := h.2.2.2
  unfold LCd at hd ⊢
  rw [hf a (by omega) (by omega), hf (a + 12) (by omega) (by omega), hf (a + 13) (by omega) (by omega), hf (a + 14) (by omega) (by omega)]
  exact hd
end LAKE
theorem arm_eq {a : Nat} {μ : zM} {L : Nat → Nat} {v ax : Int32} {p : Nat} (h : ∀ p, p < 16 → μ (a + 12) p = arm L p 0 ∧ μ (a + 12) (16 + p) = arm L p 1) (hv : v = nI p) (hp : p < 16) : f_X1_arm a v ax μ = some (arm L p ax) := by
  subst hv
  unfold f_X1_arm
  rw [if_pos ⟨nI_pos (by omega), nI_ge (b := 16) hp (by omega)⟩]
  by_cases hx : ax = 0
  · rw [if_neg (fun w => w hx), hx]
    show zbd (zg (zin (nI p) 32) (some (μ (a + 12) (nI p).toNatClampNeg))) _ = _
    rw [zin_nI (by omega) (by omega), nI_clamp (by omega), (h p hp).1]
    rfl
  · rw [if_pos hx]
    have e : (16 : Int32) + nI p = nI (16 + p) := nI_add 16 p
    show zbd (zg (zin (16 + nI p) 32) (some (μ (a + 12) (16 + nI p).toNatClampNeg))) _ = _
    rw [e, zin_nI (by omega) (by omega), nI_clamp (by omega), (h p hp).2]
    have : arm L p 1 = arm L p ax := by
      unfold arm
      rw [if_neg (by decide), if_neg hx]
    rw [this]
    rfl
theorem zmax1 {n : Nat} (h : 1 ≤ n) (hn : n < 2 ^ 31) : zmax 1 (nI n) = nI n := by
  unfold zmax
  by_cases h1 : n = 1
  · subst h1
    rfl
  · exact if_pos (nI_lt (a := 1) (by omega) hn)
theorem settle30 {a : Nat} {L : Nat → Nat} {μ : zM} (hB : LB L) (h6 : μ a 6 = nI (L 2)) (h7 : μ a 7 = nI (L 3)) : wp (f_X1_settle_L30 a zFU 0 μ) (fun μ' => (∀ o, o ≠ a + 12 → μ' o = μ o) ∧ ∀ p, p < 16 → μ' (a + 12) p = arm L p 0 ∧ μ' (a + 12) (16 + p) = arm L p 1) := by
  obtain ⟨⟨-, -, hb2, hb3, -⟩, -⟩ := hB
  refine wlp0 (fun n k μ' => f_X1_settle_L30 a n (nI k) μ') _ 16 (fun k μ' => (∀ o, o ≠ a + 12 → μ' o = μ o) ∧ ∀ p, p < k → μ' (a + 12) p = arm L p 0 ∧ μ' (a + 12) (16 + p) = arm L p 1) (by omega) μ ⟨fun _ _ => rfl, fun p hp => by omega⟩ ?_ ?_
  · intro n k μ1 hk ⟨hf, ha⟩ ih
    have e6 : μ1 a 6 = nI (L 2) := by rw [hf a (by omega)]; exact h6
    have e7 : μ1 a 7 = nI (L 3) := by rw [hf a (by omega)]; exact h7
    show wp (f_X1_settle_L30 a (n + 1) (nI k) μ1) _
    rw [f_X1_settle_L30]
    refine wp_ie (nI_ge (b := 16) hk (by omega)) ?_
    rw [e6]
    refine wp_g (znz_nI (by omega) (by omega)) (wp_g (zin_nI (by omega) (by omega)) (wp_ls ?_))
    have e8 : zup μ1 (a + 12) (nI k).toNatClampNeg (2 * (nI k % nI (L 2)) + 1 - nI (L 2)) a = μ1 a := zup_rne _ _ _ (by omega)
    rw [e8, e6, e7]
    have e9 : (16 : Int32) + nI k = nI (16 + k) := nI_add 16 k
    rw [e9]
    refine wp_g (znz_nI (by omega) (by omega)) (wp_g (zin_nI (by omega) (by omega)) (wp_ls (wp_ls ?_)))
    rw [nI_1, nI_clamp (by omega), nI_clamp (by omega), nI_rem (by omega) (by omega) (by omega), pk_div (by omega) (by omega) (by omega)]
    refine ih _ ⟨fun o ho => by rw [zup_rne _ _ _ ho, zup_rne _ _ _ ho]; exact hf o ho, fun p hp => ?_⟩
    by_cases hpk : p = k
    · subst hpk
      refine ⟨?_, ?_⟩
      · rw [zup_ne (by omega), zup_self]
        unfold arm
        rw [if_pos rfl]
      · rw [zup_self]
        unfold arm
        rw [if_neg (by decide)]
    · rw [zup_ne (by omega), zup_ne (by omega), zup_ne (by omega), zup_ne (by omega)]
      exact ha p (by omega)
  · intro n μ1 hI
    show wp (f_X1_settle_L30 a (n + 1) (nI 16) μ1) _
    rw [f_X1_settle_L30]
    exact wp_it (nI_le (a := 16) (Nat.le_refl _) (by omega)) (wp_some hI)
theorem settle103 {a : Nat} {L : Nat → Nat} {μ : zM} (hk : zkd a = 1) (hB : LB L) (h0 : LC0 a μ L) (hA : ∀ p, p < 16 → μ (a + 12) p = arm L p 0 ∧ μ (a + 12) (16 + p) = arm L p 1) (hz : μ (a + 13) 0 = 0 ∧ μ (a + 13) 1 = 0) :
    wp (f_X1_settle_L103 a zFU 0 μ) (fun μ' => (∀ o, o ≠ a + 13 → μ' o = μ o) ∧ μ' (a + 13) 0 = gl L 0 ∧ μ' (a + 13) 1 = gl L 1) := by
  have hb := hB.2.1.2.1
  refine wlp0 (fun n k μ' => f_X1_settle_L103 a n (nI k) μ') _ (L 12) (fun k μ' => (∀ o, o ≠ a + 13 → μ' o = μ o) ∧ μ' (a + 13) 0 = sm k (fun k => nI (L (57 + 2 * k)) * arm L (L (56 + 2 * k)) 0) ∧ μ' (a + 13) 1 = sm k (fun k => nI (L (57 + 2 * k)) * arm L (L (56 + 2 * k)) 1)) (by omega) μ ⟨fun _ _ => rfl, hz.1, hz.2⟩ ?_ ?_
  · intro n k μ1 hkk ⟨hf, ha, hb⟩ ih
    have c1 : LC0 a μ1 L := h0.congr (fun o h1 h2 => hf o (by omega))
    have hp : L (56 + 2 * k) < 16 := by have := (hB.2.2.2.1 k hkk).1; omega
    have A1 : ∀ p, p < 16 → μ1 (a + 12) p = arm L p 0 ∧ μ1 (a + 12) (16 + p) = arm L p 1 := by rw [hf (a + 12) (by omega)]; exact hA
    show wp (f_X1_settle_L103 a (n + 1) (nI k) μ1) _
    rw [f_X1_settle_L103, c1.2.1.2.1]
    refine wp_ie (nI_ge hkk (by omega)) ?_
    refine wp_bdE (gr_w hk hB c1 rfl hkk) (wp_bdE (gr_p hk hB c1 rfl hkk) (wp_bdE (arm_eq A1 rfl hp) (wp_ls ?_)))
    generalize hμ : zup μ1 (a + 13) 0 _ = μ2
    have f2 : ∀ o, o ≠ a + 13 → μ2 o = μ o := fun o ho => by rw [← hμ, zup_rne _ _ _ ho]; exact hf o ho
    have c2 : LC0 a μ2 L := h0.congr (fun o h1 h2 => f2 o (by omega))
    have A2 : ∀ p, p < 16 → μ2 (a + 12) p = arm L p 0 ∧ μ2 (a + 12) (16 + p) = arm L p 1 := by rw [f2 (a + 12) (by omega)]; exact hA
    refine wp_bdE (gr_w hk hB c2 rfl hkk) (wp_bdE (gr_p hk hB c2 rfl hkk) (wp_bdE (arm_eq A2 rfl hp) (wp_ls (wp_ls ?_))))
    rw [nI_1]
    refine ih _ ⟨fun o ho => by rw [zup_rne _ _ _ ho]; exact f2 o ho, ?_, ?_⟩
    · rw [zup_ne (by omega), ← hμ, zup_self, ha]
      rfl
    · rw [zup_self, ← hμ, zup_ne (by omega), hb]
      rfl
  · intro n μ1 ⟨hf, ha, hb⟩
    have c1 : LC0 a μ1 L := h0.congr (fun o h1 h2 => hf o (by omega))
    show wp (f_X1_settle_L103 a (n + 1) (nI (L 12)) μ1) _
    rw [f_X1_settle_L103, c1.2.1.2.1]
    exact wp_it (nI_le (Nat.le_refl _) (by omega)) (wp_some ⟨hf, ha, hb⟩)
theorem settle193 {a : Nat} {L : Nat → Nat} {μ : zM} (hk : zkd a = 1) (hB : LB L) (h0 : LC0 a μ L) (hz : μ a 8 = 0) :
    wp (f_X1_settle_L193 a zFU 0 μ) (fun μ' => (∀ o, o ≠ a → μ' o = μ o) ∧ (∀ k, k ≠ 8 → μ' a k = μ a k) ∧ μ' a 8 = szs L) := by
  have hb := hB.2.1.2.2.1
  refine wlp0 (fun n k μ' => f_X1_settle_L193 a n (nI k) μ') _ (L 13) (fun k μ' => (∀ o, o ≠ a → μ' o = μ o) ∧ (∀ k, k ≠ 8 → μ' a k = μ a k) ∧ μ' a 8 = sm k (fun k => nI (L (80 + k)))) (by omega) μ ⟨fun _ _ => rfl, fun _ _ => rfl, hz⟩ ?_ ?_
  · intro n k μ1 hkk ⟨hf, hg, ha⟩ ih
    have c1 : LC0 a μ1 L := h0.congr (fun o h1 h2 => hf o (by omega))
    show wp (f_X1_settle_L193 a (n + 1) (nI k) μ1) _
    rw [f_X1_settle_L193, c1.2.1.2.2.1]
    refine wp_ie (nI_ge hkk (by omega)) ?_
    refine wp_bdE (wr_s hk hB c1 rfl hkk) (wp_ls (wp_ls ?_))
    rw [nI_1]
    refine ih _ ⟨fun o ho => by rw [zup_rne _ _ _ ho]; exact hf o ho, fun j hj => by rw [zup_ne (by omega)]; exact hg j hj, ?_⟩
    rw [zup_self, ha]
    rfl
  · intro n μ1 ⟨hf, hg, ha⟩
    have c1 : LC0 a μ1 L := h0.congr (fun o h1 h2 => hf o (by omega))
    show wp (f_X1_settle_L193 a (n + 1) (nI (L 13)) μ1) _
    rw [f_X1_settle_L193, c1.2.1.2.2.1]
    exact wp_it (nI_le (Nat.le_refl _) (by omega)) (wp_some ⟨hf, hg, ha⟩)
theorem settle230 {a : Nat} {μ : zM} : wp (f_X1_settle_L230 a zFU 0 μ) (fun μ' => (∀ o, o ≠ a + 14 → μ' o = μ o) ∧ ∀ y, y < 12 → μ' (a + 14) y = 0) := by
  refine wlp0 (fun n k μ' => f_X1_settle_L230 a n (nI k) μ') _ 12 (fun k μ' => (∀ o, o ≠ a + 14 → μ' o = μ o) ∧ ∀ y, y < k → μ' (a + 14) y = 0) (by omega) μ ⟨fun _ _ => rfl, fun y hy => by omega⟩ ?_ ?_
  · intro n k μ1 hk ⟨hf, ha⟩ ih
    show wp (f_X1_settle_L230 a (n + 1) (nI k) μ1) _
    rw [f_X1_settle_L230]
    refine wp_ie (nI_ge (b := 12) hk (by omega)) (wp_g (zin_nI (by omega) (by omega)) (wp_ls (wp_ls ?_)))
    rw [nI_1, nI_clamp (by omega)]
    refine ih _ ⟨fun o ho => by rw [zup_rne _ _ _ ho]; exact hf o ho, fun y hy => ?_⟩
    by_cases hyk : y = k
    · subst hyk
      rw [zup_self]
    · rw [zup_ne (by omega)]
      exact ha y (by omega)
  · intro n μ1 hI
    show wp (f_X1_settle_L230 a (n + 1) (nI 12) μ1) _
    rw [f_X1_settle_L230]
    exact wp_it (nI_le (a := 12) (Nat.le_refl _) (by omega)) (wp_some hI)
theorem nI_bv {n : Nat} : (nI n).toBitVec = BitVec.ofNat 32 n := rfl
theorem nI_or (a b : Nat) : nI a ||| nI b = nI (a ||| b) := by
  apply Int32.toBitVec_inj.mp
  rw [Int32.toBitVec_or, nI_bv, nI_bv, nI_bv]
  apply BitVec.eq_of_getLsbD_eq
  intro i hi
  simp [BitVec.getLsbD_or, BitVec.getLsbD_ofNat, hi]
theorem nI_and (a b : Nat) : nI a &&& nI b = nI (a &&& b) := by
  apply Int32.toBitVec_inj.mp
  rw [Int32.toBitVec_and, nI_bv, nI_bv, nI_bv]
  apply BitVec.eq_of_getLsbD_eq
  intro i hi
  simp [BitVec.getLsbD_and, BitVec.getLsbD_ofNat, hi]
theorem nI_shl1 {n k : Nat} (hk : k < 31) (h : n * 2 ^ k < 2 ^ 32) : nI n <<< (nI k &&& 31) = nI (n * 2 ^ k) := by
  have e : nI k &&& 31 = nI k := by
    show nI k &&& nI 31 = nI k
    rw [nI_and]
    congr 1
    have : (31 : Nat) = 2 ^ 5 - 1 := rfl
    rw [this, Nat.and_two_pow_sub_one_eq_mod]
    omega
  rw [e]
  refine pk_shlN _ k ?_ h
  have e2 : (nI k).toBitVec.toInt = k := nI_toInt (by omega)
  have hp : k % 32 = k := by omega
  rw [show (32 : BitVec 32) = BitVec.ofNat 32 32 from rfl]
  have : (nI k).toBitVec.toNat = k := pk_tn (by omega)
  rw [BitVec.smod_eq]
  have m1 : (nI k).toBitVec.msb = false := by
    rw [BitVec.msb_eq_decide, this]
    exact decide_eq_false (by omega)
  have m2 : (BitVec.ofNat 32 32).msb = false := by decide
  rw [m1, m2]
  show ((nI k).toBitVec.umod (BitVec.ofNat 32 32)).toNat = k
  rw [BitVec.umod_eq, BitVec.toNat_umod, this]
  exact hp
theorem one_shl {k : Nat} (hk : k < 31) : (1 : Int32) <<< (nI k &&& 31) = nI (2 ^ k) := by
  have h2 : 2 ^ k ≤ 2 ^ 30 := Nat.pow_le_pow_right (by omega) (by omega)
  have := nI_shl1 (n := 1) (k := k) hk (by omega)
  rw [Nat.one_mul] at this
  exact this
theorem rkb_lt (L : Nat → Nat) (y : Nat) : ∀ n, (∀ k, k < n → L (16 + 2 * k) ≤ 11) → rkb L y n < 2 ^ 12
  | 0, _ => by
    show 0 < 2 ^ 12
    decide
  | n + 1, h => by
    have ih := rkb_lt L y n (fun k hk => h k (by omega))
    unfold rkb
    split
    · refine Nat.or_lt_two_pow ih ?_
      exact Nat.pow_lt_pow_right (by omega) (by have := h n (by omega); omega)
    · exact ih
theorem settle251 {a : Nat} {L : Nat → Nat} {μ : zM} (hk : zkd a = 1) (hB : LB L) (h0 : LC0 a μ L) (hz : ∀ y, y < 12 → μ (a + 14) y = 0) :
    wp (f_X1_settle_L251 a zFU 0 μ) (fun μ' => (∀ o, o ≠ a + 14 → μ' o = μ o) ∧ ∀ y, y < 12 → μ' (a + 14) y = nI (rkb L y (L 11))) := by
  have hb := hB.2.1.1
  refine wlp0 (fun n k μ' => f_X1_settle_L251 a n (nI k) μ') _ (L 11) (fun k μ' => (∀ o, o ≠ a + 14 → μ' o = μ o) ∧ ∀ y, y < 12 → μ' (a + 14) y = nI (rkb L y k)) (by omega) μ ⟨fun _ _ => rfl, hz⟩ ?_ ?_
  · intro n k μ1 hkk ⟨hf, ha⟩ ih
    have c1 : LC0 a μ1 L := h0.congr (fun o h1 h2 => hf o (by omega))
    obtain ⟨hx, hy⟩ := hB.2.2.1 k hkk
    show wp (f_X1_settle_L251 a (n + 1) (nI k) μ1) _
    rw [f_X1_settle_L251, c1.2.1.1]
    refine wp_ie (nI_ge hkk (by omega)) (wp_bdE (rk_y hk hB c1 rfl hkk) (wp_bd (wp_it ⟨nI_pos (by omega), nI_ge (b := 12) (by omega) (by omega)⟩ (wp_g (zin_nI (by omega) (by omega)) (wp_bdE (rk_x hk hB c1 rfl hkk) (wp_ls (wp_some (wp_ls ?_))))))))
    rw [nI_1, nI_clamp (by omega), ha _ (by omega), one_shl (by omega), nI_or]
    refine ih _ ⟨fun o ho => by rw [zup_rne _ _ _ ho]; exact hf o ho, fun y hy2 => ?_⟩
    by_cases hyk : y = L (17 + 2 * k)
    · subst hyk
      rw [zup_self]
      show _ = nI (if L (17 + 2 * k) = L (17 + 2 * k) then _ else _)
      rw [if_pos rfl]
    · rw [zup_ne (by omega), ha y hy2]
      show _ = nI (if L (17 + 2 * k) = y then _ else _)
      rw [if_neg (fun w => hyk w.symm)]
  · intro n μ1 hI
    have c1 : LC0 a μ1 L := h0.congr (fun o h1 h2 => hI.1 o (by omega))
    show wp (f_X1_settle_L251 a (n + 1) (nI (L 11)) μ1) _
    rw [f_X1_settle_L251, c1.2.1.1]
    exact wp_it (nI_le (Nat.le_refl _) (by omega)) (wp_some hI)
/-- settle: a lake whose numbers can be is as LC says -/
theorem settle_ok {a : Nat} {L : Nat → Nat} {μ : zM} (hk : zkd a = 1) (hB : LB L) (h0 : LC0 a μ L) : wp (f_X1_settle a μ) (fun μ' => LC a μ' L ∧ ∀ o, o ≠ a → o ≠ a + 12 → o ≠ a + 13 → o ≠ a + 14 → μ' o = μ o) := by
  have hb2 := hB.1.2.2.1
  have hb3 := hB.1.2.2.2.1
  unfold f_X1_settle
  refine wp_ls ?_
  rw [h0.1 2 (by omega), zmax1 hb2.1 (by omega)]
  have e1 : zup μ a 6 (nI (L 2)) (a + 1) 3 = nI (L 3) := by rw [zup_ne (by omega), h0.1 3 (by omega)]
  refine wp_ls ?_
  rw [e1, zmax1 hb3.1 (by omega)]
  generalize hm : zup (zup μ a 6 (nI (L 2))) a 7 (nI (L 3)) = μ1
  have g1 : ∀ o, o ≠ a → μ1 o = μ o := fun o ho => by rw [← hm, zup_rne _ _ _ ho, zup_rne _ _ _ ho]
  have g6 : μ1 a 6 = nI (L 2) := by rw [← hm, zup_ne (by omega), zup_self]
  have g7 : μ1 a 7 = nI (L 3) := by rw [← hm, zup_self]
  refine wp_bdQ (settle30 hB g6 g7) fun μ2 ⟨f2, A2⟩ => wp_ls (wp_ls ?_)
  generalize hm3 : zup (zup μ2 (a + 13) 0 0) (a + 13) 1 0 = μ3
  have f3 : ∀ o, o ≠ a + 13 → μ3 o = μ2 o := fun o ho => by rw [← hm3, zup_rne _ _ _ ho, zup_rne _ _ _ ho]
  have c3 : LC0 a μ3 L := h0.congr (fun o h1 h2 => by rw [f3 o (by omega), f2 o (by omega), g1 o (by omega)])
  refine wp_bdQ (settle103 hk hB c3 (by rw [f3 _ (by omega)]; exact A2) ⟨by rw [← hm3, zup_ne (by omega), zup_self], by rw [← hm3, zup_self]⟩) fun μ4 ⟨f4, b4, b5⟩ => wp_ls ?_
  generalize hm5 : zup μ4 a 8 0 = μ5
  have f5 : ∀ o, o ≠ a → μ5 o = μ4 o := fun o ho => by rw [← hm5, zup_rne _ _ _ ho]
  have c5 : LC0 a μ5 L := c3.congr (fun o h1 h2 => by rw [f5 o (by omega), f4 o (by omega)])
  refine wp_bdQ (settle193 hk hB c5 (by rw [← hm5, zup_self])) fun μ6 ⟨f6, k6, b6⟩ => ?_
  refine wp_bdQ settle230 fun μ7 ⟨f7, b7⟩ => ?_
  have c7 : LC0 a μ7 L := c5.congr (fun o h1 h2 => by rw [f7 o (by omega), f6 o (by omega)])
  refine wp_bdQ (settle251 hk hB c7 b7) fun μ8 ⟨f8, b8⟩ => wp_some ⟨⟨hk, hB, c7.congr (fun o h1 h2 => f8 o (by omega)), ?_⟩, ?_⟩
  · have ea : ∀ k, k ≠ 8 → μ8 a k = μ1 a k := fun k hk8 => by rw [f8 a (by omega), f7 a (by omega), k6 k hk8, ← hm5, zup_ne (by omega), f4 a (by omega), f3 a (by omega), f2 a (by omega)]
    refine ⟨by rw [ea 6 (by omega)]; exact g6, by rw [ea 7 (by omega)]; exact g7, by rw [f8 a (by omega), f7 a (by omega)]; exact b6, ?_, ?_, b8⟩
    · rw [f8 _ (by omega), f7 _ (by omega), f6 _ (by omega), f5 _ (by omega), f4 _ (by omega), f3 _ (by omega)]
      exact A2
    · rw [f8 _ (by omega), f7 _ (by omega), f6 _ (by omega), f5 _ (by omega)]
      exact ⟨b4, b5⟩
  · intro o h1 h2 h3 h4
    rw [f8 o h4, f7 o h4, f6 o h1, f5 o h1, f4 o h3, f3 o h3, f2 o h2, g1 o h1]
/-! LEAN, and where a raft can lie (class) -/
def sgn (x : Int32) : Int32 := if 0 < x then 1 else if x < 0 then -1 else 0
def leanS (L : Nat → Nat) (x : Int32) : Int32 := if nI (L 6) < zabs x then sgn x else 0
theorem I_neg1 : (-1 : Int32).toBitVec = BitVec.allOnes 32 := by decide
theorem signum_eq (x : Int32) : f_J6_signum_0f7a4 x = sgn x := by
  have h1 : (x >>> ((31 : Int32) &&& 31)).toInt = x.toInt >>> 31 := pk_shr x _ 31 (by decide)
  have h2 : (zushr (-x) 31).toBitVec.toNat = (-x).toBitVec.toNat / 2 ^ 31 := pk_ushr (-x) 31 31 (by decide)
  have hlo := Int32.le_toInt x
  have hhi := Int32.toInt_lt x
  have s1 : x.toInt >>> 31 = if x.toInt < 0 then -1 else 0 := by
    rw [Int.shiftRight_eq_div_pow]
    split <;> omega
  unfold f_J6_signum_0f7a4 sgn
  by_cases hx : x.toInt < 0
  · have e1 : x >>> ((31 : Int32) &&& 31) = -1 := by
      apply Int32.toInt_inj.mp
      rw [h1, s1, if_pos hx]
      decide
    rw [e1, if_neg (by rw [I_lt]; show ¬ (0 : Int) < _; omega), if_pos (by rw [I_lt]; exact hx)]
    apply Int32.toBitVec_inj.mp
    rw [Int32.toBitVec_or, I_neg1, BitVec.allOnes_or]
  · have e1 : x >>> ((31 : Int32) &&& 31) = 0 := by
      apply Int32.toInt_inj.mp
      rw [h1, s1, if_neg hx]
      decide
    rw [e1]
    have e2 : (0 : Int32) ||| zushr (-x) 31 = zushr (-x) 31 := by
      apply Int32.toBitVec_inj.mp
      rw [Int32.toBitVec_or]
      exact BitVec.zero_or
    rw [e2]
    have e3 : (-x).toBitVec.toNat = (2 ^ 32 - x.toBitVec.toNat) % 2 ^ 32 := by
      rw [Int32.toBitVec_neg, BitVec.toNat_neg]
    have e4 : x.toInt = x.toBitVec.toNat := by
      have : x.toInt = x.toBitVec.toInt := rfl
      rw [this, BitVec.toInt_eq_toNat_cond]
      have h5 := x.toBitVec.isLt
      split
      · rfl
      · rw [this, BitVec.toInt_eq_toNat_cond] at hx
        rw [if_neg (by assumption)] at hx
        omega
    by_cases h0 : x.toInt = 0
    · rw [if_neg (by rw [I_lt]; show ¬ (0 : Int) < _; omega), if_neg (by rw [I_lt]; exact hx)]
      apply Int32.toBitVec_inj.mp
      apply BitVec.eq_of_toNat_eq
      rw [h2, e3]
      have : x.toBitVec.toNat = 0 := by omega
      rw [this]
      decide
    · rw [if_pos (by rw [I_lt]; show (0 : Int) < _; omega)]
      apply Int32.toBitVec_inj.mp
      apply BitVec.eq_of_toNat_eq
      rw [h2, e3]
      have h7 : (1 : Int32).toBitVec.toNat = 1 := by decide
      rw [h7]
      omega
def b2i (b : Bool) : Int32 := if b = true then 1 else 0
def clB (W B : Nat → Nat) (x y : Nat) : Bool := decide (x + B 2 ≤ W 0) && (decide (y + B 3 ≤ W 1) && (List.range (W 11)).all (fun k => !(decide (x ≤ W (16 + 2 * k)) && decide (W (16 + 2 * k) < x + B 2) && decide (y ≤ W (17 + 2 * k)) && decide (W (17 + 2 * k) < y + B 3))))
theorem clB_iff {W B : Nat → Nat} {x y : Nat} : clB W B x y = true ↔ x + B 2 ≤ W 0 ∧ y + B 3 ≤ W 1 ∧ ∀ k, k < W 11 → ¬ (x ≤ W (16 + 2 * k) ∧ W (16 + 2 * k) < x + B 2 ∧ y ≤ W (17 + 2 * k) ∧ W (17 + 2 * k) < y + B 3) := by
  unfold clB
  simp only [Bool.and_eq_true, decide_eq_true_eq, List.all_eq_true, List.mem_range, Bool.not_eq_true', Bool.and_eq_false_iff, decide_eq_false_iff_not]
  refine and_congr Iff.rfl (and_congr Iff.rfl (forall_congr' fun k => forall_congr' fun hk => ?_))
  omega
def canL (W B : Nat → Nat) (x y : Int32) : Bool := decide (0 ≤ x) && (decide (0 ≤ y) && clB W B x.toNatClampNeg y.toNatClampNeg)
theorem rkb_bit (L : Nat → Nat) (y j : Nat) : ∀ n, (rkb L y n).testBit j = true ↔ ∃ k, k < n ∧ L (17 + 2 * k) = y ∧ L (16 + 2 * k) = j
  | 0 => by
    unfold rkb
    simp
  | n + 1 => by
    have ih := rkb_bit L y j n
    unfold rkb
    by_cases h : L (17 + 2 * n) = y
    · rw [if_pos h, Nat.testBit_or, Bool.or_eq_true, ih, Nat.testBit_two_pow]
      constructor
      · rintro (⟨k, h1, h2⟩ | h1)
        · exact ⟨k, by omega, h2⟩
        · exact ⟨n, by omega, h, of_decide_eq_true h1⟩
      · rintro ⟨k, h1, h2, h3⟩
        by_cases hk : k = n
        · subst hk
          exact Or.inr (decide_eq_true h3)
        · exact Or.inl ⟨k, by omega, h2, h3⟩
    · rw [if_neg h, ih]
      constructor
      · rintro ⟨k, h1, h2⟩
        exact ⟨k, by omega, h2⟩
      · rintro ⟨k, h1, h2, h3⟩
        by_cases hk : k = n
        · subst hk
          exact absurd h2 h
        · exact ⟨k, by omega, h2, h3⟩
def hullN (c x : Nat) : Nat := (2 ^ c - 1) * 2 ^ x
theorem hull_bit (c x j : Nat) : (hullN c x).testBit j = true ↔ x ≤ j ∧ j < x + c := by
  unfold hullN
  rw [Nat.testBit_mul_two_pow, Nat.testBit_two_pow_sub_one, Bool.and_eq_true, decide_eq_true_eq, decide_eq_true_eq]
  omega
theorem and_ne0 {a b : Nat} : a &&& b ≠ 0 ↔ ∃ j, a.testBit j = true ∧ b.testBit j = true := by
  constructor
  · intro h
    obtain ⟨j, hj⟩ := Nat.exists_testBit_of_ne_zero h
    rw [Nat.testBit_and, Bool.and_eq_true] at hj
    exact ⟨j, hj⟩
  · rintro ⟨j, h1, h2⟩ h
    have := Nat.testBit_and a b j
    rw [h, h1, h2, Nat.zero_testBit] at this
    cases this
theorem hull_lt {c x : Nat} (hc : c ≤ 4) (hx : x ≤ 12) : hullN c x < 2 ^ 16 := by
  unfold hullN
  have h1 : 2 ^ c ≤ 2 ^ 4 := Nat.pow_le_pow_right (by omega) hc
  have h2 : 2 ^ x ≤ 2 ^ 12 := Nat.pow_le_pow_right (by omega) hx
  have h3 : (2 ^ c - 1) * 2 ^ x ≤ 15 * 2 ^ 12 := Nat.mul_le_mul (by omega) h2
  omega
theorem hull_eq {c x : Nat} (hc : c ≤ 4) (hx : x ≤ 12) : (((1 : Int32) <<< (nI c &&& 31)) - (1 : Int32)) <<< (nI x &&& 31) = nI (hullN c x) := by
  have h1 : 2 ^ c ≤ 2 ^ 4 := Nat.pow_le_pow_right (by omega) hc
  have h0 : 1 ≤ 2 ^ c := Nat.one_le_two_pow
  have h2 : 2 ^ x ≤ 2 ^ 12 := Nat.pow_le_pow_right (by omega) hx
  have h3 : (2 ^ c - 1) * 2 ^ x ≤ 15 * 2 ^ 12 := Nat.mul_le_mul (by omega) h2
  have e1 : (1 : Int32) <<< (nI c &&& 31) = nI (2 ^ c) := by
    have := nI_shl1 (n := 1) (k := c) (by omega) (by omega)
    rw [Nat.one_mul] at this
    exact this
  rw [e1, show nI (2 ^ c) - (1 : Int32) = nI (2 ^ c - 1) from pk_sub h0]
  exact nI_shl1 (by omega) (by omega)
def rockHit (W B : Nat → Nat) (x y : Nat) : Prop := ∃ k, k < W 11 ∧ x ≤ W (16 + 2 * k) ∧ W (16 + 2 * k) < x + B 2 ∧ y ≤ W (17 + 2 * k) ∧ W (17 + 2 * k) < y + B 3
theorem rockUnder_ok {w b : Nat} {μ : zM} {W B : Nat → Nat} {x y : Nat} (hW : LC w μ W) (hBu : LC b μ B) (hx : x ≤ 12) (hy : y ≤ 12) : wp (f_X1_hasRockUnder w b (nI x) (nI y) μ) (fun r => r = 0 ∧ ¬ rockHit W B x y ∨ r = 1 ∧ rockHit W B x y) := by
  obtain ⟨hwk, hWB, hW0, hWd⟩ := hW
  obtain ⟨hbk, hBB, hB0, hBd⟩ := hBu
  have b2 := hBB.1.2.2.1
  have b3 := hBB.1.2.2.2.1
  unfold f_X1_hasRockUnder
  refine wp_ls ?_
  rw [hBd.1, hull_eq (by omega) hx]
  have hrow : ∀ row, (rkb W row (W 11) &&& hullN (B 2) x ≠ 0 ↔ ∃ k, k < W 11 ∧ W (17 + 2 * k) = row ∧ x ≤ W (16 + 2 * k) ∧ W (16 + 2 * k) < x + B 2) := by
    intro row
    rw [and_ne0]
    constructor
    · rintro ⟨j, h1, h2⟩
      obtain ⟨k, k1, k2, k3⟩ := (rkb_bit W row j _).mp h1
      have := (hull_bit _ _ _).mp h2
      exact ⟨k, k1, k2, by omega, by omega⟩
    · rintro ⟨k, k1, k2, k3, k4⟩
      exact ⟨W (16 + 2 * k), (rkb_bit W row _ _).mpr ⟨k, k1, k2, rfl⟩, (hull_bit _ _ _).mpr ⟨k3, k4⟩⟩
  have hloop : wp (f_X1_hasRockUnder_L15 w b (nI y) (nI (hullN (B 2) x)) μ zFU (nI y)) (fun r => r = .inl 1 ∧ rockHit W B x y ∨ r = .inr () ∧ ¬ rockHit W B x y) := by
    refine wlp (fun n k (_ : Unit) => f_X1_hasRockUnder_L15 w b (nI y) (nI (hullN (B 2) x)) μ n (nI k)) _ (y + B 3) (fun k _ => y ≤ k ∧ ∀ row, y ≤ row → row < k → row < 12 → rkb W row (W 11) &&& hullN (B 2) x = 0) ?_ ?_ zFU y () (by omega) (by unfold zFU; omega) ⟨Nat.le_refl _, fun row h1 h2 => by omega⟩
    · intro n k _ hk ⟨hyk, hI⟩ ih
      show wp (f_X1_hasRockUnder_L15 w b (nI y) (nI (hullN (B 2) x)) μ (n + 1) (nI k)) _
      rw [f_X1_hasRockUnder_L15, hBd.2.1, nI_add]
      refine wp_ie (nI_ge hk (by omega)) ?_
      by_cases h12 : k < 12
      · have hm : rkb W k (W 11) < 2 ^ 12 := rkb_lt W k _ (fun j hj => (hWB.2.2.1 j hj).1)
        have hle : rkb W k (W 11) &&& hullN (B 2) x ≤ rkb W k (W 11) := Nat.and_le_left
        by_cases hz : rkb W k (W 11) &&& hullN (B 2) x = 0
        · refine wp_bd (wp_ie (nI_pos (by omega)) (wp_ie (nI_ge (b := 12) h12 (by omega)) (wp_g (zin_nI h12 (by omega)) (wp_it ?_ (wp_some ?_)))))
          · rw [nI_clamp (by omega), hWd.2.2.2.2.2 k h12, nI_and, hz]
            rfl
          · refine wp_ie (by decide) (wp_ls ?_)
            rw [nI_1]
            refine ih () ⟨by omega, fun row h1 h2 h3 => ?_⟩
            by_cases hr : row = k
            · subst hr
              exact hz
            · exact hI row h1 (by omega) h3
        · refine wp_bd (wp_ie (nI_pos (by omega)) (wp_ie (nI_ge (b := 12) h12 (by omega)) (wp_g (zin_nI h12 (by omega)) (wp_ie ?_ (wp_some ?_)))))
          · rw [nI_clamp (by omega), hWd.2.2.2.2.2 k h12, nI_and]
            exact nI_ne0 (by omega) (by omega)
          · refine wp_it rfl (wp_some (Or.inl ⟨rfl, ?_⟩))
            obtain ⟨j, j1, j2, j3, j4⟩ := (hrow k).mp hz
            exact ⟨j, j1, j3, j4, by omega, by omega⟩
      · refine wp_bd (wp_ie (nI_pos (by omega)) (wp_it (nI_le (a := 12) (by omega) (by omega)) (wp_some ?_)))
        refine wp_ie (by decide) (wp_ls ?_)
        rw [nI_1]
        refine ih () ⟨by omega, fun row h1 h2 h3 => hI row h1 (by omega) h3⟩
    · intro n _ ⟨hyk, hI⟩
      show wp (f_X1_hasRockUnder_L15 w b (nI y) (nI (hullN (B 2) x)) μ (n + 1) (nI (y + B 3))) _
      rw [f_X1_hasRockUnder_L15, hBd.2.1, nI_add]
      refine wp_it (nI_le (Nat.le_refl _) (by omega)) (wp_some (Or.inr ⟨rfl, ?_⟩))
      rintro ⟨k, k1, k2, k3, k4, k5⟩
      have := (hWB.2.2.1 k k1).2
      exact (hrow (W (17 + 2 * k))).mpr ⟨k, k1, rfl, k2, k3⟩ (hI _ k4 k5 (by omega))
  refine wp_bdQ hloop fun v hv => ?_
  rcases hv with ⟨rfl, h⟩ | ⟨rfl, h⟩
  · exact wp_suml (wp_some (Or.inr ⟨rfl, h⟩))
  · exact wp_sumr (wp_some (Or.inl ⟨rfl, h⟩))
theorem surrounds_eq {w b : Nat} {μ : zM} {W B : Nat → Nat} {x y : Nat} (hW : LC w μ W) (hBu : LC b μ B) (hx : x ≤ 20) (hy : y ≤ 20) : f_X1_surrounds w b (nI x) (nI y) μ = b2i (decide (x + B 2 ≤ W 0 ∧ y + B 3 ≤ W 1)) := by
  have w0 := hW.2.1.1.1
  have w1 := hW.2.1.1.2.1
  have b2 := hBu.2.1.1.2.2.1
  have b3 := hBu.2.1.1.2.2.2.1
  unfold f_X1_surrounds b2i zl
  rw [hW.2.2.1.1 0 (by omega), hW.2.2.1.1 1 (by omega), hBu.2.2.2.1, hBu.2.2.2.2.1, nI_add, nI_add]
  by_cases h : x + B 2 ≤ W 0 ∧ y + B 3 ≤ W 1
  · rw [if_pos ⟨nI_pos (by omega), nI_pos (by omega), nI_nlt h.1 (by omega), nI_nlt h.2 (by omega)⟩, if_pos (decide_eq_true h)]
  · rw [if_neg (by
      rintro ⟨-, -, h1, h2⟩
      rw [nI_ltI (by omega) (by omega)] at h1 h2
      exact h ⟨by omega, by omega⟩), if_neg (by rw [decide_eq_false h]; decide)]
theorem surrounds_neg {w b : Nat} {μ : zM} {v2 v3 : Int32} (h : v2 < 0 ∨ v3 < 0) : f_X1_surrounds w b v2 v3 μ = 0 := by
  unfold f_X1_surrounds zl
  rw [if_neg]
  rintro ⟨h1, h2, -⟩
  rcases h with h | h
  · exact h1 h
  · exact h2 h
/-- a coordinate next to one of the lake -/
def crd (v : Int32) : Prop := v < 0 ∨ ∃ x : Nat, x ≤ 12 ∧ v = nI x
theorem floats_eq {w b : Nat} {μ : zM} {W B : Nat → Nat} {v2 v3 : Int32} (hW : LC w μ W) (hBu : LC b μ B) (hx : crd v2) (hy : crd v3) : f_X1_floats w b v2 v3 μ = some (b2i (canL W B v2 v3)) := by
  refine wp_eq ?_
  unfold f_X1_floats
  rcases hx with hx | ⟨x, hx, rfl⟩
  · refine wp_bd (wp_bd (wp_it (surrounds_neg (Or.inl hx)) (wp_some (wp_ie (by decide) (wp_some (wp_g (by decide) (wp_some ?_)))))))
    unfold canL
    rw [decide_eq_false (Int32.not_le.mpr hx)]
    rfl
  · rcases hy with hy | ⟨y, hy, rfl⟩
    · refine wp_bd (wp_bd (wp_it (surrounds_neg (Or.inr hy)) (wp_some (wp_ie (by decide) (wp_some (wp_g (by decide) (wp_some ?_)))))))
      unfold canL
      rw [decide_eq_false (Int32.not_le.mpr hy), Bool.false_and, Bool.and_false]
      rfl
    · have ec : canL W B (nI x) (nI y) = clB W B x y := by
        unfold canL
        rw [decide_eq_true (nI_pos' (by omega)), decide_eq_true (nI_pos' (by omega)), nI_clamp (by omega), nI_clamp (by omega)]
        rfl
      rw [ec, surrounds_eq hW hBu (by omega) (by omega)]
      by_cases h : x + B 2 ≤ W 0 ∧ y + B 3 ≤ W 1
      · refine wp_bd (wp_bd (wp_ie (by rw [decide_eq_true h]; decide) (wp_bdQ (rockUnder_ok hW hBu hx hy) fun r hr => ?_)))
        rcases hr with ⟨rfl, hn⟩ | ⟨rfl, hn⟩
        · refine wp_ie (by decide) (wp_some (wp_it rfl (wp_some (wp_g (by decide) (wp_some ?_)))))
          have : clB W B x y = true := clB_iff.mpr ⟨h.1, h.2, fun k hk w => hn ⟨k, hk, w.1, w.2.1, w.2.2.1, w.2.2.2⟩⟩
          rw [this]
          rfl
        · refine wp_it (by decide) (wp_some (wp_ie (by decide) (wp_some (wp_g (by decide) (wp_some ?_)))))
          have : clB W B x y = false := by
            rw [← Bool.not_eq_true, clB_iff]
            rintro ⟨-, -, h3⟩
            obtain ⟨k, k1, k2, k3, k4, k5⟩ := hn
            exact h3 k k1 ⟨k2, k3, k4, k5⟩
          rw [this]
          rfl
      · refine wp_bd (wp_bd (wp_it (by rw [decide_eq_false h]; decide) (wp_some (wp_ie (by decide) (wp_some (wp_g (by decide) (wp_some ?_)))))))
        have : clB W B x y = false := by
          rw [← Bool.not_eq_true, clB_iff]
          rintro ⟨h1, h2, -⟩
          exact h ⟨h1, h2⟩
        rw [this]
        rfl
theorem leanC {a : Nat} {μ : zM} {L : Nat → Nat} (h : LC a μ L) (x : Int32) : f_X1_lean a x μ = leanS L x := by
  unfold f_X1_lean leanS zl
  rw [h.2.2.1.1 6 (by omega), signum_eq]
theorem linesC0 {a : Nat} {μ : zM} {L : Nat → Nat} (h : LC a μ L) : f_X1_lines a 0 μ = nI (L 2) := by
  unfold f_X1_lines zl
  rw [if_neg (by decide), h.2.2.2.1]
theorem linesC1 {a : Nat} {μ : zM} {L : Nat → Nat} (h : LC a μ L) : f_X1_lines a 1 μ = nI (L 3) := by
  unfold f_X1_lines zl
  rw [if_pos (by decide), h.2.2.2.2.1]
theorem placesC {a : Nat} {μ : zM} {L : Nat → Nat} (h : LC a μ L) : f_X1_places a μ = nI (L 2 * L 3) := by
  unfold f_X1_places
  rw [h.2.2.2.1, h.2.2.2.2.1, pk_mul]
theorem armC {a : Nat} {μ : zM} {L : Nat → Nat} {v ax : Int32} {p : Nat} (h : LC a μ L) (hv : v = nI p) (hp : p < 16) : f_X1_arm a v ax μ = some (arm L p ax) := arm_eq h.2.2.2.2.2.2.1 hv hp
theorem glC {a : Nat} {μ : zM} {L : Nat → Nat} (h : LC a μ L) (ax : Int32) : f_X1_graveList a ax μ = gl L ax := by
  unfold f_X1_graveList zl
  by_cases hx : ax = 0
  · rw [if_neg (fun w => w hx), h.2.2.2.2.2.2.2.1.1, hx]
  · rw [if_pos hx, h.2.2.2.2.2.2.2.1.2]
    unfold gl
    refine sm_congr fun k _ => ?_
    unfold arm
    rw [if_neg (by decide), if_neg hx]
