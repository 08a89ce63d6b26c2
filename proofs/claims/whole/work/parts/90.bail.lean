/-! bail: in which order -/
def wt (r b : Nat → Nat) : Nat → Nat → Nat
  | 0 => fun _ => 0
  | j + 1 => fun k => if k = b j then 0 else wt r b j k + r k
def sS (r b : Nat → Nat) (j : Nat) : Nat → Nat
  | 0 => 0
  | k + 1 => sS r b j k + (wt r b j k + r k)
def ms (r b : Nat → Nat) (K : Nat) : Nat → Nat
  | 0 => 0
  | j + 1 => if ms r b K j < sS r b j K then sS r b j K else ms r b K j
theorem wt_congr {r b b' : Nat → Nat} {h : Nat} (e : ∀ j, j < h → b j = b' j) : ∀ j, j ≤ h → wt r b j = wt r b' j
  | 0, _ => rfl
  | j + 1, hj => by
    funext k
    show (if k = b j then 0 else wt r b j k + r k) = if k = b' j then 0 else wt r b' j k + r k
    rw [wt_congr e j (by omega), e j (by omega)]
theorem sS_congr {r b b' : Nat → Nat} {j : Nat} (e : wt r b j = wt r b' j) : ∀ k, sS r b j k = sS r b' j k
  | 0 => rfl
  | k + 1 => by
    show sS r b j k + _ = sS r b' j k + _
    rw [sS_congr e k, e]
theorem ms_congr {r b b' : Nat → Nat} {K h : Nat} (e : ∀ j, j < h → b j = b' j) : ∀ j, j ≤ h + 1 → ms r b K j = ms r b' K j
  | 0, _ => rfl
  | j + 1, hj => by
    show (if ms r b K j < sS r b j K then _ else _) = if ms r b' K j < sS r b' j K then _ else _
    rw [ms_congr e j (by omega), sS_congr (wt_congr e j (by omega)) K]
theorem ms_up {r b : Nat → Nat} {K i : Nat} : ∀ j, ms r b K i ≤ ms r b K (i + j)
  | 0 => Nat.le_refl _
  | j + 1 => by
    have ih := ms_up (r := r) (b := b) (K := K) (i := i) j
    show _ ≤ if ms r b K (i + j) < sS r b (i + j) K then sS r b (i + j) K else ms r b K (i + j)
    split <;> omega
theorem wt_le {r b : Nat → Nat} {K : Nat} (hr : ∀ k, k < K → r k ≤ 9) : ∀ j k, k < K → wt r b j k ≤ 9 * j
  | 0, k, _ => Nat.zero_le _
  | j + 1, k, hk => by
    have ih := wt_le (b := b) hr j k hk
    have := hr k hk
    show (if k = b j then 0 else wt r b j k + r k) ≤ _
    split <;> omega
theorem sS_le {r b : Nat → Nat} {K : Nat} (hr : ∀ k, k < K → r k ≤ 9) {j : Nat} : ∀ k, k ≤ K → sS r b j k ≤ (9 * j + 9) * k
  | 0, _ => Nat.zero_le _
  | k + 1, hk => by
    have ih := sS_le (b := b) hr (j := j) k (by omega)
    have h1 := wt_le (b := b) hr j k (by omega)
    have h2 := hr k (by omega)
    show sS r b j k + (wt r b j k + r k) ≤ _
    rw [Nat.mul_succ]
    omega
theorem ms_le {r b : Nat → Nat} {K : Nat} (hr : ∀ k, k < K → r k ≤ 9) (hK : K ≤ 4) : ∀ j, j ≤ 8 → ms r b K j ≤ 324
  | 0, _ => Nat.zero_le _
  | j + 1, hj => by
    have ih := ms_le (b := b) hr hK j (by omega)
    have h1 := sS_le (b := b) hr (j := j) K (Nat.le_refl _)
    have h2 : (9 * j + 9) * K ≤ (9 * j + 9) * 4 := Nat.mul_le_mul (Nat.le_refl _) hK
    show (if ms r b K j < sS r b j K then _ else _) ≤ _
    split <;> omega
/-- the digit of an hour -/
def pd (K n w j : Nat) : Nat := w / K ^ (n - 1 - j) % K
theorem pd_pre {K n h c t j : Nat} (hK : 0 < K) (hj : j < h) (hn : h ≤ n) (ht : t < K ^ (n - h)) : pd K n (c * K ^ (n - h) + t) j = pd K h c j := by
  unfold pd
  have e : K ^ (n - 1 - j) = K ^ (n - h) * K ^ (h - 1 - j) := by
    rw [← Nat.pow_add]
    congr 1
    omega
  rw [e, ← Nat.div_div_eq_div_mul, Nat.mul_comm c, Nat.mul_add_div (Nat.pow_pos hK), Nat.div_eq_of_lt ht, Nat.add_zero]
theorem pd_last {K h c d : Nat} (hd : d < K) : pd K (h + 1) (c * K + d) h = d := by
  unfold pd
  rw [show h + 1 - 1 - h = 0 by omega, Nat.pow_zero, Nat.div_one, Nat.add_comm, Nat.add_mul_mod_self_right, Nat.mod_eq_of_lt hd]
theorem pd_step {K h c d j : Nat} (hd : d < K) (hj : j < h) : pd K (h + 1) (c * K + d) j = pd K h c j := by
  have := pd_pre (K := K) (n := h + 1) (h := h) (c := c) (t := d) (j := j) (by omega) hj (by omega) (by rw [show h + 1 - h = 1 by omega, Nat.pow_one]; exact hd)
  rw [show h + 1 - h = 1 by omega, Nat.pow_one] at this
  exact this
theorem pd_lt {K n w j : Nat} (hK : 0 < K) : pd K n w j < K := Nat.mod_lt _ hK
/-- the first of the least, from a on -/
def scan (f : Nat → Nat) (a : Nat) : Nat → Nat × Nat → Nat × Nat
  | 0, s => s
  | k + 1, s => if f (a + k) < (scan f a k s).1 then (f (a + k), a + k) else scan f a k s
theorem scan_app {f : Nat → Nat} {a i : Nat} {s : Nat × Nat} : ∀ j, scan f a (i + j) s = scan f (a + i) j (scan f a i s)
  | 0 => rfl
  | j + 1 => by
    show (if f (a + (i + j)) < (scan f a (i + j) s).1 then (f (a + (i + j)), a + (i + j)) else scan f a (i + j) s) = if f (a + i + j) < (scan f (a + i) j (scan f a i s)).1 then (f (a + i + j), a + i + j) else scan f (a + i) j (scan f a i s)
    rw [scan_app j, Nat.add_assoc]
theorem scan_no {f : Nat → Nat} {a : Nat} {s : Nat × Nat} : ∀ j, (∀ i, i < j → s.1 ≤ f (a + i)) → scan f a j s = s
  | 0, _ => rfl
  | j + 1, h => by
    show (if f (a + j) < (scan f a j s).1 then (f (a + j), a + j) else scan f a j s) = s
    rw [scan_no j (fun i hi => h i (by omega)), if_neg (by have := h j (by omega); omega)]
theorem scan_lt {f : Nat → Nat} {a K : Nat} {s : Nat × Nat} : ∀ j, (∀ i, i < j → f (a + i) < K) → s.1 ≤ K → (scan f a j s).1 ≤ K
  | 0, _, h => h
  | j + 1, h, hs => by
    have ih := scan_lt (s := s) j (fun i hi => h i (by omega)) hs
    show (if f (a + j) < (scan f a j s).1 then (f (a + j), a + j) else scan f a j s).1 ≤ K
    split
    · exact Nat.le_of_lt (h j (by omega))
    · exact ih
theorem scan_in {f : Nat → Nat} {B : Nat} {s : Nat × Nat} : ∀ j, j ≤ B → s.2 < B → (scan f 0 j s).2 < B
  | 0, _, h => h
  | j + 1, hj, hs => by
    have ih := scan_in (f := f) (s := s) j (by omega) hs
    show (if f (0 + j) < (scan f 0 j s).1 then (f (0 + j), 0 + j) else scan f 0 j s).2 < B
    split
    · show 0 + j < B
      omega
    · exact ih
section BAILC
variable {la : Nat} {μ : zM} {L : Nat → Nat}
def lkr (L : Nat → Nat) (k : Nat) : Nat := L (102 + 2 * k)
theorem lkr_le (hB : LB L) : ∀ k, k < L 15 → lkr L k ≤ 9 := fun k hk => (hB.2.2.2.2.2.2 k hk).2
def msC (L : Nat → Nat) (n w : Nat) : Nat := ms (lkr L) (pd (L 15) n w) (L 15) n
/-- rows and water of the class, for the first h hours -/
def PW (L : Nat → Nat) (h c : Nat) (μ : zM) : Prop := (∀ j, j < h → μ 133 j = nI (pd (L 15) h c j)) ∧ ∀ j, j ≤ h → ∀ k, k < L 15 → μ (136 + j) k = nI (wt (lkr L) (pd (L 15) h c) j k)
/-- the best so far -/
def BS (L : Nat → Nat) (n : Nat) (s : Nat × Nat) (μ : zM) : Prop := μ 132 0 = nI s.1 ∧ μ 132 1 = nI n ∧ (s.1 < 1000000 → ∀ j, j < n → μ 134 j = nI (pd (L 15) n s.2 j)) ∧ s.1 ≤ 1000000
theorem letInC {h : Nat} {b : Nat → Nat} (hL : LC la μ L) (hh : h ≤ 8) (hw : ∀ k, k < L 15 → μ (136 + h) k = nI (wt (lkr L) b h k)) : f_X2_letIn 132 (la + 10) (nI h) μ = some (nI (sS (lkr L) b h (L 15))) := by
  have hB := hL.2.1
  have h15 := hB.2.1.2.2.2.2
  have es : μ (la + 10) 2 = nI (L 15) := hL.2.2.1.2.1.2.2.2.2
  refine wp_eq ?_
  unfold f_X2_letIn
  refine wp_bdQ (Q := fun x => x = nI (sS (lkr L) b h (L 15))) ?_ (fun x hx => wp_some hx)
  refine wlp0 (fun n k x => f_X2_letIn_L5 132 (la + 10) (nI h) μ n x (nI k)) _ (L 15) (fun k x => x = nI (sS (lkr L) b h k)) (by omega) 0 rfl ?_ ?_
  · intro n k x hk hx ih
    show wp (f_X2_letIn_L5 132 (la + 10) (nI h) μ (n + 1) x (nI k)) _
    rw [f_X2_letIn_L5, es, nI_1, nI_clamp (n := h) (by omega), nI_clamp (n := k) (by omega), show 132 + 4 + 1 * h = 136 + h by omega, hw k hk, hx]
    refine wp_it ⟨nI_ge hk (by omega), nI_ge (b := 4) (by omega) (by omega)⟩ (wp_g (zin_nI (by omega) (by omega)) (wp_g (zin_nI (by omega) (by omega)) (wp_bdE (lk_r hL.1 hB hL.2.2.1 rfl hk) (wp_ls (wp_ls (ih _ ?_))))))
    rw [nI_add, nI_add]
    rfl
  · intro n x hx
    show wp (f_X2_letIn_L5 132 (la + 10) (nI h) μ (n + 1) x (nI (L 15))) _
    rw [f_X2_letIn_L5, es]
    exact wp_ie (fun w => w.1 (nI_le (Nat.le_refl _) (by omega))) (wp_some hx)
theorem bailOneC {h d : Nat} {b : Nat → Nat} (hL : LC la μ L) (hla : la + 14 < 132) (hh : h < 8) (hd : d < L 15) (hw : ∀ k, k < L 15 → μ (136 + h) k = nI (wt (lkr L) b h k)) :
    wp (f_X2_bailOne 132 (la + 10) (nI h) (nI d) μ) (fun μ' => μ' 133 h = nI d ∧ (∀ j, j ≠ h → μ' 133 j = μ 133 j) ∧ (∀ k, k < L 15 → μ' (136 + (h + 1)) k = nI (if k = d then 0 else wt (lkr L) b h k + lkr L k)) ∧ ∀ o, o ≠ 133 → o ≠ 136 + (h + 1) → μ' o = μ o) := by
  have hB := hL.2.1
  have h15 := hB.2.1.2.2.2.2
  unfold f_X2_bailOne
  rw [nI_clamp (by omega)]
  refine wp_g (zin_nI (by omega) (by omega)) (wp_ls ?_)
  have f1 : ∀ o, o ≠ 133 → zup μ (132 + 1) h (nI d) o = μ o := fun o ho => zup_rne _ _ _ ho
  have a1 : zup μ (132 + 1) h (nI d) 133 h = nI d := zup_self _ _ _ _
  have b1 : ∀ j, j ≠ h → zup μ (132 + 1) h (nI d) 133 j = μ 133 j := fun j hj => zup_ne (by omega)
  generalize zup μ (132 + 1) h (nI d) = μ1 at f1 a1 b1 ⊢
  refine wp_bdQ (Q := fun μ' => (∀ k, k < L 15 → μ' (136 + (h + 1)) k = nI (if k = d then 0 else wt (lkr L) b h k + lkr L k)) ∧ ∀ o, o ≠ 136 + (h + 1) → μ' o = μ1 o) ?_ (fun μ2 ⟨h1, h2⟩ => wp_some ⟨by rw [h2 133 (by omega)]; exact a1, fun j hj => by rw [h2 133 (by omega)]; exact b1 j hj, h1, fun o o1 o2 => (h2 o o2).trans (f1 o o1)⟩)
  refine wlp0 (fun n k μ' => f_X2_bailOne_L10 132 (la + 10) (nI h) (nI d) n (nI k) μ') _ (L 15) (fun K μ' => (∀ k, k < K → μ' (136 + (h + 1)) k = nI (if k = d then 0 else wt (lkr L) b h k + lkr L k)) ∧ ∀ o, o ≠ 136 + (h + 1) → μ' o = μ1 o) (by omega) μ1 ⟨fun k hk => by omega, fun _ _ => rfl⟩ ?_ ?_
  · intro n k μ2 hk ⟨i1, i2⟩ ih
    have f2 : ∀ o, o ≠ 133 → o ≠ 136 + (h + 1) → μ2 o = μ o := fun o o1 o2 => (i2 o o2).trans (f1 o o1)
    have L2 : LC la μ2 L := hL.congr (fun o h1 h2 => f2 o (by omega) (by omega))
    have es : μ2 (la + 10) 2 = nI (L 15) := L2.2.2.1.2.1.2.2.2.2
    have ew : μ2 (136 + h) k = nI (wt (lkr L) b h k) := by rw [f2 (136 + h) (by omega) (by omega)]; exact hw k hk
    show wp (f_X2_bailOne_L10 132 (la + 10) (nI h) (nI d) (n + 1) (nI k) μ2) _
    rw [f_X2_bailOne_L10, es, nI_1, nI_1, nI_clamp (n := h) (by omega), nI_clamp (n := h + 1) (by omega), nI_clamp (n := k) (by omega), show 132 + 4 + 1 * h = 136 + h by omega, show 132 + 4 + 1 * (h + 1) = 136 + (h + 1) by omega, ew]
    refine wp_it ⟨nI_ge hk (by omega), nI_ge (b := 4) (by omega) (by omega)⟩ (wp_g (zin_nI (by omega) (by omega)) (wp_bdQ (Q := fun x => x = nI (if k = d then 0 else wt (lkr L) b h k + lkr L k)) ?_ (fun x hx => wp_g (zin_nI (by omega) (by omega)) (wp_ls (wp_ls (ih _ ⟨fun k' hk' => ?_, fun o ho => by rw [zup_rne _ _ _ ho]; exact i2 o ho⟩))))))
    · by_cases c : k = d
      · rw [if_pos c]
        exact wp_ie (fun w => w (by rw [c])) (wp_some rfl)
      · rw [if_neg c]
        refine wp_it (fun w => c (by rw [← nI_clamp (n := k) (by omega), w, nI_clamp (by omega)])) (wp_g (zin_nI (by omega) (by omega)) (wp_g (zin_nI (by omega) (by omega)) (wp_bdE (lk_r L2.1 hB L2.2.2.1 rfl hk) (wp_some ?_))))
        rw [nI_add]
        rfl
    · by_cases e : k' = k
      · rw [e, zup_self, hx]
      · rw [zup_ne (by omega)]
        exact i1 k' (by omega)
  · intro n μ2 ⟨i1, i2⟩
    have f2 : ∀ o, o ≠ 133 → o ≠ 136 + (h + 1) → μ2 o = μ o := fun o o1 o2 => (i2 o o2).trans (f1 o o1)
    have L2 : LC la μ2 L := hL.congr (fun o h1 h2 => f2 o (by omega) (by omega))
    have es : μ2 (la + 10) 2 = nI (L 15) := L2.2.2.1.2.1.2.2.2.2
    show wp (f_X2_bailOne_L10 132 (la + 10) (nI h) (nI d) (n + 1) (nI (L 15)) μ2) _
    rw [f_X2_bailOne_L10, es]
    exact wp_ie (fun w => w.1 (nI_le (Nat.le_refl _) (by omega))) (wp_some ⟨i1, i2⟩)
theorem zmax_nI {a b : Nat} (ha : a < 2 ^ 31) (hb : b < 2 ^ 31) : zmax (nI a) (nI b) = nI (if a < b then b else a) := by
  unfold zmax
  by_cases c : a < b
  · rw [if_pos c, if_pos (nI_lt c hb)]
  · rw [if_neg c, if_neg (nI_nlt (by omega) ha)]
theorem tryHourC {n : Nat} (hla : la + 14 < 132) (hn : n ≤ 8) (hK : 1 ≤ L 15) : ∀ (m h c : Nat) (μ : zM) (s : Nat × Nat), n - h < m → h ≤ n → LC la μ L → PW L h c μ → BS L n s μ → ms (lkr L) (pd (L 15) h c) (L 15) h < s.1 →
    wp (f_X2_tryHour m 132 (la + 10) (nI h) (nI (ms (lkr L) (pd (L 15) h c) (L 15) h)) μ) (fun μ' => BS L n (scan (msC L n) (c * L 15 ^ (n - h)) (L 15 ^ (n - h)) s) μ' ∧ (∀ o, o < 132 ∨ 145 ≤ o → μ' o = μ o) ∧ (∀ j, j < h → μ' 133 j = μ 133 j) ∧ ∀ j, j ≤ h → μ' (136 + j) = μ (136 + j))
  | 0, h, c, μ, s, hm, _, _, _, _, _ => by omega
  | m + 1, h, c, μ, s, hm, hh, hL, hP, hS, hlt => by
    have hB := hL.2.1
    have h15 := hB.2.1.2.2.2.2
    have hr := lkr_le hB
    have mb := ms_le (b := pd (L 15) h c) hr h15 h (by omega)
    rw [f_X2_tryHour, hS.2.1]
    by_cases ch : h < n
    · have sb := sS_le (b := pd (L 15) h c) hr (j := h) (L 15) (Nat.le_refl _)
      have sb2 : (9 * h + 9) * L 15 ≤ (9 * h + 9) * 4 := Nat.mul_le_mul (Nat.le_refl _) h15
      have mb1 := ms_le (b := pd (L 15) h c) hr h15 (h + 1) (by omega)
      refine wp_it (nI_lt ch (by omega)) (wp_bdE (letInC hL (by omega) (hP.2 h (Nat.le_refl _))) ?_)
      rw [zmax_nI (by omega) (by omega), show (if ms (lkr L) (pd (L 15) h c) (L 15) h < sS (lkr L) (pd (L 15) h c) h (L 15) then sS (lkr L) (pd (L 15) h c) h (L 15) else ms (lkr L) (pd (L 15) h c) (L 15) h) = ms (lkr L) (pd (L 15) h c) (L 15) (h + 1) from rfl]
      have eM : L 15 ^ (n - h) = L 15 * L 15 ^ (n - (h + 1)) := by
        rw [show n - h = n - (h + 1) + 1 by omega, Nat.pow_succ, Nat.mul_comm]
      have low : ∀ i, i < L 15 ^ (n - h) → ms (lkr L) (pd (L 15) h c) (L 15) (h + 1) ≤ msC L n (c * L 15 ^ (n - h) + i) := fun i hi => by
        have e1 := ms_congr (r := lkr L) (K := L 15) (fun j hj => (pd_pre (c := c) (t := i) (by omega) hj hh hi).symm) (h + 1) (Nat.le_refl _)
        have e2 := ms_up (r := lkr L) (b := pd (L 15) n (c * L 15 ^ (n - h) + i)) (K := L 15) (i := h + 1) (n - (h + 1))
        rw [show h + 1 + (n - (h + 1)) = n by omega] at e2
        rw [e1]
        exact e2
      generalize hmo : ms (lkr L) (pd (L 15) h c) (L 15) (h + 1) = most at mb1 low ⊢
      rw [eM] at low ⊢
      generalize hMM : L 15 ^ (n - (h + 1)) = M at low ⊢
      refine wp_ls (wp_bdQ (Q := fun μ' => BS L n (scan (msC L n) (c * (L 15 * M)) (L 15 * M) s) μ' ∧ (∀ o, o < 132 ∨ 145 ≤ o → μ' o = μ o) ∧ (∀ j, j < h → μ' 133 j = μ 133 j) ∧ ∀ j, j ≤ h → μ' (136 + j) = μ (136 + j)) ?_ (fun μ' hμ => wp_some hμ))
      refine wlp0 (fun n' d μ' => f_X2_tryHour_L44 (f_X2_tryHour m) 132 (la + 10) (nI h) (nI most) n' (nI d) μ') _ (L 15) (fun d μ' => BS L n (scan (msC L n) (c * (L 15 * M)) (d * M) s) μ' ∧ (∀ o, o < 132 ∨ 145 ≤ o → μ' o = μ o) ∧ (∀ j, j < h → μ' 133 j = μ 133 j) ∧ ∀ j, j ≤ h → μ' (136 + j) = μ (136 + j)) (by omega) μ ⟨by rw [Nat.zero_mul]; exact hS, fun _ _ => rfl, fun _ _ => rfl, fun _ _ => rfl⟩ ?_ ?_
      · intro n' d μ1 hd ⟨i1, i2, i3, i4⟩ ih
        have L1 : LC la μ1 L := hL.congr (fun o h1 h2 => i2 o (by omega))
        have es : μ1 (la + 10) 2 = nI (L 15) := L1.2.2.1.2.1.2.2.2.2
        have P1 : PW L h c μ1 := ⟨fun j hj => by rw [i3 j hj]; exact hP.1 j hj, fun j hj k hk => by rw [i4 j hj]; exact hP.2 j hj k hk⟩
        have e0 : μ1 132 0 = nI (scan (msC L n) (c * (L 15 * M)) (d * M) s).1 := i1.1
        have eS : L 15 * M = d * M + (L 15 - d) * M := by
          rw [← Nat.add_mul]
          congr 1
          omega
        show wp (f_X2_tryHour_L44 (f_X2_tryHour m) 132 (la + 10) (nI h) (nI most) (n' + 1) (nI d) μ1) _
        rw [f_X2_tryHour_L44, es, e0, nI_1, nI_1]
        have bl := i1.2.2.2
        by_cases cb : (scan (msC L n) (c * (L 15 * M)) (d * M) s).1 ≤ most
        · refine wp_ie (fun w => w.2 (nI_le cb (by omega))) (wp_some ⟨?_, i2, i3, i4⟩)
          have e2 : scan (msC L n) (c * (L 15 * M)) (L 15 * M) s = scan (msC L n) (c * (L 15 * M)) (d * M) s := by
            conv => lhs; arg 3; rw [eS]
            rw [scan_app]
            refine scan_no _ (fun i hi => Nat.le_trans cb ?_)
            have := low (d * M + i) (by rw [eS]; omega)
            rw [← Nat.add_assoc] at this
            exact this
          rw [e2]
          exact i1
        · refine wp_it ⟨nI_ge hd (by omega), nI_ge (by omega) (by omega)⟩ (wp_bdQ (bailOneC L1 hla (by omega) hd (P1.2 h (Nat.le_refl _))) fun μ2 ⟨j1, j2, j3, j4⟩ => ?_)
          have L2 : LC la μ2 L := L1.congr (fun o h1 h2 => j4 o (by omega) (by omega))
          have cg : ∀ j, j < h → pd (L 15) (h + 1) (c * L 15 + d) j = pd (L 15) h c j := fun j hj => pd_step hd hj
          have P2 : PW L (h + 1) (c * L 15 + d) μ2 := by
            refine ⟨fun j hj => ?_, fun j hj k hk => ?_⟩
            · by_cases e : j = h
              · rw [e, pd_last hd]
                exact j1
              · rw [cg j (by omega), j2 j e]
                exact P1.1 j (by omega)
            · by_cases e : j = h + 1
              · rw [e, j3 k hk]
                show _ = nI (if k = pd (L 15) (h + 1) (c * L 15 + d) h then 0 else wt (lkr L) (pd (L 15) (h + 1) (c * L 15 + d)) h k + lkr L k)
                rw [pd_last hd, wt_congr cg h (Nat.le_refl _)]
              · rw [j4 (136 + j) (by omega) (by omega), wt_congr cg j (by omega)]
                exact P1.2 j (by omega) k hk
          have B2 : BS L n (scan (msC L n) (c * (L 15 * M)) (d * M) s) μ2 := by
            refine ⟨?_, ?_, fun w j hj => ?_, bl⟩
            · rw [j4 132 (by omega) (by omega)]
              exact i1.1
            · rw [j4 132 (by omega) (by omega)]
              exact i1.2.1
            · rw [j4 134 (by omega) (by omega)]
              exact i1.2.2.1 w j hj
          have em : most = ms (lkr L) (pd (L 15) (h + 1) (c * L 15 + d)) (L 15) (h + 1) := by
            rw [← hmo]
            exact (ms_congr cg (h + 1) (Nat.le_refl _)).symm
          have rr := tryHourC hla hn hK m (h + 1) (c * L 15 + d) μ2 _ (by omega) (by omega) L2 P2 B2 (by rw [← em]; omega)
          rw [← em, hMM] at rr
          refine wp_bdQ rr fun μ3 ⟨k1, k2, k3, k4⟩ => wp_ls (ih _ ⟨?_, fun o ho => ?_, fun j hj => ?_, fun j hj => ?_⟩)
          · have e3 : scan (msC L n) (c * (L 15 * M)) ((d + 1) * M) s = scan (msC L n) ((c * L 15 + d) * M) M (scan (msC L n) (c * (L 15 * M)) (d * M) s) := by
              rw [Nat.succ_mul, scan_app, Nat.add_mul, Nat.mul_assoc]
            rw [e3]
            exact k1
          · rw [k2 o ho, j4 o (by omega) (by omega)]
            exact i2 o ho
          · rw [k3 j (by omega), j2 j (by omega)]
            exact i3 j hj
          · rw [k4 j (by omega), j4 (136 + j) (by omega) (by omega)]
            exact i4 j hj
      · intro n' μ1 ⟨i1, i2, i3, i4⟩
        have L1 : LC la μ1 L := hL.congr (fun o h1 h2 => i2 o (by omega))
        have es : μ1 (la + 10) 2 = nI (L 15) := L1.2.2.1.2.1.2.2.2.2
        show wp (f_X2_tryHour_L44 (f_X2_tryHour m) 132 (la + 10) (nI h) (nI most) (n' + 1) (nI (L 15)) μ1) _
        rw [f_X2_tryHour_L44, es]
        exact wp_ie (fun w => w.1 (nI_le (Nat.le_refl _) (by omega))) (wp_some ⟨i1, i2, i3, i4⟩)
    · obtain rfl : h = n := by omega
      have e8 : zcpg (0 : Int32) (0 : Int32) (8 : Int32) 8 8 = true := cpg11 (n := 8) (by omega)
      refine wp_ie (nI_nlt (by omega) (by omega)) (wp_ls (wp_g e8 (wp_ls (wp_some ?_))))
      rw [Nat.sub_self, Nat.pow_zero, Nat.mul_one]
      have e1 : scan (msC L h) c 1 s = (msC L h c, c) := by
        show (if msC L h (c + 0) < s.1 then _ else _) = _
        exact if_pos hlt
      rw [e1]
      have zn : ∀ o, o ≠ 134 → zcp (zup μ 132 0 (nI (ms (lkr L) (pd (L 15) h c) (L 15) h))) (132 + 1) (132 + 2) 0 0 (8 : Int32) o = zup μ 132 0 (nI (ms (lkr L) (pd (L 15) h c) (L 15) h)) o := fun o ho => zcp_ne (n := 8) ho
      have zi : ∀ j, j < 8 → zcp (zup μ 132 0 (nI (ms (lkr L) (pd (L 15) h c) (L 15) h))) (132 + 1) (132 + 2) 0 0 (8 : Int32) 134 j = zup μ 132 0 (nI (ms (lkr L) (pd (L 15) h c) (L 15) h)) 133 j := fun j hj => zcp_in (n := 8) (by omega) hj
      refine ⟨⟨?_, ?_, fun w j hj => ?_, ?_⟩, fun o ho => ?_, fun j hj => ?_, fun j hj => ?_⟩
      · rw [zn 132 (by omega), zup_self]
        rfl
      · rw [zn 132 (by omega), zup_ne (by omega)]
        exact hS.2.1
      · rw [zi j (by omega), zup_rne _ _ _ (by omega)]
        exact hP.1 j hj
      · show ms (lkr L) (pd (L 15) h c) (L 15) h ≤ _
        omega
      · rw [zn o (by omega), zup_rne _ _ _ (by omega)]
      · rw [zn 133 (by omega), zup_rne _ _ _ (by omega)]
      · rw [zn (136 + j) (by omega), zup_rne _ _ _ (by omega)]
theorem planC {n : Nat} (hL : LC la μ L) (hla : la + 14 < 132) (hn : n ≤ 8) (hK : 1 ≤ L 15) :
    wp (f_X2_plan 132 (la + 10) (nI n) μ) (fun μ' => BS L n (scan (msC L n) 0 (L 15 ^ n) (1000000, 0)) μ' ∧ ∀ o, o < 132 ∨ 145 ≤ o → μ' o = μ o) := by
  have h15 := hL.2.1.2.1.2.2.2.2
  unfold f_X2_plan
  have e8 : zmin (nI n) (8 : Int32) = nI n := by
    have := zmin_nI (a := n) (b := 8) (by omega) (by omega)
    rw [if_neg (by omega)] at this
    exact this
  rw [e8]
  refine wp_ls (wp_ls ?_)
  have f1 : ∀ o, o ≠ 132 → zup (zup μ 132 1 (nI n)) 132 0 1000000 o = μ o := fun o ho => by rw [zup_rne _ _ _ ho, zup_rne _ _ _ ho]
  have a0 : zup (zup μ 132 1 (nI n)) 132 0 1000000 132 0 = nI 1000000 := zup_self _ _ _ _
  have a1 : zup (zup μ 132 1 (nI n)) 132 0 1000000 132 1 = nI n := by rw [zup_ne (by omega), zup_self]
  generalize zup (zup μ 132 1 (nI n)) 132 0 1000000 = μ1 at f1 a0 a1 ⊢
  refine wp_bdQ (Q := fun μ' => (∀ o, o ≠ 136 → μ' o = μ1 o) ∧ ∀ k, k < 4 → μ' 136 k = 0) ?_ (fun μ2 ⟨f2, z2⟩ => ?_)
  · refine wlp0 (fun n' k μ' => f_X2_plan_L18 132 (la + 10) n' (nI k) μ') _ 4 (fun K μ' => (∀ o, o ≠ 136 → μ' o = μ1 o) ∧ ∀ k, k < K → μ' 136 k = 0) (by omega) μ1 ⟨fun _ _ => rfl, fun k hk => by omega⟩ ?_ ?_
    · intro n' k μ2 hk ⟨i1, i2⟩ ih
      show wp (f_X2_plan_L18 132 (la + 10) (n' + 1) (nI k) μ2) _
      rw [f_X2_plan_L18, nI_1, nI_clamp (n := k) (by omega), show (0 : Int32).toNatClampNeg = 0 from by decide]
      refine wp_ie (nI_ge (b := 4) hk (by omega)) (wp_g (zin_nI (by omega) (by omega)) (wp_ls (wp_ls (ih _ ⟨fun o ho => by rw [zup_rne _ _ _ (by omega)]; exact i1 o ho, fun k' hk' => ?_⟩))))
      by_cases e : k' = k
      · rw [e]
        exact zup_self _ _ _ _
      · rw [zup_ne (by omega)]
        exact i2 k' (by omega)
    · intro n' μ2 hI
      show wp (f_X2_plan_L18 132 (la + 10) (n' + 1) (nI 4) μ2) _
      rw [f_X2_plan_L18]
      exact wp_it (nI_le (a := 4) (Nat.le_refl _) (by omega)) (wp_some hI)
  · have L2 : LC la μ2 L := hL.congr (fun o h1 h2 => by rw [f2 o (by omega)]; exact f1 o (by omega))
    have rr := tryHourC (n := n) hla hn hK 9 0 0 μ2 (1000000, 0) (by omega) (by omega) L2 ⟨fun j hj => by omega, fun j hj k hk => by
        obtain rfl : j = 0 := by omega
        exact z2 k (by omega)⟩ ⟨by rw [f2 132 (by omega)]; exact a0, by rw [f2 132 (by omega)]; exact a1, fun w => by
        have w : 1000000 < 1000000 := w
        omega, Nat.le_refl _⟩ (by show 0 < 1000000; omega)
    rw [Nat.zero_mul, Nat.sub_zero] at rr
    exact wp_bdQ rr fun μ3 ⟨k1, k2, _, _⟩ => wp_some ⟨k1, fun o ho => by rw [k2 o ho, f2 o (by omega)]; exact f1 o (by omega)⟩
end BAILC
section BAILM
variable {q : Nat} {μ : zM} {L : Nat → Nat}
theorem worstM {n w : Nat} (l : LM q μ L) (hB : LB L) (hn : 1 ≤ n) (hn8 : n ≤ 8) (hK : 1 ≤ L 15) (hw : w < L 15 ^ n) :
    wp (f_X12_worst 310 (nI n) (nI w) μ) (fun p => p.1 = nI (msC L n w) ∧ ∀ o, o ≠ 315 → p.2 o = μ o) := by
  have h15 := hB.2.1.2.2.2.2
  have hr := lkr_le hB
  have big : L 15 ^ n ≤ 4 ^ 8 := Nat.le_trans (Nat.pow_le_pow_left h15 n) (Nat.pow_le_pow_right (by omega) hn8)
  have big2 : ∀ j, j ≤ 8 → L 15 ^ j ≤ 65536 := fun j hj => Nat.le_trans (Nat.pow_le_pow_left h15 j) (Nat.le_trans (Nat.pow_le_pow_right (by omega) hj) (by decide))
  have b48 : (4 : Nat) ^ 8 = 65536 := by decide
  unfold f_X12_worst
  refine wp_bdQ (Q := fun x => x = nI (L 15 ^ (n - 1))) ?_ (fun x hx => ?_)
  · refine wlp0 (fun n' j x => f_X12_worst_L5 310 (nI n) (nI w) μ n' x (nI (j + 1))) _ (n - 1) (fun j x => x = nI (L 15 ^ j)) (by omega) 1 rfl ?_ ?_
    · intro n' j x hj hx ih
      show wp (f_X12_worst_L5 310 (nI n) (nI w) μ (n' + 1) x (nI (j + 1))) _
      rw [f_X12_worst_L5]
      refine wp_ie (nI_ge (by omega) (by omega)) (wp_bdE (ofM 15 l rfl (by omega)) ?_)
      rw [hx, pk_mul, ← Nat.pow_succ, nI_1]
      exact wp_ls (wp_ls (ih _ rfl))
    · intro n' x hx
      show wp (f_X12_worst_L5 310 (nI n) (nI w) μ (n' + 1) x (nI (n - 1 + 1))) _
      rw [f_X12_worst_L5]
      exact wp_it (nI_le (by omega) (by omega)) (wp_some hx)
  · refine wp_bdQ (Q := fun μ' => (∀ o, o ≠ 315 → μ' o = μ o) ∧ ∀ k, k < 16 → μ' 315 k = 0) ?_ (fun μ1 ⟨f1, z1⟩ => ?_)
    · refine wlp0 (fun n' k μ' => f_X12_worst_L29 310 (nI n) (nI w) x n' (nI k) μ') _ 16 (fun K μ' => (∀ o, o ≠ 315 → μ' o = μ o) ∧ ∀ k, k < K → μ' 315 k = 0) (by omega) μ ⟨fun _ _ => rfl, fun k hk => by omega⟩ ?_ ?_
      · intro n' k μ2 hk ⟨i1, i2⟩ ih
        show wp (f_X12_worst_L29 310 (nI n) (nI w) x (n' + 1) (nI k) μ2) _
        rw [f_X12_worst_L29, nI_1, nI_clamp (n := k) (by omega)]
        refine wp_ie (nI_ge (b := 16) hk (by omega)) (wp_g (zin_nI (by omega) (by omega)) (wp_ls (wp_ls (ih _ ⟨fun o ho => by rw [zup_rne _ _ _ ho]; exact i1 o ho, fun k' hk' => ?_⟩))))
        by_cases e : k' = k
        · rw [e]
          exact zup_self _ _ _ _
        · rw [zup_ne (by omega)]
          exact i2 k' (by omega)
      · intro n' μ2 hI
        show wp (f_X12_worst_L29 310 (nI n) (nI w) x (n' + 1) (nI 16) μ2) _
        rw [f_X12_worst_L29]
        exact wp_it (nI_le (a := 16) (Nat.le_refl _) (by omega)) (wp_some hI)
    · refine wp_bd2Q (Q := fun p => p.1 = nI (msC L n w) ∧ ∀ o, o ≠ 315 → p.2 o = μ o) ?_ (fun y μ2 hy => wp_some hy)
      rw [hx]
      refine wlp0 (fun n' j (s : Int32 × Int32 × zM) => f_X12_worst_L56 310 (nI n) (nI w) n' s.1 s.2.1 (nI j) s.2.2) _ n (fun j s => s.1 = nI (L 15 ^ (n - 1) / L 15 ^ j) ∧ s.2.1 = nI (ms (lkr L) (pd (L 15) n w) (L 15) j) ∧ (∀ o, o ≠ 315 → s.2.2 o = μ o) ∧ ∀ k, k < L 15 → s.2.2 315 k = nI (wt (lkr L) (pd (L 15) n w) j k)) (by omega) (nI (L 15 ^ (n - 1)), 0, μ1) ⟨by rw [Nat.pow_zero, Nat.div_one], rfl, f1, fun k hk => z1 k (by omega)⟩ ?_ ?_
      · intro n' j ⟨y19, y20, μ2⟩ hj ⟨i1, i2, i3, i4⟩ ih
        have i1 : y19 = nI (L 15 ^ (n - 1) / L 15 ^ j) := i1
        have i2 : y20 = nI (ms (lkr L) (pd (L 15) n w) (L 15) j) := i2
        have i3 : ∀ o, o ≠ 315 → μ2 o = μ o := i3
        have i4 : ∀ k, k < L 15 → μ2 315 k = nI (wt (lkr L) (pd (L 15) n w) j k) := i4
        have ep : L 15 ^ (n - 1) / L 15 ^ j = L 15 ^ (n - 1 - j) := Nat.pow_div (by omega) (by omega)
        have pb := big2 (n - 1 - j) (by omega)
        have p0 : 0 < L 15 ^ (n - 1 - j) := Nat.pow_pos (by omega)
        have mb := ms_le (b := pd (L 15) n w) hr h15 j (by omega)
        have sb := sS_le (b := pd (L 15) n w) hr (j := j) (L 15) (Nat.le_refl _)
        have sb2 : (9 * j + 9) * L 15 ≤ (9 * j + 9) * 4 := Nat.mul_le_mul (Nat.le_refl _) h15
        have l2 : LM q μ2 L := l.congr (i3 311 (by omega)) (by rw [i3 310 (by omega)])
        show wp (f_X12_worst_L56 310 (nI n) (nI w) (n' + 1) y19 y20 (nI j) μ2) _
        rw [f_X12_worst_L56]
        refine wp_ie (nI_ge hj (by omega)) (wp_bd2Q (Q := fun p => p.1 = nI (sS (lkr L) (pd (L 15) n w) j (L 15)) ∧ (∀ o, o ≠ 315 → p.2 o = μ o) ∧ ∀ k, k < L 15 → p.2 315 k = nI (wt (lkr L) (pd (L 15) n w) j k + lkr L k)) ?_ (fun x35 μ3 ⟨q1, q2, q3⟩ => ?_))
        · refine wlp0 (fun n' k (s : Int32 × zM) => f_X12_worst_L68 310 (nI n) (nI w) y19 y20 (nI j) n' s.1 (nI k) s.2) _ (L 15) (fun K s => s.1 = nI (sS (lkr L) (pd (L 15) n w) j K) ∧ (∀ o, o ≠ 315 → s.2 o = μ o) ∧ ∀ k, k < L 15 → s.2 315 k = nI (if k < K then wt (lkr L) (pd (L 15) n w) j k + lkr L k else wt (lkr L) (pd (L 15) n w) j k)) (by omega) (0, μ2) ⟨rfl, i3, fun k hk => by rw [if_neg (by omega)]; exact i4 k hk⟩ ?_ ?_
          · intro n' k ⟨y25, μ3⟩ hk ⟨j1, j2, j3⟩ ih
            have j1 : y25 = nI (sS (lkr L) (pd (L 15) n w) j k) := j1
            have j2 : ∀ o, o ≠ 315 → μ3 o = μ o := j2
            have j3 : ∀ k', k' < L 15 → μ3 315 k' = nI (if k' < k then wt (lkr L) (pd (L 15) n w) j k' + lkr L k' else wt (lkr L) (pd (L 15) n w) j k') := j3
            have l3 : LM q μ3 L := l.congr (j2 311 (by omega)) (by rw [j2 310 (by omega)])
            have e101 : ((101 : Int32) + ((2 : Int32) * nI k)) + (1 : Int32) = nI (102 + 2 * k) := by
              show nI 101 + nI 2 * nI k + nI 1 = _
              rw [lin2, show 101 + 2 * k + 1 = 102 + 2 * k by omega]
            have ew : μ3 (310 + 5) k = nI (wt (lkr L) (pd (L 15) n w) j k) := by
              have := j3 k hk
              rw [if_neg (by omega)] at this
              exact this
            show wp (f_X12_worst_L68 310 (nI n) (nI w) y19 y20 (nI j) (n' + 1) y25 (nI k) μ3) _
            rw [f_X12_worst_L68, nI_1, nI_clamp (n := k) (by omega), ew]
            refine wp_bdE (ofM 15 l3 rfl (by omega)) (wp_ie (nI_ge hk (by omega)) (wp_g (zin_nI (by omega) (by omega)) (wp_bdE (ofM (102 + 2 * k) l3 e101 (by omega)) (wp_ls ?_))))
            rw [nI_add, show zup μ3 (310 + 5) k (nI (wt (lkr L) (pd (L 15) n w) j k + L (102 + 2 * k))) (310 + 5) k = nI (wt (lkr L) (pd (L 15) n w) j k + L (102 + 2 * k)) from zup_self _ _ _ _, j1, nI_add]
            refine wp_ls (wp_ls (ih (_, _) ⟨rfl, fun o ho => by show zup μ3 (310 + 5) k _ o = _; rw [zup_rne _ _ _ ho]; exact j2 o ho, fun k' hk' => ?_⟩))
            show zup μ3 (310 + 5) k _ 315 k' = _
            by_cases e : k' = k
            · rw [e, if_pos (by omega)]
              exact zup_self _ _ _ _
            · rw [zup_ne (by omega), j3 k' hk']
              by_cases e2 : k' < k
              · rw [if_pos e2, if_pos (by omega)]
              · rw [if_neg e2, if_neg (by omega)]
          · intro n' ⟨y25, μ3⟩ ⟨j1, j2, j3⟩
            have j2 : ∀ o, o ≠ 315 → μ3 o = μ o := j2
            have l3 : LM q μ3 L := l.congr (j2 311 (by omega)) (by rw [j2 310 (by omega)])
            show wp (f_X12_worst_L68 310 (nI n) (nI w) y19 y20 (nI j) (n' + 1) y25 (nI (L 15)) μ3) _
            rw [f_X12_worst_L68]
            refine wp_bdE (ofM 15 l3 rfl (by omega)) (wp_it (nI_le (Nat.le_refl _) (by omega)) (wp_some ⟨j1, j2, fun k hk => ?_⟩))
            have := j3 k hk
            rw [if_pos hk] at this
            exact this
        · have q1 : x35 = nI (sS (lkr L) (pd (L 15) n w) j (L 15)) := q1
          have q2 : ∀ o, o ≠ 315 → μ3 o = μ o := q2
          have q3 : ∀ k, k < L 15 → μ3 315 k = nI (wt (lkr L) (pd (L 15) n w) j k + lkr L k) := q3
          have l3 : LM q μ3 L := l.congr (q2 311 (by omega)) (by rw [q2 310 (by omega)])
          have em : (if x35 ≤ y20 then y20 else x35) = nI (ms (lkr L) (pd (L 15) n w) (L 15) (j + 1)) := by
            rw [q1, i2]
            show _ = nI (if ms (lkr L) (pd (L 15) n w) (L 15) j < sS (lkr L) (pd (L 15) n w) j (L 15) then _ else _)
            by_cases c : ms (lkr L) (pd (L 15) n w) (L 15) j < sS (lkr L) (pd (L 15) n w) j (L 15)
            · rw [if_pos c, if_neg (nI_ge c (by omega))]
            · rw [if_neg c, if_pos (nI_le (by omega) (by omega))]
          have edg : (nI w / y19) % nI (L 15) = nI (pd (L 15) n w j) := by
            have : w / L 15 ^ (n - 1 - j) ≤ w := Nat.div_le_self _ _
            rw [i1, ep, pk_div (by omega) (by omega) (by omega), nI_rem (by omega) (by omega) (by omega)]
            rfl
          have pl : pd (L 15) n w j < L 15 := pd_lt (by omega)
          have ed : y19 / nI (L 15) = nI (L 15 ^ (n - 1) / L 15 ^ (j + 1)) := by
            rw [i1, pk_div (by rw [ep]; omega) (by omega) (by omega), Nat.div_div_eq_div_mul, ← Nat.pow_succ]
          rw [em]
          refine wp_ls (wp_g (by rw [i1, ep]; exact znz_nI p0 (by omega)) (wp_bdE (ofM 15 l3 rfl (by omega)) (wp_g (znz_nI (by omega) (by omega)) ?_)))
          rw [edg, nI_clamp (by omega)]
          refine wp_g (zin_nI (by omega) (by omega)) (wp_ls ?_)
          have l4 : LM q (zup μ3 (310 + 5) (pd (L 15) n w j) 0) L := l3.congr (zup_rne _ _ _ (by omega)) (by rw [zup_rne _ _ _ (by omega)])
          refine wp_bdE (ofM 15 l4 rfl (by omega)) (wp_g (znz_nI (by omega) (by omega)) ?_)
          rw [ed, nI_1]
          refine wp_ls (wp_ls (ih (_, _, _) ⟨rfl, rfl, fun o ho => by show zup μ3 (310 + 5) _ _ o = _; rw [zup_rne _ _ _ ho]; exact q2 o ho, fun k hk => ?_⟩))
          show zup μ3 (310 + 5) (pd (L 15) n w j) 0 315 k = nI (if k = pd (L 15) n w j then 0 else wt (lkr L) (pd (L 15) n w) j k + lkr L k)
          by_cases e : k = pd (L 15) n w j
          · rw [if_pos e, e]
            exact zup_self _ _ _ _
          · rw [if_neg e, zup_ne (by omega)]
            exact q3 k hk
      · intro n' ⟨y19, y20, μ2⟩ ⟨i1, i2, i3, i4⟩
        show wp (f_X12_worst_L56 310 (nI n) (nI w) (n' + 1) y19 y20 (nI n) μ2) _
        rw [f_X12_worst_L56]
        exact wp_it (nI_le (Nat.le_refl _) (by omega)) (wp_some ⟨i2, i3⟩)
theorem bail_same (v1 v2 v3 : Int32) : Same (f_X11_bail 0 v1 v2 v3) (f_X12_bail 310 v1 v2 v3) := by
  refine Same.of fun μ hI => ?_
  unfold f_X11_bail
  rcases lake_cases hI v1 with ⟨k, L, hk, hL, e1, e2⟩ | ⟨e1, e2⟩
  · have z1 : zgn (6 + 15 * k) 1 = true := by unfold zgn; rw [zlk_kd k hk]; rfl
    have hB := hL.1.1
    have h15 := hB.2.1.2.2.2.2
    have es : μ (6 + 15 * k + 10) 2 = nI (L 15) := hL.2.1.2.2.1.2.1.2.2.2.2
    have i0 : nI (L 15) = 0 ↔ L 15 = 0 := ⟨fun w => by rw [← nI_clamp (n := L 15) (by omega), w]; rfl, fun w => by rw [w]; rfl⟩
    refine wp_bdE e1 (wp_bd (wp_cs (wp_g z1 ?_)))
    rw [es]
    have l0 : ∀ μ' : zM, μ' 311 = μ 311 → LM (610 + 109 * k) (zup μ' 310 10 (nI (610 + 109 * k))) L := fun μ' h311 => ⟨by omega, zup_self _ _ _ _, fun i hi => by rw [zup_ne (by omega), h311]; exact hL.2.2 i hi⟩
    by_cases c : (¬ nI (L 15) = 0) ∧ ((¬ (v2 < (1 : Int32))) ∧ ((¬ ((8 : Int32) < v2)) ∧ ((¬ (v3 < (-1 : Int32))) ∧ (v3 < v2))))
    · refine wp_it c ?_
      obtain ⟨c0, c1, c2, c3, c4⟩ := c
      have hK : 1 ≤ L 15 := by
        have : L 15 ≠ 0 := fun w => c0 (i0.mpr w)
        omega
      obtain ⟨n, n1, rfl⟩ : ∃ n, n ≤ 8 ∧ v2 = nI n := nI_rng (b := 8) (by omega) (fun w => c1 (by
        rw [I_lt] at w ⊢
        rw [I_0] at w
        rw [show (1 : Int32).toInt = 1 by decide]
        omega)) c2
      have n0 : 1 ≤ n := Decidable.byContradiction fun w => c1 (by rw [show n = 0 by omega]; decide)
      have hv : v3 = -1 ∨ ∃ j, j < n ∧ v3 = nI j := by
        by_cases w : v3 < 0
        · refine Or.inl (Int32.toInt_inj.mp ?_)
          rw [I_lt] at w c3
          rw [I_0] at w
          rw [show (-1 : Int32).toInt = -1 by decide] at c3 ⊢
          omega
        · obtain ⟨j, j1, rfl⟩ := nI_of w
          exact Or.inr ⟨j, (nI_ltI j1 (by omega)).mp c4, rfl⟩
      have h15K := h15
      have fb : ∀ w, msC L n w < 999999 := fun w => by
        have := ms_le (b := pd (L 15) n w) (lkr_le hB) h15 n n1
        unfold msC
        omega
      have cr3 : ¬ f_X12_isIn v3 (-1) (nI n - 1) = 0 := by
        rw [inY, show nI n - 1 = nI (n - 1) from pk_sub1 (by omega)]
        refine ⟨c3, ?_⟩
        rcases hv with rfl | ⟨j, j1, rfl⟩
        · rw [I_lt, nI_int (by omega), show (-1 : Int32).toInt = -1 by decide]
          omega
        · exact nI_nlt (by omega) (by omega)
      have cr2 : ¬ f_X12_isIn (nI n) 1 8 = 0 := inY.mpr ⟨c1, c2⟩
      have kn : L 15 ^ n ≤ 65536 := Nat.le_trans (Nat.pow_le_pow_left h15 n) (Nat.le_trans (Nat.pow_le_pow_right (by omega) n1) (by decide))
      have kp0 : 0 < L 15 ^ n := Nat.pow_pos (by omega)
      have first : scan (msC L n) 0 1 (1000000, 0) = (msC L n 0, 0) := if_pos (by have := fb 0; show msC L n 0 < 1000000; omega)
      have sl1 : ∀ w, 1 ≤ w → (scan (msC L n) 0 w (1000000, 0)).1 ≤ 999999 := fun w hw => by
        have e : w = 1 + (w - 1) := by omega
        rw [e, scan_app, first]
        exact scan_lt (w - 1) (fun i _ => fb _) (Nat.le_of_lt (fb 0))
      have sl2 : ∀ w, w ≤ L 15 ^ n → (scan (msC L n) 0 w (1000000, 0)).2 < L 15 ^ n := fun w hw => scan_in w hw kp0
      have ref : ∀ (μ' : zM) (P : Int32 × zM → Prop), μ' 311 = μ 311 →
          (∀ μ2, KP μ' μ2 → (v3 = -1 → P (nI (scan (msC L n) 0 (L 15 ^ n) (1000000, 0)).1, μ2)) ∧ ∀ j, j < n → v3 = nI j → P (nI (pd (L 15) n (scan (msC L n) 0 (L 15 ^ n) (1000000, 0)).2 j), μ2)) →
          wp (f_X12_bail 310 v1 (nI n) v3 μ') P := by
        intro μ' P h311 hP
        have l2 := l0 μ' h311
        have k2 : KP μ' (zup μ' 310 10 (nI (610 + 109 * k))) := zup310.kp
        unfold f_X12_bail
        refine wp_bd2 (wp_of (e2 μ' h311) (wp_bd (wp_ie i10 (wp_bdE (ofM 15 l2 rfl (by omega)) (wp_ie c0 (wp_ie cr2 (wp_it cr3 (wp_some (wp_it rfl ?_)))))))))
        show wp (zbd (f_X12_bail_L46 310 (nI n) v3 (zup μ' 310 10 (nI (610 + 109 * k))) zFU 1 0) _) P
        generalize zup μ' 310 10 (nI (610 + 109 * k)) = μ2 at l2 k2 ⊢
        refine wp_bdQ (Q := fun x => x = nI (L 15 ^ n)) ?_ (fun x hx => ?_)
        · refine wlp0 (fun n' j x => f_X12_bail_L46 310 (nI n) v3 μ2 n' x (nI j)) _ n (fun j x => x = nI (L 15 ^ j)) (by omega) 1 rfl ?_ ?_
          · intro n' j x hj hx ih
            show wp (f_X12_bail_L46 310 (nI n) v3 μ2 (n' + 1) x (nI j)) _
            rw [f_X12_bail_L46, nI_1, hx]
            refine wp_ie (nI_ge hj (by omega)) (wp_bdE (ofM 15 l2 rfl (by omega)) ?_)
            rw [pk_mul, ← Nat.pow_succ]
            exact wp_ls (wp_ls (ih _ rfl))
          · intro n' x hx
            show wp (f_X12_bail_L46 310 (nI n) v3 μ2 (n' + 1) x (nI n)) _
            rw [f_X12_bail_L46]
            exact wp_it (nI_le (Nat.le_refl _) (by omega)) (wp_some hx)
        · rw [hx]
          refine wp_bd2Q (worstM (w := 0) l2 hB n0 n1 hK kp0) fun r19 μ3 ⟨q1, q2⟩ => ?_
          have q1 : r19 = nI (msC L n 0) := q1
          have q2 : ∀ o, o ≠ 315 → μ3 o = μ2 o := q2
          refine wp_bd3Q (Q := fun p => p.1 = nI (scan (msC L n) 0 (L 15 ^ n) (1000000, 0)).2 ∧ p.2.1 = nI (scan (msC L n) 0 (L 15 ^ n) (1000000, 0)).1 ∧ ∀ o, o ≠ 315 → p.2.2 o = μ2 o) ?_ (fun x36 x37 μ4 ⟨p1, p2, p3⟩ => ?_)
          · refine wlp0 (fun n' w (s : Int32 × Int32 × zM) => f_X12_bail_L83 310 (nI n) v3 (nI (L 15 ^ n)) n' s.1 s.2.1 (nI (w + 1)) s.2.2) _ (L 15 ^ n - 1) (fun w s => s.1 = nI (scan (msC L n) 0 (w + 1) (1000000, 0)).2 ∧ s.2.1 = nI (scan (msC L n) 0 (w + 1) (1000000, 0)).1 ∧ ∀ o, o ≠ 315 → s.2.2 o = μ2 o) (by omega) (0, r19, μ3) ⟨by rw [first]; rfl, by rw [first]; exact q1, q2⟩ ?_ ?_
            · intro n' w ⟨y22, y23, μ4⟩ hw ⟨i1, i2, i3⟩ ih
              have i1 : y22 = nI (scan (msC L n) 0 (w + 1) (1000000, 0)).2 := i1
              have i2 : y23 = nI (scan (msC L n) 0 (w + 1) (1000000, 0)).1 := i2
              have i3 : ∀ o, o ≠ 315 → μ4 o = μ2 o := i3
              have l4 : LM (610 + 109 * k) μ4 L := l2.congr (i3 311 (by omega)) (by rw [i3 310 (by omega)])
              have b1 := sl1 (w + 1) (by omega)
              have fw := fb (w + 1)
              show wp (f_X12_bail_L83 310 (nI n) v3 (nI (L 15 ^ n)) (n' + 1) y22 y23 (nI (w + 1)) μ4) _
              rw [f_X12_bail_L83, nI_1]
              refine wp_ie (nI_ge (by omega) (by omega)) (wp_bd2Q (worstM (w := w + 1) l4 hB n0 n1 hK (by omega)) fun r μ5 ⟨j1, j2⟩ => ?_)
              have j1 : r = nI (msC L n (w + 1)) := j1
              have j2 : ∀ o, o ≠ 315 → μ5 o = μ4 o := j2
              have est : scan (msC L n) 0 (w + 1 + 1) (1000000, 0) = if msC L n (w + 1) < (scan (msC L n) 0 (w + 1) (1000000, 0)).1 then (msC L n (w + 1), w + 1) else scan (msC L n) 0 (w + 1) (1000000, 0) := by
                show (if msC L n (0 + (w + 1)) < _ then (msC L n (0 + (w + 1)), 0 + (w + 1)) else _) = _
                rw [Nat.zero_add]
              refine wp_ls (wp_ls (wp_ls (ih (_, _, μ5) ⟨?_, ?_, fun o ho => (j2 o ho).trans (i3 o ho)⟩)))
              · show (if y23 ≤ r then y22 else nI (w + 1)) = _
                rw [est, i1, i2, j1]
                by_cases c : msC L n (w + 1) < (scan (msC L n) 0 (w + 1) (1000000, 0)).1
                · rw [if_pos c, if_neg (nI_ge c (by omega))]
                · rw [if_neg c, if_pos (nI_le (by omega) (by omega))]
              · show (if y23 ≤ r then y23 else r) = _
                rw [est, i2, j1]
                by_cases c : msC L n (w + 1) < (scan (msC L n) 0 (w + 1) (1000000, 0)).1
                · rw [if_pos c, if_neg (nI_ge c (by omega))]
                · rw [if_neg c, if_pos (nI_le (by omega) (by omega))]
            · intro n' ⟨y22, y23, μ4⟩ ⟨i1, i2, i3⟩
              have e : L 15 ^ n - 1 + 1 = L 15 ^ n := by omega
              show wp (f_X12_bail_L83 310 (nI n) v3 (nI (L 15 ^ n)) (n' + 1) y22 y23 (nI (L 15 ^ n - 1 + 1)) μ4) _
              rw [e] at i1 i2 ⊢
              rw [f_X12_bail_L83]
              exact wp_it (nI_le (Nat.le_refl _) (by omega)) (wp_some ⟨i1, i2, i3⟩)
          · have p1 : x36 = nI (scan (msC L n) 0 (L 15 ^ n) (1000000, 0)).2 := p1
            have p2 : x37 = nI (scan (msC L n) 0 (L 15 ^ n) (1000000, 0)).1 := p2
            have p3 : ∀ o, o ≠ 315 → μ4 o = μ2 o := p3
            have l4 : LM (610 + 109 * k) μ4 L := l2.congr (p3 311 (by omega)) (by rw [p3 310 (by omega)])
            have k4 : KP μ' μ4 := k2.tr (fun o ho => p3 o (by omega))
            obtain ⟨hP1, hP2⟩ := hP μ4 k4
            have cb := sl2 (L 15 ^ n) (Nat.le_refl _)
            generalize scan (msC L n) 0 (L 15 ^ n) (1000000, 0) = s at p1 p2 hP1 hP2 cb
            rcases hv with h3 | ⟨j, j1, h3⟩
            · refine wp_ie (fun w => w h3) (wp_some ?_)
              rw [p2]
              exact hP1 h3
            · refine wp_it (by rw [h3]; exact nI_nm1 (by omega)) (wp_ls ?_)
              rw [show nI n - 1 = nI (n - 1) from pk_sub1 (by omega), h3, p1]
              refine wp_bdQ (Q := fun x => x = nI (s.2 / L 15 ^ (n - 1 - j))) ?_ (fun x hx => wp_bdE (ofM 15 l4 rfl (by omega)) (wp_g (znz_nI (by omega) (by omega)) (wp_some ?_)))
              · refine wlp0 (fun n' i (t : Int32 × Int32) => f_X12_bail_L150 310 (nI j) μ4 n' t.1 t.2) _ (n - 1 - j) (fun i t => t.1 = nI (s.2 / L 15 ^ i) ∧ t.2 = nI (n - 1 - i)) (by omega) (nI s.2, nI (n - 1)) ⟨by rw [Nat.pow_zero, Nat.div_one], rfl⟩ ?_ ?_
                · intro n' i ⟨y, z⟩ hi ⟨i1, i2⟩ ih
                  have i1 : y = nI (s.2 / L 15 ^ i) := i1
                  have i2 : z = nI (n - 1 - i) := i2
                  have dl : s.2 / L 15 ^ i ≤ s.2 := Nat.div_le_self _ _
                  have em : z + (-1 : Int32) = nI (n - 1 - (i + 1)) := by
                    have e1 : z + (-1 : Int32) = z - 1 := by grind
                    rw [e1, i2, show nI (n - 1 - i) - 1 = nI (n - 1 - i - 1) from pk_sub1 (by omega)]
                    rfl
                  have ed : y / nI (L 15) = nI (s.2 / L 15 ^ (i + 1)) := by
                    rw [i1, pk_div (by omega) (by omega) (by omega), Nat.div_div_eq_div_mul, ← Nat.pow_succ]
                  show wp (f_X12_bail_L150 310 (nI j) μ4 (n' + 1) y z) _
                  rw [f_X12_bail_L150, em]
                  refine wp_ie (by rw [i2]; exact nI_ge (by omega) (by omega)) (wp_bdE (ofM 15 l4 rfl (by omega)) (wp_g (znz_nI (by omega) (by omega)) ?_))
                  rw [ed]
                  exact wp_ls (wp_ls (ih (_, _) ⟨rfl, rfl⟩))
                · intro n' ⟨y, z⟩ ⟨i1, i2⟩
                  have i2 : z = nI (n - 1 - (n - 1 - j)) := i2
                  show wp (f_X12_bail_L150 310 (nI j) μ4 (n' + 1) y z) _
                  rw [f_X12_bail_L150]
                  exact wp_it (by rw [i2]; exact nI_le (by omega) (by omega)) (wp_some i1)
              · have dl : s.2 / L 15 ^ (n - 1 - j) ≤ s.2 := Nat.div_le_self _ _
                rw [hx, nI_rem (by omega) (by omega) (by omega)]
                exact hP2 j j1 h3
      refine wp_bdQ (planC (n := n) hL.2.1 (by omega) n1 hK) fun μ4 ⟨b4, f4⟩ => ?_
      have k4 : KP μ μ4 := fun o ho => f4 o (by omega)
      rcases hv with h3 | ⟨j, j1, h3⟩
      · refine wp_bd (wp_ie (fun w => w h3) (wp_some (wp_some (wp_suml (wp_some ⟨k4, ref μ4 _ (f4 311 (by omega)) fun μ5 k5 => ⟨fun _ => ⟨b4.1.symm, k5⟩, fun j j1 w => ?_⟩⟩)))))
        rw [h3] at w
        exact absurd w.symm (nI_nm1 (by omega))
      · have eb : f_X2_leakBailed 132 v3 μ4 = some (nI (pd (L 15) n (scan (msC L n) 0 (L 15 ^ n) (1000000, 0)).2 j)) := by
          refine wp_eq ?_
          unfold f_X2_leakBailed
          rw [h3, nI_clamp (by omega)]
          have e134 := b4.2.2.1 (by have := sl1 (L 15 ^ n) kp0; omega) j j1
          exact wp_bd (wp_it ⟨nI_pos (by omega), nI_ge (b := 8) (by omega) (by omega)⟩ (wp_g (zin_nI (by omega) (by omega)) (wp_some (wp_some e134))))
        refine wp_bd (wp_it (by rw [h3]; exact nI_nm1 (by omega)) (wp_bdE eb (wp_some (wp_some (wp_suml (wp_some ⟨k4, ref μ4 _ (f4 311 (by omega)) fun μ5 k5 => ⟨fun w => ?_, fun j' j1' w => ⟨?_, k5⟩⟩⟩))))))
        · rw [h3] at w
          exact absurd w (nI_nm1 (by omega))
        · have : j' = j := by rw [← nI_clamp (n := j') (by omega), ← w, h3, nI_clamp (by omega)]
          rw [this]
    · refine wp_ie c (wp_some (wp_sumr (wp_some ⟨KP.rf μ, ?_⟩)))
      have l2 := l0 μ rfl
      have k2 : KP μ (zup μ 310 10 (nI (610 + 109 * k))) := zup310.kp
      unfold f_X12_bail
      refine wp_bd2 (wp_of (e2 μ rfl) (wp_bd (wp_ie i10 (wp_bdE (ofM 15 l2 rfl (by omega)) ?_))))
      by_cases c0 : nI (L 15) = 0
      · exact wp_it c0 (wp_some (wp_ie (by decide) (wp_some ⟨rfl, k2⟩)))
      · refine wp_ie c0 ?_
        by_cases c1 : f_X12_isIn v2 1 8 = 0
        · exact wp_it c1 (wp_some (wp_ie (by decide) (wp_some ⟨rfl, k2⟩)))
        · refine wp_ie c1 (wp_ie (fun w => c ?_) (wp_some (wp_ie (by decide) (wp_some ⟨rfl, k2⟩))))
          have w1 := inY.mp c1
          have w2 := inY.mp w
          refine ⟨c0, w1.1, w1.2, w2.1, ?_⟩
          have h1 : v2.toInt - 1 = (v2 - 1).toInt := by
            have a1 := w1.1
            have a2 := w1.2
            rw [I_lt, show (1 : Int32).toInt = 1 by decide] at a1
            rw [I_lt, show (8 : Int32).toInt = 8 by decide] at a2
            rw [Int32.toInt_sub, show (1 : Int32).toInt = 1 by decide]
            exact (Int.bmod_eq_of_le (by omega) (by omega)).symm
          have a3 := w2.2
          rw [I_lt] at a3 ⊢
          omega
  · refine wp_bdE e1 (wp_bd (wp_cn (wp_some (wp_sumr (wp_some ⟨KP.rf μ, ?_⟩)))))
    unfold f_X12_bail
    exact wp_bd2 (wp_of (e2 μ rfl) (wp_bd (wp_it rfl (wp_some (wp_ie (by decide) (wp_some ⟨rfl, KP.rf μ⟩))))))
end BAILM
