/-! who may have stood where: ways as choices, corners -/
theorem wp_bd3Q {α β γ δ : Type} {a : Option (α × β × γ)} {f : α → β → γ → Option δ} {P : δ → Prop} {Q : α × β × γ → Prop} (h : wp a Q) (k : ∀ x y z, Q (x, y, z) → wp (f x y z) P) : wp (zbd3 a f) P := by
  obtain ⟨⟨x, y, z⟩, rfl, h2⟩ := h
  exact k x y z h2
theorem wp_bd4Q {α β γ δ ε : Type} {a : Option (α × β × γ × δ)} {f : α → β → γ → δ → Option ε} {P : ε → Prop} {Q : α × β × γ × δ → Prop} (h : wp a Q) (k : ∀ x y z w, Q (x, y, z, w) → wp (f x y z w) P) : wp (zbd4 a f) P := by
  obtain ⟨⟨x, y, z, w⟩, rfl, h2⟩ := h
  exact k x y z w h2
theorem wp_bd5Q {α β γ δ ε ζ : Type} {a : Option (α × β × γ × δ × ε)} {f : α → β → γ → δ → ε → Option ζ} {P : ζ → Prop} {Q : α × β × γ × δ × ε → Prop} (h : wp a Q) (k : ∀ x y z w v, Q (x, y, z, w, v) → wp (f x y z w v) P) : wp (zbd5 a f) P := by
  obtain ⟨⟨x, y, z, w, v⟩, rfl, h2⟩ := h
  exact k x y z w v h2
/-! sums -/
theorem sm_app (n : Nat) (F : Nat → Int32) : ∀ k, sm (n + k) F = sm n F + sm k (fun w => F (n + w))
  | 0 => by
    show sm n F = sm n F + 0
    rw [Int32.add_zero]
  | k + 1 => by
    show sm (n + k) F + F (n + k) = sm n F + (sm k (fun w => F (n + w)) + F (n + k))
    rw [sm_app n F k, Int32.add_assoc]
theorem sm_mul (a : Nat) (F : Nat → Int32) : ∀ b, sm (a * b) F = sm b (fun d => sm a (fun w => F (w + a * d)))
  | 0 => by
    rw [Nat.mul_zero]
    rfl
  | b + 1 => by
    rw [Nat.mul_succ, sm_app, sm_mul a F b]
    show _ = sm b (fun d => sm a (fun w => F (w + a * d))) + sm a (fun w => F (w + a * b))
    rw [sm_congr (n := a) (f := fun w => F (a * b + w)) (g := fun w => F (w + a * b)) (fun w _ => by rw [Nat.add_comm])]
theorem sm_pad {f : Nat → Int32} {n : Nat} : ∀ k, (∀ j, n ≤ j → j < n + k → f j = 0) → sm (n + k) f = sm n f
  | 0, _ => rfl
  | k + 1, h => by
    show sm (n + k) f + f (n + k) = _
    rw [sm_pad k (fun j h1 h2 => h j h1 (by omega)), h (n + k) (by omega) (by omega), Int32.add_zero]
/-- the reference's digit as the class's: ashore is the last there, the first here -/
def rho (n d : Nat) : Nat := if d = n then 0 else d + 1
def sig (n d : Nat) : Nat := if d = 0 then n else d - 1
theorem rho_sig {n d : Nat} (h : d ≤ n) : rho n (sig n d) = d := by
  unfold rho sig
  by_cases e : d = 0
  · rw [if_pos e, if_pos rfl, e]
  · rw [if_neg e, if_neg (by omega)]
    omega
theorem rho_le {n d : Nat} (h : d ≤ n) : rho n d ≤ n := by
  unfold rho
  split <;> omega
theorem sig_le {n d : Nat} (h : d ≤ n) : sig n d ≤ n := by
  unfold sig
  split <;> omega
theorem rot_sum (n : Nat) (G : Nat → Int32) : sm (n + 1) (fun d => G (rho n d)) = sm (n + 1) G := by
  rw [Nat.add_comm n 1, sm_app 1 G n, Nat.add_comm 1 n]
  show sm n (fun d => G (rho n d)) + G (rho n n) = (0 + G 0) + _
  rw [sm_congr (n := n) (f := fun d => G (rho n d)) (g := fun w => G (1 + w)) (fun d hd => by
    show G (if d = n then 0 else d + 1) = _
    rw [if_neg (by omega), Nat.add_comm])]
  rw [show rho n n = 0 from if_pos rfl, Int32.zero_add, Int32.add_comm]
theorem dig_lo {c w d m N : Nat} (hc : 0 < c) (hm : m < N) : dig c (w + c ^ N * d) m = dig c w m := by
  unfold dig
  have e : c ^ N * d = c ^ m * (c * (c ^ (N - m - 1) * d)) := by
    rw [← Nat.mul_assoc, ← Nat.mul_assoc, ← Nat.pow_succ, ← Nat.pow_add]
    congr 2
    omega
  rw [e, Nat.add_mul_div_left _ _ (Nat.pow_pos hc), Nat.add_mul_mod_self_left]
theorem dig_hi {c w d N : Nat} (hd : d < c) (hw : w < c ^ N) : dig c (w + c ^ N * d) N = d := by
  unfold dig
  rw [Nat.add_mul_div_left _ _ (by omega), Nat.div_eq_of_lt hw, Nat.zero_add, Nat.mod_eq_of_lt hd]
theorem perm_sum {n : Nat} : ∀ (N : Nat) (G : (Nat → Nat) → Int32), (∀ f g, (∀ m, m < N → f m = g m) → G f = G g) → sm ((n + 1) ^ N) (fun w => G (fun m => rho n (dig (n + 1) w m))) = sm ((n + 1) ^ N) (fun w => G (dig (n + 1) w))
  | 0, G, hG => sm_congr (fun w _ => hG _ _ (fun m hm => by omega))
  | N + 1, G, hG => by
    rw [Nat.pow_succ, sm_mul, sm_mul]
    have e1 : ∀ d, d < n + 1 → sm ((n + 1) ^ N) (fun w => G (fun m => rho n (dig (n + 1) (w + (n + 1) ^ N * d) m))) = sm ((n + 1) ^ N) (fun w => G (fun m => if m = N then rho n d else dig (n + 1) w m)) := fun d hd => by
      rw [← perm_sum N (fun f => G (fun m => if m = N then rho n d else f m)) (fun f g hfg => hG _ _ (fun m hm => by
        by_cases e : m = N
        · rw [if_pos e, if_pos e]
        · rw [if_neg e, if_neg e, hfg m (by omega)]))]
      refine sm_congr (fun w hw => hG _ _ (fun m hm => ?_))
      by_cases e : m = N
      · rw [if_pos e, e, dig_hi hd hw]
      · rw [if_neg e, dig_lo (by omega) (by omega)]
    have e2 : ∀ d, d < n + 1 → sm ((n + 1) ^ N) (fun w => G (dig (n + 1) (w + (n + 1) ^ N * d))) = sm ((n + 1) ^ N) (fun w => G (fun m => if m = N then d else dig (n + 1) w m)) := fun d hd => by
      refine sm_congr (fun w hw => hG _ _ (fun m hm => ?_))
      by_cases e : m = N
      · rw [if_pos e, e, dig_hi hd hw]
      · rw [if_neg e, dig_lo (by omega) (by omega)]
    rw [sm_congr e1, sm_congr e2]
    exact rot_sum n (fun e => sm ((n + 1) ^ N) (fun w => G (fun m => if m = N then e else dig (n + 1) w m)))
/-- two lists of ways hold the same choices of the first N -/
def Rg (N W : Nat) (g g' : Nat → Nat → Nat) : Prop := ∀ w, w < W → ∃ w', w' < W ∧ ∀ m, m < N → g' w' m = g w m
theorem Rg_1 {n N : Nat} : Rg N ((n + 1) ^ N) (dig (n + 1)) (fun w m => rho n (dig (n + 1) w m)) := fun w _ => by
  have hl : ∀ m, m < N → sig n (dig (n + 1) w m) < n + 1 := fun m _ => by
    have := sig_le (n := n) (d := dig (n + 1) w m) (by have := dig_lt (c := n + 1) (w := w) (m := m) (by omega); omega)
    omega
  refine ⟨enc (n + 1) (fun m => sig n (dig (n + 1) w m)) N, enc_lt N _ hl, fun m hm => ?_⟩
  show rho n (dig (n + 1) (enc (n + 1) (fun m => sig n (dig (n + 1) w m)) N) m) = _
  rw [dig_enc N _ hl m hm]
  exact rho_sig (by have := dig_lt (c := n + 1) (w := w) (m := m) (by omega); omega)
theorem Rg_2 {n N : Nat} : Rg N ((n + 1) ^ N) (fun w m => rho n (dig (n + 1) w m)) (dig (n + 1)) := fun w _ => by
  have hl : ∀ m, m < N → rho n (dig (n + 1) w m) < n + 1 := fun m _ => by
    have := rho_le (n := n) (d := dig (n + 1) w m) (by have := dig_lt (c := n + 1) (w := w) (m := m) (by omega); omega)
    omega
  refine ⟨enc (n + 1) (fun m => rho n (dig (n + 1) w m)) N, enc_lt N _ hl, fun m hm => dig_enc N _ hl m hm⟩
/-! what is gathered -/
def pcn (s : Nat) : Nat → Nat
  | 0 => 0
  | k + 1 => pcn s k + (if s.testBit k = true then 1 else 0)
def pc (s : Nat) : Nat := pcn s 31
theorem pc_le : ∀ s, s < 32 → pc s ≤ 5 := by decide +kernel
theorem pc_le8 : ∀ s, s < 256 → pc s ≤ 8 := by decide +kernel
theorem bitCountC : ∀ s, s < 256 → f_J6_bitCount_0f7a4 (nI s) = nI (pc s) := by decide +kernel
theorem bitsM {s : Nat} (hs : s < 256) : f_X12_bits (nI s) = some (nI (pc s)) := by
  refine wp_eq ?_
  unfold f_X12_bits
  refine wp_bdQ (Q := fun x => x = nI (pcn s 31)) ?_ (fun x hx => wp_some hx)
  refine wlp0 (fun n k x => f_X12_bits_L4 (nI s) n x (nI k)) _ 31 (fun k x => x = nI (pcn s k)) (by omega) 0 rfl ?_ ?_
  · intro n k x hk hx ih
    show wp (f_X12_bits_L4 (nI s) (n + 1) x (nI k)) _
    rw [f_X12_bits_L4, bitI (by omega) (by omega), nI_1, hx, nI_add]
    exact wp_ie (nI_ge (b := 31) hk (by omega)) (wp_ls (wp_ls (ih _ rfl)))
  · intro n x hx
    show wp (f_X12_bits_L4 (nI s) (n + 1) x (nI 31)) _
    rw [f_X12_bits_L4]
    exact wp_it (nI_le (a := 31) (Nat.le_refl _) (by omega)) (wp_some hx)
section FOLD
variable (fit : (Nat → Nat) → Bool) (mv : (Nat → Nat) → Nat) (N : Nat) (g g' : Nat → Nat → Nat)
def abW : Nat → Nat
  | 0 => 2 ^ N - 1
  | w + 1 => if fit (g w) = true then abW w &&& sps (g w) N else abW w
def fwW : Nat → Nat
  | 0 => 6
  | w + 1 => if fit (g w) = true then (if pc (sps (g w) N) < fwW w then pc (sps (g w) N) else fwW w) else fwW w
def mxW : Nat → Nat
  | 0 => 0
  | w + 1 => if mxW w < mv (g w) then mv (g w) else mxW w
theorem abW_bit (j : Nat) : ∀ W, (abW fit N g W).testBit j = true ↔ j < N ∧ ∀ w, w < W → fit (g w) = true → g w j ≠ 0
  | 0 => by
    show (2 ^ N - 1).testBit j = true ↔ _
    rw [Nat.testBit_two_pow_sub_one, decide_eq_true_eq]
    exact ⟨fun h => ⟨h, fun w hw => by omega⟩, fun h => h.1⟩
  | W + 1 => by
    have ih := abW_bit j W
    unfold abW
    by_cases c : fit (g W) = true
    · rw [if_pos c, Nat.testBit_and, Bool.and_eq_true, ih, sps_bit]
      refine ⟨fun ⟨⟨h1, h2⟩, h3⟩ => ⟨h1, fun w hw hf => ?_⟩, fun ⟨h1, h2⟩ => ⟨⟨h1, fun w hw => h2 w (by omega)⟩, h1, h2 W (by omega) c⟩⟩
      by_cases e : w = W
      · rw [e]
        exact h3.2
      · exact h2 w (by omega) hf
    · rw [if_neg c, ih]
      refine ⟨fun ⟨h1, h2⟩ => ⟨h1, fun w hw hf => ?_⟩, fun ⟨h1, h2⟩ => ⟨h1, fun w hw => h2 w (by omega)⟩⟩
      by_cases e : w = W
      · rw [e] at hf
        exact absurd hf c
      · exact h2 w (by omega) hf
theorem fwW_le : ∀ W, fwW fit N g W ≤ 6
  | 0 => Nat.le_refl _
  | W + 1 => by
    have ih := fwW_le W
    unfold fwW
    split
    · split <;> omega
    · exact ih
theorem fwW_low : ∀ W w, w < W → fit (g w) = true → fwW fit N g W ≤ pc (sps (g w) N)
  | 0, w, hw, _ => by omega
  | W + 1, w, hw, hf => by
    by_cases e : w = W
    · rw [e] at hf
      rw [e]
      unfold fwW
      rw [if_pos hf]
      split <;> omega
    · have ih := fwW_low W w (by omega) hf
      unfold fwW
      split
      · split <;> omega
      · exact ih
theorem fwW_at : ∀ W, fwW fit N g W = 6 ∨ ∃ w, w < W ∧ fit (g w) = true ∧ pc (sps (g w) N) = fwW fit N g W
  | 0 => Or.inl rfl
  | W + 1 => by
    have old : ∀ v, v = fwW fit N g W → v = 6 ∨ ∃ w, w < W + 1 ∧ fit (g w) = true ∧ pc (sps (g w) N) = v := fun v hv => by
      rcases fwW_at W with h | ⟨w, h1, h2, h3⟩
      · exact Or.inl (hv.trans h)
      · exact Or.inr ⟨w, by omega, h2, h3.trans hv.symm⟩
    by_cases c : fit (g W) = true
    · by_cases d : pc (sps (g W) N) < fwW fit N g W
      · have e : fwW fit N g (W + 1) = pc (sps (g W) N) := by
          show (if fit (g W) = true then _ else _) = _
          rw [if_pos c, if_pos d]
        rw [e]
        exact Or.inr ⟨W, by omega, c, rfl⟩
      · have e : fwW fit N g (W + 1) = fwW fit N g W := by
          show (if fit (g W) = true then _ else _) = _
          rw [if_pos c, if_neg d]
        exact old _ e
    · have e : fwW fit N g (W + 1) = fwW fit N g W := if_neg c
      exact old _ e
theorem mxW_low : ∀ W w, w < W → mv (g w) ≤ mxW mv g W
  | 0, w, hw => by omega
  | W + 1, w, hw => by
    by_cases e : w = W
    · rw [e]
      unfold mxW
      split <;> omega
    · have ih := mxW_low W w (by omega)
      unfold mxW
      split <;> omega
theorem mxW_at : ∀ W, mxW mv g W = 0 ∨ ∃ w, w < W ∧ mv (g w) = mxW mv g W
  | 0 => Or.inl rfl
  | W + 1 => by
    by_cases d : mxW mv g W < mv (g W)
    · have e : mxW mv g (W + 1) = mv (g W) := if_pos d
      rw [e]
      exact Or.inr ⟨W, by omega, rfl⟩
    · have e : mxW mv g (W + 1) = mxW mv g W := if_neg d
      rw [e]
      rcases mxW_at W with h | ⟨w, h1, h2⟩
      · exact Or.inl h
      · exact Or.inr ⟨w, by omega, h2⟩
variable {fit mv N g g'} {W : Nat}
theorem abW_le (hf : ∀ f f', (∀ m, m < N → f m = f' m) → fit f = fit f') (r : Rg N W g g') (j : Nat) (h : (abW fit N g' W).testBit j = true) : (abW fit N g W).testBit j = true := by
  rw [abW_bit] at h ⊢
  refine ⟨h.1, fun w hw hfw => ?_⟩
  obtain ⟨w', w1, w2⟩ := r w hw
  rw [← w2 j h.1]
  exact h.2 w' w1 ((hf _ _ w2).trans hfw)
theorem abW_eq (hf : ∀ f f', (∀ m, m < N → f m = f' m) → fit f = fit f') (r : Rg N W g g') (r' : Rg N W g' g) : abW fit N g W = abW fit N g' W := by
  refine Nat.eq_of_testBit_eq fun j => ?_
  rw [Bool.eq_iff_iff]
  exact ⟨abW_le hf r' j, abW_le hf r j⟩
theorem fwW_le2 (hf : ∀ f f', (∀ m, m < N → f m = f' m) → fit f = fit f') (r' : Rg N W g' g) : fwW fit N g W ≤ fwW fit N g' W := by
  rcases fwW_at fit N g' W with h | ⟨w, h1, h2, h3⟩
  · rw [h]
    exact fwW_le fit N g W
  · obtain ⟨w', w1, w2⟩ := r' w h1
    have := fwW_low fit N g W w' w1 ((hf _ _ w2).trans h2)
    rw [← h3, ← sps_congr (f := g w') (g := g' w) (n := N) (fun m hm => by rw [w2 m hm])]
    exact this
theorem mxW_le2 (hm : ∀ f f', (∀ m, m < N → f m = f' m) → mv f = mv f') (r : Rg N W g g') : mxW mv g W ≤ mxW mv g' W := by
  rcases mxW_at mv g W with h | ⟨w, h1, h2⟩
  · rw [h]
    exact Nat.zero_le _
  · obtain ⟨w', w1, w2⟩ := r w h1
    have := mxW_low mv g' W w' w1
    rw [← h2, ← hm _ _ w2]
    exact this
end FOLD
/-! corners -/
def outB (w h p : Nat) : Bool := (decide (p % w = 0) || decide (p % w = w - 1)) && (decide (p / w = 0) || decide (p / w = h - 1))
def crl (w h : Nat) : Nat → List Nat
  | 0 => []
  | p + 1 => if outB w h p = true then crl w h p ++ [p] else crl w h p
def adL (l : List Nat) (v : Nat) : List Nat := if v ∈ l then l else l ++ [v]
def crs (w h : Nat) : List Nat := crl w h (w * h)
theorem crs_len : ∀ w, w < 5 → ∀ h, h < 5 → 1 ≤ w → 1 ≤ h → 1 ≤ (crs w h).length ∧ (crs w h).length ≤ 4 := by decide +kernel
theorem rall {n : Nat} {f : Nat → Bool} (h : (List.range n).all f = true) {k : Nat} (hk : k < n) : f k = true := by
  rw [List.all_eq_true] at h
  exact h k (List.mem_range.mpr hk)
def cfB1 : Bool := (List.range 5).all fun w => (List.range 5).all fun h => (List.range 17).all fun p => !(decide (1 ≤ w ∧ 1 ≤ h ∧ p ≤ w * h ∧ 4 ≤ (crl w h p).length)) || decide (crl w h p = crs w h)
theorem cfB1_ok : cfB1 = true := by decide +kernel
theorem crs_full {w h p : Nat} (hw : w < 5) (hh : h < 5) (hp : p < 17) (c : 1 ≤ w ∧ 1 ≤ h ∧ p ≤ w * h ∧ 4 ≤ (crl w h p).length) : crl w h p = crs w h := by
  have t : (!(decide (1 ≤ w ∧ 1 ≤ h ∧ p ≤ w * h ∧ 4 ≤ (crl w h p).length)) || decide (crl w h p = crs w h)) = true := rall (rall (rall cfB1_ok hw) hh) hp
  rw [decide_eq_true c, Bool.not_true, Bool.false_or] at t
  exact of_decide_eq_true t
theorem crs_ref : ∀ w, w < 5 → ∀ h, h < 5 → 1 ≤ w → 1 ≤ h → adL (adL (adL (adL [] 0) (w - 1)) (w * (h - 1))) (w * h - 1) = crs w h := by decide +kernel
def cfB2 : Bool := (List.range 5).all fun w => (List.range 5).all fun h => (List.range 4).all fun j => !(decide (1 ≤ w ∧ 1 ≤ h ∧ j < (crs w h).length)) || decide ((crs w h).getD j 0 < w * h)
theorem cfB2_ok : cfB2 = true := by decide +kernel
theorem crs_lt {w h j : Nat} (hw : w < 5) (hh : h < 5) (hj : j < 4) (c : 1 ≤ w ∧ 1 ≤ h ∧ j < (crs w h).length) : (crs w h).getD j 0 < w * h := by
  have t : (!(decide (1 ≤ w ∧ 1 ≤ h ∧ j < (crs w h).length)) || decide ((crs w h).getD j 0 < w * h)) = true := rall (rall (rall cfB2_ok hw) hh) hj
  rw [decide_eq_true c, Bool.not_true, Bool.false_or] at t
  exact of_decide_eq_true t
def cfB3 : Bool := (List.range 5).all fun w => (List.range 5).all fun h => (List.range 4).all fun i => (List.range 4).all fun j => !(decide (1 ≤ w ∧ 1 ≤ h ∧ i < (crs w h).length ∧ j < (crs w h).length ∧ (crs w h).getD i 0 = (crs w h).getD j 0)) || decide (i = j)
theorem cfB3_ok : cfB3 = true := by decide +kernel
theorem crs_inj {w h i j : Nat} (hw : w < 5) (hh : h < 5) (hi : i < 4) (hj : j < 4) (c : 1 ≤ w ∧ 1 ≤ h ∧ i < (crs w h).length ∧ j < (crs w h).length ∧ (crs w h).getD i 0 = (crs w h).getD j 0) : i = j := by
  have t : (!(decide (1 ≤ w ∧ 1 ≤ h ∧ i < (crs w h).length ∧ j < (crs w h).length ∧ (crs w h).getD i 0 = (crs w h).getD j 0)) || decide (i = j)) = true := rall (rall (rall (rall cfB3_ok hw) hh) hi) hj
  rw [decide_eq_true c, Bool.not_true, Bool.false_or] at t
  exact of_decide_eq_true t
theorem pk_sub1 {n : Nat} (h : 1 ≤ n) : nI n - 1 = nI (n - 1) := pk_sub h
theorem adL_len {l : List Nat} {v : Nat} : (adL l v).length ≤ l.length + 1 := by
  unfold adL
  split
  · omega
  · rw [List.length_append]
    exact Nat.le_refl _
/-- a list, held in a row o, its length in place k of cell c -/
def HL (o c k : Nat) (l : List Nat) (μ : zM) : Prop := μ c k = nI l.length ∧ ∀ j, j < l.length → μ o j = nI (l.getD j 0)
theorem getD_l {l : List Nat} {p j : Nat} (h : j < l.length) : (l ++ [p]).getD j 0 = l.getD j 0 := by
  unfold List.getD
  rw [List.getElem?_append_left h]
theorem getD_r {l : List Nat} {p : Nat} : (l ++ [p]).getD l.length 0 = p := by
  unfold List.getD
  rw [List.getElem?_append_right (Nat.le_refl _), Nat.sub_self]
  rfl
theorem mem_getD {l : List Nat} {v : Nat} : v ∈ l ↔ ∃ i, i < l.length ∧ l.getD i 0 = v := by
  rw [List.mem_iff_getElem]
  constructor
  · rintro ⟨i, h, e⟩
    refine ⟨i, h, ?_⟩
    unfold List.getD
    rw [List.getElem?_eq_getElem h]
    exact e
  · rintro ⟨i, h, e⟩
    refine ⟨i, h, ?_⟩
    unfold List.getD at e
    rw [List.getElem?_eq_getElem h] at e
    exact e
theorem HL.congr {o c k : Nat} {l : List Nat} {μ μ' : zM} (h : HL o c k l μ) (e1 : μ' c k = μ c k) (e2 : μ' o = μ o) : HL o c k l μ' := by
  unfold HL at h ⊢
  rw [e1, e2]
  exact h
theorem HL.add {o c k p : Nat} {l : List Nat} {μ : zM} (h : HL o c k l μ) (ho : o ≠ c) : HL o c k (l ++ [p]) (zup (zup μ o l.length (nI p)) c k (nI (l.length + 1))) := by
  have el : (l ++ [p]).length = l.length + 1 := List.length_append
  refine ⟨by rw [zup_self, el], fun j hj => ?_⟩
  rw [el] at hj
  rw [zup_rne _ _ _ ho]
  by_cases e : j = l.length
  · rw [e, zup_self, getD_r]
  · rw [zup_ne (by omega), getD_l (by omega)]
    exact h.2 j (by omega)
/-! the class's corners -/
section CORC
variable {la : Nat} {μ : zM} {L : Nat → Nat}
theorem outer01 {x n : Nat} (h1 : x < n) (h2 : n ≤ 4) : (if (¬ nI x = 0) ∧ (¬ nI x = nI n - 1) then (0 : Int32) else 1) = if x = 0 ∨ x = n - 1 then 1 else 0 := by
  have e : nI n - 1 = nI (n - 1) := pk_sub1 (by omega)
  rw [e]
  have i0 : nI x = 0 ↔ x = 0 := ⟨fun w => by rw [← nI_clamp (n := x) (by omega), w]; rfl, fun w => by rw [w]; rfl⟩
  have i1 : nI x = nI (n - 1) ↔ x = n - 1 := ⟨fun w => by rw [← nI_clamp (n := x) (by omega), w, nI_clamp (by omega)], fun w => by rw [w]⟩
  by_cases c : x = 0 ∨ x = n - 1
  · rw [if_pos c, if_neg (fun w => c.elim (fun q => w.1 (i0.mpr q)) (fun q => w.2 (i1.mpr q)))]
  · rw [if_neg c, if_pos ⟨fun w => c (Or.inl (i0.mp w)), fun w => c (Or.inr (i1.mp w))⟩]
theorem outerX {p : Nat} (h : LC la μ L) (hp : p < L 2 * L 3) : f_X9_isOuter la (nI p) 0 μ = some (if p % L 2 = 0 ∨ p % L 2 = L 2 - 1 then 1 else 0) := by
  have hB := h.2.1
  have h16 := pl16 hB
  have hb2 := hB.1.2.2.1
  have hm : p % L 2 < L 2 := Nat.mod_lt _ (by omega)
  refine wp_eq ?_
  unfold f_X9_isOuter
  refine wp_bdE (lineOfC h rfl (by omega)) (wp_ls (wp_some ?_))
  rw [linesC0 h, show lix L 0 p = nI (p % L 2) from if_pos rfl]
  exact outer01 hm (by omega)
theorem outerY {p : Nat} (h : LC la μ L) (hp : p < L 2 * L 3) : f_X9_isOuter la (nI p) 1 μ = some (if p / L 2 = 0 ∨ p / L 2 = L 3 - 1 then 1 else 0) := by
  have hB := h.2.1
  have h16 := pl16 hB
  have hb3 := hB.1.2.2.2.1
  have hd : p / L 2 < L 3 := Nat.div_lt_of_lt_mul hp
  refine wp_eq ?_
  unfold f_X9_isOuter
  refine wp_bdE (lineOfC h rfl (by omega)) (wp_ls (wp_some ?_))
  rw [linesC1 h, show lix L 1 p = nI (p / L 2) from if_neg (by decide)]
  exact outer01 hd (by omega)
theorem findCornersC (h : LC la μ L) (hr : la + 14 < 87) : wp (f_X9_findCorners 106 la μ) (fun μ' => HL 107 106 5 (crs (L 2) (L 3)) μ' ∧ (∀ o, o ≠ 106 → o ≠ 107 → μ' o = μ o)) := by
  have hB := h.2.1
  have h16 := pl16 hB
  have hb2 := hB.1.2.2.1
  have hb3 := hB.1.2.2.2.1
  unfold f_X9_findCorners
  refine wp_ls (wp_bdQ (Q := fun μ' => HL 107 106 5 (crs (L 2) (L 3)) μ' ∧ (∀ o, o ≠ 106 → o ≠ 107 → μ' o = μ o)) ?_ (fun x hx => wp_some hx))
  refine wlp0 (fun n p μ' => f_X9_findCorners_L7 106 la n (nI p) μ') _ (L 2 * L 3) (fun p μ' => HL 107 106 5 (crl (L 2) (L 3) p) μ' ∧ (∀ o, o ≠ 106 → o ≠ 107 → μ' o = μ o)) (by omega) _ ⟨⟨zup_self _ _ _ _, fun j hj => by have : j < 0 := hj; omega⟩, fun o ho _ => zup_rne _ _ _ ho⟩ ?_ ?_
  · intro n p μ1 hp ⟨i1, i2⟩ ih
    have l1 : LC la μ1 L := h.congr (fun o h1 h2 => i2 o (by omega) (by omega))
    have ec : μ1 106 5 = nI (crl (L 2) (L 3) p).length := i1.1
    have cl : (crl (L 2) (L 3) p).length ≤ p := by
      clear ih i1 i2 l1 ec hp
      induction p with
      | zero => exact Nat.le_refl _
      | succ p ihp =>
        unfold crl
        split
        · rw [List.length_append]
          show _ + 1 ≤ _
          omega
        · omega
    show wp (f_X9_findCorners_L7 106 la (n + 1) (nI p) μ1) _
    rw [f_X9_findCorners_L7, placesC l1, ec]
    by_cases c4 : 4 ≤ (crl (L 2) (L 3) p).length
    · refine wp_ie (fun w => w.2 (nI_le (a := 4) c4 (by omega))) (wp_some ⟨?_, i2⟩)
      rw [← crs_full (w := L 2) (h := L 3) (p := p) (by omega) (by omega) (by omega) ⟨by omega, by omega, by omega, c4⟩]
      exact i1
    · refine wp_it ⟨nI_ge hp (by omega), nI_ge (b := 4) (by omega) (by omega)⟩ (wp_bdE (outerX l1 hp) ?_)
      have hout : outB (L 2) (L 3) p = true ↔ (p % L 2 = 0 ∨ p % L 2 = L 2 - 1) ∧ (p / L 2 = 0 ∨ p / L 2 = L 3 - 1) := by
        unfold outB
        rw [Bool.and_eq_true, Bool.or_eq_true, Bool.or_eq_true, decide_eq_true_eq, decide_eq_true_eq, decide_eq_true_eq, decide_eq_true_eq]
      have no : ¬ outB (L 2) (L 3) p = true → wp (f_X9_findCorners_L7 106 la n (nI (p + 1)) μ1) (fun μ' => HL 107 106 5 (crs (L 2) (L 3)) μ' ∧ (∀ o, o ≠ 106 → o ≠ 107 → μ' o = μ o)) := fun w => by
        refine ih _ ⟨?_, i2⟩
        show HL 107 106 5 (if outB (L 2) (L 3) p = true then _ else _) μ1
        rw [if_neg w]
        exact i1
      rw [nI_1]
      by_cases c0 : p % L 2 = 0 ∨ p % L 2 = L 2 - 1
      · rw [if_pos c0]
        by_cases c1 : p / L 2 = 0 ∨ p / L 2 = L 3 - 1
        · refine wp_bd (wp_bd (wp_ie (by decide) (wp_bdE (outerY l1 hp) ?_)))
          rw [if_pos c1, nI_clamp (by omega)]
          refine wp_ie (by decide) (wp_some (wp_it rfl (wp_g (zin_nI (by omega) (by omega)) (wp_ls (wp_ls (wp_some (wp_ls (ih _ ⟨?_, fun o h1 h2 => ?_⟩))))))))
          · have e2 : zup μ1 (106 + 1) (crl (L 2) (L 3) p).length (nI p) 106 5 + 1 = nI ((crl (L 2) (L 3) p).length + 1) := by
              rw [zup_ne (by omega), ec, nI_1]
            rw [e2]
            show HL 107 106 5 (if outB (L 2) (L 3) p = true then _ else _) _
            rw [if_pos (hout.mpr ⟨c0, c1⟩)]
            exact i1.add (by omega)
          · rw [zup_rne _ _ _ h1, zup_rne _ _ _ h2]
            exact i2 o h1 h2
        · refine wp_bd (wp_bd (wp_ie (by decide) (wp_bdE (outerY l1 hp) ?_)))
          rw [if_neg c1]
          exact wp_it rfl (wp_some (wp_ie (by decide) (wp_some (wp_ls (no (fun w => c1 (hout.mp w).2))))))
      · rw [if_neg c0]
        exact wp_bd (wp_bd (wp_it rfl (wp_some (wp_ie (by decide) (wp_some (wp_ls (no (fun w => c0 (hout.mp w).1))))))))
  · intro n μ1 ⟨i1, i2⟩
    have l1 : LC la μ1 L := h.congr (fun o h1 h2 => i2 o (by omega) (by omega))
    show wp (f_X9_findCorners_L7 106 la (n + 1) (nI (L 2 * L 3)) μ1) _
    rw [f_X9_findCorners_L7, placesC l1]
    exact wp_ie (fun w => w.1 (nI_le (Nat.le_refl _) (by omega))) (wp_some ⟨i1, i2⟩)
end CORC
