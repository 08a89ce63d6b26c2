/-! COST: whom to send aboard, by choices: f m = 0 ashore, else the line and 1 -/
def lnN (L : Nat → Nat) (ax : Nat) : Nat := if ax = 0 then L 2 else L 3
def chl (L : Nat → Nat) (ax : Nat) (f : Nat → Nat) (n : Nat) : Int32 := sm n (fun m => if f m = 0 then 0 else nI (L (86 + 3 * m)) * ((2 : Int32) * nI (f m) - nI (lnN L ax + 1)))
def sps (f : Nat → Nat) : Nat → Nat
  | 0 => 0
  | m + 1 => if f m = 0 then sps f m else sps f m ||| 2 ^ m
def tsf (L : Nat → Nat) (f : Nat → Nat) : Nat → Nat
  | 0 => 0
  | m + 1 => tsf L f m + (if f m = 0 then 0 else L (87 + 3 * m))
def tsS (L : Nat → Nat) (s : Nat) : Nat → Nat
  | 0 => 0
  | m + 1 => tsS L s m + (if s.testBit m = true then L (87 + 3 * m) else 0)
theorem sps_bit (f : Nat → Nat) (j : Nat) : ∀ n, (sps f n).testBit j = true ↔ j < n ∧ f j ≠ 0
  | 0 => by
    unfold sps
    simp
  | n + 1 => by
    have ih := sps_bit f j n
    unfold sps
    by_cases h : f n = 0
    · rw [if_pos h, ih]
      refine ⟨fun w => ⟨by omega, w.2⟩, fun w => ⟨?_, w.2⟩⟩
      have : j ≠ n := fun e => w.2 (e ▸ h)
      omega
    · rw [if_neg h, Nat.testBit_or, Bool.or_eq_true, ih, Nat.testBit_two_pow]
      constructor
      · rintro (w | w)
        · exact ⟨by omega, w.2⟩
        · have e : n = j := of_decide_eq_true w
          exact ⟨by omega, e ▸ h⟩
      · rintro ⟨h1, h2⟩
        by_cases e : n = j
        · exact Or.inr (decide_eq_true e)
        · exact Or.inl ⟨by omega, h2⟩
theorem sps_lt (f : Nat → Nat) : ∀ n, sps f n < 2 ^ n
  | 0 => by
    show 0 < 2 ^ 0
    decide
  | n + 1 => by
    have ih := sps_lt f n
    have h2 : 2 ^ n < 2 ^ (n + 1) := Nat.pow_lt_pow_right (by omega) (by omega)
    unfold sps
    split
    · omega
    · exact Nat.or_lt_two_pow (by omega) h2
theorem sps_congr {f g : Nat → Nat} {n : Nat} (h : ∀ m, m < n → (f m = 0 ↔ g m = 0)) : sps f n = sps g n := by
  induction n with
  | zero => rfl
  | succ n ih =>
    have e := ih (fun m hm => h m (by omega))
    unfold sps
    rw [e]
    by_cases c : f n = 0
    · rw [if_pos c, if_pos ((h n (by omega)).mp c)]
    · rw [if_neg c, if_neg (fun w => c ((h n (by omega)).mpr w))]
theorem tsS_sps {L f : Nat → Nat} {n : Nat} : ∀ k, k ≤ n → tsS L (sps f n) k = tsf L f k
  | 0, _ => rfl
  | k + 1, h => by
    unfold tsS tsf
    rw [tsS_sps k (by omega)]
    by_cases c : f k = 0
    · rw [if_pos c, if_neg (fun w => ((sps_bit f k n).mp w).2 c)]
    · rw [if_neg c, if_pos ((sps_bit f k n).mpr ⟨by omega, c⟩)]
theorem chl_congr {L f g : Nat → Nat} {ax n : Nat} (h : ∀ m, m < n → f m = g m) : chl L ax f n = chl L ax g n := sm_congr (fun m hm => by rw [h m hm])
theorem tsf_congr {L f g : Nat → Nat} {n : Nat} (h : ∀ m, m < n → f m = g m) : tsf L f n = tsf L g n := by
  induction n with
  | zero => rfl
  | succ n ih =>
    unfold tsf
    rw [ih (fun m hm => h m (by omega)), h n (by omega)]
-- figures
def dig (c w m : Nat) : Nat := w / c ^ m % c
def enc (c : Nat) : (Nat → Nat) → Nat → Nat
  | _, 0 => 0
  | f, n + 1 => f 0 + c * enc c (fun m => f (m + 1)) n
theorem enc_lt {c : Nat} : ∀ (n : Nat) (f : Nat → Nat), (∀ m, m < n → f m < c) → enc c f n < c ^ n
  | 0, f, _ => by
    show 0 < c ^ 0
    rw [Nat.pow_zero]
    omega
  | n + 1, f, h => by
    have ih := enc_lt n (fun m => f (m + 1)) (fun m hm => h (m + 1) (by omega))
    have h0 := h 0 (by omega)
    show f 0 + c * enc c (fun m => f (m + 1)) n < c ^ (n + 1)
    rw [Nat.pow_succ, Nat.mul_comm (c ^ n) c]
    have h1 : c * (enc c (fun m => f (m + 1)) n + 1) ≤ c * c ^ n := Nat.mul_le_mul (Nat.le_refl _) ih
    rw [Nat.mul_add, Nat.mul_one] at h1
    omega
theorem dig_enc {c : Nat} : ∀ (n : Nat) (f : Nat → Nat), (∀ m, m < n → f m < c) → ∀ m, m < n → dig c (enc c f n) m = f m
  | 0, _, _, m, hm => by omega
  | n + 1, f, h, m, hm => by
    have h0 := h 0 (by omega)
    have ih := dig_enc n (fun m => f (m + 1)) (fun m hm => h (m + 1) (by omega))
    have e : enc c f (n + 1) = f 0 + c * enc c (fun m => f (m + 1)) n := rfl
    cases m with
    | zero =>
      unfold dig
      rw [Nat.pow_zero, Nat.div_one, e, Nat.add_mul_mod_self_left, Nat.mod_eq_of_lt h0]
    | succ m =>
      have d : enc c f (n + 1) / c = enc c (fun m => f (m + 1)) n := by
        rw [e, Nat.add_mul_div_left _ _ (by omega), Nat.div_eq_of_lt h0, Nat.zero_add]
      have := ih m (by omega)
      unfold dig at this ⊢
      rw [Nat.pow_succ, Nat.mul_comm (c ^ m) c, ← Nat.div_div_eq_div_mul, d]
      exact this
theorem dig_lt {c w m : Nat} (h : 0 < c) : dig c w m < c := Nat.mod_lt _ h
/-- LEAN and 1, as a number -/
def lnx (v : Int32) : Nat := (v + 1).toNatClampNeg
theorem lnx_ok (L : Nat → Nat) (x : Int32) : lnx (leanS L x) < 3 ∧ leanS L x + 1 = nI (lnx (leanS L x)) := by
  rcases lean_dir L x with h | h | h <;> rw [h] <;> decide
def chL (L : Nat → Nat) (ax : Nat) (f : Nat → Nat) : Nat := lnx (leanS L (gl L (nI ax) + chl L ax f (L 14)))
def FOk (L : Nat → Nat) (ax : Nat) (f : Nat → Nat) : Prop := ∀ m, m < L 14 → f m ≤ lnN L ax
def LnsP (L : Nat → Nat) (ax : Nat) (μ : zM) : Prop := ∀ s, s < 32 → ∃ B, B < 8 ∧ μ 94 (32 * ax + s) = nI B ∧ ∀ b, b < 3 → (B.testBit b = true ↔ ∃ f, FOk L ax f ∧ sps f (L 14) = s ∧ chL L ax f = b)
theorem linesCx {a ax : Nat} {μ : zM} {L : Nat → Nat} (h : LC a μ L) (hx : ax < 2) : f_X1_lines a (nI ax) μ = nI (lnN L ax) := by
  have : ax = 0 ∨ ax = 1 := by omega
  rcases this with rfl | rfl
  · exact linesC0 h
  · exact linesC1 h
theorem lnN_le {L : Nat → Nat} (hB : LB L) (ax : Nat) : 1 ≤ lnN L ax ∧ lnN L ax ≤ 4 := by
  unfold lnN
  split
  · exact hB.1.2.2.1
  · exact hB.1.2.2.2.1
theorem pow_small {c n : Nat} (hc : c ≤ 5) (hn : n ≤ 5) : c ^ n ≤ 3125 := by
  have h1 : c ^ n ≤ 5 ^ n := Nat.pow_le_pow_left hc n
  have h2 : 5 ^ n ≤ 5 ^ 5 := Nat.pow_le_pow_right (by omega) hn
  have h3 : (5 : Nat) ^ 5 = 3125 := by decide
  omega
section LEANS
variable {la ax : Nat} {μ : zM} {L : Nat → Nat}
theorem walkC {w c : Nat} {v2 g0 x11 y24 : Int32} (hL : LC la μ L) (hc : lnN L ax + 1 = c) (hw : w < 2 ^ 31) :
    wp (f_X0_findLeans_L102 93 la v2 (nI (L 14)) (nI c) x11 g0 y24 μ zFU (nI w) 0 g0 0) (fun p => p.1 = nI (sps (dig c w) (L 14)) ∧ p.2 = g0 + chl L ax (dig c w) (L 14)) := by
  have hB := hL.2.1
  have hb5 := hB.2.1.2.2.2.1
  have hl := lnN_le hB ax
  refine wlp0 (fun n m (s : Int32 × Int32 × Int32) => f_X0_findLeans_L102 93 la v2 (nI (L 14)) (nI c) x11 g0 y24 μ n s.1 s.2.1 s.2.2 (nI m)) _ (L 14) (fun m s => s.1 = nI (w / c ^ m) ∧ s.2.1 = nI (sps (dig c w) m) ∧ s.2.2 = g0 + chl L ax (dig c w) m) (by omega) (nI w, 0, g0) ⟨by rw [Nat.pow_zero, Nat.div_one], rfl, (Int32.add_zero _).symm⟩ ?_ ?_
  · intro n m ⟨r, s, l⟩ hm ⟨i1, i2, i3⟩ ih
    have i1 : r = nI (w / c ^ m) := i1
    have i2 : s = nI (sps (dig c w) m) := i2
    have i3 : l = g0 + chl L ax (dig c w) m := i3
    show wp (f_X0_findLeans_L102 93 la v2 (nI (L 14)) (nI c) x11 g0 y24 μ (n + 1) r s l (nI m)) _
    rw [f_X0_findLeans_L102, i1]
    have q0 : w / c ^ m ≤ w := Nat.div_le_self _ _
    have hd : dig c w m < c := dig_lt (by omega)
    refine wp_ie (nI_ge hm (by omega)) (wp_g (znz_nI (by omega) (by omega)) (wp_ls (wp_ls ?_)))
    rw [nI_rem (by omega) (by omega) (by omega), pk_div (by omega) (by omega) (by omega), nI_1]
    have e1 : w / c ^ m % c = dig c w m := rfl
    have e2 : w / c ^ m / c = w / c ^ (m + 1) := by rw [Nat.pow_succ, Nat.div_div_eq_div_mul]
    rw [e1, e2]
    by_cases z : dig c w m = 0
    · refine wp_bd2 (wp_it (by rw [z]; decide) (wp_some (wp_ls (ih (_, _, _) ⟨rfl, ?_, ?_⟩))))
      · show s = nI (if dig c w m = 0 then sps (dig c w) m else sps (dig c w) m ||| 2 ^ m)
        rw [if_pos z, i2]
      · show l = g0 + (chl L ax (dig c w) m + (if dig c w m = 0 then 0 else _))
        rw [if_pos z, Int32.add_zero, i3]
    · refine wp_bd2 (wp_ie (fun q => ?_) (wp_ls (wp_bdE (mo_w hL.1 hB hL.2.2.1 rfl hm) (wp_ls (wp_some (wp_ls (ih (_, _, _) ⟨rfl, ?_, ?_⟩)))))))
      · have : ¬ (nI (dig c w m) ≤ nI 0) := nI_ge (by omega) (by omega)
        exact this q
      · show s ||| ((1 : Int32) <<< (nI m &&& 31)) = nI (sps (dig c w) (m + 1))
        rw [i2, one_shl (by omega), nI_or]
        show _ = nI (if dig c w m = 0 then sps (dig c w) m else sps (dig c w) m ||| 2 ^ m)
        rw [if_neg z]
      · show l + nI (L (86 + 3 * m)) * ((2 : Int32) * nI (dig c w m) - nI c) = g0 + (chl L ax (dig c w) m + (if dig c w m = 0 then 0 else nI (L (86 + 3 * m)) * ((2 : Int32) * nI (dig c w m) - nI (lnN L ax + 1))))
        rw [if_neg z, hc, i3, Int32.add_assoc]
  · intro n s ⟨_, i2, i3⟩
    show wp (f_X0_findLeans_L102 93 la v2 (nI (L 14)) (nI c) x11 g0 y24 μ (n + 1) s.1 s.2.1 s.2.2 (nI (L 14))) _
    rw [f_X0_findLeans_L102]
    exact wp_it (nI_le (Nat.le_refl _) (by omega)) (wp_some ⟨i2, i3⟩)
theorem findLeansC (hL : LC la μ L) (hx : ax < 2) (hr : la + 14 < 93) : wp (f_X0_findLeans 93 la (nI ax) μ) (fun μ' => LnsP L ax μ' ∧ (∀ o, o ≠ 94 → μ' o = μ o) ∧ ∀ i, (i < 32 * ax ∨ 32 * ax + 32 ≤ i) → μ' 94 i = μ 94 i) := by
  have hB := hL.2.1
  have hb5 := hB.2.1.2.2.2.1
  have hl := lnN_le hB ax
  have es : μ (la + 8) 2 = nI (L 14) := hL.2.2.1.2.1.2.2.2.1
  obtain ⟨c, hc⟩ : ∃ c, lnN L ax + 1 = c := ⟨_, rfl⟩
  have hp := pow_small (c := c) (n := L 14) (by omega) hb5
  have ek : ∀ s : Nat, nI ax * (32 : Int32) + nI s = nI (32 * ax + s) := fun s => by
    show nI ax * nI 32 + nI s = _
    rw [pk_mul, nI_add, Nat.mul_comm]
  unfold f_X0_findLeans
  rw [es, linesCx hL hx, nI_1, hc]
  refine wp_ls (wp_ls (wp_bdQ (Q := fun x => x = nI (c ^ L 14)) ?_ (fun x hx11 => ?_)))
  · refine wlp0 (fun n m y => f_X0_findLeans_L23 93 la (nI ax) (nI (L 14)) (nI c) n y (nI m)) _ (L 14) (fun m y => y = nI (c ^ m)) (by omega) 1 (by rw [Nat.pow_zero]; rfl) ?_ ?_
    · intro n m y hm hy ih
      show wp (f_X0_findLeans_L23 93 la (nI ax) (nI (L 14)) (nI c) (n + 1) y (nI m)) _
      rw [f_X0_findLeans_L23]
      refine wp_ie (nI_ge hm (by omega)) (wp_ls (wp_ls ?_))
      rw [nI_1]
      refine ih _ ?_
      rw [hy, pk_mul, Nat.pow_succ]
    · intro n y hy
      show wp (f_X0_findLeans_L23 93 la (nI ax) (nI (L 14)) (nI c) (n + 1) y (nI (L 14))) _
      rw [f_X0_findLeans_L23]
      exact wp_it (nI_le (Nat.le_refl _) (by omega)) (wp_some hy)
  · rw [hx11]
    refine wp_bdQ (Q := fun μ' => (∀ s, s < 32 → μ' 94 (32 * ax + s) = 0) ∧ (∀ o, o ≠ 94 → μ' o = μ o) ∧ ∀ i, (i < 32 * ax ∨ 32 * ax + 32 ≤ i) → μ' 94 i = μ 94 i) ?_ (fun μ1 ⟨z1, f1, g1⟩ => ?_)
    · refine wlp0 (fun n s μ' => f_X0_findLeans_L45 93 la (nI ax) (nI (L 14)) (nI c) (nI (c ^ L 14)) n (nI s) μ') _ 32 (fun s μ' => (∀ r, r < s → μ' 94 (32 * ax + r) = 0) ∧ (∀ o, o ≠ 94 → μ' o = μ o) ∧ ∀ i, (i < 32 * ax ∨ 32 * ax + 32 ≤ i) → μ' 94 i = μ 94 i) (by omega) μ ⟨fun r hr => by omega, fun _ _ => rfl, fun _ _ => rfl⟩ ?_ ?_
      · intro n s μ1 hs ⟨i1, i2, i3⟩ ih
        show wp (f_X0_findLeans_L45 93 la (nI ax) (nI (L 14)) (nI c) (nI (c ^ L 14)) (n + 1) (nI s) μ1) _
        rw [f_X0_findLeans_L45, ek]
        refine wp_ie (nI_ge (b := 32) hs (by omega)) (wp_g (zin_nI (by omega) (by omega)) (wp_ls (wp_ls ?_)))
        rw [nI_1, nI_clamp (by omega)]
        refine ih _ ⟨fun r hr => ?_, fun o ho => ?_, fun i hi => ?_⟩
        · by_cases e : r = s
          · rw [e]
            exact zup_self _ _ _ _
          · rw [zup_ne (by omega)]
            exact i1 r (by omega)
        · rw [zup_rne _ _ _ ho]
          exact i2 o ho
        · rw [zup_ne (by omega)]
          exact i3 i hi
      · intro n μ1 hI
        show wp (f_X0_findLeans_L45 93 la (nI ax) (nI (L 14)) (nI c) (nI (c ^ L 14)) (n + 1) (nI 32) μ1) _
        rw [f_X0_findLeans_L45]
        exact wp_it (nI_le (a := 32) (Nat.le_refl _) (by omega)) (wp_some hI)
    · have hL1 : LC la μ1 L := hL.congr (fun o h1 h2 => f1 o (by omega))
      rw [glC hL1]
      refine wp_ls (wp_bdQ (Q := fun μ' => (∀ s, s < 32 → ∃ B, B < 8 ∧ μ' 94 (32 * ax + s) = nI B ∧ ∀ b, b < 3 → (B.testBit b = true ↔ ∃ w, w < c ^ L 14 ∧ sps (dig c w) (L 14) = s ∧ chL L ax (dig c w) = b)) ∧ (∀ o, o ≠ 94 → μ' o = μ o) ∧ ∀ i, (i < 32 * ax ∨ 32 * ax + 32 ≤ i) → μ' 94 i = μ 94 i) ?_ (fun μ2 ⟨z2, f2, g2⟩ => wp_some ⟨fun s hs => ?_, f2, g2⟩))
      · refine wlp0 (fun n w μ' => f_X0_findLeans_L81 93 la (nI ax) (nI (L 14)) (nI c) (nI (c ^ L 14)) (gl L (nI ax)) n (nI w) μ') _ (c ^ L 14) (fun w μ' => (∀ s, s < 32 → ∃ B, B < 8 ∧ μ' 94 (32 * ax + s) = nI B ∧ ∀ b, b < 3 → (B.testBit b = true ↔ ∃ w', w' < w ∧ sps (dig c w') (L 14) = s ∧ chL L ax (dig c w') = b)) ∧ (∀ o, o ≠ 94 → μ' o = μ o) ∧ ∀ i, (i < 32 * ax ∨ 32 * ax + 32 ≤ i) → μ' 94 i = μ 94 i) (by omega) μ1 ⟨fun s hs => ⟨0, by omega, z1 s hs, fun b hb => ?_⟩, f1, g1⟩ ?_ ?_
        · rw [Nat.zero_testBit]
          exact ⟨fun q => absurd q (by decide), fun ⟨w', q, _⟩ => by omega⟩
        · intro n w μ3 hw ⟨i1, i2, i3⟩ ih
          have hL3 : LC la μ3 L := hL.congr (fun o h1 h2 => i2 o (by omega))
          show wp (f_X0_findLeans_L81 93 la (nI ax) (nI (L 14)) (nI c) (nI (c ^ L 14)) (gl L (nI ax)) (n + 1) (nI w) μ3) _
          rw [f_X0_findLeans_L81]
          refine wp_ie (nI_ge hw (by omega)) (wp_bd2Q (walkC (ax := ax) hL3 hc (by omega)) fun x y ⟨hx', hy'⟩ => ?_)
          have hx' : x = nI (sps (dig c w) (L 14)) := hx'
          have hy' : y = gl L (nI ax) + chl L ax (dig c w) (L 14) := hy'
          have hs1 := sps_lt (dig c w) (L 14)
          have hs2 : 2 ^ L 14 ≤ 2 ^ 5 := Nat.pow_le_pow_right (by omega) hb5
          have e32 : nI (sps (dig c w) (L 14)) % (32 : Int32) = nI (sps (dig c w) (L 14)) := by
            show nI _ % nI 32 = _
            rw [nI_rem (by omega) (by omega) (by omega), Nat.mod_eq_of_lt (by omega)]
          obtain ⟨l1, l2⟩ := lnx_ok L (gl L (nI ax) + chl L ax (dig c w) (L 14))
          rw [hx', hy', e32, ek, leanC hL3, l2, nI_1, nI_clamp (by omega), one_shl (by omega)]
          obtain ⟨B, b1, b2, b3⟩ := i1 (sps (dig c w) (L 14)) (by omega)
          rw [b2, nI_or]
          refine wp_g (zin_nI (by omega) (by omega)) (wp_ls (wp_ls (ih _ ⟨fun s hs => ?_, fun o ho => ?_, fun i hi => ?_⟩)))
          · by_cases e : s = sps (dig c w) (L 14)
            · rw [e]
              refine ⟨B ||| 2 ^ lnx (leanS L (gl L (nI ax) + chl L ax (dig c w) (L 14))), ?_, zup_self _ _ _ _, fun b hb => ?_⟩
              · have h3 : 2 ^ lnx (leanS L (gl L (nI ax) + chl L ax (dig c w) (L 14))) < 2 ^ 3 := Nat.pow_lt_pow_right (by omega) l1
                exact Nat.or_lt_two_pow (n := 3) b1 h3
              · rw [Nat.testBit_or, Bool.or_eq_true, b3 b hb, Nat.testBit_two_pow]
                constructor
                · rintro (⟨w', q1, q2⟩ | q)
                  · exact ⟨w', by omega, q2⟩
                  · exact ⟨w, by omega, rfl, of_decide_eq_true q⟩
                · rintro ⟨w', q1, q2, q3⟩
                  by_cases e' : w' = w
                  · rw [e'] at q3
                    exact Or.inr (decide_eq_true q3)
                  · exact Or.inl ⟨w', by omega, q2, q3⟩
            · obtain ⟨B', b1', b2', b3'⟩ := i1 s hs
              refine ⟨B', b1', by rw [zup_ne (by omega)]; exact b2', fun b hb => (b3' b hb).trans ⟨fun ⟨w', q1, q2⟩ => ⟨w', by omega, q2⟩, fun ⟨w', q1, q2, q3⟩ => ⟨w', ?_, q2, q3⟩⟩⟩
              have : w' ≠ w := fun e' => e (by rw [← q2, e'])
              omega
          · rw [zup_rne _ _ _ ho]
            exact i2 o ho
          · rw [zup_ne (by omega)]
            exact i3 i hi
        · intro n μ3 hI
          show wp (f_X0_findLeans_L81 93 la (nI ax) (nI (L 14)) (nI c) (nI (c ^ L 14)) (gl L (nI ax)) (n + 1) (nI (c ^ L 14)) μ3) _
          rw [f_X0_findLeans_L81]
          exact wp_it (nI_le (Nat.le_refl _) (by omega)) (wp_some hI)
      · obtain ⟨B, b1, b2, b3⟩ := z2 s hs
        refine ⟨B, b1, b2, fun b hb => (b3 b hb).trans ⟨fun ⟨w, q1, q2, q3⟩ => ⟨dig c w, fun m hm => ?_, q2, q3⟩, fun ⟨f, q1, q2, q3⟩ => ?_⟩⟩
        · have := dig_lt (c := c) (w := w) (m := m) (by omega)
          omega
        · have hf : ∀ m, m < L 14 → f m < c := fun m hm => by have := q1 m hm; omega
          have hd := dig_enc (L 14) f hf
          refine ⟨enc c f (L 14), enc_lt (L 14) f hf, ?_, ?_⟩
          · rw [sps_congr (fun m hm => by rw [hd m hm]), q2]
          · unfold chL at q3 ⊢
            rw [chl_congr hd, q3]
end LEANS
theorem smod31 {k : Nat} (hk : k < 32) : ((nI k &&& 31).toBitVec.smod 32).toNat = k := by
  have e : nI k &&& 31 = nI k := by
    show nI k &&& nI 31 = nI k
    rw [nI_and]
    congr 1
    have : (31 : Nat) = 2 ^ 5 - 1 := rfl
    rw [this, Nat.and_two_pow_sub_one_eq_mod]
    omega
  rw [e, show (32 : BitVec 32) = BitVec.ofNat 32 32 from rfl]
  have : (nI k).toBitVec.toNat = k := pk_tn (by omega)
  rw [BitVec.smod_eq]
  have m1 : (nI k).toBitVec.msb = false := by
    rw [BitVec.msb_eq_decide, this]
    exact decide_eq_false (by omega)
  have m2 : (BitVec.ofNat 32 32).msb = false := by decide
  rw [m1, m2]
  show ((nI k).toBitVec.umod (BitVec.ofNat 32 32)).toNat = k
  rw [BitVec.umod_eq, BitVec.toNat_umod, this]
  show k % 32 = k
  omega
theorem bitI {s m : Nat} (hs : s < 2 ^ 31) (hm : m < 32) : (nI s >>> (nI m &&& 31)) &&& 1 = nI (if s.testBit m = true then 1 else 0) := by
  rw [pk_shrN hs _ m (smod31 hm)]
  show nI (s / 2 ^ m) &&& nI 1 = _
  rw [nI_and, Nat.and_one_is_mod, Nat.testBit_eq_decide_div_mod_eq]
  by_cases h : s / 2 ^ m % 2 = 1
  · rw [h, decide_eq_true rfl, if_pos rfl]
  · rw [decide_eq_false h, if_neg (by decide), show s / 2 ^ m % 2 = 0 by omega]
theorem bitI_1 {s m : Nat} (hs : s < 2 ^ 31) (hm : m < 32) : (nI s >>> (nI m &&& 31)) &&& 1 = 1 ↔ s.testBit m = true := by
  rw [bitI hs hm]
  split
  · rename_i h
    exact ⟨fun _ => h, fun _ => rfl⟩
  · rename_i h
    exact ⟨fun w => absurd w (by decide), fun w => absurd w h⟩
/-- the least number that has P, or a mark if none has -/
def LeN (P : Nat → Prop) (u v : Int32) : Prop := (∃ t, P t ∧ v = nI t ∧ ∀ t', P t' → t ≤ t') ∨ ((∀ t, ¬ P t) ∧ v = u)
theorem LeN.iff {P Q : Nat → Prop} {u v : Int32} (h : LeN P u v) (e : ∀ t, P t ↔ Q t) : LeN Q u v := by
  rcases h with ⟨t, h1, h2, h3⟩ | ⟨h1, h2⟩
  · exact Or.inl ⟨t, (e t).mp h1, h2, fun t' w => h3 t' ((e t').mpr w)⟩
  · exact Or.inr ⟨fun t w => h1 t ((e t).mpr w), h2⟩
theorem LeN.less {P : Nat → Prop} {v : Int32} {t : Nat} (h : LeN P (-1) v) (hP : ∀ t', P t' → t' < 2 ^ 30) (ht : t < 2 ^ 30) : LeN (fun t' => P t' ∨ t' = t) (-1) (if v = -1 ∨ ¬ v ≤ nI t then nI t else v) := by
  rcases h with ⟨t0, h1, h2, h3⟩ | ⟨h1, h2⟩
  · have b0 := hP t0 h1
    rw [h2]
    by_cases c : t0 ≤ t
    · rw [if_neg (fun w => w.elim (nI_nm1 (by omega)) (fun w => w (nI_le c (by omega))))]
      refine Or.inl ⟨t0, Or.inl h1, rfl, fun t' w => w.elim (h3 t') (fun e => by omega)⟩
    · rw [if_pos (Or.inr (nI_ge (by omega) (by omega)))]
      exact Or.inl ⟨t, Or.inr rfl, rfl, fun t' w => w.elim (fun w => by have := h3 t' w; omega) (fun e => by omega)⟩
  · rw [if_pos (Or.inl h2)]
    exact Or.inl ⟨t, Or.inr rfl, rfl, fun t' w => w.elim (fun w => absurd w (h1 t')) (fun e => by omega)⟩
theorem tsS_le {L : Nat → Nat} (hB : LB L) {s : Nat} : ∀ n, n ≤ L 14 → tsS L s n ≤ 9 * n
  | 0, _ => Nat.le_refl _
  | n + 1, h => by
    have ih := tsS_le hB (s := s) n (by omega)
    have := (hB.2.2.2.2.2.1 n (by omega)).2.1
    unfold tsS
    split <;> omega
section PRICE
variable {la : Nat} {μ : zM} {L : Nat → Nat}
theorem tearsC {s : Nat} (hL : LC la μ L) (hs : s < 32) : f_X0_tearsOf la (nI s) μ = some (nI (tsS L s (L 14))) := by
  have hB := hL.2.1
  have hb5 := hB.2.1.2.2.2.1
  have es : μ (la + 8) 2 = nI (L 14) := hL.2.2.1.2.1.2.2.2.1
  refine wp_eq ?_
  unfold f_X0_tearsOf
  refine wp_bdQ (Q := fun x => x = nI (tsS L s (L 14))) ?_ (fun x hx => wp_some hx)
  refine wlp0 (fun n m y => f_X0_tearsOf_L4 la (nI s) μ n y (nI m)) _ (L 14) (fun m y => y = nI (tsS L s m)) (by omega) 0 rfl ?_ ?_
  · intro n m y hm hy ih
    show wp (f_X0_tearsOf_L4 la (nI s) μ (n + 1) y (nI m)) _
    rw [f_X0_tearsOf_L4, es]
    refine wp_ie (nI_ge hm (by omega)) ?_
    by_cases c : s.testBit m = true
    · refine wp_bd (wp_ie (fun w => w ((bitI_1 (by omega) (by omega)).mpr c)) (wp_bdE (mo_t hL.1 hB hL.2.2.1 rfl hm) (wp_some (wp_ls (wp_ls ?_)))))
      rw [nI_1]
      refine ih _ ?_
      rw [hy, nI_add]
      show _ = nI (tsS L s m + (if s.testBit m = true then L (87 + 3 * m) else 0))
      rw [if_pos c]
    · refine wp_bd (wp_it (fun w => c ((bitI_1 (by omega) (by omega)).mp w)) (wp_some (wp_ls (wp_ls ?_))))
      rw [nI_1]
      refine ih _ ?_
      rw [hy, Int32.add_zero]
      show _ = nI (tsS L s m + (if s.testBit m = true then L (87 + 3 * m) else 0))
      rw [if_neg c, Nat.add_zero]
  · intro n y hy
    show wp (f_X0_tearsOf_L4 la (nI s) μ (n + 1) y (nI (L 14))) _
    rw [f_X0_tearsOf_L4, es]
    exact wp_it (nI_le (Nat.le_refl _) (by omega)) (wp_some hy)
/-- what one set of those aboard does to the prices -/
theorem lowerC {s t : Nat} {X Y : Nat} (hs : s < 32) (hX : μ 94 (32 * 0 + s) = nI X) (hX8 : X < 8) (hY : μ 94 (32 * 1 + s) = nI Y) (hY8 : Y < 8) :
    wp (f_X0_lowerPrices 93 (nI s) (nI t) μ) (fun μ' => (∀ o, o ≠ 95 → μ' o = μ o) ∧ ∀ d, d < 9 → μ' 95 d = if X.testBit (d % 3) = true ∧ Y.testBit (d / 3) = true ∧ (μ 95 d = -1 ∨ ¬ μ 95 d ≤ nI t) then nI t else μ 95 d) := by
  have hX : μ 94 s = nI X := by rw [← hX]; congr 1; omega
  have hY : μ 94 (32 + s) = nI Y := by rw [← hY]
  have ek : (32 : Int32) + nI s = nI (32 + s) := nI_add 32 s
  unfold f_X0_lowerPrices
  refine wp_bdQ (Q := fun μ' => (∀ o, o ≠ 95 → μ' o = μ o) ∧ ∀ d, d < 9 → μ' 95 d = if X.testBit (d % 3) = true ∧ Y.testBit (d / 3) = true ∧ (μ 95 d = -1 ∨ ¬ μ 95 d ≤ nI t) then nI t else μ 95 d) ?_ (fun x hx => wp_some hx)
  refine wlp0 (fun n d μ' => f_X0_lowerPrices_L2 93 (nI s) (nI t) n (nI d) μ') _ 9 (fun k μ' => (∀ o, o ≠ 95 → μ' o = μ o) ∧ (∀ d, d < k → μ' 95 d = if X.testBit (d % 3) = true ∧ Y.testBit (d / 3) = true ∧ (μ 95 d = -1 ∨ ¬ μ 95 d ≤ nI t) then nI t else μ 95 d) ∧ ∀ d, k ≤ d → μ' 95 d = μ 95 d) (by omega) μ ⟨fun _ _ => rfl, fun d hd => by omega, fun _ _ => rfl⟩ ?_ ?_
  · intro n d μ1 hd ⟨i1, i2, i3⟩ ih
    have x1 : μ1 (93 + 1) s = nI X := by show μ1 94 s = _; rw [i1 94 (by omega)]; exact hX
    have y1 : μ1 (93 + 1) (32 + s) = nI Y := by show μ1 94 (32 + s) = _; rw [i1 94 (by omega)]; exact hY
    have e3 : nI d % (3 : Int32) = nI (d % 3) := by
      show nI d % nI 3 = _
      exact nI_rem (by omega) (by omega) (by omega)
    have d3 : nI d / (3 : Int32) = nI (d / 3) := by
      show nI d / nI 3 = _
      exact pk_div (by omega) (by omega) (by omega)
    have o1 : μ1 (93 + 2) d = μ 95 d := i3 d (by omega)
    show wp (f_X0_lowerPrices_L2 93 (nI s) (nI t) (n + 1) (nI d) μ1) _
    rw [f_X0_lowerPrices_L2, ek, e3, d3, nI_clamp (by omega), nI_clamp (by omega), nI_clamp (by omega), x1, y1, o1, nI_1]
    have skip : ¬ (X.testBit (d % 3) = true ∧ Y.testBit (d / 3) = true ∧ (μ 95 d = -1 ∨ ¬ μ 95 d ≤ nI t)) → wp (f_X0_lowerPrices_L2 93 (nI s) (nI t) n (nI (d + 1)) μ1) (fun μ' => (∀ o, o ≠ 95 → μ' o = μ o) ∧ ∀ d, d < 9 → μ' 95 d = if X.testBit (d % 3) = true ∧ Y.testBit (d / 3) = true ∧ (μ 95 d = -1 ∨ ¬ μ 95 d ≤ nI t) then nI t else μ 95 d) := fun hn => by
      refine ih _ ⟨i1, fun d' hd' => ?_, fun d' hd' => i3 d' (by omega)⟩
      by_cases e : d' = d
      · rw [e, if_neg hn]
        exact i3 d (by omega)
      · exact i2 d' (by omega)
    refine wp_ie (nI_ge (b := 9) hd (by omega)) (wp_g (zin_nI (by omega) (by omega)) ?_)
    by_cases cx : X.testBit (d % 3) = true
    · by_cases cy : Y.testBit (d / 3) = true
      · refine wp_bd (wp_bd (wp_ie (fun w => w ((bitI_1 (by omega) (by omega)).mpr cx)) (wp_g (zin_nI (by omega) (by omega)) (wp_ie (fun w => w ((bitI_1 (by omega) (by omega)).mpr cy)) (wp_some (wp_it rfl (wp_some ?_)))))))
        by_cases co : μ 95 d = -1 ∨ ¬ μ 95 d ≤ nI t
        · refine wp_bdQ (Q := fun μ2 => μ2 = zup μ1 95 d (nI t)) ?_ (fun μ2 e2 => ?_)
          · by_cases c1 : μ 95 d = -1
            · exact wp_bd (wp_ie (by decide) (wp_g (zin_nI (by omega) (by omega)) (wp_it c1 (wp_some (wp_it rfl (wp_g (zin_nI (by omega) (by omega)) (wp_ls (wp_some rfl))))))))
            · exact wp_bd (wp_ie (by decide) (wp_g (zin_nI (by omega) (by omega)) (wp_ie c1 (wp_g (zin_nI (by omega) (by omega)) (wp_ie (fun w => co.elim c1 (fun q => q w)) (wp_some (wp_it rfl (wp_g (zin_nI (by omega) (by omega)) (wp_ls (wp_some rfl))))))))))
          · rw [e2]
            refine wp_ls (ih _ ⟨fun o ho => by rw [zup_rne _ _ _ ho]; exact i1 o ho, fun d' hd' => ?_, fun d' hd' => by rw [zup_ne (by omega)]; exact i3 d' (by omega)⟩)
            by_cases e : d' = d
            · rw [e, if_pos ⟨cx, cy, co⟩]
              exact zup_self _ _ _ _
            · rw [zup_ne (by omega)]
              exact i2 d' (by omega)
        · have c1 : ¬ μ 95 d = -1 := fun w => co (Or.inl w)
          have c2 : μ 95 d ≤ nI t := Decidable.byContradiction fun w => co (Or.inr w)
          exact wp_bd (wp_bd (wp_ie (by decide) (wp_g (zin_nI (by omega) (by omega)) (wp_ie c1 (wp_g (zin_nI (by omega) (by omega)) (wp_it c2 (wp_some (wp_ie (by decide) (wp_some (wp_ls (skip (fun w => co w.2.2))))))))))))
      · exact wp_bd (wp_bd (wp_ie (fun w => w ((bitI_1 (by omega) (by omega)).mpr cx)) (wp_g (zin_nI (by omega) (by omega)) (wp_it (fun w => cy ((bitI_1 (by omega) (by omega)).mp w)) (wp_some (wp_ie (by decide) (wp_some (wp_bd (wp_bd (wp_it rfl (wp_some (wp_ie (by decide) (wp_some (wp_ls (skip (fun w => cy w.2.1))))))))))))))))
    · exact wp_bd (wp_bd (wp_it (fun w => cx ((bitI_1 (by omega) (by omega)).mp w)) (wp_some (wp_ie (by decide) (wp_some (wp_bd (wp_bd (wp_it rfl (wp_some (wp_ie (by decide) (wp_some (wp_ls (skip (fun w => cx w.1))))))))))))))
  · intro n μ1 ⟨i1, i2, i3⟩
    show wp (f_X0_lowerPrices_L2 93 (nI s) (nI t) (n + 1) (nI 9) μ1) _
    rw [f_X0_lowerPrices_L2]
    exact wp_it (nI_le (a := 9) (Nat.le_refl _) (by omega)) (wp_some ⟨i1, i2⟩)
end PRICE
