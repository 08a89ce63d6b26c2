/-! TEXTS: what is told without FAULT keeps its bounds -/
def BB (L : Nat → Nat) : Prop := (∀ w, w < 7 → ∀ k, k < wnum w → inb w k (L (wcb w + k)) = true) ∧ (∀ t, t < 5 → L (tcp t) ≤ tmx t) ∧ ∀ t, t < 5 → ∀ j, j < L (tcp t) → ∀ i, i < tst t → inb (7 + t) i (L (tbs t + tst t * j + i)) = true
theorem inb_iff {w k v : Nat} : inb w k v = true ↔ bd w k / 1000 ≤ v ∧ v ≤ bd w k % 1000 := decide_eq_true_iff
theorem BB.lb {L : Nat → Nat} (h : BB L) : LB L := by
  obtain ⟨h1, h2, h3⟩ := h
  have a00 : 2 ≤ L 0 ∧ L 0 ≤ 12 := inb_iff.mp (h1 0 (by omega) 0 (by decide))
  have a01 : 2 ≤ L 1 ∧ L 1 ≤ 12 := inb_iff.mp (h1 0 (by omega) 1 (by decide))
  have a10 : 1 ≤ L 2 ∧ L 2 ≤ 4 := inb_iff.mp (h1 1 (by omega) 0 (by decide))
  have a11 : 1 ≤ L 3 ∧ L 3 ≤ 4 := inb_iff.mp (h1 1 (by omega) 1 (by decide))
  have a20 : 0 ≤ L 4 ∧ L 4 ≤ 11 := inb_iff.mp (h1 2 (by omega) 0 (by decide))
  have a21 : 0 ≤ L 5 ∧ L 5 ≤ 11 := inb_iff.mp (h1 2 (by omega) 1 (by decide))
  have a30 : 0 ≤ L 6 ∧ L 6 ≤ 99 := inb_iff.mp (h1 3 (by omega) 0 (by decide))
  have a40 : 1 ≤ L 7 ∧ L 7 ≤ 99 := inb_iff.mp (h1 4 (by omega) 0 (by decide))
  have a50 : 1 ≤ L 8 ∧ L 8 ≤ 99 := inb_iff.mp (h1 5 (by omega) 0 (by decide))
  have a60 : 0 ≤ L 9 ∧ L 9 ≤ 3 := inb_iff.mp (h1 6 (by omega) 0 (by decide))
  have a61 : 0 ≤ L 10 ∧ L 10 ≤ 3 := inb_iff.mp (h1 6 (by omega) 1 (by decide))
  have c0 : L 11 ≤ 20 := h2 0 (by omega)
  have c1 : L 12 ≤ 12 := h2 1 (by omega)
  have c2 : L 13 ≤ 6 := h2 2 (by omega)
  have c3 : L 14 ≤ 5 := h2 3 (by omega)
  have c4 : L 15 ≤ 4 := h2 4 (by omega)
  have r0 : ∀ j, j < L 11 → ∀ i, i < 2 → inb 7 i (L (16 + 2 * j + i)) = true := h3 0 (by omega)
  have r1 : ∀ j, j < L 12 → ∀ i, i < 2 → inb 8 i (L (56 + 2 * j + i)) = true := h3 1 (by omega)
  have r2 : ∀ j, j < L 13 → ∀ i, i < 1 → inb 9 i (L (80 + 1 * j + i)) = true := h3 2 (by omega)
  have r3 : ∀ j, j < L 14 → ∀ i, i < 3 → inb 10 i (L (86 + 3 * j + i)) = true := h3 3 (by omega)
  have r4 : ∀ j, j < L 15 → ∀ i, i < 2 → inb 11 i (L (101 + 2 * j + i)) = true := h3 4 (by omega)
  refine ⟨⟨a00, a01, a10, a11, a20.2, a21.2, a30.2, a40.2, a50.2, a60.2, a61.2⟩, ⟨c0, c1, c2, c3, c4⟩, fun k hk => ⟨?_, ?_⟩, fun k hk => ⟨?_, ?_⟩, fun k hk => ?_, fun k hk => ⟨?_, ?_, ?_⟩, fun k hk => ⟨?_, ?_⟩⟩
  · exact (inb_iff.mp (r0 k hk 0 (by omega))).2
  · have := (inb_iff.mp (r0 k hk 1 (by omega))).2
    rw [show 16 + 2 * k + 1 = 17 + 2 * k by omega] at this
    exact this
  · exact (inb_iff.mp (r1 k hk 0 (by omega))).2
  · have := (inb_iff.mp (r1 k hk 1 (by omega))).2
    rw [show 56 + 2 * k + 1 = 57 + 2 * k by omega] at this
    exact this
  · have := (inb_iff.mp (r2 k hk 0 (by omega))).2
    rw [show 80 + 1 * k + 0 = 80 + k by omega] at this
    exact this
  · exact inb_iff.mp (r3 k hk 0 (by omega))
  · have := (inb_iff.mp (r3 k hk 1 (by omega))).2
    rw [show 86 + 3 * k + 1 = 87 + 3 * k by omega] at this
    exact this
  · have := (inb_iff.mp (r3 k hk 2 (by omega))).2
    rw [show 86 + 3 * k + 2 = 88 + 3 * k by omega] at this
    exact this
  · exact (inb_iff.mp (r4 k hk 0 (by omega))).2
  · have := (inb_iff.mp (r4 k hk 1 (by omega))).2
    rw [show 101 + 2 * k + 1 = 102 + 2 * k by omega] at this
    exact this
/-- a row as it may be, by sort -/
def rowP (s : Nat) (f : Nat → Int32) : Prop := (s = 1 → dOk (f 0) (f 1) (f 2)) ∧ (s = 2 → ∀ i, i < 2 → ∃ m : Nat, m ≤ 11 ∧ f i = nI m) ∧ (s = 3 → ∃ m : Nat, m < 256 ∧ f 0 = nI m)
def Bds (s : Nat) (R : Nat → Int32) : Prop := (s = 0 → ∃ L, BB L ∧ ∀ i, i < 109 → R i = nI (L i)) ∧ ∀ t, 5 ≤ t → t < 9 → tsr t = s → ∀ c, c ≤ tmx t → R (tcp t) = nI c → ∀ j, j < c → rowP s (fun i => R (tbs t + tst t * j + i))
section BOUNDS
variable {b : Nat → Nat} {n w p s : Nat} {F : Nat × Nat} {R : Nat → Int32}
theorem wcb_two : ∀ w, w < 7 → ∀ w', w' < 7 → w = w' ∨ (wcb w + wnum w ≤ wcb w' ∨ wcb w' + wnum w' ≤ wcb w) := by decide +kernel
theorem lakekind : ∀ t, t < 5 → tsr t = 0 ∧ tst t = wnum (7 + t) ∧ kt (7 + t) = t ∧ wsr (7 + t) = 0 := by decide +kernel
theorem wnum_kt : ∀ w, w < 12 → 7 ≤ w → w = 7 + kt w ∧ kt w < 5 := by decide +kernel
theorem BB.upd {L : Nat → Nat} {st : Nat} (hw : w < 12) (hL : BB L) (hR : ∀ i, i < 109 → R i = nI (L i)) (hb : ∀ i, b i < 256) (hok : ∀ i, i < wnum w → inb w i (tN b n (qs b n p i)) = true) (hf : ¬ fullW w R = true) : ∃ L', BB L' ∧ ∀ i, i < 109 → updW w (nvS b n w p st) R i = nI (L' i) := by
  obtain ⟨h1, h2, h3⟩ := hL
  by_cases h7 : w < 7
  · have hbo := basic_ok w h7
    refine ⟨fun i => if wcb w ≤ i ∧ i < wcb w + wnum w then tN b n (qs b n p (i - wcb w)) else L i, ⟨fun w' hw' k hk => ?_, fun t ht => ?_, fun t ht j hj i hi => ?_⟩, fun i hi => ?_⟩
    · show inb w' k (if wcb w ≤ wcb w' + k ∧ wcb w' + k < wcb w + wnum w then tN b n (qs b n p (wcb w' + k - wcb w)) else L (wcb w' + k)) = true
      by_cases e : w = w'
      · subst e
        rw [if_pos (by omega), show wcb w + k - wcb w = k by omega]
        exact hok k hk
      · have := (wcb_two w h7 w' hw').resolve_left e
        rw [if_neg (by omega)]
        exact h1 w' hw' k hk
    · have h11 := tcp_0 t (by omega) (lakekind t ht).1
      show (if wcb w ≤ tcp t ∧ tcp t < wcb w + wnum w then tN b n (qs b n p (tcp t - wcb w)) else L (tcp t)) ≤ tmx t
      rw [if_neg (by omega)]
      exact h2 t ht
    · have h11 := tcp_0 t (by omega) (lakekind t ht).1
      have hj : j < (if wcb w ≤ tcp t ∧ tcp t < wcb w + wnum w then tN b n (qs b n p (tcp t - wcb w)) else L (tcp t)) := hj
      rw [if_neg (by omega)] at hj
      show inb (7 + t) i (if wcb w ≤ tbs t + tst t * j + i ∧ tbs t + tst t * j + i < wcb w + wnum w then tN b n (qs b n p (tbs t + tst t * j + i - wcb w)) else L (tbs t + tst t * j + i)) = true
      rw [if_neg (by omega)]
      exact h3 t ht j hj i hi
    · unfold updW
      rw [if_pos h7]
      show (if wcb w ≤ i ∧ i < wcb w + wnum w then nvS b n w p st (i - wcb w) else R i) = nI (if wcb w ≤ i ∧ i < wcb w + wnum w then tN b n (qs b n p (i - wcb w)) else L i)
      by_cases e : wcb w ≤ i ∧ i < wcb w + wnum w
      · rw [if_pos e, if_pos e]
        unfold nvS
        rw [if_neg (by omega), if_pos (by omega)]
      · rw [if_neg e, if_neg e]
        exact hR i hi
  · obtain ⟨ew, ht5⟩ := wnum_kt w hw (by omega)
    generalize htt : kt w = t at *
    have hk := lakekind t ht5
    have ho := tro_ok t (by omega)
    have h11 := tcp_0 t (by omega) hk.1
    have h16 : tcp t < 16 ∧ tbs t + tst t * tmx t ≤ 109 := by
      have : ∀ t, t < 5 → tcp t < 16 ∧ tbs t + tst t * tmx t ≤ 109 := by decide +kernel
      exact this t ht5
    have hcL := h2 t ht5
    have hcR : R (tcp t) = nI (L (tcp t)) := hR _ (by omega)
    have hlt : L (tcp t) < tmx t := by
      refine Nat.lt_of_not_le fun z => hf (decide_eq_true ⟨by omega, ?_⟩)
      rw [htt, hcR, nI_clamp (by omega)]
      exact z
    have hm := mul_row (s := tst t) hlt
    refine ⟨fun i => if i = tcp t then L (tcp t) + 1 else if tbs t + tst t * L (tcp t) ≤ i ∧ i < tbs t + tst t * L (tcp t) + tst t then tN b n (qs b n p (i - (tbs t + tst t * L (tcp t)))) else L i, ⟨fun w' hw' k hkk => ?_, fun t' ht' => ?_, fun t' ht' j hj i hi => ?_⟩, fun i hi => ?_⟩
    · have hbo := basic_ok w' hw'
      show inb w' k (if wcb w' + k = tcp t then L (tcp t) + 1 else if tbs t + tst t * L (tcp t) ≤ wcb w' + k ∧ wcb w' + k < tbs t + tst t * L (tcp t) + tst t then tN b n (qs b n p (wcb w' + k - (tbs t + tst t * L (tcp t)))) else L (wcb w' + k)) = true
      rw [if_neg (by omega), if_neg (by omega)]
      exact h1 w' hw' k hkk
    · show (if tcp t' = tcp t then L (tcp t) + 1 else if tbs t + tst t * L (tcp t) ≤ tcp t' ∧ tcp t' < tbs t + tst t * L (tcp t) + tst t then tN b n (qs b n p (tcp t' - (tbs t + tst t * L (tcp t)))) else L (tcp t')) ≤ tmx t'
      by_cases e : t = t'
      · subst e
        rw [if_pos rfl]
        omega
      · obtain ⟨-, ⟨d5, d6, d7, d8, d9⟩, -⟩ := tro_two t (by omega) t' (by omega) (by rw [hk.1, (lakekind t' ht').1]) e
        rw [if_neg d5, if_neg (by omega)]
        exact h2 t' ht'
    · have hj : j < (if tcp t' = tcp t then L (tcp t) + 1 else if tbs t + tst t * L (tcp t) ≤ tcp t' ∧ tcp t' < tbs t + tst t * L (tcp t) + tst t then tN b n (qs b n p (tcp t' - (tbs t + tst t * L (tcp t)))) else L (tcp t')) := hj
      show inb (7 + t') i (if tbs t' + tst t' * j + i = tcp t then L (tcp t) + 1 else if tbs t + tst t * L (tcp t) ≤ tbs t' + tst t' * j + i ∧ tbs t' + tst t' * j + i < tbs t + tst t * L (tcp t) + tst t then tN b n (qs b n p (tbs t' + tst t' * j + i - (tbs t + tst t * L (tcp t)))) else L (tbs t' + tst t' * j + i)) = true
      have h11' := tcp_0 t' (by omega) (lakekind t' ht').1
      rw [if_neg (by omega)]
      by_cases e : t = t'
      · subst e
        rw [if_pos rfl] at hj
        by_cases hjl : j = L (tcp t)
        · rw [hjl, if_pos (by omega), show tbs t + tst t * L (tcp t) + i - (tbs t + tst t * L (tcp t)) = i by omega, ← ew]
          exact hok i (by rw [ew, ← hk.2.1]; exact hi)
        · have hm2 := mul_row (s := tst t) (show j < L (tcp t) by omega)
          rw [if_neg (by omega)]
          exact h3 t ht' j (by omega) i hi
      · obtain ⟨-, ⟨d5, d6, d7, d8, d9⟩, d10⟩ := tro_two t (by omega) t' (by omega) (by rw [hk.1, (lakekind t' ht').1]) e
        rw [if_neg d5, if_neg (by omega)] at hj
        have hm2 := mul_row (s := tst t') (show j < tmx t' from Nat.lt_of_lt_of_le hj (h2 t' ht'))
        rw [if_neg (by omega)]
        exact h3 t' ht' j hj i hi
    · unfold updW
      rw [if_neg h7, htt]
      show updR t (rowWd w (nvS b n w p st)) R i = nI (if i = tcp t then L (tcp t) + 1 else if tbs t + tst t * L (tcp t) ≤ i ∧ i < tbs t + tst t * L (tcp t) + tst t then tN b n (qs b n p (i - (tbs t + tst t * L (tcp t)))) else L i)
      by_cases e1 : i = tcp t
      · rw [e1, updR_cp hcR, if_pos rfl]
      · rw [if_neg e1]
        by_cases e2 : tbs t + tst t * L (tcp t) ≤ i ∧ i < tbs t + tst t * L (tcp t) + tst t
        · obtain ⟨j, rfl⟩ : ∃ j, i = tbs t + tst t * L (tcp t) + j := ⟨i - (tbs t + tst t * L (tcp t)), by omega⟩
          rw [if_pos e2, updR_new (by omega) hcR (by omega) (by omega), show tbs t + tst t * L (tcp t) + j - (tbs t + tst t * L (tcp t)) = j by omega]
          have hjw : j < wnum w := by rw [ew, ← hk.2.1]; omega
          have hws : wsr w = 0 := by rw [ew]; exact hk.2.2.2
          unfold rowWd nvS
          rw [hws, if_neg (by omega), if_neg (by omega), if_pos hjw]
        · rw [if_neg e2, updR_old hcR (by omega) e1 (by omega)]
          exact hR i hi
theorem wayOk_le {m : Nat} (h : m ≤ 3) : wayOk (nI m) := by
  have : m = 0 ∨ m = 1 ∨ m = 2 ∨ m = 3 := by omega
  rcases this with rfl | rfl | rfl | rfl
  · exact Or.inr (Or.inl rfl)
  · exact Or.inr (Or.inr (Or.inl rfl))
  · exact Or.inr (Or.inr (Or.inr (Or.inl rfl)))
  · exact Or.inr (Or.inr (Or.inr (Or.inr rfl)))
theorem dayrow {a c : Nat} {x y : Int32} (hw : 12 ≤ w ∧ w < 22) (hx : 0 < wnum w → x = nI a ∧ inb w 0 a = true) (hy : 1 < wnum w → y = nI c ∧ inb w 1 c = true) : dOk (nI (mtt w)) x y := by
  have hm : mtt w = w - 12 ∧ mtt w ≤ 9 := by
    have : ∀ w, w < 22 → 12 ≤ w → mtt w = w - 12 ∧ mtt w ≤ 9 := by decide +kernel
    exact this w hw.2 hw.1
  have lit : ∀ k : Nat, k ≤ 9 → (nI (mtt w) = nI k ↔ w = 12 + k) := fun k hk => by
    rw [nI_eq (by omega) (by omega)]
    omega
  refine ⟨⟨mtt w, hm.2, rfl⟩, fun e => ?_, fun e => ?_, fun e => ?_, fun e => ?_, fun e => ?_⟩
  · have e : w = 12 := (lit 0 (by omega)).mp e
    subst e
    obtain ⟨x1, x2⟩ := hx (by decide)
    obtain ⟨y1, y2⟩ := hy (by decide)
    exact ⟨⟨a, (inb_iff.mp x2).2, x1⟩, c, (inb_iff.mp y2).2, y1⟩
  · have e : w = 13 := (lit 1 (by omega)).mp e
    subst e
    obtain ⟨x1, x2⟩ := hx (by decide)
    exact ⟨a, (inb_iff.mp x2).2, x1⟩
  · have e : w = 14 := (lit 2 (by omega)).mp e
    subst e
    obtain ⟨x1, x2⟩ := hx (by decide)
    rw [x1]
    exact wayOk_le (inb_iff.mp x2).2
  · have e : w = 20 := (lit 8 (by omega)).mp e
    subst e
    obtain ⟨x1, x2⟩ := hx (by decide)
    exact ⟨a, (inb_iff.mp x2).2, x1⟩
  · have e : w = 21 := (lit 9 (by omega)).mp e
    subst e
    obtain ⟨x1, x2⟩ := hx (by decide)
    exact ⟨a, (inb_iff.mp x2).2, x1⟩
theorem fgS_lt : ∀ j (x : (Nat × Nat) × Nat) st, st < 256 → (fgS b n j (x, st)).2 < 256
  | 0, x, st, h => h
  | j + 1, x, st, h => by
    by_cases q : x.1.1 ≠ 1 ∧ tK b n x.2 = 2
    · rw [show fgS b n (j + 1) (x, st) = fgS b n j ((if fok b n x.2 st = true then x.1 else nt x.1 2 (tF b n x.2), tB b n x.2), if fok b n x.2 st = true then st ||| 2 ^ tN b n x.2 else st) from if_pos q]
      refine fgS_lt j _ _ ?_
      split
      · rename_i c
        exact (orbit _ (by have := (fok_iff.mp c).1; omega) st h).2
      · exact h
    · rw [show fgS b n (j + 1) (x, st) = (x, st) from if_neg q]
      exact h
theorem fgS_0 : ∀ j (x : (Nat × Nat) × Nat) st, (fgS b n j (x, st)).1.1.1 = 0 → x.1.1 = 0
  | 0, x, st, h => h
  | j + 1, x, st, h => by
    by_cases q : x.1.1 ≠ 1 ∧ tK b n x.2 = 2
    · rw [show fgS b n (j + 1) (x, st) = fgS b n j ((if fok b n x.2 st = true then x.1 else nt x.1 2 (tF b n x.2), tB b n x.2), if fok b n x.2 st = true then st ||| 2 ^ tN b n x.2 else st) from if_pos q] at h
      have z : (if fok b n x.2 st = true then x.1 else nt x.1 2 (tF b n x.2)).1 = 0 := fgS_0 j _ _ h
      split at z
      · exact z
      · exact absurd z (nt_ne0 (by omega))
    · rw [show fgS b n (j + 1) (x, st) = (x, st) from if_neg q] at h
      exact h
theorem nums_0 (h : (numsS b n w p F).1.1.1 = 0) : F.1 = 0 ∧ (w ≠ 23 → ∀ i, i < wnum w → wok b n w i p (qs b n p i) = true) ∧ (w = 23 → (numsS b n w p F).2 < 256) := by
  by_cases h23 : w = 23
  · subst h23
    refine ⟨?_, fun z => absurd rfl z, fun _ => ?_⟩
    · rw [nums_23] at h
      exact (lnS_0 1 (fgS_0 _ _ _ h)).1
    · rw [nums_23]
      exact fgS_lt _ _ _ set0_lt
  · rw [nums_n h23] at h
    obtain ⟨z1, z2⟩ := lnS_0 _ h
    exact ⟨z1, fun _ => z2, fun z => absurd z h23⟩
theorem pagekind : ∀ w, w < 30 → 12 ≤ w → 5 ≤ kt w ∧ kt w < 9 ∧ tsr (kt w) = wsr w ∧ (wsr w = 1 → w < 22 ∧ tst (kt w) = 3) ∧ (wsr w = 2 → w = 22) ∧ (wsr w = 3 → w = 23) := by decide +kernel
theorem onekind : ∀ t, t < 9 → ∀ t', t' < 9 → (t < 5 ∨ t' < 5 ∨ tsr t ≠ tsr t') ∨ t = t' := by decide +kernel
theorem lineS_B (hb : ∀ i, b i < 256) (hB : F.1 = 0 → Bds s R) (hC : ∀ t, 5 ≤ t → t < 9 → tsr t = s → ∃ c, c ≤ tmx t ∧ R (tcp t) = nI c) (h0 : (lineS b n s p F R).1.1.1 = 0) : F.1 = 0 ∧ Bds s (lineS b n s p F R).2 := by
  cases hsel : wsel b n s p with
  | none =>
    rw [lineS_none hsel] at h0
    cases h0
  | some w =>
    have hw := wf_some (s := s) (c := tW b n p) (w := w) 30 0 rfl (by
      unfold wsel at hsel
      split at hsel
      · exact hsel
      · cases hsel)
    obtain ⟨hw, hws, -⟩ := hw
    rw [lineS_some hsel] at h0 ⊢
    have h0 : (lnE b n (numsS b n w p (if fullW w R = true then nt F 3 (tF b n p) else F)).1).1.1 = 0 := h0
    have hn0 : (numsS b n w p (if fullW w R = true then nt F 3 (tF b n p) else F)).1.1.1 = 0 := by
      by_cases e1 : (numsS b n w p (if fullW w R = true then nt F 3 (tF b n p) else F)).1.1.1 = 1
      · rw [lnE_1 e1] at h0
        omega
      · by_cases e3 : tK b n (numsS b n w p (if fullW w R = true then nt F 3 (tF b n p) else F)).1.2 = 3
        · rw [lnE_y e1 e3] at h0
          exact h0
        · rw [lnE_n e1 e3] at h0
          cases h0
    obtain ⟨f0, f1, f2⟩ := nums_0 hn0
    have hf : ¬ fullW w R = true := fun z => by
      rw [if_pos z] at f0
      exact nt_ne0 (by omega) f0
    rw [if_neg hf] at f0
    refine ⟨f0, ?_⟩
    show Bds s (if (lnE b n (numsS b n w p (if fullW w R = true then nt F 3 (tF b n p) else F)).1).1.1 = 1 ∨ fullW w R = true then R else updW w (nvS b n w p (numsS b n w p (if fullW w R = true then nt F 3 (tF b n p) else F)).2) R)
    rw [if_neg (fun z => z.elim (fun q => by omega) hf)]
    generalize hst : (numsS b n w p (if fullW w R = true then nt F 3 (tF b n p) else F)).2 = st at f2 ⊢
    obtain ⟨hB1, hB2⟩ := hB f0
    refine ⟨fun hs0 => ?_, fun t ht5 ht9 hts c hc hcR j hj => ?_⟩
    · obtain ⟨L, hL, hR⟩ := hB1 hs0
      have h12 : w < 12 := (wsr_0 w hw).mpr (by rw [hws, hs0])
      exact BB.upd h12 hL hR hb (fun i hi => (wok_iff.mp (f1 (by omega) i hi)).1) hf
    · have hs1 : s ≠ 0 := by
        have : ∀ t, t < 9 → 5 ≤ t → tsr t ≠ 0 := by decide +kernel
        rw [← hts]
        exact this t ht9 ht5
      have h12 : 12 ≤ w := Nat.le_of_not_lt fun z => hs1 (by rw [← hws]; exact (wsr_0 w hw).mp z)
      obtain ⟨k1, k2, k3, k4, k5, k6⟩ := pagekind w hw h12
      have et : t = kt w := ((onekind t ht9 (kt w) k2).resolve_left (fun z => by
        rcases z with z | z | z
        · omega
        · omega
        · exact z (by rw [hts, k3, hws])))
      subst et
      obtain ⟨c0, d1, d2⟩ := hC (kt w) k1 k2 hts
      have ho := tro_ok (kt w) k2
      unfold updW at hcR ⊢
      rw [if_neg (by omega)] at hcR ⊢
      rw [updR_cp d2] at hcR
      have hc1 : c = c0 + 1 := ((nI_eq (by omega) (by omega)).mp hcR).symm
      by_cases hj0 : j = c0
      · subst hj0
        have hrow : ∀ i, i < tst (kt w) → updR (kt w) (rowWd w (nvS b n w p st)) R (tbs (kt w) + tst (kt w) * j + i) = rowWd w (nvS b n w p st) i := fun i hi => updR_new k2 d2 (by omega) hi
        refine ⟨fun e => ?_, fun e i hi => ?_, fun e => ?_⟩
        · obtain ⟨k7, k8⟩ := k4 (by rw [hws, e])
          show dOk (updR (kt w) (rowWd w (nvS b n w p st)) R (tbs (kt w) + tst (kt w) * j + 0)) (updR (kt w) (rowWd w (nvS b n w p st)) R (tbs (kt w) + tst (kt w) * j + 1)) (updR (kt w) (rowWd w (nvS b n w p st)) R (tbs (kt w) + tst (kt w) * j + 2))
          rw [hrow 0 (by omega), hrow 1 (by omega), hrow 2 (by omega)]
          have r0 : rowWd w (nvS b n w p st) 0 = nI (mtt w) := by
            unfold rowWd
            rw [if_pos (Or.inl (by rw [hws, e])), if_pos rfl]
          have rk : ∀ k, k < 2 → k < wnum w → rowWd w (nvS b n w p st) (k + 1) = nI (tN b n (qs b n p k)) := by
            intro k hk2 hk
            unfold rowWd nvS
            rw [if_pos (Or.inl (by rw [hws, e])), if_neg (by omega), Nat.add_sub_cancel, if_neg (by omega), if_pos hk]
          rw [r0]
          exact dayrow ⟨h12, k7⟩ (fun z => ⟨rk 0 (by omega) z, (wok_iff.mp (f1 (by omega) 0 z)).1⟩) (fun z => ⟨rk 1 (by omega) z, (wok_iff.mp (f1 (by omega) 1 z)).1⟩)
        · have e22 := k5 (by rw [hws, e])
          subst e22
          show ∃ m : Nat, m ≤ 11 ∧ updR (kt 22) (rowWd 22 (nvS b n 22 p st)) R (tbs (kt 22) + tst (kt 22) * j + i) = nI m
          rw [hrow i hi]
          refine ⟨tN b n (qs b n p i), ?_, ?_⟩
          · have h := (inb_iff.mp (wok_iff.mp (f1 (by omega) i hi)).1).2
            have : i = 0 ∨ i = 1 := by omega
            rcases this with rfl | rfl <;> exact h
          · unfold rowWd nvS
            rw [if_neg (by decide), if_neg (by omega)]
            exact if_pos hi
        · have e23 := k6 (by rw [hws, e])
          subst e23
          show ∃ m : Nat, m < 256 ∧ updR (kt 23) (rowWd 23 (nvS b n 23 p st)) R (tbs (kt 23) + tst (kt 23) * j + 0) = nI m
          rw [hrow 0 (by decide)]
          exact ⟨st, f2 rfl, rfl⟩
      · have hm := mul_row (s := tst (kt w)) (show j < c0 by omega)
        have old := hB2 (kt w) k1 k2 hts c0 d1 d2 j (by omega)
        have eq : ∀ i, i < tst (kt w) → updR (kt w) (rowWd w (nvS b n w p st)) R (tbs (kt w) + tst (kt w) * j + i) = R (tbs (kt w) + tst (kt w) * j + i) := fun i hi => updR_old d2 (by omega) (by omega) (Or.inl (by omega))
        refine ⟨fun e => ?_, fun e i hi => ?_, fun e => ?_⟩
        · obtain ⟨k7, k8⟩ := k4 (by rw [hws, e])
          show dOk (updR (kt w) (rowWd w (nvS b n w p st)) R (tbs (kt w) + tst (kt w) * j + 0)) (updR (kt w) (rowWd w (nvS b n w p st)) R (tbs (kt w) + tst (kt w) * j + 1)) (updR (kt w) (rowWd w (nvS b n w p st)) R (tbs (kt w) + tst (kt w) * j + 2))
          rw [eq 0 (by omega), eq 1 (by omega), eq 2 (by omega)]
          exact old.1 e
        · have e22 := k5 (by rw [hws, e])
          subst e22
          show ∃ m : Nat, m ≤ 11 ∧ updR (kt 22) (rowWd 22 (nvS b n 22 p st)) R (tbs (kt 22) + tst (kt 22) * j + i) = nI m
          rw [eq i hi]
          exact old.2.1 e i hi
        · have e23 := k6 (by rw [hws, e])
          subst e23
          show ∃ m : Nat, m < 256 ∧ updR (kt 23) (rowWd 23 (nvS b n 23 p st)) R (tbs (kt 23) + tst (kt 23) * j + 0) = nI m
          rw [eq 0 (by decide)]
          exact old.2.2 e
/-- the counts stay what they may be -/
theorem lineS_C (hC : ∀ t, 5 ≤ t → t < 9 → tsr t = s → ∃ c, c ≤ tmx t ∧ R (tcp t) = nI c) : ∀ t, 5 ≤ t → t < 9 → tsr t = s → ∃ c, c ≤ tmx t ∧ (lineS b n s p F R).2 (tcp t) = nI c := by
  intro t ht5 ht9 hts
  cases hsel : wsel b n s p with
  | none =>
    rw [lineS_none hsel]
    exact hC t ht5 ht9 hts
  | some w =>
    have hw := wf_some (s := s) (c := tW b n p) (w := w) 30 0 rfl (by
      unfold wsel at hsel
      split at hsel
      · exact hsel
      · cases hsel)
    obtain ⟨hw, hws, -⟩ := hw
    rw [lineS_some hsel]
    generalize hst : (numsS b n w p (if fullW w R = true then nt F 3 (tF b n p) else F)) = X
    show ∃ c, c ≤ tmx t ∧ (if (lnE b n X.1).1.1 = 1 ∨ fullW w R = true then R else updW w (nvS b n w p X.2) R) (tcp t) = nI c
    by_cases hz : (lnE b n X.1).1.1 = 1 ∨ fullW w R = true
    · rw [if_pos hz]
      exact hC t ht5 ht9 hts
    · rw [if_neg hz]
      have hf : ¬ fullW w R = true := fun q => hz (Or.inr q)
      have hs1 : s ≠ 0 := by
        have : ∀ t, t < 9 → 5 ≤ t → tsr t ≠ 0 := by decide +kernel
        rw [← hts]
        exact this t ht9 ht5
      have h12 : 12 ≤ w := Nat.le_of_not_lt fun z => hs1 (by rw [← hws]; exact (wsr_0 w hw).mp z)
      obtain ⟨k1, k2, k3, k4, k5, k6⟩ := pagekind w hw h12
      have et : t = kt w := ((onekind t ht9 (kt w) k2).resolve_left (fun z => by
        rcases z with z | z | z
        · omega
        · omega
        · exact z (by rw [hts, k3, hws])))
      subst et
      obtain ⟨c0, d1, d2⟩ := hC (kt w) k1 k2 hts
      have ho := tro_ok (kt w) k2
      unfold updW
      rw [if_neg (by omega), updR_cp d2]
      refine ⟨c0 + 1, Nat.lt_of_not_le fun z => hf (decide_eq_true ⟨by omega, ?_⟩), rfl⟩
      rw [d2, nI_clamp (by omega)]
      exact z
theorem trun_B (hb : ∀ i, b i < 256) : ∀ j (x : ((Nat × Nat) × Nat) × (Nat → Int32)), (x.1.1.1 = 0 → Bds s x.2) → (∀ t, 5 ≤ t → t < 9 → tsr t = s → ∃ c, c ≤ tmx t ∧ x.2 (tcp t) = nI c) → (trun b n s j x).1.1.1 = 0 → x.1.1.1 = 0 ∧ Bds s (trun b n s j x).2
  | 0, x, hB, hC, h0 => ⟨h0, hB h0⟩
  | j + 1, x, hB, hC, h0 => by
    by_cases hst : x.1.1.1 = 1 ∨ tK b n x.1.2 = 0
    · rw [show trun b n s (j + 1) x = x from if_pos hst] at h0 ⊢
      exact ⟨h0, hB h0⟩
    · rw [show trun b n s (j + 1) x = trun b n s j (lineS b n s x.1.2 x.1.1 x.2) from if_neg hst] at h0 ⊢
      obtain ⟨z1, z2⟩ := trun_B hb j _ (fun z => (lineS_B hb hB hC z).2) (lineS_C hC) h0
      exact ⟨(lineS_B hb hB hC z1).1, z2⟩
theorem R0_B : Bds s (R0 s) := by
  refine ⟨fun hs0 => ?_, fun t ht5 ht9 hts c hc hcR j hj => ?_⟩
  · subst hs0
    refine ⟨fun i => ([8, 8, 3, 2, 0, 0, 5, 4, 40, 1, 3] : List Nat).getD i 0, ⟨by decide +kernel, by decide +kernel, fun t ht j hj => ?_⟩, by decide +kernel⟩
    have : ∀ t, t < 5 → ([8, 8, 3, 2, 0, 0, 5, 4, 40, 1, 3] : List Nat).getD (tcp t) 0 = 0 := by decide +kernel
    have := this t ht
    have hj : j < ([8, 8, 3, 2, 0, 0, 5, 4, 40, 1, 3] : List Nat).getD (tcp t) 0 := hj
    omega
  · have ho := tro_ok t ht9
    have := R0_cp t ht9
    rw [hts] at this
    rw [this] at hcR
    have : c = 0 := ((nI_eq (a := 0) (by omega) (by omega)).mp hcR).symm
    omega
theorem trun_0 (hb : ∀ i, b i < 256) (hs : s < 5) (h0 : (trun b n s n (((0, 0), 0), R0 s)).1.1.1 = 0) : Bds s (trun b n s n (((0, 0), 0), R0 s)).2 := (trun_B hb n _ (fun _ => R0_B) (fun t _ ht9 hts => ⟨0, Nat.zero_le _, by have := R0_cp t ht9; rw [hts] at this; exact this⟩) h0).2
end BOUNDS
