/-! ways and what they cost: nodes u = 4 c + the brothers touched -/
def MU : Nat := 1000000
/-- what a drift costs: by hours 1, else the least of tears -/
def Cst (L : Nat → Nat) (A : Nat) (h : Bool) (i j e : Nat) : Prop := if h = true then Pd L A i j ∧ e = 1 else Ptear L A i j e ∧ ∀ t, Ptear L A i j t → e ≤ t
def toN (L : Nat → Nat) (u i j : Nat) : Nat := 4 * nxc L (u / 4) i j + (u % 4 ||| tc L (nxc L (u / 4) i j))
def Edg (L : Nat → Nat) (A : Nat) (h : Bool) (u v e : Nat) : Prop := ∃ i j, i < 3 ∧ j < 3 ∧ Cst L A h i j e ∧ v = toN L u i j
def stN (L : Nat → Nat) : Nat := 4 * (12 * L 5 + L 4) + tc L (12 * L 5 + L 4)
def Wk (L : Nat → Nat) (A : Nat) (h : Bool) : Nat → Nat → Nat → Prop
  | 0, v, t => v = stN L ∧ t = 0
  | n + 1, v, t => ∃ u t' e, Wk L A h n u t' ∧ Edg L A h u v e ∧ t = t' + e
theorem or4_lt {a b : Nat} (ha : a < 4) (hb : b < 4) : a ||| b < 4 := Nat.or_lt_two_pow (n := 2) ha hb
theorem Wk_ok {L : Nat → Nat} {A : Nat} {h : Bool} (hO : LOk L) : ∀ n v t, Wk L A h n v t → v < 576 ∧ wat L (v / 4) = true
  | 0, v, t, hw => by
    have e : v = stN L := hw.1
    obtain ⟨s1, s2⟩ := start_wat hO
    have := tc_lt L (12 * L 5 + L 4)
    unfold stN at e
    rw [e]
    refine ⟨by omega, ?_⟩
    rw [show (4 * (12 * L 5 + L 4) + tc L (12 * L 5 + L 4)) / 4 = 12 * L 5 + L 4 by omega]
    exact s2
  | n + 1, v, t, hw => by
    obtain ⟨u, t', e, h1, ⟨i, j, hi, hj, _, rfl⟩, _⟩ := hw
    obtain ⟨x, y, _, _, _, _, _, q1, q2⟩ := nx_ok hO.1 hi hj (Wk_ok hO n u t' h1).2
    have := or4_lt (a := u % 4) (b := tc L (nxc L (u / 4) i j)) (by omega) (tc_lt L _)
    unfold toN
    refine ⟨by omega, ?_⟩
    rw [show (4 * nxc L (u / 4) i j + (u % 4 ||| tc L (nxc L (u / 4) i j))) / 4 = nxc L (u / 4) i j by omega]
    exact q2
/-- the least that a way to v costs, below MU, else MU -/
def IsD (L : Nat → Nat) (A : Nat) (h : Bool) (v d : Nat) : Prop := (d < MU → ∃ n, Wk L A h n v d) ∧ (∀ n t, Wk L A h n v t → d ≤ t) ∧ d ≤ MU
theorem IsD_ex (L : Nat → Nat) (A : Nat) (h : Bool) (v : Nat) : ∃ d, IsD L A h v d := by
  by_cases c : ∃ t, t < MU ∧ ∃ n, Wk L A h n v t
  · obtain ⟨d, h1, h2⟩ := pk_least (fun t => t < MU ∧ ∃ n, Wk L A h n v t) c
    refine ⟨d, fun _ => h1.2, fun n t hw => ?_, by have := h1.1; omega⟩
    refine Decidable.byContradiction fun w => h2 t (by omega) ⟨by have := h1.1; omega, n, hw⟩
  · refine ⟨MU, fun w => absurd w (by omega), fun n t hw => ?_, Nat.le_refl _⟩
    exact Decidable.byContradiction fun w => c ⟨t, by omega, n, hw⟩
theorem IsD_one {L : Nat → Nat} {A v d d' : Nat} {h : Bool} (a : IsD L A h v d) (b : IsD L A h v d') : d = d' := by
  have go : ∀ x y, IsD L A h v x → IsD L A h v y → y ≤ x := fun x y hx hy => by
    by_cases c : x < MU
    · obtain ⟨n, hn⟩ := hx.1 c
      exact hy.2.1 n x hn
    · have := hy.2.2
      omega
  have := go d d' a b
  have := go d' d b a
  omega
noncomputable def Dst (L : Nat → Nat) (A : Nat) (h : Bool) (v : Nat) : Nat := Classical.choose (IsD_ex L A h v)
theorem Dst_ok (L : Nat → Nat) (A : Nat) (h : Bool) (v : Nat) : IsD L A h v (Dst L A h v) := Classical.choose_spec (IsD_ex L A h v)
/-- what a table of such numbers holds -/
def SndV (L : Nat → Nat) (A : Nat) (h : Bool) (V : Nat → Nat) : Prop := ∀ v, v < 576 → V v < MU → ∃ n, Wk L A h n v (V v)
/-- one round more: V at first, V' then -/
def Rnd (L : Nat → Nat) (A : Nat) (h : Bool) (V V' : Nat → Nat) : Prop := (∀ v, V' v ≤ V v) ∧ SndV L A h V' ∧ (∀ v, v < 576 → V' v ≤ MU) ∧ ∀ u v e, u < 576 → V u < MU → Edg L A h u v e → V' v ≤ V u + e
def nfc (L : Nat → Nat) (A : Nat) (h : Bool) (V : Nat → Nat) (D : Nat → Nat) : Nat → Nat
  | 0 => 0
  | n + 1 => nfc L A h V D n + (if V n = D n then 0 else 1)
section ROUND
variable {L : Nat → Nat} {A : Nat} {h : Bool} {V V' : Nat → Nat}
theorem D_le (hs : SndV L A h V) (hm : ∀ v, v < 576 → V v ≤ MU) {v : Nat} (hv : v < 576) : Dst L A h v ≤ V v := by
  by_cases c : V v < MU
  · obtain ⟨n, hn⟩ := hs v hv c
    exact (Dst_ok L A h v).2.1 n _ hn
  · have := (Dst_ok L A h v).2.2
    have := hm v hv
    omega
theorem nfc_le {D : Nat → Nat} : ∀ n, nfc L A h V D n ≤ n
  | 0 => Nat.le_refl _
  | n + 1 => by
    have := nfc_le (D := D) n
    unfold nfc
    split <;> omega
theorem nfc_0 {D : Nat → Nat} : ∀ n, nfc L A h V D n = 0 → ∀ v, v < n → V v = D v
  | 0, _, v, hv => by omega
  | n + 1, hn, v, hv => by
    unfold nfc at hn
    by_cases c : V n = D n
    · by_cases e : v = n
      · rw [e]
        exact c
      · exact nfc_0 n (by omega) v (by omega)
    · rw [if_neg c] at hn
      omega
theorem nfc_mono {D : Nat → Nat} (hk : ∀ v, V v = D v → V' v = D v) : ∀ n, nfc L A h V' D n ≤ nfc L A h V D n
  | 0 => Nat.le_refl _
  | n + 1 => by
    have ih := nfc_mono hk n
    unfold nfc
    by_cases c : V n = D n
    · rw [if_pos c, if_pos (hk n c)]
      omega
    · rw [if_neg c]
      split <;> omega
theorem nfc_drop {D : Nat → Nat} (hk : ∀ v, V v = D v → V' v = D v) : ∀ n w, w < n → ¬ V w = D w → V' w = D w → nfc L A h V' D n < nfc L A h V D n
  | 0, w, hw, _, _ => by omega
  | n + 1, w, hw, h1, h2 => by
    by_cases e : w = n
    · have := nfc_mono (L := L) (A := A) (h := h) hk n
      rw [e] at h1 h2
      unfold nfc
      rw [if_neg h1, if_pos h2]
      omega
    · have ih := nfc_drop hk n w (by omega) h1 h2
      unfold nfc
      by_cases c : V n = D n
      · rw [if_pos c, if_pos (hk n c)]
        omega
      · rw [if_neg c]
        split <;> omega
/-- where one number isn't the last one yet, a round makes one more the last -/
theorem round_gain (hO : LOk L) (hs : SndV L A h V) (hm : ∀ v, v < 576 → V v ≤ MU) (h0 : V (stN L) = 0) (hr : Rnd L A h V V') :
    ∀ n v, Wk L A h n v (Dst L A h v) → Dst L A h v < MU → ¬ V v = Dst L A h v → ∃ w, w < 576 ∧ ¬ V w = Dst L A h w ∧ V' w = Dst L A h w
  | 0, v, hw, hlt, hne => by
    have e1 : v = stN L := hw.1
    have e2 : Dst L A h v = 0 := hw.2
    rw [e2, e1] at hne
    exact absurd h0 hne
  | n + 1, v, hw, hlt, hne => by
    have hv := (Wk_ok hO (n + 1) v _ hw).1
    obtain ⟨u, t', e, h1, h2, h3⟩ := hw
    have hu := (Wk_ok hO n u t' h1).1
    have d1 : Dst L A h u ≤ t' := (Dst_ok L A h u).2.1 n t' h1
    have dlt : Dst L A h u < MU := by omega
    obtain ⟨n', hn'⟩ := (Dst_ok L A h u).1 dlt
    have d2 : Dst L A h v ≤ Dst L A h u + e := (Dst_ok L A h v).2.1 (n' + 1) _ ⟨u, _, e, hn', h2, rfl⟩
    have et : t' = Dst L A h u := by omega
    by_cases c : V u = Dst L A h u
    · refine ⟨v, hv, hne, ?_⟩
      have h5 := hr.2.2.2 u v e hu (by omega) h2
      have h6 := D_le hr.2.1 hr.2.2.1 hv
      omega
    · rw [et] at h1
      exact round_gain hO hs hm h0 hr n u h1 dlt c
theorem round_drop (hO : LOk L) (hs : SndV L A h V) (hm : ∀ v, v < 576 → V v ≤ MU) (h0 : V (stN L) = 0) (hr : Rnd L A h V V') (hne : ¬ ∀ v, v < 576 → V v = Dst L A h v) :
    nfc L A h V' (Dst L A h) 576 < nfc L A h V (Dst L A h) 576 := by
  have hk : ∀ v, V v = Dst L A h v → V' v = Dst L A h v ∨ 576 ≤ v := fun v e => by
    by_cases c : v < 576
    · have h5 := hr.1 v
      have h6 := D_le hr.2.1 hr.2.2.1 c
      exact Or.inl (by omega)
    · exact Or.inr (by omega)
  have ex : ∃ v, v < 576 ∧ ¬ V v = Dst L A h v := Classical.byContradiction fun w => hne (fun v hv => Classical.byContradiction fun q => w ⟨v, hv, q⟩)
  obtain ⟨v, hv, hn⟩ := ex
  have hlt : Dst L A h v < MU := by
    have h1 := D_le hs hm hv
    have h2 := hm v hv
    omega
  obtain ⟨n, hw⟩ := (Dst_ok L A h v).1 hlt
  obtain ⟨w, w1, w2, w3⟩ := round_gain hO hs hm h0 hr n v hw hlt hn
  have e1 : ∀ n, n ≤ 576 → nfc L A h (fun k => if k < 576 then V' k else V k) (Dst L A h) n = nfc L A h V' (Dst L A h) n := fun n hn => by
    induction n with
    | zero => rfl
    | succ n ih =>
      unfold nfc
      rw [ih (by omega)]
      show _ + (if (if n < 576 then V' n else V n) = _ then 0 else 1) = _
      rw [if_pos (show n < 576 by omega)]
  have := nfc_drop (L := L) (A := A) (h := h) (V := V) (V' := fun k => if k < 576 then V' k else V k) (D := Dst L A h) (fun v e => by
    show (if v < 576 then V' v else V v) = _
    by_cases c : v < 576
    · rw [if_pos c]
      exact (hk v e).elim id (fun q => by omega)
    · rw [if_neg c]
      exact e) 576 w w1 w2 (by
    show (if w < 576 then V' w else V w) = _
    rw [if_pos w1]
    exact w3)
  rw [e1 576 (Nat.le_refl _)] at this
  exact this
end ROUND
/-- in the midst of a round: the nodes before k are done, and of k the drifts before d -/
def Mid (L : Nat → Nat) (A : Nat) (h : Bool) (V W : Nat → Nat) (k : Nat) (Dn : Nat → Nat → Prop) : Prop :=
  (∀ v, W v ≤ V v) ∧ SndV L A h W ∧ (∀ v, v < 576 → W v ≤ MU) ∧ ∀ u i j e, u < 576 → i < 3 → j < 3 → (u < k ∨ u = k ∧ Dn i j) → V u < MU → Cst L A h i j e → W (toN L u i j) ≤ V u + e
/-- whether it has changed -/
def Chg (V W : Nat → Nat) (f : Int32) : Prop := (f = 0 ∧ ∀ v, v < 576 → W v = V v) ∨ (f = 1 ∧ ∃ v, v < 576 ∧ W v < V v)
theorem Mid.step {L : Nat → Nat} {A k i j e : Nat} {h : Bool} {V W : Nat → Nat} {Dn Dn' : Nat → Nat → Prop} (hO : LOk L) (m : Mid L A h V W k Dn) (hi : i < 3) (hj : j < 3) (hk : k < 576) (hc : Cst L A h i j e) (hlt : W k < MU) (he : ∀ e', Cst L A h i j e' → e' = e) (hd : ∀ i' j', i' < 3 → j' < 3 → Dn' i' j' → Dn i' j' ∨ i' = i ∧ j' = j) :
    Mid L A h V (vmin W (toN L k i j) (W k + e)) k Dn' := by
  obtain ⟨m1, m2, m3, m4⟩ := m
  refine ⟨fun v => Nat.le_trans vmin_le (m1 v), fun v hv hvlt => ?_, fun v hv => Nat.le_trans vmin_le (m3 v hv), fun u i' j' e' hu hi' hj' hor hV hc' => ?_⟩
  · rcases vmin_or (V := W) (j := toN L k i j) (v := W k + e) (J := v) with q | ⟨q1, q2⟩
    · rw [q] at hvlt ⊢
      exact m2 v hv hvlt
    · obtain ⟨n, hn⟩ := m2 k hk hlt
      rw [q2, q1]
      exact ⟨n + 1, k, W k, e, hn, ⟨i, j, hi, hj, hc, rfl⟩, rfl⟩
  · rcases hor with q | ⟨q1, q2⟩
    · exact Nat.le_trans vmin_le (m4 u i' j' e' hu hi' hj' (Or.inl q) hV hc')
    · rcases hd i' j' hi' hj' q2 with q3 | ⟨rfl, rfl⟩
      · exact Nat.le_trans vmin_le (m4 u i' j' e' hu hi' hj' (Or.inr ⟨q1, q3⟩) hV hc')
      · rw [q1, he e' hc']
        have := m1 k
        have : vmin W (toN L k i' j') (W k + e) (toN L k i' j') ≤ W k + e := vmin_at
        omega
theorem Mid.skip {L : Nat → Nat} {A k i j : Nat} {h : Bool} {V W : Nat → Nat} {Dn Dn' : Nat → Nat → Prop} (m : Mid L A h V W k Dn) (hc : ¬ Pd L A i j) (hd : ∀ i' j', i' < 3 → j' < 3 → Dn' i' j' → Dn i' j' ∨ i' = i ∧ j' = j) : Mid L A h V W k Dn' := by
  obtain ⟨m1, m2, m3, m4⟩ := m
  refine ⟨m1, m2, m3, fun u i' j' e' hu hi' hj' hor hV hc' => ?_⟩
  rcases hor with q | ⟨q1, q2⟩
  · exact m4 u i' j' e' hu hi' hj' (Or.inl q) hV hc'
  · rcases hd i' j' hi' hj' q2 with q3 | ⟨rfl, rfl⟩
    · exact m4 u i' j' e' hu hi' hj' (Or.inr ⟨q1, q3⟩) hV hc'
    · refine absurd ?_ hc
      unfold Cst at hc'
      split at hc'
      · exact hc'.1
      · exact ⟨e', hc'.1⟩
theorem Mid.next {L : Nat → Nat} {A k : Nat} {h : Bool} {V W : Nat → Nat} {Dn Dn' : Nat → Nat → Prop} (m : Mid L A h V W k Dn) (ha : V k < MU → ∀ i j, i < 3 → j < 3 → Dn i j) (hn : ∀ i j, i < 3 → j < 3 → ¬ Dn' i j) : Mid L A h V W (k + 1) Dn' := by
  obtain ⟨m1, m2, m3, m4⟩ := m
  refine ⟨m1, m2, m3, fun u i' j' e' hu hi' hj' hor hV hc' => ?_⟩
  rcases hor with q | ⟨_, q2⟩
  · by_cases e : u = k
    · exact m4 u i' j' e' hu hi' hj' (Or.inr ⟨e, ha (e ▸ hV) i' j' hi' hj'⟩) hV hc'
    · exact m4 u i' j' e' hu hi' hj' (Or.inl (by omega)) hV hc'
  · exact absurd q2 (hn i' j' hi' hj')
theorem Mid.rnd {L : Nat → Nat} {A : Nat} {h : Bool} {V W : Nat → Nat} {Dn : Nat → Nat → Prop} (m : Mid L A h V W 576 Dn) : Rnd L A h V W := by
  obtain ⟨m1, m2, m3, m4⟩ := m
  refine ⟨m1, m2, m3, fun u v e hu hV ⟨i, j, hi, hj, hc, ev⟩ => ?_⟩
  rw [ev]
  exact m4 u i j e hu hi hj (Or.inl hu) hV hc
theorem Chg.step {V W : Nat → Nat} {f f' : Int32} {k v : Nat} (c : Chg V W f) (hk : k < 576) (hm : ∀ v, W v ≤ V v) (hf : f' = (if v < W k then 1 else f)) : Chg V (vmin W k v) f' := by
  by_cases q : v < W k
  · rw [if_pos q] at hf
    refine Or.inr ⟨hf, k, hk, ?_⟩
    have h1 : vmin W k v k ≤ v := vmin_at
    have h2 := hm k
    omega
  · rw [if_neg q] at hf
    have e : ∀ u, vmin W k v u = W u := fun u => by
      unfold vmin
      split
      · rename_i e
        rw [e, if_pos (by omega)]
      · rfl
    rw [hf]
    rcases c with ⟨c1, c2⟩ | ⟨c1, u, c2, c3⟩
    · exact Or.inl ⟨c1, fun u hu => by rw [e u]; exact c2 u hu⟩
    · exact Or.inr ⟨c1, u, c2, by rw [e u]; exact c3⟩
theorem Cst_one {L : Nat → Nat} {A i j e e' : Nat} {h : Bool} (a : Cst L A h i j e) (b : Cst L A h i j e') : e' = e := by
  unfold Cst at a b
  by_cases c : h = true
  · rw [if_pos c] at a b
    rw [a.2, b.2]
  · rw [if_neg c] at a b
    have := a.2 e' b.1
    have := b.2 e a.1
    omega
theorem Cst_le {L : Nat → Nat} {A i j e : Nat} {h : Bool} (hB : LB L) (a : Cst L A h i j e) : e ≤ 45 := by
  unfold Cst at a
  by_cases c : h = true
  · rw [if_pos c] at a
    omega
  · rw [if_neg c] at a
    exact Ptear_le hB a.1
section GOON
variable {la : Nat} {μ : zM} {L : Nat → Nat} {A : Nat} {h : Bool}
/-- what the class's search rests on -/
def Grd (L : Nat → Nat) (A : Nat) (μ : zM) : Prop := PrC L A μ ∧ NxP L 1296 μ ∧ TcP L 144 μ
theorem Grd.congr {μ' : zM} (g : Grd L A μ) (e : ∀ o, o ≠ 98 → μ' o = μ o) : Grd L A μ' := by
  refine ⟨fun d hd => ?_, fun c i j hi hj hlt hw => ?_, fun c hc => ?_⟩
  · rw [e 95 (by omega)]
    exact g.1 d hd
  · rw [e 96 (by omega)]
    exact g.2.1 c i j hi hj hlt hw
  · rw [e 97 (by omega)]
    exact g.2.2 c hc
/-- a price of the class is a cost -/
theorem priceC_cst {d : Nat} (g : PrC L A μ) (hB : LB L) (hd : d < 9) (hn : ¬ μ 95 d = -1) : ∃ e, Cst L A h (d % 3) (d / 3) e ∧ (if b2i h = 0 then μ 95 d else 1) = nI e := by
  have hp : Pd L A (d % 3) (d / 3) := Classical.byContradiction fun w => hn ((g.none hB hd).mpr w)
  rcases g d hd with ⟨t, h1, h2, h3⟩ | ⟨_, h2⟩
  · cases h with
    | true => exact ⟨1, ⟨hp, rfl⟩, rfl⟩
    | false => exact ⟨t, ⟨h1, h3⟩, h2⟩
  · exact absurd h2 hn
theorem goOnC {k : Nat} {V W : Nat → Nat} (hO : LOk L) (g : Grd L A μ) (hk : k < 576) (hW : TabN 98 576 W μ) (hm : Mid L A h V W k (fun _ _ => False)) (hlt : W k < MU) :
    wp (f_X0_goOn 93 (nI k) (b2i h) μ) (fun p => (∀ o, o ≠ 98 → p.2 o = μ o) ∧ ∃ W', TabN 98 576 W' p.2 ∧ Mid L A h V W' k (fun _ _ => True) ∧ (p.1 = 0 ∧ (∀ v, v < 576 → W' v = W v) ∨ p.1 = 1 ∧ ∃ v, v < 576 ∧ W' v < V v)) := by
  have hB := hO.1
  have e4 : nI k / (4 : Int32) = nI (k / 4) := by
    show nI k / nI 4 = _
    exact pk_div (by omega) (by omega) (by omega)
  have r4 : nI k % (4 : Int32) = nI (k % 4) := by
    show nI k % nI 4 = _
    exact nI_rem (by omega) (by omega) (by omega)
  unfold f_X0_goOn
  rw [e4]
  refine wp_ls (wp_bd2Q (Q := fun p => (∀ o, o ≠ 98 → p.2 o = μ o) ∧ ∃ W', TabN 98 576 W' p.2 ∧ Mid L A h V W' k (fun _ _ => True) ∧ (p.1 = 0 ∧ (∀ v, v < 576 → W' v = W v) ∨ p.1 = 1 ∧ ∃ v, v < 576 ∧ W' v < V v)) ?_ (fun x μ' hx => wp_g ?_ (wp_some hx)))
  · refine wlp0 (fun n d (s : Int32 × zM) => f_X0_goOn_L10 93 (nI k) (b2i h) (nI (k / 4)) n s.1 (nI d) s.2) _ 9 (fun d s => (∀ o, o ≠ 98 → s.2 o = μ o) ∧ ∃ W', TabN 98 576 W' s.2 ∧ Mid L A h V W' k (fun i j => 3 * j + i < d) ∧ W' k < MU ∧ (s.1 = 0 ∧ (∀ v, v < 576 → W' v = W v) ∨ s.1 = 1 ∧ ∃ v, v < 576 ∧ W' v < V v)) (by omega) (0, μ) ⟨fun _ _ => rfl, W, hW, ⟨hm.1, hm.2.1, hm.2.2.1, fun u i j e hu hi hj hor hV hc => hm.2.2.2 u i j e hu hi hj (hor.imp id (fun q => by omega)) hV hc⟩, hlt, Or.inl ⟨rfl, fun _ _ => rfl⟩⟩ ?_ ?_
    · intro n d ⟨f, μ1⟩ hd ⟨i1, W1, i2, i3, i4, i5⟩ ih
      have i1 : ∀ o, o ≠ 98 → μ1 o = μ o := i1
      have i2 : TabN 98 576 W1 μ1 := i2
      have i5 : f = 0 ∧ (∀ v, v < 576 → W1 v = W v) ∨ f = 1 ∧ ∃ v, v < 576 ∧ W1 v < V v := i5
      have g1 := g.congr i1
      show wp (f_X0_goOn_L10 93 (nI k) (b2i h) (nI (k / 4)) (n + 1) f (nI d) μ1) _
      rw [f_X0_goOn_L10]
      refine wp_ie (nI_ge (b := 9) hd (by omega)) (wp_g (zin_nI (by omega) (by omega)) ?_)
      rw [nI_clamp (n := d) (by omega), nI_1]
      by_cases c : μ1 (93 + 2) d = -1
      · refine wp_bd2 (wp_it c (wp_some (wp_ls (ih (f, μ1) ⟨i1, W1, i2, ?_, i4, i5⟩))))
        exact i3.skip ((g1.1.none hB hd).mp c) (fun i' j' _ _ q => by
          have q : 3 * j' + i' < d + 1 := q
          by_cases e : 3 * j' + i' = d
          · exact Or.inr ⟨by omega, by omega⟩
          · exact Or.inl (by omega))
      · obtain ⟨e, c1, c2⟩ := priceC_cst (h := h) g1.1 hB hd c
        have ce := Cst_le hB c1
        obtain ⟨nn, hw⟩ := i3.2.1 k hk i4
        have wt := Wk_ok hO nn k _ hw
        obtain ⟨x, y, _, _, _, _, _, q1, q2⟩ := nx_ok (i := d % 3) (j := d / 3) hB (by omega) (by omega) wt.2
        have ei : nI (k / 4) * (9 : Int32) + nI d = nI (9 * (k / 4) + d) := by
          show nI (k / 4) * nI 9 + nI d = _
          rw [pk_mul, nI_add, Nat.mul_comm]
        have ev : μ1 (93 + 3) (9 * (k / 4) + d) = nI (nxc L (k / 4) (d % 3) (d / 3)) := by
          have := g1.2.1 (k / 4) (d % 3) (d / 3) (by omega) (by omega) (by omega) wt.2
          rw [show 9 * (k / 4) + 3 * (d / 3) + d % 3 = 9 * (k / 4) + d by omega] at this
          exact this
        have et : μ1 (93 + 4) (nxc L (k / 4) (d % 3) (d / 3)) = nI (tc L (nxc L (k / 4) (d % 3) (d / 3))) := g1.2.2 _ q1
        have ot := or4_lt (a := k % 4) (b := tc L (nxc L (k / 4) (d % 3) (d / 3))) (by omega) (tc_lt L _)
        have etn : nI (nxc L (k / 4) (d % 3) (d / 3)) * (4 : Int32) + (nI (k % 4) ||| nI (tc L (nxc L (k / 4) (d % 3) (d / 3)))) = nI (toN L k (d % 3) (d / 3)) := by
          rw [nI_or]
          show nI _ * nI 4 + _ = _
          rw [pk_mul, nI_add, Nat.mul_comm]
          rfl
        have tlt : toN L k (d % 3) (d / 3) < 576 := by
          unfold toN
          omega
        obtain ⟨w1, w2⟩ := i2 k hk
        obtain ⟨t1, t2⟩ := i2 _ tlt
        have w1 : μ1 (93 + 5) k = nI (W1 k) := w1
        have t1 : μ1 (93 + 5) (toN L k (d % 3) (d / 3)) = nI (W1 (toN L k (d % 3) (d / 3))) := t1
        have i4' : W1 k < 1000000 := i4
        have st := i3.step (Dn' := fun i j => 3 * j + i < d + 1) hO (by omega) (by omega) hk c1 i4 (fun e' q => Cst_one c1 q) (fun i' j' _ _ q => by
          have q : 3 * j' + i' < d + 1 := q
          by_cases e : 3 * j' + i' = d
          · exact Or.inr ⟨by omega, by omega⟩
          · exact Or.inl (by show 3 * j' + i' < d; omega))
        have st4 : vmin W1 (toN L k (d % 3) (d / 3)) (W1 k + e) k < MU := Nat.lt_of_le_of_lt vmin_le i4
        refine wp_bd2 (wp_ie c ?_)
        rw [ei, nI_clamp (by omega), ev]
        refine wp_g (zin_nI (by omega) (by omega)) (wp_ls (wp_g (zin_nI q1 (by omega)) ?_))
        rw [nI_clamp (by omega), et, r4, etn]
        refine wp_ls (wp_g (zin_nI hk (by omega)) (wp_ls ?_))
        rw [show (if b2i h = 0 then μ1 (93 + 2) d else 1) = nI e from c2, nI_clamp (n := k) (by omega), nI_clamp (by omega), w1, nI_add]
        refine wp_ls (wp_g (zin_nI tlt (by omega)) ?_)
        rw [t1]
        by_cases q : W1 (toN L k (d % 3) (d / 3)) ≤ W1 k + e
        · have ee : ∀ u, vmin W1 (toN L k (d % 3) (d / 3)) (W1 k + e) u = W1 u := fun u => by
            unfold vmin
            by_cases eu : u = toN L k (d % 3) (d / 3)
            · rw [if_pos eu, if_pos q, eu]
            · rw [if_neg eu]
          refine wp_it (nI_le q (by omega)) (wp_some (wp_ls (ih (f, μ1) ⟨i1, W1, i2, ?_, i4, i5⟩)))
          rw [show vmin W1 (toN L k (d % 3) (d / 3)) (W1 k + e) = W1 from funext ee] at st
          exact st
        · refine wp_ie (nI_ge (by omega) (by omega)) (wp_ls (wp_some (wp_ls (ih (1, _) ⟨fun o ho => by
            show zup μ1 98 _ _ o = μ o
            rw [zup_rne _ _ _ ho]
            exact i1 o ho, vmin W1 (toN L k (d % 3) (d / 3)) (W1 k + e), ?_, st, st4, Or.inr ⟨rfl, toN L k (d % 3) (d / 3), tlt, ?_⟩⟩))))
          · have := i2.put (x := nI (W1 k + e)) tlt rfl (by omega)
            rw [show μ1 98 (toN L k (d % 3) (d / 3)) = nI (W1 (toN L k (d % 3) (d / 3))) from t1, if_neg (nI_ge (by omega) (by omega))] at this
            exact this
          · have h1 : vmin W1 (toN L k (d % 3) (d / 3)) (W1 k + e) (toN L k (d % 3) (d / 3)) ≤ W1 k + e := vmin_at
            have h2 := i3.1 (toN L k (d % 3) (d / 3))
            omega
    · intro n s ⟨i1, W1, i2, i3, i4, i5⟩
      show wp (f_X0_goOn_L10 93 (nI k) (b2i h) (nI (k / 4)) (n + 1) s.1 (nI 9) s.2) _
      rw [f_X0_goOn_L10]
      refine wp_it (nI_le (a := 9) (Nat.le_refl _) (by omega)) (wp_some ⟨i1, W1, i2, ?_, i5⟩)
      exact ⟨i3.1, i3.2.1, i3.2.2.1, fun u i j e hu hi hj hor hV hc => i3.2.2.2 u i j e hu hi hj (hor.imp id (fun q => ⟨q.1, by show 3 * j + i < 9; omega⟩)) hV hc⟩
  · obtain ⟨_, W1, _, _, q⟩ := hx
    rcases q with ⟨q, _⟩ | ⟨q, _⟩
    · have q : x = 0 := q
      rw [q]
      decide
    · have q : x = 1 := q
      rw [q]
      decide
theorem roundC {y16 : Int32} {V : Nat → Nat} (hO : LOk L) (g : Grd L A μ) (hV : TabN 98 576 V μ) (hs : SndV L A h V) :
    wp (f_X0_findLeast_L69 93 (b2i h) y16 zFU 0 0 μ) (fun p => (∀ o, o ≠ 98 → p.2 o = μ o) ∧ ∃ V', TabN 98 576 V' p.2 ∧ Rnd L A h V V' ∧ Chg V V' p.1) := by
  refine wlp0 (fun n k (s : Int32 × zM) => f_X0_findLeast_L69 93 (b2i h) y16 n s.1 (nI k) s.2) _ 576 (fun k s => (∀ o, o ≠ 98 → s.2 o = μ o) ∧ ∃ W, TabN 98 576 W s.2 ∧ Mid L A h V W k (fun _ _ => False) ∧ Chg V W s.1) (by omega) (0, μ) ⟨fun _ _ => rfl, V, hV, ⟨fun _ => Nat.le_refl _, hs, fun v hv => (hV v hv).2, fun u i j e hu hi hj hor => by
      rcases hor with w | w
      · omega
      · exact w.2.elim⟩, Or.inl ⟨rfl, fun _ _ => rfl⟩⟩ ?_ ?_
  · intro n k ⟨f, μ1⟩ hk ⟨i1, W, i2, i3, i4⟩ ih
    have i1 : ∀ o, o ≠ 98 → μ1 o = μ o := i1
    have i2 : TabN 98 576 W μ1 := i2
    have i4 : Chg V W f := i4
    have ew : μ1 (93 + 5) k = nI (W k) := (i2 k hk).1
    have wl := (i2 k hk).2
    show wp (f_X0_findLeast_L69 93 (b2i h) y16 (n + 1) f (nI k) μ1) _
    rw [f_X0_findLeast_L69, nI_clamp (by omega), ew, nI_1]
    refine wp_ie (nI_ge (b := 576) hk (by omega)) (wp_g (zin_nI (by omega) (by omega)) ?_)
    by_cases c : W k < MU
    · have c' : W k < 1000000 := c
      have cn : ¬ nI (W k) = (1000000 : Int32) := fun w => by
        have : (nI (W k)).toInt = (1000000 : Int32).toInt := by rw [w]
        rw [nI_int (by omega), show (1000000 : Int32).toInt = 1000000 by decide] at this
        omega
      refine wp_bd2 (wp_ie cn (wp_bd2Q (goOnC hO (g.congr i1) hk i2 i3 c) fun r μ2 ⟨j1, W2, j2, j3, j4⟩ => wp_ls (wp_some (wp_ls (ih (_, _) ⟨fun o ho => ((j1 o ho).trans (i1 o ho)), W2, j2, j3.next (fun _ _ _ _ _ => trivial) (fun _ _ _ _ q => q), ?_⟩)))))
      have j4 : r = 0 ∧ (∀ v, v < 576 → W2 v = W v) ∨ r = 1 ∧ ∃ v, v < 576 ∧ W2 v < V v := j4
      show Chg V W2 (f ||| r)
      rcases j4 with ⟨r0, q⟩ | ⟨r1, q⟩
      · rcases i4 with ⟨f0, q2⟩ | ⟨f1, v, q2, q3⟩
        · rw [r0, f0]
          exact Or.inl ⟨by decide, fun v hv => (q v hv).trans (q2 v hv)⟩
        · rw [r0, f1]
          exact Or.inr ⟨by decide, v, q2, by rw [q v q2]; exact q3⟩
      · have ef : f ||| r = 1 := by
          rcases i4 with ⟨f0, _⟩ | ⟨f1, _⟩
          · rw [r1, f0]
            decide
          · rw [r1, f1]
            decide
        exact Or.inr ⟨ef, q⟩
    · have c' : ¬ W k < 1000000 := c
      have ce : nI (W k) = (1000000 : Int32) := by rw [show W k = 1000000 by omega]; rfl
      refine wp_bd2 (wp_it ce (wp_some (wp_ls (ih (f, μ1) ⟨i1, W, i2, i3.next (fun q => ?_) (fun _ _ _ _ q => q), i4⟩))))
      have := i3.1 k
      omega
  · intro n s ⟨i1, W, i2, i3, i4⟩
    show wp (f_X0_findLeast_L69 93 (b2i h) y16 (n + 1) s.1 (nI 576) s.2) _
    rw [f_X0_findLeast_L69]
    exact wp_it (nI_le (a := 576) (Nat.le_refl _) (by omega)) (wp_some ⟨i1, W, i2, i3.rnd, i4⟩)
theorem nfc_at {D V : Nat → Nat} {s : Nat} (hs : V s = D s) : ∀ n, s < n → nfc L A h V D n < n
  | 0, w => by omega
  | n + 1, w => by
    unfold nfc
    by_cases e : s = n
    · rw [e] at hs
      rw [if_pos hs]
      have := nfc_le (L := L) (A := A) (h := h) (V := V) (D := D) n
      omega
    · have := nfc_at hs n (by omega)
      split <;> omega
theorem D_0 : Dst L A h (stN L) = 0 := by
  have := (Dst_ok L A h (stN L)).2.1 0 0 ⟨rfl, rfl⟩
  omega
theorem stN_lt (hO : LOk L) : stN L < 576 := (Wk_ok (A := 0) (h := true) hO 0 (stN L) 0 ⟨rfl, rfl⟩).1
/-- a table as it is between rounds -/
def Tb (c : Nat) (L : Nat → Nat) (A : Nat) (h : Bool) (V : Nat → Nat) (μ : zM) : Prop := TabN c 576 V μ ∧ SndV L A h V ∧ V (stN L) = 0
theorem Tb.rnd {c : Nat} {V V' : Nat → Nat} {μ' : zM} (t : Tb c L A h V μ) (r : Rnd L A h V V') (k : TabN c 576 V' μ') : Tb c L A h V' μ' := by
  refine ⟨k, r.2.1, ?_⟩
  have := r.1 (stN L)
  rw [t.2.2] at this
  omega
theorem all_of_same {V V' : Nat → Nat} {c : Nat} (hO : LOk L) (t : Tb c L A h V μ) (r : Rnd L A h V V') (e : ∀ v, v < 576 → V' v = V v) : ∀ v, v < 576 → V' v = Dst L A h v := by
  have hall : ∀ v, v < 576 → V v = Dst L A h v := Classical.byContradiction fun w => by
    have := round_drop hO t.2.1 (fun v hv => (t.1 v hv).2) t.2.2 r w
    have e2 : ∀ n, n ≤ 576 → nfc L A h V' (Dst L A h) n = nfc L A h V (Dst L A h) n := fun n hn => by
      induction n with
      | zero => rfl
      | succ n ih =>
        unfold nfc
        rw [ih (by omega), e n (by omega)]
    rw [e2 576 (Nat.le_refl _)] at this
    omega
  exact fun v hv => (e v hv).trans (hall v hv)
theorem findLeastC (hL : LC la μ L) (hO : LOk L) (hr : la + 14 < 93) (g : Grd L A μ) :
    wp (f_X0_findLeast 93 la (b2i h) μ) (fun μ' => (∀ o, o ≠ 98 → μ' o = μ o) ∧ TabN 98 576 (Dst L A h) μ') := by
  have hB := hO.1
  have sw := start_wat hO
  unfold f_X0_findLeast
  refine wp_bdQ (Q := fun μ' => (∀ o, o ≠ 98 → μ' o = μ o) ∧ TabN 98 576 (fun _ => 1000000) μ') ?_ (fun μ1 ⟨f1, t1⟩ => ?_)
  · refine wlp0 (fun n K μ' => f_X0_findLeast_L2 93 la (b2i h) n (nI K) μ') _ 576 (fun K μ' => (∀ o, o ≠ 98 → μ' o = μ o) ∧ TabN 98 K (fun _ => 1000000) μ') (by omega) μ ⟨fun _ _ => rfl, fun J hJ => by omega⟩ ?_ ?_
    · intro n K μ1 hK ⟨i1, i2⟩ ih
      show wp (f_X0_findLeast_L2 93 la (b2i h) (n + 1) (nI K) μ1) _
      rw [f_X0_findLeast_L2, nI_clamp (by omega)]
      refine wp_ie (nI_ge (b := 576) hK (by omega)) (wp_g (zin_nI (by omega) (by omega)) (wp_ls (wp_ls ?_)))
      rw [nI_1]
      refine ih _ ⟨fun o ho => by rw [zup_rne _ _ _ ho]; exact i1 o ho, fun J hJ => ?_⟩
      by_cases e' : J = K
      · rw [e']
        exact ⟨zup_self _ _ _ _, Nat.le_refl _⟩
      · rw [zup_ne (by omega)]
        exact i2 J (by omega)
    · intro n μ1 hI
      show wp (f_X0_findLeast_L2 93 la (b2i h) (n + 1) (nI 576) μ1) _
      rw [f_X0_findLeast_L2]
      exact wp_it (nI_le (a := 576) (Nat.le_refl _) (by omega)) (wp_some hI)
  · have L1 : LC la μ1 L := hL.congr (fun o h1 h2 => f1 o (by omega))
    have g1 := g.congr f1
    have et : μ1 (93 + 4) (12 * L 5 + L 4) = nI (tc L (12 * L 5 + L 4)) := g1.2.2 _ sw.1
    have es : nI (12 * L 5 + L 4) * (4 : Int32) + nI (tc L (12 * L 5 + L 4)) = nI (stN L) := by
      show nI _ * nI 4 + _ = _
      rw [pk_mul, nI_add, Nat.mul_comm]
      rfl
    have sl := stN_lt hO
    rw [startC L1]
    refine wp_ls (wp_g (zin_nI sw.1 (by omega)) ?_)
    rw [nI_clamp (by omega), et, es, nI_clamp (by omega)]
    refine wp_g (zin_nI sl (by omega)) (wp_ls ?_)
    have t2 : Tb 98 L A h (fun J => if J = stN L then 0 else 1000000) (zup μ1 (93 + 5) (stN L) 0) := by
      refine ⟨fun J hJ => ?_, fun v hv hlt => ?_, if_pos rfl⟩
      · by_cases e : J = stN L
        · show zup μ1 98 _ _ 98 J = nI (if J = stN L then 0 else 1000000) ∧ (if J = stN L then 0 else 1000000) ≤ _
          rw [if_pos e, e, zup_self]
          exact ⟨rfl, by omega⟩
        · show zup μ1 98 _ _ 98 J = nI (if J = stN L then 0 else 1000000) ∧ (if J = stN L then 0 else 1000000) ≤ _
          rw [if_neg e, zup_ne (by omega)]
          exact t1 J hJ
      · have hlt : (if v = stN L then 0 else 1000000) < MU := hlt
        by_cases e : v = stN L
        · refine ⟨0, e, if_pos e⟩
        · rw [if_neg e] at hlt
          exact absurd hlt (by unfold MU; omega)
    have f2 : ∀ o, o ≠ 98 → zup μ1 (93 + 5) (stN L) 0 o = μ o := fun o ho => by rw [zup_rne _ _ _ ho]; exact f1 o ho
    generalize zup μ1 (93 + 5) (stN L) 0 = μ2 at t2 f2 ⊢
    refine wp_bdQ (Q := fun μ' => (∀ o, o ≠ 98 → μ' o = μ o) ∧ ∃ V, TabN 98 576 V μ' ∧ ∀ v, v < 576 → V v = Dst L A h v) ?_ (fun μ3 ⟨f3, V, t3, e3⟩ => wp_some ⟨f3, fun J hJ => by rw [← e3 J hJ]; exact t3 J hJ⟩)
    refine wlp0 (fun n k (s : Int32 × zM) => f_X0_findLeast_L50 93 (b2i h) n s.1 (nI k) s.2) _ 577 (fun k s => (∀ o, o ≠ 98 → s.2 o = μ o) ∧ ∃ V, Tb 98 L A h V s.2 ∧ (s.1 = 1 ∧ ((∀ v, v < 576 → V v = Dst L A h v) ∨ nfc L A h V (Dst L A h) 576 + k ≤ 575) ∨ s.1 = 0 ∧ ∀ v, v < 576 → V v = Dst L A h v)) (by omega) (1, μ2) ⟨f2, _, t2, Or.inl ⟨rfl, Or.inr ?_⟩⟩ ?_ ?_
    · have := nfc_at (L := L) (A := A) (h := h) (V := fun J => if J = stN L then 0 else 1000000) (D := Dst L A h) (s := stN L) (by rw [D_0]; exact if_pos rfl) 576 sl
      omega
    · intro n k ⟨f, μ3⟩ hk ⟨i1, V, i2, i3⟩ ih
      have i1 : ∀ o, o ≠ 98 → μ3 o = μ o := i1
      have i2 : Tb 98 L A h V μ3 := i2
      have i3 : f = 1 ∧ ((∀ v, v < 576 → V v = Dst L A h v) ∨ nfc L A h V (Dst L A h) 576 + k ≤ 575) ∨ f = 0 ∧ ∀ v, v < 576 → V v = Dst L A h v := i3
      show wp (f_X0_findLeast_L50 93 (b2i h) (n + 1) f (nI k) μ3) _
      rw [f_X0_findLeast_L50, nI_1]
      rcases i3 with ⟨e1, i3⟩ | ⟨e0, i3⟩
      · rw [e1]
        refine wp_it ⟨nI_nlt (a := 576) (by omega) (by omega), by decide⟩ (wp_bd2Q (roundC hO (g.congr i1) i2.1 i2.2.1) fun r μ4 ⟨j1, V', j2, j3, j4⟩ => wp_ls (ih (r, μ4) ⟨fun o ho => (j1 o ho).trans (i1 o ho), V', i2.rnd j3 j2, ?_⟩))
        have j4 : Chg V V' r := j4
        rcases j4 with ⟨r0, q⟩ | ⟨r1, v, q1, q2⟩
        · exact Or.inr ⟨r0, all_of_same hO i2 j3 q⟩
        · refine Or.inl ⟨r1, ?_⟩
          have hne : ¬ ∀ v, v < 576 → V v = Dst L A h v := fun w => by
            have h1 := w v q1
            have h2 := D_le j3.2.1 j3.2.2.1 q1
            omega
          have hd := round_drop hO i2.2.1 (fun v hv => (i2.1 v hv).2) i2.2.2 j3 hne
          rcases i3 with w | w
          · exact absurd w hne
          · exact Or.inr (by omega)
      · rw [e0]
        exact wp_ie (fun w => w.2 rfl) (wp_some ⟨i1, V, i2.1, i3⟩)
    · intro n s ⟨i1, V, i2, i3⟩
      show wp (f_X0_findLeast_L50 93 (b2i h) (n + 1) s.1 (nI 577) s.2) _
      rw [f_X0_findLeast_L50]
      refine wp_ie (fun w => w.1 (nI_lt (a := 576) (by omega) (by omega))) (wp_some ⟨i1, V, i2.1, ?_⟩)
      rcases i3 with ⟨_, w | w⟩ | ⟨_, w⟩
      · exact w
      · omega
      · exact w
end GOON
/-- the least of those at which both are touched -/
def mnf (V : Nat → Nat) : Nat → Nat
  | 0 => 1000000
  | c + 1 => if V (4 * c + 3) < mnf V c then V (4 * c + 3) else mnf V c
theorem mnf_le (V : Nat → Nat) : ∀ n, mnf V n ≤ 1000000
  | 0 => Nat.le_refl _
  | n + 1 => by
    have := mnf_le V n
    unfold mnf
    split <;> omega
def mnAns (m : Nat) : Int32 := if m < 1000000 then nI m else -1
/-- the least of one cell -/
def mnc (V : Nat → Nat) (c : Nat) : Nat → Nat
  | 0 => 1000000
  | k + 1 => if V (4 * c + k) < mnc V c k then V (4 * c + k) else mnc V c k
theorem mnc_le (V : Nat → Nat) (c : Nat) : ∀ n, mnc V c n ≤ 1000000
  | 0 => Nat.le_refl _
  | n + 1 => by
    have := mnc_le V c n
    unfold mnc
    split <;> omega
theorem zmin_nI {a b : Nat} (ha : a < 2 ^ 31) (hb : b < 2 ^ 31) : zmin (nI a) (nI b) = nI (if b < a then b else a) := by
  unfold zmin
  by_cases c : b < a
  · rw [if_pos c, if_pos (nI_lt c ha)]
  · rw [if_neg c, if_neg (nI_nlt (by omega) hb)]
theorem ansC {m : Nat} (h : m ≤ 1000000) : (if ¬ nI m = (1000000 : Int32) then nI m else -1) = mnAns m := by
  unfold mnAns
  by_cases c : m < 1000000
  · rw [if_pos c, if_pos (fun w => by
      have : (nI m).toInt = (1000000 : Int32).toInt := by rw [w]
      rw [nI_int (by omega), show (1000000 : Int32).toInt = 1000000 by decide] at this
      omega)]
  · rw [if_neg c, show m = 1000000 by omega]
    decide
theorem ansM {m : Nat} (h : m ≤ 1000000) : (if (1000000 : Int32) ≤ nI m then -1 else nI m) = mnAns m := by
  unfold mnAns
  by_cases c : m < 1000000
  · have hn : ¬ (1000000 : Int32) ≤ nI m := nI_ge (b := 1000000) c (by omega)
    rw [if_pos c, if_neg hn]
  · have hn : (1000000 : Int32) ≤ nI m := nI_le (a := 1000000) (b := m) (by omega) (by omega)
    rw [if_neg c, if_pos hn]
section ASKC
variable {la : Nat} {μ : zM} {L : Nat → Nat} {A : Nat}
theorem leastToTouchC {h : Bool} (hL : LC la μ L) (hO : LOk L) (hr : la + 14 < 93) (g : Grd L A μ) :
    wp (f_X0_leastToTouch 93 la (b2i h) μ) (fun p => p.1 = mnAns (mnf (Dst L A h) 144) ∧ ∀ o, o ≠ 98 → p.2 o = μ o) := by
  unfold f_X0_leastToTouch
  refine wp_bdQ (findLeastC hL hO hr g) fun μ1 ⟨f1, t1⟩ => wp_bdQ (Q := fun x => x = nI (mnf (Dst L A h) 144)) ?_ (fun x hx => wp_ls (wp_some ⟨?_, f1⟩))
  · refine wlp0 (fun n c x => f_X0_leastToTouch_L12 93 μ1 n x (nI c)) _ 144 (fun c x => x = nI (mnf (Dst L A h) c)) (by omega) (1000000 : Int32) rfl ?_ ?_
    · intro n c x hc hx ih
      have ei : nI c * (4 : Int32) + (3 : Int32) = nI (4 * c + 3) := by
        show nI c * nI 4 + nI 3 = _
        rw [pk_mul, nI_add, Nat.mul_comm]
      obtain ⟨v1, v2⟩ := t1 (4 * c + 3) (by omega)
      have v1 : μ1 (93 + 5) (4 * c + 3) = nI (Dst L A h (4 * c + 3)) := v1
      have ml := mnf_le (Dst L A h) c
      show wp (f_X0_leastToTouch_L12 93 μ1 (n + 1) x (nI c)) _
      rw [f_X0_leastToTouch_L12, ei, nI_clamp (by omega), v1, hx, zmin_nI (by omega) (by omega), nI_1]
      exact wp_ie (nI_ge (b := 144) hc (by omega)) (wp_g (zin_nI (by omega) (by omega)) (wp_ls (wp_ls (ih _ rfl))))
    · intro n x hx
      show wp (f_X0_leastToTouch_L12 93 μ1 (n + 1) x (nI 144)) _
      rw [f_X0_leastToTouch_L12]
      exact wp_it (nI_le (a := 144) (Nat.le_refl _) (by omega)) (wp_some hx)
  · have ml := mnf_le (Dst L A h) 144
    generalize mnf (Dst L A h) 144 = m at hx ml ⊢
    rw [hx]
    exact ansC ml
theorem leastToLieC {x y : Nat} (hL : LC la μ L) (hO : LOk L) (hr : la + 14 < 93) (g : Grd L A μ) (hx : x < L 0) (hy : y < L 1) :
    wp (f_X0_leastToLie 93 la (nI x) (nI y) μ) (fun p => p.1 = mnAns (mnc (Dst L A false) (12 * y + x) 4) ∧ ∀ o, o ≠ 98 → p.2 o = μ o) := by
  have w0 := hO.1.1.1
  have w1 := hO.1.1.2.1
  unfold f_X0_leastToLie
  refine wp_bdQ (findLeastC (h := false) hL hO hr g) fun μ1 ⟨f1, t1⟩ => wp_bdQ (Q := fun v => v = nI (mnc (Dst L A false) (12 * y + x) 4)) ?_ (fun v hv => wp_ls (wp_some ⟨?_, f1⟩))
  · refine wlp0 (fun n k v => f_X0_leastToLie_L13 93 (nI x) (nI y) μ1 n v (nI k)) _ 4 (fun k v => v = nI (mnc (Dst L A false) (12 * y + x) k)) (by omega) (1000000 : Int32) rfl ?_ ?_
    · intro n k v hk hv ih
      have ei : (f_X0_cellOf (nI x) (nI y)) * (4 : Int32) + nI k = nI (4 * (12 * y + x) + k) := by
        unfold f_X0_cellOf
        show (nI y * nI 12 + nI x) * nI 4 + nI k = _
        rw [pk_mul, nI_add, pk_mul, nI_add, Nat.mul_comm y, Nat.mul_comm _ 4]
      obtain ⟨v1, v2⟩ := t1 (4 * (12 * y + x) + k) (by omega)
      have v1 : μ1 (93 + 5) (4 * (12 * y + x) + k) = nI (Dst L A false (4 * (12 * y + x) + k)) := v1
      have ml := mnc_le (Dst L A false) (12 * y + x) k
      show wp (f_X0_leastToLie_L13 93 (nI x) (nI y) μ1 (n + 1) v (nI k)) _
      rw [f_X0_leastToLie_L13, ei, nI_clamp (by omega), v1, hv, zmin_nI (by omega) (by omega), nI_1]
      exact wp_ie (nI_ge (b := 4) hk (by omega)) (wp_g (zin_nI (by omega) (by omega)) (wp_ls (wp_ls (ih _ rfl))))
    · intro n v hv
      show wp (f_X0_leastToLie_L13 93 (nI x) (nI y) μ1 (n + 1) v (nI 4)) _
      rw [f_X0_leastToLie_L13]
      exact wp_it (nI_le (a := 4) (Nat.le_refl _) (by omega)) (wp_some hv)
  · have ml := mnc_le (Dst L A false) (12 * y + x) 4
    generalize mnc (Dst L A false) (12 * y + x) 4 = m at hv ml ⊢
    rw [hv]
    exact ansC ml
end ASKC
