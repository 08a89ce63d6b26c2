/-! trim -/
theorem nI_int {n : Nat} (h : n < 2 ^ 31) : (nI n).toInt = n := by
  have h1 := nI_clamp h
  have h2 : ¬ nI n < 0 := nI_pos h
  rw [I_lt] at h2
  unfold Int32.toNatClampNeg at h1
  have h3 : (0 : Int32).toInt = 0 := by decide
  omega
def Sb (n : Nat) (x : Int32) : Prop := -(n : Int) ≤ x.toInt ∧ x.toInt ≤ n
theorem Sb.mono {n m : Nat} {x : Int32} (h : Sb n x) (k : n ≤ m) : Sb m x := by
  unfold Sb at h ⊢
  omega
theorem Sb.nat {n m : Nat} (h : n ≤ m) (hm : m < 2 ^ 31) : Sb m (nI n) := by
  unfold Sb
  rw [nI_int (by omega)]
  omega
theorem bmod_id {x : Int} (h : -(2 ^ 31) ≤ x) (k : x < 2 ^ 31) : x.bmod (2 ^ 32) = x := Int.bmod_eq_of_le (by omega) (by omega)
theorem Sb.add {n m : Nat} {x y : Int32} (h : Sb n x) (k : Sb m y) (hb : n + m < 2 ^ 31) : Sb (n + m) (x + y) := by
  unfold Sb at h k ⊢
  rw [Int32.toInt_add, bmod_id (by omega) (by omega)]
  omega
theorem Sb.neg {n : Nat} {x : Int32} (h : Sb n x) (hb : n < 2 ^ 31) : Sb n (-x) := by
  unfold Sb at h ⊢
  rw [Int32.toInt_neg, bmod_id (by omega) (by omega)]
  omega
theorem Sb.sub {n m : Nat} {x y : Int32} (h : Sb n x) (k : Sb m y) (hb : n + m < 2 ^ 31) : Sb (n + m) (x - y) := by
  unfold Sb at h k ⊢
  rw [Int32.toInt_sub, bmod_id (by omega) (by omega)]
  omega
theorem Sb.mul {n m : Nat} {x y : Int32} (h : Sb n x) (k : Sb m y) (hb : n * m < 2 ^ 31) : Sb (n * m) (x * y) := by
  unfold Sb at h k ⊢
  have h1 : x.toInt.natAbs ≤ n := by omega
  have h2 : y.toInt.natAbs ≤ m := by omega
  have h3 : (x.toInt * y.toInt).natAbs ≤ n * m := by
    rw [Int.natAbs_mul]
    exact Nat.mul_le_mul h1 h2
  rw [Int32.toInt_mul]
  generalize x.toInt * y.toInt = z at h3 ⊢
  generalize n * m = c at h3 hb ⊢
  rw [bmod_id (by omega) (by omega)]
  omega
theorem Sb.abs {n : Nat} {x : Int32} (h : Sb n x) (hb : n < 2 ^ 31) : Sb n (zabs x) := by
  rw [← sizeM]
  unfold f_X12_size zl
  split
  · exact h
  · exact h.neg hb
theorem smSb {n m B : Nat} {f : Nat → Int32} (h : ∀ k, k < m → Sb n (f k)) (hB : m * n ≤ B) (hb : B < 2 ^ 31) : Sb B (sm m f) := by
  induction m generalizing B with
  | zero =>
    show Sb B (0 : Int32)
    exact Sb.nat (n := 0) (by omega) hb
  | succ m ih =>
    have e : (m + 1) * n = m * n + n := Nat.succ_mul m n
    have h1 : Sb (m * n) (sm m f) := ih (fun k hk => h k (by omega)) (Nat.le_refl _) (by omega)
    exact (h1.add (h m (by omega)) (by omega)).mono (by omega)
theorem Sb.lt {n m : Nat} {x : Int32} (h : Sb n x) (k : n < m) (hm : m < 2 ^ 31) : x < nI m := by
  rw [I_lt, nI_int hm]
  have := h.2
  omega
theorem armB {L : Nat → Nat} {p : Nat} {ax : Int32} (hB : LB L) (hp : p < 16) : Sb 35 (arm L p ax) := by
  have hb2 := hB.1.2.2.1
  have hb3 := hB.1.2.2.2.1
  have h1 : p % L 2 ≤ 15 := Nat.le_trans (Nat.mod_le _ _) (by omega)
  have h2 : p / L 2 ≤ 15 := Nat.le_trans (Nat.div_le_self _ _) (by omega)
  have go : ∀ q w : Nat, q ≤ 15 → w ≤ 4 → Sb 35 ((2 : Int32) * nI q + 1 - nI w) := fun q w hq hw => by
    have := (((Sb.nat (n := 2) (m := 2) (by omega) (by omega)).mul (Sb.nat (m := 15) hq (by omega)) (by omega)).add (Sb.nat (n := 1) (m := 1) (by omega) (by omega)) (by omega)).sub (Sb.nat (m := 4) hw (by omega)) (by omega)
    exact this
  unfold arm
  split
  · exact go _ _ h1 (by omega)
  · exact go _ _ h2 (by omega)
theorem glSb {L : Nat → Nat} (ax : Int32) (hB : LB L) : Sb 12600 (gl L ax) := by
  unfold gl
  have hb := hB.2.1.2.1
  refine smSb (n := 30 * 35) (fun k hk => ?_) (by omega) (by omega)
  have hg := hB.2.2.2.1 k hk
  exact (Sb.nat (m := 30) hg.2 (by omega)).mul (armB hB (by omega)) (by omega)
def tilt (L : Nat → Nat) (c : Int32) (p : Nat) : Int32 := zabs (gl L 0 + c * arm L p 0) + zabs (gl L 1 + c * arm L p 1)
theorem tilt_lt {L : Nat → Nat} {c : Int32} {p : Nat} (hB : LB L) (hc : Sb 30 c) (hp : p < 16) : tilt L c p < 1000000 := by
  have one : ∀ ax, Sb 13650 (zabs (gl L ax + c * arm L p ax)) := fun ax => ((glSb ax hB).add (hc.mul (armB hB hp) (by omega)) (by omega)).abs (by omega)
  exact ((one 0).add (one 1) (by omega)).lt (m := 1000000) (by omega) (by omega)
def pick (s : Int32) (f : Nat → Int32) : Nat → Int32 × Int32
  | 0 => (s, 1000000)
  | k + 1 => if (pick s f k).2 ≤ f k then pick s f k else (nI k, f k)
def pickR (f : Nat → Int32) : Nat → Int32 × Int32
  | 0 => (-1, 0)
  | k + 1 => if (pickR f k).1 < 0 ∨ f k < (pickR f k).2 then (nI k, f k) else pickR f k
theorem pick_eq {s : Int32} {f : Nat → Int32} {n : Nat} (h : ∀ k, k < n → f k < 1000000) (hn : n < 2 ^ 31) : n = 0 ∨ pickR f n = pick s f n ∧ ¬ (pick s f n).1 < 0 := by
  induction n with
  | zero => exact Or.inl rfl
  | succ k ih =>
    refine Or.inr ?_
    have hk := h k (by omega)
    rcases ih (fun j hj => h j (by omega)) (by omega) with rfl | ⟨h1, h2⟩
    · have e1 : pick s f 1 = (nI 0, f 0) := if_neg (show ¬ (1000000 : Int32) ≤ f 0 from Int32.not_le.mpr hk)
      have e2 : pickR f 1 = (nI 0, f 0) := if_pos (Or.inl (show (-1 : Int32) < 0 by decide))
      rw [Nat.zero_add, e1, e2]
      exact ⟨rfl, show ¬ (0 : Int32) < 0 by decide⟩
    · by_cases hc : (pick s f k).2 ≤ f k
      · have e1 : pick s f (k + 1) = pick s f k := if_pos hc
        have e2 : pickR f (k + 1) = pickR f k := if_neg (fun w => w.elim (fun u => h2 (by rw [← h1]; exact u)) (fun u => Int32.not_lt.mpr hc (by rw [← h1]; exact u)))
        rw [e1, e2]
        exact ⟨h1, h2⟩
      · have e1 : pick s f (k + 1) = (nI k, f k) := if_neg hc
        have e2 : pickR f (k + 1) = (nI k, f k) := if_pos (Or.inr (by rw [h1]; exact Int32.not_le.mp hc))
        rw [e1, e2]
        exact ⟨rfl, nI_pos (by omega)⟩
theorem tiltWithC {a : Nat} {μ : zM} {L : Nat → Nat} {c v : Int32} {p : Nat} (h : LC a μ L) (hv : v = nI p) (hp : p < 16) : f_X1_tiltWith a c v μ = some (tilt L c p) := by
  refine wp_eq ?_
  unfold f_X1_tiltWith
  refine wp_bdE (armC h hv hp) (wp_bdE (armC h hv hp) (wp_some ?_))
  rw [h.2.2.2.2.2.2.2.1.1, h.2.2.2.2.2.2.2.1.2]
  rfl
def keelF (L : Nat → Nat) (k : Nat) : Int32 := tilt L (-nI (L (57 + 2 * k))) (L (56 + 2 * k))
theorem keelC {a : Nat} {μ : zM} {L : Nat → Nat} (h : LC a μ L) : f_X1_keel a μ = some (pick (-1) (keelF L) (L 12)).1 := by
  have hB := h.2.1
  have hb := hB.2.1.2.1
  have es : μ (a + 4) 2 = nI (L 12) := h.2.2.1.2.1.2.1
  refine wp_eq ?_
  unfold f_X1_keel
  refine wp_bdQ (Q := fun x => x = (pick (-1) (keelF L) (L 12)).1) ?_ (fun x hx => wp_some hx)
  refine wlp0 (fun n k (s : Int32 × Int32) => f_X1_keel_L7 a μ n s.1 s.2 (nI k)) _ (L 12) (fun k s => s = pick (-1) (keelF L) k) (by omega) (-1, 1000000) rfl ?_ ?_
  · intro n k s hk hI ih
    show wp (f_X1_keel_L7 a μ (n + 1) s.1 s.2 (nI k)) _
    rw [f_X1_keel_L7, es]
    have hg := hB.2.2.2.1 k hk
    refine wp_ie (nI_ge hk (by omega)) (wp_bdE (gr_w h.1 hB h.2.2.1 rfl hk) (wp_bdE (gr_p h.1 hB h.2.2.1 rfl hk) (wp_bdE (tiltWithC h rfl (by omega)) (wp_l2 fun x y e => wp_ls ?_))))
    rw [nI_1]
    refine ih (x, y) ?_
    rw [e, hI]
    rfl
  · intro n s hI
    show wp (f_X1_keel_L7 a μ (n + 1) s.1 s.2 (nI (L 12))) _
    rw [f_X1_keel_L7, es]
    exact wp_it (nI_le (Nat.le_refl _) (by omega)) (wp_some (by rw [hI]))
theorem trimOfC {a m : Nat} {μ : zM} {L : Nat → Nat} (h : LC a μ L) (hm : m < L 14) : f_X1_trimOf a (nI m) μ = some (pick 0 (tilt L (nI (L (86 + 3 * m)))) (L 2 * L 3)).1 := by
  have hB := h.2.1
  have hb := pl16 hB
  refine wp_eq ?_
  unfold f_X1_trimOf
  refine wp_bdE (mo_w h.1 hB h.2.2.1 rfl hm) ?_
  generalize nI (L (86 + 3 * m)) = c
  refine wp_bdQ (Q := fun x => x = (pick 0 (tilt L c) (L 2 * L 3)).1) ?_ (fun x hx => wp_some hx)
  refine wlp0 (fun n k (s : Int32 × Int32) => f_X1_trimOf_L19 a c μ n s.1 s.2 (nI k)) _ (L 2 * L 3) (fun k s => s = pick 0 (tilt L c) k) (by omega) (0, 1000000) rfl ?_ ?_
  · intro n k s hk hI ih
    show wp (f_X1_trimOf_L19 a c μ (n + 1) s.1 s.2 (nI k)) _
    rw [f_X1_trimOf_L19, placesC h]
    refine wp_ie (nI_ge hk (by omega)) (wp_bdE (tiltWithC h rfl (by omega)) (wp_l2 fun x y e => wp_ls ?_))
    rw [nI_1]
    refine ih (x, y) ?_
    rw [e, hI]
    rfl
  · intro n s hI
    show wp (f_X1_trimOf_L19 a c μ (n + 1) s.1 s.2 (nI (L 2 * L 3))) _
    rw [f_X1_trimOf_L19, placesC h]
    exact wp_it (nI_le (Nat.le_refl _) (by omega)) (wp_some (by rw [hI]))
theorem sm_but {g : Nat → Int32} {k : Nat} : ∀ n, n < 2 ^ 31 → k < 2 ^ 31 → sm n (fun j => if nI j = nI k then 0 else g j) = sm n g - (if k < n then g k else 0)
  | 0, _, _ => by
    rw [if_neg (by omega)]
    show (0 : Int32) = 0 - 0
    decide
  | n + 1, h1, h2 => by
    show sm n (fun j => if nI j = nI k then 0 else g j) + (if nI n = nI k then 0 else g n) = (sm n g + g n) - _
    rw [sm_but n (by omega) h2]
    by_cases e : n = k
    · subst e
      rw [if_neg (by omega), if_pos rfl, if_pos (by omega)]
      grind
    · have hne : ¬ nI n = nI k := fun w => e (by rw [← nI_clamp (n := n) (by omega), w, nI_clamp h2])
      rw [if_neg hne]
      by_cases h3 : k < n
      · rw [if_pos h3, if_pos (by omega)]
        grind
      · rw [if_neg h3, if_neg (by omega)]
        grind
theorem glB_at {L : Nat → Nat} (hB : LB L) (ax : Int32) {k : Nat} (hk : k < L 12) : glB L ax (nI k) = gl L ax + -nI (L (57 + 2 * k)) * arm L (L (56 + 2 * k)) ax := by
  have hb := hB.2.1.2.1
  unfold glB gl
  rw [sm_but (g := fun k => nI (L (57 + 2 * k)) * arm L (L (56 + 2 * k)) ax) (L 12) (by omega) (by omega), if_pos hk]
  grind
section
variable {q : Nat} {μ : zM} {L : Nat → Nat}
theorem keelM (h : LM q μ L) (hB : LB L) : f_X12_keel 310 μ = some (pickR (keelF L) (L 12)).1 := by
  have hb := hB.2.1.2.1
  refine wp_eq ?_
  unfold f_X12_keel
  refine wp_bdQ (Q := fun x => x = (pickR (keelF L) (L 12)).1) ?_ (fun x hx => wp_some hx)
  refine wlp0 (fun n k (s : Int32 × Int32) => f_X12_keel_L6 310 μ n s.1 s.2 (nI k)) _ (L 12) (fun k s => s = pickR (keelF L) k) (by omega) (-1, 0) rfl ?_ ?_
  · intro n k s hk hI ih
    show wp (f_X12_keel_L6 310 μ (n + 1) s.1 s.2 (nI k)) _
    rw [f_X12_keel_L6]
    refine wp_bdE (ofM 12 h rfl (by omega)) (wp_ie (nI_ge hk (by omega)) (wp_bdE (glM h hB) (wp_bdE (glM h hB) (wp_ls (wp_l2 fun x y e => wp_ls ?_)))))
    rw [nI_1]
    refine ih (x, y) ?_
    rw [glB_at hB _ hk, glB_at hB _ hk, sizeM, sizeM] at e
    rw [e, hI]
    rfl
  · intro n s hI
    show wp (f_X12_keel_L6 310 μ (n + 1) s.1 s.2 (nI (L 12))) _
    rw [f_X12_keel_L6]
    exact wp_bdE (ofM 12 h rfl (by omega)) (wp_it (nI_le (Nat.le_refl _) (by omega)) (wp_some (by rw [hI])))
theorem trimM {v : Int32} {m : Nat} (h : LM q μ L) (hB : LB L) (hv : v - 10 = nI m) (hm : m < L 14) : f_X12_trim_L65 310 v μ zFU (-1) 0 0 = some (pickR (tilt L (nI (L (86 + 3 * m)))) (L 2 * L 3)).1 := by
  have hb := pl16 hB
  have hb5 := hB.2.1.2.2.2.1
  refine wp_eq ?_
  refine wlp0 (fun n k (s : Int32 × Int32) => f_X12_trim_L65 310 v μ n s.1 s.2 (nI k)) _ (L 2 * L 3) (fun k s => s = pickR (tilt L (nI (L (86 + 3 * m)))) k) (by omega) (-1, 0) rfl ?_ ?_
  · intro n k s hk hI ih
    show wp (f_X12_trim_L65 310 v μ (n + 1) s.1 s.2 (nI k)) _
    rw [f_X12_trim_L65, hv]
    refine wp_bdE (placesM h) (wp_ie (nI_ge hk (by omega)) (wp_bdE (ofMournerM (j := 0) h rfl rfl (by omega) (by omega)) (wp_bdE (glM h hB) (wp_bdE (armM h hB rfl (by omega)) (wp_bdE (glM h hB) (wp_bdE (armM h hB rfl (by omega)) (wp_ls (wp_l2 fun x y e => wp_ls ?_))))))))
    rw [nI_1]
    refine ih (x, y) ?_
    rw [glB_none hB, glB_none hB, sizeM, sizeM] at e
    rw [e, hI]
    rfl
  · intro n s hI
    show wp (f_X12_trim_L65 310 v μ (n + 1) s.1 s.2 (nI (L 2 * L 3))) _
    rw [f_X12_trim_L65]
    exact wp_bdE (placesM h) (wp_it (nI_le (Nat.le_refl _) (by omega)) (wp_some (by rw [hI])))
end
/-- the line that bears the most -/
def hvy (f : Nat → Int32) : Nat → Int32 × Int32
  | 0 => (0, -1)
  | k + 1 => if f k ≤ (hvy f k).2 then hvy f k else (nI k, f k)
def lix (L : Nat → Nat) (ax : Int32) (p : Nat) : Int32 := if ax = 0 then nI (p % L 2) else nI (p / L 2)
def lsum (L : Nat → Nat) (ax : Int32) (y : Nat) : Int32 := sm (L 12) (fun k => if lix L ax (L (56 + 2 * k)) = nI y then nI (L (57 + 2 * k)) else 0)
def lno (L : Nat → Nat) (ax : Int32) : Nat := if ax = 0 then L 2 else L 3
theorem linesC {a : Nat} {μ : zM} {L : Nat → Nat} (h : LC a μ L) (ax : Int32) : f_X1_lines a ax μ = nI (lno L ax) := by
  unfold lno
  by_cases e : ax = 0
  · subst e
    rw [if_pos rfl]
    exact linesC0 h
  · rw [if_neg e]
    unfold f_X1_lines zl
    rw [if_pos e, h.2.2.2.2.1]
theorem half2 {q w : Nat} (hq : q < 1000) : ((2 : Int32) * nI q + 1 - nI w + nI w - 1) / 2 = nI q := by
  have e : (2 : Int32) * nI q + 1 - nI w + nI w - 1 = nI 2 * nI q := by
    show (2 : Int32) * nI q + 1 - nI w + nI w - 1 = (2 : Int32) * nI q
    generalize (2 : Int32) * nI q = x
    generalize nI w = y
    grind
  rw [e, pk_mul]
  show nI (2 * q) / nI 2 = nI q
  rw [pk_div (by omega) (by omega) (by omega)]
  congr 1
  omega
theorem lineOfC {a p : Nat} {μ : zM} {L : Nat → Nat} {v ax : Int32} (h : LC a μ L) (hv : v = nI p) (hp : p < 16) : f_X1_lineOf a v ax μ = some (lix L ax p) := by
  have hB := h.2.1
  refine wp_eq ?_
  unfold f_X1_lineOf
  refine wp_bdE (armC h hv hp) (wp_some ?_)
  rw [linesC h]
  unfold arm lno lix
  have h1 : p % L 2 ≤ 15 := Nat.le_trans (Nat.mod_le _ _) (by omega)
  have h2 : p / L 2 ≤ 15 := Nat.le_trans (Nat.div_le_self _ _) (by omega)
  by_cases e : ax = 0
  · rw [if_pos e, if_pos e, if_pos e]
    exact half2 (by omega)
  · rw [if_neg e, if_neg e, if_neg e]
    exact half2 (by omega)
theorem heavyC {a : Nat} {μ : zM} {L : Nat → Nat} {ax : Int32} (h : LC a μ L) : f_X1_heaviestLine a ax μ = some (hvy (lsum L ax) (lno L ax)).1 := by
  have hB := h.2.1
  have hb := hB.2.1.2.1
  have hb2 := hB.1.2.2.1
  have hb3 := hB.1.2.2.2.1
  have hl : lno L ax ≤ 4 := by
    unfold lno
    split <;> omega
  have es : μ (a + 4) 2 = nI (L 12) := h.2.2.1.2.1.2.1
  refine wp_eq ?_
  unfold f_X1_heaviestLine
  refine wp_bdQ (Q := fun x => x = (hvy (lsum L ax) (lno L ax)).1) ?_ (fun x hx => wp_some hx)
  refine wlp0 (fun n k (s : Int32 × Int32) => f_X1_heaviestLine_L7 a ax μ n s.1 s.2 (nI k)) _ (lno L ax) (fun k s => s = hvy (lsum L ax) k) (by omega) (0, -1) rfl ?_ ?_
  · intro n k s hk hI ih
    show wp (f_X1_heaviestLine_L7 a ax μ (n + 1) s.1 s.2 (nI k)) _
    rw [f_X1_heaviestLine_L7, linesC h]
    refine wp_ie (nI_ge hk (by omega)) (wp_bdQ (Q := fun x => x = lsum L ax k) ?_ ?_)
    · refine wlp0 (fun m j x => f_X1_heaviestLine_L23 a ax s.1 s.2 (nI k) μ m x (nI j)) _ (L 12) (fun j x => x = sm j (fun k' => if lix L ax (L (56 + 2 * k')) = nI k then nI (L (57 + 2 * k')) else 0)) (by omega) 0 rfl ?_ ?_
      · intro m j x hj hx ihx
        show wp (f_X1_heaviestLine_L23 a ax s.1 s.2 (nI k) μ (m + 1) x (nI j)) _
        rw [f_X1_heaviestLine_L23, es]
        have hg := hB.2.2.2.1 j hj
        refine wp_ie (nI_ge hj (by omega)) (wp_bdE (gr_p h.1 hB h.2.2.1 rfl hj) (wp_bdE (lineOfC h rfl (by omega)) ?_))
        by_cases hc : lix L ax (L (56 + 2 * j)) = nI k
        · refine wp_bd (wp_ie (fun w => w hc) (wp_bdE (gr_w h.1 hB h.2.2.1 rfl hj) (wp_ls (wp_some (wp_ls ?_)))))
          rw [nI_1]
          refine ihx _ ?_
          rw [hx]
          show _ = sm j _ + (if _ then _ else _)
          rw [if_pos hc]
        · refine wp_bd (wp_it hc (wp_some (wp_ls ?_)))
          rw [nI_1]
          refine ihx _ ?_
          rw [hx]
          show _ = sm j _ + (if _ then _ else _)
          rw [if_neg hc, Int32.add_zero]
      · intro m x hx
        show wp (f_X1_heaviestLine_L23 a ax s.1 s.2 (nI k) μ (m + 1) x (nI (L 12))) _
        rw [f_X1_heaviestLine_L23, es]
        exact wp_it (nI_le (Nat.le_refl _) (by omega)) (wp_some hx)
    · intro x hx
      refine wp_l2 fun u w e => wp_ls ?_
      rw [nI_1]
      refine ih (u, w) ?_
      rw [e, hI, hx]
      rfl
  · intro n s hI
    show wp (f_X1_heaviestLine_L7 a ax μ (n + 1) s.1 s.2 (nI (lno L ax))) _
    rw [f_X1_heaviestLine_L7, linesC h]
    exact wp_it (nI_le (Nat.le_refl _) (by omega)) (wp_some (by rw [hI]))
section
variable {q : Nat} {μ : zM} {L : Nat → Nat}
theorem heavyM {v ax : Int32} (h : LM q μ L) (hB : LB L) (hv : (v = 0 ∧ ax = 1) ∨ (v = 1 ∧ ax = 0)) : f_X12_heaviest 310 v μ = some (hvy (lsum L ax) (lno L ax)).1 := by
  have hb := hB.2.1.2.1
  have hb2 := hB.1.2.2.1
  have hb3 := hB.1.2.2.2.1
  have hl : lno L ax ≤ 4 := by
    unfold lno
    split <;> omega
  have lim : ∀ P : Int32 → Prop, P (nI (lno L ax)) → wp (if v = 0 then zbd (f_X12_of 310 (3 : Int32) μ) fun r8 => some r8 else zbd (f_X12_of 310 (2 : Int32) μ) fun r9 => some r9) P := fun P hP => by
    rcases hv with ⟨rfl, rfl⟩ | ⟨rfl, rfl⟩
    · exact wp_it rfl (wp_bdE (ofM 3 h rfl (by omega)) (wp_some hP))
    · exact wp_ie (by decide) (wp_bdE (ofM 2 h rfl (by omega)) (wp_some hP))
  have lin : ∀ (p : Nat) (P : Int32 → Prop), p < 16 → P (lix L ax p) → wp (if v = 0 then zbd (f_X12_of 310 (2 : Int32) μ) fun r21 => zg (znz r21) <| some (nI p / r21) else zbd (f_X12_of 310 (2 : Int32) μ) fun r23 => zg (znz r23) <| some (nI p % r23)) P := fun p P hp hP => by
    rcases hv with ⟨rfl, rfl⟩ | ⟨rfl, rfl⟩
    · refine wp_it rfl (wp_bdE (ofM 2 h rfl (by omega)) (wp_g (znz_nI (by omega) (by omega)) (wp_some ?_)))
      rw [pk_div (by omega) (by omega) (by omega)]
      exact hP
    · refine wp_ie (by decide) (wp_bdE (ofM 2 h rfl (by omega)) (wp_g (znz_nI (by omega) (by omega)) (wp_some ?_)))
      rw [nI_rem (by omega) (by omega) (by omega)]
      exact hP
  refine wp_eq ?_
  unfold f_X12_heaviest
  refine wp_bdQ (Q := fun x => x = (hvy (lsum L ax) (lno L ax)).1) ?_ (fun x hx => wp_some hx)
  refine wlp0 (fun n k (s : Int32 × Int32) => f_X12_heaviest_L7 310 v μ n s.1 s.2 (nI k)) _ (lno L ax) (fun k s => s = hvy (lsum L ax) k) (by omega) (0, -1) rfl ?_ ?_
  · intro n k s hk hI ih
    show wp (f_X12_heaviest_L7 310 v μ (n + 1) s.1 s.2 (nI k)) _
    rw [f_X12_heaviest_L7]
    refine wp_bd (lim _ (wp_ie (nI_ge hk (by omega)) (wp_bdQ (Q := fun x => x = lsum L ax k) ?_ ?_)))
    · refine wlp0 (fun m j x => f_X12_heaviest_L35 310 v s.1 s.2 (nI k) μ m x (nI j)) _ (L 12) (fun j x => x = sm j (fun k' => if lix L ax (L (56 + 2 * k')) = nI k then nI (L (57 + 2 * k')) else 0)) (by omega) 0 rfl ?_ ?_
      · intro m j x hj hx ihx
        show wp (f_X12_heaviest_L35 310 v s.1 s.2 (nI k) μ (m + 1) x (nI j)) _
        rw [f_X12_heaviest_L35]
        have hg := hB.2.2.2.1 j hj
        refine wp_bdE (ofM 12 h rfl (by omega)) (wp_ie (nI_ge hj (by omega)) (wp_bdE (ofM (56 + 2 * j) h (lin1 56 2 j) (by omega)) (wp_bd (lin _ _ (by omega) ?_))))
        by_cases hc : lix L ax (L (56 + 2 * j)) = nI k
        · refine wp_bd (wp_ie (fun w => w hc) (wp_bdE (ofM (57 + 2 * j) h ((lin2 56 2 j 1).trans (by rw [show 56 + 2 * j + 1 = 57 + 2 * j by omega])) (by omega)) (wp_some (wp_ls (wp_ls ?_)))))
          rw [nI_1]
          refine ihx _ ?_
          rw [hx]
          show _ = sm j _ + (if _ then _ else _)
          rw [if_pos hc]
        · refine wp_bd (wp_it hc (wp_some (wp_ls (wp_ls ?_))))
          rw [nI_1]
          refine ihx _ ?_
          rw [hx]
          show _ = sm j _ + (if _ then _ else _)
          rw [if_neg hc]
      · intro m x hx
        show wp (f_X12_heaviest_L35 310 v s.1 s.2 (nI k) μ (m + 1) x (nI (L 12))) _
        rw [f_X12_heaviest_L35]
        exact wp_bdE (ofM 12 h rfl (by omega)) (wp_it (nI_le (Nat.le_refl _) (by omega)) (wp_some hx))
    · intro x hx
      refine wp_ls (wp_ls (wp_ls ?_))
      rw [nI_1]
      refine ih (if x ≤ s.2 then s.1 else nI k, if x ≤ s.2 then s.2 else x) ?_
      rw [hI, hx]
      show _ = (if lsum L ax k ≤ (hvy (lsum L ax) k).2 then hvy (lsum L ax) k else (nI k, lsum L ax k))
      by_cases hc : lsum L ax k ≤ (hvy (lsum L ax) k).2
      · rw [if_pos hc, if_pos hc, if_pos hc]
      · rw [if_neg hc, if_neg hc, if_neg hc]
  · intro n s hI
    show wp (f_X12_heaviest_L7 310 v μ (n + 1) s.1 s.2 (nI (lno L ax))) _
    rw [f_X12_heaviest_L7]
    exact wp_bd (lim _ (wp_it (nI_le (Nat.le_refl _) (by omega)) (wp_some (by rw [hI]))))
end
theorem trim_same (v1 v2 : Int32) : Same (vM (f_X11_trim 0 v1 v2)) (f_X12_trim 310 v1 v2) := by
  refine Same.ofV fun μ hI => ?_
  rcases lake_cases hI v1 with ⟨k, L, hk, hL, e1, e2⟩ | ⟨e1, e2⟩
  · have z1 : zgn (6 + 15 * k) 1 = true := by unfold zgn; rw [zlk_kd k hk]; rfl
    have l2 : LM (610 + 109 * k) (zup μ 310 10 (nI (610 + 109 * k))) L := ⟨by omega, zup_self _ _ _ _, fun i hi => by rw [zup_ne (by omega)]; exact hL.2.2 i hi⟩
    have hO := hL.1
    have hB := hO.1
    have hC := hL.2.1
    have kp : KP μ (zup μ 310 10 (nI (610 + 109 * k))) := zup310.kp
    have one : ¬ (1 : Int32) = 0 := by decide
    by_cases c0 : v2 = 0
    · subst c0
      refine ⟨(hvy (lsum L 1) (lno L 1)).1, ?_, ?_⟩
      · refine wp_eq ?_
        unfold f_X11_trim
        refine wp_bdE e1 (wp_cs (wp_g z1 (wp_ie (fun w => w.1 rfl) ?_)))
        rw [show (1 : Int32) - 0 = 1 by decide]
        exact wp_bdE (heavyC hC) (wp_some rfl)
      · unfold f_X12_trim
        exact wp_bd2 (wp_of (e2 μ rfl) (wp_it one (wp_ie (fun w => w.1 rfl) (wp_ls (wp_bdE (heavyM (ax := 1) l2 hB (Or.inl ⟨by decide, rfl⟩)) (wp_some ⟨rfl, kp⟩))))))
    · by_cases c1 : v2 = 1
      · subst c1
        refine ⟨(hvy (lsum L 0) (lno L 0)).1, ?_, ?_⟩
        · refine wp_eq ?_
          unfold f_X11_trim
          refine wp_bdE e1 (wp_cs (wp_g z1 (wp_ie (fun w => w.2 rfl) ?_)))
          rw [show (1 : Int32) - 1 = 0 by decide]
          exact wp_bdE (heavyC hC) (wp_some rfl)
        · unfold f_X12_trim
          exact wp_bd2 (wp_of (e2 μ rfl) (wp_it one (wp_ie (fun w => w.2 rfl) (wp_ls (wp_bdE (heavyM (ax := 0) l2 hB (Or.inr ⟨by decide, rfl⟩)) (wp_some ⟨rfl, kp⟩))))))
      · by_cases c2 : v2 = 2
        · subst c2
          refine ⟨(pick (-1) (keelF L) (L 12)).1, ?_, ?_⟩
          · refine wp_eq ?_
            unfold f_X11_trim
            exact wp_bdE e1 (wp_cs (wp_g z1 (wp_it ⟨c0, c1⟩ (wp_ie (fun w => w rfl) (wp_bdE (keelC hC) (wp_some rfl))))))
          · unfold f_X12_trim
            refine wp_bd2 (wp_of (e2 μ rfl) (wp_it one (wp_it ⟨c0, c1⟩ (wp_ie (fun w => w rfl) (wp_bdE (keelM l2 hB) (wp_some ⟨?_, kp⟩))))))
            have hb := hB.2.1.2.1
            rcases pick_eq (s := -1) (f := keelF L) (n := L 12) (fun j hj => by
              have hg := hB.2.2.2.1 j hj
              exact tilt_lt hB ((Sb.nat (m := 30) hg.2 (by omega)).neg (by omega)) (by omega)) (by omega) with e | ⟨e, -⟩
            · rw [e]
              rfl
            · rw [e]
        · by_cases c3 : isMo L (v2 - 10) = true
          · obtain ⟨m, hm, em⟩ := isMo_of hB c3
            have hb5 := hB.2.1.2.2.2.1
            refine ⟨(pick 0 (tilt L (nI (L (86 + 3 * m)))) (L 2 * L 3)).1, ?_, ?_⟩
            · refine wp_eq ?_
              unfold f_X11_trim
              refine wp_bdE e1 (wp_cs (wp_g z1 (wp_it ⟨c0, c1⟩ (wp_it c2 ?_))))
              rw [show f_X6_has (6 + 15 * k + 8) (v2 - 10) μ = b2i (isMo L (v2 - 10)) from hasMoC hC, c3, em]
              have h10 : ¬ v2 < 10 := by
                have e : v2 = nI (m + 10) := by
                  rw [← nI_add, ← em]
                  show v2 = v2 - 10 + 10
                  grind
                rw [e]
                exact Int32.not_lt.mpr (nI_le (a := 10) (by omega) (by omega))
              exact wp_bd (wp_it ⟨h10, by decide⟩ (wp_bdE (trimOfC hC hm) (wp_some (wp_some rfl))))
            · unfold f_X12_trim
              refine wp_bd2 (wp_of (e2 μ rfl) (wp_it one (wp_it ⟨c0, c1⟩ (wp_it c2 (wp_bdE (isMournerM l2 hB) ?_)))))
              rw [c3]
              refine wp_it (by decide) (wp_bdE (trimM l2 hB em hm) (wp_some ⟨?_, kp⟩))
              have hw := hB.2.2.2.2.2.1 m hm
              have hp := pl16 hB
              have hb2 := hB.1.2.2.1
              have hb3 := hB.1.2.2.2.1
              have h1 : 1 * 1 ≤ L 2 * L 3 := Nat.mul_le_mul (by omega) (by omega)
              rcases pick_eq (s := 0) (f := tilt L (nI (L (86 + 3 * m)))) (n := L 2 * L 3) (fun j hj => tilt_lt hB (Sb.nat (m := 30) (by omega) (by omega)) (by omega)) (by omega) with e | ⟨e, -⟩
              · omega
              · rw [e]
          · have c3 : isMo L (v2 - 10) = false := by
              cases hh : isMo L (v2 - 10)
              · rfl
              · exact absurd hh c3
            refine ⟨-1, ?_, ?_⟩
            · refine wp_eq ?_
              unfold f_X11_trim
              refine wp_bdE e1 (wp_cs (wp_g z1 (wp_it ⟨c0, c1⟩ (wp_it c2 ?_))))
              rw [show f_X6_has (6 + 15 * k + 8) (v2 - 10) μ = b2i (isMo L (v2 - 10)) from hasMoC hC, c3]
              exact wp_bd (wp_ie (fun w => w.2 (by decide)) (wp_some (wp_some rfl)))
            · unfold f_X12_trim
              refine wp_bd2 (wp_of (e2 μ rfl) (wp_it one (wp_it ⟨c0, c1⟩ (wp_it c2 (wp_bdE (isMournerM l2 hB) ?_)))))
              rw [c3]
              exact wp_ie (by decide) (wp_some ⟨rfl, kp⟩)
  · refine ⟨-1, ?_, ?_⟩
    · refine wp_eq ?_
      unfold f_X11_trim
      exact wp_bdE e1 (wp_cn (wp_some rfl))
    · unfold f_X12_trim
      exact wp_bd2 (wp_of (e2 μ rfl) (wp_ie (fun w => w rfl) (wp_some ⟨rfl, KP.rf μ⟩)))
