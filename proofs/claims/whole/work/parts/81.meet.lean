/-! meet: two rafts in one water -/
/-- a raft lies somewhere near the water -/
def WP (S : Nat → Int32) : Prop := ∃ x y : Nat, S 0 = nI x ∧ S 1 = nI y ∧ x ≤ 11 ∧ y ≤ 11
theorem SP.wp {W B : Nat → Nat} {S : Nat → Int32} (hW : LB W) (hB : LB B) (h : SP W B S) : WP S := by
  obtain ⟨x, y, h0, h1, h2⟩ := h
  have := clB_le hW hB h2
  exact ⟨x, y, h0, h1, this.1, this.2⟩
section MOVEW
variable {r la wa : Nat} {μ : zM} {W B : Nat → Nat} {S : Nat → Int32}
theorem smoveX_WP {dx : Int32} (hW : LB W) (hB : LB B) (hd : dx = 0 ∨ dx = 1 ∨ dx = -1) (h : WP S) : WP (smoveX W B dx S) := by
  obtain ⟨x, y, h0, h1, h2, h3⟩ := h
  unfold smoveX
  split
  · exact ⟨x, y, h0, h1, h2, h3⟩
  · split
    · rename_i hc
      refine SP.wp hW hB (canL_SP (x := S 0 + dx) (y := S 1) (by rw [h0]; exact crd_step h2 hd) (by rw [h1]; exact Or.inr ⟨y, by omega, rfl⟩) hc (su_self _ _ _) (su_ne (by omega)))
    · exact ⟨x, y, by rw [su_ne (by omega)]; exact h0, by rw [su_ne (by omega)]; exact h1, h2, h3⟩
theorem smoveY_WP {dy : Int32} (hW : LB W) (hB : LB B) (hd : dy = 0 ∨ dy = 1 ∨ dy = -1) (h : WP S) : WP (smoveY W B dy S) := by
  obtain ⟨x, y, h0, h1, h2, h3⟩ := h
  unfold smoveY
  split
  · exact ⟨x, y, h0, h1, h2, h3⟩
  · split
    · rename_i hc
      refine SP.wp hW hB (canL_SP (x := S 0) (y := S 1 + dy) (by rw [h0]; exact Or.inr ⟨x, by omega, rfl⟩) (by rw [h1]; exact crd_step h3 hd) hc (su_ne (by omega)) (su_self _ _ _))
    · exact ⟨x, y, by rw [su_ne (by omega)]; exact h0, by rw [su_ne (by omega)]; exact h1, h2, h3⟩
theorem moveW {dx dy : Int32} (h : RC r μ la wa S) (hL : LC la μ B) (hW : LC wa μ W) (hr : (r < la ∨ la + 14 < r) ∧ (r < wa ∨ wa + 14 < r)) (hd : dx = 0 ∨ dx = 1 ∨ dx = -1) (hd2 : dy = 0 ∨ dy = 1 ∨ dy = -1) (hP : WP S) :
    wp (f_X4_move r dx dy μ) (fun μ' => RC r μ' la wa (smove W B dx dy S) ∧ ∀ o, o ≠ r → μ' o = μ o) := by
  have kl := zkd_31 hL.1 (by omega)
  have kw := zkd_31 hW.1 (by omega)
  have hX : wp (if dx = 0 then some μ else zg (zgk (μ r 1) 1) <| zg (zgk (μ r 0) 1) <| zbd (f_X1_floats ((μ r 1).toNatClampNeg) ((μ r 0).toNatClampNeg) ((μ r 2) + dx) (μ r 3) μ) fun r15 => if r15 = 0 then zl (zup μ r 5 ((μ r 5) + (1 : Int32))) fun μ17 => some μ17 else zl (zup μ r 2 ((μ r 2) + dx)) fun μ18 => some μ18)
      (fun μ' => RC r μ' la wa (smoveX W B dx S) ∧ ∀ o, o ≠ r → μ' o = μ o) := by
    refine wp_if (fun c => wp_some ?_) (fun c => ?_)
    · unfold smoveX
      rw [if_pos c]
      exact ⟨h, fun _ _ => rfl⟩
    · obtain ⟨x, y, h0, h1, h2, h3⟩ := hP
      have e0 : μ r 2 = S 0 := h.f 0 (by omega)
      have e1 : μ r 3 = S 1 := h.f 1 (by omega)
      have e3 : μ r 5 = S 3 := h.f 3 (by omega)
      rw [h.1, h.2.1, e0, e1, e3, nI_clamp kl, nI_clamp kw]
      refine wp_g (zgk_nI hW.1 (by omega)) (wp_g (zgk_nI hL.1 (by omega)) (wp_bdE (floats_eq hW hL (by rw [h0]; exact crd_step h2 hd) (by rw [h1]; exact Or.inr ⟨y, by omega, rfl⟩)) ?_))
      unfold smoveX
      rw [if_neg c]
      by_cases hc : canL W B (S 0 + dx) (S 1) = true
      · rw [if_pos hc, hc]
        exact wp_ie (by decide) (wp_ls (wp_some ⟨h.put (k := 0) (by omega), fun o ho => zup_rne _ _ _ ho⟩))
      · rw [if_neg hc, Bool.eq_false_iff.mpr hc]
        exact wp_it (by decide) (wp_ls (wp_some ⟨h.put (k := 3) (by omega), fun o ho => zup_rne _ _ _ ho⟩))
  have hP1 := smoveX_WP hW.2.1 hL.2.1 hd hP
  unfold f_X4_move
  refine wp_bdQ hX fun μ1 ⟨h1, f1⟩ => ?_
  have hL1 : LC la μ1 B := hL.congr (fun o o1 o2 => f1 o (by omega))
  have hW1 : LC wa μ1 W := hW.congr (fun o o1 o2 => f1 o (by omega))
  unfold smove
  generalize smoveX W B dx S = S1 at h1 hP1
  refine wp_bdQ (Q := fun μ' => RC r μ' la wa (smoveY W B dy S1) ∧ ∀ o, o ≠ r → μ' o = μ o) ?_ (fun μ2 hμ => wp_some hμ)
  refine wp_if (fun c => wp_some ?_) (fun c => ?_)
  · unfold smoveY
    rw [if_pos c]
    exact ⟨h1, f1⟩
  · obtain ⟨x, y, h0, hy1, h2, h3⟩ := hP1
    have e0 : μ1 r 2 = S1 0 := h1.f 0 (by omega)
    have e1 : μ1 r 3 = S1 1 := h1.f 1 (by omega)
    have e3 : μ1 r 5 = S1 3 := h1.f 3 (by omega)
    rw [h1.1, h1.2.1, e0, e1, e3, nI_clamp kl, nI_clamp kw]
    refine wp_g (zgk_nI hW.1 (by omega)) (wp_g (zgk_nI hL.1 (by omega)) (wp_bdE (floats_eq hW1 hL1 (by rw [h0]; exact Or.inr ⟨x, by omega, rfl⟩) (by rw [hy1]; exact crd_step h3 hd2)) ?_))
    unfold smoveY
    rw [if_neg c]
    by_cases hc : canL W B (S1 0) (S1 1 + dy) = true
    · rw [if_pos hc, hc]
      exact wp_ie (by decide) (wp_ls (wp_some ⟨h1.put (k := 1) (by omega), fun o ho => by rw [zup_rne _ _ _ ho]; exact f1 o ho⟩))
    · rw [if_neg hc, Bool.eq_false_iff.mpr hc]
      exact wp_it (by decide) (wp_ls (wp_some ⟨h1.put (k := 3) (by omega), fun o ho => by rw [zup_rne _ _ _ ho]; exact f1 o ho⟩))
theorem smove_at01 {d e : Int32} {k : Nat} (h0 : k ≠ 0) (h1 : k ≠ 1) (h3 : k ≠ 3) : smove W B d e S k = S k := smove_at h0 h1 h3
end MOVEW
/-- a raft with nobody aboard drifts in another one's water -/
def mfl (W B : Nat → Nat) (S : Nat → Int32) : Nat → Int32 := smove W B (leanS B (gl B 0)) (leanS B (gl B 1)) S
def mfls (W B : Nat → Nat) : Nat → Nat → Int32
  | 0 => sbegin W B
  | n + 1 => mfl W B (mfls W B n)
theorem lean_dir (B : Nat → Nat) (x : Int32) : leanS B x = 0 ∨ leanS B x = 1 ∨ leanS B x = -1 := by
  unfold leanS
  split
  · exact dir_cases x
  · exact Or.inl rfl
theorem sgn_lean (B : Nat → Nat) (x : Int32) : sgn (leanS B x) = leanS B x := by
  rcases lean_dir B x with h | h | h <;> rw [h] <;> decide
theorem mfls_at {W B : Nat → Nat} {k : Nat} (h0 : k ≠ 0) (h1 : k ≠ 1) (h3 : k ≠ 3) : ∀ n, mfls W B n k = sbegin W B k
  | 0 => rfl
  | n + 1 => by
    show mfl W B (mfls W B n) k = _
    unfold mfl
    rw [smove_at h0 h1 h3]
    exact mfls_at h0 h1 h3 n
theorem sbegin_ashore {W B : Nat → Nat} {m : Nat} (h : m < 5) : sbegin W B (20 + m) = -1 := by
  unfold sbegin
  rw [if_neg (by omega), if_neg (by omega), if_neg (by omega), if_neg (by omega), if_pos (by omega)]
theorem sbegin_dry {W B : Nat → Nat} {m : Nat} (h : m < 16) : sbegin W B (30 + m) = 0 := by
  unfold sbegin
  rw [if_neg (by omega), if_neg (by omega), if_neg (by omega), if_neg (by omega), if_neg (by omega)]
theorem sm_0 {n : Nat} {f : Nat → Int32} (h : ∀ k, k < n → f k = 0) : sm n f = 0 := by
  induction n with
  | zero => rfl
  | succ n ih =>
    show sm n f + f n = 0
    rw [ih (fun k hk => h k (by omega)), h n (by omega), Int32.add_zero]
theorem slist_none {B : Nat → Nat} {S : Nat → Int32} {ax : Int32} (hs : ∀ m, m < 5 → S (20 + m) = -1) (hw : ∀ p, p < 16 → S (30 + p) = 0) : slist B S ax = gl B ax := by
  unfold slist
  rw [sm_0 (n := 5) (fun m hm => if_pos (hs m hm)), sm_0 (n := 16) (fun p hp => by rw [hw p hp, Int32.zero_mul]), Int32.add_zero, Int32.add_zero]
theorem sdrift_none {W B : Nat → Nat} {ax : Int32} (n : Nat) : sdrift B (mfls W B n) ax = leanS B (gl B ax) := by
  unfold sdrift
  rw [slist_none (fun m hm => (mfls_at (by omega) (by omega) (by omega) n).trans (sbegin_ashore hm)) (fun p hp => (mfls_at (by omega) (by omega) (by omega) n).trans (sbegin_dry hp)), mfls_at (k := 8) (by omega) (by omega) (by omega) n]
  unfold sblown
  rw [if_neg (fun w => w.1 rfl), Int32.add_zero]
  exact sgn_lean B _
theorem mfls_WP {W B : Nat → Nat} (hW : LB W) (hB : LB B) (h0 : B 4 ≤ 11 ∧ B 5 ≤ 11) : ∀ n, WP (mfls W B n)
  | 0 => ⟨B 4, B 5, rfl, rfl, h0.1, h0.2⟩
  | n + 1 => smoveY_WP hW hB (lean_dir _ _) (smoveX_WP hW hB (lean_dir _ _) (mfls_WP hW hB h0 n))
theorem floatW {r la wa n : Nat} {μ : zM} {W B : Nat → Nat} (h : RC r μ la wa (mfls W B n)) (hL : LC la μ B) (hW : LC wa μ W) (hr : la + 14 < r ∧ wa + 14 < r) (hM : SM B (mfls W B n)) (hP : WP (mfls W B n)) : wp (f_X4_floatOn r μ) (fun μ' => RC r μ' la wa (mfls W B (n + 1)) ∧ F3 r μ μ') := by
  unfold f_X4_floatOn
  refine wp_bdE (driftC h hL hM) (wp_bdE (driftC h hL hM) ?_)
  rw [sdrift_none, sdrift_none]
  exact wp_bdQ (moveW h hL hW (by omega) (lean_dir _ _) (lean_dir _ _) hP) fun μ' hμ => wp_some ⟨hμ.1, fun o h0 _ _ => hμ.2 o h0⟩
theorem mfls_SM {W B : Nat → Nat} (n : Nat) : SM B (mfls W B n) := fun m hm => Or.inl ((mfls_at (by omega) (by omega) (by omega) n).trans (sbegin_ashore hm))
/-- what lies between -/
def ngap (x a o b : Nat) : Nat := if x + a ≤ o then o - x - a + 1 else if o + b ≤ x then x - o - b + 1 else 0
def nrB (A B : Nat → Nat) (S T : Nat → Int32) (v : Int32) : Bool := decide (ngap (S 0).toNatClampNeg (A 2) (T 0).toNatClampNeg (B 2) + ngap (S 1).toNatClampNeg (A 3) (T 1).toNatClampNeg (B 3) ≤ if v = 0 then 0 else 1)
theorem sub2 (u v w : Int32) : u - v - w = u - (v + w) := by grind
theorem gap1 {x a o : Nat} (hx : x ≤ 11) (ha : a ≤ 4) (ho : o ≤ 11) : ((nI o - nI x) - nI a).toInt = (o : Int) - x - a := by
  rw [sub2, nI_add, pk_sub_toInt (by omega) (by omega)]
  omega
theorem gapI {x a o b : Nat} (hx : x ≤ 11) (ha : a ≤ 4) (ho : o ≤ 11) (hb : b ≤ 4) : (zmax ((nI o - nI x) - nI a) ((nI x - nI o) - nI b)).toInt = if (o : Int) - x - a < (x : Int) - o - b then (x : Int) - o - b else (o : Int) - x - a := by
  have h1 := gap1 hx ha ho
  have h2 := gap1 ho hb hx
  by_cases c : ((nI o - nI x) - nI a) < ((nI x - nI o) - nI b)
  · have e : zmax ((nI o - nI x) - nI a) ((nI x - nI o) - nI b) = ((nI x - nI o) - nI b) := if_pos c
    rw [I_lt, h1, h2] at c
    rw [e, if_pos c, h2]
  · have e : zmax ((nI o - nI x) - nI a) ((nI x - nI o) - nI b) = ((nI o - nI x) - nI a) := if_neg c
    rw [I_lt, h1, h2] at c
    rw [e, if_neg c, h1]
theorem add_small {u v : Int32} (hu : -100 ≤ u.toInt ∧ u.toInt ≤ 100) (hv : -100 ≤ v.toInt ∧ v.toInt ≤ 100) : (u + v).toInt = u.toInt + v.toInt := by
  rw [Int32.toInt_add]
  exact Int.bmod_eq_of_le (by omega) (by omega)
theorem I_0 : (0 : Int32).toInt = 0 := by decide
theorem isByC {la lb wa wb : Nat} {μ : zM} {A B : Nat → Nat} {S T : Nat → Int32} {v : Int32} (h : RC 87 μ la wa S) (hA : LC la μ A) (k : RC 90 μ lb wb T) (hB : LC lb μ B) (hS : WP S) (hT : WP T) :
    wp (f_X4_isBy 87 90 v μ) (fun r => r = 1 ∧ nrB A B S T v = true ∨ r = 0 ∧ ¬ nrB A B S T v = true) := by
  obtain ⟨x, y, x0, y0, x1, y1⟩ := hS
  obtain ⟨o, u, o0, u0, o1, u1⟩ := hT
  have a2 := hA.2.1.1.2.2.1
  have a3 := hA.2.1.1.2.2.2.1
  have b2 := hB.2.1.1.2.2.1
  have b3 := hB.2.1.1.2.2.2.1
  have kl := zkd_31 hA.1 (by omega)
  have kw := zkd_31 hB.1 (by omega)
  have e0 : μ 87 2 = S 0 := h.f 0 (by omega)
  have e1 : μ 87 3 = S 1 := h.f 1 (by omega)
  have e2 : μ 90 2 = T 0 := k.f 0 (by omega)
  have e3 : μ 90 3 = T 1 := k.f 1 (by omega)
  unfold f_X4_isBy
  rw [h.1, k.1, e0, e1, e2, e3, x0, y0, o0, u0, nI_clamp kl, nI_clamp kw, linesC0 hA, linesC1 hA, linesC0 hB, linesC1 hB]
  have g1 := gapI x1 a2.2 o1 b2.2
  have g2 := gapI y1 a3.2 u1 b3.2
  refine wp_g (zgk_nI hA.1 (by omega)) (wp_g (zgk_nI hB.1 (by omega)) (wp_l fun p hp => wp_l fun q hq => wp_l fun r hr => wp_some ?_))
  rw [← hp] at g1
  rw [← hq] at g2
  have gs : (p + q).toInt = p.toInt + q.toInt := add_small (by rw [g1]; split <;> omega) (by rw [g2]; split <;> omega)
  unfold nrB
  rw [x0, y0, o0, u0, nI_clamp (by omega), nI_clamp (by omega), nI_clamp (by omega), nI_clamp (by omega), decide_eq_true_eq]
  have key : ((0 ≤ p ∧ ((¬ (v = 0)) ∧ ((¬ (0 < p)) ∧ ((¬ (0 < q)) ∧ (¬ (0 ≤ (p + q))))))) ∨ ((¬ (0 ≤ p)) ∧ ((q < 0) ∨ ((¬ (v = 0)) ∧ ((¬ (0 < p)) ∧ ((¬ (0 < q)) ∧ (¬ (0 ≤ (p + q))))))))) ↔ ngap x (A 2) o (B 2) + ngap y (A 3) u (B 3) ≤ if v = 0 then 0 else 1 := by
    simp only [I_le, I_lt, I_0, gs]
    rw [g1, g2]
    unfold ngap
    clear gs g1 g2 hp hq hr
    by_cases hv : v = 0
    · rw [if_pos hv]
      simp only [hv, not_true_eq_false, false_and, and_false, or_false, false_or]
      (repeat' split) <;> omega
    · rw [if_neg hv]
      simp only [hv, not_false_eq_true, true_and]
      (repeat' split) <;> omega
  by_cases c : ngap x (A 2) o (B 2) + ngap y (A 3) u (B 3) ≤ if v = 0 then 0 else 1
  · rw [if_pos (key.mpr c)] at hr
    exact Or.inl ⟨hr, c⟩
  · rw [if_neg (fun w => c (key.mp w))] at hr
    exact Or.inr ⟨hr, c⟩
theorem gapM {x a o b : Nat} (hx : x ≤ 11) (ha : a ≤ 4) (ho : o ≤ 11) (hb : b ≤ 4) {g : Option Int32} (hg : g = some (nI a)) : wp (if nI o < (nI x + nI a) then
      if nI x < (nI o + nI b) then some (0 : Int32) else some (((nI x - nI o) - nI b) + (1 : Int32))
    else zbd g fun r6 => some (((nI o - nI x) - r6) + (1 : Int32))) (fun r => r = nI (ngap x a o b)) := by
  unfold ngap
  rw [nI_add, nI_add]
  by_cases c : x + a ≤ o
  · rw [if_pos c]
    refine wp_ie (nI_nlt c (by omega)) (wp_bdE hg (wp_some ?_))
    rw [sub2, nI_add, pk_sub c, nI_1]
    congr 2
    omega
  · rw [if_neg c]
    refine wp_it (nI_lt (by omega) (by omega)) ?_
    by_cases c2 : o + b ≤ x
    · rw [if_pos c2]
      refine wp_ie (nI_nlt c2 (by omega)) (wp_some ?_)
      rw [sub2, nI_add, pk_sub c2, nI_1]
      congr 2
      omega
    · rw [if_neg c2]
      exact wp_it (nI_lt (by omega) (by omega)) (wp_some rfl)
theorem isNearM {q : Nat} {μ : zM} {A B : Nat → Nat} {S T : Nat → Int32} {v : Int32} (h : LM q μ A) (hA : LB A) (hB : LB B) (hS : WP S) (hT : WP T) :
    wp (f_X12_isNear 310 (S 0) (S 1) (nI (B 2)) (nI (B 3)) (T 0) (T 1) v μ) (fun r => r = 1 ∧ nrB A B S T v = true ∨ r = 0 ∧ ¬ nrB A B S T v = true) := by
  obtain ⟨x, y, x0, y0, x1, y1⟩ := hS
  obtain ⟨o, u, o0, u0, o1, u1⟩ := hT
  have a2 := hA.1.2.2.1
  have a3 := hA.1.2.2.2.1
  have b2 := hB.1.2.2.1
  have b3 := hB.1.2.2.2.1
  unfold f_X12_isNear nrB
  rw [x0, y0, o0, u0, nI_clamp (by omega), nI_clamp (by omega), nI_clamp (by omega), nI_clamp (by omega), decide_eq_true_eq]
  refine wp_bdE (ofM 2 h rfl (by omega)) (wp_bdQ (gapM x1 a2.2 o1 b2.2 (ofM 2 h rfl (by omega))) fun p hp => wp_bdE (ofM 3 h rfl (by omega)) (wp_bdQ (gapM y1 a3.2 u1 b3.2 (ofM 3 h rfl (by omega))) fun q hq => wp_ls (wp_l fun r hr => wp_some ?_)))
  rw [hp, hq, nI_add] at hr
  have n1 : ngap x (A 2) o (B 2) ≤ 100 := by unfold ngap; split <;> (try split) <;> omega
  have n2 : ngap y (A 3) u (B 3) ≤ 100 := by unfold ngap; split <;> (try split) <;> omega
  have e : (if v = 0 then (0 : Int32) else 1) = nI (if v = 0 then 0 else 1) := by split <;> rfl
  rw [e] at hr
  have e2 : (if v = 0 then 0 else 1) ≤ 1 := by split <;> omega
  by_cases c : ngap x (A 2) o (B 2) + ngap y (A 3) u (B 3) ≤ if v = 0 then 0 else 1
  · rw [if_neg (nI_nlt c (by omega))] at hr
    exact Or.inl ⟨hr, c⟩
  · rw [if_pos (nI_lt (by omega) (by omega))] at hr
    exact Or.inr ⟨hr, c⟩
/-- the hour of the meeting, from one on -/
def mfd (A B : Nat → Nat) (v : Int32) : Nat → Nat → Int32
  | 0, _ => -1
  | n + 1, i => if nrB A B (sfls A (sbegin A A) i) (mfls A B i) v = true then nI i else mfd A B v n (i + 1)
theorem mfd_y {A B : Nat → Nat} {i : Nat} {v : Int32} (hi : i < 41) (h : nrB A B (sfls A (sbegin A A) i) (mfls A B i) v = true) : mfd A B v (41 - i) i = nI i := by
  rw [show 41 - i = (40 - i) + 1 by omega]
  exact if_pos h
theorem mfd_n {A B : Nat → Nat} {i : Nat} {v : Int32} (hi : i < 41) (h : ¬ nrB A B (sfls A (sbegin A A) i) (mfls A B i) v = true) : mfd A B v (41 - i) i = mfd A B v (41 - (i + 1)) (i + 1) := by
  rw [show 41 - i = (40 - i) + 1 by omega, show 41 - (i + 1) = 40 - i by omega]
  exact if_neg h
theorem sbegin_TOk {L : Nat → Nat} (hO : LOk L) : TOk L (sbegin L L) := by
  obtain ⟨hP, hM, hz, hw, -⟩ := sbegin_ok hO
  exact ⟨rfl, rfl, rfl, hM, hz, hw, hP⟩
theorem meetC {la lb : Nat} {μ : zM} {A B : Nat → Nat} {v : Int32} (hA : LC la μ A) (hB : LC lb μ B) (hO : LOk A) (hr : la + 14 < 87 ∧ lb + 14 < 87) (hS : RC 87 μ la la (sbegin A A)) (hT : RC 90 μ lb la (sbegin A B)) :
    wp (f_X11_meet_L83 0 v zFU 0 μ) (fun q => (∃ μ', q = Sum.inl (mfd A B v 41 0, μ') ∧ KP μ μ') ∨ ∃ μ', q = Sum.inr μ' ∧ mfd A B v 41 0 = -1 ∧ KP μ μ') := by
  have b45 : B 4 ≤ 11 ∧ B 5 ≤ 11 := ⟨hB.2.1.1.2.2.2.2.1, hB.2.1.1.2.2.2.2.2.1⟩
  refine wlp0 (fun n k μ' => f_X11_meet_L83 0 v n (nI k) μ') _ 41 (fun k μ' => RC 87 μ' la la (sfls A (sbegin A A) k) ∧ RC 90 μ' lb la (mfls A B k) ∧ (∀ o, o < 87 ∨ 93 ≤ o → μ' o = μ o) ∧ mfd A B v 41 0 = mfd A B v (41 - k) k) (by omega) μ ⟨hS, hT, fun _ _ => rfl, rfl⟩ ?_ ?_
  · intro n k μ1 hk ⟨i1, i2, i3, i4⟩ ih
    show wp (f_X11_meet_L83 0 v (n + 1) (nI k) μ1) _
    rw [f_X11_meet_L83]
    have A1 : LC la μ1 A := hA.congr (fun o h1 h2 => i3 o (by omega))
    have B1 : LC lb μ1 B := hB.congr (fun o h1 h2 => i3 o (by omega))
    have t := sfls_ok hA.2.1 (sbegin_TOk hO) k
    have wS : WP (sfls A (sbegin A A) k) := SP.wp hA.2.1 hA.2.1 t.2.2.2.2.2.2
    have wT : WP (mfls A B k) := mfls_WP hA.2.1 hB.2.1 b45 k
    have kp : KP μ μ1 := fun o ho => i3 o (by omega)
    refine wp_ie (nI_nlt (a := 40) (by omega) (by omega)) (wp_bdQ (isByC i1 A1 i2 B1 wS wT) fun r hr' => ?_)
    rcases hr' with ⟨e, hp⟩ | ⟨e, hp⟩
    · rw [e]
      refine wp_ie (by decide) (wp_some (Or.inl ⟨μ1, ?_, kp⟩))
      rw [i4, mfd_y hk hp]
    · rw [e]
      refine wp_it rfl (wp_bdQ (floatOnC i1 A1 (by omega) t.2.2.2.1 t.2.2.2.2.2.2) fun μ2 ⟨j1, j2⟩ => ?_)
      have j2 : F3 87 μ1 μ2 := j2
      have k2 : RC 90 μ2 lb la (mfls A B k) := i2.congr (j2 90 (by omega) (by omega) (by omega)) (j2 91 (by omega) (by omega) (by omega)) (j2 92 (by omega) (by omega) (by omega))
      refine wp_bdQ (floatW k2 (j2.lc B1 (by omega)) (j2.lc A1 (by omega)) (by omega) (mfls_SM k) wT) fun μ3 ⟨l1, l2⟩ => wp_ls ?_
      have l2 : F3 90 μ2 μ3 := l2
      rw [nI_1]
      refine ih _ ⟨j1.congr (l2 87 (by omega) (by omega) (by omega)) (l2 88 (by omega) (by omega) (by omega)) (l2 89 (by omega) (by omega) (by omega)), l1, fun o ho => ?_, i4.trans (mfd_n hk hp)⟩
      rw [l2 o (by omega) (by omega) (by omega), j2 o (by omega) (by omega) (by omega)]
      exact i3 o ho
  · intro n μ1 ⟨i1, i2, i3, i4⟩
    show wp (f_X11_meet_L83 0 v (n + 1) (nI 41) μ1) _
    rw [f_X11_meet_L83]
    exact wp_it (nI_lt (a := 40) (by omega) (by omega)) (wp_some (Or.inr ⟨μ1, rfl, i4, fun o ho => i3 o (by omega)⟩))
theorem mfls_0 {W B : Nat → Nat} {n : Nat} : mfls W B (n + 1) 0 = mfls W B n 0 + (if canL W B (mfls W B n 0 + leanS B (gl B 0)) (mfls W B n 1) = true then leanS B (gl B 0) else 0) := by
  show mfl W B (mfls W B n) 0 = _
  unfold mfl smove
  rw [smoveY_at (by omega) (by omega)]
  unfold smoveX
  by_cases h : leanS B (gl B 0) = 0
  · rw [if_pos h, h]
    split <;> exact (Int32.add_zero _).symm
  · rw [if_neg h]
    split
    · exact su_self _ _ _
    · rw [Int32.add_zero]
      exact su_ne (by omega)
theorem mfls_1 {W B : Nat → Nat} {n : Nat} : mfls W B (n + 1) 1 = mfls W B n 1 + (if canL W B (mfls W B (n + 1) 0) (mfls W B n 1 + leanS B (gl B 1)) = true then leanS B (gl B 1) else 0) := by
  have e0 : mfls W B (n + 1) 0 = smoveX W B (leanS B (gl B 0)) (mfls W B n) 0 := by
    show mfl W B (mfls W B n) 0 = _
    unfold mfl smove
    rw [smoveY_at (by omega) (by omega)]
  have e1 : smoveX W B (leanS B (gl B 0)) (mfls W B n) 1 = mfls W B n 1 := smoveX_at (by omega) (by omega)
  rw [e0]
  show mfl W B (mfls W B n) 1 = _
  unfold mfl smove
  rw [← e1]
  generalize smoveX W B (leanS B (gl B 0)) (mfls W B n) = S1
  unfold smoveY
  by_cases h : leanS B (gl B 1) = 0
  · rw [if_pos h, h]
    split <;> exact (Int32.add_zero _).symm
  · rw [if_neg h]
    split
    · exact su_self _ _ _
    · rw [Int32.add_zero]
      exact su_ne (by omega)
theorem meetM {q : Nat} {μ : zM} {A B : Nat → Nat} {v : Int32} (h : LM q μ A) (hO : LOk A) (hB : LB B) (hS : MC μ (sbegin A A)) :
    wp (f_X12_meet_L124 310 v (nI (B 2)) (nI (B 3)) (leanS B (gl B 0)) (leanS B (gl B 1)) zFU (nI (B 4)) (nI (B 5)) 0 μ) (fun q => (∃ μ', q = Sum.inl (mfd A B v 41 0, μ') ∧ KP μ μ') ∨ ∃ μ', q = Sum.inr μ' ∧ mfd A B v 41 0 = -1 ∧ KP μ μ') := by
  have hA := hO.1
  have b45 : B 4 ≤ 11 ∧ B 5 ≤ 11 := ⟨hB.1.2.2.2.2.1, hB.1.2.2.2.2.2.1⟩
  refine wlp0 (fun n k (s : Int32 × Int32 × zM) => f_X12_meet_L124 310 v (nI (B 2)) (nI (B 3)) (leanS B (gl B 0)) (leanS B (gl B 1)) n s.1 s.2.1 (nI k) s.2.2) _ 41 (fun k s => s.1 = mfls A B k 0 ∧ s.2.1 = mfls A B k 1 ∧ (∃ S, sE S (sfls A (sbegin A A) k) ∧ MC s.2.2 S) ∧ MF μ s.2.2 ∧ mfd A B v 41 0 = mfd A B v (41 - k) k) (by omega) (nI (B 4), nI (B 5), μ) ⟨rfl, rfl, ⟨sbegin A A, fun _ _ _ => rfl, hS⟩, MF.rf μ, rfl⟩ ?_ ?_
  · intro n k ⟨ox, oy, μ1⟩ hk ⟨i1, i2, ⟨S, s1, s2⟩, i3, i4⟩ ih
    have i1 : ox = mfls A B k 0 := i1
    have i2 : oy = mfls A B k 1 := i2
    have s2 : MC μ1 S := s2
    have i3 : MF μ μ1 := i3
    show wp (f_X12_meet_L124 310 v (nI (B 2)) (nI (B 3)) (leanS B (gl B 0)) (leanS B (gl B 1)) (n + 1) ox oy (nI k) μ1) _
    rw [f_X12_meet_L124]
    have t := sfls_ok hA (sbegin_TOk hO) k
    have wS : WP (sfls A (sbegin A A) k) := SP.wp hA hA t.2.2.2.2.2.2
    have wT : WP (mfls A B k) := mfls_WP hA hB b45 k
    have e0 : μ1 310 12 = sfls A (sbegin A A) k 0 := (s2.f 0 (by omega)).trans (s1 0 (by omega) (by omega))
    have e1 : μ1 310 13 = sfls A (sbegin A A) k 1 := (s2.f 1 (by omega)).trans (s1 1 (by omega) (by omega))
    rw [e0, e1, i1, i2]
    refine wp_ie (nI_nlt (a := 40) (by omega) (by omega)) (wp_bdQ (isNearM (h.mf i3) hA hB wS wT) fun r hr' => ?_)
    rcases hr' with ⟨e, hp⟩ | ⟨e, hp⟩
    · rw [e]
      refine wp_ie (by decide) (wp_some (Or.inl ⟨μ1, ?_, i3.to2.kp⟩))
      rw [i4, mfd_y hk hp]
    · rw [e]
      obtain ⟨t5, t6, t7, tM, tz, tw, tP⟩ := t.E s1
      obtain ⟨x, y, x0, y0, x1, y1⟩ := wT
      refine wp_it rfl (wp_bdQ (hourM (lk := false) (h.mf i3) hO s2 t5 tM tz tw tP) fun μ2 ⟨k1, k2⟩ => ?_)
      have f2 := i3.tr k2
      have hb2 := hB.1.2.2.1
      have hb3 := hB.1.2.2.2.1
      refine wp_bdE (canLieOtherM (h.mf f2) hA hb2 hb3 (by rw [x0]; exact crd_step x1 (lean_dir _ _)) (by rw [y0]; exact Or.inr ⟨y, by omega, rfl⟩)) (wp_l fun d hd => wp_l fun ox' hox => ?_)
      have n0 : ox' = mfls A B (k + 1) 0 := by
        rw [hox, hd, mfls_0]
        cases canL A B (mfls A B k 0 + leanS B (gl B 0)) (mfls A B k 1) <;> rfl
      obtain ⟨x', y', x0', y0', x1', y1'⟩ := mfls_WP hA hB b45 (k + 1)
      rw [n0]
      refine wp_bdE (canLieOtherM (h.mf f2) hA hb2 hb3 (by rw [x0']; exact Or.inr ⟨x', by omega, rfl⟩) (by rw [y0]; exact crd_step y1 (lean_dir _ _))) (wp_l fun d' hd' => wp_l fun oy' hoy => wp_ls ?_)
      have n1 : oy' = mfls A B (k + 1) 1 := by
        rw [hoy, hd', mfls_1]
        cases canL A B (mfls A B (k + 1) 0) (mfls A B k 1 + leanS B (gl B 1)) <;> rfl
      rw [nI_1]
      exact ih (_, _, _) ⟨rfl, n1, ⟨_, sE_hour s1 t.2.1 t.2.2.1, k1⟩, f2, i4.trans (mfd_n hk hp)⟩
  · intro n s ⟨_, _, _, i3, i4⟩
    show wp (f_X12_meet_L124 310 v (nI (B 2)) (nI (B 3)) (leanS B (gl B 0)) (leanS B (gl B 1)) (n + 1) s.1 s.2.1 (nI 41) s.2.2) _
    rw [f_X12_meet_L124]
    exact wp_it (nI_lt (a := 40) (by omega) (by omega)) (wp_some (Or.inr ⟨s.2.2, rfl, i4, i3.to2.kp⟩))
theorem isOf_of_yes {v : Int32} {μ1 μ2 : zM} (h : f_X12_isLake 310 v μ1 = some (1, μ2)) : ∃ r, f_X12_isOf 310 0 v μ1 = some r ∧ ¬ r = 0 := by
  unfold f_X12_isLake at h
  obtain ⟨r, h1, h2⟩ := zbd_of h
  refine ⟨r, h1, fun e => ?_⟩
  rw [if_neg (fun w => w e)] at h2
  have := congrArg Prod.fst (Option.some.inj h2)
  exact absurd this (by show ¬ (0 : Int32) = 1; decide)
theorem i10 : ¬ (1 : Int32) = 0 := by decide
theorem isOf_of_no {v : Int32} {μ1 : zM} (h : f_X12_isLake 310 v μ1 = some (0, μ1)) : f_X12_isOf 310 0 v μ1 = some 0 := by
  unfold f_X12_isLake at h
  obtain ⟨r, h1, h2⟩ := zbd_of h
  by_cases e : r = 0
  · rw [h1, e]
  · rw [if_pos e] at h2
    have := congrArg Prod.fst (Option.some.inj h2)
    exact absurd this (by show ¬ (1 : Int32) = 0; decide)
theorem meet_same (v1 v2 v3 : Int32) : Same (f_X11_meet 0 v1 v2 v3) (f_X12_meet 310 v1 v2 v3) := by
  refine Same.of fun μ hI => ?_
  unfold f_X11_meet
  rcases lake_cases hI v1 with ⟨k, A, hk, hA, e1, e2⟩ | ⟨e1, e2⟩
  · rcases lake_cases hI v2 with ⟨j, B, hj, hB, d1, d2⟩ | ⟨d1, d2⟩
    · have z1 : zgn (6 + 15 * k) 1 = true := by unfold zgn; rw [zlk_kd k hk]; rfl
      have z2 : zgn (6 + 15 * j) 1 = true := by unfold zgn; rw [zlk_kd j hj]; rfl
      have ha := hA.1.1
      have hb := hB.1.1
      have b45 : B 4 ≤ 11 ∧ B 5 ≤ 11 := ⟨hb.1.2.2.2.2.1, hb.1.2.2.2.2.2.1⟩
      have hb2 := hb.1.2.2.1
      have hb3 := hb.1.2.2.2.1
      have ha0 := ha.1.1
      have ha1 := ha.1.2.1
      refine wp_bdE e1 (wp_bdE d1 (wp_bd (wp_cs (wp_g z1 (wp_cs (wp_g z2 (wp_bdQ (launchC hA.2.1 hA.2.1 (by omega)) fun μ8 ⟨g8, f8⟩ => ?_)))))))
      have f8 : F3 87 μ μ8 := f8
      have A8 := f8.lc hA.2.1 (by omega)
      have B8 := f8.lc hB.2.1 (by omega)
      refine wp_bdQ (launchC (r := 90) B8 A8 (by omega)) fun μ9 ⟨g9, f9⟩ => ?_
      have f9 : F3 90 μ8 μ9 := f9
      have A9 := f9.lc A8 (by omega)
      have B9 := f9.lc B8 (by omega)
      have g87 : RC 87 μ9 (6 + 15 * k) (6 + 15 * k) (sbegin A A) := g8.congr (f9 87 (by omega) (by omega) (by omega)) (f9 88 (by omega) (by omega) (by omega)) (f9 89 (by omega) (by omega) (by omega))
      have k9 : KP μ μ9 := fun o ho => by rw [f9 o (by omega) (by omega) (by omega), f8 o (by omega) (by omega) (by omega)]
      have h9 : μ9 311 = μ 311 := k9 311 (by omega)
      have p0 : μ9 (0 + 90) 2 = nI (B 4) := g9.f 0 (by omega)
      have p1 : μ9 (0 + 90) 3 = nI (B 5) := g9.f 1 (by omega)
      rw [p0, p1, surrounds_eq A9 B9 (by omega) (by omega)]
      -- the reference, up to the question whether the second raft is in the first one's water
      have ref : ∀ (μ1 : zM) (P : Int32 × zM → Prop), μ1 311 = μ 311 → (B 4 + B 2 ≤ A 0 ∧ B 5 + B 3 ≤ A 1 → ∀ μ', LM (610 + 109 * k) μ' A → KP μ1 μ' → MC μ' (sbegin A A) → wp (zbd (f_X12_meet_L124 310 v3 (nI (B 2)) (nI (B 3)) (leanS B (gl B 0)) (leanS B (gl B 1)) zFU (nI (B 4)) (nI (B 5)) 0 μ') fun q52 => zsum q52 (fun t => some t) fun μ51 => some ((-1 : Int32), μ51)) P) →
          (¬ (B 4 + B 2 ≤ A 0 ∧ B 5 + B 3 ≤ A 1) → ∀ μ', KP μ1 μ' → P (-1, μ')) → wp (f_X12_meet 310 v1 v2 v3 μ1) P := by
        intro μ1 P h1 hy hn
        unfold f_X12_meet
        have m2 : KP μ1 (zup μ1 310 10 (nI (610 + 109 * k))) := zup310.kp
        have i2 : zup μ1 310 10 (nI (610 + 109 * k)) 310 10 = nI (610 + 109 * k) := zup_self _ _ _ _
        have q2 : zup μ1 310 10 (nI (610 + 109 * k)) 311 = μ 311 := (zup_rne _ _ _ (by omega)).trans h1
        obtain ⟨r5, o1, o2⟩ := isOf_of_yes (d2 _ q2)
        refine wp_bd2 (wp_of (e2 μ1 h1) ?_)
        show wp (zbd (if (1 : Int32) = 0 then some false else zbd (f_X12_isOf 310 (0 : Int32) v2 (zup μ1 310 10 (nI (610 + 109 * k)))) fun r5 => if ¬ r5 = 0 then some true else some false) _) P
        generalize zup μ1 310 10 (nI (610 + 109 * k)) = μ2 at m2 i2 q2 o1 ⊢
        refine wp_bd (wp_ie (by decide) (wp_bdE o1 (wp_it o2 (wp_some (wp_it rfl (wp_ls (wp_bd2 (wp_of (d2 _ q2) ?_))))))))
        have m3 : KP μ2 (zup μ2 310 10 (nI (610 + 109 * j))) := zup310.kp
        have lB : LM (610 + 109 * j) (zup μ2 310 10 (nI (610 + 109 * j))) B := ⟨by omega, zup_self _ _ _ _, fun i hi => by rw [zup_ne (by omega), q2]; exact hB.2.2 i hi⟩
        have q3 : zup μ2 310 10 (nI (610 + 109 * j)) 311 = μ 311 := (zup_rne _ _ _ (by omega)).trans q2
        dsimp only
        rw [i2]
        generalize zup μ2 310 10 (nI (610 + 109 * j)) = μ3 at m3 lB q3 ⊢
        refine wp_bdE (ofM 2 lB rfl (by omega)) (wp_bdE (ofM 3 lB rfl (by omega)) (wp_bdE (ofM 4 lB rfl (by omega)) (wp_bdE (ofM 5 lB rfl (by omega)) (wp_bdE (glM lB hb) (wp_bdE (leanM lB) (wp_bdE (glM lB hb) (wp_bdE (leanM lB) (wp_ls ?_))))))))
        rw [glB_none hb, glB_none hb]
        have lA : LM (610 + 109 * k) (zup μ3 310 10 (nI (610 + 109 * k))) A := ⟨by omega, zup_self _ _ _ _, fun i hi => by rw [zup_ne (by omega), q3]; exact hA.2.2 i hi⟩
        have m4 : KP μ1 (zup μ3 310 10 (nI (610 + 109 * k))) := (m2.tr m3).tr zup310.kp
        generalize zup μ3 310 10 (nI (610 + 109 * k)) = μ4 at m4 lA ⊢
        refine wp_bdE (ofM 0 lA rfl (by omega)) ?_
        rw [nI_add, nI_add]
        by_cases c : B 4 + B 2 ≤ A 0 ∧ B 5 + B 3 ≤ A 1
        · refine wp_bd (wp_ie (nI_nlt c.1 (by omega)) (wp_bdE (ofM 1 lA rfl (by omega)) (wp_it (nI_le c.2 (by omega)) (wp_some (wp_it rfl (wp_bdQ (beginsM lA) fun μ5 ⟨g5, f5, _⟩ => ?_))))))
          exact hy c μ5 (lA.mf2 f5) (m4.tr f5.kp) g5
        · refine wp_bdQ (Q := fun b => b = false) ?_ (fun b hb' => wp_ie (by rw [hb']; decide) (wp_some (hn c μ4 m4)))
          by_cases c0 : B 4 + B 2 ≤ A 0
          · exact wp_ie (nI_nlt c0 (by omega)) (wp_bdE (ofM 1 lA rfl (by omega)) (wp_ie (nI_ge (by omega) (by omega)) (wp_some rfl)))
          · exact wp_it (nI_lt (by omega) (by omega)) (wp_some rfl)
      by_cases c : B 4 + B 2 ≤ A 0 ∧ B 5 + B 3 ≤ A 1
      · rw [decide_eq_true c]
        refine wp_it (by decide) (wp_bdQ (meetC (v := v3) A9 B9 hA.1 (by omega) g87 g9) fun q hq => ?_)
        have fin : ∀ μ', KP μ9 μ' → KP μ μ' ∧ wp (f_X12_meet 310 v1 v2 v3 μ') (fun p2 => p2.1 = mfd A B v3 41 0 ∧ KP μ' p2.2) := by
          intro μ' hk9
          refine ⟨k9.tr hk9, ref μ' _ ((hk9 311 (by omega)).trans h9) (fun _ μ5 l5 k5 g5 => wp_bdQ (meetM (v := v3) l5 hA.1 hb g5) fun q hq => ?_) (fun w => absurd c w)⟩
          rcases hq with ⟨μ6, e, k6⟩ | ⟨μ6, e, hr, k6⟩
          · rw [e]
            exact wp_suml (wp_some ⟨rfl, k5.tr k6⟩)
          · rw [e]
            exact wp_sumr (wp_some ⟨hr.symm, k5.tr k6⟩)
        rcases hq with ⟨μ', e, k'⟩ | ⟨μ', e, hr, k'⟩
        · rw [e]
          exact wp_suml (wp_some (wp_suml (wp_some (fin μ' k'))))
        · rw [e]
          refine wp_sumr (wp_some (wp_suml (wp_some ?_)))
          have := fin μ' k'
          rw [hr] at this
          exact this
      · rw [decide_eq_false c]
        refine wp_ie (by decide) (wp_some (wp_suml (wp_some ⟨k9, ref μ9 _ h9 (fun w => absurd w c) (fun _ μ' k' => ⟨rfl, k'⟩)⟩)))
    · have z1 : zgn (6 + 15 * k) 1 = true := by unfold zgn; rw [zlk_kd k hk]; rfl
      refine wp_bdE e1 (wp_bdE d1 (wp_bd (wp_cs (wp_g z1 (wp_cn (wp_some (wp_sumr (wp_some ⟨KP.rf μ, ?_⟩))))))))
      unfold f_X12_meet
      have q2 : zup μ 310 10 (nI (610 + 109 * k)) 311 = μ 311 := zup_rne _ _ _ (by omega)
      exact wp_bd2 (wp_of (e2 μ rfl) (wp_bd (wp_ie i10 (wp_bdE (isOf_of_no (d2 _ q2)) (wp_ie (fun w => w rfl) (wp_some (wp_ie (by decide) (wp_some ⟨rfl, zup310.kp⟩))))))))
  · rcases lake_cases hI v2 with ⟨j, B, hj, hB, d1, d2⟩ | ⟨d1, d2⟩
    · refine wp_bdE e1 (wp_bdE d1 (wp_bd (wp_cn (wp_some (wp_sumr (wp_some ⟨KP.rf μ, ?_⟩))))))
      unfold f_X12_meet
      exact wp_bd2 (wp_of (e2 μ rfl) (wp_bd (wp_it rfl (wp_some (wp_ie (by decide) (wp_some ⟨rfl, KP.rf μ⟩))))))
    · refine wp_bdE e1 (wp_bdE d1 (wp_bd (wp_cn (wp_some (wp_sumr (wp_some ⟨KP.rf μ, ?_⟩))))))
      unfold f_X12_meet
      exact wp_bd2 (wp_of (e2 μ rfl) (wp_bd (wp_it rfl (wp_some (wp_ie (by decide) (wp_some ⟨rfl, KP.rf μ⟩))))))
