/-! A STATE of a raft: S 0: x, 1: y, 2: hours, 3: aground, 4: touched, 5: sunk, 6: frost, 7: moored, 8: way, 9: force, 20 + m: where a mourner stands, 30 + p: water -/
def su (S : Nat → Int32) (k : Nat) (v : Int32) : Nat → Int32 := fun j => if j = k then v else S j
theorem su_self (S : Nat → Int32) (k : Nat) (v : Int32) : su S k v k = v := if_pos rfl
theorem su_ne {S : Nat → Int32} {k j : Nat} {v : Int32} (h : j ≠ k) : su S k v j = S j := if_neg h
theorem su_comm {S : Nat → Int32} {k j : Nat} {v w : Int32} (h : k ≠ j) : su (su S k v) j w = su (su S j w) k v := by
  funext i
  unfold su
  by_cases h1 : i = j
  · rw [if_pos h1, if_neg (by omega), if_pos h1]
  · rw [if_neg h1]
    by_cases h2 : i = k
    · rw [if_pos h2, if_pos h2]
    · rw [if_neg h2, if_neg h2, if_neg h1]
theorem su_same {S : Nat → Int32} {k : Nat} {v : Int32} (h : S k = v) : su S k v = S := by
  funext i
  unfold su
  by_cases h1 : i = k
  · rw [if_pos h1, h1, h]
  · rw [if_neg h1]
theorem su_su {S : Nat → Int32} {k : Nat} {v w : Int32} : su (su S k v) k w = su S k w := by
  funext i
  unfold su
  by_cases h1 : i = k
  · rw [if_pos h1, if_pos h1]
  · rw [if_neg h1, if_neg h1, if_neg h1]
def RC (r : Nat) (μ : zM) (la wa : Nat) (S : Nat → Int32) : Prop := μ r 0 = nI la ∧ μ r 1 = nI wa ∧ (∀ k, k < 10 → μ r (k + 2) = S k) ∧ (∀ m, m < 5 → μ (r + 1) m = S (20 + m)) ∧ (∀ p, p < 16 → μ (r + 2) p = S (30 + p))
section RAFT
variable {r la wa : Nat} {μ μ' : zM} {S : Nat → Int32} {W B L : Nat → Nat}
theorem RC.f (h : RC r μ la wa S) (k : Nat) (hk : k < 10) : μ r (k + 2) = S k := h.2.2.1 k hk
theorem RC.put (h : RC r μ la wa S) {k : Nat} {v : Int32} (hk : k < 10) : RC r (zup μ r (k + 2) v) la wa (su S k v) := by
  refine ⟨by rw [zup_ne (by omega)]; exact h.1, by rw [zup_ne (by omega)]; exact h.2.1, fun j hj => ?_, fun m hm => ?_, fun p hp => ?_⟩
  · by_cases hjk : j = k
    · subst hjk
      rw [zup_self, su_self]
    · rw [zup_ne (by omega), su_ne hjk]
      exact h.2.2.1 j hj
  · rw [zup_ne (by omega), su_ne (by omega)]
    exact h.2.2.2.1 m hm
  · rw [zup_ne (by omega), su_ne (by omega)]
    exact h.2.2.2.2 p hp
theorem RC.stand (h : RC r μ la wa S) {m : Nat} {v : Int32} (hm : m < 5) : RC r (zup μ (r + 1) m v) la wa (su S (20 + m) v) := by
  refine ⟨by rw [zup_ne (by omega)]; exact h.1, by rw [zup_ne (by omega)]; exact h.2.1, fun j hj => ?_, fun i hi => ?_, fun p hp => ?_⟩
  · rw [zup_ne (by omega), su_ne (by omega)]
    exact h.2.2.1 j hj
  · by_cases him : i = m
    · subst him
      rw [zup_self, su_self]
    · rw [zup_ne (by omega), su_ne (by omega)]
      exact h.2.2.2.1 i hi
  · rw [zup_ne (by omega), su_ne (by omega)]
    exact h.2.2.2.2 p hp
theorem RC.water (h : RC r μ la wa S) {q : Nat} {v : Int32} (hq : q < 16) : RC r (zup μ (r + 2) q v) la wa (su S (30 + q) v) := by
  refine ⟨by rw [zup_ne (by omega)]; exact h.1, by rw [zup_ne (by omega)]; exact h.2.1, fun j hj => ?_, fun i hi => ?_, fun p hp => ?_⟩
  · rw [zup_ne (by omega), su_ne (by omega)]
    exact h.2.2.1 j hj
  · rw [zup_ne (by omega), su_ne (by omega)]
    exact h.2.2.2.1 i hi
  · by_cases hpq : p = q
    · subst hpq
      rw [zup_self, su_self]
    · rw [zup_ne (by omega), su_ne (by omega)]
      exact h.2.2.2.2 p hp
theorem RC.congr (h : RC r μ la wa S) (h0 : μ' r = μ r) (h1 : μ' (r + 1) = μ (r + 1)) (h2 : μ' (r + 2) = μ (r + 2)) : RC r μ' la wa S := by
  unfold RC at h ⊢
  rw [h0, h1, h2]
  exact h
def axisS (v : Int32) : Int32 := if v = 1 ∨ v = 3 then 0 else 1
def signS (v : Int32) : Int32 := if v = 1 ∨ v = 2 then 1 else -1
def sside (W B : Nat → Nat) (x y : Int32) : Int32 := (((if y = 0 then 1 else 0) ||| (if x + nI (B 2) = nI (W 0) then 2 else 0)) ||| (if y + nI (B 3) = nI (W 1) then 4 else 0)) ||| (if x = 0 then 8 else 0)
def slist (L : Nat → Nat) (S : Nat → Int32) (ax : Int32) : Int32 := (gl L ax + sm 5 (fun m => if S (20 + m) = -1 then 0 else nI (L (86 + 3 * m)) * arm L (S (20 + m)).toNatClampNeg ax)) + sm 16 (fun p => S (30 + p) * arm L p ax)
def sblown (L : Nat → Nat) (way force ax : Int32) : Int32 := if ¬ way = -1 ∧ axisS way = ax then (if szs L * force < nI (L 7) then 0 else signS way) else 0
def sdrift (L : Nat → Nat) (S : Nat → Int32) (ax : Int32) : Int32 := sgn (leanS L (slist L S ax) + sblown L (S 8) (S 9) ax)
def smoveX (W B : Nat → Nat) (dx : Int32) (S : Nat → Int32) : Nat → Int32 := if dx = 0 then S else if canL W B (S 0 + dx) (S 1) = true then su S 0 (S 0 + dx) else su S 3 (S 3 + 1)
def smoveY (W B : Nat → Nat) (dy : Int32) (S : Nat → Int32) : Nat → Int32 := if dy = 0 then S else if canL W B (S 0) (S 1 + dy) = true then su S 1 (S 1 + dy) else su S 3 (S 3 + 1)
def smove (W B : Nat → Nat) (dx dy : Int32) (S : Nat → Int32) : Nat → Int32 := smoveY W B dy (smoveX W B dx S)
def sallw (S : Nat → Int32) : Int32 := sm 16 (fun p => S (30 + p))
def sleak (L : Nat → Nat) (S : Nat → Int32) : Nat → Nat → Int32
  | 0 => S
  | n + 1 => su (sleak L S n) (30 + L (101 + 2 * n)) (sleak L S n (30 + L (101 + 2 * n)) + nI (L (102 + 2 * n)))
def sh1 (L : Nat → Nat) (S : Nat → Int32) : Nat → Int32 := if S 6 = 0 ∧ S 7 = 0 then smove L L (sdrift L S 0) (sdrift L S 1) S else S
def sh2 (S : Nat → Int32) : Nat → Int32 := su S 2 (S 2 + 1)
def sh3 (L : Nat → Nat) (S : Nat → Int32) : Nat → Int32 := su S 4 (S 4 ||| sside L L (S 0) (S 1))
def sh4 (L : Nat → Nat) (S : Nat → Int32) : Nat → Int32 := su (sleak L S (L 15)) 5 (if sallw (sleak L S (L 15)) ≤ nI (L 8) then 0 else 1)
def shour (L : Nat → Nat) (S : Nat → Int32) : Nat → Int32 := if S 5 = 0 then sh4 L (sh3 L (sh2 (sh1 L S))) else S
/-- a raft lies somewhere, its mourners stand somewhere -/
def SP (W B : Nat → Nat) (S : Nat → Int32) : Prop := ∃ x y : Nat, S 0 = nI x ∧ S 1 = nI y ∧ clB W B x y = true
def SM (L : Nat → Nat) (S : Nat → Int32) : Prop := (∀ m, m < 5 → S (20 + m) = -1 ∨ m < L 14 ∧ ∃ p : Nat, p < L 2 * L 3 ∧ S (20 + m) = nI p)
theorem dir_cases (x : Int32) : sgn x = 0 ∨ sgn x = 1 ∨ sgn x = -1 := by
  unfold sgn
  split
  · exact Or.inr (Or.inl rfl)
  · split
    · exact Or.inr (Or.inr rfl)
    · exact Or.inl rfl
theorem crd_step {x : Nat} {d : Int32} (hx : x ≤ 11) (hd : d = 0 ∨ d = 1 ∨ d = -1) : crd (nI x + d) := by
  rcases hd with rfl | rfl | rfl
  · exact Or.inr ⟨x, by omega, Int32.add_zero _⟩
  · exact Or.inr ⟨x + 1, by omega, nI_1 x⟩
  · by_cases h : x = 0
    · subst h
      exact Or.inl (by decide)
    · obtain ⟨k, rfl⟩ : ∃ k, x = k + 1 := ⟨x - 1, by omega⟩
      exact Or.inr ⟨k, by omega, pk_m1 k⟩
theorem clB_le {x y : Nat} (hW : LB W) (hB : LB B) (h : clB W B x y = true) : x ≤ 11 ∧ y ≤ 11 := by
  obtain ⟨h1, h2, -⟩ := clB_iff.mp h
  have := hW.1.1
  have := hW.1.2.1
  have := hB.1.2.2.1
  have := hB.1.2.2.2.1
  omega
theorem canL_SP {x y : Int32} {S : Nat → Int32} (hx : crd x) (hy : crd y) (h : canL W B x y = true) (h0 : S 0 = x) (h1 : S 1 = y) : SP W B S := by
  unfold canL at h
  rw [Bool.and_eq_true, Bool.and_eq_true, decide_eq_true_eq, decide_eq_true_eq] at h
  rcases hx with hx | ⟨a, ha, rfl⟩
  · exact absurd hx (Int32.not_lt.mpr h.1)
  · rcases hy with hy | ⟨b, hb, rfl⟩
    · exact absurd hy (Int32.not_lt.mpr h.2.1)
    · have h3 := h.2.2
      rw [nI_clamp (by omega), nI_clamp (by omega)] at h3
      exact ⟨a, b, h0, h1, h3⟩
theorem smoveX_SP {dx : Int32} (hW : LB W) (hB : LB B) (hd : dx = 0 ∨ dx = 1 ∨ dx = -1) (h : SP W B S) : SP W B (smoveX W B dx S) := by
  obtain ⟨x, y, h0, h1, h2⟩ := h
  have hl := clB_le hW hB h2
  unfold smoveX
  split
  · exact ⟨x, y, h0, h1, h2⟩
  · split
    · rename_i hc
      refine canL_SP (x := S 0 + dx) (y := S 1) (by rw [h0]; exact crd_step hl.1 hd) (by rw [h1]; exact Or.inr ⟨y, by omega, rfl⟩) hc (su_self _ _ _) (su_ne (by omega))
    · exact ⟨x, y, by rw [su_ne (by omega)]; exact h0, by rw [su_ne (by omega)]; exact h1, h2⟩
theorem smoveY_SP {dy : Int32} (hW : LB W) (hB : LB B) (hd : dy = 0 ∨ dy = 1 ∨ dy = -1) (h : SP W B S) : SP W B (smoveY W B dy S) := by
  obtain ⟨x, y, h0, h1, h2⟩ := h
  have hl := clB_le hW hB h2
  unfold smoveY
  split
  · exact ⟨x, y, h0, h1, h2⟩
  · split
    · rename_i hc
      refine canL_SP (x := S 0) (y := S 1 + dy) (by rw [h0]; exact Or.inr ⟨x, by omega, rfl⟩) (by rw [h1]; exact crd_step hl.2 hd) hc (su_ne (by omega)) (su_self _ _ _)
    · exact ⟨x, y, by rw [su_ne (by omega)]; exact h0, by rw [su_ne (by omega)]; exact h1, h2⟩
theorem smove_SP {dx dy : Int32} (hW : LB W) (hB : LB B) (hd : dx = 0 ∨ dx = 1 ∨ dx = -1) (hd2 : dy = 0 ∨ dy = 1 ∨ dy = -1) (h : SP W B S) : SP W B (smove W B dx dy S) := smoveY_SP hW hB hd2 (smoveX_SP hW hB hd h)
-- the class's raft
theorem zgk_nI {l ci : Nat} (h : zkd l = ci) (hc : ci ≠ 99) : zgk (nI l) ci = true := by
  have : l < 324 := zkd_lt (by omega)
  unfold zgk
  rw [nI_clamp (by omega), decide_eq_true (nI_pos' (by omega)), h]
  simp
theorem zkd_31 {l ci : Nat} (h : zkd l = ci) (hc : ci ≠ 99) : l < 2 ^ 31 := by
  have : l < 324 := zkd_lt (by omega)
  omega
theorem sidesC (h : RC r μ la wa S) (hL : LC la μ B) (hW : LC wa μ W) : f_X4_sides r μ = some (sside W B (S 0) (S 1)) := by
  refine wp_eq ?_
  unfold f_X4_sides
  have e0 : μ r 2 = S 0 := h.f 0 (by omega)
  have e1 : μ r 3 = S 1 := h.f 1 (by omega)
  rw [h.1, h.2.1, e0, e1, nI_clamp (zkd_31 hL.1 (by omega)), nI_clamp (zkd_31 hW.1 (by omega)), linesC0 hL, linesC1 hL, hW.2.2.1.1 0 (by omega), hW.2.2.1.1 1 (by omega)]
  refine wp_ls (wp_g (zgk_nI hL.1 (by omega)) (wp_g (zgk_nI hW.1 (by omega)) (wp_ls (wp_ls (wp_ls (wp_ls (wp_ls (wp_some ?_))))))))
  unfold sside
  simp only [ite_not]
theorem sumgo {a b c : Int32} : a + b + c = a + (b + c) := Int32.add_assoc a b c
theorem listC {ax : Int32} (h : RC r μ la wa S) (hL : LC la μ L) (hM : SM L S) : f_X4_listAlong r ax μ = some (slist L S ax) := by
  have hb2 := hL.2.1.1.2.2.1
  have hb3 := hL.2.1.1.2.2.2.1
  have hpl : L 2 * L 3 ≤ 16 := by
    have : L 2 * L 3 ≤ 4 * 4 := Nat.mul_le_mul hb2.2 hb3.2
    omega
  have hkl := zkd_31 hL.1 (by omega)
  refine wp_eq ?_
  unfold f_X4_listAlong
  rw [h.1, nI_clamp hkl, glC hL]
  refine wp_g (zgk_nI hL.1 (by omega)) (wp_ls ?_)
  have l1 : f_X4_listAlong_L11 r ax μ zFU (gl L ax) 0 = some (gl L ax + sm 5 (fun m => if S (20 + m) = -1 then 0 else nI (L (86 + 3 * m)) * arm L (S (20 + m)).toNatClampNeg ax)) := by
    refine wp_eq (wlp0 (fun n k x => f_X4_listAlong_L11 r ax μ n x (nI k)) _ 5 (fun k x => x = gl L ax + sm k (fun m => if S (20 + m) = -1 then 0 else nI (L (86 + 3 * m)) * arm L (S (20 + m)).toNatClampNeg ax)) (by omega) _ (Int32.add_zero _).symm ?_ ?_)
    · intro n k x hk hI ih
      show wp (f_X4_listAlong_L11 r ax μ (n + 1) x (nI k)) _
      rw [f_X4_listAlong_L11]
      refine wp_ie (nI_ge (b := 5) hk (by omega)) (wp_g (zin_nI hk (by omega)) ?_)
      rw [nI_clamp (by omega), h.2.2.2.1 k hk, h.1, nI_clamp hkl]
      have go : ∀ v, v = x + (if S (20 + k) = -1 then 0 else nI (L (86 + 3 * k)) * arm L (S (20 + k)).toNatClampNeg ax) → wp (f_X4_listAlong_L11 r ax μ n v (nI (k + 1))) _ := fun v hv => ih v (by rw [hv, hI, sumgo]; rfl)
      rcases hM k hk with hs | ⟨hm, p, hp, hs⟩
      · refine wp_bd (wp_it hs (wp_some (wp_ls ?_)))
        rw [nI_1]
        exact go x (by rw [if_pos hs, Int32.add_zero])
      · have hn : ¬ S (20 + k) = -1 := by
          rw [hs]
          intro w
          have : ¬ nI p < 0 := nI_pos (by omega)
          rw [w] at this
          exact this (by decide)
        refine wp_bd (wp_ie hn (wp_g (zgk_nI hL.1 (by omega)) (wp_bdE (mo_w hL.1 hL.2.1 hL.2.2.1 rfl hm) (wp_bdE (armC hL hs (by omega)) (wp_ls (wp_some (wp_ls ?_)))))))
        rw [nI_1]
        exact go _ (by rw [if_neg hn, hs, nI_clamp (by omega)])
    · intro n x hI
      show wp (f_X4_listAlong_L11 r ax μ (n + 1) x (nI 5)) _
      rw [f_X4_listAlong_L11]
      exact wp_it (nI_le (a := 5) (Nat.le_refl _) (by omega)) (wp_some hI)
  refine wp_bdE l1 ?_
  unfold slist
  generalize gl L ax + sm 5 _ = g0
  have l2 : f_X4_listAlong_L64 r ax μ zFU g0 0 = some (g0 + sm 16 (fun p => S (30 + p) * arm L p ax)) := by
    refine wp_eq (wlp0 (fun n k x => f_X4_listAlong_L64 r ax μ n x (nI k)) _ 16 (fun k x => x = g0 + sm k (fun p => S (30 + p) * arm L p ax)) (by omega) _ (Int32.add_zero _).symm ?_ ?_)
    · intro n k x hk hI ih
      show wp (f_X4_listAlong_L64 r ax μ (n + 1) x (nI k)) _
      rw [f_X4_listAlong_L64]
      refine wp_ie (nI_ge (b := 16) hk (by omega)) (wp_g (zin_nI hk (by omega)) ?_)
      rw [nI_clamp (by omega), h.2.2.2.2 k hk, h.1, nI_clamp hkl]
      have go : ∀ v, v = x + S (30 + k) * arm L k ax → wp (f_X4_listAlong_L64 r ax μ n v (nI (k + 1))) _ := fun v hv => ih v (by rw [hv, hI, sumgo]; rfl)
      by_cases hz : S (30 + k) = 0
      · refine wp_bd (wp_it hz (wp_some (wp_ls ?_)))
        rw [nI_1]
        exact go x (by rw [hz, Int32.zero_mul, Int32.add_zero])
      · refine wp_bd (wp_ie hz (wp_g (zgk_nI hL.1 (by omega)) (wp_bdE (armC hL rfl hk) (wp_ls (wp_some (wp_ls ?_))))))
        rw [nI_1]
        exact go _ rfl
    · intro n x hI
      show wp (f_X4_listAlong_L64 r ax μ (n + 1) x (nI 16)) _
      rw [f_X4_listAlong_L64]
      exact wp_it (nI_le (a := 16) (Nat.le_refl _) (by omega)) (wp_some hI)
  exact wp_bdE l2 (wp_some rfl)
theorem axisC (v : Int32) : f_X4_axisOf v = axisS v := by
  unfold f_X4_axisOf axisS zl
  by_cases h1 : v = 1
  · rw [if_neg (fun w => w.1 h1), if_pos (Or.inl h1)]
  · by_cases h3 : v = 3
    · rw [if_neg (fun w => w.2 h3), if_pos (Or.inr h3)]
    · rw [if_pos ⟨h1, h3⟩, if_neg (fun w => w.elim h1 h3)]
theorem signC (v : Int32) : f_X4_signOf v = signS v := by
  unfold f_X4_signOf signS zl
  by_cases h1 : v = 1
  · rw [if_neg (fun w => w.1 h1), if_pos (Or.inl h1)]
  · by_cases h3 : v = 2
    · rw [if_neg (fun w => w.2 h3), if_pos (Or.inr h3)]
    · rw [if_pos ⟨h1, h3⟩, if_neg (fun w => w.elim h1 h3)]
theorem blownC {way force ax : Int32} (h : RC r μ la wa S) (hL : LC la μ L) : f_X4_blown r way force ax μ = some (sblown L way force ax) := by
  refine wp_eq ?_
  unfold f_X4_blown sblown
  rw [axisC, signC, h.1, nI_clamp (zkd_31 hL.1 (by omega)), hL.2.2.1.1 7 (by omega)]
  have : f_X1_wreathSizes la μ = szs L := hL.2.2.2.2.2.1
  rw [this]
  refine wp_if (fun c => wp_g (zgk_nI hL.1 (by omega)) (wp_ls (wp_some ?_))) (fun c => wp_some ?_)
  · rw [if_pos c]
  · rw [if_neg c]
theorem driftC {ax : Int32} (h : RC r μ la wa S) (hL : LC la μ L) (hM : SM L S) : f_X4_driftAlong r ax μ = some (sdrift L S ax) := by
  refine wp_eq ?_
  unfold f_X4_driftAlong
  have e8 : μ r 10 = S 8 := h.f 8 (by omega)
  have e9 : μ r 11 = S 9 := h.f 9 (by omega)
  rw [h.1, e8, e9, nI_clamp (zkd_31 hL.1 (by omega))]
  refine wp_g (zgk_nI hL.1 (by omega)) (wp_bdE (listC h hL hM) (wp_bdE (blownC h hL) (wp_some ?_)))
  rw [signum_eq, leanC hL]
  rfl
theorem moveC {dx dy : Int32} (h : RC r μ la wa S) (hL : LC la μ B) (hW : LC wa μ W) (hr : (r < la ∨ la + 14 < r) ∧ (r < wa ∨ wa + 14 < r)) (hd : dx = 0 ∨ dx = 1 ∨ dx = -1) (hd2 : dy = 0 ∨ dy = 1 ∨ dy = -1) (hP : SP W B S) :
    wp (f_X4_move r dx dy μ) (fun μ' => RC r μ' la wa (smove W B dx dy S) ∧ ∀ o, o ≠ r → μ' o = μ o) := by
  have kl := zkd_31 hL.1 (by omega)
  have kw := zkd_31 hW.1 (by omega)
  have hX : wp (if dx = 0 then some μ else zg (zgk (μ r 1) 1) <| zg (zgk (μ r 0) 1) <| zbd (f_X1_floats ((μ r 1).toNatClampNeg) ((μ r 0).toNatClampNeg) ((μ r 2) + dx) (μ r 3) μ) fun r15 => if r15 = 0 then zl (zup μ r 5 ((μ r 5) + (1 : Int32))) fun μ17 => some μ17 else zl (zup μ r 2 ((μ r 2) + dx)) fun μ18 => some μ18)
      (fun μ' => RC r μ' la wa (smoveX W B dx S) ∧ ∀ o, o ≠ r → μ' o = μ o) := by
    refine wp_if (fun c => wp_some ?_) (fun c => ?_)
    · unfold smoveX
      rw [if_pos c]
      exact ⟨h, fun _ _ => rfl⟩
    · obtain ⟨x, y, h0, h1, h2⟩ := hP
      have hl := clB_le hW.2.1 hL.2.1 h2
      have e0 : μ r 2 = S 0 := h.f 0 (by omega)
      have e1 : μ r 3 = S 1 := h.f 1 (by omega)
      have e3 : μ r 5 = S 3 := h.f 3 (by omega)
      rw [h.1, h.2.1, e0, e1, e3, nI_clamp kl, nI_clamp kw]
      refine wp_g (zgk_nI hW.1 (by omega)) (wp_g (zgk_nI hL.1 (by omega)) (wp_bdE (floats_eq hW hL (by rw [h0]; exact crd_step hl.1 hd) (by rw [h1]; exact Or.inr ⟨y, by omega, rfl⟩)) ?_))
      unfold smoveX
      rw [if_neg c]
      by_cases hc : canL W B (S 0 + dx) (S 1) = true
      · rw [if_pos hc, hc]
        exact wp_ie (by decide) (wp_ls (wp_some ⟨h.put (k := 0) (by omega), fun o ho => zup_rne _ _ _ ho⟩))
      · rw [if_neg hc, Bool.eq_false_iff.mpr hc]
        exact wp_it (by decide) (wp_ls (wp_some ⟨h.put (k := 3) (by omega), fun o ho => zup_rne _ _ _ ho⟩))
  have hP1 := smoveX_SP hW.2.1 hL.2.1 hd hP
  unfold f_X4_move
  refine wp_bdQ hX fun μ1 ⟨h1, f1⟩ => ?_
  have hL1 : LC la μ1 B := hL.congr (fun o o1 o2 => f1 o (by omega))
  have hW1 : LC wa μ1 W := hW.congr (fun o o1 o2 => f1 o (by omega))
  unfold smove
  generalize smoveX W B dx S = S1 at h1 hP1
  refine wp_bdQ (Q := fun μ' => RC r μ' la wa (smoveY W B dy S1) ∧ ∀ o, o ≠ r → μ' o = μ o) ?_ (fun μ2 hμ => wp_some hμ)
  refine wp_if (fun c => wp_some ?_) (fun c => ?_)
  · unfold smoveY
    rw [if_pos c]
    exact ⟨h1, f1⟩
  · obtain ⟨x, y, h0, hy1, h2⟩ := hP1
    have hl := clB_le hW.2.1 hL.2.1 h2
    have e0 : μ1 r 2 = S1 0 := h1.f 0 (by omega)
    have e1 : μ1 r 3 = S1 1 := h1.f 1 (by omega)
    have e3 : μ1 r 5 = S1 3 := h1.f 3 (by omega)
    rw [h1.1, h1.2.1, e0, e1, e3, nI_clamp kl, nI_clamp kw]
    refine wp_g (zgk_nI hW.1 (by omega)) (wp_g (zgk_nI hL.1 (by omega)) (wp_bdE (floats_eq hW1 hL1 (by rw [h0]; exact Or.inr ⟨x, by omega, rfl⟩) (by rw [hy1]; exact crd_step hl.2 hd2)) ?_))
    unfold smoveY
    rw [if_neg c]
    by_cases hc : canL W B (S1 0) (S1 1 + dy) = true
    · rw [if_pos hc, hc]
      exact wp_ie (by decide) (wp_ls (wp_some ⟨h1.put (k := 1) (by omega), fun o ho => by rw [zup_rne _ _ _ ho]; exact f1 o ho⟩))
    · rw [if_neg hc, Bool.eq_false_iff.mpr hc]
      exact wp_it (by decide) (wp_ls (wp_some ⟨h1.put (k := 3) (by omega), fun o ho => by rw [zup_rne _ _ _ ho]; exact f1 o ho⟩))
end RAFT
/-! the class's raft, on: hours and deeds -/
def isPl (L : Nat → Nat) (v : Int32) : Bool := decide (0 ≤ v) && decide (v < nI (L 2 * L 3))
def isMo (L : Nat → Nat) (v : Int32) : Bool := decide (0 ≤ v) && decide (v < nI (L 14))
/-- a lake whose text has no fault -/
def LOk (L : Nat → Nat) : Prop := LB L ∧ clB L L (L 4) (L 5) = true ∧ (∀ k, k < L 12 → L (56 + 2 * k) < L 2 * L 3) ∧ (∀ k, k < L 15 → L (101 + 2 * k) < L 2 * L 3) ∧ (∀ k, k < L 11 → L (16 + 2 * k) < L 0 ∧ L (17 + 2 * k) < L 1)
theorem pl16 {L : Nat → Nat} (h : LB L) : L 2 * L 3 ≤ 16 := by
  have hb2 := h.1.2.2.1
  have hb3 := h.1.2.2.2.1
  have : L 2 * L 3 ≤ 4 * 4 := Nat.mul_le_mul hb2.2 hb3.2
  omega
theorem isPl_nI {L : Nat → Nat} {p : Nat} (hB : LB L) (h : p < L 2 * L 3) : isPl L (nI p) = true := by
  have := pl16 hB
  unfold isPl
  rw [decide_eq_true (nI_pos' (by omega)), decide_eq_true (nI_lt h (by omega))]
  rfl
theorem isPl_of {L : Nat → Nat} {v : Int32} (hB : LB L) (h : isPl L v = true) : ∃ p, p < L 2 * L 3 ∧ v = nI p := by
  unfold isPl at h
  rw [Bool.and_eq_true, decide_eq_true_eq, decide_eq_true_eq] at h
  have := pl16 hB
  obtain ⟨j, j1, j2⟩ := nI_of (Int32.not_lt.mpr h.1)
  subst j2
  exact ⟨j, (nI_ltI j1 (by omega)).mp h.2, rfl⟩
theorem isMo_of {L : Nat → Nat} {v : Int32} (hB : LB L) (h : isMo L v = true) : ∃ p, p < L 14 ∧ v = nI p := by
  unfold isMo at h
  rw [Bool.and_eq_true, decide_eq_true_eq, decide_eq_true_eq] at h
  have := hB.2.1
  obtain ⟨j, j1, j2⟩ := nI_of (Int32.not_lt.mpr h.1)
  subst j2
  exact ⟨j, (nI_ltI j1 (by omega)).mp h.2, rfl⟩
theorem b2i_ne (b : Bool) : (b2i b = 0) = (b = false) := by
  cases b
  · exact propext ⟨fun _ => rfl, fun _ => rfl⟩
  · exact propext ⟨fun h => absurd h (by decide), fun h => by cases h⟩
theorem b2i_01 (b : Bool) : z01 (b2i b) = true := by cases b <;> decide
section RAFT2
variable {r la wa : Nat} {μ μ' : zM} {S : Nat → Int32} {W B L : Nat → Nat}
theorem hasPlaceC {v : Int32} (h : RC r μ la wa S) (hL : LC la μ L) : f_X4_hasPlace r v μ = some (b2i (isPl L v)) := by
  have h16 := pl16 hL.2.1
  refine wp_eq ?_
  unfold f_X4_hasPlace
  rw [h.1, nI_clamp (zkd_31 hL.1 (by omega)), placesC hL]
  by_cases h0 : v < 0
  · have e : isPl L v = false := by
      unfold isPl
      rw [decide_eq_false (Int32.not_le.mpr h0)]
      rfl
    rw [e]
    exact wp_bd (wp_bd (wp_it h0 (wp_some (wp_ie (by decide) (wp_some (wp_g (by decide) (wp_some rfl)))))))
  · obtain ⟨j, j1, rfl⟩ := nI_of h0
    by_cases hj : j < L 2 * L 3
    · rw [isPl_nI hL.2.1 hj]
      exact wp_bd (wp_bd (wp_ie h0 (wp_ie (nI_ge (b := 16) (by omega) (by omega)) (wp_g (zgk_nI hL.1 (by omega)) (wp_ie (nI_ge hj (by omega)) (wp_some (wp_it rfl (wp_some (wp_g (by decide) (wp_some rfl))))))))))
    · have e : isPl L (nI j) = false := by
        unfold isPl
        rw [decide_eq_false (nI_nlt (by omega) (by omega)), Bool.and_false]
      rw [e]
      refine wp_bd (wp_bd (wp_ie h0 (wp_if (fun _ => wp_some (wp_ie (by decide) (wp_some (wp_g (by decide) (wp_some rfl))))) (fun _ => wp_g (zgk_nI hL.1 (by omega)) (wp_it (nI_le (by omega) (by omega)) (wp_some (wp_ie (by decide) (wp_some (wp_g (by decide) (wp_some rfl))))))))))
theorem hasMournerC {v : Int32} (h : RC r μ la wa S) (hL : LC la μ L) : f_X4_hasMourner r v μ = some (b2i (isMo L v)) := by
  have hm := hL.2.1.2.1.2.2.2.1
  refine wp_eq ?_
  unfold f_X4_hasMourner
  rw [h.1, nI_clamp (zkd_31 hL.1 (by omega))]
  have es : μ (la + 8) 2 = nI (L 14) := hL.2.2.1.2.1.2.2.2.1
  unfold f_X6_has zl
  rw [es]
  by_cases h0 : v < 0
  · have e : isMo L v = false := by
      unfold isMo
      rw [decide_eq_false (Int32.not_le.mpr h0)]
      rfl
    rw [e]
    refine wp_bd (wp_bd (wp_ie ?_ (wp_g (zgk_nI hL.1 (by omega)) (wp_it (if_neg (fun w => w.1 h0)) (wp_some (wp_ie (by decide) (wp_some (wp_g (by decide) (wp_some rfl)))))))))
    intro w
    exact Int32.not_le.mpr h0 (Int32.le_trans (by decide) w)
  · obtain ⟨j, j1, rfl⟩ := nI_of h0
    by_cases hj : j < L 14
    · have e : isMo L (nI j) = true := by
        unfold isMo
        rw [decide_eq_true (nI_pos' j1), decide_eq_true (nI_lt hj (by omega))]
        rfl
      rw [e]
      exact wp_bd (wp_bd (wp_ie (nI_ge (b := 5) (by omega) (by omega)) (wp_g (zgk_nI hL.1 (by omega)) (wp_ie (by rw [if_pos ⟨h0, nI_ge hj (by omega)⟩]; decide) (wp_some (wp_it rfl (wp_some (wp_g (by decide) (wp_some rfl)))))))))
    · have e : isMo L (nI j) = false := by
        unfold isMo
        rw [decide_eq_false (nI_nlt (by omega) (by omega)), Bool.and_false]
      rw [e]
      refine wp_bd (wp_bd (wp_if (fun _ => wp_some (wp_ie (by decide) (wp_some (wp_g (by decide) (wp_some rfl))))) (fun _ => wp_g (zgk_nI hL.1 (by omega)) (wp_it (if_neg (fun w => w.2 (nI_le (by omega) (by omega)))) (wp_some (wp_ie (by decide) (wp_some (wp_g (by decide) (wp_some rfl)))))))))
theorem allWaterC (h : RC r μ la wa S) : f_X4_allWater r μ = some (sallw S) := by
  refine wp_eq ?_
  unfold f_X4_allWater
  have l1 : f_X4_allWater_L4 r μ zFU 0 0 = some (sallw S) := by
    refine wp_eq (wlp0 (fun n k x => f_X4_allWater_L4 r μ n x (nI k)) _ 16 (fun k x => x = sm k (fun p => S (30 + p))) (by omega) _ rfl ?_ ?_)
    · intro n k x hk hI ih
      show wp (f_X4_allWater_L4 r μ (n + 1) x (nI k)) _
      rw [f_X4_allWater_L4]
      refine wp_ie (nI_ge (b := 16) hk (by omega)) (wp_g (zin_nI hk (by omega)) (wp_ls (wp_ls ?_)))
      rw [nI_clamp (by omega), h.2.2.2.2 k hk, nI_1]
      exact ih _ (by rw [hI]; rfl)
    · intro n x hI
      show wp (f_X4_allWater_L4 r μ (n + 1) x (nI 16)) _
      rw [f_X4_allWater_L4]
      exact wp_it (nI_le (a := 16) (Nat.le_refl _) (by omega)) (wp_some hI)
  exact wp_bdE l1 (wp_some rfl)
theorem leaksC (hL : LC la μ L) (hO : LOk L) (hr : la + 14 < r) (h : RC r μ la wa S) : wp (f_X4_passHour_L61 r zFU 0 μ) (fun μ' => RC r μ' la wa (sleak L S (L 15)) ∧ ∀ o, o ≠ r + 2 → μ' o = μ o) := by
  have hb := hL.2.1.2.1.2.2.2.2
  have h16 := pl16 hL.2.1
  have kl := zkd_31 hL.1 (by omega)
  refine wlp0 (fun n k μ' => f_X4_passHour_L61 r n (nI k) μ') _ (L 15) (fun k μ' => RC r μ' la wa (sleak L S k) ∧ ∀ o, o ≠ r + 2 → μ' o = μ o) (by omega) μ ⟨h, fun _ _ => rfl⟩ ?_ ?_
  · intro n k μ1 hk ⟨h1, f1⟩ ih
    have hL1 : LC la μ1 L := hL.congr (fun o o1 o2 => f1 o (by omega))
    have hp := hO.2.2.2.1 k hk
    show wp (f_X4_passHour_L61 r (n + 1) (nI k) μ1) _
    rw [f_X4_passHour_L61, h1.1, nI_clamp kl, hL1.2.2.1.2.1.2.2.2.2]
    refine wp_g (zgk_nI hL.1 (by omega)) (wp_ie (nI_ge hk (by omega)) (wp_bdE (lk_p hL1.1 hL1.2.1 hL1.2.2.1 rfl hk) (wp_bdE (hasPlaceC h1 hL1) ?_)))
    rw [isPl_nI hL.2.1 hp]
    refine wp_bd (wp_ie (by decide) (wp_g (zin_nI (by omega) (by omega)) (wp_bdE (lk_r hL1.1 hL1.2.1 hL1.2.2.1 rfl hk) (wp_ls (wp_some (wp_ls ?_))))))
    rw [nI_1, nI_clamp (by omega), h1.2.2.2.2 _ (by omega)]
    exact ih _ ⟨h1.water (by omega), fun o ho => by rw [zup_rne _ _ _ ho]; exact f1 o ho⟩
  · intro n μ1 ⟨h1, f1⟩
    have hL1 : LC la μ1 L := hL.congr (fun o o1 o2 => f1 o (by omega))
    show wp (f_X4_passHour_L61 r (n + 1) (nI (L 15)) μ1) _
    rw [f_X4_passHour_L61, h1.1, nI_clamp kl, hL1.2.2.1.2.1.2.2.2.2]
    exact wp_g (zgk_nI hL.1 (by omega)) (wp_it (nI_le (Nat.le_refl _) (by omega)) (wp_some ⟨h1, f1⟩))
theorem sh1C (h : RC r μ la la S) (hL : LC la μ L) (hr : la + 14 < r) (hM : SM L S) (hP : SP L L S) : wp (if S 6 = 0 ∧ S 7 = 0 then zbd (f_X4_driftAlong r 0 μ) fun r7 => zbd (f_X4_driftAlong r 1 μ) fun r8 => zbd (f_X4_move r r7 r8 μ) fun μ9 => some μ9 else some μ) (fun μ1 => RC r μ1 la la (sh1 L S) ∧ ∀ o, o ≠ r → μ1 o = μ o) := by
  by_cases hc : S 6 = 0 ∧ S 7 = 0
  · have e1 : sh1 L S = smove L L (sdrift L S 0) (sdrift L S 1) S := if_pos hc
    rw [e1]
    exact wp_it hc (wp_bdE (driftC h hL hM) (wp_bdE (driftC h hL hM) (wp_bdQ (moveC h hL hL ⟨Or.inr hr, Or.inr hr⟩ (dir_cases _) (dir_cases _) hP) (fun μ1 hμ => wp_some hμ))))
  · have e1 : sh1 L S = S := if_neg hc
    rw [e1]
    exact wp_ie hc (wp_some ⟨h, fun _ _ => rfl⟩)
theorem passHourC (h : RC r μ la la S) (hL : LC la μ L) (hO : LOk L) (hr : la + 14 < r) (hM : SM L S) (hP : SP L L S) : wp (f_X4_passHour r μ) (fun μ' => RC r μ' la la (shour L S) ∧ ∀ o, o ≠ r → o ≠ r + 2 → μ' o = μ o) := by
  have kl := zkd_31 hL.1 (by omega)
  have e5 : μ r 7 = S 5 := h.f 5 (by omega)
  have e6 : μ r 8 = S 6 := h.f 6 (by omega)
  have e7 : μ r 9 = S 7 := h.f 7 (by omega)
  unfold f_X4_passHour
  rw [e5, e6, e7]
  by_cases h5 : S 5 = 0
  · have es : shour L S = sh4 L (sh3 L (sh2 (sh1 L S))) := if_pos h5
    rw [es]
    refine wp_it h5 (wp_bdQ (sh1C h hL hr hM hP) fun μ1 hμ1 => ?_)
    obtain ⟨h1, f1⟩ := hμ1
    generalize sh1 L S = S1 at h1 ⊢
    have e2 : μ1 r 4 = S1 2 := h1.f 2 (by omega)
    rw [e2]
    refine wp_ls ?_
    have h2 : RC r (zup μ1 r 4 (S1 2 + 1)) la la (sh2 S1) := h1.put (k := 2) (by omega)
    have f2 : ∀ o, o ≠ r → zup μ1 r 4 (S1 2 + 1) o = μ o := fun o ho => by rw [zup_rne _ _ _ ho]; exact f1 o ho
    generalize zup μ1 r 4 (S1 2 + 1) = μ2 at h2 f2 ⊢
    have hL2 : LC la μ2 L := hL.congr (fun o o1 o2 => f2 o (by omega))
    generalize sh2 S1 = S2 at h2 ⊢
    have e4 : μ2 r 6 = S2 4 := h2.f 4 (by omega)
    rw [e4]
    refine wp_bdE (sidesC h2 hL2 hL2) (wp_ls ?_)
    have h3 : RC r (zup μ2 r 6 (S2 4 ||| sside L L (S2 0) (S2 1))) la la (sh3 L S2) := h2.put (k := 4) (by omega)
    have f3 : ∀ o, o ≠ r → zup μ2 r 6 (S2 4 ||| sside L L (S2 0) (S2 1)) o = μ o := fun o ho => by rw [zup_rne _ _ _ ho]; exact f2 o ho
    generalize zup μ2 r 6 (S2 4 ||| sside L L (S2 0) (S2 1)) = μ3 at h3 f3 ⊢
    generalize sh3 L S2 = S3 at h3 ⊢
    have hL3 : LC la μ3 L := hL.congr (fun o o1 o2 => f3 o (by omega))
    refine wp_bdQ (leaksC hL3 hO hr h3) fun μ4 hμ4 => ?_
    obtain ⟨h4, f4⟩ := hμ4
    have hL4 : LC la μ4 L := hL3.congr (fun o o1 o2 => f4 o (by omega))
    refine wp_bdE (allWaterC h4) ?_
    rw [h4.1, nI_clamp kl, hL4.2.2.1.1 8 (by omega)]
    unfold sh4
    generalize sleak L S3 (L 15) = S4 at h4 ⊢
    refine wp_g (zgk_nI hL.1 (by omega)) (wp_ls (wp_ls (wp_some ?_)))
    generalize (if sallw S4 ≤ nI (L 8) then (0 : Int32) else 1) = v
    exact ⟨h4.put (k := 5) (by omega), fun o ho1 ho2 => by rw [zup_rne _ _ _ ho1, f4 o ho2, f3 o ho1]⟩
  · have es : shour L S = S := if_neg h5
    rw [es]
    exact wp_ie h5 (wp_some ⟨h, fun _ _ _ => rfl⟩)
end RAFT2
/-! THE REFERENCE: its object is cell 310, all is 311, has 312, read 313, stands 314, water 315, now 316, then 317, costs 318, reached 319, beyond 320, least 321, corner 322, lying 323 -/
def LM (q : Nat) (μ : zM) (L : Nat → Nat) : Prop := q + 109 ≤ 4688 ∧ μ 310 10 = nI q ∧ ∀ i, i < 109 → μ 311 (q + i) = nI (L i)
def MC (μ : zM) (S : Nat → Int32) : Prop := (∀ k, k < 10 → μ 310 (k + 12) = S k) ∧ (∀ m, m < 5 → μ 314 m = S (20 + m)) ∧ (∀ p, p < 16 → μ 315 p = S (30 + p))
/-- what a day of the reference leaves as it was -/
def MF (μ μ' : zM) : Prop := (∀ o, o ≠ 310 → o ≠ 314 → o ≠ 315 → μ' o = μ o) ∧ (∀ k, k < 12 ∨ 22 ≤ k → μ' 310 k = μ 310 k)
theorem MF.rf (μ : zM) : MF μ μ := ⟨fun _ _ _ _ => rfl, fun _ _ => rfl⟩
theorem MF.tr {μ μ1 μ2 : zM} (h : MF μ μ1) (k : MF μ1 μ2) : MF μ μ2 := ⟨fun o h1 h2 h3 => (k.1 o h1 h2 h3).trans (h.1 o h1 h2 h3), fun j hj => (k.2 j hj).trans (h.2 j hj)⟩
theorem MF.put {μ : zM} {k : Nat} {v : Int32} (h : 12 ≤ k) (h2 : k < 22) : MF μ (zup μ 310 k v) := ⟨fun o h1 _ _ => zup_rne _ _ _ h1, fun j hj => zup_ne (by omega)⟩
theorem MF.stand {μ : zM} {k : Nat} {v : Int32} : MF μ (zup μ 314 k v) := ⟨fun o _ h1 _ => zup_rne _ _ _ h1, fun j hj => zup_ne (by omega)⟩
theorem MF.water {μ : zM} {k : Nat} {v : Int32} : MF μ (zup μ 315 k v) := ⟨fun o _ _ h1 => zup_rne _ _ _ h1, fun j hj => zup_ne (by omega)⟩
theorem LM.congr {q : Nat} {μ μ' : zM} {L : Nat → Nat} (h : LM q μ L) (h1 : μ' 311 = μ 311) (h2 : μ' 310 10 = μ 310 10) : LM q μ' L := by
  unfold LM at h ⊢
  rw [h1, h2]
  exact h
theorem LM.mf {q : Nat} {μ μ' : zM} {L : Nat → Nat} (h : LM q μ L) (f : MF μ μ') : LM q μ' L := h.congr (f.1 311 (by omega) (by omega) (by omega)) (f.2 10 (by omega))
theorem lin1 (a b k : Nat) : nI a + nI b * nI k = nI (a + b * k) := by rw [pk_mul, nI_add]
theorem lin2 (a b k c : Nat) : nI a + nI b * nI k + nI c = nI (a + b * k + c) := by rw [pk_mul, nI_add, nI_add]
section MODEL
variable {q : Nat} {μ μ' : zM} {L : Nat → Nat} {S : Nat → Int32}
theorem ofM {v : Int32} (i : Nat) (h : LM q μ L) (hv : v = nI i) (hi : i < 109) : f_X12_of 310 v μ = some (nI (L i)) := by
  unfold f_X12_of
  subst hv
  have := h.1
  rw [h.2.1, nI_add, zin_nI (by omega) (by omega), nI_clamp (by omega)]
  show some (μ 311 (q + i)) = _
  rw [h.2.2 i hi]
theorem MC.f (h : MC μ S) (k : Nat) (hk : k < 10) : μ 310 (k + 12) = S k := h.1 k hk
theorem MC.put (h : MC μ S) {k : Nat} {v : Int32} (hk : k < 10) : MC (zup μ 310 (k + 12) v) (su S k v) := by
  refine ⟨fun j hj => ?_, fun m hm => ?_, fun p hp => ?_⟩
  · by_cases hjk : j = k
    · subst hjk
      rw [zup_self, su_self]
    · rw [zup_ne (by omega), su_ne hjk]
      exact h.1 j hj
  · rw [zup_ne (by omega), su_ne (by omega)]
    exact h.2.1 m hm
  · rw [zup_ne (by omega), su_ne (by omega)]
    exact h.2.2 p hp
theorem MC.stand (h : MC μ S) {m : Nat} {v : Int32} (hm : m < 5) : MC (zup μ 314 m v) (su S (20 + m) v) := by
  refine ⟨fun j hj => ?_, fun i hi => ?_, fun p hp => ?_⟩
  · rw [zup_ne (by omega), su_ne (by omega)]
    exact h.1 j hj
  · by_cases him : i = m
    · subst him
      rw [zup_self, su_self]
    · rw [zup_ne (by omega), su_ne (by omega)]
      exact h.2.1 i hi
  · rw [zup_ne (by omega), su_ne (by omega)]
    exact h.2.2 p hp
theorem MC.water (h : MC μ S) {r : Nat} {v : Int32} (hr : r < 16) : MC (zup μ 315 r v) (su S (30 + r) v) := by
  refine ⟨fun j hj => ?_, fun i hi => ?_, fun p hp => ?_⟩
  · rw [zup_ne (by omega), su_ne (by omega)]
    exact h.1 j hj
  · rw [zup_ne (by omega), su_ne (by omega)]
    exact h.2.1 i hi
  · by_cases hpr : p = r
    · subst hpr
      rw [zup_self, su_self]
    · rw [zup_ne (by omega), su_ne (by omega)]
      exact h.2.2 p hp
theorem MC.congr (h : MC μ S) (h0 : μ' 310 = μ 310) (h1 : μ' 314 = μ 314) (h2 : μ' 315 = μ 315) : MC μ' S := by
  unfold MC at h ⊢
  rw [h0, h1, h2]
  exact h
theorem armM {v ax : Int32} {p : Nat} (h : LM q μ L) (hB : LB L) (hv : v = nI p) (hp : p < 2 ^ 31) : f_X12_arm 310 v ax μ = some (arm L p ax) := by
  subst hv
  have hb2 := hB.1.2.2.1
  have hb3 := hB.1.2.2.2.1
  refine wp_eq ?_
  unfold f_X12_arm arm
  by_cases hx : ax = 0
  · rw [if_pos hx]
    refine wp_bd (wp_ie (fun w => w hx) (wp_bdE (ofM 2 h rfl (by omega)) (wp_g (znz_nI (by omega) (by omega)) (wp_bdE (ofM 2 h rfl (by omega)) (wp_some (wp_some ?_))))))
    rw [nI_rem hp (by omega) (by omega)]
  · rw [if_neg hx]
    refine wp_bd (wp_it hx (wp_bdE (ofM 2 h rfl (by omega)) (wp_g (znz_nI (by omega) (by omega)) (wp_bdE (ofM 3 h rfl (by omega)) (wp_some (wp_some ?_))))))
    rw [pk_div hp (by omega) (by omega)]
theorem isInM (v x y : Int32) : f_X12_isIn v x y = b2i (decide (x ≤ v) && decide (v ≤ y)) := by
  unfold f_X12_isIn zl b2i
  by_cases h1 : v < x
  · rw [if_neg (fun w => w.1 h1), decide_eq_false (Int32.not_le.mpr h1)]
    rfl
  · by_cases h2 : y < v
    · rw [if_neg (fun w => w.2 h2), decide_eq_false (Int32.not_le.mpr h2), Bool.and_false]
      rfl
    · rw [if_pos ⟨h1, h2⟩, decide_eq_true (Int32.not_lt.mp h1), decide_eq_true (Int32.not_lt.mp h2)]
      rfl
theorem signM (x : Int32) : f_X12_sign x = sgn x := by
  unfold f_X12_sign sgn zl
  by_cases h : x ≤ 0
  · rw [if_pos h, if_neg (Int32.not_lt.mpr h)]
    by_cases h2 : 0 ≤ x
    · rw [if_pos h2, if_neg (Int32.not_lt.mpr h2)]
    · rw [if_neg h2, if_pos (Int32.not_le.mp h2)]
  · rw [if_neg h, if_pos (Int32.not_le.mp h)]
theorem sizeM (x : Int32) : f_X12_size x = zabs x := by
  unfold f_X12_size zabs zl
  rw [Int32.zero_sub]
theorem leanM {x : Int32} (h : LM q μ L) : f_X12_lean 310 x μ = some (leanS L x) := by
  refine wp_eq ?_
  unfold f_X12_lean leanS
  refine wp_bdE (ofM 6 h rfl (by omega)) (wp_ls (wp_some ?_))
  rw [sizeM, signM]
  by_cases hc : zabs x ≤ nI (L 6)
  · rw [if_pos hc, if_neg (Int32.not_lt.mpr hc)]
  · rw [if_neg hc, if_pos (Int32.not_le.mp hc)]
/-- LIST of the graves but one -/
def glB (L : Nat → Nat) (ax but : Int32) : Int32 := sm (L 12) (fun k => if nI k = but then 0 else nI (L (57 + 2 * k)) * arm L (L (56 + 2 * k)) ax)
theorem glB_none (hB : LB L) (ax : Int32) : glB L ax (-1) = gl L ax := by
  unfold glB gl
  refine sm_congr fun k hk => if_neg fun w => ?_
  have := hB.2.1.2.1
  have h2 : ¬ nI k < 0 := nI_pos (by omega)
  rw [w] at h2
  exact h2 (by decide)
theorem glM {ax but : Int32} (h : LM q μ L) (hB : LB L) : f_X12_gravesList 310 ax but μ = some (glB L ax but) := by
  have hb := hB.2.1.2.1
  refine wp_eq ?_
  unfold f_X12_gravesList
  have l1 : f_X12_gravesList_L5 310 ax but μ zFU 0 0 = some (glB L ax but) := by
    refine wp_eq (wlp0 (fun n k x => f_X12_gravesList_L5 310 ax but μ n x (nI k)) _ (L 12) (fun k x => x = sm k (fun k => if nI k = but then 0 else nI (L (57 + 2 * k)) * arm L (L (56 + 2 * k)) ax)) (by omega) _ rfl ?_ ?_)
    · intro n k x hk hI ih
      show wp (f_X12_gravesList_L5 310 ax but μ (n + 1) x (nI k)) _
      rw [f_X12_gravesList_L5]
      have := hB.2.2.2.1 k hk
      refine wp_bdE (ofM 12 h rfl (by omega)) (wp_ie (nI_ge hk (by omega)) ?_)
      have go : ∀ v, v = (if nI k = but then 0 else nI (L (57 + 2 * k)) * arm L (L (56 + 2 * k)) ax) → wp (f_X12_gravesList_L5 310 ax but μ n (x + v) (nI (k + 1))) _ := fun v hv => ih (x + v) (by rw [hv, hI]; rfl)
      by_cases hc : nI k = but
      · refine wp_bd (wp_ie (fun w => w hc) (wp_some (wp_ls (wp_ls ?_))))
        rw [nI_1]
        exact go 0 (by rw [if_pos hc])
      · refine wp_bd (wp_it hc (wp_bdE (ofM (57 + 2 * k) h ((lin2 56 2 k 1).trans (by rw [show 56 + 2 * k + 1 = 57 + 2 * k by omega])) (by omega)) (wp_bdE (ofM (56 + 2 * k) h (lin1 56 2 k) (by omega)) (wp_bdE (armM h hB rfl (by omega)) (wp_some (wp_ls (wp_ls ?_)))))))
        rw [nI_1]
        exact go _ (by rw [if_neg hc])
    · intro n x hI
      show wp (f_X12_gravesList_L5 310 ax but μ (n + 1) x (nI (L 12))) _
      rw [f_X12_gravesList_L5]
      exact wp_bdE (ofM 12 h rfl (by omega)) (wp_it (nI_le (Nat.le_refl _) (by omega)) (wp_some hI))
  exact wp_bdE l1 (wp_some rfl)
theorem sizesM (h : LM q μ L) (hB : LB L) : f_X12_sizes 310 μ = some (szs L) := by
  have hb := hB.2.1.2.2.1
  refine wp_eq ?_
  unfold f_X12_sizes
  have l1 : f_X12_sizes_L4 310 μ zFU 0 0 = some (szs L) := by
    refine wp_eq (wlp0 (fun n k x => f_X12_sizes_L4 310 μ n x (nI k)) _ (L 13) (fun k x => x = sm k (fun k => nI (L (80 + k)))) (by omega) _ rfl ?_ ?_)
    · intro n k x hk hI ih
      show wp (f_X12_sizes_L4 310 μ (n + 1) x (nI k)) _
      rw [f_X12_sizes_L4]
      refine wp_bdE (ofM 13 h rfl (by omega)) (wp_ie (nI_ge hk (by omega)) (wp_bdE (ofM (80 + k) h (nI_add 80 k) (by omega)) (wp_ls (wp_ls ?_))))
      rw [nI_1]
      exact ih _ (by rw [hI]; rfl)
    · intro n x hI
      show wp (f_X12_sizes_L4 310 μ (n + 1) x (nI (L 13))) _
      rw [f_X12_sizes_L4]
      exact wp_bdE (ofM 13 h rfl (by omega)) (wp_it (nI_le (Nat.le_refl _) (by omega)) (wp_some hI))
  exact wp_bdE l1 (wp_some rfl)
/-- a way of the wind, or none -/
def wayOk (v : Int32) : Prop := v = -1 ∨ v = 0 ∨ v = 1 ∨ v = 2 ∨ v = 3
theorem axisM {v : Int32} (h : wayOk v) (h1 : ¬ v = -1) : f_X12_axisOf v = axisS v := by
  rcases h with h | h | h | h | h
  · exact absurd h h1
  all_goals
    subst h
    decide
theorem sign2M (v : Int32) : f_X12_signOf v = signS v := by
  unfold f_X12_signOf signS zl
  by_cases h1 : v = 1
  · rw [if_neg (fun w => w.1 h1), if_pos (Or.inl h1)]
  · by_cases h3 : v = 2
    · rw [if_neg (fun w => w.2 h3), if_pos (Or.inr h3)]
    · rw [if_pos ⟨h1, h3⟩, if_neg (fun w => w.elim h1 h3)]
theorem blownM {way force ax : Int32} (h : LM q μ L) (hB : LB L) (hw : wayOk way) : f_X12_blown 310 way force ax μ = some (sblown L way force ax) := by
  refine wp_eq ?_
  unfold f_X12_blown
  by_cases h1 : way = -1
  · have es : sblown L way force ax = 0 := if_neg (fun w => w.1 h1)
    rw [es]
    exact wp_bd (wp_bd (wp_it h1 (wp_some (wp_ie (by decide) (wp_some (wp_some rfl))))))
  · rw [axisM hw h1]
    by_cases h2 : axisS way = ax
    · have es : sblown L way force ax = if szs L * force < nI (L 7) then 0 else signS way := if_pos ⟨h1, h2⟩
      rw [es]
      refine wp_bd (wp_bd (wp_ie h1 (wp_ie (fun w => w h2) (wp_bdE (sizesM h hB) (wp_bdE (ofM 7 h rfl (by omega)) ?_)))))
      by_cases h3 : szs L * force < nI (L 7)
      · refine wp_it h3 ?_
        rw [if_pos h3]
        exact (wp_some (wp_ie (by decide) (wp_some (wp_some rfl))))
      · refine wp_ie h3 ?_
        rw [if_neg h3]
        exact (wp_some (wp_it rfl (wp_some (wp_some (sign2M way)))))
    · have es : sblown L way force ax = 0 := if_neg (fun w => h2 w.2)
      rw [es]
      exact wp_bd (wp_bd (wp_ie h1 (wp_it h2 (wp_some (wp_ie (by decide) (wp_some (wp_some rfl)))))))

theorem canLieM_loop {x y : Nat} {b : Bool} (h : LM q μ L) (hB : LB L) (hx : x ≤ 12) (hy : y ≤ 12) : f_X12_canLie_L47 310 (nI x) (nI y) μ zFU (b2i b) 0 = some (b2i (b && (List.range (L 11)).all (fun k => !(decide (x ≤ L (16 + 2 * k)) && decide (L (16 + 2 * k) < x + L 2) && decide (y ≤ L (17 + 2 * k)) && decide (L (17 + 2 * k) < y + L 3))))) := by
  have hb := hB.2.1.1
  have hb2 := hB.1.2.2.1
  have hb3 := hB.1.2.2.2.1
  refine wp_eq (wlp0 (fun n k v => f_X12_canLie_L47 310 (nI x) (nI y) μ n v (nI k)) _ (L 11) (fun j v => v = b2i (b && (List.range j).all (fun k => !(decide (x ≤ L (16 + 2 * k)) && decide (L (16 + 2 * k) < x + L 2) && decide (y ≤ L (17 + 2 * k)) && decide (L (17 + 2 * k) < y + L 3))))) (by omega) _ (by rw [List.range_zero, List.all_nil, Bool.and_true]) ?_ ?_)
  · intro n k v hk hI ih
    show wp (f_X12_canLie_L47 310 (nI x) (nI y) μ (n + 1) v (nI k)) _
    rw [f_X12_canLie_L47]
    have hr := hB.2.2.1 k hk
    refine wp_bdE (ofM 11 h rfl (by omega)) (wp_ie (nI_ge hk (by omega)) ?_)
    rw [hI]
    have ih2 : ∀ c : Bool, c = ((b && (List.range k).all (fun k => !(decide (x ≤ L (16 + 2 * k)) && decide (L (16 + 2 * k) < x + L 2) && decide (y ≤ L (17 + 2 * k)) && decide (L (17 + 2 * k) < y + L 3)))) && !(decide (x ≤ L (16 + 2 * k)) && decide (L (16 + 2 * k) < x + L 2) && decide (y ≤ L (17 + 2 * k)) && decide (L (17 + 2 * k) < y + L 3))) → wp (f_X12_canLie_L47 310 (nI x) (nI y) μ n (b2i c) (nI (k + 1))) _ := fun c hc => ih _ (by rw [List.range_succ, List.all_append, List.all_cons, List.all_nil, Bool.and_true, ← Bool.and_assoc, hc])
    generalize (b && (List.range k).all (fun k => !(decide (x ≤ L (16 + 2 * k)) && decide (L (16 + 2 * k) < x + L 2) && decide (y ≤ L (17 + 2 * k)) && decide (L (17 + 2 * k) < y + L 3)))) = c0 at ih2
    clear ih
    cases c0 with
    | false =>
      refine wp_bd (wp_bd (wp_it (by decide) (wp_some (wp_ie (by decide) (wp_some (wp_ls ?_))))))
      rw [nI_1]
      exact ih2 false (Bool.false_and _).symm
    | true =>
      have ex : nI x + nI (L 2) - 1 = nI (x + L 2 - 1) := by rw [nI_add]; exact pk_sub (b := 1) (by omega)
      have ey : nI y + nI (L 3) - 1 = nI (y + L 3 - 1) := by rw [nI_add]; exact pk_sub (b := 1) (by omega)
      by_cases h1 : x ≤ L (16 + 2 * k) ∧ L (16 + 2 * k) < x + L 2
      · have e1 : f_X12_isIn (nI (L (16 + 2 * k))) (nI x) (nI x + nI (L 2) - 1) = 1 := by
          rw [isInM, ex, decide_eq_true (nI_le h1.1 (by omega)), decide_eq_true (nI_le (by omega) (by omega))]
          rfl
        by_cases h2 : y ≤ L (17 + 2 * k) ∧ L (17 + 2 * k) < y + L 3
        · have e2 : f_X12_isIn (nI (L (17 + 2 * k))) (nI y) (nI y + nI (L 3) - 1) = 1 := by
            rw [isInM, ey, decide_eq_true (nI_le h2.1 (by omega)), decide_eq_true (nI_le (by omega) (by omega))]
            rfl
          refine wp_bd (wp_bd (wp_ie (by decide) (wp_bdE (ofM (16 + 2 * k) h (lin1 16 2 k) (by omega)) (wp_bdE (ofM 2 h rfl (by omega)) (wp_ie (by rw [e1]; decide) (wp_bdE (ofM (17 + 2 * k) h ((lin2 16 2 k 1).trans (by rw [show 16 + 2 * k + 1 = 17 + 2 * k by omega])) (by omega)) (wp_bdE (ofM 3 h rfl (by omega)) (wp_it (by rw [e2]; decide) (wp_some (wp_ie (by decide) (wp_some (wp_ls ?_))))))))))))
          rw [nI_1]
          exact ih2 false (by rw [decide_eq_true h1.1, decide_eq_true h1.2, decide_eq_true h2.1, decide_eq_true h2.2]; rfl)
        · have e2 : f_X12_isIn (nI (L (17 + 2 * k))) (nI y) (nI y + nI (L 3) - 1) = 0 := by
            rw [isInM, ey, b2i_ne, Bool.and_eq_false_iff]
            by_cases h3 : y ≤ L (17 + 2 * k)
            · exact Or.inr (decide_eq_false (nI_ge (by omega) (by omega)))
            · exact Or.inl (decide_eq_false (nI_ge (by omega) (by omega)))
          refine wp_bd (wp_bd (wp_ie (by decide) (wp_bdE (ofM (16 + 2 * k) h (lin1 16 2 k) (by omega)) (wp_bdE (ofM 2 h rfl (by omega)) (wp_ie (by rw [e1]; decide) (wp_bdE (ofM (17 + 2 * k) h ((lin2 16 2 k 1).trans (by rw [show 16 + 2 * k + 1 = 17 + 2 * k by omega])) (by omega)) (wp_bdE (ofM 3 h rfl (by omega)) (wp_ie (by rw [e2]; decide) (wp_some (wp_it rfl (wp_some (wp_ls ?_))))))))))))
          rw [nI_1]
          refine ih2 true ?_
          have : (decide (y ≤ L (17 + 2 * k)) && decide (L (17 + 2 * k) < y + L 3)) = false := by
            rw [Bool.and_eq_false_iff, decide_eq_false_iff_not, decide_eq_false_iff_not]
            omega
          rw [Bool.and_assoc, this, Bool.and_false]
          rfl
      · have e1 : f_X12_isIn (nI (L (16 + 2 * k))) (nI x) (nI x + nI (L 2) - 1) = 0 := by
          rw [isInM, ex, b2i_ne, Bool.and_eq_false_iff]
          by_cases h3 : x ≤ L (16 + 2 * k)
          · exact Or.inr (decide_eq_false (nI_ge (by omega) (by omega)))
          · exact Or.inl (decide_eq_false (nI_ge (by omega) (by omega)))
        refine wp_bd (wp_bd (wp_ie (by decide) (wp_bdE (ofM (16 + 2 * k) h (lin1 16 2 k) (by omega)) (wp_bdE (ofM 2 h rfl (by omega)) (wp_it e1 (wp_some (wp_it rfl (wp_some (wp_ls ?_)))))))))
        rw [nI_1]
        refine ih2 true ?_
        have : (decide (x ≤ L (16 + 2 * k)) && decide (L (16 + 2 * k) < x + L 2)) = false := by
          rw [Bool.and_eq_false_iff, decide_eq_false_iff_not, decide_eq_false_iff_not]
          omega
        rw [this, Bool.false_and, Bool.false_and]
        rfl
  · intro n v hI
    show wp (f_X12_canLie_L47 310 (nI x) (nI y) μ (n + 1) v (nI (L 11))) _
    rw [f_X12_canLie_L47]
    exact wp_bdE (ofM 11 h rfl (by omega)) (wp_it (nI_le (Nat.le_refl _) (by omega)) (wp_some hI))
theorem canLieM_no {v w : Int32} (h : LM q μ L) (hB : LB L) : f_X12_canLie_L47 310 v w μ zFU 0 0 = some 0 := by
  have hb := hB.2.1.1
  refine wp_eq (wlp0 (fun n k x => f_X12_canLie_L47 310 v w μ n x (nI k)) _ (L 11) (fun _ x => x = 0) (by omega) _ rfl ?_ ?_)
  · intro n k x hk hI ih
    show wp (f_X12_canLie_L47 310 v w μ (n + 1) x (nI k)) _
    rw [f_X12_canLie_L47]
    refine wp_bdE (ofM 11 h rfl (by omega)) (wp_ie (nI_ge hk (by omega)) (wp_bd (wp_bd (wp_it hI (wp_some (wp_ie (by decide) (wp_some (wp_ls ?_))))))))
    rw [nI_1]
    exact ih 0 rfl
  · intro n x hI
    show wp (f_X12_canLie_L47 310 v w μ (n + 1) x (nI (L 11))) _
    rw [f_X12_canLie_L47]
    exact wp_bdE (ofM 11 h rfl (by omega)) (wp_it (nI_le (Nat.le_refl _) (by omega)) (wp_some hI))
theorem canLieM {v w : Int32} (h : LM q μ L) (hB : LB L) (hx : crd v) (hy : crd w) : f_X12_canLie 310 v w μ = some (b2i (canL L L v w)) := by
  have hb0 := hB.1.1
  have hb1 := hB.1.2.1
  have hb2 := hB.1.2.2.1
  have hb3 := hB.1.2.2.2.1
  refine wp_eq ?_
  unfold f_X12_canLie
  rcases hx with hx | ⟨x, hx, rfl⟩
  · have e : canL L L v w = false := by
      unfold canL
      rw [decide_eq_false (Int32.not_le.mpr hx)]
      rfl
    rw [e]
    exact wp_bd (wp_bd (wp_it hx (wp_some (wp_ie (by decide) (wp_some (wp_bdE (canLieM_no h hB) (wp_g (by decide) (wp_some rfl))))))))
  · rcases hy with hy | ⟨y, hy, rfl⟩
    · have e : canL L L (nI x) w = false := by
        unfold canL
        rw [decide_eq_false (Int32.not_le.mpr hy), Bool.false_and, Bool.and_false]
      rw [e]
      exact wp_bd (wp_bd (wp_ie (nI_pos (by omega)) (wp_it hy (wp_some (wp_ie (by decide) (wp_some (wp_bdE (canLieM_no h hB) (wp_g (by decide) (wp_some rfl)))))))))
    · have ec : canL L L (nI x) (nI y) = clB L L x y := by
        unfold canL
        rw [decide_eq_true (nI_pos' (by omega)), decide_eq_true (nI_pos' (by omega)), nI_clamp (by omega), nI_clamp (by omega)]
        rfl
      rw [ec]
      refine wp_bd (wp_bd (wp_ie (nI_pos (by omega)) (wp_ie (nI_pos (by omega)) ?_)))
      unfold clB
      refine wp_bdE (ofM 2 h rfl (by omega)) (wp_bdE (ofM 0 h rfl (by omega)) ?_)
      rw [nI_add]
      by_cases h1 : x + L 2 ≤ L 0
      · refine wp_ie (nI_nlt h1 (by omega)) (wp_bdE (ofM 3 h rfl (by omega)) (wp_bdE (ofM 1 h rfl (by omega)) ?_))
        rw [nI_add]
        by_cases h2 : y + L 3 ≤ L 1
        · refine wp_ie (nI_nlt h2 (by omega)) (wp_some (wp_it rfl (wp_some (wp_bdE (canLieM_loop (b := true) h hB hx hy) (wp_g (b2i_01 _) (wp_some ?_))))))
          rw [decide_eq_true h1, decide_eq_true h2, Bool.true_and, Bool.true_and]
        · refine wp_it (nI_lt (by omega) (by omega)) (wp_some (wp_ie (by decide) (wp_some (wp_bdE (canLieM_no h hB) (wp_g (by decide) (wp_some ?_))))))
          rw [decide_eq_false h2, Bool.false_and, Bool.and_false]
          rfl
      · refine wp_it (nI_lt (by omega) (by omega)) (wp_some (wp_ie (by decide) (wp_some (wp_bdE (canLieM_no h hB) (wp_g (by decide) (wp_some ?_))))))
        rw [decide_eq_false h1, Bool.false_and]
        rfl
theorem canLieOtherM_loop {B : Nat → Nat} {x y : Nat} {b : Bool} (h : LM q μ L) (hB : LB L) (hB2 : 1 ≤ B 2 ∧ B 2 ≤ 4) (hB3 : 1 ≤ B 3 ∧ B 3 ≤ 4) (hx : x ≤ 12) (hy : y ≤ 12) : f_X12_canLieOther_L41 310 (nI x) (nI y) (nI (B 2)) (nI (B 3)) μ zFU (b2i b) 0 = some (b2i (b && (List.range (L 11)).all (fun k => !(decide (x ≤ L (16 + 2 * k)) && decide (L (16 + 2 * k) < x + B 2) && decide (y ≤ L (17 + 2 * k)) && decide (L (17 + 2 * k) < y + B 3))))) := by
  have hb := hB.2.1.1
  have hb2 := hB.1.2.2.1
  have hb3 := hB.1.2.2.2.1
  refine wp_eq (wlp0 (fun n k v => f_X12_canLieOther_L41 310 (nI x) (nI y) (nI (B 2)) (nI (B 3)) μ n v (nI k)) _ (L 11) (fun j v => v = b2i (b && (List.range j).all (fun k => !(decide (x ≤ L (16 + 2 * k)) && decide (L (16 + 2 * k) < x + B 2) && decide (y ≤ L (17 + 2 * k)) && decide (L (17 + 2 * k) < y + B 3))))) (by omega) _ (by rw [List.range_zero, List.all_nil, Bool.and_true]) ?_ ?_)
  · intro n k v hk hI ih
    show wp (f_X12_canLieOther_L41 310 (nI x) (nI y) (nI (B 2)) (nI (B 3)) μ (n + 1) v (nI k)) _
    rw [f_X12_canLieOther_L41]
    have hr := hB.2.2.1 k hk
    refine wp_bdE (ofM 11 h rfl (by omega)) (wp_ie (nI_ge hk (by omega)) ?_)
    rw [hI]
    have ih2 : ∀ c : Bool, c = ((b && (List.range k).all (fun k => !(decide (x ≤ L (16 + 2 * k)) && decide (L (16 + 2 * k) < x + B 2) && decide (y ≤ L (17 + 2 * k)) && decide (L (17 + 2 * k) < y + B 3)))) && !(decide (x ≤ L (16 + 2 * k)) && decide (L (16 + 2 * k) < x + B 2) && decide (y ≤ L (17 + 2 * k)) && decide (L (17 + 2 * k) < y + B 3))) → wp (f_X12_canLieOther_L41 310 (nI x) (nI y) (nI (B 2)) (nI (B 3)) μ n (b2i c) (nI (k + 1))) _ := fun c hc => ih _ (by rw [List.range_succ, List.all_append, List.all_cons, List.all_nil, Bool.and_true, ← Bool.and_assoc, hc])
    generalize (b && (List.range k).all (fun k => !(decide (x ≤ L (16 + 2 * k)) && decide (L (16 + 2 * k) < x + B 2) && decide (y ≤ L (17 + 2 * k)) && decide (L (17 + 2 * k) < y + B 3)))) = c0 at ih2
    clear ih
    cases c0 with
    | false =>
      refine wp_bd (wp_bd (wp_it (by decide) (wp_some (wp_ie (by decide) (wp_some (wp_ls ?_))))))
      rw [nI_1]
      exact ih2 false (Bool.false_and _).symm
    | true =>
      have ex : nI x + nI (B 2) - 1 = nI (x + B 2 - 1) := by rw [nI_add]; exact pk_sub (b := 1) (by omega)
      have ey : nI y + nI (B 3) - 1 = nI (y + B 3 - 1) := by rw [nI_add]; exact pk_sub (b := 1) (by omega)
      by_cases h1 : x ≤ L (16 + 2 * k) ∧ L (16 + 2 * k) < x + B 2
      · have e1 : f_X12_isIn (nI (L (16 + 2 * k))) (nI x) (nI x + nI (B 2) - 1) = 1 := by
          rw [isInM, ex, decide_eq_true (nI_le h1.1 (by omega)), decide_eq_true (nI_le (by omega) (by omega))]
          rfl
        by_cases h2 : y ≤ L (17 + 2 * k) ∧ L (17 + 2 * k) < y + B 3
        · have e2 : f_X12_isIn (nI (L (17 + 2 * k))) (nI y) (nI y + nI (B 3) - 1) = 1 := by
            rw [isInM, ey, decide_eq_true (nI_le h2.1 (by omega)), decide_eq_true (nI_le (by omega) (by omega))]
            rfl
          refine wp_bd (wp_bd (wp_ie (by decide) (wp_bdE (ofM (16 + 2 * k) h (lin1 16 2 k) (by omega)) (wp_ie (by rw [e1]; decide) (wp_bdE (ofM (17 + 2 * k) h ((lin2 16 2 k 1).trans (by rw [show 16 + 2 * k + 1 = 17 + 2 * k by omega])) (by omega)) (wp_it (by rw [e2]; decide) (wp_some (wp_ie (by decide) (wp_some (wp_ls ?_))))))))))
          rw [nI_1]
          exact ih2 false (by rw [decide_eq_true h1.1, decide_eq_true h1.2, decide_eq_true h2.1, decide_eq_true h2.2]; rfl)
        · have e2 : f_X12_isIn (nI (L (17 + 2 * k))) (nI y) (nI y + nI (B 3) - 1) = 0 := by
            rw [isInM, ey, b2i_ne, Bool.and_eq_false_iff]
            by_cases h3 : y ≤ L (17 + 2 * k)
            · exact Or.inr (decide_eq_false (nI_ge (by omega) (by omega)))
            · exact Or.inl (decide_eq_false (nI_ge (by omega) (by omega)))
          refine wp_bd (wp_bd (wp_ie (by decide) (wp_bdE (ofM (16 + 2 * k) h (lin1 16 2 k) (by omega)) (wp_ie (by rw [e1]; decide) (wp_bdE (ofM (17 + 2 * k) h ((lin2 16 2 k 1).trans (by rw [show 16 + 2 * k + 1 = 17 + 2 * k by omega])) (by omega)) (wp_ie (by rw [e2]; decide) (wp_some (wp_it rfl (wp_some (wp_ls ?_))))))))))
          rw [nI_1]
          refine ih2 true ?_
          have : (decide (y ≤ L (17 + 2 * k)) && decide (L (17 + 2 * k) < y + B 3)) = false := by
            rw [Bool.and_eq_false_iff, decide_eq_false_iff_not, decide_eq_false_iff_not]
            omega
          rw [Bool.and_assoc, this, Bool.and_false]
          rfl
      · have e1 : f_X12_isIn (nI (L (16 + 2 * k))) (nI x) (nI x + nI (B 2) - 1) = 0 := by
          rw [isInM, ex, b2i_ne, Bool.and_eq_false_iff]
          by_cases h3 : x ≤ L (16 + 2 * k)
          · exact Or.inr (decide_eq_false (nI_ge (by omega) (by omega)))
          · exact Or.inl (decide_eq_false (nI_ge (by omega) (by omega)))
        refine wp_bd (wp_bd (wp_ie (by decide) (wp_bdE (ofM (16 + 2 * k) h (lin1 16 2 k) (by omega)) (wp_it e1 (wp_some (wp_it rfl (wp_some (wp_ls ?_))))))))
        rw [nI_1]
        refine ih2 true ?_
        have : (decide (x ≤ L (16 + 2 * k)) && decide (L (16 + 2 * k) < x + B 2)) = false := by
          rw [Bool.and_eq_false_iff, decide_eq_false_iff_not, decide_eq_false_iff_not]
          omega
        rw [this, Bool.false_and, Bool.false_and]
        rfl
  · intro n v hI
    show wp (f_X12_canLieOther_L41 310 (nI x) (nI y) (nI (B 2)) (nI (B 3)) μ (n + 1) v (nI (L 11))) _
    rw [f_X12_canLieOther_L41]
    exact wp_bdE (ofM 11 h rfl (by omega)) (wp_it (nI_le (Nat.le_refl _) (by omega)) (wp_some hI))
theorem canLieOtherM_no {B : Nat → Nat} {v w : Int32} (h : LM q μ L) (hB : LB L) : f_X12_canLieOther_L41 310 v w (nI (B 2)) (nI (B 3)) μ zFU 0 0 = some 0 := by
  have hb := hB.2.1.1
  refine wp_eq (wlp0 (fun n k x => f_X12_canLieOther_L41 310 v w (nI (B 2)) (nI (B 3)) μ n x (nI k)) _ (L 11) (fun _ x => x = 0) (by omega) _ rfl ?_ ?_)
  · intro n k x hk hI ih
    show wp (f_X12_canLieOther_L41 310 v w (nI (B 2)) (nI (B 3)) μ (n + 1) x (nI k)) _
    rw [f_X12_canLieOther_L41]
    refine wp_bdE (ofM 11 h rfl (by omega)) (wp_ie (nI_ge hk (by omega)) (wp_bd (wp_bd (wp_it hI (wp_some (wp_ie (by decide) (wp_some (wp_ls ?_))))))))
    rw [nI_1]
    exact ih 0 rfl
  · intro n x hI
    show wp (f_X12_canLieOther_L41 310 v w (nI (B 2)) (nI (B 3)) μ (n + 1) x (nI (L 11))) _
    rw [f_X12_canLieOther_L41]
    exact wp_bdE (ofM 11 h rfl (by omega)) (wp_it (nI_le (Nat.le_refl _) (by omega)) (wp_some hI))
theorem canLieOtherM {B : Nat → Nat} {v w : Int32} (h : LM q μ L) (hB : LB L) (hB2 : 1 ≤ B 2 ∧ B 2 ≤ 4) (hB3 : 1 ≤ B 3 ∧ B 3 ≤ 4) (hx : crd v) (hy : crd w) : f_X12_canLieOther 310 v w (nI (B 2)) (nI (B 3)) μ = some (b2i (canL L B v w)) := by
  have hb0 := hB.1.1
  have hb1 := hB.1.2.1
  have hb2 := hB.1.2.2.1
  have hb3 := hB.1.2.2.2.1
  refine wp_eq ?_
  unfold f_X12_canLieOther
  rcases hx with hx | ⟨x, hx, rfl⟩
  · have e : canL L B v w = false := by
      unfold canL
      rw [decide_eq_false (Int32.not_le.mpr hx)]
      rfl
    rw [e]
    exact wp_bd (wp_bd (wp_it hx (wp_some (wp_ie (by decide) (wp_some (wp_bdE (canLieOtherM_no h hB) (wp_g (by decide) (wp_some rfl))))))))
  · rcases hy with hy | ⟨y, hy, rfl⟩
    · have e : canL L B (nI x) w = false := by
        unfold canL
        rw [decide_eq_false (Int32.not_le.mpr hy), Bool.false_and, Bool.and_false]
      rw [e]
      exact wp_bd (wp_bd (wp_ie (nI_pos (by omega)) (wp_it hy (wp_some (wp_ie (by decide) (wp_some (wp_bdE (canLieOtherM_no h hB) (wp_g (by decide) (wp_some rfl)))))))))
    · have ec : canL L B (nI x) (nI y) = clB L B x y := by
        unfold canL
        rw [decide_eq_true (nI_pos' (by omega)), decide_eq_true (nI_pos' (by omega)), nI_clamp (by omega), nI_clamp (by omega)]
        rfl
      rw [ec]
      refine wp_bd (wp_bd (wp_ie (nI_pos (by omega)) (wp_ie (nI_pos (by omega)) ?_)))
      unfold clB
      refine wp_bdE (ofM 0 h rfl (by omega)) ?_
      rw [nI_add]
      by_cases h1 : x + B 2 ≤ L 0
      · refine wp_ie (nI_nlt h1 (by omega)) (wp_bdE (ofM 1 h rfl (by omega)) ?_)
        rw [nI_add]
        by_cases h2 : y + B 3 ≤ L 1
        · refine wp_ie (nI_nlt h2 (by omega)) (wp_some (wp_it rfl (wp_some (wp_bdE (canLieOtherM_loop (b := true) h hB hB2 hB3 hx hy) (wp_g (b2i_01 _) (wp_some ?_))))))
          rw [decide_eq_true h1, decide_eq_true h2, Bool.true_and, Bool.true_and]
        · refine wp_it (nI_lt (by omega) (by omega)) (wp_some (wp_ie (by decide) (wp_some (wp_bdE (canLieOtherM_no h hB) (wp_g (by decide) (wp_some ?_))))))
          rw [decide_eq_false h2, Bool.false_and, Bool.and_false]
          rfl
      · refine wp_it (nI_lt (by omega) (by omega)) (wp_some (wp_ie (by decide) (wp_some (wp_bdE (canLieOtherM_no h hB) (wp_g (by decide) (wp_some ?_))))))
        rw [decide_eq_false h1, Bool.false_and]
        rfl
end MODEL
/-! the reference's raft -/
theorem sm_tail {n m : Nat} {f : Nat → Int32} (h : n ≤ m) (hz : ∀ k, n ≤ k → k < m → f k = 0) : sm m f = sm n f := by
  induction m with
  | zero =>
    have : n = 0 := by omega
    rw [this]
  | succ m ih =>
    by_cases hn : n = m + 1
    · rw [hn]
    · show sm m f + f m = _
      rw [ih (by omega) (fun k h1 h2 => hz k h1 (by omega)), hz m (by omega) (by omega), Int32.add_zero]
def SWz (L : Nat → Nat) (S : Nat → Int32) : Prop := ∀ p, L 2 * L 3 ≤ p → p < 16 → S (30 + p) = 0
theorem or4 (p1 p2 p3 p4 : Prop) [Decidable p1] [Decidable p2] [Decidable p3] [Decidable p4] : (((if ¬ p1 then (0 : Int32) else 1) + (if ¬ p2 then 0 else 2)) + (if ¬ p3 then 0 else 4)) + (if ¬ p4 then 0 else 8) = (((if p1 then 1 else 0) ||| (if p2 then 2 else 0)) ||| (if p3 then 4 else 0)) ||| (if p4 then 8 else 0) := by
  by_cases h1 : p1 <;> by_cases h2 : p2 <;> by_cases h3 : p3 <;> by_cases h4 : p4 <;> simp only [h1, h2, h3, h4, reduceIte, not_true_eq_false, not_false_eq_true] <;> decide
section MODEL2
variable {q : Nat} {μ μ' : zM} {L : Nat → Nat} {S : Nat → Int32}
theorem sidesM {v w : Int32} (h : LM q μ L) : f_X12_sidesAt 310 v w μ = some (sside L L v w) := by
  refine wp_eq ?_
  unfold f_X12_sidesAt
  refine wp_ls (wp_bdE (ofM 2 h rfl (by omega)) (wp_bdE (ofM 0 h rfl (by omega)) (wp_ls (wp_bdE (ofM 3 h rfl (by omega)) (wp_bdE (ofM 1 h rfl (by omega)) (wp_ls (wp_ls (wp_some ?_))))))))
  exact or4 _ _ _ _
theorem placesM (h : LM q μ L) : f_X12_places 310 μ = some (nI (L 2 * L 3)) := by
  refine wp_eq ?_
  unfold f_X12_places
  refine wp_bdE (ofM 2 h rfl (by omega)) (wp_bdE (ofM 3 h rfl (by omega)) (wp_some ?_))
  exact pk_mul _ _
theorem mournersM (h : LM q μ L) : f_X12_mourners 310 μ = some (nI (L 14)) := by
  refine wp_eq ?_
  unfold f_X12_mourners
  exact wp_bdE (ofM 14 h rfl (by omega)) (wp_some rfl)
theorem ofMournerM {v w : Int32} {m j : Nat} (h : LM q μ L) (hv : v = nI m) (hw : w = nI j) (hm : m < 5) (hj : j < 3) : f_X12_ofMourner 310 v w μ = some (nI (L (86 + 3 * m + j))) := by
  subst hv hw
  refine wp_eq ?_
  unfold f_X12_ofMourner
  exact wp_bdE (ofM (86 + 3 * m + j) h (lin2 86 3 m j) (by omega)) (wp_some rfl)
theorem isPlaceM {v : Int32} (h : LM q μ L) (hB : LB L) : f_X12_isPlace 310 v μ = some (b2i (isPl L v)) := by
  have h16 := pl16 hB
  have hb2 := hB.1.2.2.1
  have hb3 := hB.1.2.2.2.1
  have hpos : 1 ≤ L 2 * L 3 := Nat.mul_le_mul hb2.1 hb3.1
  refine wp_eq ?_
  unfold f_X12_isPlace
  refine wp_bdE (placesM h) ?_
  have e : f_X12_isIn v 0 (nI (L 2 * L 3) - 1) = b2i (isPl L v) := by
    rw [isInM, show nI (L 2 * L 3) - (1 : Int32) = nI (L 2 * L 3 - 1) from pk_sub hpos]
    unfold isPl
    by_cases h0 : v < 0
    · rw [decide_eq_false (Int32.not_le.mpr h0), Bool.false_and, Bool.false_and]
    · obtain ⟨j, j1, rfl⟩ := nI_of h0
      congr 2
      exact decide_eq_decide.mpr (by rw [nI_leI j1 (by omega), nI_ltI j1 (by omega)]; omega)
  rw [e]
  exact wp_g (b2i_01 _) (wp_some rfl)
theorem isMournerM {v : Int32} (h : LM q μ L) (hB : LB L) : f_X12_isMourner 310 v μ = some (b2i (isMo L v)) := by
  have h5 := hB.2.1.2.2.2.1
  refine wp_eq ?_
  unfold f_X12_isMourner
  refine wp_bdE (mournersM h) ?_
  have e : f_X12_isIn v 0 (nI (L 14) - 1) = b2i (isMo L v) := by
    rw [isInM]
    unfold isMo
    by_cases h0 : v < 0
    · rw [decide_eq_false (Int32.not_le.mpr h0), Bool.false_and, Bool.false_and]
    · obtain ⟨j, j1, rfl⟩ := nI_of h0
      congr 2
      refine decide_eq_decide.mpr ?_
      by_cases hz : L 14 = 0
      · rw [hz]
        constructor
        · intro w
          exact absurd w (Int32.not_le.mpr (by
            have : ¬ nI j < 0 := h0
            exact Int32.lt_of_lt_of_le (show nI 0 - 1 < 0 by decide) (Int32.not_lt.mp this)))
        · intro w
          exact absurd w h0
      · rw [show nI (L 14) - (1 : Int32) = nI (L 14 - 1) from pk_sub (b := 1) (by omega), nI_leI j1 (by omega), nI_ltI j1 (by omega)]
        omega
  rw [e]
  exact wp_g (b2i_01 _) (wp_some rfl)
theorem listM {ax : Int32} (h : LM q μ L) (hB : LB L) (hS : MC μ S) (hM : SM L S) (hz : SWz L S) : f_X12_listOf 310 ax μ = some (slist L S ax) := by
  have h16 := pl16 hB
  have h5 := hB.2.1.2.2.2.1
  refine wp_eq ?_
  unfold f_X12_listOf
  refine wp_bdE (glM h hB) ?_
  rw [glB_none hB]
  have l1 : f_X12_listOf_L9 310 ax μ zFU (gl L ax) 0 = some (gl L ax + sm (L 14) (fun m => if S (20 + m) = -1 then 0 else nI (L (86 + 3 * m)) * arm L (S (20 + m)).toNatClampNeg ax)) := by
    refine wp_eq (wlp0 (fun n k x => f_X12_listOf_L9 310 ax μ n x (nI k)) _ (L 14) (fun k x => x = gl L ax + sm k (fun m => if S (20 + m) = -1 then 0 else nI (L (86 + 3 * m)) * arm L (S (20 + m)).toNatClampNeg ax)) (by omega) _ (Int32.add_zero _).symm ?_ ?_)
    · intro n k x hk hI ih
      show wp (f_X12_listOf_L9 310 ax μ (n + 1) x (nI k)) _
      rw [f_X12_listOf_L9]
      refine wp_bdE (mournersM h) (wp_ie (nI_ge hk (by omega)) (wp_g (zin_nI (by omega) (by omega)) ?_))
      have e0 : μ 314 k = S (20 + k) := hS.2.1 k (by omega)
      have e1 : μ (310 + 4) (nI k).toNatClampNeg = S (20 + k) := by rw [nI_clamp (by omega)]; exact e0
      rw [e1]
      have go : ∀ v, v = (if S (20 + k) = -1 then 0 else nI (L (86 + 3 * k)) * arm L (S (20 + k)).toNatClampNeg ax) → wp (f_X12_listOf_L9 310 ax μ n (x + v) (nI (k + 1))) _ := fun v hv => ih (x + v) (by rw [hv, hI, sumgo]; rfl)
      rcases hM k (by omega) with hs | ⟨hm, p, hp, hs⟩
      · refine wp_bd (wp_ie (fun w => w hs) (wp_some (wp_ls (wp_ls ?_))))
        rw [nI_1]
        exact go 0 (by rw [if_pos hs])
      · have hn : ¬ S (20 + k) = -1 := by
          rw [hs]
          intro w
          have : ¬ nI p < 0 := nI_pos (by omega)
          rw [w] at this
          exact this (by decide)
        refine wp_bd (wp_it hn (wp_bdE (ofMournerM (m := k) (j := 0) h rfl rfl (by omega) (by omega)) (wp_bdE (armM h hB hs (by omega)) (wp_some (wp_ls (wp_ls ?_))))))
        rw [nI_1]
        exact go _ (by rw [if_neg hn, hs, nI_clamp (by omega)]; rfl)
    · intro n x hI
      show wp (f_X12_listOf_L9 310 ax μ (n + 1) x (nI (L 14))) _
      rw [f_X12_listOf_L9]
      exact wp_bdE (mournersM h) (wp_it (nI_le (Nat.le_refl _) (by omega)) (wp_some hI))
  refine wp_bdE l1 ?_
  have t1 : sm 5 (fun m => if S (20 + m) = -1 then 0 else nI (L (86 + 3 * m)) * arm L (S (20 + m)).toNatClampNeg ax) = sm (L 14) (fun m => if S (20 + m) = -1 then 0 else nI (L (86 + 3 * m)) * arm L (S (20 + m)).toNatClampNeg ax) := sm_tail h5 (fun k h1 h2 => by
    rcases hM k h2 with hs | ⟨hm, -⟩
    · exact if_pos hs
    · omega)
  have t2 : sm 16 (fun p => S (30 + p) * arm L p ax) = sm (L 2 * L 3) (fun p => S (30 + p) * arm L p ax) := sm_tail h16 (fun k h1 h2 => by
    show S (30 + k) * arm L k ax = 0
    rw [hz k h1 h2, Int32.zero_mul])
  unfold slist
  rw [t1, t2]
  generalize gl L ax + sm (L 14) _ = g0
  have l2 : f_X12_listOf_L60 310 ax μ zFU g0 0 = some (g0 + sm (L 2 * L 3) (fun p => S (30 + p) * arm L p ax)) := by
    refine wp_eq (wlp0 (fun n k x => f_X12_listOf_L60 310 ax μ n x (nI k)) _ (L 2 * L 3) (fun k x => x = g0 + sm k (fun p => S (30 + p) * arm L p ax)) (by omega) _ (Int32.add_zero _).symm ?_ ?_)
    · intro n k x hk hI ih
      show wp (f_X12_listOf_L60 310 ax μ (n + 1) x (nI k)) _
      rw [f_X12_listOf_L60]
      refine wp_bdE (placesM h) (wp_ie (nI_ge hk (by omega)) (wp_g (zin_nI (by omega) (by omega)) (wp_bdE (armM h hB rfl (by omega)) (wp_ls (wp_ls ?_)))))
      have e1 : μ (310 + 5) (nI k).toNatClampNeg = S (30 + k) := by rw [nI_clamp (by omega)]; exact hS.2.2 k (by omega)
      rw [nI_1, e1]
      exact ih _ (by rw [hI, sumgo]; rfl)
    · intro n x hI
      show wp (f_X12_listOf_L60 310 ax μ (n + 1) x (nI (L 2 * L 3))) _
      rw [f_X12_listOf_L60]
      exact wp_bdE (placesM h) (wp_it (nI_le (Nat.le_refl _) (by omega)) (wp_some hI))
  exact wp_bdE l2 (wp_some rfl)
theorem driftM {ax : Int32} (h : LM q μ L) (hB : LB L) (hS : MC μ S) (hM : SM L S) (hz : SWz L S) (hw : wayOk (S 8)) : f_X12_driftOf 310 ax μ = some (sdrift L S ax) := by
  refine wp_eq ?_
  unfold f_X12_driftOf
  have e8 : μ 310 20 = S 8 := hS.f 8 (by omega)
  have e9 : μ 310 21 = S 9 := hS.f 9 (by omega)
  rw [e8, e9]
  refine wp_bdE (listM h hB hS hM hz) (wp_bdE (leanM h) (wp_bdE (blownM h hB hw) (wp_some ?_)))
  rw [signM]
  rfl
theorem movesM {dx dy : Int32} (h : LM q μ L) (hB : LB L) (hS : MC μ S) (hd : dx = 0 ∨ dx = 1 ∨ dx = -1) (hd2 : dy = 0 ∨ dy = 1 ∨ dy = -1) (hP : SP L L S) : wp (f_X12_moves 310 dx dy μ) (fun μ' => MC μ' (smove L L dx dy S) ∧ MF μ μ') := by
  unfold f_X12_moves
  refine wp_bdQ (Q := fun μ' => MC μ' (smoveX L L dx S) ∧ MF μ μ') ?_ (fun μ1 hμ1 => ?_)
  · obtain ⟨x, y, h0, h1, h2⟩ := hP
    have hl := clB_le hB hB h2
    have e0 : μ 310 12 = S 0 := hS.f 0 (by omega)
    have e1 : μ 310 13 = S 1 := hS.f 1 (by omega)
    have e3 : μ 310 15 = S 3 := hS.f 3 (by omega)
    rw [e0, e1, e3]
    by_cases hc : dx = 0
    · have es : smoveX L L dx S = S := if_pos hc
      rw [es]
      refine wp_bd (wp_it hc (wp_some (wp_ie (by decide) (wp_ls (wp_ls (wp_some ⟨?_, MF.put (by omega) (by omega)⟩))))))
      rw [if_pos hc, Int32.add_zero]
      have := hS.put (k := 3) (v := S 3) (by omega)
      rw [su_same rfl] at this
      exact this
    · have es : smoveX L L dx S = if canL L L (S 0 + dx) (S 1) = true then su S 0 (S 0 + dx) else su S 3 (S 3 + 1) := if_neg hc
      rw [es]
      refine wp_bd (wp_ie hc (wp_bdE (canLieM h hB (by rw [h0]; exact crd_step hl.1 hd) (by rw [h1]; exact Or.inr ⟨y, by omega, rfl⟩)) ?_))
      by_cases hcl : canL L L (S 0 + dx) (S 1) = true
      · rw [if_pos hcl, hcl]
        exact wp_ie (by decide) (wp_some (wp_it rfl (wp_ls (wp_some ⟨hS.put (k := 0) (by omega), MF.put (by omega) (by omega)⟩))))
      · rw [if_neg hcl, Bool.eq_false_iff.mpr hcl]
        refine wp_it (by decide) (wp_some (wp_ie (by decide) (wp_ls (wp_ls (wp_some ⟨?_, MF.put (by omega) (by omega)⟩)))))
        rw [if_neg hc]
        exact hS.put (k := 3) (by omega)
  · obtain ⟨hS1, f1⟩ := hμ1
    have hP1 := smoveX_SP hB hB hd hP
    have h1 := h.mf f1
    unfold smove
    generalize smoveX L L dx S = S1 at hS1 hP1
    refine wp_bdQ (Q := fun μ' => MC μ' (smoveY L L dy S1) ∧ MF μ μ') ?_ (fun μ2 hμ => wp_some hμ)
    obtain ⟨x, y, h0, hy1, h2⟩ := hP1
    have hl := clB_le hB hB h2
    have e0 : μ1 310 12 = S1 0 := hS1.f 0 (by omega)
    have e1 : μ1 310 13 = S1 1 := hS1.f 1 (by omega)
    have e3 : μ1 310 15 = S1 3 := hS1.f 3 (by omega)
    rw [e0, e1, e3]
    by_cases hc : dy = 0
    · have es : smoveY L L dy S1 = S1 := if_pos hc
      rw [es]
      refine wp_bd (wp_it hc (wp_some (wp_ie (by decide) (wp_ls (wp_ls (wp_some ⟨?_, f1.tr (MF.put (by omega) (by omega))⟩))))))
      rw [if_pos hc, Int32.add_zero]
      have := hS1.put (k := 3) (v := S1 3) (by omega)
      rw [su_same rfl] at this
      exact this
    · have es : smoveY L L dy S1 = if canL L L (S1 0) (S1 1 + dy) = true then su S1 1 (S1 1 + dy) else su S1 3 (S1 3 + 1) := if_neg hc
      rw [es]
      refine wp_bd (wp_ie hc (wp_bdE (canLieM h1 hB (by rw [h0]; exact Or.inr ⟨x, by omega, rfl⟩) (by rw [hy1]; exact crd_step hl.2 hd2)) ?_))
      by_cases hcl : canL L L (S1 0) (S1 1 + dy) = true
      · rw [if_pos hcl, hcl]
        exact wp_ie (by decide) (wp_some (wp_it rfl (wp_ls (wp_some ⟨hS1.put (k := 1) (by omega), f1.tr (MF.put (by omega) (by omega))⟩))))
      · rw [if_neg hcl, Bool.eq_false_iff.mpr hcl]
        refine wp_it (by decide) (wp_some (wp_ie (by decide) (wp_ls (wp_ls (wp_some ⟨?_, f1.tr (MF.put (by omega) (by omega))⟩)))))
        rw [if_neg hc]
        exact hS1.put (k := 3) (by omega)
theorem allWaterM (hS : MC μ S) : f_X12_allWater 310 μ = some (sallw S) := by
  refine wp_eq ?_
  unfold f_X12_allWater
  have l1 : f_X12_allWater_L4 310 μ zFU 0 0 = some (sallw S) := by
    refine wp_eq (wlp0 (fun n k x => f_X12_allWater_L4 310 μ n x (nI k)) _ 16 (fun k x => x = sm k (fun p => S (30 + p))) (by omega) _ rfl ?_ ?_)
    · intro n k x hk hI ih
      show wp (f_X12_allWater_L4 310 μ (n + 1) x (nI k)) _
      rw [f_X12_allWater_L4]
      refine wp_ie (nI_ge (b := 16) hk (by omega)) (wp_g (zin_nI hk (by omega)) (wp_ls (wp_ls ?_)))
      have e1 : μ (310 + 5) (nI k).toNatClampNeg = S (30 + k) := by rw [nI_clamp (by omega)]; exact hS.2.2 k (by omega)
      rw [nI_1, e1]
      exact ih _ (by rw [hI]; rfl)
    · intro n x hI
      show wp (f_X12_allWater_L4 310 μ (n + 1) x (nI 16)) _
      rw [f_X12_allWater_L4]
      exact wp_it (nI_le (a := 16) (Nat.le_refl _) (by omega)) (wp_some hI)
  exact wp_bdE l1 (wp_some rfl)
theorem leakLoopM (h : LM q μ L) (hO : LOk L) (hS : MC μ S) : wp (f_X12_leaks_L2 310 zFU 0 μ) (fun μ' => MC μ' (sleak L S (L 15)) ∧ MF μ μ') := by
  have hb := hO.1.2.1.2.2.2.2
  have h16 := pl16 hO.1
  refine wlp0 (fun n k μ' => f_X12_leaks_L2 310 n (nI k) μ') _ (L 15) (fun k μ' => MC μ' (sleak L S k) ∧ MF μ μ') (by omega) μ ⟨hS, MF.rf μ⟩ ?_ ?_
  · intro n k μ1 hk ⟨h1, f1⟩ ih
    have hp := hO.2.2.2.1 k hk
    have hL1 := h.mf f1
    show wp (f_X12_leaks_L2 310 (n + 1) (nI k) μ1) _
    rw [f_X12_leaks_L2]
    refine wp_bdE (ofM 15 hL1 rfl (by omega)) (wp_ie (nI_ge hk (by omega)) (wp_bdE (ofM (101 + 2 * k) hL1 (lin1 101 2 k) (by omega)) (wp_g (zin_nI (by omega) (by omega)) (wp_bdE (ofM (102 + 2 * k) hL1 ((lin2 101 2 k 1).trans (by rw [show 101 + 2 * k + 1 = 102 + 2 * k by omega])) (by omega)) (wp_ls (wp_ls ?_))))))
    have e1 : μ1 (310 + 5) (nI (L (101 + 2 * k))).toNatClampNeg = sleak L S k (30 + L (101 + 2 * k)) := by rw [nI_clamp (by omega)]; exact h1.2.2 _ (by omega)
    rw [nI_1, e1, nI_clamp (by omega)]
    exact ih _ ⟨h1.water (by omega), f1.tr MF.water⟩
  · intro n μ1 ⟨h1, f1⟩
    show wp (f_X12_leaks_L2 310 (n + 1) (nI (L 15)) μ1) _
    rw [f_X12_leaks_L2]
    exact wp_bdE (ofM 15 (h.mf f1) rfl (by omega)) (wp_it (nI_le (Nat.le_refl _) (by omega)) (wp_some ⟨h1, f1⟩))
theorem sleak_lo (n k : Nat) (hk : k < 30) : sleak L S n k = S k := by
  induction n with
  | zero => rfl
  | succ n ih =>
    show su _ _ _ k = S k
    rw [su_ne (by omega), ih]
theorem leaksM (h : LM q μ L) (hO : LOk L) (hS : MC μ S) (h5 : S 5 = 0) : wp (f_X12_leaks 310 μ) (fun μ' => MC μ' (su (sleak L S (L 15)) 5 (if sallw (sleak L S (L 15)) ≤ nI (L 8) then 0 else 1)) ∧ MF μ μ') := by
  unfold f_X12_leaks
  refine wp_bdQ (leakLoopM h hO hS) fun μ1 ⟨h1, f1⟩ => ?_
  have e5 : μ1 310 17 = 0 := by
    have : μ1 310 (5 + 12) = _ := h1.f 5 (by omega)
    rw [show 5 + 12 = 17 from rfl] at this
    rw [this, sleak_lo _ 5 (by omega)]
    exact h5
  refine wp_bd (wp_bd (wp_ie (fun w => w e5) (wp_bdE (allWaterM h1) (wp_bdE (ofM 8 (h.mf f1) rfl (by omega)) ?_))))
  by_cases hc : sallw (sleak L S (L 15)) ≤ nI (L 8)
  · refine wp_it hc ?_
    rw [if_pos hc]
    exact (wp_some (wp_it rfl (wp_some (wp_g (by decide) (wp_ls (wp_some ⟨h1.put (k := 5) (by omega), f1.tr (MF.put (by omega) (by omega))⟩))))))
  · refine wp_ie hc ?_
    rw [if_neg hc]
    exact (wp_some (wp_ie (by decide) (wp_some (wp_g (by decide) (wp_ls (wp_some ⟨h1.put (k := 5) (by omega), f1.tr (MF.put (by omega) (by omega))⟩))))))
end MODEL2
-- how the parts of a state go past one another
section STATE
variable {W B L : Nat → Nat} {S : Nat → Int32}
theorem slist_su {k : Nat} {v ax : Int32} (hk : k < 20) : slist L (su S k v) ax = slist L S ax := by
  have e1 : sm 5 (fun m => if su S k v (20 + m) = -1 then 0 else nI (L (86 + 3 * m)) * arm L (su S k v (20 + m)).toNatClampNeg ax) = sm 5 (fun m => if S (20 + m) = -1 then 0 else nI (L (86 + 3 * m)) * arm L (S (20 + m)).toNatClampNeg ax) := sm_congr fun m _ => by
    show (if su S k v (20 + m) = -1 then 0 else nI (L (86 + 3 * m)) * arm L (su S k v (20 + m)).toNatClampNeg ax) = _
    rw [su_ne (by omega)]
  have e2 : sm 16 (fun p => su S k v (30 + p) * arm L p ax) = sm 16 (fun p => S (30 + p) * arm L p ax) := sm_congr fun p _ => by
    show su S k v (30 + p) * arm L p ax = _
    rw [su_ne (by omega)]
  unfold slist
  rw [e1, e2]
theorem sdrift_su {k : Nat} {v ax : Int32} (hk : k < 8) : sdrift L (su S k v) ax = sdrift L S ax := by
  unfold sdrift
  rw [slist_su (by omega), su_ne (by omega), su_ne (by omega)]
theorem smoveX_su {k : Nat} {v d : Int32} (h0 : k ≠ 0) (h1 : k ≠ 1) (h3 : k ≠ 3) : smoveX W B d (su S k v) = su (smoveX W B d S) k v := by
  unfold smoveX
  rw [su_ne (by omega), su_ne (by omega), su_ne (by omega)]
  split
  · rfl
  · split
    · exact su_comm h0
    · exact su_comm h3
theorem smoveY_su {k : Nat} {v d : Int32} (h0 : k ≠ 0) (h1 : k ≠ 1) (h3 : k ≠ 3) : smoveY W B d (su S k v) = su (smoveY W B d S) k v := by
  unfold smoveY
  rw [su_ne (by omega), su_ne (by omega), su_ne (by omega)]
  split
  · rfl
  · split
    · exact su_comm h1
    · exact su_comm h3
theorem smove_su {k : Nat} {v d e : Int32} (h0 : k ≠ 0) (h1 : k ≠ 1) (h3 : k ≠ 3) : smove W B d e (su S k v) = su (smove W B d e S) k v := by
  unfold smove
  rw [smoveX_su h0 h1 h3, smoveY_su h0 h1 h3]
theorem smoveX_at {k : Nat} {d : Int32} (h0 : k ≠ 0) (h3 : k ≠ 3) : smoveX W B d S k = S k := by
  unfold smoveX
  split
  · rfl
  · split
    · exact su_ne h0
    · exact su_ne h3
theorem smoveY_at {k : Nat} {d : Int32} (h1 : k ≠ 1) (h3 : k ≠ 3) : smoveY W B d S k = S k := by
  unfold smoveY
  split
  · rfl
  · split
    · exact su_ne h1
    · exact su_ne h3
theorem smove_at {k : Nat} {d e : Int32} (h0 : k ≠ 0) (h1 : k ≠ 1) (h3 : k ≠ 3) : smove W B d e S k = S k := by
  unfold smove
  rw [smoveY_at h1 h3, smoveX_at h0 h3]
theorem sleak_su {k n : Nat} {v : Int32} (hk : k < 30) : sleak L (su S k v) n = su (sleak L S n) k v := by
  induction n with
  | zero => rfl
  | succ n ih =>
    show su (sleak L (su S k v) n) _ _ = su (su (sleak L S n) _ _) k v
    rw [ih, su_comm (by omega), su_ne (by omega)]
theorem sallw_su {k : Nat} {v : Int32} (hk : k < 30) : sallw (su S k v) = sallw S := sm_congr fun p _ => su_ne (by omega)
theorem sh12 : sh1 L (sh2 S) = sh2 (sh1 L S) := by
  unfold sh1 sh2
  rw [su_ne (by omega), su_ne (by omega), sdrift_su (by omega), sdrift_su (by omega)]
  split
  · rw [smove_su (by omega) (by omega) (by omega), smove_at (by omega) (by omega) (by omega)]
  · rfl
theorem sh34 : sh3 L (sh4 L S) = sh4 L (sh3 L S) := by
  unfold sh3 sh4
  rw [sleak_su (by omega), sallw_su (by omega), su_ne (by omega), su_ne (by omega), su_ne (by omega), sleak_lo _ _ (by omega), sleak_lo _ _ (by omega), sleak_lo _ _ (by omega), su_comm (by omega)]
/-- the same hour in the reference's order -/
def mhour (L : Nat → Nat) (lk : Bool) (S : Nat → Int32) : Nat → Int32 := sh3 L (if lk = true then sh4 L (sh1 L (sh2 S)) else sh1 L (sh2 S))
theorem mhour_eq (h5 : S 5 = 0) : mhour L true S = shour L S := by
  have es : shour L S = sh4 L (sh3 L (sh2 (sh1 L S))) := if_pos h5
  rw [es]
  unfold mhour
  rw [if_pos rfl, sh34, sh12]
end STATE
/-! hours, days: both sides -/
def sbegin (W B : Nat → Nat) : Nat → Int32 := fun k => if k = 0 then nI (B 4) else if k = 1 then nI (B 5) else if k = 4 then sside W B (nI (B 4)) (nI (B 5)) else if k = 8 then -1 else if 20 ≤ k ∧ k < 30 then -1 else 0
section HOUR
variable {q r la wa : Nat} {μ μ' : zM} {W B L : Nat → Nat} {S : Nat → Int32}
theorem hourM {lk : Bool} (h : LM q μ L) (hO : LOk L) (hS : MC μ S) (h5 : S 5 = 0) (hM : SM L S) (hz : SWz L S) (hw : wayOk (S 8)) (hP : SP L L S) : wp (f_X12_hour 310 (b2i lk) μ) (fun μ' => MC μ' (mhour L lk S) ∧ MF μ μ') := by
  have e5 : μ 310 17 = S 5 := hS.f 5 (by omega)
  have e2 : μ 310 14 = S 2 := hS.f 2 (by omega)
  unfold f_X12_hour mhour
  rw [e5, e2]
  refine wp_it h5 (wp_ls ?_)
  have g1 : MC (zup μ 310 14 (S 2 + 1)) (sh2 S) := hS.put (k := 2) (by omega)
  have f1 : MF μ (zup μ 310 14 (S 2 + 1)) := MF.put (by omega) (by omega)
  generalize zup μ 310 14 (S 2 + 1) = μ1 at g1 f1 ⊢
  have m1 : SM L (sh2 S) := fun m hm => by unfold sh2; rw [su_ne (by omega)]; exact hM m hm
  have z1 : SWz L (sh2 S) := fun p h1 h2 => by unfold sh2; rw [su_ne (by omega)]; exact hz p h1 h2
  have w1 : wayOk (sh2 S 8) := by unfold sh2; rw [su_ne (by omega)]; exact hw
  have p1 : SP L L (sh2 S) := by
    obtain ⟨x, y, h0, h1, h2⟩ := hP
    exact ⟨x, y, by unfold sh2; rw [su_ne (by omega)]; exact h0, by unfold sh2; rw [su_ne (by omega)]; exact h1, h2⟩
  have s1 : sh2 S 5 = 0 := by unfold sh2; rw [su_ne (by omega)]; exact h5
  generalize sh2 S = S1 at g1 m1 z1 w1 p1 s1 ⊢
  have l1 := h.mf f1
  have e6 : μ1 310 18 = S1 6 := g1.f 6 (by omega)
  have e7 : μ1 310 19 = S1 7 := g1.f 7 (by omega)
  rw [e6, e7]
  refine wp_bdQ (Q := fun μ2 => MC μ2 (sh1 L S1) ∧ MF μ μ2) ?_ ?_
  · by_cases hc : S1 6 = 0 ∧ S1 7 = 0
    · have e1 : sh1 L S1 = smove L L (sdrift L S1 0) (sdrift L S1 1) S1 := if_pos hc
      rw [e1]
      exact wp_it hc (wp_bdE (driftM l1 hO.1 g1 m1 z1 w1) (wp_bdE (driftM l1 hO.1 g1 m1 z1 w1) (wp_bdQ (movesM l1 hO.1 g1 (dir_cases _) (dir_cases _) p1) (fun μ2 hμ => wp_some ⟨hμ.1, f1.tr hμ.2⟩))))
    · have e1 : sh1 L S1 = S1 := if_neg hc
      rw [e1]
      exact wp_ie hc (wp_some ⟨g1, f1⟩)
  · intro μ2 hμ2
    obtain ⟨g2, f2⟩ := hμ2
    have s2 : sh1 L S1 5 = 0 := by
      unfold sh1
      split
      · rw [smove_at (by omega) (by omega) (by omega)]
        exact s1
      · exact s1
    generalize sh1 L S1 = S2 at g2 s2 ⊢
    have l2 := h.mf f2
    refine wp_bdQ (Q := fun μ3 => MC μ3 (if lk = true then sh4 L S2 else S2) ∧ MF μ μ3) ?_ ?_
    · cases lk with
      | false => exact wp_it (by decide) (wp_some ⟨g2, f2⟩)
      | true => exact wp_ie (by decide) (wp_bdQ (leaksM l2 hO g2 s2) (fun μ3 hμ => wp_some ⟨hμ.1, f2.tr hμ.2⟩))
    · intro μ3 hμ3
      obtain ⟨g3, f3⟩ := hμ3
      generalize (if lk = true then sh4 L S2 else S2) = S3 at g3 ⊢
      have e0 : μ3 310 12 = S3 0 := g3.f 0 (by omega)
      have e1 : μ3 310 13 = S3 1 := g3.f 1 (by omega)
      have e4 : μ3 310 16 = S3 4 := g3.f 4 (by omega)
      rw [e0, e1, e4]
      exact wp_bdE (sidesM (h.mf f3)) (wp_ls (wp_some ⟨g3.put (k := 4) (by omega), f3.tr (MF.put (by omega) (by omega))⟩))
theorem launch47 : wp (f_X4_launch_L47 r la zFU 0 μ) (fun μ' => (∀ o, o ≠ r + 1 → μ' o = μ o) ∧ ∀ m, m < 5 → μ' (r + 1) m = -1) := by
  refine wlp0 (fun n k μ' => f_X4_launch_L47 r la n (nI k) μ') _ 5 (fun k μ' => (∀ o, o ≠ r + 1 → μ' o = μ o) ∧ ∀ m, m < k → μ' (r + 1) m = -1) (by omega) μ ⟨fun _ _ => rfl, fun y hy => by omega⟩ ?_ ?_
  · intro n k μ1 hk ⟨hf, ha⟩ ih
    show wp (f_X4_launch_L47 r la (n + 1) (nI k) μ1) _
    rw [f_X4_launch_L47]
    refine wp_ie (nI_ge (b := 5) hk (by omega)) (wp_g (zin_nI (by omega) (by omega)) (wp_ls (wp_ls ?_)))
    rw [nI_1, nI_clamp (by omega)]
    refine ih _ ⟨fun o ho => by rw [zup_rne _ _ _ ho]; exact hf o ho, fun y hy => ?_⟩
    by_cases hyk : y = k
    · subst hyk
      rw [zup_self]
    · rw [zup_ne (by omega)]
      exact ha y (by omega)
  · intro n μ1 hI
    show wp (f_X4_launch_L47 r la (n + 1) (nI 5) μ1) _
    rw [f_X4_launch_L47]
    exact wp_it (nI_le (a := 5) (Nat.le_refl _) (by omega)) (wp_some hI)
theorem launch67 : wp (f_X4_launch_L67 r la zFU 0 μ) (fun μ' => (∀ o, o ≠ r + 2 → μ' o = μ o) ∧ ∀ m, m < 16 → μ' (r + 2) m = 0) := by
  refine wlp0 (fun n k μ' => f_X4_launch_L67 r la n (nI k) μ') _ 16 (fun k μ' => (∀ o, o ≠ r + 2 → μ' o = μ o) ∧ ∀ m, m < k → μ' (r + 2) m = 0) (by omega) μ ⟨fun _ _ => rfl, fun y hy => by omega⟩ ?_ ?_
  · intro n k μ1 hk ⟨hf, ha⟩ ih
    show wp (f_X4_launch_L67 r la (n + 1) (nI k) μ1) _
    rw [f_X4_launch_L67]
    refine wp_ie (nI_ge (b := 16) hk (by omega)) (wp_g (zin_nI (by omega) (by omega)) (wp_ls (wp_ls ?_)))
    rw [nI_1, nI_clamp (by omega)]
    refine ih _ ⟨fun o ho => by rw [zup_rne _ _ _ ho]; exact hf o ho, fun y hy => ?_⟩
    by_cases hyk : y = k
    · subst hyk
      rw [zup_self]
    · rw [zup_ne (by omega)]
      exact ha y (by omega)
  · intro n μ1 hI
    show wp (f_X4_launch_L67 r la (n + 1) (nI 16) μ1) _
    rw [f_X4_launch_L67]
    exact wp_it (nI_le (a := 16) (Nat.le_refl _) (by omega)) (wp_some hI)
theorem launchC (hL : LC la μ B) (hW : LC wa μ W) (hr : la + 14 < r ∧ wa + 14 < r) : wp (f_X4_launch r la wa μ) (fun μ' => RC r μ' la wa (sbegin W B) ∧ ∀ o, o ≠ r → o ≠ r + 1 → o ≠ r + 2 → μ' o = μ o) := by
  have b4 := hL.2.1.1.2.2.2.2.1
  unfold f_X4_launch
  refine wp_ls (wp_ls (wp_ls (wp_ls (wp_ls (wp_ls (wp_ls (wp_ls (wp_ls ?_))))))))
  generalize hm : zup (zup (zup (zup (zup (zup (zup (zup (zup μ r 0 (nI la)) r 1 (nI wa)) r 4 0) r 5 0) r 7 0) r 8 0) r 9 0) r 10 (-1)) r 11 0 = μ1
  have f1 : ∀ o, o ≠ r → μ1 o = μ o := fun o ho => by rw [← hm]; simp only [zup_rne _ _ _ ho]
  refine wp_bdQ launch47 fun μ2 ⟨f2, a2⟩ => wp_bdQ launch67 fun μ3 ⟨f3, a3⟩ => ?_
  have g3 : ∀ o, o ≠ r → o ≠ r + 1 → o ≠ r + 2 → μ3 o = μ o := fun o h1 h2 h3 => by rw [f3 o h3, f2 o h2, f1 o h1]
  have L3 : LC la μ3 B := hL.congr (fun o h1 h2 => g3 o (by omega) (by omega) (by omega))
  have W3 : LC wa μ3 W := hW.congr (fun o h1 h2 => g3 o (by omega) (by omega) (by omega))
  have e3 : μ3 r = μ1 r := by rw [f3 r (by omega), f2 r (by omega)]
  rw [L3.2.2.1.1 4 (by omega), L3.2.2.1.1 5 (by omega)]
  refine wp_ls ?_
  rw [show f_X4_putAt r (nI (B 4)) (nI (B 5)) μ3 = zup (zup μ3 r 2 (nI (B 4))) r 3 (nI (B 5)) from rfl]
  generalize hm4 : zup (zup μ3 r 2 (nI (B 4))) r 3 (nI (B 5)) = μ4
  have f4 : ∀ o, o ≠ r → μ4 o = μ3 o := fun o ho => by rw [← hm4]; simp only [zup_rne _ _ _ ho]
  have R4 : RC r μ4 la wa (fun k => if k = 4 then μ4 r 6 else sbegin W B k) := by
    refine ⟨?_, ?_, fun k hk => ?_, fun m hm => ?_, fun p hp => ?_⟩
    · rw [← hm4, zup_ne (by omega), zup_ne (by omega), e3, ← hm]
      simp [zup]
    · rw [← hm4, zup_ne (by omega), zup_ne (by omega), e3, ← hm]
      simp [zup]
    · show _ = if k = 4 then μ4 r 6 else sbegin W B k
      by_cases h4 : k = 4
      · subst h4
        rw [if_pos rfl]
      · rw [if_neg h4, ← hm4]
        have hk' : k = 0 ∨ k = 1 ∨ k = 2 ∨ k = 3 ∨ k = 5 ∨ k = 6 ∨ k = 7 ∨ k = 8 ∨ k = 9 := by omega
        rcases hk' with rfl | rfl | rfl | rfl | rfl | rfl | rfl | rfl | rfl <;> simp [zup, sbegin, e3, ← hm]
    · show _ = if 20 + m = 4 then μ4 r 6 else sbegin W B (20 + m)
      rw [f4 _ (by omega), f3 _ (by omega), a2 m hm, if_neg (by omega)]
      unfold sbegin
      rw [if_neg (by omega), if_neg (by omega), if_neg (by omega), if_neg (by omega), if_pos (by omega)]
    · show _ = if 30 + p = 4 then μ4 r 6 else sbegin W B (30 + p)
      rw [f4 _ (by omega), a3 p hp, if_neg (by omega)]
      unfold sbegin
      rw [if_neg (by omega), if_neg (by omega), if_neg (by omega), if_neg (by omega), if_neg (by omega)]
  have L4 : LC la μ4 B := L3.congr (fun o h1 h2 => f4 o (by omega))
  have W4 : LC wa μ4 W := W3.congr (fun o h1 h2 => f4 o (by omega))
  refine wp_bdE (sidesC R4 L4 W4) (wp_ls (wp_some ⟨?_, fun o h1 h2 h3 => by rw [zup_rne _ _ _ h1, f4 o h1, g3 o h1 h2 h3]⟩))
  have := R4.put (k := 4) (v := sside W B (nI (B 4)) (nI (B 5))) (by omega)
  have e : su (fun k => if k = 4 then μ4 r 6 else sbegin W B k) 4 (sside W B (nI (B 4)) (nI (B 5))) = sbegin W B := by
    funext k
    unfold su
    by_cases h4 : k = 4
    · subst h4
      rw [if_pos rfl]
      rfl
    · rw [if_neg h4]
      exact if_neg h4
  rw [e] at this
  exact this
theorem begin76 : wp (f_X12_begins_L76 310 zFU 0 μ) (fun μ' => (∀ o, o ≠ 314 → μ' o = μ o) ∧ ∀ m, m < 5 → μ' 314 m = -1) := by
  refine wlp0 (fun n k μ' => f_X12_begins_L76 310 n (nI k) μ') _ 5 (fun k μ' => (∀ o, o ≠ 314 → μ' o = μ o) ∧ ∀ m, m < k → μ' 314 m = -1) (by omega) μ ⟨fun _ _ => rfl, fun y hy => by omega⟩ ?_ ?_
  · intro n k μ1 hk ⟨hf, ha⟩ ih
    show wp (f_X12_begins_L76 310 (n + 1) (nI k) μ1) _
    rw [f_X12_begins_L76]
    refine wp_ie (nI_ge (b := 5) hk (by omega)) (wp_g (zin_nI (by omega) (by omega)) (wp_ls (wp_ls ?_)))
    rw [nI_1, nI_clamp (by omega)]
    refine ih _ ⟨fun o ho => by rw [zup_rne _ _ _ ho]; exact hf o ho, fun y hy => ?_⟩
    by_cases hyk : y = k
    · subst hyk
      exact zup_self _ _ _ _
    · rw [zup_ne (by omega)]
      exact ha y (by omega)
  · intro n μ1 hI
    show wp (f_X12_begins_L76 310 (n + 1) (nI 5) μ1) _
    rw [f_X12_begins_L76]
    exact wp_it (nI_le (a := 5) (Nat.le_refl _) (by omega)) (wp_some hI)
theorem begin96 : wp (f_X12_begins_L96 310 zFU 0 μ) (fun μ' => (∀ o, o ≠ 315 → μ' o = μ o) ∧ ∀ m, m < 16 → μ' 315 m = 0) := by
  refine wlp0 (fun n k μ' => f_X12_begins_L96 310 n (nI k) μ') _ 16 (fun k μ' => (∀ o, o ≠ 315 → μ' o = μ o) ∧ ∀ m, m < k → μ' 315 m = 0) (by omega) μ ⟨fun _ _ => rfl, fun y hy => by omega⟩ ?_ ?_
  · intro n k μ1 hk ⟨hf, ha⟩ ih
    show wp (f_X12_begins_L96 310 (n + 1) (nI k) μ1) _
    rw [f_X12_begins_L96]
    refine wp_ie (nI_ge (b := 16) hk (by omega)) (wp_g (zin_nI (by omega) (by omega)) (wp_ls (wp_ls ?_)))
    rw [nI_1, nI_clamp (by omega)]
    refine ih _ ⟨fun o ho => by rw [zup_rne _ _ _ ho]; exact hf o ho, fun y hy => ?_⟩
    by_cases hyk : y = k
    · subst hyk
      exact zup_self _ _ _ _
    · rw [zup_ne (by omega)]
      exact ha y (by omega)
  · intro n μ1 hI
    show wp (f_X12_begins_L96 310 (n + 1) (nI 16) μ1) _
    rw [f_X12_begins_L96]
    exact wp_it (nI_le (a := 16) (Nat.le_refl _) (by omega)) (wp_some hI)
/-- the reference's frame with its count of deeds -/
def MF2 (μ μ' : zM) : Prop := (∀ o, o ≠ 310 → o ≠ 314 → o ≠ 315 → μ' o = μ o) ∧ (∀ k, k < 12 ∨ 23 ≤ k → μ' 310 k = μ 310 k)
theorem MF.to2 {μ μ' : zM} (h : MF μ μ') : MF2 μ μ' := ⟨h.1, fun k hk => h.2 k (by omega)⟩
theorem MF2.tr {μ μ1 μ2 : zM} (h : MF2 μ μ1) (k : MF2 μ1 μ2) : MF2 μ μ2 := ⟨fun o h1 h2 h3 => (k.1 o h1 h2 h3).trans (h.1 o h1 h2 h3), fun j hj => (k.2 j hj).trans (h.2 j hj)⟩
theorem LM.mf2 {q : Nat} {μ μ' : zM} {L : Nat → Nat} (h : LM q μ L) (f : MF2 μ μ') : LM q μ' L := h.congr (f.1 311 (by omega) (by omega) (by omega)) (f.2 10 (by omega))
theorem beginsM (h : LM q μ L) : wp (f_X12_begins 310 μ) (fun μ' => MC μ' (sbegin L L) ∧ MF2 μ μ' ∧ μ' 310 22 = 0) := by
  unfold f_X12_begins
  refine wp_bdE (ofM 4 h rfl (by omega)) (wp_ls ?_)
  have h1 : LM q (zup μ 310 12 (nI (L 4))) L := h.congr (zup_rne _ _ _ (by omega)) (zup_ne (by omega))
  refine wp_bdE (ofM 5 h1 rfl (by omega)) (wp_ls (wp_ls (wp_ls ?_)))
  generalize hm : zup (zup (zup (zup μ 310 12 (nI (L 4))) 310 13 (nI (L 5))) 310 14 0) 310 15 0 = μ2
  have h2 : LM q μ2 L := by
    refine h.congr ?_ ?_
    · rw [← hm]
      simp only [zup_rne _ _ _ (show (311 : Nat) ≠ 310 by omega)]
    · rw [← hm]
      simp [zup]
  have e0 : μ2 310 12 = nI (L 4) := by rw [← hm]; simp [zup]
  have e1 : μ2 310 13 = nI (L 5) := by rw [← hm]; simp [zup]
  rw [e0, e1]
  refine wp_bdE (sidesM h2) (wp_ls (wp_ls (wp_ls (wp_ls (wp_ls (wp_ls (wp_ls ?_)))))))
  generalize hm3 : zup (zup (zup (zup (zup (zup (zup μ2 310 16 (sside L L (nI (L 4)) (nI (L 5)))) 310 17 0) 310 18 0) 310 19 0) 310 20 (-1)) 310 21 0) 310 22 0 = μ3
  refine wp_bdQ begin76 fun μ4 ⟨f4, a4⟩ => wp_bdQ begin96 fun μ5 ⟨f5, a5⟩ => wp_some ⟨⟨fun k hk => ?_, fun m hm => ?_, fun p hp => ?_⟩, ⟨fun o o1 o2 o3 => ?_, fun k hk => ?_⟩, ?_⟩
  · rw [f5 310 (by omega), f4 310 (by omega), ← hm3, ← hm]
    have hk' : k = 0 ∨ k = 1 ∨ k = 2 ∨ k = 3 ∨ k = 4 ∨ k = 5 ∨ k = 6 ∨ k = 7 ∨ k = 8 ∨ k = 9 := by omega
    rcases hk' with rfl | rfl | rfl | rfl | rfl | rfl | rfl | rfl | rfl | rfl <;> simp [zup, sbegin]
  · rw [f5 314 (by omega), a4 m hm]
    unfold sbegin
    rw [if_neg (by omega), if_neg (by omega), if_neg (by omega), if_neg (by omega), if_pos (by omega)]
  · rw [a5 p hp]
    unfold sbegin
    rw [if_neg (by omega), if_neg (by omega), if_neg (by omega), if_neg (by omega), if_neg (by omega)]
  · rw [f5 o o3, f4 o o2, ← hm3, ← hm]
    simp only [zup_rne _ _ _ o1]
  · rw [f5 310 (by omega), f4 310 (by omega), ← hm3, ← hm]
    have a1 : k ≠ 12 := by omega
    have a2 : k ≠ 13 := by omega
    have a3 : k ≠ 14 := by omega
    have a4 : k ≠ 15 := by omega
    have a5 : k ≠ 16 := by omega
    have a6 : k ≠ 17 := by omega
    have a7 : k ≠ 18 := by omega
    have a8 : k ≠ 19 := by omega
    have a9 : k ≠ 20 := by omega
    have b1 : k ≠ 21 := by omega
    have b2 : k ≠ 22 := by omega
    simp [zup, a1, a2, a3, a4, a5, a6, a7, a8, a9, b1, b2]
  · rw [f5 310 (by omega), f4 310 (by omega), ← hm3]
    simp [zup]
end HOUR
/-! deeds -/
def sCan (L : Nat → Nat) (S : Nat → Int32) (k a b : Int32) : Prop := S 5 = 0 ∧
  (k = 0 → isMo L a = true ∧ isPl L b = true ∧ ¬ S (20 + a.toNatClampNeg) = b) ∧ (k = 1 → isMo L a = true ∧ ¬ S (20 + a.toNatClampNeg) = -1) ∧ (k = 3 → ¬ S 8 = -1) ∧ (k = 4 → S 6 = 0) ∧ (k = 5 → ¬ S 6 = 0) ∧ (k = 6 → S 7 = 0 ∧ ¬ sside L L (S 0) (S 1) = 0) ∧ (k = 7 → ¬ S 7 = 0) ∧ (k = 8 → isPl L a = true ∧ ¬ S (30 + a.toNatClampNeg) = 0)
def siter (L : Nat → Nat) (S : Nat → Int32) : Nat → Nat → Int32
  | 0 => S
  | n + 1 => shour L (siter L S n)
def sDo (L : Nat → Nat) (S : Nat → Int32) (k a b : Int32) : Nat → Int32 :=
  if k = 0 then su S (20 + a.toNatClampNeg) b else if k = 1 then su S (20 + a.toNatClampNeg) (-1) else if k = 2 then su (su S 8 a) 9 b else if k = 3 then su (su S 8 (-1)) 9 0 else if k = 4 then su S 6 1 else if k = 5 then su S 6 0 else if k = 6 then su S 7 1 else if k = 7 then su S 7 0 else if k = 8 then su S (30 + a.toNatClampNeg) 0 else siter L S a.toNatClampNeg
/-- a deed as it can be told -/
def dOk (k a b : Int32) : Prop := (∃ j : Nat, j ≤ 9 ∧ k = nI j) ∧ (k = 0 → (∃ m : Nat, m ≤ 4 ∧ a = nI m) ∧ ∃ p : Nat, p ≤ 15 ∧ b = nI p) ∧ (k = 1 → ∃ m : Nat, m ≤ 4 ∧ a = nI m) ∧ (k = 2 → wayOk a) ∧ (k = 8 → ∃ p : Nat, p ≤ 15 ∧ a = nI p) ∧ (k = 9 → ∃ h : Nat, h ≤ 9 ∧ a = nI h)
def SW (S : Nat → Int32) : Prop := (∀ p, p < 16 → ∃ w : Nat, w ≤ 135 ∧ S (30 + p) = nI w) ∧ (S 5 = 0 → ∀ p, p < 16 → ∃ w : Nat, w ≤ 99 ∧ S (30 + p) = nI w)
def SOk (L : Nat → Nat) (S : Nat → Int32) : Prop := SP L L S ∧ SM L S ∧ SWz L S ∧ wayOk (S 8) ∧ (z01 (S 6) = true ∧ z01 (S 7) = true) ∧ SW S
section DEEDS
variable {L : Nat → Nat} {S : Nat → Int32}
theorem sm_nat {f : Nat → Int32} : ∀ n, (∀ p, p < n → ∃ w : Nat, w ≤ 135 ∧ f p = nI w) → ∃ T : Nat, T ≤ 135 * n ∧ sm n f = nI T ∧ ∀ p, p < n → ∃ w : Nat, w ≤ T ∧ f p = nI w
  | 0, _ => ⟨0, Nat.le_refl _, rfl, fun p hp => by omega⟩
  | n + 1, h => by
    obtain ⟨T, h1, h2, h3⟩ := sm_nat n (fun p hp => h p (by omega))
    obtain ⟨w, w1, w2⟩ := h n (by omega)
    refine ⟨T + w, by omega, ?_, fun p hp => ?_⟩
    · show sm n f + f n = _
      rw [h2, w2, nI_add]
    · by_cases hpn : p = n
      · subst hpn
        exact ⟨w, by omega, w2⟩
      · obtain ⟨v, v1, v2⟩ := h3 p (by omega)
        exact ⟨v, by omega, v2⟩
theorem sleak_w (hO : LOk L) (h : ∀ p, p < 16 → ∃ w : Nat, w ≤ 99 ∧ S (30 + p) = nI w) : ∀ n, n ≤ L 15 → ∀ p, p < 16 → ∃ w : Nat, w ≤ 99 + 9 * n ∧ sleak L S n (30 + p) = nI w
  | 0, _, p, hp => by
    obtain ⟨w, h1, h2⟩ := h p hp
    exact ⟨w, by omega, h2⟩
  | n + 1, hn, p, hp => by
    obtain ⟨w, h1, h2⟩ := sleak_w hO h n (by omega) p hp
    show ∃ w : Nat, w ≤ 99 + 9 * (n + 1) ∧ su (sleak L S n) _ _ (30 + p) = nI w
    by_cases hc : p = L (101 + 2 * n)
    · subst hc
      have hr := (hO.1.2.2.2.2.2.2 n (by omega)).2
      refine ⟨w + L (102 + 2 * n), by omega, ?_⟩
      rw [su_self, h2, nI_add]
    · exact ⟨w, by omega, by rw [su_ne (by omega)]; exact h2⟩
theorem sleak_z (hO : LOk L) (h : SWz L S) : ∀ n, n ≤ L 15 → SWz L (sleak L S n)
  | 0, _ => h
  | n + 1, hn => fun p h1 h2 => by
    have hp := hO.2.2.2.1 n (by omega)
    show su (sleak L S n) _ _ (30 + p) = 0
    rw [su_ne (by omega)]
    exact sleak_z hO h n (by omega) p h1 h2
theorem shour_at {k : Nat} (h : k = 6 ∨ k = 7 ∨ k = 8 ∨ k = 9 ∨ (20 ≤ k ∧ k < 30)) : shour L S k = S k := by
  unfold shour
  split
  · unfold sh4 sh3 sh2
    rw [su_ne (by omega), sleak_lo _ _ (by omega), su_ne (by omega), su_ne (by omega)]
    unfold sh1
    split
    · exact smove_at (by omega) (by omega) (by omega)
    · rfl
  · rfl
theorem shour_ok (hO : LOk L) (h : SOk L S) : SOk L (shour L S) := by
  obtain ⟨hP, hM, hz, hw, h01, hW⟩ := h
  by_cases h5 : S 5 = 0
  · have es : shour L S = sh4 L (sh3 L (sh2 (sh1 L S))) := if_pos h5
    have hP1 : SP L L (shour L S) := by
      rw [es]
      have : SP L L (sh1 L S) := by
        unfold sh1
        split
        · exact smove_SP hO.1 hO.1 (dir_cases _) (dir_cases _) hP
        · exact hP
      obtain ⟨x, y, e0, e1, e2⟩ := this
      refine ⟨x, y, ?_, ?_, e2⟩
      · unfold sh4 sh3 sh2
        rw [su_ne (by omega), sleak_lo _ _ (by omega), su_ne (by omega), su_ne (by omega)]
        exact e0
      · unfold sh4 sh3 sh2
        rw [su_ne (by omega), sleak_lo _ _ (by omega), su_ne (by omega), su_ne (by omega)]
        exact e1
    have key : ∃ X : Nat → Int32, (∀ p, X (30 + p) = S (30 + p)) ∧ shour L S = su (sleak L X (L 15)) 5 (if sallw (sleak L X (L 15)) ≤ nI (L 8) then 0 else 1) := by
      refine ⟨sh3 L (sh2 (sh1 L S)), fun p => ?_, es⟩
      unfold sh3 sh2
      rw [su_ne (by omega), su_ne (by omega)]
      unfold sh1
      split
      · exact smove_at (by omega) (by omega) (by omega)
      · rfl
    obtain ⟨X, x1, x2⟩ := key
    have hb := hO.1.2.1.2.2.2.2
    have hL8 := hO.1.1.2.2.2.2.2.2.2.2.1
    have w0 : ∀ p, p < 16 → ∃ w : Nat, w ≤ 135 ∧ sleak L X (L 15) (30 + p) = nI w := fun p hp => by
      obtain ⟨w, a1, a2⟩ := sleak_w (S := X) hO (fun p hp => by rw [x1]; exact hW.2 h5 p hp) (L 15) (Nat.le_refl _) p hp
      exact ⟨w, by omega, a2⟩
    refine ⟨hP1, fun m hm => by rw [shour_at (by omega)]; exact hM m hm, fun p p1 p2 => ?_, by rw [shour_at (by omega)]; exact hw, ⟨by rw [shour_at (by omega)]; exact h01.1, by rw [shour_at (by omega)]; exact h01.2⟩, ?_, ?_⟩
    · rw [x2, su_ne (by omega)]
      exact sleak_z (S := X) hO (fun p p1 p2 => by rw [x1]; exact hz p p1 p2) (L 15) (Nat.le_refl _) p p1 p2
    · intro p hp
      rw [x2, su_ne (by omega)]
      exact w0 p hp
    · intro hs p hp
      rw [x2, su_self] at hs
      rw [x2, su_ne (by omega)]
      by_cases hc : sallw (sleak L X (L 15)) ≤ nI (L 8)
      · obtain ⟨T, t1, t2, t3⟩ := sm_nat 16 w0
        have : sallw (sleak L X (L 15)) = nI T := t2
        rw [this, nI_leI (by omega) (by omega)] at hc
        obtain ⟨w, v1, v2⟩ := t3 p hp
        exact ⟨w, by omega, v2⟩
      · rw [if_neg hc] at hs
        exact absurd hs (by decide)
  · have : shour L S = S := by
      unfold shour
      rw [if_neg h5]
    rw [this]
    exact ⟨hP, hM, hz, hw, h01, hW⟩
theorem siter_ok (hO : LOk L) (h : SOk L S) : ∀ n, SOk L (siter L S n)
  | 0 => h
  | n + 1 => shour_ok hO (siter_ok hO h n)
theorem siter_sunk (h : ¬ S 5 = 0) : ∀ n, siter L S n = S
  | 0 => rfl
  | n + 1 => by
    show shour L (siter L S n) = S
    rw [siter_sunk h n]
    unfold shour
    rw [if_neg h]
theorem SP_su {k : Nat} {v : Int32} (h : SP L L S) (h0 : k ≠ 0) (h1 : k ≠ 1) : SP L L (su S k v) := by
  obtain ⟨x, y, e0, e1, e2⟩ := h
  exact ⟨x, y, by rw [su_ne (by omega)]; exact e0, by rw [su_ne (by omega)]; exact e1, e2⟩
theorem SOk_su {k : Nat} {v : Int32} (h : SOk L S) (hk : k = 6 ∨ k = 7 ∨ k = 8 ∨ k = 9) (h01 : k = 6 ∨ k = 7 → z01 v = true) (hw : k = 8 → wayOk v) : SOk L (su S k v) := by
  obtain ⟨hP, hM, hz, hwy, hb, hW⟩ := h
  refine ⟨SP_su hP (by omega) (by omega), fun m hm => by rw [su_ne (by omega)]; exact hM m hm, fun p p1 p2 => by rw [su_ne (by omega)]; exact hz p p1 p2, ?_, ⟨?_, ?_⟩, fun p hp => by rw [su_ne (by omega)]; exact hW.1 p hp, fun h5 p hp => by rw [su_ne (by omega)] at h5 ⊢; exact hW.2 h5 p hp⟩
  · by_cases h8 : k = 8
    · subst h8
      rw [su_self]
      exact hw rfl
    · rw [su_ne (by omega)]
      exact hwy
  · by_cases h8 : k = 6
    · subst h8
      rw [su_self]
      exact h01 (Or.inl rfl)
    · rw [su_ne (by omega)]
      exact hb.1
  · by_cases h8 : k = 7
    · subst h8
      rw [su_self]
      exact h01 (Or.inr rfl)
    · rw [su_ne (by omega)]
      exact hb.2
theorem SOk_stand {m : Nat} {v : Int32} (h : SOk L S) (hm : m < 5) (hv : v = -1 ∨ m < L 14 ∧ ∃ p : Nat, p < L 2 * L 3 ∧ v = nI p) : SOk L (su S (20 + m) v) := by
  obtain ⟨hP, hM, hz, hwy, hb, hW⟩ := h
  refine ⟨SP_su hP (by omega) (by omega), fun i hi => ?_, fun p p1 p2 => by rw [su_ne (by omega)]; exact hz p p1 p2, by rw [su_ne (by omega)]; exact hwy, ⟨by rw [su_ne (by omega)]; exact hb.1, by rw [su_ne (by omega)]; exact hb.2⟩, fun p hp => by rw [su_ne (by omega)]; exact hW.1 p hp, fun h5 p hp => by rw [su_ne (by omega)] at h5 ⊢; exact hW.2 h5 p hp⟩
  by_cases him : i = m
  · subst him
    rw [su_self]
    exact hv
  · rw [su_ne (by omega)]
    exact hM i hi
theorem SOk_water0 {q : Nat} (h : SOk L S) (hq : q < 16) : SOk L (su S (30 + q) 0) := by
  obtain ⟨hP, hM, hz, hwy, hb, hW⟩ := h
  refine ⟨SP_su hP (by omega) (by omega), fun i hi => by rw [su_ne (by omega)]; exact hM i hi, fun p p1 p2 => ?_, by rw [su_ne (by omega)]; exact hwy, ⟨by rw [su_ne (by omega)]; exact hb.1, by rw [su_ne (by omega)]; exact hb.2⟩, fun p hp => ?_, fun h5 p hp => ?_⟩
  · by_cases hpq : p = q
    · subst hpq
      rw [su_self]
    · rw [su_ne (by omega)]
      exact hz p p1 p2
  · by_cases hpq : p = q
    · subst hpq
      rw [su_self]
      exact ⟨0, by omega, rfl⟩
    · rw [su_ne (by omega)]
      exact hW.1 p hp
  · rw [su_ne (by omega)] at h5
    by_cases hpq : p = q
    · subst hpq
      rw [su_self]
      exact ⟨0, by omega, rfl⟩
    · rw [su_ne (by omega)]
      exact hW.2 h5 p hp
theorem sDo_ok {k a b : Int32} (hO : LOk L) (h : SOk L S) (hd : dOk k a b) (hc : sCan L S k a b) : SOk L (sDo L S k a b) := by
  have h16 := pl16 hO.1
  have h14 := hO.1.2.1.2.2.2.1
  unfold sDo
  split
  · rename_i hk
    obtain ⟨c1, c2, -⟩ := hc.2.1 hk
    obtain ⟨m, m1, rfl⟩ := isMo_of hO.1 c1
    obtain ⟨p, p1, rfl⟩ := isPl_of hO.1 c2
    rw [nI_clamp (by omega)]
    exact SOk_stand h (by omega) (Or.inr ⟨m1, p, p1, rfl⟩)
  split
  · rename_i hk
    obtain ⟨c1, -⟩ := hc.2.2.1 hk
    obtain ⟨m, m1, rfl⟩ := isMo_of hO.1 c1
    rw [nI_clamp (by omega)]
    exact SOk_stand h (by omega) (Or.inl rfl)
  split
  · rename_i hk
    exact SOk_su (SOk_su h (k := 8) (by omega) (by omega) (fun _ => hd.2.2.2.1 hk)) (by omega) (by omega) (by omega)
  split
  · exact SOk_su (SOk_su h (k := 8) (by omega) (by omega) (fun _ => Or.inl rfl)) (by omega) (by omega) (by omega)
  split
  · exact SOk_su h (by omega) (fun _ => by decide) (by omega)
  split
  · exact SOk_su h (by omega) (fun _ => by decide) (by omega)
  split
  · exact SOk_su h (by omega) (fun _ => by decide) (by omega)
  split
  · exact SOk_su h (by omega) (fun _ => by decide) (by omega)
  split
  · rename_i hk
    obtain ⟨p, p1, rfl⟩ := hd.2.2.2.2.1 hk
    rw [nI_clamp (by omega)]
    exact SOk_water0 h (by omega)
  · exact siter_ok hO h _
theorem sDo0 (a b : Int32) : sDo L S 0 a b = su S (20 + a.toNatClampNeg) b := by
  unfold sDo
  rw [if_pos rfl]
theorem sDo1 (a b : Int32) : sDo L S 1 a b = su S (20 + a.toNatClampNeg) (-1) := by
  unfold sDo
  rw [if_neg (by decide), if_pos rfl]
theorem sDo2 (a b : Int32) : sDo L S 2 a b = su (su S 8 a) 9 b := by
  unfold sDo
  rw [if_neg (by decide), if_neg (by decide), if_pos rfl]
theorem sDo3 (a b : Int32) : sDo L S 3 a b = su (su S 8 (-1)) 9 0 := by
  unfold sDo
  rw [if_neg (by decide), if_neg (by decide), if_neg (by decide), if_pos rfl]
theorem sDo4 (a b : Int32) : sDo L S 4 a b = su S 6 1 := by
  unfold sDo
  rw [if_neg (by decide), if_neg (by decide), if_neg (by decide), if_neg (by decide), if_pos rfl]
theorem sDo5 (a b : Int32) : sDo L S 5 a b = su S 6 0 := by
  unfold sDo
  rw [if_neg (by decide), if_neg (by decide), if_neg (by decide), if_neg (by decide), if_neg (by decide), if_pos rfl]
theorem sDo6 (a b : Int32) : sDo L S 6 a b = su S 7 1 := by
  unfold sDo
  rw [if_neg (by decide), if_neg (by decide), if_neg (by decide), if_neg (by decide), if_neg (by decide), if_neg (by decide), if_pos rfl]
theorem sDo7 (a b : Int32) : sDo L S 7 a b = su S 7 0 := by
  unfold sDo
  rw [if_neg (by decide), if_neg (by decide), if_neg (by decide), if_neg (by decide), if_neg (by decide), if_neg (by decide), if_neg (by decide), if_pos rfl]
theorem sDo8 (a b : Int32) : sDo L S 8 a b = su S (30 + a.toNatClampNeg) 0 := by
  unfold sDo
  rw [if_neg (by decide), if_neg (by decide), if_neg (by decide), if_neg (by decide), if_neg (by decide), if_neg (by decide), if_neg (by decide), if_neg (by decide), if_pos rfl]
theorem sDo9 (a b : Int32) : sDo L S 9 a b = siter L S a.toNatClampNeg := by
  unfold sDo
  rw [if_neg (by decide), if_neg (by decide), if_neg (by decide), if_neg (by decide), if_neg (by decide), if_neg (by decide), if_neg (by decide), if_neg (by decide), if_neg (by decide)]
theorem sbegin_ok (hO : LOk L) : SOk L (sbegin L L) := by
  refine ⟨⟨L 4, L 5, rfl, rfl, hO.2.1⟩, fun m hm => Or.inl ?_, fun p _ p2 => ?_, Or.inl rfl, ⟨by show z01 (0 : Int32) = true; decide, by show z01 (0 : Int32) = true; decide⟩, fun p hp => ⟨0, by omega, ?_⟩, fun _ p hp => ⟨0, by omega, ?_⟩⟩
  · unfold sbegin
    rw [if_neg (by omega), if_neg (by omega), if_neg (by omega), if_neg (by omega), if_pos (by omega)]
  all_goals
    unfold sbegin
    rw [if_neg (by omega), if_neg (by omega), if_neg (by omega), if_neg (by omega), if_neg (by omega)]
    try rfl
end DEEDS
/-! deeds: both sides -/
def sAt (L : Nat → Nat) (D : Nat → Nat → Int32) : Nat → Nat → Int32
  | 0 => sbegin L L
  | j + 1 => sDo L (sAt L D j) (D j 0) (D j 1) (D j 2)
def sC (L : Nat → Nat) (D : Nat → Nat → Int32) (j : Nat) : Prop := sCan L (sAt L D j) (D j 0) (D j 1) (D j 2)
theorem z01_or {v : Int32} (h : z01 v = true) : v = 0 ∨ v = 1 := by
  simp only [z01, Bool.or_eq_true, decide_eq_true_eq] at h
  exact h
theorem siter_add (L : Nat → Nat) (S : Nat → Int32) (i : Nat) : ∀ j, siter L S (i + j) = siter L (siter L S i) j
  | 0 => rfl
  | j + 1 => by
    show shour L (siter L S (i + j)) = shour L (siter L (siter L S i) j)
    rw [siter_add L S i j]
theorem nI_nm1 {n : Nat} (h : n < 2 ^ 31) : ¬ nI n = -1 := fun w => by
  have : ¬ nI n < 0 := nI_pos h
  rw [w] at this
  exact this (by decide)
section DEEDC
variable {r la : Nat} {μ μ' : zM} {L : Nat → Nat} {S : Nat → Int32}
def F3 (r : Nat) (μ μ' : zM) : Prop := ∀ o, o ≠ r → o ≠ r + 1 → o ≠ r + 2 → μ' o = μ o
theorem F3.lc (f : F3 r μ μ') (hL : LC la μ L) (hr : la + 14 < r) : LC la μ' L := hL.congr (fun o h1 h2 => f o (by omega) (by omega) (by omega))
theorem F3.tr {μ1 μ2 : zM} (f : F3 r μ μ1) (g : F3 r μ1 μ2) : F3 r μ μ2 := fun o h1 h2 h3 => (g o h1 h2 h3).trans (f o h1 h2 h3)
theorem hoursC {h : Nat} (hh : h ≤ 9) (hR : RC r μ la la S) (hL : LC la μ L) (hO : LOk L) (hr : la + 14 < r) (hS : SOk L S) : wp (f_X4_obeys_L138 r (nI h) zFU 0 μ) (fun μ' => RC r μ' la la (siter L S h) ∧ F3 r μ μ') := by
  refine wlp0 (fun n k μ' => f_X4_obeys_L138 r (nI h) n (nI k) μ') _ h (fun k μ' => RC r μ' la la (siter L S k) ∧ F3 r μ μ') (by omega) μ ⟨hR, fun _ _ _ _ => rfl⟩ ?_ ?_
  · intro n k μ1 hk ⟨h1, f1⟩ ih
    have hs := siter_ok hO hS k
    have e5 : μ1 r 7 = siter L S k 5 := h1.f 5 (by omega)
    show wp (f_X4_obeys_L138 r (nI h) (n + 1) (nI k) μ1) _
    rw [f_X4_obeys_L138, e5]
    by_cases h5 : siter L S k 5 = 0
    · refine wp_it ⟨nI_ge hk (by omega), h5⟩ (wp_bdQ (passHourC h1 (f1.lc hL hr) hO hr hs.2.1 hs.1) fun μ2 ⟨h2, f2⟩ => wp_ls ?_)
      rw [nI_1]
      exact ih _ ⟨h2, f1.tr (fun o o1 o2 o3 => f2 o o1 o3)⟩
    · refine wp_ie (fun w => h5 w.2) (wp_some ⟨?_, f1⟩)
      have : siter L S h = siter L S k := by
        rw [show h = k + (h - k) by omega, siter_add, siter_sunk h5]
      rw [this]
      exact h1
  · intro n μ1 hI
    show wp (f_X4_obeys_L138 r (nI h) (n + 1) (nI h) μ1) _
    rw [f_X4_obeys_L138]
    exact wp_ie (fun w => w.1 (nI_le (Nat.le_refl _) (by omega))) (wp_some hI)
theorem obeysC {k x y : Int32} (hR : RC r μ la la S) (hL : LC la μ L) (hO : LOk L) (hr : la + 14 < r) (hS : SOk L S) (hd : dOk k x y) :
    wp (f_X4_obeys r k x y μ) (fun p => (p.1 = 1 ∧ sCan L S k x y ∧ RC r p.2 la la (sDo L S k x y) ∨ p.1 = 0 ∧ ¬ sCan L S k x y) ∧ F3 r μ p.2) := by
  have e5 : μ r 7 = S 5 := hR.f 5 (by omega)
  have h16 := pl16 hO.1
  have h14 := hO.1.2.1.2.2.2.1
  have rf : F3 r μ μ := fun _ _ _ _ => rfl
  unfold f_X4_obeys
  rw [e5]
  by_cases h5 : S 5 = 0
  case neg => exact wp_ie h5 (wp_some ⟨Or.inr ⟨rfl, fun w => h5 w.1⟩, rf⟩)
  refine wp_it h5 ?_
  by_cases k0 : k = 0
  · subst k0
    obtain ⟨⟨m, m1, rfl⟩, ⟨p, p1, rfl⟩⟩ := hd.2.1 rfl
    refine wp_it rfl (wp_bd2Q (Q := fun p0 => (p0.1 = 1 ∧ sCan L S 0 (nI m) (nI p) ∧ RC r p0.2 la la (sDo L S 0 (nI m) (nI p)) ∨ p0.1 = 0 ∧ ¬ sCan L S 0 (nI m) (nI p)) ∧ F3 r μ p0.2) ?_ (fun v w hv => wp_g ?_ (wp_some hv)))
    · unfold f_X4_takesAboard
      refine wp_bdE (hasMournerC hR hL) ?_
      have no : ∀ h : ¬ sCan L S 0 (nI m) (nI p), wp (if false = true then zg (zin (nI m) 5) (zl (zup μ (r + 1) (nI m).toNatClampNeg (nI p)) fun μ11 => some ((1 : Int32), μ11)) else some ((0 : Int32), μ)) (fun p0 => (p0.1 = 1 ∧ sCan L S 0 (nI m) (nI p) ∧ RC r p0.2 la la (sDo L S 0 (nI m) (nI p)) ∨ p0.1 = 0 ∧ ¬ sCan L S 0 (nI m) (nI p)) ∧ F3 r μ p0.2) := fun h => wp_ie (by decide) (wp_some ⟨Or.inr ⟨rfl, h⟩, rf⟩)
      cases c1 : isMo L (nI m) with
      | false => exact wp_bd (wp_it rfl (wp_some (no (fun w => by rw [(w.2.1 rfl).1] at c1; cases c1))))
      | true =>
        refine wp_bd (wp_ie (by decide) (wp_bdE (hasPlaceC hR hL) ?_))
        cases c2 : isPl L (nI p) with
        | false => exact wp_it rfl (wp_some (no (fun w => by rw [(w.2.1 rfl).2.1] at c2; cases c2)))
        | true =>
          refine wp_ie (by decide) (wp_g (zin_nI (by omega) (by omega)) ?_)
          have es : μ (r + 1) (nI m).toNatClampNeg = S (20 + m) := by rw [nI_clamp (by omega)]; exact hR.2.2.2.1 m (by omega)
          rw [es]
          by_cases c3 : S (20 + m) = nI p
          · refine wp_ie (fun w => w c3) (wp_some (no (fun w => (w.2.1 rfl).2.2 ?_)))
            rw [nI_clamp (by omega)]
            exact c3
          · refine wp_it c3 (wp_some (wp_it rfl (wp_g (zin_nI (by omega) (by omega)) (wp_ls (wp_some ⟨Or.inl ⟨rfl, ?_, ?_⟩, fun o _ o2 _ => zup_rne _ _ _ o2⟩)))))
            · refine ⟨h5, fun _ => ⟨c1, c2, by rw [nI_clamp (by omega)]; exact c3⟩, ?_⟩
              exact ⟨fun w => absurd w (by decide), fun w => absurd w (by decide), fun w => absurd w (by decide), fun w => absurd w (by decide), fun w => absurd w (by decide), fun w => absurd w (by decide), fun w => absurd w (by decide)⟩
            · unfold sDo
              rw [if_pos rfl, nI_clamp (by omega)]
              exact hR.stand (by omega)
    · rcases hv.1 with ⟨e, -⟩ | ⟨e, -⟩ <;> (have e : v = _ := e; rw [e]; decide)
  refine wp_ie k0 ?_
  by_cases k1 : k = 1
  · subst k1
    obtain ⟨m, m1, rfl⟩ := hd.2.2.1 rfl
    refine wp_it rfl (wp_bd2Q (Q := fun p0 => (p0.1 = 1 ∧ sCan L S 1 (nI m) y ∧ RC r p0.2 la la (sDo L S 1 (nI m) y) ∨ p0.1 = 0 ∧ ¬ sCan L S 1 (nI m) y) ∧ F3 r μ p0.2) ?_ (fun v w hv => wp_g ?_ (wp_some hv)))
    · unfold f_X4_setsAshore
      refine wp_bdE (hasMournerC hR hL) ?_
      cases c1 : isMo L (nI m) with
      | false => exact wp_bd (wp_it rfl (wp_some (wp_ie (by decide) (wp_some ⟨Or.inr ⟨rfl, fun w => by rw [(w.2.2.1 rfl).1] at c1; cases c1⟩, rf⟩))))
      | true =>
        refine wp_bd (wp_ie (by decide) (wp_g (zin_nI (by omega) (by omega)) ?_))
        have es : μ (r + 1) (nI m).toNatClampNeg = S (20 + m) := by rw [nI_clamp (by omega)]; exact hR.2.2.2.1 m (by omega)
        rw [es]
        by_cases c3 : S (20 + m) = -1
        · refine wp_ie (fun w => w c3) (wp_some (wp_ie (by decide) (wp_some ⟨Or.inr ⟨rfl, fun w => (w.2.2.1 rfl).2 ?_⟩, rf⟩)))
          rw [nI_clamp (by omega)]
          exact c3
        · refine wp_it c3 (wp_some (wp_it rfl (wp_g (zin_nI (by omega) (by omega)) (wp_ls (wp_some ⟨Or.inl ⟨rfl, ?_, ?_⟩, fun o _ o2 _ => zup_rne _ _ _ o2⟩)))))
          · refine ⟨h5, fun w => absurd w (by decide), fun _ => ⟨c1, by rw [nI_clamp (by omega)]; exact c3⟩, ?_⟩
            exact ⟨fun w => absurd w (by decide), fun w => absurd w (by decide), fun w => absurd w (by decide), fun w => absurd w (by decide), fun w => absurd w (by decide), fun w => absurd w (by decide)⟩
          · unfold sDo
            rw [if_neg (by decide), if_pos rfl, nI_clamp (by omega)]
            exact hR.stand (by omega)
    · rcases hv.1 with ⟨e, -⟩ | ⟨e, -⟩ <;> (have e : v = _ := e; rw [e]; decide)
  refine wp_ie k1 ?_
  by_cases k2 : k = 2
  · subst k2
    refine wp_it rfl (wp_ls (wp_ls (wp_some ⟨Or.inl ⟨rfl, ?_, ?_⟩, fun o o1 _ _ => (zup_rne _ _ _ o1).trans (zup_rne _ _ _ o1)⟩)))
    · exact ⟨h5, fun w => absurd w (by decide), fun w => absurd w (by decide), fun w => absurd w (by decide), fun w => absurd w (by decide), fun w => absurd w (by decide), fun w => absurd w (by decide), fun w => absurd w (by decide), fun w => absurd w (by decide)⟩
    · exact (hR.put (k := 8) (by omega)).put (k := 9) (by omega)
  refine wp_ie k2 ?_
  have e8 : μ r 10 = S 8 := hR.f 8 (by omega)
  have e6 : μ r 8 = S 6 := hR.f 6 (by omega)
  have e7 : μ r 9 = S 7 := hR.f 7 (by omega)
  by_cases k3 : k = 3
  · subst k3
    refine wp_it rfl (wp_l2 fun v w hvw => ?_)
    unfold f_X4_calms zl at hvw
    rw [e8] at hvw
    by_cases c : S 8 = -1
    · rw [if_neg (fun w => w c)] at hvw
      cases hvw
      exact wp_g (by decide) (wp_some ⟨Or.inr ⟨rfl, fun w => w.2.2.2.1 rfl c⟩, rf⟩)
    · rw [if_pos c] at hvw
      cases hvw
      refine wp_g (by decide) (wp_some ⟨Or.inl ⟨rfl, ?_, ?_⟩, fun o o1 _ _ => (zup_rne _ _ _ o1).trans (zup_rne _ _ _ o1)⟩)
      · exact ⟨h5, fun w => absurd w (by decide), fun w => absurd w (by decide), fun _ => c, fun w => absurd w (by decide), fun w => absurd w (by decide), fun w => absurd w (by decide), fun w => absurd w (by decide), fun w => absurd w (by decide)⟩
      · exact (hR.put (k := 8) (by omega)).put (k := 9) (by omega)
  refine wp_ie k3 ?_
  by_cases k4 : k = 4
  · subst k4
    refine wp_it rfl (wp_bd2 ?_)
    unfold f_X4_freezes
    rw [e6]
    refine wp_ls (wp_g (by decide) (wp_ls (wp_some ?_)))
    show wp (zg (z01 (if S 6 = 1 then 0 else 1)) (some ((if S 6 = 1 then 0 else 1), zup μ r 8 1))) _
    rcases z01_or hS.2.2.2.2.1.1 with c | c
    · rw [if_neg (by rw [c]; decide)]
      refine wp_g (by decide) (wp_some ⟨Or.inl ⟨rfl, ?_, ?_⟩, fun o o1 _ _ => zup_rne _ _ _ o1⟩)
      · exact ⟨h5, fun w => absurd w (by decide), fun w => absurd w (by decide), fun w => absurd w (by decide), fun _ => c, fun w => absurd w (by decide), fun w => absurd w (by decide), fun w => absurd w (by decide), fun w => absurd w (by decide)⟩
      · exact hR.put (k := 6) (by omega)
    · rw [if_pos c]
      refine wp_g (by decide) (wp_some ⟨Or.inr ⟨rfl, fun w => absurd (c.symm.trans (w.2.2.2.2.1 rfl)) (by decide)⟩, fun o o1 _ _ => zup_rne _ _ _ o1⟩)
  refine wp_ie k4 ?_
  by_cases k5 : k = 5
  · subst k5
    refine wp_it rfl (wp_bd2 ?_)
    unfold f_X4_freezes
    rw [e6]
    refine wp_ls (wp_g (by decide) (wp_ls (wp_some ?_)))
    show wp (zg (z01 (if S 6 = 0 then 0 else 1)) (some ((if S 6 = 0 then 0 else 1), zup μ r 8 0))) _
    by_cases c : S 6 = 0
    · rw [if_pos c]
      exact wp_g (by decide) (wp_some ⟨Or.inr ⟨rfl, fun w => w.2.2.2.2.2.1 rfl c⟩, fun o o1 _ _ => zup_rne _ _ _ o1⟩)
    · rw [if_neg c]
      refine wp_g (by decide) (wp_some ⟨Or.inl ⟨rfl, ?_, ?_⟩, fun o o1 _ _ => zup_rne _ _ _ o1⟩)
      · exact ⟨h5, fun w => absurd w (by decide), fun w => absurd w (by decide), fun w => absurd w (by decide), fun w => absurd w (by decide), fun _ => c, fun w => absurd w (by decide), fun w => absurd w (by decide), fun w => absurd w (by decide)⟩
      · exact hR.put (k := 6) (by omega)
  refine wp_ie k5 ?_
  by_cases k6 : k = 6
  · subst k6
    refine wp_it rfl (wp_bdE (sidesC hR hL hL) (wp_bd2 ?_))
    by_cases cs : sside L L (S 0) (S 1) = 0
    · exact wp_it cs (wp_some (wp_g (show z01 (0 : Int32) = true by decide) (wp_some ⟨Or.inr ⟨rfl, fun w => (w.2.2.2.2.2.2.1 rfl).2 cs⟩, rf⟩)))
    · refine wp_ie cs (wp_bd2 ?_)
      unfold f_X4_moors
      rw [e7]
      refine wp_ls (wp_g (by decide) (wp_ls (wp_some ?_)))
      show wp (if (if S 7 = 1 then (0 : Int32) else 1) = 0 then some ((0 : Int32), zup μ r 9 1) else some ((1 : Int32), zup μ r 9 1)) _
      rcases z01_or hS.2.2.2.2.1.2 with c | c
      · rw [if_neg (by rw [c]; decide)]
        refine (wp_some (wp_g (show z01 (1 : Int32) = true by decide) (wp_some ⟨Or.inl ⟨rfl, ?_, ?_⟩, fun o o1 _ _ => zup_rne _ _ _ o1⟩)))
        · exact ⟨h5, fun w => absurd w (by decide), fun w => absurd w (by decide), fun w => absurd w (by decide), fun w => absurd w (by decide), fun w => absurd w (by decide), fun _ => ⟨c, cs⟩, fun w => absurd w (by decide), fun w => absurd w (by decide)⟩
        · exact hR.put (k := 7) (by omega)
      · rw [if_pos c]
        exact wp_it rfl (wp_some (wp_g (show z01 (0 : Int32) = true by decide) (wp_some ⟨Or.inr ⟨rfl, fun w => absurd (c.symm.trans (w.2.2.2.2.2.2.1 rfl).1) (by decide)⟩, fun o o1 _ _ => zup_rne _ _ _ o1⟩)))
  refine wp_ie k6 ?_
  by_cases k7 : k = 7
  · subst k7
    refine wp_it rfl (wp_bd2 ?_)
    unfold f_X4_moors
    rw [e7]
    refine wp_ls (wp_g (by decide) (wp_ls (wp_some ?_)))
    show wp (zg (z01 (if S 7 = 0 then 0 else 1)) (some ((if S 7 = 0 then 0 else 1), zup μ r 9 0))) _
    by_cases c : S 7 = 0
    · rw [if_pos c]
      exact wp_g (by decide) (wp_some ⟨Or.inr ⟨rfl, fun w => w.2.2.2.2.2.2.2.1 rfl c⟩, fun o o1 _ _ => zup_rne _ _ _ o1⟩)
    · rw [if_neg c]
      refine wp_g (by decide) (wp_some ⟨Or.inl ⟨rfl, ?_, ?_⟩, fun o o1 _ _ => zup_rne _ _ _ o1⟩)
      · exact ⟨h5, fun w => absurd w (by decide), fun w => absurd w (by decide), fun w => absurd w (by decide), fun w => absurd w (by decide), fun w => absurd w (by decide), fun w => absurd w (by decide), fun _ => c, fun w => absurd w (by decide)⟩
      · exact hR.put (k := 7) (by omega)
  refine wp_ie k7 ?_
  by_cases k8 : k = 8
  · subst k8
    obtain ⟨p, p1, rfl⟩ := hd.2.2.2.2.1 rfl
    refine wp_it rfl (wp_bd2Q (Q := fun p0 => (p0.1 = 1 ∧ sCan L S 8 (nI p) y ∧ RC r p0.2 la la (sDo L S 8 (nI p) y) ∨ p0.1 = 0 ∧ ¬ sCan L S 8 (nI p) y) ∧ F3 r μ p0.2) ?_ (fun v w hv => wp_g ?_ (wp_some hv)))
    · unfold f_X4_isBailed
      refine wp_bdE (hasPlaceC hR hL) ?_
      cases c1 : isPl L (nI p) with
      | false => exact wp_bd (wp_it rfl (wp_some (wp_ie (by decide) (wp_some ⟨Or.inr ⟨rfl, fun w => by rw [(w.2.2.2.2.2.2.2.2 rfl).1] at c1; cases c1⟩, rf⟩))))
      | true =>
        refine wp_bd (wp_ie (by decide) (wp_g (zin_nI (by omega) (by omega)) ?_))
        have es : μ (r + 2) (nI p).toNatClampNeg = S (30 + p) := by rw [nI_clamp (by omega)]; exact hR.2.2.2.2 p (by omega)
        rw [es]
        by_cases c3 : S (30 + p) = 0
        · refine wp_ie (fun w => w c3) (wp_some (wp_ie (by decide) (wp_some ⟨Or.inr ⟨rfl, fun w => (w.2.2.2.2.2.2.2.2 rfl).2 ?_⟩, rf⟩)))
          rw [nI_clamp (by omega)]
          exact c3
        · refine wp_it c3 (wp_some (wp_it rfl (wp_g (zin_nI (by omega) (by omega)) (wp_ls (wp_some ⟨Or.inl ⟨rfl, ?_, ?_⟩, fun o _ _ o3 => zup_rne _ _ _ o3⟩)))))
          · exact ⟨h5, fun w => absurd w (by decide), fun w => absurd w (by decide), fun w => absurd w (by decide), fun w => absurd w (by decide), fun w => absurd w (by decide), fun w => absurd w (by decide), fun w => absurd w (by decide), fun _ => ⟨c1, by rw [nI_clamp (by omega)]; exact c3⟩⟩
          · unfold sDo
            rw [if_neg (by decide), if_neg (by decide), if_neg (by decide), if_neg (by decide), if_neg (by decide), if_neg (by decide), if_neg (by decide), if_neg (by decide), if_pos rfl, nI_clamp (by omega)]
            exact hR.water (by omega)
    · rcases hv.1 with ⟨e, -⟩ | ⟨e, -⟩ <;> (have e : v = _ := e; rw [e]; decide)
  refine wp_ie k8 ?_
  have k9 : k = 9 := by
    obtain ⟨j, j1, rfl⟩ := hd.1
    have hj : j = 0 ∨ j = 1 ∨ j = 2 ∨ j = 3 ∨ j = 4 ∨ j = 5 ∨ j = 6 ∨ j = 7 ∨ j = 8 ∨ j = 9 := by omega
    rcases hj with rfl | rfl | rfl | rfl | rfl | rfl | rfl | rfl | rfl | rfl
    · exact absurd rfl k0
    · exact absurd rfl k1
    · exact absurd rfl k2
    · exact absurd rfl k3
    · exact absurd rfl k4
    · exact absurd rfl k5
    · exact absurd rfl k6
    · exact absurd rfl k7
    · exact absurd rfl k8
    · rfl
  subst k9
  obtain ⟨h, h1, rfl⟩ := hd.2.2.2.2.2 rfl
  refine wp_bdQ (hoursC h1 hR hL hO hr hS) fun μ1 ⟨g1, f1⟩ => wp_some ⟨Or.inl ⟨rfl, ?_, ?_⟩, f1⟩
  · exact ⟨h5, fun w => absurd w (by decide), fun w => absurd w (by decide), fun w => absurd w (by decide), fun w => absurd w (by decide), fun w => absurd w (by decide), fun w => absurd w (by decide), fun w => absurd w (by decide), fun w => absurd w (by decide)⟩
  · unfold sDo
    rw [if_neg (by decide), if_neg (by decide), if_neg (by decide), if_neg (by decide), if_neg (by decide), if_neg (by decide), if_neg (by decide), if_neg (by decide), if_neg (by decide), nI_clamp (by omega)]
    exact g1
end DEEDC
/-! deeds: the reference -/
def DM (d n : Nat) (D : Nat → Nat → Int32) (μ : zM) : Prop := n ≤ 40 ∧ d + 121 ≤ 4688 ∧ μ 310 11 = nI d ∧ μ 311 d = nI n ∧ ∀ j, j < n → ∀ c, c < 3 → μ 311 (d + 1 + 3 * j + c) = D j c
section DEEDM
variable {q d nd : Nat} {μ μ' : zM} {L : Nat → Nat} {S : Nat → Int32} {D : Nat → Nat → Int32}
theorem DM.mf2 (h : DM d nd D μ) (f : MF2 μ μ') : DM d nd D μ' := by
  unfold DM at h ⊢
  rw [f.1 311 (by omega) (by omega) (by omega), f.2 11 (by omega)]
  exact h
theorem deedM {v w : Int32} {j c : Nat} (h : DM d nd D μ) (hv : v = nI j) (hw : w = nI c) (hj : j < nd) (hc : c < 3) : f_X12_deedOf 310 v w μ = some (D j c) := by
  subst hv hw
  unfold f_X12_deedOf
  have e : μ 310 11 + 1 + 3 * nI j + nI c = nI (d + 1 + 3 * j + c) := by
    rw [h.2.2.1, nI_1]
    show nI (d + 1) + nI 3 * nI j + nI c = _
    rw [pk_mul, nI_add, nI_add]
  have := h.1
  have := h.2.1
  rw [e, zin_nI (by omega) (by omega), nI_clamp (by omega)]
  show some (μ 311 _) = _
  rw [h.2.2.2.2 j hj c hc]
theorem deedsM (h : DM d nd D μ) : f_X12_deeds 310 μ = some (nI nd) := by
  unfold f_X12_deeds
  have := h.2.1
  rw [h.2.2.1, zin_nI (by omega) (by omega), nI_clamp (by omega)]
  show some (μ 311 d) = _
  rw [h.2.2.2.1]
theorem canM {j : Nat} (h : LM q μ L) (hO : LOk L) (hS : MC μ S) (hk : SOk L S) (hD : DM d nd D μ) (hj : j < nd) (hd : dOk (D j 0) (D j 1) (D j 2)) : wp (f_X12_can 310 (nI j) μ) (fun r => r = 1 ∧ sCan L S (D j 0) (D j 1) (D j 2) ∨ r = 0 ∧ ¬ sCan L S (D j 0) (D j 1) (D j 2)) := by
  have h16 := pl16 hO.1
  have h14 := hO.1.2.1.2.2.2.1
  have e5 : μ 310 17 = S 5 := hS.f 5 (by omega)
  have e8 : μ 310 20 = S 8 := hS.f 8 (by omega)
  have e6 : μ 310 18 = S 6 := hS.f 6 (by omega)
  have e7 : μ 310 19 = S 7 := hS.f 7 (by omega)
  have e0 : μ 310 12 = S 0 := hS.f 0 (by omega)
  have e1 : μ 310 13 = S 1 := hS.f 1 (by omega)
  unfold f_X12_can
  rw [e5, e8, e6, e7, e0, e1]
  refine wp_bdE (deedM (c := 1) hD rfl rfl hj (by omega)) (wp_bdE (deedM (c := 2) hD rfl rfl hj (by omega)) ?_)
  by_cases h5 : S 5 = 0
  case neg => exact wp_ie h5 (wp_some (Or.inr ⟨rfl, fun w => h5 w.1⟩))
  refine wp_it h5 (wp_bdE (deedM (c := 0) hD rfl rfl hj (by omega)) ?_)
  generalize D j 0 = k at hd
  generalize D j 1 = x at hd
  generalize D j 2 = y at hd
  by_cases k0 : k = 0
  · subst k0
    obtain ⟨⟨m, m1, rfl⟩, ⟨p, p1, rfl⟩⟩ := hd.2.1 rfl
    refine wp_it rfl (wp_bdE (isMournerM h hO.1) ?_)
    cases c1 : isMo L (nI m) with
    | false => exact wp_bd (wp_bd (wp_it rfl (wp_some (wp_ie (by decide) (wp_some (wp_g (by decide) (wp_some (Or.inr ⟨rfl, fun w => by rw [(w.2.1 rfl).1] at c1; cases c1⟩))))))))
    | true =>
      refine wp_bd (wp_bd (wp_ie (by decide) (wp_bdE (isPlaceM h hO.1) ?_)))
      cases c2 : isPl L (nI p) with
      | false => exact wp_it rfl (wp_some (wp_ie (by decide) (wp_some (wp_g (by decide) (wp_some (Or.inr ⟨rfl, fun w => by rw [(w.2.1 rfl).2.1] at c2; cases c2⟩))))))
      | true =>
        refine wp_ie (by decide) (wp_g (zin_nI (by omega) (by omega)) ?_)
        have es : μ (310 + 4) (nI m).toNatClampNeg = S (20 + m) := by rw [nI_clamp (by omega)]; exact hS.2.1 m (by omega)
        rw [es]
        by_cases c3 : S (20 + m) = nI p
        · refine wp_it c3 (wp_some (wp_ie (by decide) (wp_some (wp_g (by decide) (wp_some (Or.inr ⟨rfl, fun w => (w.2.1 rfl).2.2 ?_⟩))))))
          rw [nI_clamp (by omega)]
          exact c3
        · refine wp_ie c3 (wp_some (wp_it rfl (wp_some (wp_g (by decide) (wp_some (Or.inl ⟨rfl, ?_⟩))))))
          exact ⟨h5, fun _ => ⟨c1, c2, by rw [nI_clamp (by omega)]; exact c3⟩, fun w => absurd w (by decide), fun w => absurd w (by decide), fun w => absurd w (by decide), fun w => absurd w (by decide), fun w => absurd w (by decide), fun w => absurd w (by decide), fun w => absurd w (by decide)⟩
  refine wp_ie k0 ?_
  by_cases k1 : k = 1
  · subst k1
    obtain ⟨m, m1, rfl⟩ := hd.2.2.1 rfl
    refine wp_it rfl (wp_bdE (isMournerM h hO.1) ?_)
    cases c1 : isMo L (nI m) with
    | false => exact wp_bd (wp_bd (wp_it rfl (wp_some (wp_ie (by decide) (wp_some (wp_g (by decide) (wp_some (Or.inr ⟨rfl, fun w => by rw [(w.2.2.1 rfl).1] at c1; cases c1⟩))))))))
    | true =>
      refine wp_bd (wp_bd (wp_ie (by decide) (wp_g (zin_nI (by omega) (by omega)) ?_)))
      have es : μ (310 + 4) (nI m).toNatClampNeg = S (20 + m) := by rw [nI_clamp (by omega)]; exact hS.2.1 m (by omega)
      rw [es]
      by_cases c3 : S (20 + m) = -1
      · refine wp_it c3 (wp_some (wp_ie (by decide) (wp_some (wp_g (by decide) (wp_some (Or.inr ⟨rfl, fun w => (w.2.2.1 rfl).2 ?_⟩))))))
        rw [nI_clamp (by omega)]
        exact c3
      · refine wp_ie c3 (wp_some (wp_it rfl (wp_some (wp_g (by decide) (wp_some (Or.inl ⟨rfl, ?_⟩))))))
        exact ⟨h5, fun w => absurd w (by decide), fun _ => ⟨c1, by rw [nI_clamp (by omega)]; exact c3⟩, fun w => absurd w (by decide), fun w => absurd w (by decide), fun w => absurd w (by decide), fun w => absurd w (by decide), fun w => absurd w (by decide), fun w => absurd w (by decide)⟩
  refine wp_ie k1 ?_
  by_cases k3 : k = 3
  · subst k3
    refine wp_it rfl (wp_ls (wp_some ?_))
    by_cases c : S 8 = -1
    · rw [if_pos c]
      exact Or.inr ⟨rfl, fun w => w.2.2.2.1 rfl c⟩
    · rw [if_neg c]
      exact Or.inl ⟨rfl, h5, fun w => absurd w (by decide), fun w => absurd w (by decide), fun _ => c, fun w => absurd w (by decide), fun w => absurd w (by decide), fun w => absurd w (by decide), fun w => absurd w (by decide), fun w => absurd w (by decide)⟩
  refine wp_ie k3 ?_
  by_cases k4 : k = 4
  · subst k4
    refine wp_it rfl (wp_ls (wp_some ?_))
    by_cases c : S 6 = 0
    · rw [if_neg (fun w => w c)]
      exact Or.inl ⟨rfl, h5, fun w => absurd w (by decide), fun w => absurd w (by decide), fun w => absurd w (by decide), fun _ => c, fun w => absurd w (by decide), fun w => absurd w (by decide), fun w => absurd w (by decide), fun w => absurd w (by decide)⟩
    · rw [if_pos c]
      exact Or.inr ⟨rfl, fun w => c (w.2.2.2.2.1 rfl)⟩
  refine wp_ie k4 ?_
  by_cases k5 : k = 5
  · subst k5
    refine wp_it rfl (wp_g hk.2.2.2.2.1.1 (wp_some ?_))
    rcases z01_or hk.2.2.2.2.1.1 with c | c
    · exact Or.inr ⟨c, fun w => w.2.2.2.2.2.1 rfl c⟩
    · exact Or.inl ⟨c, h5, fun w => absurd w (by decide), fun w => absurd w (by decide), fun w => absurd w (by decide), fun w => absurd w (by decide), fun _ => by rw [c]; decide, fun w => absurd w (by decide), fun w => absurd w (by decide), fun w => absurd w (by decide)⟩
  refine wp_ie k5 ?_
  by_cases k6 : k = 6
  · subst k6
    refine wp_it rfl ?_
    by_cases c : S 7 = 0
    · refine wp_bd (wp_bd (wp_ie (fun w => w c) (wp_bdE (sidesM h) ?_)))
      by_cases cs : sside L L (S 0) (S 1) = 0
      · exact wp_it cs (wp_some (wp_ie (by decide) (wp_some (wp_g (by decide) (wp_some (Or.inr ⟨rfl, fun w => (w.2.2.2.2.2.2.1 rfl).2 cs⟩))))))
      · exact wp_ie cs (wp_some (wp_it rfl (wp_some (wp_g (by decide) (wp_some (Or.inl ⟨rfl, h5, fun w => absurd w (by decide), fun w => absurd w (by decide), fun w => absurd w (by decide), fun w => absurd w (by decide), fun w => absurd w (by decide), fun _ => ⟨c, cs⟩, fun w => absurd w (by decide), fun w => absurd w (by decide)⟩))))))
    · exact wp_bd (wp_bd (wp_it c (wp_some (wp_ie (by decide) (wp_some (wp_g (by decide) (wp_some (Or.inr ⟨rfl, fun w => c (w.2.2.2.2.2.2.1 rfl).1⟩))))))))
  refine wp_ie k6 ?_
  by_cases k7 : k = 7
  · subst k7
    refine wp_it rfl (wp_g hk.2.2.2.2.1.2 (wp_some ?_))
    rcases z01_or hk.2.2.2.2.1.2 with c | c
    · exact Or.inr ⟨c, fun w => w.2.2.2.2.2.2.2.1 rfl c⟩
    · exact Or.inl ⟨c, h5, fun w => absurd w (by decide), fun w => absurd w (by decide), fun w => absurd w (by decide), fun w => absurd w (by decide), fun w => absurd w (by decide), fun w => absurd w (by decide), fun _ => by rw [c]; decide, fun w => absurd w (by decide)⟩
  refine wp_ie k7 ?_
  by_cases k8 : k = 8
  · subst k8
    obtain ⟨p, p1, rfl⟩ := hd.2.2.2.2.1 rfl
    refine wp_it rfl (wp_bdE (isPlaceM h hO.1) ?_)
    cases c1 : isPl L (nI p) with
    | false => exact wp_bd (wp_bd (wp_it rfl (wp_some (wp_ie (by decide) (wp_some (wp_g (by decide) (wp_some (Or.inr ⟨rfl, fun w => by rw [(w.2.2.2.2.2.2.2.2 rfl).1] at c1; cases c1⟩))))))))
    | true =>
      refine wp_bd (wp_bd (wp_ie (by decide) (wp_g (zin_nI (by omega) (by omega)) ?_)))
      have es : μ (310 + 5) (nI p).toNatClampNeg = S (30 + p) := by rw [nI_clamp (by omega)]; exact hS.2.2 p (by omega)
      rw [es]
      obtain ⟨w0, w1, w2⟩ := hk.2.2.2.2.2.1 p (by omega)
      by_cases c3 : S (30 + p) = 0
      · refine wp_it (by rw [c3]; decide) (wp_some (wp_ie (by decide) (wp_some (wp_g (by decide) (wp_some (Or.inr ⟨rfl, fun w => (w.2.2.2.2.2.2.2.2 rfl).2 ?_⟩))))))
        rw [nI_clamp (by omega)]
        exact c3
      · have c4 : ¬ S (30 + p) ≤ 0 := by
          rw [w2] at c3 ⊢
          refine nI_nle ?_ (by omega)
          by_cases hw0 : w0 = 0
          · subst hw0
            exact absurd rfl c3
          · omega
        refine wp_ie c4 (wp_some (wp_it rfl (wp_some (wp_g (by decide) (wp_some (Or.inl ⟨rfl, ?_⟩))))))
        exact ⟨h5, fun w => absurd w (by decide), fun w => absurd w (by decide), fun w => absurd w (by decide), fun w => absurd w (by decide), fun w => absurd w (by decide), fun w => absurd w (by decide), fun w => absurd w (by decide), fun _ => ⟨c1, by rw [nI_clamp (by omega)]; exact c3⟩⟩
  refine wp_ie k8 (wp_some (Or.inl ⟨rfl, h5, fun w => absurd w k0, fun w => absurd w k1, fun w => absurd w k3, fun w => absurd w k4, fun w => absurd w k5, fun w => absurd w k6, fun w => absurd w k7, fun w => absurd w k8⟩))
theorem hourM2 (h : LM q μ L) (hO : LOk L) (hS : MC μ S) (hk : SOk L S) : wp (f_X12_hour 310 1 μ) (fun μ' => MC μ' (shour L S) ∧ MF μ μ') := by
  by_cases h5 : S 5 = 0
  · rw [← mhour_eq h5]
    exact hourM (lk := true) h hO hS h5 hk.2.1 hk.2.2.1 hk.2.2.2.1 hk.1
  · have e5 : μ 310 17 = S 5 := hS.f 5 (by omega)
    have es : shour L S = S := if_neg h5
    unfold f_X12_hour
    rw [e5, es]
    exact wp_ie h5 (wp_some ⟨hS, MF.rf μ⟩)
theorem hoursM {n0 : Nat} (hn : n0 ≤ 9) (h : LM q μ L) (hO : LOk L) (hS : MC μ S) (hk : SOk L S) : wp (f_X12_does_L164 310 (nI n0) zFU 0 μ) (fun μ' => MC μ' (siter L S n0) ∧ MF μ μ') := by
  refine wlp0 (fun n k μ' => f_X12_does_L164 310 (nI n0) n (nI k) μ') _ n0 (fun k μ' => MC μ' (siter L S k) ∧ MF μ μ') (by omega) μ ⟨hS, MF.rf μ⟩ ?_ ?_
  · intro n k μ1 hkk ⟨h1, f1⟩ ih
    show wp (f_X12_does_L164 310 (nI n0) (n + 1) (nI k) μ1) _
    rw [f_X12_does_L164]
    refine wp_ie (nI_ge hkk (by omega)) (wp_bdQ (hourM2 (h.mf f1) hO h1 (siter_ok hO hk k)) fun μ2 ⟨h2, f2⟩ => wp_ls ?_)
    rw [nI_1]
    exact ih _ ⟨h2, f1.tr f2⟩
  · intro n μ1 hI
    show wp (f_X12_does_L164 310 (nI n0) (n + 1) (nI n0) μ1) _
    rw [f_X12_does_L164]
    exact wp_it (nI_le (Nat.le_refl _) (by omega)) (wp_some hI)
theorem doesM {j : Nat} (h : LM q μ L) (hO : LOk L) (hS : MC μ S) (hk : SOk L S) (hD : DM d nd D μ) (hj : j < nd) (hd : dOk (D j 0) (D j 1) (D j 2)) : wp (f_X12_does 310 (nI j) μ) (fun μ' => MC μ' (sDo L S (D j 0) (D j 1) (D j 2)) ∧ MF μ μ') := by
  have h16 := pl16 hO.1
  unfold f_X12_does
  refine wp_bdE (deedM (c := 1) hD rfl rfl hj (by omega)) (wp_bdE (deedM (c := 0) hD rfl rfl hj (by omega)) ?_)
  refine wp_bdQ (Q := fun μ' => MC μ' (sDo L S (D j 0) (D j 1) (D j 2)) ∧ MF μ μ') ?_ (fun v hv => wp_some hv)
  have hd2 : ∀ μ1, MF2 μ μ1 → f_X12_deedOf 310 (nI j) 2 μ1 = some (D j 2) := fun μ1 f => deedM (c := 2) (hD.mf2 f) rfl rfl hj (by omega)
  generalize D j 0 = k at hd
  generalize D j 1 = x at hd
  generalize D j 2 = y at hd hd2
  by_cases k0 : k = 0
  · subst k0
    obtain ⟨⟨m, m1, rfl⟩, -⟩ := hd.2.1 rfl
    rw [sDo0, nI_clamp (by omega)]
    exact wp_it rfl (wp_bdE (hd2 μ (MF.rf μ).to2) (wp_g (zin_nI (by omega) (by omega)) (wp_ls (wp_some ⟨hS.stand (by omega), MF.stand⟩))))
  refine wp_ie k0 ?_
  by_cases k1 : k = 1
  · subst k1
    obtain ⟨m, m1, rfl⟩ := hd.2.2.1 rfl
    rw [sDo1, nI_clamp (by omega)]
    exact wp_it rfl (wp_g (zin_nI (by omega) (by omega)) (wp_ls (wp_some ⟨hS.stand (by omega), MF.stand⟩)))
  refine wp_ie k1 ?_
  by_cases k2 : k = 2
  · subst k2
    rw [sDo2]
    have f1 : MF μ (zup μ 310 20 x) := MF.put (by omega) (by omega)
    exact wp_it rfl (wp_ls (wp_bdE (hd2 _ f1.to2) (wp_ls (wp_some ⟨(hS.put (k := 8) (by omega)).put (k := 9) (by omega), f1.tr (MF.put (by omega) (by omega))⟩))))
  refine wp_ie k2 ?_
  by_cases k3 : k = 3
  · subst k3
    rw [sDo3]
    have f1 : MF μ (zup μ 310 20 (-1)) := MF.put (by omega) (by omega)
    exact wp_it rfl (wp_ls (wp_ls (wp_some ⟨(hS.put (k := 8) (by omega)).put (k := 9) (by omega), f1.tr (MF.put (by omega) (by omega))⟩)))
  refine wp_ie k3 ?_
  by_cases k4 : k = 4
  · subst k4
    rw [sDo4]
    exact wp_it rfl (wp_ls (wp_some ⟨hS.put (k := 6) (by omega), MF.put (by omega) (by omega)⟩))
  refine wp_ie k4 ?_
  by_cases k5 : k = 5
  · subst k5
    rw [sDo5]
    exact wp_it rfl (wp_ls (wp_some ⟨hS.put (k := 6) (by omega), MF.put (by omega) (by omega)⟩))
  refine wp_ie k5 ?_
  by_cases k6 : k = 6
  · subst k6
    rw [sDo6]
    exact wp_it rfl (wp_ls (wp_some ⟨hS.put (k := 7) (by omega), MF.put (by omega) (by omega)⟩))
  refine wp_ie k6 ?_
  by_cases k7 : k = 7
  · subst k7
    rw [sDo7]
    exact wp_it rfl (wp_ls (wp_some ⟨hS.put (k := 7) (by omega), MF.put (by omega) (by omega)⟩))
  refine wp_ie k7 ?_
  by_cases k8 : k = 8
  · subst k8
    obtain ⟨p, p1, rfl⟩ := hd.2.2.2.2.1 rfl
    rw [sDo8, nI_clamp (by omega)]
    exact wp_it rfl (wp_g (zin_nI (by omega) (by omega)) (wp_ls (wp_some ⟨hS.water (by omega), MF.water⟩)))
  refine wp_ie k8 ?_
  have k9 : k = 9 := by
    obtain ⟨j, j1, rfl⟩ := hd.1
    have hj : j = 0 ∨ j = 1 ∨ j = 2 ∨ j = 3 ∨ j = 4 ∨ j = 5 ∨ j = 6 ∨ j = 7 ∨ j = 8 ∨ j = 9 := by omega
    rcases hj with rfl | rfl | rfl | rfl | rfl | rfl | rfl | rfl | rfl | rfl
    · exact absurd rfl k0
    · exact absurd rfl k1
    · exact absurd rfl k2
    · exact absurd rfl k3
    · exact absurd rfl k4
    · exact absurd rfl k5
    · exact absurd rfl k6
    · exact absurd rfl k7
    · exact absurd rfl k8
    · rfl
  subst k9
  obtain ⟨n0, h1, rfl⟩ := hd.2.2.2.2.2 rfl
  rw [sDo9, nI_clamp (by omega)]
  exact wp_bdQ (hoursM h1 h hO hS hk) (fun μ1 hμ => wp_some hμ)
theorem sAt_ok (hO : LOk L) (hd : ∀ j, j < nd → dOk (D j 0) (D j 1) (D j 2)) : ∀ j, j ≤ nd → (∀ i, i < j → sC L D i) → SOk L (sAt L D j)
  | 0, _, _ => sbegin_ok hO
  | j + 1, hj, h => sDo_ok hO (sAt_ok hO hd j (by omega) (fun i hi => h i (by omega))) (hd j (by omega)) (h j (by omega))
/-- how far the first v of nd deeds go -/
def sStop (L : Nat → Nat) (D : Nat → Nat → Int32) (B j : Nat) : Prop := j ≤ B ∧ (∀ i, i < j → sC L D i) ∧ (j = B ∨ ¬ sC L D j)
theorem sStop_one {B j i : Nat} (h : sStop L D B j) (k : sStop L D B i) : j = i := by
  obtain ⟨h1, h2, h3⟩ := h
  obtain ⟨k1, k2, k3⟩ := k
  rcases Nat.lt_trichotomy j i with w | w | w
  · rcases h3 with h3 | h3
    · omega
    · exact absurd (k2 j w) h3
  · exact w
  · rcases k3 with k3 | k3
    · omega
    · exact absurd (h2 i w) k3
theorem runsM {v : Int32} {B : Nat} (h : LM q μ L) (hO : LOk L) (hD : DM d nd D μ) (hd : ∀ j, j < nd → dOk (D j 0) (D j 1) (D j 2)) (hB : B ≤ nd) (hv1 : ∀ k, k < B → ¬ v ≤ nI k) (hv2 : B = nd ∨ v ≤ nI B) :
    wp (f_X12_runs 310 v μ) (fun μ' => ∃ j, sStop L D B j ∧ μ' 310 22 = nI j ∧ MC μ' (sAt L D j) ∧ MF2 μ μ') := by
  have hn := hD.1
  unfold f_X12_runs
  refine wp_bdQ (beginsM h) fun μ0 ⟨g0, f0, c0⟩ => ?_
  refine wp_bdQ (Q := fun μ' => ∃ j, sStop L D B j ∧ μ' 310 22 = nI j ∧ MC μ' (sAt L D j) ∧ MF2 μ μ') ?_ (fun v hv => wp_some hv)
  refine wlp0 (fun n k μ' => f_X12_runs_L4 310 v n μ') _ B (fun k μ' => μ' 310 22 = nI k ∧ MC μ' (sAt L D k) ∧ MF2 μ μ' ∧ ∀ i, i < k → sC L D i) (by omega) μ0 ⟨c0, g0, f0, fun i hi => by omega⟩ ?_ ?_
  · intro n k μ1 hk ⟨c1, g1, f1, s1⟩ ih
    have l1 := h.mf2 f1
    have d1 := hD.mf2 f1
    have o1 := sAt_ok hO hd k (by omega) s1
    show wp (f_X12_runs_L4 310 v (n + 1) μ1) _
    rw [f_X12_runs_L4, c1]
    refine wp_bd (wp_ie (hv1 k hk) (wp_bdE (deedsM d1) (wp_ie (nI_ge (by omega) (by omega)) (wp_bdQ (canM l1 hO g1 o1 d1 (by omega) (hd k (by omega))) fun r hr => ?_))))
    rcases hr with ⟨rfl, hc⟩ | ⟨rfl, hc⟩
    · refine wp_ie (by decide) (wp_some (wp_it rfl (wp_bdQ (doesM l1 hO g1 o1 d1 (by omega) (hd k (by omega))) fun μ2 ⟨g2, f2⟩ => wp_ls ?_)))
      have e2 : μ2 310 22 = nI k := by rw [f2.2 22 (by omega)]; exact c1
      rw [e2, nI_1]
      refine ih _ ⟨zup_self _ _ _ _, ⟨fun k hk => ?_, fun m hm => ?_, fun p hp => ?_⟩, f1.tr (f2.to2.tr ⟨fun o o1 _ _ => zup_rne _ _ _ o1, fun j hj => zup_ne (by omega)⟩), fun i hi => ?_⟩
      · rw [zup_ne (by omega)]
        exact g2.1 k hk
      · rw [zup_ne (by omega)]
        exact g2.2.1 m hm
      · rw [zup_ne (by omega)]
        exact g2.2.2 p hp
      · by_cases hik : i = k
        · subst hik
          exact hc
        · exact s1 i (by omega)
    · refine wp_it rfl (wp_some (wp_ie (by decide) (wp_some ⟨k, ⟨by omega, s1, Or.inr hc⟩, c1, g1, f1⟩)))
  · intro n μ1 ⟨c1, g1, f1, s1⟩
    show wp (f_X12_runs_L4 310 v (n + 1) μ1) _
    rw [f_X12_runs_L4, c1]
    have fin : wp (if false = true then zbd (f_X12_does 310 (nI B) μ1) (fun μ12 => zl (zup μ12 310 22 (μ12 310 22 + 1)) fun μ13 => f_X12_runs_L4 310 v n μ13) else some μ1) (fun μ' => ∃ j, sStop L D B j ∧ μ' 310 22 = nI j ∧ MC μ' (sAt L D j) ∧ MF2 μ μ') := wp_ie (by decide) (wp_some ⟨B, ⟨Nat.le_refl _, s1, Or.inl rfl⟩, c1, g1, f1⟩)
    by_cases hc : v ≤ nI B
    · exact wp_bd (wp_it hc (wp_some fin))
    · rcases hv2 with hb | hb
      · exact wp_bd (wp_ie hc (wp_bdE (deedsM (hD.mf2 f1)) (wp_it (nI_le (by omega) (by omega)) (wp_some fin))))
      · exact absurd hb hc
end DEEDM
/-! WHAT LASTS FROM CALL TO CALL: all that is told, on both sides (T: the class's Told, Q: where its block stands in the reference's row) -/
def DayR (w d : Nat) (μ : zM) (n : Nat) (D : Nat → Nat → Int32) : Prop := n ≤ 40 ∧ μ w 2 = nI n ∧ (∀ j, j < n → ∀ c, c < 3 → μ (w + 1) (3 * j + c) = D j c) ∧ μ 311 d = nI n ∧ (∀ j, j < n → ∀ c, c < 3 → μ 311 (d + 1 + 3 * j + c) = D j c) ∧ ∀ j, j < n → dOk (D j 0) (D j 1) (D j 2)
def NightR (w d : Nat) (μ : zM) (n : Nat) (X : Nat → Nat → Nat) : Prop := n ≤ 8 ∧ μ w 2 = nI n ∧ (∀ j, j < n → ∀ c, c < 2 → μ (w + 1) (3 * j + c) = nI (X j c)) ∧ μ 311 d = nI n ∧ (∀ j, j < n → ∀ c, c < 2 → μ 311 (d + 1 + 2 * j + c) = nI (X j c)) ∧ ∀ j, j < n → ∀ c, c < 2 → X j c ≤ 11
def FogR (w d : Nat) (μ : zM) (n : Nat) (X : Nat → Nat) : Prop := n ≤ 8 ∧ μ w 2 = nI n ∧ (∀ j, j < n → μ (w + 1) (3 * j + 0) = nI (X j)) ∧ μ 311 d = nI n ∧ (∀ j, j < n → μ 311 (d + 1 + j) = nI (X j)) ∧ ∀ j, j < n → X j < 256
def LawR (w d : Nat) (μ : zM) (n : Nat) (D : Nat → Nat → Int32) : Prop := n ≤ 8 ∧ μ w 2 = nI n ∧ (∀ j, j < n → ∀ c, c < 3 → μ (w + 1) (3 * j + c) = D j c) ∧ μ 311 d = nI n ∧ (∀ j, j < n → ∀ c, c < 3 → μ 311 (d + 1 + 3 * j + c) = D j c)
def LakeR (a d : Nat) (μ : zM) (L : Nat → Nat) : Prop := LOk L ∧ LC a μ L ∧ ∀ i, i < 109 → μ 311 (d + i) = nI (L i)
def PR (T Q : Nat) (μ : zM) : Prop := (∃ n, n ≤ 600 ∧ μ T 1 = nI n ∧ μ 311 (Q + 5) = nI n) ∧ (μ 311 (Q + 6) = μ T 2 ∧ μ 311 (Q + 7) = μ T 3) ∧ (∀ i, i < 600 → μ 311 (Q + 10 + i) = μ (T + 1) i ∧ ∃ b, b < 256 ∧ μ (T + 1) i = nI b) ∧
  (∀ s, s < 5 → ∃ c, c ≤ 2 ∧ μ (T + 2) s = nI c ∧ μ 311 (Q + s) = nI c ∧ ∀ k, k < c → (s = 0 → ∃ L, LakeR (T + 5 + 15 * k) (Q + 610 + 109 * k) μ L) ∧ (s = 1 → ∃ n D, DayR (T + 39 + 2 * k) (Q + 828 + 121 * k) μ n D) ∧ (s = 2 → ∃ n X, NightR (T + 43 + 2 * k) (Q + 1070 + 17 * k) μ n X) ∧ (s = 3 → ∃ n X, FogR (T + 47 + 2 * k) (Q + 1104 + 9 * k) μ n X) ∧ (s = 4 → ∃ n D, LawR (T + 51 + 2 * k) (Q + 1122 + 25 * k) μ n D)) ∧
  (∀ k, k < 2 → ∃ L, LC (T + 5 + 15 * k) μ L)
def WF (μ : zM) : Prop := ∀ r, r < 310 → zkd r = 6 → μ r 0 = nI (zln (r + 1) / 3) ∧ ∃ n, 3 * n ≤ zln (r + 1) ∧ μ r 2 = nI n
def Inv (μ : zM) : Prop := WF μ ∧ PR 1 0 μ ∧ ∀ k, k < 3 → μ 57 k = μ 312 k ∧ (μ 57 k = 0 ∨ μ 57 k = 1 ∧ PR (145 + 55 * k) (1172 * (k + 1)) μ)
/-- what a call leaves that tells nothing -/
def KP (μ μ' : zM) : Prop := ∀ o, o < 87 ∨ (145 ≤ o ∧ o < 310) ∨ o = 311 ∨ o = 312 → μ' o = μ o
theorem KP.tr {μ μ1 μ2 : zM} (h : KP μ μ1) (k : KP μ1 μ2) : KP μ μ2 := fun o ho => (k o ho).trans (h o ho)
theorem KP.rf (μ : zM) : KP μ μ := fun _ _ => rfl
theorem PR.congr {T Q : Nat} {μ μ' : zM} (h : PR T Q μ) (hf : ∀ o, T ≤ o → o < T + 55 → μ' o = μ o) (h1 : μ' 311 = μ 311) : PR T Q μ' := by
  obtain ⟨⟨n, n1, n2, n3⟩, ⟨f1, f2⟩, t, p, w⟩ := h
  refine ⟨⟨n, n1, by rw [hf T (by omega) (by omega)]; exact n2, by rw [h1]; exact n3⟩, ⟨by rw [h1, hf T (by omega) (by omega)]; exact f1, by rw [h1, hf T (by omega) (by omega)]; exact f2⟩, ?_, ?_, ?_⟩
  · intro i hi
    rw [h1, hf (T + 1) (by omega) (by omega)]
    exact t i hi
  · intro s hs
    obtain ⟨c, c1, c2, c3, c4⟩ := p s hs
    refine ⟨c, c1, by rw [hf (T + 2) (by omega) (by omega)]; exact c2, by rw [h1]; exact c3, fun k hk => ?_⟩
    obtain ⟨d0, d1, d2, d3, d4⟩ := c4 k hk
    refine ⟨fun e => ?_, fun e => ?_, fun e => ?_, fun e => ?_, fun e => ?_⟩
    · obtain ⟨L, l1, l2, l3⟩ := d0 e
      exact ⟨L, l1, l2.congr (fun o o1 o2 => hf o (by omega) (by omega)), by rw [h1]; exact l3⟩
    · obtain ⟨n, D, l⟩ := d1 e
      refine ⟨n, D, ?_⟩
      unfold DayR at l ⊢
      rw [h1, hf (T + 39 + 2 * k) (by omega) (by omega), hf (T + 39 + 2 * k + 1) (by omega) (by omega)]
      exact l
    · obtain ⟨n, D, l⟩ := d2 e
      refine ⟨n, D, ?_⟩
      unfold NightR at l ⊢
      rw [h1, hf (T + 43 + 2 * k) (by omega) (by omega), hf (T + 43 + 2 * k + 1) (by omega) (by omega)]
      exact l
    · obtain ⟨n, D, l⟩ := d3 e
      refine ⟨n, D, ?_⟩
      unfold FogR at l ⊢
      rw [h1, hf (T + 47 + 2 * k) (by omega) (by omega), hf (T + 47 + 2 * k + 1) (by omega) (by omega)]
      exact l
    · obtain ⟨n, D, l⟩ := d4 e
      refine ⟨n, D, ?_⟩
      unfold LawR at l ⊢
      rw [h1, hf (T + 51 + 2 * k) (by omega) (by omega), hf (T + 51 + 2 * k + 1) (by omega) (by omega)]
      exact l
  · intro k hk
    obtain ⟨L, l1⟩ := w k hk
    exact ⟨L, l1.congr (fun o o1 o2 => hf o (by omega) (by omega))⟩
theorem wf_rng : ∀ r, r < 310 → zkd r = 6 → r < 87 ∨ 145 ≤ r := by decide +kernel
theorem Inv.kp {μ μ' : zM} (h : Inv μ) (k : KP μ μ') : Inv μ' := by
  refine ⟨fun r r1 r2 => ?_, h.2.1.congr (fun o o1 o2 => k o (by omega)) (k 311 (by omega)), fun i hi => ?_⟩
  · have := wf_rng r r1 r2
    rw [k r (by omega)]
    exact h.1 r r1 r2
  · obtain ⟨a, b⟩ := h.2.2 i hi
    rw [k 57 (by omega), k 312 (by omega)]
    refine ⟨a, b.imp id (fun c => ⟨c.1, c.2.congr (fun o o1 o2 => k o (by omega)) (k 311 (by omega))⟩)⟩
/-- both sides answer alike, and what lasts goes on -/
def Same (f1 f2 : zM → Option (Int32 × zM)) : Prop := ∀ μ, Inv μ → ∃ r μ1 μ2, f1 μ = some (r, μ1) ∧ f2 μ1 = some (r, μ2) ∧ Inv μ2
theorem Same.of {f1 f2 : zM → Option (Int32 × zM)} (h : ∀ μ, Inv μ → wp (f1 μ) (fun p => KP μ p.2 ∧ wp (f2 p.2) (fun p2 => p2.1 = p.1 ∧ KP p.2 p2.2))) : Same f1 f2 := by
  intro μ hμ
  obtain ⟨⟨r, μ1⟩, e1, k1, ⟨r2, μ2⟩, e2, e3, k2⟩ := h μ hμ
  have e3 : r2 = r := e3
  subst e3
  exact ⟨r2, μ1, μ2, e1, e2, hμ.kp (k1.tr k2)⟩
section CASES
variable {μ : zM} {v : Int32}
theorem has_yes {s c k : Nat} (hc : μ 3 s = nI c) (hs : s < 5) (h2 : c ≤ 2) (hk : k < c) : f_X8_has 1 (nI s) (nI k) μ = some 1 := by
  refine wp_eq ?_
  unfold f_X8_has
  refine wp_bd (wp_bd (wp_ie (nI_pos (by omega)) (wp_ie (nI_ge (b := 5) hs (by omega)) (wp_ie (nI_pos (by omega)) (wp_ie (nI_ge (b := 2) (by omega) (by omega)) (wp_g (zin_nI hs (by omega)) ?_))))))
  have e : μ (1 + 2) (nI s).toNatClampNeg = nI c := by rw [nI_clamp (by omega)]; exact hc
  rw [e]
  exact wp_ie (nI_ge hk (by omega)) (wp_some (wp_it rfl (wp_some (wp_g (by decide) (wp_some rfl)))))
theorem has_no {s c : Nat} (hc : μ 3 s = nI c) (hs : s < 5) (h2 : c ≤ 2) (hv : ∀ k, k < c → v ≠ nI k) : f_X8_has 1 (nI s) v μ = some 0 := by
  refine wp_eq ?_
  unfold f_X8_has
  have fin : wp (if false = true then some (1 : Int32) else some (0 : Int32)) (fun v => wp (zg (z01 v) (some v)) (fun r => r = 0)) := wp_ie (by decide) (wp_some (wp_g (by decide) (wp_some rfl)))
  refine wp_bd (wp_bd (wp_ie (nI_pos (by omega)) (wp_ie (nI_ge (b := 5) hs (by omega)) (wp_if (fun _ => wp_some fin) (fun c0 => wp_if (fun _ => wp_some fin) (fun c1 => wp_g (zin_nI hs (by omega)) ?_))))))
  have e : μ (1 + 2) (nI s).toNatClampNeg = nI c := by rw [nI_clamp (by omega)]; exact hc
  rw [e]
  obtain ⟨j, j1, rfl⟩ := nI_of c0
  refine wp_it (nI_le (Nat.le_of_not_lt fun w => hv j w rfl) j1) (wp_some fin)
theorem isOf_yes {s c k : Nat} (hc : μ 311 s = nI c) (hs : s < 5) (h2 : c ≤ 2) (hk : k < c) : f_X12_isOf 310 (nI s) (nI k) μ = some 1 := by
  refine wp_eq ?_
  unfold f_X12_isOf
  have e : μ (310 + 1) (nI s).toNatClampNeg = nI c := by rw [nI_clamp (by omega)]; exact hc
  rw [e, isInM, show nI c - (1 : Int32) = nI (c - 1) from pk_sub (b := 1) (by omega), decide_eq_true (nI_pos' (by omega)), decide_eq_true (nI_le (by omega) (by omega))]
  exact wp_g (zin_nI (by omega) (by omega)) (wp_g (by decide) (wp_some rfl))
theorem isOf_no {s c : Nat} (hc : μ 311 s = nI c) (hs : s < 5) (h2 : c ≤ 2) (hv : ∀ k, k < c → v ≠ nI k) : f_X12_isOf 310 (nI s) v μ = some 0 := by
  refine wp_eq ?_
  unfold f_X12_isOf
  have e : μ (310 + 1) (nI s).toNatClampNeg = nI c := by rw [nI_clamp (by omega)]; exact hc
  have e2 : f_X12_isIn v 0 (nI c - 1) = 0 := by
    rw [isInM, b2i_ne, Bool.and_eq_false_iff]
    by_cases h0 : v < 0
    · exact Or.inl (decide_eq_false (Int32.not_le.mpr h0))
    · refine Or.inr (decide_eq_false ?_)
      obtain ⟨j, j1, rfl⟩ := nI_of h0
      have hj : c ≤ j := Nat.le_of_not_lt fun w => hv j w rfl
      by_cases hz : c = 0
      · subst hz
        refine Int32.not_le.mpr (Int32.lt_of_lt_of_le (show nI 0 - 1 < 0 by decide) (nI_pos' j1))
      · rw [show nI c - (1 : Int32) = nI (c - 1) from pk_sub (b := 1) (by omega)]
        exact nI_ge (by omega) j1
  rw [e, e2]
  exact wp_g (zin_nI (by omega) (by omega)) (wp_g (by decide) (wp_some rfl))
theorem sort_cases {s : Nat} (hI : Inv μ) (hs : s < 5) (v : Int32) : ∃ c, c ≤ 2 ∧ μ 3 s = nI c ∧ μ 311 s = nI c ∧ ((∃ k, k < c ∧ v = nI k) ∨ ∀ k, k < c → v ≠ nI k) := by
  obtain ⟨c, c1, c2, c3, -⟩ := hI.2.1.2.2.2.1 s hs
  rw [Nat.zero_add] at c3
  refine ⟨c, c1, c2, c3, ?_⟩
  by_cases h : ∃ k, k < c ∧ v = nI k
  · exact Or.inl h
  · exact Or.inr fun k hk e => h ⟨k, hk, e⟩
theorem lake_cases (hI : Inv μ) (v : Int32) : (∃ k L, k < 2 ∧ LakeR (6 + 15 * k) (610 + 109 * k) μ L ∧ f_X8_lakeAt 1 v μ = some (some (6 + 15 * k)) ∧ ∀ μ1 : zM, μ1 311 = μ 311 → f_X12_isLake 310 v μ1 = some (1, zup μ1 310 10 (nI (610 + 109 * k)))) ∨
    (f_X8_lakeAt 1 v μ = some none ∧ ∀ μ1 : zM, μ1 311 = μ 311 → f_X12_isLake 310 v μ1 = some (0, μ1)) := by
  obtain ⟨c, c1, c2, c3, c4⟩ := hI.2.1.2.2.2.1 0 (by omega)
  rw [Nat.zero_add] at c3
  by_cases h : ∃ k, k < c ∧ v = nI k
  · obtain ⟨k, hk, rfl⟩ := h
    obtain ⟨L, hL⟩ := (c4 k hk).1 rfl
    rw [show 1 + 5 + 15 * k = 6 + 15 * k by omega, show 0 + 610 + 109 * k = 610 + 109 * k by omega] at hL
    refine Or.inl ⟨k, L, by omega, hL, ?_, fun μ1 h1 => ?_⟩
    · refine wp_eq ?_
      unfold f_X8_lakeAt
      refine wp_bdE (has_yes (s := 0) c2 (by omega) c1 hk) (wp_bd (wp_ie (by decide) (wp_g (zin_nI (by omega) (by omega)) (wp_some (wp_some ?_)))))
      rw [nI_clamp (by omega)]
    · refine wp_eq ?_
      unfold f_X12_isLake
      refine wp_bdE (isOf_yes (s := 0) (by rw [h1]; exact c3) (by omega) c1 hk) (wp_it (by decide) (wp_ls (wp_some ?_)))
      have : f_X12_placeOf 0 (nI k) = nI (610 + 109 * k) := by
        unfold f_X12_placeOf
        rw [if_pos rfl]
        exact lin1 610 109 k
      rw [this]
  · have h : ∀ k, k < c → v ≠ nI k := fun k hk e => h ⟨k, hk, e⟩
    refine Or.inr ⟨?_, fun μ1 h1 => ?_⟩
    · refine wp_eq ?_
      unfold f_X8_lakeAt
      exact wp_bdE (has_no (s := 0) c2 (by omega) c1 h) (wp_bd (wp_it rfl (wp_some (wp_some rfl))))
    · refine wp_eq ?_
      unfold f_X12_isLake
      exact wp_bdE (isOf_no (s := 0) (by rw [h1]; exact c3) (by omega) c1 h) (wp_ie (by decide) (wp_some rfl))
/-- of the other sorts: page k, or none -/
theorem page_at {s c : Nat} (hs : s < 5) (h2 : c ≤ 2) (c2 : μ 3 s = nI c) (c3 : μ 311 s = nI c) (v : Int32) : (∃ k, k < c ∧ v = nI k ∧ f_X8_pageAt 1 (nI s) v μ = some (some (36 + 2 * (s * 2 + k))) ∧ ∀ μ1 : zM, μ1 311 = μ 311 → f_X12_isOf 310 (nI s) v μ1 = some 1) ∨
    (f_X8_pageAt 1 (nI s) v μ = some none ∧ ∀ μ1 : zM, μ1 311 = μ 311 → f_X12_isOf 310 (nI s) v μ1 = some 0) := by
  by_cases h : ∃ k, k < c ∧ v = nI k
  · obtain ⟨k, hk, rfl⟩ := h
    refine Or.inl ⟨k, hk, rfl, ?_, fun μ1 h1 => isOf_yes (by rw [h1]; exact c3) hs h2 hk⟩
    refine wp_eq ?_
    unfold f_X8_pageAt
    have e : nI s * 2 + nI k = nI (s * 2 + k) := by
      show nI s * nI 2 + nI k = _
      rw [pk_mul, nI_add]
    rw [e]
    refine wp_bdE (has_yes c2 hs h2 hk) (wp_bd (wp_ie (by decide) (wp_g (zin_nI (by omega) (by omega)) (wp_some (wp_some ?_)))))
    rw [nI_clamp (by omega)]
  · have h : ∀ k, k < c → v ≠ nI k := fun k hk e => h ⟨k, hk, e⟩
    refine Or.inr ⟨?_, fun μ1 h1 => isOf_no (by rw [h1]; exact c3) hs h2 h⟩
    refine wp_eq ?_
    unfold f_X8_pageAt
    exact wp_bdE (has_no c2 hs h2 h) (wp_bd (wp_it rfl (wp_some (wp_some rfl))))
theorem day_cases (hI : Inv μ) (v : Int32) : (∃ k n D, k < 2 ∧ v = nI k ∧ DayR (40 + 2 * k) (828 + 121 * k) μ n D ∧ f_X8_pageAt 1 1 v μ = some (some (40 + 2 * k)) ∧ ∀ μ1 : zM, μ1 311 = μ 311 → f_X12_isOf 310 1 v μ1 = some 1) ∨
    (f_X8_pageAt 1 1 v μ = some none ∧ ∀ μ1 : zM, μ1 311 = μ 311 → f_X12_isOf 310 1 v μ1 = some 0) := by
  obtain ⟨c, c1, c2, c3, c4⟩ := hI.2.1.2.2.2.1 1 (by omega)
  rw [Nat.zero_add] at c3
  rcases page_at (by omega) c1 c2 c3 v with ⟨k, k1, k2, k3, k4⟩ | h
  · obtain ⟨n, D, hd⟩ := (c4 k k1).2.1 rfl
    rw [show 1 + 39 + 2 * k = 40 + 2 * k by omega, show 0 + 828 + 121 * k = 828 + 121 * k by omega] at hd
    rw [show 36 + 2 * (1 * 2 + k) = 40 + 2 * k by omega] at k3
    exact Or.inl ⟨k, n, D, by omega, k2, hd, k3, k4⟩
  · exact Or.inr h
theorem night_cases (hI : Inv μ) (v : Int32) : (∃ k n D, k < 2 ∧ v = nI k ∧ NightR (44 + 2 * k) (1070 + 17 * k) μ n D ∧ f_X8_pageAt 1 2 v μ = some (some (44 + 2 * k)) ∧ ∀ μ1 : zM, μ1 311 = μ 311 → f_X12_isOf 310 2 v μ1 = some 1) ∨
    (f_X8_pageAt 1 2 v μ = some none ∧ ∀ μ1 : zM, μ1 311 = μ 311 → f_X12_isOf 310 2 v μ1 = some 0) := by
  obtain ⟨c, c1, c2, c3, c4⟩ := hI.2.1.2.2.2.1 2 (by omega)
  rw [Nat.zero_add] at c3
  rcases page_at (by omega) c1 c2 c3 v with ⟨k, k1, k2, k3, k4⟩ | h
  · obtain ⟨n, D, hd⟩ := (c4 k k1).2.2.1 rfl
    rw [show 1 + 43 + 2 * k = 44 + 2 * k by omega, show 0 + 1070 + 17 * k = 1070 + 17 * k by omega] at hd
    rw [show 36 + 2 * (2 * 2 + k) = 44 + 2 * k by omega] at k3
    exact Or.inl ⟨k, n, D, by omega, k2, hd, k3, k4⟩
  · exact Or.inr h
theorem fog_cases (hI : Inv μ) (v : Int32) : (∃ k n D, k < 2 ∧ v = nI k ∧ FogR (48 + 2 * k) (1104 + 9 * k) μ n D ∧ f_X8_pageAt 1 3 v μ = some (some (48 + 2 * k)) ∧ ∀ μ1 : zM, μ1 311 = μ 311 → f_X12_isOf 310 3 v μ1 = some 1) ∨
    (f_X8_pageAt 1 3 v μ = some none ∧ ∀ μ1 : zM, μ1 311 = μ 311 → f_X12_isOf 310 3 v μ1 = some 0) := by
  obtain ⟨c, c1, c2, c3, c4⟩ := hI.2.1.2.2.2.1 3 (by omega)
  rw [Nat.zero_add] at c3
  rcases page_at (by omega) c1 c2 c3 v with ⟨k, k1, k2, k3, k4⟩ | h
  · obtain ⟨n, D, hd⟩ := (c4 k k1).2.2.2.1 rfl
    rw [show 1 + 47 + 2 * k = 48 + 2 * k by omega, show 0 + 1104 + 9 * k = 1104 + 9 * k by omega] at hd
    rw [show 36 + 2 * (3 * 2 + k) = 48 + 2 * k by omega] at k3
    exact Or.inl ⟨k, n, D, by omega, k2, hd, k3, k4⟩
  · exact Or.inr h
theorem law_cases (hI : Inv μ) (v : Int32) : (∃ k n D, k < 2 ∧ v = nI k ∧ LawR (52 + 2 * k) (1122 + 25 * k) μ n D ∧ f_X8_pageAt 1 4 v μ = some (some (52 + 2 * k)) ∧ ∀ μ1 : zM, μ1 311 = μ 311 → f_X12_isOf 310 4 v μ1 = some 1) ∨
    (f_X8_pageAt 1 4 v μ = some none ∧ ∀ μ1 : zM, μ1 311 = μ 311 → f_X12_isOf 310 4 v μ1 = some 0) := by
  obtain ⟨c, c1, c2, c3, c4⟩ := hI.2.1.2.2.2.1 4 (by omega)
  rw [Nat.zero_add] at c3
  rcases page_at (by omega) c1 c2 c3 v with ⟨k, k1, k2, k3, k4⟩ | h
  · obtain ⟨n, D, hd⟩ := (c4 k k1).2.2.2.2 rfl
    rw [show 1 + 51 + 2 * k = 52 + 2 * k by omega, show 0 + 1122 + 25 * k = 1122 + 25 * k by omega] at hd
    rw [show 36 + 2 * (4 * 2 + k) = 52 + 2 * k by omega] at k3
    exact Or.inl ⟨k, n, D, by omega, k2, hd, k3, k4⟩
  · exact Or.inr h
end CASES
/-! STOP, STATE, LIST, DRIFT -/
theorem zlnD : ∀ k, k < 2 → zln (41 + 2 * k) = 120 := by decide +kernel
theorem F3.kp {μ μ' : zM} (f : F3 87 μ μ') : KP μ μ' := fun o ho => f o (by omega) (by omega) (by omega)
theorem MF2.kp {μ μ' : zM} (f : MF2 μ μ') : KP μ μ' := fun o ho => f.1 o (by omega) (by omega) (by omega)
theorem zup310.kp {μ : zM} {k : Nat} {v : Int32} : KP μ (zup μ 310 k v) := fun o ho => zup_rne _ _ _ (by omega)
theorem placeOf1 (k : Nat) : f_X12_placeOf 1 (nI k) = nI (828 + 121 * k) := by
  unfold f_X12_placeOf
  rw [if_neg (by decide), if_pos rfl]
  exact lin1 828 121 k
theorem zlk_kd : ∀ k, k < 2 → zkd (6 + 15 * k) = 1 := by decide +kernel
theorem zpg_kd : ∀ k, k < 10 → zkd (36 + 2 * k) = 6 := by decide +kernel
theorem wp_cs {α : Type} {w : Nat} {x : Option α} {f : Nat → Option α} {P : α → Prop} (h : wp (f w) P) : wp (zcase (some w) x f) P := h
theorem wp_cn {α : Type} {x : Option α} {f : Nat → Option α} {P : α → Prop} (h : wp x P) : wp (zcase none x f) P := h
section DAYS
variable {μ : zM} {L : Nat → Nat} {D : Nat → Nat → Int32} {n k kd : Nat}
theorem dayNum {μ1 : zM} (hk : kd < 2) (h : DayR (40 + 2 * kd) (828 + 121 * kd) μ n D) (e1 : μ1 (40 + 2 * kd) = μ (40 + 2 * kd)) (e2 : μ1 (40 + 2 * kd + 1) = μ (40 + 2 * kd + 1)) {v w : Int32} {j c : Nat} (hv : v = nI j) (hw : w = nI c) (hj : j < n) (hc : c < 3) : f_X6_number (40 + 2 * kd) v w μ1 = some (D j c) := by
  have hz := zlnD kd hk
  have := h.1
  rw [number_in hv hw (by rw [e1]; exact h.2.1) hj hc (by show _ < zln (40 + 2 * kd + 1); rw [show 40 + 2 * kd + 1 = 41 + 2 * kd by omega, hz]; omega) (by rw [show 40 + 2 * kd + 1 = 41 + 2 * kd by omega, hz]; omega) (by omega), e2, h.2.2.1 j hj c hc]
theorem DayR.dm {μ1 : zM} (h : DayR (40 + 2 * kd) (828 + 121 * kd) μ n D) (hk : kd < 2) (h1 : μ1 311 = μ 311) (h2 : μ1 310 11 = nI (828 + 121 * kd)) : DM (828 + 121 * kd) n D μ1 := by
  refine ⟨h.1, by omega, h2, by rw [h1]; exact h.2.2.2.1, ?_⟩
  rw [h1]
  exact h.2.2.2.2.1
/-- a STATE, as the class comes to it -/
theorem sailC (hk : k < 2) (hkd : kd < 2) (hL : LakeR (6 + 15 * k) (610 + 109 * k) μ L) (hD : DayR (40 + 2 * kd) (828 + 121 * kd) μ n D) {v3 : Int32} (h0 : ¬ v3 < 0 ∧ v3 ≤ nI n) :
    wp (zbd (f_X4_launch 87 (6 + 15 * k) (6 + 15 * k) μ) fun μ10 => f_X11_sailTo_L60 0 v3 (40 + 2 * kd) zFU 0 μ10) (fun q => (∃ v μ', v3 = nI v ∧ v ≤ n ∧ (∀ i, i < v → sC L D i) ∧ q = .inr μ' ∧ RC 87 μ' (6 + 15 * k) (6 + 15 * k) (sAt L D v) ∧ F3 87 μ μ') ∨ (∃ v μ', v3 = nI v ∧ q = .inl (0, μ') ∧ F3 87 μ μ' ∧ ∃ i, i < v ∧ v < 2 ^ 31 ∧ ¬ sC L D i)) := by
  obtain ⟨hO, hC, -⟩ := hL
  have hn := hD.1
  obtain ⟨v, v1, rfl⟩ := nI_of h0.1
  have hv : v ≤ n := (nI_leI v1 (by omega)).mp h0.2
  refine wp_bdQ (launchC hC hC ⟨by omega, by omega⟩) fun μ0 ⟨g0, f0⟩ => ?_
  refine wlp0 (fun m j μ' => f_X11_sailTo_L60 0 (nI v) (40 + 2 * kd) m (nI j) μ') _ v (fun j μ' => RC 87 μ' (6 + 15 * k) (6 + 15 * k) (sAt L D j) ∧ F3 87 μ μ' ∧ ∀ i, i < j → sC L D i) (by omega) μ0 ⟨g0, f0, fun i hi => by omega⟩ ?_ ?_
  · intro m j μ1 hj ⟨g1, f1, s1⟩ ih
    have o1 := sAt_ok hO hD.2.2.2.2.2 j (by omega) s1
    show wp (f_X11_sailTo_L60 0 (nI v) (40 + 2 * kd) (m + 1) (nI j) μ1) _
    rw [f_X11_sailTo_L60]
    have num : ∀ c, c < 3 → f_X6_number (40 + 2 * kd) (nI j) (nI c) μ1 = some (D j c) := fun c hc => dayNum hkd hD (f1 _ (by omega) (by omega) (by omega)) (f1 _ (by omega) (by omega) (by omega)) rfl rfl (by omega) hc
    refine wp_ie (nI_ge hj (by omega)) (wp_bdE (num 0 (by omega)) (wp_bdE (num 1 (by omega)) (wp_bdE (num 2 (by omega)) (wp_bd2Q (obeysC g1 (f1.lc hC (by omega)) hO (by omega) o1 (hD.2.2.2.2.2 j (by omega))) fun rr μ2 hr => ?_))))
    obtain ⟨hr, f2⟩ := hr
    rcases hr with ⟨e, hc, g2⟩ | ⟨e, hc⟩
    · have e : rr = 1 := e
      subst e
      refine wp_it (by decide) (wp_ls ?_)
      rw [nI_1]
      refine ih _ ⟨g2, f1.tr f2, fun i hi => ?_⟩
      by_cases hij : i = j
      · subst hij
        exact hc
      · exact s1 i (by omega)
    · have e : rr = 0 := e
      subst e
      exact wp_ie (by decide) (wp_some (Or.inr ⟨v, μ2, rfl, rfl, f1.tr f2, j, hj, v1, hc⟩))
  · intro m μ1 ⟨g1, f1, s1⟩
    show wp (f_X11_sailTo_L60 0 (nI v) (40 + 2 * kd) (m + 1) (nI v) μ1) _
    rw [f_X11_sailTo_L60]
    exact wp_it (nI_le (Nat.le_refl _) (by omega)) (wp_some (Or.inl ⟨v, μ1, rfl, hv, s1, rfl, g1, f1⟩))
/-- what n deeds can be: both sides ask the same -/
def isSt (L : Nat → Nat) (D : Nat → Nat → Int32) (n : Nat) (v3 : Int32) (v : Nat) : Prop := v3 = nI v ∧ v ≤ n ∧ ∀ i, i < v → sC L D i
theorem isStateM {μ1 : zM} {v1 v2 v3 : Int32} (hk : k < 2) (hkd : kd < 2) (hv2 : v2 = nI kd) (hL : LakeR (6 + 15 * k) (610 + 109 * k) μ L) (hD : DayR (40 + 2 * kd) (828 + 121 * kd) μ n D) (h311 : μ1 311 = μ 311) (e1 : ∀ μ1 : zM, μ1 311 = μ 311 → f_X12_isLake 310 v1 μ1 = some (1, zup μ1 310 10 (nI (610 + 109 * k)))) (e2 : ∀ μ1 : zM, μ1 311 = μ 311 → f_X12_isOf 310 1 v2 μ1 = some 1) :
    wp (f_X12_isState 310 v1 v2 v3 μ1) (fun p => KP μ1 p.2 ∧ ((∃ v, v < 2 ^ 31 ∧ p.1 = 1 ∧ isSt L D n v3 v ∧ MC p.2 (sAt L D v) ∧ LM (610 + 109 * k) p.2 L ∧ DM (828 + 121 * kd) n D p.2) ∨ p.1 = 0 ∧ ∀ v, v < 2 ^ 31 → ¬ isSt L D n v3 v)) := by
  have hn := hD.1
  subst hv2
  unfold f_X12_isState f_X12_areTold
  refine wp_bd2 (wp_bd2 ?_)
  refine wp_of (e1 μ1 h311) ?_
  have g1 : (zup μ1 310 10 (nI (610 + 109 * k))) 311 = μ 311 := (zup_rne _ _ _ (by omega)).trans h311
  refine wp_bd (wp_ie (show ¬ (1 : Int32) = 0 by decide) (wp_bdE (e2 _ g1) (wp_it (by decide) (wp_some (wp_it rfl (wp_ls (wp_some ?_)))))))
  rw [placeOf1]
  generalize hm : zup (zup μ1 310 10 (nI (610 + 109 * k))) 310 11 (nI (828 + 121 * kd)) = μ2
  have kp2 : KP μ1 μ2 := by
    rw [← hm]
    exact zup310.kp.tr zup310.kp
  have h2 : μ2 311 = μ 311 := (kp2 311 (by omega)).trans h311
  have l2 : LM (610 + 109 * k) μ2 L := ⟨by omega, by rw [← hm, zup_ne (by omega), zup_self], by rw [h2]; exact hL.2.2⟩
  have d2 : DM (828 + 121 * kd) n D μ2 := hD.dm hkd h2 (by rw [← hm, zup_self])
  show wp (if ¬ (1 : Int32) = 0 ∧ 0 ≤ v3 then _ else _) _
  by_cases h0 : 0 ≤ v3
  · obtain ⟨v, v1, rfl⟩ := nI_of (Int32.not_lt.mpr h0)
    refine wp_it ⟨by decide, h0⟩ ?_
    refine wp_bdQ (runsM (B := min v n) l2 hL.1 d2 hD.2.2.2.2.2 (by omega) (fun i hi => nI_ge (by omega) v1) ?_) fun μ3 ⟨j, hj, c3, g3, f3⟩ => wp_ls (wp_some ⟨kp2.tr f3.kp, ?_⟩)
    · by_cases hvn : v ≤ n
      · exact Or.inr (nI_le (by omega) (by omega))
      · exact Or.inl (by omega)
    · rw [c3]
      have hj1 := hj.1
      by_cases hjv : j = v
      · subst hjv
        refine Or.inl ⟨j, v1, if_neg (fun w => w rfl), ⟨rfl, by omega, hj.2.1⟩, g3, l2.mf2 f3, d2.mf2 f3⟩
      · refine Or.inr ⟨if_pos (fun w => hjv ((nI_eq (by omega) v1).mp w)), fun u u1 hu => ?_⟩
        obtain ⟨u2, u3, u4⟩ := hu
        have : v = u := (nI_eq v1 u1).mp u2
        subst this
        exact hjv (sStop_one hj ⟨by omega, u4, Or.inl (by omega)⟩)
  · refine wp_ie (fun w => h0 w.2) (wp_some ⟨kp2, Or.inr ⟨rfl, fun u u1 hu => h0 ?_⟩⟩)
    rw [hu.1]
    exact nI_pos' u1
/-- no such lake or day -/
theorem isStateM_no {μ1 : zM} {v1 v2 v3 : Int32} (h : f_X12_isLake 310 v1 μ1 = some (0, μ1) ∨ ∃ μ2, f_X12_isLake 310 v1 μ1 = some (1, μ2) ∧ KP μ1 μ2 ∧ f_X12_isOf 310 1 v2 μ2 = some 0) : wp (f_X12_isState 310 v1 v2 v3 μ1) (fun p => KP μ1 p.2 ∧ p.1 = 0) := by
  unfold f_X12_isState f_X12_areTold
  rcases h with h | ⟨μ2, h, kp, h2⟩
  · refine wp_bd2 (wp_bd2 (wp_of h (wp_bd (wp_it rfl (wp_some (wp_ie (by decide) (wp_some ?_)))))))
    exact wp_ie (fun w => w.1 rfl) (wp_some ⟨KP.rf _, rfl⟩)
  · refine wp_bd2 (wp_bd2 (wp_of h (wp_bd (wp_ie (show ¬ (1 : Int32) = 0 by decide) (wp_bdE h2 (wp_ie (by decide) (wp_some (wp_ie (by decide) (wp_some ?_)))))))))
    exact wp_ie (fun w => w.1 rfl) (wp_some ⟨kp, rfl⟩)
end DAYS
/-- what sailTo of the class and isState of the reference say alike, for whatever lake, day and number -/
theorem sail_both {μ : zM} (hI : Inv μ) (v1 v2 v3 : Int32) :
    (∃ k n kd v L D, k < 2 ∧ kd < 2 ∧ v < 2 ^ 31 ∧ LakeR (6 + 15 * k) (610 + 109 * k) μ L ∧ (∀ i, i < n → dOk (D i 0) (D i 1) (D i 2)) ∧ SOk L (sAt L D v) ∧ wp (f_X11_sailTo 0 v1 v2 v3 μ) (fun p => p.1 = 1 ∧ F3 87 μ p.2 ∧ RC 87 p.2 (6 + 15 * k) (6 + 15 * k) (sAt L D v)) ∧
      ∀ μ1 : zM, μ1 311 = μ 311 → wp (f_X12_isState 310 v1 v2 v3 μ1) (fun p => p.1 = 1 ∧ KP μ1 p.2 ∧ MC p.2 (sAt L D v) ∧ LM (610 + 109 * k) p.2 L)) ∨
    (wp (f_X11_sailTo 0 v1 v2 v3 μ) (fun p => p.1 = 0 ∧ F3 87 μ p.2) ∧ ∀ μ1 : zM, μ1 311 = μ 311 → wp (f_X12_isState 310 v1 v2 v3 μ1) (fun p => p.1 = 0 ∧ KP μ1 p.2)) := by
  have rf : F3 87 μ μ := fun _ _ _ _ => rfl
  rcases lake_cases hI v1 with ⟨k, L, hk, hL, e1, e2⟩ | ⟨e1, e2⟩
  · rcases day_cases hI v2 with ⟨kd, n, D, hkd, hv2, hD, e3, e4⟩ | ⟨e3, e4⟩
    · by_cases hst : ∃ v, v < 2 ^ 31 ∧ isSt L D n v3 v
      · obtain ⟨v, hv, hst⟩ := hst
        obtain ⟨s1, s2, s3⟩ := hst
        have hn := hD.1
        refine Or.inl ⟨k, n, kd, v, L, D, hk, hkd, hv, hL, hD.2.2.2.2.2, sAt_ok hL.1 hD.2.2.2.2.2 v s2 s3, ?_, fun μ1 h1 => ?_⟩
        · unfold f_X11_sailTo
          refine wp_bdE e1 (wp_bdE e3 (wp_bd ?_))
          show wp (zg (zgn (6 + 15 * k) 1) (zg (zgn (40 + 2 * kd) 6) _)) _
          have z1 : zgn (6 + 15 * k) 1 = true := by unfold zgn; rw [zlk_kd k hk]; rfl
          have z2 : zgn (40 + 2 * kd) 6 = true := by unfold zgn; have := zpg_kd (2 + kd) (by omega); rw [show 36 + 2 * (2 + kd) = 40 + 2 * kd by omega] at this; rw [this]; rfl
          have h0 : ¬ v3 < 0 ∧ v3 ≤ μ (40 + 2 * kd) 2 := by
            rw [hD.2.1, s1]
            exact ⟨nI_pos hv, nI_le s2 (by omega)⟩
          have h0' : ¬ v3 < 0 ∧ v3 ≤ nI n := by rw [hD.2.1] at h0; exact h0
          refine wp_g z1 (wp_g z2 (wp_it h0 ?_))
          obtain ⟨q0, hq0, hq⟩ := sailC hk hkd hL hD h0'
          obtain ⟨μ10, m1, m2⟩ := zbd_of hq0
          refine wp_bdE m1 (wp_bdE m2 ?_)
          rcases hq with ⟨v', μ', w1, w2, w3, rfl, w5, w6⟩ | ⟨v', μ', w1, rfl, w5, i, w6, hv', w7⟩
          · have : v = v' := by
              rw [s1] at w1
              exact (nI_eq hv (by omega)).mp w1
            subst this
            exact wp_sumr (wp_some (wp_suml (wp_some ⟨rfl, w6, w5⟩)))
          · exfalso
            have : v = v' := by
              rw [s1] at w1
              exact (nI_eq hv hv').mp w1
            subst this
            exact w7 (s3 i w6)
        · refine wp_mono (isStateM hk hkd hv2 hL hD h1 e2 e4) fun p hp => ?_
          obtain ⟨kp, hp⟩ := hp
          rcases hp with ⟨u, u0, u1, u2, u3, u4, -⟩ | ⟨-, u2⟩
          · have : v = u := by
              have := u2.1
              rw [s1] at this
              exact (nI_eq hv u0).mp this
            subst this
            exact ⟨u1, kp, u3, u4⟩
          · exact absurd ⟨s1, s2, s3⟩ (u2 v hv)
      · have hst : ∀ v, v < 2 ^ 31 → ¬ isSt L D n v3 v := fun v hv h => hst ⟨v, hv, h⟩
        refine Or.inr ⟨?_, fun μ1 h1 => ?_⟩
        · unfold f_X11_sailTo
          refine wp_bdE e1 (wp_bdE e3 (wp_bd ?_))
          show wp (zg (zgn (6 + 15 * k) 1) (zg (zgn (40 + 2 * kd) 6) _)) _
          have z1 : zgn (6 + 15 * k) 1 = true := by unfold zgn; rw [zlk_kd k hk]; rfl
          have z2 : zgn (40 + 2 * kd) 6 = true := by unfold zgn; have := zpg_kd (2 + kd) (by omega); rw [show 36 + 2 * (2 + kd) = 40 + 2 * kd by omega] at this; rw [this]; rfl
          refine wp_g z1 (wp_g z2 (wp_if (fun h0 => ?_) (fun _ => wp_some (wp_sumr (wp_some ⟨rfl, rf⟩)))))
          have h0' : ¬ v3 < 0 ∧ v3 ≤ nI n := by rw [hD.2.1] at h0; exact h0
          obtain ⟨q0, hq0, hq⟩ := sailC hk hkd hL hD h0'
          obtain ⟨μ10, m1, m2⟩ := zbd_of hq0
          refine wp_bdE m1 (wp_bdE m2 ?_)
          rcases hq with ⟨v', μ', w1, w2, w3, rfl, w5, w6⟩ | ⟨v', μ', w1, rfl, w5, i, w6, hv', w7⟩
          · have := hD.1
            exact absurd ⟨w1, w2, w3⟩ (hst v' (by omega))
          · exact wp_suml (wp_some (wp_suml (wp_some ⟨rfl, w5⟩)))
        · refine wp_mono (isStateM hk hkd hv2 hL hD h1 e2 e4) fun p hp => ?_
          obtain ⟨kp, hp⟩ := hp
          rcases hp with ⟨u, u0, u1, u2, u3, u4⟩ | ⟨u1, u2⟩
          · exact absurd u2 (hst u u0)
          · exact ⟨u1, kp⟩
    · refine Or.inr ⟨?_, fun μ1 h1 => ?_⟩
      · unfold f_X11_sailTo
        refine wp_bdE e1 (wp_bdE e3 (wp_bd ?_))
        have z1 : zgn (6 + 15 * k) 1 = true := by unfold zgn; rw [zlk_kd k hk]; rfl
        exact wp_cs (wp_g z1 (wp_cn (wp_some (wp_sumr (wp_some ⟨rfl, rf⟩)))))
      · refine wp_mono (isStateM_no (Or.inr ⟨_, e2 μ1 h1, zup310.kp, e4 _ ((zup_rne _ _ _ (by omega)).trans h1)⟩)) fun p hp => ⟨hp.2, hp.1⟩
  · refine Or.inr ⟨?_, fun μ1 h1 => ?_⟩
    · unfold f_X11_sailTo
      rcases day_cases hI v2 with ⟨kd, n, D, hkd, hv2, hD, e3, e4⟩ | ⟨e3, e4⟩
      · exact wp_bdE e1 (wp_bdE e3 (wp_bd (wp_cn (wp_some (wp_sumr (wp_some ⟨rfl, rf⟩))))))
      · exact wp_bdE e1 (wp_bdE e3 (wp_bd (wp_cn (wp_some (wp_sumr (wp_some ⟨rfl, rf⟩))))))
    · exact wp_mono (isStateM_no (Or.inl (e2 μ1 h1))) fun p hp => ⟨hp.2, hp.1⟩
section FIN1
theorem F3.k {μ μ' : zM} (f : F3 87 μ μ') : μ' 311 = μ 311 := f 311 (by omega) (by omega) (by omega)
/-- what a STATE answers -/
def sAns (L : Nat → Nat) (S : Nat → Int32) (v : Int32) : Int32 := if v = 0 then S 0 else if v = 1 then S 1 else if v = 2 then S 2 else if v = 3 then S 3 else if v = 4 then S 4 else if v = 5 then sallw S else if v = 6 then (if S 5 = 0 then 0 else 1) else if v = 7 then (if S 6 = 0 then 0 else 1) else if v = 8 then (if S 7 = 0 then 0 else 1) else if v = 9 then S 8 else if v = 10 then S 9 else
  if isMo L (v - 20) = true then S (20 + (v - 20).toNatClampNeg) else if isPl L (v - 30) = true then S (30 + (v - 30).toNatClampNeg) else -2
theorem I_sub_nI {v : Int32} {a m : Nat} (h : v - nI a = nI m) : v = nI (a + m) := by
  have : v = (v - nI a) + nI a := (Int32.sub_add_cancel v (nI a)).symm
  rw [this, h, nI_add, Nat.add_comm]
theorem isPl_neg {L : Nat → Nat} {v : Int32} (h : v < 0) : isPl L v = false := by
  unfold isPl
  rw [decide_eq_false (Int32.not_le.mpr h)]
  rfl
theorem isMo_neg {L : Nat → Nat} {v : Int32} (h : v < 0) : isMo L v = false := by
  unfold isMo
  rw [decide_eq_false (Int32.not_le.mpr h)]
  rfl
theorem hasMoC {a : Nat} {μ : zM} {L : Nat → Nat} {v : Int32} (hL : LC a μ L) : f_X6_has (a + 8) v μ = b2i (isMo L v) := by
  have hm := hL.2.1.2.1.2.2.2.1
  have es : μ (a + 8) 2 = nI (L 14) := hL.2.2.1.2.1.2.2.2.1
  unfold f_X6_has zl isMo b2i
  rw [es]
  by_cases h0 : v < 0
  · rw [if_neg (fun w => w.1 h0), decide_eq_false (Int32.not_le.mpr h0)]
    rfl
  · rw [decide_eq_true (Int32.not_lt.mp h0), Bool.true_and]
    by_cases h1 : nI (L 14) ≤ v
    · rw [if_neg (fun w => w.2 h1), decide_eq_false (Int32.not_lt.mpr h1)]
      rfl
    · rw [if_pos ⟨h0, h1⟩, decide_eq_true (Int32.not_le.mp h1)]
      rfl
theorem answerC {la : Nat} {μ : zM} {L : Nat → Nat} {S : Nat → Int32} {v : Int32} (hR : RC 87 μ la la S) (hL : LC la μ L) : f_X4_answer 87 v μ = some (sAns L S v) := by
  have h14 := hL.2.1.2.1.2.2.2.1
  have h16 := pl16 hL.2.1
  have e0 : μ 87 2 = S 0 := hR.f 0 (by omega)
  have e1 : μ 87 3 = S 1 := hR.f 1 (by omega)
  have e2 : μ 87 4 = S 2 := hR.f 2 (by omega)
  have e3 : μ 87 5 = S 3 := hR.f 3 (by omega)
  have e4 : μ 87 6 = S 4 := hR.f 4 (by omega)
  have e5 : μ 87 7 = S 5 := hR.f 5 (by omega)
  have e6 : μ 87 8 = S 6 := hR.f 6 (by omega)
  have e7 : μ 87 9 = S 7 := hR.f 7 (by omega)
  have e8 : μ 87 10 = S 8 := hR.f 8 (by omega)
  have e9 : μ 87 11 = S 9 := hR.f 9 (by omega)
  refine wp_eq ?_
  unfold f_X4_answer sAns
  rw [e0, e1, e2, e3, e4, e5, e6, e7, e8, e9]
  refine wp_if (fun c => wp_some (by rw [if_pos c])) (fun c0 => ?_)
  rw [if_neg c0]
  refine wp_if (fun c => wp_some (by rw [if_pos c])) (fun c1 => ?_)
  rw [if_neg c1]
  refine wp_if (fun c => wp_some (by rw [if_pos c])) (fun c2 => ?_)
  rw [if_neg c2]
  refine wp_if (fun c => wp_some (by rw [if_pos c])) (fun c3 => ?_)
  rw [if_neg c3]
  refine wp_if (fun c => wp_some (by rw [if_pos c])) (fun c4 => ?_)
  rw [if_neg c4]
  refine wp_if (fun c => wp_bdE (allWaterC hR) (wp_some (by rw [if_pos c]))) (fun c5 => ?_)
  rw [if_neg c5]
  refine wp_if (fun c => wp_ls (wp_some (by rw [if_pos c]))) (fun c6 => ?_)
  rw [if_neg c6]
  refine wp_if (fun c => wp_ls (wp_some (by rw [if_pos c]))) (fun c7 => ?_)
  rw [if_neg c7]
  refine wp_if (fun c => wp_ls (wp_some (by rw [if_pos c]))) (fun c8 => ?_)
  rw [if_neg c8]
  refine wp_if (fun c => wp_some (by rw [if_pos c])) (fun c9 => ?_)
  rw [if_neg c9]
  refine wp_if (fun c => wp_some (by rw [if_pos c])) (fun c10 => ?_)
  rw [if_neg c10]
  refine wp_bd (wp_mono (P := fun r => r = if isMo L (v - 20) = true then S (20 + (v - 20).toNatClampNeg) else if isPl L (v - 30) = true then S (30 + (v - 30).toNatClampNeg) else -2) ?_ (fun r hr => wp_some hr))
  unfold f_X4_answerOfOne
  refine wp_if (fun c => ?_) (fun c => ?_)
  · rw [hR.1, nI_clamp (zkd_31 hL.1 (by omega)), hasMoC hL]
    obtain ⟨j, j1, rfl⟩ := nI_of (Int32.not_lt.mpr (Int32.le_trans (show (0 : Int32) ≤ 20 by decide) (Int32.not_lt.mp c.1)))
    have j20 : 20 ≤ j := (nI_leI (by omega) j1).mp (Int32.not_lt.mp c.1)
    have j25 : j < 25 := (nI_ltI j1 (by omega)).mp (Int32.not_le.mp c.2)
    have ej : nI j - (20 : Int32) = nI (j - 20) := pk_sub (b := 20) j20
    have ej3 : nI j - (30 : Int32) < 0 := pk_sneg (b := 30) (by omega) (by omega)
    rw [isPl_neg ej3]
    refine wp_g (zgk_nI hL.1 (by omega)) ?_
    cases c1 : isMo L (nI j - 20) with
    | false => exact wp_bd (wp_it rfl (wp_some (wp_some rfl)))
    | true =>
      rw [ej]
      refine wp_bd (wp_ie (by decide) (wp_g (zin_nI (by omega) (by omega)) (wp_some (wp_some ?_))))
      rw [if_pos rfl]
      exact hR.2.2.2.1 _ (by rw [nI_clamp (by omega)]; omega)
  · have hno : isMo L (v - 20) = false := by
      rw [← Bool.not_eq_true]
      intro w
      obtain ⟨m, m1, m2⟩ := isMo_of hL.2.1 w
      have : v = nI (20 + m) := I_sub_nI (a := 20) m2
      subst this
      exact c ⟨nI_nlt (b := 20) (by omega) (by omega), nI_ge (b := 25) (by omega) (by omega)⟩
    rw [hno]
    cases c1 : isPl L (v - 30) with
    | true =>
      obtain ⟨p, p1, p2⟩ := isPl_of hL.2.1 c1
      have hv : v = nI (30 + p) := I_sub_nI (a := 30) p2
      refine wp_bd (wp_bd (wp_ie (by rw [hv]; exact nI_nlt (b := 30) (by omega) (by omega)) (wp_bdE (hasPlaceC hR hL) ?_)))
      rw [c1, p2]
      refine wp_ie (by decide) (wp_some (wp_it rfl (wp_g (zin_nI (by omega) (by omega)) (wp_some (wp_some ?_)))))
      rw [if_neg (by decide), if_pos rfl]
      exact hR.2.2.2.2 _ (by rw [nI_clamp (by omega)]; omega)
    | false =>
      refine wp_bd (wp_bd (wp_if (fun _ => wp_some (wp_ie (by decide) (wp_some (wp_some rfl)))) (fun _ => wp_bdE (hasPlaceC hR hL) ?_)))
      rw [c1]
      exact wp_it rfl (wp_some (wp_ie (by decide) (wp_some (wp_some rfl))))
theorem isMo_lit {L : Nat → Nat} {n : Nat} (h : n < 20) : isMo L (nI n - 20) = false := isMo_neg (pk_sneg (b := 20) (by omega) h)
theorem isPl_lit {L : Nat → Nat} {n : Nat} (h : n < 30) : isPl L (nI n - 30) = false := isPl_neg (pk_sneg (b := 30) (by omega) h)
theorem state_same (v1 v2 v3 v4 : Int32) : Same (f_X11_state 0 v1 v2 v3 v4) (f_X12_state 310 v1 v2 v3 v4) := by
  refine Same.of fun μ hI => ?_
  rcases sail_both hI v1 v2 v3 with ⟨k, n, kd, v, L, D, hk, hkd, hv, hL, hd, ho, hc, hm⟩ | ⟨hc, hm⟩
  · unfold f_X11_state
    refine wp_bd2 (wp_mono hc fun p hp => ?_)
    obtain ⟨p1, f1, g1⟩ := hp
    rw [p1]
    refine wp_bd (wp_ie (by decide) (wp_bdE (answerC g1 (f1.lc hL.2.1 (by omega))) (wp_some (wp_some ⟨f1.kp, ?_⟩))))
    unfold f_X12_state
    refine wp_bd2 (wp_mono (hm p.2 f1.k) fun p2 hp2 => ?_)
    obtain ⟨q1, kp, g2, l2⟩ := hp2
    rw [q1]
    have hB := hL.1.1
    have h14 := hB.2.1.2.2.2.1
    have h16 := pl16 hB
    refine wp_it (by decide) (wp_bdE (isMournerM l2 hB) ?_)
    have e0 : p2.2 310 12 = _ := g2.f 0 (by omega)
    have e1 : p2.2 310 13 = _ := g2.f 1 (by omega)
    have e2 : p2.2 310 14 = _ := g2.f 2 (by omega)
    have e3 : p2.2 310 15 = _ := g2.f 3 (by omega)
    have e4 : p2.2 310 16 = _ := g2.f 4 (by omega)
    have e5 : p2.2 310 17 = _ := g2.f 5 (by omega)
    have e6 : p2.2 310 18 = _ := g2.f 6 (by omega)
    have e7 : p2.2 310 19 = _ := g2.f 7 (by omega)
    have e8 : p2.2 310 20 = _ := g2.f 8 (by omega)
    have e9 : p2.2 310 21 = _ := g2.f 9 (by omega)
    rw [e0, e1, e2, e3, e4, e5, e6, e7, e8, e9]
    generalize sAt L D v = S at g2
    have fin : ∀ r, r = sAns L S v4 → wp (some (r, p2.2)) (fun p0 => p0.1 = sAns L S v4 ∧ KP p.2 p0.2) := fun r hr => wp_some ⟨hr, kp⟩
    cases c1 : isMo L (v4 - 20) with
    | true =>
      obtain ⟨m, m1, m2⟩ := isMo_of hB c1
      have hv4 : v4 = nI (20 + m) := I_sub_nI (a := 20) m2
      rw [m2]
      refine wp_ie (by decide) (wp_g (zin_nI (by omega) (by omega)) (fin _ ?_))
      have nz : ∀ i : Nat, i ≤ 10 → ¬ v4 = nI i := fun i hi w => by
        rw [hv4] at w
        have := (nI_eq (by omega) (by omega)).mp w
        omega
      have z0 : ¬ v4 = 0 := nz 0 (by omega)
      have z1 : ¬ v4 = 1 := nz 1 (by omega)
      have z2 : ¬ v4 = 2 := nz 2 (by omega)
      have z3 : ¬ v4 = 3 := nz 3 (by omega)
      have z4 : ¬ v4 = 4 := nz 4 (by omega)
      have z5 : ¬ v4 = 5 := nz 5 (by omega)
      have z6 : ¬ v4 = 6 := nz 6 (by omega)
      have z7 : ¬ v4 = 7 := nz 7 (by omega)
      have z8 : ¬ v4 = 8 := nz 8 (by omega)
      have z9 : ¬ v4 = 9 := nz 9 (by omega)
      have z10 : ¬ v4 = 10 := nz 10 (by omega)
      unfold sAns
      rw [if_neg z0, if_neg z1, if_neg z2, if_neg z3, if_neg z4, if_neg z5, if_neg z6, if_neg z7, if_neg z8, if_neg z9, if_neg z10, c1, if_pos rfl, m2]
      exact g2.2.1 _ (by rw [nI_clamp (by omega)]; omega)
    | false =>
      have c11 := c1
      refine wp_it rfl (wp_bdE (isPlaceM l2 hB) ?_)
      cases c2 : isPl L (v4 - 30) with
      | true =>
        obtain ⟨m, m1, m2⟩ := isPl_of hB c2
        have hv4 : v4 = nI (30 + m) := I_sub_nI (a := 30) m2
        rw [m2]
        refine wp_ie (by decide) (wp_g (zin_nI (by omega) (by omega)) (fin _ ?_))
        have nz : ∀ i : Nat, i ≤ 10 → ¬ v4 = nI i := fun i hi w => by
          rw [hv4] at w
          have := (nI_eq (by omega) (by omega)).mp w
          omega
        have z0 : ¬ v4 = 0 := nz 0 (by omega)
        have z1 : ¬ v4 = 1 := nz 1 (by omega)
        have z2 : ¬ v4 = 2 := nz 2 (by omega)
        have z3 : ¬ v4 = 3 := nz 3 (by omega)
        have z4 : ¬ v4 = 4 := nz 4 (by omega)
        have z5 : ¬ v4 = 5 := nz 5 (by omega)
        have z6 : ¬ v4 = 6 := nz 6 (by omega)
        have z7 : ¬ v4 = 7 := nz 7 (by omega)
        have z8 : ¬ v4 = 8 := nz 8 (by omega)
        have z9 : ¬ v4 = 9 := nz 9 (by omega)
        have z10 : ¬ v4 = 10 := nz 10 (by omega)
        unfold sAns
        rw [if_neg z0, if_neg z1, if_neg z2, if_neg z3, if_neg z4, if_neg z5, if_neg z6, if_neg z7, if_neg z8, if_neg z9, if_neg z10, c1, if_neg (by decide), c2, if_pos rfl, m2]
        exact g2.2.2 _ (by rw [nI_clamp (by omega)]; omega)
      | false =>
        have c22 := c2
        refine wp_it rfl ?_
        refine wp_if (fun c => fin _ (by unfold sAns; rw [if_pos c])) (fun c0 => ?_)
        refine wp_if (fun c => fin _ (by unfold sAns; rw [if_neg c0, if_pos c])) (fun c1 => ?_)
        refine wp_if (fun c => fin _ (by unfold sAns; rw [if_neg c0, if_neg c1, if_pos c])) (fun c2 => ?_)
        refine wp_if (fun c => fin _ (by unfold sAns; rw [if_neg c0, if_neg c1, if_neg c2, if_pos c])) (fun c3 => ?_)
        refine wp_if (fun c => fin _ (by unfold sAns; rw [if_neg c0, if_neg c1, if_neg c2, if_neg c3, if_pos c])) (fun c4 => ?_)
        refine wp_if (fun c => wp_bdE (allWaterM g2) (fin _ (by unfold sAns; rw [if_neg c0, if_neg c1, if_neg c2, if_neg c3, if_neg c4, if_pos c]))) (fun c5 => ?_)
        refine wp_if (fun c => wp_ls (fin _ (by unfold sAns; rw [if_neg c0, if_neg c1, if_neg c2, if_neg c3, if_neg c4, if_neg c5, if_pos c]))) (fun c6 => ?_)
        refine wp_if (fun c => wp_ls (fin _ (by unfold sAns; rw [if_neg c0, if_neg c1, if_neg c2, if_neg c3, if_neg c4, if_neg c5, if_neg c6, if_pos c]))) (fun c7 => ?_)
        refine wp_if (fun c => wp_ls (fin _ (by unfold sAns; rw [if_neg c0, if_neg c1, if_neg c2, if_neg c3, if_neg c4, if_neg c5, if_neg c6, if_neg c7, if_pos c]))) (fun c8 => ?_)
        refine wp_if (fun c => fin _ (by unfold sAns; rw [if_neg c0, if_neg c1, if_neg c2, if_neg c3, if_neg c4, if_neg c5, if_neg c6, if_neg c7, if_neg c8, if_pos c])) (fun c9 => ?_)
        refine wp_if (fun c => fin _ (by unfold sAns; rw [if_neg c0, if_neg c1, if_neg c2, if_neg c3, if_neg c4, if_neg c5, if_neg c6, if_neg c7, if_neg c8, if_neg c9, if_pos c])) (fun c10 => ?_)
        exact fin _ (by unfold sAns; rw [if_neg c0, if_neg c1, if_neg c2, if_neg c3, if_neg c4, if_neg c5, if_neg c6, if_neg c7, if_neg c8, if_neg c9, if_neg c10, c11, c22, if_neg (by decide), if_neg (by decide)])
  · unfold f_X11_state
    refine wp_bd2 (wp_mono hc fun p hp => ?_)
    obtain ⟨p1, f1⟩ := hp
    rw [p1]
    refine wp_bd (wp_it rfl (wp_some (wp_some ⟨f1.kp, ?_⟩)))
    unfold f_X12_state
    refine wp_bd2 (wp_mono (hm p.2 f1.k) fun p2 hp2 => ?_)
    rw [hp2.1]
    exact wp_ie (fun w => w rfl) (wp_some ⟨rfl, hp2.2⟩)
theorem axis_iff (v : Int32) : (¬ v < 0 ∧ ¬ (1 : Int32) < v) ↔ ¬ f_X12_isIn v 0 1 = 0 := by
  rw [isInM, b2i_ne, Bool.not_eq_false, Bool.and_eq_true, decide_eq_true_eq, decide_eq_true_eq, Int32.not_lt, Int32.not_lt]
theorem list_same (v1 v2 v3 v4 : Int32) : Same (f_X11_list 0 v1 v2 v3 v4) (f_X12_list 310 v1 v2 v3 v4) := by
  refine Same.of fun μ hI => ?_
  unfold f_X11_list
  by_cases ha : ¬ v4 < 0 ∧ ¬ (1 : Int32) < v4
  · refine wp_bd (wp_it ha ?_)
    rcases sail_both hI v1 v2 v3 with ⟨k, n, kd, v, L, D, hk, hkd, hv, hL, hd, ho, hc, hm⟩ | ⟨hc, hm⟩
    · refine wp_bd2 (wp_mono hc fun p hp => ?_)
      obtain ⟨p1, f1, g1⟩ := hp
      rw [p1]
      refine wp_it (by decide) (wp_bdE (listC g1 (f1.lc hL.2.1 (by omega)) ho.2.1) (wp_some (wp_suml (wp_some ⟨f1.kp, ?_⟩))))
      unfold f_X12_list
      refine wp_bd2 (wp_mono (hm p.2 f1.k) fun p2 hp2 => ?_)
      obtain ⟨q1, kp, g2, l2⟩ := hp2
      rw [q1]
      exact wp_bd (wp_it ⟨by decide, (axis_iff v4).mp ha⟩ (wp_bdE (listM l2 hL.1.1 g2 ho.2.1 ho.2.2.1) (wp_some (wp_some ⟨rfl, kp⟩))))
    · refine wp_bd2 (wp_mono hc fun p hp => ?_)
      obtain ⟨p1, f1⟩ := hp
      rw [p1]
      refine wp_ie (fun w => w rfl) (wp_some (wp_sumr (wp_some ⟨f1.kp, ?_⟩)))
      unfold f_X12_list
      refine wp_bd2 (wp_mono (hm p.2 f1.k) fun p2 hp2 => ?_)
      rw [hp2.1]
      exact wp_bd (wp_ie (fun w => w.1 rfl) (wp_some (wp_some ⟨rfl, hp2.2⟩)))
  · refine wp_bd (wp_ie ha (wp_some (wp_sumr (wp_some ⟨KP.rf μ, ?_⟩))))
    unfold f_X12_list
    have hn : ¬ ¬ f_X12_isIn v4 0 1 = 0 := fun w => ha ((axis_iff v4).mpr w)
    rcases sail_both hI v1 v2 v3 with ⟨k, n, kd, v, L, D, hk, hkd, hv, hL, hd, ho, hc, hm⟩ | ⟨hc, hm⟩
    · refine wp_bd2 (wp_mono (hm μ rfl) fun p2 hp2 => ?_)
      exact wp_bd (wp_ie (fun w => hn w.2) (wp_some (wp_some ⟨rfl, hp2.2.1⟩)))
    · refine wp_bd2 (wp_mono (hm μ rfl) fun p2 hp2 => ?_)
      exact wp_bd (wp_ie (fun w => hn w.2) (wp_some (wp_some ⟨rfl, hp2.2⟩)))
theorem drift_same (v1 v2 v3 v4 : Int32) : Same (f_X11_drift 0 v1 v2 v3 v4) (f_X12_drift 310 v1 v2 v3 v4) := by
  refine Same.of fun μ hI => ?_
  unfold f_X11_drift
  by_cases ha : ¬ v4 < 0 ∧ ¬ (1 : Int32) < v4
  · refine wp_bd (wp_it ha ?_)
    rcases sail_both hI v1 v2 v3 with ⟨k, n, kd, v, L, D, hk, hkd, hv, hL, hd, ho, hc, hm⟩ | ⟨hc, hm⟩
    · refine wp_bd2 (wp_mono hc fun p hp => ?_)
      obtain ⟨p1, f1, g1⟩ := hp
      rw [p1]
      refine wp_it (by decide) (wp_bdE (driftC g1 (f1.lc hL.2.1 (by omega)) ho.2.1) (wp_some (wp_suml (wp_some ⟨f1.kp, ?_⟩))))
      unfold f_X12_drift
      refine wp_bd2 (wp_mono (hm p.2 f1.k) fun p2 hp2 => ?_)
      obtain ⟨q1, kp, g2, l2⟩ := hp2
      rw [q1]
      exact wp_bd (wp_it ⟨by decide, (axis_iff v4).mp ha⟩ (wp_bdE (driftM l2 hL.1.1 g2 ho.2.1 ho.2.2.1 ho.2.2.2.1) (wp_some (wp_some ⟨rfl, kp⟩))))
    · refine wp_bd2 (wp_mono hc fun p hp => ?_)
      obtain ⟨p1, f1⟩ := hp
      rw [p1]
      refine wp_ie (fun w => w rfl) (wp_some (wp_sumr (wp_some ⟨f1.kp, ?_⟩)))
      unfold f_X12_drift
      refine wp_bd2 (wp_mono (hm p.2 f1.k) fun p2 hp2 => ?_)
      rw [hp2.1]
      exact wp_bd (wp_ie (fun w => w.1 rfl) (wp_some (wp_some ⟨rfl, hp2.2⟩)))
  · refine wp_bd (wp_ie ha (wp_some (wp_sumr (wp_some ⟨KP.rf μ, ?_⟩))))
    unfold f_X12_drift
    have hn : ¬ ¬ f_X12_isIn v4 0 1 = 0 := fun w => ha ((axis_iff v4).mpr w)
    rcases sail_both hI v1 v2 v3 with ⟨k, n, kd, v, L, D, hk, hkd, hv, hL, hd, ho, hc, hm⟩ | ⟨hc, hm⟩
    · refine wp_bd2 (wp_mono (hm μ rfl) fun p2 hp2 => ?_)
      exact wp_bd (wp_ie (fun w => hn w.2) (wp_some (wp_some ⟨rfl, hp2.2.1⟩)))
    · refine wp_bd2 (wp_mono (hm μ rfl) fun p2 hp2 => ?_)
      exact wp_bd (wp_ie (fun w => hn w.2) (wp_some (wp_some ⟨rfl, hp2.2⟩)))
end FIN1
section FIN2
theorem stop_same (v1 v2 : Int32) : Same (f_X11_stop 0 v1 v2) (f_X12_stop 310 v1 v2) := by
  refine Same.of fun μ hI => ?_
  unfold f_X11_stop
  rcases lake_cases hI v1 with ⟨k, L, hk, hL, e1, e2⟩ | ⟨e1, e2⟩
  · have z1 : zgn (6 + 15 * k) 1 = true := by unfold zgn; rw [zlk_kd k hk]; rfl
    rcases day_cases hI v2 with ⟨kd, n, D, hkd, hv2, hD, e3, e4⟩ | ⟨e3, e4⟩
    · have z2 : zgn (40 + 2 * kd) 6 = true := by unfold zgn; have := zpg_kd (2 + kd) (by omega); rw [show 36 + 2 * (2 + kd) = 40 + 2 * kd by omega] at this; rw [this]; rfl
      have hn := hD.1
      have hO := hL.1
      have hC := hL.2.1
      refine wp_bdE e1 (wp_bdE e3 (wp_bd (wp_cs (wp_g z1 (wp_cs (wp_g z2 ?_))))))
      refine wp_bdQ (launchC hC hC ⟨by omega, by omega⟩) fun μ0 ⟨g0, f0⟩ => ?_
      refine wp_bd2Q (Q := fun p => (∃ j, sStop L D n j ∧ p.1 = nI j) ∧ F3 87 μ p.2) ?_ (fun x μ' hx => ?_)
      · refine wlp0 (fun m j μ' => f_X11_stop_L43 0 (40 + 2 * kd) m (nI j) μ') _ n (fun j μ' => RC 87 μ' (6 + 15 * k) (6 + 15 * k) (sAt L D j) ∧ F3 87 μ μ' ∧ ∀ i, i < j → sC L D i) (by omega) μ0 ⟨g0, f0, fun i hi => by omega⟩ ?_ ?_
        · intro m j μ1 hj ⟨g1, f1, s1⟩ ih
          have o1 := sAt_ok hO hD.2.2.2.2.2 j (by omega) s1
          show wp (f_X11_stop_L43 0 (40 + 2 * kd) (m + 1) (nI j) μ1) _
          rw [f_X11_stop_L43]
          have num : ∀ c, c < 3 → f_X6_number (40 + 2 * kd) (nI j) (nI c) μ1 = some (D j c) := fun c hc => dayNum hkd hD (f1 _ (by omega) (by omega) (by omega)) (f1 _ (by omega) (by omega) (by omega)) rfl rfl (by omega) hc
          have es : μ1 (40 + 2 * kd) 2 = nI n := by rw [f1 _ (by omega) (by omega) (by omega)]; exact hD.2.1
          rw [es]
          refine wp_ie (nI_ge hj (by omega)) (wp_bdE (num 0 (by omega)) (wp_bdE (num 1 (by omega)) (wp_bdE (num 2 (by omega)) (wp_bd2Q (obeysC g1 (f1.lc hC (by omega)) hO (by omega) o1 (hD.2.2.2.2.2 j (by omega))) fun rr μ2 hr => ?_))))
          obtain ⟨hr, f2⟩ := hr
          rcases hr with ⟨e, hc, g2⟩ | ⟨e, hc⟩
          · have e : rr = 1 := e
            subst e
            refine wp_ie (by decide) (wp_ls ?_)
            rw [nI_1]
            refine ih _ ⟨g2, f1.tr f2, fun i hi => ?_⟩
            by_cases hij : i = j
            · subst hij
              exact hc
            · exact s1 i (by omega)
          · have e : rr = 0 := e
            subst e
            exact wp_it rfl (wp_some ⟨⟨j, ⟨by omega, s1, Or.inr hc⟩, rfl⟩, f1.tr f2⟩)
        · intro m μ1 ⟨g1, f1, s1⟩
          show wp (f_X11_stop_L43 0 (40 + 2 * kd) (m + 1) (nI n) μ1) _
          rw [f_X11_stop_L43]
          have es : μ1 (40 + 2 * kd) 2 = nI n := by rw [f1 _ (by omega) (by omega) (by omega)]; exact hD.2.1
          rw [es]
          exact wp_it (nI_le (Nat.le_refl _) (by omega)) (wp_some ⟨⟨n, ⟨Nat.le_refl _, s1, Or.inl rfl⟩, rfl⟩, f1⟩)
      · obtain ⟨⟨j, hj, e⟩, f1⟩ := hx
        have e : x = nI j := e
        subst e
        refine wp_some (wp_suml (wp_some ⟨f1.kp, ?_⟩))
        subst hv2
        unfold f_X12_stop f_X12_areTold
        have h1 := f1.k
        refine wp_bd2 (wp_bd2 (wp_of (e2 μ' h1) ?_))
        have g1 : (zup μ' 310 10 (nI (610 + 109 * k))) 311 = μ 311 := (zup_rne _ _ _ (by omega)).trans h1
        refine wp_bd (wp_ie (show ¬ (1 : Int32) = 0 by decide) (wp_bdE (e4 _ g1) (wp_it (by decide) (wp_some (wp_it rfl (wp_ls (wp_some ?_)))))))
        rw [placeOf1]
        generalize hm : zup (zup μ' 310 10 (nI (610 + 109 * k))) 310 11 (nI (828 + 121 * kd)) = μ2
        have kp2 : KP μ' μ2 := by
          rw [← hm]
          exact zup310.kp.tr zup310.kp
        have h2 : μ2 311 = μ 311 := (kp2 311 (by omega)).trans h1
        have l2 : LM (610 + 109 * k) μ2 L := ⟨by omega, by rw [← hm, zup_ne (by omega), zup_self], by rw [h2]; exact hL.2.2⟩
        have d2 : DM (828 + 121 * kd) n D μ2 := hD.dm hkd h2 (by rw [← hm, zup_self])
        show wp (if ¬ (1 : Int32) = 0 then _ else _) _
        refine wp_it (by decide) (wp_bdQ (runsM (v := 40) (B := n) l2 hL.1 d2 hD.2.2.2.2.2 (Nat.le_refl _) (fun i hi => nI_ge (b := 40) (by omega) (by omega)) (Or.inl rfl)) fun μ3 ⟨i, hi, c3, g3, f3⟩ => wp_some ⟨?_, kp2.tr f3.kp⟩)
        show μ3 310 22 = nI j
        rw [c3, sStop_one hi hj]
    · refine wp_bdE e1 (wp_bdE e3 (wp_bd (wp_cs (wp_g z1 (wp_cn (wp_some (wp_sumr (wp_some ⟨KP.rf μ, ?_⟩))))))))
      unfold f_X12_stop f_X12_areTold
      refine wp_bd2 (wp_bd2 (wp_of (e2 μ rfl) (wp_bd (wp_ie (show ¬ (1 : Int32) = 0 by decide) (wp_bdE (e4 (zup μ 310 10 (nI (610 + 109 * k))) (zup_rne _ _ _ (show (311 : Nat) ≠ 310 by omega))) (wp_ie (by decide) (wp_some (wp_ie (by decide) (wp_some ?_)))))))))
      exact wp_ie (fun w => w rfl) (wp_some ⟨rfl, zup310.kp⟩)
  · have fin : wp (f_X12_stop 310 v1 v2 μ) (fun p2 => p2.1 = -1 ∧ KP μ p2.2) := by
      unfold f_X12_stop f_X12_areTold
      refine wp_bd2 (wp_bd2 (wp_of (e2 μ rfl) (wp_bd (wp_it rfl (wp_some (wp_ie (by decide) (wp_some ?_)))))))
      exact wp_ie (fun w => w rfl) (wp_some ⟨rfl, KP.rf μ⟩)
    rcases day_cases hI v2 with ⟨kd, n, D, hkd, hv2, hD, e3, e4⟩ | ⟨e3, e4⟩
    · exact wp_bdE e1 (wp_bdE e3 (wp_bd (wp_cn (wp_some (wp_sumr (wp_some ⟨KP.rf μ, fin⟩))))))
    · exact wp_bdE e1 (wp_bdE e3 (wp_bd (wp_cn (wp_some (wp_sumr (wp_some ⟨KP.rf μ, fin⟩))))))
end FIN2
/-! WAKE, HOLD, TURN -/
def wakeS (L : Nat → Nat) (S : Nat → Int32) : Nat → Nat → Int32
  | 0, _ => -1
  | n + 1, h => if siter L S h 3 ≤ S 3 then wakeS L S n (h + 1) else nI h
def holdS (L : Nat → Nat) (S : Nat → Int32) : Nat → Nat → Int32
  | 0, _ => -1
  | n + 1, h => if siter L S h 5 = 0 then holdS L S n (h + 1) else nI h
def turnS (L : Nat → Nat) (S : Nat → Int32) (w : Int32) : Nat → Nat → Int32
  | 0, _ => -1
  | n + 1, f => if sgn (leanS L (slist L S (axisS w)) + sblown L w (nI f) (axisS w)) = signS w then nI f else turnS L S w n (f + 1)
section GOES
variable {r la q : Nat} {μ : zM} {L : Nat → Nat} {S : Nat → Int32}
theorem wakeC (hR : RC r μ la la S) (hL : LC la μ L) (hO : LOk L) (hr : la + 14 < r) (hS : SOk L S) : wp (f_X4_hoursTillAground r 60 μ) (fun p => p.1 = wakeS L S 60 1 ∧ F3 r μ p.2) := by
  unfold f_X4_hoursTillAground
  have e3 : μ r 5 = S 3 := hR.f 3 (by omega)
  rw [e3]
  refine wp_ls (wp_bdQ (Q := fun q => (∃ μ', q = .inl (wakeS L S 60 1, μ') ∧ F3 r μ μ') ∨ ∃ μ', q = .inr μ' ∧ wakeS L S 60 1 = -1 ∧ F3 r μ μ') ?_ ?_)
  · refine wlp (fun n k μ' => f_X4_hoursTillAground_L7 r 60 (S 3) n (nI k) μ') _ 61 (fun k μ' => RC r μ' la la (siter L S (k - 1)) ∧ F3 r μ μ' ∧ wakeS L S 60 1 = wakeS L S (61 - k) k ∧ 1 ≤ k) ?_ ?_ zFU 1 μ (by omega) (by unfold zFU; omega) ⟨hR, fun _ _ _ _ => rfl, rfl, Nat.le_refl _⟩
    · intro n k μ1 hk ⟨g1, f1, w1, k1⟩ ih
      have o1 := siter_ok hO hS (k - 1)
      show wp (f_X4_hoursTillAground_L7 r 60 (S 3) (n + 1) (nI k) μ1) _
      rw [f_X4_hoursTillAground_L7]
      refine wp_ie (nI_nlt (a := 60) (by omega) (by omega)) (wp_bdQ (passHourC g1 (f1.lc hL hr) hO hr o1.2.1 o1.1) fun μ2 ⟨g2, f2⟩ => ?_)
      have f3 : F3 r μ μ2 := f1.tr (fun o o1 o2 o3 => f2 o o1 o3)
      have es : shour L (siter L S (k - 1)) = siter L S k := by
        obtain ⟨j, rfl⟩ : ∃ j, k = j + 1 := ⟨k - 1, by omega⟩
        rfl
      rw [es] at g2
      have e : μ2 r 5 = siter L S k 3 := g2.f 3 (by omega)
      rw [e]
      have ew : wakeS L S (61 - k) k = if siter L S k 3 ≤ S 3 then wakeS L S (60 - k) (k + 1) else nI k := by
        rw [show 61 - k = (60 - k) + 1 by omega]
        rfl
      by_cases hc : siter L S k 3 ≤ S 3
      · refine wp_it hc (wp_ls ?_)
        rw [nI_1]
        refine ih _ ⟨g2, f3, ?_, by omega⟩
        rw [w1, ew, if_pos hc, show 61 - (k + 1) = 60 - k by omega]
      · exact wp_ie hc (wp_some (Or.inl ⟨μ2, by rw [w1, ew, if_neg hc], f3⟩))
    · intro n μ1 ⟨g1, f1, w1, k1⟩
      show wp (f_X4_hoursTillAground_L7 r 60 (S 3) (n + 1) (nI 61) μ1) _
      rw [f_X4_hoursTillAground_L7]
      exact wp_it (nI_lt (a := 60) (by omega) (by omega)) (wp_some (Or.inr ⟨μ1, rfl, w1, f1⟩))
  · intro t ht
    rcases ht with ⟨μ', rfl, f⟩ | ⟨μ', rfl, e, f⟩
    · exact wp_suml (wp_some ⟨rfl, f⟩)
    · exact wp_sumr (wp_some ⟨e.symm, f⟩)
theorem wakeM (h : LM q μ L) (hO : LOk L) (hM : MC μ S) (hS : SOk L S) : wp (f_X12_wake 310 μ) (fun p => p.1 = wakeS L S 60 1 ∧ MF μ p.2) := by
  unfold f_X12_wake
  have e3 : μ 310 15 = S 3 := hM.f 3 (by omega)
  rw [e3]
  refine wp_ls (wp_bdQ (Q := fun q => (∃ μ', q = .inl (wakeS L S 60 1, μ') ∧ MF μ μ') ∨ ∃ μ', q = .inr μ' ∧ wakeS L S 60 1 = -1 ∧ MF μ μ') ?_ ?_)
  · refine wlp (fun n k μ' => f_X12_wake_L7 310 (S 3) n (nI k) μ') _ 61 (fun k μ' => MC μ' (siter L S (k - 1)) ∧ MF μ μ' ∧ wakeS L S 60 1 = wakeS L S (61 - k) k ∧ 1 ≤ k) ?_ ?_ zFU 1 μ (by omega) (by unfold zFU; omega) ⟨hM, MF.rf μ, rfl, Nat.le_refl _⟩
    · intro n k μ1 hk ⟨g1, f1, w1, k1⟩ ih
      have o1 := siter_ok hO hS (k - 1)
      show wp (f_X12_wake_L7 310 (S 3) (n + 1) (nI k) μ1) _
      rw [f_X12_wake_L7]
      refine wp_ie (nI_nlt (a := 60) (by omega) (by omega)) (wp_bdQ (hourM2 (h.mf f1) hO g1 o1) fun μ2 ⟨g2, f2⟩ => ?_)
      have f3 : MF μ μ2 := f1.tr f2
      have es : shour L (siter L S (k - 1)) = siter L S k := by
        obtain ⟨j, rfl⟩ : ∃ j, k = j + 1 := ⟨k - 1, by omega⟩
        rfl
      rw [es] at g2
      have e : μ2 310 15 = siter L S k 3 := g2.f 3 (by omega)
      rw [e]
      have ew : wakeS L S (61 - k) k = if siter L S k 3 ≤ S 3 then wakeS L S (60 - k) (k + 1) else nI k := by
        rw [show 61 - k = (60 - k) + 1 by omega]
        rfl
      by_cases hc : siter L S k 3 ≤ S 3
      · refine wp_it hc (wp_ls ?_)
        rw [nI_1]
        refine ih _ ⟨g2, f3, ?_, by omega⟩
        rw [w1, ew, if_pos hc, show 61 - (k + 1) = 60 - k by omega]
      · exact wp_ie hc (wp_some (Or.inl ⟨μ2, by rw [w1, ew, if_neg hc], f3⟩))
    · intro n μ1 ⟨g1, f1, w1, k1⟩
      show wp (f_X12_wake_L7 310 (S 3) (n + 1) (nI 61) μ1) _
      rw [f_X12_wake_L7]
      exact wp_it (nI_lt (a := 60) (by omega) (by omega)) (wp_some (Or.inr ⟨μ1, rfl, w1, f1⟩))
  · intro t ht
    rcases ht with ⟨μ', rfl, f⟩ | ⟨μ', rfl, e, f⟩
    · exact wp_suml (wp_some ⟨rfl, f⟩)
    · exact wp_sumr (wp_some ⟨e.symm, f⟩)
theorem holdC (hR : RC r μ la la S) (hL : LC la μ L) (hO : LOk L) (hr : la + 14 < r) (hS : SOk L S) : wp (f_X4_hoursTillSunk r 60 μ) (fun p => p.1 = holdS L S 61 0 ∧ F3 r μ p.2) := by
  unfold f_X4_hoursTillSunk
  refine wp_bdQ (Q := fun q => (∃ μ', q = .inl (holdS L S 61 0, μ') ∧ F3 r μ μ') ∨ ∃ μ', q = .inr μ' ∧ holdS L S 61 0 = -1 ∧ F3 r μ μ') ?_ ?_
  · refine wlp0 (fun n k μ' => f_X4_hoursTillSunk_L2 r 60 n (nI k) μ') _ 61 (fun k μ' => RC r μ' la la (siter L S k) ∧ F3 r μ μ' ∧ holdS L S 61 0 = holdS L S (61 - k) k) (by omega) μ ⟨hR, fun _ _ _ _ => rfl, rfl⟩ ?_ ?_
    · intro n k μ1 hk ⟨g1, f1, w1⟩ ih
      have o1 := siter_ok hO hS k
      show wp (f_X4_hoursTillSunk_L2 r 60 (n + 1) (nI k) μ1) _
      rw [f_X4_hoursTillSunk_L2]
      have e : μ1 r 7 = siter L S k 5 := g1.f 5 (by omega)
      rw [e]
      have ew : holdS L S (61 - k) k = if siter L S k 5 = 0 then holdS L S (60 - k) (k + 1) else nI k := by
        rw [show 61 - k = (60 - k) + 1 by omega]
        rfl
      refine wp_ie (nI_nlt (a := 60) (by omega) (by omega)) ?_
      by_cases hc : siter L S k 5 = 0
      · refine wp_it hc (wp_bdQ (passHourC g1 (f1.lc hL hr) hO hr o1.2.1 o1.1) fun μ2 ⟨g2, f2⟩ => wp_ls ?_)
        rw [nI_1]
        refine ih _ ⟨g2, f1.tr (fun o o1 o2 o3 => f2 o o1 o3), ?_⟩
        rw [w1, ew, if_pos hc, show 61 - (k + 1) = 60 - k by omega]
      · exact wp_ie hc (wp_some (Or.inl ⟨μ1, by rw [w1, ew, if_neg hc], f1⟩))
    · intro n μ1 ⟨g1, f1, w1⟩
      show wp (f_X4_hoursTillSunk_L2 r 60 (n + 1) (nI 61) μ1) _
      rw [f_X4_hoursTillSunk_L2]
      exact wp_it (nI_lt (a := 60) (by omega) (by omega)) (wp_some (Or.inr ⟨μ1, rfl, w1, f1⟩))
  · intro t ht
    rcases ht with ⟨μ', rfl, f⟩ | ⟨μ', rfl, e, f⟩
    · exact wp_suml (wp_some ⟨rfl, f⟩)
    · exact wp_sumr (wp_some ⟨e.symm, f⟩)
theorem holdM (h : LM q μ L) (hO : LOk L) (hM : MC μ S) (hS : SOk L S) : wp (f_X12_hold 310 μ) (fun p => p.1 = holdS L S 61 0 ∧ MF μ p.2) := by
  unfold f_X12_hold
  refine wp_bdQ (Q := fun q => (∃ μ', q = .inl (holdS L S 61 0, μ') ∧ MF μ μ') ∨ ∃ μ', q = .inr μ' ∧ holdS L S 61 0 = -1 ∧ MF μ μ') ?_ ?_
  · refine wlp0 (fun n k μ' => f_X12_hold_L2 310 n (nI k) μ') _ 61 (fun k μ' => MC μ' (siter L S k) ∧ MF μ μ' ∧ holdS L S 61 0 = holdS L S (61 - k) k) (by omega) μ ⟨hM, MF.rf μ, rfl⟩ ?_ ?_
    · intro n k μ1 hk ⟨g1, f1, w1⟩ ih
      have o1 := siter_ok hO hS k
      show wp (f_X12_hold_L2 310 (n + 1) (nI k) μ1) _
      rw [f_X12_hold_L2]
      have e : μ1 310 17 = siter L S k 5 := g1.f 5 (by omega)
      rw [e]
      have ew : holdS L S (61 - k) k = if siter L S k 5 = 0 then holdS L S (60 - k) (k + 1) else nI k := by
        rw [show 61 - k = (60 - k) + 1 by omega]
        rfl
      refine wp_ie (nI_nlt (a := 60) (by omega) (by omega)) ?_
      by_cases hc : siter L S k 5 = 0
      · refine wp_it hc (wp_bdQ (hourM2 (h.mf f1) hO g1 o1) fun μ2 ⟨g2, f2⟩ => wp_ls ?_)
        rw [nI_1]
        refine ih _ ⟨g2, f1.tr f2, ?_⟩
        rw [w1, ew, if_pos hc, show 61 - (k + 1) = 60 - k by omega]
      · exact wp_ie hc (wp_some (Or.inl ⟨μ1, by rw [w1, ew, if_neg hc], f1⟩))
    · intro n μ1 ⟨g1, f1, w1⟩
      show wp (f_X12_hold_L2 310 (n + 1) (nI 61) μ1) _
      rw [f_X12_hold_L2]
      exact wp_it (nI_lt (a := 60) (by omega) (by omega)) (wp_some (Or.inr ⟨μ1, rfl, w1, f1⟩))
  · intro t ht
    rcases ht with ⟨μ', rfl, f⟩ | ⟨μ', rfl, e, f⟩
    · exact wp_suml (wp_some ⟨rfl, f⟩)
    · exact wp_sumr (wp_some ⟨e.symm, f⟩)
theorem turnC {w : Int32} (hR : RC r μ la la S) (hL : LC la μ L) (hS : SOk L S) : f_X4_forceToTurn r w μ = some (turnS L S w 9 1) := by
  refine wp_eq ?_
  unfold f_X4_forceToTurn
  rw [axisC, hR.1, nI_clamp (zkd_31 hL.1 (by omega))]
  refine wp_ls (wp_g (zgk_nI hL.1 (by omega)) (wp_bdE (listC hR hL hS.2.1) (wp_ls ?_)))
  rw [leanC hL]
  refine wp_bdQ (Q := fun q => q = .inl (turnS L S w 9 1) ∨ q = .inr () ∧ turnS L S w 9 1 = -1) ?_ ?_
  · refine wlp (fun n k (_ : Unit) => f_X4_forceToTurn_L21 r w (axisS w) (leanS L (slist L S (axisS w))) μ n (nI k)) _ 10 (fun k _ => turnS L S w 9 1 = turnS L S w (10 - k) k ∧ 1 ≤ k) ?_ ?_ zFU 1 () (by omega) (by unfold zFU; omega) ⟨rfl, Nat.le_refl _⟩
    · intro n k _ hk ⟨w1, k1⟩ ih
      show wp (f_X4_forceToTurn_L21 r w (axisS w) (leanS L (slist L S (axisS w))) μ (n + 1) (nI k)) _
      rw [f_X4_forceToTurn_L21]
      refine wp_ie (nI_nlt (a := 9) (by omega) (by omega)) (wp_bdE (blownC hR hL) ?_)
      rw [signum_eq, signC]
      have ew : turnS L S w (10 - k) k = if sgn (leanS L (slist L S (axisS w)) + sblown L w (nI k) (axisS w)) = signS w then nI k else turnS L S w (9 - k) (k + 1) := by
        rw [show 10 - k = (9 - k) + 1 by omega]
        rfl
      by_cases hc : sgn (leanS L (slist L S (axisS w)) + sblown L w (nI k) (axisS w)) = signS w
      · exact wp_ie (fun v => v hc) (wp_some (Or.inl (by rw [w1, ew, if_pos hc])))
      · refine wp_it hc (wp_ls ?_)
        rw [nI_1]
        exact ih () ⟨by rw [w1, ew, if_neg hc, show 10 - (k + 1) = 9 - k by omega], by omega⟩
    · intro n _ ⟨w1, k1⟩
      show wp (f_X4_forceToTurn_L21 r w (axisS w) (leanS L (slist L S (axisS w))) μ (n + 1) (nI 10)) _
      rw [f_X4_forceToTurn_L21]
      exact wp_it (nI_lt (a := 9) (by omega) (by omega)) (wp_some (Or.inr ⟨rfl, w1⟩))
  · intro t ht
    rcases ht with rfl | ⟨rfl, e⟩
    · exact wp_suml (wp_some rfl)
    · exact wp_sumr (wp_some e.symm)
theorem turnM {w : Int32} (h : LM q μ L) (hO : LOk L) (hM : MC μ S) (hS : SOk L S) (hw : wayOk w) (hw1 : ¬ w = -1) : f_X12_turn 310 w μ = some (turnS L S w 9 1) := by
  refine wp_eq ?_
  unfold f_X12_turn
  refine wp_bdQ (Q := fun q => q = .inl (turnS L S w 9 1) ∨ q = .inr () ∧ turnS L S w 9 1 = -1) ?_ ?_
  · refine wlp (fun n k (_ : Unit) => f_X12_turn_L2 310 w μ n (nI k)) _ 10 (fun k _ => turnS L S w 9 1 = turnS L S w (10 - k) k ∧ 1 ≤ k) ?_ ?_ zFU 1 () (by omega) (by unfold zFU; omega) ⟨rfl, Nat.le_refl _⟩
    · intro n k _ hk ⟨w1, k1⟩ ih
      show wp (f_X12_turn_L2 310 w μ (n + 1) (nI k)) _
      rw [f_X12_turn_L2, axisM hw hw1, sign2M]
      refine wp_ie (nI_nlt (a := 9) (by omega) (by omega)) (wp_bdE (listM h hO.1 hM hS.2.1 hS.2.2.1) (wp_bdE (leanM h) (wp_bdE (blownM h hO.1 hw) ?_)))
      rw [signM]
      have ew : turnS L S w (10 - k) k = if sgn (leanS L (slist L S (axisS w)) + sblown L w (nI k) (axisS w)) = signS w then nI k else turnS L S w (9 - k) (k + 1) := by
        rw [show 10 - k = (9 - k) + 1 by omega]
        rfl
      by_cases hc : sgn (leanS L (slist L S (axisS w)) + sblown L w (nI k) (axisS w)) = signS w
      · exact wp_ie (fun v => v hc) (wp_some (Or.inl (by rw [w1, ew, if_pos hc])))
      · refine wp_it hc (wp_ls ?_)
        rw [nI_1]
        exact ih () ⟨by rw [w1, ew, if_neg hc, show 10 - (k + 1) = 9 - k by omega], by omega⟩
    · intro n _ ⟨w1, k1⟩
      show wp (f_X12_turn_L2 310 w μ (n + 1) (nI 10)) _
      rw [f_X12_turn_L2]
      exact wp_it (nI_lt (a := 9) (by omega) (by omega)) (wp_some (Or.inr ⟨rfl, w1⟩))
  · intro t ht
    rcases ht with rfl | ⟨rfl, e⟩
    · exact wp_suml (wp_some rfl)
    · exact wp_sumr (wp_some e.symm)
theorem goes_same (v1 v2 v3 v4 : Int32) : Same (f_X11_goes 0 v1 v2 v3 v4) (f_X12_goes 310 v1 v2 v3 v4) := by
  refine Same.of fun μ hI => ?_
  unfold f_X11_goes
  by_cases ha : ¬ v4 < 0 ∧ ¬ (13 : Int32) < v4 ∧ (v4 ≤ 1 ∨ ¬ v4 < 10)
  · obtain ⟨j, j1, rfl⟩ := nI_of ha.1
    have j13 : j ≤ 13 := (nI_leI j1 (by omega)).mp (Int32.not_lt.mp ha.2.1)
    have jj : j = 0 ∨ j = 1 ∨ 10 ≤ j := by
      rcases ha.2.2 with h | h
      · have : j ≤ 1 := (nI_leI j1 (by omega)).mp h
        omega
      · have : 10 ≤ j := (nI_leI (by omega) j1).mp (Int32.not_lt.mp h)
        omega
    refine wp_bd (wp_it ha ?_)
    rcases sail_both hI v1 v2 v3 with ⟨k, n, kd, v, L, D, hk, hkd, hv, hL, hd, ho, hc, hm⟩ | ⟨hc, hm⟩
    · refine wp_bd2 (wp_mono hc fun p hp => ?_)
      obtain ⟨p1, f1, g1⟩ := hp
      rw [p1]
      have hC := f1.lc hL.2.1 (by omega)
      refine wp_it (by decide) ?_
      unfold f_X12_goes
      rcases jj with rfl | rfl | jj
      · refine wp_ie (fun w => w rfl) (wp_bd2Q (wakeC g1 hC hL.1 (by omega) ho) fun x μ2 hx => wp_some (wp_suml (wp_some ⟨f1.kp.tr hx.2.kp, ?_⟩)))
        refine wp_bd2 (wp_mono (hm μ2 ((hx.2.k).trans f1.k)) fun p2 hp2 => ?_)
        obtain ⟨q1, kp, g2, l2⟩ := hp2
        rw [q1]
        refine wp_it (by decide) (wp_it (by decide) (wp_bd2 (wp_ie (fun w => w rfl) (wp_bd2Q (wakeM l2 hL.1 g2 ho) fun y μ3 hy => wp_some (wp_some ⟨?_, kp.tr hy.2.to2.kp⟩)))))
        exact hy.1.trans hx.1.symm
      · refine wp_it (by decide) (wp_bd2 (wp_ie (fun w => w rfl) (wp_bd2Q (holdC g1 hC hL.1 (by omega) ho) fun x μ2 hx => wp_some (wp_some (wp_suml (wp_some ⟨f1.kp.tr hx.2.kp, ?_⟩))))))
        refine wp_bd2 (wp_mono (hm μ2 ((hx.2.k).trans f1.k)) fun p2 hp2 => ?_)
        obtain ⟨q1, kp, g2, l2⟩ := hp2
        rw [q1]
        refine wp_it (by decide) (wp_it (by decide) (wp_bd2 (wp_it (by decide) (wp_ie (fun w => w rfl) (wp_bd2Q (holdM l2 hL.1 g2 ho) fun y μ3 hy => wp_some (wp_some ⟨?_, kp.tr hy.2.to2.kp⟩))))))
        exact hy.1.trans hx.1.symm
      · have n0 : ¬ nI j = 0 := nI_ne0 (by omega) (by omega)
        have n1 : ¬ nI j = 1 := fun w => by
          have := (nI_eq (b := 1) (by omega) (by omega)).mp w
          omega
        have e10 : nI j - (10 : Int32) = nI (j - 10) := pk_sub (b := 10) jj
        rw [e10]
        refine wp_it n0 (wp_bd2 (wp_it n1 (wp_bdE (turnC g1 hC ho) (wp_some (wp_some (wp_suml (wp_some ⟨f1.kp, ?_⟩)))))))
        refine wp_bd2 (wp_mono (hm p.2 f1.k) fun p2 hp2 => ?_)
        obtain ⟨q1, kp, g2, l2⟩ := hp2
        rw [q1]
        have hin : ¬ f_X12_isIn (nI j) 10 13 = 0 := by
          rw [isInM, decide_eq_true (show (10 : Int32) ≤ nI j from nI_le (a := 10) jj (by omega)), decide_eq_true (show nI j ≤ (13 : Int32) from nI_le (b := 13) j13 (by omega))]
          decide
        have hw : wayOk (nI (j - 10)) := by
          have : j - 10 = 0 ∨ j - 10 = 1 ∨ j - 10 = 2 ∨ j - 10 = 3 := by omega
          rcases this with e | e | e | e <;> rw [e]
          · exact Or.inr (Or.inl rfl)
          · exact Or.inr (Or.inr (Or.inl rfl))
          · exact Or.inr (Or.inr (Or.inr (Or.inl rfl)))
          · exact Or.inr (Or.inr (Or.inr (Or.inr rfl)))
        exact wp_it (by decide) (wp_ie hin (wp_bdE (turnM l2 hL.1 g2 ho hw (nI_nm1 (by omega))) (wp_some ⟨rfl, kp⟩)))
    · refine wp_bd2 (wp_mono hc fun p hp => ?_)
      obtain ⟨p1, f1⟩ := hp
      rw [p1]
      refine wp_ie (fun w => w rfl) (wp_some (wp_sumr (wp_some ⟨f1.kp, ?_⟩)))
      unfold f_X12_goes
      refine wp_bd2 (wp_mono (hm p.2 f1.k) fun p2 hp2 => ?_)
      rw [hp2.1]
      exact wp_ie (fun w => w rfl) (wp_some ⟨rfl, hp2.2⟩)
  · refine wp_bd (wp_ie ha (wp_some (wp_sumr (wp_some ⟨KP.rf μ, ?_⟩))))
    unfold f_X12_goes
    have hno : f_X12_isIn v4 10 13 = 0 := by
      rw [isInM, b2i_ne, Bool.and_eq_false_iff, decide_eq_false_iff_not, decide_eq_false_iff_not]
      by_cases h1 : (10 : Int32) ≤ v4
      · refine Or.inr fun h2 => ha ⟨fun w => ?_, Int32.not_lt.mpr h2, Or.inr (Int32.not_lt.mpr h1)⟩
        exact absurd (Int32.le_trans h1 (Int32.le_of_lt w)) (by decide)
      · exact Or.inl h1
    have h0 : ¬ v4 = 0 := fun w => ha (by rw [w]; decide)
    have h1 : ¬ v4 = 1 := fun w => ha (by rw [w]; decide)
    rcases sail_both hI v1 v2 v3 with ⟨k, n, kd, v, L, D, hk, hkd, hv, hL, hd, ho, hc, hm⟩ | ⟨hc, hm⟩
    · refine wp_bd2 (wp_mono (hm μ rfl) fun p2 hp2 => ?_)
      rw [hp2.1]
      exact wp_it (by decide) (wp_it hno (wp_bd2 (wp_it h0 (wp_it h1 (wp_some (wp_some ⟨rfl, hp2.2.1⟩))))))
    · refine wp_bd2 (wp_mono (hm μ rfl) fun p2 hp2 => ?_)
      rw [hp2.1]
      exact wp_ie (fun w => w rfl) (wp_some ⟨rfl, hp2.2⟩)
end GOES
/-! OWED -/
def gwt (L : Nat → Nat) : Int32 := sm (L 12) (fun k => nI (L (57 + 2 * k)))
def oweS (L : Nat → Nat) (S : Nat → Int32) (k a b t : Int32) : Int32 := if k = 0 then t + a * gwt L else if k = 1 then t + (if zabs (slist L S 0) + zabs (slist L S 1) ≤ a then 0 else b) else if k = 2 then t + (if ¬ ((S 4) >>> (a &&& 31)) &&& 1 = 1 then 0 else b) else if k = 3 then t + a * sallw S else if k = 4 then t + (if ¬ (S 0 + S 1) % 2 = 1 then 0 else a) else zmin t a
def owedS (L : Nat → Nat) (S : Nat → Int32) (D : Nat → Nat → Int32) : Nat → Int32
  | 0 => 0
  | n + 1 => oweS L S (D n 0) (D n 1) (D n 2) (owedS L S D n)
section OWED
variable {r la q w d n : Nat} {μ : zM} {L : Nat → Nat} {S : Nat → Int32} {D : Nat → Nat → Int32}
theorem gwtC (hL : LC la μ L) : f_X1_graveWeight la μ = some (gwt L) := by
  have hb := hL.2.1.2.1.2.1
  refine wp_eq ?_
  unfold f_X1_graveWeight
  have l1 : f_X1_graveWeight_L4 la μ zFU 0 0 = some (gwt L) := by
    refine wp_eq (wlp0 (fun n k x => f_X1_graveWeight_L4 la μ n x (nI k)) _ (L 12) (fun k x => x = sm k (fun k => nI (L (57 + 2 * k)))) (by omega) _ rfl ?_ ?_)
    · intro n k x hk hI ih
      show wp (f_X1_graveWeight_L4 la μ (n + 1) x (nI k)) _
      rw [f_X1_graveWeight_L4, hL.2.2.1.2.1.2.1]
      refine wp_ie (nI_ge hk (by omega)) (wp_bdE (gr_w hL.1 hL.2.1 hL.2.2.1 rfl hk) (wp_ls (wp_ls ?_)))
      rw [nI_1]
      exact ih _ (by rw [hI]; rfl)
    · intro n x hI
      show wp (f_X1_graveWeight_L4 la μ (n + 1) x (nI (L 12))) _
      rw [f_X1_graveWeight_L4, hL.2.2.1.2.1.2.1]
      exact wp_it (nI_le (Nat.le_refl _) (by omega)) (wp_some hI)
  exact wp_bdE l1 (wp_some rfl)
theorem gwtM (h : LM q μ L) (hB : LB L) : f_X12_allGraves 310 μ = some (gwt L) := by
  have hb := hB.2.1.2.1
  refine wp_eq ?_
  unfold f_X12_allGraves
  have l1 : f_X12_allGraves_L4 310 μ zFU 0 0 = some (gwt L) := by
    refine wp_eq (wlp0 (fun n k x => f_X12_allGraves_L4 310 μ n x (nI k)) _ (L 12) (fun k x => x = sm k (fun k => nI (L (57 + 2 * k)))) (by omega) _ rfl ?_ ?_)
    · intro n k x hk hI ih
      show wp (f_X12_allGraves_L4 310 μ (n + 1) x (nI k)) _
      rw [f_X12_allGraves_L4]
      refine wp_bdE (ofM 12 h rfl (by omega)) (wp_ie (nI_ge hk (by omega)) (wp_bdE (ofM (57 + 2 * k) h ((lin2 56 2 k 1).trans (by rw [show 56 + 2 * k + 1 = 57 + 2 * k by omega])) (by omega)) (wp_ls (wp_ls ?_))))
      rw [nI_1]
      exact ih _ (by rw [hI]; rfl)
    · intro n x hI
      show wp (f_X12_allGraves_L4 310 μ (n + 1) x (nI (L 12))) _
      rw [f_X12_allGraves_L4]
      exact wp_bdE (ofM 12 h rfl (by omega)) (wp_it (nI_le (Nat.le_refl _) (by omega)) (wp_some hI))
  exact wp_bdE l1 (wp_some rfl)
theorem zlnL : ∀ k, k < 2 → zln (53 + 2 * k) = 24 := by decide +kernel
theorem debtC {kl : Nat} (hkl : kl < 2) (hR : RC 87 μ la la S) (hL : LC la μ L) (hS : SOk L S) (hD : LawR (52 + 2 * kl) d μ n D) : f_X4_debtBy 87 (52 + 2 * kl) μ = some (owedS L S D n) := by
  have hn := hD.1
  have hz := zlnL kl hkl
  refine wp_eq ?_
  unfold f_X4_debtBy
  have num : ∀ j c, j < n → c < 3 → f_X6_number (52 + 2 * kl) (nI j) (nI c) μ = some (D j c) := fun j c hj hc => by
    rw [number_in rfl rfl hD.2.1 hj hc (by rw [show 52 + 2 * kl + 1 = 53 + 2 * kl by omega, hz]; omega) (by rw [show 52 + 2 * kl + 1 = 53 + 2 * kl by omega, hz]; omega) (by omega), hD.2.2.1 j hj c hc]
  have e0 : μ 87 2 = S 0 := hR.f 0 (by omega)
  have e1 : μ 87 3 = S 1 := hR.f 1 (by omega)
  have e4 : μ 87 6 = S 4 := hR.f 4 (by omega)
  have l1 : f_X4_debtBy_L4 87 (52 + 2 * kl) μ zFU 0 0 = some (owedS L S D n) := by
    refine wp_eq (wlp0 (fun m k x => f_X4_debtBy_L4 87 (52 + 2 * kl) μ m x (nI k)) _ n (fun k x => x = owedS L S D k) (by omega) _ rfl ?_ ?_)
    · intro m k x hk hI ih
      show wp (f_X4_debtBy_L4 87 (52 + 2 * kl) μ (m + 1) x (nI k)) _
      rw [f_X4_debtBy_L4, hD.2.1, e0, e1, e4]
      refine wp_ie (nI_ge hk (by omega)) (wp_bdE (num k 1 hk (by omega)) (wp_bdE (num k 2 hk (by omega)) (wp_bdE (num k 0 hk (by omega)) ?_)))
      have go : ∀ v, v = oweS L S (D k 0) (D k 1) (D k 2) x → wp (zl (nI k + 1) fun x32 => f_X4_debtBy_L4 87 (52 + 2 * kl) μ m v x32) (fun r => r = owedS L S D n) := fun v hv => by
        refine wp_ls ?_
        rw [nI_1]
        exact ih v (by rw [hv, hI]; rfl)
      unfold oweS at go
      refine wp_bd (wp_if (fun c => ?_) (fun c0 => ?_))
      · rw [hR.1, nI_clamp (zkd_31 hL.1 (by omega))]
        exact wp_g (zgk_nI hL.1 (by omega)) (wp_bdE (gwtC hL) (wp_ls (wp_some (go _ (by rw [if_pos c])))))
      refine wp_if (fun c => wp_bdE (listC hR hL hS.2.1) (wp_bdE (listC hR hL hS.2.1) (wp_ls (wp_ls (wp_some (go _ (by rw [if_neg c0, if_pos c]))))))) (fun c1 => ?_)
      refine wp_if (fun c => wp_ls (wp_ls (wp_some (go _ (by rw [if_neg c0, if_neg c1, if_pos c]))))) (fun c2 => ?_)
      refine wp_if (fun c => wp_bdE (allWaterC hR) (wp_ls (wp_some (go _ (by rw [if_neg c0, if_neg c1, if_neg c2, if_pos c]))))) (fun c3 => ?_)
      refine wp_if (fun c => wp_ls (wp_ls (wp_some (go _ (by rw [if_neg c0, if_neg c1, if_neg c2, if_neg c3, if_pos c]))))) (fun c4 => ?_)
      exact wp_ls (wp_some (go _ (by rw [if_neg c0, if_neg c1, if_neg c2, if_neg c3, if_neg c4])))
    · intro m x hI
      show wp (f_X4_debtBy_L4 87 (52 + 2 * kl) μ (m + 1) x (nI n)) _
      rw [f_X4_debtBy_L4, hD.2.1]
      exact wp_it (nI_le (Nat.le_refl _) (by omega)) (wp_some hI)
  exact wp_bdE l1 (wp_some rfl)
def TM (d n : Nat) (D : Nat → Nat → Int32) (μ : zM) : Prop := n ≤ 8 ∧ d + 25 ≤ 4688 ∧ μ 310 25 = nI d ∧ μ 311 d = nI n ∧ ∀ j, j < n → ∀ c, c < 3 → μ 311 (d + 1 + 3 * j + c) = D j c
theorem termM {v u : Int32} {j c : Nat} (h : TM d n D μ) (hv : v = nI j) (hw : u = nI c) (hj : j < n) (hc : c < 3) : f_X12_termOf 310 v u μ = some (D j c) := by
  subst hv hw
  unfold f_X12_termOf
  have e : μ 310 25 + 1 + 3 * nI j + nI c = nI (d + 1 + 3 * j + c) := by
    rw [h.2.2.1, nI_1]
    show nI (d + 1) + nI 3 * nI j + nI c = _
    rw [pk_mul, nI_add, nI_add]
  have := h.1
  have := h.2.1
  rw [e, zin_nI (by omega) (by omega), nI_clamp (by omega)]
  show some (μ 311 _) = _
  rw [h.2.2.2.2 j hj c hc]
theorem owesM {x : Int32} {k : Nat} (h : LM q μ L) (hB : LB L) (hM : MC μ S) (hS : SOk L S) (hT : TM d n D μ) (hk : k < n) : f_X12_owes 310 x (nI k) μ = some (oweS L S (D k 0) (D k 1) (D k 2) x) := by
  have e0 : μ 310 12 = S 0 := hM.f 0 (by omega)
  have e1 : μ 310 13 = S 1 := hM.f 1 (by omega)
  have e4 : μ 310 16 = S 4 := hM.f 4 (by omega)
  refine wp_eq ?_
  unfold f_X12_owes oweS
  rw [e0, e1, e4]
  refine wp_bdE (termM (c := 1) hT rfl rfl hk (by omega)) (wp_bdE (termM (c := 2) hT rfl rfl hk (by omega)) (wp_bdE (termM (c := 0) hT rfl rfl hk (by omega)) ?_))
  refine wp_if (fun c => wp_bdE (gwtM h hB) (wp_some (by rw [if_pos c]))) (fun c0 => ?_)
  refine wp_if (fun c => wp_bdE (listM h hB hM hS.2.1 hS.2.2.1) (wp_bdE (listM h hB hM hS.2.1 hS.2.2.1) (wp_ls (wp_some (by rw [if_neg c0, if_pos c, sizeM, sizeM]))))) (fun c1 => ?_)
  refine wp_if (fun c => wp_ls (wp_some (by rw [if_neg c0, if_neg c1, if_pos c]))) (fun c2 => ?_)
  refine wp_if (fun c => wp_bdE (allWaterM hM) (wp_some (by rw [if_neg c0, if_neg c1, if_neg c2, if_pos c]))) (fun c3 => ?_)
  refine wp_if (fun c => wp_ls (wp_some (by rw [if_neg c0, if_neg c1, if_neg c2, if_neg c3, if_pos c]))) (fun c4 => ?_)
  refine wp_ls (wp_some ?_)
  rw [if_neg c0, if_neg c1, if_neg c2, if_neg c3, if_neg c4]
  by_cases hc : x ≤ D k 1
  · rw [if_pos hc]
    exact (if_neg (Int32.not_lt.mpr hc)).symm
  · rw [if_neg hc]
    exact (if_pos (Int32.not_le.mp hc)).symm
theorem owedM (h : LM q μ L) (hB : LB L) (hM : MC μ S) (hS : SOk L S) (hT : TM d n D μ) : f_X12_owed_L38 310 μ zFU 0 0 = some (owedS L S D n) := by
  have hn := hT.1
  have hd := hT.2.1
  refine wp_eq (wlp0 (fun m k x => f_X12_owed_L38 310 μ m x (nI k)) _ n (fun k x => x = owedS L S D k) (by omega) _ rfl ?_ ?_)
  · intro m k x hk hI ih
    show wp (f_X12_owed_L38 310 μ (m + 1) x (nI k)) _
    rw [f_X12_owed_L38, hT.2.2.1, nI_clamp (by omega), show μ (310 + 1) d = nI n from hT.2.2.2.1]
    refine wp_g (zin_nI (by omega) (by omega)) (wp_ie (nI_ge hk (by omega)) (wp_bdE (owesM h hB hM hS hT hk) (wp_ls ?_)))
    rw [nI_1]
    exact ih _ (by rw [hI]; rfl)
  · intro m x hI
    show wp (f_X12_owed_L38 310 μ (m + 1) x (nI n)) _
    rw [f_X12_owed_L38, hT.2.2.1, nI_clamp (by omega), show μ (310 + 1) d = nI n from hT.2.2.2.1]
    exact wp_g (zin_nI (by omega) (by omega)) (wp_it (nI_le (Nat.le_refl _) (by omega)) (wp_some hI))
theorem placeOf4 (k : Nat) : f_X12_placeOf 4 (nI k) = nI (1122 + 25 * k) := by
  unfold f_X12_placeOf
  rw [if_neg (by decide), if_neg (by decide), if_neg (by decide), if_neg (by decide)]
  exact lin1 1122 25 k
theorem owed_same (v1 v2 v3 v4 : Int32) : Same (f_X11_owed 0 v1 v2 v3 v4) (f_X12_owed 310 v1 v2 v3 v4) := by
  refine Same.of fun μ hI => ?_
  unfold f_X11_owed
  rcases law_cases hI v4 with ⟨kl, n, D, hkl, hv4, hD, e3, e4⟩ | ⟨e3, e4⟩
  · have z2 : zgn (52 + 2 * kl) 6 = true := by unfold zgn; have := zpg_kd (8 + kl) (by omega); rw [show 36 + 2 * (8 + kl) = 52 + 2 * kl by omega] at this; rw [this]; rfl
    refine wp_bdE e3 (wp_bd (wp_cs (wp_g z2 ?_)))
    rcases sail_both hI v1 v2 v3 with ⟨k, m, kd, v, L, D2, hk, hkd, hv, hL, hd, ho, hc, hm⟩ | ⟨hc, hm⟩
    · refine wp_bd2 (wp_mono hc fun p hp => ?_)
      obtain ⟨p1, f1, g1⟩ := hp
      rw [p1]
      have hD1 : LawR (52 + 2 * kl) (1122 + 25 * kl) p.2 n D := by
        unfold LawR at hD ⊢
        rw [f1.k, f1 (52 + 2 * kl) (by omega) (by omega) (by omega), f1 (52 + 2 * kl + 1) (by omega) (by omega) (by omega)]
        exact hD
      refine wp_it (by decide) (wp_bdE (debtC hkl g1 (f1.lc hL.2.1 (by omega)) ho hD1) (wp_some (wp_suml (wp_some ⟨f1.kp, ?_⟩))))
      unfold f_X12_owed
      refine wp_bd2 (wp_mono (hm p.2 f1.k) fun p2 hp2 => ?_)
      obtain ⟨q1, kp, g2, l2⟩ := hp2
      rw [q1]
      have h311 : p2.2 311 = μ 311 := (kp 311 (by omega)).trans f1.k
      refine wp_bd (wp_ie (by decide) (wp_bdE (e4 p2.2 h311) (wp_it (by decide) (wp_some (wp_it rfl (wp_ls ?_))))))
      subst hv4
      rw [placeOf4]
      generalize hμ3 : zup p2.2 310 25 (nI (1122 + 25 * kl)) = μ3
      have kp3 : KP p2.2 μ3 := by rw [← hμ3]; exact zup310.kp
      have g3 : MC μ3 (sAt L D2 v) := by
        rw [← hμ3]
        exact ⟨fun i hi => by rw [zup_ne (by omega)]; exact g2.1 i hi, fun i hi => by rw [zup_ne (by omega)]; exact g2.2.1 i hi, fun i hi => by rw [zup_ne (by omega)]; exact g2.2.2 i hi⟩
      have l3 : LM (610 + 109 * k) μ3 L := l2.congr (kp3 311 (by omega)) (by rw [← hμ3, zup_ne (by omega)])
      have t3 : TM (1122 + 25 * kl) n D μ3 := by
        refine ⟨hD.1, by omega, by rw [← hμ3, zup_self], ?_⟩
        rw [kp3 311 (by omega), h311]
        exact ⟨hD.2.2.2.1, hD.2.2.2.2⟩
      exact wp_bdE (owedM l3 hL.1.1 g3 ho t3) (wp_some ⟨rfl, kp.tr kp3⟩)
    · refine wp_bd2 (wp_mono hc fun p hp => ?_)
      obtain ⟨p1, f1⟩ := hp
      rw [p1]
      refine wp_ie (fun w => w rfl) (wp_some (wp_sumr (wp_some ⟨f1.kp, ?_⟩)))
      unfold f_X12_owed
      refine wp_bd2 (wp_mono (hm p.2 f1.k) fun p2 hp2 => ?_)
      rw [hp2.1]
      exact wp_bd (wp_it rfl (wp_some (wp_ie (by decide) (wp_some ⟨rfl, hp2.2⟩))))
  · refine wp_bdE e3 (wp_bd (wp_cn (wp_some (wp_sumr (wp_some ⟨KP.rf μ, ?_⟩)))))
    unfold f_X12_owed
    rcases sail_both hI v1 v2 v3 with ⟨k, m, kd, v, L, D2, hk, hkd, hv, hL, hd, ho, hc, hm⟩ | ⟨hc, hm⟩
    · refine wp_bd2 (wp_mono (hm μ rfl) fun p2 hp2 => ?_)
      rw [hp2.1]
      exact wp_bd (wp_ie (by decide) (wp_bdE (e4 p2.2 (hp2.2.1 311 (by omega))) (wp_ie (by decide) (wp_some (wp_ie (by decide) (wp_some ⟨rfl, hp2.2.1⟩))))))
    · refine wp_bd2 (wp_mono (hm μ rfl) fun p2 hp2 => ?_)
      rw [hp2.1]
      exact wp_bd (wp_it rfl (wp_some (wp_ie (by decide) (wp_some ⟨rfl, hp2.2⟩))))
end OWED
