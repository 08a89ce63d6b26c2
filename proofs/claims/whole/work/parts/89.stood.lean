/-! who may have stood where: the reference's side -/
/-- the sights of a night, as the reference has them -/
def SgM (d ns : Nat) (X : Nat → Nat → Nat) (μ : zM) : Prop := ns ≤ 8 ∧ d + 17 ≤ 4688 ∧ μ 310 32 = nI d ∧ μ 311 d = nI ns ∧ ∀ j, j < ns → ∀ c, c < 2 → μ 311 (d + 1 + 2 * j + c) = nI (X j c)
/-- what stays while it tries -/
def RG (q d ns : Nat) (L : Nat → Nat) (X : Nat → Nat → Nat) (l : List Nat) (μ : zM) : Prop := LM q μ L ∧ SgM d ns X μ ∧ HL 322 310 33 l μ
theorem RG.mf2 {q d ns : Nat} {L : Nat → Nat} {X : Nat → Nat → Nat} {l : List Nat} {μ μ' : zM} (g : RG q d ns L X l μ) (f : MF2 μ μ') : RG q d ns L X l μ' := by
  obtain ⟨g1, ⟨a1, a2, a3, a4, a5⟩, g3⟩ := g
  have e := f.1 311 (by omega) (by omega) (by omega)
  refine ⟨g1.mf2 f, ⟨a1, a2, (f.2 32 (by omega)).trans a3, by rw [e]; exact a4, fun j hj c hc => by rw [e]; exact a5 j hj c hc⟩, g3.congr (f.2 33 (by omega)) (f.1 322 (by omega) (by omega) (by omega))⟩
section STM
variable {q d ns : Nat} {L : Nat → Nat} {X : Nat → Nat → Nat} {l : List Nat} {μ : zM}
theorem sightsM (g : RG q d ns L X l μ) : f_X12_sights 310 μ = some (nI ns) := by
  obtain ⟨_, ⟨a1, a2, a3, a4, _⟩, _⟩ := g
  unfold f_X12_sights
  rw [a3, zin_nI (by omega) (by omega), nI_clamp (by omega)]
  show some (μ 311 d) = _
  rw [a4]
theorem sightOfM {j c : Nat} (g : RG q d ns L X l μ) (hj : j < ns) (hc : c < 2) : f_X12_sightOf 310 (nI j) (nI c) μ = some (nI (X j c)) := by
  obtain ⟨_, ⟨a1, a2, a3, _, a5⟩, _⟩ := g
  unfold f_X12_sightOf
  have e : μ 310 32 + 1 + 2 * nI j + nI c = nI (d + 1 + 2 * j + c) := by
    rw [a3, nI_1]
    show nI (d + 1) + nI 2 * nI j + nI c = _
    rw [pk_mul, nI_add, nI_add]
  rw [e, zin_nI (by omega) (by omega), nI_clamp (by omega)]
  show some (μ 311 _) = _
  rw [a5 j hj c hc]
theorem adds0M {v : Nat} (H : HL 322 310 33 l μ) (hl : l.length < 5) (hb : ∀ x, x ∈ l → x < 16) (hv : v < 16) :
    wp (f_X12_adds0 310 (nI v) μ) (fun μ' => HL 322 310 33 (adL l v) μ' ∧ (∀ o, o ≠ 310 → o ≠ 322 → μ' o = μ o) ∧ ∀ k, k ≠ 33 → μ' 310 k = μ 310 k) := by
  have ec : μ 310 33 = nI l.length := H.1
  have hg : ∀ i, i < l.length → l.getD i 0 < 16 := fun i hi => hb _ (mem_getD.mpr ⟨i, hi, rfl⟩)
  unfold f_X12_adds0
  refine wp_bdQ (Q := fun x => x = if v ∈ l then 1 else 0) ?_ (fun x hx => ?_)
  · refine wlp0 (fun n j x => f_X12_adds0_L4 310 (nI v) μ n x (nI j)) _ l.length (fun j x => (x = 0 ∧ ∀ i, i < j → l.getD i 0 ≠ v) ∨ (x = 1 ∧ v ∈ l)) (by omega) 0 (Or.inl ⟨rfl, fun i hi => by omega⟩) ?_ ?_
    · intro n j x hj hI ih
      have ev : μ (310 + 12) j = nI (l.getD j 0) := H.2 j hj
      show wp (f_X12_adds0_L4 310 (nI v) μ (n + 1) x (nI j)) _
      rw [f_X12_adds0_L4, ec, nI_1, nI_clamp (by omega), ev]
      refine wp_ie (nI_ge hj (by omega)) ?_
      rcases hI with ⟨rfl, h2⟩ | ⟨rfl, h2⟩
      · refine wp_bd (wp_bd (wp_ie (fun w => w rfl) (wp_g (zin_nI (by omega) (by omega)) ?_)))
        by_cases c : l.getD j 0 = v
        · refine wp_ie (fun w => w (by rw [c])) (wp_some (wp_ie (by decide) (wp_some (wp_ls (ih 1 (Or.inr ⟨rfl, mem_getD.mpr ⟨j, hj, c⟩⟩))))))
        · refine wp_it (fun w => c (by rw [← nI_clamp (n := l.getD j 0) (by have := hg j hj; omega), w, nI_clamp (by omega)])) (wp_some (wp_it rfl (wp_some (wp_ls (ih 0 (Or.inl ⟨rfl, fun i hi => ?_⟩))))))
          by_cases e : i = j
          · rw [e]
            exact c
          · exact h2 i (by omega)
      · exact wp_bd (wp_bd (wp_it (by decide) (wp_some (wp_ie (by decide) (wp_some (wp_ls (ih 1 (Or.inr ⟨rfl, h2⟩))))))))
    · intro n x hI
      show wp (f_X12_adds0_L4 310 (nI v) μ (n + 1) x (nI l.length)) _
      rw [f_X12_adds0_L4, ec]
      refine wp_it (nI_le (Nat.le_refl _) (by omega)) (wp_some ?_)
      rcases hI with ⟨rfl, h2⟩ | ⟨rfl, h2⟩
      · rw [if_neg (fun w => ?_)]
        obtain ⟨i, i1, i2⟩ := mem_getD.mp w
        exact h2 i i1 i2
      · rw [if_pos h2]
  · rw [hx]
    unfold adL
    by_cases c : v ∈ l
    · rw [if_pos c, if_pos c]
      exact wp_ie (by decide) (wp_some ⟨H, fun _ _ _ => rfl, fun _ _ => rfl⟩)
    · rw [if_neg c, if_neg c, ec, nI_clamp (by omega)]
      refine wp_it rfl (wp_g (zin_nI (by omega) (by omega)) (wp_ls (wp_ls (wp_some ⟨?_, fun o h1 h2 => ?_, fun k hk => ?_⟩))))
      · have e2 : zup μ (310 + 12) l.length (nI v) 310 33 + 1 = nI (l.length + 1) := by rw [zup_ne (by omega), ec, nI_1]
        rw [e2]
        exact H.add (by omega)
      · rw [zup_rne _ _ _ h1, zup_rne _ _ _ h2]
      · rw [zup_ne (by omega), zup_ne (by omega)]
theorem adL_mem {v x : Nat} (h : x ∈ adL l v) : x ∈ l ∨ x = v := by
  unfold adL at h
  split at h
  · exact Or.inl h
  · rcases List.mem_append.mp h with w | w
    · exact Or.inl w
    · exact Or.inr (List.mem_singleton.mp w)
/-- corners added one after another -/
def AD (l : List Nat) (μ0 μ : zM) : Prop := HL 322 310 33 l μ ∧ (∀ x, x ∈ l → x < 16) ∧ (∀ o, o ≠ 310 → o ≠ 322 → μ o = μ0 o) ∧ ∀ k, k ≠ 33 → μ 310 k = μ0 310 k
theorem AD.add {μ0 : zM} {v : Nat} {x : Int32} (g : AD l μ0 μ) (hl : l.length < 5) (hv : v < 16) (hx : x = nI v) : wp (f_X12_adds0 310 x μ) (fun μ' => AD (adL l v) μ0 μ') := by
  rw [hx]
  refine wp_mono (adds0M g.1 hl g.2.1 hv) fun μ' ⟨h1, h2, h3⟩ => ⟨h1, fun x hx => ?_, fun o a b => (h2 o a b).trans (g.2.2.1 o a b), fun k hk => (h3 k hk).trans (g.2.2.2 k hk)⟩
  rcases adL_mem hx with w | w
  · exact g.2.1 x w
  · rw [w]
    exact hv
theorem AD.lm {μ0 : zM} (g : AD l μ0 μ) (h : LM q μ0 L) : LM q μ L := h.congr (g.2.2.1 311 (by omega) (by omega)) (g.2.2.2 10 (by omega))
theorem seenM {kd : Nat} {v1 v2 : Int32} (hB : LB L) (hv : v2 = nI kd) (hk : kd < 2) (hns : ns ≤ 8) (e2 : f_X12_isLake 310 v1 μ = some (1, zup μ 310 10 (nI q))) (e4 : f_X12_isOf 310 2 v2 (zup μ 310 10 (nI q)) = some 1) (l0 : LM q (zup μ 310 10 (nI q)) L) (hs : μ 311 (1070 + 17 * kd) = nI ns) (hx : ∀ j, j < ns → ∀ c, c < 2 → μ 311 (1070 + 17 * kd + 1 + 2 * j + c) = nI (X j c)) :
    wp (f_X12_areSeen 310 v1 v2 μ) (fun p => p.1 = 1 ∧ RG q (1070 + 17 * kd) ns L X (crs (L 2) (L 3)) p.2 ∧ KP μ p.2) := by
  have h2 := hB.1.2.2.1
  have h3 := hB.1.2.2.2.1
  have h16 := pl16 hB
  have hp : 1 ≤ L 2 * L 3 := Nat.mul_pos h2.1 h3.1
  have hq : L 2 * (L 3 - 1) ≤ L 2 * L 3 := Nat.mul_le_mul (Nat.le_refl _) (by omega)
  have hq2 : L 2 * (L 3 - 1) + L 2 = L 2 * L 3 := by
    rw [← Nat.mul_succ]
    congr 1
    omega
  have k0 : KP μ (zup μ 310 10 (nI q)) := zup310.kp
  have s0 : (zup μ 310 10 (nI q)) 311 = μ 311 := zup_rne _ _ _ (by omega)
  unfold f_X12_areSeen
  refine wp_bd2 (wp_of e2 (wp_bd (wp_ie i10 (wp_bdE e4 (wp_it (by decide) (wp_some (wp_it rfl ?_)))))))
  show wp (zl (zup (zup μ 310 10 (nI q)) 310 32 (f_X12_placeOf 2 v2)) _) _
  generalize zup μ 310 10 (nI q) = μ0 at l0 k0 s0 ⊢
  rw [hv, placeOf2]
  refine wp_ls (wp_ls ?_)
  have l1 : LM q (zup (zup μ0 310 32 (nI (1070 + 17 * kd))) 310 33 0) L := l0.congr (by rw [zup_rne _ _ _ (by omega), zup_rne _ _ _ (by omega)]) (by rw [zup_ne (by omega), zup_ne (by omega)])
  have a1 : AD [] (zup (zup μ0 310 32 (nI (1070 + 17 * kd))) 310 33 0) (zup (zup μ0 310 32 (nI (1070 + 17 * kd))) 310 33 0) := ⟨⟨zup_self _ _ _ _, fun j hj => by have : j < 0 := hj; omega⟩, (fun x hx => by cases hx), fun _ _ _ => rfl, fun _ _ => rfl⟩
  have k1 : KP μ (zup (zup μ0 310 32 (nI (1070 + 17 * kd))) 310 33 0) := (k0.tr zup310.kp).tr zup310.kp
  have s1 : (zup (zup μ0 310 32 (nI (1070 + 17 * kd))) 310 33 0) 311 = μ 311 := by rw [zup_rne _ _ _ (by omega), zup_rne _ _ _ (by omega), s0]
  have d1 : (zup (zup μ0 310 32 (nI (1070 + 17 * kd))) 310 33 0) 310 32 = nI (1070 + 17 * kd) := by rw [zup_ne (by omega), zup_self]
  generalize zup (zup μ0 310 32 (nI (1070 + 17 * kd))) 310 33 0 = μ1 at l1 a1 k1 s1 d1 ⊢
  have n1 := adL_len (l := []) (v := 0)
  have n2 := adL_len (l := adL [] 0) (v := L 2 - 1)
  have n3 := adL_len (l := adL (adL [] 0) (L 2 - 1)) (v := L 2 * (L 3 - 1))
  have n0 : ([] : List Nat).length = 0 := rfl
  refine wp_bdQ (a1.add (v := 0) (by omega) (by omega) rfl) fun μ2 a2 => ?_
  have l2 := a2.lm l1
  refine wp_bdE (ofM 2 l2 rfl (by omega)) (wp_bdQ (a2.add (v := L 2 - 1) (by omega) (by omega) (pk_sub1 (by omega))) fun μ3 a3 => ?_)
  have l3 := a3.lm l1
  refine wp_bdE (ofM 2 l3 rfl (by omega)) (wp_bdE (ofM 3 l3 rfl (by omega)) (wp_bdQ (a3.add (v := L 2 * (L 3 - 1)) (by omega) (by omega) ?_) fun μ4 a4 => ?_))
  · rw [show nI (L 3) - 1 = nI (L 3 - 1) from pk_sub1 (by omega), pk_mul]
  have l4 := a4.lm l1
  refine wp_bdE (placesM l4) (wp_bdQ (a4.add (v := L 2 * L 3 - 1) (by omega) (by omega) (pk_sub1 (by omega))) fun μ5 a5 => wp_some ⟨rfl, ?_, ?_⟩)
  · rw [crs_ref (L 2) (by omega) (L 3) (by omega) (by omega) (by omega)] at a5
    have e311 : μ5 311 = μ 311 := (a5.2.2.1 311 (by omega) (by omega)).trans s1
    exact ⟨a5.lm l1, ⟨hns, by omega, (a5.2.2.2 32 (by omega)).trans d1, (by show μ5 311 _ = _; rw [e311]; exact hs), (fun j hj c hc => by show μ5 311 _ = _; rw [e311]; exact hx j hj c hc)⟩, a5.1⟩
  · exact k1.tr (fun o ho => a5.2.2.1 o (by omega) (by omega))
/-! a way, tried -/
def posI (l : List Nat) (d : Nat) : Int32 := if d = 0 then -1 else nI (l.getD (d - 1) 0)
def stW (L : Nat → Nat) (l : List Nat) (f : Nat → Nat) (j : Nat) : Nat → Int32 := fun k => if 20 ≤ k ∧ k < 20 + j then posI l (f (k - 20)) else sbegin L L k
theorem stW_lo {f : Nat → Nat} {j k : Nat} (h : k < 20 ∨ 20 + j ≤ k) : stW L l f j k = sbegin L L k := if_neg (by omega)
theorem stW_in {f : Nat → Nat} {j m : Nat} (h : m < j) : stW L l f j (20 + m) = posI l (f m) := by
  unfold stW
  rw [if_pos (by omega), show 20 + m - 20 = m by omega]
theorem stW_su {f : Nat → Nat} {j : Nat} : su (stW L l f j) (20 + j) (posI l (f j)) = stW L l f (j + 1) := by
  funext k
  unfold su stW
  by_cases e : k = 20 + j
  · rw [if_pos e, if_pos (by omega), e, show 20 + j - 20 = j by omega]
  · rw [if_neg e]
    by_cases c : 20 ≤ k ∧ k < 20 + j
    · rw [if_pos c, if_pos (by omega)]
    · rw [if_neg c, if_neg (by omega)]
theorem stW_ok {f : Nat → Nat} (hO : LOk L) (hp : ∀ j, j < l.length → l.getD j 0 < L 2 * L 3) (hf : ∀ m, m < L 14 → f m ≤ l.length) : TOk L (stW L l f (L 14)) := by
  have hb5 := hO.1.2.1.2.2.2.1
  have bo := sbegin_ok hO
  refine ⟨rfl, rfl, rfl, fun m hm => ?_, fun p h1 h2 => ?_, Or.inl ?_, ?_⟩
  · by_cases c : m < L 14
    · rw [stW_in c]
      unfold posI
      by_cases e : f m = 0
      · exact Or.inl (if_pos e)
      · have := hf m c
        exact Or.inr ⟨c, _, hp (f m - 1) (by omega), if_neg e⟩
    · rw [stW_lo (by omega)]
      exact Or.inl (sbegin_st (by omega))
  · rw [stW_lo (by omega)]
    exact bo.2.2.1 p h1 h2
  · rw [stW_lo (by omega)]
    rfl
  · obtain ⟨x, y, x0, y0, h⟩ := bo.1
    exact ⟨x, y, by rw [stW_lo (by omega)]; exact x0, by rw [stW_lo (by omega)]; exact y0, h⟩
theorem stW_list {f : Nat → Nat} {ax : Int32} (hB : LB L) (hp : ∀ j, j < l.length → l.getD j 0 < L 2 * L 3) (hf : ∀ m, m < L 14 → f m ≤ l.length) : slist L (stW L l f (L 14)) ax = gl L ax + lsm L l f ax (L 14) := by
  have hb5 := hB.2.1.2.2.2.1
  have h16 := pl16 hB
  unfold slist lsm
  rw [sm_0 (n := 16) (fun p hp => by rw [stW_lo (by omega), show 30 + p = 30 + p from rfl, sbegin_dry hp, Int32.zero_mul]), Int32.add_zero]
  congr 1
  have e5 : (5 : Nat) = L 14 + (5 - L 14) := by omega
  rw [e5, sm_pad (5 - L 14) (fun j h1 h2 => if_pos (by rw [stW_lo (by omega)]; exact sbegin_st (by omega)))]
  refine sm_congr (fun m hm => ?_)
  rw [stW_in hm]
  have := hf m hm
  unfold posI
  by_cases e : f m = 0
  · rw [if_pos e, if_pos rfl, if_pos e]
  · have hc := hp (f m - 1) (by omega)
    rw [if_neg e, if_neg (nI_nm1 (by omega)), if_neg e, nI_clamp (by omega)]
theorem sdrift_far {S T : Nat → Int32} {ax : Int32} (h : ∀ k, 8 ≤ k → S k = T k) : sdrift L S ax = sdrift L T ax := by
  unfold sdrift slist
  rw [h 8 (by omega), h 9 (by omega), sm_congr (n := 5) (fun m hm => by rw [h (20 + m) (by omega)]), sm_congr (n := 16) (fun p hp => by rw [h (30 + p) (by omega)])]
theorem stW_drift {f : Nat → Nat} {ax : Int32} (hB : LB L) (hp : ∀ j, j < l.length → l.getD j 0 < L 2 * L 3) (hf : ∀ m, m < L 14 → f m ≤ l.length) : sdrift L (stW L l f (L 14)) ax = lnX L l f ax := by
  unfold sdrift
  rw [stW_list hB hp hf, show stW L l f (L 14) 8 = -1 by rw [stW_lo (by omega)]; rfl]
  unfold sblown
  rw [if_neg (fun w => w.1 rfl), Int32.add_zero]
  exact sgn_lean L _
theorem sfls_pth {T : Nat → Int32} (h0 : T 0 = sbegin L L 0) (h1 : T 1 = sbegin L L 1) : ∀ n, sfls L T n 0 = pth L (sdrift L T 0) (sdrift L T 1) n 0 ∧ sfls L T n 1 = pth L (sdrift L T 0) (sdrift L T 1) n 1
  | 0 => ⟨h0, h1⟩
  | n + 1 => by
    obtain ⟨i0, i1⟩ := sfls_pth h0 h1 n
    have e : ∀ ax, sdrift L (sfls L T n) ax = sdrift L T ax := fun ax => sdrift_far (fun k hk => sfls_st (by omega) (by omega) (by omega) n)
    show sfl L (sfls L T n) 0 = smove L L _ _ (pth L _ _ n) 0 ∧ sfl L (sfls L T n) 1 = smove L L _ _ (pth L _ _ n) 1
    unfold sfl
    rw [e, e, smove_0, smove_1, smove_0, smove_1, i0, i1]
    exact ⟨rfl, rfl⟩
theorem fittingM {W : Nat} (g : RG q d ns L X l μ) (hO : LOk L) (hl : l.length ≤ 4) (hp : ∀ j, j < l.length → l.getD j 0 < L 2 * L 3) (hW : W < 5000) :
    wp (f_X12_fitting 310 (nI W) μ) (fun p => p.1 = nI (mvW L X ns l (fun m => rho l.length (dig (l.length + 1) W m))) ∧ RG q d ns L X l p.2 ∧ KP μ p.2 ∧ ∀ m, m < L 14 → p.2 314 m = posI l (rho l.length (dig (l.length + 1) W m))) := by
  have hB := hO.1
  have hb5 := hB.2.1.2.2.2.1
  have h16 := pl16 hB
  have hns := g.2.1.1
  have hdl : ∀ m, dig (l.length + 1) W m < l.length + 1 := fun m => dig_lt (by omega)
  have hf : ∀ m, m < L 14 → (fun m => rho l.length (dig (l.length + 1) W m)) m ≤ l.length := fun m _ => rho_le (by have := hdl m; omega)
  have hTk := stW_ok hO hp hf
  have hd0 := stW_drift (ax := 0) hB hp hf
  have hd1 := stW_drift (ax := 1) hB hp hf
  unfold f_X12_fitting
  refine wp_bdQ (beginsM g.1) fun μ1 ⟨b1, f1, _⟩ => ?_
  have g1 := g.mf2 f1
  refine wp_bdQ (Q := fun μ' => MC μ' (stW L l (fun m => rho l.length (dig (l.length + 1) W m)) (L 14)) ∧ MF2 μ μ') ?_ (fun μ2 ⟨b2, f2⟩ => ?_)
  · refine wlp0 (fun n m (s : Int32 × zM) => f_X12_fitting_L8 310 n s.1 (nI m) s.2) _ (L 14) (fun m s => s.1 = nI (W / (l.length + 1) ^ m) ∧ MC s.2 (stW L l (fun m => rho l.length (dig (l.length + 1) W m)) m) ∧ MF2 μ s.2) (by omega) (nI W, μ1) ⟨by rw [Nat.pow_zero, Nat.div_one], ?_, f1⟩ ?_ ?_
    · have e : stW L l (fun m => rho l.length (dig (l.length + 1) W m)) 0 = sbegin L L := funext fun k => stW_lo (by omega)
      rw [e]
      exact b1
    · intro n m ⟨y, μ2⟩ hm ⟨i1, i2, i3⟩ ih
      have i1 : y = nI (W / (l.length + 1) ^ m) := i1
      have i2 : MC μ2 (stW L l (fun m => rho l.length (dig (l.length + 1) W m)) m) := i2
      have i3 : MF2 μ μ2 := i3
      have g2 := g.mf2 i3
      have ec : μ2 310 33 = nI l.length := g2.2.2.1
      have dl : W / (l.length + 1) ^ m ≤ W := Nat.div_le_self _ _
      have er : y % nI (l.length + 1) = nI (dig (l.length + 1) W m) := by
        rw [i1]
        exact nI_rem (by omega) (by omega) (by omega)
      have ed : y / nI (l.length + 1) = nI (W / (l.length + 1) ^ (m + 1)) := by
        rw [i1, pk_div (by omega) (by omega) (by omega), Nat.div_div_eq_div_mul, ← Nat.pow_succ]
      have dm := hdl m
      show wp (f_X12_fitting_L8 310 (n + 1) y (nI m) μ2) _
      rw [f_X12_fitting_L8, ec, nI_1, er, nI_clamp (n := m) (by omega), nI_clamp (n := dig (l.length + 1) W m) (by omega)]
      refine wp_bdE (mournersM g2.1) (wp_ie (nI_ge hm (by omega)) (wp_g (znz_nI (by omega) (by omega)) (wp_bdQ (Q := fun x => x = posI l (rho l.length (dig (l.length + 1) W m))) ?_ (fun x hx => ?_))))
      · by_cases c : dig (l.length + 1) W m = l.length
        · have ep : posI l (rho l.length (dig (l.length + 1) W m)) = -1 := by
            unfold posI rho
            rw [if_pos c, if_pos rfl]
          rw [ep]
          exact wp_ie (fun w => w (by rw [c])) (wp_some rfl)
        · have ep : posI l (rho l.length (dig (l.length + 1) W m)) = nI (l.getD (dig (l.length + 1) W m) 0) := by
            unfold posI rho
            rw [if_neg c, if_neg (Nat.succ_ne_zero _)]
            rfl
          have e322 : μ2 (310 + 12) (dig (l.length + 1) W m) = nI (l.getD (dig (l.length + 1) W m) 0) := g2.2.2.2 _ (by omega)
          rw [ep, e322]
          exact wp_it (fun w => c (by rw [← nI_clamp (n := dig (l.length + 1) W m) (by omega), w, nI_clamp (by omega)])) (wp_g (zin_nI (by omega) (by omega)) (wp_some rfl))
      · have m2 := i2.stand (m := m) (v := x) (by omega)
        rw [hx, stW_su (f := fun m => rho l.length (dig (l.length + 1) W m))] at m2
        have e33 : zup μ2 (310 + 4) m x 310 33 = nI l.length := by rw [zup_ne (by omega)]; exact ec
        refine wp_g (zin_nI (by omega) (by omega)) (wp_ls ?_)
        rw [e33, nI_1, nI_1, ed]
        refine wp_g (znz_nI (by omega) (by omega)) (wp_ls (wp_ls (ih (_, zup μ2 314 m x) ⟨rfl, ?_, i3.mf MF.stand⟩)))
        rw [hx]
        exact m2
    · intro n ⟨y, μ2⟩ ⟨i1, i2, i3⟩
      have i3 : MF2 μ μ2 := i3
      show wp (f_X12_fitting_L8 310 (n + 1) y (nI (L 14)) μ2) _
      rw [f_X12_fitting_L8]
      exact wp_bdE (mournersM (g.mf2 i3).1) (wp_it (nI_le (Nat.le_refl _) (by omega)) (wp_some ⟨i2, i3⟩))
  · have hmv : mvW L X ns l (fun m => rho l.length (dig (l.length + 1) W m)) = mt L X (sdrift L (stW L l (fun m => rho l.length (dig (l.length + 1) W m)) (L 14)) 0) (sdrift L (stW L l (fun m => rho l.length (dig (l.length + 1) W m)) (L 14)) 1) ns := by
      rw [hd0, hd1]
      rfl
    have hpos : ∀ m, m < L 14 → stW L l (fun m => rho l.length (dig (l.length + 1) W m)) (L 14) (20 + m) = posI l (rho l.length (dig (l.length + 1) W m)) := fun m hm => stW_in hm
    have hT0 : stW L l (fun m => rho l.length (dig (l.length + 1) W m)) (L 14) 0 = sbegin L L 0 := stW_lo (by omega)
    have hT1 : stW L l (fun m => rho l.length (dig (l.length + 1) W m)) (L 14) 1 = sbegin L L 1 := stW_lo (by omega)
    rw [hmv]
    generalize stW L l (fun m => rho l.length (dig (l.length + 1) W m)) (L 14) = T at hTk b2 hpos hT0 hT1 ⊢
    have hst : ∀ n m, m < 5 → sfls L T n (20 + m) = T (20 + m) := fun n m _ => sfls_st (by omega) (by omega) (by omega) n
    have hpt := sfls_pth hT0 hT1
    generalize hdx : sdrift L T 0 = dx at hpt ⊢
    generalize hdy : sdrift L T 1 = dy at hpt ⊢
    refine wp_bd2Q (Q := fun p => p.1 = nI (mt L X dx dy ns) ∧ MF2 μ p.2 ∧ ∀ m, m < 5 → p.2 314 m = T (20 + m)) ?_ (fun x μ3 ⟨e3, f3, s3⟩ => wp_some ⟨e3, g.mf2 f3, f3.kp, fun m hm => (s3 m (by omega)).trans (hpos m hm)⟩)
    refine wlp0 (fun n k (s : Int32 × Int32 × zM) => f_X12_fitting_L74 310 n s.1 s.2.1 s.2.2) _ (ns + 1) (fun k s => MF2 μ s.2.2 ∧ (∀ m, m < 5 → s.2.2 314 m = T (20 + m)) ∧ ((s.1 = nI k ∧ s.2.1 = 1 ∧ k ≤ ns ∧ mt L X dx dy k = k ∧ ∃ S, sE S (sfls L T k) ∧ MC s.2.2 S) ∨ (s.1 = nI (mt L X dx dy ns) ∧ s.2.1 = 0))) (by omega) (0, 1, μ2) ⟨f2, fun m hm => b2.2.1 m hm, Or.inl ⟨rfl, rfl, by omega, rfl, T, (fun _ _ _ => rfl), b2⟩⟩ ?_ ?_
    · intro n k ⟨y, z, μ3⟩ hk ⟨i1, i2, i3⟩ ih
      have i1 : MF2 μ μ3 := i1
      have i2 : ∀ m, m < 5 → μ3 314 m = T (20 + m) := i2
      have i3 : (y = nI k ∧ z = 1 ∧ k ≤ ns ∧ mt L X dx dy k = k ∧ ∃ S, sE S (sfls L T k) ∧ MC μ3 S) ∨ (y = nI (mt L X dx dy ns) ∧ z = 0) := i3
      have g3 := g.mf2 i1
      show wp (f_X12_fitting_L74 310 (n + 1) y z μ3) _
      rw [f_X12_fitting_L74]
      rcases i3 with ⟨rfl, rfl, k1, k2, S, s1, s2⟩ | ⟨rfl, rfl⟩
      · by_cases ck : k = ns
        · refine wp_bd (wp_ie (by decide) (wp_bdE (sightsM g3) (wp_it (nI_le (by omega) (by omega)) (wp_some (wp_ie (by decide) (wp_some ⟨?_, i1, i2⟩))))))
          show nI k = _
          rw [← ck, k2]
        · have hk' : k < ns := by omega
          have tk := sfls_ok hB hTk k
          obtain ⟨t5, t6, t7, tM, tz, tw, tP⟩ := tk.E s1
          refine wp_bd (wp_ie (by decide) (wp_bdE (sightsM g3) (wp_ie (nI_ge hk' (by omega)) (wp_some (wp_it rfl (wp_bdQ (hourM (lk := false) g3.1 hO s2 t5 tM tz tw tP) fun μ4 ⟨m4, f4⟩ => ?_))))))
          have f4' := i1.mf f4
          have g4 := g.mf2 f4'
          have s4 : sE (mhour L false S) (sfls L T (k + 1)) := sE_hour s1 tk.2.1 tk.2.2.1
          have st4 : ∀ m, m < 5 → μ4 314 m = T (20 + m) := fun m hm => by
            rw [m4.2.1 m hm, s4 (20 + m) (by omega) (by omega)]
            exact hst (k + 1) m hm
          have a0 : μ4 310 12 = pth L dx dy (k + 1) 0 := by
            rw [show μ4 310 12 = _ from m4.f 0 (by omega), s4 0 (by omega) (by omega)]
            exact (hpt (k + 1)).1
          have a1 : μ4 310 13 = pth L dx dy (k + 1) 1 := by
            rw [show μ4 310 13 = _ from m4.f 1 (by omega), s4 1 (by omega) (by omega)]
            exact (hpt (k + 1)).2
          have o0 := sightOfM (c := 0) g4 hk' (by omega)
          have o1 := sightOfM (c := 1) g4 hk' (by omega)
          have go : wp (f_X12_fitting_L74 310 n (nI (k + 1)) 1 μ4) (fun p => p.1 = nI (mt L X dx dy ns) ∧ MF2 μ p.2 ∧ ∀ m, m < 5 → p.2 314 m = T (20 + m)) ∨ ¬ (pth L dx dy (k + 1) 0 = nI (X k 0) ∧ pth L dx dy (k + 1) 1 = nI (X k 1)) := by
            by_cases c : pth L dx dy (k + 1) 0 = nI (X k 0) ∧ pth L dx dy (k + 1) 1 = nI (X k 1)
            · exact Or.inl (ih (nI (k + 1), 1, μ4) ⟨f4', st4, Or.inl ⟨rfl, rfl, by omega, mt_go k2 c.1 c.2, _, s4, m4⟩⟩)
            · exact Or.inr c
          have no : ¬ (pth L dx dy (k + 1) 0 = nI (X k 0) ∧ pth L dx dy (k + 1) 1 = nI (X k 1)) → wp (f_X12_fitting_L74 310 n (nI k + 0) 0 μ4) (fun p => p.1 = nI (mt L X dx dy ns) ∧ MF2 μ p.2 ∧ ∀ m, m < 5 → p.2 314 m = T (20 + m)) := fun c => by
            have e := mt_stop k2 c (ns - k - 1)
            rw [show k + 1 + (ns - k - 1) = ns by omega] at e
            refine ih (nI k + 0, 0, μ4) ⟨f4', st4, Or.inr ⟨?_, rfl⟩⟩
            show nI k + 0 = _
            rw [Int32.add_zero, e]
          refine wp_bdE o0 ?_
          rw [a0, a1]
          by_cases q0 : pth L dx dy (k + 1) 0 = nI (X k 0)
          · by_cases q1 : pth L dx dy (k + 1) 1 = nI (X k 1)
            · refine wp_bd (wp_bd (wp_ie (fun w => w q0) (wp_bdE o1 (wp_ie (fun w => w q1) (wp_some (wp_it rfl (wp_some (wp_ls (wp_ls ?_)))))))))
              rw [show (if (1 : Int32) = 0 then (0 : Int32) else 1) = 1 from if_neg (by decide), nI_1]
              rcases go with w | w
              · exact w
              · exact absurd ⟨q0, q1⟩ w
            · exact wp_bd (wp_bd (wp_ie (fun w => w q0) (wp_bdE o1 (wp_it q1 (wp_some (wp_ie (by decide) (wp_some (wp_ls (wp_ls (no (fun w => q1 w.2)))))))))))
          · exact wp_bd (wp_bd (wp_it q0 (wp_some (wp_ie (by decide) (wp_some (wp_ls (wp_ls (no (fun w => q0 w.1)))))))))
      · exact wp_bd (wp_it rfl (wp_some (wp_ie (by decide) (wp_some ⟨rfl, i1, i2⟩))))
    · intro n ⟨y, z, μ3⟩ ⟨i1, i2, i3⟩
      have i3 : (y = nI (ns + 1) ∧ z = 1 ∧ ns + 1 ≤ ns ∧ mt L X dx dy (ns + 1) = ns + 1 ∧ ∃ S, sE S (sfls L T (ns + 1)) ∧ MC μ3 S) ∨ (y = nI (mt L X dx dy ns) ∧ z = 0) := i3
      show wp (f_X12_fitting_L74 310 (n + 1) y z μ3) _
      rw [f_X12_fitting_L74]
      rcases i3 with ⟨_, _, k1, _⟩ | ⟨rfl, rfl⟩
      · omega
      · exact wp_bd (wp_it rfl (wp_some (wp_ie (by decide) (wp_some ⟨rfl, i1, i2⟩))))
theorem allWaysM (g : RG q d ns L X l μ) (hB : LB L) (hl : l.length ≤ 4) : f_X12_allWays 310 μ = some (nI ((l.length + 1) ^ L 14)) := by
  have hb5 := hB.2.1.2.2.2.1
  have ec : μ 310 33 = nI l.length := g.2.2.1
  refine wp_eq ?_
  unfold f_X12_allWays
  refine wp_bdQ (Q := fun x => x = nI ((l.length + 1) ^ L 14)) ?_ (fun x hx => wp_some hx)
  refine wlp0 (fun n m x => f_X12_allWays_L4 310 μ n x (nI m)) _ (L 14) (fun m x => x = nI ((l.length + 1) ^ m)) (by omega) 1 rfl ?_ ?_
  · intro n m x hm hx ih
    show wp (f_X12_allWays_L4 310 μ (n + 1) x (nI m)) _
    rw [f_X12_allWays_L4, ec, nI_1, nI_1, hx, pk_mul, ← Nat.pow_succ]
    exact wp_bdE (mournersM g.1) (wp_ie (nI_ge hm (by omega)) (wp_ls (wp_ls (ih _ rfl))))
  · intro n x hx
    show wp (f_X12_allWays_L4 310 μ (n + 1) x (nI (L 14))) _
    rw [f_X12_allWays_L4]
    exact wp_bdE (mournersM g.1) (wp_it (nI_le (Nat.le_refl _) (by omega)) (wp_some hx))
theorem aboardM {f : Nat → Nat} (g : RG q d ns L X l μ) (hB : LB L) (hv : ∀ j, j < l.length → l.getD j 0 < 16) (hf : ∀ m, m < L 14 → f m ≤ l.length) (h : ∀ m, m < L 14 → μ 314 m = posI l (f m)) : f_X12_aboard 310 μ = some (nI (sps f (L 14))) := by
  have hb5 := hB.2.1.2.2.2.1
  refine wp_eq ?_
  unfold f_X12_aboard
  refine wp_bdQ (Q := fun x => x = nI (sps f (L 14))) ?_ (fun x hx => wp_some hx)
  refine wlp0 (fun n m x => f_X12_aboard_L4 310 μ n x (nI m)) _ (L 14) (fun m x => x = nI (sps f m)) (by omega) 0 rfl ?_ ?_
  · intro n m x hm hx ih
    have e314 : μ (310 + 4) m = posI l (f m) := h m hm
    show wp (f_X12_aboard_L4 310 μ (n + 1) x (nI m)) _
    rw [f_X12_aboard_L4, nI_1, one_shl (by omega), nI_clamp (by omega), e314]
    refine wp_bdE (mournersM g.1) (wp_ie (nI_ge hm (by omega)) (wp_g (zin_nI (by omega) (by omega)) (wp_ls (wp_ls (wp_ls (ih _ ?_))))))
    show x ||| _ = nI (if f m = 0 then sps f m else sps f m ||| 2 ^ m)
    unfold posI
    by_cases c : f m = 0
    · rw [if_pos c, if_pos rfl, if_pos c, hx]
      show nI _ ||| nI 0 = _
      rw [nI_or, Nat.or_zero]
    · have := hv (f m - 1) (by have := hf m hm; omega)
      rw [if_neg c, if_neg (nI_nm1 (by omega)), if_neg c, hx, nI_or]
  · intro n x hx
    show wp (f_X12_aboard_L4 310 μ (n + 1) x (nI (L 14))) _
    rw [f_X12_aboard_L4]
    exact wp_bdE (mournersM g.1) (wp_it (nI_le (Nat.le_refl _) (by omega)) (wp_some hx))
/-- the reference's list of ways -/
def gR (n : Nat) (w m : Nat) : Nat := rho n (dig (n + 1) w m)
theorem gR_le {n w m : Nat} : gR n w m ≤ n := rho_le (by have := dig_lt (c := n + 1) (w := w) (m := m) (by omega); omega)
theorem stoodM {v3 : Int32} (g : RG q d ns L X l μ) (hO : LOk L) (hl : l.length ≤ 4) (hp : ∀ j, j < l.length → l.getD j 0 < L 2 * L 3) :
    wp (f_X12_stood_L43 310 v3 zFU 0 (nI (2 ^ L 14 - 1)) (-1) 0 0 μ) (fun p => p.1 = sm ((l.length + 1) ^ L 14) (fun w => if fitW L X ns l (gR l.length w) = true then 1 else 0) ∧ p.2.1 = nI (abW (fitW L X ns l) (L 14) (gR l.length) ((l.length + 1) ^ L 14)) ∧ p.2.2.1 = fwI (fwW (fitW L X ns l) (L 14) (gR l.length) ((l.length + 1) ^ L 14)) ∧ p.2.2.2.1 = nI (mxW (mvW L X ns l) (gR l.length) ((l.length + 1) ^ L 14)) ∧ KP μ p.2.2.2.2) := by
  have hB := hO.1
  have hb5 := hB.2.1.2.2.2.1
  have h16 := pl16 hB
  have hns := g.2.1.1
  have hA : (l.length + 1) ^ L 14 ≤ 3125 := pow_small (by omega) hb5
  refine wlp0 (fun n w (s : Int32 × Int32 × Int32 × Int32 × zM) => f_X12_stood_L43 310 v3 n s.1 s.2.1 s.2.2.1 s.2.2.2.1 (nI w) s.2.2.2.2) _ ((l.length + 1) ^ L 14) (fun W s => (s.1 = sm W (fun w => if fitW L X ns l (gR l.length w) = true then 1 else 0) ∧ s.2.1 = nI (abW (fitW L X ns l) (L 14) (gR l.length) W) ∧ s.2.2.1 = fwI (fwW (fitW L X ns l) (L 14) (gR l.length) W) ∧ s.2.2.2.1 = nI (mxW (mvW L X ns l) (gR l.length) W) ∧ KP μ s.2.2.2.2) ∧ RG q d ns L X l s.2.2.2.2) (by omega) (0, nI (2 ^ L 14 - 1), -1, 0, μ) ⟨⟨rfl, rfl, rfl, rfl, KP.rf μ⟩, g⟩ ?_ ?_
  · intro n W ⟨y8, y9, y10, y11, μ1⟩ hW ⟨⟨i1, i2, i3, i4, i5⟩, i6⟩ ih
    have i1 : y8 = sm W (fun w => if fitW L X ns l (gR l.length w) = true then 1 else 0) := i1
    have i2 : y9 = nI (abW (fitW L X ns l) (L 14) (gR l.length) W) := i2
    have i3 : y10 = fwI (fwW (fitW L X ns l) (L 14) (gR l.length) W) := i3
    have i4 : y11 = nI (mxW (mvW L X ns l) (gR l.length) W) := i4
    have i5 : KP μ μ1 := i5
    have i6 : RG q d ns L X l μ1 := i6
    show wp (f_X12_stood_L43 310 v3 (n + 1) y8 y9 y10 y11 (nI W) μ1) _
    rw [f_X12_stood_L43, nI_1]
    refine wp_bdE (allWaysM i6 hB hl) (wp_ie (nI_ge hW (by omega)) (wp_bd2Q (fittingM i6 hO hl hp (by omega)) fun r μ2 ⟨e2, g2, k2, p2⟩ => ?_))
    have e2 : r = nI (mvW L X ns l (gR l.length W)) := e2
    have g2 : RG q d ns L X l μ2 := g2
    have k2 : KP μ1 μ2 := k2
    have p2 : ∀ m, m < L 14 → μ2 314 m = posI l (gR l.length W m) := p2
    have mvl : mvW L X ns l (gR l.length W) ≤ ns := mt_le ns
    have mxl : mxW (mvW L X ns l) (gR l.length) W ≤ ns := by
      rcases mxW_at (mvW L X ns l) (gR l.length) W with e | ⟨w', _, e⟩
      · omega
      · rw [← e]
        exact mt_le ns
    have em : (if r ≤ y11 then y11 else r) = nI (mxW (mvW L X ns l) (gR l.length) (W + 1)) := by
      rw [e2, i4]
      show _ = nI (if mxW (mvW L X ns l) (gR l.length) W < mvW L X ns l (gR l.length W) then _ else _)
      by_cases c : mxW (mvW L X ns l) (gR l.length) W < mvW L X ns l (gR l.length W)
      · rw [if_pos c, if_neg (nI_ge c (by omega))]
      · rw [if_neg c, if_pos (nI_le (by omega) (by omega))]
    have eb := aboardM (f := gR l.length W) g2 hB (fun j hj => by have := hp j hj; omega) (fun m _ => gR_le) p2
    have sl : sps (gR l.length W) (L 14) < 32 := by
      have h1 := sps_lt (gR l.length W) (L 14)
      have h2 : 2 ^ L 14 ≤ 2 ^ 5 := Nat.pow_le_pow_right (by omega) hb5
      omega
    have pl := pc_le _ sl
    have fl := fwW_le (fitW L X ns l) (L 14) (gR l.length) W
    rw [em]
    refine wp_ls (wp_bdE (sightsM g2) (wp_bd3Q (Q := fun p => p.1 = sm (W + 1) (fun w => if fitW L X ns l (gR l.length w) = true then 1 else 0) ∧ p.2.1 = nI (abW (fitW L X ns l) (L 14) (gR l.length) (W + 1)) ∧ p.2.2 = fwI (fwW (fitW L X ns l) (L 14) (gR l.length) (W + 1))) ?_ (fun x y z ⟨q1, q2, q3⟩ => wp_ls (ih (x, y, z, _, μ2) ⟨⟨q1, q2, q3, rfl, i5.tr k2⟩, g2⟩))))
    by_cases c : mvW L X ns l (gR l.length W) = ns
    · have fit : fitW L X ns l (gR l.length W) = true := decide_eq_true c
      refine wp_it (by rw [e2]; exact nI_le (by omega) (by omega)) (wp_ls (wp_bdE eb (wp_ls (wp_bdQ (Q := fun x => x = fwI (fwW (fitW L X ns l) (L 14) (gR l.length) (W + 1))) ?_ (fun x hx => wp_some ⟨?_, ?_, hx⟩)))))
      · have ef : fwW (fitW L X ns l) (L 14) (gR l.length) (W + 1) = (if pc (sps (gR l.length W) (L 14)) < fwW (fitW L X ns l) (L 14) (gR l.length) W then pc (sps (gR l.length W) (L 14)) else fwW (fitW L X ns l) (L 14) (gR l.length) W) := if_pos fit
        rw [ef, i3]
        generalize fwW (fitW L X ns l) (L 14) (gR l.length) W = a at fl ⊢
        by_cases ca : a = 6
        · rw [ca]
          refine wp_bd (wp_it ((fwI_ne (by omega)).mpr rfl) (wp_some (wp_ie (by decide) (wp_bdE eb (wp_bdE (bitsM (by omega)) (wp_some ?_))))))
          rw [if_pos (by omega)]
          exact (if_neg (by omega)).symm
        · refine wp_bd (wp_ie (fun w => ca ((fwI_ne fl).mp w)) (wp_bdE eb (wp_bdE (bitsM (by omega)) ?_)))
          rw [show fwI a = nI a from if_neg ca]
          by_cases cb : pc (sps (gR l.length W) (L 14)) < a
          · refine wp_ie (nI_ge cb (by omega)) (wp_some (wp_ie (by decide) (wp_bdE eb (wp_bdE (bitsM (by omega)) (wp_some ?_)))))
            rw [if_pos cb]
            exact (if_neg (by omega)).symm
          · refine wp_it (nI_le (by omega) (by omega)) (wp_some (wp_it rfl (wp_some ?_)))
            rw [if_neg cb]
            exact (if_neg ca).symm
      · show y8 + 1 = sm W _ + (if fitW L X ns l (gR l.length W) = true then 1 else 0)
        rw [if_pos fit, i1]
      · show y9 &&& _ = nI (if fitW L X ns l (gR l.length W) = true then _ else _)
        rw [if_pos fit, i2, nI_and]
    · have nofit : ¬ fitW L X ns l (gR l.length W) = true := fun w => c (of_decide_eq_true w)
      refine wp_ie (by rw [e2]; exact nI_ge (by omega) (by omega)) (wp_some ⟨?_, ?_, ?_⟩)
      · show y8 = sm W _ + (if fitW L X ns l (gR l.length W) = true then 1 else 0)
        rw [if_neg nofit, i1, Int32.add_zero]
      · show y9 = nI (if fitW L X ns l (gR l.length W) = true then _ else _)
        rw [if_neg nofit]
        exact i2
      · show y10 = fwI (if fitW L X ns l (gR l.length W) = true then _ else _)
        rw [if_neg nofit]
        exact i3
  · intro n ⟨y8, y9, y10, y11, μ1⟩ ⟨i1, i6⟩
    have i6 : RG q d ns L X l μ1 := i6
    show wp (f_X12_stood_L43 310 v3 (n + 1) y8 y9 y10 y11 (nI ((l.length + 1) ^ L 14)) μ1) _
    rw [f_X12_stood_L43]
    exact wp_bdE (allWaysM i6 hB hl) (wp_it (nI_le (Nat.le_refl _) (by omega)) (wp_some i1))
theorem cornerM {m t : Nat} {v4 : Int32} (g : RG q d ns L X l μ) (hO : LOk L) (hl : l.length ≤ 4) (hp : ∀ j, j < l.length → l.getD j 0 < L 2 * L 3) (hm : m < L 14) (ht : ∀ d, d ≤ l.length → (posI l d = v4 ↔ d = t)) :
    wp (f_X12_corner_L87 310 (nI m) v4 zFU 0 0 μ) (fun p => p.1 = sm ((l.length + 1) ^ L 14) (fun w => if fitW L X ns l (gR l.length w) = true ∧ gR l.length w m = t then 1 else 0) ∧ KP μ p.2) := by
  have hB := hO.1
  have hb5 := hB.2.1.2.2.2.1
  have hns := g.2.1.1
  have hA : (l.length + 1) ^ L 14 ≤ 3125 := pow_small (by omega) hb5
  refine wlp0 (fun n w (s : Int32 × zM) => f_X12_corner_L87 310 (nI m) v4 n s.1 (nI w) s.2) _ ((l.length + 1) ^ L 14) (fun W s => (s.1 = sm W (fun w => if fitW L X ns l (gR l.length w) = true ∧ gR l.length w m = t then 1 else 0) ∧ KP μ s.2) ∧ RG q d ns L X l s.2) (by omega) (0, μ) ⟨⟨rfl, KP.rf μ⟩, g⟩ ?_ ?_
  · intro n W ⟨y, μ1⟩ hW ⟨⟨i1, i5⟩, i6⟩ ih
    have i1 : y = sm W (fun w => if fitW L X ns l (gR l.length w) = true ∧ gR l.length w m = t then 1 else 0) := i1
    have i5 : KP μ μ1 := i5
    have i6 : RG q d ns L X l μ1 := i6
    show wp (f_X12_corner_L87 310 (nI m) v4 (n + 1) y (nI W) μ1) _
    rw [f_X12_corner_L87, nI_1]
    refine wp_bdE (allWaysM i6 hB hl) (wp_ie (nI_ge hW (by omega)) (wp_bd2Q (fittingM i6 hO hl hp (by omega)) fun r μ2 ⟨e2, g2, k2, p2⟩ => ?_))
    have e2 : r = nI (mvW L X ns l (gR l.length W)) := e2
    have g2 : RG q d ns L X l μ2 := g2
    have k2 : KP μ1 μ2 := k2
    have p2 : ∀ m, m < L 14 → μ2 314 m = posI l (gR l.length W m) := p2
    have mvl : mvW L X ns l (gR l.length W) ≤ ns := mt_le ns
    have e314 : μ2 (310 + 4) m = posI l (gR l.length W m) := p2 m hm
    have ht' := ht (gR l.length W m) gR_le
    rw [nI_clamp (by omega), e314]
    refine wp_bdE (sightsM g2) (wp_bdQ (Q := fun x => x = (if fitW L X ns l (gR l.length W) = true ∧ gR l.length W m = t then 1 else 0)) ?_ (fun x hx => wp_ls (wp_ls (ih (y + x, μ2) ⟨⟨by show y + x = sm W _ + _; rw [i1, hx], i5.tr k2⟩, g2⟩))))
    by_cases c : mvW L X ns l (gR l.length W) = ns
    · have fit : fitW L X ns l (gR l.length W) = true := decide_eq_true c
      refine wp_bd (wp_ie (fun w => w (by rw [e2, c])) (wp_g (zin_nI (by omega) (by omega)) ?_))
      by_cases e : gR l.length W m = t
      · rw [if_pos (show fitW L X ns l (gR l.length W) = true ∧ gR l.length W m = t from ⟨fit, e⟩)]
        exact wp_ie (fun w => w (ht'.mpr e)) (wp_some (wp_it rfl (wp_some rfl)))
      · rw [if_neg (show ¬ (fitW L X ns l (gR l.length W) = true ∧ gR l.length W m = t) from fun w => e w.2)]
        exact wp_it (fun w => e (ht'.mp w)) (wp_some (wp_ie (by decide) (wp_some rfl)))
    · have nofit : ¬ fitW L X ns l (gR l.length W) = true := fun w => c (of_decide_eq_true w)
      rw [if_neg (show ¬ (fitW L X ns l (gR l.length W) = true ∧ gR l.length W m = t) from fun w => nofit w.1)]
      refine wp_bd (wp_it (fun w => c ?_) (wp_some (wp_ie (by decide) (wp_some rfl))))
      rw [e2] at w
      rw [← nI_clamp (n := mvW L X ns l (gR l.length W)) (by omega), w, nI_clamp (by omega)]
  · intro n ⟨y, μ1⟩ ⟨i1, i6⟩
    have i6 : RG q d ns L X l μ1 := i6
    show wp (f_X12_corner_L87 310 (nI m) v4 (n + 1) y (nI ((l.length + 1) ^ L 14)) μ1) _
    rw [f_X12_corner_L87]
    exact wp_bdE (allWaysM i6 hB hl) (wp_it (nI_le (Nat.le_refl _) (by omega)) (wp_some i1))
theorem corner35 {v3 v4 x : Int32} (H : HL 322 310 33 l μ) (hl : l.length ≤ 4) (hx : x = if ¬ v4 = -1 then 0 else 1) : wp (f_X12_corner_L35 310 v3 v4 μ zFU x 0) (fun r => (¬ r = 0) ↔ (v4 = -1 ∨ ∃ j, j < l.length ∧ v4 = nI (l.getD j 0))) := by
  have ec : μ 310 33 = nI l.length := H.1
  refine wlp0 (fun n j x => f_X12_corner_L35 310 v3 v4 μ n x (nI j)) _ l.length (fun j x => (x = 0 ∧ ¬ v4 = -1 ∧ ∀ i, i < j → ¬ v4 = nI (l.getD i 0)) ∨ (x = 1 ∧ (v4 = -1 ∨ ∃ j, j < l.length ∧ v4 = nI (l.getD j 0)))) (by omega) x ?_ ?_ ?_
  · by_cases c : v4 = -1
    · rw [if_neg (fun w => w c)] at hx
      exact Or.inr ⟨hx, Or.inl c⟩
    · rw [if_pos c] at hx
      exact Or.inl ⟨hx, c, fun i hi => by omega⟩
  · intro n j x hj hI ih
    have ev : μ (310 + 12) j = nI (l.getD j 0) := H.2 j hj
    show wp (f_X12_corner_L35 310 v3 v4 μ (n + 1) x (nI j)) _
    rw [f_X12_corner_L35, ec, nI_1, nI_clamp (by omega), ev]
    refine wp_ie (nI_ge hj (by omega)) ?_
    rcases hI with ⟨rfl, h1, h2⟩ | ⟨rfl, h2⟩
    · refine wp_bd (wp_bd (wp_ie (fun w => w rfl) (wp_g (zin_nI (by omega) (by omega)) ?_)))
      by_cases c : nI (l.getD j 0) = v4
      · exact wp_ie (fun w => w c) (wp_some (wp_ie (by decide) (wp_some (wp_ls (ih 1 (Or.inr ⟨rfl, Or.inr ⟨j, hj, c.symm⟩⟩))))))
      · refine wp_it c (wp_some (wp_it rfl (wp_some (wp_ls (ih 0 (Or.inl ⟨rfl, h1, fun i hi => ?_⟩))))))
        by_cases e : i = j
        · rw [e]
          exact fun w => c w.symm
        · exact h2 i (by omega)
    · exact wp_bd (wp_bd (wp_it (by decide) (wp_some (wp_ie (by decide) (wp_some (wp_ls (ih 1 (Or.inr ⟨rfl, h2⟩))))))))
  · intro n x hI
    show wp (f_X12_corner_L35 310 v3 v4 μ (n + 1) x (nI l.length)) _
    rw [f_X12_corner_L35, ec]
    refine wp_it (nI_le (Nat.le_refl _) (by omega)) (wp_some ?_)
    rcases hI with ⟨rfl, h1, h2⟩ | ⟨rfl, h2⟩
    · refine ⟨fun w => absurd rfl w, fun w => ?_⟩
      rcases w with w | ⟨j, hj, w⟩
      · exact absurd w h1
      · exact absurd w (h2 j hj)
    · exact ⟨fun _ => h2, fun _ => by decide⟩
end STM
theorem fit_sum {L : Nat → Nat} {X : Nat → Nat → Nat} {ns : Nat} (l : List Nat) : sm ((l.length + 1) ^ L 14) (fun w => if fitW L X ns l (gR l.length w) = true then 1 else 0) = sm ((l.length + 1) ^ L 14) (fun w => if fitW L X ns l (dig (l.length + 1) w) = true then 1 else 0) :=
  perm_sum (n := l.length) (L 14) (fun f => if fitW L X ns l f = true then 1 else 0) (fun f g h => by
    show (if fitW L X ns l f = true then _ else _) = if fitW L X ns l g = true then _ else _
    rw [fitW_congr h])
theorem fit_sum2 {L : Nat → Nat} {X : Nat → Nat → Nat} {ns m t : Nat} (hm : m < L 14) (l : List Nat) : sm ((l.length + 1) ^ L 14) (fun w => if fitW L X ns l (gR l.length w) = true ∧ gR l.length w m = t then 1 else 0) = sm ((l.length + 1) ^ L 14) (fun w => if fitW L X ns l (dig (l.length + 1) w) = true ∧ dig (l.length + 1) w m = t then 1 else 0) :=
  perm_sum (n := l.length) (L 14) (fun f => if fitW L X ns l f = true ∧ f m = t then 1 else 0) (fun f g h => by
    show (if fitW L X ns l f = true ∧ f m = t then _ else _) = if fitW L X ns l g = true ∧ g m = t then _ else _
    rw [fitW_congr h, h m hm])
theorem isOf_isMo {L : Nat → Nat} {v : Int32} (h5 : L 14 ≤ 5) : isMo L v = true → ∃ m, m < L 14 ∧ v = nI m := by
  intro h
  unfold isMo at h
  rw [Bool.and_eq_true, decide_eq_true_eq, decide_eq_true_eq] at h
  obtain ⟨m, m1, rfl⟩ := nI_of (Int32.not_lt.mpr h.1)
  exact ⟨m, (nI_ltI m1 (by omega)).mp h.2, rfl⟩
section SAMES
theorem night_sg {μ : zM} {kd n : Nat} {D : Nat → Nat → Nat} (hkd : kd < 2) (h : NightR (44 + 2 * kd) (1070 + 17 * kd) μ n D) : SgC (44 + 2 * kd) n D μ := by
  refine ⟨h.1, by omega, ?_, h.2.1, fun j hj c hc => h.2.2.1 j hj c hc⟩
  rw [show 44 + 2 * kd + 1 = 45 + 2 * kd by omega]
  exact (zlnP kd hkd).1
theorem stood_same (v1 v2 v3 : Int32) : Same (f_X11_stood 0 v1 v2 v3) (f_X12_stood 310 v1 v2 v3) := by
  refine Same.of fun μ hI => ?_
  unfold f_X11_stood
  rcases lake_cases hI v1 with ⟨k, L, hk, hL, e1, e2⟩ | ⟨e1, e2⟩
  · have z1 : zgn (6 + 15 * k) 1 = true := by unfold zgn; rw [zlk_kd k hk]; rfl
    have hB := hL.1.1
    have h2 := hB.1.2.2.1
    have h3 := hB.1.2.2.2.1
    have hb5 := hB.2.1.2.2.2.1
    have hl := crs_len (L 2) (by omega) (L 3) (by omega) (by omega) (by omega)
    have hp : ∀ j, j < (crs (L 2) (L 3)).length → (crs (L 2) (L 3)).getD j 0 < L 2 * L 3 := fun j hj => crs_lt (by omega) (by omega) (by omega) ⟨by omega, by omega, hj⟩
    have l0 : ∀ μ' : zM, μ' 311 = μ 311 → LM (610 + 109 * k) (zup μ' 310 10 (nI (610 + 109 * k))) L := fun μ' h311 => ⟨by omega, zup_self _ _ _ _, fun i hi => by rw [zup_ne (by omega), h311]; exact hL.2.2 i hi⟩
    rcases night_cases hI v2 with ⟨kd, n, D, hkd, hv, hD, e3, e4⟩ | ⟨e3, e4⟩
    · have z6 : zgn (44 + 2 * kd) 6 = true := zgnP (k := 4 + kd) (by omega) (by omega)
      refine wp_bdE e1 (wp_bdE e3 (wp_bd (wp_cs (wp_g z1 (wp_cs (wp_g z6 ?_))))))
      have seen : ∀ μ' : zM, μ' 311 = μ 311 → wp (f_X12_areSeen 310 v1 v2 μ') (fun p => p.1 = 1 ∧ RG (610 + 109 * k) (1070 + 17 * kd) n L D (crs (L 2) (L 3)) p.2 ∧ KP μ' p.2) := fun μ' h311 =>
        seenM hB hv hkd hD.1 (e2 μ' h311) (e4 _ ((zup_rne _ _ _ (by omega)).trans h311)) (l0 μ' h311) (by rw [h311]; exact hD.2.2.2.1) (fun j hj c hc => by rw [h311]; exact hD.2.2.2.2.1 j hj c hc)
      by_cases c : (¬ (v3 < 0)) ∧ (v3 ≤ (3 : Int32))
      · refine wp_it c (wp_bdQ (lookC hL.2.1 hL.1 (by omega) (night_sg hkd hD)) fun μ4 ⟨k4, _, a0, a1, a2, a3, _⟩ => ?_)
        have ref : ∀ P : Int32 × zM → Prop, (∀ μ5, KP μ4 μ5 → P ((if ¬ v3 = 0 then if ¬ v3 = 1 then if ¬ v3 = 2 then μ4 106 3 else μ4 106 2 else μ4 106 1 else μ4 106 0), μ5)) → wp (f_X12_stood 310 v1 v2 v3 μ4) P := fun P hP => by
          unfold f_X12_stood
          refine wp_bd2Q (seen μ4 (k4 311 (by omega))) fun r μ5 ⟨er, g5, k5⟩ => ?_
          have er : r = 1 := er
          have g5 : RG (610 + 109 * k) (1070 + 17 * kd) n L D (crs (L 2) (L 3)) μ5 := g5
          have k5 : KP μ4 μ5 := k5
          rw [er]
          refine wp_it ⟨by decide, inY.mpr ⟨c.1, Int32.not_lt.mpr c.2⟩⟩ (wp_bdE (mournersM g5.1) (wp_ls ?_))
          rw [one_shl (by omega), show nI (2 ^ L 14) - 1 = nI (2 ^ L 14 - 1) from pk_sub1 (Nat.pow_pos (by omega))]
          refine wp_bd5Q (stoodM g5 hL.1 hl.2 hp) fun x42 x43 x44 x45 μ6 ⟨b0, b1, b2, b3, k6⟩ => wp_ls (wp_some ?_)
          have b0 : x42 = μ4 106 0 := (Eq.trans b0 (fit_sum _)).trans a0.symm
          have cg : ∀ f f', (∀ m, m < L 14 → f m = f' m) → fitW L D n (crs (L 2) (L 3)) f = fitW L D n (crs (L 2) (L 3)) f' := fun f f' h => fitW_congr h
          have cm : ∀ f f', (∀ m, m < L 14 → f m = f' m) → mvW L D n (crs (L 2) (L 3)) f = mvW L D n (crs (L 2) (L 3)) f' := fun f f' h => mvW_congr h
          have r1 : Rg (L 14) (aW L) (dig ((crs (L 2) (L 3)).length + 1)) (gR (crs (L 2) (L 3)).length) := Rg_1
          have r2 : Rg (L 14) (aW L) (gR (crs (L 2) (L 3)).length) (dig ((crs (L 2) (L 3)).length + 1)) := Rg_2
          have eab : abW (fitW L D n (crs (L 2) (L 3))) (L 14) (gR (crs (L 2) (L 3)).length) (aW L) = abW (fitW L D n (crs (L 2) (L 3))) (L 14) (dig ((crs (L 2) (L 3)).length + 1)) (aW L) := abW_eq cg r2 r1
          have efw : fwW (fitW L D n (crs (L 2) (L 3))) (L 14) (gR (crs (L 2) (L 3)).length) (aW L) = fwW (fitW L D n (crs (L 2) (L 3))) (L 14) (dig ((crs (L 2) (L 3)).length + 1)) (aW L) := Nat.le_antisymm (fwW_le2 cg r1) (fwW_le2 cg r2)
          have emx : mxW (mvW L D n (crs (L 2) (L 3))) (gR (crs (L 2) (L 3)).length) (aW L) = mxW (mvW L D n (crs (L 2) (L 3))) (dig ((crs (L 2) (L 3)).length + 1)) (aW L) := Nat.le_antisymm (mxW_le2 cm r2) (mxW_le2 cm r1)
          have b1 : x43 = nI (abW (fitW L D n (crs (L 2) (L 3))) (L 14) (dig ((crs (L 2) (L 3)).length + 1)) (aW L)) := by rw [← eab]; exact b1
          have b2 : x44 = μ4 106 2 := by rw [a2, ← efw]; exact b2
          have b3 : x45 = μ4 106 3 := by rw [a3, ← emx]; exact b3
          have e43 : (if ¬ x42 = 0 then x43 else 0) = μ4 106 1 := by rw [a1, b0, b1]
          rw [e43, b0, b2, b3]
          exact hP μ6 (k5.tr k6)
        by_cases c0 : v3 = 0
        · refine wp_it c0 (wp_some (wp_suml (wp_some ⟨k4, ref _ fun μ5 k5 => ⟨?_, k5⟩⟩)))
          exact if_neg (fun w => w c0)
        · refine wp_ie c0 ?_
          by_cases c1 : v3 = 1
          · refine wp_it c1 (wp_some (wp_suml (wp_some ⟨k4, ref _ fun μ5 k5 => ⟨?_, k5⟩⟩)))
            show (if ¬ v3 = 0 then _ else _) = _
            rw [if_pos c0, if_neg (fun w => w c1)]
          · refine wp_ie c1 ?_
            by_cases c2 : v3 = 2
            · refine wp_it c2 (wp_some (wp_suml (wp_some ⟨k4, ref _ fun μ5 k5 => ⟨?_, k5⟩⟩)))
              show (if ¬ v3 = 0 then _ else _) = _
              rw [if_pos c0, if_pos c1, if_neg (fun w => w c2)]
            · refine wp_ie c2 (wp_some (wp_suml (wp_some ⟨k4, ref _ fun μ5 k5 => ⟨?_, k5⟩⟩)))
              show (if ¬ v3 = 0 then _ else _) = _
              rw [if_pos c0, if_pos c1, if_pos c2]
      · refine wp_ie c (wp_some (wp_sumr (wp_some ⟨KP.rf μ, ?_⟩)))
        unfold f_X12_stood
        refine wp_bd2Q (seen μ rfl) fun r μ5 ⟨er, g5, k5⟩ => wp_ie (fun w => c ?_) (wp_some ⟨rfl, k5⟩)
        exact ⟨(inY.mp w.2).1, Int32.not_lt.mp (inY.mp w.2).2⟩
    · refine wp_bdE e1 (wp_bdE e3 (wp_bd (wp_cs (wp_g z1 (wp_cn (wp_some (wp_sumr (wp_some ⟨KP.rf μ, ?_⟩))))))))
      unfold f_X12_stood f_X12_areSeen
      have k2 : KP μ (zup μ 310 10 (nI (610 + 109 * k))) := zup310.kp
      refine wp_bd2 (wp_bd2 (wp_of (e2 μ rfl) (wp_bd (wp_ie i10 (wp_bdE (e4 (zup μ 310 10 (nI (610 + 109 * k))) (zup_rne _ _ _ (by omega))) (wp_ie (by decide) (wp_some (wp_ie (by decide) (wp_some (wp_ie (fun w => w.1 rfl) (wp_some ⟨rfl, k2⟩)))))))))))
  · have e3 : ∃ r, f_X8_pageAt 1 2 v2 μ = some r := by
      rcases night_cases hI v2 with ⟨kd, n, D, hkd, hv, hD, e3, e4⟩ | ⟨e3, e4⟩
      · exact ⟨_, e3⟩
      · exact ⟨_, e3⟩
    obtain ⟨r, e3⟩ := e3
    refine wp_bdE e1 (wp_bdE e3 (wp_bd (wp_cn (wp_some (wp_sumr (wp_some ⟨KP.rf μ, ?_⟩))))))
    unfold f_X12_stood f_X12_areSeen
    exact wp_bd2 (wp_bd2 (wp_of (e2 μ rfl) (wp_bd (wp_it rfl (wp_some (wp_ie (by decide) (wp_some (wp_ie (fun w => w.1 rfl) (wp_some ⟨rfl, KP.rf μ⟩)))))))))
theorem corner_same (v1 v2 v3 v4 : Int32) : Same (f_X11_corner 0 v1 v2 v3 v4) (f_X12_corner 310 v1 v2 v3 v4) := by
  refine Same.of fun μ hI => ?_
  unfold f_X11_corner
  rcases lake_cases hI v1 with ⟨k, L, hk, hL, e1, e2⟩ | ⟨e1, e2⟩
  · have z1 : zgn (6 + 15 * k) 1 = true := by unfold zgn; rw [zlk_kd k hk]; rfl
    have hB := hL.1.1
    have h2 := hB.1.2.2.1
    have h3 := hB.1.2.2.2.1
    have hb5 := hB.2.1.2.2.2.1
    have h16 := pl16 hB
    have hl := crs_len (L 2) (by omega) (L 3) (by omega) (by omega) (by omega)
    have hp : ∀ j, j < (crs (L 2) (L 3)).length → (crs (L 2) (L 3)).getD j 0 < L 2 * L 3 := fun j hj => crs_lt (by omega) (by omega) (by omega) ⟨by omega, by omega, hj⟩
    have hinj : ∀ i j, i < (crs (L 2) (L 3)).length → j < (crs (L 2) (L 3)).length → (crs (L 2) (L 3)).getD i 0 = (crs (L 2) (L 3)).getD j 0 → i = j := fun i j hi hj e => crs_inj (w := L 2) (h := L 3) (by omega) (by omega) (by omega) (by omega) ⟨by omega, by omega, hi, hj, e⟩
    have l0 : ∀ μ' : zM, μ' 311 = μ 311 → LM (610 + 109 * k) (zup μ' 310 10 (nI (610 + 109 * k))) L := fun μ' h311 => ⟨by omega, zup_self _ _ _ _, fun i hi => by rw [zup_ne (by omega), h311]; exact hL.2.2 i hi⟩
    have has : f_X6_has (6 + 15 * k + 8) v3 μ = b2i (isMo L v3) := hasMoC hL.2.1
    rcases night_cases hI v2 with ⟨kd, n, D, hkd, hv, hD, e3, e4⟩ | ⟨e3, e4⟩
    · have z6 : zgn (44 + 2 * kd) 6 = true := zgnP (k := 4 + kd) (by omega) (by omega)
      refine wp_bdE e1 (wp_bdE e3 (wp_bd (wp_cs (wp_g z1 (wp_cs (wp_g z6 ?_))))))
      rw [has]
      have seen : ∀ μ' : zM, μ' 311 = μ 311 → wp (f_X12_areSeen 310 v1 v2 μ') (fun p => p.1 = 1 ∧ RG (610 + 109 * k) (1070 + 17 * kd) n L D (crs (L 2) (L 3)) p.2 ∧ KP μ' p.2) := fun μ' h311 =>
        seenM hB hv hkd hD.1 (e2 μ' h311) (e4 _ ((zup_rne _ _ _ (by omega)).trans h311)) (l0 μ' h311) (by rw [h311]; exact hD.2.2.2.1) (fun j hj c hc => by rw [h311]; exact hD.2.2.2.2.1 j hj c hc)
      by_cases c : isMo L v3 = true
      · rw [c]
        obtain ⟨m, hm, rfl⟩ := isOf_isMo hb5 c
        refine wp_it (by decide) (wp_bdQ (lookC hL.2.1 hL.1 (by omega) (night_sg hkd hD)) fun μ4 ⟨k4, H4, _, _, _, _, a4⟩ => ?_)
        have ways := waysAtC (m := m) (N := L 14) (v4 := v4) (K := fun m j => sm (aW L) (fun w => if fitW L D n (crs (L 2) (L 3)) (dig ((crs (L 2) (L 3)).length + 1) w) = true ∧ dig ((crs (L 2) (L 3)).length + 1) w m = j then 1 else 0)) H4 hl.2 (by omega) (fun j hj => by have := hp j hj; omega) hinj (fun j hj => a4 m hm j hj)
        -- the reference, up to its choice
        have ref : ∀ (P : Int32 × zM → Prop) (a : Int32), ((∃ t, (∀ d, d ≤ (crs (L 2) (L 3)).length → (posI (crs (L 2) (L 3)) d = v4 ↔ d = t)) ∧ (v4 = -1 ∨ ∃ j, j < (crs (L 2) (L 3)).length ∧ v4 = nI ((crs (L 2) (L 3)).getD j 0)) ∧ a = sm (aW L) (fun w => if fitW L D n (crs (L 2) (L 3)) (dig ((crs (L 2) (L 3)).length + 1) w) = true ∧ dig ((crs (L 2) (L 3)).length + 1) w m = t then 1 else 0)) ∨ (¬ (v4 = -1 ∨ ∃ j, j < (crs (L 2) (L 3)).length ∧ v4 = nI ((crs (L 2) (L 3)).getD j 0)) ∧ a = -1)) → (∀ μ5, KP μ4 μ5 → P (a, μ5)) → wp (f_X12_corner 310 v1 v2 (nI m) v4 μ4) P := fun P a ha hP => by
          unfold f_X12_corner
          refine wp_bd2Q (seen μ4 (k4 311 (by omega))) fun r μ5 ⟨er, g5, k5⟩ => ?_
          have er : r = 1 := er
          have g5 : RG (610 + 109 * k) (1070 + 17 * kd) n L D (crs (L 2) (L 3)) μ5 := g5
          have k5 : KP μ4 μ5 := k5
          rw [er]
          refine wp_bd (wp_ie (by decide) (wp_bdE (isMournerM g5.1 hB) ?_))
          rw [c]
          refine wp_it (by decide) (wp_some (wp_it rfl (wp_l fun x14 hx14 => wp_bdQ (corner35 g5.2.2 hl.2 hx14) fun x hx => ?_)))
          rcases ha with ⟨t, t1, t2, rfl⟩ | ⟨t2, rfl⟩
          · refine wp_it (hx.mpr t2) (wp_bd2Q (cornerM g5 hL.1 hl.2 hp hm t1) fun y μ6 ⟨e6, k6⟩ => wp_some ?_)
            have e6 : y = _ := e6
            rw [e6, fit_sum2 hm]
            exact hP μ6 (k5.tr k6)
          · exact wp_ie (fun w => t2 (hx.mp w)) (wp_some (hP μ5 k5))
        by_cases c1 : v4 = -1
        · refine wp_bdE (ways.1 c1) (wp_some (wp_suml (wp_some ⟨k4, ref _ _ (Or.inl ⟨0, fun d hd => ?_, Or.inl c1, rfl⟩) fun μ5 k5 => ⟨rfl, k5⟩⟩)))
          unfold posI
          by_cases e : d = 0
          · rw [if_pos e, c1]
            exact ⟨fun _ => e, fun _ => rfl⟩
          · have := hp (d - 1) (by omega)
            rw [if_neg e, c1]
            exact ⟨fun w => absurd w (nI_nm1 (by omega)), fun w => absurd w e⟩
        · by_cases c2 : ∃ j, j < (crs (L 2) (L 3)).length ∧ v4 = nI ((crs (L 2) (L 3)).getD j 0)
          · obtain ⟨j, j1, j2⟩ := c2
            refine wp_bdE (ways.2.1 j j1 j2) (wp_some (wp_suml (wp_some ⟨k4, ref _ _ (Or.inl ⟨j + 1, fun d hd => ?_, Or.inr ⟨j, j1, j2⟩, rfl⟩) fun μ5 k5 => ⟨rfl, k5⟩⟩)))
            have hj := hp j j1
            unfold posI
            by_cases e : d = 0
            · rw [if_pos e, j2]
              exact ⟨fun w => absurd w.symm (nI_nm1 (by omega)), fun w => by omega⟩
            · have hd1 := hp (d - 1) (by omega)
              rw [if_neg e, j2]
              refine ⟨fun w => ?_, fun w => by rw [w]; rfl⟩
              have e2 : (crs (L 2) (L 3)).getD (d - 1) 0 = (crs (L 2) (L 3)).getD j 0 := by rw [← nI_clamp (n := (crs (L 2) (L 3)).getD (d - 1) 0) (by omega), w, nI_clamp (by omega)]
              have := hinj (d - 1) j (by omega) j1 e2
              omega
          · refine wp_bdE (ways.2.2 c1 (fun j hj w => c2 ⟨j, hj, w⟩)) (wp_some (wp_suml (wp_some ⟨k4, ref _ _ (Or.inr ⟨fun w => w.elim c1 c2, rfl⟩) fun μ5 k5 => ⟨rfl, k5⟩⟩)))
      · have c' : isMo L v3 = false := Bool.eq_false_iff.mpr c
        rw [c']
        refine wp_ie (fun w => w rfl) (wp_some (wp_sumr (wp_some ⟨KP.rf μ, ?_⟩)))
        unfold f_X12_corner
        refine wp_bd2Q (seen μ rfl) fun r μ5 ⟨er, g5, k5⟩ => ?_
        have er : r = 1 := er
        have g5 : RG (610 + 109 * k) (1070 + 17 * kd) n L D (crs (L 2) (L 3)) μ5 := g5
        rw [er]
        refine wp_bd (wp_ie (by decide) (wp_bdE (isMournerM g5.1 hB) ?_))
        rw [c']
        exact wp_ie (fun w => w rfl) (wp_some (wp_ie (by decide) (wp_some ⟨rfl, k5⟩)))
    · refine wp_bdE e1 (wp_bdE e3 (wp_bd (wp_cs (wp_g z1 (wp_cn (wp_some (wp_sumr (wp_some ⟨KP.rf μ, ?_⟩))))))))
      unfold f_X12_corner f_X12_areSeen
      have k2 : KP μ (zup μ 310 10 (nI (610 + 109 * k))) := zup310.kp
      refine wp_bd2 (wp_bd2 (wp_of (e2 μ rfl) (wp_bd (wp_ie i10 (wp_bdE (e4 (zup μ 310 10 (nI (610 + 109 * k))) (zup_rne _ _ _ (by omega))) (wp_ie (by decide) (wp_some (wp_ie (by decide) (wp_some (wp_bd (wp_it rfl (wp_some (wp_ie (by decide) (wp_some ⟨rfl, k2⟩))))))))))))))
  · have e3 : ∃ r, f_X8_pageAt 1 2 v2 μ = some r := by
      rcases night_cases hI v2 with ⟨kd, n, D, hkd, hv, hD, e3, e4⟩ | ⟨e3, e4⟩
      · exact ⟨_, e3⟩
      · exact ⟨_, e3⟩
    obtain ⟨r, e3⟩ := e3
    refine wp_bdE e1 (wp_bdE e3 (wp_bd (wp_cn (wp_some (wp_sumr (wp_some ⟨KP.rf μ, ?_⟩))))))
    unfold f_X12_corner f_X12_areSeen
    exact wp_bd2 (wp_bd2 (wp_of (e2 μ rfl) (wp_bd (wp_it rfl (wp_some (wp_ie (by decide) (wp_some (wp_bd (wp_it rfl (wp_some (wp_ie (by decide) (wp_some ⟨rfl, KP.rf μ⟩))))))))))))
end SAMES
