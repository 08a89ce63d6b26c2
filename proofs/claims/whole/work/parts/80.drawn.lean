/-! drawn: winds by a seed -/
def dsd (x : Int32) : Int32 := (x * (1103515245 : Int32)) + (12345 : Int32)
def dnx (L : Nat → Nat) (p : Int32 × (Nat → Int32)) : Int32 × (Nat → Int32) :=
  if zushr (dsd p.1) 16 % 5 = 4 then (dsd p.1, shour L (su (su p.2 8 (-1)) 9 0)) else (dsd (dsd p.1), shour L (su (su p.2 8 (zushr (dsd p.1) 16 % 5)) 9 (zushr (dsd (dsd p.1)) 16 % 9 + 1)))
def dwr (L : Nat → Nat) (x : Int32) : Nat → Int32 × (Nat → Int32)
  | 0 => (x, sbegin L L)
  | n + 1 => dnx L (dwr L x n)
theorem zu16 (x : Int32) : ∃ n : Nat, n < 65536 ∧ zushr x 16 = nI n := by
  have h : (zushr x 16).toBitVec.toNat = x.toBitVec.toNat / 2 ^ 16 := pk_ushr x 16 16 (by decide)
  have hx := x.toBitVec.isLt
  refine ⟨x.toBitVec.toNat / 2 ^ 16, by omega, ?_⟩
  apply Int32.toBitVec_inj.mp
  apply BitVec.eq_of_toNat_eq
  rw [pk_tn (by omega)]
  exact h
theorem way5 (x : Int32) : ∃ j : Nat, j < 5 ∧ zushr x 16 % 5 = nI j := by
  obtain ⟨n, n1, e⟩ := zu16 x
  refine ⟨n % 5, by omega, ?_⟩
  rw [e]
  show nI n % nI 5 = _
  exact nI_rem (by omega) (by omega) (by omega)
theorem way5_4 {x : Int32} : (4 : Int32) ≤ zushr x 16 % 5 ↔ zushr x 16 % 5 = 4 := by
  obtain ⟨j, j1, e⟩ := way5 x
  rw [e]
  refine ⟨fun w => ?_, fun w => by rw [w]; decide⟩
  have : ¬ j < 4 := fun c => nI_ge (b := 4) c (by omega) w
  rw [show j = 4 by omega]
  rfl
theorem way5_ok {x : Int32} (h : ¬ zushr x 16 % 5 = 4) : wayOk (zushr x 16 % 5) := by
  obtain ⟨j, j1, e⟩ := way5 x
  rw [e] at h ⊢
  have h4 : j ≠ 4 := fun c => h (by rw [c]; rfl)
  have : j = 0 ∨ j = 1 ∨ j = 2 ∨ j = 3 := by omega
  rcases this with rfl | rfl | rfl | rfl
  · exact Or.inr (Or.inl rfl)
  · exact Or.inr (Or.inr (Or.inl rfl))
  · exact Or.inr (Or.inr (Or.inr (Or.inl rfl)))
  · exact Or.inr (Or.inr (Or.inr (Or.inr rfl)))
theorem way5_n1 (x : Int32) : ¬ zushr x 16 % 5 = -1 := by
  obtain ⟨j, j1, e⟩ := way5 x
  rw [e]
  exact nI_nm1 (by omega)
def DOk (L : Nat → Nat) (S : Nat → Int32) : Prop := SOk L S ∧ (S 8 = -1 → S 9 = 0)
theorem DOk_wind {L : Nat → Nat} {S : Nat → Int32} {w f : Int32} (h : SOk L S) (hw : wayOk w) : SOk L (su (su S 8 w) 9 f) :=
  SOk_su (SOk_su h (by omega) (fun c => by omega) (fun _ => hw)) (by omega) (fun c => by omega) (fun c => by omega)
theorem DOk_hour {L : Nat → Nat} {S : Nat → Int32} {w f : Int32} (hO : LOk L) (h : SOk L S) (hw : wayOk w) (hf : w = -1 → f = 0) : DOk L (shour L (su (su S 8 w) 9 f)) := by
  refine ⟨shour_ok hO (DOk_wind h hw), ?_⟩
  rw [shour_at (by omega), shour_at (by omega), su_self, su_ne (by omega), su_self]
  exact hf
theorem dnx_4 {L : Nat → Nat} {p : Int32 × (Nat → Int32)} {x : Int32} (hx : x = p.1) (h : zushr (dsd x) 16 % 5 = 4) : dnx L p = (dsd x, shour L (su (su p.2 8 (-1)) 9 0)) := by
  subst hx
  exact if_pos h
theorem dnx_w {L : Nat → Nat} {p : Int32 × (Nat → Int32)} {x : Int32} (hx : x = p.1) (h : ¬ zushr (dsd x) 16 % 5 = 4) : dnx L p = (dsd (dsd x), shour L (su (su p.2 8 (zushr (dsd x) 16 % 5)) 9 (zushr (dsd (dsd x)) 16 % 9 + 1))) := by
  subst hx
  exact if_neg h
theorem dwr_ok {L : Nat → Nat} (hO : LOk L) (x : Int32) : ∀ n, DOk L (dwr L x n).2
  | 0 => ⟨sbegin_ok hO, fun _ => rfl⟩
  | n + 1 => by
    have ih := dwr_ok hO x n
    show DOk L (dnx L (dwr L x n)).2
    by_cases h : zushr (dsd (dwr L x n).1) 16 % 5 = 4
    · rw [dnx_4 rfl h]
      exact DOk_hour hO ih.1 (Or.inl rfl) (fun _ => rfl)
    · rw [dnx_w rfl h]
      exact DOk_hour hO ih.1 (way5_ok h) (fun w => absurd w (way5_n1 _))
theorem calmsC {r la : Nat} {μ : zM} {S : Nat → Int32} (hR : RC r μ la la S) (h0 : S 8 = -1 → S 9 = 0) : RC r (f_X4_calms r μ).2 la la (su (su S 8 (-1)) 9 0) ∧ F3 r μ (f_X4_calms r μ).2 := by
  have e : μ r 10 = S 8 := hR.f 8 (by omega)
  unfold f_X4_calms
  rw [e]
  by_cases c : S 8 = -1
  · rw [if_neg (fun w => w c), su_same (S := S) c, su_same (h0 c)]
    exact ⟨hR, fun _ _ _ _ => rfl⟩
  · rw [if_pos c]
    refine ⟨(hR.put (k := 8) (v := -1) (by omega)).put (k := 9) (v := 0) (by omega), fun o h1 _ _ => ?_⟩
    show zup (zup μ r 10 (-1)) r 11 0 o = μ o
    rw [zup_rne _ _ _ h1, zup_rne _ _ _ h1]
theorem su_ww {S : Nat → Int32} {a f b g : Int32} : su (su (su (su S 8 a) 9 f) 8 b) 9 g = su (su S 8 b) 9 g := by
  rw [su_comm (S := su S 8 a) (k := 9) (j := 8) (by omega), su_su, su_su]
theorem seedC {la t : Nat} {v2 : Int32} {μ : zM} {L : Nat → Nat} (hL : LC la μ L) (hO : LOk L) (hr : la + 14 < 87) (hR : RC 87 μ la la (sbegin L L)) (ht : t ≤ 40) :
    wp (f_X4_sailBySeed 87 v2 (nI t) μ) (fun μ' => RC 87 μ' la la (dwr L v2 t).2 ∧ F3 87 μ μ') := by
  unfold f_X4_sailBySeed
  refine wp_bdQ (Q := fun μ' => RC 87 μ' la la (dwr L v2 t).2 ∧ F3 87 μ μ') ?_ (fun μ' hμ => wp_some hμ)
  refine wlp0 (fun n k (s : Int32 × zM) => f_X4_sailBySeed_L5 87 (nI t) n s.1 (nI k) s.2) _ t (fun k s => s.1 = (dwr L v2 k).1 ∧ RC 87 s.2 la la (dwr L v2 k).2 ∧ F3 87 μ s.2) (by omega) (v2, μ) ⟨rfl, hR, fun _ _ _ _ => rfl⟩ ?_ ?_
  · intro n k ⟨x, μ4⟩ hk ⟨i1, i2, i3⟩ ih
    have i1 : x = (dwr L v2 k).1 := i1
    have i2 : RC 87 μ4 la la (dwr L v2 k).2 := i2
    have i3 : F3 87 μ μ4 := i3
    have hp := dwr_ok hO v2 k
    obtain ⟨g9, f9⟩ := calmsC i2 hp.2
    have f9' := i3.tr f9
    show wp (f_X4_sailBySeed_L5 87 (nI t) (n + 1) x (nI k) μ4) _
    rw [f_X4_sailBySeed_L5]
    refine wp_ie (nI_ge hk (by omega)) (wp_ls (wp_ls (wp_l2s ?_)))
    show wp (zl2 (if (4 : Int32) ≤ zushr (dsd x) 16 % 5 then (dsd x, (f_X4_calms 87 μ4).2) else (dsd (dsd x), zup (zup (f_X4_calms 87 μ4).2 87 10 (zushr (dsd x) 16 % 5)) 87 11 (zushr (dsd (dsd x)) 16 % 9 + 1))) fun x15 μ16 => zbd (f_X4_passHour 87 μ16) fun μ17 => zl (nI k + 1) fun x18 => f_X4_sailBySeed_L5 87 (nI t) n x15 x18 μ17) _
    generalize (f_X4_calms 87 μ4).2 = μ9 at g9 f9 f9' ⊢
    by_cases c : zushr (dsd x) 16 % 5 = 4
    · rw [if_pos (way5_4.mpr c)]
      have d : dnx L (dwr L v2 k) = _ := dnx_4 i1 c
      have ok := DOk_wind (w := -1) (f := 0) hp.1 (Or.inl rfl)
      refine wp_l2s (wp_bdQ (passHourC g9 (f9'.lc hL hr) hO hr ok.2.1 ok.1) fun μ17 ⟨g, f⟩ => wp_ls ?_)
      rw [nI_1]
      refine ih (_, _) ⟨?_, ?_, f9'.tr (fun o h1 _ h3 => f o h1 h3)⟩
      · show dsd x = (dnx L (dwr L v2 k)).1
        rw [d]
      · show RC 87 μ17 la la (dnx L (dwr L v2 k)).2
        rw [d]
        exact g
    · rw [if_neg (fun w => c (way5_4.mp w))]
      have d : dnx L (dwr L v2 k) = _ := dnx_w i1 c
      have ok := DOk_wind (w := zushr (dsd x) 16 % 5) (f := zushr (dsd (dsd x)) 16 % 9 + 1) hp.1 (way5_ok c)
      have g10 := (g9.put (k := 8) (v := zushr (dsd x) 16 % 5) (by omega)).put (k := 9) (v := zushr (dsd (dsd x)) 16 % 9 + 1) (by omega)
      rw [su_ww] at g10
      have f10 : F3 87 μ (zup (zup μ9 87 10 (zushr (dsd x) 16 % 5)) 87 11 (zushr (dsd (dsd x)) 16 % 9 + 1)) := f9'.tr (fun o h1 _ _ => by rw [zup_rne _ _ _ h1, zup_rne _ _ _ h1])
      refine wp_l2s (wp_bdQ (passHourC g10 (f10.lc hL hr) hO hr ok.2.1 ok.1) fun μ17 ⟨g, f⟩ => wp_ls ?_)
      rw [nI_1]
      refine ih (_, _) ⟨?_, ?_, f10.tr (fun o h1 _ h3 => f o h1 h3)⟩
      · show dsd (dsd x) = (dnx L (dwr L v2 k)).1
        rw [d]
      · show RC 87 μ17 la la (dnx L (dwr L v2 k)).2
        rw [d]
        exact g
  · intro n s ⟨i1, i2, i3⟩
    show wp (f_X4_sailBySeed_L5 87 (nI t) (n + 1) s.1 (nI t) s.2) _
    rw [f_X4_sailBySeed_L5]
    exact wp_it (nI_le (Nat.le_refl _) (by omega)) (wp_some ⟨i2, i3⟩)
theorem belowM {v : Int32} {μ : zM} (h : znz v = true) : wp (f_X12_below 310 v μ) (fun p => p.1 = zushr (dsd (μ 310 37)) 16 % v ∧ p.2 = zup μ 310 37 (dsd (μ 310 37))) := by
  unfold f_X12_below
  refine wp_ls (wp_g h (wp_some ⟨?_, rfl⟩))
  show zushr (zup μ 310 37 (dsd (μ 310 37)) 310 37) 16 % v = _
  rw [zup_self]
theorem MC.seed {μ : zM} {S : Nat → Int32} {v : Int32} (h : MC μ S) : MC (zup μ 310 37 v) S :=
  ⟨fun k hk => by rw [zup_ne (by omega)]; exact h.1 k hk, fun m hm => by rw [zup_rne _ _ _ (by omega)]; exact h.2.1 m hm, fun p hp => by rw [zup_rne _ _ _ (by omega)]; exact h.2.2 p hp⟩
/-- a drawn hour of the reference -/
def DrI (q : Nat) (L : Nat → Nat) (μ : zM) (p : Int32 × (Nat → Int32)) (μ' : zM) : Prop := MC μ' p.2 ∧ μ' 310 37 = p.1 ∧ LM q μ' L ∧ KP μ μ'
theorem drawnM {q t : Nat} {v2 v4 : Int32} {μ : zM} {L : Nat → Nat} (hO : LOk L) (ht : t ≤ 40) (h0 : DrI q L μ (v2, sbegin L L) μ) :
    wp (f_X12_drawn_L43 310 (nI t) v4 zFU 0 μ) (DrI q L μ (dwr L v2 t)) := by
  refine wlp0 (fun n k μ' => f_X12_drawn_L43 310 (nI t) v4 n (nI k) μ') _ t (fun k μ' => DrI q L μ (dwr L v2 k) μ') (by omega) μ h0 ?_ ?_
  · intro n k μ1 hk ⟨i1, i2, i3, i4⟩ ih
    have hp := dwr_ok hO v2 k
    show wp (f_X12_drawn_L43 310 (nI t) v4 (n + 1) (nI k) μ1) _
    rw [f_X12_drawn_L43]
    refine wp_ie (nI_ge hk (by omega)) (wp_bd2Q (belowM (by decide)) fun x μ2 hx => wp_ls ?_)
    have x1 : x = zushr (dsd (μ1 310 37)) 16 % 5 := hx.1
    have x2 : μ2 = zup μ1 310 37 (dsd (μ1 310 37)) := hx.2
    rw [i2] at x1 x2
    have g2 : MC μ2 (dwr L v2 k).2 := by rw [x2]; exact i1.seed
    have s2 : μ2 310 37 = dsd (dwr L v2 k).1 := by rw [x2]; exact zup_self _ _ _ _
    have k2 : KP μ1 μ2 := by rw [x2]; exact zup310.kp
    have l2 : LM q μ2 L := i3.congr (k2 311 (by omega)) (by rw [x2]; exact zup_ne (by omega))
    have g3 := g2.put (k := 8) (v := x) (by omega)
    have e3 : zup μ2 310 20 x 310 20 = x := zup_self _ _ _ _
    have k3 : KP μ2 (zup μ2 310 20 x) := zup310.kp
    have s3 : zup μ2 310 20 x 310 37 = dsd (dwr L v2 k).1 := by rw [zup_ne (by omega)]; exact s2
    have l3 : LM q (zup μ2 310 20 x) L := l2.congr (zup_rne _ _ _ (by omega)) (zup_ne (by omega))
    generalize zup μ2 310 20 x = μ3 at g3 e3 k3 s3 l3 ⊢
    have g3 : MC μ3 (su (dwr L v2 k).2 8 x) := g3
    have fin : ∀ (f w y : Int32) (μ4 : zM), MC μ4 (su (dwr L v2 k).2 8 x) → μ4 310 20 = x → KP μ3 μ4 → LM q μ4 L → μ4 310 37 = y → w = (if ¬ x = 4 then x else -1) → wayOk w → dnx L (dwr L v2 k) = (y, shour L (su (su (dwr L v2 k).2 8 w) 9 f)) →
        wp (zl (zup μ4 310 21 f) fun μ21 => zl (if ¬ (μ21 310 20) = (4 : Int32) then (μ21 310 20) else (-1 : Int32)) fun x24 => zl (zup μ21 310 20 x24) fun μ25 => zbd (f_X12_hour 310 (1 : Int32) μ25) fun μ26 => zl (nI k + (1 : Int32)) fun x27 => f_X12_drawn_L43 310 (nI t) v4 n x27 μ26) (DrI q L μ (dwr L v2 t)) := by
      intro f w y μ4 g4 e4 k4 l4 s4 hw hok hd
      have g5 := (g4.put (k := 9) (v := f) (by omega)).put (k := 8) (v := w) (by omega)
      rw [su_comm (S := su (dwr L v2 k).2 8 x) (k := 9) (j := 8) (by omega), su_su] at g5
      have e5 : zup μ4 310 21 f 310 20 = x := by rw [zup_ne (by omega)]; exact e4
      refine wp_ls (wp_ls (wp_ls ?_))
      rw [e5, ← hw]
      have l5 : LM q (zup (zup μ4 310 21 f) 310 20 w) L := l4.congr (by rw [zup_rne _ _ _ (by omega), zup_rne _ _ _ (by omega)]) (by rw [zup_ne (by omega), zup_ne (by omega)])
      have s5 : zup (zup μ4 310 21 f) 310 20 w 310 37 = y := by rw [zup_ne (by omega), zup_ne (by omega)]; exact s4
      have k5 : KP μ (zup (zup μ4 310 21 f) 310 20 w) := (((i4.tr k2).tr k3).tr k4).tr (zup310.kp.tr zup310.kp)
      refine wp_bdQ (hourM2 l5 hO g5 (DOk_wind hp.1 hok)) fun μ6 ⟨g6, f6⟩ => wp_ls ?_
      rw [nI_1]
      refine ih _ ?_
      show DrI q L μ (dnx L (dwr L v2 k)) μ6
      rw [hd]
      exact ⟨g6, (f6.2 37 (by omega)).trans s5, l5.mf f6, k5.tr f6.to2.kp⟩
    have c5 := x1
    by_cases c : x = 4
    · have c4 : zushr (dsd (dwr L v2 k).1) 16 % 5 = 4 := x1.symm.trans c
      rw [e3]
      refine wp_bd2 (wp_ie (fun w => w c) (wp_some ?_))
      exact fin 0 (-1) (dsd (dwr L v2 k).1) μ3 g3 e3 (KP.rf _) l3 s3 (if_neg (fun w => w c)).symm (Or.inl rfl) (dnx_4 rfl c4)
    · have c4 : ¬ zushr (dsd (dwr L v2 k).1) 16 % 5 = 4 := fun w => c (x1.trans w)
      rw [e3]
      refine wp_bd2 (wp_it c (wp_bd2Q (belowM (by decide)) fun y μ4 hy => wp_some ?_))
      have y1 : y = zushr (dsd (μ3 310 37)) 16 % 9 := hy.1
      have y2 : μ4 = zup μ3 310 37 (dsd (μ3 310 37)) := hy.2
      rw [s3] at y1 y2
      refine fin (y + 1) x (dsd (dsd (dwr L v2 k).1)) μ4 (by rw [y2]; exact g3.seed) (by rw [y2, zup_ne (by omega)]; exact e3) (by rw [y2]; exact zup310.kp) (l3.congr (by rw [y2]; exact zup_rne _ _ _ (by omega)) (by rw [y2]; exact zup_ne (by omega))) (by rw [y2]; exact zup_self _ _ _ _) (if_pos c).symm (by rw [x1]; exact way5_ok c4) ?_
      rw [dnx_w rfl c4, y1, x1]
  · intro n μ1 hI
    show wp (f_X12_drawn_L43 310 (nI t) v4 (n + 1) (nI t) μ1) _
    rw [f_X12_drawn_L43]
    exact wp_it (nI_le (Nat.le_refl _) (by omega)) (wp_some hI)
/-- what a drawn day answers -/
def drAns (S : Nat → Int32) (v : Int32) : Int32 := if v = 0 then S 0 else if v = 1 then S 1 else if v = 2 then S 4 else if v = 3 then S 3 else if S 5 = 0 then 0 else 1
theorem drawn_same (v1 v2 v3 v4 : Int32) : Same (f_X11_drawn 0 v1 v2 v3 v4) (f_X12_drawn 310 v1 v2 v3 v4) := by
  refine Same.of fun μ hI => ?_
  unfold f_X11_drawn
  rcases lake_cases hI v1 with ⟨k, L, hk, hL, e1, e2⟩ | ⟨e1, e2⟩
  · have z1 : zgn (6 + 15 * k) 1 = true := by unfold zgn; rw [zlk_kd k hk]; rfl
    refine wp_bdE e1 (wp_bd (wp_cs (wp_g z1 ?_)))
    by_cases c : (¬ (v3 < (1 : Int32))) ∧ ((¬ ((40 : Int32) < v3)) ∧ ((¬ (v4 < 0)) ∧ (v4 ≤ (4 : Int32))))
    · refine wp_it c ?_
      have cr : (¬ ((1 : Int32) = 0)) ∧ ((¬ ((f_X12_isIn v3 (1 : Int32) (40 : Int32)) = 0)) ∧ (¬ (f_X12_isIn v4 (0 : Int32) (4 : Int32)) = 0)) := ⟨by decide, inY.mpr ⟨c.1, c.2.1⟩, inY.mpr ⟨c.2.2.1, Int32.not_lt.mpr c.2.2.2⟩⟩
      obtain ⟨t, t1, et⟩ := nI_rng (b := 40) (by omega) (I_lt0 c.1) c.2.1
      rw [et] at cr ⊢
      refine wp_bdQ (launchC hL.2.1 hL.2.1 (by omega)) fun μ9 ⟨g9, f9⟩ => ?_
      have f9' : F3 87 μ μ9 := f9
      refine wp_bdQ (seedC (v2 := v2) (f9'.lc hL.2.1 (by omega)) hL.1 (by omega) g9 t1) fun μ' ⟨g, f⟩ => ?_
      have f' := f9'.tr f
      have a0 : μ' (0 + 87) 2 = (dwr L v2 t).2 0 := g.f 0 (by omega)
      have a1 : μ' (0 + 87) 3 = (dwr L v2 t).2 1 := g.f 1 (by omega)
      have a4 : μ' (0 + 87) 6 = (dwr L v2 t).2 4 := g.f 4 (by omega)
      have a3 : μ' (0 + 87) 5 = (dwr L v2 t).2 3 := g.f 3 (by omega)
      have a5 : μ' (0 + 87) 7 = (dwr L v2 t).2 5 := g.f 5 (by omega)
      rw [a0, a1, a4, a3, a5]
      have h311 : μ' 311 = μ 311 := f'.k
      have fin : ∀ a : Int32, a = drAns (dwr L v2 t).2 v4 → KP μ μ' ∧ wp (f_X12_drawn 310 v1 v2 (nI t) v4 μ') (fun p2 => p2.1 = a ∧ KP μ' p2.2) := by
        intro a ha
        refine ⟨f'.kp, ?_⟩
        have l2 : LM (610 + 109 * k) (zup μ' 310 10 (nI (610 + 109 * k))) L := ⟨by omega, zup_self _ _ _ _, fun i hi => by rw [zup_ne (by omega), h311]; exact hL.2.2 i hi⟩
        unfold f_X12_drawn
        refine wp_bd2 (wp_of (e2 μ' h311) (wp_it cr (wp_bdQ (beginsM l2) fun μ6 ⟨g6, f6, _⟩ => wp_ls ?_)))
        have l7 : LM (610 + 109 * k) (zup μ6 310 37 v2) L := (l2.mf2 f6).congr (zup_rne _ _ _ (by omega)) (zup_ne (by omega))
        refine wp_bdQ (drawnM (v2 := v2) (v4 := v4) hL.1 t1 ⟨g6.seed, zup_self _ _ _ _, l7, KP.rf _⟩) fun μ8 ⟨h1, _, _, h4⟩ => wp_ls (wp_some ⟨?_, ?_⟩)
        · have b0 : μ8 310 12 = (dwr L v2 t).2 0 := h1.f 0 (by omega)
          have b1 : μ8 310 13 = (dwr L v2 t).2 1 := h1.f 1 (by omega)
          have b4 : μ8 310 16 = (dwr L v2 t).2 4 := h1.f 4 (by omega)
          have b3 : μ8 310 15 = (dwr L v2 t).2 3 := h1.f 3 (by omega)
          have b5 : μ8 310 17 = (dwr L v2 t).2 5 := h1.f 5 (by omega)
          rw [b0, b1, b4, b3, b5, ha]
          unfold drAns
          simp only [ite_not]
        · exact KP.tr (zup310.kp (v := nI (610 + 109 * k))) (f6.kp.tr (KP.tr (zup310.kp (v := v2)) h4))
      by_cases c0 : v4 = 0
      · exact wp_it c0 (wp_some (wp_suml (wp_some (fin _ (by unfold drAns; rw [if_pos c0])))))
      · by_cases c1 : v4 = 1
        · exact wp_ie c0 (wp_it c1 (wp_some (wp_suml (wp_some (fin _ (by unfold drAns; rw [if_neg c0, if_pos c1]))))))
        · by_cases c2 : v4 = 2
          · exact wp_ie c0 (wp_ie c1 (wp_it c2 (wp_some (wp_suml (wp_some (fin _ (by unfold drAns; rw [if_neg c0, if_neg c1, if_pos c2])))))))
          · by_cases c3 : v4 = 3
            · exact wp_ie c0 (wp_ie c1 (wp_ie c2 (wp_it c3 (wp_some (wp_suml (wp_some (fin _ (by unfold drAns; rw [if_neg c0, if_neg c1, if_neg c2, if_pos c3]))))))))
            · exact wp_ie c0 (wp_ie c1 (wp_ie c2 (wp_ie c3 (wp_ls (wp_some (wp_suml (wp_some (fin _ (by unfold drAns; rw [if_neg c0, if_neg c1, if_neg c2, if_neg c3])))))))))
    · refine wp_ie c (wp_some (wp_sumr (wp_some ⟨KP.rf μ, ?_⟩)))
      unfold f_X12_drawn
      refine wp_bd2 (wp_of (e2 μ rfl) (wp_ie (fun w => c ?_) (wp_some ⟨rfl, zup310.kp⟩)))
      exact ⟨(inY.mp w.2.1).1, (inY.mp w.2.1).2, (inY.mp w.2.2).1, Int32.not_lt.mp (inY.mp w.2.2).2⟩
  · refine wp_bdE e1 (wp_bd (wp_cn (wp_some (wp_sumr (wp_some ⟨KP.rf μ, ?_⟩)))))
    unfold f_X12_drawn
    exact wp_bd2 (wp_of (e2 μ rfl) (wp_ie (fun w => w.1 rfl) (wp_some ⟨rfl, KP.rf μ⟩)))
