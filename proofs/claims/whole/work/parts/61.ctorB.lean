theorem zfx_8_0 : ∀ a, a < zNN → zkd a = 8 → zkd (a + 5) = 1 ∧ zFX (a + 3) 0 = a + 5 ∧ zkd (a + 20) = 1 ∧ zFX (a + 3) 1 = a + 20 ∧ zkd (a + 35) = 6 := by decide +kernel
theorem zfx_8_1 : ∀ a, a < zNN → zkd a = 8 → zln (a + 35 + 1) = 0 ∧ zFX (a + 4) 0 = a + 35 ∧ zkd (a + 37) = 6 ∧ zln (a + 37 + 1) = 0 ∧ zFX (a + 4) 1 = a + 37 := by decide +kernel
theorem zfx_8_2 : ∀ a, a < zNN → zkd a = 8 → zkd (a + 39) = 6 ∧ zln (a + 39 + 1) = 120 ∧ zFX (a + 4) 2 = a + 39 ∧ zkd (a + 41) = 6 ∧ zln (a + 41 + 1) = 120 := by decide +kernel
theorem zfx_8_3 : ∀ a, a < zNN → zkd a = 8 → zFX (a + 4) 3 = a + 41 ∧ zkd (a + 43) = 6 ∧ zln (a + 43 + 1) = 24 ∧ zFX (a + 4) 4 = a + 43 ∧ zkd (a + 45) = 6 := by decide +kernel
theorem zfx_8_4 : ∀ a, a < zNN → zkd a = 8 → zln (a + 45 + 1) = 24 ∧ zFX (a + 4) 5 = a + 45 ∧ zkd (a + 47) = 6 ∧ zln (a + 47 + 1) = 24 ∧ zFX (a + 4) 6 = a + 47 := by decide +kernel
theorem zfx_8_5 : ∀ a, a < zNN → zkd a = 8 → zkd (a + 49) = 6 ∧ zln (a + 49 + 1) = 24 ∧ zFX (a + 4) 7 = a + 49 ∧ zkd (a + 51) = 6 ∧ zln (a + 51 + 1) = 24 := by decide +kernel
theorem zfx_8_6 : ∀ a, a < zNN → zkd a = 8 → zFX (a + 4) 8 = a + 51 ∧ zkd (a + 53) = 6 ∧ zln (a + 53 + 1) = 24 ∧ zFX (a + 4) 9 = a + 53 := by decide +kernel
def f_X8_init (a0 : Nat) (μ : zM) : Option zM :=
  zbd (f_X1_init (a0 + 5) (znew (zupr (zup (zupr μ (a0 + 1) (fun _ => 0)) a0 3 (-1)) (a0 + 2) (fun _ => 0)) (a0 + 5) 1)) fun μ1 =>
  zbd (f_X1_init (a0 + 20) (znew μ1 (a0 + 20) 1)) fun μ2 =>
  some (i_X6 (a0 + 53) 8 (i_X6 (a0 + 51) 8 (i_X6 (a0 + 49) 8 (i_X6 (a0 + 47) 8 (i_X6 (a0 + 45) 8 (i_X6 (a0 + 43) 8 (i_X6 (a0 + 41) 40 (i_X6 (a0 + 39) 40 (i_X6 (a0 + 37) 0 (i_X6 (a0 + 35) 0 μ2))))))))))
set_option maxHeartbeats 4000000 in
set_option maxRecDepth 100000 in
theorem m_X8_init {l : Launch} {g : zL} {κ : zK} (a0 : Nat) (σ : Nat → Nat → Bool) (μ : zM) (hA : zAO g) (hSp : zSK g κ) (hk : zkd a0 = 8) {μr : zM} (h : f_X8_init a0 μ = some μr) : zMet l g yX8_init cX8_init 2 none 3 54 1481 (a0 + 1) (a0 + 55) (zsw σ a0 []) (zst σ a0) [.ref (zb g + a0)] μ none μr := by
  have ha0 : a0 < 324 := zkd_lt (by omega)
  unfold f_X8_init at h
  obtain ⟨hx5, hf5, hx20, hf20, hx35⟩ := zfx_8_0 a0 ha0 hk
  obtain ⟨hw35, hf35, hx37, hw37, hf37⟩ := zfx_8_1 a0 ha0 hk
  obtain ⟨hx39, hw39, hf39, hx41, hw41⟩ := zfx_8_2 a0 ha0 hk
  obtain ⟨hf41, hx43, hw43, hf43, hx45⟩ := zfx_8_3 a0 ha0 hk
  obtain ⟨hw45, hf45, hx47, hw47, hf47⟩ := zfx_8_4 a0 ha0 hk
  obtain ⟨hx49, hw49, hf49, hx51, hw51⟩ := zfx_8_5 a0 ha0 hk
  obtain ⟨hf51, hx53, hw53, hf53⟩ := zfx_8_6 a0 ha0 hk
  have hz0 := zs_8_0 (zT_of hk (by decide))
  have hz4 := zs_8_4 (zT_of hk (by decide))
  have hz5 := zs_8_5 (zT_of hk (by decide))
  have hz6 := zs_8_6 (zT_of hk (by decide))
  refine zMet.of (by decide +kernel) (Nat.le_of_ble_eq_true rfl) ?_
  intro p e s m args below meth c C0
  refine z_loc (lo1 := [(0, .ref (zb g + a0))]) rfl ?_
  refine z_aload_n C0 dX8_init_0 rfl 0 rfl ?_
  refine z_oini C0 rfl (by decide) kO_RX8_3 kO_i kO_b kO_c dX8_init_1 ?_
  refine z_aload_n C0 dX8_init_4 rfl 0 rfl ?_
  refine z_sipush C0 dX8_init_5 (v := 600) rfl ?_
  refine z_newA C0 (len := 600) (t0 := 0) (kind := 20) (ty := .int) rfl rfl rfl hz0.2.2.1 (by decide) hz0.2.2.2 kar_int (Or.inl rfl) (by decide) (by decide) (by decide) (by decide) (by decide) dX8_init_8 ?_
  refine z_putr C0 (σ1 := zsw σ a0 [0]) hk (by omega) kf_8_11 zpf_8_0 rfl (fun q => ⟨rfl, rfl⟩) zr_8_0 hz0.1 (zsw_put σ a0 [] 0 _) dX8_init_10 ?_
  refine z_aload_n C0 dX8_init_13 rfl 0 rfl ?_
  refine z_iconst C0 dX8_init_14 (v := -1) (by decide) ?_
  refine z_puti C0 hk (by omega) kf_8_15 zp_8_3 zr_8_3 rfl dX8_init_15 ?_
  refine z_aload_n C0 dX8_init_18 rfl 0 rfl ?_
  refine z_iconst C0 dX8_init_19 (v := 5) rfl ?_
  refine z_newA C0 (len := 5) (t0 := 0) (kind := 20) (ty := .int) rfl rfl rfl hz4.2.2.1 (by decide) hz4.2.2.2 kar_int (Or.inl rfl) (by decide) (by decide) (by decide) (by decide) (by decide) dX8_init_20 ?_
  refine z_putr C0 (σ1 := zsw σ a0 [4, 0]) hk (by omega) kf_8_19 zpf_8_4 rfl (fun q => ⟨rfl, rfl⟩) zr_8_4 hz4.1 (zsw_put σ a0 [0] 4 _) dX8_init_22 ?_
  refine z_aload_n C0 dX8_init_25 rfl 0 rfl ?_
  refine z_iconst C0 dX8_init_26 (v := 2) rfl ?_
  refine z_newq C0 (t0 := 2) (kind := 22) (len := 2) (σ' := zsq σ a0 [4, 0] (a0 + 3) (fun k => decide (k < 0)) a0 (fun _ => true)) rfl kcl_RX8_22 (hA s C0.2.2.2.2.2.2.2.1).1 rfl hz5.2.2.1 (by decide) hz5.2.2.2 (by decide) (by decide) (by decide) (by decide) (by decide) (fun j => zsq_new1 (by omega)) (fun q hq => zsq_old1 hq) dX8_init_27 ?_
  refine z_putr C0 (σ1 := zsq σ a0 [5, 4, 0] (a0 + 3) (fun k => decide (k < 0)) a0 (fun _ => true)) hk (by omega) kf_8_24 zpf_8_5 rfl (fun q => ⟨rfl, rfl⟩) zr_8_5 hz5.1 (zsq_put σ a0 [4, 0] 5 _ _ _ _ _) dX8_init_30 ?_
  refine z_aload_n C0 dX8_init_33 rfl 0 rfl ?_
  refine z_bipush C0 dX8_init_34 (v := 10) rfl ?_
  refine z_newq C0 (t0 := 3) (kind := 23) (len := 10) (σ' := zsq σ a0 [5, 4, 0] (a0 + 3) (fun k => decide (k < 0)) (a0 + 4) (fun k => decide (k < 0))) rfl kcl_RX8_28 (hA s C0.2.2.2.2.2.2.2.1).2.1 rfl hz6.2.2.1 (by decide) hz6.2.2.2 (by decide) (by decide) (by decide) (by decide) (by decide) (fun j => zsq_new2 (by omega)) (fun q hq => zsq_old2 hq) dX8_init_36 ?_
  refine z_putr C0 (σ1 := zsq σ a0 [6, 5, 4, 0] (a0 + 3) (fun k => decide (k < 0)) (a0 + 4) (fun k => decide (k < 0))) hk (by omega) kf_8_30 zpf_8_6 rfl (fun q => ⟨rfl, rfl⟩) zr_8_6 hz6.1 (zsq_put σ a0 [5, 4, 0] 6 _ _ _ _ _) dX8_init_39 ?_
  refine z_iconst C0 dX8_init_42 (v := 0) rfl ?_
  refine z_istore_n (lo1 := [(1, .int 0), (0, .ref (zb g + a0))]) C0 dX8_init_43 rfl (by decide) rfl ?_
  refine z_iload_n C0 dX8_init_44 rfl 0 rfl ?_
  refine z_iconst C0 dX8_init_45 (v := 2) rfl ?_
  refine z_icmp_ge C0 68 dX8_init_46 (by decide) (fun c => absurd c (by decide : ¬ (2 : Int32) ≤ 0)) (fun _ => ?_)
  refine z_aload_n C0 dX8_init_49 rfl 1 rfl ?_
  refine z_get C0 (v := .ref (zb g + (a0 + 3))) hk (by omega) kf_8_24 (zval_ref zr_8_5 (by unfold zsq; rw [if_pos rfl]; rfl) hz5.1) dX8_init_50 ?_
  refine z_iload_n C0 dX8_init_53 rfl 0 rfl ?_
  refine z_newo (σ' := zsw (zsq σ a0 [6, 5, 4, 0] (a0 + 3) (fun k => decide (k < 0)) (a0 + 4) (fun k => decide (k < 0))) (a0 + 5) []) C0 rfl zcl_1 hx5 kcl_RX8_22 kin_RX1 kii_RX1 zdv_1 (fun j _ _ => zsw_new _ _ _) (fun q hq => zsw_lo _ hq) (by decide) (by decide) dX8_init_54 ?_
  refine z_dup C0 dX8_init_57 rfl ?_
  obtain ⟨μ1, e1, h⟩ := zbd_of h
  refine z_callI C0 (nc := 0) (o := a0 + 5) (As := []) (rest := [.ref (zb g + (a0 + 5)), .int 0, .ref (zb g + (a0 + 3))]) rfl kc_X1_init.1 kc_X1_init.2.1 kc_X1_init.2.2 (by decide) ⟨by decide, by decide, by decide +kernel⟩ rfl km_RX8_34 (m_X1_init (κ := κ) (a0 + 5) (zsq σ a0 [6, 5, 4, 0] (a0 + 3) (fun k => decide (k < 0)) (a0 + 4) (fun k => decide (k < 0))) _  hSp hx5 e1) rfl (Nat.le_of_ble_eq_true rfl) (by decide) (by decide) (by decide) (by omega) rfl dX8_init_58 ?_
  rw [zst_zsq σ [6, 5, 4, 0] _ _ (by omega) (by omega) (by omega)]
  refine z_aast C0 (σ1 := zsq σ a0 [6, 5, 4, 0] (a0 + 3) (fun k => decide (k < 1)) (a0 + 4) (fun k => decide (k < 0))) (kind := 22) (len := 2) (t0 := 2) (r := (RX1, TX1, 12)) (j := 0) ⟨by omega, hz5.2.2.1, hz5.2.2.2⟩ (by decide) rfl hx5 (by decide) (by omega) rfl (by decide) rfl hf5 (zsq_sto1 (by omega)) dX8_init_61 ?_
  refine z_iinc (lo1 := [(1, .int 1), (0, .ref (zb g + a0))]) (x := 0) (v := 1) (w := 1) C0 dX8_init_62 0 rfl rfl rfl (by decide) rfl ?_
  refine z_goto C0 44 dX8_init_65 (by decide) ?_
  refine z_iload_n C0 dX8_init_44 rfl 0 rfl ?_
  refine z_iconst C0 dX8_init_45 (v := 2) rfl ?_
  refine z_icmp_ge C0 68 dX8_init_46 (by decide) (fun c => absurd c (by decide : ¬ (2 : Int32) ≤ 1)) (fun _ => ?_)
  refine z_aload_n C0 dX8_init_49 rfl 1 rfl ?_
  refine z_get C0 (v := .ref (zb g + (a0 + 3))) hk (by omega) kf_8_24 (zval_ref zr_8_5 (by unfold zsq; rw [if_pos rfl]; rfl) hz5.1) dX8_init_50 ?_
  refine z_iload_n C0 dX8_init_53 rfl 0 rfl ?_
  refine z_newo (σ' := zsw (zsq σ a0 [6, 5, 4, 0] (a0 + 3) (fun k => decide (k < 1)) (a0 + 4) (fun k => decide (k < 0))) (a0 + 20) []) C0 rfl zcl_1 hx20 kcl_RX8_22 kin_RX1 kii_RX1 zdv_1 (fun j _ _ => zsw_new _ _ _) (fun q hq => zsw_lo _ hq) (by decide) (by decide) dX8_init_54 ?_
  refine z_dup C0 dX8_init_57 rfl ?_
  obtain ⟨μ2, e2, h⟩ := zbd_of h
  refine z_callI C0 (nc := 0) (o := a0 + 20) (As := []) (rest := [.ref (zb g + (a0 + 20)), .int 1, .ref (zb g + (a0 + 3))]) rfl kc_X1_init.1 kc_X1_init.2.1 kc_X1_init.2.2 (by decide) ⟨by decide, by decide, by decide +kernel⟩ rfl km_RX8_34 (m_X1_init (κ := κ) (a0 + 20) (zsq σ a0 [6, 5, 4, 0] (a0 + 3) (fun k => decide (k < 1)) (a0 + 4) (fun k => decide (k < 0))) _  hSp hx20 e2) rfl (Nat.le_of_ble_eq_true rfl) (by decide) (by decide) (by decide) (by omega) rfl dX8_init_58 ?_
  rw [zst_zsq σ [6, 5, 4, 0] _ _ (by omega) (by omega) (by omega)]
  refine z_aast C0 (σ1 := zsq σ a0 [6, 5, 4, 0] (a0 + 3) (fun k => decide (k < 2)) (a0 + 4) (fun k => decide (k < 0))) (kind := 22) (len := 2) (t0 := 2) (r := (RX1, TX1, 12)) (j := 1) ⟨by omega, hz5.2.2.1, hz5.2.2.2⟩ (by decide) rfl hx20 (by decide) (by omega) rfl (by decide) rfl hf20 (zsq_sto1 (by omega)) dX8_init_61 ?_
  refine z_iinc (lo1 := [(1, .int 2), (0, .ref (zb g + a0))]) (x := 1) (v := 2) (w := 1) C0 dX8_init_62 0 rfl rfl rfl (by decide) rfl ?_
  refine z_goto C0 44 dX8_init_65 (by decide) ?_
  refine z_iload_n C0 dX8_init_44 rfl 0 rfl ?_
  refine z_iconst C0 dX8_init_45 (v := 2) rfl ?_
  refine z_icmp_ge C0 68 dX8_init_46 (by decide) (fun _ => ?_) (fun c => absurd (by decide : (2 : Int32) ≤ 2) c)
  refine z_iconst C0 dX8_init_68 (v := 0) rfl ?_
  refine z_istore_n (lo1 := [(1, .int 0), (0, .ref (zb g + a0))]) C0 dX8_init_69 rfl (by decide) rfl ?_
  refine z_iload_n C0 dX8_init_70 rfl 0 rfl ?_
  refine z_bipush C0 dX8_init_71 (v := 10) rfl ?_
  refine z_icmp_ge C0 101 dX8_init_73 (by decide) (fun c => absurd c (by decide : ¬ (10 : Int32) ≤ 0)) (fun _ => ?_)
  refine z_aload_n C0 dX8_init_76 rfl 1 rfl ?_
  refine z_get C0 (v := .ref (zb g + (a0 + 4))) hk (by omega) kf_8_30 (zval_ref zr_8_6 (by unfold zsq; rw [if_pos rfl]; rfl) hz6.1) dX8_init_77 ?_
  refine z_iload_n C0 dX8_init_80 rfl 0 rfl ?_
  refine z_newo (σ' := zsw (zsq σ a0 [6, 5, 4, 0] (a0 + 3) (fun k => decide (k < 2)) (a0 + 4) (fun k => decide (k < 0))) (a0 + 35) []) C0 rfl zcl_6 hx35 kcl_RX8_28 kin_RX6 kii_RX6 zdv_6 (fun j _ _ => zsw_new _ _ _) (fun q hq => zsw_lo _ hq) (by decide) (by decide) dX8_init_81 ?_
  refine z_dup C0 dX8_init_84 rfl ?_
  refine z_iload_n C0 dX8_init_85 rfl 0 rfl ?_
  refine z_iconst C0 dX8_init_86 (v := 2) rfl ?_
  refine z_idiv C0 dX8_init_87 (by decide) ?_
  refine z_nm (show (0 : Int32) = 0 / 2 by decide) ?_
  refine z_callS (As := [.int 0]) (rest := [.ref (zb g + (a0 + 35)), .ref (zb g + (a0 + 35)), .int 0, .ref (zb g + (a0 + 4))]) C0 rfl kc_X5_mostRows km_RX8_35 (r_X5_mostRows 0 (rv := 0) (by decide)) rfl (Nat.le_of_ble_eq_true rfl) (by decide) (by decide) (by decide) (Nat.le_refl _) rfl rfl dX8_init_88 ?_
  refine z_callI C0 (nc := 1) (o := a0 + 35) (As := [.int 0]) (rest := [.ref (zb g + (a0 + 35)), .int 0, .ref (zb g + (a0 + 4))]) rfl kc_X6_init.1 kc_X6_init.2.1 kc_X6_init.2.2 (by decide) ⟨by decide, by decide, by decide +kernel⟩ rfl km_RX8_41 (m_X6_init (a0 + 35) (zsq σ a0 [6, 5, 4, 0] (a0 + 3) (fun k => decide (k < 2)) (a0 + 4) (fun k => decide (k < 0))) _ 0 (w := 0) hx35 hw35 (by decide) (by decide) (by decide)) rfl (Nat.le_of_ble_eq_true rfl) (by decide) (by decide) (by decide) (by omega) rfl dX8_init_91 ?_
  rw [zst_zsq σ [6, 5, 4, 0] _ _ (by omega) (by omega) (by omega)]
  refine z_aast C0 (σ1 := zsq σ a0 [6, 5, 4, 0] (a0 + 3) (fun k => decide (k < 2)) (a0 + 4) (fun k => decide (k < 1))) (kind := 23) (len := 10) (t0 := 3) (r := (RX6, TX6, 3)) (j := 0) ⟨by omega, hz6.2.2.1, hz6.2.2.2⟩ (by decide) rfl hx35 (by decide) (by omega) rfl (by decide) rfl hf35 (zsq_sto2 (by omega)) dX8_init_94 ?_
  refine z_iinc (lo1 := [(1, .int 1), (0, .ref (zb g + a0))]) (x := 0) (v := 1) (w := 1) C0 dX8_init_95 0 rfl rfl rfl (by decide) rfl ?_
  refine z_goto C0 70 dX8_init_98 (by decide) ?_
  refine z_iload_n C0 dX8_init_70 rfl 0 rfl ?_
  refine z_bipush C0 dX8_init_71 (v := 10) rfl ?_
  refine z_icmp_ge C0 101 dX8_init_73 (by decide) (fun c => absurd c (by decide : ¬ (10 : Int32) ≤ 1)) (fun _ => ?_)
  refine z_aload_n C0 dX8_init_76 rfl 1 rfl ?_
  refine z_get C0 (v := .ref (zb g + (a0 + 4))) hk (by omega) kf_8_30 (zval_ref zr_8_6 (by unfold zsq; rw [if_pos rfl]; rfl) hz6.1) dX8_init_77 ?_
  refine z_iload_n C0 dX8_init_80 rfl 0 rfl ?_
  refine z_newo (σ' := zsw (zsq σ a0 [6, 5, 4, 0] (a0 + 3) (fun k => decide (k < 2)) (a0 + 4) (fun k => decide (k < 1))) (a0 + 37) []) C0 rfl zcl_6 hx37 kcl_RX8_28 kin_RX6 kii_RX6 zdv_6 (fun j _ _ => zsw_new _ _ _) (fun q hq => zsw_lo _ hq) (by decide) (by decide) dX8_init_81 ?_
  refine z_dup C0 dX8_init_84 rfl ?_
  refine z_iload_n C0 dX8_init_85 rfl 0 rfl ?_
  refine z_iconst C0 dX8_init_86 (v := 2) rfl ?_
  refine z_idiv C0 dX8_init_87 (by decide) ?_
  refine z_nm (show (0 : Int32) = 1 / 2 by decide) ?_
  refine z_callS (As := [.int 0]) (rest := [.ref (zb g + (a0 + 37)), .ref (zb g + (a0 + 37)), .int 1, .ref (zb g + (a0 + 4))]) C0 rfl kc_X5_mostRows km_RX8_35 (r_X5_mostRows 0 (rv := 0) (by decide)) rfl (Nat.le_of_ble_eq_true rfl) (by decide) (by decide) (by decide) (Nat.le_refl _) rfl rfl dX8_init_88 ?_
  refine z_callI C0 (nc := 1) (o := a0 + 37) (As := [.int 0]) (rest := [.ref (zb g + (a0 + 37)), .int 1, .ref (zb g + (a0 + 4))]) rfl kc_X6_init.1 kc_X6_init.2.1 kc_X6_init.2.2 (by decide) ⟨by decide, by decide, by decide +kernel⟩ rfl km_RX8_41 (m_X6_init (a0 + 37) (zsq σ a0 [6, 5, 4, 0] (a0 + 3) (fun k => decide (k < 2)) (a0 + 4) (fun k => decide (k < 1))) _ 0 (w := 0) hx37 hw37 (by decide) (by decide) (by decide)) rfl (Nat.le_of_ble_eq_true rfl) (by decide) (by decide) (by decide) (by omega) rfl dX8_init_91 ?_
  rw [zst_zsq σ [6, 5, 4, 0] _ _ (by omega) (by omega) (by omega)]
  refine z_aast C0 (σ1 := zsq σ a0 [6, 5, 4, 0] (a0 + 3) (fun k => decide (k < 2)) (a0 + 4) (fun k => decide (k < 2))) (kind := 23) (len := 10) (t0 := 3) (r := (RX6, TX6, 3)) (j := 1) ⟨by omega, hz6.2.2.1, hz6.2.2.2⟩ (by decide) rfl hx37 (by decide) (by omega) rfl (by decide) rfl hf37 (zsq_sto2 (by omega)) dX8_init_94 ?_
  refine z_iinc (lo1 := [(1, .int 2), (0, .ref (zb g + a0))]) (x := 1) (v := 2) (w := 1) C0 dX8_init_95 0 rfl rfl rfl (by decide) rfl ?_
  refine z_goto C0 70 dX8_init_98 (by decide) ?_
  refine z_iload_n C0 dX8_init_70 rfl 0 rfl ?_
  refine z_bipush C0 dX8_init_71 (v := 10) rfl ?_
  refine z_icmp_ge C0 101 dX8_init_73 (by decide) (fun c => absurd c (by decide : ¬ (10 : Int32) ≤ 2)) (fun _ => ?_)
  refine z_aload_n C0 dX8_init_76 rfl 1 rfl ?_
  refine z_get C0 (v := .ref (zb g + (a0 + 4))) hk (by omega) kf_8_30 (zval_ref zr_8_6 (by unfold zsq; rw [if_pos rfl]; rfl) hz6.1) dX8_init_77 ?_
  refine z_iload_n C0 dX8_init_80 rfl 0 rfl ?_
  refine z_newo (σ' := zsw (zsq σ a0 [6, 5, 4, 0] (a0 + 3) (fun k => decide (k < 2)) (a0 + 4) (fun k => decide (k < 2))) (a0 + 39) []) C0 rfl zcl_6 hx39 kcl_RX8_28 kin_RX6 kii_RX6 zdv_6 (fun j _ _ => zsw_new _ _ _) (fun q hq => zsw_lo _ hq) (by decide) (by decide) dX8_init_81 ?_
  refine z_dup C0 dX8_init_84 rfl ?_
  refine z_iload_n C0 dX8_init_85 rfl 0 rfl ?_
  refine z_iconst C0 dX8_init_86 (v := 2) rfl ?_
  refine z_idiv C0 dX8_init_87 (by decide) ?_
  refine z_nm (show (1 : Int32) = 2 / 2 by decide) ?_
  refine z_callS (As := [.int 1]) (rest := [.ref (zb g + (a0 + 39)), .ref (zb g + (a0 + 39)), .int 2, .ref (zb g + (a0 + 4))]) C0 rfl kc_X5_mostRows km_RX8_35 (r_X5_mostRows 1 (rv := 40) (by decide)) rfl (Nat.le_of_ble_eq_true rfl) (by decide) (by decide) (by decide) (Nat.le_refl _) rfl rfl dX8_init_88 ?_
  refine z_callI C0 (nc := 1) (o := a0 + 39) (As := [.int 40]) (rest := [.ref (zb g + (a0 + 39)), .int 2, .ref (zb g + (a0 + 4))]) rfl kc_X6_init.1 kc_X6_init.2.1 kc_X6_init.2.2 (by decide) ⟨by decide, by decide, by decide +kernel⟩ rfl km_RX8_41 (m_X6_init (a0 + 39) (zsq σ a0 [6, 5, 4, 0] (a0 + 3) (fun k => decide (k < 2)) (a0 + 4) (fun k => decide (k < 2))) _ 40 (w := 120) hx39 hw39 (by decide) (by decide) (by decide)) rfl (Nat.le_of_ble_eq_true rfl) (by decide) (by decide) (by decide) (by omega) rfl dX8_init_91 ?_
  rw [zst_zsq σ [6, 5, 4, 0] _ _ (by omega) (by omega) (by omega)]
  refine z_aast C0 (σ1 := zsq σ a0 [6, 5, 4, 0] (a0 + 3) (fun k => decide (k < 2)) (a0 + 4) (fun k => decide (k < 3))) (kind := 23) (len := 10) (t0 := 3) (r := (RX6, TX6, 3)) (j := 2) ⟨by omega, hz6.2.2.1, hz6.2.2.2⟩ (by decide) rfl hx39 (by decide) (by omega) rfl (by decide) rfl hf39 (zsq_sto2 (by omega)) dX8_init_94 ?_
  refine z_iinc (lo1 := [(1, .int 3), (0, .ref (zb g + a0))]) (x := 2) (v := 3) (w := 1) C0 dX8_init_95 0 rfl rfl rfl (by decide) rfl ?_
  refine z_goto C0 70 dX8_init_98 (by decide) ?_
  refine z_iload_n C0 dX8_init_70 rfl 0 rfl ?_
  refine z_bipush C0 dX8_init_71 (v := 10) rfl ?_
  refine z_icmp_ge C0 101 dX8_init_73 (by decide) (fun c => absurd c (by decide : ¬ (10 : Int32) ≤ 3)) (fun _ => ?_)
  refine z_aload_n C0 dX8_init_76 rfl 1 rfl ?_
  refine z_get C0 (v := .ref (zb g + (a0 + 4))) hk (by omega) kf_8_30 (zval_ref zr_8_6 (by unfold zsq; rw [if_pos rfl]; rfl) hz6.1) dX8_init_77 ?_
  refine z_iload_n C0 dX8_init_80 rfl 0 rfl ?_
  refine z_newo (σ' := zsw (zsq σ a0 [6, 5, 4, 0] (a0 + 3) (fun k => decide (k < 2)) (a0 + 4) (fun k => decide (k < 3))) (a0 + 41) []) C0 rfl zcl_6 hx41 kcl_RX8_28 kin_RX6 kii_RX6 zdv_6 (fun j _ _ => zsw_new _ _ _) (fun q hq => zsw_lo _ hq) (by decide) (by decide) dX8_init_81 ?_
  refine z_dup C0 dX8_init_84 rfl ?_
  refine z_iload_n C0 dX8_init_85 rfl 0 rfl ?_
  refine z_iconst C0 dX8_init_86 (v := 2) rfl ?_
  refine z_idiv C0 dX8_init_87 (by decide) ?_
  refine z_nm (show (1 : Int32) = 3 / 2 by decide) ?_
  refine z_callS (As := [.int 1]) (rest := [.ref (zb g + (a0 + 41)), .ref (zb g + (a0 + 41)), .int 3, .ref (zb g + (a0 + 4))]) C0 rfl kc_X5_mostRows km_RX8_35 (r_X5_mostRows 1 (rv := 40) (by decide)) rfl (Nat.le_of_ble_eq_true rfl) (by decide) (by decide) (by decide) (Nat.le_refl _) rfl rfl dX8_init_88 ?_
  refine z_callI C0 (nc := 1) (o := a0 + 41) (As := [.int 40]) (rest := [.ref (zb g + (a0 + 41)), .int 3, .ref (zb g + (a0 + 4))]) rfl kc_X6_init.1 kc_X6_init.2.1 kc_X6_init.2.2 (by decide) ⟨by decide, by decide, by decide +kernel⟩ rfl km_RX8_41 (m_X6_init (a0 + 41) (zsq σ a0 [6, 5, 4, 0] (a0 + 3) (fun k => decide (k < 2)) (a0 + 4) (fun k => decide (k < 3))) _ 40 (w := 120) hx41 hw41 (by decide) (by decide) (by decide)) rfl (Nat.le_of_ble_eq_true rfl) (by decide) (by decide) (by decide) (by omega) rfl dX8_init_91 ?_
  rw [zst_zsq σ [6, 5, 4, 0] _ _ (by omega) (by omega) (by omega)]
  refine z_aast C0 (σ1 := zsq σ a0 [6, 5, 4, 0] (a0 + 3) (fun k => decide (k < 2)) (a0 + 4) (fun k => decide (k < 4))) (kind := 23) (len := 10) (t0 := 3) (r := (RX6, TX6, 3)) (j := 3) ⟨by omega, hz6.2.2.1, hz6.2.2.2⟩ (by decide) rfl hx41 (by decide) (by omega) rfl (by decide) rfl hf41 (zsq_sto2 (by omega)) dX8_init_94 ?_
  refine z_iinc (lo1 := [(1, .int 4), (0, .ref (zb g + a0))]) (x := 3) (v := 4) (w := 1) C0 dX8_init_95 0 rfl rfl rfl (by decide) rfl ?_
  refine z_goto C0 70 dX8_init_98 (by decide) ?_
  refine z_iload_n C0 dX8_init_70 rfl 0 rfl ?_
  refine z_bipush C0 dX8_init_71 (v := 10) rfl ?_
  refine z_icmp_ge C0 101 dX8_init_73 (by decide) (fun c => absurd c (by decide : ¬ (10 : Int32) ≤ 4)) (fun _ => ?_)
  refine z_aload_n C0 dX8_init_76 rfl 1 rfl ?_
  refine z_get C0 (v := .ref (zb g + (a0 + 4))) hk (by omega) kf_8_30 (zval_ref zr_8_6 (by unfold zsq; rw [if_pos rfl]; rfl) hz6.1) dX8_init_77 ?_
  refine z_iload_n C0 dX8_init_80 rfl 0 rfl ?_
  refine z_newo (σ' := zsw (zsq σ a0 [6, 5, 4, 0] (a0 + 3) (fun k => decide (k < 2)) (a0 + 4) (fun k => decide (k < 4))) (a0 + 43) []) C0 rfl zcl_6 hx43 kcl_RX8_28 kin_RX6 kii_RX6 zdv_6 (fun j _ _ => zsw_new _ _ _) (fun q hq => zsw_lo _ hq) (by decide) (by decide) dX8_init_81 ?_
  refine z_dup C0 dX8_init_84 rfl ?_
  refine z_iload_n C0 dX8_init_85 rfl 0 rfl ?_
  refine z_iconst C0 dX8_init_86 (v := 2) rfl ?_
  refine z_idiv C0 dX8_init_87 (by decide) ?_
  refine z_nm (show (2 : Int32) = 4 / 2 by decide) ?_
  refine z_callS (As := [.int 2]) (rest := [.ref (zb g + (a0 + 43)), .ref (zb g + (a0 + 43)), .int 4, .ref (zb g + (a0 + 4))]) C0 rfl kc_X5_mostRows km_RX8_35 (r_X5_mostRows 2 (rv := 8) (by decide)) rfl (Nat.le_of_ble_eq_true rfl) (by decide) (by decide) (by decide) (Nat.le_refl _) rfl rfl dX8_init_88 ?_
  refine z_callI C0 (nc := 1) (o := a0 + 43) (As := [.int 8]) (rest := [.ref (zb g + (a0 + 43)), .int 4, .ref (zb g + (a0 + 4))]) rfl kc_X6_init.1 kc_X6_init.2.1 kc_X6_init.2.2 (by decide) ⟨by decide, by decide, by decide +kernel⟩ rfl km_RX8_41 (m_X6_init (a0 + 43) (zsq σ a0 [6, 5, 4, 0] (a0 + 3) (fun k => decide (k < 2)) (a0 + 4) (fun k => decide (k < 4))) _ 8 (w := 24) hx43 hw43 (by decide) (by decide) (by decide)) rfl (Nat.le_of_ble_eq_true rfl) (by decide) (by decide) (by decide) (by omega) rfl dX8_init_91 ?_
  rw [zst_zsq σ [6, 5, 4, 0] _ _ (by omega) (by omega) (by omega)]
  refine z_aast C0 (σ1 := zsq σ a0 [6, 5, 4, 0] (a0 + 3) (fun k => decide (k < 2)) (a0 + 4) (fun k => decide (k < 5))) (kind := 23) (len := 10) (t0 := 3) (r := (RX6, TX6, 3)) (j := 4) ⟨by omega, hz6.2.2.1, hz6.2.2.2⟩ (by decide) rfl hx43 (by decide) (by omega) rfl (by decide) rfl hf43 (zsq_sto2 (by omega)) dX8_init_94 ?_
  refine z_iinc (lo1 := [(1, .int 5), (0, .ref (zb g + a0))]) (x := 4) (v := 5) (w := 1) C0 dX8_init_95 0 rfl rfl rfl (by decide) rfl ?_
  refine z_goto C0 70 dX8_init_98 (by decide) ?_
  refine z_iload_n C0 dX8_init_70 rfl 0 rfl ?_
  refine z_bipush C0 dX8_init_71 (v := 10) rfl ?_
  refine z_icmp_ge C0 101 dX8_init_73 (by decide) (fun c => absurd c (by decide : ¬ (10 : Int32) ≤ 5)) (fun _ => ?_)
  refine z_aload_n C0 dX8_init_76 rfl 1 rfl ?_
  refine z_get C0 (v := .ref (zb g + (a0 + 4))) hk (by omega) kf_8_30 (zval_ref zr_8_6 (by unfold zsq; rw [if_pos rfl]; rfl) hz6.1) dX8_init_77 ?_
  refine z_iload_n C0 dX8_init_80 rfl 0 rfl ?_
  refine z_newo (σ' := zsw (zsq σ a0 [6, 5, 4, 0] (a0 + 3) (fun k => decide (k < 2)) (a0 + 4) (fun k => decide (k < 5))) (a0 + 45) []) C0 rfl zcl_6 hx45 kcl_RX8_28 kin_RX6 kii_RX6 zdv_6 (fun j _ _ => zsw_new _ _ _) (fun q hq => zsw_lo _ hq) (by decide) (by decide) dX8_init_81 ?_
  refine z_dup C0 dX8_init_84 rfl ?_
  refine z_iload_n C0 dX8_init_85 rfl 0 rfl ?_
  refine z_iconst C0 dX8_init_86 (v := 2) rfl ?_
  refine z_idiv C0 dX8_init_87 (by decide) ?_
  refine z_nm (show (2 : Int32) = 5 / 2 by decide) ?_
  refine z_callS (As := [.int 2]) (rest := [.ref (zb g + (a0 + 45)), .ref (zb g + (a0 + 45)), .int 5, .ref (zb g + (a0 + 4))]) C0 rfl kc_X5_mostRows km_RX8_35 (r_X5_mostRows 2 (rv := 8) (by decide)) rfl (Nat.le_of_ble_eq_true rfl) (by decide) (by decide) (by decide) (Nat.le_refl _) rfl rfl dX8_init_88 ?_
  refine z_callI C0 (nc := 1) (o := a0 + 45) (As := [.int 8]) (rest := [.ref (zb g + (a0 + 45)), .int 5, .ref (zb g + (a0 + 4))]) rfl kc_X6_init.1 kc_X6_init.2.1 kc_X6_init.2.2 (by decide) ⟨by decide, by decide, by decide +kernel⟩ rfl km_RX8_41 (m_X6_init (a0 + 45) (zsq σ a0 [6, 5, 4, 0] (a0 + 3) (fun k => decide (k < 2)) (a0 + 4) (fun k => decide (k < 5))) _ 8 (w := 24) hx45 hw45 (by decide) (by decide) (by decide)) rfl (Nat.le_of_ble_eq_true rfl) (by decide) (by decide) (by decide) (by omega) rfl dX8_init_91 ?_
  rw [zst_zsq σ [6, 5, 4, 0] _ _ (by omega) (by omega) (by omega)]
  refine z_aast C0 (σ1 := zsq σ a0 [6, 5, 4, 0] (a0 + 3) (fun k => decide (k < 2)) (a0 + 4) (fun k => decide (k < 6))) (kind := 23) (len := 10) (t0 := 3) (r := (RX6, TX6, 3)) (j := 5) ⟨by omega, hz6.2.2.1, hz6.2.2.2⟩ (by decide) rfl hx45 (by decide) (by omega) rfl (by decide) rfl hf45 (zsq_sto2 (by omega)) dX8_init_94 ?_
  refine z_iinc (lo1 := [(1, .int 6), (0, .ref (zb g + a0))]) (x := 5) (v := 6) (w := 1) C0 dX8_init_95 0 rfl rfl rfl (by decide) rfl ?_
  refine z_goto C0 70 dX8_init_98 (by decide) ?_
  refine z_iload_n C0 dX8_init_70 rfl 0 rfl ?_
  refine z_bipush C0 dX8_init_71 (v := 10) rfl ?_
  refine z_icmp_ge C0 101 dX8_init_73 (by decide) (fun c => absurd c (by decide : ¬ (10 : Int32) ≤ 6)) (fun _ => ?_)
  refine z_aload_n C0 dX8_init_76 rfl 1 rfl ?_
  refine z_get C0 (v := .ref (zb g + (a0 + 4))) hk (by omega) kf_8_30 (zval_ref zr_8_6 (by unfold zsq; rw [if_pos rfl]; rfl) hz6.1) dX8_init_77 ?_
  refine z_iload_n C0 dX8_init_80 rfl 0 rfl ?_
  refine z_newo (σ' := zsw (zsq σ a0 [6, 5, 4, 0] (a0 + 3) (fun k => decide (k < 2)) (a0 + 4) (fun k => decide (k < 6))) (a0 + 47) []) C0 rfl zcl_6 hx47 kcl_RX8_28 kin_RX6 kii_RX6 zdv_6 (fun j _ _ => zsw_new _ _ _) (fun q hq => zsw_lo _ hq) (by decide) (by decide) dX8_init_81 ?_
  refine z_dup C0 dX8_init_84 rfl ?_
  refine z_iload_n C0 dX8_init_85 rfl 0 rfl ?_
  refine z_iconst C0 dX8_init_86 (v := 2) rfl ?_
  refine z_idiv C0 dX8_init_87 (by decide) ?_
  refine z_nm (show (3 : Int32) = 6 / 2 by decide) ?_
  refine z_callS (As := [.int 3]) (rest := [.ref (zb g + (a0 + 47)), .ref (zb g + (a0 + 47)), .int 6, .ref (zb g + (a0 + 4))]) C0 rfl kc_X5_mostRows km_RX8_35 (r_X5_mostRows 3 (rv := 8) (by decide)) rfl (Nat.le_of_ble_eq_true rfl) (by decide) (by decide) (by decide) (Nat.le_refl _) rfl rfl dX8_init_88 ?_
  refine z_callI C0 (nc := 1) (o := a0 + 47) (As := [.int 8]) (rest := [.ref (zb g + (a0 + 47)), .int 6, .ref (zb g + (a0 + 4))]) rfl kc_X6_init.1 kc_X6_init.2.1 kc_X6_init.2.2 (by decide) ⟨by decide, by decide, by decide +kernel⟩ rfl km_RX8_41 (m_X6_init (a0 + 47) (zsq σ a0 [6, 5, 4, 0] (a0 + 3) (fun k => decide (k < 2)) (a0 + 4) (fun k => decide (k < 6))) _ 8 (w := 24) hx47 hw47 (by decide) (by decide) (by decide)) rfl (Nat.le_of_ble_eq_true rfl) (by decide) (by decide) (by decide) (by omega) rfl dX8_init_91 ?_
  rw [zst_zsq σ [6, 5, 4, 0] _ _ (by omega) (by omega) (by omega)]
  refine z_aast C0 (σ1 := zsq σ a0 [6, 5, 4, 0] (a0 + 3) (fun k => decide (k < 2)) (a0 + 4) (fun k => decide (k < 7))) (kind := 23) (len := 10) (t0 := 3) (r := (RX6, TX6, 3)) (j := 6) ⟨by omega, hz6.2.2.1, hz6.2.2.2⟩ (by decide) rfl hx47 (by decide) (by omega) rfl (by decide) rfl hf47 (zsq_sto2 (by omega)) dX8_init_94 ?_
  refine z_iinc (lo1 := [(1, .int 7), (0, .ref (zb g + a0))]) (x := 6) (v := 7) (w := 1) C0 dX8_init_95 0 rfl rfl rfl (by decide) rfl ?_
  refine z_goto C0 70 dX8_init_98 (by decide) ?_
  refine z_iload_n C0 dX8_init_70 rfl 0 rfl ?_
  refine z_bipush C0 dX8_init_71 (v := 10) rfl ?_
  refine z_icmp_ge C0 101 dX8_init_73 (by decide) (fun c => absurd c (by decide : ¬ (10 : Int32) ≤ 7)) (fun _ => ?_)
  refine z_aload_n C0 dX8_init_76 rfl 1 rfl ?_
  refine z_get C0 (v := .ref (zb g + (a0 + 4))) hk (by omega) kf_8_30 (zval_ref zr_8_6 (by unfold zsq; rw [if_pos rfl]; rfl) hz6.1) dX8_init_77 ?_
  refine z_iload_n C0 dX8_init_80 rfl 0 rfl ?_
  refine z_newo (σ' := zsw (zsq σ a0 [6, 5, 4, 0] (a0 + 3) (fun k => decide (k < 2)) (a0 + 4) (fun k => decide (k < 7))) (a0 + 49) []) C0 rfl zcl_6 hx49 kcl_RX8_28 kin_RX6 kii_RX6 zdv_6 (fun j _ _ => zsw_new _ _ _) (fun q hq => zsw_lo _ hq) (by decide) (by decide) dX8_init_81 ?_
  refine z_dup C0 dX8_init_84 rfl ?_
  refine z_iload_n C0 dX8_init_85 rfl 0 rfl ?_
  refine z_iconst C0 dX8_init_86 (v := 2) rfl ?_
  refine z_idiv C0 dX8_init_87 (by decide) ?_
  refine z_nm (show (3 : Int32) = 7 / 2 by decide) ?_
  refine z_callS (As := [.int 3]) (rest := [.ref (zb g + (a0 + 49)), .ref (zb g + (a0 + 49)), .int 7, .ref (zb g + (a0 + 4))]) C0 rfl kc_X5_mostRows km_RX8_35 (r_X5_mostRows 3 (rv := 8) (by decide)) rfl (Nat.le_of_ble_eq_true rfl) (by decide) (by decide) (by decide) (Nat.le_refl _) rfl rfl dX8_init_88 ?_
  refine z_callI C0 (nc := 1) (o := a0 + 49) (As := [.int 8]) (rest := [.ref (zb g + (a0 + 49)), .int 7, .ref (zb g + (a0 + 4))]) rfl kc_X6_init.1 kc_X6_init.2.1 kc_X6_init.2.2 (by decide) ⟨by decide, by decide, by decide +kernel⟩ rfl km_RX8_41 (m_X6_init (a0 + 49) (zsq σ a0 [6, 5, 4, 0] (a0 + 3) (fun k => decide (k < 2)) (a0 + 4) (fun k => decide (k < 7))) _ 8 (w := 24) hx49 hw49 (by decide) (by decide) (by decide)) rfl (Nat.le_of_ble_eq_true rfl) (by decide) (by decide) (by decide) (by omega) rfl dX8_init_91 ?_
  rw [zst_zsq σ [6, 5, 4, 0] _ _ (by omega) (by omega) (by omega)]
  refine z_aast C0 (σ1 := zsq σ a0 [6, 5, 4, 0] (a0 + 3) (fun k => decide (k < 2)) (a0 + 4) (fun k => decide (k < 8))) (kind := 23) (len := 10) (t0 := 3) (r := (RX6, TX6, 3)) (j := 7) ⟨by omega, hz6.2.2.1, hz6.2.2.2⟩ (by decide) rfl hx49 (by decide) (by omega) rfl (by decide) rfl hf49 (zsq_sto2 (by omega)) dX8_init_94 ?_
  refine z_iinc (lo1 := [(1, .int 8), (0, .ref (zb g + a0))]) (x := 7) (v := 8) (w := 1) C0 dX8_init_95 0 rfl rfl rfl (by decide) rfl ?_
  refine z_goto C0 70 dX8_init_98 (by decide) ?_
  refine z_iload_n C0 dX8_init_70 rfl 0 rfl ?_
  refine z_bipush C0 dX8_init_71 (v := 10) rfl ?_
  refine z_icmp_ge C0 101 dX8_init_73 (by decide) (fun c => absurd c (by decide : ¬ (10 : Int32) ≤ 8)) (fun _ => ?_)
  refine z_aload_n C0 dX8_init_76 rfl 1 rfl ?_
  refine z_get C0 (v := .ref (zb g + (a0 + 4))) hk (by omega) kf_8_30 (zval_ref zr_8_6 (by unfold zsq; rw [if_pos rfl]; rfl) hz6.1) dX8_init_77 ?_
  refine z_iload_n C0 dX8_init_80 rfl 0 rfl ?_
  refine z_newo (σ' := zsw (zsq σ a0 [6, 5, 4, 0] (a0 + 3) (fun k => decide (k < 2)) (a0 + 4) (fun k => decide (k < 8))) (a0 + 51) []) C0 rfl zcl_6 hx51 kcl_RX8_28 kin_RX6 kii_RX6 zdv_6 (fun j _ _ => zsw_new _ _ _) (fun q hq => zsw_lo _ hq) (by decide) (by decide) dX8_init_81 ?_
  refine z_dup C0 dX8_init_84 rfl ?_
  refine z_iload_n C0 dX8_init_85 rfl 0 rfl ?_
  refine z_iconst C0 dX8_init_86 (v := 2) rfl ?_
  refine z_idiv C0 dX8_init_87 (by decide) ?_
  refine z_nm (show (4 : Int32) = 8 / 2 by decide) ?_
  refine z_callS (As := [.int 4]) (rest := [.ref (zb g + (a0 + 51)), .ref (zb g + (a0 + 51)), .int 8, .ref (zb g + (a0 + 4))]) C0 rfl kc_X5_mostRows km_RX8_35 (r_X5_mostRows 4 (rv := 8) (by decide)) rfl (Nat.le_of_ble_eq_true rfl) (by decide) (by decide) (by decide) (Nat.le_refl _) rfl rfl dX8_init_88 ?_
  refine z_callI C0 (nc := 1) (o := a0 + 51) (As := [.int 8]) (rest := [.ref (zb g + (a0 + 51)), .int 8, .ref (zb g + (a0 + 4))]) rfl kc_X6_init.1 kc_X6_init.2.1 kc_X6_init.2.2 (by decide) ⟨by decide, by decide, by decide +kernel⟩ rfl km_RX8_41 (m_X6_init (a0 + 51) (zsq σ a0 [6, 5, 4, 0] (a0 + 3) (fun k => decide (k < 2)) (a0 + 4) (fun k => decide (k < 8))) _ 8 (w := 24) hx51 hw51 (by decide) (by decide) (by decide)) rfl (Nat.le_of_ble_eq_true rfl) (by decide) (by decide) (by decide) (by omega) rfl dX8_init_91 ?_
  rw [zst_zsq σ [6, 5, 4, 0] _ _ (by omega) (by omega) (by omega)]
  refine z_aast C0 (σ1 := zsq σ a0 [6, 5, 4, 0] (a0 + 3) (fun k => decide (k < 2)) (a0 + 4) (fun k => decide (k < 9))) (kind := 23) (len := 10) (t0 := 3) (r := (RX6, TX6, 3)) (j := 8) ⟨by omega, hz6.2.2.1, hz6.2.2.2⟩ (by decide) rfl hx51 (by decide) (by omega) rfl (by decide) rfl hf51 (zsq_sto2 (by omega)) dX8_init_94 ?_
  refine z_iinc (lo1 := [(1, .int 9), (0, .ref (zb g + a0))]) (x := 8) (v := 9) (w := 1) C0 dX8_init_95 0 rfl rfl rfl (by decide) rfl ?_
  refine z_goto C0 70 dX8_init_98 (by decide) ?_
  refine z_iload_n C0 dX8_init_70 rfl 0 rfl ?_
  refine z_bipush C0 dX8_init_71 (v := 10) rfl ?_
  refine z_icmp_ge C0 101 dX8_init_73 (by decide) (fun c => absurd c (by decide : ¬ (10 : Int32) ≤ 9)) (fun _ => ?_)
  refine z_aload_n C0 dX8_init_76 rfl 1 rfl ?_
  refine z_get C0 (v := .ref (zb g + (a0 + 4))) hk (by omega) kf_8_30 (zval_ref zr_8_6 (by unfold zsq; rw [if_pos rfl]; rfl) hz6.1) dX8_init_77 ?_
  refine z_iload_n C0 dX8_init_80 rfl 0 rfl ?_
  refine z_newo (σ' := zsw (zsq σ a0 [6, 5, 4, 0] (a0 + 3) (fun k => decide (k < 2)) (a0 + 4) (fun k => decide (k < 9))) (a0 + 53) []) C0 rfl zcl_6 hx53 kcl_RX8_28 kin_RX6 kii_RX6 zdv_6 (fun j _ _ => zsw_new _ _ _) (fun q hq => zsw_lo _ hq) (by decide) (by decide) dX8_init_81 ?_
  refine z_dup C0 dX8_init_84 rfl ?_
  refine z_iload_n C0 dX8_init_85 rfl 0 rfl ?_
  refine z_iconst C0 dX8_init_86 (v := 2) rfl ?_
  refine z_idiv C0 dX8_init_87 (by decide) ?_
  refine z_nm (show (4 : Int32) = 9 / 2 by decide) ?_
  refine z_callS (As := [.int 4]) (rest := [.ref (zb g + (a0 + 53)), .ref (zb g + (a0 + 53)), .int 9, .ref (zb g + (a0 + 4))]) C0 rfl kc_X5_mostRows km_RX8_35 (r_X5_mostRows 4 (rv := 8) (by decide)) rfl (Nat.le_of_ble_eq_true rfl) (by decide) (by decide) (by decide) (Nat.le_refl _) rfl rfl dX8_init_88 ?_
  refine z_callI C0 (nc := 1) (o := a0 + 53) (As := [.int 8]) (rest := [.ref (zb g + (a0 + 53)), .int 9, .ref (zb g + (a0 + 4))]) rfl kc_X6_init.1 kc_X6_init.2.1 kc_X6_init.2.2 (by decide) ⟨by decide, by decide, by decide +kernel⟩ rfl km_RX8_41 (m_X6_init (a0 + 53) (zsq σ a0 [6, 5, 4, 0] (a0 + 3) (fun k => decide (k < 2)) (a0 + 4) (fun k => decide (k < 9))) _ 8 (w := 24) hx53 hw53 (by decide) (by decide) (by decide)) rfl (Nat.le_of_ble_eq_true rfl) (by decide) (by decide) (by decide) (by omega) rfl dX8_init_91 ?_
  rw [zst_zsq σ [6, 5, 4, 0] _ _ (by omega) (by omega) (by omega)]
  refine z_aast C0 (σ1 := zsq σ a0 [6, 5, 4, 0] (a0 + 3) (fun k => decide (k < 2)) (a0 + 4) (fun k => decide (k < 10))) (kind := 23) (len := 10) (t0 := 3) (r := (RX6, TX6, 3)) (j := 9) ⟨by omega, hz6.2.2.1, hz6.2.2.2⟩ (by decide) rfl hx53 (by decide) (by omega) rfl (by decide) rfl hf53 (zsq_sto2 (by omega)) dX8_init_94 ?_
  refine z_iinc (lo1 := [(1, .int 10), (0, .ref (zb g + a0))]) (x := 9) (v := 10) (w := 1) C0 dX8_init_95 0 rfl rfl rfl (by decide) rfl ?_
  refine z_goto C0 70 dX8_init_98 (by decide) ?_
  refine z_iload_n C0 dX8_init_70 rfl 0 rfl ?_
  refine z_bipush C0 dX8_init_71 (v := 10) rfl ?_
  refine z_icmp_ge C0 101 dX8_init_73 (by decide) (fun _ => ?_) (fun c => absurd (by decide : (10 : Int32) ≤ 10) c)
  refine z_sigA (zsq_end (ks := [6, 5, 4, 0]) hk (by decide) (by decide +kernel) ⟨by omega, Or.inl (by omega)⟩ (by have := hz5.2.2.1; omega) (Or.inl (by have := hz6.2.2.1; omega)) (fun k h => decide_eq_true (by have := hz5.2.2.2; omega)) (fun k h => decide_eq_true (by have := hz6.2.2.2; omega))) ?_
  obtain rfl := Option.some.inj h
  exact z_vret C0 rfl dX8_init_101
