theorem zfx_5_0 : ∀ a, a < zNN → zkd a = 5 → zkd (a + 1) = 1 ∧ (zkd (a + 17) = 20 ∧ zln (a + 17) = 0) ∧ zkd (a + 19) = 6 ∧ zln (a + 19 + 1) = 0 ∧ zFX (a + 16) 0 = a + 19 := by decide +kernel
theorem zfx_5_1 : ∀ a, a < zNN → zkd a = 5 → zkd (a + 21) = 6 ∧ zln (a + 21 + 1) = 120 ∧ zFX (a + 16) 1 = a + 21 ∧ zkd (a + 23) = 6 ∧ zln (a + 23 + 1) = 24 := by decide +kernel
theorem zfx_5_2 : ∀ a, a < zNN → zkd a = 5 → zFX (a + 16) 2 = a + 23 ∧ zkd (a + 25) = 6 ∧ zln (a + 25 + 1) = 24 ∧ zFX (a + 16) 3 = a + 25 ∧ zkd (a + 27) = 6 := by decide +kernel
theorem zfx_5_3 : ∀ a, a < zNN → zkd a = 5 → zln (a + 27 + 1) = 24 ∧ zFX (a + 16) 4 = a + 27 := by decide +kernel
def f_X5_init (a0 : Nat) (μ : zM) : Option zM :=
  zbd (f_X1_init (a0 + 1) (znew μ (a0 + 1) 1)) fun μ1 =>
  some (i_X6 (a0 + 27) 8 (i_X6 (a0 + 25) 8 (i_X6 (a0 + 23) 8 (i_X6 (a0 + 21) 40 (i_X6 (a0 + 19) 0 (zupr (zup (zupr (zup μ1 a0 3 (-1)) (a0 + 17) (fun _ => 0)) a0 4 (nI (a0 + 17))) (a0 + 18) (fun _ => 0)))))))
set_option maxHeartbeats 4000000 in
set_option maxRecDepth 100000 in
theorem m_X5_init {l : Launch} {g : zL} {κ : zK} (a0 : Nat) (σ : Nat → Nat → Bool) (μ : zM) (hA : zAO g) (hSp : zSK g κ) (hk : zkd a0 = 5) {μr : zM} (h : f_X5_init a0 μ = some μr) : zMet l g yX5_init cX5_init 2 none 3 28 440 (a0 + 1) (a0 + 29) (zsw σ a0 []) (zst σ a0) [.ref (zb g + a0)] μ none μr := by
  have ha0 : a0 < 324 := zkd_lt (by omega)
  unfold f_X5_init at h
  obtain ⟨hx1, hx17, hx19, hw19, hf19⟩ := zfx_5_0 a0 ha0 hk
  obtain ⟨hx21, hw21, hf21, hx23, hw23⟩ := zfx_5_1 a0 ha0 hk
  obtain ⟨hf23, hx25, hw25, hf25, hx27⟩ := zfx_5_2 a0 ha0 hk
  obtain ⟨hw27, hf27⟩ := zfx_5_3 a0 ha0 hk
  have hz0 := zs_5_0 (zT_of hk (by decide))
  have hz1 := zs_5_1 (zT_of hk (by decide))
  have hz10 := zs_5_10 (zT_of hk (by decide))
  refine zMet.of (by decide +kernel) (Nat.le_of_ble_eq_true rfl) ?_
  intro p e s m args below meth c C0
  refine z_loc (lo1 := [(0, .ref (zb g + a0))]) rfl ?_
  refine z_aload_n C0 dX5_init_0 rfl 0 rfl ?_
  refine z_oini C0 rfl (by decide) kO_RX5_3 kO_i kO_b kO_c dX5_init_1 ?_
  refine z_aload_n C0 dX5_init_4 rfl 0 rfl ?_
  refine z_newo (σ' := zsw (zsw σ a0 []) (a0 + 1) []) C0 rfl zcl_1 hx1 kcl_RX5_9 kin_RX1 kii_RX1 zdv_1 (fun j _ _ => zsw_new _ _ _) (fun q hq => zsw_lo _ hq) (by decide) (by decide) dX5_init_5 ?_
  refine z_dup C0 dX5_init_8 rfl ?_
  obtain ⟨μ1, e1, h⟩ := zbd_of h
  refine z_callI C0 (nc := 0) (o := a0 + 1) (As := []) (rest := [.ref (zb g + (a0 + 1)), .ref (zb g + a0)]) rfl kc_X1_init.1 kc_X1_init.2.1 kc_X1_init.2.2 (by decide) ⟨by decide, by decide, by decide +kernel⟩ rfl km_RX5_11 (m_X1_init (κ := κ) (a0 + 1) (zsw σ a0 []) _  hSp hx1 e1) rfl (Nat.le_of_ble_eq_true rfl) (by decide) (by decide) (by decide) (by omega) rfl dX5_init_9 ?_
  rw [zst_zsw σ [] (by omega)]
  refine z_putr C0 (σ1 := zsw σ a0 [0]) hk (by omega) kf_5_12 zpf_5_0 rfl (fun q => ⟨rfl, rfl⟩) zr_5_0 hz0.1 (zsw_put σ a0 [] 0 _) dX5_init_12 ?_
  refine z_aload_n C0 dX5_init_15 rfl 0 rfl ?_
  refine z_iconst C0 dX5_init_16 (v := 5) rfl ?_
  refine z_newq C0 (t0 := 3) (kind := 23) (len := 5) (σ' := zsq σ a0 [0] (a0 + 16) (fun k => decide (k < 0)) a0 (fun _ => true)) rfl kcl_RX5_18 (hA s C0.2.2.2.2.2.2.2.1).2.1 rfl hz1.2.2.1 (by decide) hz1.2.2.2 (by decide) (by decide) (by decide) (by decide) (by decide) (fun j => zsq_new1 (by omega)) (fun q hq => zsq_old1 hq) dX5_init_17 ?_
  refine z_putr C0 (σ1 := zsq σ a0 [1, 0] (a0 + 16) (fun k => decide (k < 0)) a0 (fun _ => true)) hk (by omega) kf_5_20 zpf_5_1 rfl (fun q => ⟨rfl, rfl⟩) zr_5_1 hz1.1 (zsq_put σ a0 [0] 1 _ _ _ _ _) dX5_init_20 ?_
  refine z_aload_n C0 dX5_init_23 rfl 0 rfl ?_
  refine z_iconst C0 dX5_init_24 (v := -1) (by decide) ?_
  refine z_puti C0 hk (by omega) kf_5_24 zp_5_3 zr_5_3 rfl dX5_init_25 ?_
  refine z_aload_n C0 dX5_init_28 rfl 0 rfl ?_
  refine z_iconst C0 dX5_init_29 (v := 0) rfl ?_
  refine z_newA C0 (len := 0) (t0 := 0) (kind := 20) (ty := .int) rfl rfl rfl hx17.1 (by decide) hx17.2 kar_int (Or.inl rfl) (by decide) (by decide) (by decide) (by decide) (by decide) dX5_init_30 ?_
  refine z_putd C0 (b := a0 + 17) hk (by omega) kf_5_28 zp_5_4 zr_5_4 (fun q => ⟨rfl, rfl⟩) rfl (by omega) rfl dX5_init_32 ?_
  refine z_aload_n C0 dX5_init_35 rfl 0 rfl ?_
  refine z_iconst C0 dX5_init_36 (v := 3) rfl ?_
  refine z_newA C0 (len := 3) (t0 := 0) (kind := 20) (ty := .int) rfl rfl rfl hz10.2.2.1 (by decide) hz10.2.2.2 kar_int (Or.inl rfl) (by decide) (by decide) (by decide) (by decide) (by decide) dX5_init_37 ?_
  refine z_putr C0 (σ1 := zsq σ a0 [10, 1, 0] (a0 + 16) (fun k => decide (k < 0)) a0 (fun _ => true)) hk (by omega) kf_5_32 zpf_5_10 rfl (fun q => ⟨rfl, rfl⟩) zr_5_10 hz10.1 (zsq_put σ a0 [1, 0] 10 _ _ _ _ _) dX5_init_39 ?_
  refine z_iconst C0 dX5_init_42 (v := 0) rfl ?_
  refine z_istore_n (lo1 := [(1, .int 0), (0, .ref (zb g + a0))]) C0 dX5_init_43 rfl (by decide) rfl ?_
  refine z_iload_n C0 dX5_init_44 rfl 0 rfl ?_
  refine z_iconst C0 dX5_init_45 (v := 5) rfl ?_
  refine z_icmp_ge C0 72 dX5_init_46 (by decide) (fun c => absurd c (by decide : ¬ (5 : Int32) ≤ 0)) (fun _ => ?_)
  refine z_aload_n C0 dX5_init_49 rfl 1 rfl ?_
  refine z_get C0 (v := .ref (zb g + (a0 + 16))) hk (by omega) kf_5_20 (zval_ref zr_5_1 (by unfold zsq; rw [if_pos rfl]; rfl) hz1.1) dX5_init_50 ?_
  refine z_iload_n C0 dX5_init_53 rfl 0 rfl ?_
  refine z_newo (σ' := zsw (zsq σ a0 [10, 1, 0] (a0 + 16) (fun k => decide (k < 0)) a0 (fun _ => true)) (a0 + 19) []) C0 rfl zcl_6 hx19 kcl_RX5_18 kin_RX6 kii_RX6 zdv_6 (fun j _ _ => zsw_new _ _ _) (fun q hq => zsw_lo _ hq) (by decide) (by decide) dX5_init_54 ?_
  refine z_dup C0 dX5_init_57 rfl ?_
  refine z_iload_n C0 dX5_init_58 rfl 0 rfl ?_
  refine z_callS (As := [.int 0]) (rest := [.ref (zb g + (a0 + 19)), .ref (zb g + (a0 + 19)), .int 0, .ref (zb g + (a0 + 16))]) C0 rfl kc_X5_mostRows km_RX5_35 (r_X5_mostRows 0 (rv := 0) (by decide)) rfl (Nat.le_of_ble_eq_true rfl) (by decide) (by decide) (by decide) (Nat.le_refl _) rfl rfl dX5_init_59 ?_
  refine z_callI C0 (nc := 1) (o := a0 + 19) (As := [.int 0]) (rest := [.ref (zb g + (a0 + 19)), .int 0, .ref (zb g + (a0 + 16))]) rfl kc_X6_init.1 kc_X6_init.2.1 kc_X6_init.2.2 (by decide) ⟨by decide, by decide, by decide +kernel⟩ rfl km_RX5_39 (m_X6_init (a0 + 19) (zsq σ a0 [10, 1, 0] (a0 + 16) (fun k => decide (k < 0)) a0 (fun _ => true)) _ 0 (w := 0) hx19 hw19 (by decide) (by decide) (by decide)) rfl (Nat.le_of_ble_eq_true rfl) (by decide) (by decide) (by decide) (by omega) rfl dX5_init_62 ?_
  rw [zst_zsq σ [10, 1, 0] _ _ (by omega) (by omega) (by omega)]
  refine z_aast C0 (σ1 := zsq σ a0 [10, 1, 0] (a0 + 16) (fun k => decide (k < 1)) a0 (fun _ => true)) (kind := 23) (len := 5) (t0 := 3) (r := (RX6, TX6, 3)) (j := 0) ⟨by omega, hz1.2.2.1, hz1.2.2.2⟩ (by decide) rfl hx19 (by decide) (by omega) rfl (by decide) rfl hf19 (zsq_sto1 (by omega)) dX5_init_65 ?_
  refine z_iinc (lo1 := [(1, .int 1), (0, .ref (zb g + a0))]) (x := 0) (v := 1) (w := 1) C0 dX5_init_66 0 rfl rfl rfl (by decide) rfl ?_
  refine z_goto C0 44 dX5_init_69 (by decide) ?_
  refine z_iload_n C0 dX5_init_44 rfl 0 rfl ?_
  refine z_iconst C0 dX5_init_45 (v := 5) rfl ?_
  refine z_icmp_ge C0 72 dX5_init_46 (by decide) (fun c => absurd c (by decide : ¬ (5 : Int32) ≤ 1)) (fun _ => ?_)
  refine z_aload_n C0 dX5_init_49 rfl 1 rfl ?_
  refine z_get C0 (v := .ref (zb g + (a0 + 16))) hk (by omega) kf_5_20 (zval_ref zr_5_1 (by unfold zsq; rw [if_pos rfl]; rfl) hz1.1) dX5_init_50 ?_
  refine z_iload_n C0 dX5_init_53 rfl 0 rfl ?_
  refine z_newo (σ' := zsw (zsq σ a0 [10, 1, 0] (a0 + 16) (fun k => decide (k < 1)) a0 (fun _ => true)) (a0 + 21) []) C0 rfl zcl_6 hx21 kcl_RX5_18 kin_RX6 kii_RX6 zdv_6 (fun j _ _ => zsw_new _ _ _) (fun q hq => zsw_lo _ hq) (by decide) (by decide) dX5_init_54 ?_
  refine z_dup C0 dX5_init_57 rfl ?_
  refine z_iload_n C0 dX5_init_58 rfl 0 rfl ?_
  refine z_callS (As := [.int 1]) (rest := [.ref (zb g + (a0 + 21)), .ref (zb g + (a0 + 21)), .int 1, .ref (zb g + (a0 + 16))]) C0 rfl kc_X5_mostRows km_RX5_35 (r_X5_mostRows 1 (rv := 40) (by decide)) rfl (Nat.le_of_ble_eq_true rfl) (by decide) (by decide) (by decide) (Nat.le_refl _) rfl rfl dX5_init_59 ?_
  refine z_callI C0 (nc := 1) (o := a0 + 21) (As := [.int 40]) (rest := [.ref (zb g + (a0 + 21)), .int 1, .ref (zb g + (a0 + 16))]) rfl kc_X6_init.1 kc_X6_init.2.1 kc_X6_init.2.2 (by decide) ⟨by decide, by decide, by decide +kernel⟩ rfl km_RX5_39 (m_X6_init (a0 + 21) (zsq σ a0 [10, 1, 0] (a0 + 16) (fun k => decide (k < 1)) a0 (fun _ => true)) _ 40 (w := 120) hx21 hw21 (by decide) (by decide) (by decide)) rfl (Nat.le_of_ble_eq_true rfl) (by decide) (by decide) (by decide) (by omega) rfl dX5_init_62 ?_
  rw [zst_zsq σ [10, 1, 0] _ _ (by omega) (by omega) (by omega)]
  refine z_aast C0 (σ1 := zsq σ a0 [10, 1, 0] (a0 + 16) (fun k => decide (k < 2)) a0 (fun _ => true)) (kind := 23) (len := 5) (t0 := 3) (r := (RX6, TX6, 3)) (j := 1) ⟨by omega, hz1.2.2.1, hz1.2.2.2⟩ (by decide) rfl hx21 (by decide) (by omega) rfl (by decide) rfl hf21 (zsq_sto1 (by omega)) dX5_init_65 ?_
  refine z_iinc (lo1 := [(1, .int 2), (0, .ref (zb g + a0))]) (x := 1) (v := 2) (w := 1) C0 dX5_init_66 0 rfl rfl rfl (by decide) rfl ?_
  refine z_goto C0 44 dX5_init_69 (by decide) ?_
  refine z_iload_n C0 dX5_init_44 rfl 0 rfl ?_
  refine z_iconst C0 dX5_init_45 (v := 5) rfl ?_
  refine z_icmp_ge C0 72 dX5_init_46 (by decide) (fun c => absurd c (by decide : ¬ (5 : Int32) ≤ 2)) (fun _ => ?_)
  refine z_aload_n C0 dX5_init_49 rfl 1 rfl ?_
  refine z_get C0 (v := .ref (zb g + (a0 + 16))) hk (by omega) kf_5_20 (zval_ref zr_5_1 (by unfold zsq; rw [if_pos rfl]; rfl) hz1.1) dX5_init_50 ?_
  refine z_iload_n C0 dX5_init_53 rfl 0 rfl ?_
  refine z_newo (σ' := zsw (zsq σ a0 [10, 1, 0] (a0 + 16) (fun k => decide (k < 2)) a0 (fun _ => true)) (a0 + 23) []) C0 rfl zcl_6 hx23 kcl_RX5_18 kin_RX6 kii_RX6 zdv_6 (fun j _ _ => zsw_new _ _ _) (fun q hq => zsw_lo _ hq) (by decide) (by decide) dX5_init_54 ?_
  refine z_dup C0 dX5_init_57 rfl ?_
  refine z_iload_n C0 dX5_init_58 rfl 0 rfl ?_
  refine z_callS (As := [.int 2]) (rest := [.ref (zb g + (a0 + 23)), .ref (zb g + (a0 + 23)), .int 2, .ref (zb g + (a0 + 16))]) C0 rfl kc_X5_mostRows km_RX5_35 (r_X5_mostRows 2 (rv := 8) (by decide)) rfl (Nat.le_of_ble_eq_true rfl) (by decide) (by decide) (by decide) (Nat.le_refl _) rfl rfl dX5_init_59 ?_
  refine z_callI C0 (nc := 1) (o := a0 + 23) (As := [.int 8]) (rest := [.ref (zb g + (a0 + 23)), .int 2, .ref (zb g + (a0 + 16))]) rfl kc_X6_init.1 kc_X6_init.2.1 kc_X6_init.2.2 (by decide) ⟨by decide, by decide, by decide +kernel⟩ rfl km_RX5_39 (m_X6_init (a0 + 23) (zsq σ a0 [10, 1, 0] (a0 + 16) (fun k => decide (k < 2)) a0 (fun _ => true)) _ 8 (w := 24) hx23 hw23 (by decide) (by decide) (by decide)) rfl (Nat.le_of_ble_eq_true rfl) (by decide) (by decide) (by decide) (by omega) rfl dX5_init_62 ?_
  rw [zst_zsq σ [10, 1, 0] _ _ (by omega) (by omega) (by omega)]
  refine z_aast C0 (σ1 := zsq σ a0 [10, 1, 0] (a0 + 16) (fun k => decide (k < 3)) a0 (fun _ => true)) (kind := 23) (len := 5) (t0 := 3) (r := (RX6, TX6, 3)) (j := 2) ⟨by omega, hz1.2.2.1, hz1.2.2.2⟩ (by decide) rfl hx23 (by decide) (by omega) rfl (by decide) rfl hf23 (zsq_sto1 (by omega)) dX5_init_65 ?_
  refine z_iinc (lo1 := [(1, .int 3), (0, .ref (zb g + a0))]) (x := 2) (v := 3) (w := 1) C0 dX5_init_66 0 rfl rfl rfl (by decide) rfl ?_
  refine z_goto C0 44 dX5_init_69 (by decide) ?_
  refine z_iload_n C0 dX5_init_44 rfl 0 rfl ?_
  refine z_iconst C0 dX5_init_45 (v := 5) rfl ?_
  refine z_icmp_ge C0 72 dX5_init_46 (by decide) (fun c => absurd c (by decide : ¬ (5 : Int32) ≤ 3)) (fun _ => ?_)
  refine z_aload_n C0 dX5_init_49 rfl 1 rfl ?_
  refine z_get C0 (v := .ref (zb g + (a0 + 16))) hk (by omega) kf_5_20 (zval_ref zr_5_1 (by unfold zsq; rw [if_pos rfl]; rfl) hz1.1) dX5_init_50 ?_
  refine z_iload_n C0 dX5_init_53 rfl 0 rfl ?_
  refine z_newo (σ' := zsw (zsq σ a0 [10, 1, 0] (a0 + 16) (fun k => decide (k < 3)) a0 (fun _ => true)) (a0 + 25) []) C0 rfl zcl_6 hx25 kcl_RX5_18 kin_RX6 kii_RX6 zdv_6 (fun j _ _ => zsw_new _ _ _) (fun q hq => zsw_lo _ hq) (by decide) (by decide) dX5_init_54 ?_
  refine z_dup C0 dX5_init_57 rfl ?_
  refine z_iload_n C0 dX5_init_58 rfl 0 rfl ?_
  refine z_callS (As := [.int 3]) (rest := [.ref (zb g + (a0 + 25)), .ref (zb g + (a0 + 25)), .int 3, .ref (zb g + (a0 + 16))]) C0 rfl kc_X5_mostRows km_RX5_35 (r_X5_mostRows 3 (rv := 8) (by decide)) rfl (Nat.le_of_ble_eq_true rfl) (by decide) (by decide) (by decide) (Nat.le_refl _) rfl rfl dX5_init_59 ?_
  refine z_callI C0 (nc := 1) (o := a0 + 25) (As := [.int 8]) (rest := [.ref (zb g + (a0 + 25)), .int 3, .ref (zb g + (a0 + 16))]) rfl kc_X6_init.1 kc_X6_init.2.1 kc_X6_init.2.2 (by decide) ⟨by decide, by decide, by decide +kernel⟩ rfl km_RX5_39 (m_X6_init (a0 + 25) (zsq σ a0 [10, 1, 0] (a0 + 16) (fun k => decide (k < 3)) a0 (fun _ => true)) _ 8 (w := 24) hx25 hw25 (by decide) (by decide) (by decide)) rfl (Nat.le_of_ble_eq_true rfl) (by decide) (by decide) (by decide) (by omega) rfl dX5_init_62 ?_
  rw [zst_zsq σ [10, 1, 0] _ _ (by omega) (by omega) (by omega)]
  refine z_aast C0 (σ1 := zsq σ a0 [10, 1, 0] (a0 + 16) (fun k => decide (k < 4)) a0 (fun _ => true)) (kind := 23) (len := 5) (t0 := 3) (r := (RX6, TX6, 3)) (j := 3) ⟨by omega, hz1.2.2.1, hz1.2.2.2⟩ (by decide) rfl hx25 (by decide) (by omega) rfl (by decide) rfl hf25 (zsq_sto1 (by omega)) dX5_init_65 ?_
  refine z_iinc (lo1 := [(1, .int 4), (0, .ref (zb g + a0))]) (x := 3) (v := 4) (w := 1) C0 dX5_init_66 0 rfl rfl rfl (by decide) rfl ?_
  refine z_goto C0 44 dX5_init_69 (by decide) ?_
  refine z_iload_n C0 dX5_init_44 rfl 0 rfl ?_
  refine z_iconst C0 dX5_init_45 (v := 5) rfl ?_
  refine z_icmp_ge C0 72 dX5_init_46 (by decide) (fun c => absurd c (by decide : ¬ (5 : Int32) ≤ 4)) (fun _ => ?_)
  refine z_aload_n C0 dX5_init_49 rfl 1 rfl ?_
  refine z_get C0 (v := .ref (zb g + (a0 + 16))) hk (by omega) kf_5_20 (zval_ref zr_5_1 (by unfold zsq; rw [if_pos rfl]; rfl) hz1.1) dX5_init_50 ?_
  refine z_iload_n C0 dX5_init_53 rfl 0 rfl ?_
  refine z_newo (σ' := zsw (zsq σ a0 [10, 1, 0] (a0 + 16) (fun k => decide (k < 4)) a0 (fun _ => true)) (a0 + 27) []) C0 rfl zcl_6 hx27 kcl_RX5_18 kin_RX6 kii_RX6 zdv_6 (fun j _ _ => zsw_new _ _ _) (fun q hq => zsw_lo _ hq) (by decide) (by decide) dX5_init_54 ?_
  refine z_dup C0 dX5_init_57 rfl ?_
  refine z_iload_n C0 dX5_init_58 rfl 0 rfl ?_
  refine z_callS (As := [.int 4]) (rest := [.ref (zb g + (a0 + 27)), .ref (zb g + (a0 + 27)), .int 4, .ref (zb g + (a0 + 16))]) C0 rfl kc_X5_mostRows km_RX5_35 (r_X5_mostRows 4 (rv := 8) (by decide)) rfl (Nat.le_of_ble_eq_true rfl) (by decide) (by decide) (by decide) (Nat.le_refl _) rfl rfl dX5_init_59 ?_
  refine z_callI C0 (nc := 1) (o := a0 + 27) (As := [.int 8]) (rest := [.ref (zb g + (a0 + 27)), .int 4, .ref (zb g + (a0 + 16))]) rfl kc_X6_init.1 kc_X6_init.2.1 kc_X6_init.2.2 (by decide) ⟨by decide, by decide, by decide +kernel⟩ rfl km_RX5_39 (m_X6_init (a0 + 27) (zsq σ a0 [10, 1, 0] (a0 + 16) (fun k => decide (k < 4)) a0 (fun _ => true)) _ 8 (w := 24) hx27 hw27 (by decide) (by decide) (by decide)) rfl (Nat.le_of_ble_eq_true rfl) (by decide) (by decide) (by decide) (by omega) rfl dX5_init_62 ?_
  rw [zst_zsq σ [10, 1, 0] _ _ (by omega) (by omega) (by omega)]
  refine z_aast C0 (σ1 := zsq σ a0 [10, 1, 0] (a0 + 16) (fun k => decide (k < 5)) a0 (fun _ => true)) (kind := 23) (len := 5) (t0 := 3) (r := (RX6, TX6, 3)) (j := 4) ⟨by omega, hz1.2.2.1, hz1.2.2.2⟩ (by decide) rfl hx27 (by decide) (by omega) rfl (by decide) rfl hf27 (zsq_sto1 (by omega)) dX5_init_65 ?_
  refine z_iinc (lo1 := [(1, .int 5), (0, .ref (zb g + a0))]) (x := 4) (v := 5) (w := 1) C0 dX5_init_66 0 rfl rfl rfl (by decide) rfl ?_
  refine z_goto C0 44 dX5_init_69 (by decide) ?_
  refine z_iload_n C0 dX5_init_44 rfl 0 rfl ?_
  refine z_iconst C0 dX5_init_45 (v := 5) rfl ?_
  refine z_icmp_ge C0 72 dX5_init_46 (by decide) (fun _ => ?_) (fun c => absurd (by decide : (5 : Int32) ≤ 5) c)
  refine z_sigA (zsq_end (ks := [10, 1, 0]) hk (by decide) (by decide +kernel) ⟨by omega, Or.inr rfl⟩ (by have := hz1.2.2.1; omega) (Or.inr rfl) (fun k h => decide_eq_true (by have := hz1.2.2.2; omega)) (fun _ _ => rfl)) ?_
  obtain rfl := Option.some.inj h
  exact z_vret C0 rfl dX5_init_72
