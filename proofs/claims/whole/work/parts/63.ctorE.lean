def f_X12_init (a0 : Nat) (μ : zM) : Option zM :=
  some (zup (zupr (zupr (zupr (zupr (zupr (zupr (zupr (zupr (zupr (zupr (zupr (zupr (zupr μ (a0 + 1) (fun _ => 0)) (a0 + 2) (fun _ => 0)) (a0 + 3) (fun _ => 0)) (a0 + 4) (fun _ => 0)) (a0 + 5) (fun _ => 0)) (a0 + 6) (fun _ => 0)) (a0 + 7) (fun _ => 0)) (a0 + 8) (fun _ => 0)) (a0 + 9) (fun _ => 0)) (a0 + 10) (fun _ => 0)) (a0 + 11) (fun _ => 0)) (a0 + 12) (fun _ => 0)) (a0 + 13) (fun _ => 0)) (a0 + 1) 7 (-1))
set_option maxHeartbeats 4000000 in
set_option maxRecDepth 100000 in
theorem m_X12_init {l : Launch} {g : zL} (a0 : Nat) (σ : Nat → Nat → Bool) (μ : zM) (hk : zkd a0 = 12) {μr : zM} (h : f_X12_init a0 μ = some μr) : zMet l g yX12_init cX12_init 1 none 2 13 136769 (a0 + 1) (a0 + 14) (zsw σ a0 []) (zst σ a0) [.ref (zb g + a0)] μ none μr := by
  have ha0 : a0 < 324 := zkd_lt (by omega)
  unfold f_X12_init at h
  have hz0 := zs_12_0 (zT_of hk (by decide))
  have hz1 := zs_12_1 (zT_of hk (by decide))
  have hz9 := zs_12_9 (zT_of hk (by decide))
  have hz23 := zs_12_23 (zT_of hk (by decide))
  have hz24 := zs_12_24 (zT_of hk (by decide))
  have hz26 := zs_12_26 (zT_of hk (by decide))
  have hz27 := zs_12_27 (zT_of hk (by decide))
  have hz28 := zs_12_28 (zT_of hk (by decide))
  have hz29 := zs_12_29 (zT_of hk (by decide))
  have hz30 := zs_12_30 (zT_of hk (by decide))
  have hz31 := zs_12_31 (zT_of hk (by decide))
  have hz34 := zs_12_34 (zT_of hk (by decide))
  have hz36 := zs_12_36 (zT_of hk (by decide))
  refine zMet.of (by decide +kernel) (Nat.le_of_ble_eq_true rfl) ?_
  intro p e s m args below meth c C0
  refine z_loc (lo1 := [(0, .ref (zb g + a0))]) rfl ?_
  refine z_aload_n C0 dX12_init_0 rfl 0 rfl ?_
  refine z_oini C0 rfl (by decide) kO_RX12_1 kO_i kO_b kO_c dX12_init_1 ?_
  refine z_aload_n C0 dX12_init_4 rfl 0 rfl ?_
  refine z_sipush C0 dX12_init_5 (v := 4688) rfl ?_
  refine z_newA C0 (len := 4688) (t0 := 0) (kind := 20) (ty := .int) rfl rfl rfl hz0.2.2.1 (by decide) hz0.2.2.2 kar_int (Or.inl rfl) (by decide) (by decide) (by decide) (by decide) (by decide) dX12_init_8 ?_
  refine z_putr C0 (σ1 := zsw σ a0 [0]) hk (by omega) kf_12_7 zpf_12_0 rfl (fun q => ⟨rfl, rfl⟩) zr_12_0 hz0.1 (zsw_put σ a0 [] 0 _) dX12_init_10 ?_
  refine z_aload_n C0 dX12_init_13 rfl 0 rfl ?_
  refine z_iconst C0 dX12_init_14 (v := 3) rfl ?_
  refine z_newA C0 (len := 3) (t0 := 1) (kind := 21) (ty := .boolean) rfl rfl rfl hz1.2.2.1 (by decide) hz1.2.2.2 kar_boolean (Or.inr rfl) (by decide) (by decide) (by decide) (by decide) (by decide) dX12_init_15 ?_
  refine z_putr C0 (σ1 := zsw σ a0 [1, 0]) hk (by omega) kf_12_13 zpf_12_1 rfl (fun q => ⟨rfl, rfl⟩) zr_12_1 hz1.1 (zsw_put σ a0 [0] 1 _) dX12_init_17 ?_
  refine z_aload_n C0 dX12_init_20 rfl 0 rfl ?_
  refine z_bipush C0 dX12_init_21 (v := 121) rfl ?_
  refine z_newA C0 (len := 121) (t0 := 0) (kind := 20) (ty := .int) rfl rfl rfl hz9.2.2.1 (by decide) hz9.2.2.2 kar_int (Or.inl rfl) (by decide) (by decide) (by decide) (by decide) (by decide) dX12_init_23 ?_
  refine z_putr C0 (σ1 := zsw σ a0 [9, 1, 0]) hk (by omega) kf_12_17 zpf_12_9 rfl (fun q => ⟨rfl, rfl⟩) zr_12_9 hz9.1 (zsw_put σ a0 [1, 0] 9 _) dX12_init_25 ?_
  refine z_aload_n C0 dX12_init_28 rfl 0 rfl ?_
  refine z_iconst C0 dX12_init_29 (v := 5) rfl ?_
  refine z_newA C0 (len := 5) (t0 := 0) (kind := 20) (ty := .int) rfl rfl rfl hz23.2.2.1 (by decide) hz23.2.2.2 kar_int (Or.inl rfl) (by decide) (by decide) (by decide) (by decide) (by decide) dX12_init_30 ?_
  refine z_putr C0 (σ1 := zsw σ a0 [23, 9, 1, 0]) hk (by omega) kf_12_20 zpf_12_23 rfl (fun q => ⟨rfl, rfl⟩) zr_12_23 hz23.1 (zsw_put σ a0 [9, 1, 0] 23 _) dX12_init_32 ?_
  refine z_aload_n C0 dX12_init_35 rfl 0 rfl ?_
  refine z_bipush C0 dX12_init_36 (v := 16) rfl ?_
  refine z_newA C0 (len := 16) (t0 := 0) (kind := 20) (ty := .int) rfl rfl rfl hz24.2.2.1 (by decide) hz24.2.2.2 kar_int (Or.inl rfl) (by decide) (by decide) (by decide) (by decide) (by decide) dX12_init_38 ?_
  refine z_putr C0 (σ1 := zsw σ a0 [24, 23, 9, 1, 0]) hk (by omega) kf_12_23 zpf_12_24 rfl (fun q => ⟨rfl, rfl⟩) zr_12_24 hz24.1 (zsw_put σ a0 [23, 9, 1, 0] 24 _) dX12_init_40 ?_
  refine z_aload_n C0 dX12_init_43 rfl 0 rfl ?_
  refine z_sipush C0 dX12_init_44 (v := 32761) rfl ?_
  refine z_newA C0 (len := 32761) (t0 := 0) (kind := 20) (ty := .int) rfl rfl rfl hz26.2.2.1 (by decide) hz26.2.2.2 kar_int (Or.inl rfl) (by decide) (by decide) (by decide) (by decide) (by decide) dX12_init_47 ?_
  refine z_putr C0 (σ1 := zsw σ a0 [26, 24, 23, 9, 1, 0]) hk (by omega) kf_12_26 zpf_12_26 rfl (fun q => ⟨rfl, rfl⟩) zr_12_26 hz26.1 (zsw_put σ a0 [24, 23, 9, 1, 0] 26 _) dX12_init_49 ?_
  refine z_aload_n C0 dX12_init_52 rfl 0 rfl ?_
  refine z_sipush C0 dX12_init_53 (v := 32761) rfl ?_
  refine z_newA C0 (len := 32761) (t0 := 0) (kind := 20) (ty := .int) rfl rfl rfl hz27.2.2.1 (by decide) hz27.2.2.2 kar_int (Or.inl rfl) (by decide) (by decide) (by decide) (by decide) (by decide) dX12_init_56 ?_
  refine z_putr C0 (σ1 := zsw σ a0 [27, 26, 24, 23, 9, 1, 0]) hk (by omega) kf_12_29 zpf_12_27 rfl (fun q => ⟨rfl, rfl⟩) zr_12_27 hz27.1 (zsw_put σ a0 [26, 24, 23, 9, 1, 0] 27 _) dX12_init_58 ?_
  refine z_aload_n C0 dX12_init_61 rfl 0 rfl ?_
  refine z_bipush C0 dX12_init_62 (v := 9) rfl ?_
  refine z_newA C0 (len := 9) (t0 := 0) (kind := 20) (ty := .int) rfl rfl rfl hz28.2.2.1 (by decide) hz28.2.2.2 kar_int (Or.inl rfl) (by decide) (by decide) (by decide) (by decide) (by decide) dX12_init_64 ?_
  refine z_putr C0 (σ1 := zsw σ a0 [28, 27, 26, 24, 23, 9, 1, 0]) hk (by omega) kf_12_32 zpf_12_28 rfl (fun q => ⟨rfl, rfl⟩) zr_12_28 hz28.1 (zsw_put σ a0 [27, 26, 24, 23, 9, 1, 0] 28 _) dX12_init_66 ?_
  refine z_aload_n C0 dX12_init_69 rfl 0 rfl ?_
  refine z_sipush C0 dX12_init_70 (v := 144) rfl ?_
  refine z_newA C0 (len := 144) (t0 := 1) (kind := 21) (ty := .boolean) rfl rfl rfl hz29.2.2.1 (by decide) hz29.2.2.2 kar_boolean (Or.inr rfl) (by decide) (by decide) (by decide) (by decide) (by decide) dX12_init_73 ?_
  refine z_putr C0 (σ1 := zsw σ a0 [29, 28, 27, 26, 24, 23, 9, 1, 0]) hk (by omega) kf_12_35 zpf_12_29 rfl (fun q => ⟨rfl, rfl⟩) zr_12_29 hz29.1 (zsw_put σ a0 [28, 27, 26, 24, 23, 9, 1, 0] 29 _) dX12_init_75 ?_
  refine z_aload_n C0 dX12_init_78 rfl 0 rfl ?_
  refine z_sipush C0 dX12_init_79 (v := 144) rfl ?_
  refine z_newA C0 (len := 144) (t0 := 1) (kind := 21) (ty := .boolean) rfl rfl rfl hz30.2.2.1 (by decide) hz30.2.2.2 kar_boolean (Or.inr rfl) (by decide) (by decide) (by decide) (by decide) (by decide) dX12_init_82 ?_
  refine z_putr C0 (σ1 := zsw σ a0 [30, 29, 28, 27, 26, 24, 23, 9, 1, 0]) hk (by omega) kf_12_38 zpf_12_30 rfl (fun q => ⟨rfl, rfl⟩) zr_12_30 hz30.1 (zsw_put σ a0 [29, 28, 27, 26, 24, 23, 9, 1, 0] 30 _) dX12_init_84 ?_
  refine z_aload_n C0 dX12_init_87 rfl 0 rfl ?_
  refine z_sipush C0 dX12_init_88 (v := 576) rfl ?_
  refine z_newA C0 (len := 576) (t0 := 0) (kind := 20) (ty := .int) rfl rfl rfl hz31.2.2.1 (by decide) hz31.2.2.2 kar_int (Or.inl rfl) (by decide) (by decide) (by decide) (by decide) (by decide) dX12_init_91 ?_
  refine z_putr C0 (σ1 := zsw σ a0 [31, 30, 29, 28, 27, 26, 24, 23, 9, 1, 0]) hk (by omega) kf_12_41 zpf_12_31 rfl (fun q => ⟨rfl, rfl⟩) zr_12_31 hz31.1 (zsw_put σ a0 [30, 29, 28, 27, 26, 24, 23, 9, 1, 0] 31 _) dX12_init_93 ?_
  refine z_aload_n C0 dX12_init_96 rfl 0 rfl ?_
  refine z_iconst C0 dX12_init_97 (v := 5) rfl ?_
  refine z_newA C0 (len := 5) (t0 := 0) (kind := 20) (ty := .int) rfl rfl rfl hz34.2.2.1 (by decide) hz34.2.2.2 kar_int (Or.inl rfl) (by decide) (by decide) (by decide) (by decide) (by decide) dX12_init_98 ?_
  refine z_putr C0 (σ1 := zsw σ a0 [34, 31, 30, 29, 28, 27, 26, 24, 23, 9, 1, 0]) hk (by omega) kf_12_44 zpf_12_34 rfl (fun q => ⟨rfl, rfl⟩) zr_12_34 hz34.1 (zsw_put σ a0 [31, 30, 29, 28, 27, 26, 24, 23, 9, 1, 0] 34 _) dX12_init_100 ?_
  refine z_aload_n C0 dX12_init_103 rfl 0 rfl ?_
  refine z_ldc C0 dX12_init_104 kk_RX12_47 ?_
  refine z_newA C0 (len := 65536) (t0 := 0) (kind := 20) (ty := .int) rfl rfl rfl hz36.2.2.1 (by decide) hz36.2.2.2 kar_int (Or.inl rfl) (by decide) (by decide) (by decide) (by decide) (by decide) dX12_init_106 ?_
  refine z_putr C0 (σ1 := zsw σ a0 [36, 34, 31, 30, 29, 28, 27, 26, 24, 23, 9, 1, 0]) hk (by omega) kf_12_48 zpf_12_36 rfl (fun q => ⟨rfl, rfl⟩) zr_12_36 hz36.1 (zsw_put σ a0 [34, 31, 30, 29, 28, 27, 26, 24, 23, 9, 1, 0] 36 _) dX12_init_108 ?_
  refine z_aload_n C0 dX12_init_111 rfl 0 rfl ?_
  refine z_get C0 (v := .ref (zb g + (a0 + 1))) hk (by omega) kf_12_7 (zval_ref zr_12_0 (by unfold zsw; rw [if_pos rfl]; rfl) hz0.1) dX12_init_112 ?_
  refine z_bipush C0 dX12_init_115 (v := 7) rfl ?_
  refine z_iconst C0 dX12_init_117 (v := -1) (by decide) ?_
  refine z_iast C0 (len := 4688) ⟨by omega, hz0.2.2.1, hz0.2.2.2⟩ (by decide) rfl rfl dX12_init_118 ?_
  refine z_sig (zsw_end (ks := [36, 34, 31, 30, 29, 28, 27, 26, 24, 23, 9, 1, 0]) hk (by decide) (by decide +kernel)) ?_
  obtain rfl := Option.some.inj h
  exact z_vret C0 rfl dX12_init_119
