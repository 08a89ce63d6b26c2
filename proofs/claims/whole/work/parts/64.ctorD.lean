theorem zT8 {N : Nat} {σ : Nat → Nat → Bool} {b : Nat} (h1 : zkd b = 8) (h2 : b + 55 ≤ N) (h3 : ∀ o k, b ≤ o → o < b + 55 → σ o k = true) : zT N σ b 8 := by
  have e1 : zex 8 = 55 := by decide +kernel
  refine ⟨h1, by omega, by omega, fun o k h4 h5 => h3 o k h4 ?_⟩
  omega
theorem zT8s {N : Nat} {σ : Nat → Nat → Bool} {b : Nat} (h : zT N σ b 8) {o k : Nat} (h1 : b ≤ o) (h2 : o < b + 55) : σ o k = true := by
  have e1 : zex 8 = 55 := by decide +kernel
  exact h.2.2.2 o k h1 (by omega)
theorem zsq_T8 {σ : Nat → Nat → Bool} {a b N M q : Nat} {ks : List Nat} {J L : Nat → Bool} (h1 : zkd q = 8) (hq : a < q) (hb : q + 55 ≤ b) (hN : q + 55 ≤ N) (hM : N < M) : zT M (zsw (zsq σ a ks b J a L) N []) q 8 := by
  refine zT8 h1 (by omega) (fun o k h2 h3 => ?_)
  rw [zsw_lo _ (show o < N by omega)]
  unfold zsq
  rw [if_neg (show ¬ o = a by omega), if_neg (show ¬ o = b by omega), if_neg (show ¬ o = a by omega), if_pos (show a < o by omega)]
section
variable {p : Program} {l : Launch} {e : Env} {R : Room} {s : State} {m : MethodId} {args : Array Value} {below : List Frame} {meth : Method} {c : Code} {g : zL} {Q : State → Prop} {nL N k n : Nat} {σ : Nat → Nat → Bool} {μ : zM} {cc : ByteArray} {y : MethodName} {ret : Option FieldType} {pc : Nat} {lo : List (Nat × Value)} {st : List Value}
theorem z_aald0 (C0 : zC p s m args meth c g cc y nL ret) {q x : Nat} (hT : zT N σ q 8) (hx : zFX (q + 3) 0 = x) (hd : decode cc pc = .ok (.aaload, 1)) (kk : Z p l e R s m args below meth c g Q nL N k n σ μ (pc + 1) lo (.ref (zb g + x) :: st)) :
    Z p l e R s m args below meth c g Q nL N k n σ μ pc lo (.int 0 :: .ref (zb g + (q + 3)) :: st) := by
  have e0 : (0 : Int32).toNatClampNeg = 0 := by decide
  refine z_aald (kd := 22) C0 (zs_8_5 hT).2 (by decide) (by decide) (by decide) ?_ ?_ hd kk
  · rw [e0]
    exact zT8s hT (by omega) (by omega)
  · rw [e0]
    exact hx
end
theorem zfx_11_0 : ∀ a, a < zNN → zkd a = 11 → zkd (a + 1) = 8 ∧ zkd (a + 58) = 5 ∧ zkd (a + 87) = 4 ∧ zkd (a + 90) = 4 ∧ zkd (a + 93) = 0 := by decide +kernel
theorem zfx_11_1 : ∀ a, a < zNN → zkd a = 11 → zkd (a + 104) = 3 ∧ zkd (a + 106) = 9 ∧ zkd (a + 111) = 7 ∧ zkd (a + 132) = 2 ∧ zkd (a + 145) = 8 := by decide +kernel
theorem zfx_11_2 : ∀ a, a < zNN → zkd a = 11 → zkd (a + 200) = 8 ∧ zkd (a + 255) = 8 ∧ zFX (a + 56) 0 = a + 145 ∧ zFX (a + 56) 1 = a + 200 ∧ zFX (a + 56) 2 = a + 255 := by decide +kernel
theorem zfx_11_3 : ∀ a, a < zNN → zkd a = 11 → zFX (a + 1 + 3) 0 = a + 6 := by decide +kernel
def f_X11_init (a0 : Nat) (μ : zM) : Option zM :=
  zbd (f_X8_init (a0 + 1) (znew μ (a0 + 1) 8)) fun μ1 =>
  zbd (f_X5_init (a0 + 58) (znew (zupr μ1 (a0 + 57) (fun _ => 0)) (a0 + 58) 5)) fun μ2 =>
  zl (i_X4 (a0 + 87) (a0 + 6) (znew μ2 (a0 + 87) 4)) fun μ3 =>
  zl (i_X4 (a0 + 90) (a0 + 6) (znew μ3 (a0 + 90) 4)) fun μ4 =>
  zl (i_X0 (a0 + 93) (a0 + 6) (znew μ4 (a0 + 93) 0)) fun μ5 =>
  zl (i_X3 (a0 + 104) (znew μ5 (a0 + 104) 3)) fun μ6 =>
  zl (i_X9 (a0 + 106) (znew μ6 (a0 + 106) 9)) fun μ7 =>
  zl (i_X7 (a0 + 111) (znew μ7 (a0 + 111) 7)) fun μ8 =>
  zl (i_X2 (a0 + 132) (znew μ8 (a0 + 132) 2)) fun μ9 =>
  zbd (f_X8_init (a0 + 145) (znew μ9 (a0 + 145) 8)) fun μ10 =>
  zbd (f_X8_init (a0 + 200) (znew μ10 (a0 + 200) 8)) fun μ11 =>
  zbd (f_X8_init (a0 + 255) (znew μ11 (a0 + 255) 8)) fun μ12 =>
  some μ12
set_option maxHeartbeats 4000000 in
set_option maxRecDepth 100000 in
theorem m_X11_init {l : Launch} {g : zL} {κ : zK} (a0 : Nat) (σ : Nat → Nat → Bool) (μ : zM) (hA : zAO g) (hSp : zSK g κ) (hk : zkd a0 = 11) {μr : zM} (h : f_X11_init a0 μ = some μr) : zMet l g yX11_init cX11_init 2 none 4 309 13664 (a0 + 1) (a0 + 310) (zsw σ a0 []) (zst σ a0) [.ref (zb g + a0)] μ none μr := by
  have ha0 : a0 < 324 := zkd_lt (by omega)
  have hb6 : a0 + 6 < 2147483648 := by omega
  unfold f_X11_init at h
  obtain ⟨hx1, hx58, hx87, hx90, hx93⟩ := zfx_11_0 a0 ha0 hk
  obtain ⟨hx104, hx106, hx111, hx132, hx145⟩ := zfx_11_1 a0 ha0 hk
  obtain ⟨hx200, hx255, hf145, hf200, hf255⟩ := zfx_11_2 a0 ha0 hk
  have hf6 := zfx_11_3 a0 ha0 hk
  have hz0 := zs_11_0 (zT_of hk (by decide))
  have hz1 := zs_11_1 (zT_of hk (by decide))
  have hz2 := zs_11_2 (zT_of hk (by decide))
  have hz3 := zs_11_3 (zT_of hk (by decide))
  have hz4 := zs_11_4 (zT_of hk (by decide))
  have hz5 := zs_11_5 (zT_of hk (by decide))
  have hz6 := zs_11_6 (zT_of hk (by decide))
  have hz7 := zs_11_7 (zT_of hk (by decide))
  have hz8 := zs_11_8 (zT_of hk (by decide))
  have hz9 := zs_11_9 (zT_of hk (by decide))
  have hz10 := zs_11_10 (zT_of hk (by decide))
  refine zMet.of (by decide +kernel) (Nat.le_of_ble_eq_true rfl) ?_
  intro p e s m args below meth c C0
  refine z_loc (lo1 := [(0, .ref (zb g + a0))]) rfl ?_
  refine z_aload_n C0 dX11_init_0 rfl 0 rfl ?_
  refine z_oini C0 rfl (by decide) kO_RX11_1 kO_i kO_b kO_c dX11_init_1 ?_
  refine z_aload_n C0 dX11_init_4 rfl 0 rfl ?_
  refine z_newo (σ' := zsw (zsw σ a0 []) (a0 + 1) []) C0 rfl zcl_8 hx1 kcl_RX11_7 kin_RX8 kii_RX8 zdv_8 (fun j _ _ => zsw_new _ _ _) (fun q hq => zsw_lo _ hq) (by decide) (by decide) dX11_init_5 ?_
  refine z_dup C0 dX11_init_8 rfl ?_
  obtain ⟨μ1, e1, h⟩ := zbd_of h
  refine z_callI C0 (nc := 0) (o := a0 + 1) (As := []) (rest := [.ref (zb g + (a0 + 1)), .ref (zb g + a0)]) rfl kc_X8_init.1 kc_X8_init.2.1 kc_X8_init.2.2 (by decide) ⟨by decide, by decide, by decide +kernel⟩ rfl km_RX11_9 (m_X8_init (κ := κ) (a0 + 1) (zsw σ a0 []) _ hA hSp hx1 e1) rfl (Nat.le_of_ble_eq_true rfl) (by decide) (by decide) (by decide) (by omega) rfl dX11_init_9 ?_
  rw [zst_zsw σ [] (by omega)]
  refine z_putr C0 (σ1 := zsw σ a0 [0]) hk (by omega) kf_11_10 zpf_11_0 rfl (fun q => ⟨rfl, rfl⟩) zr_11_0 hz0.1 (zsw_put σ a0 [] 0 _) dX11_init_12 ?_
  refine z_aload_n C0 dX11_init_15 rfl 0 rfl ?_
  refine z_iconst C0 dX11_init_16 (v := 3) rfl ?_
  refine z_newq C0 (t0 := 4) (kind := 24) (len := 3) (σ' := zsq σ a0 [0] (a0 + 56) (fun k => decide (k < 0)) a0 (fun _ => true)) rfl kcl_RX11_7 (hA s C0.2.2.2.2.2.2.2.1).2.2.1 rfl hz1.2.2.1 (by decide) hz1.2.2.2 (by decide) (by decide) (by decide) (by decide) (by decide) (fun j => zsq_new1 (by omega)) (fun q hq => zsq_old1 hq) dX11_init_17 ?_
  refine z_putr C0 (σ1 := zsq σ a0 [1, 0] (a0 + 56) (fun k => decide (k < 0)) a0 (fun _ => true)) hk (by omega) kf_11_16 zpf_11_1 rfl (fun q => ⟨rfl, rfl⟩) zr_11_1 hz1.1 (zsq_put σ a0 [0] 1 _ _ _ _ _) dX11_init_20 ?_
  refine z_aload_n C0 dX11_init_23 rfl 0 rfl ?_
  refine z_iconst C0 dX11_init_24 (v := 3) rfl ?_
  refine z_newA C0 (len := 3) (t0 := 1) (kind := 21) (ty := .boolean) rfl rfl rfl hz2.2.2.1 (by decide) hz2.2.2.2 kar_boolean (Or.inr rfl) (by decide) (by decide) (by decide) (by decide) (by decide) dX11_init_25 ?_
  refine z_putr C0 (σ1 := zsq σ a0 [2, 1, 0] (a0 + 56) (fun k => decide (k < 0)) a0 (fun _ => true)) hk (by omega) kf_11_20 zpf_11_2 rfl (fun q => ⟨rfl, rfl⟩) zr_11_2 hz2.1 (zsq_put σ a0 [1, 0] 2 _ _ _ _ _) dX11_init_27 ?_
  refine z_aload_n C0 dX11_init_30 rfl 0 rfl ?_
  refine z_newo (σ' := zsw (zsq σ a0 [2, 1, 0] (a0 + 56) (fun k => decide (k < 0)) a0 (fun _ => true)) (a0 + 58) []) C0 rfl zcl_5 hx58 kcl_RX11_24 kin_RX5 kii_RX5 zdv_5 (fun j _ _ => zsw_new _ _ _) (fun q hq => zsw_lo _ hq) (by decide) (by decide) dX11_init_31 ?_
  refine z_dup C0 dX11_init_34 rfl ?_
  obtain ⟨μ2, e2, h⟩ := zbd_of h
  refine z_callI C0 (nc := 0) (o := a0 + 58) (As := []) (rest := [.ref (zb g + (a0 + 58)), .ref (zb g + a0)]) rfl kc_X5_init.1 kc_X5_init.2.1 kc_X5_init.2.2 (by decide) ⟨by decide, by decide, by decide +kernel⟩ rfl km_RX11_26 (m_X5_init (κ := κ) (a0 + 58) (zsq σ a0 [2, 1, 0] (a0 + 56) (fun k => decide (k < 0)) a0 (fun _ => true)) _ hA hSp hx58 e2) rfl (Nat.le_of_ble_eq_true rfl) (by decide) (by decide) (by decide) (by omega) rfl dX11_init_35 ?_
  rw [zst_zsq σ [2, 1, 0] _ _ (by omega) (by omega) (by omega)]
  refine z_putr C0 (σ1 := zsq σ a0 [3, 2, 1, 0] (a0 + 56) (fun k => decide (k < 0)) a0 (fun _ => true)) hk (by omega) kf_11_27 zpf_11_3 rfl (fun q => ⟨rfl, rfl⟩) zr_11_3 hz3.1 (zsq_put σ a0 [2, 1, 0] 3 _ _ _ _ _) dX11_init_38 ?_
  refine z_aload_n C0 dX11_init_41 rfl 0 rfl ?_
  refine z_newo (σ' := zsw (zsq σ a0 [3, 2, 1, 0] (a0 + 56) (fun k => decide (k < 0)) a0 (fun _ => true)) (a0 + 87) []) C0 rfl zcl_4 hx87 kcl_RX11_31 kin_RX4 kii_RX4 zdv_4 (fun j _ _ => zsw_new _ _ _) (fun q hq => zsw_lo _ hq) (by decide) (by decide) dX11_init_42 ?_
  refine z_dup C0 dX11_init_45 rfl ?_
  refine z_aload_n C0 dX11_init_46 rfl 0 rfl ?_
  refine z_get C0 (v := .ref (zb g + (a0 + 1))) hk (by omega) kf_11_10 (zval_ref zr_11_0 (by rw [zsw_lo _ (by omega)]; unfold zsq; rw [if_pos rfl]; rfl) hz0.1) dX11_init_47 ?_
  have hT1 : zT (a0 + 88) (zsw (zsq σ a0 [3, 2, 1, 0] (a0 + 56) (fun k => decide (k < 0)) a0 (fun _ => true)) (a0 + 87) []) (a0 + 1) 8 := zsq_T8 hx1 (by omega) (by omega) (by omega) (by omega)
  refine z_getr C0 hT1 kf_11_33 zr_8_5 zx_8 (zs_8_5 hT1).1 dX11_init_50 ?_
  refine z_iconst C0 dX11_init_53 (v := 0) rfl ?_
  refine z_aald0 (x := a0 + 6) C0 hT1 hf6 dX11_init_54 ?_
  clear hT1
  refine z_callI C0 (nc := 1) (o := a0 + 87) (As := [.ref (zb g + (a0 + 6))]) (rest := [.ref (zb g + (a0 + 87)), .ref (zb g + a0)]) rfl kc_X4_init.1 kc_X4_init.2.1 kc_X4_init.2.2 (by decide) ⟨by decide, by decide, by decide +kernel⟩ rfl km_RX11_37 (m_X4_init (a0 + 87) (a0 + 6) (zsq σ a0 [3, 2, 1, 0] (a0 + 56) (fun k => decide (k < 0)) a0 (fun _ => true)) _ hb6 hx87) rfl (Nat.le_of_ble_eq_true rfl) (by decide) (by decide) (by decide) (by omega) rfl dX11_init_55 ?_
  obtain ⟨μ3, e3, h⟩ := zl_of h
  refine z_mem e3 ?_
  rw [zst_zsq σ [3, 2, 1, 0] _ _ (by omega) (by omega) (by omega)]
  refine z_putr C0 (σ1 := zsq σ a0 [4, 3, 2, 1, 0] (a0 + 56) (fun k => decide (k < 0)) a0 (fun _ => true)) hk (by omega) kf_11_40 zpf_11_4 rfl (fun q => ⟨rfl, rfl⟩) zr_11_4 hz4.1 (zsq_put σ a0 [3, 2, 1, 0] 4 _ _ _ _ _) dX11_init_58 ?_
  refine z_aload_n C0 dX11_init_61 rfl 0 rfl ?_
  refine z_newo (σ' := zsw (zsq σ a0 [4, 3, 2, 1, 0] (a0 + 56) (fun k => decide (k < 0)) a0 (fun _ => true)) (a0 + 90) []) C0 rfl zcl_4 hx90 kcl_RX11_31 kin_RX4 kii_RX4 zdv_4 (fun j _ _ => zsw_new _ _ _) (fun q hq => zsw_lo _ hq) (by decide) (by decide) dX11_init_62 ?_
  refine z_dup C0 dX11_init_65 rfl ?_
  refine z_aload_n C0 dX11_init_66 rfl 0 rfl ?_
  refine z_get C0 (v := .ref (zb g + (a0 + 1))) hk (by omega) kf_11_10 (zval_ref zr_11_0 (by rw [zsw_lo _ (by omega)]; unfold zsq; rw [if_pos rfl]; rfl) hz0.1) dX11_init_67 ?_
  have hT1 : zT (a0 + 91) (zsw (zsq σ a0 [4, 3, 2, 1, 0] (a0 + 56) (fun k => decide (k < 0)) a0 (fun _ => true)) (a0 + 90) []) (a0 + 1) 8 := zsq_T8 hx1 (by omega) (by omega) (by omega) (by omega)
  refine z_getr C0 hT1 kf_11_33 zr_8_5 zx_8 (zs_8_5 hT1).1 dX11_init_70 ?_
  refine z_iconst C0 dX11_init_73 (v := 0) rfl ?_
  refine z_aald0 (x := a0 + 6) C0 hT1 hf6 dX11_init_74 ?_
  clear hT1
  refine z_callI C0 (nc := 1) (o := a0 + 90) (As := [.ref (zb g + (a0 + 6))]) (rest := [.ref (zb g + (a0 + 90)), .ref (zb g + a0)]) rfl kc_X4_init.1 kc_X4_init.2.1 kc_X4_init.2.2 (by decide) ⟨by decide, by decide, by decide +kernel⟩ rfl km_RX11_37 (m_X4_init (a0 + 90) (a0 + 6) (zsq σ a0 [4, 3, 2, 1, 0] (a0 + 56) (fun k => decide (k < 0)) a0 (fun _ => true)) _ hb6 hx90) rfl (Nat.le_of_ble_eq_true rfl) (by decide) (by decide) (by decide) (by omega) rfl dX11_init_75 ?_
  obtain ⟨μ4, e4, h⟩ := zl_of h
  refine z_mem e4 ?_
  rw [zst_zsq σ [4, 3, 2, 1, 0] _ _ (by omega) (by omega) (by omega)]
  refine z_putr C0 (σ1 := zsq σ a0 [5, 4, 3, 2, 1, 0] (a0 + 56) (fun k => decide (k < 0)) a0 (fun _ => true)) hk (by omega) kf_11_44 zpf_11_5 rfl (fun q => ⟨rfl, rfl⟩) zr_11_5 hz5.1 (zsq_put σ a0 [4, 3, 2, 1, 0] 5 _ _ _ _ _) dX11_init_78 ?_
  refine z_aload_n C0 dX11_init_81 rfl 0 rfl ?_
  refine z_newo (σ' := zsw (zsq σ a0 [5, 4, 3, 2, 1, 0] (a0 + 56) (fun k => decide (k < 0)) a0 (fun _ => true)) (a0 + 93) []) C0 rfl zcl_0 hx93 kcl_RX11_47 kin_RX0 kii_RX0 zdv_0 (fun j _ _ => zsw_new _ _ _) (fun q hq => zsw_lo _ hq) (by decide) (by decide) dX11_init_82 ?_
  refine z_dup C0 dX11_init_85 rfl ?_
  refine z_aload_n C0 dX11_init_86 rfl 0 rfl ?_
  refine z_get C0 (v := .ref (zb g + (a0 + 1))) hk (by omega) kf_11_10 (zval_ref zr_11_0 (by rw [zsw_lo _ (by omega)]; unfold zsq; rw [if_pos rfl]; rfl) hz0.1) dX11_init_87 ?_
  have hT1 : zT (a0 + 94) (zsw (zsq σ a0 [5, 4, 3, 2, 1, 0] (a0 + 56) (fun k => decide (k < 0)) a0 (fun _ => true)) (a0 + 93) []) (a0 + 1) 8 := zsq_T8 hx1 (by omega) (by omega) (by omega) (by omega)
  refine z_getr C0 hT1 kf_11_33 zr_8_5 zx_8 (zs_8_5 hT1).1 dX11_init_90 ?_
  refine z_iconst C0 dX11_init_93 (v := 0) rfl ?_
  refine z_aald0 (x := a0 + 6) C0 hT1 hf6 dX11_init_94 ?_
  clear hT1
  refine z_callI C0 (nc := 1) (o := a0 + 93) (As := [.ref (zb g + (a0 + 6))]) (rest := [.ref (zb g + (a0 + 93)), .ref (zb g + a0)]) rfl kc_X0_init.1 kc_X0_init.2.1 kc_X0_init.2.2 (by decide) ⟨by decide, by decide, by decide +kernel⟩ rfl km_RX11_49 (m_X0_init (a0 + 93) (a0 + 6) (zsq σ a0 [5, 4, 3, 2, 1, 0] (a0 + 56) (fun k => decide (k < 0)) a0 (fun _ => true)) _ hb6 hx93) rfl (Nat.le_of_ble_eq_true rfl) (by decide) (by decide) (by decide) (by omega) rfl dX11_init_95 ?_
  obtain ⟨μ5, e5, h⟩ := zl_of h
  refine z_mem e5 ?_
  rw [zst_zsq σ [5, 4, 3, 2, 1, 0] _ _ (by omega) (by omega) (by omega)]
  refine z_putr C0 (σ1 := zsq σ a0 [6, 5, 4, 3, 2, 1, 0] (a0 + 56) (fun k => decide (k < 0)) a0 (fun _ => true)) hk (by omega) kf_11_50 zpf_11_6 rfl (fun q => ⟨rfl, rfl⟩) zr_11_6 hz6.1 (zsq_put σ a0 [5, 4, 3, 2, 1, 0] 6 _ _ _ _ _) dX11_init_98 ?_
  refine z_aload_n C0 dX11_init_101 rfl 0 rfl ?_
  refine z_newo (σ' := zsw (zsq σ a0 [6, 5, 4, 3, 2, 1, 0] (a0 + 56) (fun k => decide (k < 0)) a0 (fun _ => true)) (a0 + 104) []) C0 rfl zcl_3 hx104 kcl_RX11_54 kin_RX3 kii_RX3 zdv_3 (fun j _ _ => zsw_new _ _ _) (fun q hq => zsw_lo _ hq) (by decide) (by decide) dX11_init_102 ?_
  refine z_dup C0 dX11_init_105 rfl ?_
  refine z_callINw (host := "GraveRegatta") C0 (nc := 0) (o := a0 + 104) (As := []) (rest := [.ref (zb g + (a0 + 104)), .ref (zb g + a0)]) rfl kc_X3_init.1 kc_X3_init.2.1 kc_X3_init.2.2 (by decide) ⟨by decide, by decide, by decide +kernel⟩ rfl ((hSp.at C0).2.2.2.2.2.2.2.1 (RX11, 56, yX3_init) (by decide)) (m_X3_init (a0 + 104) (zsq σ a0 [6, 5, 4, 3, 2, 1, 0] (a0 + 56) (fun k => decide (k < 0)) a0 (fun _ => true)) _ hx104) rfl (Nat.le_of_ble_eq_true rfl) (by decide) (by decide) (by decide) (by omega) rfl dX11_init_106 ?_
  obtain ⟨μ6, e6, h⟩ := zl_of h
  refine z_mem e6 ?_
  rw [zst_zsq σ [6, 5, 4, 3, 2, 1, 0] _ _ (by omega) (by omega) (by omega)]
  refine z_putr C0 (σ1 := zsq σ a0 [7, 6, 5, 4, 3, 2, 1, 0] (a0 + 56) (fun k => decide (k < 0)) a0 (fun _ => true)) hk (by omega) kf_11_57 zpf_11_7 rfl (fun q => ⟨rfl, rfl⟩) zr_11_7 hz7.1 (zsq_put σ a0 [6, 5, 4, 3, 2, 1, 0] 7 _ _ _ _ _) dX11_init_109 ?_
  refine z_aload_n C0 dX11_init_112 rfl 0 rfl ?_
  refine z_newo (σ' := zsw (zsq σ a0 [7, 6, 5, 4, 3, 2, 1, 0] (a0 + 56) (fun k => decide (k < 0)) a0 (fun _ => true)) (a0 + 106) []) C0 rfl zcl_9 hx106 kcl_RX11_61 kin_RX9 kii_RX9 zdv_9 (fun j _ _ => zsw_new _ _ _) (fun q hq => zsw_lo _ hq) (by decide) (by decide) dX11_init_113 ?_
  refine z_dup C0 dX11_init_116 rfl ?_
  refine z_callINw (host := "GraveRegatta") C0 (nc := 0) (o := a0 + 106) (As := []) (rest := [.ref (zb g + (a0 + 106)), .ref (zb g + a0)]) rfl kc_X9_init.1 kc_X9_init.2.1 kc_X9_init.2.2 (by decide) ⟨by decide, by decide, by decide +kernel⟩ rfl ((hSp.at C0).2.2.2.2.2.2.2.1 (RX11, 63, yX9_init) (by decide)) (m_X9_init (a0 + 106) (zsq σ a0 [7, 6, 5, 4, 3, 2, 1, 0] (a0 + 56) (fun k => decide (k < 0)) a0 (fun _ => true)) _ hx106) rfl (Nat.le_of_ble_eq_true rfl) (by decide) (by decide) (by decide) (by omega) rfl dX11_init_117 ?_
  obtain ⟨μ7, e7, h⟩ := zl_of h
  refine z_mem e7 ?_
  rw [zst_zsq σ [7, 6, 5, 4, 3, 2, 1, 0] _ _ (by omega) (by omega) (by omega)]
  refine z_putr C0 (σ1 := zsq σ a0 [8, 7, 6, 5, 4, 3, 2, 1, 0] (a0 + 56) (fun k => decide (k < 0)) a0 (fun _ => true)) hk (by omega) kf_11_64 zpf_11_8 rfl (fun q => ⟨rfl, rfl⟩) zr_11_8 hz8.1 (zsq_put σ a0 [7, 6, 5, 4, 3, 2, 1, 0] 8 _ _ _ _ _) dX11_init_120 ?_
  refine z_aload_n C0 dX11_init_123 rfl 0 rfl ?_
  refine z_newo (σ' := zsw (zsq σ a0 [8, 7, 6, 5, 4, 3, 2, 1, 0] (a0 + 56) (fun k => decide (k < 0)) a0 (fun _ => true)) (a0 + 111) []) C0 rfl zcl_7 hx111 kcl_RX11_68 kin_RX7 kii_RX7 zdv_7 (fun j _ _ => zsw_new _ _ _) (fun q hq => zsw_lo _ hq) (by decide) (by decide) dX11_init_124 ?_
  refine z_dup C0 dX11_init_127 rfl ?_
  refine z_callINw (host := "GraveRegatta") C0 (nc := 0) (o := a0 + 111) (As := []) (rest := [.ref (zb g + (a0 + 111)), .ref (zb g + a0)]) rfl kc_X7_init.1 kc_X7_init.2.1 kc_X7_init.2.2 (by decide) ⟨by decide, by decide, by decide +kernel⟩ rfl ((hSp.at C0).2.2.2.2.2.2.2.1 (RX11, 70, yX7_init) (by decide)) (m_X7_init (a0 + 111) (zsq σ a0 [8, 7, 6, 5, 4, 3, 2, 1, 0] (a0 + 56) (fun k => decide (k < 0)) a0 (fun _ => true)) _ (fun U hU => (hA U hU).2.2.2) hx111) rfl (Nat.le_of_ble_eq_true rfl) (by decide) (by decide) (by decide) (by omega) rfl dX11_init_128 ?_
  obtain ⟨μ8, e8, h⟩ := zl_of h
  refine z_mem e8 ?_
  rw [zst_zsq σ [8, 7, 6, 5, 4, 3, 2, 1, 0] _ _ (by omega) (by omega) (by omega)]
  refine z_putr C0 (σ1 := zsq σ a0 [9, 8, 7, 6, 5, 4, 3, 2, 1, 0] (a0 + 56) (fun k => decide (k < 0)) a0 (fun _ => true)) hk (by omega) kf_11_71 zpf_11_9 rfl (fun q => ⟨rfl, rfl⟩) zr_11_9 hz9.1 (zsq_put σ a0 [8, 7, 6, 5, 4, 3, 2, 1, 0] 9 _ _ _ _ _) dX11_init_131 ?_
  refine z_aload_n C0 dX11_init_134 rfl 0 rfl ?_
  refine z_newo (σ' := zsw (zsq σ a0 [9, 8, 7, 6, 5, 4, 3, 2, 1, 0] (a0 + 56) (fun k => decide (k < 0)) a0 (fun _ => true)) (a0 + 132) []) C0 rfl zcl_2 hx132 kcl_RX11_75 kin_RX2 kii_RX2 zdv_2 (fun j _ _ => zsw_new _ _ _) (fun q hq => zsw_lo _ hq) (by decide) (by decide) dX11_init_135 ?_
  refine z_dup C0 dX11_init_138 rfl ?_
  refine z_callINw (host := "GraveRegatta") C0 (nc := 0) (o := a0 + 132) (As := []) (rest := [.ref (zb g + (a0 + 132)), .ref (zb g + a0)]) rfl kc_X2_init.1 kc_X2_init.2.1 kc_X2_init.2.2 (by decide) ⟨by decide, by decide, by decide +kernel⟩ rfl ((hSp.at C0).2.2.2.2.2.2.2.1 (RX11, 77, yX2_init) (by decide)) (m_X2_init (a0 + 132) (zsq σ a0 [9, 8, 7, 6, 5, 4, 3, 2, 1, 0] (a0 + 56) (fun k => decide (k < 0)) a0 (fun _ => true)) _ (fun U hU => (hA U hU).2.2.2) hx132) rfl (Nat.le_of_ble_eq_true rfl) (by decide) (by decide) (by decide) (by omega) rfl dX11_init_139 ?_
  obtain ⟨μ9, e9, h⟩ := zl_of h
  refine z_mem e9 ?_
  rw [zst_zsq σ [9, 8, 7, 6, 5, 4, 3, 2, 1, 0] _ _ (by omega) (by omega) (by omega)]
  refine z_putr C0 (σ1 := zsq σ a0 [10, 9, 8, 7, 6, 5, 4, 3, 2, 1, 0] (a0 + 56) (fun k => decide (k < 0)) a0 (fun _ => true)) hk (by omega) kf_11_78 zpf_11_10 rfl (fun q => ⟨rfl, rfl⟩) zr_11_10 hz10.1 (zsq_put σ a0 [9, 8, 7, 6, 5, 4, 3, 2, 1, 0] 10 _ _ _ _ _) dX11_init_142 ?_
  refine z_iconst C0 dX11_init_145 (v := 0) rfl ?_
  refine z_istore_n (lo1 := [(1, .int 0), (0, .ref (zb g + a0))]) C0 dX11_init_146 rfl (by decide) rfl ?_
  refine z_iload_n C0 dX11_init_147 rfl 0 rfl ?_
  refine z_iconst C0 dX11_init_148 (v := 3) rfl ?_
  refine z_icmp_ge C0 171 dX11_init_149 (by decide) (fun c => absurd c (by decide : ¬ (3 : Int32) ≤ 0)) (fun _ => ?_)
  refine z_aload_n C0 dX11_init_152 rfl 1 rfl ?_
  refine z_get C0 (v := .ref (zb g + (a0 + 56))) hk (by omega) kf_11_16 (zval_ref zr_11_1 (by unfold zsq; rw [if_pos rfl]; rfl) hz1.1) dX11_init_153 ?_
  refine z_iload_n C0 dX11_init_156 rfl 0 rfl ?_
  refine z_newo (σ' := zsw (zsq σ a0 [10, 9, 8, 7, 6, 5, 4, 3, 2, 1, 0] (a0 + 56) (fun k => decide (k < 0)) a0 (fun _ => true)) (a0 + 145) []) C0 rfl zcl_8 hx145 kcl_RX11_7 kin_RX8 kii_RX8 zdv_8 (fun j _ _ => zsw_new _ _ _) (fun q hq => zsw_lo _ hq) (by decide) (by decide) dX11_init_157 ?_
  refine z_dup C0 dX11_init_160 rfl ?_
  obtain ⟨μ10, e10, h⟩ := zbd_of h
  refine z_callI C0 (nc := 0) (o := a0 + 145) (As := []) (rest := [.ref (zb g + (a0 + 145)), .int 0, .ref (zb g + (a0 + 56))]) rfl kc_X8_init.1 kc_X8_init.2.1 kc_X8_init.2.2 (by decide) ⟨by decide, by decide, by decide +kernel⟩ rfl km_RX11_9 (m_X8_init (κ := κ) (a0 + 145) (zsq σ a0 [10, 9, 8, 7, 6, 5, 4, 3, 2, 1, 0] (a0 + 56) (fun k => decide (k < 0)) a0 (fun _ => true)) _ hA hSp hx145 e10) rfl (Nat.le_of_ble_eq_true rfl) (by decide) (by decide) (by decide) (by omega) rfl dX11_init_161 ?_
  rw [zst_zsq σ [10, 9, 8, 7, 6, 5, 4, 3, 2, 1, 0] _ _ (by omega) (by omega) (by omega)]
  refine z_aast C0 (σ1 := zsq σ a0 [10, 9, 8, 7, 6, 5, 4, 3, 2, 1, 0] (a0 + 56) (fun k => decide (k < 1)) a0 (fun _ => true)) (kind := 24) (len := 3) (t0 := 4) (r := (RX8, TX8, 7)) (j := 0) ⟨by omega, hz1.2.2.1, hz1.2.2.2⟩ (by decide) rfl hx145 (by decide) (by omega) rfl (by decide) rfl hf145 (zsq_sto1 (by omega)) dX11_init_164 ?_
  refine z_iinc (lo1 := [(1, .int 1), (0, .ref (zb g + a0))]) (x := 0) (v := 1) (w := 1) C0 dX11_init_165 0 rfl rfl rfl (by decide) rfl ?_
  refine z_goto C0 147 dX11_init_168 (by decide) ?_
  refine z_iload_n C0 dX11_init_147 rfl 0 rfl ?_
  refine z_iconst C0 dX11_init_148 (v := 3) rfl ?_
  refine z_icmp_ge C0 171 dX11_init_149 (by decide) (fun c => absurd c (by decide : ¬ (3 : Int32) ≤ 1)) (fun _ => ?_)
  refine z_aload_n C0 dX11_init_152 rfl 1 rfl ?_
  refine z_get C0 (v := .ref (zb g + (a0 + 56))) hk (by omega) kf_11_16 (zval_ref zr_11_1 (by unfold zsq; rw [if_pos rfl]; rfl) hz1.1) dX11_init_153 ?_
  refine z_iload_n C0 dX11_init_156 rfl 0 rfl ?_
  refine z_newo (σ' := zsw (zsq σ a0 [10, 9, 8, 7, 6, 5, 4, 3, 2, 1, 0] (a0 + 56) (fun k => decide (k < 1)) a0 (fun _ => true)) (a0 + 200) []) C0 rfl zcl_8 hx200 kcl_RX11_7 kin_RX8 kii_RX8 zdv_8 (fun j _ _ => zsw_new _ _ _) (fun q hq => zsw_lo _ hq) (by decide) (by decide) dX11_init_157 ?_
  refine z_dup C0 dX11_init_160 rfl ?_
  obtain ⟨μ11, e11, h⟩ := zbd_of h
  refine z_callI C0 (nc := 0) (o := a0 + 200) (As := []) (rest := [.ref (zb g + (a0 + 200)), .int 1, .ref (zb g + (a0 + 56))]) rfl kc_X8_init.1 kc_X8_init.2.1 kc_X8_init.2.2 (by decide) ⟨by decide, by decide, by decide +kernel⟩ rfl km_RX11_9 (m_X8_init (κ := κ) (a0 + 200) (zsq σ a0 [10, 9, 8, 7, 6, 5, 4, 3, 2, 1, 0] (a0 + 56) (fun k => decide (k < 1)) a0 (fun _ => true)) _ hA hSp hx200 e11) rfl (Nat.le_of_ble_eq_true rfl) (by decide) (by decide) (by decide) (by omega) rfl dX11_init_161 ?_
  rw [zst_zsq σ [10, 9, 8, 7, 6, 5, 4, 3, 2, 1, 0] _ _ (by omega) (by omega) (by omega)]
  refine z_aast C0 (σ1 := zsq σ a0 [10, 9, 8, 7, 6, 5, 4, 3, 2, 1, 0] (a0 + 56) (fun k => decide (k < 2)) a0 (fun _ => true)) (kind := 24) (len := 3) (t0 := 4) (r := (RX8, TX8, 7)) (j := 1) ⟨by omega, hz1.2.2.1, hz1.2.2.2⟩ (by decide) rfl hx200 (by decide) (by omega) rfl (by decide) rfl hf200 (zsq_sto1 (by omega)) dX11_init_164 ?_
  refine z_iinc (lo1 := [(1, .int 2), (0, .ref (zb g + a0))]) (x := 1) (v := 2) (w := 1) C0 dX11_init_165 0 rfl rfl rfl (by decide) rfl ?_
  refine z_goto C0 147 dX11_init_168 (by decide) ?_
  refine z_iload_n C0 dX11_init_147 rfl 0 rfl ?_
  refine z_iconst C0 dX11_init_148 (v := 3) rfl ?_
  refine z_icmp_ge C0 171 dX11_init_149 (by decide) (fun c => absurd c (by decide : ¬ (3 : Int32) ≤ 2)) (fun _ => ?_)
  refine z_aload_n C0 dX11_init_152 rfl 1 rfl ?_
  refine z_get C0 (v := .ref (zb g + (a0 + 56))) hk (by omega) kf_11_16 (zval_ref zr_11_1 (by unfold zsq; rw [if_pos rfl]; rfl) hz1.1) dX11_init_153 ?_
  refine z_iload_n C0 dX11_init_156 rfl 0 rfl ?_
  refine z_newo (σ' := zsw (zsq σ a0 [10, 9, 8, 7, 6, 5, 4, 3, 2, 1, 0] (a0 + 56) (fun k => decide (k < 2)) a0 (fun _ => true)) (a0 + 255) []) C0 rfl zcl_8 hx255 kcl_RX11_7 kin_RX8 kii_RX8 zdv_8 (fun j _ _ => zsw_new _ _ _) (fun q hq => zsw_lo _ hq) (by decide) (by decide) dX11_init_157 ?_
  refine z_dup C0 dX11_init_160 rfl ?_
  obtain ⟨μ12, e12, h⟩ := zbd_of h
  refine z_callI C0 (nc := 0) (o := a0 + 255) (As := []) (rest := [.ref (zb g + (a0 + 255)), .int 2, .ref (zb g + (a0 + 56))]) rfl kc_X8_init.1 kc_X8_init.2.1 kc_X8_init.2.2 (by decide) ⟨by decide, by decide, by decide +kernel⟩ rfl km_RX11_9 (m_X8_init (κ := κ) (a0 + 255) (zsq σ a0 [10, 9, 8, 7, 6, 5, 4, 3, 2, 1, 0] (a0 + 56) (fun k => decide (k < 2)) a0 (fun _ => true)) _ hA hSp hx255 e12) rfl (Nat.le_of_ble_eq_true rfl) (by decide) (by decide) (by decide) (by omega) rfl dX11_init_161 ?_
  rw [zst_zsq σ [10, 9, 8, 7, 6, 5, 4, 3, 2, 1, 0] _ _ (by omega) (by omega) (by omega)]
  refine z_aast C0 (σ1 := zsq σ a0 [10, 9, 8, 7, 6, 5, 4, 3, 2, 1, 0] (a0 + 56) (fun k => decide (k < 3)) a0 (fun _ => true)) (kind := 24) (len := 3) (t0 := 4) (r := (RX8, TX8, 7)) (j := 2) ⟨by omega, hz1.2.2.1, hz1.2.2.2⟩ (by decide) rfl hx255 (by decide) (by omega) rfl (by decide) rfl hf255 (zsq_sto1 (by omega)) dX11_init_164 ?_
  refine z_iinc (lo1 := [(1, .int 3), (0, .ref (zb g + a0))]) (x := 2) (v := 3) (w := 1) C0 dX11_init_165 0 rfl rfl rfl (by decide) rfl ?_
  refine z_goto C0 147 dX11_init_168 (by decide) ?_
  refine z_iload_n C0 dX11_init_147 rfl 0 rfl ?_
  refine z_iconst C0 dX11_init_148 (v := 3) rfl ?_
  refine z_icmp_ge C0 171 dX11_init_149 (by decide) (fun _ => ?_) (fun c => absurd (by decide : (3 : Int32) ≤ 3) c)
  refine z_sigA (zsq_end (ks := [10, 9, 8, 7, 6, 5, 4, 3, 2, 1, 0]) hk (by decide) (by decide +kernel) ⟨by omega, Or.inr rfl⟩ (by have := hz1.2.2.1; omega) (Or.inr rfl) (fun k h => decide_eq_true (by have := hz1.2.2.2; omega)) (fun _ _ => rfl)) ?_
  obtain rfl := Option.some.inj h
  exact z_vret C0 rfl dX11_init_171
