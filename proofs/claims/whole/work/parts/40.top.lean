def f_X11_again (a0 : Nat) (v1 : Int32) (μ : zM) : Option (Int32 × zM) :=
  zbd (if v1 < 0 then
      some false
    else
      if (3 : Int32) ≤ v1 then
        some false
      else
        zg (zin v1 3) <|
        if ¬ (μ (a0 + 57) (v1.toNatClampNeg)) = 0 then
          some true
        else
          some false) fun b6 =>
  if b6 = true then
    zg (zin v1 3) <|
    zbd (f_X8_takeFrom (a0 + 1) (a0 + 145 + 55 * v1.toNatClampNeg) μ) fun μ8 =>
    some ((1 : Int32), μ8)
  else
    some ((0 : Int32), μ)
set_option maxHeartbeats 4000000 in
set_option maxRecDepth 100000 in
theorem r_X11_again {l : Launch} {g : zL} (a0 : Nat) (v1 : Int32) (μ : zM) (hT0 : zT zNN zσ1 a0 11) {rv : Int32} {μr : zM} (h : f_X11_again a0 v1 μ = some (rv, μr)) : zMet l g yX11_again cX11_again 2 (some (.boolean)) 4 0 0 zNN zNN zσ1 zσ1 [.ref (zb g + a0), .int v1] μ (some (.int rv)) μr := by
  refine zMet.of (by decide +kernel) (Nat.le_of_ble_eq_true rfl) ?_
  intro p e s m args below meth c C0
  refine z_loc (lo1 := [(0, .ref (zb g + a0)), (1, .int v1)]) rfl ?_
  unfold f_X11_again at h
  refine z_iload_n C0 dX11_again_0 rfl 1 rfl ?_
  obtain ⟨b6, e_b6, h⟩ := zbd_of h
  refine z_joinb b6 μ 20 18 [(0, .ref (zb g + a0)), (1, .int v1)] [] (fun z11 => ?_) (fun z11 => ?_) (fun k9 k10 => ?_)
  · have h := zif_t z11 h
    refine z_aload_n C0 dX11_again_20 rfl 0 rfl ?_
    refine z_getr C0 hT0 kf_11_10 zr_11_0 zx_11 (zs_11_0 hT0).1 dX11_again_21 ?_
    refine z_aload_n C0 dX11_again_24 rfl 0 rfl ?_
    refine z_getr C0 hT0 kf_11_16 zr_11_1 zx_11 (zs_11_1 hT0).1 dX11_again_25 ?_
    refine z_iload_n C0 dX11_again_28 rfl 1 rfl ?_
    obtain ⟨g7, h⟩ := zg_of h
    refine z_aald C0 (zs_11_1 hT0).2 (by decide) (by decide) g7 (ze_11_1 hT0 g7).1 (ze_11_1 hT0 g7).2.1 dX11_again_29 ?_
    obtain ⟨μ8, e_μ8, h⟩ := zbd_of h
    refine z_callV (As := [.ref (zb g + (a0 + 145 + 55 * v1.toNatClampNeg))]) (rest := []) C0 rfl kc_X8_takeFrom km_RX11_147 (r_X8_takeFrom (l := l) (g := g) (a0 + 1) (a0 + 145 + 55 * v1.toNatClampNeg) μ (zs_11_0 hT0).2 (ze_11_1 hT0 g7).2.2 e_μ8) (zs_11_0 hT0).2.1 (zs_11_0 hT0).2.2.2.1 rfl (by decide) rfl (Nat.le_of_ble_eq_true rfl) (Nat.le_of_ble_eq_true rfl) (Nat.le_of_ble_eq_true rfl) (Nat.le_of_ble_eq_true rfl) (Nat.le_refl _) rfl rfl dX11_again_30 ?_
    refine z_iconst (v := (1 : Int32)) C0 dX11_again_33 (by decide) ?_
    have h := Option.some.inj h
    obtain ⟨rfl, rfl⟩ := Prod.mk.inj h
    exact z_zret C0 rfl (by decide) dX11_again_34
  · have h := zif_f (fun q => Bool.noConfusion (z11.symm.trans q)) h
    refine z_iconst (v := (0 : Int32)) C0 dX11_again_18 (by decide) ?_
    have h := Option.some.inj h
    obtain ⟨rfl, rfl⟩ := Prod.mk.inj h
    exact z_zret C0 rfl (by decide) dX11_again_19
  · have h := e_b6
    refine z_if_lt C0 18 dX11_again_1 (by decide) (fun c1 => ?_) (fun c1 => ?_)
    · have h := zif_t c1 h
      exact k10 (Option.some.inj h).symm
    · have h := zif_f c1 h
      refine z_iload_n C0 dX11_again_4 rfl 1 rfl ?_
      refine z_iconst (v := (3 : Int32)) C0 dX11_again_5 (by decide) ?_
      refine z_icmp_ge C0 18 dX11_again_6 (by decide) (fun c2 => ?_) (fun c2 => ?_)
      · have h := zif_t c2 h
        exact k10 (Option.some.inj h).symm
      · have h := zif_f c2 h
        refine z_aload_n C0 dX11_again_9 rfl 0 rfl ?_
        refine z_getr C0 hT0 kf_11_20 zr_11_2 zx_11 (zs_11_2 hT0).1 dX11_again_10 ?_
        refine z_iload_n C0 dX11_again_13 rfl 1 rfl ?_
        obtain ⟨g4, h⟩ := zg_of h
        refine z_bald C0 (zs_11_2 hT0).2 g4 rfl dX11_again_14 ?_
        refine z_if_ne C0 20 dX11_again_15 (by decide) (fun c5 => ?_) (fun c5 => ?_)
        · have h := zif_t c5 h
          exact k9 (Option.some.inj h).symm
        · have h := zif_f (fun q => q c5) h
          exact k10 (Option.some.inj h).symm
def f_X11_bail (a0 : Nat) (v1 : Int32) (v2 : Int32) (v3 : Int32) (μ : zM) : Option (Int32 × zM) :=
  zbd (f_X8_lakeAt (a0 + 1) v1 μ) fun r1 =>
  zbd (zcase r1 (some (.inr ())) fun w3 => zg (zgn w3 1) <|
      if (¬ ((μ (w3 + 10) 2) = 0)) ∧ ((¬ (v2 < (1 : Int32))) ∧ ((¬ ((8 : Int32) < v2)) ∧ ((¬ (v3 < (-1 : Int32))) ∧ (v3 < v2)))) then
        zbd (f_X2_plan (a0 + 132) (w3 + 10) v2 μ) fun μ10 =>
        zbd (if ¬ v3 = (-1 : Int32) then
            zbd (f_X2_leakBailed (a0 + 132) v3 μ10) fun r13 =>
            some r13
          else
            some (μ10 (a0 + 132) 0)) fun x14 =>
        some (.inl (x14, μ10))
      else
        some (.inr ())) fun q15 => zsum q15 (fun t => some t) fun _ =>
  some ((-1 : Int32), μ)
set_option maxHeartbeats 4000000 in
set_option maxRecDepth 100000 in
theorem r_X11_bail {l : Launch} {g : zL} (a0 : Nat) (v1 : Int32) (v2 : Int32) (v3 : Int32) (μ : zM) (hT0 : zT zNN zσ1 a0 11) {rv : Int32} {μr : zM} (h : f_X11_bail a0 v1 v2 v3 μ = some (rv, μr)) : zMet l g yX11_bail cX11_bail 5 (some (.int)) 13 0 0 zNN zNN zσ1 zσ1 [.ref (zb g + a0), .int v1, .int v2, .int v3] μ (some (.int rv)) μr := by
  refine zMet.of (by decide +kernel) (Nat.le_of_ble_eq_true rfl) ?_
  intro p e s m args below meth c C0
  refine z_loc (lo1 := [(0, .ref (zb g + a0)), (1, .int v1), (2, .int v2), (3, .int v3)]) rfl ?_
  unfold f_X11_bail at h
  refine z_aload_n C0 dX11_bail_0 rfl 0 rfl ?_
  refine z_getr C0 hT0 kf_11_10 zr_11_0 zx_11 (zs_11_0 hT0).1 dX11_bail_1 ?_
  refine z_iload_n C0 dX11_bail_4 rfl 1 rfl ?_
  obtain ⟨r1, e_r1, h⟩ := zbd_of h
  refine z_callV (As := [.int v1]) (rest := []) C0 rfl kc_X8_lakeAt km_RX11_114 (r_X8_lakeAt (l := l) (g := g) (a0 + 1) v1 μ (zs_11_0 hT0).2 e_r1) (zs_11_0 hT0).2.1 (zs_11_0 hT0).2.2.2.1 rfl (by decide) rfl (Nat.le_of_ble_eq_true rfl) (Nat.le_of_ble_eq_true rfl) (Nat.le_of_ble_eq_true rfl) (Nat.le_of_ble_eq_true rfl) (Nat.le_refl _) rfl rfl dX11_bail_5 ?_
  refine z_astoreq (lo1 := [(4, zopt (zb g) r1), (0, .ref (zb g + a0)), (1, .int v1), (2, .int v2), (3, .int v3)]) C0 dX11_bail_8 (by decide) rfl ?_
  refine z_aloadq C0 dX11_bail_10 0 rfl ?_
  obtain ⟨q15, e_q15, h⟩ := zbd_of h
  have kr_J2 := zsum_l h
  have kx_J2 := zsum_r h
  clear h
  refine z_joinq (fun o => q15 = Sum.inr o) (fun _ => μ) 47 (fun o => []) (fun o => []) ?_ (fun k_J2 => ?_)
  · intro u_ hq
    have h := kx_J2 _ hq
    refine z_iconst (v := (-1 : Int32)) C0 dX11_bail_47 (by decide) ?_
    have h := Option.some.inj h
    obtain ⟨rfl, rfl⟩ := Prod.mk.inj h
    exact z_iret C0 rfl dX11_bail_48
  · have h := e_q15
    refine z_ifnullq C0 47 dX11_bail_12 (by decide) (fun c16 => ?_) (fun w3 c16 => ?_)
    · have h_c16 := zcase_n c16 h
      clear h
      subst c16
      have h := h_c16
      refine z_loc (lo1 := [(4, .null), (0, .ref (zb g + a0)), (1, .int v1), (2, .int v2), (3, .int v3)]) rfl ?_
      refine z_sub (lo1 := []) [] rfl ?_
      exact k_J2 () (Option.some.inj h).symm
    · have h_c16 := zcase_s c16 h
      clear h
      subst c16
      have h := h_c16
      obtain ⟨g4, h⟩ := zg_of h
      refine z_loc (lo1 := [(4, .ref (zb g + w3)), (0, .ref (zb g + a0)), (1, .int v1), (2, .int v2), (3, .int v3)]) rfl ?_
      refine z_aload C0 dX11_bail_15 0 rfl ?_
      refine z_getr C0 (zgn_T g4 (by decide)) kf_11_268 zr_1_5 zx_1 (zs_1_5 (zgn_T g4 (by decide))).1 dX11_bail_17 ?_
      refine z_geti C0 (zs_1_5 (zgn_T g4 (by decide))).2.1 (zs_1_5 (zgn_T g4 (by decide))).2.2.2.1 kf_11_132 zr_6_2 dX11_bail_20 ?_
      by_cases hc17 : (¬ ((μ (w3 + 10) 2) = 0)) ∧ ((¬ (v2 < (1 : Int32))) ∧ ((¬ ((8 : Int32) < v2)) ∧ ((¬ (v3 < (-1 : Int32))) ∧ (v3 < v2))))
      · have h := zif_t hc17 h
        refine z_join μ 49 [(4, .ref (zb g + w3)), (0, .ref (zb g + a0)), (1, .int v1), (2, .int v2), (3, .int v3)] [] ?_ (fun k18 => ?_)
        · refine z_aload_n C0 dX11_bail_49 rfl 1 rfl ?_
          refine z_getr C0 hT0 kf_11_78 zr_11_10 zx_11 (zs_11_10 hT0).1 dX11_bail_50 ?_
          refine z_aload C0 dX11_bail_53 0 rfl ?_
          refine z_getr C0 (zgn_T g4 (by decide)) kf_11_268 zr_1_5 zx_1 (zs_1_5 (zgn_T g4 (by decide))).1 dX11_bail_55 ?_
          refine z_iload_n C0 dX11_bail_58 rfl 3 rfl ?_
          obtain ⟨μ10, e_μ10, h⟩ := zbd_of h
          refine z_callV (As := [.ref (zb g + (w3 + 10)), .int v2]) (rest := []) C0 rfl kc_X2_plan km_RX11_271 (r_X2_plan (l := l) (g := g) (a0 + 132) (w3 + 10) v2 μ (zs_11_10 hT0).2 (zs_1_5 (zgn_T g4 (by decide))).2 e_μ10) (zs_11_10 hT0).2.1 (zs_11_10 hT0).2.2.2.1 rfl (by decide) rfl (Nat.le_of_ble_eq_true rfl) (Nat.le_of_ble_eq_true rfl) (Nat.le_of_ble_eq_true rfl) (Nat.le_of_ble_eq_true rfl) (Nat.le_refl _) rfl rfl dX11_bail_59 ?_
          refine z_iload_n C0 dX11_bail_62 rfl 4 rfl ?_
          refine z_iconst (v := (-1 : Int32)) C0 dX11_bail_63 (by decide) ?_
          obtain ⟨x14, e_x14, h⟩ := zbd_of h
          refine z_join μ10 85 [] [.int x14] ?_ (fun k_J12 => ?_)
          · have h := kr_J2 _ (Option.some.inj h).symm
            have h := Option.some.inj h
            obtain ⟨rfl, rfl⟩ := Prod.mk.inj h
            exact z_iret C0 rfl dX11_bail_85
          · have h := e_x14
            refine z_icmp_ne C0 77 dX11_bail_64 (by decide) (fun c11 => ?_) (fun c11 => ?_)
            · have h := zif_t c11 h
              refine z_aload_n C0 dX11_bail_77 rfl 1 rfl ?_
              refine z_getr C0 hT0 kf_11_78 zr_11_10 zx_11 (zs_11_10 hT0).1 dX11_bail_78 ?_
              refine z_iload_n C0 dX11_bail_81 rfl 4 rfl ?_
              obtain ⟨r13, e_r13, h⟩ := zbd_of h
              refine z_callV (As := [.int v3]) (rest := []) C0 rfl kc_X2_leakBailed km_RX11_278 (r_X2_leakBailed (l := l) (g := g) (a0 + 132) v3 μ10 (zs_11_10 hT0).2 e_r13) (zs_11_10 hT0).2.1 (zs_11_10 hT0).2.2.2.1 rfl (by decide) rfl (Nat.le_of_ble_eq_true rfl) (Nat.le_of_ble_eq_true rfl) (Nat.le_of_ble_eq_true rfl) (Nat.le_of_ble_eq_true rfl) (Nat.le_refl _) rfl rfl dX11_bail_82 ?_
              refine z_sub (lo1 := []) [] rfl ?_
              obtain rfl := (Option.some.inj h)
              exact k_J12
            · have h := zif_f (fun q => q c11) h
              refine z_aload_n C0 dX11_bail_67 rfl 1 rfl ?_
              refine z_getr C0 hT0 kf_11_78 zr_11_10 zx_11 (zs_11_10 hT0).1 dX11_bail_68 ?_
              refine z_geti C0 (zs_11_10 hT0).2.1 (zs_11_10 hT0).2.2.2.1 kf_11_275 zr_2_0 dX11_bail_71 ?_
              refine z_goto C0 85 dX11_bail_74 (by decide) ?_
              refine z_sub (lo1 := []) [] rfl ?_
              obtain rfl := (Option.some.inj h)
              exact k_J12
        · refine z_if_eq C0 47 dX11_bail_23 (by decide) (fun c5 => ?_) (fun c5 => ?_)
          · exact absurd hc17 (fun q => q.1 c5)
          · refine z_iload_n C0 dX11_bail_26 rfl 3 rfl ?_
            refine z_iconst (v := (1 : Int32)) C0 dX11_bail_27 (by decide) ?_
            refine z_icmp_lt C0 47 dX11_bail_28 (by decide) (fun c6 => ?_) (fun c6 => ?_)
            · exact absurd hc17 (fun q => (fun q => q.1 c6) q.2)
            · refine z_iload_n C0 dX11_bail_31 rfl 3 rfl ?_
              refine z_bipush (v := (8 : Int32)) C0 dX11_bail_32 (by decide) ?_
              refine z_icmp_gt C0 47 dX11_bail_34 (by decide) (fun c7 => ?_) (fun c7 => ?_)
              · exact absurd hc17 (fun q => (fun q => (fun q => q.1 c7) q.2) q.2)
              · refine z_iload_n C0 dX11_bail_37 rfl 4 rfl ?_
                refine z_iconst (v := (-1 : Int32)) C0 dX11_bail_38 (by decide) ?_
                refine z_icmp_lt C0 47 dX11_bail_39 (by decide) (fun c8 => ?_) (fun c8 => ?_)
                · exact absurd hc17 (fun q => (fun q => (fun q => (fun q => q.1 c8) q.2) q.2) q.2)
                · refine z_iload_n C0 dX11_bail_42 rfl 4 rfl ?_
                  refine z_iload_n C0 dX11_bail_43 rfl 3 rfl ?_
                  refine z_icmp_lt C0 49 dX11_bail_44 (by decide) (fun c9 => ?_) (fun c9 => ?_)
                  · exact k18
                  · exact absurd hc17 (fun q => (fun q => (fun q => (fun q => c9 q.2) q.2) q.2) q.2)
      · have h := zif_f hc17 h
        refine z_join μ 47 [(4, .ref (zb g + w3)), (0, .ref (zb g + a0)), (1, .int v1), (2, .int v2), (3, .int v3)] [] ?_ (fun k19 => ?_)
        · refine z_sub (lo1 := []) [] rfl ?_
          exact k_J2 () (Option.some.inj h).symm
        · refine z_if_eq C0 47 dX11_bail_23 (by decide) (fun c5 => ?_) (fun c5 => ?_)
          · exact k19
          · refine z_iload_n C0 dX11_bail_26 rfl 3 rfl ?_
            refine z_iconst (v := (1 : Int32)) C0 dX11_bail_27 (by decide) ?_
            refine z_icmp_lt C0 47 dX11_bail_28 (by decide) (fun c6 => ?_) (fun c6 => ?_)
            · exact k19
            · refine z_iload_n C0 dX11_bail_31 rfl 3 rfl ?_
              refine z_bipush (v := (8 : Int32)) C0 dX11_bail_32 (by decide) ?_
              refine z_icmp_gt C0 47 dX11_bail_34 (by decide) (fun c7 => ?_) (fun c7 => ?_)
              · exact k19
              · refine z_iload_n C0 dX11_bail_37 rfl 4 rfl ?_
                refine z_iconst (v := (-1 : Int32)) C0 dX11_bail_38 (by decide) ?_
                refine z_icmp_lt C0 47 dX11_bail_39 (by decide) (fun c8 => ?_) (fun c8 => ?_)
                · exact k19
                · refine z_iload_n C0 dX11_bail_42 rfl 4 rfl ?_
                  refine z_iload_n C0 dX11_bail_43 rfl 3 rfl ?_
                  refine z_icmp_lt C0 49 dX11_bail_44 (by decide) (fun c9 => ?_) (fun c9 => ?_)
                  · exact absurd ⟨c5, ⟨c6, ⟨c7, ⟨c8, c9⟩⟩⟩⟩ hc17
                  · exact k19
def f_X11_corner (a0 : Nat) (v1 : Int32) (v2 : Int32) (v3 : Int32) (v4 : Int32) (μ : zM) : Option (Int32 × zM) :=
  zbd (f_X8_lakeAt (a0 + 1) v1 μ) fun r1 =>
  zbd (f_X8_pageAt (a0 + 1) (2 : Int32) v2 μ) fun r2 =>
  zbd (zcase r1 (some (.inr ())) fun w4 => zg (zgn w4 1) <|
      zcase r2 (some (.inr ())) fun w6 => zg (zgn w6 6) <|
        if ¬ (f_X6_has (w4 + 8) v3 μ) = 0 then
          zbd (f_X9_look (a0 + 106) w4 w6 (a0 + 87) μ) fun μ9 =>
          zbd (f_X9_waysAt (a0 + 106) v3 v4 μ9) fun r10 =>
          some (.inl (r10, μ9))
        else
          some (.inr ())) fun q11 => zsum q11 (fun t => some t) fun _ =>
  some ((-1 : Int32), μ)
set_option maxHeartbeats 4000000 in
set_option maxRecDepth 100000 in
theorem r_X11_corner {l : Launch} {g : zL} (a0 : Nat) (v1 : Int32) (v2 : Int32) (v3 : Int32) (v4 : Int32) (μ : zM) (hT0 : zT zNN zσ1 a0 11) {rv : Int32} {μr : zM} (h : f_X11_corner a0 v1 v2 v3 v4 μ = some (rv, μr)) : zMet l g yX11_corner cX11_corner 7 (some (.int)) 5 0 0 zNN zNN zσ1 zσ1 [.ref (zb g + a0), .int v1, .int v2, .int v3, .int v4] μ (some (.int rv)) μr := by
  refine zMet.of (by decide +kernel) (Nat.le_of_ble_eq_true rfl) ?_
  intro p e s m args below meth c C0
  refine z_loc (lo1 := [(0, .ref (zb g + a0)), (1, .int v1), (2, .int v2), (3, .int v3), (4, .int v4)]) rfl ?_
  unfold f_X11_corner at h
  refine z_aload_n C0 dX11_corner_0 rfl 0 rfl ?_
  refine z_getr C0 hT0 kf_11_10 zr_11_0 zx_11 (zs_11_0 hT0).1 dX11_corner_1 ?_
  refine z_iload_n C0 dX11_corner_4 rfl 1 rfl ?_
  obtain ⟨r1, e_r1, h⟩ := zbd_of h
  refine z_callV (As := [.int v1]) (rest := []) C0 rfl kc_X8_lakeAt km_RX11_114 (r_X8_lakeAt (l := l) (g := g) (a0 + 1) v1 μ (zs_11_0 hT0).2 e_r1) (zs_11_0 hT0).2.1 (zs_11_0 hT0).2.2.2.1 rfl (by decide) rfl (Nat.le_of_ble_eq_true rfl) (Nat.le_of_ble_eq_true rfl) (Nat.le_of_ble_eq_true rfl) (Nat.le_of_ble_eq_true rfl) (Nat.le_refl _) rfl rfl dX11_corner_5 ?_
  refine z_astoreq (lo1 := [(5, zopt (zb g) r1), (0, .ref (zb g + a0)), (1, .int v1), (2, .int v2), (3, .int v3), (4, .int v4)]) C0 dX11_corner_8 (by decide) rfl ?_
  refine z_aload_n C0 dX11_corner_10 rfl 1 rfl ?_
  refine z_getr C0 hT0 kf_11_10 zr_11_0 zx_11 (zs_11_0 hT0).1 dX11_corner_11 ?_
  refine z_iconst (v := (2 : Int32)) C0 dX11_corner_14 (by decide) ?_
  refine z_iload_n C0 dX11_corner_15 rfl 3 rfl ?_
  obtain ⟨r2, e_r2, h⟩ := zbd_of h
  refine z_callV (As := [.int (2 : Int32), .int v2]) (rest := []) C0 rfl kc_X8_pageAt km_RX11_124 (r_X8_pageAt (l := l) (g := g) (a0 + 1) (2 : Int32) v2 μ (zs_11_0 hT0).2 e_r2) (zs_11_0 hT0).2.1 (zs_11_0 hT0).2.2.2.1 rfl (by decide) rfl (Nat.le_of_ble_eq_true rfl) (Nat.le_of_ble_eq_true rfl) (Nat.le_of_ble_eq_true rfl) (Nat.le_of_ble_eq_true rfl) (Nat.le_refl _) rfl rfl dX11_corner_16 ?_
  refine z_astoreq (lo1 := [(6, zopt (zb g) r2), (5, zopt (zb g) r1), (0, .ref (zb g + a0)), (1, .int v1), (2, .int v2), (3, .int v3), (4, .int v4)]) C0 dX11_corner_19 (by decide) (by simp [zopt_cat, zoptW_cat]) ?_
  refine z_aloadq C0 dX11_corner_21 1 rfl ?_
  obtain ⟨q11, e_q11, h⟩ := zbd_of h
  have kr_J3 := zsum_l h
  have kx_J3 := zsum_r h
  clear h
  refine z_joinq (fun o => q11 = Sum.inr o) (fun _ => μ) 43 (fun o => []) (fun o => []) ?_ (fun k_J3 => ?_)
  · intro u_ hq
    have h := kx_J3 _ hq
    refine z_iconst (v := (-1 : Int32)) C0 dX11_corner_43 (by decide) ?_
    have h := Option.some.inj h
    obtain ⟨rfl, rfl⟩ := Prod.mk.inj h
    exact z_iret C0 rfl dX11_corner_44
  · have h := e_q11
    refine z_ifnullq C0 43 dX11_corner_23 (by decide) (fun c12 => ?_) (fun w4 c12 => ?_)
    · have h_c12 := zcase_n c12 h
      clear h
      subst c12
      have h := h_c12
      refine z_loc (lo1 := [(6, zopt (zb g) r2), (5, .null), (0, .ref (zb g + a0)), (1, .int v1), (2, .int v2), (3, .int v3), (4, .int v4)]) rfl ?_
      refine z_sub (lo1 := []) [] rfl ?_
      exact k_J3 () (Option.some.inj h).symm
    · have h_c12 := zcase_s c12 h
      clear h
      subst c12
      have h := h_c12
      obtain ⟨g5, h⟩ := zg_of h
      refine z_loc (lo1 := [(6, zopt (zb g) r2), (5, .ref (zb g + w4)), (0, .ref (zb g + a0)), (1, .int v1), (2, .int v2), (3, .int v3), (4, .int v4)]) rfl ?_
      refine z_aloadq C0 dX11_corner_26 0 rfl ?_
      refine z_ifnullq C0 43 dX11_corner_28 (by decide) (fun c13 => ?_) (fun w6 c13 => ?_)
      · have h_c13 := zcase_n c13 h
        clear h
        subst c13
        have h := h_c13
        refine z_loc (lo1 := [(6, .null), (5, .ref (zb g + w4)), (0, .ref (zb g + a0)), (1, .int v1), (2, .int v2), (3, .int v3), (4, .int v4)]) rfl ?_
        refine z_sub (lo1 := []) [] rfl ?_
        exact k_J3 () (Option.some.inj h).symm
      · have h_c13 := zcase_s c13 h
        clear h
        subst c13
        have h := h_c13
        obtain ⟨g7, h⟩ := zg_of h
        refine z_loc (lo1 := [(6, .ref (zb g + w6)), (5, .ref (zb g + w4)), (0, .ref (zb g + a0)), (1, .int v1), (2, .int v2), (3, .int v3), (4, .int v4)]) rfl ?_
        refine z_aload C0 dX11_corner_31 1 rfl ?_
        refine z_getr C0 (zgn_T g5 (by decide)) kf_11_248 zr_1_4 zx_1 (zs_1_4 (zgn_T g5 (by decide))).1 dX11_corner_33 ?_
        refine z_iload_n C0 dX11_corner_36 rfl 5 rfl ?_
        refine z_callV (As := [.int v3]) (rest := []) C0 rfl kc_X6_has km_RX11_137 (r_X6_has (l := l) (g := g) (w4 + 8) v3 μ (zs_1_4 (zgn_T g5 (by decide))).2 rfl) (zs_1_4 (zgn_T g5 (by decide))).2.1 (zs_1_4 (zgn_T g5 (by decide))).2.2.2.1 rfl (by decide) rfl (Nat.le_of_ble_eq_true rfl) (Nat.le_of_ble_eq_true rfl) (Nat.le_of_ble_eq_true rfl) (Nat.le_of_ble_eq_true rfl) (Nat.le_refl _) rfl rfl dX11_corner_37 ?_
        refine z_if_ne C0 45 dX11_corner_40 (by decide) (fun c8 => ?_) (fun c8 => ?_)
        · have h := zif_t c8 h
          refine z_aload_n C0 dX11_corner_45 rfl 2 rfl ?_
          refine z_getr C0 hT0 kf_11_64 zr_11_8 zx_11 (zs_11_8 hT0).1 dX11_corner_46 ?_
          refine z_aload C0 dX11_corner_49 1 rfl ?_
          refine z_aload C0 dX11_corner_51 0 rfl ?_
          refine z_aload_n C0 dX11_corner_53 rfl 2 rfl ?_
          refine z_getr C0 hT0 kf_11_40 zr_11_4 zx_11 (zs_11_4 hT0).1 dX11_corner_54 ?_
          obtain ⟨μ9, e_μ9, h⟩ := zbd_of h
          refine z_callV (As := [.ref (zb g + w4), .ref (zb g + w6), .ref (zb g + (a0 + 87))]) (rest := []) C0 rfl kc_X9_look km_RX11_232 (r_X9_look (l := l) (g := g) (a0 + 106) w4 w6 (a0 + 87) μ (zs_11_8 hT0).2 (zgn_T g5 (by decide)) (zgn_T g7 (by decide)) (zs_11_4 hT0).2 e_μ9) (zs_11_8 hT0).2.1 (zs_11_8 hT0).2.2.2.1 rfl (by decide) rfl (Nat.le_of_ble_eq_true rfl) (Nat.le_of_ble_eq_true rfl) (Nat.le_of_ble_eq_true rfl) (Nat.le_of_ble_eq_true rfl) (Nat.le_refl _) rfl rfl dX11_corner_57 ?_
          refine z_aload_n C0 dX11_corner_60 rfl 2 rfl ?_
          refine z_getr C0 hT0 kf_11_64 zr_11_8 zx_11 (zs_11_8 hT0).1 dX11_corner_61 ?_
          refine z_iload_n C0 dX11_corner_64 rfl 5 rfl ?_
          refine z_iload C0 dX11_corner_65 6 rfl ?_
          obtain ⟨r10, e_r10, h⟩ := zbd_of h
          refine z_callV (As := [.int v3, .int v4]) (rest := []) C0 rfl kc_X9_waysAt km_RX11_252 (r_X9_waysAt (l := l) (g := g) (a0 + 106) v3 v4 μ9 (zs_11_8 hT0).2 e_r10) (zs_11_8 hT0).2.1 (zs_11_8 hT0).2.2.2.1 rfl (by decide) rfl (Nat.le_of_ble_eq_true rfl) (Nat.le_of_ble_eq_true rfl) (Nat.le_of_ble_eq_true rfl) (Nat.le_of_ble_eq_true rfl) (Nat.le_refl _) rfl rfl dX11_corner_67 ?_
          have h := kr_J3 _ (Option.some.inj h).symm
          have h := Option.some.inj h
          obtain ⟨rfl, rfl⟩ := Prod.mk.inj h
          exact z_iret C0 rfl dX11_corner_70
        · have h := zif_f (fun q => q c8) h
          refine z_sub (lo1 := []) [] rfl ?_
          exact k_J3 () (Option.some.inj h).symm
def f_X11_cost (a0 : Nat) (v1 : Int32) (v2 : Int32) (v3 : Int32) (μ : zM) : Option (Int32 × zM) :=
  zbd (f_X8_lakeAt (a0 + 1) v1 μ) fun r1 =>
  zbd (zcase r1 (some (.inr ())) fun w3 => zg (zgn w3 1) <|
      if (¬ (v2 < (-1 : Int32))) ∧ ((¬ ((1 : Int32) < v2)) ∧ ((¬ (v3 < (-1 : Int32))) ∧ (v3 ≤ (1 : Int32)))) then
        zbd (f_X0_weigh (a0 + 93) w3 μ) fun μ9 =>
        zbd (f_X0_priceOf (a0 + 93) v2 v3 μ9) fun r10 =>
        some (.inl (r10, μ9))
      else
        some (.inr ())) fun q11 => zsum q11 (fun t => some t) fun _ =>
  some ((-1 : Int32), μ)
set_option maxHeartbeats 4000000 in
set_option maxRecDepth 100000 in
theorem r_X11_cost {l : Launch} {g : zL} {κ : zK} (a0 : Nat) (v1 : Int32) (v2 : Int32) (v3 : Int32) (μ : zM) (hT0 : zT zNN zσ1 a0 11) (hSp : zSK g κ) {rv : Int32} {μr : zM} (h : f_X11_cost a0 v1 v2 v3 μ = some (rv, μr)) : zMet l g yX11_cost cX11_cost 5 (some (.int)) 4 0 0 zNN zNN zσ1 zσ1 [.ref (zb g + a0), .int v1, .int v2, .int v3] μ (some (.int rv)) μr := by
  refine zMet.of (by decide +kernel) (Nat.le_of_ble_eq_true rfl) ?_
  intro p e s m args below meth c C0
  have hF := hSp.at C0
  refine z_loc (lo1 := [(0, .ref (zb g + a0)), (1, .int v1), (2, .int v2), (3, .int v3)]) rfl ?_
  unfold f_X11_cost at h
  refine z_aload_n C0 dX11_cost_0 rfl 0 rfl ?_
  refine z_getr C0 hT0 kf_11_10 zr_11_0 zx_11 (zs_11_0 hT0).1 dX11_cost_1 ?_
  refine z_iload_n C0 dX11_cost_4 rfl 1 rfl ?_
  obtain ⟨r1, e_r1, h⟩ := zbd_of h
  refine z_callV (As := [.int v1]) (rest := []) C0 rfl kc_X8_lakeAt km_RX11_114 (r_X8_lakeAt (l := l) (g := g) (a0 + 1) v1 μ (zs_11_0 hT0).2 e_r1) (zs_11_0 hT0).2.1 (zs_11_0 hT0).2.2.2.1 rfl (by decide) rfl (Nat.le_of_ble_eq_true rfl) (Nat.le_of_ble_eq_true rfl) (Nat.le_of_ble_eq_true rfl) (Nat.le_of_ble_eq_true rfl) (Nat.le_refl _) rfl rfl dX11_cost_5 ?_
  refine z_astoreq (lo1 := [(4, zopt (zb g) r1), (0, .ref (zb g + a0)), (1, .int v1), (2, .int v2), (3, .int v3)]) C0 dX11_cost_8 (by decide) rfl ?_
  refine z_aloadq C0 dX11_cost_10 0 rfl ?_
  obtain ⟨q11, e_q11, h⟩ := zbd_of h
  have kr_J2 := zsum_l h
  have kx_J2 := zsum_r h
  clear h
  refine z_joinq (fun o => q11 = Sum.inr o) (fun _ => μ) 35 (fun o => []) (fun o => []) ?_ (fun k_J2 => ?_)
  · intro u_ hq
    have h := kx_J2 _ hq
    refine z_iconst (v := (-1 : Int32)) C0 dX11_cost_35 (by decide) ?_
    have h := Option.some.inj h
    obtain ⟨rfl, rfl⟩ := Prod.mk.inj h
    exact z_iret C0 rfl dX11_cost_36
  · have h := e_q11
    refine z_ifnullq C0 35 dX11_cost_12 (by decide) (fun c12 => ?_) (fun w3 c12 => ?_)
    · have h_c12 := zcase_n c12 h
      clear h
      subst c12
      have h := h_c12
      refine z_loc (lo1 := [(4, .null), (0, .ref (zb g + a0)), (1, .int v1), (2, .int v2), (3, .int v3)]) rfl ?_
      refine z_sub (lo1 := []) [] rfl ?_
      exact k_J2 () (Option.some.inj h).symm
    · have h_c12 := zcase_s c12 h
      clear h
      subst c12
      have h := h_c12
      obtain ⟨g4, h⟩ := zg_of h
      refine z_loc (lo1 := [(4, .ref (zb g + w3)), (0, .ref (zb g + a0)), (1, .int v1), (2, .int v2), (3, .int v3)]) rfl ?_
      refine z_iload_n C0 dX11_cost_15 rfl 3 rfl ?_
      refine z_iconst (v := (-1 : Int32)) C0 dX11_cost_16 (by decide) ?_
      by_cases hc13 : (¬ (v2 < (-1 : Int32))) ∧ ((¬ ((1 : Int32) < v2)) ∧ ((¬ (v3 < (-1 : Int32))) ∧ (v3 ≤ (1 : Int32))))
      · have h := zif_t hc13 h
        refine z_join μ 37 [(4, .ref (zb g + w3)), (0, .ref (zb g + a0)), (1, .int v1), (2, .int v2), (3, .int v3)] [] ?_ (fun k14 => ?_)
        · refine z_aload_n C0 dX11_cost_37 rfl 1 rfl ?_
          refine z_getr C0 hT0 kf_11_50 zr_11_6 zx_11 (zs_11_6 hT0).1 dX11_cost_38 ?_
          refine z_aload C0 dX11_cost_41 0 rfl ?_
          obtain ⟨μ9, e_μ9, h⟩ := zbd_of h
          refine z_callV (As := [.ref (zb g + w3)]) (rest := []) C0 rfl kc_X0_weigh km_RX11_183 (r_X0_weigh (l := l) (g := g) (a0 + 93) w3 μ (zs_11_6 hT0).2 (zgn_T g4 (by decide)) hSp e_μ9) (zs_11_6 hT0).2.1 (zs_11_6 hT0).2.2.2.1 rfl (by decide) rfl (Nat.le_of_ble_eq_true rfl) (Nat.le_of_ble_eq_true rfl) (Nat.le_of_ble_eq_true rfl) (Nat.le_of_ble_eq_true rfl) (Nat.le_refl _) rfl rfl dX11_cost_43 ?_
          refine z_aload_n C0 dX11_cost_46 rfl 1 rfl ?_
          refine z_getr C0 hT0 kf_11_50 zr_11_6 zx_11 (zs_11_6 hT0).1 dX11_cost_47 ?_
          refine z_iload_n C0 dX11_cost_50 rfl 3 rfl ?_
          refine z_iload_n C0 dX11_cost_51 rfl 4 rfl ?_
          obtain ⟨r10, e_r10, h⟩ := zbd_of h
          refine z_callV (As := [.int v2, .int v3]) (rest := []) C0 rfl kc_X0_priceOf km_RX11_186 (r_X0_priceOf (l := l) (g := g) (a0 + 93) v2 v3 μ9 (zs_11_6 hT0).2 e_r10) (zs_11_6 hT0).2.1 (zs_11_6 hT0).2.2.2.1 rfl (by decide) rfl (Nat.le_of_ble_eq_true rfl) (Nat.le_of_ble_eq_true rfl) (Nat.le_of_ble_eq_true rfl) (Nat.le_of_ble_eq_true rfl) (Nat.le_refl _) rfl rfl dX11_cost_52 ?_
          have h := kr_J2 _ (Option.some.inj h).symm
          have h := Option.some.inj h
          obtain ⟨rfl, rfl⟩ := Prod.mk.inj h
          exact z_iret C0 rfl dX11_cost_55
        · refine z_icmp_lt C0 35 dX11_cost_17 (by decide) (fun c5 => ?_) (fun c5 => ?_)
          · exact absurd hc13 (fun q => q.1 c5)
          · refine z_iload_n C0 dX11_cost_20 rfl 3 rfl ?_
            refine z_iconst (v := (1 : Int32)) C0 dX11_cost_21 (by decide) ?_
            refine z_icmp_gt C0 35 dX11_cost_22 (by decide) (fun c6 => ?_) (fun c6 => ?_)
            · exact absurd hc13 (fun q => (fun q => q.1 c6) q.2)
            · refine z_iload_n C0 dX11_cost_25 rfl 4 rfl ?_
              refine z_iconst (v := (-1 : Int32)) C0 dX11_cost_26 (by decide) ?_
              refine z_icmp_lt C0 35 dX11_cost_27 (by decide) (fun c7 => ?_) (fun c7 => ?_)
              · exact absurd hc13 (fun q => (fun q => (fun q => q.1 c7) q.2) q.2)
              · refine z_iload_n C0 dX11_cost_30 rfl 4 rfl ?_
                refine z_iconst (v := (1 : Int32)) C0 dX11_cost_31 (by decide) ?_
                refine z_icmp_le C0 37 dX11_cost_32 (by decide) (fun c8 => ?_) (fun c8 => ?_)
                · exact k14
                · exact absurd hc13 (fun q => (fun q => (fun q => c8 q.2) q.2) q.2)
      · have h := zif_f hc13 h
        refine z_join μ 35 [(4, .ref (zb g + w3)), (0, .ref (zb g + a0)), (1, .int v1), (2, .int v2), (3, .int v3)] [] ?_ (fun k15 => ?_)
        · refine z_sub (lo1 := []) [] rfl ?_
          exact k_J2 () (Option.some.inj h).symm
        · refine z_icmp_lt C0 35 dX11_cost_17 (by decide) (fun c5 => ?_) (fun c5 => ?_)
          · exact k15
          · refine z_iload_n C0 dX11_cost_20 rfl 3 rfl ?_
            refine z_iconst (v := (1 : Int32)) C0 dX11_cost_21 (by decide) ?_
            refine z_icmp_gt C0 35 dX11_cost_22 (by decide) (fun c6 => ?_) (fun c6 => ?_)
            · exact k15
            · refine z_iload_n C0 dX11_cost_25 rfl 4 rfl ?_
              refine z_iconst (v := (-1 : Int32)) C0 dX11_cost_26 (by decide) ?_
              refine z_icmp_lt C0 35 dX11_cost_27 (by decide) (fun c7 => ?_) (fun c7 => ?_)
              · exact k15
              · refine z_iload_n C0 dX11_cost_30 rfl 4 rfl ?_
                refine z_iconst (v := (1 : Int32)) C0 dX11_cost_31 (by decide) ?_
                refine z_icmp_le C0 37 dX11_cost_32 (by decide) (fun c8 => ?_) (fun c8 => ?_)
                · exact absurd ⟨c5, ⟨c6, ⟨c7, c8⟩⟩⟩ hc13
                · exact k15
def f_X11_count (a0 : Nat) (v1 : Int32) (μ : zM) : Option (Int32) :=
  zbd (if (¬ (v1 < 0)) ∧ (¬ ((5 : Int32) ≤ v1)) then
      zg (zin v1 5) <|
      some (μ ((a0 + 1) + 2) (v1.toNatClampNeg))
    else
      some (-2 : Int32)) fun x5 =>
  some x5
set_option maxHeartbeats 4000000 in
set_option maxRecDepth 100000 in
theorem r_X11_count {l : Launch} {g : zL} (a0 : Nat) (v1 : Int32) (μ : zM) (hT0 : zT zNN zσ1 a0 11) {rv : Int32} (h : f_X11_count a0 v1 μ = some rv) : zMet l g yX11_count cX11_count 2 (some (.int)) 0 0 0 zNN zNN zσ1 zσ1 [.ref (zb g + a0), .int v1] μ (some (.int rv)) μ := by
  refine zMet.of (by decide +kernel) (Nat.le_of_ble_eq_true rfl) ?_
  intro p e s m args below meth c C0
  refine z_loc (lo1 := [(0, .ref (zb g + a0)), (1, .int v1)]) rfl ?_
  unfold f_X11_count at h
  refine z_iload_n C0 dX11_count_0 rfl 1 rfl ?_
  obtain ⟨x5, e_x5, h⟩ := zbd_of h
  refine z_join μ 23 [] [.int x5] ?_ (fun k_J3 => ?_)
  · have h := Option.some.inj h
    obtain rfl := h
    exact z_iret C0 rfl dX11_count_23
  · have h := e_x5
    by_cases hc6 : (¬ (v1 < 0)) ∧ (¬ ((5 : Int32) ≤ v1))
    · have h := zif_t hc6 h
      refine z_join μ 9 [(0, .ref (zb g + a0)), (1, .int v1)] [] ?_ (fun k7 => ?_)
      · refine z_aload_n C0 dX11_count_9 rfl 0 rfl ?_
        refine z_getr C0 hT0 kf_11_10 zr_11_0 zx_11 (zs_11_0 hT0).1 dX11_count_10 ?_
        refine z_getr C0 (zs_11_0 hT0).2 kf_11_144 zr_8_4 zx_8 (zs_8_4 (zs_11_0 hT0).2).1 dX11_count_13 ?_
        refine z_iload_n C0 dX11_count_16 rfl 1 rfl ?_
        obtain ⟨g4, h⟩ := zg_of h
        refine z_iald C0 (zs_8_4 (zs_11_0 hT0).2).2 g4 rfl dX11_count_17 ?_
        refine z_goto C0 23 dX11_count_18 (by decide) ?_
        refine z_sub (lo1 := []) [] rfl ?_
        obtain rfl := (Option.some.inj h)
        exact k_J3
      · refine z_if_lt C0 21 dX11_count_1 (by decide) (fun c1 => ?_) (fun c1 => ?_)
        · exact absurd hc6 (fun q => q.1 c1)
        · refine z_iload_n C0 dX11_count_4 rfl 1 rfl ?_
          refine z_iconst (v := (5 : Int32)) C0 dX11_count_5 (by decide) ?_
          refine z_icmp_ge C0 21 dX11_count_6 (by decide) (fun c2 => ?_) (fun c2 => ?_)
          · exact absurd hc6 (fun q => (fun q => q c2) q.2)
          · exact k7
    · have h := zif_f hc6 h
      refine z_join μ 21 [(0, .ref (zb g + a0)), (1, .int v1)] [] ?_ (fun k8 => ?_)
      · refine z_bipush (v := (-2 : Int32)) C0 dX11_count_21 (by decide) ?_
        refine z_sub (lo1 := []) [] rfl ?_
        obtain rfl := (Option.some.inj h)
        exact k_J3
      · refine z_if_lt C0 21 dX11_count_1 (by decide) (fun c1 => ?_) (fun c1 => ?_)
        · exact k8
        · refine z_iload_n C0 dX11_count_4 rfl 1 rfl ?_
          refine z_iconst (v := (5 : Int32)) C0 dX11_count_5 (by decide) ?_
          refine z_icmp_ge C0 21 dX11_count_6 (by decide) (fun c2 => ?_) (fun c2 => ?_)
          · exact k8
          · exact absurd ⟨c1, c2⟩ hc6
def f_X11_rowOf (q0 : Option Nat) (v1 : Int32) (v2 : Int32) (v3 : Int32) (μ : zM) : Option (Int32) :=
  zbd (zcase q0 (some (.inr ())) fun w2 => zg (zgn w2 6) <|
      if (¬ (v2 < 0)) ∧ (v2 ≤ v3) then
        if ¬ v1 = (-1 : Int32) then
          zbd (if (f_X6_has w2 v1 μ) = 0 then
              some (-2 : Int32)
            else
              zbd (f_X6_number w2 v1 v2 μ) fun r15 =>
              some r15) fun x16 =>
          some (.inl x16)
        else
          zl (if ¬ v2 = 0 then
              (-2 : Int32)
            else
              (μ w2 2)) fun x19 =>
          some (.inl x19)
      else
        some (.inr ())) fun q20 => zsum q20 (fun t => some t) fun _ =>
  some (-2 : Int32)
set_option maxHeartbeats 4000000 in
set_option maxRecDepth 100000 in
theorem r_X11_rowOf {l : Launch} {g : zL} (q0 : Option Nat) (v1 : Int32) (v2 : Int32) (v3 : Int32) (μ : zM)  {rv : Int32} (h : f_X11_rowOf q0 v1 v2 v3 μ = some rv) : zMet l g yX11_rowOf cX11_rowOf 4 (some (.int)) 1 0 0 zNN zNN zσ1 zσ1 [zopt (zb g) q0, .int v1, .int v2, .int v3] μ (some (.int rv)) μ := by
  refine zMet.of (by decide +kernel) (by cases q0 <;> exact Nat.le_of_ble_eq_true rfl) ?_
  intro p e s m args below meth c C0
  refine z_loc (lo1 := [(0, zopt (zb g) q0), (1, .int v1), (2, .int v2), (3, .int v3)]) (by cases q0 <;> rfl) ?_
  unfold f_X11_rowOf at h
  refine z_aloadq_n C0 dX11_rowOf_0 rfl 0 rfl ?_
  obtain ⟨q20, e_q20, h⟩ := zbd_of h
  have kr_J1 := zsum_l h
  have kx_J1 := zsum_r h
  clear h
  refine z_joinq (fun o => q20 = Sum.inr o) (fun _ => μ) 13 (fun o => []) (fun o => []) ?_ (fun k_J1 => ?_)
  · intro u_ hq
    have h := kx_J1 _ hq
    refine z_bipush (v := (-2 : Int32)) C0 dX11_rowOf_13 (by decide) ?_
    have h := Option.some.inj h
    obtain rfl := h
    exact z_iret C0 rfl dX11_rowOf_15
  · have h := e_q20
    refine z_ifnullq C0 13 dX11_rowOf_1 (by decide) (fun c21 => ?_) (fun w2 c21 => ?_)
    · have h_c21 := zcase_n c21 h
      clear h
      subst c21
      have h := h_c21
      refine z_loc (lo1 := [(0, .null), (1, .int v1), (2, .int v2), (3, .int v3)]) rfl ?_
      refine z_sub (lo1 := []) [] rfl ?_
      exact k_J1 () (Option.some.inj h).symm
    · have h_c21 := zcase_s c21 h
      clear h
      subst c21
      have h := h_c21
      obtain ⟨g3, h⟩ := zg_of h
      refine z_loc (lo1 := [(0, .ref (zb g + w2)), (1, .int v1), (2, .int v2), (3, .int v3)]) rfl ?_
      refine z_iload_n C0 dX11_rowOf_4 rfl 2 rfl ?_
      by_cases hc22 : (¬ (v2 < 0)) ∧ (v2 ≤ v3)
      · have h := zif_t hc22 h
        refine z_join μ 16 [(0, .ref (zb g + w2)), (1, .int v1), (2, .int v2), (3, .int v3)] [] ?_ (fun k23 => ?_)
        · refine z_iload_n C0 dX11_rowOf_16 rfl 1 rfl ?_
          refine z_iconst (v := (-1 : Int32)) C0 dX11_rowOf_17 (by decide) ?_
          refine z_icmp_ne C0 35 dX11_rowOf_18 (by decide) (fun c10 => ?_) (fun c10 => ?_)
          · have h := zif_t c10 h
            refine z_aload_n C0 dX11_rowOf_35 rfl 0 rfl ?_
            refine z_iload_n C0 dX11_rowOf_36 rfl 1 rfl ?_
            refine z_callV (As := [.int v1]) (rest := []) C0 rfl kc_X6_has km_RX11_137 (r_X6_has (l := l) (g := g) w2 v1 μ (zgn_T g3 (by decide)) rfl) (zgn_T g3 (by decide)).1 (zgn_T g3 (by decide)).2.2.1 rfl (by decide) rfl (Nat.le_of_ble_eq_true rfl) (Nat.le_of_ble_eq_true rfl) (Nat.le_of_ble_eq_true rfl) (Nat.le_of_ble_eq_true rfl) (Nat.le_refl _) rfl rfl dX11_rowOf_37 ?_
            obtain ⟨x16, e_x16, h⟩ := zbd_of h
            refine z_join μ 54 [] [.int x16] ?_ (fun k_J14 => ?_)
            · have h := kr_J1 _ (Option.some.inj h).symm
              have h := Option.some.inj h
              obtain rfl := h
              exact z_iret C0 rfl dX11_rowOf_54
            · have h := e_x16
              refine z_if_eq C0 52 dX11_rowOf_40 (by decide) (fun c13 => ?_) (fun c13 => ?_)
              · have h := zif_t c13 h
                refine z_bipush (v := (-2 : Int32)) C0 dX11_rowOf_52 (by decide) ?_
                refine z_sub (lo1 := []) [] rfl ?_
                obtain rfl := (Option.some.inj h)
                exact k_J14
              · have h := zif_f c13 h
                refine z_aload_n C0 dX11_rowOf_43 rfl 0 rfl ?_
                refine z_iload_n C0 dX11_rowOf_44 rfl 1 rfl ?_
                refine z_iload_n C0 dX11_rowOf_45 rfl 2 rfl ?_
                obtain ⟨r15, e_r15, h⟩ := zbd_of h
                refine z_callV (As := [.int v1, .int v2]) (rest := []) C0 rfl kc_X6_number km_RX11_141 (r_X6_number (l := l) (g := g) w2 v1 v2 μ (zgn_T g3 (by decide)) e_r15) (zgn_T g3 (by decide)).1 (zgn_T g3 (by decide)).2.2.1 rfl (by decide) rfl (Nat.le_of_ble_eq_true rfl) (Nat.le_of_ble_eq_true rfl) (Nat.le_of_ble_eq_true rfl) (Nat.le_of_ble_eq_true rfl) (Nat.le_refl _) rfl rfl dX11_rowOf_46 ?_
                refine z_goto C0 54 dX11_rowOf_49 (by decide) ?_
                refine z_sub (lo1 := []) [] rfl ?_
                obtain rfl := (Option.some.inj h)
                exact k_J14
          · have h := zif_f (fun q => q c10) h
            refine z_iload_n C0 dX11_rowOf_21 rfl 2 rfl ?_
            obtain ⟨x19, e_x19, h⟩ := zl_of h
            refine z_join μ 34 [] [.int x19] ?_ (fun k_J18 => ?_)
            · have h := kr_J1 _ (Option.some.inj h).symm
              have h := Option.some.inj h
              obtain rfl := h
              exact z_iret C0 rfl dX11_rowOf_34
            · have h := e_x19.symm
              refine z_if_ne C0 32 dX11_rowOf_22 (by decide) (fun c17 => ?_) (fun c17 => ?_)
              · have h := zif_t c17 h
                refine z_bipush (v := (-2 : Int32)) C0 dX11_rowOf_32 (by decide) ?_
                refine z_sub (lo1 := []) [] rfl ?_
                obtain rfl := h
                exact k_J18
              · have h := zif_f (fun q => q c17) h
                refine z_aload_n C0 dX11_rowOf_25 rfl 0 rfl ?_
                refine z_geti C0 (zgn_T g3 (by decide)).1 (zgn_T g3 (by decide)).2.2.1 kf_11_132 zr_6_2 dX11_rowOf_26 ?_
                refine z_goto C0 34 dX11_rowOf_29 (by decide) ?_
                refine z_sub (lo1 := []) [] rfl ?_
                obtain rfl := h
                exact k_J18
        · refine z_if_lt C0 13 dX11_rowOf_5 (by decide) (fun c4 => ?_) (fun c4 => ?_)
          · exact absurd hc22 (fun q => q.1 c4)
          · refine z_iload_n C0 dX11_rowOf_8 rfl 2 rfl ?_
            refine z_iload_n C0 dX11_rowOf_9 rfl 3 rfl ?_
            refine z_icmp_le C0 16 dX11_rowOf_10 (by decide) (fun c9 => ?_) (fun c9 => ?_)
            · exact k23
            · exact absurd hc22 (fun q => c9 q.2)
      · have h := zif_f hc22 h
        refine z_join μ 13 [(0, .ref (zb g + w2)), (1, .int v1), (2, .int v2), (3, .int v3)] [] ?_ (fun k24 => ?_)
        · refine z_sub (lo1 := []) [] rfl ?_
          exact k_J1 () (Option.some.inj h).symm
        · refine z_if_lt C0 13 dX11_rowOf_5 (by decide) (fun c4 => ?_) (fun c4 => ?_)
          · exact k24
          · refine z_iload_n C0 dX11_rowOf_8 rfl 2 rfl ?_
            refine z_iload_n C0 dX11_rowOf_9 rfl 3 rfl ?_
            refine z_icmp_le C0 16 dX11_rowOf_10 (by decide) (fun c9 => ?_) (fun c9 => ?_)
            · exact absurd ⟨c4, c9⟩ hc22
            · exact k24
def f_X11_dead (a0 : Nat) (v1 : Int32) (v2 : Int32) (μ : zM) : Option (Int32) :=
  zbd (f_X8_pageAt (a0 + 1) (3 : Int32) v1 μ) fun r1 =>
  zbd (f_X11_rowOf r1 v2 (0 : Int32) (0 : Int32) μ) fun r2 =>
  some r2
set_option maxHeartbeats 4000000 in
set_option maxRecDepth 100000 in
theorem r_X11_dead {l : Launch} {g : zL} (a0 : Nat) (v1 : Int32) (v2 : Int32) (μ : zM) (hT0 : zT zNN zσ1 a0 11) {rv : Int32} (h : f_X11_dead a0 v1 v2 μ = some rv) : zMet l g yX11_dead cX11_dead 3 (some (.int)) 2 0 0 zNN zNN zσ1 zσ1 [.ref (zb g + a0), .int v1, .int v2] μ (some (.int rv)) μ := by
  refine zMet.of (by decide +kernel) (Nat.le_of_ble_eq_true rfl) ?_
  intro p e s m args below meth c C0
  refine z_loc (lo1 := [(0, .ref (zb g + a0)), (1, .int v1), (2, .int v2)]) rfl ?_
  unfold f_X11_dead at h
  refine z_aload_n C0 dX11_dead_0 rfl 0 rfl ?_
  refine z_getr C0 hT0 kf_11_10 zr_11_0 zx_11 (zs_11_0 hT0).1 dX11_dead_1 ?_
  refine z_iconst (v := (3 : Int32)) C0 dX11_dead_4 (by decide) ?_
  refine z_iload_n C0 dX11_dead_5 rfl 1 rfl ?_
  obtain ⟨r1, e_r1, h⟩ := zbd_of h
  refine z_callV (As := [.int (3 : Int32), .int v1]) (rest := []) C0 rfl kc_X8_pageAt km_RX11_124 (r_X8_pageAt (l := l) (g := g) (a0 + 1) (3 : Int32) v1 μ (zs_11_0 hT0).2 e_r1) (zs_11_0 hT0).2.1 (zs_11_0 hT0).2.2.2.1 rfl (by decide) rfl (Nat.le_of_ble_eq_true rfl) (Nat.le_of_ble_eq_true rfl) (Nat.le_of_ble_eq_true rfl) (Nat.le_of_ble_eq_true rfl) (Nat.le_refl _) rfl rfl dX11_dead_6 ?_
  refine z_iload_n C0 dX11_dead_9 rfl 2 rfl ?_
  refine z_iconst (v := (0 : Int32)) C0 dX11_dead_10 (by decide) ?_
  refine z_iconst (v := (0 : Int32)) C0 dX11_dead_11 (by decide) ?_
  obtain ⟨r2, e_r2, h⟩ := zbd_of h
  refine z_callS (As := [zopt (zb g) r1, .int v2, .int (0 : Int32), .int (0 : Int32)]) (rest := []) C0 rfl kc_X11_rowOf km_RX11_128 (r_X11_rowOf (l := l) (g := g) r1 v2 (0 : Int32) (0 : Int32) μ e_r2) rfl (Nat.le_of_ble_eq_true rfl) (Nat.le_of_ble_eq_true rfl) (Nat.le_of_ble_eq_true rfl) (Nat.le_of_ble_eq_true rfl) (Nat.le_refl _) rfl rfl dX11_dead_12 ?_
  have h := Option.some.inj h
  obtain rfl := h
  exact z_iret C0 rfl dX11_dead_15
def f_X11_deed (a0 : Nat) (v1 : Int32) (v2 : Int32) (v3 : Int32) (μ : zM) : Option (Int32) :=
  zbd (f_X8_pageAt (a0 + 1) (1 : Int32) v1 μ) fun r1 =>
  zbd (f_X11_rowOf r1 v2 v3 (2 : Int32) μ) fun r2 =>
  some r2
set_option maxHeartbeats 4000000 in
set_option maxRecDepth 100000 in
theorem r_X11_deed {l : Launch} {g : zL} (a0 : Nat) (v1 : Int32) (v2 : Int32) (v3 : Int32) (μ : zM) (hT0 : zT zNN zσ1 a0 11) {rv : Int32} (h : f_X11_deed a0 v1 v2 v3 μ = some rv) : zMet l g yX11_deed cX11_deed 4 (some (.int)) 2 0 0 zNN zNN zσ1 zσ1 [.ref (zb g + a0), .int v1, .int v2, .int v3] μ (some (.int rv)) μ := by
  refine zMet.of (by decide +kernel) (Nat.le_of_ble_eq_true rfl) ?_
  intro p e s m args below meth c C0
  refine z_loc (lo1 := [(0, .ref (zb g + a0)), (1, .int v1), (2, .int v2), (3, .int v3)]) rfl ?_
  unfold f_X11_deed at h
  refine z_aload_n C0 dX11_deed_0 rfl 0 rfl ?_
  refine z_getr C0 hT0 kf_11_10 zr_11_0 zx_11 (zs_11_0 hT0).1 dX11_deed_1 ?_
  refine z_iconst (v := (1 : Int32)) C0 dX11_deed_4 (by decide) ?_
  refine z_iload_n C0 dX11_deed_5 rfl 1 rfl ?_
  obtain ⟨r1, e_r1, h⟩ := zbd_of h
  refine z_callV (As := [.int (1 : Int32), .int v1]) (rest := []) C0 rfl kc_X8_pageAt km_RX11_124 (r_X8_pageAt (l := l) (g := g) (a0 + 1) (1 : Int32) v1 μ (zs_11_0 hT0).2 e_r1) (zs_11_0 hT0).2.1 (zs_11_0 hT0).2.2.2.1 rfl (by decide) rfl (Nat.le_of_ble_eq_true rfl) (Nat.le_of_ble_eq_true rfl) (Nat.le_of_ble_eq_true rfl) (Nat.le_of_ble_eq_true rfl) (Nat.le_refl _) rfl rfl dX11_deed_6 ?_
  refine z_iload_n C0 dX11_deed_9 rfl 2 rfl ?_
  refine z_iload_n C0 dX11_deed_10 rfl 3 rfl ?_
  refine z_iconst (v := (2 : Int32)) C0 dX11_deed_11 (by decide) ?_
  obtain ⟨r2, e_r2, h⟩ := zbd_of h
  refine z_callS (As := [zopt (zb g) r1, .int v2, .int v3, .int (2 : Int32)]) (rest := []) C0 rfl kc_X11_rowOf km_RX11_128 (r_X11_rowOf (l := l) (g := g) r1 v2 v3 (2 : Int32) μ e_r2) rfl (Nat.le_of_ble_eq_true rfl) (Nat.le_of_ble_eq_true rfl) (Nat.le_of_ble_eq_true rfl) (Nat.le_of_ble_eq_true rfl) (Nat.le_refl _) rfl rfl dX11_deed_12 ?_
  have h := Option.some.inj h
  obtain rfl := h
  exact z_iret C0 rfl dX11_deed_15
def f_X11_drawn (a0 : Nat) (v1 : Int32) (v2 : Int32) (v3 : Int32) (v4 : Int32) (μ : zM) : Option (Int32 × zM) :=
  zbd (f_X8_lakeAt (a0 + 1) v1 μ) fun r1 =>
  zbd (zcase r1 (some (.inr ())) fun w3 => zg (zgn w3 1) <|
      if (¬ (v3 < (1 : Int32))) ∧ ((¬ ((40 : Int32) < v3)) ∧ ((¬ (v4 < 0)) ∧ (v4 ≤ (4 : Int32)))) then
        zbd (f_X4_launch (a0 + 87) w3 w3 μ) fun μ9 =>
        zbd (f_X4_sailBySeed (a0 + 87) v2 v3 μ9) fun μ10 =>
        if v4 = (0 : Int32) then
          some (.inl ((μ10 (a0 + 87) 2), μ10))
        else
        if v4 = (1 : Int32) then
          some (.inl ((μ10 (a0 + 87) 3), μ10))
        else
        if v4 = (2 : Int32) then
          some (.inl ((μ10 (a0 + 87) 6), μ10))
        else
        if v4 = (3 : Int32) then
          some (.inl ((μ10 (a0 + 87) 5), μ10))
        else
          zl (if (μ10 (a0 + 87) 7) = 0 then
              (0 : Int32)
            else
              (1 : Int32)) fun x13 =>
          some (.inl (x13, μ10))
      else
        some (.inr ())) fun q14 => zsum q14 (fun t => some t) fun _ =>
  some ((-2 : Int32), μ)
set_option maxHeartbeats 4000000 in
set_option maxRecDepth 100000 in
theorem r_X11_drawn {l : Launch} {g : zL} (a0 : Nat) (v1 : Int32) (v2 : Int32) (v3 : Int32) (v4 : Int32) (μ : zM) (hT0 : zT zNN zσ1 a0 11) {rv : Int32} {μr : zM} (h : f_X11_drawn a0 v1 v2 v3 v4 μ = some (rv, μr)) : zMet l g yX11_drawn cX11_drawn 6 (some (.int)) 5 0 0 zNN zNN zσ1 zσ1 [.ref (zb g + a0), .int v1, .int v2, .int v3, .int v4] μ (some (.int rv)) μr := by
  refine zMet.of (by decide +kernel) (Nat.le_of_ble_eq_true rfl) ?_
  intro p e s m args below meth c C0
  refine z_loc (lo1 := [(0, .ref (zb g + a0)), (1, .int v1), (2, .int v2), (3, .int v3), (4, .int v4)]) rfl ?_
  unfold f_X11_drawn at h
  refine z_aload_n C0 dX11_drawn_0 rfl 0 rfl ?_
  refine z_getr C0 hT0 kf_11_10 zr_11_0 zx_11 (zs_11_0 hT0).1 dX11_drawn_1 ?_
  refine z_iload_n C0 dX11_drawn_4 rfl 1 rfl ?_
  obtain ⟨r1, e_r1, h⟩ := zbd_of h
  refine z_callV (As := [.int v1]) (rest := []) C0 rfl kc_X8_lakeAt km_RX11_114 (r_X8_lakeAt (l := l) (g := g) (a0 + 1) v1 μ (zs_11_0 hT0).2 e_r1) (zs_11_0 hT0).2.1 (zs_11_0 hT0).2.2.2.1 rfl (by decide) rfl (Nat.le_of_ble_eq_true rfl) (Nat.le_of_ble_eq_true rfl) (Nat.le_of_ble_eq_true rfl) (Nat.le_of_ble_eq_true rfl) (Nat.le_refl _) rfl rfl dX11_drawn_5 ?_
  refine z_astoreq (lo1 := [(5, zopt (zb g) r1), (0, .ref (zb g + a0)), (1, .int v1), (2, .int v2), (3, .int v3), (4, .int v4)]) C0 dX11_drawn_8 (by decide) rfl ?_
  refine z_aloadq C0 dX11_drawn_10 0 rfl ?_
  obtain ⟨q14, e_q14, h⟩ := zbd_of h
  have kr_J2 := zsum_l h
  have kx_J2 := zsum_r h
  clear h
  refine z_joinq (fun o => q14 = Sum.inr o) (fun _ => μ) 37 (fun o => []) (fun o => []) ?_ (fun k_J2 => ?_)
  · intro u_ hq
    have h := kx_J2 _ hq
    refine z_bipush (v := (-2 : Int32)) C0 dX11_drawn_37 (by decide) ?_
    have h := Option.some.inj h
    obtain ⟨rfl, rfl⟩ := Prod.mk.inj h
    exact z_iret C0 rfl dX11_drawn_39
  · have h := e_q14
    refine z_ifnullq C0 37 dX11_drawn_12 (by decide) (fun c15 => ?_) (fun w3 c15 => ?_)
    · have h_c15 := zcase_n c15 h
      clear h
      subst c15
      have h := h_c15
      refine z_loc (lo1 := [(5, .null), (0, .ref (zb g + a0)), (1, .int v1), (2, .int v2), (3, .int v3), (4, .int v4)]) rfl ?_
      refine z_sub (lo1 := []) [] rfl ?_
      exact k_J2 () (Option.some.inj h).symm
    · have h_c15 := zcase_s c15 h
      clear h
      subst c15
      have h := h_c15
      obtain ⟨g4, h⟩ := zg_of h
      refine z_loc (lo1 := [(5, .ref (zb g + w3)), (0, .ref (zb g + a0)), (1, .int v1), (2, .int v2), (3, .int v3), (4, .int v4)]) rfl ?_
      refine z_iload_n C0 dX11_drawn_15 rfl 4 rfl ?_
      refine z_iconst (v := (1 : Int32)) C0 dX11_drawn_16 (by decide) ?_
      by_cases hc16 : (¬ (v3 < (1 : Int32))) ∧ ((¬ ((40 : Int32) < v3)) ∧ ((¬ (v4 < 0)) ∧ (v4 ≤ (4 : Int32))))
      · have h := zif_t hc16 h
        refine z_join μ 40 [(5, .ref (zb g + w3)), (0, .ref (zb g + a0)), (1, .int v1), (2, .int v2), (3, .int v3), (4, .int v4)] [] ?_ (fun k17 => ?_)
        · refine z_aload_n C0 dX11_drawn_40 rfl 1 rfl ?_
          refine z_getr C0 hT0 kf_11_40 zr_11_4 zx_11 (zs_11_4 hT0).1 dX11_drawn_41 ?_
          refine z_aload C0 dX11_drawn_44 0 rfl ?_
          refine z_aload C0 dX11_drawn_46 0 rfl ?_
          obtain ⟨μ9, e_μ9, h⟩ := zbd_of h
          refine z_callV (As := [.ref (zb g + w3), .ref (zb g + w3)]) (rest := []) C0 rfl kc_X4_launch km_RX11_151 (r_X4_launch (l := l) (g := g) (a0 + 87) w3 w3 μ (zs_11_4 hT0).2 (zgn_T g4 (by decide)) (zgn_T g4 (by decide)) e_μ9) (zs_11_4 hT0).2.1 (zs_11_4 hT0).2.2.2.1 rfl (by decide) rfl (Nat.le_of_ble_eq_true rfl) (Nat.le_of_ble_eq_true rfl) (Nat.le_of_ble_eq_true rfl) (Nat.le_of_ble_eq_true rfl) (Nat.le_refl _) rfl rfl dX11_drawn_48 ?_
          refine z_aload_n C0 dX11_drawn_51 rfl 1 rfl ?_
          refine z_getr C0 hT0 kf_11_40 zr_11_4 zx_11 (zs_11_4 hT0).1 dX11_drawn_52 ?_
          refine z_iload_n C0 dX11_drawn_55 rfl 3 rfl ?_
          refine z_iload_n C0 dX11_drawn_56 rfl 4 rfl ?_
          obtain ⟨μ10, e_μ10, h⟩ := zbd_of h
          refine z_callV (As := [.int v2, .int v3]) (rest := []) C0 rfl kc_X4_sailBySeed km_RX11_298 (r_X4_sailBySeed (l := l) (g := g) (a0 + 87) v2 v3 μ9 (zs_11_4 hT0).2 e_μ10) (zs_11_4 hT0).2.1 (zs_11_4 hT0).2.2.2.1 rfl (by decide) rfl (Nat.le_of_ble_eq_true rfl) (Nat.le_of_ble_eq_true rfl) (Nat.le_of_ble_eq_true rfl) (Nat.le_of_ble_eq_true rfl) (Nat.le_refl _) rfl rfl dX11_drawn_57 ?_
          refine z_iload C0 dX11_drawn_60 5 rfl ?_
          by_cases c18 : v4 = (0 : Int32)
          · have h := zif_t c18 h
            refine z_tabK C0 (30) 92 dX11_drawn_62 c18 (by decide) (by decide) (by decide) (by decide) ?_
            refine z_aload_n C0 dX11_drawn_92 rfl 1 rfl ?_
            refine z_getr C0 hT0 kf_11_40 zr_11_4 zx_11 (zs_11_4 hT0).1 dX11_drawn_93 ?_
            refine z_geti C0 (zs_11_4 hT0).2.1 (zs_11_4 hT0).2.2.2.1 kf_11_281 zr_4_2 dX11_drawn_96 ?_
            have h := kr_J2 _ (Option.some.inj h).symm
            have h := Option.some.inj h
            obtain ⟨rfl, rfl⟩ := Prod.mk.inj h
            exact z_iret C0 rfl dX11_drawn_99
          · have h := zif_f c18 h
            by_cases c19 : v4 = (1 : Int32)
            · have h := zif_t c19 h
              refine z_tabK C0 (38) 100 dX11_drawn_62 c19 (by decide) (by decide) (by decide) (by decide) ?_
              refine z_aload_n C0 dX11_drawn_100 rfl 1 rfl ?_
              refine z_getr C0 hT0 kf_11_40 zr_11_4 zx_11 (zs_11_4 hT0).1 dX11_drawn_101 ?_
              refine z_geti C0 (zs_11_4 hT0).2.1 (zs_11_4 hT0).2.2.2.1 kf_11_284 zr_4_3 dX11_drawn_104 ?_
              have h := kr_J2 _ (Option.some.inj h).symm
              have h := Option.some.inj h
              obtain ⟨rfl, rfl⟩ := Prod.mk.inj h
              exact z_iret C0 rfl dX11_drawn_107
            · have h := zif_f c19 h
              by_cases c20 : v4 = (2 : Int32)
              · have h := zif_t c20 h
                refine z_tabK C0 (46) 108 dX11_drawn_62 c20 (by decide) (by decide) (by decide) (by decide) ?_
                refine z_aload_n C0 dX11_drawn_108 rfl 1 rfl ?_
                refine z_getr C0 hT0 kf_11_40 zr_11_4 zx_11 (zs_11_4 hT0).1 dX11_drawn_109 ?_
                refine z_geti C0 (zs_11_4 hT0).2.1 (zs_11_4 hT0).2.2.2.1 kf_11_302 zr_4_6 dX11_drawn_112 ?_
                have h := kr_J2 _ (Option.some.inj h).symm
                have h := Option.some.inj h
                obtain ⟨rfl, rfl⟩ := Prod.mk.inj h
                exact z_iret C0 rfl dX11_drawn_115
              · have h := zif_f c20 h
                by_cases c21 : v4 = (3 : Int32)
                · have h := zif_t c21 h
                  refine z_tabK C0 (54) 116 dX11_drawn_62 c21 (by decide) (by decide) (by decide) (by decide) ?_
                  refine z_aload_n C0 dX11_drawn_116 rfl 1 rfl ?_
                  refine z_getr C0 hT0 kf_11_40 zr_11_4 zx_11 (zs_11_4 hT0).1 dX11_drawn_117 ?_
                  refine z_geti C0 (zs_11_4 hT0).2.1 (zs_11_4 hT0).2.2.2.1 kf_11_305 zr_4_5 dX11_drawn_120 ?_
                  have h := kr_J2 _ (Option.some.inj h).symm
                  have h := Option.some.inj h
                  obtain ⟨rfl, rfl⟩ := Prod.mk.inj h
                  exact z_iret C0 rfl dX11_drawn_123
                · have h := zif_f c21 h
                  refine z_join μ10 124 [(5, .ref (zb g + w3)), (0, .ref (zb g + a0)), (1, .int v1), (2, .int v2), (3, .int v3), (4, .int v4)] [] ?_ (fun k22 => ?_)
                  · refine z_aload_n C0 dX11_drawn_124 rfl 1 rfl ?_
                    refine z_getr C0 hT0 kf_11_40 zr_11_4 zx_11 (zs_11_4 hT0).1 dX11_drawn_125 ?_
                    refine z_geti C0 (zs_11_4 hT0).2.1 (zs_11_4 hT0).2.2.2.1 kf_11_308 zr_4_7 dX11_drawn_128 ?_
                    obtain ⟨x13, e_x13, h⟩ := zl_of h
                    refine z_join μ10 139 [] [.int x13] ?_ (fun k_J12 => ?_)
                    · have h := kr_J2 _ (Option.some.inj h).symm
                      have h := Option.some.inj h
                      obtain ⟨rfl, rfl⟩ := Prod.mk.inj h
                      exact z_iret C0 rfl dX11_drawn_139
                    · have h := e_x13.symm
                      refine z_if_eq C0 138 dX11_drawn_131 (by decide) (fun c11 => ?_) (fun c11 => ?_)
                      · have h := zif_t c11 h
                        refine z_iconst (v := (0 : Int32)) C0 dX11_drawn_138 (by decide) ?_
                        refine z_sub (lo1 := []) [] rfl ?_
                        obtain rfl := h
                        exact k_J12
                      · have h := zif_f c11 h
                        refine z_iconst (v := (1 : Int32)) C0 dX11_drawn_134 (by decide) ?_
                        refine z_goto C0 139 dX11_drawn_135 (by decide) ?_
                        refine z_sub (lo1 := []) [] rfl ?_
                        obtain rfl := h
                        exact k_J12
                  · have c18 : v4.toInt ≠ 0 := fun q => c18 (Int32.toInt_inj.mp (q.trans (by decide)))
                    have c19 : v4.toInt ≠ 1 := fun q => c19 (Int32.toInt_inj.mp (q.trans (by decide)))
                    have c20 : v4.toInt ≠ 2 := fun q => c20 (Int32.toInt_inj.mp (q.trans (by decide)))
                    have c21 : v4.toInt ≠ 3 := fun q => c21 (Int32.toInt_inj.mp (q.trans (by decide)))
                    exact z_tabOut C0 124 dX11_drawn_62 (by omega) (by decide) k22
        · refine z_icmp_lt C0 37 dX11_drawn_17 (by decide) (fun c5 => ?_) (fun c5 => ?_)
          · exact absurd hc16 (fun q => q.1 c5)
          · refine z_iload_n C0 dX11_drawn_20 rfl 4 rfl ?_
            refine z_bipush (v := (40 : Int32)) C0 dX11_drawn_21 (by decide) ?_
            refine z_icmp_gt C0 37 dX11_drawn_23 (by decide) (fun c6 => ?_) (fun c6 => ?_)
            · exact absurd hc16 (fun q => (fun q => q.1 c6) q.2)
            · refine z_iload C0 dX11_drawn_26 5 rfl ?_
              refine z_if_lt C0 37 dX11_drawn_28 (by decide) (fun c7 => ?_) (fun c7 => ?_)
              · exact absurd hc16 (fun q => (fun q => (fun q => q.1 c7) q.2) q.2)
              · refine z_iload C0 dX11_drawn_31 5 rfl ?_
                refine z_iconst (v := (4 : Int32)) C0 dX11_drawn_33 (by decide) ?_
                refine z_icmp_le C0 40 dX11_drawn_34 (by decide) (fun c8 => ?_) (fun c8 => ?_)
                · exact k17
                · exact absurd hc16 (fun q => (fun q => (fun q => c8 q.2) q.2) q.2)
      · have h := zif_f hc16 h
        refine z_join μ 37 [(5, .ref (zb g + w3)), (0, .ref (zb g + a0)), (1, .int v1), (2, .int v2), (3, .int v3), (4, .int v4)] [] ?_ (fun k23 => ?_)
        · refine z_sub (lo1 := []) [] rfl ?_
          exact k_J2 () (Option.some.inj h).symm
        · refine z_icmp_lt C0 37 dX11_drawn_17 (by decide) (fun c5 => ?_) (fun c5 => ?_)
          · exact k23
          · refine z_iload_n C0 dX11_drawn_20 rfl 4 rfl ?_
            refine z_bipush (v := (40 : Int32)) C0 dX11_drawn_21 (by decide) ?_
            refine z_icmp_gt C0 37 dX11_drawn_23 (by decide) (fun c6 => ?_) (fun c6 => ?_)
            · exact k23
            · refine z_iload C0 dX11_drawn_26 5 rfl ?_
              refine z_if_lt C0 37 dX11_drawn_28 (by decide) (fun c7 => ?_) (fun c7 => ?_)
              · exact k23
              · refine z_iload C0 dX11_drawn_31 5 rfl ?_
                refine z_iconst (v := (4 : Int32)) C0 dX11_drawn_33 (by decide) ?_
                refine z_icmp_le C0 40 dX11_drawn_34 (by decide) (fun c8 => ?_) (fun c8 => ?_)
                · exact absurd ⟨c5, ⟨c6, ⟨c7, c8⟩⟩⟩ hc16
                · exact k23
def f_X11_sailTo_L60 (a0 : Nat) (v3 : Int32) (w6 : Nat) : Nat → Int32 → zM → Option ((Int32 × zM) ⊕ (zM))
  | 0, _, _ => none
  | n + 1, y13, μ14 =>
    if v3 ≤ y13 then
      some (.inr μ14)
    else
      zbd (f_X6_number w6 y13 (0 : Int32) μ14) fun r16 =>
      zbd (f_X6_number w6 y13 (1 : Int32) μ14) fun r17 =>
      zbd (f_X6_number w6 y13 (2 : Int32) μ14) fun r18 =>
      zbd2 (f_X4_obeys (a0 + 87) r16 r17 r18 μ14) fun r19 μ20 =>
      if ¬ r19 = 0 then
        zl (y13 + (1 : Int32)) fun x22 =>
        f_X11_sailTo_L60 a0 v3 w6 n x22 μ20
      else
        some (.inl ((0 : Int32), μ20))
def f_X11_sailTo (a0 : Nat) (v1 : Int32) (v2 : Int32) (v3 : Int32) (μ : zM) : Option (Int32 × zM) :=
  zbd (f_X8_lakeAt (a0 + 1) v1 μ) fun r1 =>
  zbd (f_X8_pageAt (a0 + 1) (1 : Int32) v2 μ) fun r2 =>
  zbd (zcase r1 (some (.inr ())) fun w4 => zg (zgn w4 1) <|
      zcase r2 (some (.inr ())) fun w6 => zg (zgn w6 6) <|
        if (¬ (v3 < 0)) ∧ (v3 ≤ (μ w6 2)) then
          zbd (f_X4_launch (a0 + 87) w4 w4 μ) fun μ10 =>
          zbd (f_X11_sailTo_L60 a0 v3 w6 zFU (0 : Int32) μ10) fun q24 => zsum q24 (fun t => some (.inl t)) fun μ23 =>
          some (.inl ((1 : Int32), μ23))
        else
          some (.inr ())) fun q25 => zsum q25 (fun t => some t) fun _ =>
  some ((0 : Int32), μ)
set_option maxHeartbeats 4000000 in
set_option maxRecDepth 100000 in
theorem r_X11_sailTo_L60 {l : Launch} {g : zL} {p : Program} {e : Env} {s : State} {m : MethodId} {args : Array Value} {below : List Frame} {meth : Method} {c : Code} {rv : Int32} {μr : zM} (C0 : zC p s m args meth c g cX11_sailTo yX11_sailTo 7 (some (.boolean))) (a0 : Nat) (v3 : Int32) (w6 : Nat) (hU11 : zT zNN zσ1 a0 11) (hU12 : zT zNN zσ1 w6 6) : ∀ (n : Nat) (y13 : Int32) (μ14 : zM) (q : (Int32 × zM) ⊕ (zM)), f_X11_sailTo_L60 a0 v3 w6 n y13 μ14 = some q → (∀ t, q = Sum.inl t → t = (rv, μr)) → (∀ o, q = Sum.inr o → Z p l e (zrm 5 0 0) s m args below meth c g (MQ below (zQ g zNN zσ1 (some (.int rv)) μr) args s 0 0 (zA g)) 7 zNN 0 0 zσ1 ((fun o => o) o) 108 ((fun o => []) o) []) → Z p l e (zrm 5 0 0) s m args below meth c g (MQ below (zQ g zNN zσ1 (some (.int rv)) μr) args s 0 0 (zA g)) 7 zNN 0 0 zσ1 μ14 60 [(0, .ref (zb g + a0)), (3, .int v3), (5, .ref (zb g + w6)), (6, .int y13)] [] := by
  intro n
  induction n with
  | zero =>
    intro y13 μ14 q h kr kx
    rw [f_X11_sailTo_L60] at h
    cases h
  | succ n ih =>
    intro y13 μ14 q h kr kx
    rw [f_X11_sailTo_L60] at h
    refine z_iload C0 dX11_sailTo_60 3 rfl ?_
    refine z_iload_n C0 dX11_sailTo_62 rfl 1 rfl ?_
    refine z_icmp_ge C0 108 dX11_sailTo_63 (by decide) (fun c15 => ?_) (fun c15 => ?_)
    · have h := zif_t c15 h
      refine z_sub (lo1 := []) [] rfl ?_
      exact kx μ14 (Option.some.inj h).symm
    · have h := zif_f c15 h
      refine z_aload_n C0 dX11_sailTo_66 rfl 0 rfl ?_
      refine z_getr C0 hU11 kf_11_40 zr_11_4 zx_11 (zs_11_4 hU11).1 dX11_sailTo_67 ?_
      refine z_aload C0 dX11_sailTo_70 2 rfl ?_
      refine z_iload C0 dX11_sailTo_72 3 rfl ?_
      refine z_iconst (v := (0 : Int32)) C0 dX11_sailTo_74 (by decide) ?_
      obtain ⟨r16, e_r16, h⟩ := zbd_of h
      refine z_callV (As := [.int y13, .int (0 : Int32)]) (rest := [.ref (zb g + (a0 + 87))]) C0 rfl kc_X6_number km_RX11_141 (r_X6_number (l := l) (g := g) w6 y13 (0 : Int32) μ14 hU12 e_r16) hU12.1 hU12.2.2.1 rfl (by decide) rfl (Nat.le_of_ble_eq_true rfl) (Nat.le_of_ble_eq_true rfl) (Nat.le_of_ble_eq_true rfl) (Nat.le_of_ble_eq_true rfl) (Nat.le_refl _) rfl rfl dX11_sailTo_75 ?_
      refine z_aload C0 dX11_sailTo_78 2 rfl ?_
      refine z_iload C0 dX11_sailTo_80 3 rfl ?_
      refine z_iconst (v := (1 : Int32)) C0 dX11_sailTo_82 (by decide) ?_
      obtain ⟨r17, e_r17, h⟩ := zbd_of h
      refine z_callV (As := [.int y13, .int (1 : Int32)]) (rest := [.int r16, .ref (zb g + (a0 + 87))]) C0 rfl kc_X6_number km_RX11_141 (r_X6_number (l := l) (g := g) w6 y13 (1 : Int32) μ14 hU12 e_r17) hU12.1 hU12.2.2.1 rfl (by decide) rfl (Nat.le_of_ble_eq_true rfl) (Nat.le_of_ble_eq_true rfl) (Nat.le_of_ble_eq_true rfl) (Nat.le_of_ble_eq_true rfl) (Nat.le_refl _) rfl rfl dX11_sailTo_83 ?_
      refine z_aload C0 dX11_sailTo_86 2 rfl ?_
      refine z_iload C0 dX11_sailTo_88 3 rfl ?_
      refine z_iconst (v := (2 : Int32)) C0 dX11_sailTo_90 (by decide) ?_
      obtain ⟨r18, e_r18, h⟩ := zbd_of h
      refine z_callV (As := [.int y13, .int (2 : Int32)]) (rest := [.int r17, .int r16, .ref (zb g + (a0 + 87))]) C0 rfl kc_X6_number km_RX11_141 (r_X6_number (l := l) (g := g) w6 y13 (2 : Int32) μ14 hU12 e_r18) hU12.1 hU12.2.2.1 rfl (by decide) rfl (Nat.le_of_ble_eq_true rfl) (Nat.le_of_ble_eq_true rfl) (Nat.le_of_ble_eq_true rfl) (Nat.le_of_ble_eq_true rfl) (Nat.le_refl _) rfl rfl dX11_sailTo_91 ?_
      obtain ⟨r19, μ20, e_r19, h⟩ := zbd2_of h
      refine z_callV (As := [.int r16, .int r17, .int r18]) (rest := []) C0 rfl kc_X4_obeys km_RX11_155 (r_X4_obeys (l := l) (g := g) (a0 + 87) r16 r17 r18 μ14 (zs_11_4 hU11).2 e_r19) (zs_11_4 hU11).2.1 (zs_11_4 hU11).2.2.2.1 rfl (by decide) rfl (Nat.le_of_ble_eq_true rfl) (Nat.le_of_ble_eq_true rfl) (Nat.le_of_ble_eq_true rfl) (Nat.le_of_ble_eq_true rfl) (Nat.le_refl _) rfl rfl dX11_sailTo_94 ?_
      refine z_if_ne C0 102 dX11_sailTo_97 (by decide) (fun c21 => ?_) (fun c21 => ?_)
      · have h := zif_t c21 h
        obtain ⟨x22, e_x22, h⟩ := zl_of h
        refine z_iinc (lo1 := [(6, .int x22), (0, .ref (zb g + a0)), (3, .int v3), (5, .ref (zb g + w6))]) C0 dX11_sailTo_102 3 rfl (by decide) e_x22.symm (by decide) rfl ?_
        refine z_goto C0 60 dX11_sailTo_105 (by decide) ?_
        refine z_sub (lo1 := [(0, .ref (zb g + a0)), (3, .int v3), (5, .ref (zb g + w6)), (6, .int x22)]) [1, 2, 3, 0] rfl ?_
        exact ih _ _ _ h kr kx
      · have h := zif_f (fun q => q c21) h
        refine z_iconst (v := (0 : Int32)) C0 dX11_sailTo_100 (by decide) ?_
        have h := kr _ (Option.some.inj h).symm
        obtain ⟨rfl, rfl⟩ := Prod.mk.inj h
        exact z_zret C0 rfl (by decide) dX11_sailTo_101
set_option maxHeartbeats 4000000 in
set_option maxRecDepth 100000 in
theorem r_X11_sailTo {l : Launch} {g : zL} (a0 : Nat) (v1 : Int32) (v2 : Int32) (v3 : Int32) (μ : zM) (hT0 : zT zNN zσ1 a0 11) {rv : Int32} {μr : zM} (h : f_X11_sailTo a0 v1 v2 v3 μ = some (rv, μr)) : zMet l g yX11_sailTo cX11_sailTo 7 (some (.boolean)) 5 0 0 zNN zNN zσ1 zσ1 [.ref (zb g + a0), .int v1, .int v2, .int v3] μ (some (.int rv)) μr := by
  refine zMet.of (by decide +kernel) (Nat.le_of_ble_eq_true rfl) ?_
  intro p e s m args below meth c C0
  refine z_loc (lo1 := [(0, .ref (zb g + a0)), (1, .int v1), (2, .int v2), (3, .int v3)]) rfl ?_
  unfold f_X11_sailTo at h
  refine z_aload_n C0 dX11_sailTo_0 rfl 0 rfl ?_
  refine z_getr C0 hT0 kf_11_10 zr_11_0 zx_11 (zs_11_0 hT0).1 dX11_sailTo_1 ?_
  refine z_iload_n C0 dX11_sailTo_4 rfl 1 rfl ?_
  obtain ⟨r1, e_r1, h⟩ := zbd_of h
  refine z_callV (As := [.int v1]) (rest := []) C0 rfl kc_X8_lakeAt km_RX11_114 (r_X8_lakeAt (l := l) (g := g) (a0 + 1) v1 μ (zs_11_0 hT0).2 e_r1) (zs_11_0 hT0).2.1 (zs_11_0 hT0).2.2.2.1 rfl (by decide) rfl (Nat.le_of_ble_eq_true rfl) (Nat.le_of_ble_eq_true rfl) (Nat.le_of_ble_eq_true rfl) (Nat.le_of_ble_eq_true rfl) (Nat.le_refl _) rfl rfl dX11_sailTo_5 ?_
  refine z_astoreq (lo1 := [(4, zopt (zb g) r1), (0, .ref (zb g + a0)), (1, .int v1), (2, .int v2), (3, .int v3)]) C0 dX11_sailTo_8 (by decide) rfl ?_
  refine z_aload_n C0 dX11_sailTo_10 rfl 1 rfl ?_
  refine z_getr C0 hT0 kf_11_10 zr_11_0 zx_11 (zs_11_0 hT0).1 dX11_sailTo_11 ?_
  refine z_iconst (v := (1 : Int32)) C0 dX11_sailTo_14 (by decide) ?_
  refine z_iload_n C0 dX11_sailTo_15 rfl 3 rfl ?_
  obtain ⟨r2, e_r2, h⟩ := zbd_of h
  refine z_callV (As := [.int (1 : Int32), .int v2]) (rest := []) C0 rfl kc_X8_pageAt km_RX11_124 (r_X8_pageAt (l := l) (g := g) (a0 + 1) (1 : Int32) v2 μ (zs_11_0 hT0).2 e_r2) (zs_11_0 hT0).2.1 (zs_11_0 hT0).2.2.2.1 rfl (by decide) rfl (Nat.le_of_ble_eq_true rfl) (Nat.le_of_ble_eq_true rfl) (Nat.le_of_ble_eq_true rfl) (Nat.le_of_ble_eq_true rfl) (Nat.le_refl _) rfl rfl dX11_sailTo_16 ?_
  refine z_astoreq (lo1 := [(5, zopt (zb g) r2), (4, zopt (zb g) r1), (0, .ref (zb g + a0)), (1, .int v1), (2, .int v2), (3, .int v3)]) C0 dX11_sailTo_19 (by decide) (by simp [zopt_cat, zoptW_cat]) ?_
  refine z_aloadq C0 dX11_sailTo_21 1 rfl ?_
  obtain ⟨q25, e_q25, h⟩ := zbd_of h
  have kr_J3 := zsum_l h
  have kx_J3 := zsum_r h
  clear h
  refine z_joinq (fun o => q25 = Sum.inr o) (fun _ => μ) 44 (fun o => []) (fun o => []) ?_ (fun k_J3 => ?_)
  · intro u_ hq
    have h := kx_J3 _ hq
    refine z_iconst (v := (0 : Int32)) C0 dX11_sailTo_44 (by decide) ?_
    have h := Option.some.inj h
    obtain ⟨rfl, rfl⟩ := Prod.mk.inj h
    exact z_zret C0 rfl (by decide) dX11_sailTo_45
  · have h := e_q25
    refine z_ifnullq C0 44 dX11_sailTo_23 (by decide) (fun c26 => ?_) (fun w4 c26 => ?_)
    · have h_c26 := zcase_n c26 h
      clear h
      subst c26
      have h := h_c26
      refine z_loc (lo1 := [(5, zopt (zb g) r2), (4, .null), (0, .ref (zb g + a0)), (1, .int v1), (2, .int v2), (3, .int v3)]) rfl ?_
      refine z_sub (lo1 := []) [] rfl ?_
      exact k_J3 () (Option.some.inj h).symm
    · have h_c26 := zcase_s c26 h
      clear h
      subst c26
      have h := h_c26
      obtain ⟨g5, h⟩ := zg_of h
      refine z_loc (lo1 := [(5, zopt (zb g) r2), (4, .ref (zb g + w4)), (0, .ref (zb g + a0)), (1, .int v1), (2, .int v2), (3, .int v3)]) rfl ?_
      refine z_aloadq C0 dX11_sailTo_26 0 rfl ?_
      refine z_ifnullq C0 44 dX11_sailTo_28 (by decide) (fun c27 => ?_) (fun w6 c27 => ?_)
      · have h_c27 := zcase_n c27 h
        clear h
        subst c27
        have h := h_c27
        refine z_loc (lo1 := [(5, .null), (4, .ref (zb g + w4)), (0, .ref (zb g + a0)), (1, .int v1), (2, .int v2), (3, .int v3)]) rfl ?_
        refine z_sub (lo1 := []) [] rfl ?_
        exact k_J3 () (Option.some.inj h).symm
      · have h_c27 := zcase_s c27 h
        clear h
        subst c27
        have h := h_c27
        obtain ⟨g7, h⟩ := zg_of h
        refine z_loc (lo1 := [(5, .ref (zb g + w6)), (4, .ref (zb g + w4)), (0, .ref (zb g + a0)), (1, .int v1), (2, .int v2), (3, .int v3)]) rfl ?_
        refine z_iload_n C0 dX11_sailTo_31 rfl 5 rfl ?_
        by_cases hc28 : (¬ (v3 < 0)) ∧ (v3 ≤ (μ w6 2))
        · have h := zif_t hc28 h
          refine z_join μ 46 [(5, .ref (zb g + w6)), (4, .ref (zb g + w4)), (0, .ref (zb g + a0)), (1, .int v1), (2, .int v2), (3, .int v3)] [] ?_ (fun k29 => ?_)
          · refine z_aload_n C0 dX11_sailTo_46 rfl 2 rfl ?_
            refine z_getr C0 hT0 kf_11_40 zr_11_4 zx_11 (zs_11_4 hT0).1 dX11_sailTo_47 ?_
            refine z_aload C0 dX11_sailTo_50 1 rfl ?_
            refine z_aload C0 dX11_sailTo_52 1 rfl ?_
            obtain ⟨μ10, e_μ10, h⟩ := zbd_of h
            refine z_callV (As := [.ref (zb g + w4), .ref (zb g + w4)]) (rest := []) C0 rfl kc_X4_launch km_RX11_151 (r_X4_launch (l := l) (g := g) (a0 + 87) w4 w4 μ (zs_11_4 hT0).2 (zgn_T g5 (by decide)) (zgn_T g5 (by decide)) e_μ10) (zs_11_4 hT0).2.1 (zs_11_4 hT0).2.2.2.1 rfl (by decide) rfl (Nat.le_of_ble_eq_true rfl) (Nat.le_of_ble_eq_true rfl) (Nat.le_of_ble_eq_true rfl) (Nat.le_of_ble_eq_true rfl) (Nat.le_refl _) rfl rfl dX11_sailTo_54 ?_
            refine z_iconst (v := (0 : Int32)) C0 dX11_sailTo_57 (by decide) ?_
            refine z_istore (lo1 := [(6, .int (0 : Int32)), (5, .ref (zb g + w6)), (4, .ref (zb g + w4)), (0, .ref (zb g + a0)), (1, .int v1), (2, .int v2), (3, .int v3)]) C0 dX11_sailTo_58 (by decide) rfl ?_
            refine z_sub (lo1 := [(0, .ref (zb g + a0)), (3, .int v3), (5, .ref (zb g + w6)), (6, .int (0 : Int32))]) [3, 6, 1, 0] rfl ?_
            obtain ⟨q24, e_q24, h⟩ := zbd_of h
            refine r_X11_sailTo_L60 C0 a0 v3 w6 hT0 (zgn_T g7 (by decide)) zFU (0 : Int32) μ10 q24 e_q24 ?_ ?_
            · intro t ht
              have h := zsum_l h _ ht
              have h := kr_J3 _ (Option.some.inj h).symm
              exact Option.some.inj h
            · intro μ23 hq
              have h := zsum_r h _ hq
              refine z_iconst (v := (1 : Int32)) C0 dX11_sailTo_108 (by decide) ?_
              have h := kr_J3 _ (Option.some.inj h).symm
              have h := Option.some.inj h
              obtain ⟨rfl, rfl⟩ := Prod.mk.inj h
              exact z_zret C0 rfl (by decide) dX11_sailTo_109
          · refine z_if_lt C0 44 dX11_sailTo_32 (by decide) (fun c8 => ?_) (fun c8 => ?_)
            · exact absurd hc28 (fun q => q.1 c8)
            · refine z_iload_n C0 dX11_sailTo_35 rfl 5 rfl ?_
              refine z_aload C0 dX11_sailTo_36 0 rfl ?_
              refine z_geti C0 (zgn_T g7 (by decide)).1 (zgn_T g7 (by decide)).2.2.1 kf_11_132 zr_6_2 dX11_sailTo_38 ?_
              refine z_icmp_le C0 46 dX11_sailTo_41 (by decide) (fun c9 => ?_) (fun c9 => ?_)
              · exact k29
              · exact absurd hc28 (fun q => c9 q.2)
        · have h := zif_f hc28 h
          refine z_join μ 44 [(5, .ref (zb g + w6)), (4, .ref (zb g + w4)), (0, .ref (zb g + a0)), (1, .int v1), (2, .int v2), (3, .int v3)] [] ?_ (fun k30 => ?_)
          · refine z_sub (lo1 := []) [] rfl ?_
            exact k_J3 () (Option.some.inj h).symm
          · refine z_if_lt C0 44 dX11_sailTo_32 (by decide) (fun c8 => ?_) (fun c8 => ?_)
            · exact k30
            · refine z_iload_n C0 dX11_sailTo_35 rfl 5 rfl ?_
              refine z_aload C0 dX11_sailTo_36 0 rfl ?_
              refine z_geti C0 (zgn_T g7 (by decide)).1 (zgn_T g7 (by decide)).2.2.1 kf_11_132 zr_6_2 dX11_sailTo_38 ?_
              refine z_icmp_le C0 46 dX11_sailTo_41 (by decide) (fun c9 => ?_) (fun c9 => ?_)
              · exact absurd ⟨c8, c9⟩ hc28
              · exact k30
def f_X11_drift (a0 : Nat) (v1 : Int32) (v2 : Int32) (v3 : Int32) (v4 : Int32) (μ : zM) : Option (Int32 × zM) :=
  zbd (if (¬ (v4 < 0)) ∧ (¬ ((1 : Int32) < v4)) then
      zbd2 (f_X11_sailTo a0 v1 v2 v3 μ) fun r4 μ5 =>
      if ¬ r4 = 0 then
        zbd (f_X4_driftAlong (a0 + 87) v4 μ5) fun r7 =>
        some (.inl (r7, μ5))
      else
        some (.inr μ5)
    else
      some (.inr μ)) fun q9 => zsum q9 (fun t => some t) fun μ8 =>
  some ((-2 : Int32), μ8)
set_option maxHeartbeats 4000000 in
set_option maxRecDepth 100000 in
theorem r_X11_drift {l : Launch} {g : zL} (a0 : Nat) (v1 : Int32) (v2 : Int32) (v3 : Int32) (v4 : Int32) (μ : zM) (hT0 : zT zNN zσ1 a0 11) {rv : Int32} {μr : zM} (h : f_X11_drift a0 v1 v2 v3 v4 μ = some (rv, μr)) : zMet l g yX11_drift cX11_drift 5 (some (.int)) 6 0 0 zNN zNN zσ1 zσ1 [.ref (zb g + a0), .int v1, .int v2, .int v3, .int v4] μ (some (.int rv)) μr := by
  refine zMet.of (by decide +kernel) (Nat.le_of_ble_eq_true rfl) ?_
  intro p e s m args below meth c C0
  refine z_loc (lo1 := [(0, .ref (zb g + a0)), (1, .int v1), (2, .int v2), (3, .int v3), (4, .int v4)]) rfl ?_
  unfold f_X11_drift at h
  refine z_iload C0 dX11_drift_0 4 rfl ?_
  obtain ⟨q9, e_q9, h⟩ := zbd_of h
  have kr_J3 := zsum_l h
  have kx_J3 := zsum_r h
  clear h
  refine z_joinq (fun o => q9 = Sum.inr o) (fun o => o) 21 (fun o => []) (fun o => []) ?_ (fun k_J3 => ?_)
  · intro μ8 hq
    have h := kx_J3 _ hq
    refine z_bipush (v := (-2 : Int32)) C0 dX11_drift_21 (by decide) ?_
    have h := Option.some.inj h
    obtain ⟨rfl, rfl⟩ := Prod.mk.inj h
    exact z_iret C0 rfl dX11_drift_23
  · have h := e_q9
    by_cases hc10 : (¬ (v4 < 0)) ∧ (¬ ((1 : Int32) < v4))
    · have h := zif_t hc10 h
      refine z_join μ 11 [(0, .ref (zb g + a0)), (1, .int v1), (2, .int v2), (3, .int v3), (4, .int v4)] [] ?_ (fun k11 => ?_)
      · refine z_aload_n C0 dX11_drift_11 rfl 0 rfl ?_
        refine z_iload_n C0 dX11_drift_12 rfl 1 rfl ?_
        refine z_iload_n C0 dX11_drift_13 rfl 2 rfl ?_
        refine z_iload_n C0 dX11_drift_14 rfl 3 rfl ?_
        obtain ⟨r4, μ5, e_r4, h⟩ := zbd2_of h
        refine z_callV (As := [.int v1, .int v2, .int v3]) (rest := []) C0 rfl kc_X11_sailTo km_RX11_159 (r_X11_sailTo (l := l) (g := g) a0 v1 v2 v3 μ hT0 e_r4) hT0.1 hT0.2.2.1 rfl (by decide) rfl (Nat.le_of_ble_eq_true rfl) (Nat.le_of_ble_eq_true rfl) (Nat.le_of_ble_eq_true rfl) (Nat.le_of_ble_eq_true rfl) (Nat.le_refl _) rfl rfl dX11_drift_15 ?_
        refine z_if_ne C0 24 dX11_drift_18 (by decide) (fun c6 => ?_) (fun c6 => ?_)
        · have h := zif_t c6 h
          refine z_aload_n C0 dX11_drift_24 rfl 0 rfl ?_
          refine z_getr C0 hT0 kf_11_40 zr_11_4 zx_11 (zs_11_4 hT0).1 dX11_drift_25 ?_
          refine z_iload C0 dX11_drift_28 4 rfl ?_
          obtain ⟨r7, e_r7, h⟩ := zbd_of h
          refine z_callV (As := [.int v4]) (rest := []) C0 rfl kc_X4_driftAlong km_RX11_167 (r_X4_driftAlong (l := l) (g := g) (a0 + 87) v4 μ5 (zs_11_4 hT0).2 e_r7) (zs_11_4 hT0).2.1 (zs_11_4 hT0).2.2.2.1 rfl (by decide) rfl (Nat.le_of_ble_eq_true rfl) (Nat.le_of_ble_eq_true rfl) (Nat.le_of_ble_eq_true rfl) (Nat.le_of_ble_eq_true rfl) (Nat.le_refl _) rfl rfl dX11_drift_30 ?_
          have h := kr_J3 _ (Option.some.inj h).symm
          have h := Option.some.inj h
          obtain ⟨rfl, rfl⟩ := Prod.mk.inj h
          exact z_iret C0 rfl dX11_drift_33
        · have h := zif_f (fun q => q c6) h
          refine z_sub (lo1 := []) [] rfl ?_
          exact k_J3 μ5 (Option.some.inj h).symm
      · refine z_if_lt C0 21 dX11_drift_2 (by decide) (fun c1 => ?_) (fun c1 => ?_)
        · exact absurd hc10 (fun q => q.1 c1)
        · refine z_iload C0 dX11_drift_5 4 rfl ?_
          refine z_iconst (v := (1 : Int32)) C0 dX11_drift_7 (by decide) ?_
          refine z_icmp_gt C0 21 dX11_drift_8 (by decide) (fun c2 => ?_) (fun c2 => ?_)
          · exact absurd hc10 (fun q => (fun q => q c2) q.2)
          · exact k11
    · have h := zif_f hc10 h
      refine z_join μ 21 [(0, .ref (zb g + a0)), (1, .int v1), (2, .int v2), (3, .int v3), (4, .int v4)] [] ?_ (fun k12 => ?_)
      · refine z_sub (lo1 := []) [] rfl ?_
        exact k_J3 μ (Option.some.inj h).symm
      · refine z_if_lt C0 21 dX11_drift_2 (by decide) (fun c1 => ?_) (fun c1 => ?_)
        · exact k12
        · refine z_iload C0 dX11_drift_5 4 rfl ?_
          refine z_iconst (v := (1 : Int32)) C0 dX11_drift_7 (by decide) ?_
          refine z_icmp_gt C0 21 dX11_drift_8 (by decide) (fun c2 => ?_) (fun c2 => ?_)
          · exact k12
          · exact absurd ⟨c1, c2⟩ hc10
def f_X11_end (a0 : Nat) (v1 : Int32) (μ : zM) : Int32 × zM :=
  if (¬ (v1 < 0)) ∧ (v1 ≤ (μ (a0 + 1) 1)) then
    zl (zup μ (a0 + 1) 1 v1) fun μ3 =>
    (v1, μ3)
  else
    ((-1 : Int32), μ)
set_option maxHeartbeats 4000000 in
set_option maxRecDepth 100000 in
theorem r_X11_end {l : Launch} {g : zL} (a0 : Nat) (v1 : Int32) (μ : zM) (hT0 : zT zNN zσ1 a0 11) {rv : Int32} {μr : zM} (h : f_X11_end a0 v1 μ = (rv, μr)) : zMet l g yX11_end cX11_end 2 (some (.int)) 0 0 0 zNN zNN zσ1 zσ1 [.ref (zb g + a0), .int v1] μ (some (.int rv)) μr := by
  refine zMet.of (by decide +kernel) (Nat.le_of_ble_eq_true rfl) ?_
  intro p e s m args below meth c C0
  refine z_loc (lo1 := [(0, .ref (zb g + a0)), (1, .int v1)]) rfl ?_
  unfold f_X11_end at h
  refine z_iload_n C0 dX11_end_0 rfl 1 rfl ?_
  by_cases hc4 : (¬ (v1 < 0)) ∧ (v1 ≤ (μ (a0 + 1) 1))
  · have h := zif_t hc4 h
    refine z_join μ 17 [(0, .ref (zb g + a0)), (1, .int v1)] [] ?_ (fun k5 => ?_)
    · refine z_aload_n C0 dX11_end_17 rfl 0 rfl ?_
      refine z_getr C0 hT0 kf_11_10 zr_11_0 zx_11 (zs_11_0 hT0).1 dX11_end_18 ?_
      refine z_iload_n C0 dX11_end_21 rfl 1 rfl ?_
      obtain ⟨μ3, e_μ3, h⟩ := zl_of h
      refine z_puti C0 (zs_11_0 hT0).2.1 (zs_11_0 hT0).2.2.2.1 kf_11_82 zp_8_1 zr_8_1 e_μ3 dX11_end_22 ?_
      refine z_iload_n C0 dX11_end_25 rfl 1 rfl ?_
      skip
      obtain ⟨rfl, rfl⟩ := Prod.mk.inj h
      exact z_iret C0 rfl dX11_end_26
    · refine z_if_lt C0 15 dX11_end_1 (by decide) (fun c1 => ?_) (fun c1 => ?_)
      · exact absurd hc4 (fun q => q.1 c1)
      · refine z_iload_n C0 dX11_end_4 rfl 1 rfl ?_
        refine z_aload_n C0 dX11_end_5 rfl 0 rfl ?_
        refine z_getr C0 hT0 kf_11_10 zr_11_0 zx_11 (zs_11_0 hT0).1 dX11_end_6 ?_
        refine z_geti C0 (zs_11_0 hT0).2.1 (zs_11_0 hT0).2.2.2.1 kf_11_82 zr_8_1 dX11_end_9 ?_
        refine z_icmp_le C0 17 dX11_end_12 (by decide) (fun c2 => ?_) (fun c2 => ?_)
        · exact k5
        · exact absurd hc4 (fun q => c2 q.2)
  · have h := zif_f hc4 h
    refine z_join μ 15 [(0, .ref (zb g + a0)), (1, .int v1)] [] ?_ (fun k6 => ?_)
    · refine z_iconst (v := (-1 : Int32)) C0 dX11_end_15 (by decide) ?_
      skip
      obtain ⟨rfl, rfl⟩ := Prod.mk.inj h
      exact z_iret C0 rfl dX11_end_16
    · refine z_if_lt C0 15 dX11_end_1 (by decide) (fun c1 => ?_) (fun c1 => ?_)
      · exact k6
      · refine z_iload_n C0 dX11_end_4 rfl 1 rfl ?_
        refine z_aload_n C0 dX11_end_5 rfl 0 rfl ?_
        refine z_getr C0 hT0 kf_11_10 zr_11_0 zx_11 (zs_11_0 hT0).1 dX11_end_6 ?_
        refine z_geti C0 (zs_11_0 hT0).2.1 (zs_11_0 hT0).2.2.2.1 kf_11_82 zr_8_1 dX11_end_9 ?_
        refine z_icmp_le C0 17 dX11_end_12 (by decide) (fun c2 => ?_) (fun c2 => ?_)
        · exact absurd ⟨c1, c2⟩ hc4
        · exact k6
def f_X11_fault (a0 : Nat) (v1 : Int32) (μ : zM) : Int32 :=
  if ¬ v1 = 0 then
    zl (if ¬ v1 = (1 : Int32) then
        (-1 : Int32)
      else
        (μ (a0 + 1) 3)) fun x5 =>
    x5
  else
    (μ (a0 + 1) 2)
set_option maxHeartbeats 4000000 in
set_option maxRecDepth 100000 in
theorem r_X11_fault {l : Launch} {g : zL} (a0 : Nat) (v1 : Int32) (μ : zM) (hT0 : zT zNN zσ1 a0 11) {rv : Int32} (h : f_X11_fault a0 v1 μ = rv) : zMet l g yX11_fault cX11_fault 2 (some (.int)) 0 0 0 zNN zNN zσ1 zσ1 [.ref (zb g + a0), .int v1] μ (some (.int rv)) μ := by
  refine zMet.of (by decide +kernel) (Nat.le_of_ble_eq_true rfl) ?_
  intro p e s m args below meth c C0
  refine z_loc (lo1 := [(0, .ref (zb g + a0)), (1, .int v1)]) rfl ?_
  unfold f_X11_fault at h
  refine z_iload_n C0 dX11_fault_0 rfl 1 rfl ?_
  refine z_if_ne C0 12 dX11_fault_1 (by decide) (fun c1 => ?_) (fun c1 => ?_)
  · have h := zif_t c1 h
    refine z_iload_n C0 dX11_fault_12 rfl 1 rfl ?_
    refine z_iconst (v := (1 : Int32)) C0 dX11_fault_13 (by decide) ?_
    obtain ⟨x5, e_x5, h⟩ := zl_of h
    refine z_join μ 28 [] [.int x5] ?_ (fun k_J4 => ?_)
    · skip
      obtain rfl := h
      exact z_iret C0 rfl dX11_fault_28
    · have h := e_x5.symm
      refine z_icmp_ne C0 27 dX11_fault_14 (by decide) (fun c3 => ?_) (fun c3 => ?_)
      · have h := zif_t c3 h
        refine z_iconst (v := (-1 : Int32)) C0 dX11_fault_27 (by decide) ?_
        refine z_sub (lo1 := []) [] rfl ?_
        obtain rfl := h
        exact k_J4
      · have h := zif_f (fun q => q c3) h
        refine z_aload_n C0 dX11_fault_17 rfl 0 rfl ?_
        refine z_getr C0 hT0 kf_11_10 zr_11_0 zx_11 (zs_11_0 hT0).1 dX11_fault_18 ?_
        refine z_geti C0 (zs_11_0 hT0).2.1 (zs_11_0 hT0).2.2.2.1 kf_11_97 zr_8_3 dX11_fault_21 ?_
        refine z_goto C0 28 dX11_fault_24 (by decide) ?_
        refine z_sub (lo1 := []) [] rfl ?_
        obtain rfl := h
        exact k_J4
  · have h := zif_f (fun q => q c1) h
    refine z_aload_n C0 dX11_fault_4 rfl 0 rfl ?_
    refine z_getr C0 hT0 kf_11_10 zr_11_0 zx_11 (zs_11_0 hT0).1 dX11_fault_5 ?_
    refine z_geti C0 (zs_11_0 hT0).2.1 (zs_11_0 hT0).2.2.2.1 kf_11_94 zr_8_2 dX11_fault_8 ?_
    skip
    obtain rfl := h
    exact z_iret C0 rfl dX11_fault_11
def f_X11_feed (a0 : Nat) (v1 : Int32) (v2 : Int32) (v3 : Int32) (v4 : Int32) (v5 : Int32) (μ : zM) : Option (Int32 × zM) :=
  if ((μ (a0 + 1) 1) + (20 : Int32)) ≤ (600 : Int32) then
    zbd (f_X8_append (a0 + 1) v1 μ) fun μ2 =>
    zbd (f_X8_append (a0 + 1) v2 μ2) fun μ3 =>
    zbd (f_X8_append (a0 + 1) v3 μ3) fun μ4 =>
    zbd (f_X8_append (a0 + 1) v4 μ4) fun μ5 =>
    zbd (f_X8_append (a0 + 1) v5 μ5) fun μ6 =>
    some ((μ6 (a0 + 1) 1), μ6)
  else
    some ((-1 : Int32), μ)
set_option maxHeartbeats 4000000 in
set_option maxRecDepth 100000 in
theorem r_X11_feed {l : Launch} {g : zL} (a0 : Nat) (v1 : Int32) (v2 : Int32) (v3 : Int32) (v4 : Int32) (v5 : Int32) (μ : zM) (hT0 : zT zNN zσ1 a0 11) {rv : Int32} {μr : zM} (h : f_X11_feed a0 v1 v2 v3 v4 v5 μ = some (rv, μr)) : zMet l g yX11_feed cX11_feed 6 (some (.int)) 1 0 0 zNN zNN zσ1 zσ1 [.ref (zb g + a0), .int v1, .int v2, .int v3, .int v4, .int v5] μ (some (.int rv)) μr := by
  refine zMet.of (by decide +kernel) (Nat.le_of_ble_eq_true rfl) ?_
  intro p e s m args below meth c C0
  refine z_loc (lo1 := [(0, .ref (zb g + a0)), (1, .int v1), (2, .int v2), (3, .int v3), (4, .int v4), (5, .int v5)]) rfl ?_
  unfold f_X11_feed at h
  refine z_aload_n C0 dX11_feed_0 rfl 0 rfl ?_
  refine z_getr C0 hT0 kf_11_10 zr_11_0 zx_11 (zs_11_0 hT0).1 dX11_feed_1 ?_
  refine z_geti C0 (zs_11_0 hT0).2.1 (zs_11_0 hT0).2.2.2.1 kf_11_82 zr_8_1 dX11_feed_4 ?_
  refine z_bipush (v := (20 : Int32)) C0 dX11_feed_7 (by decide) ?_
  refine z_iadd C0 dX11_feed_9 ?_
  refine z_sipush (v := (600 : Int32)) C0 dX11_feed_10 (by decide) ?_
  refine z_icmp_le C0 18 dX11_feed_13 (by decide) (fun c1 => ?_) (fun c1 => ?_)
  · have h := zif_t c1 h
    refine z_aload_n C0 dX11_feed_18 rfl 0 rfl ?_
    refine z_getr C0 hT0 kf_11_10 zr_11_0 zx_11 (zs_11_0 hT0).1 dX11_feed_19 ?_
    refine z_iload_n C0 dX11_feed_22 rfl 1 rfl ?_
    obtain ⟨μ2, e_μ2, h⟩ := zbd_of h
    refine z_callV (As := [.int v1]) (rest := []) C0 rfl kc_X8_append km_RX11_86 (r_X8_append (l := l) (g := g) (a0 + 1) v1 μ (zs_11_0 hT0).2 e_μ2) (zs_11_0 hT0).2.1 (zs_11_0 hT0).2.2.2.1 rfl (by decide) rfl (Nat.le_of_ble_eq_true rfl) (Nat.le_of_ble_eq_true rfl) (Nat.le_of_ble_eq_true rfl) (Nat.le_of_ble_eq_true rfl) (Nat.le_refl _) rfl rfl dX11_feed_23 ?_
    refine z_aload_n C0 dX11_feed_26 rfl 0 rfl ?_
    refine z_getr C0 hT0 kf_11_10 zr_11_0 zx_11 (zs_11_0 hT0).1 dX11_feed_27 ?_
    refine z_iload_n C0 dX11_feed_30 rfl 2 rfl ?_
    obtain ⟨μ3, e_μ3, h⟩ := zbd_of h
    refine z_callV (As := [.int v2]) (rest := []) C0 rfl kc_X8_append km_RX11_86 (r_X8_append (l := l) (g := g) (a0 + 1) v2 μ2 (zs_11_0 hT0).2 e_μ3) (zs_11_0 hT0).2.1 (zs_11_0 hT0).2.2.2.1 rfl (by decide) rfl (Nat.le_of_ble_eq_true rfl) (Nat.le_of_ble_eq_true rfl) (Nat.le_of_ble_eq_true rfl) (Nat.le_of_ble_eq_true rfl) (Nat.le_refl _) rfl rfl dX11_feed_31 ?_
    refine z_aload_n C0 dX11_feed_34 rfl 0 rfl ?_
    refine z_getr C0 hT0 kf_11_10 zr_11_0 zx_11 (zs_11_0 hT0).1 dX11_feed_35 ?_
    refine z_iload_n C0 dX11_feed_38 rfl 3 rfl ?_
    obtain ⟨μ4, e_μ4, h⟩ := zbd_of h
    refine z_callV (As := [.int v3]) (rest := []) C0 rfl kc_X8_append km_RX11_86 (r_X8_append (l := l) (g := g) (a0 + 1) v3 μ3 (zs_11_0 hT0).2 e_μ4) (zs_11_0 hT0).2.1 (zs_11_0 hT0).2.2.2.1 rfl (by decide) rfl (Nat.le_of_ble_eq_true rfl) (Nat.le_of_ble_eq_true rfl) (Nat.le_of_ble_eq_true rfl) (Nat.le_of_ble_eq_true rfl) (Nat.le_refl _) rfl rfl dX11_feed_39 ?_
    refine z_aload_n C0 dX11_feed_42 rfl 0 rfl ?_
    refine z_getr C0 hT0 kf_11_10 zr_11_0 zx_11 (zs_11_0 hT0).1 dX11_feed_43 ?_
    refine z_iload C0 dX11_feed_46 4 rfl ?_
    obtain ⟨μ5, e_μ5, h⟩ := zbd_of h
    refine z_callV (As := [.int v4]) (rest := []) C0 rfl kc_X8_append km_RX11_86 (r_X8_append (l := l) (g := g) (a0 + 1) v4 μ4 (zs_11_0 hT0).2 e_μ5) (zs_11_0 hT0).2.1 (zs_11_0 hT0).2.2.2.1 rfl (by decide) rfl (Nat.le_of_ble_eq_true rfl) (Nat.le_of_ble_eq_true rfl) (Nat.le_of_ble_eq_true rfl) (Nat.le_of_ble_eq_true rfl) (Nat.le_refl _) rfl rfl dX11_feed_48 ?_
    refine z_aload_n C0 dX11_feed_51 rfl 0 rfl ?_
    refine z_getr C0 hT0 kf_11_10 zr_11_0 zx_11 (zs_11_0 hT0).1 dX11_feed_52 ?_
    refine z_iload C0 dX11_feed_55 5 rfl ?_
    obtain ⟨μ6, e_μ6, h⟩ := zbd_of h
    refine z_callV (As := [.int v5]) (rest := []) C0 rfl kc_X8_append km_RX11_86 (r_X8_append (l := l) (g := g) (a0 + 1) v5 μ5 (zs_11_0 hT0).2 e_μ6) (zs_11_0 hT0).2.1 (zs_11_0 hT0).2.2.2.1 rfl (by decide) rfl (Nat.le_of_ble_eq_true rfl) (Nat.le_of_ble_eq_true rfl) (Nat.le_of_ble_eq_true rfl) (Nat.le_of_ble_eq_true rfl) (Nat.le_refl _) rfl rfl dX11_feed_57 ?_
    refine z_aload_n C0 dX11_feed_60 rfl 0 rfl ?_
    refine z_getr C0 hT0 kf_11_10 zr_11_0 zx_11 (zs_11_0 hT0).1 dX11_feed_61 ?_
    refine z_geti C0 (zs_11_0 hT0).2.1 (zs_11_0 hT0).2.2.2.1 kf_11_82 zr_8_1 dX11_feed_64 ?_
    have h := Option.some.inj h
    obtain ⟨rfl, rfl⟩ := Prod.mk.inj h
    exact z_iret C0 rfl dX11_feed_67
  · have h := zif_f c1 h
    refine z_iconst (v := (-1 : Int32)) C0 dX11_feed_16 (by decide) ?_
    have h := Option.some.inj h
    obtain ⟨rfl, rfl⟩ := Prod.mk.inj h
    exact z_iret C0 rfl dX11_feed_17
def f_X11_gain (a0 : Nat) (v1 : Int32) (v2 : Int32) (v3 : Int32) (v4 : Int32) (μ : zM) : Option (Int32 × zM) :=
  zbd (f_X8_lakeAt (a0 + 1) v1 μ) fun r1 =>
  zbd (zcase r1 (some (.inr ())) fun w3 => zg (zgn w3 1) <|
      if (¬ (v2 < (1 : Int32))) ∧ ((¬ ((12 : Int32) < v2)) ∧ ((¬ (v3 < 0)) ∧ ((¬ ((8 : Int32) < v3)) ∧ ((¬ (v4 < 0)) ∧ (v4 ≤ (1 : Int32)))))) then
        zbd (f_X3_hear (a0 + 104) w3 v2 (a0 + 87) μ) fun μ11 =>
        zbd (f_X3_gainOf (a0 + 104) v3 v4 μ11) fun r12 =>
        some (.inl (r12, μ11))
      else
        some (.inr ())) fun q13 => zsum q13 (fun t => some t) fun _ =>
  some ((-1000000 : Int32), μ)
set_option maxHeartbeats 4000000 in
set_option maxRecDepth 100000 in
theorem r_X11_gain {l : Launch} {g : zL} (a0 : Nat) (v1 : Int32) (v2 : Int32) (v3 : Int32) (v4 : Int32) (μ : zM) (hT0 : zT zNN zσ1 a0 11) {rv : Int32} {μr : zM} (h : f_X11_gain a0 v1 v2 v3 v4 μ = some (rv, μr)) : zMet l g yX11_gain cX11_gain 6 (some (.int)) 5 0 0 zNN zNN zσ1 zσ1 [.ref (zb g + a0), .int v1, .int v2, .int v3, .int v4] μ (some (.int rv)) μr := by
  refine zMet.of (by decide +kernel) (Nat.le_of_ble_eq_true rfl) ?_
  intro p e s m args below meth c C0
  refine z_loc (lo1 := [(0, .ref (zb g + a0)), (1, .int v1), (2, .int v2), (3, .int v3), (4, .int v4)]) rfl ?_
  unfold f_X11_gain at h
  refine z_aload_n C0 dX11_gain_0 rfl 0 rfl ?_
  refine z_getr C0 hT0 kf_11_10 zr_11_0 zx_11 (zs_11_0 hT0).1 dX11_gain_1 ?_
  refine z_iload_n C0 dX11_gain_4 rfl 1 rfl ?_
  obtain ⟨r1, e_r1, h⟩ := zbd_of h
  refine z_callV (As := [.int v1]) (rest := []) C0 rfl kc_X8_lakeAt km_RX11_114 (r_X8_lakeAt (l := l) (g := g) (a0 + 1) v1 μ (zs_11_0 hT0).2 e_r1) (zs_11_0 hT0).2.1 (zs_11_0 hT0).2.2.2.1 rfl (by decide) rfl (Nat.le_of_ble_eq_true rfl) (Nat.le_of_ble_eq_true rfl) (Nat.le_of_ble_eq_true rfl) (Nat.le_of_ble_eq_true rfl) (Nat.le_refl _) rfl rfl dX11_gain_5 ?_
  refine z_astoreq (lo1 := [(5, zopt (zb g) r1), (0, .ref (zb g + a0)), (1, .int v1), (2, .int v2), (3, .int v3), (4, .int v4)]) C0 dX11_gain_8 (by decide) rfl ?_
  refine z_aloadq C0 dX11_gain_10 0 rfl ?_
  obtain ⟨q13, e_q13, h⟩ := zbd_of h
  have kr_J2 := zsum_l h
  have kx_J2 := zsum_r h
  clear h
  refine z_joinq (fun o => q13 = Sum.inr o) (fun _ => μ) 47 (fun o => []) (fun o => []) ?_ (fun k_J2 => ?_)
  · intro u_ hq
    have h := kx_J2 _ hq
    refine z_ldc C0 dX11_gain_47 kk_RX11_163 ?_
    have h := Option.some.inj h
    obtain ⟨rfl, rfl⟩ := Prod.mk.inj h
    exact z_iret C0 rfl dX11_gain_49
  · have h := e_q13
    refine z_ifnullq C0 47 dX11_gain_12 (by decide) (fun c14 => ?_) (fun w3 c14 => ?_)
    · have h_c14 := zcase_n c14 h
      clear h
      subst c14
      have h := h_c14
      refine z_loc (lo1 := [(5, .null), (0, .ref (zb g + a0)), (1, .int v1), (2, .int v2), (3, .int v3), (4, .int v4)]) rfl ?_
      refine z_sub (lo1 := []) [] rfl ?_
      exact k_J2 () (Option.some.inj h).symm
    · have h_c14 := zcase_s c14 h
      clear h
      subst c14
      have h := h_c14
      obtain ⟨g4, h⟩ := zg_of h
      refine z_loc (lo1 := [(5, .ref (zb g + w3)), (0, .ref (zb g + a0)), (1, .int v1), (2, .int v2), (3, .int v3), (4, .int v4)]) rfl ?_
      refine z_iload_n C0 dX11_gain_15 rfl 3 rfl ?_
      refine z_iconst (v := (1 : Int32)) C0 dX11_gain_16 (by decide) ?_
      by_cases hc15 : (¬ (v2 < (1 : Int32))) ∧ ((¬ ((12 : Int32) < v2)) ∧ ((¬ (v3 < 0)) ∧ ((¬ ((8 : Int32) < v3)) ∧ ((¬ (v4 < 0)) ∧ (v4 ≤ (1 : Int32))))))
      · have h := zif_t hc15 h
        refine z_join μ 50 [(5, .ref (zb g + w3)), (0, .ref (zb g + a0)), (1, .int v1), (2, .int v2), (3, .int v3), (4, .int v4)] [] ?_ (fun k16 => ?_)
        · refine z_aload_n C0 dX11_gain_50 rfl 1 rfl ?_
          refine z_getr C0 hT0 kf_11_57 zr_11_7 zx_11 (zs_11_7 hT0).1 dX11_gain_51 ?_
          refine z_aload C0 dX11_gain_54 0 rfl ?_
          refine z_iload_n C0 dX11_gain_56 rfl 3 rfl ?_
          refine z_aload_n C0 dX11_gain_57 rfl 1 rfl ?_
          refine z_getr C0 hT0 kf_11_40 zr_11_4 zx_11 (zs_11_4 hT0).1 dX11_gain_58 ?_
          obtain ⟨μ11, e_μ11, h⟩ := zbd_of h
          refine z_callV (As := [.ref (zb g + w3), .int v2, .ref (zb g + (a0 + 87))]) (rest := []) C0 rfl kc_X3_hear km_RX11_219 (r_X3_hear (l := l) (g := g) (a0 + 104) w3 v2 (a0 + 87) μ (zs_11_7 hT0).2 (zgn_T g4 (by decide)) (zs_11_4 hT0).2 e_μ11) (zs_11_7 hT0).2.1 (zs_11_7 hT0).2.2.2.1 rfl (by decide) rfl (Nat.le_of_ble_eq_true rfl) (Nat.le_of_ble_eq_true rfl) (Nat.le_of_ble_eq_true rfl) (Nat.le_of_ble_eq_true rfl) (Nat.le_refl _) rfl rfl dX11_gain_61 ?_
          refine z_aload_n C0 dX11_gain_64 rfl 1 rfl ?_
          refine z_getr C0 hT0 kf_11_57 zr_11_7 zx_11 (zs_11_7 hT0).1 dX11_gain_65 ?_
          refine z_iload_n C0 dX11_gain_68 rfl 4 rfl ?_
          refine z_iload C0 dX11_gain_69 5 rfl ?_
          obtain ⟨r12, e_r12, h⟩ := zbd_of h
          refine z_callV (As := [.int v3, .int v4]) (rest := []) C0 rfl kc_X3_gainOf km_RX11_229 (r_X3_gainOf (l := l) (g := g) (a0 + 104) v3 v4 μ11 (zs_11_7 hT0).2 e_r12) (zs_11_7 hT0).2.1 (zs_11_7 hT0).2.2.2.1 rfl (by decide) rfl (Nat.le_of_ble_eq_true rfl) (Nat.le_of_ble_eq_true rfl) (Nat.le_of_ble_eq_true rfl) (Nat.le_of_ble_eq_true rfl) (Nat.le_refl _) rfl rfl dX11_gain_71 ?_
          have h := kr_J2 _ (Option.some.inj h).symm
          have h := Option.some.inj h
          obtain ⟨rfl, rfl⟩ := Prod.mk.inj h
          exact z_iret C0 rfl dX11_gain_74
        · refine z_icmp_lt C0 47 dX11_gain_17 (by decide) (fun c5 => ?_) (fun c5 => ?_)
          · exact absurd hc15 (fun q => q.1 c5)
          · refine z_iload_n C0 dX11_gain_20 rfl 3 rfl ?_
            refine z_bipush (v := (12 : Int32)) C0 dX11_gain_21 (by decide) ?_
            refine z_icmp_gt C0 47 dX11_gain_23 (by decide) (fun c6 => ?_) (fun c6 => ?_)
            · exact absurd hc15 (fun q => (fun q => q.1 c6) q.2)
            · refine z_iload_n C0 dX11_gain_26 rfl 4 rfl ?_
              refine z_if_lt C0 47 dX11_gain_27 (by decide) (fun c7 => ?_) (fun c7 => ?_)
              · exact absurd hc15 (fun q => (fun q => (fun q => q.1 c7) q.2) q.2)
              · refine z_iload_n C0 dX11_gain_30 rfl 4 rfl ?_
                refine z_bipush (v := (8 : Int32)) C0 dX11_gain_31 (by decide) ?_
                refine z_icmp_gt C0 47 dX11_gain_33 (by decide) (fun c8 => ?_) (fun c8 => ?_)
                · exact absurd hc15 (fun q => (fun q => (fun q => (fun q => q.1 c8) q.2) q.2) q.2)
                · refine z_iload C0 dX11_gain_36 5 rfl ?_
                  refine z_if_lt C0 47 dX11_gain_38 (by decide) (fun c9 => ?_) (fun c9 => ?_)
                  · exact absurd hc15 (fun q => (fun q => (fun q => (fun q => (fun q => q.1 c9) q.2) q.2) q.2) q.2)
                  · refine z_iload C0 dX11_gain_41 5 rfl ?_
                    refine z_iconst (v := (1 : Int32)) C0 dX11_gain_43 (by decide) ?_
                    refine z_icmp_le C0 50 dX11_gain_44 (by decide) (fun c10 => ?_) (fun c10 => ?_)
                    · exact k16
                    · exact absurd hc15 (fun q => (fun q => (fun q => (fun q => (fun q => c10 q.2) q.2) q.2) q.2) q.2)
      · have h := zif_f hc15 h
        refine z_join μ 47 [(5, .ref (zb g + w3)), (0, .ref (zb g + a0)), (1, .int v1), (2, .int v2), (3, .int v3), (4, .int v4)] [] ?_ (fun k17 => ?_)
        · refine z_sub (lo1 := []) [] rfl ?_
          exact k_J2 () (Option.some.inj h).symm
        · refine z_icmp_lt C0 47 dX11_gain_17 (by decide) (fun c5 => ?_) (fun c5 => ?_)
          · exact k17
          · refine z_iload_n C0 dX11_gain_20 rfl 3 rfl ?_
            refine z_bipush (v := (12 : Int32)) C0 dX11_gain_21 (by decide) ?_
            refine z_icmp_gt C0 47 dX11_gain_23 (by decide) (fun c6 => ?_) (fun c6 => ?_)
            · exact k17
            · refine z_iload_n C0 dX11_gain_26 rfl 4 rfl ?_
              refine z_if_lt C0 47 dX11_gain_27 (by decide) (fun c7 => ?_) (fun c7 => ?_)
              · exact k17
              · refine z_iload_n C0 dX11_gain_30 rfl 4 rfl ?_
                refine z_bipush (v := (8 : Int32)) C0 dX11_gain_31 (by decide) ?_
                refine z_icmp_gt C0 47 dX11_gain_33 (by decide) (fun c8 => ?_) (fun c8 => ?_)
                · exact k17
                · refine z_iload C0 dX11_gain_36 5 rfl ?_
                  refine z_if_lt C0 47 dX11_gain_38 (by decide) (fun c9 => ?_) (fun c9 => ?_)
                  · exact k17
                  · refine z_iload C0 dX11_gain_41 5 rfl ?_
                    refine z_iconst (v := (1 : Int32)) C0 dX11_gain_43 (by decide) ?_
                    refine z_icmp_le C0 50 dX11_gain_44 (by decide) (fun c10 => ?_) (fun c10 => ?_)
                    · exact absurd ⟨c5, ⟨c6, ⟨c7, ⟨c8, ⟨c9, c10⟩⟩⟩⟩⟩ hc15
                    · exact k17
def f_X11_goes (a0 : Nat) (v1 : Int32) (v2 : Int32) (v3 : Int32) (v4 : Int32) (μ : zM) : Option (Int32 × zM) :=
  zbd (if (¬ (v4 < 0)) ∧ ((¬ ((13 : Int32) < v4)) ∧ ((v4 ≤ (1 : Int32)) ∨ (¬ (v4 < (10 : Int32))))) then
      zbd2 (f_X11_sailTo a0 v1 v2 v3 μ) fun r6 μ7 =>
      if ¬ r6 = 0 then
        if ¬ v4 = 0 then
          zbd2 (if ¬ v4 = (1 : Int32) then
              zbd (f_X4_forceToTurn (a0 + 87) (v4 - (10 : Int32)) μ7) fun r15 =>
              some (r15, μ7)
            else
              zbd2 (f_X4_hoursTillSunk (a0 + 87) (60 : Int32) μ7) fun r16 μ17 =>
              some (r16, μ17)) fun x18 μ19 =>
          some (.inl (x18, μ19))
        else
          zbd2 (f_X4_hoursTillAground (a0 + 87) (60 : Int32) μ7) fun r20 μ21 =>
          some (.inl (r20, μ21))
      else
        some (.inr μ7)
    else
      some (.inr μ)) fun q23 => zsum q23 (fun t => some t) fun μ22 =>
  some ((-2 : Int32), μ22)
set_option maxHeartbeats 4000000 in
set_option maxRecDepth 100000 in
theorem r_X11_goes {l : Launch} {g : zL} (a0 : Nat) (v1 : Int32) (v2 : Int32) (v3 : Int32) (v4 : Int32) (μ : zM) (hT0 : zT zNN zσ1 a0 11) {rv : Int32} {μr : zM} (h : f_X11_goes a0 v1 v2 v3 v4 μ = some (rv, μr)) : zMet l g yX11_goes cX11_goes 5 (some (.int)) 6 0 0 zNN zNN zσ1 zσ1 [.ref (zb g + a0), .int v1, .int v2, .int v3, .int v4] μ (some (.int rv)) μr := by
  refine zMet.of (by decide +kernel) (Nat.le_of_ble_eq_true rfl) ?_
  intro p e s m args below meth c C0
  refine z_loc (lo1 := [(0, .ref (zb g + a0)), (1, .int v1), (2, .int v2), (3, .int v3), (4, .int v4)]) rfl ?_
  unfold f_X11_goes at h
  refine z_iload C0 dX11_goes_0 4 rfl ?_
  obtain ⟨q23, e_q23, h⟩ := zbd_of h
  have kr_J5 := zsum_l h
  have kx_J5 := zsum_r h
  clear h
  refine z_joinq (fun o => q23 = Sum.inr o) (fun o => o) 35 (fun o => []) (fun o => []) ?_ (fun k_J5 => ?_)
  · intro μ22 hq
    have h := kx_J5 _ hq
    refine z_bipush (v := (-2 : Int32)) C0 dX11_goes_35 (by decide) ?_
    have h := Option.some.inj h
    obtain ⟨rfl, rfl⟩ := Prod.mk.inj h
    exact z_iret C0 rfl dX11_goes_37
  · have h := e_q23
    by_cases hc24 : (¬ (v4 < 0)) ∧ ((¬ ((13 : Int32) < v4)) ∧ ((v4 ≤ (1 : Int32)) ∨ (¬ (v4 < (10 : Int32)))))
    · have h := zif_t hc24 h
      refine z_join μ 25 [(0, .ref (zb g + a0)), (1, .int v1), (2, .int v2), (3, .int v3), (4, .int v4)] [] ?_ (fun k25 => ?_)
      · refine z_aload_n C0 dX11_goes_25 rfl 0 rfl ?_
        refine z_iload_n C0 dX11_goes_26 rfl 1 rfl ?_
        refine z_iload_n C0 dX11_goes_27 rfl 2 rfl ?_
        refine z_iload_n C0 dX11_goes_28 rfl 3 rfl ?_
        obtain ⟨r6, μ7, e_r6, h⟩ := zbd2_of h
        refine z_callV (As := [.int v1, .int v2, .int v3]) (rest := []) C0 rfl kc_X11_sailTo km_RX11_159 (r_X11_sailTo (l := l) (g := g) a0 v1 v2 v3 μ hT0 e_r6) hT0.1 hT0.2.2.1 rfl (by decide) rfl (Nat.le_of_ble_eq_true rfl) (Nat.le_of_ble_eq_true rfl) (Nat.le_of_ble_eq_true rfl) (Nat.le_of_ble_eq_true rfl) (Nat.le_refl _) rfl rfl dX11_goes_29 ?_
        refine z_if_ne C0 38 dX11_goes_32 (by decide) (fun c8 => ?_) (fun c8 => ?_)
        · have h := zif_t c8 h
          refine z_iload C0 dX11_goes_38 4 rfl ?_
          refine z_if_ne C0 53 dX11_goes_40 (by decide) (fun c11 => ?_) (fun c11 => ?_)
          · have h := zif_t c11 h
            refine z_iload C0 dX11_goes_53 4 rfl ?_
            refine z_iconst (v := (1 : Int32)) C0 dX11_goes_55 (by decide) ?_
            obtain ⟨x18, μ19, e_x18, h⟩ := zbd2_of h
            refine z_join μ19 83 [] [.int x18] ?_ (fun k_J14 => ?_)
            · have h := kr_J5 _ (Option.some.inj h).symm
              have h := Option.some.inj h
              obtain ⟨rfl, rfl⟩ := Prod.mk.inj h
              exact z_iret C0 rfl dX11_goes_83
            · have h := e_x18
              refine z_icmp_ne C0 71 dX11_goes_56 (by decide) (fun c13 => ?_) (fun c13 => ?_)
              · have h := zif_t c13 h
                refine z_aload_n C0 dX11_goes_71 rfl 0 rfl ?_
                refine z_getr C0 hT0 kf_11_40 zr_11_4 zx_11 (zs_11_4 hT0).1 dX11_goes_72 ?_
                refine z_iload C0 dX11_goes_75 4 rfl ?_
                refine z_bipush (v := (10 : Int32)) C0 dX11_goes_77 (by decide) ?_
                refine z_isub C0 dX11_goes_79 ?_
                obtain ⟨r15, e_r15, h⟩ := zbd_of h
                refine z_callV (As := [.int (v4 - (10 : Int32))]) (rest := []) C0 rfl kc_X4_forceToTurn km_RX11_176 (r_X4_forceToTurn (l := l) (g := g) (a0 + 87) (v4 - (10 : Int32)) μ7 (zs_11_4 hT0).2 e_r15) (zs_11_4 hT0).2.1 (zs_11_4 hT0).2.2.2.1 rfl (by decide) rfl (Nat.le_of_ble_eq_true rfl) (Nat.le_of_ble_eq_true rfl) (Nat.le_of_ble_eq_true rfl) (Nat.le_of_ble_eq_true rfl) (Nat.le_refl _) rfl rfl dX11_goes_80 ?_
                refine z_sub (lo1 := []) [] rfl ?_
                obtain ⟨rfl, rfl⟩ := Prod.mk.inj (Option.some.inj h)
                exact k_J14
              · have h := zif_f (fun q => q c13) h
                refine z_aload_n C0 dX11_goes_59 rfl 0 rfl ?_
                refine z_getr C0 hT0 kf_11_40 zr_11_4 zx_11 (zs_11_4 hT0).1 dX11_goes_60 ?_
                refine z_bipush (v := (60 : Int32)) C0 dX11_goes_63 (by decide) ?_
                obtain ⟨r16, μ17, e_r16, h⟩ := zbd2_of h
                refine z_callV (As := [.int (60 : Int32)]) (rest := []) C0 rfl kc_X4_hoursTillSunk km_RX11_173 (r_X4_hoursTillSunk (l := l) (g := g) (a0 + 87) (60 : Int32) μ7 (zs_11_4 hT0).2 e_r16) (zs_11_4 hT0).2.1 (zs_11_4 hT0).2.2.2.1 rfl (by decide) rfl (Nat.le_of_ble_eq_true rfl) (Nat.le_of_ble_eq_true rfl) (Nat.le_of_ble_eq_true rfl) (Nat.le_of_ble_eq_true rfl) (Nat.le_refl _) rfl rfl dX11_goes_65 ?_
                refine z_goto C0 83 dX11_goes_68 (by decide) ?_
                refine z_sub (lo1 := []) [] rfl ?_
                obtain ⟨rfl, rfl⟩ := Prod.mk.inj (Option.some.inj h)
                exact k_J14
          · have h := zif_f (fun q => q c11) h
            refine z_aload_n C0 dX11_goes_43 rfl 0 rfl ?_
            refine z_getr C0 hT0 kf_11_40 zr_11_4 zx_11 (zs_11_4 hT0).1 dX11_goes_44 ?_
            refine z_bipush (v := (60 : Int32)) C0 dX11_goes_47 (by decide) ?_
            obtain ⟨r20, μ21, e_r20, h⟩ := zbd2_of h
            refine z_callV (As := [.int (60 : Int32)]) (rest := []) C0 rfl kc_X4_hoursTillAground km_RX11_170 (r_X4_hoursTillAground (l := l) (g := g) (a0 + 87) (60 : Int32) μ7 (zs_11_4 hT0).2 e_r20) (zs_11_4 hT0).2.1 (zs_11_4 hT0).2.2.2.1 rfl (by decide) rfl (Nat.le_of_ble_eq_true rfl) (Nat.le_of_ble_eq_true rfl) (Nat.le_of_ble_eq_true rfl) (Nat.le_of_ble_eq_true rfl) (Nat.le_refl _) rfl rfl dX11_goes_49 ?_
            have h := kr_J5 _ (Option.some.inj h).symm
            have h := Option.some.inj h
            obtain ⟨rfl, rfl⟩ := Prod.mk.inj h
            exact z_iret C0 rfl dX11_goes_52
        · have h := zif_f (fun q => q c8) h
          refine z_sub (lo1 := []) [] rfl ?_
          exact k_J5 μ7 (Option.some.inj h).symm
      · refine z_if_lt C0 35 dX11_goes_2 (by decide) (fun c1 => ?_) (fun c1 => ?_)
        · exact absurd hc24 (fun q => q.1 c1)
        · refine z_iload C0 dX11_goes_5 4 rfl ?_
          refine z_bipush (v := (13 : Int32)) C0 dX11_goes_7 (by decide) ?_
          refine z_icmp_gt C0 35 dX11_goes_9 (by decide) (fun c2 => ?_) (fun c2 => ?_)
          · exact absurd hc24 (fun q => (fun q => q.1 c2) q.2)
          · refine z_iload C0 dX11_goes_12 4 rfl ?_
            refine z_iconst (v := (1 : Int32)) C0 dX11_goes_14 (by decide) ?_
            refine z_icmp_le C0 25 dX11_goes_15 (by decide) (fun c3 => ?_) (fun c3 => ?_)
            · exact k25
            · refine z_iload C0 dX11_goes_18 4 rfl ?_
              refine z_bipush (v := (10 : Int32)) C0 dX11_goes_20 (by decide) ?_
              refine z_icmp_lt C0 35 dX11_goes_22 (by decide) (fun c4 => ?_) (fun c4 => ?_)
              · exact absurd hc24 (fun q => (fun q => (fun q => q.elim c3 (fun q => q c4)) q.2) q.2)
              · exact k25
    · have h := zif_f hc24 h
      refine z_join μ 35 [(0, .ref (zb g + a0)), (1, .int v1), (2, .int v2), (3, .int v3), (4, .int v4)] [] ?_ (fun k26 => ?_)
      · refine z_sub (lo1 := []) [] rfl ?_
        exact k_J5 μ (Option.some.inj h).symm
      · refine z_if_lt C0 35 dX11_goes_2 (by decide) (fun c1 => ?_) (fun c1 => ?_)
        · exact k26
        · refine z_iload C0 dX11_goes_5 4 rfl ?_
          refine z_bipush (v := (13 : Int32)) C0 dX11_goes_7 (by decide) ?_
          refine z_icmp_gt C0 35 dX11_goes_9 (by decide) (fun c2 => ?_) (fun c2 => ?_)
          · exact k26
          · refine z_iload C0 dX11_goes_12 4 rfl ?_
            refine z_iconst (v := (1 : Int32)) C0 dX11_goes_14 (by decide) ?_
            refine z_icmp_le C0 25 dX11_goes_15 (by decide) (fun c3 => ?_) (fun c3 => ?_)
            · exact absurd ⟨c1, ⟨c2, (Or.inl c3)⟩⟩ hc24
            · refine z_iload C0 dX11_goes_18 4 rfl ?_
              refine z_bipush (v := (10 : Int32)) C0 dX11_goes_20 (by decide) ?_
              refine z_icmp_lt C0 35 dX11_goes_22 (by decide) (fun c4 => ?_) (fun c4 => ?_)
              · exact k26
              · exact absurd ⟨c1, ⟨c2, (Or.inr c4)⟩⟩ hc24
def f_X11_image (a0 : Nat) (v1 : Int32) (μ : zM) : Option (Int32 × zM) :=
  if (¬ (v1 < 0)) ∧ (v1 < (3 : Int32)) then
    zg (zin v1 3) <|
    zbd (f_X8_takeFrom (a0 + 145 + 55 * v1.toNatClampNeg) (a0 + 1) μ) fun μ4 =>
    zl (zup μ4 (a0 + 57) (v1.toNatClampNeg) (znb (1 : Int32))) fun μ5 =>
    some ((1 : Int32), μ5)
  else
    some ((0 : Int32), μ)
set_option maxHeartbeats 4000000 in
set_option maxRecDepth 100000 in
theorem r_X11_image {l : Launch} {g : zL} (a0 : Nat) (v1 : Int32) (μ : zM) (hT0 : zT zNN zσ1 a0 11) {rv : Int32} {μr : zM} (h : f_X11_image a0 v1 μ = some (rv, μr)) : zMet l g yX11_image cX11_image 2 (some (.boolean)) 4 0 0 zNN zNN zσ1 zσ1 [.ref (zb g + a0), .int v1] μ (some (.int rv)) μr := by
  refine zMet.of (by decide +kernel) (Nat.le_of_ble_eq_true rfl) ?_
  intro p e s m args below meth c C0
  refine z_loc (lo1 := [(0, .ref (zb g + a0)), (1, .int v1)]) rfl ?_
  unfold f_X11_image at h
  refine z_iload_n C0 dX11_image_0 rfl 1 rfl ?_
  by_cases hc6 : (¬ (v1 < 0)) ∧ (v1 < (3 : Int32))
  · have h := zif_t hc6 h
    refine z_join μ 11 [(0, .ref (zb g + a0)), (1, .int v1)] [] ?_ (fun k7 => ?_)
    · refine z_aload_n C0 dX11_image_11 rfl 0 rfl ?_
      refine z_getr C0 hT0 kf_11_16 zr_11_1 zx_11 (zs_11_1 hT0).1 dX11_image_12 ?_
      refine z_iload_n C0 dX11_image_15 rfl 1 rfl ?_
      obtain ⟨g3, h⟩ := zg_of h
      refine z_aald C0 (zs_11_1 hT0).2 (by decide) (by decide) g3 (ze_11_1 hT0 g3).1 (ze_11_1 hT0 g3).2.1 dX11_image_16 ?_
      refine z_aload_n C0 dX11_image_17 rfl 0 rfl ?_
      refine z_getr C0 hT0 kf_11_10 zr_11_0 zx_11 (zs_11_0 hT0).1 dX11_image_18 ?_
      obtain ⟨μ4, e_μ4, h⟩ := zbd_of h
      refine z_callV (As := [.ref (zb g + (a0 + 1))]) (rest := []) C0 rfl kc_X8_takeFrom km_RX11_147 (r_X8_takeFrom (l := l) (g := g) (a0 + 145 + 55 * v1.toNatClampNeg) (a0 + 1) μ (ze_11_1 hT0 g3).2.2 (zs_11_0 hT0).2 e_μ4) (ze_11_1 hT0 g3).2.2.1 (ze_11_1 hT0 g3).2.2.2.2.1 rfl (by decide) rfl (Nat.le_of_ble_eq_true rfl) (Nat.le_of_ble_eq_true rfl) (Nat.le_of_ble_eq_true rfl) (Nat.le_of_ble_eq_true rfl) (Nat.le_refl _) rfl rfl dX11_image_21 ?_
      refine z_aload_n C0 dX11_image_24 rfl 0 rfl ?_
      refine z_getr C0 hT0 kf_11_20 zr_11_2 zx_11 (zs_11_2 hT0).1 dX11_image_25 ?_
      refine z_iload_n C0 dX11_image_28 rfl 1 rfl ?_
      refine z_iconst (v := (1 : Int32)) C0 dX11_image_29 (by decide) ?_
      obtain ⟨μ5, e_μ5, h⟩ := zl_of h
      refine z_bast C0 (zs_11_2 hT0).2 g3 rfl e_μ5 dX11_image_30 ?_
      refine z_iconst (v := (1 : Int32)) C0 dX11_image_31 (by decide) ?_
      have h := Option.some.inj h
      obtain ⟨rfl, rfl⟩ := Prod.mk.inj h
      exact z_zret C0 rfl (by decide) dX11_image_32
    · refine z_if_lt C0 9 dX11_image_1 (by decide) (fun c1 => ?_) (fun c1 => ?_)
      · exact absurd hc6 (fun q => q.1 c1)
      · refine z_iload_n C0 dX11_image_4 rfl 1 rfl ?_
        refine z_iconst (v := (3 : Int32)) C0 dX11_image_5 (by decide) ?_
        refine z_icmp_lt C0 11 dX11_image_6 (by decide) (fun c2 => ?_) (fun c2 => ?_)
        · exact k7
        · exact absurd hc6 (fun q => c2 q.2)
  · have h := zif_f hc6 h
    refine z_join μ 9 [(0, .ref (zb g + a0)), (1, .int v1)] [] ?_ (fun k8 => ?_)
    · refine z_iconst (v := (0 : Int32)) C0 dX11_image_9 (by decide) ?_
      have h := Option.some.inj h
      obtain ⟨rfl, rfl⟩ := Prod.mk.inj h
      exact z_zret C0 rfl (by decide) dX11_image_10
    · refine z_if_lt C0 9 dX11_image_1 (by decide) (fun c1 => ?_) (fun c1 => ?_)
      · exact k8
      · refine z_iload_n C0 dX11_image_4 rfl 1 rfl ?_
        refine z_iconst (v := (3 : Int32)) C0 dX11_image_5 (by decide) ?_
        refine z_icmp_lt C0 11 dX11_image_6 (by decide) (fun c2 => ?_) (fun c2 => ?_)
        · exact absurd ⟨c1, c2⟩ hc6
        · exact k8
def f_X11_lake (a0 : Nat) (v1 : Int32) (v2 : Int32) (μ : zM) : Option (Int32) :=
  zbd (f_X8_lakeAt (a0 + 1) v1 μ) fun r1 =>
  zbd (zcase r1 (some (-1 : Int32)) fun w3 => zg (zgn w3 1) <|
      zbd (f_X1_answer w3 v2 μ) fun r5 =>
      some r5) fun x6 =>
  some x6
set_option maxHeartbeats 4000000 in
set_option maxRecDepth 100000 in
theorem r_X11_lake {l : Launch} {g : zL} (a0 : Nat) (v1 : Int32) (v2 : Int32) (μ : zM) (hT0 : zT zNN zσ1 a0 11) {rv : Int32} (h : f_X11_lake a0 v1 v2 μ = some rv) : zMet l g yX11_lake cX11_lake 4 (some (.int)) 2 0 0 zNN zNN zσ1 zσ1 [.ref (zb g + a0), .int v1, .int v2] μ (some (.int rv)) μ := by
  refine zMet.of (by decide +kernel) (Nat.le_of_ble_eq_true rfl) ?_
  intro p e s m args below meth c C0
  refine z_loc (lo1 := [(0, .ref (zb g + a0)), (1, .int v1), (2, .int v2)]) rfl ?_
  unfold f_X11_lake at h
  refine z_aload_n C0 dX11_lake_0 rfl 0 rfl ?_
  refine z_getr C0 hT0 kf_11_10 zr_11_0 zx_11 (zs_11_0 hT0).1 dX11_lake_1 ?_
  refine z_iload_n C0 dX11_lake_4 rfl 1 rfl ?_
  obtain ⟨r1, e_r1, h⟩ := zbd_of h
  refine z_callV (As := [.int v1]) (rest := []) C0 rfl kc_X8_lakeAt km_RX11_114 (r_X8_lakeAt (l := l) (g := g) (a0 + 1) v1 μ (zs_11_0 hT0).2 e_r1) (zs_11_0 hT0).2.1 (zs_11_0 hT0).2.2.2.1 rfl (by decide) rfl (Nat.le_of_ble_eq_true rfl) (Nat.le_of_ble_eq_true rfl) (Nat.le_of_ble_eq_true rfl) (Nat.le_of_ble_eq_true rfl) (Nat.le_refl _) rfl rfl dX11_lake_5 ?_
  refine z_astoreq_n (lo1 := [(3, zopt (zb g) r1), (0, .ref (zb g + a0)), (1, .int v1), (2, .int v2)]) C0 dX11_lake_8 rfl (by decide) rfl ?_
  refine z_aloadq_n C0 dX11_lake_9 rfl 0 rfl ?_
  obtain ⟨x6, e_x6, h⟩ := zbd_of h
  refine z_join μ 22 [] [.int x6] ?_ (fun k_J2 => ?_)
  · have h := Option.some.inj h
    obtain rfl := h
    exact z_iret C0 rfl dX11_lake_22
  · have h := e_x6
    refine z_ifnonnullq C0 17 dX11_lake_10 (by decide) (fun w3 c7 => ?_) (fun c7 => ?_)
    · have h_c7 := zcase_s c7 h
      clear h
      subst c7
      have h := h_c7
      obtain ⟨g4, h⟩ := zg_of h
      refine z_loc (lo1 := [(3, .ref (zb g + w3)), (0, .ref (zb g + a0)), (1, .int v1), (2, .int v2)]) rfl ?_
      refine z_aload_n C0 dX11_lake_17 rfl 0 rfl ?_
      refine z_iload_n C0 dX11_lake_18 rfl 3 rfl ?_
      obtain ⟨r5, e_r5, h⟩ := zbd_of h
      refine z_callV (As := [.int v2]) (rest := []) C0 rfl kc_X1_answer km_RX11_118 (r_X1_answer (l := l) (g := g) w3 v2 μ (zgn_T g4 (by decide)) e_r5) (zgn_T g4 (by decide)).1 (zgn_T g4 (by decide)).2.2.1 rfl (by decide) rfl (Nat.le_of_ble_eq_true rfl) (Nat.le_of_ble_eq_true rfl) (Nat.le_of_ble_eq_true rfl) (Nat.le_of_ble_eq_true rfl) (Nat.le_refl _) rfl rfl dX11_lake_19 ?_
      refine z_sub (lo1 := []) [] rfl ?_
      obtain rfl := (Option.some.inj h)
      exact k_J2
    · have h_c7 := zcase_n c7 h
      clear h
      subst c7
      have h := h_c7
      refine z_loc (lo1 := [(3, .null), (0, .ref (zb g + a0)), (1, .int v1), (2, .int v2)]) rfl ?_
      refine z_iconst (v := (-1 : Int32)) C0 dX11_lake_13 (by decide) ?_
      refine z_goto C0 22 dX11_lake_14 (by decide) ?_
      refine z_sub (lo1 := []) [] rfl ?_
      obtain rfl := (Option.some.inj h)
      exact k_J2
def f_X11_lies (a0 : Nat) (v1 : Int32) (v2 : Int32) (μ : zM) : Option (Int32 × zM) :=
  zbd (f_X8_pageAt (a0 + 1) (3 : Int32) v1 μ) fun r1 =>
  zbd (zcase r1 (some (.inr ())) fun w3 => zg (zgn w3 6) <|
      if 0 ≤ v2 then
        if ¬ v2 = 0 then
          if ¬ v2 = (1 : Int32) then
            if (¬ (v2 < (10 : Int32))) ∧ (¬ ((f_X6_has w3 (v2 - (10 : Int32)) μ) = 0)) then
              zbd2 (f_X7_sureGrave (a0 + 111) w3 (v2 - (10 : Int32)) μ) fun r36 μ37 =>
              some (.inl (r36, μ37))
            else
              zbd2 (if (¬ (v2 < (20 : Int32))) ∧ (¬ ((f_X6_has w3 (v2 - (20 : Int32)) μ) = 0)) then
                  zbd2 (f_X7_graves (a0 + 111) w3 (v2 - (20 : Int32)) μ) fun r41 μ42 =>
                  some (r41, μ42)
                else
                  some ((-2 : Int32), μ)) fun x43 μ44 =>
              some (.inl (x43, μ44))
          else
            zbd2 (f_X7_dig (a0 + 111) w3 μ) fun r45 μ46 =>
            some (.inl (r45, μ46))
        else
          zbd2 (f_X7_ways (a0 + 111) w3 μ) fun r47 μ48 =>
          some (.inl (r47, μ48))
      else
        some (.inr ())) fun q49 => zsum q49 (fun t => some t) fun _ =>
  some ((-2 : Int32), μ)
set_option maxHeartbeats 4000000 in
set_option maxRecDepth 100000 in
theorem r_X11_lies {l : Launch} {g : zL} {κ : zK} (a0 : Nat) (v1 : Int32) (v2 : Int32) (μ : zM) (hT0 : zT zNN zσ1 a0 11) (hSp : zSK g κ) {rv : Int32} {μr : zM} (h : f_X11_lies a0 v1 v2 μ = some (rv, μr)) : zMet l g yX11_lies cX11_lies 4 (some (.int)) 5 0 0 zNN zNN zσ1 zσ1 [.ref (zb g + a0), .int v1, .int v2] μ (some (.int rv)) μr := by
  refine zMet.of (by decide +kernel) (Nat.le_of_ble_eq_true rfl) ?_
  intro p e s m args below meth c C0
  have hF := hSp.at C0
  refine z_loc (lo1 := [(0, .ref (zb g + a0)), (1, .int v1), (2, .int v2)]) rfl ?_
  unfold f_X11_lies at h
  refine z_aload_n C0 dX11_lies_0 rfl 0 rfl ?_
  refine z_getr C0 hT0 kf_11_10 zr_11_0 zx_11 (zs_11_0 hT0).1 dX11_lies_1 ?_
  refine z_iconst (v := (3 : Int32)) C0 dX11_lies_4 (by decide) ?_
  refine z_iload_n C0 dX11_lies_5 rfl 1 rfl ?_
  obtain ⟨r1, e_r1, h⟩ := zbd_of h
  refine z_callV (As := [.int (3 : Int32), .int v1]) (rest := []) C0 rfl kc_X8_pageAt km_RX11_124 (r_X8_pageAt (l := l) (g := g) (a0 + 1) (3 : Int32) v1 μ (zs_11_0 hT0).2 e_r1) (zs_11_0 hT0).2.1 (zs_11_0 hT0).2.2.2.1 rfl (by decide) rfl (Nat.le_of_ble_eq_true rfl) (Nat.le_of_ble_eq_true rfl) (Nat.le_of_ble_eq_true rfl) (Nat.le_of_ble_eq_true rfl) (Nat.le_refl _) rfl rfl dX11_lies_6 ?_
  refine z_astoreq_n (lo1 := [(3, zopt (zb g) r1), (0, .ref (zb g + a0)), (1, .int v1), (2, .int v2)]) C0 dX11_lies_9 rfl (by decide) rfl ?_
  refine z_aloadq_n C0 dX11_lies_10 rfl 0 rfl ?_
  obtain ⟨q49, e_q49, h⟩ := zbd_of h
  have kr_J2 := zsum_l h
  have kx_J2 := zsum_r h
  clear h
  refine z_joinq (fun o => q49 = Sum.inr o) (fun _ => μ) 18 (fun o => []) (fun o => []) ?_ (fun k_J2 => ?_)
  · intro u_ hq
    have h := kx_J2 _ hq
    refine z_bipush (v := (-2 : Int32)) C0 dX11_lies_18 (by decide) ?_
    have h := Option.some.inj h
    obtain ⟨rfl, rfl⟩ := Prod.mk.inj h
    exact z_iret C0 rfl dX11_lies_20
  · have h := e_q49
    refine z_ifnullq C0 18 dX11_lies_11 (by decide) (fun c50 => ?_) (fun w3 c50 => ?_)
    · have h_c50 := zcase_n c50 h
      clear h
      subst c50
      have h := h_c50
      refine z_loc (lo1 := [(3, .null), (0, .ref (zb g + a0)), (1, .int v1), (2, .int v2)]) rfl ?_
      refine z_sub (lo1 := []) [] rfl ?_
      exact k_J2 () (Option.some.inj h).symm
    · have h_c50 := zcase_s c50 h
      clear h
      subst c50
      have h := h_c50
      obtain ⟨g4, h⟩ := zg_of h
      refine z_loc (lo1 := [(3, .ref (zb g + w3)), (0, .ref (zb g + a0)), (1, .int v1), (2, .int v2)]) rfl ?_
      refine z_iload_n C0 dX11_lies_14 rfl 3 rfl ?_
      refine z_if_ge C0 21 dX11_lies_15 (by decide) (fun c5 => ?_) (fun c5 => ?_)
      · have h := zif_t c5 h
        refine z_iload_n C0 dX11_lies_21 rfl 3 rfl ?_
        refine z_if_ne C0 34 dX11_lies_22 (by decide) (fun c14 => ?_) (fun c14 => ?_)
        · have h := zif_t c14 h
          refine z_iload_n C0 dX11_lies_34 rfl 3 rfl ?_
          refine z_iconst (v := (1 : Int32)) C0 dX11_lies_35 (by decide) ?_
          refine z_icmp_ne C0 48 dX11_lies_36 (by decide) (fun c22 => ?_) (fun c22 => ?_)
          · have h := zif_t c22 h
            refine z_iload_n C0 dX11_lies_48 rfl 3 rfl ?_
            refine z_bipush (v := (10 : Int32)) C0 dX11_lies_49 (by decide) ?_
            by_cases hc51 : (¬ (v2 < (10 : Int32))) ∧ (¬ ((f_X6_has w3 (v2 - (10 : Int32)) μ) = 0))
            · have h := zif_t hc51 h
              refine z_join μ 65 [(3, .ref (zb g + w3)), (0, .ref (zb g + a0)), (1, .int v1), (2, .int v2)] [] ?_ (fun k52 => ?_)
              · refine z_aload_n C0 dX11_lies_65 rfl 1 rfl ?_
                refine z_getr C0 hT0 kf_11_71 zr_11_9 zx_11 (zs_11_9 hT0).1 dX11_lies_66 ?_
                refine z_aload_n C0 dX11_lies_69 rfl 0 rfl ?_
                refine z_iload_n C0 dX11_lies_70 rfl 3 rfl ?_
                refine z_bipush (v := (10 : Int32)) C0 dX11_lies_71 (by decide) ?_
                refine z_isub C0 dX11_lies_73 ?_
                obtain ⟨r36, μ37, e_r36, h⟩ := zbd2_of h
                refine z_callV (As := [.ref (zb g + w3), .int (v2 - (10 : Int32))]) (rest := []) C0 rfl kc_X7_sureGrave km_RX11_261 (r_X7_sureGrave (l := l) (g := g) (a0 + 111) w3 (v2 - (10 : Int32)) μ (zs_11_9 hT0).2 (zgn_T g4 (by decide)) hSp e_r36) (zs_11_9 hT0).2.1 (zs_11_9 hT0).2.2.2.1 rfl (by decide) rfl (Nat.le_of_ble_eq_true rfl) (Nat.le_of_ble_eq_true rfl) (Nat.le_of_ble_eq_true rfl) (Nat.le_of_ble_eq_true rfl) (Nat.le_refl _) rfl rfl dX11_lies_74 ?_
                have h := kr_J2 _ (Option.some.inj h).symm
                have h := Option.some.inj h
                obtain ⟨rfl, rfl⟩ := Prod.mk.inj h
                exact z_iret C0 rfl dX11_lies_77
              · refine z_icmp_lt C0 78 dX11_lies_51 (by decide) (fun c29 => ?_) (fun c29 => ?_)
                · exact absurd hc51 (fun q => q.1 c29)
                · refine z_aload_n C0 dX11_lies_54 rfl 0 rfl ?_
                  refine z_iload_n C0 dX11_lies_55 rfl 3 rfl ?_
                  refine z_bipush (v := (10 : Int32)) C0 dX11_lies_56 (by decide) ?_
                  refine z_isub C0 dX11_lies_58 ?_
                  refine z_callV (As := [.int (v2 - (10 : Int32))]) (rest := []) C0 rfl kc_X6_has km_RX11_137 (r_X6_has (l := l) (g := g) w3 (v2 - (10 : Int32)) μ (zgn_T g4 (by decide)) rfl) (zgn_T g4 (by decide)).1 (zgn_T g4 (by decide)).2.2.1 rfl (by decide) rfl (Nat.le_of_ble_eq_true rfl) (Nat.le_of_ble_eq_true rfl) (Nat.le_of_ble_eq_true rfl) (Nat.le_of_ble_eq_true rfl) (Nat.le_refl _) rfl rfl dX11_lies_59 ?_
                  refine z_if_eq C0 78 dX11_lies_62 (by decide) (fun c35 => ?_) (fun c35 => ?_)
                  · exact absurd hc51 (fun q => (fun q => q c35) q.2)
                  · exact k52
            · have h := zif_f hc51 h
              refine z_join μ 78 [(3, .ref (zb g + w3)), (0, .ref (zb g + a0)), (1, .int v1), (2, .int v2)] [] ?_ (fun k53 => ?_)
              · refine z_iload_n C0 dX11_lies_78 rfl 3 rfl ?_
                refine z_bipush (v := (20 : Int32)) C0 dX11_lies_79 (by decide) ?_
                obtain ⟨x43, μ44, e_x43, h⟩ := zbd2_of h
                refine z_join μ44 112 [] [.int x43] ?_ (fun k_J40 => ?_)
                · have h := kr_J2 _ (Option.some.inj h).symm
                  have h := Option.some.inj h
                  obtain ⟨rfl, rfl⟩ := Prod.mk.inj h
                  exact z_iret C0 rfl dX11_lies_112
                · have h := e_x43
                  by_cases hc54 : (¬ (v2 < (20 : Int32))) ∧ (¬ ((f_X6_has w3 (v2 - (20 : Int32)) μ) = 0))
                  · have h := zif_t hc54 h
                    refine z_join μ 95 [(3, .ref (zb g + w3)), (0, .ref (zb g + a0)), (1, .int v1), (2, .int v2)] [] ?_ (fun k55 => ?_)
                    · refine z_aload_n C0 dX11_lies_95 rfl 1 rfl ?_
                      refine z_getr C0 hT0 kf_11_71 zr_11_9 zx_11 (zs_11_9 hT0).1 dX11_lies_96 ?_
                      refine z_aload_n C0 dX11_lies_99 rfl 0 rfl ?_
                      refine z_iload_n C0 dX11_lies_100 rfl 3 rfl ?_
                      refine z_bipush (v := (20 : Int32)) C0 dX11_lies_101 (by decide) ?_
                      refine z_isub C0 dX11_lies_103 ?_
                      obtain ⟨r41, μ42, e_r41, h⟩ := zbd2_of h
                      refine z_callV (As := [.ref (zb g + w3), .int (v2 - (20 : Int32))]) (rest := []) C0 rfl kc_X7_graves km_RX11_265 (r_X7_graves (l := l) (g := g) (a0 + 111) w3 (v2 - (20 : Int32)) μ (zs_11_9 hT0).2 (zgn_T g4 (by decide)) hSp e_r41) (zs_11_9 hT0).2.1 (zs_11_9 hT0).2.2.2.1 rfl (by decide) rfl (Nat.le_of_ble_eq_true rfl) (Nat.le_of_ble_eq_true rfl) (Nat.le_of_ble_eq_true rfl) (Nat.le_of_ble_eq_true rfl) (Nat.le_refl _) rfl rfl dX11_lies_104 ?_
                      refine z_goto C0 112 dX11_lies_107 (by decide) ?_
                      refine z_sub (lo1 := []) [] rfl ?_
                      obtain ⟨rfl, rfl⟩ := Prod.mk.inj (Option.some.inj h)
                      exact k_J40
                    · refine z_icmp_lt C0 110 dX11_lies_81 (by decide) (fun c38 => ?_) (fun c38 => ?_)
                      · exact absurd hc54 (fun q => q.1 c38)
                      · refine z_aload_n C0 dX11_lies_84 rfl 0 rfl ?_
                        refine z_iload_n C0 dX11_lies_85 rfl 3 rfl ?_
                        refine z_bipush (v := (20 : Int32)) C0 dX11_lies_86 (by decide) ?_
                        refine z_isub C0 dX11_lies_88 ?_
                        refine z_callV (As := [.int (v2 - (20 : Int32))]) (rest := []) C0 rfl kc_X6_has km_RX11_137 (r_X6_has (l := l) (g := g) w3 (v2 - (20 : Int32)) μ (zgn_T g4 (by decide)) rfl) (zgn_T g4 (by decide)).1 (zgn_T g4 (by decide)).2.2.1 rfl (by decide) rfl (Nat.le_of_ble_eq_true rfl) (Nat.le_of_ble_eq_true rfl) (Nat.le_of_ble_eq_true rfl) (Nat.le_of_ble_eq_true rfl) (Nat.le_refl _) rfl rfl dX11_lies_89 ?_
                        refine z_if_eq C0 110 dX11_lies_92 (by decide) (fun c39 => ?_) (fun c39 => ?_)
                        · exact absurd hc54 (fun q => (fun q => q c39) q.2)
                        · exact k55
                  · have h := zif_f hc54 h
                    refine z_join μ 110 [(3, .ref (zb g + w3)), (0, .ref (zb g + a0)), (1, .int v1), (2, .int v2)] [] ?_ (fun k56 => ?_)
                    · refine z_bipush (v := (-2 : Int32)) C0 dX11_lies_110 (by decide) ?_
                      refine z_sub (lo1 := []) [] rfl ?_
                      obtain ⟨rfl, rfl⟩ := Prod.mk.inj (Option.some.inj h)
                      exact k_J40
                    · refine z_icmp_lt C0 110 dX11_lies_81 (by decide) (fun c38 => ?_) (fun c38 => ?_)
                      · exact k56
                      · refine z_aload_n C0 dX11_lies_84 rfl 0 rfl ?_
                        refine z_iload_n C0 dX11_lies_85 rfl 3 rfl ?_
                        refine z_bipush (v := (20 : Int32)) C0 dX11_lies_86 (by decide) ?_
                        refine z_isub C0 dX11_lies_88 ?_
                        refine z_callV (As := [.int (v2 - (20 : Int32))]) (rest := []) C0 rfl kc_X6_has km_RX11_137 (r_X6_has (l := l) (g := g) w3 (v2 - (20 : Int32)) μ (zgn_T g4 (by decide)) rfl) (zgn_T g4 (by decide)).1 (zgn_T g4 (by decide)).2.2.1 rfl (by decide) rfl (Nat.le_of_ble_eq_true rfl) (Nat.le_of_ble_eq_true rfl) (Nat.le_of_ble_eq_true rfl) (Nat.le_of_ble_eq_true rfl) (Nat.le_refl _) rfl rfl dX11_lies_89 ?_
                        refine z_if_eq C0 110 dX11_lies_92 (by decide) (fun c39 => ?_) (fun c39 => ?_)
                        · exact k56
                        · exact absurd ⟨c38, c39⟩ hc54
              · refine z_icmp_lt C0 78 dX11_lies_51 (by decide) (fun c29 => ?_) (fun c29 => ?_)
                · exact k53
                · refine z_aload_n C0 dX11_lies_54 rfl 0 rfl ?_
                  refine z_iload_n C0 dX11_lies_55 rfl 3 rfl ?_
                  refine z_bipush (v := (10 : Int32)) C0 dX11_lies_56 (by decide) ?_
                  refine z_isub C0 dX11_lies_58 ?_
                  refine z_callV (As := [.int (v2 - (10 : Int32))]) (rest := []) C0 rfl kc_X6_has km_RX11_137 (r_X6_has (l := l) (g := g) w3 (v2 - (10 : Int32)) μ (zgn_T g4 (by decide)) rfl) (zgn_T g4 (by decide)).1 (zgn_T g4 (by decide)).2.2.1 rfl (by decide) rfl (Nat.le_of_ble_eq_true rfl) (Nat.le_of_ble_eq_true rfl) (Nat.le_of_ble_eq_true rfl) (Nat.le_of_ble_eq_true rfl) (Nat.le_refl _) rfl rfl dX11_lies_59 ?_
                  refine z_if_eq C0 78 dX11_lies_62 (by decide) (fun c35 => ?_) (fun c35 => ?_)
                  · exact k53
                  · exact absurd ⟨c29, c35⟩ hc51
          · have h := zif_f (fun q => q c22) h
            refine z_aload_n C0 dX11_lies_39 rfl 1 rfl ?_
            refine z_getr C0 hT0 kf_11_71 zr_11_9 zx_11 (zs_11_9 hT0).1 dX11_lies_40 ?_
            refine z_aload_n C0 dX11_lies_43 rfl 0 rfl ?_
            obtain ⟨r45, μ46, e_r45, h⟩ := zbd2_of h
            refine z_callV (As := [.ref (zb g + w3)]) (rest := []) C0 rfl kc_X7_dig km_RX11_258 (r_X7_dig (l := l) (g := g) (a0 + 111) w3 μ (zs_11_9 hT0).2 (zgn_T g4 (by decide)) hSp e_r45) (zs_11_9 hT0).2.1 (zs_11_9 hT0).2.2.2.1 rfl (by decide) rfl (Nat.le_of_ble_eq_true rfl) (Nat.le_of_ble_eq_true rfl) (Nat.le_of_ble_eq_true rfl) (Nat.le_of_ble_eq_true rfl) (Nat.le_refl _) rfl rfl dX11_lies_44 ?_
            have h := kr_J2 _ (Option.some.inj h).symm
            have h := Option.some.inj h
            obtain ⟨rfl, rfl⟩ := Prod.mk.inj h
            exact z_iret C0 rfl dX11_lies_47
        · have h := zif_f (fun q => q c14) h
          refine z_aload_n C0 dX11_lies_25 rfl 1 rfl ?_
          refine z_getr C0 hT0 kf_11_71 zr_11_9 zx_11 (zs_11_9 hT0).1 dX11_lies_26 ?_
          refine z_aload_n C0 dX11_lies_29 rfl 0 rfl ?_
          obtain ⟨r47, μ48, e_r47, h⟩ := zbd2_of h
          refine z_callV (As := [.ref (zb g + w3)]) (rest := []) C0 rfl kc_X7_ways km_RX11_255 (r_X7_ways (l := l) (g := g) (a0 + 111) w3 μ (zs_11_9 hT0).2 (zgn_T g4 (by decide)) hSp e_r47) (zs_11_9 hT0).2.1 (zs_11_9 hT0).2.2.2.1 rfl (by decide) rfl (Nat.le_of_ble_eq_true rfl) (Nat.le_of_ble_eq_true rfl) (Nat.le_of_ble_eq_true rfl) (Nat.le_of_ble_eq_true rfl) (Nat.le_refl _) rfl rfl dX11_lies_30 ?_
          have h := kr_J2 _ (Option.some.inj h).symm
          have h := Option.some.inj h
          obtain ⟨rfl, rfl⟩ := Prod.mk.inj h
          exact z_iret C0 rfl dX11_lies_33
      · have h := zif_f c5 h
        refine z_sub (lo1 := []) [] rfl ?_
        exact k_J2 () (Option.some.inj h).symm
def f_X11_list (a0 : Nat) (v1 : Int32) (v2 : Int32) (v3 : Int32) (v4 : Int32) (μ : zM) : Option (Int32 × zM) :=
  zbd (if (¬ (v4 < 0)) ∧ (¬ ((1 : Int32) < v4)) then
      zbd2 (f_X11_sailTo a0 v1 v2 v3 μ) fun r4 μ5 =>
      if ¬ r4 = 0 then
        zbd (f_X4_listAlong (a0 + 87) v4 μ5) fun r7 =>
        some (.inl (r7, μ5))
      else
        some (.inr μ5)
    else
      some (.inr μ)) fun q9 => zsum q9 (fun t => some t) fun μ8 =>
  some ((-1000000 : Int32), μ8)
set_option maxHeartbeats 4000000 in
set_option maxRecDepth 100000 in
theorem r_X11_list {l : Launch} {g : zL} (a0 : Nat) (v1 : Int32) (v2 : Int32) (v3 : Int32) (v4 : Int32) (μ : zM) (hT0 : zT zNN zσ1 a0 11) {rv : Int32} {μr : zM} (h : f_X11_list a0 v1 v2 v3 v4 μ = some (rv, μr)) : zMet l g yX11_list cX11_list 5 (some (.int)) 6 0 0 zNN zNN zσ1 zσ1 [.ref (zb g + a0), .int v1, .int v2, .int v3, .int v4] μ (some (.int rv)) μr := by
  refine zMet.of (by decide +kernel) (Nat.le_of_ble_eq_true rfl) ?_
  intro p e s m args below meth c C0
  refine z_loc (lo1 := [(0, .ref (zb g + a0)), (1, .int v1), (2, .int v2), (3, .int v3), (4, .int v4)]) rfl ?_
  unfold f_X11_list at h
  refine z_iload C0 dX11_list_0 4 rfl ?_
  obtain ⟨q9, e_q9, h⟩ := zbd_of h
  have kr_J3 := zsum_l h
  have kx_J3 := zsum_r h
  clear h
  refine z_joinq (fun o => q9 = Sum.inr o) (fun o => o) 21 (fun o => []) (fun o => []) ?_ (fun k_J3 => ?_)
  · intro μ8 hq
    have h := kx_J3 _ hq
    refine z_ldc C0 dX11_list_21 kk_RX11_163 ?_
    have h := Option.some.inj h
    obtain ⟨rfl, rfl⟩ := Prod.mk.inj h
    exact z_iret C0 rfl dX11_list_23
  · have h := e_q9
    by_cases hc10 : (¬ (v4 < 0)) ∧ (¬ ((1 : Int32) < v4))
    · have h := zif_t hc10 h
      refine z_join μ 11 [(0, .ref (zb g + a0)), (1, .int v1), (2, .int v2), (3, .int v3), (4, .int v4)] [] ?_ (fun k11 => ?_)
      · refine z_aload_n C0 dX11_list_11 rfl 0 rfl ?_
        refine z_iload_n C0 dX11_list_12 rfl 1 rfl ?_
        refine z_iload_n C0 dX11_list_13 rfl 2 rfl ?_
        refine z_iload_n C0 dX11_list_14 rfl 3 rfl ?_
        obtain ⟨r4, μ5, e_r4, h⟩ := zbd2_of h
        refine z_callV (As := [.int v1, .int v2, .int v3]) (rest := []) C0 rfl kc_X11_sailTo km_RX11_159 (r_X11_sailTo (l := l) (g := g) a0 v1 v2 v3 μ hT0 e_r4) hT0.1 hT0.2.2.1 rfl (by decide) rfl (Nat.le_of_ble_eq_true rfl) (Nat.le_of_ble_eq_true rfl) (Nat.le_of_ble_eq_true rfl) (Nat.le_of_ble_eq_true rfl) (Nat.le_refl _) rfl rfl dX11_list_15 ?_
        refine z_if_ne C0 24 dX11_list_18 (by decide) (fun c6 => ?_) (fun c6 => ?_)
        · have h := zif_t c6 h
          refine z_aload_n C0 dX11_list_24 rfl 0 rfl ?_
          refine z_getr C0 hT0 kf_11_40 zr_11_4 zx_11 (zs_11_4 hT0).1 dX11_list_25 ?_
          refine z_iload C0 dX11_list_28 4 rfl ?_
          obtain ⟨r7, e_r7, h⟩ := zbd_of h
          refine z_callV (As := [.int v4]) (rest := []) C0 rfl kc_X4_listAlong km_RX11_164 (r_X4_listAlong (l := l) (g := g) (a0 + 87) v4 μ5 (zs_11_4 hT0).2 e_r7) (zs_11_4 hT0).2.1 (zs_11_4 hT0).2.2.2.1 rfl (by decide) rfl (Nat.le_of_ble_eq_true rfl) (Nat.le_of_ble_eq_true rfl) (Nat.le_of_ble_eq_true rfl) (Nat.le_of_ble_eq_true rfl) (Nat.le_refl _) rfl rfl dX11_list_30 ?_
          have h := kr_J3 _ (Option.some.inj h).symm
          have h := Option.some.inj h
          obtain ⟨rfl, rfl⟩ := Prod.mk.inj h
          exact z_iret C0 rfl dX11_list_33
        · have h := zif_f (fun q => q c6) h
          refine z_sub (lo1 := []) [] rfl ?_
          exact k_J3 μ5 (Option.some.inj h).symm
      · refine z_if_lt C0 21 dX11_list_2 (by decide) (fun c1 => ?_) (fun c1 => ?_)
        · exact absurd hc10 (fun q => q.1 c1)
        · refine z_iload C0 dX11_list_5 4 rfl ?_
          refine z_iconst (v := (1 : Int32)) C0 dX11_list_7 (by decide) ?_
          refine z_icmp_gt C0 21 dX11_list_8 (by decide) (fun c2 => ?_) (fun c2 => ?_)
          · exact absurd hc10 (fun q => (fun q => q c2) q.2)
          · exact k11
    · have h := zif_f hc10 h
      refine z_join μ 21 [(0, .ref (zb g + a0)), (1, .int v1), (2, .int v2), (3, .int v3), (4, .int v4)] [] ?_ (fun k12 => ?_)
      · refine z_sub (lo1 := []) [] rfl ?_
        exact k_J3 μ (Option.some.inj h).symm
      · refine z_if_lt C0 21 dX11_list_2 (by decide) (fun c1 => ?_) (fun c1 => ?_)
        · exact k12
        · refine z_iload C0 dX11_list_5 4 rfl ?_
          refine z_iconst (v := (1 : Int32)) C0 dX11_list_7 (by decide) ?_
          refine z_icmp_gt C0 21 dX11_list_8 (by decide) (fun c2 => ?_) (fun c2 => ?_)
          · exact k12
          · exact absurd ⟨c1, c2⟩ hc10
def f_X11_meet_L83 (a0 : Nat) (v3 : Int32) : Nat → Int32 → zM → Option ((Int32 × zM) ⊕ (zM))
  | 0, _, _ => none
  | n + 1, y12, μ13 =>
    if (40 : Int32) < y12 then
      some (.inr μ13)
    else
      zbd (f_X4_isBy (a0 + 87) (a0 + 90) v3 μ13) fun r19 =>
      if r19 = 0 then
        zbd (f_X4_floatOn (a0 + 87) μ13) fun μ21 =>
        zbd (f_X4_floatOn (a0 + 90) μ21) fun μ22 =>
        zl (y12 + (1 : Int32)) fun x23 =>
        f_X11_meet_L83 a0 v3 n x23 μ22
      else
        some (.inl (y12, μ13))
def f_X11_meet (a0 : Nat) (v1 : Int32) (v2 : Int32) (v3 : Int32) (μ : zM) : Option (Int32 × zM) :=
  zbd (f_X8_lakeAt (a0 + 1) v1 μ) fun r1 =>
  zbd (f_X8_lakeAt (a0 + 1) v2 μ) fun r2 =>
  zbd (zcase r1 (some (.inr ())) fun w4 => zg (zgn w4 1) <|
      zcase r2 (some (.inr ())) fun w6 => zg (zgn w6 1) <|
        zbd (f_X4_launch (a0 + 87) w4 w4 μ) fun μ8 =>
        zbd (f_X4_launch (a0 + 90) w6 w4 μ8) fun μ9 =>
        if ¬ (f_X1_surrounds w4 w6 (μ9 (a0 + 90) 2) (μ9 (a0 + 90) 3) μ9) = 0 then
          zbd (f_X11_meet_L83 a0 v3 zFU (0 : Int32) μ9) fun q25 => zsum q25 (fun t => some (.inl t)) fun μ24 =>
          some (.inl ((-1 : Int32), μ24))
        else
          some (.inl ((-1 : Int32), μ9))) fun q26 => zsum q26 (fun t => some t) fun _ =>
  some ((-1 : Int32), μ)
set_option maxHeartbeats 4000000 in
set_option maxRecDepth 100000 in
theorem r_X11_meet_L83 {l : Launch} {g : zL} {p : Program} {e : Env} {s : State} {m : MethodId} {args : Array Value} {below : List Frame} {meth : Method} {c : Code} {rv : Int32} {μr : zM} (C0 : zC p s m args meth c g cX11_meet yX11_meet 7 (some (.int))) (a0 : Nat) (v3 : Int32) (hU11 : zT zNN zσ1 a0 11) : ∀ (n : Nat) (y12 : Int32) (μ13 : zM) (q : (Int32 × zM) ⊕ (zM)), f_X11_meet_L83 a0 v3 n y12 μ13 = some q → (∀ t, q = Sum.inl t → t = (rv, μr)) → (∀ o, q = Sum.inr o → Z p l e (zrm 4 0 0) s m args below meth c g (MQ below (zQ g zNN zσ1 (some (.int rv)) μr) args s 0 0 (zA g)) 7 zNN 0 0 zσ1 ((fun o => o) o) 128 ((fun o => []) o) []) → Z p l e (zrm 4 0 0) s m args below meth c g (MQ below (zQ g zNN zσ1 (some (.int rv)) μr) args s 0 0 (zA g)) 7 zNN 0 0 zσ1 μ13 83 [(0, .ref (zb g + a0)), (3, .int v3), (6, .int y12)] [] := by
  intro n
  induction n with
  | zero =>
    intro y12 μ13 q h kr kx
    rw [f_X11_meet_L83] at h
    cases h
  | succ n ih =>
    intro y12 μ13 q h kr kx
    rw [f_X11_meet_L83] at h
    refine z_iload C0 dX11_meet_83 2 rfl ?_
    refine z_bipush (v := (40 : Int32)) C0 dX11_meet_85 (by decide) ?_
    refine z_icmp_gt C0 128 dX11_meet_87 (by decide) (fun c14 => ?_) (fun c14 => ?_)
    · have h := zif_t c14 h
      refine z_sub (lo1 := []) [] rfl ?_
      exact kx μ13 (Option.some.inj h).symm
    · have h := zif_f c14 h
      refine z_aload_n C0 dX11_meet_90 rfl 0 rfl ?_
      refine z_getr C0 hU11 kf_11_40 zr_11_4 zx_11 (zs_11_4 hU11).1 dX11_meet_91 ?_
      refine z_aload_n C0 dX11_meet_94 rfl 0 rfl ?_
      refine z_getr C0 hU11 kf_11_44 zr_11_5 zx_11 (zs_11_5 hU11).1 dX11_meet_95 ?_
      refine z_iload_n C0 dX11_meet_98 rfl 1 rfl ?_
      obtain ⟨r19, e_r19, h⟩ := zbd_of h
      refine z_callV (As := [.ref (zb g + (a0 + 90)), .int v3]) (rest := []) C0 rfl kc_X4_isBy km_RX11_291 (r_X4_isBy (l := l) (g := g) (a0 + 87) (a0 + 90) v3 μ13 (zs_11_4 hU11).2 (zs_11_5 hU11).2 e_r19) (zs_11_4 hU11).2.1 (zs_11_4 hU11).2.2.2.1 rfl (by decide) rfl (Nat.le_of_ble_eq_true rfl) (Nat.le_of_ble_eq_true rfl) (Nat.le_of_ble_eq_true rfl) (Nat.le_of_ble_eq_true rfl) (Nat.le_refl _) rfl rfl dX11_meet_99 ?_
      refine z_if_eq C0 108 dX11_meet_102 (by decide) (fun c20 => ?_) (fun c20 => ?_)
      · have h := zif_t c20 h
        refine z_aload_n C0 dX11_meet_108 rfl 0 rfl ?_
        refine z_getr C0 hU11 kf_11_40 zr_11_4 zx_11 (zs_11_4 hU11).1 dX11_meet_109 ?_
        obtain ⟨μ21, e_μ21, h⟩ := zbd_of h
        refine z_callV (As := []) (rest := []) C0 rfl kc_X4_floatOn km_RX11_295 (r_X4_floatOn (l := l) (g := g) (a0 + 87) μ13 (zs_11_4 hU11).2 e_μ21) (zs_11_4 hU11).2.1 (zs_11_4 hU11).2.2.2.1 rfl (by decide) rfl (Nat.le_of_ble_eq_true rfl) (Nat.le_of_ble_eq_true rfl) (Nat.le_of_ble_eq_true rfl) (Nat.le_of_ble_eq_true rfl) (Nat.le_refl _) rfl rfl dX11_meet_112 ?_
        refine z_aload_n C0 dX11_meet_115 rfl 0 rfl ?_
        refine z_getr C0 hU11 kf_11_44 zr_11_5 zx_11 (zs_11_5 hU11).1 dX11_meet_116 ?_
        obtain ⟨μ22, e_μ22, h⟩ := zbd_of h
        refine z_callV (As := []) (rest := []) C0 rfl kc_X4_floatOn km_RX11_295 (r_X4_floatOn (l := l) (g := g) (a0 + 90) μ21 (zs_11_5 hU11).2 e_μ22) (zs_11_5 hU11).2.1 (zs_11_5 hU11).2.2.2.1 rfl (by decide) rfl (Nat.le_of_ble_eq_true rfl) (Nat.le_of_ble_eq_true rfl) (Nat.le_of_ble_eq_true rfl) (Nat.le_of_ble_eq_true rfl) (Nat.le_refl _) rfl rfl dX11_meet_119 ?_
        obtain ⟨x23, e_x23, h⟩ := zl_of h
        refine z_iinc (lo1 := [(6, .int x23), (0, .ref (zb g + a0)), (3, .int v3)]) C0 dX11_meet_122 2 rfl (by decide) e_x23.symm (by decide) rfl ?_
        refine z_goto C0 83 dX11_meet_125 (by decide) ?_
        refine z_sub (lo1 := [(0, .ref (zb g + a0)), (3, .int v3), (6, .int x23)]) [1, 2, 0] rfl ?_
        exact ih _ _ _ h kr kx
      · have h := zif_f c20 h
        refine z_iload C0 dX11_meet_105 2 rfl ?_
        have h := kr _ (Option.some.inj h).symm
        obtain ⟨rfl, rfl⟩ := Prod.mk.inj h
        exact z_iret C0 rfl dX11_meet_107
set_option maxHeartbeats 4000000 in
set_option maxRecDepth 100000 in
theorem r_X11_meet {l : Launch} {g : zL} (a0 : Nat) (v1 : Int32) (v2 : Int32) (v3 : Int32) (μ : zM) (hT0 : zT zNN zσ1 a0 11) {rv : Int32} {μr : zM} (h : f_X11_meet a0 v1 v2 v3 μ = some (rv, μr)) : zMet l g yX11_meet cX11_meet 7 (some (.int)) 4 0 0 zNN zNN zσ1 zσ1 [.ref (zb g + a0), .int v1, .int v2, .int v3] μ (some (.int rv)) μr := by
  refine zMet.of (by decide +kernel) (Nat.le_of_ble_eq_true rfl) ?_
  intro p e s m args below meth c C0
  refine z_loc (lo1 := [(0, .ref (zb g + a0)), (1, .int v1), (2, .int v2), (3, .int v3)]) rfl ?_
  unfold f_X11_meet at h
  refine z_aload_n C0 dX11_meet_0 rfl 0 rfl ?_
  refine z_getr C0 hT0 kf_11_10 zr_11_0 zx_11 (zs_11_0 hT0).1 dX11_meet_1 ?_
  refine z_iload_n C0 dX11_meet_4 rfl 1 rfl ?_
  obtain ⟨r1, e_r1, h⟩ := zbd_of h
  refine z_callV (As := [.int v1]) (rest := []) C0 rfl kc_X8_lakeAt km_RX11_114 (r_X8_lakeAt (l := l) (g := g) (a0 + 1) v1 μ (zs_11_0 hT0).2 e_r1) (zs_11_0 hT0).2.1 (zs_11_0 hT0).2.2.2.1 rfl (by decide) rfl (Nat.le_of_ble_eq_true rfl) (Nat.le_of_ble_eq_true rfl) (Nat.le_of_ble_eq_true rfl) (Nat.le_of_ble_eq_true rfl) (Nat.le_refl _) rfl rfl dX11_meet_5 ?_
  refine z_astoreq (lo1 := [(4, zopt (zb g) r1), (0, .ref (zb g + a0)), (1, .int v1), (2, .int v2), (3, .int v3)]) C0 dX11_meet_8 (by decide) rfl ?_
  refine z_aload_n C0 dX11_meet_10 rfl 1 rfl ?_
  refine z_getr C0 hT0 kf_11_10 zr_11_0 zx_11 (zs_11_0 hT0).1 dX11_meet_11 ?_
  refine z_iload_n C0 dX11_meet_14 rfl 3 rfl ?_
  obtain ⟨r2, e_r2, h⟩ := zbd_of h
  refine z_callV (As := [.int v2]) (rest := []) C0 rfl kc_X8_lakeAt km_RX11_114 (r_X8_lakeAt (l := l) (g := g) (a0 + 1) v2 μ (zs_11_0 hT0).2 e_r2) (zs_11_0 hT0).2.1 (zs_11_0 hT0).2.2.2.1 rfl (by decide) rfl (Nat.le_of_ble_eq_true rfl) (Nat.le_of_ble_eq_true rfl) (Nat.le_of_ble_eq_true rfl) (Nat.le_of_ble_eq_true rfl) (Nat.le_refl _) rfl rfl dX11_meet_15 ?_
  refine z_astoreq (lo1 := [(5, zopt (zb g) r2), (4, zopt (zb g) r1), (0, .ref (zb g + a0)), (1, .int v1), (2, .int v2), (3, .int v3)]) C0 dX11_meet_18 (by decide) (by simp [zopt_cat, zoptW_cat]) ?_
  refine z_aloadq C0 dX11_meet_20 1 rfl ?_
  obtain ⟨q26, e_q26, h⟩ := zbd_of h
  have kr_J3 := zsum_l h
  have kx_J3 := zsum_r h
  clear h
  refine z_joinq (fun o => q26 = Sum.inr o) (fun _ => μ) 30 (fun o => []) (fun o => []) ?_ (fun k_J3 => ?_)
  · intro u_ hq
    have h := kx_J3 _ hq
    refine z_iconst (v := (-1 : Int32)) C0 dX11_meet_30 (by decide) ?_
    have h := Option.some.inj h
    obtain ⟨rfl, rfl⟩ := Prod.mk.inj h
    exact z_iret C0 rfl dX11_meet_31
  · have h := e_q26
    refine z_ifnullq C0 30 dX11_meet_22 (by decide) (fun c27 => ?_) (fun w4 c27 => ?_)
    · have h_c27 := zcase_n c27 h
      clear h
      subst c27
      have h := h_c27
      refine z_loc (lo1 := [(5, zopt (zb g) r2), (4, .null), (0, .ref (zb g + a0)), (1, .int v1), (2, .int v2), (3, .int v3)]) rfl ?_
      refine z_sub (lo1 := []) [] rfl ?_
      exact k_J3 () (Option.some.inj h).symm
    · have h_c27 := zcase_s c27 h
      clear h
      subst c27
      have h := h_c27
      obtain ⟨g5, h⟩ := zg_of h
      refine z_loc (lo1 := [(5, zopt (zb g) r2), (4, .ref (zb g + w4)), (0, .ref (zb g + a0)), (1, .int v1), (2, .int v2), (3, .int v3)]) rfl ?_
      refine z_aloadq C0 dX11_meet_25 0 rfl ?_
      refine z_ifnonnullq C0 32 dX11_meet_27 (by decide) (fun w6 c28 => ?_) (fun c28 => ?_)
      · have h_c28 := zcase_s c28 h
        clear h
        subst c28
        have h := h_c28
        obtain ⟨g7, h⟩ := zg_of h
        refine z_loc (lo1 := [(5, .ref (zb g + w6)), (4, .ref (zb g + w4)), (0, .ref (zb g + a0)), (1, .int v1), (2, .int v2), (3, .int v3)]) rfl ?_
        refine z_aload_n C0 dX11_meet_32 rfl 2 rfl ?_
        refine z_getr C0 hT0 kf_11_40 zr_11_4 zx_11 (zs_11_4 hT0).1 dX11_meet_33 ?_
        refine z_aload C0 dX11_meet_36 1 rfl ?_
        refine z_aload C0 dX11_meet_38 1 rfl ?_
        obtain ⟨μ8, e_μ8, h⟩ := zbd_of h
        refine z_callV (As := [.ref (zb g + w4), .ref (zb g + w4)]) (rest := []) C0 rfl kc_X4_launch km_RX11_151 (r_X4_launch (l := l) (g := g) (a0 + 87) w4 w4 μ (zs_11_4 hT0).2 (zgn_T g5 (by decide)) (zgn_T g5 (by decide)) e_μ8) (zs_11_4 hT0).2.1 (zs_11_4 hT0).2.2.2.1 rfl (by decide) rfl (Nat.le_of_ble_eq_true rfl) (Nat.le_of_ble_eq_true rfl) (Nat.le_of_ble_eq_true rfl) (Nat.le_of_ble_eq_true rfl) (Nat.le_refl _) rfl rfl dX11_meet_40 ?_
        refine z_aload_n C0 dX11_meet_43 rfl 2 rfl ?_
        refine z_getr C0 hT0 kf_11_44 zr_11_5 zx_11 (zs_11_5 hT0).1 dX11_meet_44 ?_
        refine z_aload C0 dX11_meet_47 0 rfl ?_
        refine z_aload C0 dX11_meet_49 1 rfl ?_
        obtain ⟨μ9, e_μ9, h⟩ := zbd_of h
        refine z_callV (As := [.ref (zb g + w6), .ref (zb g + w4)]) (rest := []) C0 rfl kc_X4_launch km_RX11_151 (r_X4_launch (l := l) (g := g) (a0 + 90) w6 w4 μ8 (zs_11_5 hT0).2 (zgn_T g7 (by decide)) (zgn_T g5 (by decide)) e_μ9) (zs_11_5 hT0).2.1 (zs_11_5 hT0).2.2.2.1 rfl (by decide) rfl (Nat.le_of_ble_eq_true rfl) (Nat.le_of_ble_eq_true rfl) (Nat.le_of_ble_eq_true rfl) (Nat.le_of_ble_eq_true rfl) (Nat.le_refl _) rfl rfl dX11_meet_51 ?_
        refine z_aload C0 dX11_meet_54 1 rfl ?_
        refine z_aload C0 dX11_meet_56 0 rfl ?_
        refine z_aload_n C0 dX11_meet_58 rfl 2 rfl ?_
        refine z_getr C0 hT0 kf_11_44 zr_11_5 zx_11 (zs_11_5 hT0).1 dX11_meet_59 ?_
        refine z_geti C0 (zs_11_5 hT0).2.1 (zs_11_5 hT0).2.2.2.1 kf_11_281 zr_4_2 dX11_meet_62 ?_
        refine z_aload_n C0 dX11_meet_65 rfl 2 rfl ?_
        refine z_getr C0 hT0 kf_11_44 zr_11_5 zx_11 (zs_11_5 hT0).1 dX11_meet_66 ?_
        refine z_geti C0 (zs_11_5 hT0).2.1 (zs_11_5 hT0).2.2.2.1 kf_11_284 zr_4_3 dX11_meet_69 ?_
        refine z_callV (As := [.ref (zb g + w6), .int (μ9 (a0 + 90) 2), .int (μ9 (a0 + 90) 3)]) (rest := []) C0 rfl kc_X1_surrounds km_RX11_287 (r_X1_surrounds (l := l) (g := g) w4 w6 (μ9 (a0 + 90) 2) (μ9 (a0 + 90) 3) μ9 (zgn_T g5 (by decide)) (zgn_T g7 (by decide)) rfl) (zgn_T g5 (by decide)).1 (zgn_T g5 (by decide)).2.2.1 rfl (by decide) rfl (Nat.le_of_ble_eq_true rfl) (Nat.le_of_ble_eq_true rfl) (Nat.le_of_ble_eq_true rfl) (Nat.le_of_ble_eq_true rfl) (Nat.le_refl _) rfl rfl dX11_meet_72 ?_
        refine z_if_ne C0 80 dX11_meet_75 (by decide) (fun c10 => ?_) (fun c10 => ?_)
        · have h := zif_t c10 h
          refine z_iconst (v := (0 : Int32)) C0 dX11_meet_80 (by decide) ?_
          refine z_istore (lo1 := [(6, .int (0 : Int32)), (5, .ref (zb g + w6)), (4, .ref (zb g + w4)), (0, .ref (zb g + a0)), (1, .int v1), (2, .int v2), (3, .int v3)]) C0 dX11_meet_81 (by decide) rfl ?_
          refine z_sub (lo1 := [(0, .ref (zb g + a0)), (3, .int v3), (6, .int (0 : Int32))]) [3, 6, 0] rfl ?_
          obtain ⟨q25, e_q25, h⟩ := zbd_of h
          refine r_X11_meet_L83 C0 a0 v3 hT0 zFU (0 : Int32) μ9 q25 e_q25 ?_ ?_
          · intro t ht
            have h := zsum_l h _ ht
            have h := kr_J3 _ (Option.some.inj h).symm
            exact Option.some.inj h
          · intro μ24 hq
            have h := zsum_r h _ hq
            refine z_iconst (v := (-1 : Int32)) C0 dX11_meet_128 (by decide) ?_
            have h := kr_J3 _ (Option.some.inj h).symm
            have h := Option.some.inj h
            obtain ⟨rfl, rfl⟩ := Prod.mk.inj h
            exact z_iret C0 rfl dX11_meet_129
        · have h := zif_f (fun q => q c10) h
          refine z_iconst (v := (-1 : Int32)) C0 dX11_meet_78 (by decide) ?_
          have h := kr_J3 _ (Option.some.inj h).symm
          have h := Option.some.inj h
          obtain ⟨rfl, rfl⟩ := Prod.mk.inj h
          exact z_iret C0 rfl dX11_meet_79
      · have h_c28 := zcase_n c28 h
        clear h
        subst c28
        have h := h_c28
        refine z_loc (lo1 := [(5, .null), (4, .ref (zb g + w4)), (0, .ref (zb g + a0)), (1, .int v1), (2, .int v2), (3, .int v3)]) rfl ?_
        refine z_sub (lo1 := []) [] rfl ?_
        exact k_J3 () (Option.some.inj h).symm
def f_X11_owed (a0 : Nat) (v1 : Int32) (v2 : Int32) (v3 : Int32) (v4 : Int32) (μ : zM) : Option (Int32 × zM) :=
  zbd (f_X8_pageAt (a0 + 1) (4 : Int32) v4 μ) fun r1 =>
  zbd (zcase r1 (some (.inr μ)) fun w3 => zg (zgn w3 6) <|
      zbd2 (f_X11_sailTo a0 v1 v2 v3 μ) fun r5 μ6 =>
      if ¬ r5 = 0 then
        zbd (f_X4_debtBy (a0 + 87) w3 μ6) fun r8 =>
        some (.inl (r8, μ6))
      else
        some (.inr μ6)) fun q10 => zsum q10 (fun t => some t) fun μ9 =>
  some ((-1 : Int32), μ9)
set_option maxHeartbeats 4000000 in
set_option maxRecDepth 100000 in
theorem r_X11_owed {l : Launch} {g : zL} {κ : zK} (a0 : Nat) (v1 : Int32) (v2 : Int32) (v3 : Int32) (v4 : Int32) (μ : zM) (hT0 : zT zNN zσ1 a0 11) (hSp : zSK g κ) {rv : Int32} {μr : zM} (h : f_X11_owed a0 v1 v2 v3 v4 μ = some (rv, μr)) : zMet l g yX11_owed cX11_owed 6 (some (.int)) 6 0 0 zNN zNN zσ1 zσ1 [.ref (zb g + a0), .int v1, .int v2, .int v3, .int v4] μ (some (.int rv)) μr := by
  refine zMet.of (by decide +kernel) (Nat.le_of_ble_eq_true rfl) ?_
  intro p e s m args below meth c C0
  have hF := hSp.at C0
  refine z_loc (lo1 := [(0, .ref (zb g + a0)), (1, .int v1), (2, .int v2), (3, .int v3), (4, .int v4)]) rfl ?_
  unfold f_X11_owed at h
  refine z_aload_n C0 dX11_owed_0 rfl 0 rfl ?_
  refine z_getr C0 hT0 kf_11_10 zr_11_0 zx_11 (zs_11_0 hT0).1 dX11_owed_1 ?_
  refine z_iconst (v := (4 : Int32)) C0 dX11_owed_4 (by decide) ?_
  refine z_iload C0 dX11_owed_5 4 rfl ?_
  obtain ⟨r1, e_r1, h⟩ := zbd_of h
  refine z_callV (As := [.int (4 : Int32), .int v4]) (rest := []) C0 rfl kc_X8_pageAt km_RX11_124 (r_X8_pageAt (l := l) (g := g) (a0 + 1) (4 : Int32) v4 μ (zs_11_0 hT0).2 e_r1) (zs_11_0 hT0).2.1 (zs_11_0 hT0).2.2.2.1 rfl (by decide) rfl (Nat.le_of_ble_eq_true rfl) (Nat.le_of_ble_eq_true rfl) (Nat.le_of_ble_eq_true rfl) (Nat.le_of_ble_eq_true rfl) (Nat.le_refl _) rfl rfl dX11_owed_7 ?_
  refine z_astoreq (lo1 := [(5, zopt (zb g) r1), (0, .ref (zb g + a0)), (1, .int v1), (2, .int v2), (3, .int v3), (4, .int v4)]) C0 dX11_owed_10 (by decide) rfl ?_
  refine z_aloadq C0 dX11_owed_12 0 rfl ?_
  obtain ⟨q10, e_q10, h⟩ := zbd_of h
  have kr_J2 := zsum_l h
  have kx_J2 := zsum_r h
  clear h
  refine z_joinq (fun o => q10 = Sum.inr o) (fun o => o) 27 (fun o => []) (fun o => []) ?_ (fun k_J2 => ?_)
  · intro μ9 hq
    have h := kx_J2 _ hq
    refine z_iconst (v := (-1 : Int32)) C0 dX11_owed_27 (by decide) ?_
    have h := Option.some.inj h
    obtain ⟨rfl, rfl⟩ := Prod.mk.inj h
    exact z_iret C0 rfl dX11_owed_28
  · have h := e_q10
    refine z_ifnullq C0 27 dX11_owed_14 (by decide) (fun c11 => ?_) (fun w3 c11 => ?_)
    · have h_c11 := zcase_n c11 h
      clear h
      subst c11
      have h := h_c11
      refine z_loc (lo1 := [(5, .null), (0, .ref (zb g + a0)), (1, .int v1), (2, .int v2), (3, .int v3), (4, .int v4)]) rfl ?_
      refine z_sub (lo1 := []) [] rfl ?_
      exact k_J2 μ (Option.some.inj h).symm
    · have h_c11 := zcase_s c11 h
      clear h
      subst c11
      have h := h_c11
      obtain ⟨g4, h⟩ := zg_of h
      refine z_loc (lo1 := [(5, .ref (zb g + w3)), (0, .ref (zb g + a0)), (1, .int v1), (2, .int v2), (3, .int v3), (4, .int v4)]) rfl ?_
      refine z_aload_n C0 dX11_owed_17 rfl 1 rfl ?_
      refine z_iload_n C0 dX11_owed_18 rfl 2 rfl ?_
      refine z_iload_n C0 dX11_owed_19 rfl 3 rfl ?_
      refine z_iload_n C0 dX11_owed_20 rfl 4 rfl ?_
      obtain ⟨r5, μ6, e_r5, h⟩ := zbd2_of h
      refine z_callV (As := [.int v1, .int v2, .int v3]) (rest := []) C0 rfl kc_X11_sailTo km_RX11_159 (r_X11_sailTo (l := l) (g := g) a0 v1 v2 v3 μ hT0 e_r5) hT0.1 hT0.2.2.1 rfl (by decide) rfl (Nat.le_of_ble_eq_true rfl) (Nat.le_of_ble_eq_true rfl) (Nat.le_of_ble_eq_true rfl) (Nat.le_of_ble_eq_true rfl) (Nat.le_refl _) rfl rfl dX11_owed_21 ?_
      refine z_if_ne C0 29 dX11_owed_24 (by decide) (fun c7 => ?_) (fun c7 => ?_)
      · have h := zif_t c7 h
        refine z_aload_n C0 dX11_owed_29 rfl 1 rfl ?_
        refine z_getr C0 hT0 kf_11_40 zr_11_4 zx_11 (zs_11_4 hT0).1 dX11_owed_30 ?_
        refine z_aload C0 dX11_owed_33 0 rfl ?_
        obtain ⟨r8, e_r8, h⟩ := zbd_of h
        refine z_callV (As := [.ref (zb g + w3)]) (rest := []) C0 rfl kc_X4_debtBy km_RX11_179 (r_X4_debtBy (l := l) (g := g) (a0 + 87) w3 μ6 (zs_11_4 hT0).2 (zgn_T g4 (by decide)) hSp e_r8) (zs_11_4 hT0).2.1 (zs_11_4 hT0).2.2.2.1 rfl (by decide) rfl (Nat.le_of_ble_eq_true rfl) (Nat.le_of_ble_eq_true rfl) (Nat.le_of_ble_eq_true rfl) (Nat.le_of_ble_eq_true rfl) (Nat.le_refl _) rfl rfl dX11_owed_35 ?_
        have h := kr_J2 _ (Option.some.inj h).symm
        have h := Option.some.inj h
        obtain ⟨rfl, rfl⟩ := Prod.mk.inj h
        exact z_iret C0 rfl dX11_owed_38
      · have h := zif_f (fun q => q c7) h
        refine z_sub (lo1 := []) [] rfl ?_
        exact k_J2 μ6 (Option.some.inj h).symm
def f_X11_pull (a0 : Nat) (v1 : Int32) (v2 : Int32) (v3 : Int32) (μ : zM) : Option (Int32 × zM) :=
  zbd (f_X8_lakeAt (a0 + 1) v1 μ) fun r1 =>
  zbd (zcase r1 (some (.inr ())) fun w3 => zg (zgn w3 1) <|
      if (¬ (v2 < (1 : Int32))) ∧ ((¬ ((12 : Int32) < v2)) ∧ ((-1 : Int32) ≤ v3)) then
        zbd (f_X3_hear (a0 + 104) w3 v2 (a0 + 87) μ) fun μ8 =>
        zbd (if ¬ v3 = (-1 : Int32) then
            zbd (f_X3_restAt (a0 + 104) v3 μ8) fun r11 =>
            some r11
          else
            zbd (f_X3_atRest (a0 + 104) μ8) fun r12 =>
            some r12) fun x13 =>
        some (.inl (x13, μ8))
      else
        some (.inr ())) fun q14 => zsum q14 (fun t => some t) fun _ =>
  some ((-2 : Int32), μ)
set_option maxHeartbeats 4000000 in
set_option maxRecDepth 100000 in
theorem r_X11_pull {l : Launch} {g : zL} (a0 : Nat) (v1 : Int32) (v2 : Int32) (v3 : Int32) (μ : zM) (hT0 : zT zNN zσ1 a0 11) {rv : Int32} {μr : zM} (h : f_X11_pull a0 v1 v2 v3 μ = some (rv, μr)) : zMet l g yX11_pull cX11_pull 5 (some (.int)) 5 0 0 zNN zNN zσ1 zσ1 [.ref (zb g + a0), .int v1, .int v2, .int v3] μ (some (.int rv)) μr := by
  refine zMet.of (by decide +kernel) (Nat.le_of_ble_eq_true rfl) ?_
  intro p e s m args below meth c C0
  refine z_loc (lo1 := [(0, .ref (zb g + a0)), (1, .int v1), (2, .int v2), (3, .int v3)]) rfl ?_
  unfold f_X11_pull at h
  refine z_aload_n C0 dX11_pull_0 rfl 0 rfl ?_
  refine z_getr C0 hT0 kf_11_10 zr_11_0 zx_11 (zs_11_0 hT0).1 dX11_pull_1 ?_
  refine z_iload_n C0 dX11_pull_4 rfl 1 rfl ?_
  obtain ⟨r1, e_r1, h⟩ := zbd_of h
  refine z_callV (As := [.int v1]) (rest := []) C0 rfl kc_X8_lakeAt km_RX11_114 (r_X8_lakeAt (l := l) (g := g) (a0 + 1) v1 μ (zs_11_0 hT0).2 e_r1) (zs_11_0 hT0).2.1 (zs_11_0 hT0).2.2.2.1 rfl (by decide) rfl (Nat.le_of_ble_eq_true rfl) (Nat.le_of_ble_eq_true rfl) (Nat.le_of_ble_eq_true rfl) (Nat.le_of_ble_eq_true rfl) (Nat.le_refl _) rfl rfl dX11_pull_5 ?_
  refine z_astoreq (lo1 := [(4, zopt (zb g) r1), (0, .ref (zb g + a0)), (1, .int v1), (2, .int v2), (3, .int v3)]) C0 dX11_pull_8 (by decide) rfl ?_
  refine z_aloadq C0 dX11_pull_10 0 rfl ?_
  obtain ⟨q14, e_q14, h⟩ := zbd_of h
  have kr_J2 := zsum_l h
  have kx_J2 := zsum_r h
  clear h
  refine z_joinq (fun o => q14 = Sum.inr o) (fun _ => μ) 31 (fun o => []) (fun o => []) ?_ (fun k_J2 => ?_)
  · intro u_ hq
    have h := kx_J2 _ hq
    refine z_bipush (v := (-2 : Int32)) C0 dX11_pull_31 (by decide) ?_
    have h := Option.some.inj h
    obtain ⟨rfl, rfl⟩ := Prod.mk.inj h
    exact z_iret C0 rfl dX11_pull_33
  · have h := e_q14
    refine z_ifnullq C0 31 dX11_pull_12 (by decide) (fun c15 => ?_) (fun w3 c15 => ?_)
    · have h_c15 := zcase_n c15 h
      clear h
      subst c15
      have h := h_c15
      refine z_loc (lo1 := [(4, .null), (0, .ref (zb g + a0)), (1, .int v1), (2, .int v2), (3, .int v3)]) rfl ?_
      refine z_sub (lo1 := []) [] rfl ?_
      exact k_J2 () (Option.some.inj h).symm
    · have h_c15 := zcase_s c15 h
      clear h
      subst c15
      have h := h_c15
      obtain ⟨g4, h⟩ := zg_of h
      refine z_loc (lo1 := [(4, .ref (zb g + w3)), (0, .ref (zb g + a0)), (1, .int v1), (2, .int v2), (3, .int v3)]) rfl ?_
      refine z_iload_n C0 dX11_pull_15 rfl 3 rfl ?_
      refine z_iconst (v := (1 : Int32)) C0 dX11_pull_16 (by decide) ?_
      by_cases hc16 : (¬ (v2 < (1 : Int32))) ∧ ((¬ ((12 : Int32) < v2)) ∧ ((-1 : Int32) ≤ v3))
      · have h := zif_t hc16 h
        refine z_join μ 34 [(4, .ref (zb g + w3)), (0, .ref (zb g + a0)), (1, .int v1), (2, .int v2), (3, .int v3)] [] ?_ (fun k17 => ?_)
        · refine z_aload_n C0 dX11_pull_34 rfl 1 rfl ?_
          refine z_getr C0 hT0 kf_11_57 zr_11_7 zx_11 (zs_11_7 hT0).1 dX11_pull_35 ?_
          refine z_aload C0 dX11_pull_38 0 rfl ?_
          refine z_iload_n C0 dX11_pull_40 rfl 3 rfl ?_
          refine z_aload_n C0 dX11_pull_41 rfl 1 rfl ?_
          refine z_getr C0 hT0 kf_11_40 zr_11_4 zx_11 (zs_11_4 hT0).1 dX11_pull_42 ?_
          obtain ⟨μ8, e_μ8, h⟩ := zbd_of h
          refine z_callV (As := [.ref (zb g + w3), .int v2, .ref (zb g + (a0 + 87))]) (rest := []) C0 rfl kc_X3_hear km_RX11_219 (r_X3_hear (l := l) (g := g) (a0 + 104) w3 v2 (a0 + 87) μ (zs_11_7 hT0).2 (zgn_T g4 (by decide)) (zs_11_4 hT0).2 e_μ8) (zs_11_7 hT0).2.1 (zs_11_7 hT0).2.2.2.1 rfl (by decide) rfl (Nat.le_of_ble_eq_true rfl) (Nat.le_of_ble_eq_true rfl) (Nat.le_of_ble_eq_true rfl) (Nat.le_of_ble_eq_true rfl) (Nat.le_refl _) rfl rfl dX11_pull_45 ?_
          refine z_iload_n C0 dX11_pull_48 rfl 4 rfl ?_
          refine z_iconst (v := (-1 : Int32)) C0 dX11_pull_49 (by decide) ?_
          obtain ⟨x13, e_x13, h⟩ := zbd_of h
          refine z_join μ8 71 [] [.int x13] ?_ (fun k_J10 => ?_)
          · have h := kr_J2 _ (Option.some.inj h).symm
            have h := Option.some.inj h
            obtain ⟨rfl, rfl⟩ := Prod.mk.inj h
            exact z_iret C0 rfl dX11_pull_71
          · have h := e_x13
            refine z_icmp_ne C0 63 dX11_pull_50 (by decide) (fun c9 => ?_) (fun c9 => ?_)
            · have h := zif_t c9 h
              refine z_aload_n C0 dX11_pull_63 rfl 1 rfl ?_
              refine z_getr C0 hT0 kf_11_57 zr_11_7 zx_11 (zs_11_7 hT0).1 dX11_pull_64 ?_
              refine z_iload_n C0 dX11_pull_67 rfl 4 rfl ?_
              obtain ⟨r11, e_r11, h⟩ := zbd_of h
              refine z_callV (As := [.int v3]) (rest := []) C0 rfl kc_X3_restAt km_RX11_226 (r_X3_restAt (l := l) (g := g) (a0 + 104) v3 μ8 (zs_11_7 hT0).2 e_r11) (zs_11_7 hT0).2.1 (zs_11_7 hT0).2.2.2.1 rfl (by decide) rfl (Nat.le_of_ble_eq_true rfl) (Nat.le_of_ble_eq_true rfl) (Nat.le_of_ble_eq_true rfl) (Nat.le_of_ble_eq_true rfl) (Nat.le_refl _) rfl rfl dX11_pull_68 ?_
              refine z_sub (lo1 := []) [] rfl ?_
              obtain rfl := (Option.some.inj h)
              exact k_J10
            · have h := zif_f (fun q => q c9) h
              refine z_aload_n C0 dX11_pull_53 rfl 1 rfl ?_
              refine z_getr C0 hT0 kf_11_57 zr_11_7 zx_11 (zs_11_7 hT0).1 dX11_pull_54 ?_
              obtain ⟨r12, e_r12, h⟩ := zbd_of h
              refine z_callV (As := []) (rest := []) C0 rfl kc_X3_atRest km_RX11_223 (r_X3_atRest (l := l) (g := g) (a0 + 104) μ8 (zs_11_7 hT0).2 e_r12) (zs_11_7 hT0).2.1 (zs_11_7 hT0).2.2.2.1 rfl (by decide) rfl (Nat.le_of_ble_eq_true rfl) (Nat.le_of_ble_eq_true rfl) (Nat.le_of_ble_eq_true rfl) (Nat.le_of_ble_eq_true rfl) (Nat.le_refl _) rfl rfl dX11_pull_57 ?_
              refine z_goto C0 71 dX11_pull_60 (by decide) ?_
              refine z_sub (lo1 := []) [] rfl ?_
              obtain rfl := (Option.some.inj h)
              exact k_J10
        · refine z_icmp_lt C0 31 dX11_pull_17 (by decide) (fun c5 => ?_) (fun c5 => ?_)
          · exact absurd hc16 (fun q => q.1 c5)
          · refine z_iload_n C0 dX11_pull_20 rfl 3 rfl ?_
            refine z_bipush (v := (12 : Int32)) C0 dX11_pull_21 (by decide) ?_
            refine z_icmp_gt C0 31 dX11_pull_23 (by decide) (fun c6 => ?_) (fun c6 => ?_)
            · exact absurd hc16 (fun q => (fun q => q.1 c6) q.2)
            · refine z_iload_n C0 dX11_pull_26 rfl 4 rfl ?_
              refine z_iconst (v := (-1 : Int32)) C0 dX11_pull_27 (by decide) ?_
              refine z_icmp_ge C0 34 dX11_pull_28 (by decide) (fun c7 => ?_) (fun c7 => ?_)
              · exact k17
              · exact absurd hc16 (fun q => (fun q => c7 q.2) q.2)
      · have h := zif_f hc16 h
        refine z_join μ 31 [(4, .ref (zb g + w3)), (0, .ref (zb g + a0)), (1, .int v1), (2, .int v2), (3, .int v3)] [] ?_ (fun k18 => ?_)
        · refine z_sub (lo1 := []) [] rfl ?_
          exact k_J2 () (Option.some.inj h).symm
        · refine z_icmp_lt C0 31 dX11_pull_17 (by decide) (fun c5 => ?_) (fun c5 => ?_)
          · exact k18
          · refine z_iload_n C0 dX11_pull_20 rfl 3 rfl ?_
            refine z_bipush (v := (12 : Int32)) C0 dX11_pull_21 (by decide) ?_
            refine z_icmp_gt C0 31 dX11_pull_23 (by decide) (fun c6 => ?_) (fun c6 => ?_)
            · exact k18
            · refine z_iload_n C0 dX11_pull_26 rfl 4 rfl ?_
              refine z_iconst (v := (-1 : Int32)) C0 dX11_pull_27 (by decide) ?_
              refine z_icmp_ge C0 34 dX11_pull_28 (by decide) (fun c7 => ?_) (fun c7 => ?_)
              · exact absurd ⟨c5, ⟨c6, c7⟩⟩ hc16
              · exact k18
def f_X11_reach (a0 : Nat) (v1 : Int32) (v2 : Int32) (v3 : Int32) (v4 : Int32) (μ : zM) : Option (Int32 × zM) :=
  zbd (f_X8_lakeAt (a0 + 1) v1 μ) fun r1 =>
  zbd (zcase r1 (some (.inr ())) fun w3 => zg (zgn w3 1) <|
      if (¬ (v2 < 0)) ∧ (v2 ≤ (12 : Int32)) then
        zl (if (v3 = (-1 : Int32)) ∧ (v4 = (-1 : Int32)) then
            (1 : Int32)
          else
            (0 : Int32)) fun x13 =>
        if (x13 = 0) ∧ ((f_X1_hasCell w3 v3 v4 μ) = 0) then
          some (.inl ((-1 : Int32), μ))
        else
          zbd (f_X0_weigh (a0 + 93) w3 μ) fun μ16 =>
          zbd (f_X0_chart (a0 + 93) w3 μ16) fun μ17 =>
          zbd (f_X0_spread (a0 + 93) w3 v2 μ17) fun μ18 =>
          zbd (if x13 = 0 then
              zbd (f_X0_isReached (a0 + 93) v3 v4 μ18) fun r25 =>
              if r25 = 0 then
                some (0 : Int32)
              else
                some (1 : Int32)
            else
              zbd (f_X0_cellsReached (a0 + 93) μ18) fun r27 =>
              some r27) fun x28 =>
          some (.inl (x28, μ18))
      else
        some (.inr ())) fun q29 => zsum q29 (fun t => some t) fun _ =>
  some ((-1 : Int32), μ)
set_option maxHeartbeats 4000000 in
set_option maxRecDepth 100000 in
theorem r_X11_reach {l : Launch} {g : zL} {κ : zK} (a0 : Nat) (v1 : Int32) (v2 : Int32) (v3 : Int32) (v4 : Int32) (μ : zM) (hT0 : zT zNN zσ1 a0 11) (hSp : zSK g κ) {rv : Int32} {μr : zM} (h : f_X11_reach a0 v1 v2 v3 v4 μ = some (rv, μr)) : zMet l g yX11_reach cX11_reach 7 (some (.int)) 4 0 0 zNN zNN zσ1 zσ1 [.ref (zb g + a0), .int v1, .int v2, .int v3, .int v4] μ (some (.int rv)) μr := by
  refine zMet.of (by decide +kernel) (Nat.le_of_ble_eq_true rfl) ?_
  intro p e s m args below meth c C0
  have hF := hSp.at C0
  refine z_loc (lo1 := [(0, .ref (zb g + a0)), (1, .int v1), (2, .int v2), (3, .int v3), (4, .int v4)]) rfl ?_
  unfold f_X11_reach at h
  refine z_aload_n C0 dX11_reach_0 rfl 0 rfl ?_
  refine z_getr C0 hT0 kf_11_10 zr_11_0 zx_11 (zs_11_0 hT0).1 dX11_reach_1 ?_
  refine z_iload_n C0 dX11_reach_4 rfl 1 rfl ?_
  obtain ⟨r1, e_r1, h⟩ := zbd_of h
  refine z_callV (As := [.int v1]) (rest := []) C0 rfl kc_X8_lakeAt km_RX11_114 (r_X8_lakeAt (l := l) (g := g) (a0 + 1) v1 μ (zs_11_0 hT0).2 e_r1) (zs_11_0 hT0).2.1 (zs_11_0 hT0).2.2.2.1 rfl (by decide) rfl (Nat.le_of_ble_eq_true rfl) (Nat.le_of_ble_eq_true rfl) (Nat.le_of_ble_eq_true rfl) (Nat.le_of_ble_eq_true rfl) (Nat.le_refl _) rfl rfl dX11_reach_5 ?_
  refine z_astoreq (lo1 := [(5, zopt (zb g) r1), (0, .ref (zb g + a0)), (1, .int v1), (2, .int v2), (3, .int v3), (4, .int v4)]) C0 dX11_reach_8 (by decide) rfl ?_
  refine z_aloadq C0 dX11_reach_10 0 rfl ?_
  obtain ⟨q29, e_q29, h⟩ := zbd_of h
  have kr_J2 := zsum_l h
  have kx_J2 := zsum_r h
  clear h
  refine z_joinq (fun o => q29 = Sum.inr o) (fun _ => μ) 25 (fun o => []) (fun o => []) ?_ (fun k_J2 => ?_)
  · intro u_ hq
    have h := kx_J2 _ hq
    refine z_iconst (v := (-1 : Int32)) C0 dX11_reach_25 (by decide) ?_
    have h := Option.some.inj h
    obtain ⟨rfl, rfl⟩ := Prod.mk.inj h
    exact z_iret C0 rfl dX11_reach_26
  · have h := e_q29
    refine z_ifnullq C0 25 dX11_reach_12 (by decide) (fun c30 => ?_) (fun w3 c30 => ?_)
    · have h_c30 := zcase_n c30 h
      clear h
      subst c30
      have h := h_c30
      refine z_loc (lo1 := [(5, .null), (0, .ref (zb g + a0)), (1, .int v1), (2, .int v2), (3, .int v3), (4, .int v4)]) rfl ?_
      refine z_sub (lo1 := []) [] rfl ?_
      exact k_J2 () (Option.some.inj h).symm
    · have h_c30 := zcase_s c30 h
      clear h
      subst c30
      have h := h_c30
      obtain ⟨g4, h⟩ := zg_of h
      refine z_loc (lo1 := [(5, .ref (zb g + w3)), (0, .ref (zb g + a0)), (1, .int v1), (2, .int v2), (3, .int v3), (4, .int v4)]) rfl ?_
      refine z_iload_n C0 dX11_reach_15 rfl 3 rfl ?_
      by_cases hc31 : (¬ (v2 < 0)) ∧ (v2 ≤ (12 : Int32))
      · have h := zif_t hc31 h
        refine z_join μ 27 [(5, .ref (zb g + w3)), (0, .ref (zb g + a0)), (1, .int v1), (2, .int v2), (3, .int v3), (4, .int v4)] [] ?_ (fun k32 => ?_)
        · refine z_iload_n C0 dX11_reach_27 rfl 4 rfl ?_
          refine z_iconst (v := (-1 : Int32)) C0 dX11_reach_28 (by decide) ?_
          obtain ⟨x13, e_x13, h⟩ := zl_of h
          refine z_join μ 43 [(0, .ref (zb g + a0)), (2, .int v2), (3, .int v3), (4, .int v4), (5, .ref (zb g + w3))] [.int x13] ?_ (fun k_J12 => ?_)
          · refine z_istore (lo1 := [(6, .int x13), (0, .ref (zb g + a0)), (2, .int v2), (3, .int v3), (4, .int v4), (5, .ref (zb g + w3))]) C0 dX11_reach_43 (by decide) rfl ?_
            refine z_iload C0 dX11_reach_45 0 rfl ?_
            by_cases hc33 : (x13 = 0) ∧ ((f_X1_hasCell w3 v3 v4 μ) = 0)
            · have h := zif_t hc33 h
              refine z_join μ 61 [(6, .int x13), (0, .ref (zb g + a0)), (2, .int v2), (3, .int v3), (4, .int v4), (5, .ref (zb g + w3))] [] ?_ (fun k34 => ?_)
              · refine z_iconst (v := (-1 : Int32)) C0 dX11_reach_61 (by decide) ?_
                have h := kr_J2 _ (Option.some.inj h).symm
                have h := Option.some.inj h
                obtain ⟨rfl, rfl⟩ := Prod.mk.inj h
                exact z_iret C0 rfl dX11_reach_62
              · refine z_if_ne C0 63 dX11_reach_47 (by decide) (fun c14 => ?_) (fun c14 => ?_)
                · exact absurd hc33 (fun q => c14 q.1)
                · refine z_aload C0 dX11_reach_50 5 rfl ?_
                  refine z_iload_n C0 dX11_reach_52 rfl 3 rfl ?_
                  refine z_iload C0 dX11_reach_53 4 rfl ?_
                  refine z_callV (As := [.int v3, .int v4]) (rest := []) C0 rfl kc_X1_hasCell km_RX11_189 (r_X1_hasCell (l := l) (g := g) w3 v3 v4 μ (zgn_T g4 (by decide)) rfl) (zgn_T g4 (by decide)).1 (zgn_T g4 (by decide)).2.2.1 rfl (by decide) rfl (Nat.le_of_ble_eq_true rfl) (Nat.le_of_ble_eq_true rfl) (Nat.le_of_ble_eq_true rfl) (Nat.le_of_ble_eq_true rfl) (Nat.le_refl _) rfl rfl dX11_reach_55 ?_
                  refine z_if_ne C0 63 dX11_reach_58 (by decide) (fun c15 => ?_) (fun c15 => ?_)
                  · exact absurd hc33 (fun q => (fun q => c15 q) q.2)
                  · exact k34
            · have h := zif_f hc33 h
              refine z_join μ 63 [(6, .int x13), (0, .ref (zb g + a0)), (2, .int v2), (3, .int v3), (4, .int v4), (5, .ref (zb g + w3))] [] ?_ (fun k35 => ?_)
              · refine z_aload_n C0 dX11_reach_63 rfl 1 rfl ?_
                refine z_getr C0 hT0 kf_11_50 zr_11_6 zx_11 (zs_11_6 hT0).1 dX11_reach_64 ?_
                refine z_aload C0 dX11_reach_67 5 rfl ?_
                obtain ⟨μ16, e_μ16, h⟩ := zbd_of h
                refine z_callV (As := [.ref (zb g + w3)]) (rest := []) C0 rfl kc_X0_weigh km_RX11_183 (r_X0_weigh (l := l) (g := g) (a0 + 93) w3 μ (zs_11_6 hT0).2 (zgn_T g4 (by decide)) hSp e_μ16) (zs_11_6 hT0).2.1 (zs_11_6 hT0).2.2.2.1 rfl (by decide) rfl (Nat.le_of_ble_eq_true rfl) (Nat.le_of_ble_eq_true rfl) (Nat.le_of_ble_eq_true rfl) (Nat.le_of_ble_eq_true rfl) (Nat.le_refl _) rfl rfl dX11_reach_69 ?_
                refine z_aload_n C0 dX11_reach_72 rfl 1 rfl ?_
                refine z_getr C0 hT0 kf_11_50 zr_11_6 zx_11 (zs_11_6 hT0).1 dX11_reach_73 ?_
                refine z_aload C0 dX11_reach_76 5 rfl ?_
                obtain ⟨μ17, e_μ17, h⟩ := zbd_of h
                refine z_callV (As := [.ref (zb g + w3)]) (rest := []) C0 rfl kc_X0_chart km_RX11_193 (r_X0_chart (l := l) (g := g) (a0 + 93) w3 μ16 (zs_11_6 hT0).2 (zgn_T g4 (by decide)) hSp e_μ17) (zs_11_6 hT0).2.1 (zs_11_6 hT0).2.2.2.1 rfl (by decide) rfl (Nat.le_of_ble_eq_true rfl) (Nat.le_of_ble_eq_true rfl) (Nat.le_of_ble_eq_true rfl) (Nat.le_of_ble_eq_true rfl) (Nat.le_refl _) rfl rfl dX11_reach_78 ?_
                refine z_aload_n C0 dX11_reach_81 rfl 1 rfl ?_
                refine z_getr C0 hT0 kf_11_50 zr_11_6 zx_11 (zs_11_6 hT0).1 dX11_reach_82 ?_
                refine z_aload C0 dX11_reach_85 5 rfl ?_
                refine z_iload_n C0 dX11_reach_87 rfl 2 rfl ?_
                obtain ⟨μ18, e_μ18, h⟩ := zbd_of h
                refine z_callV (As := [.ref (zb g + w3), .int v2]) (rest := []) C0 rfl kc_X0_spread km_RX11_196 (r_X0_spread (l := l) (g := g) (a0 + 93) w3 v2 μ17 (zs_11_6 hT0).2 (zgn_T g4 (by decide)) e_μ18) (zs_11_6 hT0).2.1 (zs_11_6 hT0).2.2.2.1 rfl (by decide) rfl (Nat.le_of_ble_eq_true rfl) (Nat.le_of_ble_eq_true rfl) (Nat.le_of_ble_eq_true rfl) (Nat.le_of_ble_eq_true rfl) (Nat.le_refl _) rfl rfl dX11_reach_88 ?_
                refine z_iload C0 dX11_reach_91 0 rfl ?_
                obtain ⟨x28, e_x28, h⟩ := zbd_of h
                refine z_join μ18 124 [] [.int x28] ?_ (fun k_J24 => ?_)
                · have h := kr_J2 _ (Option.some.inj h).symm
                  have h := Option.some.inj h
                  obtain ⟨rfl, rfl⟩ := Prod.mk.inj h
                  exact z_iret C0 rfl dX11_reach_124
                · have h := e_x28
                  refine z_if_eq C0 106 dX11_reach_93 (by decide) (fun c19 => ?_) (fun c19 => ?_)
                  · have h := zif_t c19 h
                    refine z_aload_n C0 dX11_reach_106 rfl 1 rfl ?_
                    refine z_getr C0 hT0 kf_11_50 zr_11_6 zx_11 (zs_11_6 hT0).1 dX11_reach_107 ?_
                    refine z_iload_n C0 dX11_reach_110 rfl 3 rfl ?_
                    refine z_iload C0 dX11_reach_111 4 rfl ?_
                    obtain ⟨r25, e_r25, h⟩ := zbd_of h
                    refine z_callV (As := [.int v3, .int v4]) (rest := []) C0 rfl kc_X0_isReached km_RX11_204 (r_X0_isReached (l := l) (g := g) (a0 + 93) v3 v4 μ18 (zs_11_6 hT0).2 e_r25) (zs_11_6 hT0).2.1 (zs_11_6 hT0).2.2.2.1 rfl (by decide) rfl (Nat.le_of_ble_eq_true rfl) (Nat.le_of_ble_eq_true rfl) (Nat.le_of_ble_eq_true rfl) (Nat.le_of_ble_eq_true rfl) (Nat.le_refl _) rfl rfl dX11_reach_113 ?_
                    refine z_if_eq C0 123 dX11_reach_116 (by decide) (fun c26 => ?_) (fun c26 => ?_)
                    · have h := zif_t c26 h
                      refine z_iconst (v := (0 : Int32)) C0 dX11_reach_123 (by decide) ?_
                      refine z_sub (lo1 := []) [] rfl ?_
                      obtain rfl := (Option.some.inj h)
                      exact k_J24
                    · have h := zif_f c26 h
                      refine z_iconst (v := (1 : Int32)) C0 dX11_reach_119 (by decide) ?_
                      refine z_goto C0 124 dX11_reach_120 (by decide) ?_
                      refine z_sub (lo1 := []) [] rfl ?_
                      obtain rfl := (Option.some.inj h)
                      exact k_J24
                  · have h := zif_f c19 h
                    refine z_aload_n C0 dX11_reach_96 rfl 1 rfl ?_
                    refine z_getr C0 hT0 kf_11_50 zr_11_6 zx_11 (zs_11_6 hT0).1 dX11_reach_97 ?_
                    obtain ⟨r27, e_r27, h⟩ := zbd_of h
                    refine z_callV (As := []) (rest := []) C0 rfl kc_X0_cellsReached km_RX11_200 (r_X0_cellsReached (l := l) (g := g) (a0 + 93) μ18 (zs_11_6 hT0).2 e_r27) (zs_11_6 hT0).2.1 (zs_11_6 hT0).2.2.2.1 rfl (by decide) rfl (Nat.le_of_ble_eq_true rfl) (Nat.le_of_ble_eq_true rfl) (Nat.le_of_ble_eq_true rfl) (Nat.le_of_ble_eq_true rfl) (Nat.le_refl _) rfl rfl dX11_reach_100 ?_
                    refine z_goto C0 124 dX11_reach_103 (by decide) ?_
                    refine z_sub (lo1 := []) [] rfl ?_
                    obtain rfl := (Option.some.inj h)
                    exact k_J24
              · refine z_if_ne C0 63 dX11_reach_47 (by decide) (fun c14 => ?_) (fun c14 => ?_)
                · exact k35
                · refine z_aload C0 dX11_reach_50 5 rfl ?_
                  refine z_iload_n C0 dX11_reach_52 rfl 3 rfl ?_
                  refine z_iload C0 dX11_reach_53 4 rfl ?_
                  refine z_callV (As := [.int v3, .int v4]) (rest := []) C0 rfl kc_X1_hasCell km_RX11_189 (r_X1_hasCell (l := l) (g := g) w3 v3 v4 μ (zgn_T g4 (by decide)) rfl) (zgn_T g4 (by decide)).1 (zgn_T g4 (by decide)).2.2.1 rfl (by decide) rfl (Nat.le_of_ble_eq_true rfl) (Nat.le_of_ble_eq_true rfl) (Nat.le_of_ble_eq_true rfl) (Nat.le_of_ble_eq_true rfl) (Nat.le_refl _) rfl rfl dX11_reach_55 ?_
                  refine z_if_ne C0 63 dX11_reach_58 (by decide) (fun c15 => ?_) (fun c15 => ?_)
                  · exact k35
                  · exact absurd ⟨c14, c15⟩ hc33
          · have h := e_x13.symm
            by_cases hc36 : (v3 = (-1 : Int32)) ∧ (v4 = (-1 : Int32))
            · have h := zif_t hc36 h
              refine z_join μ 38 [(5, .ref (zb g + w3)), (0, .ref (zb g + a0)), (1, .int v1), (2, .int v2), (3, .int v3), (4, .int v4)] [] ?_ (fun k37 => ?_)
              · refine z_iconst (v := (1 : Int32)) C0 dX11_reach_38 (by decide) ?_
                refine z_goto C0 43 dX11_reach_39 (by decide) ?_
                refine z_sub (lo1 := [(0, .ref (zb g + a0)), (2, .int v2), (3, .int v3), (4, .int v4), (5, .ref (zb g + w3))]) [1, 3, 4, 5, 0] rfl ?_
                obtain rfl := h
                exact k_J12
              · refine z_icmp_ne C0 42 dX11_reach_29 (by decide) (fun c10 => ?_) (fun c10 => ?_)
                · exact absurd hc36 (fun q => c10 q.1)
                · refine z_iload C0 dX11_reach_32 5 rfl ?_
                  refine z_iconst (v := (-1 : Int32)) C0 dX11_reach_34 (by decide) ?_
                  refine z_icmp_ne C0 42 dX11_reach_35 (by decide) (fun c11 => ?_) (fun c11 => ?_)
                  · exact absurd hc36 (fun q => (fun q => c11 q) q.2)
                  · exact k37
            · have h := zif_f hc36 h
              refine z_join μ 42 [(5, .ref (zb g + w3)), (0, .ref (zb g + a0)), (1, .int v1), (2, .int v2), (3, .int v3), (4, .int v4)] [] ?_ (fun k38 => ?_)
              · refine z_iconst (v := (0 : Int32)) C0 dX11_reach_42 (by decide) ?_
                refine z_sub (lo1 := [(0, .ref (zb g + a0)), (2, .int v2), (3, .int v3), (4, .int v4), (5, .ref (zb g + w3))]) [1, 3, 4, 5, 0] rfl ?_
                obtain rfl := h
                exact k_J12
              · refine z_icmp_ne C0 42 dX11_reach_29 (by decide) (fun c10 => ?_) (fun c10 => ?_)
                · exact k38
                · refine z_iload C0 dX11_reach_32 5 rfl ?_
                  refine z_iconst (v := (-1 : Int32)) C0 dX11_reach_34 (by decide) ?_
                  refine z_icmp_ne C0 42 dX11_reach_35 (by decide) (fun c11 => ?_) (fun c11 => ?_)
                  · exact k38
                  · exact absurd ⟨c10, c11⟩ hc36
        · refine z_if_lt C0 25 dX11_reach_16 (by decide) (fun c5 => ?_) (fun c5 => ?_)
          · exact absurd hc31 (fun q => q.1 c5)
          · refine z_iload_n C0 dX11_reach_19 rfl 3 rfl ?_
            refine z_bipush (v := (12 : Int32)) C0 dX11_reach_20 (by decide) ?_
            refine z_icmp_le C0 27 dX11_reach_22 (by decide) (fun c9 => ?_) (fun c9 => ?_)
            · exact k32
            · exact absurd hc31 (fun q => c9 q.2)
      · have h := zif_f hc31 h
        refine z_join μ 25 [(5, .ref (zb g + w3)), (0, .ref (zb g + a0)), (1, .int v1), (2, .int v2), (3, .int v3), (4, .int v4)] [] ?_ (fun k39 => ?_)
        · refine z_sub (lo1 := []) [] rfl ?_
          exact k_J2 () (Option.some.inj h).symm
        · refine z_if_lt C0 25 dX11_reach_16 (by decide) (fun c5 => ?_) (fun c5 => ?_)
          · exact k39
          · refine z_iload_n C0 dX11_reach_19 rfl 3 rfl ?_
            refine z_bipush (v := (12 : Int32)) C0 dX11_reach_20 (by decide) ?_
            refine z_icmp_le C0 27 dX11_reach_22 (by decide) (fun c9 => ?_) (fun c9 => ?_)
            · exact absurd ⟨c5, c9⟩ hc31
            · exact k39
def f_X11_sends (a0 : Nat) (v1 : Int32) (v2 : Int32) (μ : zM) : Option (Int32 × zM) :=
  zbd (f_X8_lakeAt (a0 + 1) v1 μ) fun r1 =>
  zbd (zcase r1 (some (.inr ())) fun w3 => zg (zgn w3 1) <|
      if (¬ (v2 < 0)) ∧ (v2 ≤ (2 : Int32)) then
        zbd (f_X0_weigh (a0 + 93) w3 μ) fun μ7 =>
        zbd (f_X0_chart (a0 + 93) w3 μ7) fun μ8 =>
        if ¬ v2 = (2 : Int32) then
          zl (if ¬ v2 = 0 then
              (0 : Int32)
            else
              (1 : Int32)) fun x12 =>
          zbd2 (f_X0_leastToTouch (a0 + 93) w3 x12 μ8) fun r13 μ14 =>
          some (.inl (r13, μ14))
        else
          zbd2 (f_X0_idleMourners (a0 + 93) w3 μ8) fun r15 μ16 =>
          some (.inl (r15, μ16))
      else
        some (.inr ())) fun q17 => zsum q17 (fun t => some t) fun _ =>
  some ((-1 : Int32), μ)
set_option maxHeartbeats 4000000 in
set_option maxRecDepth 100000 in
theorem r_X11_sends {l : Launch} {g : zL} {κ : zK} (a0 : Nat) (v1 : Int32) (v2 : Int32) (μ : zM) (hT0 : zT zNN zσ1 a0 11) (hSp : zSK g κ) {rv : Int32} {μr : zM} (h : f_X11_sends a0 v1 v2 μ = some (rv, μr)) : zMet l g yX11_sends cX11_sends 4 (some (.int)) 5 0 0 zNN zNN zσ1 zσ1 [.ref (zb g + a0), .int v1, .int v2] μ (some (.int rv)) μr := by
  refine zMet.of (by decide +kernel) (Nat.le_of_ble_eq_true rfl) ?_
  intro p e s m args below meth c C0
  have hF := hSp.at C0
  refine z_loc (lo1 := [(0, .ref (zb g + a0)), (1, .int v1), (2, .int v2)]) rfl ?_
  unfold f_X11_sends at h
  refine z_aload_n C0 dX11_sends_0 rfl 0 rfl ?_
  refine z_getr C0 hT0 kf_11_10 zr_11_0 zx_11 (zs_11_0 hT0).1 dX11_sends_1 ?_
  refine z_iload_n C0 dX11_sends_4 rfl 1 rfl ?_
  obtain ⟨r1, e_r1, h⟩ := zbd_of h
  refine z_callV (As := [.int v1]) (rest := []) C0 rfl kc_X8_lakeAt km_RX11_114 (r_X8_lakeAt (l := l) (g := g) (a0 + 1) v1 μ (zs_11_0 hT0).2 e_r1) (zs_11_0 hT0).2.1 (zs_11_0 hT0).2.2.2.1 rfl (by decide) rfl (Nat.le_of_ble_eq_true rfl) (Nat.le_of_ble_eq_true rfl) (Nat.le_of_ble_eq_true rfl) (Nat.le_of_ble_eq_true rfl) (Nat.le_refl _) rfl rfl dX11_sends_5 ?_
  refine z_astoreq_n (lo1 := [(3, zopt (zb g) r1), (0, .ref (zb g + a0)), (1, .int v1), (2, .int v2)]) C0 dX11_sends_8 rfl (by decide) rfl ?_
  refine z_aloadq_n C0 dX11_sends_9 rfl 0 rfl ?_
  obtain ⟨q17, e_q17, h⟩ := zbd_of h
  have kr_J2 := zsum_l h
  have kx_J2 := zsum_r h
  clear h
  refine z_joinq (fun o => q17 = Sum.inr o) (fun _ => μ) 22 (fun o => []) (fun o => []) ?_ (fun k_J2 => ?_)
  · intro u_ hq
    have h := kx_J2 _ hq
    refine z_iconst (v := (-1 : Int32)) C0 dX11_sends_22 (by decide) ?_
    have h := Option.some.inj h
    obtain ⟨rfl, rfl⟩ := Prod.mk.inj h
    exact z_iret C0 rfl dX11_sends_23
  · have h := e_q17
    refine z_ifnullq C0 22 dX11_sends_10 (by decide) (fun c18 => ?_) (fun w3 c18 => ?_)
    · have h_c18 := zcase_n c18 h
      clear h
      subst c18
      have h := h_c18
      refine z_loc (lo1 := [(3, .null), (0, .ref (zb g + a0)), (1, .int v1), (2, .int v2)]) rfl ?_
      refine z_sub (lo1 := []) [] rfl ?_
      exact k_J2 () (Option.some.inj h).symm
    · have h_c18 := zcase_s c18 h
      clear h
      subst c18
      have h := h_c18
      obtain ⟨g4, h⟩ := zg_of h
      refine z_loc (lo1 := [(3, .ref (zb g + w3)), (0, .ref (zb g + a0)), (1, .int v1), (2, .int v2)]) rfl ?_
      refine z_iload_n C0 dX11_sends_13 rfl 3 rfl ?_
      by_cases hc19 : (¬ (v2 < 0)) ∧ (v2 ≤ (2 : Int32))
      · have h := zif_t hc19 h
        refine z_join μ 24 [(3, .ref (zb g + w3)), (0, .ref (zb g + a0)), (1, .int v1), (2, .int v2)] [] ?_ (fun k20 => ?_)
        · refine z_aload_n C0 dX11_sends_24 rfl 1 rfl ?_
          refine z_getr C0 hT0 kf_11_50 zr_11_6 zx_11 (zs_11_6 hT0).1 dX11_sends_25 ?_
          refine z_aload_n C0 dX11_sends_28 rfl 0 rfl ?_
          obtain ⟨μ7, e_μ7, h⟩ := zbd_of h
          refine z_callV (As := [.ref (zb g + w3)]) (rest := []) C0 rfl kc_X0_weigh km_RX11_183 (r_X0_weigh (l := l) (g := g) (a0 + 93) w3 μ (zs_11_6 hT0).2 (zgn_T g4 (by decide)) hSp e_μ7) (zs_11_6 hT0).2.1 (zs_11_6 hT0).2.2.2.1 rfl (by decide) rfl (Nat.le_of_ble_eq_true rfl) (Nat.le_of_ble_eq_true rfl) (Nat.le_of_ble_eq_true rfl) (Nat.le_of_ble_eq_true rfl) (Nat.le_refl _) rfl rfl dX11_sends_29 ?_
          refine z_aload_n C0 dX11_sends_32 rfl 1 rfl ?_
          refine z_getr C0 hT0 kf_11_50 zr_11_6 zx_11 (zs_11_6 hT0).1 dX11_sends_33 ?_
          refine z_aload_n C0 dX11_sends_36 rfl 0 rfl ?_
          obtain ⟨μ8, e_μ8, h⟩ := zbd_of h
          refine z_callV (As := [.ref (zb g + w3)]) (rest := []) C0 rfl kc_X0_chart km_RX11_193 (r_X0_chart (l := l) (g := g) (a0 + 93) w3 μ7 (zs_11_6 hT0).2 (zgn_T g4 (by decide)) hSp e_μ8) (zs_11_6 hT0).2.1 (zs_11_6 hT0).2.2.2.1 rfl (by decide) rfl (Nat.le_of_ble_eq_true rfl) (Nat.le_of_ble_eq_true rfl) (Nat.le_of_ble_eq_true rfl) (Nat.le_of_ble_eq_true rfl) (Nat.le_refl _) rfl rfl dX11_sends_37 ?_
          refine z_iload_n C0 dX11_sends_40 rfl 3 rfl ?_
          refine z_iconst (v := (2 : Int32)) C0 dX11_sends_41 (by decide) ?_
          refine z_icmp_ne C0 54 dX11_sends_42 (by decide) (fun c9 => ?_) (fun c9 => ?_)
          · have h := zif_t c9 h
            refine z_aload_n C0 dX11_sends_54 rfl 1 rfl ?_
            refine z_getr C0 hT0 kf_11_50 zr_11_6 zx_11 (zs_11_6 hT0).1 dX11_sends_55 ?_
            refine z_aload_n C0 dX11_sends_58 rfl 0 rfl ?_
            refine z_iload_n C0 dX11_sends_59 rfl 3 rfl ?_
            obtain ⟨x12, e_x12, h⟩ := zl_of h
            refine z_join μ8 68 [] [.int x12, .ref (zb g + w3), .ref (zb g + (a0 + 93))] ?_ (fun k_J11 => ?_)
            · obtain ⟨r13, μ14, e_r13, h⟩ := zbd2_of h
              refine z_callV (As := [.ref (zb g + w3), .int x12]) (rest := []) C0 rfl kc_X0_leastToTouch km_RX11_211 (r_X0_leastToTouch (l := l) (g := g) (a0 + 93) w3 x12 μ8 (zs_11_6 hT0).2 (zgn_T g4 (by decide)) e_r13) (zs_11_6 hT0).2.1 (zs_11_6 hT0).2.2.2.1 rfl (by decide) rfl (Nat.le_of_ble_eq_true rfl) (Nat.le_of_ble_eq_true rfl) (Nat.le_of_ble_eq_true rfl) (Nat.le_of_ble_eq_true rfl) (Nat.le_refl _) rfl rfl dX11_sends_68 ?_
              have h := kr_J2 _ (Option.some.inj h).symm
              have h := Option.some.inj h
              obtain ⟨rfl, rfl⟩ := Prod.mk.inj h
              exact z_iret C0 rfl dX11_sends_71
            · have h := e_x12.symm
              refine z_if_ne C0 67 dX11_sends_60 (by decide) (fun c10 => ?_) (fun c10 => ?_)
              · have h := zif_t c10 h
                refine z_iconst (v := (0 : Int32)) C0 dX11_sends_67 (by decide) ?_
                refine z_sub (lo1 := []) [] rfl ?_
                obtain rfl := h
                exact k_J11
              · have h := zif_f (fun q => q c10) h
                refine z_iconst (v := (1 : Int32)) C0 dX11_sends_63 (by decide) ?_
                refine z_goto C0 68 dX11_sends_64 (by decide) ?_
                refine z_sub (lo1 := []) [] rfl ?_
                obtain rfl := h
                exact k_J11
          · have h := zif_f (fun q => q c9) h
            refine z_aload_n C0 dX11_sends_45 rfl 1 rfl ?_
            refine z_getr C0 hT0 kf_11_50 zr_11_6 zx_11 (zs_11_6 hT0).1 dX11_sends_46 ?_
            refine z_aload_n C0 dX11_sends_49 rfl 0 rfl ?_
            obtain ⟨r15, μ16, e_r15, h⟩ := zbd2_of h
            refine z_callV (As := [.ref (zb g + w3)]) (rest := []) C0 rfl kc_X0_idleMourners km_RX11_207 (r_X0_idleMourners (l := l) (g := g) (a0 + 93) w3 μ8 (zs_11_6 hT0).2 (zgn_T g4 (by decide)) hSp e_r15) (zs_11_6 hT0).2.1 (zs_11_6 hT0).2.2.2.1 rfl (by decide) rfl (Nat.le_of_ble_eq_true rfl) (Nat.le_of_ble_eq_true rfl) (Nat.le_of_ble_eq_true rfl) (Nat.le_of_ble_eq_true rfl) (Nat.le_refl _) rfl rfl dX11_sends_50 ?_
            have h := kr_J2 _ (Option.some.inj h).symm
            have h := Option.some.inj h
            obtain ⟨rfl, rfl⟩ := Prod.mk.inj h
            exact z_iret C0 rfl dX11_sends_53
        · refine z_if_lt C0 22 dX11_sends_14 (by decide) (fun c5 => ?_) (fun c5 => ?_)
          · exact absurd hc19 (fun q => q.1 c5)
          · refine z_iload_n C0 dX11_sends_17 rfl 3 rfl ?_
            refine z_iconst (v := (2 : Int32)) C0 dX11_sends_18 (by decide) ?_
            refine z_icmp_le C0 24 dX11_sends_19 (by decide) (fun c6 => ?_) (fun c6 => ?_)
            · exact k20
            · exact absurd hc19 (fun q => c6 q.2)
      · have h := zif_f hc19 h
        refine z_join μ 22 [(3, .ref (zb g + w3)), (0, .ref (zb g + a0)), (1, .int v1), (2, .int v2)] [] ?_ (fun k21 => ?_)
        · refine z_sub (lo1 := []) [] rfl ?_
          exact k_J2 () (Option.some.inj h).symm
        · refine z_if_lt C0 22 dX11_sends_14 (by decide) (fun c5 => ?_) (fun c5 => ?_)
          · exact k21
          · refine z_iload_n C0 dX11_sends_17 rfl 3 rfl ?_
            refine z_iconst (v := (2 : Int32)) C0 dX11_sends_18 (by decide) ?_
            refine z_icmp_le C0 24 dX11_sends_19 (by decide) (fun c6 => ?_) (fun c6 => ?_)
            · exact absurd ⟨c5, c6⟩ hc19
            · exact k21
def f_X11_sight (a0 : Nat) (v1 : Int32) (v2 : Int32) (v3 : Int32) (μ : zM) : Option (Int32) :=
  zbd (f_X8_pageAt (a0 + 1) (2 : Int32) v1 μ) fun r1 =>
  zbd (f_X11_rowOf r1 v2 v3 (1 : Int32) μ) fun r2 =>
  some r2
set_option maxHeartbeats 4000000 in
set_option maxRecDepth 100000 in
theorem r_X11_sight {l : Launch} {g : zL} (a0 : Nat) (v1 : Int32) (v2 : Int32) (v3 : Int32) (μ : zM) (hT0 : zT zNN zσ1 a0 11) {rv : Int32} (h : f_X11_sight a0 v1 v2 v3 μ = some rv) : zMet l g yX11_sight cX11_sight 4 (some (.int)) 2 0 0 zNN zNN zσ1 zσ1 [.ref (zb g + a0), .int v1, .int v2, .int v3] μ (some (.int rv)) μ := by
  refine zMet.of (by decide +kernel) (Nat.le_of_ble_eq_true rfl) ?_
  intro p e s m args below meth c C0
  refine z_loc (lo1 := [(0, .ref (zb g + a0)), (1, .int v1), (2, .int v2), (3, .int v3)]) rfl ?_
  unfold f_X11_sight at h
  refine z_aload_n C0 dX11_sight_0 rfl 0 rfl ?_
  refine z_getr C0 hT0 kf_11_10 zr_11_0 zx_11 (zs_11_0 hT0).1 dX11_sight_1 ?_
  refine z_iconst (v := (2 : Int32)) C0 dX11_sight_4 (by decide) ?_
  refine z_iload_n C0 dX11_sight_5 rfl 1 rfl ?_
  obtain ⟨r1, e_r1, h⟩ := zbd_of h
  refine z_callV (As := [.int (2 : Int32), .int v1]) (rest := []) C0 rfl kc_X8_pageAt km_RX11_124 (r_X8_pageAt (l := l) (g := g) (a0 + 1) (2 : Int32) v1 μ (zs_11_0 hT0).2 e_r1) (zs_11_0 hT0).2.1 (zs_11_0 hT0).2.2.2.1 rfl (by decide) rfl (Nat.le_of_ble_eq_true rfl) (Nat.le_of_ble_eq_true rfl) (Nat.le_of_ble_eq_true rfl) (Nat.le_of_ble_eq_true rfl) (Nat.le_refl _) rfl rfl dX11_sight_6 ?_
  refine z_iload_n C0 dX11_sight_9 rfl 2 rfl ?_
  refine z_iload_n C0 dX11_sight_10 rfl 3 rfl ?_
  refine z_iconst (v := (1 : Int32)) C0 dX11_sight_11 (by decide) ?_
  obtain ⟨r2, e_r2, h⟩ := zbd_of h
  refine z_callS (As := [zopt (zb g) r1, .int v2, .int v3, .int (1 : Int32)]) (rest := []) C0 rfl kc_X11_rowOf km_RX11_128 (r_X11_rowOf (l := l) (g := g) r1 v2 v3 (1 : Int32) μ e_r2) rfl (Nat.le_of_ble_eq_true rfl) (Nat.le_of_ble_eq_true rfl) (Nat.le_of_ble_eq_true rfl) (Nat.le_of_ble_eq_true rfl) (Nat.le_refl _) rfl rfl dX11_sight_12 ?_
  have h := Option.some.inj h
  obtain rfl := h
  exact z_iret C0 rfl dX11_sight_15
def f_X11_state (a0 : Nat) (v1 : Int32) (v2 : Int32) (v3 : Int32) (v4 : Int32) (μ : zM) : Option (Int32 × zM) :=
  zbd2 (f_X11_sailTo a0 v1 v2 v3 μ) fun r1 μ2 =>
  zbd (if r1 = 0 then
      some (-2 : Int32)
    else
      zbd (f_X4_answer (a0 + 87) v4 μ2) fun r5 =>
      some r5) fun x6 =>
  some (x6, μ2)
set_option maxHeartbeats 4000000 in
set_option maxRecDepth 100000 in
theorem r_X11_state {l : Launch} {g : zL} (a0 : Nat) (v1 : Int32) (v2 : Int32) (v3 : Int32) (v4 : Int32) (μ : zM) (hT0 : zT zNN zσ1 a0 11) {rv : Int32} {μr : zM} (h : f_X11_state a0 v1 v2 v3 v4 μ = some (rv, μr)) : zMet l g yX11_state cX11_state 5 (some (.int)) 6 0 0 zNN zNN zσ1 zσ1 [.ref (zb g + a0), .int v1, .int v2, .int v3, .int v4] μ (some (.int rv)) μr := by
  refine zMet.of (by decide +kernel) (Nat.le_of_ble_eq_true rfl) ?_
  intro p e s m args below meth c C0
  refine z_loc (lo1 := [(0, .ref (zb g + a0)), (1, .int v1), (2, .int v2), (3, .int v3), (4, .int v4)]) rfl ?_
  unfold f_X11_state at h
  refine z_aload_n C0 dX11_state_0 rfl 0 rfl ?_
  refine z_iload_n C0 dX11_state_1 rfl 1 rfl ?_
  refine z_iload_n C0 dX11_state_2 rfl 2 rfl ?_
  refine z_iload_n C0 dX11_state_3 rfl 3 rfl ?_
  obtain ⟨r1, μ2, e_r1, h⟩ := zbd2_of h
  refine z_callV (As := [.int v1, .int v2, .int v3]) (rest := []) C0 rfl kc_X11_sailTo km_RX11_159 (r_X11_sailTo (l := l) (g := g) a0 v1 v2 v3 μ hT0 e_r1) hT0.1 hT0.2.2.1 rfl (by decide) rfl (Nat.le_of_ble_eq_true rfl) (Nat.le_of_ble_eq_true rfl) (Nat.le_of_ble_eq_true rfl) (Nat.le_of_ble_eq_true rfl) (Nat.le_refl _) rfl rfl dX11_state_4 ?_
  obtain ⟨x6, e_x6, h⟩ := zbd_of h
  refine z_join μ2 24 [] [.int x6] ?_ (fun k_J4 => ?_)
  · have h := Option.some.inj h
    obtain ⟨rfl, rfl⟩ := Prod.mk.inj h
    exact z_iret C0 rfl dX11_state_24
  · have h := e_x6
    refine z_if_eq C0 22 dX11_state_7 (by decide) (fun c3 => ?_) (fun c3 => ?_)
    · have h := zif_t c3 h
      refine z_bipush (v := (-2 : Int32)) C0 dX11_state_22 (by decide) ?_
      refine z_sub (lo1 := []) [] rfl ?_
      obtain rfl := (Option.some.inj h)
      exact k_J4
    · have h := zif_f c3 h
      refine z_aload_n C0 dX11_state_10 rfl 0 rfl ?_
      refine z_getr C0 hT0 kf_11_40 zr_11_4 zx_11 (zs_11_4 hT0).1 dX11_state_11 ?_
      refine z_iload C0 dX11_state_14 4 rfl ?_
      obtain ⟨r5, e_r5, h⟩ := zbd_of h
      refine z_callV (As := [.int v4]) (rest := []) C0 rfl kc_X4_answer km_RX11_162 (r_X4_answer (l := l) (g := g) (a0 + 87) v4 μ2 (zs_11_4 hT0).2 e_r5) (zs_11_4 hT0).2.1 (zs_11_4 hT0).2.2.2.1 rfl (by decide) rfl (Nat.le_of_ble_eq_true rfl) (Nat.le_of_ble_eq_true rfl) (Nat.le_of_ble_eq_true rfl) (Nat.le_of_ble_eq_true rfl) (Nat.le_refl _) rfl rfl dX11_state_16 ?_
      refine z_goto C0 24 dX11_state_19 (by decide) ?_
      refine z_sub (lo1 := []) [] rfl ?_
      obtain rfl := (Option.some.inj h)
      exact k_J4
def f_X11_stood (a0 : Nat) (v1 : Int32) (v2 : Int32) (v3 : Int32) (μ : zM) : Option (Int32 × zM) :=
  zbd (f_X8_lakeAt (a0 + 1) v1 μ) fun r1 =>
  zbd (f_X8_pageAt (a0 + 1) (2 : Int32) v2 μ) fun r2 =>
  zbd (zcase r1 (some (.inr ())) fun w4 => zg (zgn w4 1) <|
      zcase r2 (some (.inr ())) fun w6 => zg (zgn w6 6) <|
        if (¬ (v3 < 0)) ∧ (v3 ≤ (3 : Int32)) then
          zbd (f_X9_look (a0 + 106) w4 w6 (a0 + 87) μ) fun μ10 =>
          if v3 = (0 : Int32) then
            some (.inl ((μ10 (a0 + 106) 0), μ10))
          else
          if v3 = (1 : Int32) then
            some (.inl ((μ10 (a0 + 106) 1), μ10))
          else
          if v3 = (2 : Int32) then
            some (.inl ((μ10 (a0 + 106) 2), μ10))
          else
            some (.inl ((μ10 (a0 + 106) 3), μ10))
        else
          some (.inr ())) fun q11 => zsum q11 (fun t => some t) fun _ =>
  some ((-2 : Int32), μ)
set_option maxHeartbeats 4000000 in
set_option maxRecDepth 100000 in
theorem r_X11_stood {l : Launch} {g : zL} (a0 : Nat) (v1 : Int32) (v2 : Int32) (v3 : Int32) (μ : zM) (hT0 : zT zNN zσ1 a0 11) {rv : Int32} {μr : zM} (h : f_X11_stood a0 v1 v2 v3 μ = some (rv, μr)) : zMet l g yX11_stood cX11_stood 6 (some (.int)) 5 0 0 zNN zNN zσ1 zσ1 [.ref (zb g + a0), .int v1, .int v2, .int v3] μ (some (.int rv)) μr := by
  refine zMet.of (by decide +kernel) (Nat.le_of_ble_eq_true rfl) ?_
  intro p e s m args below meth c C0
  refine z_loc (lo1 := [(0, .ref (zb g + a0)), (1, .int v1), (2, .int v2), (3, .int v3)]) rfl ?_
  unfold f_X11_stood at h
  refine z_aload_n C0 dX11_stood_0 rfl 0 rfl ?_
  refine z_getr C0 hT0 kf_11_10 zr_11_0 zx_11 (zs_11_0 hT0).1 dX11_stood_1 ?_
  refine z_iload_n C0 dX11_stood_4 rfl 1 rfl ?_
  obtain ⟨r1, e_r1, h⟩ := zbd_of h
  refine z_callV (As := [.int v1]) (rest := []) C0 rfl kc_X8_lakeAt km_RX11_114 (r_X8_lakeAt (l := l) (g := g) (a0 + 1) v1 μ (zs_11_0 hT0).2 e_r1) (zs_11_0 hT0).2.1 (zs_11_0 hT0).2.2.2.1 rfl (by decide) rfl (Nat.le_of_ble_eq_true rfl) (Nat.le_of_ble_eq_true rfl) (Nat.le_of_ble_eq_true rfl) (Nat.le_of_ble_eq_true rfl) (Nat.le_refl _) rfl rfl dX11_stood_5 ?_
  refine z_astoreq (lo1 := [(4, zopt (zb g) r1), (0, .ref (zb g + a0)), (1, .int v1), (2, .int v2), (3, .int v3)]) C0 dX11_stood_8 (by decide) rfl ?_
  refine z_aload_n C0 dX11_stood_10 rfl 1 rfl ?_
  refine z_getr C0 hT0 kf_11_10 zr_11_0 zx_11 (zs_11_0 hT0).1 dX11_stood_11 ?_
  refine z_iconst (v := (2 : Int32)) C0 dX11_stood_14 (by decide) ?_
  refine z_iload_n C0 dX11_stood_15 rfl 3 rfl ?_
  obtain ⟨r2, e_r2, h⟩ := zbd_of h
  refine z_callV (As := [.int (2 : Int32), .int v2]) (rest := []) C0 rfl kc_X8_pageAt km_RX11_124 (r_X8_pageAt (l := l) (g := g) (a0 + 1) (2 : Int32) v2 μ (zs_11_0 hT0).2 e_r2) (zs_11_0 hT0).2.1 (zs_11_0 hT0).2.2.2.1 rfl (by decide) rfl (Nat.le_of_ble_eq_true rfl) (Nat.le_of_ble_eq_true rfl) (Nat.le_of_ble_eq_true rfl) (Nat.le_of_ble_eq_true rfl) (Nat.le_refl _) rfl rfl dX11_stood_16 ?_
  refine z_astoreq (lo1 := [(5, zopt (zb g) r2), (4, zopt (zb g) r1), (0, .ref (zb g + a0)), (1, .int v1), (2, .int v2), (3, .int v3)]) C0 dX11_stood_19 (by decide) (by simp [zopt_cat, zoptW_cat]) ?_
  refine z_aloadq C0 dX11_stood_21 1 rfl ?_
  obtain ⟨q11, e_q11, h⟩ := zbd_of h
  have kr_J3 := zsum_l h
  have kx_J3 := zsum_r h
  clear h
  refine z_joinq (fun o => q11 = Sum.inr o) (fun _ => μ) 40 (fun o => []) (fun o => []) ?_ (fun k_J3 => ?_)
  · intro u_ hq
    have h := kx_J3 _ hq
    refine z_bipush (v := (-2 : Int32)) C0 dX11_stood_40 (by decide) ?_
    have h := Option.some.inj h
    obtain ⟨rfl, rfl⟩ := Prod.mk.inj h
    exact z_iret C0 rfl dX11_stood_42
  · have h := e_q11
    refine z_ifnullq C0 40 dX11_stood_23 (by decide) (fun c12 => ?_) (fun w4 c12 => ?_)
    · have h_c12 := zcase_n c12 h
      clear h
      subst c12
      have h := h_c12
      refine z_loc (lo1 := [(5, zopt (zb g) r2), (4, .null), (0, .ref (zb g + a0)), (1, .int v1), (2, .int v2), (3, .int v3)]) rfl ?_
      refine z_sub (lo1 := []) [] rfl ?_
      exact k_J3 () (Option.some.inj h).symm
    · have h_c12 := zcase_s c12 h
      clear h
      subst c12
      have h := h_c12
      obtain ⟨g5, h⟩ := zg_of h
      refine z_loc (lo1 := [(5, zopt (zb g) r2), (4, .ref (zb g + w4)), (0, .ref (zb g + a0)), (1, .int v1), (2, .int v2), (3, .int v3)]) rfl ?_
      refine z_aloadq C0 dX11_stood_26 0 rfl ?_
      refine z_ifnullq C0 40 dX11_stood_28 (by decide) (fun c13 => ?_) (fun w6 c13 => ?_)
      · have h_c13 := zcase_n c13 h
        clear h
        subst c13
        have h := h_c13
        refine z_loc (lo1 := [(5, .null), (4, .ref (zb g + w4)), (0, .ref (zb g + a0)), (1, .int v1), (2, .int v2), (3, .int v3)]) rfl ?_
        refine z_sub (lo1 := []) [] rfl ?_
        exact k_J3 () (Option.some.inj h).symm
      · have h_c13 := zcase_s c13 h
        clear h
        subst c13
        have h := h_c13
        obtain ⟨g7, h⟩ := zg_of h
        refine z_loc (lo1 := [(5, .ref (zb g + w6)), (4, .ref (zb g + w4)), (0, .ref (zb g + a0)), (1, .int v1), (2, .int v2), (3, .int v3)]) rfl ?_
        refine z_iload_n C0 dX11_stood_31 rfl 5 rfl ?_
        by_cases hc14 : (¬ (v3 < 0)) ∧ (v3 ≤ (3 : Int32))
        · have h := zif_t hc14 h
          refine z_join μ 43 [(5, .ref (zb g + w6)), (4, .ref (zb g + w4)), (0, .ref (zb g + a0)), (1, .int v1), (2, .int v2), (3, .int v3)] [] ?_ (fun k15 => ?_)
          · refine z_aload_n C0 dX11_stood_43 rfl 2 rfl ?_
            refine z_getr C0 hT0 kf_11_64 zr_11_8 zx_11 (zs_11_8 hT0).1 dX11_stood_44 ?_
            refine z_aload C0 dX11_stood_47 1 rfl ?_
            refine z_aload C0 dX11_stood_49 0 rfl ?_
            refine z_aload_n C0 dX11_stood_51 rfl 2 rfl ?_
            refine z_getr C0 hT0 kf_11_40 zr_11_4 zx_11 (zs_11_4 hT0).1 dX11_stood_52 ?_
            obtain ⟨μ10, e_μ10, h⟩ := zbd_of h
            refine z_callV (As := [.ref (zb g + w4), .ref (zb g + w6), .ref (zb g + (a0 + 87))]) (rest := []) C0 rfl kc_X9_look km_RX11_232 (r_X9_look (l := l) (g := g) (a0 + 106) w4 w6 (a0 + 87) μ (zs_11_8 hT0).2 (zgn_T g5 (by decide)) (zgn_T g7 (by decide)) (zs_11_4 hT0).2 e_μ10) (zs_11_8 hT0).2.1 (zs_11_8 hT0).2.2.2.1 rfl (by decide) rfl (Nat.le_of_ble_eq_true rfl) (Nat.le_of_ble_eq_true rfl) (Nat.le_of_ble_eq_true rfl) (Nat.le_of_ble_eq_true rfl) (Nat.le_refl _) rfl rfl dX11_stood_55 ?_
            refine z_iload_n C0 dX11_stood_58 rfl 5 rfl ?_
            by_cases c16 : v3 = (0 : Int32)
            · have h := zif_t c16 h
              refine z_tabK C0 (25) 84 dX11_stood_59 c16 (by decide) (by decide) (by decide) (by decide) ?_
              refine z_aload_n C0 dX11_stood_84 rfl 2 rfl ?_
              refine z_getr C0 hT0 kf_11_64 zr_11_8 zx_11 (zs_11_8 hT0).1 dX11_stood_85 ?_
              refine z_geti C0 (zs_11_8 hT0).2.1 (zs_11_8 hT0).2.2.2.1 kf_11_236 zr_9_0 dX11_stood_88 ?_
              have h := kr_J3 _ (Option.some.inj h).symm
              have h := Option.some.inj h
              obtain ⟨rfl, rfl⟩ := Prod.mk.inj h
              exact z_iret C0 rfl dX11_stood_91
            · have h := zif_f c16 h
              by_cases c17 : v3 = (1 : Int32)
              · have h := zif_t c17 h
                refine z_tabK C0 (33) 92 dX11_stood_59 c17 (by decide) (by decide) (by decide) (by decide) ?_
                refine z_aload_n C0 dX11_stood_92 rfl 2 rfl ?_
                refine z_getr C0 hT0 kf_11_64 zr_11_8 zx_11 (zs_11_8 hT0).1 dX11_stood_93 ?_
                refine z_geti C0 (zs_11_8 hT0).2.1 (zs_11_8 hT0).2.2.2.1 kf_11_239 zr_9_1 dX11_stood_96 ?_
                have h := kr_J3 _ (Option.some.inj h).symm
                have h := Option.some.inj h
                obtain ⟨rfl, rfl⟩ := Prod.mk.inj h
                exact z_iret C0 rfl dX11_stood_99
              · have h := zif_f c17 h
                by_cases c18 : v3 = (2 : Int32)
                · have h := zif_t c18 h
                  refine z_tabK C0 (41) 100 dX11_stood_59 c18 (by decide) (by decide) (by decide) (by decide) ?_
                  refine z_aload_n C0 dX11_stood_100 rfl 2 rfl ?_
                  refine z_getr C0 hT0 kf_11_64 zr_11_8 zx_11 (zs_11_8 hT0).1 dX11_stood_101 ?_
                  refine z_geti C0 (zs_11_8 hT0).2.1 (zs_11_8 hT0).2.2.2.1 kf_11_242 zr_9_2 dX11_stood_104 ?_
                  have h := kr_J3 _ (Option.some.inj h).symm
                  have h := Option.some.inj h
                  obtain ⟨rfl, rfl⟩ := Prod.mk.inj h
                  exact z_iret C0 rfl dX11_stood_107
                · have h := zif_f c18 h
                  refine z_join μ10 108 [(5, .ref (zb g + w6)), (4, .ref (zb g + w4)), (0, .ref (zb g + a0)), (1, .int v1), (2, .int v2), (3, .int v3)] [] ?_ (fun k19 => ?_)
                  · refine z_aload_n C0 dX11_stood_108 rfl 2 rfl ?_
                    refine z_getr C0 hT0 kf_11_64 zr_11_8 zx_11 (zs_11_8 hT0).1 dX11_stood_109 ?_
                    refine z_geti C0 (zs_11_8 hT0).2.1 (zs_11_8 hT0).2.2.2.1 kf_11_245 zr_9_3 dX11_stood_112 ?_
                    have h := kr_J3 _ (Option.some.inj h).symm
                    have h := Option.some.inj h
                    obtain ⟨rfl, rfl⟩ := Prod.mk.inj h
                    exact z_iret C0 rfl dX11_stood_115
                  · have c16 : v3.toInt ≠ 0 := fun q => c16 (Int32.toInt_inj.mp (q.trans (by decide)))
                    have c17 : v3.toInt ≠ 1 := fun q => c17 (Int32.toInt_inj.mp (q.trans (by decide)))
                    have c18 : v3.toInt ≠ 2 := fun q => c18 (Int32.toInt_inj.mp (q.trans (by decide)))
                    exact z_tabOut C0 108 dX11_stood_59 (by omega) (by decide) k19
          · refine z_if_lt C0 40 dX11_stood_32 (by decide) (fun c8 => ?_) (fun c8 => ?_)
            · exact absurd hc14 (fun q => q.1 c8)
            · refine z_iload_n C0 dX11_stood_35 rfl 5 rfl ?_
              refine z_iconst (v := (3 : Int32)) C0 dX11_stood_36 (by decide) ?_
              refine z_icmp_le C0 43 dX11_stood_37 (by decide) (fun c9 => ?_) (fun c9 => ?_)
              · exact k15
              · exact absurd hc14 (fun q => c9 q.2)
        · have h := zif_f hc14 h
          refine z_join μ 40 [(5, .ref (zb g + w6)), (4, .ref (zb g + w4)), (0, .ref (zb g + a0)), (1, .int v1), (2, .int v2), (3, .int v3)] [] ?_ (fun k20 => ?_)
          · refine z_sub (lo1 := []) [] rfl ?_
            exact k_J3 () (Option.some.inj h).symm
          · refine z_if_lt C0 40 dX11_stood_32 (by decide) (fun c8 => ?_) (fun c8 => ?_)
            · exact k20
            · refine z_iload_n C0 dX11_stood_35 rfl 5 rfl ?_
              refine z_iconst (v := (3 : Int32)) C0 dX11_stood_36 (by decide) ?_
              refine z_icmp_le C0 43 dX11_stood_37 (by decide) (fun c9 => ?_) (fun c9 => ?_)
              · exact absurd ⟨c8, c9⟩ hc14
              · exact k20
def f_X11_stop_L43 (a0 : Nat) (w6 : Nat) : Nat → Int32 → zM → Option (Int32 × zM)
  | 0, _, _ => none
  | n + 1, y11, μ12 =>
    if (μ12 w6 2) ≤ y11 then
      some (y11, μ12)
    else
      zbd (f_X6_number w6 y11 (0 : Int32) μ12) fun r14 =>
      zbd (f_X6_number w6 y11 (1 : Int32) μ12) fun r15 =>
      zbd (f_X6_number w6 y11 (2 : Int32) μ12) fun r16 =>
      zbd2 (f_X4_obeys (a0 + 87) r14 r15 r16 μ12) fun r17 μ18 =>
      if r17 = 0 then
        some (y11, μ18)
      else
        zl (y11 + (1 : Int32)) fun x20 =>
        f_X11_stop_L43 a0 w6 n x20 μ18
def f_X11_stop (a0 : Nat) (v1 : Int32) (v2 : Int32) (μ : zM) : Option (Int32 × zM) :=
  zbd (f_X8_lakeAt (a0 + 1) v1 μ) fun r1 =>
  zbd (f_X8_pageAt (a0 + 1) (1 : Int32) v2 μ) fun r2 =>
  zbd (zcase r1 (some (.inr ())) fun w4 => zg (zgn w4 1) <|
      zcase r2 (some (.inr ())) fun w6 => zg (zgn w6 6) <|
        zbd (f_X4_launch (a0 + 87) w4 w4 μ) fun μ8 =>
        zbd2 (f_X11_stop_L43 a0 w6 zFU (0 : Int32) μ8) fun x21 μ22 =>
        some (.inl (x21, μ22))) fun q23 => zsum q23 (fun t => some t) fun _ =>
  some ((-1 : Int32), μ)
set_option maxHeartbeats 4000000 in
set_option maxRecDepth 100000 in
theorem r_X11_stop_L43 {l : Launch} {g : zL} {p : Program} {e : Env} {s : State} {m : MethodId} {args : Array Value} {below : List Frame} {meth : Method} {c : Code} {Q : State → Prop} (C0 : zC p s m args meth c g cX11_stop yX11_stop 6 (some (.int))) (a0 : Nat) (w6 : Nat) (hU9 : zT zNN zσ1 a0 11) (hU10 : zT zNN zσ1 w6 6) : ∀ (n : Nat) (y11 : Int32) (μ12 : zM) (x21 : Int32) (μ22 : zM), f_X11_stop_L43 a0 w6 n y11 μ12 = some (x21, μ22) → Z p l e (zrm 5 0 0) s m args below meth c g Q 6 zNN 0 0 zσ1 μ22 93 [(5, .int x21)] [] → Z p l e (zrm 5 0 0) s m args below meth c g Q 6 zNN 0 0 zσ1 μ12 43 [(0, .ref (zb g + a0)), (4, .ref (zb g + w6)), (5, .int y11)] [] := by
  intro n
  induction n with
  | zero =>
    intro y11 μ12 x21 μ22 h kx
    rw [f_X11_stop_L43] at h
    cases h
  | succ n ih =>
    intro y11 μ12 x21 μ22 h kx
    rw [f_X11_stop_L43] at h
    refine z_iload C0 dX11_stop_43 2 rfl ?_
    refine z_aload C0 dX11_stop_45 1 rfl ?_
    refine z_geti C0 hU10.1 hU10.2.2.1 kf_11_132 zr_6_2 dX11_stop_47 ?_
    refine z_icmp_ge C0 93 dX11_stop_50 (by decide) (fun c13 => ?_) (fun c13 => ?_)
    · have h := zif_t c13 h
      refine z_sub (lo1 := [(5, .int y11)]) [2] rfl ?_
      obtain ⟨rfl, rfl⟩ := Prod.mk.inj (Option.some.inj h)
      exact kx
    · have h := zif_f c13 h
      refine z_aload_n C0 dX11_stop_53 rfl 0 rfl ?_
      refine z_getr C0 hU9 kf_11_40 zr_11_4 zx_11 (zs_11_4 hU9).1 dX11_stop_54 ?_
      refine z_aload C0 dX11_stop_57 1 rfl ?_
      refine z_iload C0 dX11_stop_59 2 rfl ?_
      refine z_iconst (v := (0 : Int32)) C0 dX11_stop_61 (by decide) ?_
      obtain ⟨r14, e_r14, h⟩ := zbd_of h
      refine z_callV (As := [.int y11, .int (0 : Int32)]) (rest := [.ref (zb g + (a0 + 87))]) C0 rfl kc_X6_number km_RX11_141 (r_X6_number (l := l) (g := g) w6 y11 (0 : Int32) μ12 hU10 e_r14) hU10.1 hU10.2.2.1 rfl (by decide) rfl (Nat.le_of_ble_eq_true rfl) (Nat.le_of_ble_eq_true rfl) (Nat.le_of_ble_eq_true rfl) (Nat.le_of_ble_eq_true rfl) (Nat.le_refl _) rfl rfl dX11_stop_62 ?_
      refine z_aload C0 dX11_stop_65 1 rfl ?_
      refine z_iload C0 dX11_stop_67 2 rfl ?_
      refine z_iconst (v := (1 : Int32)) C0 dX11_stop_69 (by decide) ?_
      obtain ⟨r15, e_r15, h⟩ := zbd_of h
      refine z_callV (As := [.int y11, .int (1 : Int32)]) (rest := [.int r14, .ref (zb g + (a0 + 87))]) C0 rfl kc_X6_number km_RX11_141 (r_X6_number (l := l) (g := g) w6 y11 (1 : Int32) μ12 hU10 e_r15) hU10.1 hU10.2.2.1 rfl (by decide) rfl (Nat.le_of_ble_eq_true rfl) (Nat.le_of_ble_eq_true rfl) (Nat.le_of_ble_eq_true rfl) (Nat.le_of_ble_eq_true rfl) (Nat.le_refl _) rfl rfl dX11_stop_70 ?_
      refine z_aload C0 dX11_stop_73 1 rfl ?_
      refine z_iload C0 dX11_stop_75 2 rfl ?_
      refine z_iconst (v := (2 : Int32)) C0 dX11_stop_77 (by decide) ?_
      obtain ⟨r16, e_r16, h⟩ := zbd_of h
      refine z_callV (As := [.int y11, .int (2 : Int32)]) (rest := [.int r15, .int r14, .ref (zb g + (a0 + 87))]) C0 rfl kc_X6_number km_RX11_141 (r_X6_number (l := l) (g := g) w6 y11 (2 : Int32) μ12 hU10 e_r16) hU10.1 hU10.2.2.1 rfl (by decide) rfl (Nat.le_of_ble_eq_true rfl) (Nat.le_of_ble_eq_true rfl) (Nat.le_of_ble_eq_true rfl) (Nat.le_of_ble_eq_true rfl) (Nat.le_refl _) rfl rfl dX11_stop_78 ?_
      obtain ⟨r17, μ18, e_r17, h⟩ := zbd2_of h
      refine z_callV (As := [.int r14, .int r15, .int r16]) (rest := []) C0 rfl kc_X4_obeys km_RX11_155 (r_X4_obeys (l := l) (g := g) (a0 + 87) r14 r15 r16 μ12 (zs_11_4 hU9).2 e_r17) (zs_11_4 hU9).2.1 (zs_11_4 hU9).2.2.2.1 rfl (by decide) rfl (Nat.le_of_ble_eq_true rfl) (Nat.le_of_ble_eq_true rfl) (Nat.le_of_ble_eq_true rfl) (Nat.le_of_ble_eq_true rfl) (Nat.le_refl _) rfl rfl dX11_stop_81 ?_
      refine z_if_eq C0 93 dX11_stop_84 (by decide) (fun c19 => ?_) (fun c19 => ?_)
      · have h := zif_t c19 h
        refine z_sub (lo1 := [(5, .int y11)]) [2] rfl ?_
        obtain ⟨rfl, rfl⟩ := Prod.mk.inj (Option.some.inj h)
        exact kx
      · have h := zif_f c19 h
        obtain ⟨x20, e_x20, h⟩ := zl_of h
        refine z_iinc (lo1 := [(5, .int x20), (0, .ref (zb g + a0)), (4, .ref (zb g + w6))]) C0 dX11_stop_87 2 rfl (by decide) e_x20.symm (by decide) rfl ?_
        refine z_goto C0 43 dX11_stop_90 (by decide) ?_
        refine z_sub (lo1 := [(0, .ref (zb g + a0)), (4, .ref (zb g + w6)), (5, .int x20)]) [1, 2, 0] rfl ?_
        exact ih _ _ _ _ h kx
set_option maxHeartbeats 4000000 in
set_option maxRecDepth 100000 in
theorem r_X11_stop {l : Launch} {g : zL} (a0 : Nat) (v1 : Int32) (v2 : Int32) (μ : zM) (hT0 : zT zNN zσ1 a0 11) {rv : Int32} {μr : zM} (h : f_X11_stop a0 v1 v2 μ = some (rv, μr)) : zMet l g yX11_stop cX11_stop 6 (some (.int)) 5 0 0 zNN zNN zσ1 zσ1 [.ref (zb g + a0), .int v1, .int v2] μ (some (.int rv)) μr := by
  refine zMet.of (by decide +kernel) (Nat.le_of_ble_eq_true rfl) ?_
  intro p e s m args below meth c C0
  refine z_loc (lo1 := [(0, .ref (zb g + a0)), (1, .int v1), (2, .int v2)]) rfl ?_
  unfold f_X11_stop at h
  refine z_aload_n C0 dX11_stop_0 rfl 0 rfl ?_
  refine z_getr C0 hT0 kf_11_10 zr_11_0 zx_11 (zs_11_0 hT0).1 dX11_stop_1 ?_
  refine z_iload_n C0 dX11_stop_4 rfl 1 rfl ?_
  obtain ⟨r1, e_r1, h⟩ := zbd_of h
  refine z_callV (As := [.int v1]) (rest := []) C0 rfl kc_X8_lakeAt km_RX11_114 (r_X8_lakeAt (l := l) (g := g) (a0 + 1) v1 μ (zs_11_0 hT0).2 e_r1) (zs_11_0 hT0).2.1 (zs_11_0 hT0).2.2.2.1 rfl (by decide) rfl (Nat.le_of_ble_eq_true rfl) (Nat.le_of_ble_eq_true rfl) (Nat.le_of_ble_eq_true rfl) (Nat.le_of_ble_eq_true rfl) (Nat.le_refl _) rfl rfl dX11_stop_5 ?_
  refine z_astoreq_n (lo1 := [(3, zopt (zb g) r1), (0, .ref (zb g + a0)), (1, .int v1), (2, .int v2)]) C0 dX11_stop_8 rfl (by decide) rfl ?_
  refine z_aload_n C0 dX11_stop_9 rfl 1 rfl ?_
  refine z_getr C0 hT0 kf_11_10 zr_11_0 zx_11 (zs_11_0 hT0).1 dX11_stop_10 ?_
  refine z_iconst (v := (1 : Int32)) C0 dX11_stop_13 (by decide) ?_
  refine z_iload_n C0 dX11_stop_14 rfl 3 rfl ?_
  obtain ⟨r2, e_r2, h⟩ := zbd_of h
  refine z_callV (As := [.int (1 : Int32), .int v2]) (rest := []) C0 rfl kc_X8_pageAt km_RX11_124 (r_X8_pageAt (l := l) (g := g) (a0 + 1) (1 : Int32) v2 μ (zs_11_0 hT0).2 e_r2) (zs_11_0 hT0).2.1 (zs_11_0 hT0).2.2.2.1 rfl (by decide) rfl (Nat.le_of_ble_eq_true rfl) (Nat.le_of_ble_eq_true rfl) (Nat.le_of_ble_eq_true rfl) (Nat.le_of_ble_eq_true rfl) (Nat.le_refl _) rfl rfl dX11_stop_15 ?_
  refine z_astoreq (lo1 := [(4, zopt (zb g) r2), (3, zopt (zb g) r1), (0, .ref (zb g + a0)), (1, .int v1), (2, .int v2)]) C0 dX11_stop_18 (by decide) (by simp [zopt_cat, zoptW_cat]) ?_
  refine z_aloadq_n C0 dX11_stop_20 rfl 1 rfl ?_
  obtain ⟨q23, e_q23, h⟩ := zbd_of h
  have kr_J3 := zsum_l h
  have kx_J3 := zsum_r h
  clear h
  refine z_joinq (fun o => q23 = Sum.inr o) (fun _ => μ) 29 (fun o => []) (fun o => []) ?_ (fun k_J3 => ?_)
  · intro u_ hq
    have h := kx_J3 _ hq
    refine z_iconst (v := (-1 : Int32)) C0 dX11_stop_29 (by decide) ?_
    have h := Option.some.inj h
    obtain ⟨rfl, rfl⟩ := Prod.mk.inj h
    exact z_iret C0 rfl dX11_stop_30
  · have h := e_q23
    refine z_ifnullq C0 29 dX11_stop_21 (by decide) (fun c24 => ?_) (fun w4 c24 => ?_)
    · have h_c24 := zcase_n c24 h
      clear h
      subst c24
      have h := h_c24
      refine z_loc (lo1 := [(4, zopt (zb g) r2), (3, .null), (0, .ref (zb g + a0)), (1, .int v1), (2, .int v2)]) rfl ?_
      refine z_sub (lo1 := []) [] rfl ?_
      exact k_J3 () (Option.some.inj h).symm
    · have h_c24 := zcase_s c24 h
      clear h
      subst c24
      have h := h_c24
      obtain ⟨g5, h⟩ := zg_of h
      refine z_loc (lo1 := [(4, zopt (zb g) r2), (3, .ref (zb g + w4)), (0, .ref (zb g + a0)), (1, .int v1), (2, .int v2)]) rfl ?_
      refine z_aloadq C0 dX11_stop_24 0 rfl ?_
      refine z_ifnonnullq C0 31 dX11_stop_26 (by decide) (fun w6 c25 => ?_) (fun c25 => ?_)
      · have h_c25 := zcase_s c25 h
        clear h
        subst c25
        have h := h_c25
        obtain ⟨g7, h⟩ := zg_of h
        refine z_loc (lo1 := [(4, .ref (zb g + w6)), (3, .ref (zb g + w4)), (0, .ref (zb g + a0)), (1, .int v1), (2, .int v2)]) rfl ?_
        refine z_aload_n C0 dX11_stop_31 rfl 2 rfl ?_
        refine z_getr C0 hT0 kf_11_40 zr_11_4 zx_11 (zs_11_4 hT0).1 dX11_stop_32 ?_
        refine z_aload_n C0 dX11_stop_35 rfl 1 rfl ?_
        refine z_aload_n C0 dX11_stop_36 rfl 1 rfl ?_
        obtain ⟨μ8, e_μ8, h⟩ := zbd_of h
        refine z_callV (As := [.ref (zb g + w4), .ref (zb g + w4)]) (rest := []) C0 rfl kc_X4_launch km_RX11_151 (r_X4_launch (l := l) (g := g) (a0 + 87) w4 w4 μ (zs_11_4 hT0).2 (zgn_T g5 (by decide)) (zgn_T g5 (by decide)) e_μ8) (zs_11_4 hT0).2.1 (zs_11_4 hT0).2.2.2.1 rfl (by decide) rfl (Nat.le_of_ble_eq_true rfl) (Nat.le_of_ble_eq_true rfl) (Nat.le_of_ble_eq_true rfl) (Nat.le_of_ble_eq_true rfl) (Nat.le_refl _) rfl rfl dX11_stop_37 ?_
        refine z_iconst (v := (0 : Int32)) C0 dX11_stop_40 (by decide) ?_
        refine z_istore (lo1 := [(5, .int (0 : Int32)), (4, .ref (zb g + w6)), (3, .ref (zb g + w4)), (0, .ref (zb g + a0)), (1, .int v1), (2, .int v2)]) C0 dX11_stop_41 (by decide) rfl ?_
        refine z_sub (lo1 := [(0, .ref (zb g + a0)), (4, .ref (zb g + w6)), (5, .int (0 : Int32))]) [3, 1, 0] rfl ?_
        obtain ⟨x21, μ22, e_x21, h⟩ := zbd2_of h
        refine r_X11_stop_L43 C0 a0 w6 hT0 (zgn_T g7 (by decide)) zFU (0 : Int32) μ8 x21 μ22 e_x21 ?_
        refine z_iload C0 dX11_stop_93 0 rfl ?_
        have h := kr_J3 _ (Option.some.inj h).symm
        have h := Option.some.inj h
        obtain ⟨rfl, rfl⟩ := Prod.mk.inj h
        exact z_iret C0 rfl dX11_stop_95
      · have h_c25 := zcase_n c25 h
        clear h
        subst c25
        have h := h_c25
        refine z_loc (lo1 := [(4, .null), (3, .ref (zb g + w4)), (0, .ref (zb g + a0)), (1, .int v1), (2, .int v2)]) rfl ?_
        refine z_sub (lo1 := []) [] rfl ?_
        exact k_J3 () (Option.some.inj h).symm
def f_X11_term (a0 : Nat) (v1 : Int32) (v2 : Int32) (v3 : Int32) (μ : zM) : Option (Int32) :=
  zbd (f_X8_pageAt (a0 + 1) (4 : Int32) v1 μ) fun r1 =>
  zbd (f_X11_rowOf r1 v2 v3 (2 : Int32) μ) fun r2 =>
  some r2
set_option maxHeartbeats 4000000 in
set_option maxRecDepth 100000 in
theorem r_X11_term {l : Launch} {g : zL} (a0 : Nat) (v1 : Int32) (v2 : Int32) (v3 : Int32) (μ : zM) (hT0 : zT zNN zσ1 a0 11) {rv : Int32} (h : f_X11_term a0 v1 v2 v3 μ = some rv) : zMet l g yX11_term cX11_term 4 (some (.int)) 2 0 0 zNN zNN zσ1 zσ1 [.ref (zb g + a0), .int v1, .int v2, .int v3] μ (some (.int rv)) μ := by
  refine zMet.of (by decide +kernel) (Nat.le_of_ble_eq_true rfl) ?_
  intro p e s m args below meth c C0
  refine z_loc (lo1 := [(0, .ref (zb g + a0)), (1, .int v1), (2, .int v2), (3, .int v3)]) rfl ?_
  unfold f_X11_term at h
  refine z_aload_n C0 dX11_term_0 rfl 0 rfl ?_
  refine z_getr C0 hT0 kf_11_10 zr_11_0 zx_11 (zs_11_0 hT0).1 dX11_term_1 ?_
  refine z_iconst (v := (4 : Int32)) C0 dX11_term_4 (by decide) ?_
  refine z_iload_n C0 dX11_term_5 rfl 1 rfl ?_
  obtain ⟨r1, e_r1, h⟩ := zbd_of h
  refine z_callV (As := [.int (4 : Int32), .int v1]) (rest := []) C0 rfl kc_X8_pageAt km_RX11_124 (r_X8_pageAt (l := l) (g := g) (a0 + 1) (4 : Int32) v1 μ (zs_11_0 hT0).2 e_r1) (zs_11_0 hT0).2.1 (zs_11_0 hT0).2.2.2.1 rfl (by decide) rfl (Nat.le_of_ble_eq_true rfl) (Nat.le_of_ble_eq_true rfl) (Nat.le_of_ble_eq_true rfl) (Nat.le_of_ble_eq_true rfl) (Nat.le_refl _) rfl rfl dX11_term_6 ?_
  refine z_iload_n C0 dX11_term_9 rfl 2 rfl ?_
  refine z_iload_n C0 dX11_term_10 rfl 3 rfl ?_
  refine z_iconst (v := (2 : Int32)) C0 dX11_term_11 (by decide) ?_
  obtain ⟨r2, e_r2, h⟩ := zbd_of h
  refine z_callS (As := [zopt (zb g) r1, .int v2, .int v3, .int (2 : Int32)]) (rest := []) C0 rfl kc_X11_rowOf km_RX11_128 (r_X11_rowOf (l := l) (g := g) r1 v2 v3 (2 : Int32) μ e_r2) rfl (Nat.le_of_ble_eq_true rfl) (Nat.le_of_ble_eq_true rfl) (Nat.le_of_ble_eq_true rfl) (Nat.le_of_ble_eq_true rfl) (Nat.le_refl _) rfl rfl dX11_term_12 ?_
  have h := Option.some.inj h
  obtain rfl := h
  exact z_iret C0 rfl dX11_term_15
def f_X11_text (a0 : Nat) (v1 : Int32) (v2 : Int32) (μ : zM) : Option (Int32 × zM) :=
  zbd (f_X8_slotFor (a0 + 1) v1 v2 μ) fun r1 =>
  if ¬ r1 = (-1 : Int32) then
    zbd (f_X5_read (a0 + 58) ((a0 + 1) + 1) (μ (a0 + 1) 1) v1 μ) fun μ3 =>
    zl (zup μ3 (a0 + 1) 1 (0 : Int32)) fun μ4 =>
    zl (zup μ4 (a0 + 1) 2 (μ4 (a0 + 58) 2)) fun μ5 =>
    zl (zup μ5 (a0 + 1) 3 (μ5 (a0 + 58) 3)) fun μ6 =>
    if (μ6 (a0 + 58) 2) = 0 then
      zbd (f_X8_take (a0 + 1) v1 r1 (a0 + 58) μ6) fun μ8 =>
      some (r1, μ8)
    else
      some ((-1 : Int32), μ6)
  else
    zl (zup μ (a0 + 1) 1 (0 : Int32)) fun μ9 =>
    zl (zup μ9 (a0 + 1) 2 (0 : Int32)) fun μ10 =>
    zl (zup μ10 (a0 + 1) 3 (-1 : Int32)) fun μ11 =>
    some ((-2 : Int32), μ11)
set_option maxHeartbeats 4000000 in
set_option maxRecDepth 100000 in
theorem r_X11_text {l : Launch} {g : zL} {κ : zK} (a0 : Nat) (v1 : Int32) (v2 : Int32) (μ : zM) (hT0 : zT zNN zσ1 a0 11) (hSp : zSK g κ) {rv : Int32} {μr : zM} (h : f_X11_text a0 v1 v2 μ = some (rv, μr)) : zMet l g yX11_text cX11_text 4 (some (.int)) 8 0 0 zNN zNN zσ1 zσ1 [.ref (zb g + a0), .int v1, .int v2] μ (some (.int rv)) μr := by
  refine zMet.of (by decide +kernel) (Nat.le_of_ble_eq_true rfl) ?_
  intro p e s m args below meth c C0
  have hF := hSp.at C0
  refine z_loc (lo1 := [(0, .ref (zb g + a0)), (1, .int v1), (2, .int v2)]) rfl ?_
  unfold f_X11_text at h
  refine z_aload_n C0 dX11_text_0 rfl 0 rfl ?_
  refine z_getr C0 hT0 kf_11_10 zr_11_0 zx_11 (zs_11_0 hT0).1 dX11_text_1 ?_
  refine z_iload_n C0 dX11_text_4 rfl 1 rfl ?_
  refine z_iload_n C0 dX11_text_5 rfl 2 rfl ?_
  obtain ⟨r1, e_r1, h⟩ := zbd_of h
  refine z_callV (As := [.int v1, .int v2]) (rest := []) C0 rfl kc_X8_slotFor km_RX11_90 (r_X8_slotFor (l := l) (g := g) (a0 + 1) v1 v2 μ (zs_11_0 hT0).2 e_r1) (zs_11_0 hT0).2.1 (zs_11_0 hT0).2.2.2.1 rfl (by decide) rfl (Nat.le_of_ble_eq_true rfl) (Nat.le_of_ble_eq_true rfl) (Nat.le_of_ble_eq_true rfl) (Nat.le_of_ble_eq_true rfl) (Nat.le_refl _) rfl rfl dX11_text_6 ?_
  refine z_istore_n (lo1 := [(3, .int r1), (0, .ref (zb g + a0)), (1, .int v1), (2, .int v2)]) C0 dX11_text_9 rfl (by decide) rfl ?_
  refine z_iload_n C0 dX11_text_10 rfl 0 rfl ?_
  refine z_iconst (v := (-1 : Int32)) C0 dX11_text_11 (by decide) ?_
  refine z_icmp_ne C0 42 dX11_text_12 (by decide) (fun c2 => ?_) (fun c2 => ?_)
  · have h := zif_t c2 h
    refine z_aload_n C0 dX11_text_42 rfl 1 rfl ?_
    refine z_getr C0 hT0 kf_11_27 zr_11_3 zx_11 (zs_11_3 hT0).1 dX11_text_43 ?_
    refine z_aload_n C0 dX11_text_46 rfl 1 rfl ?_
    refine z_getr C0 hT0 kf_11_10 zr_11_0 zx_11 (zs_11_0 hT0).1 dX11_text_47 ?_
    refine z_getr C0 (zs_11_0 hT0).2 kf_11_100 zr_8_0 zx_8 (zs_8_0 (zs_11_0 hT0).2).1 dX11_text_50 ?_
    refine z_aload_n C0 dX11_text_53 rfl 1 rfl ?_
    refine z_getr C0 hT0 kf_11_10 zr_11_0 zx_11 (zs_11_0 hT0).1 dX11_text_54 ?_
    refine z_geti C0 (zs_11_0 hT0).2.1 (zs_11_0 hT0).2.2.2.1 kf_11_82 zr_8_1 dX11_text_57 ?_
    refine z_iload_n C0 dX11_text_60 rfl 2 rfl ?_
    obtain ⟨μ3, e_μ3, h⟩ := zbd_of h
    refine z_callV (As := [.ref (zb g + ((a0 + 1) + 1)), .int (μ (a0 + 1) 1), .int v1]) (rest := []) C0 rfl kc_X5_read km_RX11_104 (r_X5_read (l := l) (g := g) (a0 + 58) ((a0 + 1) + 1) (μ (a0 + 1) 1) v1 μ (zs_11_3 hT0).2 (zAr_ln (zs_8_0 (zs_11_0 hT0).2).2) hSp e_μ3) (zs_11_3 hT0).2.1 (zs_11_3 hT0).2.2.2.1 rfl (by decide) rfl (Nat.le_of_ble_eq_true rfl) (Nat.le_of_ble_eq_true rfl) (Nat.le_of_ble_eq_true rfl) (Nat.le_of_ble_eq_true rfl) (Nat.le_refl _) rfl rfl dX11_text_61 ?_
    refine z_aload_n C0 dX11_text_64 rfl 1 rfl ?_
    refine z_getr C0 hT0 kf_11_10 zr_11_0 zx_11 (zs_11_0 hT0).1 dX11_text_65 ?_
    refine z_iconst (v := (0 : Int32)) C0 dX11_text_68 (by decide) ?_
    obtain ⟨μ4, e_μ4, h⟩ := zl_of h
    refine z_puti C0 (zs_11_0 hT0).2.1 (zs_11_0 hT0).2.2.2.1 kf_11_82 zp_8_1 zr_8_1 e_μ4 dX11_text_69 ?_
    refine z_aload_n C0 dX11_text_72 rfl 1 rfl ?_
    refine z_getr C0 hT0 kf_11_10 zr_11_0 zx_11 (zs_11_0 hT0).1 dX11_text_73 ?_
    refine z_aload_n C0 dX11_text_76 rfl 1 rfl ?_
    refine z_getr C0 hT0 kf_11_27 zr_11_3 zx_11 (zs_11_3 hT0).1 dX11_text_77 ?_
    refine z_geti C0 (zs_11_3 hT0).2.1 (zs_11_3 hT0).2.2.2.1 kf_11_108 zr_5_2 dX11_text_80 ?_
    obtain ⟨μ5, e_μ5, h⟩ := zl_of h
    refine z_puti C0 (zs_11_0 hT0).2.1 (zs_11_0 hT0).2.2.2.1 kf_11_94 zp_8_2 zr_8_2 e_μ5 dX11_text_83 ?_
    refine z_aload_n C0 dX11_text_86 rfl 1 rfl ?_
    refine z_getr C0 hT0 kf_11_10 zr_11_0 zx_11 (zs_11_0 hT0).1 dX11_text_87 ?_
    refine z_aload_n C0 dX11_text_90 rfl 1 rfl ?_
    refine z_getr C0 hT0 kf_11_27 zr_11_3 zx_11 (zs_11_3 hT0).1 dX11_text_91 ?_
    refine z_geti C0 (zs_11_3 hT0).2.1 (zs_11_3 hT0).2.2.2.1 kf_11_109 zr_5_3 dX11_text_94 ?_
    obtain ⟨μ6, e_μ6, h⟩ := zl_of h
    refine z_puti C0 (zs_11_0 hT0).2.1 (zs_11_0 hT0).2.2.2.1 kf_11_97 zp_8_3 zr_8_3 e_μ6 dX11_text_97 ?_
    refine z_aload_n C0 dX11_text_100 rfl 1 rfl ?_
    refine z_getr C0 hT0 kf_11_27 zr_11_3 zx_11 (zs_11_3 hT0).1 dX11_text_101 ?_
    refine z_geti C0 (zs_11_3 hT0).2.1 (zs_11_3 hT0).2.2.2.1 kf_11_108 zr_5_2 dX11_text_104 ?_
    refine z_if_eq C0 112 dX11_text_107 (by decide) (fun c7 => ?_) (fun c7 => ?_)
    · have h := zif_t c7 h
      refine z_aload_n C0 dX11_text_112 rfl 1 rfl ?_
      refine z_getr C0 hT0 kf_11_10 zr_11_0 zx_11 (zs_11_0 hT0).1 dX11_text_113 ?_
      refine z_iload_n C0 dX11_text_116 rfl 2 rfl ?_
      refine z_iload_n C0 dX11_text_117 rfl 0 rfl ?_
      refine z_aload_n C0 dX11_text_118 rfl 1 rfl ?_
      refine z_getr C0 hT0 kf_11_27 zr_11_3 zx_11 (zs_11_3 hT0).1 dX11_text_119 ?_
      obtain ⟨μ8, e_μ8, h⟩ := zbd_of h
      refine z_callV (As := [.int v1, .int r1, .ref (zb g + (a0 + 58))]) (rest := []) C0 rfl kc_X8_take km_RX11_110 (r_X8_take (l := l) (g := g) (a0 + 1) v1 r1 (a0 + 58) μ6 (zs_11_0 hT0).2 (zs_11_3 hT0).2 e_μ8) (zs_11_0 hT0).2.1 (zs_11_0 hT0).2.2.2.1 rfl (by decide) rfl (Nat.le_of_ble_eq_true rfl) (Nat.le_of_ble_eq_true rfl) (Nat.le_of_ble_eq_true rfl) (Nat.le_of_ble_eq_true rfl) (Nat.le_refl _) rfl rfl dX11_text_122 ?_
      refine z_iload_n C0 dX11_text_125 rfl 0 rfl ?_
      have h := Option.some.inj h
      obtain ⟨rfl, rfl⟩ := Prod.mk.inj h
      exact z_iret C0 rfl dX11_text_126
    · have h := zif_f c7 h
      refine z_iconst (v := (-1 : Int32)) C0 dX11_text_110 (by decide) ?_
      have h := Option.some.inj h
      obtain ⟨rfl, rfl⟩ := Prod.mk.inj h
      exact z_iret C0 rfl dX11_text_111
  · have h := zif_f (fun q => q c2) h
    refine z_aload_n C0 dX11_text_15 rfl 1 rfl ?_
    refine z_getr C0 hT0 kf_11_10 zr_11_0 zx_11 (zs_11_0 hT0).1 dX11_text_16 ?_
    refine z_iconst (v := (0 : Int32)) C0 dX11_text_19 (by decide) ?_
    obtain ⟨μ9, e_μ9, h⟩ := zl_of h
    refine z_puti C0 (zs_11_0 hT0).2.1 (zs_11_0 hT0).2.2.2.1 kf_11_82 zp_8_1 zr_8_1 e_μ9 dX11_text_20 ?_
    refine z_aload_n C0 dX11_text_23 rfl 1 rfl ?_
    refine z_getr C0 hT0 kf_11_10 zr_11_0 zx_11 (zs_11_0 hT0).1 dX11_text_24 ?_
    refine z_iconst (v := (0 : Int32)) C0 dX11_text_27 (by decide) ?_
    obtain ⟨μ10, e_μ10, h⟩ := zl_of h
    refine z_puti C0 (zs_11_0 hT0).2.1 (zs_11_0 hT0).2.2.2.1 kf_11_94 zp_8_2 zr_8_2 e_μ10 dX11_text_28 ?_
    refine z_aload_n C0 dX11_text_31 rfl 1 rfl ?_
    refine z_getr C0 hT0 kf_11_10 zr_11_0 zx_11 (zs_11_0 hT0).1 dX11_text_32 ?_
    refine z_iconst (v := (-1 : Int32)) C0 dX11_text_35 (by decide) ?_
    obtain ⟨μ11, e_μ11, h⟩ := zl_of h
    refine z_puti C0 (zs_11_0 hT0).2.1 (zs_11_0 hT0).2.2.2.1 kf_11_97 zp_8_3 zr_8_3 e_μ11 dX11_text_36 ?_
    refine z_bipush (v := (-2 : Int32)) C0 dX11_text_39 (by decide) ?_
    have h := Option.some.inj h
    obtain ⟨rfl, rfl⟩ := Prod.mk.inj h
    exact z_iret C0 rfl dX11_text_41
def f_X11_thrift (a0 : Nat) (v1 : Int32) (v2 : Int32) (v3 : Int32) (μ : zM) : Option (Int32 × zM) :=
  zbd (f_X8_lakeAt (a0 + 1) v1 μ) fun r1 =>
  zbd (zcase r1 (some (.inr ())) fun w3 => zg (zgn w3 1) <|
      if ¬ (f_X1_hasCell w3 v2 v3 μ) = 0 then
        zbd (f_X0_weigh (a0 + 93) w3 μ) fun μ6 =>
        zbd (f_X0_chart (a0 + 93) w3 μ6) fun μ7 =>
        zbd2 (f_X0_leastToLie (a0 + 93) w3 v2 v3 μ7) fun r8 μ9 =>
        some (.inl (r8, μ9))
      else
        some (.inr ())) fun q10 => zsum q10 (fun t => some t) fun _ =>
  some ((-1 : Int32), μ)
set_option maxHeartbeats 4000000 in
set_option maxRecDepth 100000 in
theorem r_X11_thrift {l : Launch} {g : zL} {κ : zK} (a0 : Nat) (v1 : Int32) (v2 : Int32) (v3 : Int32) (μ : zM) (hT0 : zT zNN zσ1 a0 11) (hSp : zSK g κ) {rv : Int32} {μr : zM} (h : f_X11_thrift a0 v1 v2 v3 μ = some (rv, μr)) : zMet l g yX11_thrift cX11_thrift 5 (some (.int)) 4 0 0 zNN zNN zσ1 zσ1 [.ref (zb g + a0), .int v1, .int v2, .int v3] μ (some (.int rv)) μr := by
  refine zMet.of (by decide +kernel) (Nat.le_of_ble_eq_true rfl) ?_
  intro p e s m args below meth c C0
  have hF := hSp.at C0
  refine z_loc (lo1 := [(0, .ref (zb g + a0)), (1, .int v1), (2, .int v2), (3, .int v3)]) rfl ?_
  unfold f_X11_thrift at h
  refine z_aload_n C0 dX11_thrift_0 rfl 0 rfl ?_
  refine z_getr C0 hT0 kf_11_10 zr_11_0 zx_11 (zs_11_0 hT0).1 dX11_thrift_1 ?_
  refine z_iload_n C0 dX11_thrift_4 rfl 1 rfl ?_
  obtain ⟨r1, e_r1, h⟩ := zbd_of h
  refine z_callV (As := [.int v1]) (rest := []) C0 rfl kc_X8_lakeAt km_RX11_114 (r_X8_lakeAt (l := l) (g := g) (a0 + 1) v1 μ (zs_11_0 hT0).2 e_r1) (zs_11_0 hT0).2.1 (zs_11_0 hT0).2.2.2.1 rfl (by decide) rfl (Nat.le_of_ble_eq_true rfl) (Nat.le_of_ble_eq_true rfl) (Nat.le_of_ble_eq_true rfl) (Nat.le_of_ble_eq_true rfl) (Nat.le_refl _) rfl rfl dX11_thrift_5 ?_
  refine z_astoreq (lo1 := [(4, zopt (zb g) r1), (0, .ref (zb g + a0)), (1, .int v1), (2, .int v2), (3, .int v3)]) C0 dX11_thrift_8 (by decide) rfl ?_
  refine z_aloadq C0 dX11_thrift_10 0 rfl ?_
  obtain ⟨q10, e_q10, h⟩ := zbd_of h
  have kr_J2 := zsum_l h
  have kx_J2 := zsum_r h
  clear h
  refine z_joinq (fun o => q10 = Sum.inr o) (fun _ => μ) 25 (fun o => []) (fun o => []) ?_ (fun k_J2 => ?_)
  · intro u_ hq
    have h := kx_J2 _ hq
    refine z_iconst (v := (-1 : Int32)) C0 dX11_thrift_25 (by decide) ?_
    have h := Option.some.inj h
    obtain ⟨rfl, rfl⟩ := Prod.mk.inj h
    exact z_iret C0 rfl dX11_thrift_26
  · have h := e_q10
    refine z_ifnullq C0 25 dX11_thrift_12 (by decide) (fun c11 => ?_) (fun w3 c11 => ?_)
    · have h_c11 := zcase_n c11 h
      clear h
      subst c11
      have h := h_c11
      refine z_loc (lo1 := [(4, .null), (0, .ref (zb g + a0)), (1, .int v1), (2, .int v2), (3, .int v3)]) rfl ?_
      refine z_sub (lo1 := []) [] rfl ?_
      exact k_J2 () (Option.some.inj h).symm
    · have h_c11 := zcase_s c11 h
      clear h
      subst c11
      have h := h_c11
      obtain ⟨g4, h⟩ := zg_of h
      refine z_loc (lo1 := [(4, .ref (zb g + w3)), (0, .ref (zb g + a0)), (1, .int v1), (2, .int v2), (3, .int v3)]) rfl ?_
      refine z_aload C0 dX11_thrift_15 0 rfl ?_
      refine z_iload_n C0 dX11_thrift_17 rfl 3 rfl ?_
      refine z_iload_n C0 dX11_thrift_18 rfl 4 rfl ?_
      refine z_callV (As := [.int v2, .int v3]) (rest := []) C0 rfl kc_X1_hasCell km_RX11_189 (r_X1_hasCell (l := l) (g := g) w3 v2 v3 μ (zgn_T g4 (by decide)) rfl) (zgn_T g4 (by decide)).1 (zgn_T g4 (by decide)).2.2.1 rfl (by decide) rfl (Nat.le_of_ble_eq_true rfl) (Nat.le_of_ble_eq_true rfl) (Nat.le_of_ble_eq_true rfl) (Nat.le_of_ble_eq_true rfl) (Nat.le_refl _) rfl rfl dX11_thrift_19 ?_
      refine z_if_ne C0 27 dX11_thrift_22 (by decide) (fun c5 => ?_) (fun c5 => ?_)
      · have h := zif_t c5 h
        refine z_aload_n C0 dX11_thrift_27 rfl 1 rfl ?_
        refine z_getr C0 hT0 kf_11_50 zr_11_6 zx_11 (zs_11_6 hT0).1 dX11_thrift_28 ?_
        refine z_aload C0 dX11_thrift_31 0 rfl ?_
        obtain ⟨μ6, e_μ6, h⟩ := zbd_of h
        refine z_callV (As := [.ref (zb g + w3)]) (rest := []) C0 rfl kc_X0_weigh km_RX11_183 (r_X0_weigh (l := l) (g := g) (a0 + 93) w3 μ (zs_11_6 hT0).2 (zgn_T g4 (by decide)) hSp e_μ6) (zs_11_6 hT0).2.1 (zs_11_6 hT0).2.2.2.1 rfl (by decide) rfl (Nat.le_of_ble_eq_true rfl) (Nat.le_of_ble_eq_true rfl) (Nat.le_of_ble_eq_true rfl) (Nat.le_of_ble_eq_true rfl) (Nat.le_refl _) rfl rfl dX11_thrift_33 ?_
        refine z_aload_n C0 dX11_thrift_36 rfl 1 rfl ?_
        refine z_getr C0 hT0 kf_11_50 zr_11_6 zx_11 (zs_11_6 hT0).1 dX11_thrift_37 ?_
        refine z_aload C0 dX11_thrift_40 0 rfl ?_
        obtain ⟨μ7, e_μ7, h⟩ := zbd_of h
        refine z_callV (As := [.ref (zb g + w3)]) (rest := []) C0 rfl kc_X0_chart km_RX11_193 (r_X0_chart (l := l) (g := g) (a0 + 93) w3 μ6 (zs_11_6 hT0).2 (zgn_T g4 (by decide)) hSp e_μ7) (zs_11_6 hT0).2.1 (zs_11_6 hT0).2.2.2.1 rfl (by decide) rfl (Nat.le_of_ble_eq_true rfl) (Nat.le_of_ble_eq_true rfl) (Nat.le_of_ble_eq_true rfl) (Nat.le_of_ble_eq_true rfl) (Nat.le_refl _) rfl rfl dX11_thrift_42 ?_
        refine z_aload_n C0 dX11_thrift_45 rfl 1 rfl ?_
        refine z_getr C0 hT0 kf_11_50 zr_11_6 zx_11 (zs_11_6 hT0).1 dX11_thrift_46 ?_
        refine z_aload C0 dX11_thrift_49 0 rfl ?_
        refine z_iload_n C0 dX11_thrift_51 rfl 3 rfl ?_
        refine z_iload_n C0 dX11_thrift_52 rfl 4 rfl ?_
        obtain ⟨r8, μ9, e_r8, h⟩ := zbd2_of h
        refine z_callV (As := [.ref (zb g + w3), .int v2, .int v3]) (rest := []) C0 rfl kc_X0_leastToLie km_RX11_215 (r_X0_leastToLie (l := l) (g := g) (a0 + 93) w3 v2 v3 μ7 (zs_11_6 hT0).2 (zgn_T g4 (by decide)) e_r8) (zs_11_6 hT0).2.1 (zs_11_6 hT0).2.2.2.1 rfl (by decide) rfl (Nat.le_of_ble_eq_true rfl) (Nat.le_of_ble_eq_true rfl) (Nat.le_of_ble_eq_true rfl) (Nat.le_of_ble_eq_true rfl) (Nat.le_refl _) rfl rfl dX11_thrift_53 ?_
        have h := kr_J2 _ (Option.some.inj h).symm
        have h := Option.some.inj h
        obtain ⟨rfl, rfl⟩ := Prod.mk.inj h
        exact z_iret C0 rfl dX11_thrift_56
      · have h := zif_f (fun q => q c5) h
        refine z_sub (lo1 := []) [] rfl ?_
        exact k_J2 () (Option.some.inj h).symm
def f_X11_trim (a0 : Nat) (v1 : Int32) (v2 : Int32) (μ : zM) : Option (Int32) :=
  zbd (f_X8_lakeAt (a0 + 1) v1 μ) fun r1 =>
  zcase r1 (some (-1 : Int32)) fun w2 => zg (zgn w2 1) <|
    if (¬ (v2 = 0)) ∧ (¬ v2 = (1 : Int32)) then
      if ¬ v2 = (2 : Int32) then
        zbd (if (¬ (v2 < (10 : Int32))) ∧ (¬ ((f_X6_has (w2 + 8) (v2 - (10 : Int32)) μ) = 0)) then
            zbd (f_X1_trimOf w2 (v2 - (10 : Int32)) μ) fun r16 =>
            some r16
          else
            some (-1 : Int32)) fun x17 =>
        some x17
      else
        zbd (f_X1_keel w2 μ) fun r18 =>
        some r18
    else
      zbd (f_X1_heaviestLine w2 ((1 : Int32) - v2) μ) fun r19 =>
      some r19
set_option maxHeartbeats 4000000 in
set_option maxRecDepth 100000 in
theorem r_X11_trim {l : Launch} {g : zL} (a0 : Nat) (v1 : Int32) (v2 : Int32) (μ : zM) (hT0 : zT zNN zσ1 a0 11) {rv : Int32} (h : f_X11_trim a0 v1 v2 μ = some rv) : zMet l g yX11_trim cX11_trim 4 (some (.int)) 3 0 0 zNN zNN zσ1 zσ1 [.ref (zb g + a0), .int v1, .int v2] μ (some (.int rv)) μ := by
  refine zMet.of (by decide +kernel) (Nat.le_of_ble_eq_true rfl) ?_
  intro p e s m args below meth c C0
  refine z_loc (lo1 := [(0, .ref (zb g + a0)), (1, .int v1), (2, .int v2)]) rfl ?_
  unfold f_X11_trim at h
  refine z_aload_n C0 dX11_trim_0 rfl 0 rfl ?_
  refine z_getr C0 hT0 kf_11_10 zr_11_0 zx_11 (zs_11_0 hT0).1 dX11_trim_1 ?_
  refine z_iload_n C0 dX11_trim_4 rfl 1 rfl ?_
  obtain ⟨r1, e_r1, h⟩ := zbd_of h
  refine z_callV (As := [.int v1]) (rest := []) C0 rfl kc_X8_lakeAt km_RX11_114 (r_X8_lakeAt (l := l) (g := g) (a0 + 1) v1 μ (zs_11_0 hT0).2 e_r1) (zs_11_0 hT0).2.1 (zs_11_0 hT0).2.2.2.1 rfl (by decide) rfl (Nat.le_of_ble_eq_true rfl) (Nat.le_of_ble_eq_true rfl) (Nat.le_of_ble_eq_true rfl) (Nat.le_of_ble_eq_true rfl) (Nat.le_refl _) rfl rfl dX11_trim_5 ?_
  refine z_astoreq_n (lo1 := [(3, zopt (zb g) r1), (0, .ref (zb g + a0)), (1, .int v1), (2, .int v2)]) C0 dX11_trim_8 rfl (by decide) rfl ?_
  refine z_aloadq_n C0 dX11_trim_9 rfl 0 rfl ?_
  refine z_ifnonnullq C0 15 dX11_trim_10 (by decide) (fun w2 c20 => ?_) (fun c20 => ?_)
  · have h_c20 := zcase_s c20 h
    clear h
    subst c20
    have h := h_c20
    obtain ⟨g3, h⟩ := zg_of h
    refine z_loc (lo1 := [(3, .ref (zb g + w2)), (0, .ref (zb g + a0)), (1, .int v1), (2, .int v2)]) rfl ?_
    refine z_iload_n C0 dX11_trim_15 rfl 3 rfl ?_
    by_cases hc21 : (¬ (v2 = 0)) ∧ (¬ v2 = (1 : Int32))
    · have h := zif_t hc21 h
      refine z_join μ 32 [(3, .ref (zb g + w2)), (0, .ref (zb g + a0)), (1, .int v1), (2, .int v2)] [] ?_ (fun k22 => ?_)
      · refine z_iload_n C0 dX11_trim_32 rfl 3 rfl ?_
        refine z_iconst (v := (2 : Int32)) C0 dX11_trim_33 (by decide) ?_
        refine z_icmp_ne C0 42 dX11_trim_34 (by decide) (fun c10 => ?_) (fun c10 => ?_)
        · have h := zif_t c10 h
          refine z_iload_n C0 dX11_trim_42 rfl 3 rfl ?_
          refine z_bipush (v := (10 : Int32)) C0 dX11_trim_43 (by decide) ?_
          obtain ⟨x17, e_x17, h⟩ := zbd_of h
          refine z_join μ 74 [] [.int x17] ?_ (fun k_J15 => ?_)
          · have h := Option.some.inj h
            obtain rfl := h
            exact z_iret C0 rfl dX11_trim_74
          · have h := e_x17
            by_cases hc23 : (¬ (v2 < (10 : Int32))) ∧ (¬ ((f_X6_has (w2 + 8) (v2 - (10 : Int32)) μ) = 0))
            · have h := zif_t hc23 h
              refine z_join μ 62 [(3, .ref (zb g + w2)), (0, .ref (zb g + a0)), (1, .int v1), (2, .int v2)] [] ?_ (fun k24 => ?_)
              · refine z_aload_n C0 dX11_trim_62 rfl 0 rfl ?_
                refine z_iload_n C0 dX11_trim_63 rfl 3 rfl ?_
                refine z_bipush (v := (10 : Int32)) C0 dX11_trim_64 (by decide) ?_
                refine z_isub C0 dX11_trim_66 ?_
                obtain ⟨r16, e_r16, h⟩ := zbd_of h
                refine z_callV (As := [.int (v2 - (10 : Int32))]) (rest := []) C0 rfl kc_X1_trimOf km_RX11_318 (r_X1_trimOf (l := l) (g := g) w2 (v2 - (10 : Int32)) μ (zgn_T g3 (by decide)) e_r16) (zgn_T g3 (by decide)).1 (zgn_T g3 (by decide)).2.2.1 rfl (by decide) rfl (Nat.le_of_ble_eq_true rfl) (Nat.le_of_ble_eq_true rfl) (Nat.le_of_ble_eq_true rfl) (Nat.le_of_ble_eq_true rfl) (Nat.le_refl _) rfl rfl dX11_trim_67 ?_
                refine z_goto C0 74 dX11_trim_70 (by decide) ?_
                refine z_sub (lo1 := []) [] rfl ?_
                obtain rfl := (Option.some.inj h)
                exact k_J15
              · refine z_icmp_lt C0 73 dX11_trim_45 (by decide) (fun c13 => ?_) (fun c13 => ?_)
                · exact absurd hc23 (fun q => q.1 c13)
                · refine z_aload_n C0 dX11_trim_48 rfl 0 rfl ?_
                  refine z_getr C0 (zgn_T g3 (by decide)) kf_11_248 zr_1_4 zx_1 (zs_1_4 (zgn_T g3 (by decide))).1 dX11_trim_49 ?_
                  refine z_iload_n C0 dX11_trim_52 rfl 3 rfl ?_
                  refine z_bipush (v := (10 : Int32)) C0 dX11_trim_53 (by decide) ?_
                  refine z_isub C0 dX11_trim_55 ?_
                  refine z_callV (As := [.int (v2 - (10 : Int32))]) (rest := []) C0 rfl kc_X6_has km_RX11_137 (r_X6_has (l := l) (g := g) (w2 + 8) (v2 - (10 : Int32)) μ (zs_1_4 (zgn_T g3 (by decide))).2 rfl) (zs_1_4 (zgn_T g3 (by decide))).2.1 (zs_1_4 (zgn_T g3 (by decide))).2.2.2.1 rfl (by decide) rfl (Nat.le_of_ble_eq_true rfl) (Nat.le_of_ble_eq_true rfl) (Nat.le_of_ble_eq_true rfl) (Nat.le_of_ble_eq_true rfl) (Nat.le_refl _) rfl rfl dX11_trim_56 ?_
                  refine z_if_eq C0 73 dX11_trim_59 (by decide) (fun c14 => ?_) (fun c14 => ?_)
                  · exact absurd hc23 (fun q => (fun q => q c14) q.2)
                  · exact k24
            · have h := zif_f hc23 h
              refine z_join μ 73 [(3, .ref (zb g + w2)), (0, .ref (zb g + a0)), (1, .int v1), (2, .int v2)] [] ?_ (fun k25 => ?_)
              · refine z_iconst (v := (-1 : Int32)) C0 dX11_trim_73 (by decide) ?_
                refine z_sub (lo1 := []) [] rfl ?_
                obtain rfl := (Option.some.inj h)
                exact k_J15
              · refine z_icmp_lt C0 73 dX11_trim_45 (by decide) (fun c13 => ?_) (fun c13 => ?_)
                · exact k25
                · refine z_aload_n C0 dX11_trim_48 rfl 0 rfl ?_
                  refine z_getr C0 (zgn_T g3 (by decide)) kf_11_248 zr_1_4 zx_1 (zs_1_4 (zgn_T g3 (by decide))).1 dX11_trim_49 ?_
                  refine z_iload_n C0 dX11_trim_52 rfl 3 rfl ?_
                  refine z_bipush (v := (10 : Int32)) C0 dX11_trim_53 (by decide) ?_
                  refine z_isub C0 dX11_trim_55 ?_
                  refine z_callV (As := [.int (v2 - (10 : Int32))]) (rest := []) C0 rfl kc_X6_has km_RX11_137 (r_X6_has (l := l) (g := g) (w2 + 8) (v2 - (10 : Int32)) μ (zs_1_4 (zgn_T g3 (by decide))).2 rfl) (zs_1_4 (zgn_T g3 (by decide))).2.1 (zs_1_4 (zgn_T g3 (by decide))).2.2.2.1 rfl (by decide) rfl (Nat.le_of_ble_eq_true rfl) (Nat.le_of_ble_eq_true rfl) (Nat.le_of_ble_eq_true rfl) (Nat.le_of_ble_eq_true rfl) (Nat.le_refl _) rfl rfl dX11_trim_56 ?_
                  refine z_if_eq C0 73 dX11_trim_59 (by decide) (fun c14 => ?_) (fun c14 => ?_)
                  · exact k25
                  · exact absurd ⟨c13, c14⟩ hc23
        · have h := zif_f (fun q => q c10) h
          refine z_aload_n C0 dX11_trim_37 rfl 0 rfl ?_
          obtain ⟨r18, e_r18, h⟩ := zbd_of h
          refine z_callV (As := []) (rest := []) C0 rfl kc_X1_keel km_RX11_315 (r_X1_keel (l := l) (g := g) w2 μ (zgn_T g3 (by decide)) e_r18) (zgn_T g3 (by decide)).1 (zgn_T g3 (by decide)).2.2.1 rfl (by decide) rfl (Nat.le_of_ble_eq_true rfl) (Nat.le_of_ble_eq_true rfl) (Nat.le_of_ble_eq_true rfl) (Nat.le_of_ble_eq_true rfl) (Nat.le_refl _) rfl rfl dX11_trim_38 ?_
          have h := Option.some.inj h
          obtain rfl := h
          exact z_iret C0 rfl dX11_trim_41
      · refine z_if_eq C0 24 dX11_trim_16 (by decide) (fun c4 => ?_) (fun c4 => ?_)
        · exact absurd hc21 (fun q => q.1 c4)
        · refine z_iload_n C0 dX11_trim_19 rfl 3 rfl ?_
          refine z_iconst (v := (1 : Int32)) C0 dX11_trim_20 (by decide) ?_
          refine z_icmp_ne C0 32 dX11_trim_21 (by decide) (fun c9 => ?_) (fun c9 => ?_)
          · exact k22
          · exact absurd hc21 (fun q => (fun q => q c9) q.2)
    · have h := zif_f hc21 h
      refine z_join μ 24 [(3, .ref (zb g + w2)), (0, .ref (zb g + a0)), (1, .int v1), (2, .int v2)] [] ?_ (fun k26 => ?_)
      · refine z_aload_n C0 dX11_trim_24 rfl 0 rfl ?_
        refine z_iconst (v := (1 : Int32)) C0 dX11_trim_25 (by decide) ?_
        refine z_iload_n C0 dX11_trim_26 rfl 3 rfl ?_
        refine z_isub C0 dX11_trim_27 ?_
        obtain ⟨r19, e_r19, h⟩ := zbd_of h
        refine z_callV (As := [.int ((1 : Int32) - v2)]) (rest := []) C0 rfl kc_X1_heaviestLine km_RX11_312 (r_X1_heaviestLine (l := l) (g := g) w2 ((1 : Int32) - v2) μ (zgn_T g3 (by decide)) e_r19) (zgn_T g3 (by decide)).1 (zgn_T g3 (by decide)).2.2.1 rfl (by decide) rfl (Nat.le_of_ble_eq_true rfl) (Nat.le_of_ble_eq_true rfl) (Nat.le_of_ble_eq_true rfl) (Nat.le_of_ble_eq_true rfl) (Nat.le_refl _) rfl rfl dX11_trim_28 ?_
        have h := Option.some.inj h
        obtain rfl := h
        exact z_iret C0 rfl dX11_trim_31
      · refine z_if_eq C0 24 dX11_trim_16 (by decide) (fun c4 => ?_) (fun c4 => ?_)
        · exact k26
        · refine z_iload_n C0 dX11_trim_19 rfl 3 rfl ?_
          refine z_iconst (v := (1 : Int32)) C0 dX11_trim_20 (by decide) ?_
          refine z_icmp_ne C0 32 dX11_trim_21 (by decide) (fun c9 => ?_) (fun c9 => ?_)
          · exact absurd ⟨c4, c9⟩ hc21
          · exact k26
  · have h_c20 := zcase_n c20 h
    clear h
    subst c20
    have h := h_c20
    refine z_loc (lo1 := [(3, .null), (0, .ref (zb g + a0)), (1, .int v1), (2, .int v2)]) rfl ?_
    refine z_iconst (v := (-1 : Int32)) C0 dX11_trim_13 (by decide) ?_
    have h := Option.some.inj h
    obtain rfl := h
    exact z_iret C0 rfl dX11_trim_14
