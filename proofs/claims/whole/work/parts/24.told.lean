def f_X8_takeFrom_L56 (a0 : Nat) (a1 : Nat) : Nat → Int32 → zM → Option (zM)
  | 0, _, _ => none
  | n + 1, y10, μ11 =>
    if (2 : Int32) ≤ y10 then
      some μ11
    else
      zg (zin y10 2) <|
      zbd (f_X1_takeFrom (a0 + 5 + 15 * y10.toNatClampNeg) (a1 + 5 + 15 * y10.toNatClampNeg) μ11) fun μ14 =>
      zl (y10 + (1 : Int32)) fun x15 =>
      f_X8_takeFrom_L56 a0 a1 n x15 μ14
def f_X8_takeFrom_L84 (a0 : Nat) (a1 : Nat) : Nat → Int32 → zM → Option (zM)
  | 0, _, _ => none
  | n + 1, y19, μ20 =>
    if (10 : Int32) ≤ y19 then
      some μ20
    else
      zg (zin y19 10) <|
      zbd (f_X6_takeFrom (a0 + 35 + 2 * y19.toNatClampNeg) (a1 + 35 + 2 * y19.toNatClampNeg) μ20) fun μ23 =>
      zl (y19 + (1 : Int32)) fun x24 =>
      f_X8_takeFrom_L84 a0 a1 n x24 μ23
def f_X8_takeFrom (a0 : Nat) (a1 : Nat) (μ : zM) : Option (zM) :=
  zg (zcpg (0 : Int32) (0 : Int32) (600 : Int32) 600 600) <|
  zl (zcp μ (a1 + 1) (a0 + 1) (0 : Int32) (0 : Int32) (600 : Int32)) fun μ2 =>
  zl (zup μ2 a0 1 (μ2 a1 1)) fun μ3 =>
  zl (zup μ3 a0 2 (μ3 a1 2)) fun μ4 =>
  zl (zup μ4 a0 3 (μ4 a1 3)) fun μ5 =>
  zg (zcpg (0 : Int32) (0 : Int32) (5 : Int32) 5 5) <|
  zl (zcp μ5 (a1 + 2) (a0 + 2) (0 : Int32) (0 : Int32) (5 : Int32)) fun μ7 =>
  zbd (f_X8_takeFrom_L56 a0 a1 zFU (0 : Int32) μ7) fun μ16 =>
  zbd (f_X8_takeFrom_L84 a0 a1 zFU (0 : Int32) μ16) fun μ25 =>
  some μ25
set_option maxHeartbeats 4000000 in
set_option maxRecDepth 100000 in
theorem r_X8_takeFrom_L56 {l : Launch} {g : zL} {p : Program} {e : Env} {s : State} {m : MethodId} {args : Array Value} {below : List Frame} {meth : Method} {c : Code} {Q : State → Prop} (C0 : zC p s m args meth c g cX8_takeFrom yX8_takeFrom 3 none) (a0 : Nat) (a1 : Nat) (hU8 : zT zNN zσ1 a0 8) (hU9 : zT zNN zσ1 a1 8) : ∀ (n : Nat) (y10 : Int32) (μ11 : zM) (μ16 : zM), f_X8_takeFrom_L56 a0 a1 n y10 μ11 = some μ16 → Z p l e (zrm 3 0 0) s m args below meth c g Q 3 zNN 0 0 zσ1 μ16 82 [(0, .ref (zb g + a0)), (1, .ref (zb g + a1))] [] → Z p l e (zrm 3 0 0) s m args below meth c g Q 3 zNN 0 0 zσ1 μ11 56 [(0, .ref (zb g + a0)), (1, .ref (zb g + a1)), (2, .int y10)] [] := by
  intro n
  induction n with
  | zero =>
    intro y10 μ11 μ16 h kx
    rw [f_X8_takeFrom_L56] at h
    cases h
  | succ n ih =>
    intro y10 μ11 μ16 h kx
    rw [f_X8_takeFrom_L56] at h
    refine z_iload_n C0 dX8_takeFrom_56 rfl 2 rfl ?_
    refine z_iconst (v := (2 : Int32)) C0 dX8_takeFrom_57 (by decide) ?_
    refine z_icmp_ge C0 82 dX8_takeFrom_58 (by decide) (fun c12 => ?_) (fun c12 => ?_)
    · have h := zif_t c12 h
      refine z_sub (lo1 := [(0, .ref (zb g + a0)), (1, .ref (zb g + a1))]) [0, 1] rfl ?_
      obtain rfl := (Option.some.inj h)
      exact kx
    · have h := zif_f c12 h
      refine z_aload_n C0 dX8_takeFrom_61 rfl 0 rfl ?_
      refine z_getr C0 hU8 kf_8_24 zr_8_5 zx_8 (zs_8_5 hU8).1 dX8_takeFrom_62 ?_
      refine z_iload_n C0 dX8_takeFrom_65 rfl 2 rfl ?_
      obtain ⟨g13, h⟩ := zg_of h
      refine z_aald C0 (zs_8_5 hU8).2 (by decide) (by decide) g13 (ze_8_5 hU8 g13).1 (ze_8_5 hU8 g13).2.1 dX8_takeFrom_66 ?_
      refine z_aload_n C0 dX8_takeFrom_67 rfl 1 rfl ?_
      refine z_getr C0 hU9 kf_8_24 zr_8_5 zx_8 (zs_8_5 hU9).1 dX8_takeFrom_68 ?_
      refine z_iload_n C0 dX8_takeFrom_71 rfl 2 rfl ?_
      refine z_aald C0 (zs_8_5 hU9).2 (by decide) (by decide) g13 (ze_8_5 hU9 g13).1 (ze_8_5 hU9 g13).2.1 dX8_takeFrom_72 ?_
      obtain ⟨μ14, e_μ14, h⟩ := zbd_of h
      refine z_callV (As := [.ref (zb g + (a1 + 5 + 15 * y10.toNatClampNeg))]) (rest := []) C0 rfl kc_X1_takeFrom km_RX8_55 (r_X1_takeFrom (l := l) (g := g) (a0 + 5 + 15 * y10.toNatClampNeg) (a1 + 5 + 15 * y10.toNatClampNeg) μ11 (ze_8_5 hU8 g13).2.2 (ze_8_5 hU9 g13).2.2 e_μ14) (ze_8_5 hU8 g13).2.2.1 (ze_8_5 hU8 g13).2.2.2.2.1 rfl (by decide) rfl (Nat.le_of_ble_eq_true rfl) (Nat.le_of_ble_eq_true rfl) (Nat.le_of_ble_eq_true rfl) (Nat.le_of_ble_eq_true rfl) (Nat.le_refl _) rfl rfl dX8_takeFrom_73 ?_
      obtain ⟨x15, e_x15, h⟩ := zl_of h
      refine z_iinc (lo1 := [(2, .int x15), (0, .ref (zb g + a0)), (1, .ref (zb g + a1))]) C0 dX8_takeFrom_76 2 rfl (by decide) e_x15.symm (by decide) rfl ?_
      refine z_goto C0 56 dX8_takeFrom_79 (by decide) ?_
      refine z_sub (lo1 := [(0, .ref (zb g + a0)), (1, .ref (zb g + a1)), (2, .int x15)]) [1, 2, 0] rfl ?_
      exact ih _ _ _ h kx
set_option maxHeartbeats 4000000 in
set_option maxRecDepth 100000 in
theorem r_X8_takeFrom_L84 {l : Launch} {g : zL} {p : Program} {e : Env} {s : State} {m : MethodId} {args : Array Value} {below : List Frame} {meth : Method} {c : Code} {Q : State → Prop} (C0 : zC p s m args meth c g cX8_takeFrom yX8_takeFrom 3 none) (a0 : Nat) (a1 : Nat) (hU17 : zT zNN zσ1 a0 8) (hU18 : zT zNN zσ1 a1 8) : ∀ (n : Nat) (y19 : Int32) (μ20 : zM) (μ25 : zM), f_X8_takeFrom_L84 a0 a1 n y19 μ20 = some μ25 → Z p l e (zrm 3 0 0) s m args below meth c g Q 3 zNN 0 0 zσ1 μ25 111 [] [] → Z p l e (zrm 3 0 0) s m args below meth c g Q 3 zNN 0 0 zσ1 μ20 84 [(0, .ref (zb g + a0)), (1, .ref (zb g + a1)), (2, .int y19)] [] := by
  intro n
  induction n with
  | zero =>
    intro y19 μ20 μ25 h kx
    rw [f_X8_takeFrom_L84] at h
    cases h
  | succ n ih =>
    intro y19 μ20 μ25 h kx
    rw [f_X8_takeFrom_L84] at h
    refine z_iload_n C0 dX8_takeFrom_84 rfl 2 rfl ?_
    refine z_bipush (v := (10 : Int32)) C0 dX8_takeFrom_85 (by decide) ?_
    refine z_icmp_ge C0 111 dX8_takeFrom_87 (by decide) (fun c21 => ?_) (fun c21 => ?_)
    · have h := zif_t c21 h
      refine z_sub (lo1 := []) [] rfl ?_
      obtain rfl := (Option.some.inj h)
      exact kx
    · have h := zif_f c21 h
      refine z_aload_n C0 dX8_takeFrom_90 rfl 0 rfl ?_
      refine z_getr C0 hU17 kf_8_30 zr_8_6 zx_8 (zs_8_6 hU17).1 dX8_takeFrom_91 ?_
      refine z_iload_n C0 dX8_takeFrom_94 rfl 2 rfl ?_
      obtain ⟨g22, h⟩ := zg_of h
      refine z_aald C0 (zs_8_6 hU17).2 (by decide) (by decide) g22 (ze_8_6 hU17 g22).1 (ze_8_6 hU17 g22).2.1 dX8_takeFrom_95 ?_
      refine z_aload_n C0 dX8_takeFrom_96 rfl 1 rfl ?_
      refine z_getr C0 hU18 kf_8_30 zr_8_6 zx_8 (zs_8_6 hU18).1 dX8_takeFrom_97 ?_
      refine z_iload_n C0 dX8_takeFrom_100 rfl 2 rfl ?_
      refine z_aald C0 (zs_8_6 hU18).2 (by decide) (by decide) g22 (ze_8_6 hU18 g22).1 (ze_8_6 hU18 g22).2.1 dX8_takeFrom_101 ?_
      obtain ⟨μ23, e_μ23, h⟩ := zbd_of h
      refine z_callV (As := [.ref (zb g + (a1 + 35 + 2 * y19.toNatClampNeg))]) (rest := []) C0 rfl kc_X6_takeFrom km_RX8_60 (r_X6_takeFrom (l := l) (g := g) (a0 + 35 + 2 * y19.toNatClampNeg) (a1 + 35 + 2 * y19.toNatClampNeg) μ20 (ze_8_6 hU17 g22).2.2 (ze_8_6 hU18 g22).2.2 e_μ23) (ze_8_6 hU17 g22).2.2.1 (ze_8_6 hU17 g22).2.2.2.2.1 rfl (by decide) rfl (Nat.le_of_ble_eq_true rfl) (Nat.le_of_ble_eq_true rfl) (Nat.le_of_ble_eq_true rfl) (Nat.le_of_ble_eq_true rfl) (Nat.le_refl _) rfl rfl dX8_takeFrom_102 ?_
      obtain ⟨x24, e_x24, h⟩ := zl_of h
      refine z_iinc (lo1 := [(2, .int x24), (0, .ref (zb g + a0)), (1, .ref (zb g + a1))]) C0 dX8_takeFrom_105 2 rfl (by decide) e_x24.symm (by decide) rfl ?_
      refine z_goto C0 84 dX8_takeFrom_108 (by decide) ?_
      refine z_sub (lo1 := [(0, .ref (zb g + a0)), (1, .ref (zb g + a1)), (2, .int x24)]) [1, 2, 0] rfl ?_
      exact ih _ _ _ h kx
set_option maxHeartbeats 4000000 in
set_option maxRecDepth 100000 in
theorem r_X8_takeFrom {l : Launch} {g : zL} (a0 : Nat) (a1 : Nat) (μ : zM) (hT0 : zT zNN zσ1 a0 8) (hT1 : zT zNN zσ1 a1 8) {μr : zM} (h : f_X8_takeFrom a0 a1 μ = some μr) : zMet l g yX8_takeFrom cX8_takeFrom 3 none 3 0 0 zNN zNN zσ1 zσ1 [.ref (zb g + a0), .ref (zb g + a1)] μ none μr := by
  refine zMet.of (by decide +kernel) (Nat.le_of_ble_eq_true rfl) ?_
  intro p e s m args below meth c C0
  refine z_loc (lo1 := [(0, .ref (zb g + a0)), (1, .ref (zb g + a1))]) rfl ?_
  unfold f_X8_takeFrom at h
  refine z_aload_n C0 dX8_takeFrom_0 rfl 1 rfl ?_
  refine z_getr C0 hT1 kf_8_11 zr_8_0 zx_8 (zs_8_0 hT1).1 dX8_takeFrom_1 ?_
  refine z_iconst (v := (0 : Int32)) C0 dX8_takeFrom_4 (by decide) ?_
  refine z_aload_n C0 dX8_takeFrom_5 rfl 0 rfl ?_
  refine z_getr C0 hT0 kf_8_11 zr_8_0 zx_8 (zs_8_0 hT0).1 dX8_takeFrom_6 ?_
  refine z_iconst (v := (0 : Int32)) C0 dX8_takeFrom_9 (by decide) ?_
  refine z_sipush (v := (600 : Int32)) C0 dX8_takeFrom_10 (by decide) ?_
  obtain ⟨g1, h⟩ := zg_of h
  obtain ⟨μ2, e_μ2, h⟩ := zl_of h
  refine z_copyi C0 rfl km_RX8_69 kA (zs_8_0 hT1).2 (zs_8_0 hT0).2 g1 (Nat.le_of_ble_eq_true rfl) e_μ2 dX8_takeFrom_13 ?_
  refine z_aload_n C0 dX8_takeFrom_16 rfl 0 rfl ?_
  refine z_aload_n C0 dX8_takeFrom_17 rfl 1 rfl ?_
  refine z_geti C0 hT1.1 hT1.2.2.1 kf_8_44 zr_8_1 dX8_takeFrom_18 ?_
  obtain ⟨μ3, e_μ3, h⟩ := zl_of h
  refine z_puti C0 hT0.1 hT0.2.2.1 kf_8_44 zp_8_1 zr_8_1 e_μ3 dX8_takeFrom_21 ?_
  refine z_aload_n C0 dX8_takeFrom_24 rfl 0 rfl ?_
  refine z_aload_n C0 dX8_takeFrom_25 rfl 1 rfl ?_
  refine z_geti C0 hT1.1 hT1.2.2.1 kf_8_75 zr_8_2 dX8_takeFrom_26 ?_
  obtain ⟨μ4, e_μ4, h⟩ := zl_of h
  refine z_puti C0 hT0.1 hT0.2.2.1 kf_8_75 zp_8_2 zr_8_2 e_μ4 dX8_takeFrom_29 ?_
  refine z_aload_n C0 dX8_takeFrom_32 rfl 0 rfl ?_
  refine z_aload_n C0 dX8_takeFrom_33 rfl 1 rfl ?_
  refine z_geti C0 hT1.1 hT1.2.2.1 kf_8_15 zr_8_3 dX8_takeFrom_34 ?_
  obtain ⟨μ5, e_μ5, h⟩ := zl_of h
  refine z_puti C0 hT0.1 hT0.2.2.1 kf_8_15 zp_8_3 zr_8_3 e_μ5 dX8_takeFrom_37 ?_
  refine z_aload_n C0 dX8_takeFrom_40 rfl 1 rfl ?_
  refine z_getr C0 hT1 kf_8_19 zr_8_4 zx_8 (zs_8_4 hT1).1 dX8_takeFrom_41 ?_
  refine z_iconst (v := (0 : Int32)) C0 dX8_takeFrom_44 (by decide) ?_
  refine z_aload_n C0 dX8_takeFrom_45 rfl 0 rfl ?_
  refine z_getr C0 hT0 kf_8_19 zr_8_4 zx_8 (zs_8_4 hT0).1 dX8_takeFrom_46 ?_
  refine z_iconst (v := (0 : Int32)) C0 dX8_takeFrom_49 (by decide) ?_
  refine z_iconst (v := (5 : Int32)) C0 dX8_takeFrom_50 (by decide) ?_
  obtain ⟨g6, h⟩ := zg_of h
  obtain ⟨μ7, e_μ7, h⟩ := zl_of h
  refine z_copyi C0 rfl km_RX8_69 kA (zs_8_4 hT1).2 (zs_8_4 hT0).2 g6 (Nat.le_of_ble_eq_true rfl) e_μ7 dX8_takeFrom_51 ?_
  refine z_iconst (v := (0 : Int32)) C0 dX8_takeFrom_54 (by decide) ?_
  refine z_istore_n (lo1 := [(2, .int (0 : Int32)), (0, .ref (zb g + a0)), (1, .ref (zb g + a1))]) C0 dX8_takeFrom_55 rfl (by decide) rfl ?_
  refine z_sub (lo1 := [(0, .ref (zb g + a0)), (1, .ref (zb g + a1)), (2, .int (0 : Int32))]) [1, 2, 0] rfl ?_
  obtain ⟨μ16, e_μ16, h⟩ := zbd_of h
  refine r_X8_takeFrom_L56 C0 a0 a1 hT0 hT1 zFU (0 : Int32) μ7 μ16 e_μ16 ?_
  refine z_iconst (v := (0 : Int32)) C0 dX8_takeFrom_82 (by decide) ?_
  refine z_istore_n (lo1 := [(2, .int (0 : Int32)), (0, .ref (zb g + a0)), (1, .ref (zb g + a1))]) C0 dX8_takeFrom_83 rfl (by decide) rfl ?_
  refine z_sub (lo1 := [(0, .ref (zb g + a0)), (1, .ref (zb g + a1)), (2, .int (0 : Int32))]) [1, 2, 0] rfl ?_
  obtain ⟨μ25, e_μ25, h⟩ := zbd_of h
  refine r_X8_takeFrom_L84 C0 a0 a1 hT0 hT1 zFU (0 : Int32) μ16 μ25 e_μ25 ?_
  have h := Option.some.inj h
  obtain rfl := h
  exact z_vret C0 rfl dX8_takeFrom_111
def f_X8_has (a0 : Nat) (v1 : Int32) (v2 : Int32) (μ : zM) : Option (Int32) :=
  zbd (zbd (if v1 < 0 then
        some false
      else
        if (5 : Int32) ≤ v1 then
          some false
        else
          if v2 < 0 then
            some false
          else
            if (2 : Int32) ≤ v2 then
              some false
            else
              zg (zin v1 5) <|
              if (μ (a0 + 2) (v1.toNatClampNeg)) ≤ v2 then
                some false
              else
                some true) fun b8 =>
    if b8 = true then
      some (1 : Int32)
    else
      some (0 : Int32)) fun x10 =>
  zg (z01 x10) <|
  some x10
set_option maxHeartbeats 4000000 in
set_option maxRecDepth 100000 in
theorem r_X8_has {l : Launch} {g : zL} (a0 : Nat) (v1 : Int32) (v2 : Int32) (μ : zM) (hT0 : zT zNN zσ1 a0 8) {rv : Int32} (h : f_X8_has a0 v1 v2 μ = some rv) : zMet l g yX8_has cX8_has 3 (some (.boolean)) 0 0 0 zNN zNN zσ1 zσ1 [.ref (zb g + a0), .int v1, .int v2] μ (some (.int rv)) μ := by
  refine zMet.of (by decide +kernel) (Nat.le_of_ble_eq_true rfl) ?_
  intro p e s m args below meth c C0
  refine z_loc (lo1 := [(0, .ref (zb g + a0)), (1, .int v1), (2, .int v2)]) rfl ?_
  unfold f_X8_has at h
  refine z_iload_n C0 dX8_has_0 rfl 1 rfl ?_
  obtain ⟨x10, e_x10, h⟩ := zbd_of h
  refine z_join μ 33 [] [.int x10] ?_ (fun k_J9 => ?_)
  · obtain ⟨g11, h⟩ := zg_of h
    have h := Option.some.inj h
    obtain rfl := h
    exact z_zret C0 rfl g11 dX8_has_33
  · have h := e_x10
    obtain ⟨b8, e_b8, h⟩ := zbd_of h
    refine z_joinb b8 μ 28 32 [(0, .ref (zb g + a0)), (1, .int v1), (2, .int v2)] [] (fun z14 => ?_) (fun z14 => ?_) (fun k12 k13 => ?_)
    · have h := zif_t z14 h
      refine z_iconst (v := (1 : Int32)) C0 dX8_has_28 (by decide) ?_
      refine z_goto C0 33 dX8_has_29 (by decide) ?_
      refine z_sub (lo1 := []) [] rfl ?_
      obtain rfl := (Option.some.inj h)
      exact k_J9
    · have h := zif_f (fun q => Bool.noConfusion (z14.symm.trans q)) h
      refine z_iconst (v := (0 : Int32)) C0 dX8_has_32 (by decide) ?_
      refine z_sub (lo1 := []) [] rfl ?_
      obtain rfl := (Option.some.inj h)
      exact k_J9
    · have h := e_b8
      refine z_if_lt C0 32 dX8_has_1 (by decide) (fun c1 => ?_) (fun c1 => ?_)
      · have h := zif_t c1 h
        exact k13 (Option.some.inj h).symm
      · have h := zif_f c1 h
        refine z_iload_n C0 dX8_has_4 rfl 1 rfl ?_
        refine z_iconst (v := (5 : Int32)) C0 dX8_has_5 (by decide) ?_
        refine z_icmp_ge C0 32 dX8_has_6 (by decide) (fun c2 => ?_) (fun c2 => ?_)
        · have h := zif_t c2 h
          exact k13 (Option.some.inj h).symm
        · have h := zif_f c2 h
          refine z_iload_n C0 dX8_has_9 rfl 2 rfl ?_
          refine z_if_lt C0 32 dX8_has_10 (by decide) (fun c3 => ?_) (fun c3 => ?_)
          · have h := zif_t c3 h
            exact k13 (Option.some.inj h).symm
          · have h := zif_f c3 h
            refine z_iload_n C0 dX8_has_13 rfl 2 rfl ?_
            refine z_iconst (v := (2 : Int32)) C0 dX8_has_14 (by decide) ?_
            refine z_icmp_ge C0 32 dX8_has_15 (by decide) (fun c4 => ?_) (fun c4 => ?_)
            · have h := zif_t c4 h
              exact k13 (Option.some.inj h).symm
            · have h := zif_f c4 h
              refine z_iload_n C0 dX8_has_18 rfl 2 rfl ?_
              refine z_aload_n C0 dX8_has_19 rfl 0 rfl ?_
              refine z_getr C0 hT0 kf_8_19 zr_8_4 zx_8 (zs_8_4 hT0).1 dX8_has_20 ?_
              refine z_iload_n C0 dX8_has_23 rfl 1 rfl ?_
              obtain ⟨g6, h⟩ := zg_of h
              refine z_iald C0 (zs_8_4 hT0).2 g6 rfl dX8_has_24 ?_
              refine z_icmp_ge C0 32 dX8_has_25 (by decide) (fun c7 => ?_) (fun c7 => ?_)
              · have h := zif_t c7 h
                exact k13 (Option.some.inj h).symm
              · have h := zif_f c7 h
                exact k12 (Option.some.inj h).symm
def f_X8_lakeAt (a0 : Nat) (v1 : Int32) (μ : zM) : Option (Option Nat) :=
  zbd (f_X8_has a0 (0 : Int32) v1 μ) fun r1 =>
  zbd (if r1 = 0 then
      some none
    else
      zg (zin v1 2) <|
      some (some (a0 + 5 + 15 * v1.toNatClampNeg))) fun q5 =>
  some q5
set_option maxHeartbeats 4000000 in
set_option maxRecDepth 100000 in
theorem r_X8_lakeAt {l : Launch} {g : zL} (a0 : Nat) (v1 : Int32) (μ : zM) (hT0 : zT zNN zσ1 a0 8) {rv : Option Nat} (h : f_X8_lakeAt a0 v1 μ = some rv) : zMet l g yX8_lakeAt cX8_lakeAt 2 (some (.object "GraveRegatta$Lake")) 1 0 0 zNN zNN zσ1 zσ1 [.ref (zb g + a0), .int v1] μ (some (zopt (zb g) rv)) μ := by
  refine zMet.of (by decide +kernel) (Nat.le_of_ble_eq_true rfl) ?_
  intro p e s m args below meth c C0
  refine z_loc (lo1 := [(0, .ref (zb g + a0)), (1, .int v1)]) rfl ?_
  unfold f_X8_lakeAt at h
  refine z_aload_n C0 dX8_lakeAt_0 rfl 0 rfl ?_
  refine z_iconst (v := (0 : Int32)) C0 dX8_lakeAt_1 (by decide) ?_
  refine z_iload_n C0 dX8_lakeAt_2 rfl 1 rfl ?_
  obtain ⟨r1, e_r1, h⟩ := zbd_of h
  refine z_callV (As := [.int (0 : Int32), .int v1]) (rest := []) C0 rfl kc_X8_has km_RX8_47 (r_X8_has (l := l) (g := g) a0 (0 : Int32) v1 μ hT0 e_r1) hT0.1 hT0.2.2.1 rfl (by decide) rfl (Nat.le_of_ble_eq_true rfl) (Nat.le_of_ble_eq_true rfl) (Nat.le_of_ble_eq_true rfl) (Nat.le_of_ble_eq_true rfl) (Nat.le_refl _) rfl rfl dX8_lakeAt_3 ?_
  obtain ⟨q5, e_q5, h⟩ := zbd_of h
  refine z_join μ 19 [] [zopt (zb g) q5] ?_ (fun k_J3 => ?_)
  · have h := Option.some.inj h
    obtain rfl := h
    exact z_aret (v := zopt (zb g) q5) C0 rfl (zopt_or _ _) dX8_lakeAt_19
  · have h := e_q5
    refine z_if_eq C0 18 dX8_lakeAt_6 (by decide) (fun c2 => ?_) (fun c2 => ?_)
    · have h := zif_t c2 h
      refine z_anull C0 dX8_lakeAt_18 ?_
      refine z_sub (lo1 := []) [] rfl ?_
      obtain rfl := (Option.some.inj h)
      exact k_J3
    · have h := zif_f c2 h
      refine z_aload_n C0 dX8_lakeAt_9 rfl 0 rfl ?_
      refine z_getr C0 hT0 kf_8_24 zr_8_5 zx_8 (zs_8_5 hT0).1 dX8_lakeAt_10 ?_
      refine z_iload_n C0 dX8_lakeAt_13 rfl 1 rfl ?_
      obtain ⟨g4, h⟩ := zg_of h
      refine z_aald C0 (zs_8_5 hT0).2 (by decide) (by decide) g4 (ze_8_5 hT0 g4).1 (ze_8_5 hT0 g4).2.1 dX8_lakeAt_14 ?_
      refine z_goto C0 19 dX8_lakeAt_15 (by decide) ?_
      refine z_sub (lo1 := []) [] rfl ?_
      obtain rfl := (Option.some.inj h)
      exact k_J3
def f_X8_pageAt (a0 : Nat) (v1 : Int32) (v2 : Int32) (μ : zM) : Option (Option Nat) :=
  zbd (f_X8_has a0 v1 v2 μ) fun r1 =>
  zbd (if r1 = 0 then
      some none
    else
      zg (zin ((v1 * (2 : Int32)) + v2) 10) <|
      some (some (a0 + 35 + 2 * ((v1 * (2 : Int32)) + v2).toNatClampNeg))) fun q5 =>
  some q5
set_option maxHeartbeats 4000000 in
set_option maxRecDepth 100000 in
theorem r_X8_pageAt {l : Launch} {g : zL} (a0 : Nat) (v1 : Int32) (v2 : Int32) (μ : zM) (hT0 : zT zNN zσ1 a0 8) {rv : Option Nat} (h : f_X8_pageAt a0 v1 v2 μ = some rv) : zMet l g yX8_pageAt cX8_pageAt 3 (some (.object "GraveRegatta$Rows")) 1 0 0 zNN zNN zσ1 zσ1 [.ref (zb g + a0), .int v1, .int v2] μ (some (zopt (zb g) rv)) μ := by
  refine zMet.of (by decide +kernel) (Nat.le_of_ble_eq_true rfl) ?_
  intro p e s m args below meth c C0
  refine z_loc (lo1 := [(0, .ref (zb g + a0)), (1, .int v1), (2, .int v2)]) rfl ?_
  unfold f_X8_pageAt at h
  refine z_aload_n C0 dX8_pageAt_0 rfl 0 rfl ?_
  refine z_iload_n C0 dX8_pageAt_1 rfl 1 rfl ?_
  refine z_iload_n C0 dX8_pageAt_2 rfl 2 rfl ?_
  obtain ⟨r1, e_r1, h⟩ := zbd_of h
  refine z_callV (As := [.int v1, .int v2]) (rest := []) C0 rfl kc_X8_has km_RX8_47 (r_X8_has (l := l) (g := g) a0 v1 v2 μ hT0 e_r1) hT0.1 hT0.2.2.1 rfl (by decide) rfl (Nat.le_of_ble_eq_true rfl) (Nat.le_of_ble_eq_true rfl) (Nat.le_of_ble_eq_true rfl) (Nat.le_of_ble_eq_true rfl) (Nat.le_refl _) rfl rfl dX8_pageAt_3 ?_
  obtain ⟨q5, e_q5, h⟩ := zbd_of h
  refine z_join μ 23 [] [zopt (zb g) q5] ?_ (fun k_J3 => ?_)
  · have h := Option.some.inj h
    obtain rfl := h
    exact z_aret (v := zopt (zb g) q5) C0 rfl (zopt_or _ _) dX8_pageAt_23
  · have h := e_q5
    refine z_if_eq C0 22 dX8_pageAt_6 (by decide) (fun c2 => ?_) (fun c2 => ?_)
    · have h := zif_t c2 h
      refine z_anull C0 dX8_pageAt_22 ?_
      refine z_sub (lo1 := []) [] rfl ?_
      obtain rfl := (Option.some.inj h)
      exact k_J3
    · have h := zif_f c2 h
      refine z_aload_n C0 dX8_pageAt_9 rfl 0 rfl ?_
      refine z_getr C0 hT0 kf_8_30 zr_8_6 zx_8 (zs_8_6 hT0).1 dX8_pageAt_10 ?_
      refine z_iload_n C0 dX8_pageAt_13 rfl 1 rfl ?_
      refine z_iconst (v := (2 : Int32)) C0 dX8_pageAt_14 (by decide) ?_
      refine z_imul C0 dX8_pageAt_15 ?_
      refine z_iload_n C0 dX8_pageAt_16 rfl 2 rfl ?_
      refine z_iadd C0 dX8_pageAt_17 ?_
      obtain ⟨g4, h⟩ := zg_of h
      refine z_aald C0 (zs_8_6 hT0).2 (by decide) (by decide) g4 (ze_8_6 hT0 g4).1 (ze_8_6 hT0 g4).2.1 dX8_pageAt_18 ?_
      refine z_goto C0 23 dX8_pageAt_19 (by decide) ?_
      refine z_sub (lo1 := []) [] rfl ?_
      obtain rfl := (Option.some.inj h)
      exact k_J3
def f_X8_append_L3 (a0 : Nat) (v1 : Int32) : Nat → Int32 → zM → Option (zM)
  | 0, _, _ => none
  | n + 1, y2, μ3 =>
    if (¬ (y2 < 0)) ∧ (¬ ((600 : Int32) ≤ (μ3 a0 1))) then
      zg (zin (μ3 a0 1) 600) <|
      zl (zup μ3 (a0 + 1) ((μ3 a0 1).toNatClampNeg) ((zushr v1 y2) &&& (255 : Int32))) fun μ7 =>
      zl (zup μ7 a0 1 ((μ7 a0 1) + (1 : Int32))) fun μ8 =>
      zl (y2 + (-8 : Int32)) fun x9 =>
      f_X8_append_L3 a0 v1 n x9 μ8
    else
      some μ3
def f_X8_append (a0 : Nat) (v1 : Int32) (μ : zM) : Option (zM) :=
  zbd (f_X8_append_L3 a0 v1 zFU (24 : Int32) μ) fun μ10 =>
  some μ10
set_option maxHeartbeats 4000000 in
set_option maxRecDepth 100000 in
theorem r_X8_append_L3 {l : Launch} {g : zL} {p : Program} {e : Env} {s : State} {m : MethodId} {args : Array Value} {below : List Frame} {meth : Method} {c : Code} {Q : State → Prop} (C0 : zC p s m args meth c g cX8_append yX8_append 3 none) (a0 : Nat) (v1 : Int32) (hU1 : zT zNN zσ1 a0 8) : ∀ (n : Nat) (y2 : Int32) (μ3 : zM) (μ10 : zM), f_X8_append_L3 a0 v1 n y2 μ3 = some μ10 → Z p l e (zrm 0 0 0) s m args below meth c g Q 3 zNN 0 0 zσ1 μ10 49 [] [] → Z p l e (zrm 0 0 0) s m args below meth c g Q 3 zNN 0 0 zσ1 μ3 3 [(0, .ref (zb g + a0)), (1, .int v1), (2, .int y2)] [] := by
  intro n
  induction n with
  | zero =>
    intro y2 μ3 μ10 h kx
    rw [f_X8_append_L3] at h
    cases h
  | succ n ih =>
    intro y2 μ3 μ10 h kx
    rw [f_X8_append_L3] at h
    refine z_iload_n C0 dX8_append_3 rfl 2 rfl ?_
    by_cases hc11 : (¬ (y2 < 0)) ∧ (¬ ((600 : Int32) ≤ (μ3 a0 1)))
    · have h := zif_t hc11 h
      refine z_join μ3 17 [(0, .ref (zb g + a0)), (1, .int v1), (2, .int y2)] [] ?_ (fun k12 => ?_)
      · refine z_aload_n C0 dX8_append_17 rfl 0 rfl ?_
        refine z_getr C0 hU1 kf_8_11 zr_8_0 zx_8 (zs_8_0 hU1).1 dX8_append_18 ?_
        refine z_aload_n C0 dX8_append_21 rfl 0 rfl ?_
        refine z_geti C0 hU1.1 hU1.2.2.1 kf_8_44 zr_8_1 dX8_append_22 ?_
        refine z_iload_n C0 dX8_append_25 rfl 1 rfl ?_
        refine z_iload_n C0 dX8_append_26 rfl 2 rfl ?_
        refine z_iushr C0 dX8_append_27 ?_
        refine z_sipush (v := (255 : Int32)) C0 dX8_append_28 (by decide) ?_
        refine z_iand C0 dX8_append_31 ?_
        obtain ⟨g6, h⟩ := zg_of h
        obtain ⟨μ7, e_μ7, h⟩ := zl_of h
        refine z_iast C0 (zs_8_0 hU1).2 g6 rfl e_μ7 dX8_append_32 ?_
        refine z_aload_n C0 dX8_append_33 rfl 0 rfl ?_
        refine z_dup C0 dX8_append_34 rfl ?_
        refine z_geti C0 hU1.1 hU1.2.2.1 kf_8_44 zr_8_1 dX8_append_35 ?_
        refine z_iconst (v := (1 : Int32)) C0 dX8_append_38 (by decide) ?_
        refine z_iadd C0 dX8_append_39 ?_
        obtain ⟨μ8, e_μ8, h⟩ := zl_of h
        refine z_puti C0 hU1.1 hU1.2.2.1 kf_8_44 zp_8_1 zr_8_1 e_μ8 dX8_append_40 ?_
        obtain ⟨x9, e_x9, h⟩ := zl_of h
        refine z_iinc (lo1 := [(2, .int x9), (0, .ref (zb g + a0)), (1, .int v1)]) C0 dX8_append_43 2 rfl (by decide) e_x9.symm (by decide) rfl ?_
        refine z_goto C0 3 dX8_append_46 (by decide) ?_
        refine z_sub (lo1 := [(0, .ref (zb g + a0)), (1, .int v1), (2, .int x9)]) [1, 2, 0] rfl ?_
        exact ih _ _ _ h kx
      · refine z_if_lt C0 49 dX8_append_4 (by decide) (fun c4 => ?_) (fun c4 => ?_)
        · exact absurd hc11 (fun q => q.1 c4)
        · refine z_aload_n C0 dX8_append_7 rfl 0 rfl ?_
          refine z_geti C0 hU1.1 hU1.2.2.1 kf_8_44 zr_8_1 dX8_append_8 ?_
          refine z_sipush (v := (600 : Int32)) C0 dX8_append_11 (by decide) ?_
          refine z_icmp_ge C0 49 dX8_append_14 (by decide) (fun c5 => ?_) (fun c5 => ?_)
          · exact absurd hc11 (fun q => (fun q => q c5) q.2)
          · exact k12
    · have h := zif_f hc11 h
      refine z_join μ3 49 [(0, .ref (zb g + a0)), (1, .int v1), (2, .int y2)] [] ?_ (fun k13 => ?_)
      · refine z_sub (lo1 := []) [] rfl ?_
        obtain rfl := (Option.some.inj h)
        exact kx
      · refine z_if_lt C0 49 dX8_append_4 (by decide) (fun c4 => ?_) (fun c4 => ?_)
        · exact k13
        · refine z_aload_n C0 dX8_append_7 rfl 0 rfl ?_
          refine z_geti C0 hU1.1 hU1.2.2.1 kf_8_44 zr_8_1 dX8_append_8 ?_
          refine z_sipush (v := (600 : Int32)) C0 dX8_append_11 (by decide) ?_
          refine z_icmp_ge C0 49 dX8_append_14 (by decide) (fun c5 => ?_) (fun c5 => ?_)
          · exact k13
          · exact absurd ⟨c4, c5⟩ hc11
set_option maxHeartbeats 4000000 in
set_option maxRecDepth 100000 in
theorem r_X8_append {l : Launch} {g : zL} (a0 : Nat) (v1 : Int32) (μ : zM) (hT0 : zT zNN zσ1 a0 8) {μr : zM} (h : f_X8_append a0 v1 μ = some μr) : zMet l g yX8_append cX8_append 3 none 0 0 0 zNN zNN zσ1 zσ1 [.ref (zb g + a0), .int v1] μ none μr := by
  refine zMet.of (by decide +kernel) (Nat.le_of_ble_eq_true rfl) ?_
  intro p e s m args below meth c C0
  refine z_loc (lo1 := [(0, .ref (zb g + a0)), (1, .int v1)]) rfl ?_
  unfold f_X8_append at h
  refine z_bipush (v := (24 : Int32)) C0 dX8_append_0 (by decide) ?_
  refine z_istore_n (lo1 := [(2, .int (24 : Int32)), (0, .ref (zb g + a0)), (1, .int v1)]) C0 dX8_append_2 rfl (by decide) rfl ?_
  refine z_sub (lo1 := [(0, .ref (zb g + a0)), (1, .int v1), (2, .int (24 : Int32))]) [1, 2, 0] rfl ?_
  obtain ⟨μ10, e_μ10, h⟩ := zbd_of h
  refine r_X8_append_L3 C0 a0 v1 hT0 zFU (24 : Int32) μ μ10 e_μ10 ?_
  have h := Option.some.inj h
  obtain rfl := h
  exact z_vret C0 rfl dX8_append_49
def f_X8_slotFor (a0 : Nat) (v1 : Int32) (v2 : Int32) (μ : zM) : Option (Int32) :=
  if (¬ (v1 < 0)) ∧ (v1 < (5 : Int32)) then
    if ¬ v2 = (-1 : Int32) then
      zbd (f_X8_has a0 v1 v2 μ) fun r20 =>
      zl (if r20 = 0 then
          (-1 : Int32)
        else
          v2) fun x23 =>
      some x23
    else
      zg (zin v1 5) <|
      zl (if (2 : Int32) ≤ (μ (a0 + 2) (v1.toNatClampNeg)) then
          (-1 : Int32)
        else
          (μ (a0 + 2) (v1.toNatClampNeg))) fun x27 =>
      some x27
  else
    some (-1 : Int32)
set_option maxHeartbeats 4000000 in
set_option maxRecDepth 100000 in
theorem r_X8_slotFor {l : Launch} {g : zL} (a0 : Nat) (v1 : Int32) (v2 : Int32) (μ : zM) (hT0 : zT zNN zσ1 a0 8) {rv : Int32} (h : f_X8_slotFor a0 v1 v2 μ = some rv) : zMet l g yX8_slotFor cX8_slotFor 3 (some (.int)) 1 0 0 zNN zNN zσ1 zσ1 [.ref (zb g + a0), .int v1, .int v2] μ (some (.int rv)) μ := by
  refine zMet.of (by decide +kernel) (Nat.le_of_ble_eq_true rfl) ?_
  intro p e s m args below meth c C0
  refine z_loc (lo1 := [(0, .ref (zb g + a0)), (1, .int v1), (2, .int v2)]) rfl ?_
  unfold f_X8_slotFor at h
  refine z_iload_n C0 dX8_slotFor_0 rfl 1 rfl ?_
  by_cases hc28 : (¬ (v1 < 0)) ∧ (v1 < (5 : Int32))
  · have h := zif_t hc28 h
    refine z_join μ 11 [(0, .ref (zb g + a0)), (1, .int v1), (2, .int v2)] [] ?_ (fun k29 => ?_)
    · refine z_iload_n C0 dX8_slotFor_11 rfl 2 rfl ?_
      refine z_iconst (v := (-1 : Int32)) C0 dX8_slotFor_12 (by decide) ?_
      refine z_icmp_ne C0 37 dX8_slotFor_13 (by decide) (fun c11 => ?_) (fun c11 => ?_)
      · have h := zif_t c11 h
        refine z_aload_n C0 dX8_slotFor_37 rfl 0 rfl ?_
        refine z_iload_n C0 dX8_slotFor_38 rfl 1 rfl ?_
        refine z_iload_n C0 dX8_slotFor_39 rfl 2 rfl ?_
        obtain ⟨r20, e_r20, h⟩ := zbd_of h
        refine z_callV (As := [.int v1, .int v2]) (rest := []) C0 rfl kc_X8_has km_RX8_47 (r_X8_has (l := l) (g := g) a0 v1 v2 μ hT0 e_r20) hT0.1 hT0.2.2.1 rfl (by decide) rfl (Nat.le_of_ble_eq_true rfl) (Nat.le_of_ble_eq_true rfl) (Nat.le_of_ble_eq_true rfl) (Nat.le_of_ble_eq_true rfl) (Nat.le_refl _) rfl rfl dX8_slotFor_40 ?_
        obtain ⟨x23, e_x23, h⟩ := zl_of h
        refine z_join μ 51 [] [.int x23] ?_ (fun k_J22 => ?_)
        · have h := Option.some.inj h
          obtain rfl := h
          exact z_iret C0 rfl dX8_slotFor_51
        · have h := e_x23.symm
          refine z_if_eq C0 50 dX8_slotFor_43 (by decide) (fun c21 => ?_) (fun c21 => ?_)
          · have h := zif_t c21 h
            refine z_iconst (v := (-1 : Int32)) C0 dX8_slotFor_50 (by decide) ?_
            refine z_sub (lo1 := []) [] rfl ?_
            obtain rfl := h
            exact k_J22
          · have h := zif_f c21 h
            refine z_iload_n C0 dX8_slotFor_46 rfl 2 rfl ?_
            refine z_goto C0 51 dX8_slotFor_47 (by decide) ?_
            refine z_sub (lo1 := []) [] rfl ?_
            obtain rfl := h
            exact k_J22
      · have h := zif_f (fun q => q c11) h
        refine z_aload_n C0 dX8_slotFor_16 rfl 0 rfl ?_
        refine z_getr C0 hT0 kf_8_19 zr_8_4 zx_8 (zs_8_4 hT0).1 dX8_slotFor_17 ?_
        refine z_iload_n C0 dX8_slotFor_20 rfl 1 rfl ?_
        obtain ⟨g24, h⟩ := zg_of h
        refine z_iald C0 (zs_8_4 hT0).2 g24 rfl dX8_slotFor_21 ?_
        refine z_iconst (v := (2 : Int32)) C0 dX8_slotFor_22 (by decide) ?_
        obtain ⟨x27, e_x27, h⟩ := zl_of h
        refine z_join μ 36 [] [.int x27] ?_ (fun k_J26 => ?_)
        · have h := Option.some.inj h
          obtain rfl := h
          exact z_iret C0 rfl dX8_slotFor_36
        · have h := e_x27.symm
          refine z_icmp_ge C0 35 dX8_slotFor_23 (by decide) (fun c25 => ?_) (fun c25 => ?_)
          · have h := zif_t c25 h
            refine z_iconst (v := (-1 : Int32)) C0 dX8_slotFor_35 (by decide) ?_
            refine z_sub (lo1 := []) [] rfl ?_
            obtain rfl := h
            exact k_J26
          · have h := zif_f c25 h
            refine z_aload_n C0 dX8_slotFor_26 rfl 0 rfl ?_
            refine z_getr C0 hT0 kf_8_19 zr_8_4 zx_8 (zs_8_4 hT0).1 dX8_slotFor_27 ?_
            refine z_iload_n C0 dX8_slotFor_30 rfl 1 rfl ?_
            refine z_iald C0 (zs_8_4 hT0).2 g24 rfl dX8_slotFor_31 ?_
            refine z_goto C0 36 dX8_slotFor_32 (by decide) ?_
            refine z_sub (lo1 := []) [] rfl ?_
            obtain rfl := h
            exact k_J26
    · refine z_if_lt C0 9 dX8_slotFor_1 (by decide) (fun c1 => ?_) (fun c1 => ?_)
      · exact absurd hc28 (fun q => q.1 c1)
      · refine z_iload_n C0 dX8_slotFor_4 rfl 1 rfl ?_
        refine z_iconst (v := (5 : Int32)) C0 dX8_slotFor_5 (by decide) ?_
        refine z_icmp_lt C0 11 dX8_slotFor_6 (by decide) (fun c10 => ?_) (fun c10 => ?_)
        · exact k29
        · exact absurd hc28 (fun q => c10 q.2)
  · have h := zif_f hc28 h
    refine z_join μ 9 [(0, .ref (zb g + a0)), (1, .int v1), (2, .int v2)] [] ?_ (fun k30 => ?_)
    · refine z_iconst (v := (-1 : Int32)) C0 dX8_slotFor_9 (by decide) ?_
      have h := Option.some.inj h
      obtain rfl := h
      exact z_iret C0 rfl dX8_slotFor_10
    · refine z_if_lt C0 9 dX8_slotFor_1 (by decide) (fun c1 => ?_) (fun c1 => ?_)
      · exact k30
      · refine z_iload_n C0 dX8_slotFor_4 rfl 1 rfl ?_
        refine z_iconst (v := (5 : Int32)) C0 dX8_slotFor_5 (by decide) ?_
        refine z_icmp_lt C0 11 dX8_slotFor_6 (by decide) (fun c10 => ?_) (fun c10 => ?_)
        · exact absurd ⟨c1, c10⟩ hc28
        · exact k30
def f_X8_take (a0 : Nat) (v1 : Int32) (v2 : Int32) (a3 : Nat) (μ : zM) : Option (zM) :=
  if (¬ (v1 < 0)) ∧ ((¬ ((5 : Int32) ≤ v1)) ∧ ((¬ (v2 < 0)) ∧ (v2 < (2 : Int32)))) then
    zbd (if ¬ v1 = 0 then
        zg (zin ((v1 * (2 : Int32)) + v2) 10) <|
        zg (zin v1 5) <|
        zbd (f_X6_takeFrom (a0 + 35 + 2 * ((v1 * (2 : Int32)) + v2).toNatClampNeg) (a3 + 19 + 2 * v1.toNatClampNeg) μ) fun μ13 =>
        some μ13
      else
        zg (zin v2 2) <|
        zbd (f_X1_takeFrom (a0 + 5 + 15 * v2.toNatClampNeg) (a3 + 1) μ) fun μ15 =>
        some μ15) fun μ16 =>
    zg (zin v1 5) <|
    zl (zup μ16 (a0 + 2) (v1.toNatClampNeg) (zmax (μ16 (a0 + 2) (v1.toNatClampNeg)) (v2 + (1 : Int32)))) fun μ18 =>
    some μ18
  else
    some μ
set_option maxHeartbeats 4000000 in
set_option maxRecDepth 100000 in
theorem r_X8_take {l : Launch} {g : zL} (a0 : Nat) (v1 : Int32) (v2 : Int32) (a3 : Nat) (μ : zM) (hT0 : zT zNN zσ1 a0 8) (hT3 : zT zNN zσ1 a3 5) {μr : zM} (h : f_X8_take a0 v1 v2 a3 μ = some μr) : zMet l g yX8_take cX8_take 4 none 3 0 0 zNN zNN zσ1 zσ1 [.ref (zb g + a0), .int v1, .int v2, .ref (zb g + a3)] μ none μr := by
  refine zMet.of (by decide +kernel) (Nat.le_of_ble_eq_true rfl) ?_
  intro p e s m args below meth c C0
  refine z_loc (lo1 := [(0, .ref (zb g + a0)), (1, .int v1), (2, .int v2), (3, .ref (zb g + a3))]) rfl ?_
  unfold f_X8_take at h
  refine z_iload_n C0 dX8_take_0 rfl 1 rfl ?_
  by_cases hc19 : (¬ (v1 < 0)) ∧ ((¬ ((5 : Int32) ≤ v1)) ∧ ((¬ (v2 < 0)) ∧ (v2 < (2 : Int32))))
  · have h := zif_t hc19 h
    refine z_join μ 19 [(0, .ref (zb g + a0)), (1, .int v1), (2, .int v2), (3, .ref (zb g + a3))] [] ?_ (fun k20 => ?_)
    · refine z_iload_n C0 dX8_take_19 rfl 1 rfl ?_
      obtain ⟨μ16, e_μ16, h⟩ := zbd_of h
      refine z_join μ16 58 [(0, .ref (zb g + a0)), (1, .int v1), (2, .int v2)] [] ?_ (fun k_J10 => ?_)
      · refine z_aload_n C0 dX8_take_58 rfl 0 rfl ?_
        refine z_getr C0 hT0 kf_8_19 zr_8_4 zx_8 (zs_8_4 hT0).1 dX8_take_59 ?_
        refine z_iload_n C0 dX8_take_62 rfl 1 rfl ?_
        refine z_aload_n C0 dX8_take_63 rfl 0 rfl ?_
        refine z_getr C0 hT0 kf_8_19 zr_8_4 zx_8 (zs_8_4 hT0).1 dX8_take_64 ?_
        refine z_iload_n C0 dX8_take_67 rfl 1 rfl ?_
        obtain ⟨g17, h⟩ := zg_of h
        refine z_iald C0 (zs_8_4 hT0).2 g17 rfl dX8_take_68 ?_
        refine z_iload_n C0 dX8_take_69 rfl 2 rfl ?_
        refine z_iconst (v := (1 : Int32)) C0 dX8_take_70 (by decide) ?_
        refine z_iadd C0 dX8_take_71 ?_
        refine z_mmax C0 rfl kM_RX8_63 kM_max (Nat.le_of_ble_eq_true rfl) (Nat.zero_le _) (Nat.zero_le _) dX8_take_72 ?_
        obtain ⟨μ18, e_μ18, h⟩ := zl_of h
        refine z_iast C0 (zs_8_4 hT0).2 g17 rfl e_μ18 dX8_take_75 ?_
        have h := Option.some.inj h
        obtain rfl := h
        exact z_vret C0 rfl dX8_take_76
      · have h := e_μ16
        refine z_if_ne C0 39 dX8_take_20 (by decide) (fun c9 => ?_) (fun c9 => ?_)
        · have h := zif_t c9 h
          refine z_aload_n C0 dX8_take_39 rfl 0 rfl ?_
          refine z_getr C0 hT0 kf_8_30 zr_8_6 zx_8 (zs_8_6 hT0).1 dX8_take_40 ?_
          refine z_iload_n C0 dX8_take_43 rfl 1 rfl ?_
          refine z_iconst (v := (2 : Int32)) C0 dX8_take_44 (by decide) ?_
          refine z_imul C0 dX8_take_45 ?_
          refine z_iload_n C0 dX8_take_46 rfl 2 rfl ?_
          refine z_iadd C0 dX8_take_47 ?_
          obtain ⟨g11, h⟩ := zg_of h
          refine z_aald C0 (zs_8_6 hT0).2 (by decide) (by decide) g11 (ze_8_6 hT0 g11).1 (ze_8_6 hT0 g11).2.1 dX8_take_48 ?_
          refine z_aload_n C0 dX8_take_49 rfl 3 rfl ?_
          refine z_getr C0 hT3 kf_8_59 zr_5_1 zx_5 (zs_5_1 hT3).1 dX8_take_50 ?_
          refine z_iload_n C0 dX8_take_53 rfl 1 rfl ?_
          obtain ⟨g12, h⟩ := zg_of h
          refine z_aald C0 (zs_5_1 hT3).2 (by decide) (by decide) g12 (ze_5_1 hT3 g12).1 (ze_5_1 hT3 g12).2.1 dX8_take_54 ?_
          obtain ⟨μ13, e_μ13, h⟩ := zbd_of h
          refine z_callV (As := [.ref (zb g + (a3 + 19 + 2 * v1.toNatClampNeg))]) (rest := []) C0 rfl kc_X6_takeFrom km_RX8_60 (r_X6_takeFrom (l := l) (g := g) (a0 + 35 + 2 * ((v1 * (2 : Int32)) + v2).toNatClampNeg) (a3 + 19 + 2 * v1.toNatClampNeg) μ (ze_8_6 hT0 g11).2.2 (ze_5_1 hT3 g12).2.2 e_μ13) (ze_8_6 hT0 g11).2.2.1 (ze_8_6 hT0 g11).2.2.2.2.1 rfl (by decide) rfl (Nat.le_of_ble_eq_true rfl) (Nat.le_of_ble_eq_true rfl) (Nat.le_of_ble_eq_true rfl) (Nat.le_of_ble_eq_true rfl) (Nat.le_refl _) rfl rfl dX8_take_55 ?_
          refine z_sub (lo1 := [(0, .ref (zb g + a0)), (1, .int v1), (2, .int v2)]) [0, 1, 2] rfl ?_
          obtain rfl := (Option.some.inj h)
          exact k_J10
        · have h := zif_f (fun q => q c9) h
          refine z_aload_n C0 dX8_take_23 rfl 0 rfl ?_
          refine z_getr C0 hT0 kf_8_24 zr_8_5 zx_8 (zs_8_5 hT0).1 dX8_take_24 ?_
          refine z_iload_n C0 dX8_take_27 rfl 2 rfl ?_
          obtain ⟨g14, h⟩ := zg_of h
          refine z_aald C0 (zs_8_5 hT0).2 (by decide) (by decide) g14 (ze_8_5 hT0 g14).1 (ze_8_5 hT0 g14).2.1 dX8_take_28 ?_
          refine z_aload_n C0 dX8_take_29 rfl 3 rfl ?_
          refine z_getr C0 hT3 kf_8_51 zr_5_0 zx_5 (zs_5_0 hT3).1 dX8_take_30 ?_
          obtain ⟨μ15, e_μ15, h⟩ := zbd_of h
          refine z_callV (As := [.ref (zb g + (a3 + 1))]) (rest := []) C0 rfl kc_X1_takeFrom km_RX8_55 (r_X1_takeFrom (l := l) (g := g) (a0 + 5 + 15 * v2.toNatClampNeg) (a3 + 1) μ (ze_8_5 hT0 g14).2.2 (zs_5_0 hT3).2 e_μ15) (ze_8_5 hT0 g14).2.2.1 (ze_8_5 hT0 g14).2.2.2.2.1 rfl (by decide) rfl (Nat.le_of_ble_eq_true rfl) (Nat.le_of_ble_eq_true rfl) (Nat.le_of_ble_eq_true rfl) (Nat.le_of_ble_eq_true rfl) (Nat.le_refl _) rfl rfl dX8_take_33 ?_
          refine z_goto C0 58 dX8_take_36 (by decide) ?_
          refine z_sub (lo1 := [(0, .ref (zb g + a0)), (1, .int v1), (2, .int v2)]) [0, 1, 2] rfl ?_
          obtain rfl := (Option.some.inj h)
          exact k_J10
    · refine z_if_lt C0 18 dX8_take_1 (by decide) (fun c1 => ?_) (fun c1 => ?_)
      · exact absurd hc19 (fun q => q.1 c1)
      · refine z_iload_n C0 dX8_take_4 rfl 1 rfl ?_
        refine z_iconst (v := (5 : Int32)) C0 dX8_take_5 (by decide) ?_
        refine z_icmp_ge C0 18 dX8_take_6 (by decide) (fun c6 => ?_) (fun c6 => ?_)
        · exact absurd hc19 (fun q => (fun q => q.1 c6) q.2)
        · refine z_iload_n C0 dX8_take_9 rfl 2 rfl ?_
          refine z_if_lt C0 18 dX8_take_10 (by decide) (fun c7 => ?_) (fun c7 => ?_)
          · exact absurd hc19 (fun q => (fun q => (fun q => q.1 c7) q.2) q.2)
          · refine z_iload_n C0 dX8_take_13 rfl 2 rfl ?_
            refine z_iconst (v := (2 : Int32)) C0 dX8_take_14 (by decide) ?_
            refine z_icmp_lt C0 19 dX8_take_15 (by decide) (fun c8 => ?_) (fun c8 => ?_)
            · exact k20
            · exact absurd hc19 (fun q => (fun q => (fun q => c8 q.2) q.2) q.2)
  · have h := zif_f hc19 h
    refine z_join μ 18 [(0, .ref (zb g + a0)), (1, .int v1), (2, .int v2), (3, .ref (zb g + a3))] [] ?_ (fun k21 => ?_)
    · have h := Option.some.inj h
      obtain rfl := h
      exact z_vret C0 rfl dX8_take_18
    · refine z_if_lt C0 18 dX8_take_1 (by decide) (fun c1 => ?_) (fun c1 => ?_)
      · exact k21
      · refine z_iload_n C0 dX8_take_4 rfl 1 rfl ?_
        refine z_iconst (v := (5 : Int32)) C0 dX8_take_5 (by decide) ?_
        refine z_icmp_ge C0 18 dX8_take_6 (by decide) (fun c6 => ?_) (fun c6 => ?_)
        · exact k21
        · refine z_iload_n C0 dX8_take_9 rfl 2 rfl ?_
          refine z_if_lt C0 18 dX8_take_10 (by decide) (fun c7 => ?_) (fun c7 => ?_)
          · exact k21
          · refine z_iload_n C0 dX8_take_13 rfl 2 rfl ?_
            refine z_iconst (v := (2 : Int32)) C0 dX8_take_14 (by decide) ?_
            refine z_icmp_lt C0 19 dX8_take_15 (by decide) (fun c8 => ?_) (fun c8 => ?_)
            · exact absurd ⟨c1, ⟨c6, ⟨c7, c8⟩⟩⟩ hc19
            · exact k21
